theorem s_X10_within {g : Gs} {ad : Nat → Nat} {M : Mem} {x0 x1 x2 : Int} (r0 : R32 x0) (r1 : R32 x1) (r2 : R32 x2)  : Sp (wM g ad) yX10_within cX10_within 3 (some .boolean) 1 [vI x0, vI x1, vI x2] M (some (vI (b2i (x1 ≤ x0 ∧ x0 ≤ x2)))) M := by
  intro l hl
  refine ct_of hl mi_X10_within.2.2.2 (Nat.le_of_ble_eq_true rfl) (fun X _ C Y => ?_)
  show E _ X 0 0 M 0 [(0, vI x0), (1, vI x1), (2, vI x2)] []
  refine e_wf (fun hw => ?_)
  refine B_X10_within_0 r0 r1 r2 (Nat.le_refl _) (Nat.le_refl _) C Y ?_
  exact ⟨fun c => dt_nb (by omega), fun c => ⟨fun c2 => dt_nb (by omega), fun c2 => dt_b (by omega)⟩⟩
theorem s_X10_refused {g : Gs} {ad : Nat → Nat} {M : Mem} {x1 : Int} (r1 : R32 x1)  : Sp (wM g ad) yX10_refused cX10_refused 2 (some .boolean) 1 [.ref (ad 0), vI x1] M (some (vI (b2i (0 < x1)))) (up M 20 0 x1) := by
  intro l hl
  refine ct_of hl mi_X10_refused.2.2.2 (Nat.le_of_ble_eq_true rfl) (fun X _ C Y => ?_)
  show E _ X 0 0 M 0 [(0, .ref (ad 0)), (1, vI x1)] []
  refine e_wf (fun hw => ?_)
  refine B_X10_refused_0 r1 (Nat.le_refl _) (Nat.le_refl _) C Y ?_
  exact ⟨fun c => dt_nb (by omega), fun c => dt_b (by omega)⟩
theorem s_X10_at {g : Gs} {ad : Nat → Nat} {M : Mem} {x0 x1 x2 : Int} (r0 : R32 x0) (r1 : R32 x1) (r2 : R32 x2) (h : (0 ≤ x0 ∧ x0 ≤ 40) ∧ (0 ≤ x1 ∧ x1 ≤ 1) ∧ 0 ≤ x2 ∧ x2 ≤ 1000) : Sp (wM g ad) yX10_at cX10_at 3 (some .int) 1 [vI x0, vI x1, vI x2] M (some (vI (8 * x0 + 4 * x1 + x2))) M := by
  intro l hl
  refine ct_of hl mi_X10_at.2.2.2 (Nat.le_of_ble_eq_true rfl) (fun X _ C Y => ?_)
  show E _ X 0 0 M 0 [(0, vI x0), (1, vI x1), (2, vI x2)] []
  refine e_wf (fun hw => ?_)
  refine B_X10_at_0 r0 r1 r2 (Nat.le_refl _) (Nat.le_refl _) C Y ?_
  exact ⟨by omega, dt_r⟩
theorem s_X10_optionsOf {g : Gs} {ad : Nat → Nat} {M : Mem} {x1 x2 : Int} (r1 : R32 x1) (r2 : R32 x2) (h : (0 ≤ x1 ∧ x1 < 40) ∧ 0 ≤ x2 ∧ x2 ≤ 1) : Sp (wM g ad) yX10_optionsOf cX10_optionsOf 3 (some .int) 1 [.ref (ad 0), vI x1, vI x2] M (some (vI (M 3 (2 * x1 + x2)))) M := by
  intro l hl
  refine ct_of hl mi_X10_optionsOf.2.2.2 (Nat.le_of_ble_eq_true rfl) (fun X _ C Y => ?_)
  show E _ X 0 0 M 0 [(0, .ref (ad 0)), (1, vI x1), (2, vI x2)] []
  refine e_wf (fun hw => ?_)
  refine B_X10_optionsOf_0 r1 r2 (Nat.le_refl _) (Nat.le_refl _) C Y ?_
  exact ⟨by omega, dt_r⟩
theorem s_X10_sample {g : Gs} {ad : Nat → Nat} {M : Mem} {x1 x2 x3 : Int} (r1 : R32 x1) (r2 : R32 x2) (r3 : R32 x3) (h : (0 ≤ x1 ∧ x1 < 40) ∧ (0 ≤ x2 ∧ x2 ≤ 1) ∧ 0 ≤ x3 ∧ x3 < 7200) : Sp (wM g ad) yX10_sample cX10_sample 4 (some .int) 1 [.ref (ad 0), vI x1, vI x2, vI x3] M (some (vI (M 15 (7200 * (2 * x1 + x2) + x3)))) M := by
  intro l hl
  refine ct_of hl mi_X10_sample.2.2.2 (Nat.le_of_ble_eq_true rfl) (fun X _ C Y => ?_)
  show E _ X 0 0 M 0 [(0, .ref (ad 0)), (1, vI x1), (2, vI x2), (3, vI x3)] []
  refine e_wf (fun hw => ?_)
  refine B_X10_sample_0 r1 r2 r3 (Nat.le_refl _) (Nat.le_refl _) C Y ?_
  exact ⟨by omega, dt_r⟩
theorem s_X10_put {g : Gs} {ad : Nat → Nat} {M : Mem} {x1 x2 x3 x4 : Int} (r1 : R32 x1) (r2 : R32 x2) (r3 : R32 x3) (r4 : R32 x4) (h : (0 ≤ x1 ∧ x1 < 40) ∧ (0 ≤ x2 ∧ x2 ≤ 1) ∧ 0 ≤ x3 ∧ x3 < 7200) : Sp (wM g ad) yX10_put cX10_put 5 none 1 [.ref (ad 0), vI x1, vI x2, vI x3, vI x4] M none (up M 15 (7200 * (2 * x1 + x2) + x3) x4) := by
  intro l hl
  refine ct_of hl mi_X10_put.2.2.2 (Nat.le_of_ble_eq_true rfl) (fun X _ C Y => ?_)
  show E _ X 0 0 M 0 [(0, .ref (ad 0)), (1, vI x1), (2, vI x2), (3, vI x3), (4, vI x4)] []
  refine e_wf (fun hw => ?_)
  refine B_X10_put_0 r1 r2 r3 r4 (Nat.le_refl _) (Nat.le_refl _) C Y ?_
  exact ⟨by omega, dt_r⟩
theorem s_X10_is {g : Gs} {ad : Nat → Nat} {M : Mem} {x1 x2 : Int} (r1 : R32 x1) (r2 : R32 x2) (h : (0 ≤ x1 ∧ x1 < 40) ∧ 0 ≤ x2 ∧ x2 < 40) : Sp (wM g ad) yX10_is cX10_is 3 (some .boolean) 1 [.ref (ad 0), vI x1, vI x2] M (some (vI (M 12 (40 * x1 + x2)))) M := by
  intro l hl
  refine ct_of hl mi_X10_is.2.2.2 (Nat.le_of_ble_eq_true rfl) (fun X _ C Y => ?_)
  show E _ X 0 0 M 0 [(0, .ref (ad 0)), (1, vI x1), (2, vI x2)] []
  refine e_wf (fun hw => ?_)
  refine B_X10_is_0 r1 r2 (Nat.le_refl _) (Nat.le_refl _) C Y ?_
  exact ⟨by omega, dt_r⟩

theorem s_X10_isGame {g : Gs} {ad : Nat → Nat} {M : Mem} {x1 : Int} (r1 : R32 x1) (h : R32 (M 0 0 - 1)) : Sp (wM g ad) yX10_isGame cX10_isGame 2 (some .boolean) 2 [.ref (ad 0), vI x1] M (some (vI (b2i (0 ≤ x1 ∧ x1 < M 0 0)))) M := by
  intro l hl
  refine ct_of hl mi_X10_isGame.2.2.2 (Nat.le_of_ble_eq_true rfl) (fun X _ C Y => ?_)
  show E _ X 0 0 M 0 [(0, .ref (ad 0)), (1, vI x1)] []
  refine e_wf (fun hw => ?_)
  refine B_X10_isGame_0 r1 (Nat.le_refl _) (Nat.le_refl _) C Y ?_
  refine ⟨h, _, (s_X10_within r1 (by decide) h).toI, fun z M9 h9 => ?_⟩
  obtain ⟨rfl, rfl⟩ := h9
  refine ⟨b2i_01 _, dt_i ?_ rfl⟩
  unfold b2i
  have e : (0 ≤ x1 ∧ x1 ≤ M 0 0 - 1) ↔ (0 ≤ x1 ∧ x1 < M 0 0) := by omega
  simp only [e]
theorem s_X10_isPart {g : Gs} {ad : Nat → Nat} {M : Mem} {x1 : Int} (r1 : R32 x1) (h : R32 (M 16 0 - 1)) : Sp (wM g ad) yX10_isPart cX10_isPart 2 (some .boolean) 2 [.ref (ad 0), vI x1] M (some (vI (b2i (0 ≤ x1 ∧ x1 < M 16 0)))) M := by
  intro l hl
  refine ct_of hl mi_X10_isPart.2.2.2 (Nat.le_of_ble_eq_true rfl) (fun X _ C Y => ?_)
  show E _ X 0 0 M 0 [(0, .ref (ad 0)), (1, vI x1)] []
  refine e_wf (fun hw => ?_)
  refine B_X10_isPart_0 r1 (Nat.le_refl _) (Nat.le_refl _) C Y ?_
  refine ⟨h, _, (s_X10_within r1 (by decide) h).toI, fun z M9 h9 => ?_⟩
  obtain ⟨rfl, rfl⟩ := h9
  refine ⟨b2i_01 _, dt_i ?_ rfl⟩
  unfold b2i
  have e : (0 ≤ x1 ∧ x1 ≤ M 16 0 - 1) ↔ (0 ≤ x1 ∧ x1 < M 16 0) := by omega
  simp only [e]
theorem s_X10_isLetter {g : Gs} {ad : Nat → Nat} {M : Mem} {x0 : Int} (r0 : R32 x0)  : Sp (wM g ad) yX10_isLetter cX10_isLetter 1 (some .boolean) 2 [vI x0] M (some (vI (b2i (97 ≤ x0 ∧ x0 ≤ 122)))) M := by
  intro l hl
  refine ct_of hl mi_X10_isLetter.2.2.2 (Nat.le_of_ble_eq_true rfl) (fun X _ C Y => ?_)
  show E _ X 0 0 M 0 [(0, vI x0)] []
  refine e_wf (fun hw => ?_)
  refine B_X10_isLetter_0 r0 (Nat.le_refl _) (Nat.le_refl _) C Y ?_
  exact ⟨_, (s_X10_within r0 (by decide) (by decide)).toI, fun z M9 h => by obtain ⟨rfl, rfl⟩ := h; exact ⟨b2i_01 _, dt_r⟩⟩
theorem s_X10_isDigit {g : Gs} {ad : Nat → Nat} {M : Mem} {x0 : Int} (r0 : R32 x0)  : Sp (wM g ad) yX10_isDigit cX10_isDigit 1 (some .boolean) 2 [vI x0] M (some (vI (b2i (48 ≤ x0 ∧ x0 ≤ 57)))) M := by
  intro l hl
  refine ct_of hl mi_X10_isDigit.2.2.2 (Nat.le_of_ble_eq_true rfl) (fun X _ C Y => ?_)
  show E _ X 0 0 M 0 [(0, vI x0)] []
  refine e_wf (fun hw => ?_)
  refine B_X10_isDigit_0 r0 (Nat.le_refl _) (Nat.le_refl _) C Y ?_
  exact ⟨_, (s_X10_within r0 (by decide) (by decide)).toI, fun z M9 h => by obtain ⟨rfl, rfl⟩ := h; exact ⟨b2i_01 _, dt_r⟩⟩
theorem s_X10_optionOf {g : Gs} {ad : Nat → Nat} {M : Mem} {x1 x2 x3 : Int} (r1 : R32 x1) (r2 : R32 x2) (r3 : R32 x3) (h : (0 ≤ x1 ∧ x1 < 40) ∧ (0 ≤ x2 ∧ x2 ≤ 1) ∧ 0 ≤ x3 ∧ x3 < 4) : Sp (wM g ad) yX10_optionOf cX10_optionOf 4 (some .int) 2 [.ref (ad 0), vI x1, vI x2, vI x3] M (some (vI (M 4 (8 * x1 + 4 * x2 + x3)))) M := by
  intro l hl
  refine ct_of hl mi_X10_optionOf.2.2.2 (Nat.le_of_ble_eq_true rfl) (fun X _ C Y => ?_)
  show E _ X 0 0 M 0 [(0, .ref (ad 0)), (1, vI x1), (2, vI x2), (3, vI x3)] []
  refine e_wf (fun hw => ?_)
  refine B_X10_optionOf_0 r1 r2 r3 (Nat.le_refl _) (Nat.le_refl _) C Y ?_
  exact ⟨_, (s_X10_at r1 r2 r3 ⟨⟨by omega, by omega⟩, ⟨by omega, by omega⟩, by omega, by omega⟩).toI, fun z M9 h => by obtain ⟨rfl, rfl⟩ := h; exact ⟨⟨by omega, by omega⟩, by omega, dt_r⟩⟩
theorem s_X10_isAtLeastNumber {g : Gs} {ad : Nat → Nat} {M : Mem} {x1 x2 : Int} (r1 : R32 x1) (r2 : R32 x2) (h : 0 ≤ x1 ∧ x1 < 40) : Sp (wM g ad) yX10_isAtLeastNumber cX10_isAtLeastNumber 3 (some .boolean) 1 [.ref (ad 0), vI x1, vI x2] M (some (vI (b2i (geM M x1 x2)))) M := by
  intro l hl
  refine ct_of hl mi_X10_isAtLeastNumber.2.2.2 (Nat.le_of_ble_eq_true rfl) (fun X _ C Y => ?_)
  show E _ X 0 0 M 0 [(0, .ref (ad 0)), (1, vI x1), (2, vI x2)] []
  refine e_wf (fun hw => ?_)
  refine B_X10_isAtLeastNumber_0 r1 r2 (Nat.le_refl _) (Nat.le_refl _) C Y ?_
  exact ⟨h, fun c => dt_b (Or.inl c), fun c => ⟨fun c2 => dt_nb (by omega), fun c2 => ⟨fun c3 => dt_nb (by omega), fun c3 => dt_b (Or.inr ⟨c2, c3⟩)⟩⟩⟩
theorem s_X10_isAtMostNumber {g : Gs} {ad : Nat → Nat} {M : Mem} {x1 x2 : Int} (r1 : R32 x1) (r2 : R32 x2) (h : 0 ≤ x1 ∧ x1 < 40) : Sp (wM g ad) yX10_isAtMostNumber cX10_isAtMostNumber 3 (some .boolean) 1 [.ref (ad 0), vI x1, vI x2] M (some (vI (b2i (leM M x1 x2)))) M := by
  intro l hl
  refine ct_of hl mi_X10_isAtMostNumber.2.2.2 (Nat.le_of_ble_eq_true rfl) (fun X _ C Y => ?_)
  show E _ X 0 0 M 0 [(0, .ref (ad 0)), (1, vI x1), (2, vI x2)] []
  refine e_wf (fun hw => ?_)
  refine B_X10_isAtMostNumber_0 r1 r2 (Nat.le_refl _) (Nat.le_refl _) C Y ?_
  exact ⟨h, fun c => dt_b (Or.inl c), fun c => ⟨fun c2 => dt_nb (by omega), fun c2 => ⟨fun c3 => dt_nb (by omega), fun c3 => dt_b (Or.inr ⟨c2, c3⟩)⟩⟩⟩
theorem s_X10_isBetween {g : Gs} {ad : Nat → Nat} {M : Mem} {x1 : Int} (r1 : R32 x1)  : Sp (wM g ad) yX10_isBetween cX10_isBetween 2 (some .boolean) 1 [.ref (ad 0), vI x1] M (some (vI (b2i (betM M x1)))) M := by
  intro l hl
  refine ct_of hl mi_X10_isBetween.2.2.2 (Nat.le_of_ble_eq_true rfl) (fun X _ C Y => ?_)
  show E _ X 0 0 M 0 [(0, .ref (ad 0)), (1, vI x1)] []
  refine e_wf (fun hw => ?_)
  refine B_X10_isBetween_0 r1 (Nat.le_refl _) (Nat.le_refl _) C Y ?_
  have h23 : (M 32 0 < x1 ∨ (x1 = M 32 0 ∧ M 33 0 ≠ 0)) → E (wM g ad) X 0 0 M 23 [(0, .ref (ad 0)), (1, vI x1)] [] := by
    intro hl
    refine B_X10_isBetween_23 r1 (Nat.le_refl _) (Nat.le_refl _) C Y ?_
    exact ⟨fun c => dt_b ⟨hl, Or.inl c⟩, fun c => ⟨fun c2 => dt_nb (by omega), fun c2 => ⟨fun c3 => dt_nb (by omega), fun c3 => dt_b ⟨hl, Or.inr ⟨c2, c3⟩⟩⟩⟩⟩
  exact ⟨fun c => h23 (Or.inl c), fun c => ⟨fun c2 => dt_nb (by omega), fun c2 => ⟨fun c3 => dt_nb (by omega), fun c3 => h23 (Or.inr ⟨c2, c3⟩)⟩⟩⟩
