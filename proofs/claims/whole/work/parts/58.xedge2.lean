/-! ===== the class: findEdge ===== -/
theorem fe_L {g : Gs} {ad : Nat → Nat} {sk : (Nat → Nat) × (Nat → Nat)} {X : Cx} {PQ : Option Value → Mem → Prop} {PX : String → Mem → Prop} (C : OkB (wC g ad sk) X cX5_findEdge RX5 10 2 0 0) (Y : OkR (wC g ad sk) X none 0 0 PQ PX) {G X9 : Mem} {z : Int} (hz : 0 ≤ z ∧ z < 40) (h : EdP G X9 z) (kk : ∀ e t, RunL G z (G 3 (2 * z + 0)).toNat e t → PQ none (up (up X9 8 0 (1 * e)) 9 0 t)) : ∀ (m j : Nat) (e t : Int), (j : Int) + m = G 3 (2 * z + 0) → RunL G z j e t → E (wC g ad sk) X 0 0 (X9) 15 [(0, .ref (ad 1)), (1, .ref (ad (44 + 6 * (Int.toNat z)))), (2, vI (0)), (3, vI (1)), (4, vI (e)), (5, vI (t)), (6, vI (j))] [] := by
  have c41 := (h.2.1 0 (by omega) (by omega)).1
  have hb := opS_r h.1 (s := 0) (by omega)
  intro m
  induction m with
  | zero =>
    intro j e t hj hr
    have er : R32 e ∧ (t = 0 ∨ t = 1) := ⟨by rcases hr.2 with q | q <;> omega, hr.1⟩
    have ej : (G 3 (2 * z + 0)).toNat = j := by omega
    rw [ej] at kk
    exact B_X5_findEdge_15 (by omega) (by omega) (by omega) (by omega) (by omega) (by omega) (Nat.le_refl _) (Nat.le_refl _) C Y ⟨by omega, fun c => ⟨⟨by omega, er.2⟩, kk e t hr⟩, fun c => absurd c (by omega)⟩
  | succ m ih =>
    intro j e t hj hr
    have er : R32 e ∧ (t = 0 ∨ t = 1) := ⟨by rcases hr.2 with q | q <;> omega, hr.1⟩
    have eo := ed_opt h (s := 0) (i := j) (by omega) (by omega)
    have ob := hb.2.2 j (by omega) (by omega)
    obtain ⟨⟨-, s2, -, s4⟩, b8, -⟩ := h.2.2 0 (by omega) (by omega) j (by omega) (by omega)
    have a43 : X9 43 (40 * (1 - 0) + optAt X9 z 0 j) = G 8 (opt G z 0 j) := by rw [eo]; exact s2
    have a44 : X9 44 (40 * (1 - 0) + optAt X9 z 0 j) = G 9 (opt G z 0 j) := by rw [eo]; exact s4
    have nx : ∀ e' t' : Int, (e' = if e < G 8 (opt G z 0 j) then G 8 (opt G z 0 j) else e) → (t' = if e < G 8 (opt G z 0 j) then (if G 9 (opt G z 0 j) = 0 then 1 else 0) else if G 8 (opt G z 0 j) = e then (if t ≠ 0 ∧ G 9 (opt G z 0 j) = 0 then 1 else 0) else t) → E (wC g ad sk) X 0 0 (X9) 15 [(0, .ref (ad 1)), (1, .ref (ad (44 + 6 * (Int.toNat z)))), (2, vI (0)), (3, vI (1)), (4, vI (e')), (5, vI (t')), (6, vI (((j : Int) + 1)))] [] := by
      intro e' t' he ht
      have := ih (j + 1) e' t' (by omega) (runL_s hr rfl rfl b8 e' t' he ht)
      exact this
    refine B_X5_findEdge_15 (by omega) (by omega) (by omega) (by omega) (by omega) (by omega) (Nat.le_refl _) (Nat.le_refl _) C Y ⟨by omega, fun c => absurd c (by omega), fun c => ⟨by rw [a43, eo]; omega, fun c1 => ⟨fun c2 => ⟨by omega, ?_⟩, fun c2 => ⟨fun c3 => ⟨by omega, ?_⟩, fun c3 => ⟨fun c4 => ⟨by omega, ?_⟩, fun c4 => ⟨by omega, ?_⟩⟩⟩⟩, fun c1 => ⟨fun c2 => ⟨by omega, ?_⟩, fun c2 => ⟨by omega, ?_⟩⟩⟩⟩
    all_goals rw [a43] at c1
    · rw [a43] at c2
      refine nx e t ?_ ?_
      · rw [if_neg (by omega)]
      · rw [if_neg (by omega), if_neg (by omega)]
    · rw [a43] at c2
      refine nx e 0 ?_ ?_
      · rw [if_neg (by omega)]
      · rw [if_neg (by omega), if_pos (by omega), if_neg (by omega)]
    · rw [a43] at c2
      rw [a44] at c4
      refine nx e 0 ?_ ?_
      · rw [if_neg (by omega)]
      · rw [if_neg (by omega), if_pos (by omega), if_neg (by omega)]
    · rw [a43] at c2
      rw [a44] at c4
      refine nx e 1 ?_ ?_
      · rw [if_neg (by omega)]
      · rw [if_neg (by omega), if_pos (by omega), if_pos (by omega)]
    · rw [a44] at c2
      refine nx _ 0 ?_ ?_
      · rw [if_pos (by omega), a43]; omega
      · rw [if_pos (by omega), if_neg c2]
    · rw [a44] at c2
      refine nx _ 1 ?_ ?_
      · rw [if_pos (by omega), a43]; omega
      · rw [if_pos (by omega), if_pos c2]
theorem fe_R {g : Gs} {ad : Nat → Nat} {sk : (Nat → Nat) × (Nat → Nat)} {X : Cx} {PQ : Option Value → Mem → Prop} {PX : String → Mem → Prop} (C : OkB (wC g ad sk) X cX5_findEdge RX5 10 2 0 0) (Y : OkR (wC g ad sk) X none 0 0 PQ PX) {G X9 : Mem} {z : Int} (hz : 0 ≤ z ∧ z < 40) (h : EdP G X9 z) (kk : ∀ e t, RunR G z (G 3 (2 * z + 1)).toNat e t → PQ none (up (up X9 8 1 (-1 * e)) 9 1 t)) : ∀ (m j : Nat) (e t : Int), (j : Int) + m = G 3 (2 * z + 1) → RunR G z j e t → E (wC g ad sk) X 0 0 (X9) 15 [(0, .ref (ad 1)), (1, .ref (ad (44 + 6 * (Int.toNat z)))), (2, vI (1)), (3, vI (-1)), (4, vI (e)), (5, vI (t)), (6, vI (j))] [] := by
  have c41 := (h.2.1 1 (by omega) (by omega)).1
  have hb := opS_r h.1 (s := 1) (by omega)
  intro m
  induction m with
  | zero =>
    intro j e t hj hr
    have er : R32 e ∧ R32 (-1 * e) ∧ (t = 0 ∨ t = 1) := ⟨by rcases hr.2 with q | q <;> omega, by rcases hr.2 with q | q <;> omega, hr.1⟩
    have ej : (G 3 (2 * z + 1)).toNat = j := by omega
    rw [ej] at kk
    exact B_X5_findEdge_15 (by omega) (by omega) (by omega) (by omega) (by omega) (by omega) (Nat.le_refl _) (Nat.le_refl _) C Y ⟨by omega, fun c => ⟨⟨er.2.1, er.2.2⟩, kk e t hr⟩, fun c => absurd c (by omega)⟩
  | succ m ih =>
    intro j e t hj hr
    have er : R32 e ∧ (t = 0 ∨ t = 1) := ⟨by rcases hr.2 with q | q <;> omega, hr.1⟩
    have eo := ed_opt h (s := 1) (i := j) (by omega) (by omega)
    have ob := hb.2.2 j (by omega) (by omega)
    obtain ⟨⟨s1, -, s3, -⟩, -, b10⟩ := h.2.2 1 (by omega) (by omega) j (by omega) (by omega)
    have a43 : X9 43 (40 * (1 - 1) + optAt X9 z 1 j) = G 10 (opt G z 1 j) := by rw [eo]; exact s1
    have a44 : X9 44 (40 * (1 - 1) + optAt X9 z 1 j) = G 11 (opt G z 1 j) := by rw [eo]; exact s3
    have nx : ∀ e' t' : Int, (e' = if e < -G 10 (opt G z 1 j) then -G 10 (opt G z 1 j) else e) → (t' = if e < -G 10 (opt G z 1 j) then (if G 11 (opt G z 1 j) = 0 then 1 else 0) else if -G 10 (opt G z 1 j) = e then (if t ≠ 0 ∧ G 11 (opt G z 1 j) = 0 then 1 else 0) else t) → E (wC g ad sk) X 0 0 (X9) 15 [(0, .ref (ad 1)), (1, .ref (ad (44 + 6 * (Int.toNat z)))), (2, vI (1)), (3, vI (-1)), (4, vI (e')), (5, vI (t')), (6, vI (((j : Int) + 1)))] [] := by
      intro e' t' he ht
      have := ih (j + 1) e' t' (by omega) (runR_s hr rfl rfl b10 e' t' he ht)
      exact this
    refine B_X5_findEdge_15 (by omega) (by omega) (by omega) (by omega) (by omega) (by omega) (Nat.le_refl _) (Nat.le_refl _) C Y ⟨by omega, fun c => absurd c (by omega), fun c => ⟨by rw [a43, eo]; omega, fun c1 => ⟨fun c2 => ⟨by omega, ?_⟩, fun c2 => ⟨fun c3 => ⟨by omega, ?_⟩, fun c3 => ⟨fun c4 => ⟨by omega, ?_⟩, fun c4 => ⟨by omega, ?_⟩⟩⟩⟩, fun c1 => ⟨fun c2 => ⟨by omega, ?_⟩, fun c2 => ⟨by omega, ?_⟩⟩⟩⟩
    all_goals rw [a43] at c1
    · rw [a43] at c2
      refine nx e t ?_ ?_
      · rw [if_neg (by omega)]
      · rw [if_neg (by omega), if_neg (by omega)]
    · rw [a43] at c2
      refine nx e 0 ?_ ?_
      · rw [if_neg (by omega)]
      · rw [if_neg (by omega), if_pos (by omega), if_neg (by omega)]
    · rw [a43] at c2
      rw [a44] at c4
      refine nx e 0 ?_ ?_
      · rw [if_neg (by omega)]
      · rw [if_neg (by omega), if_pos (by omega), if_neg (by omega)]
    · rw [a43] at c2
      rw [a44] at c4
      refine nx e 1 ?_ ?_
      · rw [if_neg (by omega)]
      · rw [if_neg (by omega), if_pos (by omega), if_pos (by omega)]
    · rw [a44] at c2
      refine nx _ 0 ?_ ?_
      · rw [if_pos (by omega), a43]; omega
      · rw [if_pos (by omega), if_neg c2]
    · rw [a44] at c2
      refine nx _ 1 ?_ ?_
      · rw [if_pos (by omega), a43]; omega
      · rw [if_pos (by omega), if_pos c2]
/-- what the class finds on a side: far and in, or the reference's edge -/
def EdX (G X : Mem) (z : Int) : Int → Prop := fun s => (X 9 s = 0 ∨ X 9 s = 1) ∧ (s = 0 → (G 3 (2 * z + 0) = 0 ∧ X 8 0 = -16777216 ∧ X 9 0 = 1) ∨ (1 ≤ G 3 (2 * z + 0) ∧ X 8 0 = (loF G z).1 ∧ X 9 0 = (loF G z).2 ∧ -20480 ≤ X 8 0 ∧ X 8 0 ≤ 20480)) ∧ (s = 1 → (G 3 (2 * z + 1) = 0 ∧ X 8 1 = 16777216 ∧ X 9 1 = 1) ∨ (1 ≤ G 3 (2 * z + 1) ∧ X 8 1 = (upF G z).1 ∧ X 9 1 = (upF G z).2 ∧ -20480 ≤ X 8 1 ∧ X 8 1 ≤ 20480))
theorem x_findEdge {g : Gs} {ad : Nat → Nat} {sk : (Nat → Nat) × (Nat → Nat)} {G M : Mem} {z s : Int} (hz : 0 ≤ z ∧ z < 40) (hs : s = 0 ∨ s = 1) (h : EdP G M z) : SpV (wC g ad sk) yX5_findEdge cX5_findEdge 10 none 2 [.ref (ad 1), .ref (ad (44 + 6 * (Int.toNat z))), vI (s)] (M) (fun N => EdX G N z s ∧ ∀ c i, ¬ ((c = 8 ∨ c = 9) ∧ i = s) → N c i = M c i) := by
  intro l9 hl9
  refine ct_of hl9 mi_X5_findEdge.2.2.2 (Nat.le_of_ble_eq_true rfl) (fun X _ C Y => ?_)
  show E (wC g ad sk) X 0 0 (M) 0 [(0, .ref (ad 1)), (1, .ref (ad (44 + 6 * (Int.toNat z)))), (2, vI (s))] []
  refine e_wf (fun hw => ?_)
  have fr : ∀ e t : Int, ∀ c i, ¬ ((c = 8 ∨ c = 9) ∧ i = s) → up (up M 8 s e) 9 s t c i = M c i := by
    intro e t c i q
    by_cases h9 : c = 9
    · subst h9; rw [up_i (fun k => q ⟨Or.inr rfl, k⟩), up_c (by decide)]
    · by_cases h8 : c = 8
      · subst h8; rw [up_c (by decide), up_i (fun k => q ⟨Or.inl rfl, k⟩)]
      · rw [up_c h9, up_c h8]
  have v8 : ∀ e t : Int, up (up M 8 s e) 9 s t 8 s = e := fun e t => by rw [up_c (by decide), up_s]
  have v9 : ∀ e t : Int, up (up M 8 s e) 9 s t 9 s = t := fun e t => up_s _ _ _ _
  rcases hs with rfl | rfl
  · have c0 := (opS_r h.1 (s := 0) (by omega)).1
    refine B_X5_findEdge_0 (by omega) (by omega) (Nat.le_refl _) (Nat.le_refl _) C Y ?_
    refine fe_L C Y hz h (fun e t hr => ⟨rfl, ⟨?_, fun _ => ?_, fun q => absurd q (by decide)⟩, fr _ _⟩) (G 3 (2 * z + 0)).toNat 0 (-16777216) 1 (by omega) ⟨Or.inr rfl, Or.inl ⟨rfl, rfl, rfl⟩⟩
    · rw [v9]; exact hr.1
    · rw [v8, v9]
      rcases hr.2 with ⟨q1, q2, q3⟩ | ⟨q1, q2, q3, q4⟩
      · exact Or.inl ⟨by omega, by omega, q3⟩
      · exact Or.inr ⟨by omega, by rw [Int.one_mul]; exact q2, q3, by omega, by omega⟩
  · have c0 := (opS_r h.1 (s := 1) (by omega)).1
    refine B_X5_findEdge_0 (by omega) (by omega) (Nat.le_refl _) (Nat.le_refl _) C Y ?_
    refine fe_R C Y hz h (fun e t hr => ⟨rfl, ⟨?_, fun q => absurd q (by decide), fun _ => ?_⟩, fr _ _⟩) (G 3 (2 * z + 1)).toNat 0 (-16777216) 1 (by omega) ⟨Or.inr rfl, Or.inl ⟨rfl, rfl, rfl⟩⟩
    · rw [v9]; exact hr.1
    · rw [v8, v9]
      rcases hr.2 with ⟨q1, q2, q3⟩ | ⟨q1, q2, q3, q4⟩
      · exact Or.inl ⟨by omega, by omega, q3⟩
      · exact Or.inr ⟨by omega, by rw [show -1 * e = -e by omega]; exact q2, q3, by omega, by omega⟩
