/-! ===== plain questions: the reference, the class ===== -/
abbrev kG (M : Mem) (z : Int) : Int := if 0 ≤ z ∧ z < M 0 0 then 0 else 1
abbrev kGS (M : Mem) (z s : Int) : Int := if 0 ≤ z ∧ z < M 0 0 then (if s = 0 ∨ s = 1 then 0 else 2) else 1
theorem ask_i {M : Mem} {k r v : Int} (e : k = 0 → r = v) : Ask M k v (up M 20 0 k 20 0) r (up M 20 0 k) := ⟨up_s _ _ _ _, e, rfl⟩
theorem m_games {g : Gs} {ad : Nat → Nat} {A M : Mem} (h : Jn A M) : SpI (wM g ad) yX10_games cX10_games 1 (some .int) 1 [.ref (ad 0)] (M) (fun r N => Ask M 0 (M 0 0) (N 20 0) r N) := by
  intro l9 hl9
  refine ct_of hl9 mi_X10_games.2.2.2 (Nat.le_of_ble_eq_true rfl) (fun X _ C Y => ?_)
  show E (wM g ad) X 0 0 (M) 0 [(0, .ref (ad 0))] []
  refine e_wf (fun hw => ?_)
  exact B_X10_games_0  (Nat.zero_le _) (Nat.zero_le _) C Y ⟨_, rfl, ask_i (fun _ => rfl)⟩
theorem x_games {g : Gs} {ad : Nat → Nat} {sk : (Nat → Nat) × (Nat → Nat)} {A M : Mem} (h : Jn A M) : SpI (wC g ad sk) yX9_games cX9_games 1 (some .int) 1 [.ref (ad 0)] (A) (fun r B => Res (Ask M 0 (M 0 0)) 0 r B) := by
  intro l9 hl9
  refine ct_of hl9 mi_X9_games.2.2.2 (Nat.le_of_ble_eq_true rfl) (fun X _ C Y => ?_)
  show E (wC g ad sk) X 0 0 (A) 0 [(0, .ref (ad 0))] []
  refine e_wf (fun hw => ?_)
  exact B_X9_games_0  (Nat.zero_le _) (Nat.zero_le _) C Y ⟨_, rfl, res_ask h (fun _ => h.n.1)⟩
theorem m_components {g : Gs} {ad : Nat → Nat} {A M : Mem} (h : Jn A M) : SpI (wM g ad) yX10_components cX10_components 1 (some .int) 1 [.ref (ad 0)] (M) (fun r N => Ask M 0 (M 16 0) (N 20 0) r N) := by
  intro l9 hl9
  refine ct_of hl9 mi_X10_components.2.2.2 (Nat.le_of_ble_eq_true rfl) (fun X _ C Y => ?_)
  show E (wM g ad) X 0 0 (M) 0 [(0, .ref (ad 0))] []
  refine e_wf (fun hw => ?_)
  exact B_X10_components_0  (Nat.zero_le _) (Nat.zero_le _) C Y ⟨_, rfl, ask_i (fun _ => rfl)⟩
theorem x_components {g : Gs} {ad : Nat → Nat} {sk : (Nat → Nat) × (Nat → Nat)} {A M : Mem} (h : Jn A M) : SpI (wC g ad sk) yX9_components cX9_components 1 (some .int) 1 [.ref (ad 0)] (A) (fun r B => Res (Ask M 0 (M 16 0)) 0 r B) := by
  intro l9 hl9
  refine ct_of hl9 mi_X9_components.2.2.2 (Nat.le_of_ble_eq_true rfl) (fun X _ C Y => ?_)
  show E (wC g ad sk) X 0 0 (A) 0 [(0, .ref (ad 0))] []
  refine e_wf (fun hw => ?_)
  exact B_X9_components_0  (Nat.zero_le _) (Nat.zero_le _) C Y ⟨_, rfl, res_ask h (fun _ => h.2.1.2.1)⟩

theorem m_depth {g : Gs} {ad : Nat → Nat} {A M : Mem} {z : Int} (h : Jn A M) (hz : R32 z) : SpI (wM g ad) yX10_depth cX10_depth 2 (some .int) 3 [.ref (ad 0), vI (z)] (M) (fun r N => Ask M (kG M z) (M 5 z) (N 20 0) r N) := by
  intro l9 hl9
  refine ct_of hl9 mi_X10_depth.2.2.2 (Nat.le_of_ble_eq_true rfl) (fun X _ C Y => ?_)
  show E (wM g ad) X 0 0 (M) 0 [(0, .ref (ad 0)), (1, vI (z))] []
  refine e_wf (fun hw => ?_)
  have hn := h.n
  refine B_X10_depth_0 (by omega) (Nat.zero_le _) (Nat.zero_le _) C Y ⟨by omega, fun c => ?_, fun c => ?_⟩
  · refine B_X10_depth_14 (by omega) (by omega) (Nat.zero_le _) (Nat.zero_le _) C Y ⟨fun c1 => absurd c1 (by decide), fun c1 => ⟨_, rfl, ?_⟩⟩
    rw [kG, if_neg c]; exact ask_i (fun q => absurd q (by decide))
  · refine B_X10_depth_14 (by omega) (by omega) (Nat.zero_le _) (Nat.zero_le _) C Y ⟨fun c1 => ⟨by omega, _, rfl, ?_⟩, fun c1 => absurd c1 (by decide)⟩
    rw [kG, if_pos c]; exact ask_i (fun _ => rfl)
theorem x_depth {g : Gs} {ad : Nat → Nat} {sk : (Nat → Nat) × (Nat → Nat)} {A M : Mem} {z : Int} (h : Jn A M) (hz : R32 z) : SpT (wC g ad sk) yX9_depth cX9_depth 2 (some .int) 2 [.ref (ad 0), vI (z)] (A) (fun r B => Res (Ask M (kG M z) (M 5 z)) 0 r B) (fun e B => e = eIO ∧ Res (Ask M (kG M z) (M 5 z)) 1 0 B) := by
  intro l9 hl9
  refine ct_of hl9 mi_X9_depth.2.2.2 (Nat.le_of_ble_eq_true rfl) (fun X _ C Y => ?_)
  show E (wC g ad sk) X 0 0 (A) 0 [(0, .ref (ad 0)), (1, vI (z))] []
  refine e_wf (fun hw => ?_)
  have hn := h.n
  refine B_X9_depth_0 (by omega) (Nat.zero_le _) (Nat.zero_le _) C Y ⟨fun c => ⟨by omega, _, rfl, ?_⟩, fun c => ⟨by omega, rfl, ?_⟩⟩
  · rw [hn.1] at c
    rw [kG, if_pos c]; exact res_ask h (fun _ => (h.g c.1 c.2).2.1.1)
  · rw [hn.1] at c
    rw [kG, if_neg c]; exact res_ask h (fun q => absurd q (by decide))

theorem m_mean {g : Gs} {ad : Nat → Nat} {A M : Mem} {z : Int} (h : Jn A M) (hz : R32 z) : SpI (wM g ad) yX10_mean cX10_mean 2 (some .int) 3 [.ref (ad 0), vI (z)] (M) (fun r N => Ask M (kG M z) (M 13 z) (N 20 0) r N) := by
  intro l9 hl9
  refine ct_of hl9 mi_X10_mean.2.2.2 (Nat.le_of_ble_eq_true rfl) (fun X _ C Y => ?_)
  show E (wM g ad) X 0 0 (M) 0 [(0, .ref (ad 0)), (1, vI (z))] []
  refine e_wf (fun hw => ?_)
  have hn := h.n
  refine B_X10_mean_0 (by omega) (Nat.zero_le _) (Nat.zero_le _) C Y ⟨by omega, fun c => ?_, fun c => ?_⟩
  · refine B_X10_mean_14 (by omega) (by omega) (Nat.zero_le _) (Nat.zero_le _) C Y ⟨fun c1 => absurd c1 (by decide), fun c1 => ⟨_, rfl, ?_⟩⟩
    rw [kG, if_neg c]; exact ask_i (fun q => absurd q (by decide))
  · refine B_X10_mean_14 (by omega) (by omega) (Nat.zero_le _) (Nat.zero_le _) C Y ⟨fun c1 => ⟨by omega, _, rfl, ?_⟩, fun c1 => absurd c1 (by decide)⟩
    rw [kG, if_pos c]; exact ask_i (fun _ => rfl)
theorem x_mean {g : Gs} {ad : Nat → Nat} {sk : (Nat → Nat) × (Nat → Nat)} {A M : Mem} {z : Int} (h : Jn A M) (hz : R32 z) : SpT (wC g ad sk) yX9_mean cX9_mean 2 (some .int) 2 [.ref (ad 0), vI (z)] (A) (fun r B => Res (Ask M (kG M z) (M 13 z)) 0 r B) (fun e B => e = eIO ∧ Res (Ask M (kG M z) (M 13 z)) 1 0 B) := by
  intro l9 hl9
  refine ct_of hl9 mi_X9_mean.2.2.2 (Nat.le_of_ble_eq_true rfl) (fun X _ C Y => ?_)
  show E (wC g ad sk) X 0 0 (A) 0 [(0, .ref (ad 0)), (1, vI (z))] []
  refine e_wf (fun hw => ?_)
  have hn := h.n
  refine B_X9_mean_0 (by omega) (Nat.zero_le _) (Nat.zero_le _) C Y ⟨fun c => ⟨by omega, _, rfl, ?_⟩, fun c => ⟨by omega, rfl, ?_⟩⟩
  · rw [hn.1] at c
    rw [kG, if_pos c]; exact res_ask h (fun _ => (h.g c.1 c.2).2.1.2.2.2.1)
  · rw [hn.1] at c
    rw [kG, if_neg c]; exact res_ask h (fun q => absurd q (by decide))

theorem m_temperature {g : Gs} {ad : Nat → Nat} {A M : Mem} {z : Int} (h : Jn A M) (hz : R32 z) : SpI (wM g ad) yX10_temperature cX10_temperature 2 (some .int) 3 [.ref (ad 0), vI (z)] (M) (fun r N => Ask M (kG M z) (M 14 z) (N 20 0) r N) := by
  intro l9 hl9
  refine ct_of hl9 mi_X10_temperature.2.2.2 (Nat.le_of_ble_eq_true rfl) (fun X _ C Y => ?_)
  show E (wM g ad) X 0 0 (M) 0 [(0, .ref (ad 0)), (1, vI (z))] []
  refine e_wf (fun hw => ?_)
  have hn := h.n
  refine B_X10_temperature_0 (by omega) (Nat.zero_le _) (Nat.zero_le _) C Y ⟨by omega, fun c => ?_, fun c => ?_⟩
  · refine B_X10_temperature_14 (by omega) (by omega) (Nat.zero_le _) (Nat.zero_le _) C Y ⟨fun c1 => absurd c1 (by decide), fun c1 => ⟨_, rfl, ?_⟩⟩
    rw [kG, if_neg c]; exact ask_i (fun q => absurd q (by decide))
  · refine B_X10_temperature_14 (by omega) (by omega) (Nat.zero_le _) (Nat.zero_le _) C Y ⟨fun c1 => ⟨by omega, _, rfl, ?_⟩, fun c1 => absurd c1 (by decide)⟩
    rw [kG, if_pos c]; exact ask_i (fun _ => rfl)
theorem x_temperature {g : Gs} {ad : Nat → Nat} {sk : (Nat → Nat) × (Nat → Nat)} {A M : Mem} {z : Int} (h : Jn A M) (hz : R32 z) : SpT (wC g ad sk) yX9_temperature cX9_temperature 2 (some .int) 2 [.ref (ad 0), vI (z)] (A) (fun r B => Res (Ask M (kG M z) (M 14 z)) 0 r B) (fun e B => e = eIO ∧ Res (Ask M (kG M z) (M 14 z)) 1 0 B) := by
  intro l9 hl9
  refine ct_of hl9 mi_X9_temperature.2.2.2 (Nat.le_of_ble_eq_true rfl) (fun X _ C Y => ?_)
  show E (wC g ad sk) X 0 0 (A) 0 [(0, .ref (ad 0)), (1, vI (z))] []
  refine e_wf (fun hw => ?_)
  have hn := h.n
  refine B_X9_temperature_0 (by omega) (Nat.zero_le _) (Nat.zero_le _) C Y ⟨fun c => ⟨by omega, _, rfl, ?_⟩, fun c => ⟨by omega, rfl, ?_⟩⟩
  · rw [hn.1] at c
    rw [kG, if_pos c]; exact res_ask h (fun _ => (h.g c.1 c.2).2.1.2.2.2.2)
  · rw [hn.1] at c
    rw [kG, if_neg c]; exact res_ask h (fun q => absurd q (by decide))

theorem m_isCold {g : Gs} {ad : Nat → Nat} {A M : Mem} {z : Int} (h : Jn A M) (hz : R32 z) : SpI (wM g ad) yX10_isCold cX10_isCold 2 (some .boolean) 3 [.ref (ad 0), vI (z)] (M) (fun r N => Ask M (kG M z) (M 6 z) (N 20 0) r N) := by
  intro l9 hl9
  refine ct_of hl9 mi_X10_isCold.2.2.2 (Nat.le_of_ble_eq_true rfl) (fun X _ C Y => ?_)
  show E (wM g ad) X 0 0 (M) 0 [(0, .ref (ad 0)), (1, vI (z))] []
  refine e_wf (fun hw => ?_)
  have hn := h.n
  refine B_X10_isCold_0 (by omega) (Nat.zero_le _) (Nat.zero_le _) C Y ⟨by omega, fun c => ?_, fun c => ?_⟩
  · refine B_X10_isCold_14 (by omega) (by omega) (Nat.zero_le _) (Nat.zero_le _) C Y ⟨fun c1 => ⟨_, rfl, ?_⟩, fun c1 => absurd c1 (by decide)⟩
    rw [kG, if_neg c]; exact ask_i (fun q => absurd q (by decide))
  · have h01 := (hn.2.2.2.2.2 z c.1 c.2).2.1.2.1.1
    refine B_X10_isCold_14 (by omega) (by omega) (Nat.zero_le _) (Nat.zero_le _) C Y ⟨fun c1 => absurd c1 (by decide), fun c1 => ⟨by omega, fun c2 => ⟨_, rfl, ?_⟩, fun c2 => ⟨_, rfl, ?_⟩⟩⟩
    · rw [kG, if_pos c]; exact ask_i (fun _ => c2.symm)
    · rw [kG, if_pos c]; exact ask_i (fun _ => by omega)
theorem x_isCold {g : Gs} {ad : Nat → Nat} {sk : (Nat → Nat) × (Nat → Nat)} {A M : Mem} {z : Int} (h : Jn A M) (hz : R32 z) : SpT (wC g ad sk) yX9_isCold cX9_isCold 2 (some .boolean) 2 [.ref (ad 0), vI (z)] (A) (fun r B => Res (Ask M (kG M z) (M 6 z)) 0 r B ∧ (r = 0 ∨ r = 1)) (fun e B => e = eIO ∧ Res (Ask M (kG M z) (M 6 z)) 1 0 B) := by
  intro l9 hl9
  refine ct_of hl9 mi_X9_isCold.2.2.2 (Nat.le_of_ble_eq_true rfl) (fun X _ C Y => ?_)
  show E (wC g ad sk) X 0 0 (A) 0 [(0, .ref (ad 0)), (1, vI (z))] []
  refine e_wf (fun hw => ?_)
  have hn := h.n
  refine B_X9_isCold_0 (by omega) (Nat.zero_le _) (Nat.zero_le _) C Y ⟨fun c => ⟨by omega, _, rfl, ?_⟩, fun c => ⟨by omega, rfl, ?_⟩⟩
  · rw [hn.1] at c
    have e := (h.g c.1 c.2).2.1.2.2.1
    have h01 := (hn.2.2.2.2.2 z c.1 c.2).2.1.2.1.1
    refine ⟨?_, by omega⟩
    rw [kG, if_pos c]; exact res_ask h (fun _ => e)
  · rw [hn.1] at c
    rw [kG, if_neg c]; exact res_ask h (fun q => absurd q (by decide))
abbrev kV (M : Mem) (z : Int) : Int := if 0 ≤ z ∧ z < M 0 0 then (if M 6 z = 0 then 2 else 0) else 1
theorem m_value {g : Gs} {ad : Nat → Nat} {A M : Mem} {z : Int} (h : Jn A M) (hz : R32 z) : SpI (wM g ad) yX10_value cX10_value 2 (some .int) 3 [.ref (ad 0), vI (z)] (M) (fun r N => Ask M (kV M z) (M 7 z) (N 20 0) r N) := by
  intro l9 hl9
  refine ct_of hl9 mi_X10_value.2.2.2 (Nat.le_of_ble_eq_true rfl) (fun X _ C Y => ?_)
  show E (wM g ad) X 0 0 (M) 0 [(0, .ref (ad 0)), (1, vI (z))] []
  refine e_wf (fun hw => ?_)
  have hn := h.n
  refine B_X10_value_0 (by omega) (Nat.zero_le _) (Nat.zero_le _) C Y ⟨by omega, fun c => ⟨by omega, fun c1 => ?_, fun c1 => ?_⟩, fun c => ?_⟩
  · refine B_X10_value_27 (by omega) (by omega) (Nat.zero_le _) (Nat.zero_le _) C Y ⟨fun c2 => ⟨by omega, _, rfl, ?_⟩, fun c2 => absurd c2 (by decide)⟩
    rw [kV, if_pos c, if_neg c1]; exact ask_i (fun _ => rfl)
  · refine B_X10_value_27 (by omega) (by omega) (Nat.zero_le _) (Nat.zero_le _) C Y ⟨fun c2 => absurd c2 (by decide), fun c2 => ⟨_, rfl, ?_⟩⟩
    rw [kV, if_pos c, if_pos c1]; exact ask_i (fun q => absurd q (by decide))
  · refine B_X10_value_27 (by omega) (by omega) (Nat.zero_le _) (Nat.zero_le _) C Y ⟨fun c2 => absurd c2 (by decide), fun c2 => ⟨_, rfl, ?_⟩⟩
    rw [kV, if_neg c]; exact ask_i (fun q => absurd q (by decide))
theorem x_value {g : Gs} {ad : Nat → Nat} {sk : (Nat → Nat) × (Nat → Nat)} {A M : Mem} {z : Int} (h : Jn A M) (hz : R32 z) : SpT (wC g ad sk) yX9_value cX9_value 2 (some .int) 2 [.ref (ad 0), vI (z)] (A) (fun r B => Res (Ask M (kV M z) (M 7 z)) 0 r B) (fun e B => (e = eIO ∧ Res (Ask M (kV M z) (M 7 z)) 1 0 B) ∨ (e = eIS ∧ Res (Ask M (kV M z) (M 7 z)) 2 0 B)) := by
  intro l9 hl9
  refine ct_of hl9 mi_X9_value.2.2.2 (Nat.le_of_ble_eq_true rfl) (fun X _ C Y => ?_)
  show E (wC g ad sk) X 0 0 (A) 0 [(0, .ref (ad 0)), (1, vI (z))] []
  refine e_wf (fun hw => ?_)
  have hn := h.n
  refine B_X9_value_0 (by omega) (Nat.zero_le _) (Nat.zero_le _) C Y ⟨fun c => ⟨by omega, fun c1 => ⟨_, rfl, ?_⟩, fun c1 => ⟨by omega, Or.inr ⟨rfl, ?_⟩⟩⟩, fun c => ⟨by omega, Or.inl ⟨rfl, ?_⟩⟩⟩
  · rw [hn.1] at c
    have rg := (h.g c.1 c.2).2.1
    have gg := hn.2.2.2.2.2 z c.1 c.2
    have h01 := gg.2.1.2.1.1
    rw [rg.2.2.1] at c1
    rw [kV, if_pos c, if_neg c1]
    exact res_ask h (fun _ => rg.2.2.2.1.trans (gg.2.2.1 (by omega)).1)
  · rw [hn.1] at c
    rw [(h.g c.1 c.2).2.1.2.2.1] at c1
    rw [kV, if_pos c, if_pos c1]; exact res_ask h (fun q => absurd q (by decide))
  · rw [hn.1] at c
    rw [kV, if_neg c]; exact res_ask h (fun q => absurd q (by decide))
theorem m_needSide {g : Gs} {ad : Nat → Nat} {A M : Mem} {z s : Int} {v : Int} (h : Jn A M) (hz : R32 z) (hs : R32 s) : SpI (wM g ad) yX10_needSide cX10_needSide 3 (some .int) 3 [.ref (ad 0), vI (z), vI (s)] (M) (fun r N => r = kGS M z s ∧ N = M) := by
  intro l9 hl9
  refine ct_of hl9 mi_X10_needSide.2.2.2 (Nat.le_of_ble_eq_true rfl) (fun X _ C Y => ?_)
  show E (wM g ad) X 0 0 (M) 0 [(0, .ref (ad 0)), (1, vI (z)), (2, vI (s))] []
  refine e_wf (fun hw => ?_)
  have hn := h.n
  refine B_X10_needSide_0 (by omega) (by omega) (Nat.zero_le _) (Nat.zero_le _) C Y ⟨by omega, fun c => ⟨fun c1 => ⟨_, rfl, ?_, rfl⟩, fun c1 => ⟨_, rfl, ?_, rfl⟩⟩, fun c => ⟨_, rfl, ?_, rfl⟩⟩
  · rw [kGS, if_pos c, if_pos (by omega)]
  · rw [kGS, if_pos c, if_neg (by omega)]
  · rw [kGS, if_neg c]
theorem kGS_c {M : Mem} {z s : Int} : (kGS M z s = 0 ∧ (0 ≤ z ∧ z < M 0 0) ∧ (s = 0 ∨ s = 1)) ∨ (kGS M z s = 1 ∧ ¬ (0 ≤ z ∧ z < M 0 0)) ∨ (kGS M z s = 2 ∧ (0 ≤ z ∧ z < M 0 0) ∧ ¬ (s = 0 ∨ s = 1)) := by
  unfold kGS
  split
  · split
    · exact Or.inl ⟨rfl, by assumption, by assumption⟩
    · exact Or.inr (Or.inr ⟨rfl, by assumption, by assumption⟩)
  · exact Or.inr (Or.inl ⟨rfl, by assumption⟩)
theorem Jn.ct {A M : Mem} (h : Jn A M) {z s : Int} (hz : 0 ≤ z ∧ z < M 0 0) (hs : s = 0 ∨ s = 1) : A 41 (40 * s + z) = M 3 (2 * z + s) ∧ 0 ≤ M 3 (2 * z + s) ∧ M 3 (2 * z + s) ≤ 4 := by
  have o := opS_r (h.n.2.2.2.2.2 z hz.1 hz.2).1.1 (s := s) (by omega)
  exact ⟨((h.g hz.1 hz.2).2.2.1 s (by omega) (by omega)).1, o.1, o.2.1⟩
theorem m_options {g : Gs} {ad : Nat → Nat} {A M : Mem} {z s : Int} (h : Jn A M) (hz : R32 z) (hs : R32 s) : SpI (wM g ad) yX10_options cX10_options 3 (some .int) 4 [.ref (ad 0), vI (z), vI (s)] (M) (fun r N => Ask M (kGS M z s) (M 3 (2 * z + s)) (N 20 0) r N) := by
  intro l9 hl9
  refine ct_of hl9 mi_X10_options.2.2.2 (Nat.le_of_ble_eq_true rfl) (fun X _ C Y => ?_)
  show E (wM g ad) X 0 0 (M) 0 [(0, .ref (ad 0)), (1, vI (z)), (2, vI (s))] []
  refine e_wf (fun hw => ?_)
  have hn := h.n
  refine B_X10_options_0 (by omega) (by omega) (Nat.zero_le _) (Nat.zero_le _) C Y ⟨_, m_needSide (v := 0) h hz hs, fun r N hN => ?_⟩
  obtain ⟨rfl, rfl⟩ := hN
  rcases kGS_c (M := N) (z := z) (s := s) with ⟨e, c, d⟩ | ⟨e, c⟩ | ⟨e, c, d⟩
  · rw [e]
    exact ⟨by omega, fun _ => ⟨by omega, _, rfl, ask_i (fun _ => rfl)⟩, fun q => absurd q (by decide)⟩
  · rw [e]
    exact ⟨by omega, fun q => absurd (by decide) q, fun _ => ⟨_, rfl, ask_i (fun q => absurd q (by decide))⟩⟩
  · rw [e]
    exact ⟨by omega, fun q => absurd (by decide) q, fun _ => ⟨_, rfl, ask_i (fun q => absurd q (by decide))⟩⟩
theorem x_options {g : Gs} {ad : Nat → Nat} {sk : (Nat → Nat) × (Nat → Nat)} {A M : Mem} {z s : Int} (h : Jn A M) (hz : R32 z) (hs : R32 s) : SpT (wC g ad sk) yX9_options cX9_options 3 (some .int) 2 [.ref (ad 0), vI (z), vI (s)] (A) (fun r B => Res (Ask M (kGS M z s) (M 3 (2 * z + s))) 0 r B) (fun e B => (e = eIO ∧ Res (Ask M (kGS M z s) (M 3 (2 * z + s))) 1 0 B) ∨ (e = eIA ∧ Res (Ask M (kGS M z s) (M 3 (2 * z + s))) 2 0 B)) := by
  intro l9 hl9
  refine ct_of hl9 mi_X9_options.2.2.2 (Nat.le_of_ble_eq_true rfl) (fun X _ C Y => ?_)
  show E (wC g ad sk) X 0 0 (A) 0 [(0, .ref (ad 0)), (1, vI (z)), (2, vI (s))] []
  refine e_wf (fun hw => ?_)
  have hn := h.n
  refine B_X9_options_0 (by omega) (by omega) (Nat.zero_le _) (Nat.zero_le _) C Y ⟨fun c => ⟨fun c1 => ⟨by omega, _, rfl, ?_⟩, fun c1 => ⟨by omega, Or.inr ⟨rfl, ?_⟩⟩⟩, fun c => ⟨by omega, Or.inl ⟨rfl, ?_⟩⟩⟩
  · rw [hn.1] at c
    rw [kGS, if_pos c, if_pos c1]; exact res_ask h (fun _ => (h.ct c c1).1)
  · rw [hn.1] at c
    rw [kGS, if_pos c, if_neg c1]; exact res_ask h (fun q => absurd q (by decide))
  · rw [hn.1] at c
    rw [kGS, if_neg c]; exact res_ask h (fun q => absurd q (by decide))
/-- option i of a side, or NONE -/
abbrev optV (M : Mem) (z s i : Int) : Int := if 0 ≤ i ∧ i < M 3 (2 * z + s) then opt M z s i else -1
theorem Jn.op {A M : Mem} (h : Jn A M) {z s i : Int} (hz : 0 ≤ z ∧ z < M 0 0) (hs : s = 0 ∨ s = 1) : optAt A z s i = optV M z s i := by
  have e := (h.ct hz hs).1
  unfold optAt optV
  rw [e]
  split
  · exact ((h.g hz.1 hz.2).2.2.1 s (by omega) (by omega)).2.1 i (by omega) (by omega)
  · rfl
theorem m_option {g : Gs} {ad : Nat → Nat} {A M : Mem} {z s i : Int} (h : Jn A M) (hz : R32 z) (hs : R32 s) (hi : R32 i) : SpI (wM g ad) yX10_option cX10_option 4 (some .int) 4 [.ref (ad 0), vI (z), vI (s), vI (i)] (M) (fun r N => Ask M (kGS M z s) (optV M z s i) (N 20 0) r N) := by
  intro l9 hl9
  refine ct_of hl9 mi_X10_option.2.2.2 (Nat.le_of_ble_eq_true rfl) (fun X _ C Y => ?_)
  show E (wM g ad) X 0 0 (M) 0 [(0, .ref (ad 0)), (1, vI (z)), (2, vI (s)), (3, vI (i))] []
  refine e_wf (fun hw => ?_)
  have hn := h.n
  refine B_X10_option_0 (by omega) (by omega) (by omega) (Nat.zero_le _) (Nat.zero_le _) C Y ⟨_, m_needSide (v := 0) h hz hs, fun r N hN => ?_⟩
  obtain ⟨rfl, rfl⟩ := hN
  rcases kGS_c (M := N) (z := z) (s := s) with ⟨e, c, d⟩ | ⟨e, c⟩ | ⟨e, c, d⟩
  · have ct := h.ct c d
    rw [e]
    refine ⟨by omega, fun _ => ⟨⟨by omega, by omega⟩, fun q => ⟨_, rfl, ask_i (fun _ => ?_)⟩, fun q => ⟨by omega, _, rfl, ask_i (fun _ => ?_)⟩⟩, fun q => absurd q (by decide)⟩
    · rw [optV, if_neg (by omega)]
    · rw [optV, if_pos (by omega)]
  · rw [e]
    exact ⟨by omega, fun q => absurd (by decide) q, fun _ => ⟨_, rfl, ask_i (fun q => absurd q (by decide))⟩⟩
  · rw [e]
    exact ⟨by omega, fun q => absurd (by decide) q, fun _ => ⟨_, rfl, ask_i (fun q => absurd q (by decide))⟩⟩
theorem x_option {g : Gs} {ad : Nat → Nat} {sk : (Nat → Nat) × (Nat → Nat)} {A M : Mem} {z s i : Int} (h : Jn A M) (hz : R32 z) (hs : R32 s) (hi : R32 i) : SpT (wC g ad sk) yX9_option cX9_option 4 (some .int) 2 [.ref (ad 0), vI (z), vI (s), vI (i)] (A) (fun r B => Res (Ask M (kGS M z s) (optV M z s i)) 0 r B) (fun e B => (e = eIO ∧ Res (Ask M (kGS M z s) (optV M z s i)) 1 0 B) ∨ (e = eIA ∧ Res (Ask M (kGS M z s) (optV M z s i)) 2 0 B)) := by
  intro l9 hl9
  refine ct_of hl9 mi_X9_option.2.2.2 (Nat.le_of_ble_eq_true rfl) (fun X _ C Y => ?_)
  show E (wC g ad sk) X 0 0 (A) 0 [(0, .ref (ad 0)), (1, vI (z)), (2, vI (s)), (3, vI (i))] []
  refine e_wf (fun hw => ?_)
  have hn := h.n
  refine B_X9_option_0 (by omega) (by omega) (by omega) (Nat.zero_le _) (Nat.zero_le _) C Y ⟨fun c => ⟨fun c1 => ⟨⟨by omega, by omega, ?_⟩, _, rfl, ?_⟩, fun c1 => ⟨by omega, Or.inr ⟨rfl, ?_⟩⟩⟩, fun c => ⟨by omega, Or.inl ⟨rfl, ?_⟩⟩⟩
  · rw [hn.1] at c
    have := h.ct c c1; omega
  · rw [hn.1] at c
    rw [kGS, if_pos c, if_pos c1]; exact res_ask h (fun _ => h.op c c1)
  · rw [hn.1] at c
    rw [kGS, if_pos c, if_neg c1]; exact res_ask h (fun q => absurd q (by decide))
  · rw [hn.1] at c
    rw [kGS, if_neg c]; exact res_ask h (fun q => absurd q (by decide))
