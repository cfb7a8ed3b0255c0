/-! ===== the class: takePositive ===== -/
theorem x_eighthsPerPart {g : Gs} {ad : Nat → Nat} {sk : (Nat → Nat) × (Nat → Nat)} {u : Int → Int} {L e : Int} {A : Mem} (h : AtT u L A e) : SpI (wC g ad sk) yX8_eighthsPerPart cX8_eighthsPerPart 1 (some .int) 2 [.ref (ad 5)] (A) (fun r P => r = ppF (dgF u L e) ∧ (0 ≤ r ∧ r ≤ 4) ∧ P = A) := by
  intro l9 hl9
  refine ct_of hl9 mi_X8_eighthsPerPart.2.2.2 (Nat.le_of_ble_eq_true rfl) (fun X _ C Y => ?_)
  show E (wC g ad sk) X 0 0 (A) 0 [(0, .ref (ad 5))] []
  refine e_wf (fun hw => ?_)
  refine B_X8_eighthsPerPart_0  (Nat.zero_le _) (Nat.zero_le _) C Y ⟨_, x_digitsHere h, fun r P hP => ?_⟩
  obtain ⟨e1, e2, e3⟩ := hP
  rw [e3]
  refine ⟨by omega, fun q => ⟨4, rfl, ?_, by omega, rfl⟩, fun q => ⟨2, rfl, ?_, by omega, rfl⟩, fun q => ⟨1, rfl, ?_, by omega, rfl⟩, fun q => ⟨0, rfl, ?_, by omega, rfl⟩⟩
  · rw [← e1, ppF, if_pos q]
  · rw [← e1, ppF, if_neg (by omega), if_pos q]
  · rw [← e1, ppF, if_neg (by omega), if_neg (by omega), if_pos q]
  · rw [← e1, ppF, if_neg q.1, if_neg q.2.1, if_neg q.2.2]
def FT (A N : Mem) : Prop := ∀ c i, c ≠ 28 → c ≠ 29 → c ≠ 30 → c ≠ 31 → N c i = A c i
def PosQ (u : Int → Int) (L e r : Int) (N : Mem) : Prop := (∃ f, posF u L e = .inl f ∧ (0 ≤ f ∧ f ≤ L) ∧ N 31 0 = f) ∨ (∃ e', posF u L e = .inr (r, e') ∧ N 31 0 = -1 ∧ AtT u L N e')
theorem x_takePositive {g : Gs} {ad : Nat → Nat} {sk : (Nat → Nat) × (Nat → Nat)} {u : Int → Int} {L e : Int} {A : Mem} (h : AtT u L A e) (h31 : A 31 0 = -1) : SpI (wC g ad sk) yX8_takePositive cX8_takePositive 4 (some .int) 3 [.ref (ad 5)] (A) (fun r N => (0 ≤ r ∧ r ≤ 800) ∧ FT A N ∧ PosQ u L e r N) := by
  have a5 := h.2.2.1
  have r1 := atT_r (u := u) h.2.1
  have he := h.2.1
  intro l9 hl9
  refine ct_of hl9 mi_X8_takePositive.2.2.2 (Nat.le_of_ble_eq_true rfl) (fun X _ C Y => ?_)
  show E (wC g ad sk) X 0 0 (A) 0 [(0, .ref (ad 5))] []
  refine e_wf (fun hw => ?_)
  refine B_X8_takePositive_0  (Nat.zero_le _) (Nat.zero_le _) C Y ⟨_, x_digitsHere h, fun d P hP => ?_⟩
  obtain ⟨d1, d2, d3⟩ := hP
  rw [d3]
  refine ⟨by omega, fun dn => ⟨_, x_advT h, fun N hN => ?_⟩, fun dn => ⟨0, rfl, by omega, fun c i h1 h2 h3 h4 => up_c h4, Or.inl ⟨stF u L e, by rw [posF, if_pos (by omega)], by omega, by rw [up_s]; exact a5⟩⟩⟩
  obtain ⟨fN, tN⟩ := hN
  have k2 := tN.2.2.2.1
  have n31 : N 31 0 = -1 := (fN 31 0 (by decide) (by decide) (by decide)).trans h31
  have d0 : 0 ≤ d := by
    have : dgF u L e ≠ -1 := by omega
    omega
  refine ⟨fun q => ⟨_, x_advT tN, fun S hS => ?_⟩, fun q => ⟨fun q8 => ⟨by omega, d * 8, rfl, by omega, fun c i h1 h2 h3 h4 => by rw [up_c h4]; exact fN c i h1 h2 h3, Or.inr ⟨enF u L e, ?_, by rw [up_s], tN.fa (fun c i h1 h2 h3 h4 h5 h6 => up_c h6)⟩⟩, fun q8 => ⟨by omega, d * 8, rfl, by omega, fun c i h1 h2 h3 h4 => by rw [up_c h4]; exact fN c i h1 h2 h3, Or.inl ⟨stF u L e, ?_, by omega, by rw [up_s]; exact a5⟩⟩⟩⟩
  · obtain ⟨fS, tS⟩ := hS
    have r3 := atT_r (u := u) tS.2.1
    have e3 := tS.2.1
    have s29 := tS.2.2.1
    refine ⟨_, x_eighthsPerPart tS, fun pp P hP => ?_⟩
    obtain ⟨p1, p2, p3⟩ := hP
    rw [p3]
    have frS : FT A S := fun c i h1 h2 h3 h4 => (fS c i h1 h2 h3).trans (fN c i h1 h2 h3)
    have bad : (ppF (dgF u L (enF u L (enF u L e))) = 0 ∨ 64 < dgF u L e * ppF (dgF u L (enF u L (enF u L e)))) → posF u L e = .inl (stF u L (enF u L (enF u L e))) := fun w => by
      rw [posF, if_neg (by omega), if_neg (by omega), if_pos w]
    have pm : 0 ≤ d * pp ∧ d * pp ≤ 400 := by
      rcases (show pp = 0 ∨ pp = 1 ∨ pp = 2 ∨ pp = 3 ∨ pp = 4 by omega) with w | w | w | w | w <;> rw [w] <;> omega
    refine ⟨by omega, fun q0 => ⟨0, rfl, by omega, fun c i h1 h2 h3 h4 => by rw [up_c h4]; exact frS c i h1 h2 h3 h4, Or.inl ⟨_, bad (Or.inl (by omega)), by omega, by rw [up_s]; exact s29⟩⟩, fun q0 => ⟨by omega, fun q6 => ⟨_, x_advT tS, fun T hT => ⟨d * pp, rfl, by omega, fun c i h1 h2 h3 h4 => (hT.1 c i h1 h2 h3).trans (frS c i h1 h2 h3 h4), Or.inr ⟨enF u L (enF u L (enF u L e)), ?_, ?_, hT.2⟩⟩⟩, fun q6 => ⟨0, rfl, by omega, fun c i h1 h2 h3 h4 => by rw [up_c h4]; exact frS c i h1 h2 h3 h4, Or.inl ⟨_, bad (Or.inr (by rw [← d1, ← p1]; exact q6)), by omega, by rw [up_s]; exact s29⟩⟩⟩⟩
    · rw [posF, if_neg (by omega), if_neg (by omega), if_neg, d1, p1]
      rw [← d1, ← p1]; omega
    · rw [hT.1 31 0 (by decide) (by decide) (by decide), fS 31 0 (by decide) (by decide) (by decide)]; exact n31
  · rw [posF, if_neg (by omega), if_pos (by omega), if_neg (by omega), ← d1, Int.mul_comm]
  · rw [posF, if_neg (by omega), if_pos (by omega), if_pos (by omega)]
