/-! ===== the class: numbers of the text ===== -/
/-- A holds the text and the token behind e -/
def AtT (u : Int → Int) (L : Int) (A : Mem) (e : Int) : Prop := ((∀ i, A 24 i = u i) ∧ A 23 0 = L ∧ 0 ≤ L ∧ L ≤ 80) ∧ (0 ≤ e ∧ e ≤ L) ∧ A 29 0 = stF u L e ∧ A 28 0 = kdF u L e ∧ A 30 0 = enF u L e
theorem atT_r {u : Int → Int} {L e : Int} (he : 0 ≤ e ∧ e ≤ L) : e ≤ stF u L e ∧ stF u L e ≤ enF u L e ∧ enF u L e ≤ L ∧ (kdF u L e ≠ 0 → stF u L e < enF u L e) := by
  have t := tok_ex (u := u) he.2
  obtain ⟨a, -, -, -, k0, k1, -⟩ := t
  by_cases q : kdF u L e = 0
  · have := k0 q; exact ⟨by omega, by omega, by omega, fun w => absurd q w⟩
  · have := k1 q; exact ⟨by omega, by omega, by omega, fun _ => this.1⟩
theorem AtT.fa {u : Int → Int} {L e : Int} {A N : Mem} (h : AtT u L A e) (f : ∀ c i, c ≠ 21 → c ≠ 22 → c ≠ 25 → c ≠ 26 → c ≠ 27 → c ≠ 31 → N c i = A c i) : AtT u L N e := by
  obtain ⟨⟨a1, a2, a3⟩, a4, a5, a6, a7⟩ := h
  exact ⟨⟨fun i => (f 24 i (by decide) (by decide) (by decide) (by decide) (by decide) (by decide)).trans (a1 i), (f 23 0 (by decide) (by decide) (by decide) (by decide) (by decide) (by decide)).trans a2, a3⟩, a4, (f 29 0 (by decide) (by decide) (by decide) (by decide) (by decide) (by decide)).trans a5, (f 28 0 (by decide) (by decide) (by decide) (by decide) (by decide) (by decide)).trans a6, (f 30 0 (by decide) (by decide) (by decide) (by decide) (by decide) (by decide)).trans a7⟩
theorem x_advT {g : Gs} {ad : Nat → Nat} {sk : (Nat → Nat) × (Nat → Nat)} {u : Int → Int} {L e : Int} {A : Mem} (h : AtT u L A e) : SpV (wC g ad sk) yX8_advance cX8_advance 1 none 2 [.ref (ad 5)] (A) (fun N => FA A N ∧ AtT u L N (enF u L e)) := by
  obtain ⟨⟨a1, a2, a3⟩, a4, a5, a6, a7⟩ := h
  have r := atT_r (u := u) a4
  have eu : (fun i => A 24 i) = u := funext a1
  refine (x_advance (A := A) (by omega) (by omega)).mono (fun N hN => ?_)
  obtain ⟨st, kd, en, t, f, n1, n2, n3⟩ := hN
  rw [eu, a2, a7] at t
  obtain ⟨t1, t2, t3⟩ := tok_eq t
  exact ⟨f, ⟨fun i => (f 24 i (by decide) (by decide) (by decide)).trans (a1 i), (f 23 0 (by decide) (by decide) (by decide)).trans a2, a3⟩, ⟨by omega, by omega⟩, n1.trans t1, n2.trans t2, n3.trans t3⟩
theorem dg_ch {u : Int → Int} {L x : Int} (h : kdA u L x = 3) : x < L ∧ 48 ≤ u x ∧ u x ≤ 57 := by
  unfold kdA kdC at h
  split at h
  · split at h
    · omega
    · split at h
      · omega
      · split at h <;> omega
  · omega
theorem x_digitsHere {g : Gs} {ad : Nat → Nat} {sk : (Nat → Nat) × (Nat → Nat)} {u : Int → Int} {L e : Int} {A : Mem} (h : AtT u L A e) : SpI (wC g ad sk) yX8_digitsHere cX8_digitsHere 4 (some .int) 1 [.ref (ad 5)] (A) (fun r P => r = dgF u L e ∧ (-1 ≤ r ∧ r ≤ 99) ∧ P = A) := by
  obtain ⟨⟨a1, a2, a3⟩, a4, a5, a6, a7⟩ := h
  have r := atT_r (u := u) a4
  have t := tok_ex (u := u) a4.2
  intro l9 hl9
  refine ct_of hl9 mi_X8_digitsHere.2.2.2 (Nat.le_of_ble_eq_true rfl) (fun X _ C Y => ?_)
  show E (wC g ad sk) X 0 0 (A) 0 [(0, .ref (ad 5))] []
  refine e_wf (fun hw => ?_)
  have no : ¬ (kdF u L e = 3 ∧ enF u L e - stF u L e ≤ 2 ∧ ¬ (enF u L e - stF u L e = 2 ∧ u (stF u L e) = 48)) → ∃ z : Int, some (vI (-1)) = some (vI z) ∧ z = dgF u L e ∧ (-1 ≤ z ∧ z ≤ 99) ∧ A = A := fun q => ⟨-1, rfl, by rw [dgF, if_neg q], by omega, rfl⟩
  have go : kdF u L e = 3 → enF u L e - stF u L e ≤ 2 → ¬ (enF u L e - stF u L e = 2 ∧ u (stF u L e) = 48) → E (wC g ad sk) X 0 0 (A) 51 [(0, .ref (ad 5)), (2, vI (0)), (3, vI (A 29 0))] [] := by
    intro k3 s2 s0
    have lt := r.2.2.2 (by omega)
    have c1 := dg_ch (t.2.2.2.2.2.2.1 (Or.inr k3) |>.1 (stF u L e) (by omega) lt |>.trans k3)
    have e1 : A 24 (stF u L e) = u (stF u L e) := a1 _
    refine B_X8_digitsHere_51 (by omega) (by omega) (Nat.zero_le _) (Nat.zero_le _) C Y ⟨fun q => absurd q (by omega), fun _ => ?_⟩
    rw [a5, e1]
    refine ⟨⟨by omega, by omega, by omega, by omega, by omega⟩, ?_⟩
    by_cases q2 : enF u L e - stF u L e = 2
    · have c2 := dg_ch (t.2.2.2.2.2.2.1 (Or.inr k3) |>.1 (stF u L e + 1) (by omega) (by omega) |>.trans k3)
      have e2 : A 24 (stF u L e + 1) = u (stF u L e + 1) := a1 _
      refine B_X8_digitsHere_51 (by omega) (by omega) (Nat.zero_le _) (Nat.zero_le _) C Y ⟨fun q => absurd q (by omega), fun _ => ?_⟩
      rw [e2]
      refine ⟨⟨by omega, by omega, by omega, by omega, by omega⟩, ?_⟩
      refine B_X8_digitsHere_51 (by omega) (by omega) (Nat.zero_le _) (Nat.zero_le _) C Y ⟨fun _ => ⟨_, rfl, ?_, by omega, rfl⟩, fun q => absurd q (by omega)⟩
      rw [dgF, if_pos ⟨k3, s2, s0⟩, if_pos q2]; omega
    · refine B_X8_digitsHere_51 (by omega) (by omega) (Nat.zero_le _) (Nat.zero_le _) C Y ⟨fun _ => ⟨_, rfl, ?_, by omega, rfl⟩, fun q => absurd q (by omega)⟩
      rw [dgF, if_pos ⟨k3, s2, s0⟩, if_neg q2]; omega
  have e1 : A 24 (A 29 0) = u (stF u L e) := by rw [a5]; exact a1 _
  refine B_X8_digitsHere_0  (Nat.zero_le _) (Nat.zero_le _) C Y ⟨by omega, fun q => no (fun w => q (by omega)), fun q => ⟨fun q1 => no (fun w => by omega), fun q1 => ⟨fun q2 => go (by omega) (by omega) (fun w => q2 (by omega)), fun q2 => ⟨?_, fun q3 => go (by omega) (by omega) (fun w => q3 (by omega)), fun q3 => no (fun w => w.2.2 ⟨by omega, by omega⟩)⟩⟩⟩⟩
  have := r.2.2.2 (by omega)
  omega
