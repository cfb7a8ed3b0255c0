/-! ===== the machine between the two parsers ===== -/
def skN (u : Int → Int) : Nat → Int → Int
  | 0, e => e
  | k + 1, e => if u e = 32 then skN u k (e + 1) else e
def runN (u : Int → Int) (L kd : Int) : Nat → Int → Int
  | 0, e => e
  | k + 1, e => if kdA u L e = kd then runN u L kd k (e + 1) else e
/-- where the token behind e starts, its kind, where it ends -/
def stF (u : Int → Int) (L e : Int) : Int := skN u (L - e).toNat e
def kdF (u : Int → Int) (L e : Int) : Int := kdA u L (stF u L e)
def enF (u : Int → Int) (L e : Int) : Int := if kdF u L e = 0 then stF u L e else if kdF u L e = 2 ∨ kdF u L e = 3 then runN u L (kdF u L e) (L - (stF u L e + 1)).toNat (stF u L e + 1) else stF u L e + 1
theorem skN_ok {u : Int → Int} {L : Int} : ∀ (m : Nat) (e : Int), e + m = L → (e ≤ skN u m e ∧ skN u m e ≤ L) ∧ (∀ x, e ≤ x → x < skN u m e → u x = 32) ∧ (skN u m e < L → u (skN u m e) ≠ 32) := by
  intro m
  induction m with
  | zero => intro e h; rw [skN]; exact ⟨by omega, fun x x1 x2 => by omega, fun q => by omega⟩
  | succ m ih =>
    intro e h
    rw [skN]
    split
    · rename_i q
      obtain ⟨a, b, c⟩ := ih (e + 1) (by omega)
      refine ⟨by omega, fun x x1 x2 => ?_, c⟩
      by_cases ex : x = e
      · rw [ex]; exact q
      · exact b x (by omega) x2
    · rename_i q
      exact ⟨by omega, fun x x1 x2 => by omega, fun _ => q⟩
theorem runN_ok {u : Int → Int} {L kd : Int} (hk : kd ≠ 0) : ∀ (m : Nat) (e : Int), e + m = L → (e ≤ runN u L kd m e ∧ runN u L kd m e ≤ L) ∧ (∀ x, e ≤ x → x < runN u L kd m e → kdA u L x = kd) ∧ kdA u L (runN u L kd m e) ≠ kd := by
  intro m
  induction m with
  | zero =>
    intro e h
    rw [runN]
    refine ⟨by omega, fun x x1 x2 => by omega, ?_⟩
    have := (kdA_r (u := u) (L := L) (k := e)).2.2.mpr (by omega)
    rw [this]; exact fun q => hk q.symm
  | succ m ih =>
    intro e h
    rw [runN]
    split
    · rename_i q
      obtain ⟨a, b, c⟩ := ih (e + 1) (by omega)
      refine ⟨by omega, fun x x1 x2 => ?_, c⟩
      by_cases ex : x = e
      · rw [ex]; exact q
      · exact b x (by omega) x2
    · rename_i q
      exact ⟨by omega, fun x x1 x2 => by omega, q⟩
theorem tok_ex {u : Int → Int} {L e : Int} (he : e ≤ L) : Tok u L e (stF u L e) (kdF u L e) (enF u L e) := by
  obtain ⟨a, b, c⟩ := skN_ok (u := u) (L := L) (L - e).toNat e (by omega)
  have kr := kdA_r (u := u) (L := L) (k := stF u L e)
  have k0 : kdF u L e = 0 ↔ L ≤ stF u L e := kr.2.2
  refine ⟨a, b, c, rfl, fun q => ?_, fun q => ?_, fun q => ?_, fun q1 q2 q3 => ?_⟩
  · rw [enF, if_pos q]
  · have sl : stF u L e < L := by
      have : ¬ L ≤ stF u L e := fun w => q (k0.mpr w)
      omega
    unfold enF
    rw [if_neg q]
    split
    · have r := runN_ok (u := u) (L := L) (kd := kdF u L e) q (L - (stF u L e + 1)).toNat (stF u L e + 1) (by omega)
      omega
    · omega
  · have q0 : kdF u L e ≠ 0 := by omega
    have sl : stF u L e < L := by
      have : ¬ L ≤ stF u L e := fun w => q0 (k0.mpr w)
      omega
    have r := runN_ok (u := u) (L := L) (kd := kdF u L e) q0 (L - (stF u L e + 1)).toNat (stF u L e + 1) (by omega)
    rw [enF, if_neg q0, if_pos q]
    refine ⟨fun x x1 x2 => ?_, r.2.2⟩
    by_cases ex : x = stF u L e
    · rw [ex]; rfl
    · exact r.2.1 x (by omega) x2
  · rw [enF, if_neg q1, if_neg (by omega)]
theorem tok_eq {u : Int → Int} {L e st kd en : Int} (h : Tok u L e st kd en) : st = stF u L e ∧ kd = kdF u L e ∧ en = enF u L e := tok_uq h (tok_ex (by have := h.1; omega))
/-- one or two digits of the token behind e; -1: none -/
def dgF (u : Int → Int) (L e : Int) : Int := if kdF u L e = 3 ∧ enF u L e - stF u L e ≤ 2 ∧ ¬ (enF u L e - stF u L e = 2 ∧ u (stF u L e) = 48) then (if enF u L e - stF u L e = 2 then 10 * (u (stF u L e) - 48) + (u (stF u L e + 1) - 48) else u (stF u L e) - 48) else -1
/-- eighths of a part of a denominator; 0: it is none -/
def ppF (d : Int) : Int := if d = 2 then 4 else if d = 4 then 2 else if d = 8 then 1 else 0
/-- a positive number behind e: a fault, or its eighths and where one goes on -/
def posF (u : Int → Int) (L e : Int) : Int ⊕ (Int × Int) :=
  if dgF u L e = -1 then .inl (stF u L e) else
  if kdF u L (enF u L e) ≠ 47 then (if 8 < dgF u L e then .inl (stF u L e) else .inr (8 * dgF u L e, enF u L e)) else
  if ppF (dgF u L (enF u L (enF u L e))) = 0 ∨ 64 < dgF u L e * ppF (dgF u L (enF u L (enF u L e))) then .inl (stF u L (enF u L (enF u L e))) else
  .inr (dgF u L e * ppF (dgF u L (enF u L (enF u L e))), enF u L (enF u L (enF u L e)))
