/-! ===== how long a game is written ===== -/
def sumO (f : Int → Int) (G : Mem) (z s : Int) : Nat → Int
  | 0 => 0
  | n + 1 => sumO f G z s n + f (opt G z s (n : Int))
theorem sumO_cg {f h : Int → Int} {G : Mem} {z s : Int} : ∀ n : Nat, (∀ i, 0 ≤ i → i < (n : Int) → f (opt G z s i) = h (opt G z s i)) → sumO f G z s n = sumO h G z s n := by
  intro n
  induction n with
  | zero => intro _; rfl
  | succ n ih => intro e; rw [sumO, sumO, ih (fun i i1 i2 => e i i1 (by omega)), e n (by omega) (by omega)]
theorem sumO_r {f : Int → Int} {G : Mem} {z s B : Int} : ∀ n : Nat, (∀ i, 0 ≤ i → i < (n : Int) → 0 ≤ f (opt G z s i) ∧ f (opt G z s i) ≤ B) → 0 ≤ sumO f G z s n ∧ sumO f G z s n ≤ n * B := by
  intro n
  induction n with
  | zero => intro _; simp [sumO]
  | succ n ih =>
    intro e
    have h1 := ih (fun i i1 i2 => e i i1 (by omega))
    have h2 := e n (by omega) (by omega)
    rw [sumO]
    have : ((n + 1 : Nat) : Int) * B = n * B + B := by
      rw [show ((n + 1 : Nat) : Int) = (n : Int) + 1 by omega, Int.add_mul, Int.one_mul]
    omega
/-- the length, by fuel -/
def LnK (G : Mem) : Nat → Int → Int
  | 0, z => numLn (G 2 z / 128)
  | k + 1, z => if G 1 z = 0 then 3 + (max 0 (G 3 (2 * z + 0) - 1) + max 0 (G 3 (2 * z + 1) - 1)) + sumO (LnK G k) G z 0 (G 3 (2 * z + 0)).toNat + sumO (LnK G k) G z 1 (G 3 (2 * z + 1)).toNat else numLn (G 2 z / 128)
theorem ln_st {G : Mem} {n : Int} (hG : Good n G) : ∀ (k : Nat) (z : Int), 0 ≤ z → z < n → G 5 z ≤ k → LnK G (k + 1) z = LnK G k z := by
  intro k
  induction k with
  | zero =>
    intro z z1 z2 hd
    obtain ⟨hD, -⟩ := hG.2.2 z z1 z2
    by_cases h1 : G 1 z = 0
    · have := (hD.2.2.2.2 h1).1; omega
    · show (if G 1 z = 0 then _ else _) = _
      rw [if_neg h1]
      rfl
  | succ k ih =>
    intro z z1 z2 hd
    obtain ⟨hD, -⟩ := hG.2.2 z z1 z2
    by_cases h1 : G 1 z = 0
    · have st : ∀ s, 0 ≤ s → s ≤ 1 → sumO (LnK G (k + 1)) G z s (G 3 (2 * z + s)).toNat = sumO (LnK G k) G z s (G 3 (2 * z + s)).toNat := by
        intro s s1 s2
        have o := opS_r hD.1 ⟨s1, s2⟩
        refine sumO_cg _ (fun i i1 i2 => ?_)
        have oi := o.2.2 i i1 (by omega)
        exact ih _ oi.1 (by omega) (by have := (hD.2.2.2.2 h1).2.1 s s1 s2 i i1 (by omega); omega)
      rw [LnK, if_pos h1, st 0 (by omega) (by omega), st 1 (by omega) (by omega), LnK, if_pos h1]
    · rw [LnK, if_neg h1, LnK, if_neg h1]
def Ln (G : Mem) (z : Int) : Int := LnK G 6 z
theorem ln_eq {G : Mem} {n z : Int} (hG : Good n G) (hz : 0 ≤ z ∧ z < n) : Ln G z = if G 1 z = 0 then 3 + (max 0 (G 3 (2 * z + 0) - 1) + max 0 (G 3 (2 * z + 1) - 1)) + sumO (Ln G) G z 0 (G 3 (2 * z + 0)).toNat + sumO (Ln G) G z 1 (G 3 (2 * z + 1)).toNat else numLn (G 2 z / 128) := by
  have h := ln_st hG 6 z hz.1 hz.2 (by have := (hG.2.2 z hz.1 hz.2).1.2.2.1; omega)
  unfold Ln
  rw [← h, LnK]
