/-! ===== the class: gather ===== -/
def bnd : Nat → Int
  | 0 => 5
  | k + 1 => 9 + 8 * bnd k
theorem bnd_p : ∀ k, 5 ≤ bnd k := by
  intro k
  induction k with
  | zero => exact Int.le_refl _
  | succ k ih => rw [bnd]; omega
theorem lnK_r {G : Mem} {n : Int} (hG : Good n G) : ∀ (k : Nat) (z : Int), 0 ≤ z → z < n → 0 ≤ LnK G k z ∧ LnK G k z ≤ bnd k := by
  intro k
  induction k with
  | zero => intro z z1 z2; have := numLn_r (G 2 z / 128); rw [LnK, bnd]; omega
  | succ k ih =>
    intro z z1 z2
    obtain ⟨hD, -⟩ := hG.2.2 z z1 z2
    have c0 := opS_r hD.1 (s := 0) (by omega)
    have c1 := opS_r hD.1 (s := 1) (by omega)
    have hp := bnd_p k
    have key : ∀ s, 0 ≤ s → s ≤ 1 → 0 ≤ sumO (LnK G k) G z s (G 3 (2 * z + s)).toNat ∧ sumO (LnK G k) G z s (G 3 (2 * z + s)).toNat ≤ 4 * bnd k := by
      intro s s1 s2
      have o := opS_r hD.1 ⟨s1, s2⟩
      have h := sumO_r (f := LnK G k) (G := G) (z := z) (s := s) (B := bnd k) (G 3 (2 * z + s)).toNat (fun i i1 i2 => ih _ (o.2.2 i i1 (by omega)).1 (by have := (o.2.2 i i1 (by omega)).2; omega))
      refine ⟨h.1, Int.le_trans h.2 ?_⟩
      exact Int.mul_le_mul_of_nonneg_right (by omega) (by omega)
    have k0 := key 0 (by omega) (by omega)
    have k1 := key 1 (by omega) (by omega)
    have nl := numLn_r (G 2 z / 128)
    rw [LnK, bnd]
    split <;> omega
theorem ln_r {G : Mem} {n z : Int} (hG : Good n G) (hz : 0 ≤ z ∧ z < n) : 0 ≤ Ln G z ∧ Ln G z ≤ 2000000 := by
  have h := lnK_r hG 6 z hz.1 hz.2
  have e : bnd 6 ≤ 2000000 := by decide +kernel
  exact ⟨h.1, Int.le_trans h.2 e⟩
