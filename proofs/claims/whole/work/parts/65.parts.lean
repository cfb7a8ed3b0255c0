/-! ===== what a game is composed of; its positions ===== -/
/-- x comes of z in at most so many steps through games of H -/
def Cl (G : Mem) (H : Int → Prop) : Nat → Int → Int → Prop
  | 0, z, x => x = z
  | k + 1, z, x => x = z ∨ (H z ∧ ∃ s i, 0 ≤ s ∧ s ≤ 1 ∧ 0 ≤ i ∧ i < G 3 (2 * z + s) ∧ Cl G H k (opt G z s i) x)
theorem cl_st {G : Mem} {H : Int → Prop} {n : Int} (hG : Good n G) : ∀ (k : Nat) (z x : Int), 0 ≤ z → z < n → G 5 z ≤ k → (Cl G H (k + 1) z x ↔ Cl G H k z x) := by
  intro k
  induction k with
  | zero =>
    intro z x z1 z2 hd
    obtain ⟨hD, -⟩ := hG.2.2 z z1 z2
    have h5 := hD.2.2.1
    rw [Cl, Cl]
    refine ⟨fun q => ?_, Or.inl⟩
    rcases q with q | ⟨-, s, i, s1, s2, i1, i2, -⟩
    · exact q
    · by_cases h1 : G 1 z = 0
      · have := (hD.2.2.2.2 h1).1; omega
      · have := hD.2.2.2.1 h1
        rcases (show s = 0 ∨ s = 1 by omega) with rfl | rfl <;> omega
  | succ k ih =>
    intro z x z1 z2 hd
    obtain ⟨hD, -⟩ := hG.2.2 z z1 z2
    have st : ∀ s i, 0 ≤ s → s ≤ 1 → 0 ≤ i → i < G 3 (2 * z + s) → (Cl G H (k + 1) (opt G z s i) x ↔ Cl G H k (opt G z s i) x) := by
      intro s i s1 s2 i1 i2
      have o := (opS_r hD.1 ⟨s1, s2⟩).2.2 i i1 i2
      refine ih _ x o.1 (by omega) ?_
      by_cases h1 : G 1 z = 0
      · have := (hD.2.2.2.2 h1).2.1 s s1 s2 i i1 i2; omega
      · have := hD.2.2.2.1 h1
        rcases (show s = 0 ∨ s = 1 by omega) with rfl | rfl <;> omega
    rw [Cl, Cl]
    constructor
    · rintro (q | ⟨q, s, i, s1, s2, i1, i2, q2⟩)
      · exact Or.inl q
      · exact Or.inr ⟨q, s, i, s1, s2, i1, i2, (st s i s1 s2 i1 i2).mp q2⟩
    · rintro (q | ⟨q, s, i, s1, s2, i1, i2, q2⟩)
      · exact Or.inl q
      · exact Or.inr ⟨q, s, i, s1, s2, i1, i2, (st s i s1 s2 i1 i2).mpr q2⟩
/-- x is a part (H: all) or a position (H: the hot ones) of z -/
def Pt (G : Mem) (H : Int → Prop) (z x : Int) : Prop := Cl G H 6 z x
theorem pt_eq {G : Mem} {H : Int → Prop} {n z x : Int} (hG : Good n G) (hz : 0 ≤ z ∧ z < n) : Pt G H z x ↔ (x = z ∨ (H z ∧ ∃ s i, 0 ≤ s ∧ s ≤ 1 ∧ 0 ≤ i ∧ i < G 3 (2 * z + s) ∧ Pt G H (opt G z s i) x)) := by
  unfold Pt
  rw [← cl_st hG 6 z x hz.1 hz.2 (by have := (hG.2.2 z hz.1 hz.2).1.2.2.1; omega), Cl]
theorem pt_le {G : Mem} {H : Int → Prop} {n : Int} (hG : Good n G) : ∀ (k : Nat) (z x : Int), 0 ≤ z → z < n → Cl G H k z x → 0 ≤ x ∧ x ≤ z := by
  intro k
  induction k with
  | zero => intro z x z1 z2 q; rw [Cl] at q; omega
  | succ k ih =>
    intro z x z1 z2 q
    rw [Cl] at q
    rcases q with q | ⟨-, s, i, s1, s2, i1, i2, q⟩
    · omega
    · have o := (opS_r (hG.2.2 z z1 z2).1.1 ⟨s1, s2⟩).2.2 i i1 i2
      have := ih _ x o.1 (by omega) q
      omega
