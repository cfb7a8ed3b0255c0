/-! ===== making a number, as a relation ===== -/
def MkE (G N : Mem) (n e : Int) : Prop := N 0 0 = n + 1 ∧ Good (n + 1) N ∧ Ag G N n ∧ N 1 n = 1 ∧ N 2 n = 128 * e
def NumR (G : Mem) (n e z : Int) (N : Mem) : Prop :=
  (0 ≤ z ∧ z < n ∧ N 0 0 = n ∧ Ag G N n ∧ IsN G z e ∧ ∀ y, 0 ≤ y → y < z → ¬ IsN G y e) ∨
  (z = -1 ∧ N 0 0 = n ∧ Ag G N n ∧ n = 40 ∧ ∀ y, 0 ≤ y → y < n → ¬ IsN G y e) ∨
  (z = n ∧ n < 40 ∧ (∀ y, 0 ≤ y → y < n → ¬ IsN G y e) ∧ MkE G N n e)
theorem mnp_W {M N : Mem} {n e z : Int} (h0 : M 0 0 = n) (q : MnP M n e z N) : NumR M n e z N := by
  rcases q with ⟨a1, a2, rfl, a4, a5⟩ | ⟨a1, rfl, a3, a4⟩ | ⟨a1, a2, a3, m0, m1, m2, m3, m4, m5⟩
  · exact Or.inl ⟨a1, a2, h0, Ag.refl _ _, a4, a5⟩
  · exact Or.inr (Or.inl ⟨a1, h0, Ag.refl _ _, a3, a4⟩)
  · exact Or.inr (Or.inr ⟨a1, a2, a3, m0, m1, m2, m3, m4⟩)
theorem isN_cg {G M : Mem} {n y e : Int} (g : Ag G M n) (hy : 0 ≤ y ∧ y < n) : IsN M y e ↔ IsN G y e := by
  unfold IsN
  rw [g.1 1 y (by omega) hy.1 hy.2]
  constructor
  · rintro ⟨a, b⟩; exact ⟨a, by rw [← g.2.2.2.2.2 y hy.1 hy.2 a]; exact b⟩
  · rintro ⟨a, b⟩; exact ⟨a, by rw [g.2.2.2.2.2 y hy.1 hy.2 a]; exact b⟩
theorem num_cg {G M N : Mem} {n e z : Int} (g : Ag G M n) (h : NumR M n e z N) : NumR G n e z N := by
  rcases h with ⟨a1, a2, a3, a4, a5, a6⟩ | ⟨a1, a2, a3, a4, a5⟩ | ⟨a1, a2, a3, m0, m1, m2, m3⟩
  · exact Or.inl ⟨a1, a2, a3, g.trans (Int.le_refl _) a4, (isN_cg g ⟨a1, a2⟩).mp a5, fun y y1 y2 k => a6 y y1 y2 ((isN_cg g ⟨y1, by omega⟩).mpr k)⟩
  · exact Or.inr (Or.inl ⟨a1, a2, g.trans (Int.le_refl _) a3, a4, fun y y1 y2 k => a5 y y1 y2 ((isN_cg g ⟨y1, y2⟩).mpr k)⟩)
  · exact Or.inr (Or.inr ⟨a1, a2, fun y y1 y2 k => a3 y y1 y2 ((isN_cg g ⟨y1, y2⟩).mpr k), m0, m1, g.trans (Int.le_refl _) m2, m3⟩)
theorem mkE_uq {G N N' : Mem} {n e : Int} (hn : 0 ≤ n ∧ n < 40) (a : MkE G N n e) (b : MkE G N' n e) : Ag N N' (n + 1) := by
  obtain ⟨a0, a1, a2, a3, a4⟩ := a
  obtain ⟨b0, b1, b2, b3, b4⟩ := b
  have ga := a1.2.2 n hn.1 (by omega)
  have gb := b1.2.2 n hn.1 (by omega)
  obtain ⟨x0, x1, x2, -⟩ := ga.1.2.2.2.1 (by omega)
  obtain ⟨y0, y1, y2, -⟩ := gb.1.2.2.2.1 (by omega)
  have e3 : ∀ s, 0 ≤ s → s ≤ 1 → N 3 (2 * n + s) = 0 ∧ N' 3 (2 * n + s) = 0 := fun s s1 s2 => by
    rcases (show s = 0 ∨ s = 1 by omega) with rfl | rfl
    · exact ⟨x0, y0⟩
    · exact ⟨x1, y1⟩
  exact gg_uq hn (a2.symm.trans (Int.le_refl _) b2) ga gb (fun o o1 o2 => (a1.2.2 o o1 (by omega)).1.1) (by omega) (fun _ => by omega) (by omega) (fun s s1 s2 => by have := e3 s s1 s2; omega) (fun s i s1 s2 i1 i2 => by have := e3 s s1 s2; omega)
theorem num_uq {G N N' : Mem} {n e z z' : Int} (hn : 0 ≤ n) (a : NumR G n e z N) (b : NumR G n e z' N') : z = z' ∧ N 0 0 = N' 0 0 ∧ Ag N N' (N 0 0) := by
  rcases a with ⟨a1, a2, a3, a4, a5, a6⟩ | ⟨a1, a2, a3, a4, a5⟩ | ⟨a1, a2, a3, a4⟩ <;> rcases b with ⟨b1, b2, b3, b4, b5, b6⟩ | ⟨b1, b2, b3, b4, b5⟩ | ⟨b1, b2, b3, b4⟩
  · have : z = z' := by
      rcases Int.lt_trichotomy z z' with q | q | q
      · exact absurd a5 (b6 z a1 q)
      · exact q
      · exact absurd b5 (a6 z' b1 q)
    exact ⟨this, by omega, by rw [a3]; exact a4.symm.trans (Int.le_refl _) b4⟩
  · exact absurd a5 (b5 z a1 a2)
  · exact absurd a5 (b3 z a1 a2)
  · exact absurd b5 (a5 z' b1 b2)
  · exact ⟨by omega, by omega, by rw [a2]; exact a3.symm.trans (Int.le_refl _) b3⟩
  · omega
  · exact absurd b5 (a3 z' b1 b2)
  · omega
  · have h8 := a4.1
    have h9 := b4.1
    exact ⟨by omega, by omega, by rw [h8]; exact mkE_uq ⟨hn, a2⟩ a4 b4⟩
theorem num_ex {G : Mem} {n e : Int} (hG : Good n G) (h0 : G 0 0 = n) (he : -64 ≤ e ∧ e ≤ 64) : ∃ z N, NumR G n e z N := by
  have hn := hG.2.1
  have hn0 := hG.1
  by_cases c3 : ∃ y : Nat, (y : Int) < n ∧ IsN G y e
  · obtain ⟨y, ⟨y1, y2⟩, y3⟩ := least_nat _ c3
    refine ⟨y, G, Or.inl ⟨by omega, y1, h0, Ag.refl _ _, y2, fun x x1 x2 q => ?_⟩⟩
    have := y3 x.toNat (by omega)
    rw [Int.toNat_of_nonneg x1] at this
    exact this ⟨by omega, q⟩
  have c3' : ∀ x, 0 ≤ x → x < n → ¬ IsN G x e := fun x x1 x2 q => c3 ⟨x.toNat, by omega, by rw [Int.toNat_of_nonneg x1]; exact q⟩
  by_cases c4 : n = 40
  · exact ⟨-1, G, Or.inr (Or.inl ⟨rfl, h0, Ag.refl _ _, c4, c3'⟩)⟩
  obtain ⟨K, hK⟩ : ∃ K, K = up (up (up (up (up G 1 n 1) 2 n (128 * e)) 5 n 0) 3 (2 * n) 0) 3 (2 * n + 1) 0 := ⟨_, rfl⟩
  have fr : ∀ c i, c ≠ 1 → c ≠ 2 → c ≠ 3 → c ≠ 5 → K c i = G c i := fun c i q1 q2 q3 q4 => by rw [hK, up_c q3, up_c q3, up_c q4, up_c q2, up_c q1]
  have g : Ag G K n := by
    refine ⟨fun c i q i1 i2 => ?_, fun i i1 i2 => ?_, fun z s i _ _ _ _ _ _ => fr 4 _ (by decide) (by decide) (by decide) (by decide), fun i i1 i2 => fr 15 i (by decide) (by decide) (by decide) (by decide), fun x y _ _ _ _ => fr 12 _ (by decide) (by decide) (by decide) (by decide), fun z z1 z2 _ => ?_⟩
    · rw [hK, up_c (by omega), up_c (by omega)]
      simp only [up, show ¬ i = n by omega, if_false]
      repeat (first | rfl | split)
    · rw [hK, up_i (by omega), up_i (by omega), up_c (by decide), up_c (by decide), up_c (by decide)]
    · rw [hK, up_c (by decide), up_c (by decide), up_c (by decide), up_i (by omega), up_c (by decide)]
  have k1 : K 1 n = 1 := by rw [hK, up_c (by decide), up_c (by decide), up_c (by decide), up_c (by decide), up_s]
  have k2 : K 2 n = 128 * e := by rw [hK, up_c (by decide), up_c (by decide), up_c (by decide), up_s]
  have k5 : K 5 n = 0 := by rw [hK, up_c (by decide), up_c (by decide), up_s]
  have k3 : ∀ s, 0 ≤ s → s ≤ 1 → K 3 (2 * n + s) = 0 := fun s s1 s2 => by
    rcases (show s = 0 ∨ s = 1 by omega) with rfl | rfl
    · rw [hK, up_i (by omega), Int.add_zero, up_s]
    · rw [hK, up_s]
  have hD : Dat K n := by
    refine ⟨⟨fun s s1 s2 => ?_, fun s s1 s2 i i1 i2 => ?_⟩, fun s s1 s2 i l i1 i2 i3 => ?_, by omega, fun _ => ⟨k3 0 (by omega) (by omega), k3 1 (by omega) (by omega), k5, e, he.1, he.2, k2⟩, fun q => by omega⟩
    · rw [k3 s s1 s2]; exact ⟨by omega, fun i i1 i2 => absurd i2 (by omega)⟩
    · rw [k3 s s1 s2] at i2; omega
    · rw [k3 s s1 s2] at i3; omega
  obtain ⟨N, n0, nG, nA, nF⟩ := ly_ex ⟨hn0, by omega⟩ (hG.cg g) hD (Or.inr k1)
  exact ⟨n, N, Or.inr (Or.inr ⟨rfl, by omega, c3', n0, nG, g.trans (Int.le_refl _) nA, by rw [nF 1 n (by decide) (by decide) (by decide)]; exact k1, by rw [nF 2 n (by decide) (by decide) (by decide)]; exact k2⟩)⟩
