/-! ===== what the class holds of G it holds of every memory that agrees ===== -/
theorem lnK_cg {G N : Mem} {n : Int} (g : Ag G N n) (hG : Good n G) : ∀ (k : Nat) (z : Int), 0 ≤ z → z < n → G 5 z ≤ k → LnK N k z = LnK G k z := by
  intro k
  induction k with
  | zero =>
    intro z z1 z2 hd
    obtain ⟨hD, -⟩ := hG.2.2 z z1 z2
    by_cases h1 : G 1 z = 0
    · have := (hD.2.2.2.2 h1).1; omega
    · rw [LnK, LnK, g.2.2.2.2.2 z z1 z2 h1]
  | succ k ih =>
    intro z z1 z2 hd
    obtain ⟨hD, -⟩ := hG.2.2 z z1 z2
    rw [LnK, LnK, g.1 1 z (by omega) z1 z2]
    by_cases h1 : G 1 z = 0
    · have st : ∀ s, 0 ≤ s → s ≤ 1 → ∀ m : Nat, (m : Int) ≤ G 3 (2 * z + s) → sumO (LnK N k) N z s m = sumO (LnK G k) G z s m := by
        intro s s1 s2 m
        induction m with
        | zero => intro _; rfl
        | succ m im =>
          intro hm
          have o := (opS_r hD.1 ⟨s1, s2⟩).2.2 m (by omega) (by omega)
          rw [sumO, sumO, im (by omega), g.op ⟨z1, z2⟩ ⟨s1, s2⟩ (by omega), ih _ o.1 (by omega) (by have := (hD.2.2.2.2 h1).2.1 s s1 s2 m (by omega) (by omega); omega)]
      have c0 := opS_r hD.1 (s := 0) (by omega)
      have c1 := opS_r hD.1 (s := 1) (by omega)
      rw [if_pos h1, if_pos h1, g.ct ⟨z1, z2⟩ (s := 0) (by omega), g.ct ⟨z1, z2⟩ (s := 1) (by omega), st 0 (by omega) (by omega) _ (by omega), st 1 (by omega) (by omega) _ (by omega)]
    · rw [if_neg h1, if_neg h1, g.2.2.2.2.2 z z1 z2 h1]
theorem ln_cgG {G N : Mem} {n z : Int} (g : Ag G N n) (hG : Good n G) (hz : 0 ≤ z ∧ z < n) : Ln N z = Ln G z := lnK_cg g hG 6 z hz.1 hz.2 (by have := (hG.2.2 z hz.1 hz.2).1.2.2.1; omega)
theorem cl_cg {G N : Mem} {H H' : Int → Prop} {n : Int} (g : Ag G N n) (hG : Good n G) (hH : ∀ y, 0 ≤ y → y < n → (H' y ↔ H y)) : ∀ (k : Nat) (z x : Int), 0 ≤ z → z < n → (Cl N H' k z x ↔ Cl G H k z x) := by
  intro k
  induction k with
  | zero => intro z x z1 z2; rw [Cl, Cl]
  | succ k ih =>
    intro z x z1 z2
    obtain ⟨hD, -⟩ := hG.2.2 z z1 z2
    rw [Cl, Cl, hH z z1 z2]
    have st : ∀ s i, 0 ≤ s → s ≤ 1 → 0 ≤ i → i < G 3 (2 * z + s) → (Cl N H' k (opt N z s i) x ↔ Cl G H k (opt G z s i) x) := by
      intro s i s1 s2 i1 i2
      have o := (opS_r hD.1 ⟨s1, s2⟩).2.2 i i1 i2
      rw [g.op ⟨z1, z2⟩ ⟨s1, s2⟩ ⟨i1, i2⟩]
      exact ih _ x o.1 (by omega)
    constructor
    · rintro (q | ⟨q, s, i, s1, s2, i1, i2, q2⟩)
      · exact Or.inl q
      · rw [g.ct ⟨z1, z2⟩ ⟨s1, s2⟩] at i2
        exact Or.inr ⟨q, s, i, s1, s2, i1, i2, (st s i s1 s2 i1 i2).mp q2⟩
    · rintro (q | ⟨q, s, i, s1, s2, i1, i2, q2⟩)
      · exact Or.inl q
      · exact Or.inr ⟨q, s, i, s1, s2, i1, by rw [g.ct ⟨z1, z2⟩ ⟨s1, s2⟩]; exact i2, (st s i s1 s2 i1 i2).mpr q2⟩
theorem RepG.cg {G N X : Mem} {n z : Int} (g : Ag G N n) (hG : Good n G) (hz : 0 ≤ z ∧ z < n) (h : RepG G X z) : RepG N X z := by
  obtain ⟨⟨a1, a2, a3⟩, ⟨b1, b2, b3, b4, b5⟩, c, ⟨d1, d2, d3, d4⟩, ⟨f1, f2⟩, k1, k2⟩ := h
  have e : ∀ c, (c = 1 ∨ (5 ≤ c ∧ c ≤ 11) ∨ c = 13 ∨ c = 14) → N c z = G c z := fun c hc => g.1 c z hc hz.1 hz.2
  refine ⟨⟨a1, by rw [e 1 (by omega)]; exact a2, fun q => ?_⟩, ⟨by rw [e 5 (by omega)]; exact b1, by rw [ln_cgG g hG hz]; exact b2, by rw [e 6 (by omega)]; exact b3, by rw [e 13 (by omega)]; exact b4, by rw [e 14 (by omega)]; exact b5⟩, fun s s1 s2 => ?_, ⟨by rw [e 10 (by omega)]; exact d1, by rw [e 8 (by omega)]; exact d2, by rw [e 11 (by omega)]; exact d3, by rw [e 9 (by omega)]; exact d4⟩, ⟨f1, fun x x1 x2 => ?_⟩, k1, fun x x1 x2 => ?_⟩
  · rw [e 1 (by omega)] at q
    rw [g.2.2.2.2.2 z hz.1 hz.2 q]; exact a3 q
  · obtain ⟨c1, c2, c3⟩ := c s s1 s2
    rw [g.ct hz ⟨s1, s2⟩]
    refine ⟨c1, fun i i1 i2 => by rw [g.op hz ⟨s1, s2⟩ ⟨i1, i2⟩]; exact c2 i i1 i2, fun q => ?_⟩
    rw [e 1 (by omega)] at q
    exact ⟨(c3 q).1, (rowW_cg g hz ⟨s1, s2⟩).mpr (c3 q).2⟩
  · rw [f2 x x1 x2]
    exact (cl_cg g hG (fun _ _ _ => Iff.rfl) 6 z x hz.1 hz.2).symm
  · rw [k2 x x1 x2]
    exact (cl_cg g hG (fun y y1 y2 => by show N 6 y = 0 ↔ G 6 y = 0; rw [g.1 6 y (by omega) y1 y2]) 6 z x hz.1 hz.2).symm
theorem RepX.cg {G N X : Mem} {n : Int} (g : Ag G N n) (h0 : N 0 0 = n) (h : RepX G X n) : RepX N X n := by
  obtain ⟨a, b, c, d, e⟩ := h
  exact ⟨a, h0, c.cg g, fun z z1 z2 => (d z z1 z2).cg g c ⟨z1, z2⟩, fun z h z1 z2 h1 h2 => by rw [g.2.2.2.2.1 z h z1 z2 h1 h2]; exact e z h z1 z2 h1 h2⟩
