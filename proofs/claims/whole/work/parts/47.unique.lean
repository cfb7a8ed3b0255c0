/-! ===== good games: uniqueness ===== -/
theorem smp_uq {P : Int → Prop} {u v : Int} (hu : Smp P u) (hv : Smp P v) : u = v := by
  rcases Int.lt_trichotomy u v with h | h | h
  · exact absurd hv.1 (fun _ => smp_lt hu hv h hv.1 hu.1)
  · exact h
  · exact absurd hu.1 (fun _ => smp_lt hv hu h hu.1 hv.1)
theorem al_loc {M N : Mem} {a b : Int} (ha : ∀ c, (c = 1 ∨ (8 ≤ c ∧ c ≤ 11)) → N c a = M c a ∧ N c b = M c b) (n2 : M 1 a ≠ 0 → N 2 a = M 2 a) (n1 : M 1 b ≠ 0 → N 2 b = M 2 b) (ca : N 3 (2 * a + 1) = M 3 (2 * a + 1)) (cb : N 3 (2 * b + 0) = M 3 (2 * b + 0))
    (q1 : ∀ i, 0 ≤ i → i < M 3 (2 * a + 1) → N 12 (40 * b + N 4 (8 * a + 4 * 1 + i)) = M 12 (40 * b + M 4 (8 * a + 4 * 1 + i))) (q2 : ∀ i, 0 ≤ i → i < M 3 (2 * b + 0) → N 12 (40 * N 4 (8 * b + 4 * 0 + i) + a) = M 12 (40 * M 4 (8 * b + 4 * 0 + i) + a)) : ALf N a b ↔ ALf M a b := by
  unfold ALf geM leM
  rw [(ha 1 (by omega)).1, (ha 1 (by omega)).2, (ha 8 (by omega)).1, (ha 9 (by omega)).1, (ha 10 (by omega)).2, (ha 11 (by omega)).2, ca, cb]
  constructor
  · rintro (k | k | ⟨k1, k2, k3, k4⟩)
    · exact Or.inl ⟨k.1, by rw [← n1 k.1]; exact k.2⟩
    · exact Or.inr (Or.inl ⟨k.1, k.2.1, by rw [← n2 k.2.1]; exact k.2.2⟩)
    · exact Or.inr (Or.inr ⟨k1, k2, fun i i1 i2 => by rw [← q1 i i1 i2]; exact k3 i i1 i2, fun i i1 i2 => by rw [← q2 i i1 i2]; exact k4 i i1 i2⟩)
  · rintro (k | k | ⟨k1, k2, k3, k4⟩)
    · exact Or.inl ⟨k.1, by rw [n1 k.1]; exact k.2⟩
    · exact Or.inr (Or.inl ⟨k.1, k.2.1, by rw [n2 k.2.1]; exact k.2.2⟩)
    · exact Or.inr (Or.inr ⟨k1, k2, fun i i1 i2 => by rw [q1 i i1 i2]; exact k3 i i1 i2, fun i i1 i2 => by rw [q2 i i1 i2]; exact k4 i i1 i2⟩)
/-- two good games of the same data over the same games are the same -/
theorem gg_uq {M N : Mem} {z : Int} (hz : 0 ≤ z ∧ z < 40) (g : Ag M N z) (hM : GG M z) (hN : GG N z) (ho : ∀ o, 0 ≤ o → o < z → OpS M o) (e1 : N 1 z = M 1 z) (e2' : M 1 z ≠ 0 → N 2 z = M 2 z) (e5 : N 5 z = M 5 z) (e3 : ∀ s, 0 ≤ s → s ≤ 1 → N 3 (2 * z + s) = M 3 (2 * z + s)) (e4 : ∀ s i, 0 ≤ s → s ≤ 1 → 0 ≤ i → i < M 3 (2 * z + s) → opt N z s i = opt M z s i) : Ag M N (z + 1) := by
  obtain ⟨hD, ⟨hO, hV, -, hA⟩, hC, hH, hI⟩ := hM
  obtain ⟨hD', ⟨hO', hV', -, hA'⟩, hC', hH', hI'⟩ := hN
  have r0 := opS_r hO (s := 0) (by omega)
  have r1 := opS_r hO (s := 1) (by omega)
  have elo : loF N z = loF M z := by
    unfold loF
    rw [e3 0 (by omega) (by omega)]
    exact loS_cl (fun i i1 i2 => ⟨e4 0 i (by omega) (by omega) i1 (by omega), g.1 8 _ (by omega) (r0.2.2 i i1 i2).1 (r0.2.2 i i1 i2).2, g.1 9 _ (by omega) (r0.2.2 i i1 i2).1 (r0.2.2 i i1 i2).2⟩) _ (by omega)
  have eup : upF N z = upF M z := by
    unfold upF
    rw [e3 1 (by omega) (by omega)]
    exact upS_cl (fun i i1 i2 => ⟨e4 1 i (by omega) (by omega) i1 (by omega), g.1 10 _ (by omega) (r1.2.2 i i1 i2).1 (r1.2.2 i i1 i2).2, g.1 11 _ (by omega) (r1.2.2 i i1 i2).1 (r1.2.2 i i1 i2).2⟩) _ (by omega)
  have etx : ∀ s k, 0 ≤ s ∧ s ≤ 1 → 0 ≤ k ∧ k < 7200 → txF N z s k = txF M z s k := by
    intro s k hs hk
    have rs := opS_r hO hs
    unfold txF
    rw [e3 s hs.1 hs.2, txS_cl (fun i i1 i2 => ⟨e4 s i hs.1 hs.2 i1 (by omega), g.sm (rs.2.2 i i1 i2) (by omega) hk⟩) _ (by omega)]
  rw [elo, eup, e1] at hV'
  have hV' := ValE.ce (e' := M 2 z) (fun q => (e2' q).symm) hV'
  obtain ⟨v0, v1, v2, v3, v4⟩ := hV
  obtain ⟨w0, w1, w2, w3, w4⟩ := hV'
  have e6 : N 6 z = M 6 z := by
    by_cases h1 : M 1 z = 0
    · have a := (v2 h1).1
      have b := (w2 h1).1
      rcases v0 with q | q <;> rcases w0 with k | k
      · omega
      · have := a.mpr (b.mp k); omega
      · have := b.mpr (a.mp q); omega
      · omega
    · have := (v1 h1).1; have := (w1 h1).1; omega
  have e7 : N 7 z = M 7 z := by
    by_cases h1 : M 1 z = 0
    · rcases v0 with q | q
      · have := (v4 q).1; have := (w4 (by omega)).1; omega
      · exact smp_uq ((w2 h1).2 (by omega)) ((v2 h1).2 q)
    · have := (v1 h1).2; have := (w1 h1).2; omega
  have e811 : N 8 z = M 8 z ∧ N 9 z = M 9 z ∧ N 10 z = M 10 z ∧ N 11 z = M 11 z := by
    rcases v0 with q | q
    · have := v4 q; have := w4 (by omega); omega
    · have := v3 q; have := w3 (by omega); omega
  have ew : N 13 z = M 13 z ∧ N 14 z = M 14 z ∧ ∀ s j, 0 ≤ s → s ≤ 1 → 0 ≤ j → j < 7200 → smpl N z s j = smpl M z s j := by
    rcases v0 with q | q
    · obtain ⟨-, -, kt, k1, k2, k3, k4, k5, k6, k7, k8⟩ := hH q
      obtain ⟨-, -, kt', l1, l2, l3, l4, l5, l6, l7, l8⟩ := hH' (by omega)
      have hd := hD.2.2.1
      have hkt : kt' = kt := by
        rcases Int.lt_trichotomy kt' kt with h | h | h
        · have a := k7 kt' l1 h
          rw [etx 0 kt' (by omega) (by omega)] at l5
          rw [etx 1 kt' (by omega) (by omega)] at l6
          omega
        · exact h
        · have a := l7 kt k1 h
          rw [etx 0 kt (by omega) (by omega), etx 1 kt (by omega) (by omega)] at a
          omega
      subst hkt
      rw [etx 0 kt' (by omega) (by omega)] at l5
      refine ⟨by omega, by omega, fun s j s1 s2 j1 j2 => ?_⟩
      rw [l8 s j s1 s2 j1 j2, k8 s j s1 s2 j1 j2, etx s j ⟨s1, s2⟩ ⟨j1, j2⟩]
      split
      · rfl
      · omega
    · obtain ⟨c1, c2, c3⟩ := hC q
      obtain ⟨d1, d2, d3⟩ := hC' (by omega)
      refine ⟨by omega, by omega, fun s j s1 s2 j1 j2 => ?_⟩
      rw [d3 s j s1 s2 j1 j2, c3 s j s1 s2 j1 j2, e7]
  have ecol : ∀ c, (c = 1 ∨ (8 ≤ c ∧ c ≤ 11)) → N c z = M c z := by
    intro c hc
    rcases (show c = 1 ∨ c = 8 ∨ c = 9 ∨ c = 10 ∨ c = 11 by omega) with rfl | rfl | rfl | rfl | rfl
    · exact e1
    · exact e811.1
    · exact e811.2.1
    · exact e811.2.2.1
    · exact e811.2.2.2
  have e12 : ∀ m : Nat, ∀ x, 0 ≤ x → x ≤ z → x < m → N 12 (40 * z + x) = M 12 (40 * z + x) ∧ N 12 (40 * x + z) = M 12 (40 * x + z) := by
    intro m
    induction m with
    | zero => intro x x1 x2 x3; omega
    | succ m ih =>
      intro x x1 x2 x3
      have ox : OpS M x := by
        by_cases hx : x = z
        · subst hx; exact hO
        · exact ho x x1 (by omega)
      have rx0 := opS_r ox (s := 0) (by omega)
      have rx1 := opS_r ox (s := 1) (by omega)
      have cx : ∀ c, (c = 1 ∨ (8 ≤ c ∧ c ≤ 11)) → N c x = M c x := fun c hc => by
        by_cases hx : x = z
        · subst hx; exact ecol c hc
        · exact g.1 c x (by omega) x1 (by omega)
      have c3 : ∀ s, 0 ≤ s → s ≤ 1 → N 3 (2 * x + s) = M 3 (2 * x + s) := fun s s1 s2 => by
        by_cases hx : x = z
        · subst hx; exact e3 s s1 s2
        · exact g.ct ⟨x1, by omega⟩ ⟨s1, s2⟩
      have nx : M 1 x ≠ 0 → N 2 x = M 2 x := fun q => by
        by_cases hx : x = z
        · subst hx; exact e2' q
        · exact g.2.2.2.2.2 x x1 (by omega) q
      have c4 : ∀ s i, 0 ≤ s → s ≤ 1 → 0 ≤ i → i < M 3 (2 * x + s) → N 4 (8 * x + 4 * s + i) = M 4 (8 * x + 4 * s + i) := fun s i s1 s2 i1 i2 => by
        by_cases hx : x = z
        · subst hx; exact e4 s i s1 s2 i1 i2
        · exact g.op ⟨x1, by omega⟩ ⟨s1, s2⟩ ⟨i1, i2⟩
      have old : ∀ a b, 0 ≤ a → a < z → 0 ≤ b → b < z → N 12 (40 * a + b) = M 12 (40 * a + b) := g.2.2.2.2.1
      have A1 : ALf N z x ↔ ALf M z x := by
        refine al_loc (fun c hc => ⟨ecol c hc, cx c hc⟩) e2' nx (e3 1 (by omega) (by omega)) (c3 0 (by omega) (by omega)) (fun i i1 i2 => ?_) (fun i i1 i2 => ?_)
        · have e := e4 1 i (by omega) (by omega) i1 (by omega)
          have r := r1.2.2 i i1 i2
          simp only [opt] at e r
          rw [e]
          by_cases hx : x = z
          · subst hx; exact (ih _ r.1 (by omega) (by omega)).1
          · exact old x _ x1 (by omega) r.1 r.2
        · have e := c4 0 i (by omega) (by omega) i1 (by omega)
          have r := rx0.2.2 i i1 i2
          simp only [opt] at r
          rw [e]
          exact (ih _ r.1 (by omega) (by omega)).2
      have A2 : ALf N x z ↔ ALf M x z := by
        refine al_loc (fun c hc => ⟨cx c hc, ecol c hc⟩) nx e2' (c3 1 (by omega) (by omega)) (e3 0 (by omega) (by omega)) (fun i i1 i2 => ?_) (fun i i1 i2 => ?_)
        · have e := c4 1 i (by omega) (by omega) i1 (by omega)
          have r := rx1.2.2 i i1 i2
          simp only [opt] at r
          rw [e]
          exact (ih _ r.1 (by omega) (by omega)).1
        · have e := e4 0 i (by omega) (by omega) i1 (by omega)
          have r := r0.2.2 i i1 i2
          simp only [opt] at e r
          rw [e]
          by_cases hx : x = z
          · subst hx; exact (ih _ r.1 (by omega) (by omega)).2
          · exact old _ x r.1 r.2 x1 (by omega)
      obtain ⟨⟨a01, a02⟩, a1, a2⟩ := hA x x1 x2
      obtain ⟨⟨b01, b02⟩, b1, b2⟩ := hA' x x1 x2
      have i1 : N 12 (40 * z + x) = 1 ↔ M 12 (40 * z + x) = 1 := b1.trans (A1.trans a1.symm)
      have i2 : N 12 (40 * x + z) = 1 ↔ M 12 (40 * x + z) = 1 := b2.trans (A2.trans a2.symm)
      constructor
      · rcases a01 with q | q <;> rcases b01 with k | k
        · omega
        · have := i1.mp k; omega
        · have := i1.mpr q; omega
        · omega
      · rcases a02 with q | q <;> rcases b02 with k | k
        · omega
        · have := i2.mp k; omega
        · have := i2.mpr q; omega
        · omega
  refine ⟨fun c i q i1 i2 => ?_, fun i i1 i2 => ?_, fun y s i y1 y2 s1 s2 i1 i2 => ?_, fun i i1 i2 => ?_, fun x y x1 x2 y1 y2 => ?_, fun y y1 y2 q => ?_⟩
  · by_cases hi : i = z
    · subst hi
      rcases (show c = 1 ∨ c = 5 ∨ c = 6 ∨ c = 7 ∨ c = 8 ∨ c = 9 ∨ c = 10 ∨ c = 11 ∨ c = 13 ∨ c = 14 by omega) with rfl | rfl | rfl | rfl | rfl | rfl | rfl | rfl | rfl | rfl
      · exact e1
      · exact e5
      · exact e6
      · exact e7
      · exact e811.1
      · exact e811.2.1
      · exact e811.2.2.1
      · exact e811.2.2.2
      · exact ew.1
      · exact ew.2.1
    · exact g.1 c i q i1 (by omega)
  · by_cases hi : i < 2 * z
    · exact g.2.1 i i1 hi
    · rw [show i = 2 * z + (i - 2 * z) by omega]; exact e3 _ (by omega) (by omega)
  · by_cases hi : y = z
    · subst hi; exact e4 s i s1 s2 i1 i2
    · exact g.2.2.1 y s i y1 (by omega) s1 s2 i1 i2
  · by_cases hi : i < 14400 * z
    · exact g.2.2.2.1 i i1 hi
    · rw [show i = 7200 * (2 * z + (i - 14400 * z) / 7200) + (i - 14400 * z) % 7200 by omega]; exact ew.2.2 _ _ (by omega) (by omega) (by omega) (by omega)
  · by_cases hx : x = z
    · subst hx; exact (e12 (y + 1).toNat y y1 (by omega) (by omega)).1
    · by_cases hy : y = z
      · subst hy; exact (e12 (x + 1).toNat x x1 (by omega) (by omega)).2
      · exact g.2.2.2.2.1 x y x1 (by omega) y1 (by omega)
  · by_cases hi : y = z
    · subst hi; exact e2' q
    · exact g.2.2.2.2.2 y y1 (by omega) q
