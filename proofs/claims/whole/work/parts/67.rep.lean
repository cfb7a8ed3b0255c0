/-! ===== the class's memory X holds the games of G ===== -/
abbrev AllG : Int → Prop := fun _ => True
abbrev HotG (G : Mem) : Int → Prop := fun y => G 6 y = 0
def RepG (G X : Mem) (z : Int) : Prop :=
  ((X 45 z = 0 ∨ X 45 z = 1) ∧ (X 45 z = 1 ↔ G 1 z = 0) ∧ (G 1 z ≠ 0 → G 2 z = 128 * X 46 z)) ∧
  (X 47 z = G 5 z ∧ X 48 z = Ln G z ∧ X 49 z = G 6 z ∧ X 50 z = G 13 z ∧ X 51 z = G 14 z) ∧
  (∀ s, 0 ≤ s → s ≤ 1 → X 41 (40 * s + z) = G 3 (2 * z + s) ∧ (∀ i, 0 ≤ i → i < G 3 (2 * z + s) → X 42 (40 * (4 * s + i) + z) = opt G z s i) ∧ (G 1 z = 0 → Wd40 (X 40 (40 * s + z)) z ∧ RowW G z s (X 40 (40 * s + z)))) ∧
  (X 43 (40 * 0 + z) = G 10 z ∧ X 43 (40 * 1 + z) = G 8 z ∧ X 44 (40 * 0 + z) = G 11 z ∧ X 44 (40 * 1 + z) = G 9 z) ∧
  (Wd40 (X 52 z) (z + 1) ∧ ∀ x, 0 ≤ x → x < 40 → (tb (X 52 z) x = true ↔ Pt G AllG z x)) ∧
  (Wd40 (X 53 z) (z + 1) ∧ ∀ x, 0 ≤ x → x < 40 → (tb (X 53 z) x = true ↔ Pt G (HotG G) z x))
def RepB (G X : Mem) (n : Int) : Prop := ∀ z h, 0 ≤ z → z < n → 0 ≤ h → h < n → (tb (X 5 z) h = true ↔ G 12 (40 * z + h) = 1)
def RepX (G X : Mem) (n : Int) : Prop := X 4 0 = n ∧ G 0 0 = n ∧ Good n G ∧ (∀ z, 0 ≤ z → z < n → RepG G X z) ∧ RepB G X n
/-- a game's places are as before -/
theorem RepG.cx {G X Y : Mem} {z : Int} (h : RepG G X z) (e : ∀ c i, OwnX z c i → Y c i = X c i) (hb : ∀ s, 0 ≤ s → s ≤ 1 → G 3 (2 * z + s) ≤ 4) : RepG G Y z := by
  have e1 : ∀ c, 45 ≤ c → c ≤ 53 → Y c z = X c z := fun c c1 c2 => e c z (Or.inl ⟨⟨c1, c2⟩, rfl⟩)
  have e2 : ∀ c s, (c = 40 ∨ c = 41 ∨ c = 43 ∨ c = 44) → 0 ≤ s → s ≤ 1 → Y c (40 * s + z) = X c (40 * s + z) := fun c s hc s1 s2 => e c _ (Or.inr (Or.inl ⟨hc, by omega⟩))
  obtain ⟨⟨a1, a2, a3⟩, ⟨b1, b2, b3, b4, b5⟩, c, ⟨d1, d2, d3, d4⟩, f, k⟩ := h
  unfold RepG
  rw [e1 45 (by omega) (by omega), e1 46 (by omega) (by omega), e1 47 (by omega) (by omega), e1 48 (by omega) (by omega), e1 49 (by omega) (by omega), e1 50 (by omega) (by omega), e1 51 (by omega) (by omega), e1 52 (by omega) (by omega), e1 53 (by omega) (by omega), e2 43 0 (by omega) (by omega) (by omega), e2 43 1 (by omega) (by omega) (by omega), e2 44 0 (by omega) (by omega) (by omega), e2 44 1 (by omega) (by omega) (by omega)]
  refine ⟨⟨a1, a2, a3⟩, ⟨b1, b2, b3, b4, b5⟩, fun s s1 s2 => ?_, ⟨d1, d2, d3, d4⟩, f, k⟩
  obtain ⟨c1, c2, c3⟩ := c s s1 s2
  have := hb s s1 s2
  rw [e2 41 s (by omega) s1 s2, e2 40 s (by omega) s1 s2]
  refine ⟨c1, fun i i1 i2 => ?_, c3⟩
  rw [e 42 _ (Or.inr (Or.inr ⟨rfl, 4 * s + i, by omega, by omega, rfl⟩))]
  exact c2 i i1 i2
