/-! ===== theory: T1, T2, T3 by one induction ===== -/
/-- a >= b in the table -/
abbrev AL (G : Mem) (a b : Int) : Prop := G 12 (40 * a + b) = 1
def TT1 (G : Mem) (a b : Int) : Prop := ∀ x, -20480 ≤ x → x ≤ 20480 → AL G a b → geM G b x → geM G a x
def TT2 (G : Mem) (a b : Int) : Prop := ∀ x, -20480 ≤ x → x ≤ 20480 → AL G a b → leM G a x → leM G b x
def TT3 (G : Mem) (a b : Int) : Prop := ∀ x, -20480 ≤ x → x ≤ 20480 → geM G a x → leM G b x → AL G a b
theorem not_all_ex {c : Int} {P : Int → Prop} (h : ¬ ∀ i, 0 ≤ i → i < c → ¬ P i) : ∃ i, 0 ≤ i ∧ i < c ∧ P i := by
  apply Classical.byContradiction
  intro q
  exact h (fun i h1 h2 h3 => q ⟨i, h1, h2, h3⟩)
theorem TT {G : Mem} {n : Int} (hG : ∀ z, 0 ≤ z → z < n → Ord G z) : ∀ (m : Nat) (a b : Int), 0 ≤ a → a < n → 0 ≤ b → b < n → a + b < m → TT1 G a b ∧ TT2 G a b ∧ TT3 G a b := by
  intro m
  induction m with
  | zero => intro a b h1 h2 h3 h4 h5; omega
  | succ m ih =>
    intro a b a0 an b0 bn hm
    have oa := hG a a0 an
    have ob := hG b b0 bn
    have va := oa.2.2.1
    have vb := ob.2.2.1
    obtain ⟨-, alab⟩ := or_al hG ⟨a0, an⟩ ⟨b0, bn⟩
    -- options of a on the right, of b on the left
    have ra : ∀ i, 0 ≤ i → i < G 3 (2 * a + 1) → 0 ≤ G 4 (8 * a + 4 * 1 + i) ∧ G 4 (8 * a + 4 * 1 + i) < a := fun i h1 h2 => ⟨((oa.1.1 1 (by omega) (by omega)).2 i h1 h2).1, oa.1.2 1 (by omega) (by omega) i h1 h2⟩
    have lb : ∀ i, 0 ≤ i → i < G 3 (2 * b + 0) → 0 ≤ G 4 (8 * b + 4 * 0 + i) ∧ G 4 (8 * b + 4 * 0 + i) < b := fun i h1 h2 => ⟨((ob.1.1 0 (by omega) (by omega)).2 i h1 h2).1, ob.1.2 0 (by omega) (by omega) i h1 h2⟩
    -- T3 at smaller pairs
    have t3r : ∀ i, 0 ≤ i → i < G 3 (2 * a + 1) → TT3 G b (G 4 (8 * a + 4 * 1 + i)) := fun i h1 h2 => (ih b _ b0 bn (ra i h1 h2).1 (by have := (ra i h1 h2).2; omega) (by have := (ra i h1 h2).2; omega)).2.2
    have t3l : ∀ i, 0 ≤ i → i < G 3 (2 * b + 0) → TT3 G (G 4 (8 * b + 4 * 0 + i)) a := fun i h1 h2 => (ih _ a (lb i h1 h2).1 (by have := (lb i h1 h2).2; omega) a0 an (by have := (lb i h1 h2).2; omega)).2.2
    -- both composed and a >= b: what cannot be
    have noR : G 1 a = 0 → G 1 b = 0 → AL G a b → ∀ y, -20480 ≤ y → y ≤ 20480 → geM G b y → NRg G a y := by
      intro h1 h2 h3 y y1 y2 hy i i1 i2 q
      rcases alab.mp h3 with k | k | ⟨-, -, k3, k4⟩
      · exact k.1 h2
      · exact k.2.1 h1
      · have := t3r i i1 i2 y y1 y2 hy q
        have := k3 i i1 i2
        omega
    have noL : G 1 a = 0 → G 1 b = 0 → AL G a b → ∀ y, -20480 ≤ y → y ≤ 20480 → leM G a y → NLg G b y := by
      intro h1 h2 h3 y y1 y2 hy i i1 i2 q
      rcases alab.mp h3 with k | k | ⟨-, -, k3, k4⟩
      · exact k.1 h2
      · exact k.2.1 h1
      · have := t3l i i1 i2 y y1 y2 q hy
        have := k4 i i1 i2
        omega
    -- two cold composed games, a's value below b's, a >= b: impossible
    have cc : G 1 a = 0 → G 1 b = 0 → AL G a b → G 6 a = 1 → G 6 b = 1 → G 7 a < G 7 b → False := by
      intro h1 h2 h3 ca cb hlt
      have sa := or_bet oa h1 ca
      have sb := or_bet ob h2 cb
      have ga := (bet_ch (by omega)).mp sa.1
      have gb := (bet_ch (by omega)).mp sb.1
      refine smp_lt sa sb hlt ((bet_ch (by omega)).mpr ⟨NL_up ga.1 (by omega), ?_⟩) ((bet_ch (by omega)).mpr ⟨?_, NR_dn gb.2 (by omega)⟩)
      · exact noR h1 h2 h3 (G 7 b) vb.1 vb.2 ((or_cold ob cb _).1.mpr (Int.le_refl _))
      · exact noL h1 h2 h3 (G 7 a) va.1 va.2 ((or_cold oa ca _).2.mpr (Int.le_refl _))
    refine ⟨?_, ?_, ?_⟩
    · intro x x1 x2 hal hge
      by_cases hb1 : G 1 b = 0
      · by_cases ha1 : G 1 a = 0
        · have hNR := noR ha1 hb1 hal x x1 x2 hge
          rcases oa.2.1.1 with ca | ca
          · exact (or_hot oa ca (by omega)).1.mpr hNR
          · refine (or_cold oa ca x).1.mpr (Classical.byContradiction fun hlt => ?_)
            rcases ob.2.1.1 with cb | cb
            · -- b hot: b <= value of a
              have hNL := noL ha1 hb1 hal (G 7 a) va.1 va.2 ((or_cold oa ca _).2.mpr (Int.le_refl _))
              have := or_lg ob ((or_hot ob cb (by omega)).2.mpr hNL) hge
              omega
            · have := (or_cold ob cb x).1.mp hge
              exact cc ha1 hb1 hal ca cb (by omega)
        · obtain ⟨ca, ea⟩ := or_num oa ha1
          rcases alab.mp hal with k | k | k
          · exact absurd hb1 k.1
          · have := or_lg ob k.2.2 hge
            exact (or_cold oa ca x).1.mpr (by omega)
          · exact absurd k.2.1 ha1
      · obtain ⟨cb, eb⟩ := or_num ob hb1
        rcases alab.mp hal with k | k | k
        · have := (or_cold ob cb x).1.mp hge
          exact ge_dn k.2 (by omega)
        · exact absurd k.1 hb1
        · exact absurd k.1 hb1
    · intro x x1 x2 hal hle
      by_cases hb1 : G 1 b = 0
      · by_cases ha1 : G 1 a = 0
        · have hNL := noL ha1 hb1 hal x x1 x2 hle
          rcases ob.2.1.1 with cb | cb
          · exact (or_hot ob cb (by omega)).2.mpr hNL
          · refine (or_cold ob cb x).2.mpr (Classical.byContradiction fun hlt => ?_)
            rcases oa.2.1.1 with ca | ca
            · have hNR := noR ha1 hb1 hal (G 7 b) vb.1 vb.2 ((or_cold ob cb _).1.mpr (Int.le_refl _))
              have := or_lg oa hle ((or_hot oa ca (by omega)).1.mpr hNR)
              omega
            · have := (or_cold oa ca x).2.mp hle
              exact cc ha1 hb1 hal ca cb (by omega)
        · obtain ⟨ca, ea⟩ := or_num oa ha1
          rcases alab.mp hal with k | k | k
          · exact absurd hb1 k.1
          · have := (or_cold oa ca x).2.mp hle
            exact le_up k.2.2 (by omega)
          · exact absurd k.2.1 ha1
      · obtain ⟨cb, eb⟩ := or_num ob hb1
        rcases alab.mp hal with k | k | k
        · have := or_lg oa hle k.2
          exact (or_cold ob cb x).2.mpr (by omega)
        · exact absurd k.1 hb1
        · exact absurd k.1 hb1
    · intro x x1 x2 hge hle
      apply alab.mpr
      by_cases hb1 : G 1 b = 0
      · by_cases ha1 : G 1 a = 0
        · refine Or.inr (Or.inr ⟨hb1, ha1, fun i i1 i2 => ?_, fun i i1 i2 => ?_⟩)
          · have ho := ra i i1 i2
            have h01 := (or_al hG ⟨b0, bn⟩ (show 0 ≤ G 4 (8 * a + 4 * 1 + i) ∧ G 4 (8 * a + 4 * 1 + i) < n by omega)).1
            rcases h01 with q | q
            · exact q
            · have t2 := (ih b _ b0 bn ho.1 (by omega) (by omega)).2.1 x x1 x2 q hle
              exact absurd t2 (or_NR oa ha1 (by omega) hge i i1 i2)
          · have ho := lb i i1 i2
            have h01 := (or_al hG (show 0 ≤ G 4 (8 * b + 4 * 0 + i) ∧ G 4 (8 * b + 4 * 0 + i) < n by omega) ⟨a0, an⟩).1
            rcases h01 with q | q
            · exact q
            · have t1 := (ih _ a ho.1 (by omega) a0 an (by omega)).1 x x1 x2 q hge
              exact absurd t1 (or_NL ob hb1 (by omega) hle i i1 i2)
        · obtain ⟨ca, ea⟩ := or_num oa ha1
          have := (or_cold oa ca x).1.mp hge
          exact Or.inr (Or.inl ⟨hb1, ha1, le_up hle (by omega)⟩)
      · obtain ⟨cb, eb⟩ := or_num ob hb1
        have := (or_cold ob cb x).2.mp hle
        exact Or.inl ⟨hb1, ge_dn hge (by omega)⟩
/-- the table's word on a cold game is its value's -/
theorem al_cold {G : Mem} {n a b : Int} (hG : ∀ z, 0 ≤ z → z < n → Ord G z) (ha : 0 ≤ a ∧ a < n) (hb : 0 ≤ b ∧ b < n) (cb : G 6 b = 1) : AL G a b ↔ geM G a (G 7 b) := by
  have ob := hG b hb.1 hb.2
  have vb := ob.2.2.1
  obtain ⟨t1, -, t3⟩ := TT hG (a + b + 1).toNat a b ha.1 ha.2 hb.1 hb.2 (by omega)
  exact ⟨fun h => t1 _ vb.1 vb.2 h ((or_cold ob cb _).1.mpr (Int.le_refl _)), fun h => t3 _ vb.1 vb.2 h ((or_cold ob cb _).2.mpr (Int.le_refl _))⟩
theorem al_cold2 {G : Mem} {n a b : Int} (hG : ∀ z, 0 ≤ z → z < n → Ord G z) (ha : 0 ≤ a ∧ a < n) (hb : 0 ≤ b ∧ b < n) (ca : G 6 a = 1) : AL G a b ↔ leM G b (G 7 a) := by
  have oa := hG a ha.1 ha.2
  have va := oa.2.2.1
  obtain ⟨-, t2, t3⟩ := TT hG (a + b + 1).toNat a b ha.1 ha.2 hb.1 hb.2 (by omega)
  exact ⟨fun h => t2 _ va.1 va.2 h ((or_cold oa ca _).2.mpr (Int.le_refl _)), fun h => t3 _ va.1 va.2 ((or_cold oa ca _).1.mpr (Int.le_refl _)) h⟩
