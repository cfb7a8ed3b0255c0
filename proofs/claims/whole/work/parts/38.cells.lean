/-! ===== theory: broken lines on a grid ===== -/
def LinL (f : Int → Int) (k u : Int) : Prop := (∀ j, 0 ≤ j → j ≤ u → f (k + j) = f k) ∨ ∀ j, 0 ≤ j → j ≤ u → f (k + j) = f k - 2 * j
def LinR (f : Int → Int) (k u : Int) : Prop := (∀ j, 0 ≤ j → j ≤ u → f (k + j) = f k) ∨ ∀ j, 0 ≤ j → j ≤ u → f (k + j) = f k + 2 * j
/-- falling (rising) lines: on every cell of the grid flat or of slope one, at its places multiples of it -/
def CL (f : Int → Int) (u : Int) : Prop := ∀ k, 0 ≤ k → u ∣ k → k + u ≤ 7168 → 2 * u ∣ f k ∧ LinL f k u
def CR (f : Int → Int) (u : Int) : Prop := ∀ k, 0 ≤ k → u ∣ k → k + u ≤ 7168 → 2 * u ∣ f k ∧ LinR f k u
theorem dvd_gap {u a b : Int} (hu : 0 < u) (ha : u ∣ a) (hb : u ∣ b) (h : a < b) : a + u ≤ b := by
  have := Int.le_of_dvd (by omega) (Int.dvd_sub hb ha)
  omega
theorem dvd2 {u a : Int} (h : 2 * u ∣ a) : u ∣ a := Int.dvd_trans (Int.dvd_mul_left 2 u) h
/-- the cell of the coarser grid that holds a cell of the finer one -/
theorem cell_of {u k : Int} (hu : 0 < u) (h7 : 2 * u ∣ 7168) (hk : 0 ≤ k) (hd : u ∣ k) (hb : k + u ≤ 7168) : ∃ K, 0 ≤ K ∧ 2 * u ∣ K ∧ K + 2 * u ≤ 7168 ∧ (k = K ∨ k = K + u) := by
  obtain ⟨q, rfl⟩ := hd
  have hq : 0 ≤ q := by
    rcases Int.lt_or_le q 0 with h | h
    · have := Int.mul_neg_of_pos_of_neg hu h
      omega
    · exact h
  rcases (show ∃ p, 0 ≤ p ∧ (q = 2 * p ∨ q = 2 * p + 1) from ⟨q / 2, by omega, by omega⟩) with ⟨p, hp, h | h⟩
  · refine ⟨u * q, hk, ⟨p, by rw [h, Int.mul_assoc, Int.mul_left_comm]⟩, ?_, Or.inl rfl⟩
    have := dvd_gap (u := 2 * u) (a := u * q) (b := 7168) (by omega) ⟨p, by rw [h, Int.mul_assoc, Int.mul_left_comm]⟩ h7 (by omega)
    omega
  · have e : u * q = 2 * u * p + u := by rw [h, Int.mul_add, Int.mul_one, Int.mul_assoc, Int.mul_left_comm]
    have h0 : 0 ≤ 2 * u * p := Int.mul_nonneg (by omega) hp
    exact ⟨2 * u * p, h0, Int.dvd_mul_right _ _, by omega, Or.inr e⟩
theorem CL.fine {f : Int → Int} {u : Int} (hu : 0 < u) (h7 : 2 * u ∣ 7168) (h : CL f (2 * u)) : CL f u := by
  intro k hk hd hb
  obtain ⟨K, hK, hKd, hKb, hkK⟩ := cell_of hu h7 hk hd hb
  obtain ⟨d, l⟩ := h K hK hKd hKb
  have d2 : 2 * u ∣ f K := dvd2 d
  obtain ⟨t, ht, ht2⟩ : ∃ t, k = K + t ∧ (t = 0 ∨ t = u) := by
    rcases hkK with h | h
    · exact ⟨0, by omega, Or.inl rfl⟩
    · exact ⟨u, h, Or.inr rfl⟩
  subst ht
  rcases l with l | l
  · have e := l t (by omega) (by omega)
    refine ⟨by rw [e]; exact d2, Or.inl fun j j1 j2 => ?_⟩
    rw [show K + t + j = K + (t + j) by omega, l (t + j) (by omega) (by omega), e]
  · have e := l t (by omega) (by omega)
    refine ⟨?_, Or.inr fun j j1 j2 => ?_⟩
    · rw [e]
      rcases ht2 with rfl | rfl
      · simpa using d2
      · exact Int.dvd_sub d2 (Int.dvd_refl _)
    · rw [show K + t + j = K + (t + j) by omega, l (t + j) (by omega) (by omega), e]
      omega
theorem CR.fine {f : Int → Int} {u : Int} (hu : 0 < u) (h7 : 2 * u ∣ 7168) (h : CR f (2 * u)) : CR f u := by
  intro k hk hd hb
  obtain ⟨K, hK, hKd, hKb, hkK⟩ := cell_of hu h7 hk hd hb
  obtain ⟨d, l⟩ := h K hK hKd hKb
  have d2 : 2 * u ∣ f K := dvd2 d
  obtain ⟨t, ht, ht2⟩ : ∃ t, k = K + t ∧ (t = 0 ∨ t = u) := by
    rcases hkK with h | h
    · exact ⟨0, by omega, Or.inl rfl⟩
    · exact ⟨u, h, Or.inr rfl⟩
  subst ht
  rcases l with l | l
  · have e := l t (by omega) (by omega)
    refine ⟨by rw [e]; exact d2, Or.inl fun j j1 j2 => ?_⟩
    rw [show K + t + j = K + (t + j) by omega, l (t + j) (by omega) (by omega), e]
  · have e := l t (by omega) (by omega)
    refine ⟨?_, Or.inr fun j j1 j2 => ?_⟩
    · rw [e]
      rcases ht2 with rfl | rfl
      · simpa using d2
      · exact Int.dvd_add d2 (Int.dvd_refl _)
    · rw [show K + t + j = K + (t + j) by omega, l (t + j) (by omega) (by omega), e]
      omega
theorem CR.max {f g : Int → Int} {u : Int} (hu : 0 < u) (hf : CR f u) (hg : CR g u) : CR (fun k => if f k < g k then g k else f k) u := by
  intro k hk hd hb
  obtain ⟨df, lf⟩ := hf k hk hd hb
  obtain ⟨dg, lg⟩ := hg k hk hd hb
  have bf : ∀ j, 0 ≤ j → j ≤ u → f k ≤ f (k + j) ∧ f (k + j) ≤ f k + 2 * j := fun j j1 j2 => by
    rcases lf with l | l
    · have := l j j1 j2; omega
    · have := l j j1 j2; omega
  have bg : ∀ j, 0 ≤ j → j ≤ u → g k ≤ g (k + j) ∧ g (k + j) ≤ g k + 2 * j := fun j j1 j2 => by
    rcases lg with l | l
    · have := l j j1 j2; omega
    · have := l j j1 j2; omega
  simp only
  rcases Int.lt_trichotomy (f k) (g k) with h | h | h
  · have hgap := dvd_gap (by omega) df dg h
    refine ⟨by rw [if_pos h]; exact dg, ?_⟩
    have e : ∀ j, 0 ≤ j → j ≤ u → (if f (k + j) < g (k + j) then g (k + j) else f (k + j)) = g (k + j) := fun j j1 j2 => by
      have := bf j j1 j2
      have := bg j j1 j2
      split <;> omega
    rcases lg with l | l
    · exact Or.inl fun j j1 j2 => by show (if f (k + j) < g (k + j) then g (k + j) else f (k + j)) = (if f k < g k then g k else f k); rw [e j j1 j2, if_pos h, l j j1 j2]
    · exact Or.inr fun j j1 j2 => by show (if f (k + j) < g (k + j) then g (k + j) else f (k + j)) = (if f k < g k then g k else f k) + 2 * j; rw [e j j1 j2, if_pos h, l j j1 j2]
  · refine ⟨by rw [if_neg (by omega)]; exact df, ?_⟩
    rcases lf with l | l
    · rcases lg with l2 | l2
      · exact Or.inl fun j j1 j2 => by
          show (if f (k + j) < g (k + j) then g (k + j) else f (k + j)) = (if f k < g k then g k else f k)
          have := l j j1 j2; have := l2 j j1 j2
          rw [if_neg (by omega), if_neg (by omega)]; omega
      · exact Or.inr fun j j1 j2 => by
          show (if f (k + j) < g (k + j) then g (k + j) else f (k + j)) = (if f k < g k then g k else f k) + 2 * j
          have := l j j1 j2; have := l2 j j1 j2
          rw [if_neg (show ¬ f k < g k by omega)]
          split <;> omega
    · exact Or.inr fun j j1 j2 => by
          show (if f (k + j) < g (k + j) then g (k + j) else f (k + j)) = (if f k < g k then g k else f k) + 2 * j
          have := l j j1 j2; have := bg j j1 j2
          rw [if_neg (show ¬ f k < g k by omega)]
          split <;> omega
  · have hgap := dvd_gap (by omega) dg df h
    refine ⟨by rw [if_neg (by omega)]; exact df, ?_⟩
    have e : ∀ j, 0 ≤ j → j ≤ u → (if f (k + j) < g (k + j) then g (k + j) else f (k + j)) = f (k + j) := fun j j1 j2 => by
      have := bf j j1 j2
      have := bg j j1 j2
      split <;> omega
    rcases lf with l | l
    · exact Or.inl fun j j1 j2 => by show (if f (k + j) < g (k + j) then g (k + j) else f (k + j)) = (if f k < g k then g k else f k); rw [e j j1 j2, if_neg (by omega), l j j1 j2]
    · exact Or.inr fun j j1 j2 => by show (if f (k + j) < g (k + j) then g (k + j) else f (k + j)) = (if f k < g k then g k else f k) + 2 * j; rw [e j j1 j2, if_neg (by omega), l j j1 j2]
theorem CL.neg {f : Int → Int} {u : Int} (h : CL f u) : CR (fun k => -f k) u := by
  intro k hk hd hb
  obtain ⟨d, l⟩ := h k hk hd hb
  refine ⟨Int.dvd_neg.mpr d, ?_⟩
  rcases l with l | l
  · exact Or.inl fun j j1 j2 => by show -f (k + j) = -f k; rw [l j j1 j2]
  · exact Or.inr fun j j1 j2 => by show -f (k + j) = -f k + 2 * j; rw [l j j1 j2]; omega
theorem CR.neg {f : Int → Int} {u : Int} (h : CR f u) : CL (fun k => -f k) u := by
  intro k hk hd hb
  obtain ⟨d, l⟩ := h k hk hd hb
  refine ⟨Int.dvd_neg.mpr d, ?_⟩
  rcases l with l | l
  · exact Or.inl fun j j1 j2 => by show -f (k + j) = -f k; rw [l j j1 j2]
  · exact Or.inr fun j j1 j2 => by show -f (k + j) = -f k - 2 * j; rw [l j j1 j2]; omega
/-- only the places that the grid reaches count -/
theorem CL.cg {f g : Int → Int} {u : Int} (hu : 0 < u) (h : CL f u) (e : ∀ k, 0 ≤ k → k ≤ 7168 → g k = f k) : CL g u := by
  intro k hk hd hb
  obtain ⟨d, l⟩ := h k hk hd hb
  refine ⟨by rw [e k hk (by omega)]; exact d, ?_⟩
  rcases l with l | l
  · exact Or.inl fun j j1 j2 => by rw [e _ (by omega) (by omega), e k hk (by omega)]; exact l j j1 j2
  · exact Or.inr fun j j1 j2 => by rw [e _ (by omega) (by omega), e k hk (by omega)]; exact l j j1 j2
theorem CR.cg {f g : Int → Int} {u : Int} (hu : 0 < u) (h : CR f u) (e : ∀ k, 0 ≤ k → k ≤ 7168 → g k = f k) : CR g u := by
  intro k hk hd hb
  obtain ⟨d, l⟩ := h k hk hd hb
  refine ⟨by rw [e k hk (by omega)]; exact d, ?_⟩
  rcases l with l | l
  · exact Or.inl fun j j1 j2 => by rw [e _ (by omega) (by omega), e k hk (by omega)]; exact l j j1 j2
  · exact Or.inr fun j j1 j2 => by rw [e _ (by omega) (by omega), e k hk (by omega)]; exact l j j1 j2
theorem CL.min {f g : Int → Int} {u : Int} (hu : 0 < u) (hf : CL f u) (hg : CL g u) : CL (fun k => if g k < f k then g k else f k) u := by
  have h := (CR.max hu hf.neg hg.neg).neg
  refine h.cg hu (fun k _ _ => ?_)
  split <;> split <;> omega
theorem CR.tax {f : Int → Int} {u : Int} (h : CR f u) : CL (fun k => f k - 2 * k) u := by
  intro k hk hd hb
  obtain ⟨d, l⟩ := h k hk hd hb
  refine ⟨Int.dvd_sub d (Int.mul_dvd_mul_left 2 hd), ?_⟩
  rcases l with l | l
  · exact Or.inr fun j j1 j2 => by show f (k + j) - 2 * (k + j) = f k - 2 * k - 2 * j; rw [l j j1 j2]; omega
  · exact Or.inl fun j j1 j2 => by show f (k + j) - 2 * (k + j) = f k - 2 * k; rw [l j j1 j2]; omega
theorem CL.tax {f : Int → Int} {u : Int} (h : CL f u) : CR (fun k => f k + 2 * k) u := by
  intro k hk hd hb
  obtain ⟨d, l⟩ := h k hk hd hb
  refine ⟨Int.dvd_add d (Int.mul_dvd_mul_left 2 hd), ?_⟩
  rcases l with l | l
  · exact Or.inr fun j j1 j2 => by show f (k + j) + 2 * (k + j) = f k + 2 * k + 2 * j; rw [l j j1 j2]; omega
  · exact Or.inl fun j j1 j2 => by show f (k + j) + 2 * (k + j) = f k + 2 * k; rw [l j j1 j2]; omega
/-- every place lies in a cell -/
theorem in_cell {u k : Int} (hu : 0 < u) (h7 : u ∣ 7168) (hk : 0 ≤ k) (hb : k < 7168) : ∃ K j, 0 ≤ K ∧ u ∣ K ∧ K + u ≤ 7168 ∧ 0 ≤ j ∧ j < u ∧ k = K + j := by
  have h1 := Int.mul_ediv_add_emod k u
  have h2 := Int.emod_nonneg k (by omega : u ≠ 0)
  have h3 := Int.emod_lt_of_pos k hu
  have h4 : 0 ≤ u * (k / u) := Int.mul_nonneg (by omega) (Int.ediv_nonneg hk (by omega))
  refine ⟨u * (k / u), k % u, h4, Int.dvd_mul_right _ _, ?_, h2, h3, by omega⟩
  exact dvd_gap hu (Int.dvd_mul_right _ _) h7 (by omega)
/-- one step of a falling line -/
theorem CL.step {f : Int → Int} {u : Int} (hu : 0 < u) (h7 : u ∣ 7168) (h : CL f u) {k : Int} (hk : 0 ≤ k) (hb : k < 7168) : f (k + 1) = f k ∨ f (k + 1) = f k - 2 := by
  obtain ⟨K, j, h1, h2, h3, h4, h5, rfl⟩ := in_cell hu h7 hk hb
  rcases (h K h1 h2 h3).2 with l | l
  · have a := l j (by omega) (by omega)
    have b := l (j + 1) (by omega) (by omega)
    rw [show K + j + 1 = K + (j + 1) by omega]; omega
  · have a := l j (by omega) (by omega)
    have b := l (j + 1) (by omega) (by omega)
    rw [show K + j + 1 = K + (j + 1) by omega]; omega
theorem CR.step {f : Int → Int} {u : Int} (hu : 0 < u) (h7 : u ∣ 7168) (h : CR f u) {k : Int} (hk : 0 ≤ k) (hb : k < 7168) : f (k + 1) = f k ∨ f (k + 1) = f k + 2 := by
  have := h.neg.step hu h7 hk hb
  omega
/-- where a falling line first meets a rising one: at a place of the grid of half the width, and they meet there exactly -/
theorem freeze {a b : Int → Int} {u kt : Int} (hu : 0 < u) (h7 : 2 * u ∣ 7168) (ha : CL a (2 * u)) (hb : CR b (2 * u)) (h0 : b 0 ≤ a 0) (k0 : 0 ≤ kt) (kb : kt < 7168) (hf : a kt ≤ b kt) (hno : ∀ j, 0 ≤ j → j < kt → b j < a j) : u ∣ kt ∧ a kt = b kt := by
  obtain ⟨K, j, h1, h2, h3, h4, h5, rfl⟩ := in_cell (show 0 < 2 * u by omega) h7 k0 kb
  obtain ⟨da, la⟩ := ha K h1 h2 h3
  obtain ⟨db, lb⟩ := hb K h1 h2 h3
  by_cases hj : j = 0
  · subst hj
    rw [Int.add_zero] at *
    refine ⟨dvd2 h2, ?_⟩
    by_cases hK : K = 0
    · subst hK; omega
    · have hp : 0 ≤ K - 2 * u := by
        have := Int.le_of_dvd (by omega) h2
        omega
      have hpd : 2 * u ∣ K - 2 * u := Int.dvd_sub h2 (Int.dvd_refl _)
      obtain ⟨da', la'⟩ := ha (K - 2 * u) hp hpd (by omega)
      obtain ⟨db', lb'⟩ := hb (K - 2 * u) hp hpd (by omega)
      have hlt := hno (K - 2 * u) hp (by omega)
      have hgap := dvd_gap (by omega) db' da' hlt
      have hm := hno (K - 2 * u + u) (by omega) (by omega)
      rcases la' with l | l <;> rcases lb' with r | r
      all_goals
        have l1 := l u (by omega) (by omega)
        have l2 := l (2 * u) (by omega) (by omega)
        have r1 := r u (by omega) (by omega)
        have r2 := r (2 * u) (by omega) (by omega)
        rw [show K - 2 * u + 2 * u = K by omega] at l2 r2
      · omega
      · omega
      · omega
      · -- both move: the gap is more than one cell
        have hgap2 : b (K - 2 * u) + 2 * (2 * (2 * u)) ≤ a (K - 2 * u) := by
          have h9 : b (K - 2 * u) + 2 * (2 * u) < a (K - 2 * u) := by omega
          have := dvd_gap (u := 2 * (2 * u)) (by omega) (Int.dvd_add db' (Int.dvd_refl _)) da' h9
          omega
        omega
  · have hlt := hno K h1 (by omega)
    have hgap := dvd_gap (by omega) db da hlt
    rcases la with l | l <;> rcases lb with r | r
    all_goals
      have l1 := l j (by omega) (by omega)
      have r1 := r j (by omega) (by omega)
    · omega
    · omega
    · omega
    · have hju : u ≤ j := by omega
      have l2 := l u (by omega) (by omega)
      have r2 := r u (by omega) (by omega)
      have hle : a K < b K + 2 * (2 * (2 * u)) := by omega
      have heq : a K = b K + 2 * (2 * u) := by
        rcases Int.lt_or_le (b K + 2 * (2 * u)) (a K) with q | q
        · have := dvd_gap (u := 2 * (2 * u)) (by omega) (Int.dvd_add db (Int.dvd_refl _)) da q
          omega
        · omega
      have : j = u := by
        rcases Int.lt_or_le u j with q | q
        · have := hno (K + u) (by omega) (by omega)
          omega
        · omega
      subst this
      exact ⟨Int.dvd_add (dvd2 h2) (Int.dvd_refl _), by omega⟩
/-- a falling line up to a place of the grid, flat behind it -/
theorem CL.cut {a : Int → Int} {u kt : Int} (hu : 0 < u) (h : CL a u) (hd : u ∣ kt) (hkt : 0 ≤ kt) (hm : 2 * u ∣ a kt) : CL (fun k => if k < kt then a k else a kt) u := by
  intro k hk hkd hb
  obtain ⟨d, l⟩ := h k hk hkd hb
  rcases Int.lt_or_le k kt with q | q
  · have hg := dvd_gap hu hkd hd q
    have e : ∀ j, 0 ≤ j → j ≤ u → (if k + j < kt then a (k + j) else a kt) = a (k + j) := fun j j1 j2 => by
      split
      · rfl
      · rw [show kt = k + j by omega]
    simp only
    refine ⟨by rw [if_pos q]; exact d, ?_⟩
    rcases l with l | l
    · exact Or.inl fun j j1 j2 => by show (if k + j < kt then a (k + j) else a kt) = (if k < kt then a k else a kt); rw [e j j1 j2, if_pos q, l j j1 j2]
    · exact Or.inr fun j j1 j2 => by show (if k + j < kt then a (k + j) else a kt) = (if k < kt then a k else a kt) - 2 * j; rw [e j j1 j2, if_pos q, l j j1 j2]
  · simp only
    refine ⟨by rw [if_neg (by omega)]; exact hm, Or.inl fun j j1 j2 => ?_⟩
    show (if k + j < kt then a (k + j) else a kt) = (if k < kt then a k else a kt)
    rw [if_neg (by omega), if_neg (by omega)]
theorem CR.cut {a : Int → Int} {u kt : Int} (hu : 0 < u) (h : CR a u) (hd : u ∣ kt) (hkt : 0 ≤ kt) (hm : 2 * u ∣ a kt) : CR (fun k => if k < kt then a k else a kt) u := by
  have h2 := (CL.cut hu h.neg hd hkt (Int.dvd_neg.mpr hm)).neg
  refine h2.cg hu (fun k _ _ => ?_)
  split <;> omega
theorem CL.const {v u : Int} (h : 2 * u ∣ v) : CL (fun _ => v) u := fun k _ _ _ => ⟨h, Or.inl fun _ _ _ => rfl⟩
theorem CR.const {v u : Int} (h : 2 * u ∣ v) : CR (fun _ => v) u := fun k _ _ _ => ⟨h, Or.inl fun _ _ _ => rfl⟩
