/-! ===== theory: the simplest number; comparison with numbers is transitive ===== -/
theorem smp_lt {P Q : Int → Prop} {u w : Int} (hu : Smp P u) (hw : Smp Q w) (h : u < w) (pw : P w) (qu : Q u) : False := by
  obtain ⟨pu, bu, e1, h1, d1, n1, m1, g1⟩ := hu
  obtain ⟨qw, bw, e2, h2, d2, n2, m2, g2⟩ := hw
  have e12 : e1 ≤ e2 := by
    rcases Nat.lt_or_ge e2 e1 with q | q
    · exact absurd qu (n2 e1 q h1 u d1 bu.1 bu.2)
    · exact q
  have e21 : e2 ≤ e1 := by
    rcases Nat.lt_or_ge e1 e2 with q | q
    · exact absurd pw (n1 e2 q h2 w d2 bw.1 bw.2)
    · exact q
  have e : e1 = e2 := by omega
  subst e
  have a1 : u.natAbs ≤ w.natAbs := by
    rcases Nat.lt_or_ge w.natAbs u.natAbs with q | q
    · exact absurd pw (m1 w d2 q)
    · exact q
  have a2 : w.natAbs ≤ u.natAbs := by
    rcases Nat.lt_or_ge u.natAbs w.natAbs with q | q
    · exact absurd qu (m2 u d1 q)
    · exact q
  have e3 : w = -u := by omega
  subst e3
  exact g1 (by omega) pw
theorem least_nat (P : Nat → Prop) (h : ∃ k, P k) : ∃ k, P k ∧ ∀ j, j < k → ¬ P j := pk_least P h
theorem smp_ex {P : Int → Prop} {x : Int} (hx : P x) (hb : -20480 ≤ x ∧ x ≤ 20480) : ∃ v, Smp P v := by
  -- the greatest exponent
  obtain ⟨e', ⟨⟨y, dy, by1, py⟩, he'⟩, hmin⟩ := least_nat (fun j => (∃ y, (2 : Int) ^ (10 - j) ∣ y ∧ (-20480 ≤ y ∧ y ≤ 20480) ∧ P y) ∧ j ≤ 10) ⟨10, ⟨x, by simp, hb, hx⟩, by omega⟩
  obtain ⟨k, ⟨z, dz, bz, pz, hz⟩, hk⟩ := least_nat (fun k => ∃ z, (2 : Int) ^ (10 - e') ∣ z ∧ (-20480 ≤ z ∧ z ≤ 20480) ∧ P z ∧ z.natAbs = k) ⟨y.natAbs, y, dy, by1, py, rfl⟩
  have hno : ∀ f : Nat, 10 - e' < f → f ≤ 10 → ∀ q, (2 : Int) ^ f ∣ q → -20480 ≤ q → q ≤ 20480 → ¬ P q := by
    intro f h1 h2 q h3 h4 h5 h6
    refine hmin (10 - f) (by omega) ⟨⟨q, ?_, ⟨h4, h5⟩, h6⟩, by omega⟩
    rw [show 10 - (10 - f) = f by omega]; exact h3
  have hno2 : ∀ q, (2 : Int) ^ (10 - e') ∣ q → q.natAbs < k → ¬ P q := by
    intro q h1 h2 h3
    exact hk q.natAbs h2 ⟨q, h1, by omega, h3, rfl⟩
  by_cases hneg : z < 0 ∧ P (-z)
  · exact ⟨-z, hneg.2, by omega, 10 - e', by omega, Int.dvd_neg.mpr dz, hno, fun q h1 h2 => hno2 q h1 (by omega), fun h => by omega⟩
  · exact ⟨z, pz, bz, 10 - e', by omega, dz, hno, fun q h1 h2 => hno2 q h1 (by omega), fun h q => hneg ⟨h, q⟩⟩
theorem pow_dvd_add (a c : Nat) : (2 : Int) ^ a ∣ (2 : Int) ^ (a + c) := by
  induction c with
  | zero => exact Int.dvd_refl _
  | succ c ih =>
    rw [show a + (c + 1) = (a + c) + 1 by omega, Int.pow_succ]
    exact Int.dvd_trans ih (Int.dvd_mul_right _ _)
theorem pow_dvd_le {a b : Nat} (h : a ≤ b) {x : Int} (hx : (2 : Int) ^ b ∣ x) : (2 : Int) ^ a ∣ x := by
  obtain ⟨c, rfl⟩ := Nat.exists_eq_add_of_le h
  exact Int.dvd_trans (pow_dvd_add a c) hx
theorem smp_grid {P : Int → Prop} {v x : Int} {e : Nat} (h : Smp P v) (hx : P x) (hb : -20480 ≤ x ∧ x ≤ 20480) (he : e ≤ 10) (hd : (2 : Int) ^ e ∣ x) : (2 : Int) ^ e ∣ v := by
  obtain ⟨pu, bu, e1, h1, d1, n1, -, -⟩ := h
  rcases Nat.lt_or_ge e1 e with q | q
  · exact absurd hx (n1 e q he x hd hb.1 hb.2)
  · exact pow_dvd_le q d1
/-- a simplest number is no farther from 0 than any number of P that 1024 divides -/
theorem smp_abs {P : Int → Prop} {v x : Int} (h : Smp P v) (hx : P x) (hb : -20480 ≤ x ∧ x ≤ 20480) (hd : (1024 : Int) ∣ x) : v.natAbs ≤ x.natAbs := by
  obtain ⟨pu, bu, e1, h1, d1, n1, m1, -⟩ := h
  have e10 : e1 = 10 := by
    rcases Nat.lt_or_ge e1 10 with q | q
    · exact absurd hx (n1 10 q (by omega) x hd hb.1 hb.2)
    · omega
  subst e10
  rcases Nat.lt_or_ge x.natAbs v.natAbs with q | q
  · exact absurd hx (m1 x hd q)
  · exact q
/-- no right option of z is at most x; no left option is at least x -/
def NRg (G : Mem) (z x : Int) : Prop := ∀ i, 0 ≤ i → i < G 3 (2 * z + 1) → ¬ leM G (G 4 (8 * z + 4 * 1 + i)) x
def NLg (G : Mem) (z x : Int) : Prop := ∀ i, 0 ≤ i → i < G 3 (2 * z + 0) → ¬ geM G (G 4 (8 * z + 4 * 0 + i)) x
theorem upS_ch {G : Mem} {z : Int} : ∀ (n : Nat) (x : Int), (x < (upS G z n).1 ∨ (x = (upS G z n).1 ∧ (upS G z n).2 ≠ 0)) ↔ (x < 1000000 ∧ ∀ i : Nat, i < n → ¬ leM G (G 4 (8 * z + 4 * 1 + (i : Int))) x) := by
  intro n
  induction n with
  | zero => intro x; simp [upS]
  | succ n ih =>
    intro x
    have e : (∀ i : Nat, i < n + 1 → ¬ leM G (G 4 (8 * z + 4 * 1 + (i : Int))) x) ↔ (∀ i : Nat, i < n → ¬ leM G (G 4 (8 * z + 4 * 1 + (i : Int))) x) ∧ ¬ leM G (G 4 (8 * z + 4 * 1 + (n : Int))) x := by
      constructor
      · intro h; exact ⟨fun i hi => h i (by omega), h n (by omega)⟩
      · rintro ⟨h1, h2⟩ i hi
        rcases Nat.lt_succ_iff_lt_or_eq.mp hi with q | q
        · exact h1 i q
        · subst q; exact h2
    rw [e, ← and_assoc, ← ih x, upS]
    unfold leM
    generalize G 10 (G 4 (8 * z + 4 * 1 + (n : Int))) = v
    generalize G 11 (G 4 (8 * z + 4 * 1 + (n : Int))) = t
    generalize upS G z n = U
    obtain ⟨a, b⟩ := U
    simp only
    by_cases h1 : v < a
    · rw [if_pos h1]
      by_cases h2 : t = 0
      · simp only [if_pos h2]; omega
      · simp only [if_neg h2]; omega
    · rw [if_neg h1]
      by_cases h3 : v = a
      · rw [if_pos h3]
        by_cases h4 : b ≠ 0 ∧ t = 0
        · simp only [if_pos h4]; omega
        · simp only [if_neg h4]; omega
      · rw [if_neg h3]
        simp only
        omega
theorem loS_ch {G : Mem} {z : Int} : ∀ (n : Nat) (x : Int), ((loS G z n).1 < x ∨ (x = (loS G z n).1 ∧ (loS G z n).2 ≠ 0)) ↔ (-1000000 < x ∧ ∀ i : Nat, i < n → ¬ geM G (G 4 (8 * z + 4 * 0 + (i : Int))) x) := by
  intro n
  induction n with
  | zero => intro x; simp [loS]
  | succ n ih =>
    intro x
    have e : (∀ i : Nat, i < n + 1 → ¬ geM G (G 4 (8 * z + 4 * 0 + (i : Int))) x) ↔ (∀ i : Nat, i < n → ¬ geM G (G 4 (8 * z + 4 * 0 + (i : Int))) x) ∧ ¬ geM G (G 4 (8 * z + 4 * 0 + (n : Int))) x := by
      constructor
      · intro h; exact ⟨fun i hi => h i (by omega), h n (by omega)⟩
      · rintro ⟨h1, h2⟩ i hi
        rcases Nat.lt_succ_iff_lt_or_eq.mp hi with q | q
        · exact h1 i q
        · subst q; exact h2
    rw [e, ← and_assoc, ← ih x, loS]
    unfold geM
    generalize G 8 (G 4 (8 * z + 4 * 0 + (n : Int))) = v
    generalize G 9 (G 4 (8 * z + 4 * 0 + (n : Int))) = t
    generalize loS G z n = U
    obtain ⟨a, b⟩ := U
    simp only
    by_cases h1 : a < v
    · rw [if_pos h1]
      by_cases h2 : t = 0
      · simp only [if_pos h2]; omega
      · simp only [if_neg h2]; omega
    · rw [if_neg h1]
      by_cases h3 : v = a
      · rw [if_pos h3]
        by_cases h4 : b ≠ 0 ∧ t = 0
        · simp only [if_pos h4]; omega
        · simp only [if_neg h4]; omega
      · rw [if_neg h3]
        simp only
        omega
theorem nat_all {c : Int} {P : Int → Prop} : (∀ i : Nat, i < c.toNat → P (i : Int)) ↔ ∀ i, 0 ≤ i → i < c → P i := by
  constructor
  · intro h i h1 h2
    have := h i.toNat (by omega)
    rwa [Int.toNat_of_nonneg h1] at this
  · intro h i hi
    exact h i (by omega) (by omega)
theorem up_ch {G : Mem} {z x : Int} : (x < (upF G z).1 ∨ (x = (upF G z).1 ∧ (upF G z).2 ≠ 0)) ↔ (x < 1000000 ∧ NRg G z x) := by
  unfold upF NRg
  rw [upS_ch, nat_all (P := fun i => ¬ leM G (G 4 (8 * z + 4 * 1 + i)) x)]
theorem lo_ch {G : Mem} {z x : Int} : ((loF G z).1 < x ∨ (x = (loF G z).1 ∧ (loF G z).2 ≠ 0)) ↔ (-1000000 < x ∧ NLg G z x) := by
  unfold loF NLg
  rw [loS_ch, nat_all (P := fun i => ¬ geM G (G 4 (8 * z + 4 * 0 + i)) x)]
/-- what the order needs of a game -/
def Ord (G : Mem) (z : Int) : Prop := OpS G z ∧ ValE (loF G z) (upF G z) (G 1 z) (G 2 z) (G 6 z) (G 7 z) (G 8 z) (G 9 z) (G 10 z) (G 11 z) ∧ (-20480 ≤ G 7 z ∧ G 7 z ≤ 20480) ∧ ∀ h, 0 ≤ h → h ≤ z → ((G 12 (40 * z + h) = 0 ∨ G 12 (40 * z + h) = 1) ∧ (G 12 (40 * h + z) = 0 ∨ G 12 (40 * h + z) = 1)) ∧ (G 12 (40 * z + h) = 1 ↔ ALf G z h) ∧ (G 12 (40 * h + z) = 1 ↔ ALf G h z)
section ORD
variable {G : Mem} {n : Int} (hG : ∀ z, 0 ≤ z → z < n → Ord G z)
theorem or_al (hG : ∀ z, 0 ≤ z → z < n → Ord G z) {a b : Int} (ha : 0 ≤ a ∧ a < n) (hb : 0 ≤ b ∧ b < n) : (G 12 (40 * a + b) = 0 ∨ G 12 (40 * a + b) = 1) ∧ (G 12 (40 * a + b) = 1 ↔ ALf G a b) := by
  rcases Int.le_total a b with h | h
  · have := (hG b hb.1 hb.2).2.2.2 a ha.1 h
    exact ⟨this.1.2, this.2.2⟩
  · have := (hG a ha.1 ha.2).2.2.2 b hb.1 h
    exact ⟨this.1.1, this.2.1⟩
theorem or_cold {z : Int} (h : Ord G z) (hc : G 6 z = 1) (x : Int) : (geM G z x ↔ x ≤ G 7 z) ∧ (leM G z x ↔ G 7 z ≤ x) := by
  obtain ⟨-, ⟨-, -, -, q, -⟩, -⟩ := h
  obtain ⟨q1, q2, q3, q4⟩ := q hc
  unfold geM leM
  rw [q1, q2, q3, q4]
  omega
theorem or_hot {z : Int} (h : Ord G z) (hc : G 6 z = 0) {x : Int} (hx : -1000000 < x ∧ x < 1000000) : (geM G z x ↔ NRg G z x) ∧ (leM G z x ↔ NLg G z x) := by
  obtain ⟨-, ⟨-, -, -, -, q⟩, -⟩ := h
  obtain ⟨-, q1, q2, q3, q4⟩ := q hc
  unfold geM leM
  rw [q1, q2, q3, q4, up_ch, lo_ch]
  exact ⟨⟨fun h => h.2, fun h => ⟨hx.2, h⟩⟩, ⟨fun h => h.2, fun h => ⟨hx.1, h⟩⟩⟩
theorem or_num {z : Int} (h : Ord G z) (hc : G 1 z ≠ 0) : G 6 z = 1 ∧ G 7 z = G 2 z := h.2.1.2.1 hc
theorem or_bet {z : Int} (h : Ord G z) (h1 : G 1 z = 0) (hc : G 6 z = 1) : Smp (betE (loF G z) (upF G z)) (G 7 z) := (h.2.1.2.2.1 h1).2 hc
theorem bet_ch {z x : Int} (hx : -1000000 < x ∧ x < 1000000) : betE (loF G z) (upF G z) x ↔ NLg G z x ∧ NRg G z x := by
  unfold betE
  rw [up_ch, lo_ch]
  exact ⟨fun h => ⟨h.1.2, h.2.2⟩, fun h => ⟨⟨hx.1, h.1⟩, hx.2, h.2⟩⟩
theorem ge_dn {z x y : Int} (h : geM G z y) (hxy : x ≤ y) : geM G z x := by unfold geM at *; omega
theorem le_up {z x y : Int} (h : leM G z x) (hxy : x ≤ y) : leM G z y := by unfold leM at *; omega
theorem NR_dn {z x y : Int} (h : NRg G z y) (hxy : x ≤ y) : NRg G z x := fun i h1 h2 q => h i h1 h2 (le_up q hxy)
theorem NL_up {z x y : Int} (h : NLg G z x) (hxy : x ≤ y) : NLg G z y := fun i h1 h2 q => h i h1 h2 (ge_dn q hxy)
theorem or_lg {z x y : Int} (h : Ord G z) (h1 : leM G z y) (h2 : geM G z x) : x ≤ y := by
  obtain ⟨-, ⟨q0, q1, q2, q3, q4⟩, -⟩ := h
  rcases q0 with hc | hc
  · obtain ⟨-, a1, a2, a3, a4⟩ := q4 hc
    have hn : G 1 z = 0 := Classical.byContradiction fun q => by have := (q1 q).1; omega
    have hr : ¬ roomE (loF G z) (upF G z) := fun q => by have := (q2 hn).1.mpr q; omega
    unfold roomE at hr
    unfold leM at h1
    unfold geM at h2
    omega
  · obtain ⟨a1, a2, a3, a4⟩ := q3 hc
    unfold leM at h1
    unfold geM at h2
    omega
/-- where a number is at most a game, none of its right options is at most the number -/
theorem or_NR {z x : Int} (h : Ord G z) (h1 : G 1 z = 0) (hx : -1000000 < x ∧ x < 1000000) (hg : geM G z x) : NRg G z x := by
  have hv := h.2.2.1
  rcases h.2.1.1 with hc | hc
  · exact (or_hot h hc hx).1.mp hg
  · exact NR_dn ((bet_ch (by omega)).mp (or_bet h h1 hc).1).2 ((or_cold h hc x).1.mp hg)
theorem or_NL {z x : Int} (h : Ord G z) (h1 : G 1 z = 0) (hx : -1000000 < x ∧ x < 1000000) (hg : leM G z x) : NLg G z x := by
  have hv := h.2.2.1
  rcases h.2.1.1 with hc | hc
  · exact (or_hot h hc hx).2.mp hg
  · exact NL_up ((bet_ch (by omega)).mp (or_bet h h1 hc).1).1 ((or_cold h hc x).2.mp hg)
end ORD
