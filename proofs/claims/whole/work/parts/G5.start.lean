/-! ===== the games of the beginning, told one by one ===== -/
abbrev Ds : Type := Int ⊕ (List Int × List Int × Int)
def dsD (d : Ds) : Int := match d with
  | .inl _ => 0
  | .inr q => q.2.2
def RwS (G : Mem) (z s x : Int) : Prop := ∃ k, 0 ≤ k ∧ k < G 3 (2 * z + s) ∧ opt G z s k = x
def KnD (G : Mem) (i : Int) (d : Ds) : Prop := match d with
  | .inl e => IsN G i e ∧ G 5 i = 0
  | .inr q => G 1 i = 0 ∧ (∀ x, 0 ≤ x → x < 40 → (RwS G i 0 x ↔ x ∈ q.1)) ∧ (∀ x, 0 ≤ x → x < 40 → (RwS G i 1 x ↔ x ∈ q.2.1)) ∧ G 5 i = q.2.2
def Kn (G : Mem) (D : List Ds) : Prop := Good (G 0 0) G ∧ G 0 0 = (D.length : Int) ∧ ∀ (i : Nat) (d : Ds), D[i]? = some d → KnD G i d
theorem KnD.dp {G : Mem} {i : Int} {d : Ds} (h : KnD G i d) : G 5 i = dsD d := by
  cases d with
  | inl e => exact h.2
  | inr q => exact h.2.2.2
theorem KnD.cg {G N : Mem} {n : Int} {i : Nat} {d : Ds} (ag : Ag G N n) (hi : (i : Int) < n) (h : KnD G i d) : KnD N i d := by
  have c1 : N 1 (i : Int) = G 1 i := ag.1 1 i (by omega) (by omega) hi
  have c5 : N 5 (i : Int) = G 5 i := ag.1 5 i (by omega) (by omega) hi
  have rw9 : ∀ s x, 0 ≤ s → s ≤ 1 → (RwS N i s x ↔ RwS G i s x) := by
    intro s x s0 s1
    have e3 := ag.ct (z := (i : Int)) ⟨by omega, hi⟩ ⟨s0, s1⟩
    unfold RwS
    rw [e3]
    exact ⟨fun ⟨k, k0, k1, k2⟩ => ⟨k, k0, k1, by rw [← ag.op ⟨by omega, hi⟩ ⟨s0, s1⟩ ⟨k0, k1⟩]; exact k2⟩, fun ⟨k, k0, k1, k2⟩ => ⟨k, k0, k1, by rw [ag.op ⟨by omega, hi⟩ ⟨s0, s1⟩ ⟨k0, k1⟩]; exact k2⟩⟩
  cases d with
  | inl e => exact ⟨(isN_cg ag ⟨by omega, hi⟩).mpr h.1, c5.trans h.2⟩
  | inr q =>
    obtain ⟨a, b, c, e⟩ := h
    exact ⟨c1.trans a, fun x x0 x1 => (rw9 0 x (by decide) (by decide)).trans (b x x0 x1), fun x x0 x1 => (rw9 1 x (by decide) (by decide)).trans (c x x0 x1), c5.trans e⟩
theorem kn_app {G N : Mem} {D : List Ds} {d : Ds} (h : Kn G D) (h0 : N 0 0 = G 0 0 + 1) (hG : Good (N 0 0) N) (ag : Ag G N (G 0 0)) (hd : KnD N (D.length : Int) d) : Kn N (D ++ [d]) := by
  obtain ⟨a, b, c⟩ := h
  refine ⟨hG, by rw [h0, b, List.length_append]; simp, fun i x hx => ?_⟩
  by_cases q : i < D.length
  · rw [List.getElem?_append_left q] at hx
    exact (c i x hx).cg ag (by omega)
  · rw [List.getElem?_append_right (by omega)] at hx
    have l := (List.getElem?_eq_some_iff.mp hx).1
    simp at l
    have e : i = D.length := by omega
    subst e
    rw [Nat.sub_self] at hx
    have : d = x := by simpa using hx
    rw [← this]; exact hd
theorem kn_num {G N : Mem} {D : List Ds} {e z : Int} (h : Kn G D) (hD : ∀ d ∈ D, d ≠ .inl e) (hl : D.length < 40) (k : NumR G (G 0 0) e z N) : z = (D.length : Int) ∧ Kn N (D ++ [.inl e]) := by
  have h9 := h
  obtain ⟨a, b, c⟩ := h
  rcases k with ⟨z0, z1, -, -, z4, -⟩ | ⟨-, -, -, n4, -⟩ | ⟨z0, -, -, m0, m1, m2, m3, m4⟩
  · exfalso
    have li : z.toNat < D.length := by omega
    have kd := c z.toNat _ (List.getElem?_eq_getElem li)
    rw [show ((z.toNat : Nat) : Int) = z by omega] at kd
    have hm := hD _ (List.getElem_mem li)
    generalize D[z.toNat] = d at kd hm
    cases d with
    | inl e' =>
      have e1 := kd.1.2
      have e2 := z4.2
      exact hm (by congr 1; omega)
    | inr q => exact z4.1 kd.1
  · omega
  · have g := gd_num (N := N) (n := G 0 0 + 1) (z := G 0 0) (e := e) m1 (by omega) (by rw [m3]; decide) m4
    refine ⟨by omega, kn_app h9 m0 (by rw [m0]; exact m1) m2 ⟨?_, ?_⟩⟩
    · rw [← b]; exact ⟨by rw [m3]; decide, m4⟩
    · rw [← b]; exact g.2.2.1
theorem rowW_set {G : Mem} {z s w x : Int} (h : RowW G z s w) (hx : 0 ≤ x ∧ x < 40) : RwS G z s x ↔ tb w x = true := by
  constructor
  · rintro ⟨k, k0, k1, k2⟩
    have := (h.2.2.1 k k0 k1).2.2
    have e : tb w (((opt G z s k).toNat : Nat) : Int) = true := this
    rw [k2, Int.toNat_of_nonneg hx.1] at e
    exact e
  · intro q
    obtain ⟨i, i1, i2, i3⟩ := rowW_in h hx q
    exact ⟨i, i1, i2, i3⟩
theorem kn_cmp {G N : Mem} {D : List Ds} {l r z m : Int} {L R : List Int} (h : Kn G D) (hl : ∀ x, 0 ≤ x → x < 40 → (tb l x = true ↔ x ∈ L)) (hr : ∀ x, 0 ≤ x → x < 40 → (tb r x = true ↔ x ∈ R)) (sl : siz l ≤ 4) (sr : siz r ≤ 4) (hn : D.length < 40) (hm : 0 ≤ m ∧ m ≤ 5) (hd : ∀ x, x ∈ L ++ R → 0 ≤ x ∧ x < 40 ∧ ∃ dd, D[x.toNat]? = some dd ∧ dsD dd ≤ m) (ht : m = 0 ∨ ∃ x, x ∈ L ++ R ∧ ∃ dd, D[x.toNat]? = some dd ∧ dsD dd = m) (hD : ∀ q, (.inr q : Ds) ∈ D → ∃ x, 0 ≤ x ∧ x < 40 ∧ (¬ (x ∈ q.1 ↔ x ∈ L) ∨ ¬ (x ∈ q.2.1 ↔ x ∈ R))) (k : CmpR G (G 0 0) l r z N) : z = (D.length : Int) ∧ Kn N (D ++ [.inr (L, R, m + 1)]) := by
  have h9 := h
  obtain ⟨a, b, c⟩ := h
  have dp : ∀ x, x ∈ L ++ R → ∀ dd, D[x.toNat]? = some dd → 0 ≤ x → G 5 x = dsD dd := by
    intro x _ dd hdd x0
    have := (c x.toNat dd hdd).dp
    rwa [show ((x.toNat : Nat) : Int) = x by omega] at this
  have inw : ∀ x, 0 ≤ x → x < 40 → (InW l r x ↔ x ∈ L ++ R) := by
    intro x x0 x1
    unfold InW
    rw [hl x x0 x1, hr x x0 x1, List.mem_append]
  have dw : DeepW G l r m := by
    refine ⟨by omega, fun x x0 x1 hi => ?_, ?_⟩
    · have hx := (inw x x0 x1).mp hi
      obtain ⟨-, -, dd, h1, h2⟩ := hd x hx
      rw [dp x hx dd h1 x0]; exact h2
    · rcases ht with q | ⟨x, hx, dd, h1, h2⟩
      · exact Or.inl q
      · have hb := hd x hx
        exact Or.inr ⟨x, hb.1, hb.2.1, (inw x hb.1 hb.2.1).mpr hx, by rw [dp x hx dd h1 hb.1]; exact h2⟩
  rcases k with ⟨-, -, -, q⟩ | ⟨z0, z1, -, -, sw, -⟩ | ⟨z0, -, -, -, -, d, d5, dd, m0, m1, m2, m3, m4⟩
  · exfalso
    rcases q with q | q | q | ⟨q, -⟩
    · omega
    · omega
    · have := deepW_uq dw q; omega
    · omega
  · exfalso
    have li : z.toNat < D.length := by omega
    have kd := c z.toNat _ (List.getElem?_eq_getElem li)
    rw [show ((z.toNat : Nat) : Int) = z by omega] at kd
    have hm9 := List.getElem_mem li
    generalize D[z.toNat] = d at kd hm9
    cases d with
    | inl e' => exact kd.1.1 sw.1
    | inr q =>
      obtain ⟨x, x0, x1, hx⟩ := hD q hm9
      rcases hx with hx | hx
      · exact hx ((kd.2.1 x x0 x1).symm.trans ((rowW_set sw.2.1 ⟨x0, x1⟩).trans (hl x x0 x1)))
      · exact hx ((kd.2.2.1 x x0 x1).symm.trans ((rowW_set sw.2.2 ⟨x0, x1⟩).trans (hr x x0 x1)))
  · have ed := deepW_uq dw dd
    refine ⟨by omega, kn_app h9 m0 (by rw [m0]; exact m1) m2 ?_⟩
    rw [← b]
    exact ⟨m4.1, fun x x0 x1 => (rowW_set m4.2.1 ⟨x0, x1⟩).trans (hl x x0 x1), fun x x0 x1 => (rowW_set m4.2.2 ⟨x0, x1⟩).trans (hr x x0 x1), by rw [ed]; exact m3⟩
