/-! ===== what was made is kept or gone ===== -/
theorem TabJ.cg {A M B N : Mem} (h : TabJ A M) (e10 : ∀ i, B 10 i = A 10 i) (e11 : B 11 0 = A 11 0) (e16 : N 16 0 = M 16 0) (e17 : ∀ i, N 17 i = M 17 i) (h0 : M 0 0 ≤ N 0 0) : TabJ B N := by
  obtain ⟨a, b, c, d⟩ := h
  unfold TabJ
  rw [e16, e11]
  exact ⟨a, b, fun i i1 i2 => by rw [e10, e17]; exact c i i1 i2, fun i i1 i2 => by rw [e17]; have := d i i1 i2; omega⟩
theorem Wd40.mono {w n m : Int} (h : Wd40 w n) (k : n ≤ m) : Wd40 w m := ⟨h.1, fun x x1 x2 q => by have := h.2 x x1 x2 q; omega⟩
theorem DrfJ.cg {A M B N : Mem} {s : Int} (h : DrfJ A M s) (e1 : B 1 s = A 1 s) (e21 : N 21 s = M 21 s) (e22 : ∀ i, N 22 i = M 22 i) (h0 : M 0 0 ≤ N 0 0) : DrfJ B N s := by
  obtain ⟨a, b, c, d, f⟩ := h
  unfold DrfJ
  simp only [e1, e21, e22]
  exact ⟨a.mono h0, b, c, fun i i1 i2 => by have := d i i1 i2; omega, f⟩
theorem TxtJ.cg {A M B N : Mem} (h : TxtJ A M) (e23 : B 23 0 = A 23 0) (e24 : ∀ i, B 24 i = A 24 i) (m23 : ∀ i, N 23 i = M 23 i) (m24 : N 24 0 = M 24 0) : TxtJ B N := by
  unfold TxtJ at h ⊢
  simp only [e23, e24, m23, m24]
  exact h
theorem WriJ.cg {A M B N : Mem} (h : WriJ A M) (e37 : B 37 0 = A 37 0) (e36 : ∀ i, B 36 i = A 36 i) (m26 : N 26 0 = M 26 0) (m62 : ∀ i, N 62 i = M 62 i) : WriJ B N := by
  unfold WriJ at h ⊢
  simp only [e37, e36, m26, m62]
  exact h
theorem LogJ.cg {A M B N : Mem} (h : LogJ A M) (e0 : B 0 0 = A 0 0) (e3 : ∀ i, B 3 i = A 3 i) (m28 : N 28 0 = M 28 0) (m27 : ∀ i, N 27 i = M 27 i) : LogJ B N := by
  unfold LogJ at h ⊢
  simp only [e0, e3, m28, m27]
  exact h
theorem PstJ.cg {A M B N : Mem} (h : PstJ A M) (e38 : B 38 0 = A 38 0) (e39 : ∀ i, B 39 i = A 39 i) (m18 : N 18 0 = M 18 0) (m19 : ∀ i, N 19 i = M 19 i) (h0 : M 0 0 ≤ N 0 0) : PstJ B N := by
  obtain ⟨a, b, c, d, f⟩ := h
  unfold PstJ
  rw [m18, e38]
  refine ⟨a, b, fun i i1 i2 => by rw [e39, m19]; exact c i i1 i2, fun r r1 r2 => rowJ_cg ⟨r1, by omega⟩ (d r r1 r2) h0 (fun i _ _ => m19 i), fun r r1 r2 => by rw [m19, m19]; exact f r r1 r2⟩
/-- the class's other columns stay while games are made -/
def FrJ (A B : Mem) : Prop := ∀ c i, (c = 0 ∨ c = 1 ∨ c = 3 ∨ c = 10 ∨ c = 11 ∨ c = 23 ∨ c = 24 ∨ (36 ≤ c ∧ c ≤ 39)) → B c i = A c i
theorem FrG.j {A B : Mem} (h : FrG A B) : FrJ A B := fun c i hc => h c i (by omega)
theorem FrJ.trans {A B D : Mem} (a : FrJ A B) (b : FrJ B D) : FrJ A D := fun c i h => (b c i h).trans (a c i h)
/-- the reference's other columns stay while games are made -/
def FrR (M N : Mem) : Prop := ∀ c i, 15 < c → c ≠ 20 ∧ (c < 29 ∨ c = 62) → N c i = M c i
theorem FrR.trans {M N K : Mem} (a : FrR M N) (b : FrR N K) : FrR M K := fun c i h1 h2 => (b c i h1 h2).trans (a c i h1 h2)
theorem mnp_fr {M N : Mem} {n e z : Int} (h : MnP M n e z N) : FrR M N := by
  rcases h with ⟨-, -, rfl, -⟩ | ⟨-, rfl, -⟩ | ⟨-, -, -, m⟩
  · exact fun _ _ _ _ => rfl
  · exact fun _ _ _ _ => rfl
  · exact fun c i h1 h2 => m.2.2.2.2.2 c i h1 (by omega)
theorem mdp_fr {M N : Mem} {n z : Int} (h : MdP M n z N) : FrR M N := by
  rcases h with ⟨-, rfl, -⟩ | ⟨-, -, rfl, -⟩ | ⟨-, -, -, -, d, -, -, m⟩
  · exact fun _ _ _ _ => rfl
  · exact fun _ _ _ _ => rfl
  · exact fun c i h1 h2 => m.2.2.2.2.2.2 c i h1 (by omega)
def EndR (S : Mem) (v z wh : Int) : Int → Int → Mem → Prop := fun k r N => (z = -1 ∧ k = wh ∧ N = up (up S 20 0 wh) 0 0 v) ∨ (z ≠ -1 ∧ k = 0 ∧ r = z ∧ SvR 18 19 16 17 (up S 20 0 0) v N)
theorem m_ends {g : Gs} {ad : Nat → Nat} {S : Mem} {v z wh : Int} (hv : R32 v) (hz : R32 z) (hw9 : R32 wh ∧ 0 < wh) (h18 : 0 ≤ S 18 0 ∧ S 18 0 ≤ 6) : SpI (wM g ad) yX10_ends cX10_ends 4 (some .int) 2 [.ref (ad 0), vI (v), vI (z), vI (wh)] (S) (fun r N => EndR S v z wh (N 20 0) r N ∧ R32 r) := by
  have hw1 := hw9.1
  intro l9 hl9
  refine ct_of hl9 mi_X10_ends.2.2.2 (Nat.le_of_ble_eq_true rfl) (fun X _ C Y => ?_)
  show E (wM g ad) X 0 0 (S) 0 [(0, .ref (ad 0)), (1, vI (v)), (2, vI (z)), (3, vI (wh))] []
  refine e_wf (fun hw => ?_)
  refine B_X10_ends_0 (by omega) (by omega) (by omega) (Nat.zero_le _) (Nat.zero_le _) C Y ⟨fun c => ?_, fun c => ?_⟩
  · refine B_X10_ends_11 (by omega) (by omega) (by omega) (Nat.zero_le _) (Nat.zero_le _) C Y ⟨fun _ => ⟨_, m_saves hv (by rw [up_c (by decide)]; exact h18), fun N hN => ⟨_, rfl, Or.inr ⟨c, ?_, rfl, hN⟩, hz⟩⟩, fun q => absurd q (by decide)⟩
    rw [hN.1 20 0 (by decide) (by decide), up_s]
  · refine B_X10_ends_11 (by omega) (by omega) (by omega) (Nat.zero_le _) (Nat.zero_le _) C Y ⟨fun q => absurd hw9.2 q, fun _ => ⟨_, rfl, Or.inl ⟨c, by rw [up_c (by decide), up_s], rfl⟩, by decide⟩⟩
/-- success on both sides -/
theorem end_ok {A M G1 A1 S A2 B N : Mem} (h : Jn A M) (hX : RepX G1 A1 (G1 0 0)) (hle : M 0 0 ≤ G1 0 0) (hA : FrJ A A1) (hS0 : S 0 0 = G1 0 0) (hag : Ag G1 S (G1 0 0)) (hS : FrR M S) (e2 : ∀ c i, c ≠ 1 → A2 c i = A1 c i) (sx : SvR 38 39 11 10 A2 (M 0 0) B) (sm : ∃ N0, SvR 18 19 16 17 (up S 20 0 0) (M 0 0) N0 ∧ ∀ c i, c ≠ 21 → N c i = N0 c i) (hd : DrfJ B N 0 ∧ DrfJ B N 1) : Jn B N := by
  obtain ⟨N0, sm, hN⟩ := sm
  have hn := h.n
  obtain ⟨a, b, c, d, f, w, l⟩ := h
  have fN : ∀ c i, c ≠ 18 → c ≠ 19 → c ≠ 20 → c ≠ 21 → N c i = S c i := fun c i h1 h2 h3 h4 => by rw [hN c i h4, sm.1 c i h1 h2, up_c h3]
  have fB : ∀ c i, c ≠ 38 → c ≠ 39 → c ≠ 1 → B c i = A1 c i := fun c i h1 h2 h3 => by rw [sx.1 c i h1 h2, e2 c i h3]
  have n0 : N 0 0 = G1 0 0 := (fN 0 0 (by decide) (by decide) (by decide) (by decide)).trans hS0
  refine ⟨?_, ?_, ?_, hd, ?_, ?_, ?_⟩
  · rw [n0]
    refine (hX.cg (hag.trans (Int.le_refl _) (Ag.of _ (fun c i c1 c2 => fN c i (by omega) (by omega) (by omega) (by omega)))) n0).cx (fun c i hc => fB c i (by omega) (by omega) (by omega))
  · refine b.cg (fun i => (fB 10 i (by decide) (by decide) (by decide)).trans (hA 10 i (by omega))) ((fB 11 0 (by decide) (by decide) (by decide)).trans (hA 11 0 (by omega))) ((fN 16 0 (by decide) (by decide) (by decide) (by decide)).trans (hS 16 0 (by decide) (by omega))) (fun i => (fN 17 i (by decide) (by decide) (by decide) (by decide)).trans (hS 17 i (by decide) (by omega))) (by omega)
  · have key : PstJ B N0 := pst_sv (A := A2) (M := up S 20 0 0) c b (fun i => ⟨(e2 38 i (by decide)).trans (hA 38 i (by omega)), (e2 39 i (by decide)).trans (hA 39 i (by omega)), (e2 10 i (by decide)).trans (hA 10 i (by omega)), (e2 11 i (by decide)).trans (hA 11 i (by omega))⟩) (fun i => ⟨(up_c (by decide)).trans (hS 18 i (by decide) (by omega)), (up_c (by decide)).trans (hS 19 i (by decide) (by omega)), (up_c (by decide)).trans (hS 16 i (by decide) (by omega)), (up_c (by decide)).trans (hS 17 i (by decide) (by omega))⟩) sx sm (by rw [← hN 0 0 (by decide), n0]; exact hle) hn.2.1
    exact key.cg rfl (fun _ => rfl) (hN 18 0 (by decide)) (fun i => hN 19 i (by decide)) (by rw [hN 0 0 (by decide)]; exact Int.le_refl _)
  · exact f.cg ((fB 23 0 (by decide) (by decide) (by decide)).trans (hA 23 0 (by omega))) (fun i => (fB 24 i (by decide) (by decide) (by decide)).trans (hA 24 i (by omega))) (fun i => (fN 23 i (by decide) (by decide) (by decide) (by decide)).trans (hS 23 i (by decide) (by omega))) ((fN 24 0 (by decide) (by decide) (by decide) (by decide)).trans (hS 24 0 (by decide) (by omega)))
  · exact w.cg ((fB 37 0 (by decide) (by decide) (by decide)).trans (hA 37 0 (by omega))) (fun i => (fB 36 i (by decide) (by decide) (by decide)).trans (hA 36 i (by omega))) ((fN 26 0 (by decide) (by decide) (by decide) (by decide)).trans (hS 26 0 (by decide) (by omega))) (fun i => (fN 62 i (by decide) (by decide) (by decide) (by decide)).trans (hS 62 i (by decide) (by omega)))
  · exact l.cg ((fB 0 0 (by decide) (by decide) (by decide)).trans (hA 0 0 (by omega))) (fun i => (fB 3 i (by decide) (by decide) (by decide)).trans (hA 3 i (by omega))) ((fN 28 0 (by decide) (by decide) (by decide) (by decide)).trans (hS 28 0 (by decide) (by omega))) (fun i => (fN 27 i (by decide) (by decide) (by decide) (by decide)).trans (hS 27 i (by decide) (by omega)))
theorem RepX.mono {G X : Mem} {n m : Int} (h : RepX G X n) (hm : 0 ≤ m ∧ m ≤ n) {G' X' : Mem} (hg : ∀ c i, 1 ≤ c → c ≤ 15 → G' c i = G c i) (h0 : G' 0 0 = m) (hx : ∀ c i, (c = 5 ∨ 40 ≤ c) → X' c i = X c i) (hx4 : X' 4 0 = m) : RepX G' X' m := by
  obtain ⟨a, b, c, d, f⟩ := h
  have ag : Ag G G' n := Ag.of n hg
  have c' : Good m G := c.mono hm.1 hm.2
  refine ⟨hx4, h0, c'.cg (ag.mono hm.2), fun z z1 z2 => ((d z z1 (by omega)).cg ag c ⟨z1, by omega⟩).cx (fun k i ow => hx k i (Or.inr (own_c ow).1)) (fun s s1 s2 => ?_), fun z y z1 z2 y1 y2 => ?_⟩
  · have := (opS_r ((c'.cg (ag.mono hm.2)).2.2 z z1 z2).1.1 ⟨s1, s2⟩).2.1
    exact this
  · rw [hx 5 z (Or.inl rfl), hg 12 _ (by decide) (by decide)]
    exact f z y z1 (by omega) y1 (by omega)
/-- failure on both sides: the count goes back -/
theorem end_no {A M G1 A1 S B N : Mem} (h : Jn A M) (hX : RepX G1 A1 (G1 0 0)) (hle : M 0 0 ≤ G1 0 0) (hA : FrJ A A1) (hS : FrR M S) (hag : Ag M S (M 0 0)) (hag1 : Ag M G1 (M 0 0)) (hB4 : B 4 0 = M 0 0) (fB : ∀ c i, c ≠ 4 → B c i = A1 c i) (hN0 : N 0 0 = M 0 0) (fN : ∀ c i, c ≠ 0 → c ≠ 20 → N c i = S c i) : Jn B N := by
  have hn := h.n
  obtain ⟨a, b, c, ⟨d0, d1⟩, f, w, l⟩ := h
  have r1 : RepX G1 A1 (G1 0 0) := hX
  refine ⟨?_, ?_, ?_, ⟨?_, ?_⟩, ?_, ?_, ?_⟩
  · rw [hN0]
    have s1 : RepX (up G1 0 0 (M 0 0)) B (M 0 0) := r1.mono ⟨hn.2.1, hle⟩ (fun c i c1 c2 => up_c (by omega)) (up_s _ _ _ _) (fun c i hc => fB c i (by omega)) hB4
    refine s1.cg ?_ hN0
    have e1 : Ag (up G1 0 0 (M 0 0)) G1 (M 0 0) := Ag.of _ (fun c i c1 c2 => (up_c (by omega)).symm)
    have e2 : Ag G1 M (M 0 0) := hag1.symm
    have e3 : Ag S N (M 0 0) := Ag.of _ (fun c i c1 c2 => fN c i (by omega) (by omega))
    exact ((e1.trans (Int.le_refl _) e2).trans (Int.le_refl _) hag).trans (Int.le_refl _) e3
  · exact b.cg (fun i => (fB 10 i (by decide)).trans (hA 10 i (by omega))) ((fB 11 0 (by decide)).trans (hA 11 0 (by omega))) ((fN 16 0 (by decide) (by decide)).trans (hS 16 0 (by decide) (by omega))) (fun i => (fN 17 i (by decide) (by decide)).trans (hS 17 i (by decide) (by omega))) (by omega)
  · exact c.cg ((fB 38 0 (by decide)).trans (hA 38 0 (by omega))) (fun i => (fB 39 i (by decide)).trans (hA 39 i (by omega))) ((fN 18 0 (by decide) (by decide)).trans (hS 18 0 (by decide) (by omega))) (fun i => (fN 19 i (by decide) (by decide)).trans (hS 19 i (by decide) (by omega))) (by omega)
  · exact d0.cg ((fB 1 0 (by decide)).trans (hA 1 0 (by omega))) ((fN 21 0 (by decide) (by decide)).trans (hS 21 0 (by decide) (by omega))) (fun i => (fN 22 i (by decide) (by decide)).trans (hS 22 i (by decide) (by omega))) (by omega)
  · exact d1.cg ((fB 1 1 (by decide)).trans (hA 1 1 (by omega))) ((fN 21 1 (by decide) (by decide)).trans (hS 21 1 (by decide) (by omega))) (fun i => (fN 22 i (by decide) (by decide)).trans (hS 22 i (by decide) (by omega))) (by omega)
  · exact f.cg ((fB 23 0 (by decide)).trans (hA 23 0 (by omega))) (fun i => (fB 24 i (by decide)).trans (hA 24 i (by omega))) (fun i => (fN 23 i (by decide) (by decide)).trans (hS 23 i (by decide) (by omega))) ((fN 24 0 (by decide) (by decide)).trans (hS 24 0 (by decide) (by omega)))
  · exact w.cg ((fB 37 0 (by decide)).trans (hA 37 0 (by omega))) (fun i => (fB 36 i (by decide)).trans (hA 36 i (by omega))) ((fN 26 0 (by decide) (by decide)).trans (hS 26 0 (by decide) (by omega))) (fun i => (fN 62 i (by decide) (by decide)).trans (hS 62 i (by decide) (by omega)))
  · exact l.cg ((fB 0 0 (by decide)).trans (hA 0 0 (by omega))) (fun i => (fB 3 i (by decide)).trans (hA 3 i (by omega))) ((fN 28 0 (by decide) (by decide)).trans (hS 28 0 (by decide) (by omega))) (fun i => (fN 27 i (by decide) (by decide)).trans (hS 27 i (by decide) (by omega)))
