/-! ===== the reference: what a run makes ===== -/
section NS
variable {M0 M N1 N2 N3 : Mem} {o z s r zz : Int} {b lw rw0 : Int → Int} {ys : List Int}
theorem z64 : (-64 : Int) ≤ 0 ∧ (0 : Int) ≤ 64 := by decide
theorem fai_pair {x y : Int} (hx : -64 ≤ x ∧ x ≤ 64) (hy : -64 ≤ y ∧ y ≤ 64) (h : Fai M0 o ys) : Fai M0 o (ys ++ [100, x, 101, y, 102]) := by
  have f := fai_c (fai_n hy (fai_b (fai_n hx (fai_o h))))
  rw [show o + 1 - 1 = o by omega] at f
  simpa using f
/-- a pair of numbers within braces -/
theorem sim_pr {x y z1 z2 : Int} (ho : 0 ≤ o) (hx : -64 ≤ x ∧ x ≤ 64) (hy : -64 ≤ y ∧ y ≤ 64) (hM : Good (M 0 0) M) (h : Sim M0 M o b lw rw0 ys zz) (k1 : NumR M (M 0 0) x z1 N1) : (z1 = -1 → Fai M0 o (ys ++ [100, x, 101, y, 102])) ∧ (z1 ≠ -1 → Good (N1 0 0) N1 → NumR N1 (N1 0 0) y z2 N2 → (z2 = -1 → Fai M0 o (ys ++ [100, x, 101, y, 102])) ∧ (z2 ≠ -1 → Good (N2 0 0) N2 → (0 ≤ z1 ∧ z1 < N2 0 0) → (0 ≤ z2 ∧ z2 < N2 0 0) → CmpR N2 (N2 0 0) (wB z1) (wB z2) r N3 → (r = -1 → Fai M0 o (ys ++ [100, x, 101, y, 102])) ∧ (r ≠ -1 → Sim M0 N3 o b (gvL o lw b r) (gvR o rw0 b r) (ys ++ [100, x, 101, y, 102]) r))) := by
  have s1 := sim_o h
  refine ⟨fun q => ?_, fun q1 hN1 k2 => ?_⟩
  · have f := fai_c (fai_n hy (fai_b ((sim_n hx hM s1 k1).1 q)))
    rw [show o + 1 - 1 = o by omega] at f
    simpa using f
  · have s2 := lf_b ho (lf_n ho hx hM s1 k1 q1)
    refine ⟨fun q => ?_, fun q2 hN2 r1 r2 k3 => ?_⟩
    · have f := fai_c ((sim_n hy hN1 s2 k2).1 q)
      rw [show o + 1 - 1 = o by omega] at f
      simpa using f
    · have s3 := rt_n ho hy hN1 s2 k2 q2
      have c := cl_c ho hN2 s3 (wB_W r1 hN2.2.1) (wB_W r2 hN2.2.1) k3
      exact ⟨fun q => by have := c.1 q; simpa using this, fun q => by have := c.2 q; simpa using this⟩
theorem sim_star {z0 : Int} (ho : 0 ≤ o) (hM : Good (M 0 0) M) (h : Sim M0 M o b lw rw0 ys zz) (k1 : NumR M (M 0 0) 0 z0 N1) (q0 : z0 ≠ -1) (hN1 : Good (N1 0 0) N1) (hz : 0 ≤ z0 ∧ z0 < N1 0 0) (k2 : CmpR N1 (N1 0 0) (wB z0) (wB z0) s N2) : (s = -1 → Fai M0 o (ys ++ [100, 0, 101, 0, 102])) ∧ (s ≠ -1 → Sim M0 N2 o b (gvL o lw b s) (gvR o rw0 b s) (ys ++ [100, 0, 101, 0, 102]) s) :=
  ((sim_pr ho z64 z64 hM h k1).2 q0 hN1 (num_again hM k1 q0 (Int.le_refl _) (Ag.refl _ _))).2 q0 hN1 hz hz k2
theorem fai_up (h : Fai M0 o ys) : Fai M0 o (ys ++ nmX 2) := by
  have f := fai_c (fai_pair z64 z64 (fai_b (fai_n z64 (fai_o h))))
  rw [show o + 1 - 1 = o by omega] at f
  simpa [nmX] using f
theorem fai_down (h : Fai M0 o ys) : Fai M0 o (ys ++ nmX 3) := by
  have f := fai_c (fai_n z64 (fai_b (fai_pair z64 z64 (fai_o h))))
  rw [show o + 1 - 1 = o by omega] at f
  simpa [nmX] using f
theorem sim_up {z0 : Int} (ho : 0 ≤ o) (hM : Good (M 0 0) M) (h : Sim M0 M o b lw rw0 ys zz) (k1 : NumR M (M 0 0) 0 z0 N1) : (z0 = -1 → Fai M0 o (ys ++ nmX 2)) ∧ (z0 ≠ -1 → Good (N1 0 0) N1 → (0 ≤ z0 ∧ z0 < N1 0 0) → CmpR N1 (N1 0 0) (wB z0) (wB z0) s N2 → (s = -1 → Fai M0 o (ys ++ nmX 2)) ∧ (s ≠ -1 → Good (N2 0 0) N2 → (0 ≤ z0 ∧ z0 < N2 0 0) → (0 ≤ s ∧ s < N2 0 0) → CmpR N2 (N2 0 0) (wB z0) (wB s) r N3 → (r = -1 → Fai M0 o (ys ++ nmX 2)) ∧ (r ≠ -1 → Sim M0 N3 o b (gvL o lw b r) (gvR o rw0 b r) (ys ++ nmX 2) r))) := by
  have s1 := sim_o h
  refine ⟨fun q => ?_, fun q0 hN1 hz k2 => ?_⟩
  · have f := fai_c (fai_pair z64 z64 (fai_b ((sim_n z64 hM s1 k1).1 q)))
    rw [show o + 1 - 1 = o by omega] at f
    simpa [nmX] using f
  · have s2 := lf_b ho (lf_n ho z64 hM s1 k1 q0)
    have st := sim_star (by omega) hN1 s2 (num_again hM k1 q0 (Int.le_refl _) (Ag.refl _ _)) q0 hN1 hz k2
    refine ⟨fun q => ?_, fun qs hN2 r1 r2 k3 => ?_⟩
    · have f := fai_c (st.1 q)
      rw [show o + 1 - 1 = o by omega] at f
      simpa [nmX] using f
    · have c := cl_c ho hN2 (nrm1 ho (st.2 qs)) (wB_W r1 hN2.2.1) (wB_W r2 hN2.2.1) k3
      exact ⟨fun q => by have := c.1 q; simpa [nmX] using this, fun q => by have := c.2 q; simpa [nmX] using this⟩
theorem sim_down {z0 : Int} (ho : 0 ≤ o) (hM : Good (M 0 0) M) (h : Sim M0 M o b lw rw0 ys zz) (k1 : NumR M (M 0 0) 0 z0 N1) : (z0 = -1 → Fai M0 o (ys ++ nmX 3)) ∧ (z0 ≠ -1 → Good (N1 0 0) N1 → (0 ≤ z0 ∧ z0 < N1 0 0) → CmpR N1 (N1 0 0) (wB z0) (wB z0) s N2 → (s = -1 → Fai M0 o (ys ++ nmX 3)) ∧ (s ≠ -1 → Good (N2 0 0) N2 → (N1 0 0 ≤ N2 0 0 ∧ Ag N1 N2 (N1 0 0)) → (0 ≤ z0 ∧ z0 < N2 0 0) → (0 ≤ s ∧ s < N2 0 0) → CmpR N2 (N2 0 0) (wB s) (wB z0) r N3 → (r = -1 → Fai M0 o (ys ++ nmX 3)) ∧ (r ≠ -1 → Sim M0 N3 o b (gvL o lw b r) (gvR o rw0 b r) (ys ++ nmX 3) r))) := by
  have s1 := sim_o h
  refine ⟨fun q => ?_, fun q0 hN1 hz k2 => ?_⟩
  · have p := (sim_pr (z2 := 0) (r := 0) (N2 := M) (N3 := M) (show (0 : Int) ≤ o + 1 by omega) z64 z64 hM s1 k1).1 q
    have f := fai_c (fai_n z64 (fai_b p))
    rw [show o + 1 - 1 = o by omega] at f
    simpa [nmX] using f
  · have st := sim_star (by omega) hM s1 k1 q0 hN1 hz k2
    refine ⟨fun q => ?_, fun qs hN2 ag r1 r2 k3 => ?_⟩
    · have f := fai_c (fai_n z64 (fai_b (st.1 q)))
      rw [show o + 1 - 1 = o by omega] at f
      simpa [nmX] using f
    · have s3 := rt_n ho z64 hN2 (lf_b ho (nrm0 ho (st.2 qs))) (num_again hM k1 q0 ag.1 ag.2) q0
      have c := cl_c ho hN2 s3 (wB_W r2 hN2.2.1) (wB_W r1 hN2.2.1) k3
      exact ⟨fun q => by have := c.1 q; simpa [nmX] using this, fun q => by have := c.2 q; simpa [nmX] using this⟩
end NS
section H1
variable {u : Int → Int} {L : Int} {M0 : Mem}
theorem m_numberIs1 {g : Gs} {ad : Nat → Nat} {M : Mem} {o x : Int} {b : Int → Int} {ys : List Int} {f : Int → List Int} (co : Co u L M o b) (ho : 0 ≤ o ∧ o ≤ 80) (hJ : J1 M0 M o b ys) (hx : 0 ≤ x ∧ x ≤ 64) (sg : Sg M f) : SpV (wM g ad) yX10_numberIs cX10_numberIs 3 none 9 [.ref (ad 0), vI (x)] (M) (fun N => J1 M0 N o b (ys ++ f x) ∧ Co u L N o b ∧ FC M N) := by
  obtain ⟨kj, hJ⟩ := hJ
  have k52 := kj.2.1
  have hM := kj.2.2.1
  have px : (-64 : Int) ≤ x ∧ x ≤ 64 := by omega
  have nx : (-64 : Int) ≤ -x ∧ -x ≤ 64 := by omega
  intro l9 hl9
  refine ct_of hl9 mi_X10_numberIs.2.2.2 (Nat.le_of_ble_eq_true rfl) (fun X _ C Y => ?_)
  show E (wM g ad) X 0 0 (M) 0 [(0, .ref (ad 0)), (1, vI (x))] []
  refine e_wf (fun hw => ?_)
  rcases hJ with ⟨⟨h53, -⟩, lw, rw0, hd, sm⟩ | ⟨h53, fa⟩
  · -- a number that stands alone
    have one : ∀ e, (-64 ≤ e ∧ e ≤ 64) → M 55 0 * x = e → M 58 0 = 0 → f x = [e] → E (wM g ad) X 0 0 (M) 0 [(0, .ref (ad 0)), (1, vI (x))] [] := by
      intro e he e1 e2 e3
      refine B_X10_numberIs_0 (by omega) (Nat.zero_le _) (Nat.zero_le _) C Y ⟨fun q => absurd q (by omega), fun _ => ⟨fun _ => ?_, fun q => absurd h53 q⟩⟩
      rw [e1]
      refine ⟨by omega, _, m_num hM he, fun z N hN => ?_⟩
      obtain ⟨w, gs, zr, zi⟩ := hN
      have n58 : N 58 0 = 0 := (gs.1 58 0 (by decide) (by decide)).trans e2
      have n53 : N 53 0 = 0 := (gs.1 53 0 (by decide) (by decide)).trans h53
      have s := sim_n he hM sm w
      refine ⟨by omega, fun _ => ⟨_, m_gameIs (kj.gs gs) (co_gs gs co) ho n53 (fun i i0 i1 => (hd i i0 i1).gs gs) (ys := ys ++ [e]) ?_, fun P hP => ⟨rfl, ?_, hP.2.1, (fc_gs gs).trans hP.2.2⟩⟩, fun q => absurd n58 q⟩
      · by_cases q : z = -1
        · exact Or.inl ⟨q, s.1 q⟩
        · exact Or.inr ⟨zi q, s.2 q⟩
      · rw [e3]; exact hP.1
    rcases sg with ⟨s1, s2, rfl⟩ | ⟨s1, s2, rfl⟩ | ⟨s1, s2, rfl⟩
    · exact one x px (by rw [s1]; omega) s2 rfl
    · exact one (-x) nx (by rw [s1]; omega) s2 rfl
    · have e1 : M 55 0 * x = x := by rw [s1]; omega
      refine B_X10_numberIs_0 (by omega) (Nat.zero_le _) (Nat.zero_le _) C Y ⟨fun q => absurd q (by omega), fun _ => ⟨fun _ => ?_, fun q => absurd h53 q⟩⟩
      rw [e1]
      refine ⟨by omega, _, m_num hM px, fun z1 N1 h1 => ?_⟩
      obtain ⟨w1, g1, zr1, zi1⟩ := h1
      have n58 : N1 58 0 = 1 := (g1.1 58 0 (by decide) (by decide)).trans s2
      have n53 : N1 53 0 = 0 := (g1.1 53 0 (by decide) (by decide)).trans h53
      refine ⟨by omega, fun q => absurd q (by omega), fun _ => ⟨fun q => ⟨_, m_gameIs (kj.gs g1) (co_gs g1 co) ho n53 (fun i i0 i1 => (hd i i0 i1).gs g1) (Or.inl ⟨q, (sim_pr (z2 := 0) (r := 0) (N2 := M) (N3 := M) ho.1 px nx hM sm w1).1 q⟩), fun P hP => ⟨rfl, hP.1, hP.2.1, (fc_gs g1).trans hP.2.2⟩⟩, fun q1 => ⟨by omega, _, m_num g1.2.2.2 nx, fun z2 N2 h2 => ?_⟩⟩⟩
      obtain ⟨w2, g2, zr2, zi2⟩ := h2
      have g12 := g1.trans g2
      have r1 := zi1 q1
      have l2 := g2.2.1
      refine ⟨by omega, _, m_pr g2.2.2.2 (by omega) ?_, fun z3 N3 h3 => ?_⟩
      · by_cases q : z2 = -1
        · have := l2; omega
        · have := zi2 q; omega
      · rcases h3 with ⟨c1, c2, c3⟩ | ⟨⟨c1, c2⟩, w3, g3, zr3, zi3⟩
        · rw [c3]
          have q2 : z2 = -1 := by
            rcases c1 with c1 | c1
            · exact absurd c1 q1
            · exact c1
          have n53' : N2 53 0 = 0 := (g12.1 53 0 (by decide) (by decide)).trans h53
          exact ⟨by omega, _, m_gameIs (kj.gs g12) (co_gs g12 co) ho n53' (fun i i0 i1 => (hd i i0 i1).gs g12) (Or.inl ⟨c2, ((sim_pr (r := 0) (N3 := M) ho.1 px nx hM sm w1).2 q1 g1.2.2.2 w2).1 q2⟩), fun P hP => ⟨rfl, hP.1, hP.2.1, (fc_gs g12).trans hP.2.2⟩⟩
        · have g13 := g12.trans g3
          have r2 := zi2 c2
          have n53' : N3 53 0 = 0 := (g13.1 53 0 (by decide) (by decide)).trans h53
          have s := ((sim_pr ho.1 px nx hM sm w1).2 q1 g1.2.2.2 w2).2 c2 g2.2.2.2 (by omega) r2 w3
          refine ⟨by omega, _, m_gameIs (kj.gs g13) (co_gs g13 co) ho n53' (fun i i0 i1 => (hd i i0 i1).gs g13) (ys := ys ++ [100, x, 101, -x, 102]) ?_, fun P hP => ⟨rfl, hP.1, hP.2.1, (fc_gs g13).trans hP.2.2⟩⟩
          by_cases q : z3 = -1
          · exact Or.inl ⟨q, s.1 q⟩
          · exact Or.inr ⟨zi3 q, s.2 q⟩
  · refine B_X10_numberIs_0 (by omega) (Nat.zero_le _) (Nat.zero_le _) C Y ⟨fun q => absurd q (by omega), fun _ => ⟨fun q => absurd q (by omega), fun _ => ⟨rfl, ⟨kj, Or.inr ⟨h53, ?_⟩⟩, co, fun _ _ _ => rfl⟩⟩⟩
    rcases sg with ⟨s1, s2, rfl⟩ | ⟨s1, s2, rfl⟩ | ⟨s1, s2, rfl⟩
    · exact fai_n px fa
    · exact fai_n nx fa
    · exact fai_pair px nx fa
theorem m_nameIs1 {g : Gs} {ad : Nat → Nat} {M : Mem} {o k : Int} {b : Int → Int} {ys : List Int} (co : Co u L M o b) (ho : 0 ≤ o ∧ o ≤ 80) (hJ : J1 M0 M o b ys) (hk : k = 1 ∨ k = 2 ∨ k = 3) : SpV (wM g ad) yX10_nameIs cX10_nameIs 4 none 9 [.ref (ad 0), vI (k)] (M) (fun N => J1 M0 N o b (ys ++ nmX k) ∧ Co u L N o b ∧ FC M N) := by
  obtain ⟨kj, hJ⟩ := hJ
  have k52 := kj.2.1
  have hM := kj.2.2.1
  intro l9 hl9
  refine ct_of hl9 mi_X10_nameIs.2.2.2 (Nat.le_of_ble_eq_true rfl) (fun X _ C Y => ?_)
  show E (wM g ad) X 0 0 (M) 0 [(0, .ref (ad 0)), (1, vI (k))] []
  refine e_wf (fun hw => ?_)
  rcases hJ with ⟨⟨h53, -⟩, lw, rw0, hd, sm⟩ | ⟨h53, fa⟩
  · refine B_X10_nameIs_0 (by omega) (Nat.zero_le _) (Nat.zero_le _) C Y ⟨fun q => absurd q (by omega), fun _ => ⟨fun _ => ⟨_, m_num hM z64, fun z0 N1 h1 => ?_⟩, fun q => absurd h53 q⟩⟩
    obtain ⟨w1, g1, zr1, zi1⟩ := h1
    have g11 := g1.2.1
    have i1 : -1 ≤ z0 ∧ z0 < N1 0 0 := by
      by_cases q : z0 = -1
      · have := g1.2.2.2.1; omega
      · have := zi1 q; omega
    refine ⟨by omega, _, m_pr g1.2.2.2 i1 i1, fun s N2 h2 => ?_⟩
    -- what the end does
    have fin : ∀ (K : Mem) (r : Int), GS M K → (-1 ≤ r ∧ r < 40) → ((r = -1 ∧ Fai M0 o (ys ++ nmX k)) ∨ ((0 ≤ r ∧ r < K 0 0) ∧ Sim M0 K o b (gvL o lw b r) (gvR o rw0 b r) (ys ++ nmX k) r)) → ∃ Q : Mem → Prop, SpV (wM g ad) yX10_gameIs cX10_gameIs 4 none 1 [.ref (ad 0), vI (r)] (K) (Q) ∧ ∀ P, Q P → (none : Option Value) = none ∧ J1 M0 P o b (ys ++ nmX k) ∧ Co u L P o b ∧ FC M P := by
      intro K r gK rr hz
      have n53 : K 53 0 = 0 := (gK.1 53 0 (by decide) (by decide)).trans h53
      exact ⟨_, m_gameIs (kj.gs gK) (co_gs gK co) ho n53 (fun i i0 i1 => (hd i i0 i1).gs gK) hz, fun P hP => ⟨rfl, hP.1, hP.2.1, (fc_gs gK).trans hP.2.2⟩⟩
    have su := fun (s r : Int) (N2 N3 : Mem) => sim_up (s := s) (r := r) (N2 := N2) (N3 := N3) ho.1 hM sm w1
    have sd := fun (s r : Int) (N2 N3 : Mem) => sim_down (s := s) (r := r) (N2 := N2) (N3 := N3) ho.1 hM sm w1
    rcases h2 with ⟨c1, c2, c3⟩ | ⟨⟨c1, -⟩, w2, g2, zr2, zi2⟩
    · have q0 : z0 = -1 := by omega
      have fa : Fai M0 o (ys ++ nmX k) := by
        rcases hk with rfl | rfl | rfl
        · exact (sim_pr (z2 := 0) (r := 0) (N2 := M) (N3 := M) ho.1 z64 z64 hM sm w1).1 q0
        · exact (su 0 0 M M).1 q0
        · exact (sd 0 0 M M).1 q0
      rw [c3]
      refine ⟨by omega, fun _ => ⟨fun _ => ⟨_, m_pr g1.2.2.2 (by omega) i1, fun r N3 h3 => ?_⟩, fun _ => ⟨_, m_pr g1.2.2.2 i1 (by omega), fun r N3 h3 => ?_⟩⟩, fun _ => fin N1 s g1 (by omega) (Or.inl ⟨c2, fa⟩)⟩
      · rcases h3 with ⟨-, d2, d3⟩ | ⟨⟨d1, d2⟩, -⟩
        · rw [d3]; exact ⟨by omega, fin N1 r g1 (by omega) (Or.inl ⟨d2, fa⟩)⟩
        · omega
      · rcases h3 with ⟨-, d2, d3⟩ | ⟨⟨d1, d2⟩, -⟩
        · rw [d3]; exact ⟨by omega, fin N1 r g1 (by omega) (Or.inl ⟨d2, fa⟩)⟩
        · omega
    · have r0 := zi1 c1
      have g12 := g1.trans g2
      have g22 := g2.2.1
      have is : -1 ≤ s ∧ s < N2 0 0 := by
        by_cases q : s = -1
        · omega
        · have := zi2 q; omega
      refine ⟨by omega, fun k1 => ⟨fun k2 => ⟨_, m_pr g2.2.2.2 is (by omega), fun r N3 h3 => ?_⟩, fun k2 => ⟨_, m_pr g2.2.2.2 (by omega) is, fun r N3 h3 => ?_⟩⟩, fun k1 => ?_⟩
      · have k3 : k = 3 := by omega
        subst k3
        have d := (sd s r N2 N3).2 c1 g1.2.2.2 r0 w2
        rcases h3 with ⟨e1, e2, e3⟩ | ⟨⟨e1, -⟩, w3, g3, zr3, zi3⟩
        · rw [e3]
          exact ⟨by omega, fin N2 r g12 (by omega) (Or.inl ⟨e2, d.1 (by omega)⟩)⟩
        · have d2 := d.2 e1 g2.2.2.2 ⟨g22.1, g2.2.2.1⟩ (by omega) (zi2 e1) w3
          refine ⟨by omega, fin N3 r (g12.trans g3) zr3 ?_⟩
          by_cases q : r = -1
          · exact Or.inl ⟨q, d2.1 q⟩
          · exact Or.inr ⟨zi3 q, d2.2 q⟩
      · subst k2
        have d := (su s r N2 N3).2 c1 g1.2.2.2 r0 w2
        rcases h3 with ⟨e1, e2, e3⟩ | ⟨⟨-, e1⟩, w3, g3, zr3, zi3⟩
        · rw [e3]
          exact ⟨by omega, fin N2 r g12 (by omega) (Or.inl ⟨e2, d.1 (by omega)⟩)⟩
        · have d2 := d.2 e1 g2.2.2.2 (by omega) (zi2 e1) w3
          refine ⟨by omega, fin N3 r (g12.trans g3) zr3 ?_⟩
          by_cases q : r = -1
          · exact Or.inl ⟨q, d2.1 q⟩
          · exact Or.inr ⟨zi3 q, d2.2 q⟩
      · subst k1
        have d := sim_star ho.1 hM sm w1 c1 g1.2.2.2 r0 w2
        refine fin N2 s g12 zr2 ?_
        by_cases q : s = -1
        · exact Or.inl ⟨q, d.1 q⟩
        · exact Or.inr ⟨zi2 q, d.2 q⟩
  · refine B_X10_nameIs_0 (by omega) (Nat.zero_le _) (Nat.zero_le _) C Y ⟨fun q => absurd q (by omega), fun _ => ⟨fun q => absurd q (by omega), fun _ => ⟨rfl, ⟨kj, Or.inr ⟨h53, ?_⟩⟩, co, fun _ _ _ => rfl⟩⟩⟩
    rcases hk with rfl | rfl | rfl
    · exact fai_pair z64 z64 fa
    · exact fai_up fa
    · exact fai_down fa
end H1
