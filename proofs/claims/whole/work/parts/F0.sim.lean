/-! ===== the reference against a run of the builder ===== -/
/-- every run of the builder over ys goes on from here -/
def Sim (M0 M : Mem) (o : Int) (b lw rw0 : Int → Int) (ys : List Int) (z : Int) : Prop := ∀ l0 r0 b0 zs r G', BdR (ys ++ zs) M0 0 l0 r0 b0 (-1) r G' → ∃ G lw' rw' bb z', (G 0 0 = M 0 0 ∧ Ag M G (M 0 0)) ∧ (∀ i, 0 ≤ i → i < o → lw' i = lw i ∧ rw' i = rw0 i ∧ bb i = b i) ∧ (mkS ys → z' = z) ∧ BdR zs G o lw' rw' bb z' r G'
/-- every run of the builder over ys fails -/
def Fai (M0 : Mem) (o : Int) (ys : List Int) : Prop := ∀ l0 r0 b0 zs r G', Dp zs o 0 → BdR (ys ++ zs) M0 0 l0 r0 b0 (-1) r G' → r = -1
theorem dp_n {x o o' : Int} {xs : List Int} (hx : -64 ≤ x ∧ x ≤ 64) (h : Dp xs o o') : Dp (x :: xs) o o' := by
  unfold Dp
  rw [if_neg (by omega), if_neg (by omega), if_neg (by omega)]
  exact ⟨hx, h⟩
theorem dp_o {o o' : Int} {xs : List Int} (h : Dp xs (o + 1) o') : Dp (100 :: xs) o o' := by
  unfold Dp
  rw [if_pos rfl]
  exact h
theorem dp_b {o o' : Int} {xs : List Int} (h : Dp xs o o') : Dp (101 :: xs) o o' := by
  unfold Dp
  rw [if_neg (by decide), if_pos rfl]
  exact h
theorem dp_c {o o' : Int} {xs : List Int} (h : Dp xs (o - 1) o') : Dp (102 :: xs) o o' := by
  unfold Dp
  rw [if_neg (by decide), if_neg (by decide), if_pos rfl]
  exact h
section FAI
variable {M0 : Mem} {o : Int} {ys : List Int}
theorem fai_o (h : Fai M0 o ys) : Fai M0 (o + 1) (ys ++ [100]) := fun l0 r0 b0 zs r G' q1 q2 => h l0 r0 b0 (100 :: zs) r G' (dp_o q1) (by rw [List.append_assoc] at q2; exact q2)
theorem fai_b (h : Fai M0 o ys) : Fai M0 o (ys ++ [101]) := fun l0 r0 b0 zs r G' q1 q2 => h l0 r0 b0 (101 :: zs) r G' (dp_b q1) (by rw [List.append_assoc] at q2; exact q2)
theorem fai_c (h : Fai M0 o ys) : Fai M0 (o - 1) (ys ++ [102]) := fun l0 r0 b0 zs r G' q1 q2 => h l0 r0 b0 (102 :: zs) r G' (dp_c q1) (by rw [List.append_assoc] at q2; exact q2)
theorem fai_n {x : Int} (hx : -64 ≤ x ∧ x ≤ 64) (h : Fai M0 o ys) : Fai M0 o (ys ++ [x]) := fun l0 r0 b0 zs r G' q1 q2 => h l0 r0 b0 (x :: zs) r G' (dp_n hx q1) (by rw [List.append_assoc] at q2; exact q2)
end FAI
section SIM
variable {M0 M N : Mem} {o z zz : Int} {b lw rw0 : Int → Int} {ys : List Int}
theorem sim_cg {b2 l2 r2 : Int → Int} (e : ∀ i, 0 ≤ i → i < o → l2 i = lw i ∧ r2 i = rw0 i ∧ b2 i = b i) (h : Sim M0 M o b lw rw0 ys z) : Sim M0 M o b2 l2 r2 ys z := by
  intro l0 r0 b0 zs r G' q
  obtain ⟨G, lw', rw', bb, z', a1, a2, a3, a4⟩ := h l0 r0 b0 zs r G' q
  exact ⟨G, lw', rw', bb, z', a1, fun i i0 i1 => by have := e i i0 i1; have := a2 i i0 i1; simp_all, a3, a4⟩
theorem sim_mem {N : Mem} (h : Sim M0 M o b lw rw0 ys z) (h0 : N 0 0 = M 0 0) (ag : Ag M N (M 0 0)) : Sim M0 N o b lw rw0 ys z := by
  intro l0 r0 b0 zs r G' q
  obtain ⟨G, lw', rw', bb, z', a1, a2, a3, a4⟩ := h l0 r0 b0 zs r G' q
  exact ⟨G, lw', rw', bb, z', ⟨a1.1.trans h0.symm, by rw [h0]; exact ag.symm.trans (Int.le_refl _) a1.2⟩, a2, a3, a4⟩
theorem mk_app {xs : List Int} {x : Int} (hx : x = 100 ∨ x = 101) (h : mkS (xs ++ [x])) : mkS xs := by
  obtain ⟨y, y1, y2, y3⟩ := h
  rcases List.mem_append.mp y1 with q | q
  · exact ⟨y, q, y2, y3⟩
  · rw [List.mem_singleton] at q; omega
theorem sim_o (h : Sim M0 M o b lw rw0 ys z) : Sim M0 M (o + 1) (stA b o 0) (stA lw o 0) (stA rw0 o 0) (ys ++ [100]) z := by
  intro l0 r0 b0 zs r G' q
  rw [List.append_assoc] at q
  obtain ⟨G, lw', rw', bb, z', a1, a2, a3, a4⟩ := h l0 r0 b0 (100 :: zs) r G' q
  refine ⟨G, _, _, _, z', a1, fun i i0 i1 => ?_, fun w => a3 (mk_app (Or.inl rfl) w), bd_o.mp a4⟩
  unfold stA
  by_cases e : i = o
  · exact ⟨by rw [if_pos e, if_pos e], by rw [if_pos e, if_pos e], by rw [if_pos e, if_pos e]⟩
  · rw [if_neg e, if_neg e, if_neg e, if_neg e, if_neg e, if_neg e]; exact a2 i i0 (by omega)
theorem sim_b (ho : 1 ≤ o) (h : Sim M0 M o b lw rw0 ys z) : Sim M0 M o (stA b (o - 1) 1) lw rw0 (ys ++ [101]) z := by
  intro l0 r0 b0 zs r G' q
  rw [List.append_assoc] at q
  obtain ⟨G, lw', rw', bb, z', a1, a2, a3, a4⟩ := h l0 r0 b0 (101 :: zs) r G' q
  refine ⟨G, _, _, _, z', a1, fun i i0 i1 => ?_, fun w => a3 (mk_app (Or.inr rfl) w), bd_b.mp a4⟩
  have := a2 i i0 i1
  refine ⟨this.1, this.2.1, ?_⟩
  unfold stA
  split
  · rfl
  · exact this.2.2
theorem gv_cg {p : Int} {lw' rw' bb : Int → Int} (hp : p ≤ o) (a2 : ∀ i, 0 ≤ i → i < o → lw' i = lw i ∧ rw' i = rw0 i ∧ bb i = b i) : ∀ i, 0 ≤ i → i < p → gvL p lw' bb z i = gvL p lw b z i ∧ gvR p rw' bb z i = gvR p rw0 b z i ∧ bb i = b i := by
  intro i i0 i1
  have a := a2 i i0 (by omega)
  unfold gvL gvR
  by_cases e : i = p - 1
  · have c := a2 (p - 1) (by omega) (by omega)
    rw [a.1, a.2.1, c.2.2]
    exact ⟨rfl, rfl, a.2.2⟩
  · rw [if_neg (fun w => e w.1), if_neg (fun w => e w.1), if_neg (fun w => e w.1), if_neg (fun w => e w.1)]
    exact a
theorem sim_n {x : Int} (hx : -64 ≤ x ∧ x ≤ 64) (hM : Good (M 0 0) M) (h : Sim M0 M o b lw rw0 ys zz) (k : NumR M (M 0 0) x z N) : (z = -1 → Fai M0 o (ys ++ [x])) ∧ (z ≠ -1 → Sim M0 N o b (gvL o lw b z) (gvR o rw0 b z) (ys ++ [x]) z) := by
  have key : ∀ l0 r0 b0 zs r G', BdR ((ys ++ [x]) ++ zs) M0 0 l0 r0 b0 (-1) r G' → ∃ G1 lw' rw' bb, (N 0 0 = G1 0 0 ∧ Ag N G1 (N 0 0)) ∧ (∀ i, 0 ≤ i → i < o → lw' i = lw i ∧ rw' i = rw0 i ∧ bb i = b i) ∧ ((z = -1 ∧ r = -1) ∨ (z ≠ -1 ∧ BdR zs G1 o (gvL o lw' bb z) (gvR o rw' bb z) bb z r G')) := by
    intro l0 r0 b0 zs r G' q
    rw [List.append_assoc] at q
    obtain ⟨G, lw', rw', bb, z', a1, a2, a3, a4⟩ := h l0 r0 b0 (x :: zs) r G' q
    obtain ⟨z1, G1, h1, h2⟩ := (bd_n hx).mp a4
    rw [a1.1] at h1
    obtain ⟨u1, u2, u3⟩ := num_uq hM.1 k (num_cg a1.2 h1)
    subst u1
    refine ⟨G1, lw', rw', bb, ⟨u2, u3⟩, a2, ?_⟩
    rcases h2 with h2 | h2
    · exact Or.inl ⟨h2.1, h2.2.1⟩
    · exact Or.inr h2
  constructor
  · intro zn l0 r0 b0 zs r G' _ q
    obtain ⟨G1, lw', rw', bb, a1, a2, a3 | a3⟩ := key l0 r0 b0 zs r G' q
    · exact a3.2
    · exact absurd zn a3.1
  · intro zn l0 r0 b0 zs r G' q
    obtain ⟨G1, lw', rw', bb, a1, a2, a3 | a3⟩ := key l0 r0 b0 zs r G' q
    · exact absurd a3.1 zn
    · exact ⟨G1, _, _, bb, z, ⟨a1.1.symm, a1.2⟩, gv_cg (Int.le_refl _) a2, fun _ => rfl, a3.2⟩
theorem sim_c (ho : 1 ≤ o) (hM : Good (M 0 0) M) (h : Sim M0 M o b lw rw0 ys zz) (wl : Wd40 (lw (o - 1)) (M 0 0)) (wr : Wd40 (rw0 (o - 1)) (M 0 0)) (k : CmpR M (M 0 0) (lw (o - 1)) (rw0 (o - 1)) z N) : (z = -1 → Fai M0 (o - 1) (ys ++ [102])) ∧ (z ≠ -1 → Sim M0 N (o - 1) b (gvL (o - 1) lw b z) (gvR (o - 1) rw0 b z) (ys ++ [102]) z) := by
  have key : ∀ l0 r0 b0 zs r G', BdR ((ys ++ [102]) ++ zs) M0 0 l0 r0 b0 (-1) r G' → ∃ G1 lw' rw' bb, (N 0 0 = G1 0 0 ∧ Ag N G1 (N 0 0)) ∧ (∀ i, 0 ≤ i → i < o → lw' i = lw i ∧ rw' i = rw0 i ∧ bb i = b i) ∧ ((z = -1 ∧ r = -1) ∨ (z ≠ -1 ∧ BdR zs G1 (o - 1) (gvL (o - 1) lw' bb z) (gvR (o - 1) rw' bb z) bb z r G')) := by
    intro l0 r0 b0 zs r G' q
    rw [List.append_assoc] at q
    obtain ⟨G, lw', rw', bb, z', a1, a2, a3, a4⟩ := h l0 r0 b0 (102 :: zs) r G' q
    obtain ⟨z1, G1, h1, h2⟩ := bd_c.mp a4
    have ao := a2 (o - 1) (by omega) (by omega)
    rw [a1.1, ao.1, ao.2.1] at h1
    obtain ⟨u1, u2, u3⟩ := cmp_uq hM wl wr k (cmp_cg a1.2 wl wr h1)
    subst u1
    refine ⟨G1, lw', rw', bb, ⟨u2, u3⟩, a2, ?_⟩
    rcases h2 with h2 | h2
    · exact Or.inl ⟨h2.1, h2.2.1⟩
    · exact Or.inr h2
  constructor
  · intro zn l0 r0 b0 zs r G' _ q
    obtain ⟨G1, lw', rw', bb, a1, a2, a3 | a3⟩ := key l0 r0 b0 zs r G' q
    · exact a3.2
    · exact absurd zn a3.1
  · intro zn l0 r0 b0 zs r G' q
    obtain ⟨G1, lw', rw', bb, a1, a2, a3 | a3⟩ := key l0 r0 b0 zs r G' q
    · exact absurd a3.1 zn
    · exact ⟨G1, _, _, bb, z, ⟨a1.1.symm, a1.2⟩, gv_cg (by omega) a2, fun _ => rfl, a3.2⟩
/-- a word with one game -/
def wB (z : Int) : Int := lorL 0 (lshlL 1 z)
theorem wB_W {n : Int} (hz : 0 ≤ z ∧ z < n) (hn : n ≤ 40) : Wd40 (wB z) n := wd_or wd_0 hz hn
theorem wB_tb {x : Int} (hz : 0 ≤ z ∧ z < 40) (hx : 0 ≤ x ∧ x < 40) : tb (wB z) x = true ↔ x = z := by
  unfold wB
  rw [tb_or, tb_0 (by omega), tb_bit (by omega) (by omega), Bool.false_or, decide_eq_true_eq]
/-- inside an open level: a game on the left, a bar, a game on the right, the close -/
theorem nrm0 (ho : 0 ≤ o) (h : Sim M0 M (o + 1) (stA b o 0) (gvL (o + 1) (stA lw o 0) (stA b o 0) z) (gvR (o + 1) (stA rw0 o 0) (stA b o 0) z) ys zz) : Sim M0 M (o + 1) (stA b o 0) (stA lw o (wB z)) (stA rw0 o 0) ys zz := by
  refine sim_cg (fun i i0 i1 => ?_) h
  unfold gvL gvR stA wB
  by_cases e : i = o
  · subst e; simp; omega
  · have e2 : ¬ (i = o + 1 - 1) := by omega
    exact ⟨by rw [if_neg e, if_neg (fun w => e2 w.1), if_neg e], by rw [if_neg e, if_neg (fun w => e2 w.1)], rfl⟩
theorem nrm1 {w : Int} (ho : 0 ≤ o) (h : Sim M0 M (o + 1) (stA b o 1) (gvL (o + 1) (stA lw o w) (stA b o 1) z) (gvR (o + 1) (stA rw0 o 0) (stA b o 1) z) ys zz) : Sim M0 M (o + 1) (stA b o 1) (stA lw o w) (stA rw0 o (wB z)) ys zz := by
  refine sim_cg (fun i i0 i1 => ?_) h
  unfold gvL gvR stA wB
  by_cases e : i = o
  · subst e; simp; omega
  · have e2 : ¬ (i = o + 1 - 1) := by omega
    exact ⟨by rw [if_neg e, if_neg (fun w => e2 w.1)], by rw [if_neg e, if_neg (fun w => e2 w.1), if_neg e], rfl⟩
theorem nrmb (h : Sim M0 M (o + 1) (stA (stA b o 0) (o + 1 - 1) 1) lw rw0 ys zz) : Sim M0 M (o + 1) (stA b o 1) lw rw0 ys zz := by
  refine sim_cg (fun i i0 i1 => ⟨rfl, rfl, ?_⟩) h
  unfold stA
  by_cases e : i = o
  · rw [if_pos e, if_pos (by omega)]
  · rw [if_neg e, if_neg (by omega), if_neg e]
theorem nrmc {w1 w2 : Int} (h : Sim M0 M (o + 1 - 1) (stA b o 1) (gvL (o + 1 - 1) (stA lw o w1) (stA b o 1) z) (gvR (o + 1 - 1) (stA rw0 o w2) (stA b o 1) z) ys zz) : Sim M0 M o b (gvL o lw b z) (gvR o rw0 b z) ys zz := by
  rw [show o + 1 - 1 = o by omega] at h
  refine sim_cg (fun i i0 i1 => ?_) h
  have e : i ≠ o := by omega
  have e2 : o - 1 ≠ o := by omega
  unfold gvL gvR stA
  rw [if_neg e2, if_neg e, if_neg e, if_neg e]
  exact ⟨rfl, rfl, rfl⟩
theorem lf_n {x : Int} (ho : 0 ≤ o) (hx : -64 ≤ x ∧ x ≤ 64) (hM : Good (M 0 0) M) (h : Sim M0 M (o + 1) (stA b o 0) (stA lw o 0) (stA rw0 o 0) ys zz) (k : NumR M (M 0 0) x z N) (zn : z ≠ -1) : Sim M0 N (o + 1) (stA b o 0) (stA lw o (wB z)) (stA rw0 o 0) (ys ++ [x]) z := nrm0 ho ((sim_n hx hM h k).2 zn)
theorem lf_b (ho : 0 ≤ o) (h : Sim M0 M (o + 1) (stA b o 0) lw rw0 ys zz) : Sim M0 M (o + 1) (stA b o 1) lw rw0 (ys ++ [101]) zz := nrmb (sim_b (by omega) h)
theorem rt_n {x w : Int} (ho : 0 ≤ o) (hx : -64 ≤ x ∧ x ≤ 64) (hM : Good (M 0 0) M) (h : Sim M0 M (o + 1) (stA b o 1) (stA lw o w) (stA rw0 o 0) ys zz) (k : NumR M (M 0 0) x z N) (zn : z ≠ -1) : Sim M0 N (o + 1) (stA b o 1) (stA lw o w) (stA rw0 o (wB z)) (ys ++ [x]) z := nrm1 ho ((sim_n hx hM h k).2 zn)
theorem stA_s {f : Int → Int} {v : Int} : stA f o v (o + 1 - 1) = v := by unfold stA; rw [if_pos (by omega)]
theorem cl_c {w1 w2 : Int} (ho : 0 ≤ o) (hM : Good (M 0 0) M) (h : Sim M0 M (o + 1) (stA b o 1) (stA lw o w1) (stA rw0 o w2) ys zz) (wl : Wd40 w1 (M 0 0)) (wr : Wd40 w2 (M 0 0)) (k : CmpR M (M 0 0) w1 w2 z N) : (z = -1 → Fai M0 o (ys ++ [102])) ∧ (z ≠ -1 → Sim M0 N o b (gvL o lw b z) (gvR o rw0 b z) (ys ++ [102]) z) := by
  have s := sim_c (z := z) (N := N) (by omega) hM h (by rw [stA_s]; exact wl) (by rw [stA_s]; exact wr) (by rw [stA_s, stA_s]; exact k)
  refine ⟨fun q => ?_, fun q => nrmc (s.2 q)⟩
  have := s.1 q
  rwa [show o + 1 - 1 = o by omega] at this
end SIM
theorem num_again {M N K : Mem} {x z : Int} (hM : Good (M 0 0) M) (h : NumR M (M 0 0) x z N) (zn : z ≠ -1) (hK : N 0 0 ≤ K 0 0) (ag : Ag N K (N 0 0)) : NumR K (K 0 0) x z K := by
  have g0 := hM.1
  rcases h with ⟨a, b, c, d, e, f⟩ | ⟨a, -⟩ | ⟨a, b, c, m0, m1, m2, m3, m4⟩
  · rw [c] at ag hK
    have ag2 : Ag M K (M 0 0) := d.trans (Int.le_refl _) ag
    exact Or.inl ⟨a, by omega, rfl, Ag.refl _ _, (isN_cg ag2 ⟨a, b⟩).mpr e, fun y y0 y1 q => f y y0 y1 ((isN_cg ag2 ⟨y0, by omega⟩).mp q)⟩
  · exact absurd a zn
  · rw [m0] at ag hK
    have ag2 : Ag M K (M 0 0) := m2.trans (Int.le_refl _) (ag.mono (by omega))
    have e : IsN N z x := by rw [a]; exact ⟨by rw [m3]; decide, m4⟩
    exact Or.inl ⟨by omega, by omega, rfl, Ag.refl _ _, (isN_cg ag ⟨by omega, by omega⟩).mpr e, fun y y0 y1 q => c y y0 (by omega) ((isN_cg ag2 ⟨y0, by omega⟩).mp q)⟩
