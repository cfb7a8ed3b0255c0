/-! ===== the games of the steps ===== -/
def Wf : List Int → Int → Int → Prop
  | [], o, o' => o = o'
  | x :: xs, o, o' => if x = 100 then (0 ≤ o ∧ o < 80) ∧ Wf xs (o + 1) o' else if x = 101 then (1 ≤ o ∧ o ≤ 80) ∧ Wf xs o o' else if x = 102 then (1 ≤ o ∧ o ≤ 80) ∧ Wf xs (o - 1) o' else (-64 ≤ x ∧ x ≤ 64) ∧ (0 ≤ o ∧ o ≤ 80) ∧ Wf xs o o'
theorem wf_app : ∀ (xs : List Int) {ys : List Int} {o o1 o2 : Int}, Wf xs o o1 → Wf ys o1 o2 → Wf (xs ++ ys) o o2 := by
  intro xs
  induction xs with
  | nil => intro ys o o1 o2 h k; rw [show o = o1 from h]; exact k
  | cons x xs ih =>
    intro ys o o1 o2 h k
    rw [List.cons_append]
    unfold Wf at h ⊢
    split
    · rename_i q; rw [if_pos q] at h; exact ⟨h.1, ih h.2 k⟩
    · rename_i q; rw [if_neg q] at h
      split
      · rename_i q; rw [if_pos q] at h; exact ⟨h.1, ih h.2 k⟩
      · rename_i q; rw [if_neg q] at h
        split
        · rename_i q; rw [if_pos q] at h; exact ⟨h.1, ih h.2 k⟩
        · rename_i q; rw [if_neg q] at h; exact ⟨h.1, h.2.1, ih h.2.2 k⟩
theorem wf_n {x o o' : Int} {xs : List Int} (hx : -64 ≤ x ∧ x ≤ 64) (ho : 0 ≤ o ∧ o ≤ 80) (h : Wf xs o o') : Wf (x :: xs) o o' := by
  unfold Wf
  rw [if_neg (by omega), if_neg (by omega), if_neg (by omega)]
  exact ⟨hx, ho, h⟩
theorem wf_o {o o' : Int} {xs : List Int} (ho : 0 ≤ o ∧ o < 80) (h : Wf xs (o + 1) o') : Wf (100 :: xs) o o' := by
  unfold Wf
  rw [if_pos rfl]
  exact ⟨ho, h⟩
theorem wf_b {o o' : Int} {xs : List Int} (ho : 1 ≤ o ∧ o ≤ 80) (h : Wf xs o o') : Wf (101 :: xs) o o' := by
  unfold Wf
  rw [if_neg (by decide), if_pos rfl]
  exact ⟨ho, h⟩
theorem wf_c {o o' : Int} {xs : List Int} (ho : 1 ≤ o ∧ o ≤ 80) (h : Wf xs (o - 1) o') : Wf (102 :: xs) o o' := by
  unfold Wf
  rw [if_neg (by decide), if_neg (by decide), if_pos rfl]
  exact ⟨ho, h⟩
theorem wf_e {o o' : Int} (h : o = o') : Wf [] o o' := h
/-- something is made -/
def mkS (xs : List Int) : Prop := ∃ x, x ∈ xs ∧ x ≠ 100 ∧ x ≠ 101
theorem rd_wf {u : Int → Int} {L w o : Int} {b : Int → Int} {e : Int} (hL : L ≤ 80) (h : Ms L w o e) (hw : w ≠ 4) {w' o' : Int} {b' : Int → Int} {e' : Int} {xs : List Int} (hr : rdF u L w o b e = .inr ((w', o', b', e'), xs)) : Wf xs o o' ∧ (w ≠ 3 → w' = 3 → mkS xs) ∧ (w' = 4 → w = 3) := by
  obtain ⟨h1, h2, h3, h4⟩ := h
  have r1 := atT_r (u := u) h4
  have r2 := atT_r (u := u) (L := L) (e := enF u L e) (by omega)
  have o80 : 0 ≤ o ∧ o ≤ 80 := by omega
  have nu : ∀ (p : Int) (f : Int → List Int), e ≤ p → p ≤ L → (∀ x, 0 ≤ x → x ≤ 64 → e < L → Wf (f x) o o ∧ mkS (f x)) → nuF (posF u L p) o b f = .inr ((w', o', b', e'), xs) → Wf xs o o' ∧ (w ≠ 3 → w' = 3 → mkS xs) ∧ (w' = 4 → w = 3) := by
    intro p f p1 p2 hf hz
    have pr := posF_r (u := u) (L := L) (e := p) (by omega)
    generalize posF u L p = z at pr hz
    cases z with
    | inl q => cases hz
    | inr q =>
      obtain ⟨x, e1⟩ := q
      have pe := pr.2 x e1 rfl
      cases hz
      have := hf x pe.1.1 pe.1.2 (by omega)
      exact ⟨this.1, fun _ _ => this.2, fun q => absurd q (by decide)⟩
  unfold rdF at hr
  by_cases w3 : w = 3
  · rw [if_pos w3] at hr
    unfold bhF at hr
    by_cases o0 : o = 0
    · rw [if_pos o0] at hr
      by_cases k0 : kdF u L e = 0
      · rw [if_pos k0] at hr; cases hr; exact ⟨rfl, fun q => absurd w3 q, fun _ => w3⟩
      · rw [if_neg k0] at hr; cases hr
    · rw [if_neg o0] at hr
      by_cases k1 : kdF u L e = 44
      · rw [if_pos k1] at hr; cases hr; exact ⟨rfl, fun q => absurd w3 q, fun _ => w3⟩
      · rw [if_neg k1] at hr
        by_cases k2 : kdF u L e = 124 ∧ b (o - 1) = 0
        · rw [if_pos k2] at hr; cases hr; exact ⟨wf_b (by omega) (wf_e rfl), fun q => absurd w3 q, fun _ => w3⟩
        · rw [if_neg k2] at hr
          by_cases k3 : kdF u L e = 125 ∧ b (o - 1) ≠ 0
          · rw [if_pos k3] at hr; cases hr; exact ⟨wf_c (by omega) (wf_e rfl), fun q => absurd w3 q, fun _ => w3⟩
          · rw [if_neg k3] at hr; cases hr
  · rw [if_neg w3] at hr
    unfold gmF at hr
    by_cases k1 : kdF u L e = 2
    · have lt := r1.2.2.2 (by omega)
      rw [if_pos k1] at hr
      by_cases k2 : nmK u L e = 6
      · rw [if_pos k2] at hr; cases hr
      · rw [if_neg k2] at hr
        have l2 : 2 ≤ enF u L e - stF u L e := by
          unfold nmK at k2
          split at k2
          · omega
          · split at k2
            · omega
            · split at k2
              · omega
              · omega
        cases hr
        have o9 : o + 2 ≤ 80 := by omega
        have i64 : (-64 : Int) ≤ 0 ∧ (0 : Int) ≤ 64 := by decide
        refine ⟨?_, fun _ _ => ⟨102, ?_, by decide, by decide⟩, fun q => absurd q (by decide)⟩
        · unfold nmX
          split
          · exact wf_o (by omega) (wf_n i64 (by omega) (wf_b (by omega) (wf_n i64 (by omega) (wf_c (by omega) (wf_e (by omega))))))
          · split
            · exact wf_o (by omega) (wf_n i64 (by omega) (wf_b (by omega) (wf_o (by omega) (wf_n i64 (by omega) (wf_b (by omega) (wf_n i64 (by omega) (wf_c (by omega) (wf_c (by omega) (wf_e (by omega))))))))))
            · exact wf_o (by omega) (wf_o (by omega) (wf_n i64 (by omega) (wf_b (by omega) (wf_n i64 (by omega) (wf_c (by omega) (wf_b (by omega) (wf_n i64 (by omega) (wf_c (by omega) (wf_e (by omega))))))))))
        · unfold nmX
          split
          · decide
          · split <;> decide
    · rw [if_neg k1] at hr
      by_cases k2 : kdF u L e = 43
      · rw [if_pos k2] at hr
        by_cases k3 : kdA u L (enF u L e) = 45
        · rw [if_pos k3] at hr
          exact nu _ _ (by omega) (by omega) (fun x x0 x1 eL => ⟨wf_o (by omega) (wf_n (by omega) (by omega) (wf_b (by omega) (wf_n (by omega) (by omega) (wf_c (by omega) (wf_e (by omega)))))), 102, by simp, by decide, by decide⟩) hr
        · rw [if_neg k3] at hr; cases hr
      · rw [if_neg k2] at hr
        by_cases k3 : kdF u L e = 45
        · rw [if_pos k3] at hr
          exact nu _ _ (by omega) (by omega) (fun x x0 x1 eL => ⟨wf_n (by omega) (by omega) (wf_e rfl), -x, by simp, by omega, by omega⟩) hr
        · rw [if_neg k3] at hr
          by_cases k4 : kdF u L e = 3
          · rw [if_pos k4] at hr
            exact nu _ _ (by omega) (by omega) (fun x x0 x1 eL => ⟨wf_n (by omega) (by omega) (wf_e rfl), x, by simp, by omega, by omega⟩) hr
          · rw [if_neg k4] at hr
            by_cases k5 : kdF u L e = 123
            · have lt := r1.2.2.2 (by omega)
              rw [if_pos k5] at hr; cases hr
              exact ⟨wf_o (by omega) (wf_e rfl), fun _ q => absurd q (by decide), fun q => absurd q (by decide)⟩
            · rw [if_neg k5] at hr
              by_cases k6 : kdF u L e = 124 ∧ w = 1
              · rw [if_pos k6] at hr; cases hr
                exact ⟨wf_b (by omega) (wf_e rfl), fun _ q => absurd q (by decide), fun q => absurd q (by decide)⟩
              · rw [if_neg k6] at hr
                by_cases k7 : kdF u L e = 125 ∧ w = 2
                · rw [if_pos k7] at hr; cases hr
                  exact ⟨wf_c (by omega) (wf_e rfl), fun _ _ => ⟨102, by simp, by decide, by decide⟩, fun q => absurd q (by decide)⟩
                · rw [if_neg k7] at hr; cases hr
theorem rn_wf {u : Int → Int} {L w o : Int} {b : Int → Int} {e : Int} {xs : List Int} (hL : L ≤ 80) (ms : Ms L w o e) (w4 : w = 4 → o = 0) (h : Rn u L w o b e (-1) xs) : Wf xs o 0 ∧ (w ≠ 3 → w ≠ 4 → mkS xs) := by
  obtain ⟨n, h⟩ := h
  induction n generalizing w o b e xs with
  | zero =>
    obtain ⟨h1, h2, h3⟩ := h
    rw [h3]
    exact ⟨wf_e (w4 h1), fun _ q => absurd h1 q⟩
  | succ n ih =>
    rcases h.cs with ⟨h1, h2, h3⟩ | ⟨h1, h2, h3⟩ | ⟨h1, w1, o1, b1, e1, ys, zs, k1, hk1, h2, h3, h4⟩
    · rw [h3]
      exact ⟨wf_e (w4 h1), fun _ q => absurd h1 q⟩
    · have := (rd_ms ms h1).1 _ h2; omega
    · have ek : k1 = n := by omega
      subst ek
      have m2 := (rd_ms ms h1).2 _ _ _ _ _ h2
      have r := rd_wf hL ms h1 h2
      have i := ih m2.1 m2.2.2.2.2 h3
      rw [h4]
      refine ⟨wf_app _ r.1 i.1, fun q3 q4 => ?_⟩
      by_cases e3 : w1 = 3
      · obtain ⟨x, x1, x2⟩ := r.2.1 q3 e3
        exact ⟨x, List.mem_append_left _ x1, x2⟩
      · obtain ⟨x, x1, x2⟩ := i.2 e3 (fun q => q3 (r.2.2 q))
        exact ⟨x, List.mem_append_right _ x1, x2⟩
/-! the run of the builder -/
def gvL (o : Int) (lw bb : Int → Int) (z : Int) : Int → Int := fun i => if i = o - 1 ∧ 0 ≤ o - 1 ∧ bb (o - 1) = 0 then lorL (lw i) (lshlL 1 z) else lw i
def gvR (o : Int) (rw0 bb : Int → Int) (z : Int) : Int → Int := fun i => if i = o - 1 ∧ 0 ≤ o - 1 ∧ bb (o - 1) ≠ 0 then lorL (rw0 i) (lshlL 1 z) else rw0 i
def stA (f : Int → Int) (o v : Int) : Int → Int := fun i => if i = o then v else f i
def BdR : List Int → Mem → Int → (Int → Int) → (Int → Int) → (Int → Int) → Int → Int → Mem → Prop
  | [], G, _, _, _, _, z, r, G' => r = z ∧ G' = G
  | x :: xs, G, o, lw, rw0, bb, z, r, G' =>
    if x = 100 then BdR xs G (o + 1) (stA lw o 0) (stA rw0 o 0) (stA bb o 0) z r G' else
    if x = 101 then BdR xs G o lw rw0 (stA bb (o - 1) 1) z r G' else
    if x = 102 then ∃ z1 G1, CmpR G (G 0 0) (lw (o - 1)) (rw0 (o - 1)) z1 G1 ∧ ((z1 = -1 ∧ r = -1 ∧ G' = G1) ∨ (z1 ≠ -1 ∧ BdR xs G1 (o - 1) (gvL (o - 1) lw bb z1) (gvR (o - 1) rw0 bb z1) bb z1 r G')) else
    ∃ z1 G1, NumR G (G 0 0) x z1 G1 ∧ ((z1 = -1 ∧ r = -1 ∧ G' = G1) ∨ (z1 ≠ -1 ∧ BdR xs G1 o (gvL o lw bb z1) (gvR o rw0 bb z1) bb z1 r G'))
section BD
variable {G G' : Mem} {o z r : Int} {lw rw0 bb : Int → Int} {xs : List Int}
theorem bd_o : BdR (100 :: xs) G o lw rw0 bb z r G' ↔ BdR xs G (o + 1) (stA lw o 0) (stA rw0 o 0) (stA bb o 0) z r G' := by
  rw [BdR, if_pos rfl]
theorem bd_b : BdR (101 :: xs) G o lw rw0 bb z r G' ↔ BdR xs G o lw rw0 (stA bb (o - 1) 1) z r G' := by
  rw [BdR, if_neg (by decide), if_pos rfl]
theorem bd_c : BdR (102 :: xs) G o lw rw0 bb z r G' ↔ ∃ z1 G1, CmpR G (G 0 0) (lw (o - 1)) (rw0 (o - 1)) z1 G1 ∧ ((z1 = -1 ∧ r = -1 ∧ G' = G1) ∨ (z1 ≠ -1 ∧ BdR xs G1 (o - 1) (gvL (o - 1) lw bb z1) (gvR (o - 1) rw0 bb z1) bb z1 r G')) := by
  rw [BdR, if_neg (by decide), if_neg (by decide), if_pos rfl]
theorem bd_n {x : Int} (hx : -64 ≤ x ∧ x ≤ 64) : BdR (x :: xs) G o lw rw0 bb z r G' ↔ ∃ z1 G1, NumR G (G 0 0) x z1 G1 ∧ ((z1 = -1 ∧ r = -1 ∧ G' = G1) ∨ (z1 ≠ -1 ∧ BdR xs G1 o (gvL o lw bb z1) (gvR o rw0 bb z1) bb z1 r G')) := by
  rw [BdR, if_neg (by omega), if_neg (by omega), if_neg (by omega)]
end BD
/-- the words of the open levels -/
def WdS (n o : Int) (lw rw0 : Int → Int) : Prop := ∀ i, 0 ≤ i → i < o → Wd40 (lw i) n ∧ Wd40 (rw0 i) n
theorem wd_0 {n : Int} : Wd40 0 n := ⟨by decide, fun x x0 x1 q => by rw [tb_0 ⟨x0, x1⟩] at q; cases q⟩
theorem WdS.op {n o : Int} {lw rw0 : Int → Int} (h : WdS n o lw rw0) : WdS n (o + 1) (stA lw o 0) (stA rw0 o 0) := by
  intro i i0 i1
  unfold stA
  by_cases q : i = o
  · rw [if_pos q, if_pos q]; exact ⟨wd_0, wd_0⟩
  · rw [if_neg q, if_neg q]; exact h i i0 (by omega)
theorem WdS.gv {n m o z : Int} {lw rw0 bb : Int → Int} (h : WdS n o lw rw0) (hm : n ≤ m ∧ m ≤ 40) (hz : 0 ≤ z ∧ z < m) {p : Int} (hp : p ≤ o) : WdS m p (gvL p lw bb z) (gvR p rw0 bb z) := by
  intro i i0 i1
  have a := h i i0 (by omega)
  unfold gvL gvR
  refine ⟨?_, ?_⟩
  · split
    · exact wd_or (a.1.mono hm.1) hz hm.2
    · exact a.1.mono hm.1
  · split
    · exact wd_or (a.2.mono hm.1) hz hm.2
    · exact a.2.mono hm.1
theorem num_st {G N : Mem} {e z : Int} (hG : Good (G 0 0) G) (h : NumR G (G 0 0) e z N) : (G 0 0 ≤ N 0 0 ∧ N 0 0 ≤ 40) ∧ Ag G N (G 0 0) ∧ Good (N 0 0) N ∧ (z ≠ -1 → 0 ≤ z ∧ z < N 0 0) ∧ (-1 ≤ z ∧ z < 40) := by
  have g0 := hG.1
  have g1 := hG.2.1
  rcases h with ⟨a, b, c, d, -⟩ | ⟨a, b, c, -⟩ | ⟨a, b, -, m⟩
  · exact ⟨by omega, d, by rw [c]; exact hG.cg d, fun _ => by omega, by omega⟩
  · exact ⟨by omega, c, by rw [b]; exact hG.cg c, fun q => absurd a q, by omega⟩
  · have := m.1
    exact ⟨by omega, m.2.2.1, by rw [m.1]; exact m.2.1, fun _ => by omega, by omega⟩
theorem cmp_st {G N : Mem} {l r z : Int} (hG : Good (G 0 0) G) (h : CmpR G (G 0 0) l r z N) : (G 0 0 ≤ N 0 0 ∧ N 0 0 ≤ 40) ∧ Ag G N (G 0 0) ∧ Good (N 0 0) N ∧ (z ≠ -1 → 0 ≤ z ∧ z < N 0 0) ∧ (-1 ≤ z ∧ z < 40) := by
  have g0 := hG.1
  have g1 := hG.2.1
  rcases h with ⟨a, b, c, -⟩ | ⟨a, b, c, d, -⟩ | ⟨a, b, -, -, -, d, -, -, m⟩
  · exact ⟨by omega, c, by rw [b]; exact hG.cg c, fun q => absurd a q, by omega⟩
  · exact ⟨by omega, d, by rw [c]; exact hG.cg d, fun _ => by omega, by omega⟩
  · have := m.1
    exact ⟨by omega, m.2.2.1, by rw [m.1]; exact m.2.1, fun _ => by omega, by omega⟩
theorem bd_ok : ∀ (xs : List Int) {G G' : Mem} {o o' z r : Int} {lw rw0 bb : Int → Int}, BdR xs G o lw rw0 bb z r G' → Good (G 0 0) G → Wf xs o o' → G 0 0 ≤ G' 0 0 ∧ Ag G G' (G 0 0) ∧ Good (G' 0 0) G' := by
  intro xs
  induction xs with
  | nil => intro G G' o o' z r lw rw0 bb h hG _; rw [h.2]; exact ⟨Int.le_refl _, Ag.refl _ _, hG⟩
  | cons x xs ih =>
    intro G G' o o' z r lw rw0 bb h hG hw
    unfold Wf at hw
    by_cases q0 : x = 100
    · subst q0
      rw [if_pos rfl] at hw
      exact ih (bd_o.mp h) hG hw.2
    · rw [if_neg q0] at hw
      by_cases q1 : x = 101
      · subst q1
        rw [if_pos rfl] at hw
        exact ih (bd_b.mp h) hG hw.2
      · rw [if_neg q1] at hw
        by_cases q2 : x = 102
        · subst q2
          rw [if_pos rfl] at hw
          obtain ⟨z1, G1, h1, h2⟩ := bd_c.mp h
          have s := cmp_st hG h1
          rcases h2 with ⟨-, -, rfl⟩ | ⟨-, h2⟩
          · exact ⟨s.1.1, s.2.1, s.2.2.1⟩
          · obtain ⟨a, b, c⟩ := ih h2 s.2.2.1 hw.2
            exact ⟨by omega, s.2.1.trans (Int.le_refl _) (b.mono s.1.1), c⟩
        · rw [if_neg q2] at hw
          obtain ⟨z1, G1, h1, h2⟩ := (bd_n hw.1).mp h
          have s := num_st hG h1
          rcases h2 with ⟨-, -, rfl⟩ | ⟨-, h2⟩
          · exact ⟨s.1.1, s.2.1, s.2.2.1⟩
          · obtain ⟨a, b, c⟩ := ih h2 s.2.2.1 hw.2.2
            exact ⟨by omega, s.2.1.trans (Int.le_refl _) (b.mono s.1.1), c⟩
theorem siz_up {w n z : Int} (h : Wd40 w n) (hz : 0 ≤ z ∧ z < n) (hn : n ≤ 40) : siz w ≤ siz (lorL w (lshlL 1 z)) := by
  have s := siz_or h hz hn
  cases q : tb w z with
  | true => rw [s.1 q]; exact Int.le_refl _
  | false => rw [s.2 q]; omega
/-- the depth behind steps -/
def Dp : List Int → Int → Int → Prop
  | [], o, o' => o = o'
  | x :: xs, o, o' => if x = 100 then Dp xs (o + 1) o' else if x = 101 then Dp xs o o' else if x = 102 then Dp xs (o - 1) o' else (-64 ≤ x ∧ x ≤ 64) ∧ Dp xs o o'
theorem wf_dp : ∀ (xs : List Int) {o o' : Int}, Wf xs o o' → Dp xs o o' := by
  intro xs
  induction xs with
  | nil => intro o o' h; exact h
  | cons x xs ih =>
    intro o o' h
    unfold Wf at h
    unfold Dp
    split
    · rename_i q; rw [if_pos q] at h; exact ih h.2
    · rename_i q; rw [if_neg q] at h
      split
      · rename_i q; rw [if_pos q] at h; exact ih h.2
      · rename_i q; rw [if_neg q] at h
        split
        · rename_i q; rw [if_pos q] at h; exact ih h.2
        · rename_i q; rw [if_neg q] at h; exact ⟨h.1, ih h.2.2⟩
/-- a level with too many options can't be closed -/
theorem bd_doom : ∀ (xs : List Int) {G G' : Mem} {o z r j : Int} {lw rw0 bb : Int → Int}, BdR xs G o lw rw0 bb z r G' → Good (G 0 0) G → Dp xs o 0 → WdS (G 0 0) o lw rw0 → 0 ≤ j → j < o → (4 < siz (lw j) ∨ 4 < siz (rw0 j)) → r = -1 := by
  intro xs
  induction xs with
  | nil => intro G G' o z r j lw rw0 bb h hG hw wd j0 j1; have : o = 0 := hw; omega
  | cons x xs ih =>
    intro G G' o z r j lw rw0 bb h hG hw wd j0 j1 hs
    have gv : ∀ (n m p z1 : Int), n ≤ m ∧ m ≤ 40 → 0 ≤ z1 ∧ z1 < m → WdS n o lw rw0 → (4 < siz (gvL p lw bb z1 j) ∨ 4 < siz (gvR p rw0 bb z1 j)) := by
      intro n m p z1 hm hz wd
      have a := wd j j0 j1
      have e1 := siz_up (a.1.mono hm.1) hz hm.2
      have e2 := siz_up (a.2.mono hm.1) hz hm.2
      unfold gvL gvR
      rcases hs with hs | hs
      · left
        split
        · omega
        · exact hs
      · right
        split
        · omega
        · exact hs
    unfold Dp at hw
    by_cases q0 : x = 100
    · subst q0
      rw [if_pos rfl] at hw
      refine ih (bd_o.mp h) hG hw wd.op j0 (by omega) ?_
      unfold stA
      rw [if_neg (by omega), if_neg (by omega)]
      exact hs
    · rw [if_neg q0] at hw
      by_cases q1 : x = 101
      · subst q1
        rw [if_pos rfl] at hw
        exact ih (bd_b.mp h) hG hw wd j0 j1 hs
      · rw [if_neg q1] at hw
        by_cases q2 : x = 102
        · subst q2
          rw [if_pos rfl] at hw
          obtain ⟨z1, G1, h1, h2⟩ := bd_c.mp h
          have s := cmp_st hG h1
          rcases h2 with ⟨-, hr, -⟩ | ⟨zn, h2⟩
          · exact hr
          · have zr := s.2.2.2.1 zn
            by_cases jo : j = o - 1
            · rw [← jo] at h1
              have a := wd j j0 j1
              rcases h1 with ⟨a1, -⟩ | ⟨a1, a2, -, -, a3, -⟩ | ⟨-, -, a1, a2, -⟩
              · exact absurd a1 zn
              · have := samW_no hG ⟨a1, a2⟩ a.1 a.2 a3
                omega
              · omega
            · exact ih h2 s.2.2.1 hw (wd.gv s.1 zr (by omega)) j0 (by omega) (gv _ _ _ _ s.1 zr wd)
        · rw [if_neg q2] at hw
          obtain ⟨z1, G1, h1, h2⟩ := (bd_n hw.1).mp h
          have s := num_st hG h1
          rcases h2 with ⟨-, hr, -⟩ | ⟨zn, h2⟩
          · exact hr
          · have zr := s.2.2.2.1 zn
            exact ih h2 s.2.2.1 hw.2 (wd.gv s.1 zr (Int.le_refl _)) j0 j1 (gv _ _ _ _ s.1 zr wd)
