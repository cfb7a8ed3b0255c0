/-! ===== the class: greediest, optimal, advise, advice ===== -/
theorem xg_33 {g : Gs} {ad : Nat → Nat} {sk : (Nat → Nat) × (Nat → Nat)} {X : Cx} {PQ : Option Value → Mem → Prop} {PX : String → Mem → Prop} (C : OkB (wC g ad sk) X cX0_greediest RX0 10 2 0 0) (Y : OkR (wC g ad sk) X (some .int) 0 0 PQ PX) {M B : Mem} {n s : Int} {p c : Nat} (hX : RepX M B n) (hp : p ≤ 4) (hl : LnO n p (fun c => B 2 c)) (hs : s = 0 ∨ s = 1) (hc : c < p) (kk : ∀ mv b, ChW M p (fun c => B 2 c) s 2 ((c : Int) + 1) 0 mv b → ((mv = -1 ∧ b = -16777216) ∨ (mv ≠ -1 ∧ -200000 ≤ b ∧ b ≤ 200000)) → E (wC g ad sk) X 0 0 (B) 10 [(0, .ref (ad 4)), (1, .ref (ad 10)), (2, vI (p)), (3, vI (s)), (4, vI (b)), (5, vI (mv)), (6, vI ((c : Int) + 1))] []) : ∀ (m i : Nat) (mv b : Int), (i : Int) + m = M 3 (2 * B 2 c + s) → ChW M p (fun c => B 2 c) s 2 c i mv b → ((mv = -1 ∧ b = -16777216) ∨ (mv ≠ -1 ∧ -200000 ≤ b ∧ b ≤ 200000)) → E (wC g ad sk) X 0 0 (B) 33 [(0, .ref (ad 4)), (1, .ref (ad 10)), (2, vI (p)), (3, vI (s)), (4, vI (b)), (5, vI (mv)), (6, vI (c)), (7, .ref (ad (44 + 6 * (Int.toNat (B 2 c))))), (8, vI (i))] [] := by
  have hG := hX.2.2.1
  have h40 := hG.2.1
  have lc : 0 ≤ B 2 c ∧ B 2 c < n := hl c (by omega) (by omega)
  have hD := hG.2.2 (B 2 c) lc.1 lc.2
  have ob := opS_r hD.1.1 (s := s) (by omega)
  have rg := hX.2.2.2.1 (B 2 c) lc.1 lc.2
  have c41 := (rg.2.2.1 s (by omega) (by omega)).1
  have e49 := rg.2.1.2.2.1
  have e50 : B 50 (B 2 c) = M 13 (B 2 c) := rg.2.1.2.2.2.1
  have hrw := repG_rw hD.1.1 rg
  intro m
  induction m with
  | zero =>
    intro i mv b hi hw hb
    have mr := chw_r hG hp hl hs hw
    exact B_X0_greediest_33 (by omega) (by omega) (by omega) (by omega) (by omega) (by omega) (by omega) (Nat.zero_le _) (Nat.zero_le _) C Y ⟨by omega, fun q => ⟨by omega, kk mv b (chi_n (Or.inr (Or.inr (by show M 3 (2 * B 2 c + s) ≤ _; omega))) hw) hb⟩, fun q => absurd q (by omega)⟩
  | succ m ih =>
    intro i mv b hi hw hb
    have mr := chw_r hG hp hl hs hw
    refine B_X0_greediest_33 (by omega) (by omega) (by omega) (by omega) (by omega) (by omega) (by omega) (Nat.zero_le _) (Nat.zero_le _) C Y ⟨by omega, fun q => absurd q (by omega), fun q => ⟨fun q1 => ⟨by omega, kk mv b (chi_n (Or.inl ?_) hw) hb⟩, fun q1 => ?_⟩⟩
    · rw [e49] at q1; exact q1
    · rw [e49] at q1
      have hm : Mv M p (fun c => B 2 c) s c i := ⟨⟨by omega, by omega⟩, q1, by omega, by show (i : Int) < M 3 (2 * B 2 c + s); omega⟩
      have eo := rw_opt hrw (s := s) (i := i) (by omega) (by omega)
      have o := ob.2.2 i (by omega) (by omega)
      have eo50 : B 50 (opt M (B 2 c) s i) = M 13 (opt M (B 2 c) s i) := (hX.2.2.2.1 _ o.1 (by omega)).2.1.2.2.2.1
      have hwo : Wo M p (fun c => B 2 c) s 2 c i (sgnS s * (M 13 (opt M (B 2 c) s i) - M 13 (B 2 c))) := Or.inr (Or.inr (Or.inl ⟨rfl, rfl⟩))
      have wr := wo_r hG hp hl hs hm hwo
      have st := chi_s ⟨hm, fun w => absurd w (by decide)⟩ hwo hw
      have hI := hD.2.2.2.2.2.2.2.1.2.2.2
      obtain ⟨hD2, -, -, -, hI2⟩ := hG.2.2 (opt M (B 2 c) s i) o.1 (by omega)
      have b2 := hI2.2.2.2.1.2.2.2
      have d1 := hD.1.2.2.1
      have d2 := hD2.2.2.1
      unfold Bd at hI b2
      rw [eo, e50, eo50]
      refine ⟨⟨by omega, by omega, by omega, by omega⟩, fun q2 => ⟨by omega, ih (i + 1) mv b (by omega) (st.2 (by omega) q2) hb⟩, fun q2 => ⟨⟨by omega, by omega, by omega⟩, ih (i + 1) _ _ (by omega) (st.1 (Or.inr q2)) (Or.inr ⟨by omega, wr⟩)⟩⟩
theorem xg_10 {g : Gs} {ad : Nat → Nat} {sk : (Nat → Nat) × (Nat → Nat)} {X : Cx} {PQ : Option Value → Mem → Prop} {PX : String → Mem → Prop} (C : OkB (wC g ad sk) X cX0_greediest RX0 10 2 0 0) (Y : OkR (wC g ad sk) X (some .int) 0 0 PQ PX) {M B : Mem} {n s : Int} {p : Nat} (hX : RepX M B n) (hp : p ≤ 4) (hl : LnO n p (fun c => B 2 c)) (hs : s = 0 ∨ s = 1) (kk : ∀ r, Cho M p (fun c => B 2 c) s 2 r → (-1 ≤ r ∧ r ≤ 400) → PQ (some (vI r)) B) : ∀ (m c : Nat) (mv b : Int), c + m = p → ChW M p (fun c => B 2 c) s 2 c 0 mv b → ((mv = -1 ∧ b = -16777216) ∨ (mv ≠ -1 ∧ -200000 ≤ b ∧ b ≤ 200000)) → E (wC g ad sk) X 0 0 (B) 10 [(0, .ref (ad 4)), (1, .ref (ad 10)), (2, vI (p)), (3, vI (s)), (4, vI (b)), (5, vI (mv)), (6, vI (c))] [] := by
  have hG := hX.2.2.1
  have h40 := hG.2.1
  intro m
  induction m with
  | zero =>
    intro c mv b hc hw hb
    have mr := chw_r hG hp hl hs hw
    have e : c = p := by omega
    subst e
    refine B_X0_greediest_10 (by omega) (by omega) (by omega) (by omega) (by omega) (Nat.zero_le _) (Nat.zero_le _) C Y ⟨fun _ => kk mv ?_ mr, fun q => absurd q (by omega)⟩
    by_cases hA : AllC M (fun c => B 2 c) c
    · refine Or.inl ⟨hA, ?_⟩
      rcases hw with ⟨w, -⟩ | ⟨d, j, w, -⟩
      · exact w
      · exact absurd w.1.1.2.1 (hA d w.1.1.1.1 w.1.1.1.2)
    · exact chi_end hG hl hs hA (fun w => absurd w (by decide)) hw
  | succ m ih =>
    intro c mv b hc hw hb
    have mr := chw_r hG hp hl hs hw
    have lc : 0 ≤ B 2 c ∧ B 2 c < n := hl c (by omega) (by omega)
    have ob := opS_r (hG.2.2 (B 2 c) lc.1 lc.2).1.1 (s := s) (by omega)
    exact B_X0_greediest_10 (by omega) (by omega) (by omega) (by omega) (by omega) (Nat.zero_le _) (Nat.zero_le _) C Y ⟨fun q => absurd q (by omega), fun _ => ⟨⟨by omega, by omega⟩, xg_33 C Y hX hp hl hs (by omega) (fun mv2 b2 w1 w2 => ih (c + 1) mv2 b2 (by omega) w1 w2) (M 3 (2 * B 2 c + s)).toNat 0 mv b (by omega) hw hb⟩⟩
theorem x_greediest {g : Gs} {ad : Nat → Nat} {sk : (Nat → Nat) × (Nat → Nat)} {M B : Mem} {n s : Int} {p : Nat} (hX : RepX M B n) (hp : p ≤ 4) (hl : LnO n p (fun c => B 2 c)) (hs : s = 0 ∨ s = 1) : SpI (wC g ad sk) yX0_greediest cX0_greediest 10 (some .int) 2 [.ref (ad 4), .ref (ad 10), vI (p), vI (s)] (B) (fun r P => Cho M p (fun c => B 2 c) s 2 r ∧ (-1 ≤ r ∧ r ≤ 400) ∧ P = B) := by
  intro l9 hl9
  refine ct_of hl9 mi_X0_greediest.2.2.2 (Nat.le_of_ble_eq_true rfl) (fun X _ C Y => ?_)
  show E (wC g ad sk) X 0 0 (B) 0 [(0, .ref (ad 4)), (1, .ref (ad 10)), (2, vI (p)), (3, vI (s))] []
  refine e_wf (fun hw => ?_)
  refine B_X0_greediest_0 (by omega) (by omega) (Nat.zero_le _) (Nat.zero_le _) C Y ?_
  exact xg_10 C Y hX hp hl hs (fun r h1 h2 => ⟨r, rfl, h1, h2, rfl⟩) p 0 (-1) (-16777216) (by omega) chi_0 (Or.inl ⟨rfl, rfl⟩)
/-! optimal -/
/-- the scores of z stand -/
def SlS (M B : Mem) (z : Int → Int) (p : Nat) : Prop := RnkA M B z p ∧ B 20 0 = 4000 ∧ ScT M B z p (wtR (wdM M z) p) ∧ wtR (wdM M z) p ≤ 4000
theorem SlS.cg {M B D : Mem} {z : Int → Int} {p : Nat} (h : SlS M B z p) (e : ∀ c i, 12 ≤ c → c ≤ 20 → D c i = B c i) : SlS M D z p := ⟨rnkA_cg h.1 (fun c i hc => e c i (by omega) (by omega)), (e 20 0 (by decide) (by decide)).trans h.2.1, scT_k (fun i => e 12 i (by decide) (by decide)) (fun i _ => ⟨e 17 i (by decide) (by decide), e 18 i (by decide) (by decide)⟩) h.2.2.1, h.2.2.2⟩
theorem x_scoreL {g : Gs} {ad : Nat → Nat} {sk : (Nat → Nat) × (Nat → Nat)} {B M : Mem} {n : Int} {z : Int → Int} {p : Nat} {f : Int} (hG : Good n M) (hp : p ≤ 4) (hz : LnO n p z) (h : SlS M B z p) (hl : InP M z p (fun c => B 2 c)) (hf : f = 0 ∨ f = 1) : SpI (wC g ad sk) yX6_scoreOf cX6_scoreOf 6 (some .int) 1 [.ref (ad 3), .ref (ad 10), vI (p : Int), vI f] B (fun v P => Sc M p (fun c => B 2 c) f v ∧ P = B) :=
  x_scoreOf (b := 0) (Or.inl rfl) hG hp hz h.1 hl h.2.2.2 h.2.1 hf h.2.2.1
theorem up_back {B : Mem} {c : Nat} {i o : Int} : up (up B c i o) c i (B c i) = B := by
  funext k j
  by_cases e : k = c
  · subst e
    by_cases e2 : j = i
    · subst e2; rw [up_s]
    · rw [up_i e2, up_i e2]
  · rw [up_c e, up_c e]
/-- no move before (c, i) has the score that is due -/
def NoD (M : Mem) (p : Nat) (l : Int → Int) (s due c i : Int) : Prop := ∀ c' i', Mv M p l s c' i' → (c' < c ∨ (c' = c ∧ i' < i)) → ¬ Sc M p (updL l c' (opt M (l c') s i')) (1 - s) due
theorem noD_n {M : Mem} {p : Nat} {l : Int → Int} {s due c i : Int} (hi : M 6 (l c) ≠ 0 ∨ M 3 (2 * l c + s) ≤ i) (h : NoD M p l s due c i) : NoD M p l s due (c + 1) 0 := fun c' i' hm q => by
  refine h c' i' hm ?_
  have a1 := hm.2.1
  have a2 := hm.2.2
  rcases q with q | q
  · by_cases e : c' = c
    · subst e
      rcases hi with hi | hi
      · exact absurd a1 hi
      · exact Or.inr ⟨rfl, by omega⟩
    · exact Or.inl (by omega)
  · omega
theorem noD_cho {M : Mem} {n : Int} {p : Nat} {l : Int → Int} {s due c i : Int} (hG : Good n M) (hp : p ≤ 4) (hl : LnO n p l) (hs : s = 0 ∨ s = 1) (hd : Sc M p l s due) (h : NoD M p l s due c i) (hm : Mv M p l s c i) (hv : Sc M p (updL l c (opt M (l c) s i)) (1 - s) due) : Cho M p l s 3 (100 * c + i) := by
  have sg : sgnS s = if s = 0 then 1 else -1 := rfl
  rcases (scL_eq hG hp hl hs).mp hd with ⟨a, -⟩ | ⟨-, -, top⟩
  · exact absurd hm.2.1 (a c hm.1.1 hm.1.2)
  · have le : ∀ c' i' w', Mv M p l s c' i' → Wo M p l s 3 c' i' w' → w' ≤ sgnS s * due := fun c' i' w' m1 m2 => by
      rcases m2 with ⟨q, -⟩ | ⟨q, -⟩ | ⟨q, -⟩ | ⟨-, v, v1, v2⟩
      · omega
      · omega
      · omega
      · have t := top c' i' v m1 v1
        rw [v2, sg]
        rcases hs with rfl | rfl
        · have := t.1 rfl; simp; omega
        · have := t.2 (by decide); simp; omega
    refine Or.inr ⟨c, i, sgnS s * due, ⟨hm, fun q => absurd q (by decide)⟩, rfl, Or.inr (Or.inr (Or.inr ⟨rfl, due, hv, rfl⟩)), fun c' i' w' h1 h2 => le c' i' w' h1.1 h2, fun c' i' w' h1 h2 h3 => ?_⟩
    have a := le c' i' w' h1.1 h2
    have ne : w' ≠ sgnS s * due := by
      intro e
      rcases h2 with ⟨q, -⟩ | ⟨q, -⟩ | ⟨q, -⟩ | ⟨-, v, v1, v2⟩
      · omega
      · omega
      · omega
      · have : v = due := by
          rw [v2, sg] at e
          rcases hs with rfl | rfl
          · simp at e; omega
          · simp at e; omega
        subst this
        exact h c' i' h1.1 h3 v1
    omega
theorem xo_42 {g : Gs} {ad : Nat → Nat} {sk : (Nat → Nat) × (Nat → Nat)} {X : Cx} {PQ : Option Value → Mem → Prop} {PX : String → Mem → Prop} (C : OkB (wC g ad sk) X cX0_optimal RX0 10 2 0 0) (Y : OkR (wC g ad sk) X (some .int) 0 0 PQ PX) {M B : Mem} {n s due : Int} {z : Int → Int} {p c : Nat} (hX : RepX M B n) (hp : p ≤ 4) (hz : LnO n p z) (hS : SlS M B z p) (hl : InP M z p (fun c => B 2 c)) (hs : s = 0 ∨ s = 1) (hd : Sc M p (fun c => B 2 c) s due) (hc : c < p) (kr : ∀ r, Cho M p (fun c => B 2 c) s 3 r → (-1 ≤ r ∧ r ≤ 400) → PQ (some (vI r)) B) (kk : NoD M p (fun c => B 2 c) s due ((c : Int) + 1) 0 → E (wC g ad sk) X 0 0 (B) 15 [(0, .ref (ad 4)), (1, .ref (ad 10)), (2, vI (p)), (3, vI (s)), (4, vI (due)), (5, vI ((c : Int) + 1))] []) : ∀ (m i : Nat), (i : Int) + m = M 3 (2 * B 2 c + s) → NoD M p (fun c => B 2 c) s due c i → E (wC g ad sk) X 0 0 (B) 42 [(0, .ref (ad 4)), (1, .ref (ad 10)), (2, vI (p)), (3, vI (s)), (4, vI (due)), (5, vI (c)), (6, vI (B 2 c)), (7, .ref (ad (44 + 6 * (Int.toNat (B 2 c))))), (8, vI (i))] [] := by
  have hG := hX.2.2.1
  have h40 := hG.2.1
  have lo := inP_ln hG hz hl
  have dr := sc_r hG hp lo hs hd
  have lc : 0 ≤ B 2 c ∧ B 2 c < n := lo c (by omega) (by omega)
  have hD := hG.2.2 (B 2 c) lc.1 lc.2
  have ob := opS_r hD.1.1 (s := s) (by omega)
  have rg := hX.2.2.2.1 (B 2 c) lc.1 lc.2
  have c41 := (rg.2.2.1 s (by omega) (by omega)).1
  have e49 := rg.2.1.2.2.1
  have hrw := repG_rw hD.1.1 rg
  intro m
  induction m with
  | zero =>
    intro i hi hw
    exact B_X0_optimal_42 (by omega) (by omega) (by omega) (by omega) (by omega) (by omega) (by omega) (Nat.zero_le _) (Nat.zero_le _) C Y ⟨by omega, fun q => ⟨by omega, kk (noD_n (Or.inr (by show M 3 (2 * B 2 c + s) ≤ _; omega)) hw)⟩, fun q => absurd q (by omega)⟩
  | succ m ih =>
    intro i hi hw
    refine B_X0_optimal_42 (by omega) (by omega) (by omega) (by omega) (by omega) (by omega) (by omega) (Nat.zero_le _) (Nat.zero_le _) C Y ⟨by omega, fun q => absurd q (by omega), fun q => ⟨fun q1 => ⟨by omega, kk (noD_n (Or.inl ?_) hw)⟩, fun q1 => ?_⟩⟩
    · rw [e49] at q1; exact q1
    · rw [e49] at q1
      have hm : Mv M p (fun c => B 2 c) s c i := ⟨⟨by omega, by omega⟩, q1, by omega, by show (i : Int) < M 3 (2 * B 2 c + s); omega⟩
      have eo := rw_opt hrw (s := s) (i := i) (by omega) (by omega)
      rw [eo]
      have hl' := inP_mv hG hz hl hs hm
      have el : (fun x => up B 2 c (opt M (B 2 c) s i) 2 x) = updL (fun x => B 2 x) c (opt M (B 2 c) s i) := by
        funext x
        unfold updL
        split
        · rename_i e; rw [e, up_s]
        · rename_i e; rw [up_i e]
      have sp := x_scoreL (g := g) (ad := ad) (sk := sk) (B := up B 2 c (opt M (B 2 c) s i)) (f := 1 - s) hG hp hz (hS.cg (fun k j k1 k2 => up_c (by omega))) (by rw [el]; exact hl') (by omega)
      refine ⟨⟨by omega, by omega, by omega⟩, _, sp, fun v P hP => ?_⟩
      obtain ⟨v1, e2⟩ := hP
      rw [el] at v1
      have vr := sc_r hG hp (mv_ok hG lo hs hm).1 (by omega) v1
      rw [e2, up_back]
      refine ⟨by omega, fun q2 => ⟨by omega, ih (i + 1) (by omega) (fun c' i' h1 h2 h3 => ?_)⟩, fun q2 => ⟨by omega, kr _ ?_ (by omega)⟩⟩
      · by_cases e : c' = (c : Int) ∧ i' = (i : Int)
        · obtain ⟨rfl, rfl⟩ := e
          exact q2 (sc_uq 24 _ _ _ _ v1 h3)
        · exact hw c' i' h1 (by omega) h3
      · subst q2
        exact noD_cho hG hp lo hs hd hw hm v1
theorem xo_15 {g : Gs} {ad : Nat → Nat} {sk : (Nat → Nat) × (Nat → Nat)} {X : Cx} {PQ : Option Value → Mem → Prop} {PX : String → Mem → Prop} (C : OkB (wC g ad sk) X cX0_optimal RX0 10 2 0 0) (Y : OkR (wC g ad sk) X (some .int) 0 0 PQ PX) {M B : Mem} {n s due : Int} {z : Int → Int} {p : Nat} (hX : RepX M B n) (hp : p ≤ 4) (hz : LnO n p z) (hS : SlS M B z p) (hl : InP M z p (fun c => B 2 c)) (hs : s = 0 ∨ s = 1) (hd : Sc M p (fun c => B 2 c) s due) (kr : ∀ r, Cho M p (fun c => B 2 c) s 3 r → (-1 ≤ r ∧ r ≤ 400) → PQ (some (vI r)) B) : ∀ (m c : Nat), c + m = p → NoD M p (fun c => B 2 c) s due c 0 → E (wC g ad sk) X 0 0 (B) 15 [(0, .ref (ad 4)), (1, .ref (ad 10)), (2, vI (p)), (3, vI (s)), (4, vI (due)), (5, vI (c))] [] := by
  have hG := hX.2.2.1
  have h40 := hG.2.1
  have lo := inP_ln hG hz hl
  have dr := sc_r hG hp lo hs hd
  intro m
  induction m with
  | zero =>
    intro c hc hw
    have e : c = p := by omega
    subst e
    refine B_X0_optimal_15 (by omega) (by omega) (by omega) (by omega) (Nat.zero_le _) (Nat.zero_le _) C Y ⟨fun _ => kr (-1) (Or.inl ⟨?_, rfl⟩) (by omega), fun q => absurd q (by omega)⟩
    rcases (scL_eq hG hp lo hs).mp hd with ⟨a, -⟩ | ⟨-, ⟨d, j, d1, d2⟩, -⟩
    · exact a
    · exact absurd d2 (hw d j d1 (Or.inl d1.1.2))
  | succ m ih =>
    intro c hc hw
    have lc : 0 ≤ B 2 c ∧ B 2 c < n := lo c (by omega) (by omega)
    have ob := opS_r (hG.2.2 (B 2 c) lc.1 lc.2).1.1 (s := s) (by omega)
    exact B_X0_optimal_15 (by omega) (by omega) (by omega) (by omega) (Nat.zero_le _) (Nat.zero_le _) C Y ⟨fun q => absurd q (by omega), fun _ => ⟨⟨by omega, by omega⟩, xo_42 C Y hX hp hz hS hl hs hd (by omega) kr (fun w => ih (c + 1) (by omega) w) (M 3 (2 * B 2 c + s)).toNat 0 (by omega) hw⟩⟩
theorem x_optimal {g : Gs} {ad : Nat → Nat} {sk : (Nat → Nat) × (Nat → Nat)} {M B : Mem} {n s : Int} {z : Int → Int} {p : Nat} (hX : RepX M B n) (hp : p ≤ 4) (hz : LnO n p z) (hS : SlS M B z p) (hl : InP M z p (fun c => B 2 c)) (hs : s = 0 ∨ s = 1) : SpI (wC g ad sk) yX0_optimal cX0_optimal 10 (some .int) 2 [.ref (ad 4), .ref (ad 10), vI (p), vI (s)] (B) (fun r P => Cho M p (fun c => B 2 c) s 3 r ∧ (-1 ≤ r ∧ r ≤ 400) ∧ P = B) := by
  have hG := hX.2.2.1
  have lo := inP_ln hG hz hl
  intro l9 hl9
  refine ct_of hl9 mi_X0_optimal.2.2.2 (Nat.le_of_ble_eq_true rfl) (fun X _ C Y => ?_)
  show E (wC g ad sk) X 0 0 (B) 0 [(0, .ref (ad 4)), (1, .ref (ad 10)), (2, vI (p)), (3, vI (s))] []
  refine e_wf (fun hw => ?_)
  refine B_X0_optimal_0 (by omega) (by omega) (Nat.zero_le _) (Nat.zero_le _) C Y ⟨_, x_scoreL hG hp hz hS hl hs, fun v P hP => ?_⟩
  obtain ⟨v1, e2⟩ := hP
  rw [e2]
  have vr := sc_r hG hp lo hs v1
  exact ⟨by omega, xo_15 C Y hX hp hz hS hl hs v1 (fun r h1 h2 => ⟨r, rfl, h1, h2, rfl⟩) p 0 (by omega) (fun c' i' h1 h2 => by have := h1.1; have := h1.2.2; omega)⟩
theorem x_advise {g : Gs} {ad : Nat → Nat} {sk : (Nat → Nat) × (Nat → Nat)} {M B : Mem} {n s t : Int} {z : Int → Int} {p : Nat} (hX : RepX M B n) (hp : p ≤ 4) (hl : LnO n p (fun c => B 2 c)) (hs : s = 0 ∨ s = 1) (ht : 0 ≤ t ∧ t ≤ 3) (h3 : t = 3 → LnO n p z ∧ SlS M B z p ∧ InP M z p (fun c => B 2 c)) : SpI (wC g ad sk) yX0_advise cX0_advise 5 (some .int) 5 [.ref (ad 4), .ref (ad 10), vI (p), vI (s), vI (t)] (B) (fun r P => Cho M p (fun c => B 2 c) s t r ∧ (-1 ≤ r ∧ r ≤ 400) ∧ WlK B P) := by
  have hG := hX.2.2.1
  intro l9 hl9
  refine ct_of hl9 mi_X0_advise.2.2.2 (Nat.le_of_ble_eq_true rfl) (fun X _ C Y => ?_)
  show E (wC g ad sk) X 0 0 (B) 0 [(0, .ref (ad 4)), (1, .ref (ad 10)), (2, vI (p)), (3, vI (s)), (4, vI (t))] []
  refine e_wf (fun hw => ?_)
  refine B_X0_advise_0 (by omega) (by omega) (by omega) (Nat.zero_le _) (Nat.zero_le _) C Y ⟨fun q => ⟨_, x_lowest hX hp hl hs, fun r P hP => ?_⟩, fun q => ⟨_, x_hottest hX hp hl hs, fun r P hP => ?_⟩, fun q => ⟨_, x_greediest hX hp hl hs, fun r P hP => ?_⟩, fun q => ?_⟩
  · obtain ⟨h1, h2⟩ := hP
    have rr : -1 ≤ r ∧ r ≤ 400 := by
      rcases h1 with ⟨-, w⟩ | ⟨d, j, w, a, b, -⟩
      · omega
      · have a1 := a.1.1
        have ld := hl d a1.1 a1.2
        have ob := opS_r (hG.2.2 _ ld.1 ld.2).1.1 (s := s) (by omega)
        have := a.1.2.2
        omega
    rw [h2, q]
    exact ⟨by omega, r, rfl, h1, rr, fun _ _ _ => rfl⟩
  · obtain ⟨h1, h2, h3⟩ := hP
    rw [q]
    exact ⟨by omega, r, rfl, h1, h2, h3⟩
  · obtain ⟨h1, h2, h3⟩ := hP
    rw [h3, q]
    exact ⟨by omega, r, rfl, h1, h2, fun _ _ _ => rfl⟩
  · have t3 : t = 3 := by omega
    obtain ⟨a1, a2, a3⟩ := h3 t3
    refine ⟨_, x_optimal hX hp a1 a2 a3 hs, fun r P hP => ?_⟩
    obtain ⟨h1, h2, h3⟩ := hP
    rw [h3, t3]
    exact ⟨by omega, r, rfl, h1, h2, fun _ _ _ => rfl⟩
