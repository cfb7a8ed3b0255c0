/-! ===== plays ===== -/
def sd (f : Int) : Nat → Int
  | 0 => f
  | k + 1 => 1 - sd f k
theorem sd_r {f : Int} (hf : f = 0 ∨ f = 1) : ∀ k : Nat, sd f k = 0 ∨ sd f k = 1 := by
  intro k
  induction k with
  | zero => exact hf
  | succ k ih => rw [sd]; omega
def sta (a b s : Int) : Int := if s = 0 then a else b
theorem sta_r {a b s : Int} (ha : 0 ≤ a ∧ a ≤ 3) (hb : 0 ≤ b ∧ b ≤ 3) : 0 ≤ sta a b s ∧ sta a b s ≤ 3 := by unfold sta; split <;> omega
/-- the line behind a move -/
def mvL (M : Mem) (l : Int → Int) (s r : Int) : Int → Int := updL l (r / 100) (opt M (l (r / 100)) s (r % 100))
def Trc (M : Mem) (p : Nat) (a b f : Int) (T : Nat → Int → Int) (mv : Nat → Int) (K : Nat) : Prop := ∀ j, j < K → Cho M p (T j) (sd f j) (sta a b (sd f j)) (mv j) ∧ mv j ≠ -1 ∧ T (j + 1) = mvL M (T j) (sd f j) (mv j)
def PlO (M : Mem) (p : Nat) (a b f : Int) (l0 : Int → Int) (K : Nat) (mv : Nat → Int) (lf : Int → Int) : Prop := ∃ T : Nat → Int → Int, T 0 = l0 ∧ Trc M p a b f T mv K ∧ T K = lf
theorem cho_mv {M : Mem} {n : Int} {p : Nat} {l : Int → Int} {s t r : Int} (hG : Good n M) (hl : LnO n p l) (hs : s = 0 ∨ s = 1) (h : Cho M p l s t r) (hr : r ≠ -1) : 0 ≤ r ∧ Mv M p l s (r / 100) (r % 100) := by
  rcases h with ⟨-, b⟩ | ⟨d, j, w, a, b, -⟩
  · exact absurd b hr
  · have a1 := a.1
    have lc := hl d a1.1.1 a1.1.2
    have ob := opS_r (hG.2.2 (l d) lc.1 lc.2).1.1 (s := s) (by omega)
    have a2 := a1.1
    have a3 := a1.2.2
    have e1 : r / 100 = d := by omega
    have e2 : r % 100 = j := by omega
    rw [e1, e2]
    exact ⟨by omega, a1⟩
theorem plo_0 {M : Mem} {p : Nat} {a b f : Int} {l0 : Int → Int} {mv : Nat → Int} : PlO M p a b f l0 0 mv l0 := ⟨fun _ => l0, rfl, fun j hj => absurd hj (by omega), rfl⟩
theorem plo_s {M : Mem} {p : Nat} {a b f r : Int} {l0 lf : Int → Int} {K : Nat} {mv : Nat → Int} (h : PlO M p a b f l0 K mv lf) (hc : Cho M p lf (sd f K) (sta a b (sd f K)) r) (hr : r ≠ -1) : PlO M p a b f l0 (K + 1) (fun j => if j < K then mv j else r) (mvL M lf (sd f K) r) := by
  obtain ⟨T, t0, tr, tk⟩ := h
  refine ⟨fun j => if j ≤ K then T j else mvL M lf (sd f K) r, ?_, fun j hj => ?_, ?_⟩
  · show (if 0 ≤ K then T 0 else mvL M lf (sd f K) r) = l0
    rw [if_pos (Nat.zero_le _)]; exact t0
  · by_cases e : j < K
    · obtain ⟨q1, q2, q3⟩ := tr j e
      simp only [if_pos e, if_pos (show j ≤ K by omega), if_pos (show j + 1 ≤ K by omega)]
      exact ⟨q1, q2, q3⟩
    · have : j = K := by omega
      subst this
      simp only [if_neg (show ¬ j < j by omega), if_pos (Nat.le_refl j), if_neg (show ¬ j + 1 ≤ j by omega), tk]
      exact ⟨hc, hr, trivial⟩
  · show (if K + 1 ≤ K then T (K + 1) else mvL M lf (sd f K) r) = _
    rw [if_neg (by omega)]
theorem mvL_ok {M : Mem} {n : Int} {p : Nat} {l : Int → Int} {s r : Int} (hG : Good n M) (hl : LnO n p l) (hs : s = 0 ∨ s = 1) (hm : Mv M p l s (r / 100) (r % 100)) : LnO n p (mvL M l s r) ∧ sumD M (mvL M l s r) p < sumD M l p := ⟨(mv_ok hG hl hs hm).1, (mv_ok hG hl hs hm).2.1⟩
theorem plo_uq {M : Mem} {n : Int} {p : Nat} {a b f : Int} {l0 l0' lf lf' : Int → Int} {K K' : Nat} {mv mv' : Nat → Int} (hG : Good n M) (hf : f = 0 ∨ f = 1) (hl : LnO n p l0) (e0 : ∀ c, 0 ≤ c → c < (p : Int) → l0' c = l0 c) (h : PlO M p a b f l0 K mv lf) (hA : AllC M lf p) (h' : PlO M p a b f l0' K' mv' lf') (hA' : AllC M lf' p) : K = K' ∧ (∀ j, j < K → mv j = mv' j) ∧ ∀ c, 0 ≤ c → c < (p : Int) → lf' c = lf c := by
  obtain ⟨T, t0, tr, tk⟩ := h
  obtain ⟨T', t0', tr', tk'⟩ := h'
  have go : ∀ j, j ≤ K → j ≤ K' → LnO n p (T j) ∧ (∀ c, 0 ≤ c → c < (p : Int) → T' j c = T j c) ∧ ∀ i, i < j → mv i = mv' i := by
    intro j
    induction j with
    | zero => intro _ _; rw [t0, t0']; exact ⟨hl, e0, fun i hi => absurd hi (by omega)⟩
    | succ j ih =>
      intro h1 h2
      obtain ⟨i1, i2, i3⟩ := ih (by omega) (by omega)
      obtain ⟨q1, q2, q3⟩ := tr j (by omega)
      obtain ⟨w1, w2, w3⟩ := tr' j (by omega)
      have em : mv j = mv' j := cho_uq q1 (cho_cg i2 w1)
      have mo := cho_mv hG i1 (sd_r hf j) q1 q2
      have md := mo.2.1
      refine ⟨by rw [q3]; exact (mvL_ok hG i1 (sd_r hf j) mo.2).1, fun c c1 c2 => ?_, fun i hi => ?_⟩
      · rw [q3, w3, ← em]
        unfold mvL
        rw [i2 _ md.1 md.2]
        exact updL_cg i2 c c1 c2
      · by_cases e : i = j
        · subst e; exact em
        · exact i3 i (by omega)
  have kk : K = K' := by
    rcases Nat.lt_trichotomy K K' with q | q | q
    · exfalso
      obtain ⟨i1, i2, -⟩ := go K (Nat.le_refl _) (by omega)
      obtain ⟨w1, w2, -⟩ := tr' K q
      have mo := (cho_mv hG i1 (sd_r hf K) (cho_cg i2 w1) w2).2
      rw [tk] at mo
      exact hA _ mo.1.1 mo.1.2 mo.2.1
    · exact q
    · exfalso
      obtain ⟨i1, i2, -⟩ := go K' (by omega) (Nat.le_refl _)
      obtain ⟨w1, w2, -⟩ := tr K' q
      have mo := (cho_mv hG i1 (sd_r hf K') w1 w2).2
      rw [tk'] at i2
      have := hA' _ mo.1.1 mo.1.2
      rw [i2 _ mo.1.1 mo.1.2] at this
      exact this mo.2.1
  subst kk
  obtain ⟨i1, i2, i3⟩ := go K (Nat.le_refl _) (Nat.le_refl _)
  rw [tk, tk'] at i2
  exact ⟨rfl, i3, i2⟩
/-! a move makes no more positions -/
theorem posN_mv {M : Mem} {n : Int} {p : Nat} {l : Int → Int} {s c i : Int} (hG : Good n M) (hl : LnO n p l) (hs : s = 0 ∨ s = 1) (hm : Mv M p l s c i) : posN M (opt M (l c) s i) ≤ posN M (l c) := by
  have lc := hl c hm.1.1 hm.1.2
  unfold posN
  have := cnB_le (p := posB M (opt M (l c) s i)) (q := posB M (l c)) 40 (fun x _ hx => posB_i.mpr ((pt_eq hG lc).mpr (Or.inr ⟨hm.2.1, s, i, by omega, by omega, hm.2.2.1, hm.2.2.2, posB_i.mp hx⟩)))
  omega
theorem prN_mv {M : Mem} {n : Int} {p : Nat} {l : Int → Int} {s c i : Int} (hG : Good n M) (hp : p ≤ 4) (hl : LnO n p l) (hs : s = 0 ∨ s = 1) (hm : Mv M p l s c i) : prN M (updL l c (opt M (l c) s i)) p ≤ prN M l p := by
  have mo := mv_ok hG hl hs hm
  have pm := posN_mv hG hl hs hm
  have go : ∀ k : Nat, k ≤ p → prN M (updL l c (opt M (l c) s i)) k ≤ prN M l k := by
    intro k
    induction k with
    | zero => intro _; exact Int.le_refl _
    | succ k ih =>
      intro hk
      have a := ih (by omega)
      have b := posN_r hG (hl k (by omega) (by omega))
      have b2 := posN_r hG (mo.1 k (by omega) (by omega))
      have r := prN_r hG k (by omega) (fun x x1 x2 => hl x x1 (by omega))
      rw [prN, prN]
      have d : posN M (updL l c (opt M (l c) s i) k) ≤ posN M (l k) := by
        by_cases e : (k : Int) = c
        · have : updL l c (opt M (l c) s i) k = opt M (l c) s i := by unfold updL; rw [if_pos e]
          rw [this, e]; exact pm
        · have : updL l c (opt M (l c) s i) k = l k := by unfold updL; rw [if_neg e]
          rw [this]; exact Int.le_refl _
      exact Int.mul_le_mul a d (by omega) (by omega)
  exact go p (Nat.le_refl _)
/-! the reference -/
noncomputable def kP (M : Mem) (f a b : Int) : Int := if (f = 0 ∨ f = 1) ∧ (0 ≤ a ∧ a ≤ 3) ∧ 0 ≤ b ∧ b ≤ 3 then (if (a = 3 ∨ b = 3) ∧ 4000 < prN M (fun c => M 17 c) (M 16 0).toNat then 2 else 0) else 1
def FrQ (M N : Mem) : Prop := ∀ c i, c ≠ 20 → c ≠ 27 → c ≠ 28 → c ≠ 36 → (c < 38 ∨ 43 < c) → N c i = M c i
def PlyR (M : Mem) (f a b : Int) : Int → Int → Mem → Prop := fun k r N => k = kP M f a b ∧ (k = 0 → ∃ (K : Nat) (mv : Nat → Int) (lf : Int → Int), PlO M (M 16 0).toNat a b f (fun c => M 17 c) K mv lf ∧ AllC M lf (M 16 0).toNat ∧ K ≤ 24 ∧ r = sumV M lf (M 16 0).toNat ∧ N 28 0 = (K : Int) ∧ ∀ j : Nat, j < K → N 27 (j : Int) = mv j) ∧ (k ≠ 0 → N 28 0 = M 28 0 ∧ ∀ i, N 27 i = M 27 i) ∧ FrQ M N
theorem mp_181 {g : Gs} {ad : Nat → Nat} {X : Cx} {PQ : Option Value → Mem → Prop} {PX : String → Mem → Prop} (C : OkB (wM g ad) X cX10_play RX10 8 7 0 0) (Y : OkR (wM g ad) X (some .int) 0 0 PQ PX) {M N : Mem} {n : Int} {l : Int → Int} {p : Nat} (hG : Good n M) (hp : p ≤ 4) (hl : LnO n p l) (h : PlS M N l p) (hA : AllC M l p) (kk : PQ (some (vI (sumV M l p))) N) : ∀ (m c : Nat), c + m = p → E (wM g ad) X 0 0 (N) 181 [(0, .ref (ad 0)), (6, vI (sumV M l c)), (7, vI (c))] [] := by
  have h40 := hG.2.1
  have e16 := h.2.1
  intro m
  induction m with
  | zero =>
    intro c hc
    have sr := sumV_r (l := l) hG c (fun x x1 x2 => hl x x1 (by omega))
    have e : c = p := by omega
    subst e
    exact B_X10_play_181 (by omega) (by omega) (Nat.zero_le _) (Nat.zero_le _) C Y ⟨fun _ => kk, fun q => absurd q (by omega)⟩
  | succ m ih =>
    intro c hc
    have sr := sumV_r (l := l) hG c (fun x x1 x2 => hl x x1 (by omega))
    have sr2 := sumV_r (l := l) hG (c + 1) (fun x x1 x2 => hl x x1 (by omega))
    have lc := hl c (by omega) (by omega)
    have hD := hG.2.2 (l c) lc.1 lc.2
    have q6 := hA c (by omega) (by omega)
    have c6 : M 6 (l c) = 1 := by have := hD.2.1.2.1.1; omega
    have cw := (hD.2.2.1 c6).1
    have e38 := h.2.2 c (by omega) (by omega)
    refine B_X10_play_181 (by omega) (by omega) (Nat.zero_le _) (Nat.zero_le _) C Y ⟨fun q => absurd q (by omega), fun _ => ?_⟩
    rw [e38, h.1 7 _ (by decide), ← cw]
    rw [sumV] at sr2
    exact ⟨⟨by omega, by omega, by omega, by omega⟩, ih (c + 1) (by omega)⟩
theorem mp_89 {g : Gs} {ad : Nat → Nat} {X : Cx} {PQ : Option Value → Mem → Prop} {PX : String → Mem → Prop} (C : OkB (wM g ad) X cX10_play RX10 8 7 0 0) (Y : OkR (wM g ad) X (some .int) 0 0 PQ PX) {M : Mem} {n : Int} {l0 : Int → Int} {p : Nat} {f a b : Int} (hG : Good n M) (hp : p ≤ 4) (hf : f = 0 ∨ f = 1) (ha : 0 ≤ a ∧ a ≤ 3) (hb : 0 ≤ b ∧ b ≤ 3) (kk : ∀ N K mv lf, PlO M p a b f l0 K mv lf → AllC M lf p → K ≤ 24 → N 28 0 = (K : Int) → (∀ j : Nat, j < K → N 27 (j : Int) = mv j) → FrQ M N → N 20 0 = 0 → PQ (some (vI (sumV M lf p))) N) : ∀ (m K : Nat) (mv : Nat → Int) (lf : Int → Int) (N : Mem), sumD M lf p ≤ m → PlO M p a b f l0 K mv lf → sumD M lf p + K ≤ 24 → LnO n p lf → ((a = 3 ∨ b = 3) → prN M lf p ≤ 4000) → PlS M N lf p → N 28 0 = (K : Int) → (∀ j : Nat, j < K → N 27 (j : Int) = mv j) → FrQ M N → N 20 0 = 0 → E (wM g ad) X 0 0 (N) 89 [(0, .ref (ad 0)), (2, vI (a)), (3, vI (b)), (5, vI (sd f K))] [] := by
  have h40 := hG.2.1
  intro m
  induction m with
  | zero =>
    intro K mv lf N hm hO hs hl h4 hP h28 h27 hF h20
    have sr := sd_r hf K
    have sD := (sumD_r hG p hl).1
    refine B_X10_play_89 (by omega) (by omega) (by omega) (Nat.zero_le _) (Nat.zero_le _) C Y ⟨_, m_isOver hG hp hl hP, fun r P hQ => ?_⟩
    obtain ⟨r01, rA, e2⟩ := hQ
    rw [e2]
    refine ⟨r01, fun q => mp_181 C Y hG hp hl hP (rA.mp (by omega)) (kk N K mv lf hO (rA.mp (by omega)) (by omega) h28 h27 hF h20) p 0 (by omega), fun q => ?_⟩
    exfalso
    have : ¬ AllC M lf p := fun w => by have := rA.mpr w; omega
    refine this (fun c c1 c2 c6 => ?_)
    have lc := hl c c1 c2
    obtain ⟨g0, g1, -⟩ := (hG.2.2 (lf c) lc.1 lc.2).2.2.2.1 c6
    have mo := mv_ok hG hl (Or.inl rfl) (show Mv M p lf 0 c 0 from ⟨⟨c1, c2⟩, c6, by omega, by omega⟩)
    have := (sumD_r hG p mo.1).1
    omega
  | succ m ih =>
    intro K mv lf N hm hO hs hl h4 hP h28 h27 hF h20
    have sr := sd_r hf K
    have sD := (sumD_r hG p hl).1
    refine B_X10_play_89 (by omega) (by omega) (by omega) (Nat.zero_le _) (Nat.zero_le _) C Y ⟨_, m_isOver hG hp hl hP, fun r P hQ => ?_⟩
    obtain ⟨r01, rA, e2⟩ := hQ
    rw [e2]
    refine ⟨r01, fun q => mp_181 C Y hG hp hl hP (rA.mp (by omega)) (kk N K mv lf hO (rA.mp (by omega)) (by omega) h28 h27 hF h20) p 0 (by omega), fun q => ?_⟩
    have nA : ¬ AllC M lf p := fun w => by have := rA.mpr w; omega
    have X : ∀ t, t = sta a b (sd f K) → E (wM g ad) X 0 0 (N) 109 [(0, .ref (ad 0)), (2, vI (a)), (3, vI (b)), (5, vI (sd f K))] [vI (t), vI (sd f K), .ref (ad 0)] := by
      intro t et
      have tr := sta_r (s := sd f K) ha hb
      rw [← et] at tr
      have ag : Ag M N n := Ag.of _ (fun k i k1 k2 => hP.1 k i (by omega))
      have e16 := hP.2.1
      have lN : ∀ c, 0 ≤ c → c < N 16 0 → 0 ≤ N 38 c ∧ N 38 c < n := fun c c1 c2 => by rw [hP.2.2 c c1 (by omega)]; exact hl c c1 (by omega)
      have ep : (N 16 0).toNat = p := by omega
      refine B_X10_play_109 (by omega) (by omega) (by omega) (by omega) (by omega) (Nat.zero_le _) (Nat.zero_le _) C Y ⟨_, m_chosen (hG.cg ag) (by omega) lN sr tr (fun t3 => ?_), fun r S hS => ?_⟩
      · rw [ep, prN_ag ag hG p (fun c c1 c2 => lN c c1 (by omega))]
        rw [prN_cg p (fun c c1 c2 => hP.2.2 c c1 c2)]
        refine h4 ?_
        rw [et] at t3
        unfold sta at t3
        split at t3 <;> omega
      · obtain ⟨rr, hC, fS⟩ := hS
        rw [ep] at hC
        have hC2 := cho_cg (l := lf) (fun c c1 c2 => hP.2.2 c c1 c2) ((cho_mg hP.1).mp hC)
        have rn : r ≠ -1 := by
          intro e
          rcases hC2 with ⟨w, -⟩ | ⟨d, j, w, a9, b9, -⟩
          · exact nA w
          · have := a9.1.1.1; have := a9.1.2.2.1; omega
        rw [et] at hC2
        obtain ⟨r0, hm2⟩ := cho_mv hG hl sr hC2 rn
        have mo := mvL_ok hG hl sr hm2
        have ld := hl _ hm2.1.1 hm2.1.2
        have d1 := hm2.1
        have ob := opS_r (hG.2.2 _ ld.1 ld.2).1.1 (s := sd f K) (by omega)
        have i1 := hm2.2.2
        have sD2 := (sumD_r hG p mo.1).1
        have t1 : Int.tdiv r 100 = r / 100 := Int.tdiv_eq_ediv_of_nonneg r0
        have t2 : Int.tmod r 100 = r % 100 := Int.tmod_eq_emod_of_nonneg r0
        rw [t1, t2]
        have g28 : S 28 0 = (K : Int) := (fS 28 0 (by decide) (by decide)).trans h28
        have g38 : ∀ c, 0 ≤ c → c < (p : Int) → S 38 c = lf c := fun c c1 c2 => (fS 38 c (by decide) (by decide)).trans (hP.2.2 c c1 c2)
        have g4 : ∀ i, S 4 i = M 4 i := fun i => (fS 4 i (by decide) (by decide)).trans (hP.1 4 i (by decide))
        rw [g28, g38 _ d1.1 d1.2, g4]
        refine ⟨by omega, ⟨by omega, by omega, by omega, ⟨by omega, by omega, by omega⟩, by omega⟩, ?_⟩
        refine ih (K + 1) _ (mvL M lf (sd f K) r) _ (by omega) (plo_s hO hC2 rn) (by omega) mo.1 (fun w => ?_) ⟨fun k i hk => ?_, ?_, fun c c1 c2 => ?_⟩ ?_ (fun j hj => ?_) (fun c i h1 h2 h3 h4 h5 => ?_) ?_
        · have := prN_mv hG hp hl sr hm2
          have := h4 w
          unfold mvL
          omega
        · rw [up_c (by omega), up_c (by omega), up_c (by omega), fS k i (by omega) (by omega)]
          exact hP.1 k i hk
        · rw [up_c (by decide), up_c (by decide), up_c (by decide), fS 16 0 (by decide) (by decide)]
          exact e16
        · unfold mvL updL
          split
          · rename_i e; rw [e, up_s]
          · rename_i e; rw [up_i e, up_c (by decide), up_c (by decide)]; exact g38 c c1 c2
        · rw [up_c (by decide), up_s]; omega
        · rw [up_c (by decide), up_c (by decide)]
          by_cases e : j < K
          · rw [if_pos e, up_i (by omega), fS 27 _ (by decide) (by decide)]; exact h27 j e
          · rw [if_neg e, show (j : Int) = (K : Int) by omega, up_s]
        · rw [up_c (by omega), up_c (by omega), up_c (by omega), fS c i h4 (by omega)]
          exact hF c i h1 h2 h3 h4 h5
        · rw [up_c (by decide), up_c (by decide), up_c (by decide), fS 20 0 (by decide) (by decide)]
          exact h20
    refine ⟨fun q1 => X b ?_, fun q1 => ?_⟩
    · unfold sta; rw [if_neg q1]
    · exact X a (by unfold sta; rw [if_pos q1])
theorem mp_73 {g : Gs} {ad : Nat → Nat} {X : Cx} {PQ : Option Value → Mem → Prop} {PX : String → Mem → Prop} (C : OkB (wM g ad) X cX10_play RX10 8 7 0 0) (Y : OkR (wM g ad) X (some .int) 0 0 PQ PX) {A M N : Mem} {f a b : Int} (h : Jn A M) (hf : f = 0 ∨ f = 1) (ha : 0 ≤ a ∧ a ≤ 3) (hb : 0 ≤ b ∧ b ≤ 3) (h4 : (a = 3 ∨ b = 3) → prN M (fun c => M 17 c) (M 16 0).toNat ≤ 4000) (q1 : PlyI M N) (kk : ∀ r S, PlyR M f a b (S 20 0) r S → PQ (some (vI r)) S) : E (wM g ad) X 0 0 (N) 73 [(0, .ref (ad 0)), (1, vI (f)), (2, vI (a)), (3, vI (b))] [vI (0), .ref (ad 0)] := by
  have hn := h.n
  have ht := h.2.1
  have ht1 := ht.1
  have ep : (((M 16 0).toNat : Nat) : Int) = M 16 0 := by omega
  have hz : LnO (M 0 0) (M 16 0).toNat (fun c => M 17 c) := fun c c1 c2 => ht.2.2.2 c c1 (by omega)
  have sD := sumD_r hn.2.2.2 (M 16 0).toNat hz
  refine B_X10_play_73 (by omega) (by omega) (by omega) (by omega) (Nat.zero_le _) (Nat.zero_le _) C Y ⟨fun _ => ?_, fun w => absurd w (by decide)⟩
  refine mp_89 C Y hn.2.2.2 (by omega) hf ha hb (l0 := fun c => M 17 c) (fun S K mv lf hO hA hK h28 h27 hF h20 => kk _ S ⟨?_, fun _ => ⟨K, mv, lf, hO, hA, hK, rfl, h28, h27⟩, fun w => absurd h20 w, hF⟩) (sumD M (fun c => M 17 c) (M 16 0).toNat).toNat 0 (fun _ => 0) (fun c => M 17 c) _ (by omega) plo_0 (by omega) hz h4 ⟨fun k i hk => ?_, ?_, fun c c1 c2 => ?_⟩ ?_ (fun j hj => absurd hj (by omega)) (fun c i h1 h2 h3 h4 h5 => ?_) ?_
  · rw [h20, kP, if_pos ⟨hf, ha, hb⟩, if_neg (fun w => by have := h4 w.1; omega)]
  · rw [up_c (by omega), up_c (by omega)]; exact q1.1 k i (by omega) (by omega) (by omega)
  · rw [up_c (by decide), up_c (by decide), q1.1 16 0 (by decide) (by decide) (by decide)]; omega
  · rw [up_c (by decide), up_c (by decide)]; exact q1.2 c c1 (by omega)
  · rw [up_s]; rfl
  · rw [up_c h3, up_c h1]; exact q1.1 c i h1 h4 h5
  · rw [up_c (by decide), up_s]
theorem m_play {g : Gs} {ad : Nat → Nat} {A M : Mem} {f a b : Int} (h : Jn A M) (hf : R32 f) (ha : R32 a) (hb : R32 b) : SpI (wM g ad) yX10_play cX10_play 8 (some .int) 7 [.ref (ad 0), vI (f), vI (a), vI (b)] (M) (fun r N => PlyR M f a b (N 20 0) r N) := by
  have hn := h.n
  have htt := h.2.1
  have ht1 := htt.1
  have pr := prN_40 (M := M) (l := fun c => M 17 c) hn.2.2.2 (k := (M 16 0).toNat) (by omega) (fun c c1 c2 => htt.2.2.2 c c1 (by omega))
  intro l9 hl9
  refine ct_of hl9 mi_X10_play.2.2.2 (Nat.le_of_ble_eq_true rfl) (fun X _ C Y => ?_)
  show E (wM g ad) X 0 0 (M) 0 [(0, .ref (ad 0)), (1, vI (f)), (2, vI (a)), (3, vI (b))] []
  refine e_wf (fun hw => ?_)
  refine B_X10_play_0 (by omega) (by omega) (by omega) (Nat.zero_le _) (Nat.zero_le _) C Y ⟨_, m_plays ht1, fun P hP => ?_⟩
  obtain ⟨f1, f2⟩ := hP
  have q0 : PlyI M P := ⟨fun c i h1 h2 h3 => f1 c i (by omega), f2⟩
  have bad : ∀ (N : Mem) (k : Int), PlyI M N → (∀ i, N 27 i = M 27 i) → N 28 0 = M 28 0 → (k = 1 ∨ k = 2) → k = kP M f a b → E (wM g ad) X 0 0 (N) 73 [(0, .ref (ad 0)), (1, vI (f)), (2, vI (a)), (3, vI (b))] [vI (k), .ref (ad 0)] := by
    intro N k q e27 e28 hk e
    refine B_X10_play_73 (by omega) (by omega) (by omega) (by omega) (Nat.zero_le _) (Nat.zero_le _) C Y ⟨fun w => absurd (by omega) w, fun _ => ⟨_, rfl, ?_, fun w => ?_, fun _ => ⟨?_, fun i => ?_⟩, fun c i h1 h2 h3 h4 h5 => ?_⟩⟩
    · rw [up_s]; exact e
    · rw [up_s] at w; omega
    · rw [up_c (by decide)]; exact e28
    · rw [up_c (by decide)]; exact e27 i
    · rw [up_c h1]; exact q.1 c i h1 h4 h5
  have no : ∀ w : ¬ ((f = 0 ∨ f = 1) ∧ (0 ≤ a ∧ a ≤ 3) ∧ 0 ≤ b ∧ b ≤ 3), E (wM g ad) X 0 0 (P) 36 [(0, .ref (ad 0)), (1, vI (f)), (2, vI (a)), (3, vI (b))] [vI (0)] := fun w => B_X10_play_36 (by omega) (by omega) (by omega) (by omega) (Nat.zero_le _) (Nat.zero_le _) C Y ⟨fun q => absurd rfl q, fun _ => bad P 1 q0 (fun i => f1 27 i (by decide)) (f1 28 0 (by decide)) (Or.inl rfl) (by rw [kP, if_neg w])⟩
  refine ⟨fun c => no (by omega), fun c => ⟨fun c1 => no (by omega), fun c1 => ⟨fun c2 => no (by omega), fun c2 => ?_⟩⟩⟩
  have hf2 : f = 0 ∨ f = 1 := by omega
  have X58 : (a = 3 ∨ b = 3) → E (wM g ad) X 0 0 (P) 58 [(0, .ref (ad 0)), (1, vI (f)), (2, vI (a)), (3, vI (b))] [.ref (ad 0)] := by
    intro w3
    obtain ⟨p15, pG, p16, pl, pp⟩ := ply_pr h q0
    refine B_X10_play_58 (by omega) (by omega) (by omega) (Nat.zero_le _) (Nat.zero_le _) C Y ⟨_, m_sizeNow pG (by omega) pl, fun r N hN => ?_⟩
    obtain ⟨e1, qN, -⟩ := hN
    rw [e1, pp]
    have q1 : PlyI M N := ⟨fun c i h1 h2 h3 => (qN c i (by omega) (by omega) (by omega) (by omega)).trans (q0.1 c i h1 h2 h3), fun c c1 c2 => (qN 38 c (by decide) (by decide) (by decide) (by decide)).trans (q0.2 c c1 c2)⟩
    refine ⟨by omega, fun s4 => mp_73 C Y h hf2 c1 c2 (fun _ => s4) q1 (fun r S hS => ⟨r, rfl, hS⟩), fun s4 => bad N 2 q1 (fun i => (qN 27 i (by decide) (by decide) (by decide) (by decide)).trans (f1 27 i (by decide))) ((qN 28 0 (by decide) (by decide) (by decide) (by decide)).trans (f1 28 0 (by decide))) (Or.inr rfl) ?_⟩
    rw [kP, if_pos ⟨hf2, c1, c2⟩, if_pos ⟨w3, s4⟩]
  exact B_X10_play_36 (by omega) (by omega) (by omega) (by omega) (Nat.zero_le _) (Nat.zero_le _) C Y ⟨fun _ => ⟨fun w => X58 (Or.inl w), fun w => ⟨fun w2 => mp_73 C Y h hf2 c1 c2 (fun w3 => by omega) q0 (fun r S hS => ⟨r, rfl, hS⟩), fun w2 => X58 (Or.inr w2)⟩⟩, fun w => absurd w (by decide)⟩
