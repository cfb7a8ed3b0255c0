/-! ===== the reference: chosen ===== -/
/-- N holds the games of M and the line l -/
def PlS (M N : Mem) (l : Int → Int) (p : Nat) : Prop := (∀ k i, k ≤ 15 → N k i = M k i) ∧ N 16 0 = (p : Int) ∧ ∀ c, 0 ≤ c → c < (p : Int) → N 38 c = l c
theorem io_4 {g : Gs} {ad : Nat → Nat} {X : Cx} {PQ : Option Value → Mem → Prop} {PX : String → Mem → Prop} (C : OkB (wM g ad) X cX10_isOver RX10 3 1 0 0) (Y : OkR (wM g ad) X (some .boolean) 0 0 PQ PX) {M N : Mem} {n : Int} {l : Int → Int} {p : Nat} (hG : Good n M) (hp : p ≤ 4) (hl : LnO n p l) (h : PlS M N l p) (kk : ∀ r, (r = 0 ∨ r = 1) → (r = 1 ↔ AllC M l p) → PQ (some (vI r)) N) : ∀ (m c : Nat) (o : Int), c + m = p → (o = 0 ∨ o = 1) → (o = 1 ↔ AllC M l c) → E (wM g ad) X 0 0 (N) 4 [(0, .ref (ad 0)), (1, vI (o)), (2, vI (c))] [] := by
  have h40 := hG.2.1
  have e16 := h.2.1
  intro m
  induction m with
  | zero =>
    intro c o hc ho h1
    have e : c = p := by omega
    subst e
    exact B_X10_isOver_4 (by omega) (by omega) (Nat.zero_le _) (Nat.zero_le _) C Y ⟨fun _ => ⟨ho, kk o ho h1⟩, fun q => absurd q (by omega)⟩
  | succ m ih =>
    intro c o hc ho h1
    have lc := hl c (by omega) (by omega)
    have e38 := h.2.2 c (by omega) (by omega)
    have sp : AllC M l (c + 1) ↔ AllC M l c ∧ M 6 (l c) ≠ 0 := by
      constructor
      · intro q; exact ⟨fun x x1 x2 => q x x1 (by omega), q c (by omega) (by omega)⟩
      · rintro ⟨q1, q2⟩ x x1 x2
        by_cases e : x = (c : Int)
        · subst e; exact q2
        · exact q1 x x1 (by omega)
    refine B_X10_isOver_4 (by omega) (by omega) (Nat.zero_le _) (Nat.zero_le _) C Y ⟨fun q => absurd q (by omega), fun _ => ⟨fun o0 => ⟨by omega, ih (c + 1) 0 (by omega) (Or.inl rfl) ?_⟩, fun o1 => ?_⟩⟩
    · rw [sp]
      constructor
      · intro q; omega
      · rintro ⟨q, -⟩; have := h1.mpr q; omega
    · rw [e38, h.1 6 _ (by decide)]
      have a := h1.mp (by omega)
      refine ⟨⟨by omega, by omega⟩, fun q => ⟨by omega, ih (c + 1) 0 (by omega) (Or.inl rfl) ?_⟩, fun q => ⟨by omega, ih (c + 1) 1 (by omega) (Or.inr rfl) ?_⟩⟩
      · rw [sp]
        constructor
        · intro w; omega
        · rintro ⟨-, w⟩; exact absurd q w
      · rw [sp]
        exact ⟨fun _ => ⟨a, q⟩, fun _ => rfl⟩
theorem m_isOver {g : Gs} {ad : Nat → Nat} {M N : Mem} {n : Int} {l : Int → Int} {p : Nat} (hG : Good n M) (hp : p ≤ 4) (hl : LnO n p l) (h : PlS M N l p) : SpI (wM g ad) yX10_isOver cX10_isOver 3 (some .boolean) 1 [.ref (ad 0)] (N) (fun r P => (r = 0 ∨ r = 1) ∧ (r = 1 ↔ AllC M l p) ∧ P = N) := by
  intro l9 hl9
  refine ct_of hl9 mi_X10_isOver.2.2.2 (Nat.le_of_ble_eq_true rfl) (fun X _ C Y => ?_)
  show E (wM g ad) X 0 0 (N) 0 [(0, .ref (ad 0))] []
  refine e_wf (fun hw => ?_)
  refine B_X10_isOver_0  (Nat.zero_le _) (Nat.zero_le _) C Y ?_
  exact io_4 C Y hG hp hl h (fun r h1 h2 => ⟨r, rfl, h1, h2, rfl⟩) p 0 1 (by omega) (Or.inr rfl) ⟨fun _ c c1 c2 => absurd c2 (by omega), fun _ => rfl⟩
theorem hc_cold {M : Mem} {l : Int → Int} {c : Nat} {d : Int} (h6 : M 6 (l c) ≠ 0) (h : HotC M c l d) : HotC M (c + 1) l d := by
  refine ⟨⟨h.1.1, by have := h.1.2; omega⟩, h.2.1, fun x x1 x2 x6 => ?_, h.2.2.2⟩
  by_cases e : x = (c : Int)
  · subst e; exact absurd x6 h6
  · exact h.2.2.1 x x1 (by omega) x6
theorem hc_less {M : Mem} {l : Int → Int} {c : Nat} {d : Int} (h14 : M 14 (l c) ≤ M 14 (l d)) (h : HotC M c l d) : HotC M (c + 1) l d := by
  refine ⟨⟨h.1.1, by have := h.1.2; omega⟩, h.2.1, fun x x1 x2 x6 => ?_, h.2.2.2⟩
  by_cases e : x = (c : Int)
  · subst e; exact h14
  · exact h.2.2.1 x x1 (by omega) x6
theorem hc_more {M : Mem} {l : Int → Int} {c : Nat} (h6 : M 6 (l c) = 0) (h14 : ∀ x, 0 ≤ x → x < (c : Int) → M 6 (l x) = 0 → M 14 (l x) < M 14 (l c)) : HotC M (c + 1) l c := by
  refine ⟨⟨by omega, by omega⟩, h6, fun x x1 x2 x6 => ?_, fun x x1 x2 x6 => h14 x x1 (by omega) x6⟩
  by_cases e : x = (c : Int)
  · subst e; exact Int.le_refl _
  · exact Int.le_of_lt (h14 x x1 (by omega) x6)
theorem ho_4 {g : Gs} {ad : Nat → Nat} {X : Cx} {PQ : Option Value → Mem → Prop} {PX : String → Mem → Prop} (C : OkB (wM g ad) X cX10_hottest RX10 3 1 0 0) (Y : OkR (wM g ad) X (some .int) 0 0 PQ PX) {M N : Mem} {n : Int} {l : Int → Int} {p : Nat} (hG : Good n M) (hp : p ≤ 4) (hl : LnO n p l) (h : PlS M N l p) (kk : ∀ r, ((r = -1 ∧ AllC M l p) ∨ HotC M p l r) → PQ (some (vI r)) N) : ∀ (m c : Nat) (d : Int), c + m = p → ((d = -1 ∧ AllC M l c) ∨ HotC M c l d) → E (wM g ad) X 0 0 (N) 4 [(0, .ref (ad 0)), (1, vI (d)), (2, vI (c))] [] := by
  have h40 := hG.2.1
  have e16 := h.2.1
  intro m
  induction m with
  | zero =>
    intro c d hc hd
    have dr : -1 ≤ d ∧ d < 4 := by
      rcases hd with ⟨q, -⟩ | q
      · omega
      · have := q.1; omega
    have e : c = p := by omega
    subst e
    exact B_X10_hottest_4 (by omega) (by omega) (Nat.zero_le _) (Nat.zero_le _) C Y ⟨fun _ => kk d hd, fun q => absurd q (by omega)⟩
  | succ m ih =>
    intro c d hc hd
    have dr : -1 ≤ d ∧ d < (c : Int) := by
      rcases hd with ⟨q, -⟩ | q
      · omega
      · have := q.1; omega
    have lc := hl c (by omega) (by omega)
    have e38 := h.2.2 c (by omega) (by omega)
    refine B_X10_hottest_4 (by omega) (by omega) (Nat.zero_le _) (Nat.zero_le _) C Y ⟨fun q => absurd q (by omega), fun _ => ?_⟩
    rw [e38, h.1 6 _ (by decide)]
    refine ⟨⟨by omega, by omega⟩, fun q => ⟨by omega, ih (c + 1) d (by omega) ?_⟩, fun q => ⟨fun q1 => ⟨by omega, ih (c + 1) c (by omega) ?_⟩, fun q1 => ?_⟩⟩
    · rcases hd with ⟨q1, q2⟩ | q1
      · refine Or.inl ⟨q1, fun x x1 x2 => ?_⟩
        by_cases e : x = (c : Int)
        · subst e; exact q
        · exact q2 x x1 (by omega)
      · exact Or.inr (hc_cold q q1)
    · rcases hd with ⟨-, q2⟩ | q2
      · exact Or.inr (hc_more q (fun x x1 x2 x6 => absurd x6 (q2 x x1 x2)))
      · have := q2.1; omega
    · have hd2 : HotC M c l d := by
        rcases hd with ⟨q2, -⟩ | q2
        · exact absurd q2 q1
        · exact q2
      have ld := hl d (by omega) (by omega)
      have e38d := h.2.2 d (by omega) (by omega)
      rw [e38d, h.1 14 _ (by decide), h.1 14 _ (by decide)]
      refine ⟨⟨by omega, by omega⟩, fun q2 => ⟨by omega, ih (c + 1) d (by omega) (Or.inr (hc_less q2 hd2))⟩, fun q2 => ⟨by omega, ih (c + 1) c (by omega) (Or.inr (hc_more q (fun x x1 x2 x6 => ?_)))⟩⟩
      have := hd2.2.2.1 x x1 x2 x6
      omega
theorem m_hottest {g : Gs} {ad : Nat → Nat} {M N : Mem} {n : Int} {l : Int → Int} {p : Nat} (hG : Good n M) (hp : p ≤ 4) (hl : LnO n p l) (h : PlS M N l p) : SpI (wM g ad) yX10_hottest cX10_hottest 3 (some .int) 1 [.ref (ad 0)] (N) (fun r P => ((r = -1 ∧ AllC M l p) ∨ HotC M p l r) ∧ P = N) := by
  intro l9 hl9
  refine ct_of hl9 mi_X10_hottest.2.2.2 (Nat.le_of_ble_eq_true rfl) (fun X _ C Y => ?_)
  show E (wM g ad) X 0 0 (N) 0 [(0, .ref (ad 0))] []
  refine e_wf (fun hw => ?_)
  refine B_X10_hottest_0  (Nat.zero_le _) (Nat.zero_le _) C Y ?_
  exact ho_4 C Y hG hp hl h (fun r h1 => ⟨r, rfl, h1, rfl⟩) p 0 (-1) (by omega) (Or.inl ⟨rfl, fun c c1 c2 => absurd c2 (by omega)⟩)
theorem m_wallAtG {g : Gs} {ad : Nat → Nat} {M : Mem} {n z s t : Int} (hG : Good n M) (hz : 0 ≤ z ∧ z < n) (hs : 0 ≤ s ∧ s ≤ 1) (ht : 0 ≤ t ∧ t ≤ 100000) : SpI (wM g ad) yX10_wallAt cX10_wallAt 5 (some .int) 2 [.ref (ad 0), vI (z), vI (s), vI (t)] (M) (fun r N => r = WA M z s t ∧ N = M) := by
  intro l9 hl9
  refine ct_of hl9 mi_X10_wallAt.2.2.2 (Nat.le_of_ble_eq_true rfl) (fun X _ C Y => ?_)
  show E (wM g ad) X 0 0 (M) 0 [(0, .ref (ad 0)), (1, vI (z)), (2, vI (s)), (3, vI (t))] []
  refine e_wf (fun hw => ?_)
  have h40 := hG.2.1
  have e2 : Int.tdiv t 2 = t / 2 := Int.tdiv_eq_ediv_of_nonneg ht.1
  have e3 : Int.tmod t 2 = t % 2 := Int.tmod_eq_emod_of_nonneg ht.1
  refine B_X10_wallAt_0 (by omega) (by omega) (by omega) (Nat.zero_le _) (Nat.zero_le _) C Y ?_
  rw [e2, e3]
  refine ⟨fun c => ⟨fun c1 => ?_, fun c1 => ⟨by omega, _, rfl, ?_, rfl⟩⟩, fun c => ⟨by omega, _, rfl, ?_, rfl⟩⟩
  · have od := wa_od hG hz hs (k := t / 2) (by omega)
    have bd := wa_bd hG (z := z) (s := s) (t := t) hz hs ht.1
    rw [show 2 * (t / 2) + 1 = t by omega] at od
    refine ⟨⟨by omega, by omega, by omega, by show R32 (smpl M z s (t / 2) + smpl M z s (t / 2 + 1)); omega⟩, _, rfl, ?_, rfl⟩
    show Int.tdiv (smpl M z s (t / 2) + smpl M z s (t / 2 + 1)) 2 = _
    rw [← od, td2]
  · rw [WA, if_neg (by omega), if_pos c1]
  · rw [WA, if_pos (by omega)]
/-- the scores of the line stand in N -/
def ScS (M N : Mem) (l : Int → Int) (p : Nat) : Prop := RfS M N l p ∧ ScT M (vB M N l) l p (wtR (wdM M l) p) ∧ N 43 0 = wtR (wdM M l) p - 1 ∧ wtR (wdM M l) p ≤ 4000
theorem wo_28 {g : Gs} {ad : Nat → Nat} {X : Cx} {PQ : Option Value → Mem → Prop} {PX : String → Mem → Prop} (C : OkB (wM g ad) X cX10_worth RX10 8 3 0 0) (Y : OkR (wM g ad) X (some .int) 0 0 PQ PX) {M N : Mem} {n : Int} {l : Int → Int} {p c : Nat} {s t i : Int} (hG : Good n M) (hp : p ≤ 4) (hl : LnO n p l) (h : PlS M N l p) (hs : s = 0 ∨ s = 1) (ht : 0 ≤ t ∧ t ≤ 3) (h3 : t = 3 → ScS M N l p) (hm : Mv M p l s c i) (kk : ∀ w, Wo M p l s t c i w → PQ (some (vI w)) N) : E (wM g ad) X 0 0 (N) 28 [(0, .ref (ad 0)), (1, vI (s)), (2, vI (t)), (3, vI (c)), (5, vI (l c)), (6, vI (opt M (l c) s i))] [vI (sgnS s)] := by
  have h40 := hG.2.1
  have cp : c < p := by have := hm.1.2; omega
  have lc := hl c hm.1.1 hm.1.2
  have hGl := hG.2.2 (l c) lc.1 lc.2
  have mv := mv_ok hG hl hs hm
  have sg : sgnS s = 1 ∨ sgnS s = -1 := by unfold sgnS; split <;> omega
  have e13 : ∀ i, N 13 i = M 13 i := fun i => h.1 13 i (by decide)
  have e14 : ∀ i, N 14 i = M 14 i := fun i => h.1 14 i (by decide)
  refine B_X10_worth_28 (by omega) (by omega) (by omega) (by omega) (by omega) (by omega) (Nat.zero_le _) (Nat.zero_le _) C Y ⟨fun q => kk 0 (Or.inl ⟨q, rfl⟩), fun q => ?_, fun q => ?_, fun q => ?_⟩
  · obtain ⟨-, -, kt, k1, k2, -, k3, -⟩ := hGl.2.2.2.1 hm.2.1
    have d6 := hGl.1.2.2.1
    have ag : Ag M N n := Ag.of _ (fun k i k1 k2 => h.1 k i (by omega))
    have ww : WA N (opt M (l c) s i) (1 - s) (M 14 (l c)) = WA M (opt M (l c) s i) (1 - s) (M 14 (l c)) := by
      have e15 : ∀ i, N 15 i = M 15 i := fun i => h.1 15 i (by decide)
      unfold WA
      simp only [smpl, e13, e15]
    have wb := wa_bd hG (z := opt M (l c) s i) (s := 1 - s) (t := M 14 (l c)) ⟨mv.2.2.1, by omega⟩ (by omega) (by omega)
    rw [e14]
    refine ⟨⟨by omega, by omega⟩, _, m_wallAtG (hG.cg ag) (z := opt M (l c) s i) (s := 1 - s) (t := M 14 (l c)) ⟨mv.2.2.1, by omega⟩ (by omega) (by omega), fun r P hP => ?_⟩
    obtain ⟨e1, e2⟩ := hP
    rw [e1, e2, ww]
    refine ⟨by omega, ?_, kk _ (Or.inr (Or.inl ⟨q, rfl⟩))⟩
    rcases sg with q | q <;> rw [q] <;> omega
  · rw [e13, e13]
    have w := wo_r hG hp hl hs hm (Or.inr (Or.inr (Or.inl ⟨q, rfl⟩)))
    obtain ⟨hD2, -, -, -, hI2⟩ := hG.2.2 (opt M (l c) s i) mv.2.2.1 (by omega)
    have b1 := hGl.2.2.2.2.2.2.2.1.2.2.2
    have b2 := hI2.2.2.2.1.2.2.2
    have d1 := hGl.1.2.2.1
    have d2 := hD2.2.2.1
    unfold Bd at b1 b2
    exact ⟨⟨by omega, by omega, by omega, by omega⟩, kk _ (Or.inr (Or.inr (Or.inl ⟨q, rfl⟩)))⟩
  · have t3 : t = 3 := by omega
    obtain ⟨hR, hT, h43, h4⟩ := h3 t3
    have hlz := inP_z hG hl
    have rnk := hR.rnk hp
    obtain ⟨m1, m2, m3, m4⟩ := stL_mv hG hl rnk hlz hs hm
    have hl' := inP_mv hG hl hlz hs hm
    have wb := wt_40 hG hp hl (k := c) (by omega)
    have wb2 := wt_40 hG hp hl (k := p) (Nat.le_refl _)
    have tp := stL_top hG hl rnk
    have pn := posN_r hG lc
    have rkl := rnk_of hG lc (rnk c (by omega) (by omega)) (hlz c (by omega) (by omega))
    have rkc := rnk_of hG lc (rnk c (by omega) (by omega)) (show Pt M (HotG M) (l c) (opt M (l c) s i) by have := hl' c (by omega) (by omega); unfold updL at this; rwa [if_pos rfl] at this)
    rw [vB_12 (by omega)] at rkl rkc m1 m4
    rw [vB_12 (by omega)] at m1 m4
    have tt := hT _ hl' (by omega)
    refine ⟨_, m_weight hG hp hl hR (c := c) (by omega), fun w P hP => ?_⟩
    obtain ⟨e1, e2⟩ := hP
    rw [e1, e2]
    have eD : wtR (wdM M l) c * (N 41 (40 * c + opt M (l c) s i) - N 41 (40 * c + l c)) = stL M (vB M N l) l p (updL l c (opt M (l c) s i)) - N 43 0 := by
      rw [m1, h43, tp, show vB M N l 15 c = wtR (wdM M l) c from rfl, Int.sub_mul, Int.mul_sub, Int.mul_comm (wtR (wdM M l) c), Int.mul_comm (wtR (wdM M l) c)]
      omega
    rw [eD, show N 43 0 + (stL M (vB M N l) l p (updL l c (opt M (l c) s i)) - N 43 0) = stL M (vB M N l) l p (updL l c (opt M (l c) s i)) by omega]
    have val : ∃ v, Sc M p (updL l c (opt M (l c) s i)) (1 - s) v ∧ N 42 (2 * stL M (vB M N l) l p (updL l c (opt M (l c) s i)) + 1 - s) = v := by
      rcases hs with rfl | rfl
      · exact ⟨_, tt.2, by rw [show 2 * stL M (vB M N l) l p (updL l c (opt M (l c) 0 i)) + 1 - 0 = 2 * stL M (vB M N l) l p (updL l c (opt M (l c) 0 i)) + 1 by omega]; rfl⟩
      · exact ⟨_, tt.1, by rw [show 2 * stL M (vB M N l) l p (updL l c (opt M (l c) 1 i)) + 1 - 1 = 2 * stL M (vB M N l) l p (updL l c (opt M (l c) 1 i)) by omega]; rfl⟩
    obtain ⟨v, v1, v2⟩ := val
    have vr := sc_r hG hp mv.1 (by omega) v1
    rw [v2]
    have rw' : R32 (sgnS s * v) := by rcases sg with q | q <;> rw [q] <;> omega
    exact ⟨by omega, ⟨by omega, by omega, by omega, by omega, by omega, by omega, by omega, by omega, by omega, by omega, by omega, by omega, rw'⟩, kk _ (Or.inr (Or.inr (Or.inr ⟨t3, v, v1, rfl⟩)))⟩
theorem m_worth {g : Gs} {ad : Nat → Nat} {M N : Mem} {n : Int} {l : Int → Int} {p c : Nat} {s t i : Int} (hG : Good n M) (hp : p ≤ 4) (hl : LnO n p l) (h : PlS M N l p) (hs : s = 0 ∨ s = 1) (ht : 0 ≤ t ∧ t ≤ 3) (h3 : t = 3 → ScS M N l p) (hm : Mv M p l s c i) : SpI (wM g ad) yX10_worth cX10_worth 8 (some .int) 3 [.ref (ad 0), vI (s), vI (t), vI (c), vI (i)] (N) (fun r P => Wo M p l s t c i r ∧ P = N) := by
  have h40 := hG.2.1
  have lc := hl c hm.1.1 hm.1.2
  have ob := opS_r (hG.2.2 (l c) lc.1 lc.2).1.1 (s := s) (by omega)
  have i4 := hm.2.2
  have c4 := hm.1
  intro l9 hl9
  refine ct_of hl9 mi_X10_worth.2.2.2 (Nat.le_of_ble_eq_true rfl) (fun X _ C Y => ?_)
  show E (wM g ad) X 0 0 (N) 0 [(0, .ref (ad 0)), (1, vI (s)), (2, vI (t)), (3, vI (c)), (4, vI (i))] []
  refine e_wf (fun hw => ?_)
  have go := wo_28 C Y hG hp hl h hs ht h3 hm (fun w hw => ⟨w, rfl, hw, rfl⟩)
  have e38 := h.2.2 c (by omega) (by omega)
  have e4 : N 4 (8 * l c + 4 * s + i) = opt M (l c) s i := h.1 4 _ (by decide)
  refine B_X10_worth_0 (by omega) (by omega) (by omega) (by omega) (Nat.zero_le _) (Nat.zero_le _) C Y ?_
  rw [e38, e4]
  refine ⟨⟨by omega, by omega, by omega, by omega⟩, fun q => ?_, fun q => ?_⟩
  · have s1 : s = 1 := by omega
    subst s1
    exact go
  · subst q
    exact go
