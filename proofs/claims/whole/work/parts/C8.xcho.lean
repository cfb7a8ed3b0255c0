/-! ===== the class: the adviser ===== -/
theorem allC_s {M : Mem} {l : Int → Int} {c : Nat} (h : AllC M l c) (q : M 6 (l c) ≠ 0) : AllC M l (c + 1) := fun x x1 x2 => by
  by_cases e : x = (c : Int)
  · subst e; exact q
  · exact h x x1 (by omega)
theorem op_1 {M : Mem} {n : Int} {p : Nat} {l : Int → Int} {s c : Int} (hG : Good n M) (hl : LnO n p l) (hs : s = 0 ∨ s = 1) (hc : 0 ≤ c ∧ c < (p : Int)) (h6 : M 6 (l c) = 0) : Mv M p l s c 0 := by
  have lc := hl c hc.1 hc.2
  obtain ⟨g0, g1, -⟩ := (hG.2.2 (l c) lc.1 lc.2).2.2.2.1 h6
  exact ⟨hc, h6, by omega, by rcases hs with rfl | rfl <;> omega⟩
/-- temperatures tell cold games from hot ones -/
theorem tmp_r {M : Mem} {n z : Int} (hG : Good n M) (hz : 0 ≤ z ∧ z < n) : (M 6 z = 0 → 0 ≤ M 14 z ∧ M 14 z ≤ 14000) ∧ (M 6 z ≠ 0 → M 14 z = -1) := by
  have h := hG.2.2 z hz.1 hz.2
  constructor
  · intro q
    obtain ⟨-, -, kt, k1, k2, -, k3, -⟩ := h.2.2.2.1 q
    have := h.1.2.2.1
    omega
  · intro q
    have c6 : M 6 z = 1 := by have := h.2.1.2.1.1; omega
    exact (h.2.2.1 c6).2.1
theorem xl_2 {g : Gs} {ad : Nat → Nat} {sk : (Nat → Nat) × (Nat → Nat)} {X : Cx} {PQ : Option Value → Mem → Prop} {PX : String → Mem → Prop} (C : OkB (wC g ad sk) X cX0_lowest RX0 4 1 0 0) (Y : OkR (wC g ad sk) X (some .int) 0 0 PQ PX) {M B : Mem} {n s : Int} {p : Nat} (hX : RepX M B n) (hp : p ≤ 4) (hl : LnO n p (fun c => B 2 c)) (hs : s = 0 ∨ s = 1) (kk : ∀ r, Cho M p (fun c => B 2 c) s 0 r → PQ (some (vI r)) B) : ∀ (m c : Nat), c + m = p → AllC M (fun c => B 2 c) c → E (wC g ad sk) X 0 0 (B) 2 [(0, .ref (ad 4)), (1, .ref (ad 10)), (2, vI (p)), (3, vI (c))] [] := by
  have hG := hX.2.2.1
  have h40 := hG.2.1
  intro m
  induction m with
  | zero =>
    intro c hc hA
    have e : c = p := by omega
    subst e
    exact B_X0_lowest_2 (by omega) (by omega) (Nat.zero_le _) (Nat.zero_le _) C Y ⟨fun _ => kk (-1) (Or.inl ⟨hA, rfl⟩), fun q => absurd q (by omega)⟩
  | succ m ih =>
    intro c hc hA
    have lc : 0 ≤ B 2 c ∧ B 2 c < n := hl c (by omega) (by omega)
    have e49 := (hX.2.2.2.1 (B 2 c) lc.1 lc.2).2.1.2.2.1
    refine B_X0_lowest_2 (by omega) (by omega) (Nat.zero_le _) (Nat.zero_le _) C Y ⟨fun q => absurd q (by omega), fun _ => ?_⟩
    rw [e49]
    refine ⟨⟨by omega, by omega⟩, fun q => ⟨by omega, ih (c + 1) (by omega) (allC_s hA q)⟩, fun q => ⟨by omega, kk _ (Or.inr ⟨c, 0, 0, ⟨op_1 hG hl hs ⟨by omega, by omega⟩ q, fun w => absurd w (by decide)⟩, by omega, Or.inl ⟨rfl, rfl⟩, fun c' i' w' h1 h2 => ?_, fun c' i' w' h1 h2 h3 => ?_⟩)⟩⟩
    · rcases h2 with ⟨-, w⟩ | ⟨w, -⟩ | ⟨w, -⟩ | ⟨w, -⟩ <;> omega
    · exfalso
      rcases h3 with h3 | h3
      · exact hA c' h1.1.1.1 h3 h1.1.2.1
      · have := h1.1.2.2.1; omega
theorem x_lowest {g : Gs} {ad : Nat → Nat} {sk : (Nat → Nat) × (Nat → Nat)} {M B : Mem} {n s : Int} {p : Nat} (hX : RepX M B n) (hp : p ≤ 4) (hl : LnO n p (fun c => B 2 c)) (hs : s = 0 ∨ s = 1) : SpI (wC g ad sk) yX0_lowest cX0_lowest 4 (some .int) 1 [.ref (ad 4), .ref (ad 10), vI (p)] (B) (fun r P => Cho M p (fun c => B 2 c) s 0 r ∧ P = B) := by
  intro l9 hl9
  refine ct_of hl9 mi_X0_lowest.2.2.2 (Nat.le_of_ble_eq_true rfl) (fun X _ C Y => ?_)
  show E (wC g ad sk) X 0 0 (B) 0 [(0, .ref (ad 4)), (1, .ref (ad 10)), (2, vI (p))] []
  refine e_wf (fun hw => ?_)
  refine B_X0_lowest_0 (by omega) (Nat.zero_le _) (Nat.zero_le _) C Y ?_
  exact xl_2 C Y hX hp hl hs (fun r hr => ⟨r, rfl, hr, rfl⟩) p 0 (by omega) (fun c c1 c2 => absurd c2 (by omega))
/-! coolest -/
def coW (M : Mem) (z s i : Int) : Int := sgnS s * WA M (opt M z s i) (1 - s) (M 14 z)
def CoI (M : Mem) (z s i b ch : Int) : Prop := (i = 0 ∧ b = -16777216 ∧ ch = 0) ∨ ((0 ≤ ch ∧ ch < i) ∧ b = coW M z s ch ∧ (∀ j, 0 ≤ j → j < i → coW M z s j ≤ b) ∧ ∀ j, 0 ≤ j → j < ch → coW M z s j < b)
theorem xc_24 {g : Gs} {ad : Nat → Nat} {sk : (Nat → Nat) × (Nat → Nat)} {X : Cx} {PQ : Option Value → Mem → Prop} {PX : String → Mem → Prop} (C : OkB (wC g ad sk) X cX0_coolest RX0 7 3 0 0) (Y : OkR (wC g ad sk) X (some .int) 0 0 PQ PX) {M N : Mem} {n z s : Int} (hG : Good n M) (hz : 0 ≤ z ∧ z < n) (hh : M 6 z = 0) (hs : s = 0 ∨ s = 1) (hrw : RwX M N z) (h6 : ∀ i, 0 ≤ i → i < M 3 (2 * z + s) → N 6 (2 * opt M z s i + (1 - s)) = WA M (opt M z s i) (1 - s) (M 14 z)) (kk : ∀ b ch, CoI M z s (M 3 (2 * z + s)) b ch → PQ (some (vI ch)) N) : ∀ (m i : Nat) (b ch : Int), (i : Int) + m = M 3 (2 * z + s) → CoI M z s i b ch → E (wC g ad sk) X 0 0 (N) 24 [(0, .ref (ad 4)), (1, .ref (ad (44 + 6 * (Int.toNat z)))), (2, vI (s)), (3, vI (b)), (4, vI (ch)), (5, vI (i))] [] := by
  have h40 := hG.2.1
  have ob := opS_r (hG.2.2 z hz.1 hz.2).1.1 (s := s) (by omega)
  have tr := (tmp_r hG hz).1 hh
  have sg : sgnS s = 1 ∨ sgnS s = -1 := by unfold sgnS; split <;> omega
  have c41 := (hrw.2 s (by omega) (by omega)).1
  have wr : ∀ j, 0 ≤ j → j < M 3 (2 * z + s) → -20000 ≤ coW M z s j ∧ coW M z s j ≤ 20000 := fun j j1 j2 => by
    have o := ob.2.2 j j1 j2
    have := wa_bd hG (z := opt M z s j) (s := 1 - s) (t := M 14 z) ⟨o.1, by omega⟩ (by omega) (by omega)
    unfold coW
    rcases sg with q | q <;> rw [q] <;> omega
  have br : ∀ (i b ch : Int), i ≤ M 3 (2 * z + s) → CoI M z s i b ch → (b = -16777216 ∨ (-20000 ≤ b ∧ b ≤ 20000)) ∧ 0 ≤ ch ∧ ch ≤ 4 := fun i b ch hi q => by
    rcases q with ⟨q1, q2, q3⟩ | ⟨q1, q2, -⟩
    · omega
    · have := wr ch q1.1 (by omega); omega
  intro m
  induction m with
  | zero =>
    intro i b ch hi h
    have r := br i b ch (by omega) h
    refine B_X0_coolest_24 (by omega) (by omega) (by omega) (by omega) (by omega) (Nat.zero_le _) (Nat.zero_le _) C Y ⟨by omega, fun q => kk b ch ?_, fun q => absurd q (by omega)⟩
    rw [show M 3 (2 * z + s) = (i : Int) by omega]; exact h
  | succ m ih =>
    intro i b ch hi h
    have r := br i b ch (by omega) h
    have eo := rw_opt hrw (s := s) (i := i) (by omega) (by omega)
    have o := ob.2.2 i (by omega) (by omega)
    have w := wr i (by omega) (by omega)
    refine B_X0_coolest_24 (by omega) (by omega) (by omega) (by omega) (by omega) (Nat.zero_le _) (Nat.zero_le _) C Y ⟨by omega, fun q => absurd q (by omega), fun q => ?_⟩
    rw [eo, h6 i (by omega) (by omega)]
    show _ ∧ ((coW M z s i ≤ b → _) ∧ (b < coW M z s i → _))
    have w' : R32 (sgnS s * WA M (opt M z s i) (1 - s) (M 14 z)) := by have : coW M z s i = sgnS s * WA M (opt M z s i) (1 - s) (M 14 z) := rfl; omega
    refine ⟨⟨by omega, by omega, by omega, w'⟩, fun q1 => ⟨by omega, ih (i + 1) b ch (by omega) ?_⟩, fun q1 => ⟨by omega, ih (i + 1) (coW M z s i) i (by omega) ?_⟩⟩
    · rcases h with ⟨a1, a2, a3⟩ | ⟨a1, a2, a3, a4⟩
      · omega
      · refine Or.inr ⟨by omega, a2, fun j j1 j2 => ?_, a4⟩
        by_cases e : j = (i : Int)
        · rw [e]; exact q1
        · exact a3 j j1 (by omega)
    · have lt : ∀ j, 0 ≤ j → j < (i : Int) → coW M z s j < coW M z s i := fun j j1 j2 => by
        rcases h with ⟨a1, a2, a3⟩ | ⟨a1, a2, a3, a4⟩
        · omega
        · have := a3 j j1 j2; omega
      refine Or.inr ⟨by omega, rfl, fun j j1 j2 => ?_, lt⟩
      by_cases e : j = (i : Int)
      · rw [e]; exact Int.le_refl _
      · have := lt j j1 (by omega); omega
theorem x_coolest {g : Gs} {ad : Nat → Nat} {sk : (Nat → Nat) × (Nat → Nat)} {M B : Mem} {n z s : Int} (hX : RepX M B n) (hz : 0 ≤ z ∧ z < n) (hh : M 6 z = 0) (hs : s = 0 ∨ s = 1) : SpI (wC g ad sk) yX0_coolest cX0_coolest 7 (some .int) 3 [.ref (ad 4), .ref (ad (44 + 6 * (Int.toNat z))), vI (s)] (B) (fun r N => WlK B N ∧ ∃ b, CoI M z s (M 3 (2 * z + s)) b r) := by
  intro l9 hl9
  refine ct_of hl9 mi_X0_coolest.2.2.2 (Nat.le_of_ble_eq_true rfl) (fun X _ C Y => ?_)
  show E (wC g ad sk) X 0 0 (B) 0 [(0, .ref (ad 4)), (1, .ref (ad (44 + 6 * (Int.toNat z)))), (2, vI (s))] []
  refine e_wf (fun hw => ?_)
  obtain ⟨x4, g0, hG, hr, hb⟩ := hX
  have hn := hG.1
  have hn40 := hG.2.1
  have rz := hr z hz.1 hz.2
  have ob := opS_r (hG.2.2 z hz.1 hz.2).1.1 (s := s) (by omega)
  have tr := (tmp_r hG hz).1 hh
  obtain ⟨p1, p2⟩ := rz.2.2.2.2.1
  have cl : ClW M n (B 52 z) := by
    intro x x1 x2 q q2 s i s1 s2 i1 i2
    have hx : x < 40 := by omega
    have o := (opS_r (hG.2.2 x x1 x2).1.1 ⟨s1, s2⟩).2.2 i i1 i2
    exact (p2 _ o.1 (by omega)).mpr (pt_tr hG hz ((p2 x x1 hx).mp q) trivial ⟨s1, s2⟩ ⟨i1, i2⟩)
  have self : tb (B 52 z) z = true := (p2 z hz.1 (by omega)).mpr ((pt_eq hG hz).mpr (Or.inl rfl))
  have e51 : B 51 z = M 14 z := rz.2.1.2.2.2.2
  have sw := x_sweep (g := g) (ad := ad) (sk := sk) (t := B 51 z) hG ⟨by omega, Int.le_refl _⟩ x4 (fun y y1 y2 => hr y y1 y2) p1.1 (by omega) cl
  refine B_X0_coolest_0 (by omega) (by omega) (Nat.zero_le _) (Nat.zero_le _) C Y ⟨_, sw, fun N hN => ?_⟩
  obtain ⟨f, hW⟩ := hN
  refine xc_24 C Y hG hz hh hs (rwX_f (repG_rw (hG.2.2 z hz.1 hz.2).1.1 rz) f) (fun i i1 i2 => ?_) (fun b ch q => ⟨ch, rfl, f, b, q⟩) (M 3 (2 * z + s)).toNat 0 (-16777216) 0 (by omega) (Or.inl ⟨rfl, rfl, rfl⟩)
  have o := ob.2.2 i i1 i2
  rw [← e51]
  exact hW _ (1 - s) o.1 (by omega) (cl z hz.1 hz.2 self hh s i (by omega) (by omega) i1 i2) (by omega) (by omega)
theorem xh_9 {g : Gs} {ad : Nat → Nat} {sk : (Nat → Nat) × (Nat → Nat)} {X : Cx} {PQ : Option Value → Mem → Prop} {PX : String → Mem → Prop} (C : OkB (wC g ad sk) X cX0_hottest RX0 7 4 0 0) (Y : OkR (wC g ad sk) X (some .int) 0 0 PQ PX) {M B : Mem} {n s : Int} {p : Nat} (hX : RepX M B n) (hp : p ≤ 4) (hl : LnO n p (fun c => B 2 c)) (hs : s = 0 ∨ s = 1) (kk : ∀ r N, Cho M p (fun c => B 2 c) s 1 r → (-1 ≤ r ∧ r ≤ 400) → WlK B N → PQ (some (vI r)) N) : ∀ (m c : Nat) (d tt : Int), c + m = p → ((d = -1 ∧ tt = -1 ∧ AllC M (fun c => B 2 c) c) ∨ (HotC M c (fun c => B 2 c) d ∧ tt = M 14 (B 2 d))) → E (wC g ad sk) X 0 0 (B) 9 [(0, .ref (ad 4)), (1, .ref (ad 10)), (2, vI (p)), (3, vI (s)), (4, vI (d)), (5, vI (tt)), (6, vI (c))] [] := by
  have hG := hX.2.2.1
  have h40 := hG.2.1
  have dr : ∀ (c : Nat) (d tt : Int), c ≤ p → ((d = -1 ∧ tt = -1 ∧ AllC M (fun c => B 2 c) c) ∨ (HotC M c (fun c => B 2 c) d ∧ tt = M 14 (B 2 d))) → (-1 ≤ d ∧ d < 4) ∧ -1 ≤ tt ∧ tt ≤ 14000 := fun c d tt hc q => by
    rcases q with ⟨q1, q2, -⟩ | ⟨q1, q2⟩
    · omega
    · have a := q1.1
      have ld : 0 ≤ B 2 d ∧ B 2 d < n := hl d a.1 (by omega)
      have := (tmp_r hG ld).1 q1.2.1
      omega
  intro m
  induction m with
  | zero =>
    intro c d tt hc hd
    have r := dr c d tt (by omega) hd
    have e : c = p := by omega
    subst e
    refine B_X0_hottest_9 (by omega) (by omega) (by omega) (by omega) (by omega) (Nat.zero_le _) (Nat.zero_le _) C Y ⟨fun _ => ⟨fun d1 => ?_, fun d1 => ?_⟩, fun q => absurd q (by omega)⟩
    · rcases hd with ⟨q1, -⟩ | ⟨hd, -⟩
      · exact absurd q1 d1
      · have a := hd.1
        have ld : 0 ≤ B 2 d ∧ B 2 d < n := hl d a.1 (by omega)
        have ob := opS_r (hG.2.2 (B 2 d) ld.1 ld.2).1.1 (s := s) (by omega)
        have o1 := op_1 hG hl hs a hd.2.1
        have o2 : 0 < M 3 (2 * B 2 d + s) := o1.2.2.2
        refine ⟨⟨by omega, by omega, by omega⟩, _, x_coolest hX ld hd.2.1 hs, fun ch N hN => ?_⟩
        obtain ⟨f, b, hc⟩ := hN
        rcases hc with ⟨w, -⟩ | ⟨w1, w2, w3, w4⟩
        · omega
        · refine ⟨by omega, by omega, kk _ N (Or.inr ⟨d, ch, b, ⟨⟨a, hd.2.1, by omega, by show ch < M 3 (2 * B 2 d + s); omega⟩, fun _ => hd⟩, rfl, Or.inr (Or.inl ⟨rfl, w2⟩), fun c' i' w' h1 h2 => ?_, fun c' i' w' h1 h2 h3 => ?_⟩) (by omega) f⟩
          · have ec := hot_uq (h1.2 rfl) hd
            subst ec
            have i2 : i' < M 3 (2 * B 2 c' + s) := h1.1.2.2.2
            have := w3 i' h1.1.2.2.1 i2
            rcases h2 with ⟨q, -⟩ | ⟨-, q⟩ | ⟨q, -⟩ | ⟨q, -⟩
            · omega
            · have q' : w' = coW M (B 2 c') s i' := q
              omega
            · omega
            · omega
          · have ec := hot_uq (h1.2 rfl) hd
            subst ec
            have := w4 i' h1.1.2.2.1 (by omega)
            rcases h2 with ⟨q, -⟩ | ⟨-, q⟩ | ⟨q, -⟩ | ⟨q, -⟩
            · omega
            · have q' : w' = coW M (B 2 c') s i' := q
              omega
            · omega
            · omega
    · rcases hd with ⟨-, -, hA⟩ | ⟨hd, -⟩
      · exact kk (-1) B (Or.inl ⟨hA, rfl⟩) (by omega) (fun _ _ _ => rfl)
      · have := hd.1; omega
  | succ m ih =>
    intro c d tt hc hd
    have r := dr c d tt (by omega) hd
    have lc : 0 ≤ B 2 c ∧ B 2 c < n := hl c (by omega) (by omega)
    have tc := tmp_r hG lc
    have e51 : B 51 (B 2 c) = M 14 (B 2 c) := (hX.2.2.2.1 (B 2 c) lc.1 lc.2).2.1.2.2.2.2
    have c01 := (hG.2.2 (B 2 c) lc.1 lc.2).2.1.2.1.1
    have c6 : M 6 (B 2 c) = 0 ∨ M 6 (B 2 c) ≠ 0 := by omega
    refine B_X0_hottest_9 (by omega) (by omega) (by omega) (by omega) (by omega) (Nat.zero_le _) (Nat.zero_le _) C Y ⟨fun q => absurd q (by omega), fun _ => ?_⟩
    rw [e51]
    refine ⟨⟨by omega, by omega⟩, fun q => ⟨by omega, ih (c + 1) d tt (by omega) ?_⟩, fun q => ⟨by omega, ih (c + 1) c (M 14 (B 2 c)) (by omega) (Or.inr ⟨?_, rfl⟩)⟩⟩
    · rcases hd with ⟨a1, a2, a3⟩ | ⟨a1, a2⟩
      · refine Or.inl ⟨a1, a2, allC_s a3 (fun w => ?_)⟩
        have := tc.1 w; omega
      · refine Or.inr ⟨?_, a2⟩
        rcases c6 with w | w
        · exact hc_less (by show M 14 (B 2 c) ≤ M 14 (B 2 d); omega) a1
        · exact hc_cold w a1
    · have h6 : M 6 (B 2 c) = 0 := by
        rcases c6 with w | w
        · exact w
        · have := tc.2 w; omega
      refine hc_more (l := fun c => B 2 c) h6 (fun x x1 x2 x6 => ?_)
      rcases hd with ⟨a1, a2, a3⟩ | ⟨a1, a2⟩
      · exact absurd x6 (a3 x x1 x2)
      · have w : M 14 (B 2 x) ≤ M 14 (B 2 d) := a1.2.2.1 x x1 x2 x6
        show M 14 (B 2 x) < M 14 (B 2 c)
        omega
theorem x_hottest {g : Gs} {ad : Nat → Nat} {sk : (Nat → Nat) × (Nat → Nat)} {M B : Mem} {n s : Int} {p : Nat} (hX : RepX M B n) (hp : p ≤ 4) (hl : LnO n p (fun c => B 2 c)) (hs : s = 0 ∨ s = 1) : SpI (wC g ad sk) yX0_hottest cX0_hottest 7 (some .int) 4 [.ref (ad 4), .ref (ad 10), vI (p), vI (s)] (B) (fun r P => Cho M p (fun c => B 2 c) s 1 r ∧ (-1 ≤ r ∧ r ≤ 400) ∧ WlK B P) := by
  intro l9 hl9
  refine ct_of hl9 mi_X0_hottest.2.2.2 (Nat.le_of_ble_eq_true rfl) (fun X _ C Y => ?_)
  show E (wC g ad sk) X 0 0 (B) 0 [(0, .ref (ad 4)), (1, .ref (ad 10)), (2, vI (p)), (3, vI (s))] []
  refine e_wf (fun hw => ?_)
  refine B_X0_hottest_0 (by omega) (by omega) (Nat.zero_le _) (Nat.zero_le _) C Y ?_
  exact xh_9 C Y hX hp hl hs (fun r N h1 h2 h3 => ⟨r, rfl, h1, h2, h3⟩) p 0 (-1) (-1) (by omega) (Or.inl ⟨rfl, rfl, fun c c1 c2 => absurd c2 (by omega)⟩)
