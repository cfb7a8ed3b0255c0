/-! ===== the class: advice, play ===== -/
theorem Jn.lg {A B M N : Mem} (h : Jn A M) (eA : ∀ c i, (c = 1 ∨ c = 4 ∨ c = 5 ∨ c = 10 ∨ c = 11 ∨ c = 23 ∨ c = 24 ∨ 36 ≤ c) → B c i = A c i) (eM : ∀ c i, (c ≤ 26 ∨ c = 62) → c ≠ 20 → N c i = M c i) (hl : LogJ B N) : Jn B N := by
  have h1 : Jn (fun c i => if c = 0 ∨ c = 3 then A c i else B c i) M := h.cgA (fun c i hc => by
    show (if c = 0 ∨ c = 3 then A c i else B c i) = A c i
    split
    · rfl
    · exact eA c i (by omega))
  have h2 : Jn (fun c i => if c = 0 ∨ c = 3 then A c i else B c i) (fun c i => if c = 27 ∨ c = 28 then M c i else N c i) := h1.cgM (fun c i hc h20 => by
    show (if c = 27 ∨ c = 28 then M c i else N c i) = M c i
    split
    · rfl
    · exact eM c i (by omega) h20)
  obtain ⟨a, b, c, d, f, w, -⟩ := h2
  refine ⟨?_, b, c, d, f, w, hl⟩
  exact (a.cx (Y := B) (fun c i hc => (if_neg (by omega)).symm)).cg (N := N) (Ag.of _ (fun c i c1 c2 => (if_neg (by omega)).symm)) rfl
theorem xy_2 {g : Gs} {ad : Nat → Nat} {sk : (Nat → Nat) × (Nat → Nat)} {X : Cx} {PQ : Option Value → Mem → Prop} {PX : String → Mem → Prop} (C : OkB (wC g ad sk) X cX9_layLine RX9 2 1 0 0) (Y : OkR (wC g ad sk) X none 0 0 PQ PX) {B : Mem} (hp : 0 ≤ B 11 0 ∧ B 11 0 ≤ 4) (kk : ∀ N, (∀ c i, c ≠ 2 → N c i = B c i) → (∀ c, 0 ≤ c → c < B 11 0 → N 2 c = B 10 c) → PQ none N) : ∀ (m : Nat) (j : Int), 0 ≤ j → j + m = B 11 0 → ∀ N, (∀ c i, c ≠ 2 → N c i = B c i) → (∀ c, 0 ≤ c → c < j → N 2 c = B 10 c) → E (wC g ad sk) X 0 0 (N) 2 [(0, .ref (ad 0)), (1, vI (j))] [] := by
  intro m
  induction m with
  | zero =>
    intro j j1 j2 N f h
    have e := f 11 0 (by decide)
    exact B_X9_layLine_2 (by omega) (Nat.zero_le _) (Nat.zero_le _) C Y ⟨fun _ => kk N f (fun c c1 c2 => h c c1 (by omega)), fun q => absurd q (by omega)⟩
  | succ m ih =>
    intro j j1 j2 N f h
    have e := f 11 0 (by decide)
    refine B_X9_layLine_2 (by omega) (Nat.zero_le _) (Nat.zero_le _) C Y ⟨fun q => absurd q (by omega), fun _ => ⟨⟨by omega, by omega⟩, ih (j + 1) (by omega) (by omega) _ (fun c i q => by rw [up_c q]; exact f c i q) (fun c c1 c2 => ?_)⟩⟩
    by_cases q : c = j
    · rw [q, up_s]; exact f 10 j (by decide)
    · rw [up_i q]; exact h c c1 (by omega)
theorem x_layLine {g : Gs} {ad : Nat → Nat} {sk : (Nat → Nat) × (Nat → Nat)} {B : Mem} (hp : 0 ≤ B 11 0 ∧ B 11 0 ≤ 4) : SpV (wC g ad sk) yX9_layLine cX9_layLine 2 none 1 [.ref (ad 0)] (B) (fun N => (∀ c i, c ≠ 2 → N c i = B c i) ∧ ∀ c, 0 ≤ c → c < B 11 0 → N 2 c = B 10 c) := by
  intro l9 hl9
  refine ct_of hl9 mi_X9_layLine.2.2.2 (Nat.le_of_ble_eq_true rfl) (fun X _ C Y => ?_)
  show E (wC g ad sk) X 0 0 (B) 0 [(0, .ref (ad 0))] []
  refine e_wf (fun hw => ?_)
  refine B_X9_layLine_0  (Nat.zero_le _) (Nat.zero_le _) C Y ?_
  exact xy_2 C Y hp (fun N h1 h2 => ⟨rfl, h1, h2⟩) (B 11 0).toNat 0 (by omega) (by omega) B (fun _ _ _ => rfl) (fun c c1 c2 => absurd c2 (by omega))
/-- what layLine leaves of a solved memory -/
theorem lay_ok {S M N : Mem} (h : Jn S M) (f : ∀ c i, c ≠ 2 → N c i = S c i) (e2 : ∀ c, 0 ≤ c → c < S 11 0 → N 2 c = S 10 c) : Jn N M ∧ N 11 0 = M 16 0 ∧ (∀ c, 0 ≤ c → c < (((M 16 0).toNat : Nat) : Int) → N 2 c = M 17 c) ∧ LnO (M 0 0) (M 16 0).toNat (fun c => M 17 c) ∧ LnO (M 0 0) (M 16 0).toNat (fun c => N 2 c) ∧ (Slvd M S → prN M (fun c => M 17 c) (M 16 0).toNat ≤ 4000 → SlS M N (fun c => M 17 c) (M 16 0).toNat) ∧ InP M (fun c => M 17 c) (M 16 0).toNat (fun c => N 2 c) := by
  have ht := h.2.1
  have ht1 := ht.1
  have ht2 := ht.2.1
  have hz : LnO (M 0 0) (M 16 0).toNat (fun c => M 17 c) := fun c c1 c2 => ht.2.2.2 c c1 (by omega)
  have n2 : ∀ c, 0 ≤ c → c < (((M 16 0).toNat : Nat) : Int) → N 2 c = M 17 c := fun c c1 c2 => (e2 c c1 (by omega)).trans (ht.2.2.1 c c1 (by omega))
  refine ⟨h.cgA (fun c i hc => f c i (by omega)), (f 11 0 (by decide)).trans ht2, n2, hz, fun c c1 c2 => ?_, fun q q4 => ?_, fun c c1 c2 => ?_⟩
  · show 0 ≤ N 2 c ∧ N 2 c < M 0 0
    rw [n2 c c1 c2]; exact hz c c1 c2
  · rw [prN_wt] at q4
    obtain ⟨q1, q2, q3⟩ := q
    rw [prN_wt] at q3
    exact SlS.cg (B := S) ⟨q1, q2, q3, q4⟩ (fun c i c1 c2 => f c i (by omega))
  · show Pt M (HotG M) (M 17 c) (N 2 c)
    rw [n2 c c1 c2]; exact inP_z h.n.2.2.2 hz c c1 c2
theorem x_advice {g : Gs} {ad : Nat → Nat} {sk : (Nat → Nat) × (Nat → Nat)} {A M : Mem} {s t : Int} {ma na : Nat} (h : Jn A M) (hs : R32 s) (ht : R32 t) (hb : 1 ≤ ma ∧ 6 ≤ na) (hv : t = 3 → kA M s t = 0 → (2 ≤ ma ∧ 8000 ≤ na) ∨ ad 1000 ≠ 0) : SpTB (wC g ad sk) yX9_advice cX9_advice 3 (some .int) 6 ma na [.ref (ad 0), vI s, vI t] A (fun r B => R32 r ∧ Res (AdvR M s t) 0 r B ∧ (t = 3 → B 20 0 = 4000)) (fun e B => (e = eIA ∧ Res (AdvR M s t) 1 0 B) ∨ (e = eIS ∧ Res (AdvR M s t) 2 0 B)) := by
  intro l9 hl9
  refine ct_of hl9 mi_X9_advice.2.2.2 (Nat.le_of_ble_eq_true rfl) (fun X _ C Y => ?_)
  show E (wC g ad sk) X 0 0 (A) 0 [(0, .ref (ad 0)), (1, vI (s)), (2, vI (t))] []
  refine e_wf (fun hw => ?_)
  have htt := h.2.1
  have ht1 := htt.1
  have e11 : A 11 0 = M 16 0 := htt.2.1
  have ep : (((M 16 0).toNat : Nat) : Int) = M 16 0 := by omega
  have bad : ∀ k, k = kA M s t → (k = 1 ∨ k = 2) → Res (AdvR M s t) k 0 A := by
    rintro k ek hk k' r' N' ⟨w1, w2, w3⟩
    exact ⟨w1.trans ek.symm, fun q => by omega, w3.jn h⟩
  have a38 : ∀ (S : Mem) (kc ks : Nat), kc ≤ ma → ks ≤ na → Jn S M → kA M s t = 0 → (s = 0 ∨ s = 1) → (0 ≤ t ∧ t ≤ 3) → (t = 3 → Slvd M S ∧ prN M (fun c => M 17 c) (M 16 0).toNat ≤ 4000) → E (wC g ad sk) X kc ks S 38 [(0, .ref (ad 0)), (1, vI s), (2, vI t)] [] := by
    intro S kc ks hkc hks hJ k0 s01 t03 h3
    have e11S : S 11 0 = M 16 0 := hJ.2.1.2.1
    refine B_X9_advice_38 (by omega) (by omega) hkc hks C Y ⟨_, x_layLine (by omega), fun N hN => ?_⟩
    obtain ⟨f, e2⟩ := hN
    obtain ⟨jN, n11, n2, hz, hl, hS, hI⟩ := lay_ok hJ f e2
    have sp := x_advise (g := g) (ad := ad) (sk := sk) (z := fun c => M 17 c) jN.1 (by omega) hl s01 t03 (fun q => ⟨hz, hS (h3 q).1 (h3 q).2, hI⟩)
    rw [ep] at sp
    rw [n11]
    refine ⟨_, sp, fun r P hP => ?_⟩
    obtain ⟨h1, h2, h3'⟩ := hP
    refine ⟨by omega, r, rfl, by omega, ?_, fun q => ?_⟩
    · rintro k' r' N' ⟨w1, w2, w3⟩
      refine ⟨w1.trans k0, fun _ => ?_, w3.jn (jN.kW h3')⟩
      exact cho_uq (w2 (w1.trans k0)) (cho_cg n2 h1)
    · rw [h3' 20 0 (by decide), f 20 0 (by decide)]
      exact (h3 q).1.2.1
  refine B_X9_advice_0 (ma := ma) (na := na) (by omega) (by omega) (q4 := prN M (fun c => M 17 c) (M 16 0).toNat ≤ 4000) (fun q => x_small h q) (fun q => x_smallT h q) (Nat.zero_le _) (Nat.zero_le _) C Y ⟨fun c => ⟨fun c1 => ⟨fun c2 => ?_, fun c2 => ⟨fun q4 => ?_, fun q4 => ⟨by omega, Or.inr ⟨rfl, bad 2 ?_ (Or.inr rfl)⟩⟩⟩⟩, fun c1 => ⟨by omega, Or.inl ⟨rfl, bad 1 ?_ (Or.inl rfl)⟩⟩⟩, fun c => ⟨by omega, Or.inl ⟨rfl, bad 1 ?_ (Or.inl rfl)⟩⟩⟩
  · exact a38 A 0 0 (Nat.zero_le _) (Nat.zero_le _) h (by rw [kA, if_pos ⟨c, c1⟩, if_neg (fun w => c2 w.1)]) c c1 (fun w => absurd w c2)
  · have k0 : kA M s t = 0 := by rw [kA, if_pos ⟨c, c1⟩, if_neg (fun w => by have := w.2; omega)]
    rw [e11]
    exact ⟨⟨by omega, by omega⟩, _, x_solve (hv c2 k0) h q4, fun N hN => a38 N (0 + ma) (0 + na) (by omega) (by omega) (h.svf hN.1) k0 c c1 (fun _ => ⟨hN.2, q4⟩)⟩
  · rw [kA, if_pos ⟨c, c1⟩, if_pos ⟨c2, by omega⟩]
  · rw [kA, if_neg (fun w => c1 w.2)]
  · rw [kA, if_neg (fun w => c w.1)]
/-! play -/
def PF (A N : Mem) : Prop := ∀ c i, c ≠ 0 → c ≠ 2 → c ≠ 3 → c ≠ 6 → N c i = A c i
theorem sumD_0 {M : Mem} {n : Int} {p : Nat} {l : Int → Int} (hG : Good n M) (hl : LnO n p l) (h : sumD M l p ≤ 0) : AllC M l p := fun c c1 c2 c6 => by
  have mo := mv_ok hG hl (Or.inl rfl) (op_1 hG hl (Or.inl rfl) ⟨c1, c2⟩ c6)
  have := (sumD_r hG p mo.1).1
  omega
theorem xp_11 {g : Gs} {ad : Nat → Nat} {sk : (Nat → Nat) × (Nat → Nat)} {X : Cx} {PQ : Option Value → Mem → Prop} {PX : String → Mem → Prop} (C : OkB (wC g ad sk) X cX9_playLine RX9 8 6 0 0) (Y : OkR (wC g ad sk) X none 0 0 PQ PX) {A M : Mem} {n : Int} {z l0 : Int → Int} {p : Nat} {f a b : Int} (hX : RepX M A n) (h11 : A 11 0 = (p : Int)) (hp : p ≤ 4) (hf : f = 0 ∨ f = 1) (ha : 0 ≤ a ∧ a ≤ 3) (hb : 0 ≤ b ∧ b ≤ 3) (hz : LnO n p z) (hS : (a = 3 ∨ b = 3) → SlS M A z p) (kk : ∀ N K mv lf, PlO M p a b f l0 K mv lf → AllC M lf p → K ≤ 24 → LnO n p lf → N 0 0 = (K : Int) → (∀ j : Nat, j < K → N 3 (j : Int) = mv j) → (∀ c, 0 ≤ c → c < (p : Int) → N 2 c = lf c) → PF A N → PQ none N) : ∀ (m K : Nat) (mv : Nat → Int) (lf : Int → Int) (N : Mem), K + m = 24 → PlO M p a b f l0 K mv lf → sumD M lf p + K ≤ 24 → LnO n p lf → InP M z p lf → N 0 0 = (K : Int) → (∀ j : Nat, j < K → N 3 (j : Int) = mv j) → (∀ c, 0 ≤ c → c < (p : Int) → N 2 c = lf c) → PF A N → E (wC g ad sk) X 0 0 (N) 11 [(0, .ref (ad 0)), (2, vI (a)), (3, vI (b)), (4, vI (sd f K)), (5, vI (K))] [] := by
  have hG := hX.2.2.1
  have h40 := hG.2.1
  intro m
  induction m with
  | zero =>
    intro K mv lf N hm hO hs hl hI h0 h3 h2 hF
    have sr := sd_r hf K
    exact B_X9_playLine_11 (by omega) (by omega) (by omega) (by omega) (Nat.zero_le _) (Nat.zero_le _) C Y ⟨fun _ => kk N K mv lf hO (sumD_0 hG hl (by omega)) (by omega) hl h0 h3 h2 hF, fun q => absurd q (by omega)⟩
  | succ m ih =>
    intro K mv lf N hm hO hs hl hI h0 h3 h2 hF
    have sr := sd_r hf K
    have n11 : N 11 0 = (p : Int) := (hF 11 0 (by decide) (by decide) (by decide) (by decide)).trans h11
    have hXN : RepX M N n := hX.cx (fun c i hc => hF c i (by omega) (by omega) (by omega) (by omega))
    have X45 : ∀ t, t = sta a b (sd f K) → E (wC g ad sk) X 0 0 (N) 45 [(0, .ref (ad 0)), (2, vI (a)), (3, vI (b)), (4, vI (sd f K)), (5, vI (K))] [vI (t), vI (sd f K), vI (N 11 0), .ref (ad 10), .ref (ad 4)] := by
      intro t et
      have tr := sta_r (s := sd f K) ha hb
      rw [← et] at tr
      rw [n11]
      have hlN : LnO n p (fun c => N 2 c) := fun c c1 c2 => by
        show 0 ≤ N 2 c ∧ N 2 c < n
        rw [h2 c c1 c2]; exact hl c c1 c2
      have t3 : t = 3 → a = 3 ∨ b = 3 := fun q => by rw [et] at q; unfold sta at q; split at q <;> omega
      refine B_X9_playLine_45 (by omega) (by omega) (by omega) (by omega) (by omega) (by omega) (by omega) (Nat.zero_le _) (Nat.zero_le _) C Y ⟨_, x_advise (z := z) hXN hp hlN sr tr (fun q => ⟨hz, (hS (t3 q)).cg (fun c i c1 c2 => hF c i (by omega) (by omega) (by omega) (by omega)), fun c c1 c2 => by show Pt M (HotG M) (z c) (N 2 c); rw [h2 c c1 c2]; exact hI c c1 c2⟩), fun r P hP => ?_⟩
      obtain ⟨g1, g2, g3⟩ := hP
      have hC := cho_cg h2 g1
      have hFP : PF A P := fun c i q0 q2 q3 q6 => (g3 c i q6).trans (hF c i q0 q2 q3 q6)
      have p2 : ∀ c, 0 ≤ c → c < (p : Int) → P 2 c = lf c := fun c c1 c2 => (g3 2 c (by decide)).trans (h2 c c1 c2)
      have p0 : P 0 0 = (K : Int) := (g3 0 0 (by decide)).trans h0
      have p3 : ∀ j : Nat, j < K → P 3 (j : Int) = mv j := fun j hj => (g3 3 _ (by decide)).trans (h3 j hj)
      refine ⟨by omega, fun rn => ?_, fun r1 => ?_⟩
      · rw [et] at hC
        obtain ⟨r0, hm2⟩ := cho_mv hG hl sr hC rn
        have mo := mvL_ok hG hl sr hm2
        have d1 := hm2.1
        have i1 := hm2.2.2
        have ld := hl _ d1.1 d1.2
        have hD := hG.2.2 _ ld.1 ld.2
        have ob := opS_r hD.1.1 (s := sd f K) (by omega)
        have hXP : RepX M P n := hX.cx (fun c i hc => hFP c i (by omega) (by omega) (by omega) (by omega))
        have rg := hXP.2.2.2.1 _ ld.1 ld.2
        have c41 := (rg.2.2.1 (sd f K) (by omega) (by omega)).1
        have eo := rw_opt (repG_rw hD.1.1 rg) (s := sd f K) (i := r % 100) (by omega) (by omega)
        have sD2 := (sumD_r hG p mo.1).1
        have t1 : Int.tdiv r 100 = r / 100 := Int.tdiv_eq_ediv_of_nonneg r0
        have t2 : Int.tmod r 100 = r % 100 := Int.tmod_eq_emod_of_nonneg r0
        rw [t1, t2, p2 _ d1.1 d1.2, eo]
        refine ⟨⟨by omega, by omega, by omega, by omega, by omega, by omega⟩, ?_⟩
        refine ih (K + 1) _ (mvL M lf (sd f K) r) _ (by omega) (plo_s hO hC rn) (by omega) mo.1 (inP_mv hG hz hI sr hm2) ?_ (fun j hj => ?_) (fun c c1 c2 => ?_) (fun c i q0 q2 q3 q6 => ?_)
        · rw [up_s]; omega
        · rw [up_c (by decide)]
          by_cases e : j < K
          · rw [if_pos e, up_i (by omega), up_c (by decide)]; exact p3 j e
          · rw [if_neg e, show (j : Int) = (K : Int) by omega, up_s]
        · rw [up_c (by decide), up_c (by decide)]
          unfold mvL updL
          split
          · rename_i e; rw [e, up_s]
          · rename_i e; rw [up_i e]; exact p2 c c1 c2
        · rw [up_c q0, up_c q3, up_c q2]; exact hFP c i q0 q2 q3 q6
      · refine kk P K mv lf hO ?_ (by omega) hl p0 p3 p2 hFP
        rcases hC with ⟨w, -⟩ | ⟨d, j, w, a9, b9, -⟩
        · exact w
        · have := a9.1.1; have := a9.1.2.2; omega
    refine B_X9_playLine_11 (by omega) (by omega) (by omega) (by omega) (Nat.zero_le _) (Nat.zero_le _) C Y ⟨fun q => absurd q (by omega), fun _ => ⟨fun q1 => X45 b ?_, fun q1 => X45 a ?_⟩⟩
    · unfold sta; rw [if_neg q1]
    · unfold sta; rw [if_pos q1]
