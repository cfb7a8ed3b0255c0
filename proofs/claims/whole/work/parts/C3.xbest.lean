/-! ===== solve whole; best ===== -/
theorem stV_0 {w d : Int → Int} : ∀ p : Nat, (∀ c, 0 ≤ c → c < (p : Int) → d c = 0) → stV w d p = 0 := by
  intro p
  induction p with
  | zero => intro _; rfl
  | succ p ih =>
    intro h
    rw [stV, ih (fun c c1 c2 => h c c1 (by omega)), h p (by omega) (by omega), Int.zero_mul, Int.add_zero]
theorem x_solve {g : Gs} {ad : Nat → Nat} {sk : (Nat → Nat) × (Nat → Nat)} {A M : Mem} {ma na : Nat} (hb : (2 ≤ ma ∧ 8000 ≤ na) ∨ ad 1000 ≠ 0) (h : Jn A M) (h4 : prN M (fun c => M 17 c) (M 16 0).toNat ≤ 4000) : SpVB (wC g ad sk) yX6_solve cX6_solve 5 none 3 ma na [.ref (ad 3), .ref (ad 19), vI (M 16 0)] A (fun N => SvF A N ∧ Slvd M N) := by
  intro l9 hl9
  refine ct_of hl9 mi_X6_solve.2.2.2 (Nat.le_of_ble_eq_true rfl) (fun X _ C Y => ?_)
  show E (wC g ad sk) X 0 0 (A) 0 [(0, .ref (ad 3)), (1, .ref (ad 19)), (2, vI (M 16 0))] []
  refine e_wf (fun hw => ?_)
  have hn := h.n
  have hG := hn.2.2.2
  have ht := h.2.1
  have ht1 := ht.1
  have h20 := hw.2.2.2.2.2.2
  have hz : LnO (M 0 0) (M 16 0).toNat (fun c => M 17 c) := fun c c1 c2 => ht.2.2.2 c c1 (by omega)
  have pr := prN_40 (M := M) (l := fun c => M 17 c) hG (k := (M 16 0).toNat) (by omega) hz
  have go : ∀ (S : Mem) (kc ks : Nat), kc ≤ ma → ks ≤ na → SvF A S → S 20 0 = 4000 → E (wC g ad sk) X kc ks S 26 [(0, .ref (ad 3)), (1, .ref (ad 19)), (2, vI (M 16 0))] [] := by
    intro S kc ks hkc hks f e20
    refine B_X6_solve_26 (by omega) hkc hks C Y ⟨_, x_rank (h.svf f), fun r N hN => ?_⟩
    obtain ⟨e, f2, hR, h16⟩ := hN
    rw [e]
    refine ⟨by omega, xv_36 C Y h h4 (fun N h1 h2 => ⟨rfl, h1, h2⟩) hkc hks (prN M (fun c => M 17 c) (M 16 0).toNat).toNat 0 (by omega) (by omega) N ?_ hR ?_ (fun _ => ⟨?_, ?_⟩) (fun l hl lt => absurd lt ?_)⟩
    · intro c i hc
      exact (f2 c i (by omega) (by omega) (by omega) (by omega) (by omega)).trans (f c i hc)
    · exact (f2 20 0 (by decide) (by decide) (by decide) (by decide) (by decide)).trans e20
    · intro c c1 c2
      have := (posN_r hG (hz c c1 c2)).1
      have e0 : N 16 c = 0 := h16 c c1 (by omega)
      show 0 ≤ N 16 c ∧ N 16 c < posN M (M 17 c)
      have this : 1 ≤ posN M (M 17 c) := this
      omega
    · exact stV_0 _ (fun c c1 c2 => h16 c c1 (by omega))
    · have := (stV_r _ (rnk_dg hG hz hR hl)).1
      unfold stL
      omega
  rcases h20 with ⟨e, e2⟩ | e
  · have hb2 : 2 ≤ ma ∧ 8000 ≤ na := by
      rcases hb with q | q
      · exact q
      · exact absurd e2 q
    exact B_X6_solve_0 (fun _ => by omega) (fun _ => by omega) C Y ⟨fun q => absurd e q, fun _ a b => go _ (0 + 2) (0 + 8000) (by omega) (by omega) (fun c i hc => slvM_c (by omega)) rfl⟩
  · exact B_X6_solve_0 (fun q => absurd (e.symm.trans q) (by decide)) (fun q => absurd (e.symm.trans q) (by decide)) C Y ⟨fun _ => go A 0 0 (Nat.zero_le _) (Nat.zero_le _) (fun _ _ _ => rfl) e, fun q => absurd (e.symm.trans q) (by decide)⟩
theorem x_small {g : Gs} {ad : Nat → Nat} {sk : (Nat → Nat) × (Nat → Nat)} {A M : Mem} (h : Jn A M) (h4 : prN M (fun c => M 17 c) (M 16 0).toNat ≤ 4000) : Sp (wC g ad sk) yX9_requireSmallTable cX9_requireSmallTable 1 none 3 [.ref (ad 0)] (A) (none) (A) := by
  intro l9 hl9
  refine ct_of hl9 mi_X9_requireSmallTable.2.2.2 (Nat.le_of_ble_eq_true rfl) (fun X _ C Y => ?_)
  show E (wC g ad sk) X 0 0 (A) 0 [(0, .ref (ad 0))] []
  refine e_wf (fun hw => ?_)
  have ht1 := h.2.1.1
  have pr := prN_40 (M := M) (l := fun c => M 17 c) h.n.2.2.2 (k := (M 16 0).toNat) (by omega) (fun c c1 c2 => h.2.1.2.2.2 c c1 (by omega))
  refine B_X9_requireSmallTable_0  (Nat.zero_le _) (Nat.zero_le _) C Y ⟨_, x_sizeN h, fun r N hN => ?_⟩
  obtain ⟨e1, e2⟩ := hN
  rw [e1, e2]
  exact ⟨by omega, fun _ => ⟨rfl, rfl⟩, fun q => absurd q (by omega)⟩
theorem x_smallT {g : Gs} {ad : Nat → Nat} {sk : (Nat → Nat) × (Nat → Nat)} {A M : Mem} (h : Jn A M) (h4 : ¬ prN M (fun c => M 17 c) (M 16 0).toNat ≤ 4000) : Th (wC g ad sk) yX9_requireSmallTable cX9_requireSmallTable 1 none 3 [.ref (ad 0)] (A) ("java/lang/IllegalStateException") := by
  intro l9 hl9
  refine ct_of hl9 mi_X9_requireSmallTable.2.2.2 (Nat.le_of_ble_eq_true rfl) (fun X _ C Y => ?_)
  show E (wC g ad sk) X 0 0 (A) 0 [(0, .ref (ad 0))] []
  refine e_wf (fun hw => ?_)
  have ht1 := h.2.1.1
  have pr := prN_40 (M := M) (l := fun c => M 17 c) h.n.2.2.2 (k := (M 16 0).toNat) (by omega) (fun c c1 c2 => h.2.1.2.2.2 c c1 (by omega))
  refine B_X9_requireSmallTable_0  (Nat.zero_le _) (Nat.zero_le _) C Y ⟨_, x_sizeN h, fun r N hN => ?_⟩
  obtain ⟨e1, e2⟩ := hN
  rw [e1, e2]
  exact ⟨by omega, fun q => absurd q h4, fun _ => ⟨by omega, rfl, rfl⟩⟩
/-! scores, over two memories that hold the same games -/
theorem sumV_mg {M P : Mem} {l : Int → Int} (e : ∀ k i, k ≤ 15 → P k i = M k i) : ∀ p : Nat, sumV P l p = sumV M l p := by
  intro p
  induction p with
  | zero => rfl
  | succ p ih => rw [sumV, sumV, ih, e 13 _ (by decide)]
theorem scR_mg {M P : Mem} {p : Nat} (e : ∀ k i, k ≤ 15 → P k i = M k i) : ∀ (k : Nat) (l : Int → Int) (s v : Int), ScR P p k l s v ↔ ScR M p k l s v := by
  have e6 : ∀ i, P 6 i = M 6 i := fun i => e 6 i (by decide)
  have e3 : ∀ i, P 3 i = M 3 i := fun i => e 3 i (by decide)
  have e4 : ∀ i, P 4 i = M 4 i := fun i => e 4 i (by decide)
  intro k
  induction k with
  | zero => intro l s v; rw [ScR, ScR, sumV_mg e]
  | succ k ih =>
    intro l s v
    rw [ScR, ScR]
    simp only [AllC, Mv, opt, e6, e3, e4, ih, sumV_mg e]
noncomputable def kB (M : Mem) (x : Int) : Int := if x = 0 ∨ x = 1 then (if prN M (fun c => M 17 c) (M 16 0).toNat ≤ 4000 then 0 else 2) else 1
def FrP (M N : Mem) : Prop := ∀ c i, c ≠ 20 → c ≠ 36 → (c < 38 ∨ 43 < c) → N c i = M c i
def BstR (M : Mem) (x : Int) : Int → Int → Mem → Prop := fun k r N => k = kB M x ∧ (k = 0 → Sc M (M 16 0).toNat (fun c => M 17 c) x r) ∧ FrP M N
theorem FrP.jn {A M N : Mem} (h : Jn A M) (f : FrP M N) : Jn A N := h.cgM (fun c i h1 h2 => f c i h2 (by omega) (by omega))
/-- the line of the table stands in N -/
def PlyI (M N : Mem) : Prop := FrP M N ∧ ∀ c, 0 ≤ c → c < M 16 0 → N 38 c = M 17 c
theorem ply_pr {A M N : Mem} (h : Jn A M) (q : PlyI M N) : (∀ k i, k ≤ 15 → N k i = M k i) ∧ Good (M 0 0) N ∧ N 16 0 = M 16 0 ∧ (∀ c, 0 ≤ c → c < N 16 0 → 0 ≤ N 38 c ∧ N 38 c < M 0 0) ∧ prN N (fun c => N 38 c) (N 16 0).toNat = prN M (fun c => M 17 c) (M 16 0).toNat := by
  have hn := h.n
  have ht := h.2.1
  have ht1 := ht.1
  have e15 : ∀ k i, k ≤ 15 → N k i = M k i := fun k i hk => q.1 k i (by omega) (by omega) (by omega)
  have ag : Ag M N (M 0 0) := Ag.of _ (fun k i k1 k2 => q.1 k i (by omega) (by omega) (by omega))
  have e16 : N 16 0 = M 16 0 := q.1 16 0 (by decide) (by decide) (by decide)
  have hl : ∀ c, 0 ≤ c → c < N 16 0 → 0 ≤ N 38 c ∧ N 38 c < M 0 0 := fun c c1 c2 => by rw [q.2 c c1 (by omega)]; exact ht.2.2.2 c c1 (by omega)
  refine ⟨e15, hn.2.2.2.cg ag, e16, hl, ?_⟩
  rw [e16, prN_ag ag hn.2.2.2 _ (fun c c1 c2 => hl c c1 (by omega))]
  exact prN_cg _ (fun c c1 c2 => q.2 c c1 (by omega))
theorem m_best {g : Gs} {ad : Nat → Nat} {A M : Mem} {x : Int} (h : Jn A M) (hx : R32 x) : SpI (wM g ad) yX10_best cX10_best 2 (some .int) 6 [.ref (ad 0), vI (x)] (M) (fun r N => BstR M x (N 20 0) r N) := by
  have hn := h.n
  have ht := h.2.1
  have ht1 := ht.1
  have pr := prN_40 (M := M) (l := fun c => M 17 c) hn.2.2.2 (k := (M 16 0).toNat) (by omega) (fun c c1 c2 => ht.2.2.2 c c1 (by omega))
  intro l9 hl9
  refine ct_of hl9 mi_X10_best.2.2.2 (Nat.le_of_ble_eq_true rfl) (fun X _ C Y => ?_)
  show E (wM g ad) X 0 0 (M) 0 [(0, .ref (ad 0)), (1, vI (x))] []
  refine e_wf (fun hw => ?_)
  refine B_X10_best_0 (by omega) (Nat.zero_le _) (Nat.zero_le _) C Y ⟨_, m_plays ht1, fun P hP => ?_⟩
  obtain ⟨f1, f2⟩ := hP
  have q0 : PlyI M P := ⟨fun c i h1 h2 h3 => f1 c i (by omega), f2⟩
  refine ⟨fun c => ?_, fun c => ?_⟩
  · obtain ⟨p15, pG, p16, pl, pp⟩ := ply_pr h q0
    refine ⟨_, m_sizeNow pG (by omega) pl, fun r N hN => ?_⟩
    obtain ⟨e1, qN, -⟩ := hN
    rw [e1, pp]
    have q1 : PlyI M N := ⟨fun c i h1 h2 h3 => (qN c i (by omega) (by omega) (by omega) (by omega)).trans (q0.1 c i h1 h2 h3), fun c c1 c2 => (qN 38 c (by decide) (by decide) (by decide) (by decide)).trans (q0.2 c c1 c2)⟩
    refine ⟨by omega, fun s4 => ?_, fun s4 => ?_⟩
    · have q2 : PlyI M (up N 20 0 0) := ⟨fun c i h1 h2 h3 => by rw [up_c h1]; exact q1.1 c i h1 h2 h3, fun c c1 c2 => by rw [up_c (by decide)]; exact q1.2 c c1 c2⟩
      obtain ⟨w15, wG, w16, wl, wp⟩ := ply_pr h q2
      refine B_X10_best_33 (by omega) (by omega) (Nat.zero_le _) (Nat.zero_le _) C Y ⟨fun _ => ⟨_, m_laysScores wG (by omega) wl (by omega), fun r2 S hS => ?_⟩, fun w => absurd w (by decide)⟩
      obtain ⟨e3, fS, rS, tS⟩ := hS
      have hz : LnO (M 0 0) (up N 20 0 0 16 0).toNat (fun c => up N 20 0 0 38 c) := fun c c1 c2 => wl c c1 (by omega)
      have tp := stL_top wG hz (rS.rnk (by omega))
      have st := tS _ (inP_z wG hz) (by rw [tp]; omega)
      rw [tp, ← e3] at st
      rw [prN_wt] at wp
      have cg : ∀ s v, Sc (up N 20 0 0) (up N 20 0 0 16 0).toNat (fun c => up N 20 0 0 38 c) s v → Sc M (M 16 0).toNat (fun c => M 17 c) s v := fun s v hv => by
        rw [w16] at hv
        have := (scR_mg w15 24 _ _ _).mp hv
        exact (ScR.cg 24 (fun c => M 17 c) (fun c => up N 20 0 0 38 c) s v (fun c c1 c2 => q2.2 c c1 (by omega))).mp this
      have e20 : S 20 0 = 0 := by rw [fS 20 0 (by decide) (by decide) (by decide) (by decide) (by decide), up_s]
      have hS : Sc M (M 16 0).toNat (fun c => M 17 c) x (S 42 (2 * r2 + x)) := by
        rcases (show x = 0 ∨ x = 1 by omega) with rfl | rfl
        · rw [Int.add_zero]; exact cg _ _ st.1
        · exact cg _ _ st.2
      refine ⟨by omega, ⟨by omega, by omega, by omega⟩, _, rfl, ?_, fun _ => hS, fun c i h1 h2 h3 => ?_⟩
      · rw [e20, kB, if_pos (by omega), if_pos s4]
      · rw [fS c i h2 (by omega) (by omega) (by omega) (by omega)]; exact q2.1 c i h1 h2 h3
    · refine B_X10_best_33 (by omega) (by omega) (Nat.zero_le _) (Nat.zero_le _) C Y ⟨fun w => absurd (by decide) w, fun _ => ⟨_, rfl, ?_, fun w => ?_, fun c i h1 h2 h3 => ?_⟩⟩
      · rw [up_s, kB, if_pos (by omega), if_neg (by omega)]
      · rw [up_s] at w; exact absurd w (by decide)
      · rw [up_c h1]; exact q1.1 c i h1 h2 h3
  · refine B_X10_best_33 (by omega) (by omega) (Nat.zero_le _) (Nat.zero_le _) C Y ⟨fun w => absurd (by decide) w, fun _ => ⟨_, rfl, ?_, fun w => ?_, fun c i h1 h2 h3 => ?_⟩⟩
    · rw [up_s, kB, if_neg (by omega)]
    · rw [up_s] at w; exact absurd w (by decide)
    · rw [up_c h1]; exact q0.1 c i h1 h2 h3
theorem x_best {g : Gs} {ad : Nat → Nat} {sk : (Nat → Nat) × (Nat → Nat)} {A M : Mem} {x : Int} {ma na : Nat} (h : Jn A M) (hx : R32 x) (hb : 1 ≤ ma ∧ 6 ≤ na) (hs : kB M x = 0 → (2 ≤ ma ∧ 8000 ≤ na) ∨ ad 1000 ≠ 0) : SpTB (wC g ad sk) yX9_best cX9_best 2 (some .int) 4 ma na [.ref (ad 0), vI x] A (fun r B => R32 r ∧ Res (BstR M x) 0 r B ∧ B 20 0 = 4000) (fun e B => (e = eIA ∧ Res (BstR M x) 1 0 B) ∨ (e = eIS ∧ Res (BstR M x) 2 0 B)) := by
  intro l9 hl9
  refine ct_of hl9 mi_X9_best.2.2.2 (Nat.le_of_ble_eq_true rfl) (fun X _ C Y => ?_)
  show E (wC g ad sk) X 0 0 (A) 0 [(0, .ref (ad 0)), (1, vI (x))] []
  refine e_wf (fun hw => ?_)
  have hn := h.n
  have ht := h.2.1
  have ht1 := ht.1
  have e11 : A 11 0 = M 16 0 := ht.2.1
  have ep : (((M 16 0).toNat : Nat) : Int) = M 16 0 := by omega
  have hz : LnO (M 0 0) (M 16 0).toNat (fun c => M 17 c) := fun c c1 c2 => ht.2.2.2 c c1 (by omega)
  refine B_X9_best_0 (ma := ma) (na := na) (by omega) (q4 := prN M (fun c => M 17 c) (M 16 0).toNat ≤ 4000) (fun q => x_small h q) (fun q => x_smallT h q) (Nat.zero_le _) (Nat.zero_le _) C Y ⟨fun c => ⟨fun q4 => ?_, fun q4 => ⟨by omega, Or.inr ⟨rfl, ?_⟩⟩⟩, fun c => ⟨by omega, Or.inl ⟨rfl, ?_⟩⟩⟩
  · have k0 : kB M x = 0 := by rw [kB, if_pos c, if_pos q4]
    rw [e11]
    have fin : ∀ N, SvF A N ∧ Slvd M N → ∃ Q9 : Int → Mem → Prop, SpI (wC g ad sk) yX6_scoreOf cX6_scoreOf 6 (some .int) 1 [.ref (ad 3), .ref (ad 19), vI (N 11 0), vI x] N Q9 ∧ ∀ (z10 : Int) (M8 : Mem), Q9 z10 M8 → R32 z10 ∧ (∃ z : Int, some (vI z10) = some (vI z) ∧ R32 z ∧ Res (BstR M x) 0 z M8 ∧ M8 20 0 = 4000) := by
      rintro N ⟨f, hR, h20, hT⟩
      have e10 : ∀ c, 0 ≤ c → c < (((M 16 0).toNat : Nat) : Int) → N 10 c = M 17 c := fun c c1 c2 => (f 10 c (by decide)).trans (ht.2.2.1 c c1 (by omega))
      have hl : InP M (fun c => M 17 c) (M 16 0).toNat (fun c => N (lnC 1) c) := fun c c1 c2 => by
        show Pt M (HotG M) (M 17 c) (N 10 c)
        rw [e10 c c1 c2]; exact inP_z hn.2.2.2 hz c c1 c2
      rw [prN_wt] at hT q4
      have sp := x_scoreOf (g := g) (ad := ad) (sk := sk) (b := 1) (f := x) (Or.inr rfl) hn.2.2.2 (by omega) hz hR hl q4 h20 c hT
      rw [ep] at sp
      rw [f 11 0 (by decide), e11]
      refine ⟨_, sp, fun v P hP => ?_⟩
      obtain ⟨v1, v2⟩ := hP
      have vr := sc_r hn.2.2.2 (by omega) (inP_ln hn.2.2.2 hz hl) c v1
      rw [v2]
      refine ⟨by omega, v, rfl, by omega, ?_, h20⟩
      rintro k' r' N' ⟨w1, w2, w3⟩
      refine ⟨w1.trans k0, fun _ => ?_, w3.jn (h.svf f)⟩
      exact sc_uq 24 _ _ _ _ (w2 (w1.trans k0)) ((ScR.cg 24 _ _ _ _ (fun c c1 c2 => (e10 c c1 c2).symm)).mpr v1)
    exact ⟨⟨by omega, by omega⟩, _, x_solve (hs k0) h q4, fin⟩
  · rintro k' r' N' ⟨w1, w2, w3⟩
    have : kB M x = 2 := by rw [kB, if_pos c, if_neg q4]
    exact ⟨w1.trans this, fun q => absurd q (by decide), w3.jn h⟩
  · rintro k' r' N' ⟨w1, w2, w3⟩
    have : kB M x = 1 := by rw [kB, if_neg c]
    exact ⟨w1.trans this, fun q => absurd q (by decide), w3.jn h⟩
