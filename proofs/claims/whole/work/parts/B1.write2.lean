/-! ===== the reference: writesGame ===== -/
def remT (M : Mem) (z p : Int) : List Int := if M 1 z = 0 then (if p = 0 then [123] else []) ++ bd (gtx M) M z p else numTx (M 2 z / 128)
theorem remT_0 {M : Mem} {n z : Int} (hG : Good n M) (hz : 0 ≤ z ∧ z < n) : remT M z 0 = gtx M z := by
  rw [gtx_eq hG hz, remT]
  split <;> simp
def Stk (M : Mem) (n : Int) (N : Mem) : Nat → List Int → Prop
  | 0, r => r = []
  | t + 1, r => ∃ r', Stk M n N t r' ∧ (0 ≤ N 59 t ∧ N 59 t < n) ∧ M 5 (N 59 t) + t ≤ 6 ∧ (0 ≤ N 60 t ∧ (M 1 (N 59 t) ≠ 0 → N 60 t = 0) ∧ (M 1 (N 59 t) = 0 → N 60 t ≤ M 3 (2 * N 59 t + 0) + M 3 (2 * N 59 t + 1))) ∧ r = remT M (N 59 t) (N 60 t) ++ r'
theorem Stk.cg {M N P : Mem} {n : Int} : ∀ (t : Nat) (r : List Int), (∀ i, 0 ≤ i → i < (t : Int) → P 59 i = N 59 i ∧ P 60 i = N 60 i) → Stk M n N t r → Stk M n P t r := by
  intro t
  induction t with
  | zero => intro r _ h; exact h
  | succ t ih =>
    intro r e h
    obtain ⟨r', a, b⟩ := h
    have e1 := e t (by omega) (by omega)
    refine ⟨r', ih r' (fun i i1 i2 => e i i1 (by omega)) a, ?_⟩
    rw [e1.1, e1.2]
    exact b
def WgF (M N : Mem) : Prop := ∀ c i, c ≠ 25 → c ≠ 59 → c ≠ 60 → c ≠ 61 → N c i = M c i
theorem out_to {N P : Mem} {t : List Int} (h : OutM N t) (e61 : P 61 0 = N 61 0) (e25 : ∀ i, P 25 i = N 25 i) : OutM P t := ⟨e61.trans h.1, fun i hi h4 => (e25 i).trans (h.2 i hi h4)⟩
theorem wg_21 {g : Gs} {ad : Nat → Nat} {X : Cx} {PQ : Option Value → Mem → Prop} {PX : String → Mem → Prop} (C : OkB (wM g ad) X cX10_writesGame RX10 7 4 0 0) (Y : OkR (wM g ad) X none 0 0 PQ PX) {M : Mem} {n : Int} {T : List Int} (hG : Good n M) (kk : ∀ N, WgF M N → OutM N T → PQ none N) : ∀ (m : Nat) (N : Mem) (t : Nat) (pre rest : List Int), T.length < pre.length + m → WgF M N → OutM N pre → Stk M n N t rest → t ≤ 7 → pre ++ rest = T → E (wM g ad) X 0 0 (N) 21 [(0, .ref (ad 0)), (2, vI ((t : Int) - 1))] [] := by
  have h40 := hG.2.1
  intro m
  induction m with
  | zero =>
    intro N t pre rest hm _ _ _ _ hT
    have : (pre ++ rest).length = T.length := by rw [hT]
    rw [List.length_append] at this
    omega
  | succ m ih =>
    intro N t pre rest hm f ho hs ht hT
    cases t with
    | zero =>
      have : rest = [] := hs
      subst this
      rw [List.append_nil] at hT
      subst hT
      exact B_X10_writesGame_21 (by omega) (Nat.zero_le _) (Nat.zero_le _) C Y ⟨fun _ => kk N f ho, fun c => absurd c (by omega)⟩
    | succ t =>
      obtain ⟨r', s1, s2, s3, s4, s5⟩ := hs
      have e : ((t + 1 : Nat) : Int) - 1 = t := by omega
      rw [e]
      have h61 := ho.1
      refine B_X10_writesGame_21 (by omega) (Nat.zero_le _) (Nat.zero_le _) C Y ⟨fun c => absurd c (by omega), fun _ => ⟨fun c => ?_, fun c => ?_⟩⟩
      · refine kk N f ⟨?_, fun i hi h4 => ?_⟩
        · have : (pre ++ rest).length = T.length := by rw [hT]
          rw [List.length_append] at this
          omega
        · have := ho.2 i (by omega) h4
          rw [this]
          subst hT
          rw [List.getElem_append_left (by omega)]
      · obtain ⟨hD, -⟩ := hG.2.2 (N 59 t) s2.1 s2.2
        have o0 := opS_r hD.1 (s := 0) (by omega)
        have o1 := opS_r hD.1 (s := 1) (by omega)
        have d5 := hD.2.2.1
        have f3 : ∀ i, N 3 i = M 3 i := fun i => f 3 i (by decide) (by decide) (by decide) (by decide)
        have f1 : N 1 (N 59 t) = M 1 (N 59 t) := f 1 _ (by decide) (by decide) (by decide) (by decide)
        have f2 : N 2 (N 59 t) = M 2 (N 59 t) := f 2 _ (by decide) (by decide) (by decide) (by decide)
        have p60 : N 60 t ≤ 8 := by
          by_cases q : M 1 (N 59 t) = 0
          · have := s4.2.2 q; omega
          · have := s4.2.1 q; omega
        rw [f3, f3, f1, f2]
        refine ⟨⟨by omega, by omega, by omega, by omega, by omega, by omega⟩, fun c1 => ?_, fun c1 => ?_⟩
        · have hp := s4.2.2 c1
          have d1 := (hD.2.2.2.2 c1).1
          have rt : rest = ((if N 60 t = 0 then [123] else []) ++ bd (gtx M) M (N 59 t) (N 60 t)) ++ r' := by rw [s5, remT, if_pos c1]
          have up1 : ∀ c i, c ≠ 60 → up N 60 t (N 60 t + 1) c i = N c i := fun c i h => up_c h
          have ho1 : OutM (up N 60 t (N 60 t + 1)) pre := out_to ho (up_c (by decide)) (fun i => up_c (by decide))
          -- a child is pushed
          have A3 : ∀ P pre', OtF (up N 60 t (N 60 t + 1)) P → OutM P pre' → pre.length < pre'.length → N 60 t < M 3 (2 * N 59 t + 0) + M 3 (2 * N 59 t + 1) → pre' ++ ((gtx M (if N 60 t < M 3 (2 * N 59 t + 0) then opt M (N 59 t) 0 (N 60 t) else opt M (N 59 t) 1 (N 60 t - M 3 (2 * N 59 t + 0))) ++ bd (gtx M) M (N 59 t) (N 60 t + 1)) ++ r') = T → E (wM g ad) X 0 0 (P) 169 [(0, .ref (ad 0)), (2, vI (t)), (3, vI (N 59 t)), (4, vI (N 60 t)), (5, vI (M 3 (2 * N 59 t + 0)))] [] := by
            intro P pre' g1 g2 g3 g4 g5
            have fP : ∀ c i, c ≠ 25 → c ≠ 61 → c ≠ 60 → P c i = N c i := fun c i h1 h2 h3 => (g1 c i h1 h2).trans (up1 c i h3)
            have push : ∀ ch, (0 ≤ ch ∧ ch < n) → M 5 ch < M 5 (N 59 t) → pre' ++ ((gtx M ch ++ bd (gtx M) M (N 59 t) (N 60 t + 1)) ++ r') = T → E (wM g ad) X 0 0 ((up (up P 59 (t + 1) ch) 60 (t + 1) 0)) 21 [(0, .ref (ad 0)), (2, vI ((t : Int) + 1))] [] := by
              intro ch c2 c3 c4
              have := ih (up (up P 59 (t + 1) ch) 60 (t + 1) 0) (t + 2) pre' ((gtx M ch ++ bd (gtx M) M (N 59 t) (N 60 t + 1)) ++ r') (by omega) (fun c i h1 h2 h3 h4 => by rw [up_c h3, up_c h2, fP c i h1 h4 h3]; exact f c i h1 h2 h3 h4) (out_to g2 (by rw [up_c (by decide), up_c (by decide)]) (fun i => by rw [up_c (by decide), up_c (by decide)])) ?_ (by omega) c4
              · rw [show ((t + 2 : Nat) : Int) - 1 = (t : Int) + 1 by omega] at this
                exact this
              · have e59 : up (up P 59 ((t : Int) + 1) ch) 60 (t + 1) 0 59 ((t + 1 : Nat) : Int) = ch := by rw [up_c (by decide), show ((t + 1 : Nat) : Int) = (t : Int) + 1 from rfl, up_s]
                have e60 : up (up P 59 ((t : Int) + 1) ch) 60 (t + 1) 0 60 ((t + 1 : Nat) : Int) = 0 := by rw [show ((t + 1 : Nat) : Int) = (t : Int) + 1 from rfl, up_s]
                have q59 : ∀ i, i ≤ (t : Int) → up (up P 59 ((t : Int) + 1) ch) 60 (t + 1) 0 59 i = N 59 i := fun i hi => by rw [up_c (by decide), up_i (by omega)]; exact fP 59 i (by decide) (by decide) (by decide)
                have q60 : ∀ i, i < (t : Int) → up (up P 59 ((t : Int) + 1) ch) 60 (t + 1) 0 60 i = N 60 i := fun i hi => by rw [up_i (by omega), up_c (by decide), g1 60 i (by decide) (by decide), up_i (by omega)]
                have q60t : up (up P 59 ((t : Int) + 1) ch) 60 (t + 1) 0 60 (t : Int) = N 60 t + 1 := by rw [up_i (by omega), up_c (by decide), g1 60 _ (by decide) (by decide), up_s]
                refine ⟨bd (gtx M) M (N 59 t) (N 60 t + 1) ++ r', ⟨r', Stk.cg t r' (fun i i1 i2 => ⟨q59 i (by omega), q60 i i2⟩) s1, ?_⟩, ?_⟩
                · rw [q59 t (Int.le_refl _), q60t]
                  refine ⟨s2, s3, ⟨by omega, fun q => absurd c1 q, fun _ => by omega⟩, ?_⟩
                  rw [remT, if_pos c1, if_neg (by omega), List.nil_append]
                · rw [e59, e60]
                  refine ⟨c2, by omega, ⟨by omega, fun _ => rfl, fun _ => ?_⟩, ?_⟩
                  · have a0 := (opS_r (hG.2.2 ch c2.1 c2.2).1.1 (s := 0) (by omega)).1
                    have a1 := (opS_r (hG.2.2 ch c2.1 c2.2).1.1 (s := 1) (by omega)).1
                    omega
                  · rw [remT_0 hG c2, List.append_assoc]
            refine B_X10_writesGame_169 (by omega) (by omega) (by omega) (by omega) (Nat.zero_le _) (Nat.zero_le _) C Y ⟨by omega, fun q => ⟨⟨by omega, by omega, by omega⟩, ?_⟩, fun q => ⟨⟨by omega, by omega⟩, ?_⟩⟩
            · have oc := o1.2.2 (N 60 t - M 3 (2 * N 59 t + 0)) (by omega) (by omega)
              have e4 : P 4 (8 * N 59 t + 4 * 1 + (N 60 t - M 3 (2 * N 59 t + 0))) = opt M (N 59 t) 1 (N 60 t - M 3 (2 * N 59 t + 0)) := (fP 4 _ (by decide) (by decide) (by decide)).trans (f 4 _ (by decide) (by decide) (by decide) (by decide))
              rw [e4]
              rw [if_neg (by omega)] at g5
              exact push _ ⟨oc.1, by omega⟩ ((hD.2.2.2.2 c1).2.1 1 (by omega) (by omega) _ (by omega) (by omega)) g5
            · have oc := o0.2.2 (N 60 t) s4.1 q
              have e4 : P 4 (8 * N 59 t + 4 * 0 + N 60 t) = opt M (N 59 t) 0 (N 60 t) := (fP 4 _ (by decide) (by decide) (by decide)).trans (f 4 _ (by decide) (by decide) (by decide) (by decide))
              rw [e4]
              rw [if_pos q] at g5
              exact push _ ⟨oc.1, by omega⟩ ((hD.2.2.2.2 c1).2.1 0 (by omega) (by omega) _ s4.1 q) g5
          have A2 : ∀ P pre', OtF (up N 60 t (N 60 t + 1)) P → OutM P pre' → pre.length ≤ pre'.length → (N 60 t = 0 → pre.length < pre'.length) → (N 60 t = M 3 (2 * N 59 t + 0) → pre.length < pre'.length) → pre' ++ (bdN (gtx M) M (N 59 t) (N 60 t) ++ r') = T → E (wM g ad) X 0 0 (P) 132 [(0, .ref (ad 0)), (2, vI (t)), (3, vI (N 59 t)), (4, vI (N 60 t)), (5, vI (M 3 (2 * N 59 t + 0))), (6, vI (M 3 (2 * N 59 t + 0) + M 3 (2 * N 59 t + 1)))] [] := by
            intro P pre' g1 g2 g3 g3a g3b g5
            unfold bdN at g5
            refine B_X10_writesGame_132 (by omega) (by omega) (by omega) (by omega) (by omega) (Nat.zero_le _) (Nat.zero_le _) C Y ⟨fun q => ?_, fun q => ?_⟩
            · rw [if_neg q] at g5
              refine ⟨fun w => ?_, fun w => ⟨fun w2 => ?_, fun w2 => ⟨_, m_writes (by decide) g2, fun P2 h2 => ?_⟩⟩⟩
              · rw [if_neg (by omega : ¬ (0 < N 60 t ∧ N 60 t ≠ M 3 (2 * N 59 t + 0))), List.nil_append] at g5
                exact A3 P pre' g1 g2 (g3a (by omega)) (by omega) g5
              · rw [if_neg (by omega : ¬ (0 < N 60 t ∧ N 60 t ≠ M 3 (2 * N 59 t + 0))), List.nil_append] at g5
                exact A3 P pre' g1 g2 (g3b w2) (by omega) g5
              · rw [if_pos (by omega : 0 < N 60 t ∧ N 60 t ≠ M 3 (2 * N 59 t + 0))] at g5
                refine A3 P2 _ (g1.trans h2.1) h2.2 (by rw [List.length_append, List.length_singleton]; omega) (by omega) ?_
                rw [List.append_assoc] at g5 ⊢
                exact g5
            · rw [if_pos q] at g5
              refine ⟨_, m_writes (by decide) g2, fun P2 h2 => ⟨by omega, ?_⟩⟩
              rw [show (t : Int) + -1 = (t : Int) - 1 by omega]
              have g := g1.trans h2.1
              refine ih P2 t (pre' ++ [125]) r' (by rw [List.length_append, List.length_singleton]; omega) (fun c i k1 k2 k3 k4 => by rw [g c i k1 k4, up1 c i k3]; exact f c i k1 k2 k3 k4) h2.2 (Stk.cg t r' (fun i i1 i2 => ⟨(g 59 i (by decide) (by decide)).trans (up1 59 i (by decide)), (g 60 i (by decide) (by decide)).trans (up_i (by omega))⟩) s1) (by omega) (by rw [List.append_assoc]; exact g5)
          have A1 : ∀ P pre', OtF (up N 60 t (N 60 t + 1)) P → OutM P pre' → pre.length ≤ pre'.length → (N 60 t = 0 → pre.length < pre'.length) → pre' ++ (bd (gtx M) M (N 59 t) (N 60 t) ++ r') = T → E (wM g ad) X 0 0 (P) 119 [(0, .ref (ad 0)), (2, vI (t)), (3, vI (N 59 t)), (4, vI (N 60 t)), (5, vI (M 3 (2 * N 59 t + 0))), (6, vI (M 3 (2 * N 59 t + 0) + M 3 (2 * N 59 t + 1)))] [] := by
            intro P pre' g1 g2 g3 g3a g5
            rw [bd_eq ⟨s4.1, hp⟩] at g5
            refine B_X10_writesGame_119 (by omega) (by omega) (by omega) (by omega) (by omega) (Nat.zero_le _) (Nat.zero_le _) C Y ⟨fun q => ?_, fun q => ⟨_, m_writes (by decide) g2, fun P2 h2 => ?_⟩⟩
            · rw [if_neg q, List.nil_append] at g5
              exact A2 P pre' g1 g2 g3 g3a (fun w => absurd w q) g5
            · rw [if_pos q] at g5
              refine A2 P2 _ (g1.trans h2.1) h2.2 (by rw [List.length_append, List.length_singleton]; omega) (fun _ => by rw [List.length_append, List.length_singleton]; omega) (fun _ => by rw [List.length_append, List.length_singleton]; omega) ?_
              rw [List.append_assoc] at g5 ⊢
              exact g5
          rw [rt] at hT
          refine ⟨fun q => ?_, fun q => ⟨_, m_writes (by decide) ho1, fun P hP => ?_⟩⟩
          · rw [if_neg q, List.nil_append] at hT
            exact A1 _ pre (fun _ _ _ _ => rfl) ho1 (Nat.le_refl _) (fun w => absurd w q) hT
          · rw [if_pos q, List.append_assoc] at hT
            exact A1 P _ hP.1 hP.2 (by rw [List.length_append]; omega) (fun _ => by rw [List.length_append, List.length_singleton]; omega) (by rw [List.append_assoc]; exact hT)
        · obtain ⟨-, -, -, x, x1, x2, x3⟩ := hD.2.2.2.1 c1
          have e6 : Int.tdiv (M 2 (N 59 t)) 128 = x := by rw [x3, Int.mul_tdiv_cancel_left _ (by decide)]
          rw [e6]
          have ho1 : OutM (up N 60 t (N 60 t + 1)) pre := out_to ho (up_c (by decide)) (fun i => up_c (by decide))
          refine ⟨_, m_writesNumber ⟨x1, x2⟩ ho1, fun P hP => ⟨by omega, ?_⟩⟩
          have nl : 1 ≤ (numTx x).length := by have := (num_sh ⟨x1, x2⟩).2.2.2.2.2.2; have := numLn_r x; omega
          rw [show (t : Int) + -1 = (t : Int) - 1 by omega]
          refine ih P t (pre ++ numTx x) r' (by rw [List.length_append]; omega) (fun c i k1 k2 k3 k4 => by rw [hP.1 c i k1 k4, up_c k3]; exact f c i k1 k2 k3 k4) hP.2 (Stk.cg t r' (fun i i1 i2 => ⟨(hP.1 59 i (by decide) (by decide)).trans (up_c (by decide)), (hP.1 60 i (by decide) (by decide)).trans (up_i (by omega))⟩) s1) (by omega) ?_
          rw [s5, remT, if_neg c1, x3, show 128 * x / 128 = x by omega] at hT
          rw [List.append_assoc]; exact hT
theorem m_writesGame {g : Gs} {ad : Nat → Nat} {A M : Mem} {z : Int} (h : Jn A M) (hz : 0 ≤ z ∧ z < M 0 0) : SpV (wM g ad) yX10_writesGame cX10_writesGame 7 none 4 [.ref (ad 0), vI (z)] (M) (fun N => WgF M N ∧ OutM N (gtx M z)) := by
  have hn := h.n
  intro l9 hl9
  refine ct_of hl9 mi_X10_writesGame.2.2.2 (Nat.le_of_ble_eq_true rfl) (fun X _ C Y => ?_)
  show E (wM g ad) X 0 0 (M) 0 [(0, .ref (ad 0)), (1, vI (z))] []
  refine e_wf (fun hw => ?_)
  refine B_X10_writesGame_0 (by omega) (Nat.zero_le _) (Nat.zero_le _) C Y ?_
  have hd := (hn.2.2.2.2.2 z hz.1 hz.2).1
  have := wg_21 C Y hn.2.2.2 (T := gtx M z) (fun N h1 h2 => ⟨rfl, h1, h2⟩) ((gtx M z).length + 1) (up (up (up M 61 0 0) 59 0 z) 60 0 0) 1 [] (gtx M z) (by simp) (fun c i h1 h2 h3 h4 => by rw [up_c h3, up_c h2, up_c h4]) ⟨by rw [up_c (by decide), up_c (by decide), up_s]; rfl, fun i hi => absurd hi (by simp)⟩ ⟨[], rfl, ?_⟩ (by omega) (by simp)
  · exact this
  · have e59 : up (up (up M 61 0 0) 59 0 z) 60 0 0 59 ((0 : Nat) : Int) = z := by rw [up_c (by decide)]; exact up_s _ _ _ _
    have e60 : up (up (up M 61 0 0) 59 0 z) 60 0 0 60 ((0 : Nat) : Int) = 0 := up_s _ _ _ _
    rw [e59, e60]
    have a0 := (opS_r hd.1 (s := 0) (by omega)).1
    have a1 := (opS_r hd.1 (s := 1) (by omega)).1
    have d5 := hd.2.2.1
    have e0 : ((0 : Nat) : Int) = 0 := rfl
    exact ⟨hz, by rw [e0]; omega, ⟨by omega, fun _ => rfl, fun _ => by omega⟩, by rw [remT_0 hn.2.2.2 hz, List.append_nil]⟩
theorem mw_57 {g : Gs} {ad : Nat → Nat} {X : Cx} {PQ : Option Value → Mem → Prop} {PX : String → Mem → Prop} (C : OkB (wM g ad) X cX10_write RX10 4 5 0 0) (Y : OkR (wM g ad) X (some .int) 0 0 PQ PX) {S : Mem} {t : List Int} (hl : (t.length : Int) ≤ 400) (kk : ∀ N : Mem, N 26 0 = (t.length : Int) → (∀ c i, c ≠ 62 → N c i = S c i) → (∀ (i : Nat) (h : i < t.length), N 62 (i : Int) = t[i]) → PQ (some (vI (t.length : Int))) N) (h26 : S 26 0 = (t.length : Int)) (h25 : ∀ (i : Nat) (h : i < t.length), S 25 (i : Int) = t[i]) : ∀ (m j : Nat), j + m = t.length → ∀ N, (∀ c i, c ≠ 62 → N c i = S c i) → (∀ (i : Nat) (h : i < t.length), i < j → N 62 (i : Int) = t[i]) → E (wM g ad) X 0 0 (N) 57 [(0, .ref (ad 0)), (3, vI ((j : Int)))] [] := by
  intro m
  induction m with
  | zero =>
    intro j hj N f h
    have e := f 26 0 (by decide)
    refine B_X10_write_57 (by omega) (Nat.zero_le _) (Nat.zero_le _) C Y ⟨fun c => ?_, fun c => absurd c (by omega)⟩
    rw [e, h26]
    exact kk N (e.trans h26) f (fun i hi => h i hi (by omega))
  | succ m ih =>
    intro j hj N f h
    have e := f 26 0 (by decide)
    refine B_X10_write_57 (by omega) (Nat.zero_le _) (Nat.zero_le _) C Y ⟨fun c => absurd c (by omega), fun c => ⟨by omega, ?_⟩⟩
    refine ih (j + 1) (by omega) _ (fun c i k => by rw [up_c k]; exact f c i k) (fun i hi h2 => ?_)
    by_cases q : i = j
    · subst q; rw [up_s, f 25 _ (by decide)]; exact h25 i hi
    · rw [up_i (by omega)]; exact h i hi (by omega)
theorem m_write {g : Gs} {ad : Nat → Nat} {A M : Mem} {z : Int} (h : Jn A M) (hz : R32 z) : SpI (wM g ad) yX10_write cX10_write 4 (some .int) 5 [.ref (ad 0), vI (z)] (M) (fun r N => WrR M z (N 20 0) r N) := by
  intro l9 hl9
  refine ct_of hl9 mi_X10_write.2.2.2 (Nat.le_of_ble_eq_true rfl) (fun X _ C Y => ?_)
  show E (wM g ad) X 0 0 (M) 0 [(0, .ref (ad 0)), (1, vI (z))] []
  refine e_wf (fun hw => ?_)
  have hn := h.n
  refine B_X10_write_0 (by omega) (Nat.zero_le _) (Nat.zero_le _) C Y ⟨by omega, fun c => ?_, fun c => ⟨_, m_writesGame h c, fun S hS => ?_⟩⟩
  · rw [b2i_0.mpr c]
    refine B_X10_write_15 (by omega) (Nat.zero_le _) (Nat.zero_le _) C Y ⟨fun q => absurd rfl q, fun _ => ?_⟩
    exact B_X10_write_39 (by omega) (Nat.zero_le _) (Nat.zero_le _) C Y ⟨fun q => absurd (by decide) q, fun _ => ⟨_, rfl, Or.inl ⟨c, up_s _ _ _ _, rfl⟩⟩⟩
  · obtain ⟨f, o1, o2⟩ := hS
    rw [b2i_1.mpr c]
    refine B_X10_write_15 (by omega) (Nat.zero_le _) (Nat.zero_le _) C Y ⟨fun _ => ⟨fun c1 => ?_, fun c1 => ?_⟩, fun q => absurd q (by decide)⟩
    · have len : ((gtx M z).length : Int) ≤ 400 := by omega
      have e61 : S 61 0 = (gtx M z).length := by omega
      refine B_X10_write_39 (by omega) (Nat.zero_le _) (Nat.zero_le _) C Y ⟨fun _ => ?_, fun q => absurd q (by decide)⟩
      rw [e61]
      refine mw_57 C Y (t := gtx M z) (S := up (up S 20 0 0) 26 0 ((gtx M z).length : Int)) len (fun N h1 h2 h3 => ⟨_, rfl, Or.inr (Or.inr ⟨c, len, ?_, rfl, h1, h3, fun c i k1 k2 k3 k4 k5 k6 k7 => ?_⟩)⟩) (up_s _ _ _ _) (fun i hi => by rw [up_c (by decide), up_c (by decide)]; exact o2 i hi (by omega)) (gtx M z).length 0 (by omega) _ (fun _ _ _ => rfl) (fun i hi h0 => absurd h0 (by omega))
      · rw [h2 20 0 (by decide), up_c (by decide), up_s]
      · rw [h2 c i k7, up_c k3, up_c k1]; exact f c i k2 k4 k5 k6
    · exact B_X10_write_39 (by omega) (Nat.zero_le _) (Nat.zero_le _) C Y ⟨fun q => absurd (by decide) q, fun _ => ⟨_, rfl, Or.inr (Or.inl ⟨c, by omega, up_s _ _ _ _, fun c i k1 k2 k3 k4 k5 => by rw [up_c k1]; exact f c i k2 k3 k4 k5⟩)⟩⟩
