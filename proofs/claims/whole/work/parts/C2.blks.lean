/-! ===== blocks of best, advice, play ===== -/
/-- as SpV and SpT, with a budget of their own -/
def SpVB (w : Wd) (y : MethodName) (cc : ByteArray) (nL : Nat) (ret : Option FieldType) (d ma na : Nat) (av : List Value) (M : Mem) (Q : Mem → Prop) : Prop := ∀ l : Launch, l.stackTraces = false → Ct w l y cc nL ret d ma na av M (fun v M1 => v = none ∧ Q M1) NoX
def SpTB (w : Wd) (y : MethodName) (cc : ByteArray) (nL : Nat) (ret : Option FieldType) (d ma na : Nat) (av : List Value) (M : Mem) (Q : Int → Mem → Prop) (R : String → Mem → Prop) : Prop := ∀ l : Launch, l.stackTraces = false → Ct w l y cc nL ret d ma na av M (fun v M1 => ∃ z : Int, v = some (vI z) ∧ Q z M1) R
section CALLVA
variable {w : Wd} {X : Cx} {cc cc' : ByteArray} {own : String} {nL d mc ms nL' d' : Nat} {k n : Nat} {M : Mem} {pc : Nat} {lv lv' : List (Nat × Value)} {st As rest av : List Value} {PQ : Option Value → Mem → Prop} {PX : String → Mem → Prop} {y : MethodName} {ret ret' : Option FieldType} {ix : Nat} {b q0 ci N : Nat} {Cn : String} {T : u_T} {fs : List Value}
theorem e_callVA {Q : Mem → Prop} {ma na : Nat} (C : OkB w X cc own nL d mc ms) (Y : OkR w X ret mc ms PQ PX) (I : MI y cc' nL' ret' As.length) (hin : Cond.instanceMethod y ∈ gT) (hse : Cond.selects Cn y y ∈ gT) (hlk : Cond.methodLink own ix y ∈ gT)
    (hC : SpVB w y cc' nL' ret' d' ma na (.ref b :: As) M Q) (he : (w.2.2.1 M)[q0]? = some (b, .inr (ci, fs))) (hc : vwCl[ci]? = some (Cn, T, N)) (hdd : d' < d) (hr8 : (rest.map fun v => v.category).sum ≤ 8) (hk : k + ma ≤ mc) (hn : n + na ≤ ms)
    (hd : decode cc pc = .ok (.invokevirtual ix, 3)) (hs0 : st = As.reverse ++ .ref b :: rest) (kret : ∀ M2, Q M2 → E w X (k + ma) (n + na) M2 (pc + 3) lv rest) : E w X k n M pc lv st := by
  refine e_callV C Y I hin hse hlk (hC (lnc X) ?_) he hc hdd hr8 hk hn hd hs0 (fun v M1 h => ?_) (fun _ _ h => absurd h id)
  · obtain ⟨p, l, e, R, s, m, args, below, meth, c, A, Q, nL9⟩ := X
    exact Y.2.2
  · obtain ⟨rfl, h⟩ := h
    exact kret M1 h
end CALLVA
set_option maxRecDepth 4000 in
theorem B_X9_best_0 {g : Gs} {ad : Nat → Nat} {sk : (Nat → Nat) × (Nat → Nat)} {X : Cx} {mc ms k n ma na : Nat} {PQ : Option Value → Mem → Prop} {PX : String → Mem → Prop} {M : Mem} {x1 : Int} (r1 : R32 x1) {q4 : Prop} (hS4 : q4 → Sp (wC g ad sk) yX9_requireSmallTable cX9_requireSmallTable 1 none 3 [.ref (ad 0)] M none M) (hT4 : ¬ q4 → Th (wC g ad sk) yX9_requireSmallTable cX9_requireSmallTable 1 none 3 [.ref (ad 0)] M "java/lang/IllegalStateException") (hk : k ≤ mc) (hn : n ≤ ms) (C : OkB (wC g ad sk) X cX9_best RX9 2 4 mc ms) (Y : OkR (wC g ad sk) X (some .int) mc ms PQ PX) (H : (((x1 = 0 ∨ x1 = 1) → (((q4) → (k + ma ≤ mc ∧ n + na ≤ ms) ∧ ∃ Q5 : Mem → Prop, SpVB (wC g ad sk) yX6_solve cX6_solve 5 none 3 ma na [.ref (ad 3), .ref (ad 19), vI (M 11 0)] M Q5 ∧ ∀ M4 : Mem, Q5 M4 → ∃ Q9 : Int → Mem → Prop, SpI (wC g ad sk) yX6_scoreOf cX6_scoreOf 6 (some .int) 1 [.ref (ad 3), .ref (ad 19), vI (M4 11 0), vI x1] M4 Q9 ∧ ∀ (z10 : Int) (M8 : Mem), Q9 z10 M8 → R32 z10 ∧ PQ (some (vI z10)) M8) ∧ (¬(q4) → (k + 1 ≤ mc ∧ n + 6 ≤ ms) ∧ PX "java/lang/IllegalStateException" M))) ∧ (¬(x1 = 0 ∨ x1 = 1) → (k + 1 ≤ mc ∧ n + 6 ≤ ms) ∧ PX "java/lang/IllegalArgumentException" M))) : E (wC g ad sk) X k n M 0 [(0, .ref (ad 0)), (1, vI x1)] [] := by
  refine e_wf (fun hw0 => ?_)
  refine e_iload_n C 1 dX9_best_0 rfl ?_
  by_cases c1 : x1 = 0 ∨ x1 = 1
  case neg =>
    replace H := H.2 c1
    exact e_callST (As := [vI x1]) (rest := []) C Y mi_X9_requireSide ms_X9_requireSide ml_X9_122 (t_X9_requireSide r1 c1) (by decide) (Nat.le_of_ble_eq_true rfl) H.1.1 H.1.2 dX9_best_1 rfl H.2
  replace H := H.1 c1
  refine e_callSD (As := [vI x1]) (rest := []) C Y mi_X9_requireSide ms_X9_requireSide ml_X9_122 (s_X9_requireSide r1 c1) (by decide) (Nat.le_of_ble_eq_true rfl) hk hn dX9_best_1 rfl ?_
  refine e_aload_n C 0 dX9_best_4 rfl ?_
  by_cases c2 : q4
  case neg =>
    replace H := H.2 c2
    exact e_callVT (As := []) (rest := []) (q0 := 0) (ci := 9) C Y mi_X9_requireSmallTable ms_X9_requireSmallTable mv_X9_requireSmallTable ml_X9_209 (hT4 c2) (wlX_st rfl) rfl (by decide) (Nat.le_of_ble_eq_true rfl) H.1.1 H.1.2 dX9_best_5 rfl H.2
  replace H := H.1 c2
  refine e_callVD (As := []) (rest := []) (q0 := 0) (ci := 9) C Y mi_X9_requireSmallTable ms_X9_requireSmallTable mv_X9_requireSmallTable ml_X9_209 (hS4 c2) (wlX_st rfl) rfl (by decide) (Nat.le_of_ble_eq_true rfl) hk hn dX9_best_5 rfl ?_
  refine e_aload_n C 0 dX9_best_8 rfl ?_
  refine gX_9_28 C dX9_best_9 ?_
  refine e_aload_n C 0 dX9_best_12 rfl ?_
  refine gX_9_19 C dX9_best_13 ?_
  refine gX_9_199 C dX9_best_16 ?_
  refine e_aload_n C 0 dX9_best_19 rfl ?_
  refine gX_9_19 C dX9_best_20 ?_
  refine gX_9_190 C dX9_best_23 ?_
  obtain ⟨hk9, Q5, h3, H⟩ := H
  refine e_callVA (As := [.ref (ad 19), vI (M 11 0)]) (rest := []) (q0 := 3) (ci := 6) C Y mi_X6_solve ms_X6_solve mv_X6_solve ml_X9_212 h3 (wlX_st rfl) rfl (by decide) (Nat.le_of_ble_eq_true rfl) hk9.1 hk9.2 dX9_best_26 rfl (fun M4 hq9 => ?_)
  replace H := H M4 hq9
  refine e_wf (fun hw6 => ?_)
  refine e_aload_n C 0 dX9_best_29 rfl ?_
  refine gX_9_28 C dX9_best_30 ?_
  refine e_aload_n C 0 dX9_best_33 rfl ?_
  refine gX_9_19 C dX9_best_34 ?_
  refine gX_9_199 C dX9_best_37 ?_
  refine e_aload_n C 0 dX9_best_40 rfl ?_
  refine gX_9_19 C dX9_best_41 ?_
  refine gX_9_190 C dX9_best_44 ?_
  refine e_iload_n C 1 dX9_best_47 rfl ?_
  obtain ⟨Q9, h7, H⟩ := H
  refine e_callVI (As := [.ref (ad 19), vI (M4 11 0), vI x1]) (rest := []) (q0 := 3) (ci := 6) C Y mi_X6_scoreOf ms_X6_scoreOf mv_X6_scoreOf ml_X9_216 h7 (wlX_st rfl) rfl (by decide) (Nat.le_of_ble_eq_true rfl) hk9.1 hk9.2 dX9_best_48 rfl (fun z10 M8 hq9 => ?_)
  obtain ⟨o11, H⟩ := H z10 M8 hq9
  refine e_wf (fun hw12 => ?_)
  exact e_iret C Y hk9.1 hk9.2 dX9_best_51 H
set_option maxRecDepth 4000 in
theorem B_X9_advice_0 {g : Gs} {ad : Nat → Nat} {sk : (Nat → Nat) × (Nat → Nat)} {X : Cx} {mc ms k n ma na : Nat} {PQ : Option Value → Mem → Prop} {PX : String → Mem → Prop} {M : Mem} {x1 x2 : Int} (r1 : R32 x1) (r2 : R32 x2) {q4 : Prop} (hS4 : q4 → Sp (wC g ad sk) yX9_requireSmallTable cX9_requireSmallTable 1 none 3 [.ref (ad 0)] M none M) (hT4 : ¬ q4 → Th (wC g ad sk) yX9_requireSmallTable cX9_requireSmallTable 1 none 3 [.ref (ad 0)] M "java/lang/IllegalStateException") (hk : k ≤ mc) (hn : n ≤ ms) (C : OkB (wC g ad sk) X cX9_advice RX9 3 6 mc ms) (Y : OkR (wC g ad sk) X (some .int) mc ms PQ PX) (H : (((x1 = 0 ∨ x1 = 1) → (((0 ≤ x2 ∧ x2 ≤ 3) → (((x2 ≠ 3) → E (wC g ad sk) X k n M 38 [(0, .ref (ad 0)), (1, vI x1), (2, vI x2)] []) ∧ ((x2 = 3) → (((q4) → (k + ma ≤ mc ∧ n + na ≤ ms) ∧ ∃ Q6 : Mem → Prop, SpVB (wC g ad sk) yX6_solve cX6_solve 5 none 3 ma na [.ref (ad 3), .ref (ad 19), vI (M 11 0)] M Q6 ∧ ∀ M5 : Mem, Q6 M5 → E (wC g ad sk) X (k + ma) (n + na) M5 38 [(0, .ref (ad 0)), (1, vI x1), (2, vI x2)] []) ∧ (¬(q4) → (k + 1 ≤ mc ∧ n + 6 ≤ ms) ∧ PX "java/lang/IllegalStateException" M))))) ∧ (¬(0 ≤ x2 ∧ x2 ≤ 3) → (k + 1 ≤ mc ∧ n + 6 ≤ ms) ∧ PX "java/lang/IllegalArgumentException" M))) ∧ (¬(x1 = 0 ∨ x1 = 1) → (k + 1 ≤ mc ∧ n + 6 ≤ ms) ∧ PX "java/lang/IllegalArgumentException" M))) : E (wC g ad sk) X k n M 0 [(0, .ref (ad 0)), (1, vI x1), (2, vI x2)] [] := by
  refine e_wf (fun hw0 => ?_)
  refine e_iload_n C 1 dX9_advice_0 rfl ?_
  by_cases c1 : x1 = 0 ∨ x1 = 1
  case neg =>
    replace H := H.2 c1
    exact e_callST (As := [vI x1]) (rest := []) C Y mi_X9_requireSide ms_X9_requireSide ml_X9_122 (t_X9_requireSide r1 c1) (by decide) (Nat.le_of_ble_eq_true rfl) H.1.1 H.1.2 dX9_advice_1 rfl H.2
  replace H := H.1 c1
  refine e_callSD (As := [vI x1]) (rest := []) C Y mi_X9_requireSide ms_X9_requireSide ml_X9_122 (s_X9_requireSide r1 c1) (by decide) (Nat.le_of_ble_eq_true rfl) hk hn dX9_advice_1 rfl ?_
  refine e_iload_n C 2 dX9_advice_4 rfl ?_
  by_cases c2 : 0 ≤ x2 ∧ x2 ≤ 3
  case neg =>
    replace H := H.2 c2
    exact e_callST (As := [vI x2]) (rest := []) C Y mi_X9_requireStrategy ms_X9_requireStrategy ml_X9_220 (t_X9_requireStrategy r2 c2) (by decide) (Nat.le_of_ble_eq_true rfl) H.1.1 H.1.2 dX9_advice_5 rfl H.2
  replace H := H.1 c2
  refine e_callSD (As := [vI x2]) (rest := []) C Y mi_X9_requireStrategy ms_X9_requireStrategy ml_X9_220 (s_X9_requireStrategy r2 c2) (by decide) (Nat.le_of_ble_eq_true rfl) hk hn dX9_advice_5 rfl ?_
  refine e_iload_n C 2 dX9_advice_8 rfl ?_
  refine e_iconst C dX9_advice_9 ?_
  refine e_icmp_ne C 38 r2 (by decide) dX9_advice_10 (by decide) (fun c9 => ?_) (fun c9 => ?_)
  · replace H := H.1 c9
    exact e_sub [0, 1, 2] rfl H
  · replace H := H.2 c9
    refine e_aload_n C 0 dX9_advice_13 rfl ?_
    by_cases c3 : q4
    case neg =>
      replace H := H.2 c3
      exact e_callVT (As := []) (rest := []) (q0 := 0) (ci := 9) C Y mi_X9_requireSmallTable ms_X9_requireSmallTable mv_X9_requireSmallTable ml_X9_209 (hT4 c3) (wlX_st rfl) rfl (by decide) (Nat.le_of_ble_eq_true rfl) H.1.1 H.1.2 dX9_advice_14 rfl H.2
    replace H := H.1 c3
    refine e_callVD (As := []) (rest := []) (q0 := 0) (ci := 9) C Y mi_X9_requireSmallTable ms_X9_requireSmallTable mv_X9_requireSmallTable ml_X9_209 (hS4 c3) (wlX_st rfl) rfl (by decide) (Nat.le_of_ble_eq_true rfl) hk hn dX9_advice_14 rfl ?_
    refine e_aload_n C 0 dX9_advice_17 rfl ?_
    refine gX_9_28 C dX9_advice_18 ?_
    refine e_aload_n C 0 dX9_advice_21 rfl ?_
    refine gX_9_19 C dX9_advice_22 ?_
    refine gX_9_199 C dX9_advice_25 ?_
    refine e_aload_n C 0 dX9_advice_28 rfl ?_
    refine gX_9_19 C dX9_advice_29 ?_
    refine gX_9_190 C dX9_advice_32 ?_
    obtain ⟨hk9, Q6, h4, H⟩ := H
    refine e_callVA (As := [.ref (ad 19), vI (M 11 0)]) (rest := []) (q0 := 3) (ci := 6) C Y mi_X6_solve ms_X6_solve mv_X6_solve ml_X9_212 h4 (wlX_st rfl) rfl (by decide) (Nat.le_of_ble_eq_true rfl) hk9.1 hk9.2 dX9_advice_35 rfl (fun M5 hq9 => ?_)
    replace H := H M5 hq9
    refine e_wf (fun hw7 => ?_)
    exact e_sub [0, 1, 2] rfl H
set_option maxRecDepth 4000 in
theorem B_X9_advice_38 {g : Gs} {ad : Nat → Nat} {sk : (Nat → Nat) × (Nat → Nat)} {X : Cx} {mc ms k n : Nat} {PQ : Option Value → Mem → Prop} {PX : String → Mem → Prop} {M : Mem} {x1 x2 : Int} (r1 : R32 x1) (r2 : R32 x2) (hk : k ≤ mc) (hn : n ≤ ms) (C : OkB (wC g ad sk) X cX9_advice RX9 3 6 mc ms) (Y : OkR (wC g ad sk) X (some .int) mc ms PQ PX) (H : ∃ Q3 : Mem → Prop, SpV (wC g ad sk) yX9_layLine cX9_layLine 2 none 1 [.ref (ad 0)] M Q3 ∧ ∀ M2 : Mem, Q3 M2 → ∃ Q7 : Int → Mem → Prop, SpI (wC g ad sk) yX0_advise cX0_advise 5 (some .int) 5 [.ref (ad 4), .ref (ad 10), vI (M2 11 0), vI x1, vI x2] M2 Q7 ∧ ∀ (z8 : Int) (M6 : Mem), Q7 z8 M6 → R32 z8 ∧ PQ (some (vI z8)) M6) : E (wC g ad sk) X k n M 38 [(0, .ref (ad 0)), (1, vI x1), (2, vI x2)] [] := by
  refine e_wf (fun hw0 => ?_)
  refine e_aload_n C 0 dX9_advice_38 rfl ?_
  obtain ⟨Q3, h1, H⟩ := H
  refine e_callVV (As := []) (rest := []) (q0 := 0) (ci := 9) C Y mi_X9_layLine ms_X9_layLine mv_X9_layLine ml_X9_223 h1 (wlX_st rfl) rfl (by decide) (Nat.le_of_ble_eq_true rfl) hk hn dX9_advice_39 rfl (fun M2 hq9 => ?_)
  replace H := H M2 hq9
  refine e_wf (fun hw4 => ?_)
  refine e_aload_n C 0 dX9_advice_42 rfl ?_
  refine gX_9_37 C dX9_advice_43 ?_
  refine e_aload_n C 0 dX9_advice_46 rfl ?_
  refine gX_9_73 C dX9_advice_47 ?_
  refine e_aload_n C 0 dX9_advice_50 rfl ?_
  refine gX_9_19 C dX9_advice_51 ?_
  refine gX_9_190 C dX9_advice_54 ?_
  refine e_iload_n C 1 dX9_advice_57 rfl ?_
  refine e_iload_n C 2 dX9_advice_58 rfl ?_
  obtain ⟨Q7, h5, H⟩ := H
  refine e_callVI (As := [.ref (ad 10), vI (M2 11 0), vI x1, vI x2]) (rest := []) (q0 := 4) (ci := 0) C Y mi_X0_advise ms_X0_advise mv_X0_advise ml_X9_226 h5 (wlX_st rfl) rfl (by decide) (Nat.le_of_ble_eq_true rfl) hk hn dX9_advice_59 rfl (fun z8 M6 hq9 => ?_)
  obtain ⟨o9, H⟩ := H z8 M6 hq9
  refine e_wf (fun hw10 => ?_)
  exact e_iret C Y hk hn dX9_advice_62 H
set_option maxRecDepth 4000 in
theorem B_X9_play_0 {g : Gs} {ad : Nat → Nat} {sk : (Nat → Nat) × (Nat → Nat)} {X : Cx} {mc ms k n : Nat} {PQ : Option Value → Mem → Prop} {PX : String → Mem → Prop} {M : Mem} {x1 x2 x3 : Int} (r1 : R32 x1) (r2 : R32 x2) (r3 : R32 x3) (hk : k ≤ mc) (hn : n ≤ ms) (C : OkB (wC g ad sk) X cX9_play RX9 4 7 mc ms) (Y : OkR (wC g ad sk) X (some .int) mc ms PQ PX) (H : (((x1 = 0 ∨ x1 = 1) → (((0 ≤ x2 ∧ x2 ≤ 3) → (((0 ≤ x3 ∧ x3 ≤ 3) → (((x2 = 3) → E (wC g ad sk) X k n M 22 [(0, .ref (ad 0)), (1, vI x1), (2, vI x2), (3, vI x3)] []) ∧ ((x2 ≠ 3) → (((x3 ≠ 3) → E (wC g ad sk) X k n M 47 [(0, .ref (ad 0)), (1, vI x1), (2, vI x2), (3, vI x3)] []) ∧ ((x3 = 3) → E (wC g ad sk) X k n M 22 [(0, .ref (ad 0)), (1, vI x1), (2, vI x2), (3, vI x3)] []))))) ∧ (¬(0 ≤ x3 ∧ x3 ≤ 3) → (k + 1 ≤ mc ∧ n + 6 ≤ ms) ∧ PX "java/lang/IllegalArgumentException" M))) ∧ (¬(0 ≤ x2 ∧ x2 ≤ 3) → (k + 1 ≤ mc ∧ n + 6 ≤ ms) ∧ PX "java/lang/IllegalArgumentException" M))) ∧ (¬(x1 = 0 ∨ x1 = 1) → (k + 1 ≤ mc ∧ n + 6 ≤ ms) ∧ PX "java/lang/IllegalArgumentException" M))) : E (wC g ad sk) X k n M 0 [(0, .ref (ad 0)), (1, vI x1), (2, vI x2), (3, vI x3)] [] := by
  refine e_wf (fun hw0 => ?_)
  refine e_iload_n C 1 dX9_play_0 rfl ?_
  by_cases c1 : x1 = 0 ∨ x1 = 1
  case neg =>
    replace H := H.2 c1
    exact e_callST (As := [vI x1]) (rest := []) C Y mi_X9_requireSide ms_X9_requireSide ml_X9_122 (t_X9_requireSide r1 c1) (by decide) (Nat.le_of_ble_eq_true rfl) H.1.1 H.1.2 dX9_play_1 rfl H.2
  replace H := H.1 c1
  refine e_callSD (As := [vI x1]) (rest := []) C Y mi_X9_requireSide ms_X9_requireSide ml_X9_122 (s_X9_requireSide r1 c1) (by decide) (Nat.le_of_ble_eq_true rfl) hk hn dX9_play_1 rfl ?_
  refine e_iload_n C 2 dX9_play_4 rfl ?_
  by_cases c2 : 0 ≤ x2 ∧ x2 ≤ 3
  case neg =>
    replace H := H.2 c2
    exact e_callST (As := [vI x2]) (rest := []) C Y mi_X9_requireStrategy ms_X9_requireStrategy ml_X9_220 (t_X9_requireStrategy r2 c2) (by decide) (Nat.le_of_ble_eq_true rfl) H.1.1 H.1.2 dX9_play_5 rfl H.2
  replace H := H.1 c2
  refine e_callSD (As := [vI x2]) (rest := []) C Y mi_X9_requireStrategy ms_X9_requireStrategy ml_X9_220 (s_X9_requireStrategy r2 c2) (by decide) (Nat.le_of_ble_eq_true rfl) hk hn dX9_play_5 rfl ?_
  refine e_iload_n C 3 dX9_play_8 rfl ?_
  by_cases c3 : 0 ≤ x3 ∧ x3 ≤ 3
  case neg =>
    replace H := H.2 c3
    exact e_callST (As := [vI x3]) (rest := []) C Y mi_X9_requireStrategy ms_X9_requireStrategy ml_X9_220 (t_X9_requireStrategy r3 c3) (by decide) (Nat.le_of_ble_eq_true rfl) H.1.1 H.1.2 dX9_play_9 rfl H.2
  replace H := H.1 c3
  refine e_callSD (As := [vI x3]) (rest := []) C Y mi_X9_requireStrategy ms_X9_requireStrategy ml_X9_220 (s_X9_requireStrategy r3 c3) (by decide) (Nat.le_of_ble_eq_true rfl) hk hn dX9_play_9 rfl ?_
  refine e_iload_n C 2 dX9_play_12 rfl ?_
  refine e_iconst C dX9_play_13 ?_
  refine e_icmp_eq C 22 r2 (by decide) dX9_play_14 (by decide) (fun c9 => ?_) (fun c9 => ?_)
  · replace H := H.1 c9
    exact e_sub [0, 1, 2, 3] rfl H
  · replace H := H.2 c9
    refine e_iload_n C 3 dX9_play_17 rfl ?_
    refine e_iconst C dX9_play_18 ?_
    refine e_icmp_ne C 47 r3 (by decide) dX9_play_19 (by decide) (fun c9 => ?_) (fun c9 => ?_)
    · replace H := H.1 c9
      exact e_sub [0, 1, 2, 3] rfl H
    · replace H := H.2 c9
      exact e_sub [0, 1, 2, 3] rfl H
set_option maxRecDepth 4000 in
theorem B_X9_play_22 {g : Gs} {ad : Nat → Nat} {sk : (Nat → Nat) × (Nat → Nat)} {X : Cx} {mc ms k n ma na : Nat} {PQ : Option Value → Mem → Prop} {PX : String → Mem → Prop} {M : Mem} {x1 x2 x3 : Int} (r1 : R32 x1) (r2 : R32 x2) (r3 : R32 x3) {q4 : Prop} (hS4 : q4 → Sp (wC g ad sk) yX9_requireSmallTable cX9_requireSmallTable 1 none 3 [.ref (ad 0)] M none M) (hT4 : ¬ q4 → Th (wC g ad sk) yX9_requireSmallTable cX9_requireSmallTable 1 none 3 [.ref (ad 0)] M "java/lang/IllegalStateException") (hk : k ≤ mc) (hn : n ≤ ms) (C : OkB (wC g ad sk) X cX9_play RX9 4 7 mc ms) (Y : OkR (wC g ad sk) X (some .int) mc ms PQ PX) (H : (((q4) → (k + ma ≤ mc ∧ n + na ≤ ms) ∧ ∃ Q4 : Mem → Prop, SpVB (wC g ad sk) yX6_solve cX6_solve 5 none 3 ma na [.ref (ad 3), .ref (ad 19), vI (M 11 0)] M Q4 ∧ ∀ M3 : Mem, Q4 M3 → E (wC g ad sk) X (k + ma) (n + na) M3 47 [(0, .ref (ad 0)), (1, vI x1), (2, vI x2), (3, vI x3)] []) ∧ (¬(q4) → (k + 1 ≤ mc ∧ n + 6 ≤ ms) ∧ PX "java/lang/IllegalStateException" M))) : E (wC g ad sk) X k n M 22 [(0, .ref (ad 0)), (1, vI x1), (2, vI x2), (3, vI x3)] [] := by
  refine e_wf (fun hw0 => ?_)
  refine e_aload_n C 0 dX9_play_22 rfl ?_
  by_cases c1 : q4
  case neg =>
    replace H := H.2 c1
    exact e_callVT (As := []) (rest := []) (q0 := 0) (ci := 9) C Y mi_X9_requireSmallTable ms_X9_requireSmallTable mv_X9_requireSmallTable ml_X9_209 (hT4 c1) (wlX_st rfl) rfl (by decide) (Nat.le_of_ble_eq_true rfl) H.1.1 H.1.2 dX9_play_23 rfl H.2
  replace H := H.1 c1
  refine e_callVD (As := []) (rest := []) (q0 := 0) (ci := 9) C Y mi_X9_requireSmallTable ms_X9_requireSmallTable mv_X9_requireSmallTable ml_X9_209 (hS4 c1) (wlX_st rfl) rfl (by decide) (Nat.le_of_ble_eq_true rfl) hk hn dX9_play_23 rfl ?_
  refine e_aload_n C 0 dX9_play_26 rfl ?_
  refine gX_9_28 C dX9_play_27 ?_
  refine e_aload_n C 0 dX9_play_30 rfl ?_
  refine gX_9_19 C dX9_play_31 ?_
  refine gX_9_199 C dX9_play_34 ?_
  refine e_aload_n C 0 dX9_play_37 rfl ?_
  refine gX_9_19 C dX9_play_38 ?_
  refine gX_9_190 C dX9_play_41 ?_
  obtain ⟨hk9, Q4, h2, H⟩ := H
  refine e_callVA (As := [.ref (ad 19), vI (M 11 0)]) (rest := []) (q0 := 3) (ci := 6) C Y mi_X6_solve ms_X6_solve mv_X6_solve ml_X9_212 h2 (wlX_st rfl) rfl (by decide) (Nat.le_of_ble_eq_true rfl) hk9.1 hk9.2 dX9_play_44 rfl (fun M3 hq9 => ?_)
  replace H := H M3 hq9
  refine e_wf (fun hw5 => ?_)
  exact e_sub [0, 1, 2, 3] rfl H
set_option maxRecDepth 4000 in
theorem B_X9_play_47 {g : Gs} {ad : Nat → Nat} {sk : (Nat → Nat) × (Nat → Nat)} {X : Cx} {mc ms k n : Nat} {PQ : Option Value → Mem → Prop} {PX : String → Mem → Prop} {M : Mem} {x1 x2 x3 : Int} (r1 : R32 x1) (r2 : R32 x2) (r3 : R32 x3) (hk : k ≤ mc) (hn : n ≤ ms) (C : OkB (wC g ad sk) X cX9_play RX9 4 7 mc ms) (Y : OkR (wC g ad sk) X (some .int) mc ms PQ PX) (H : ∃ Q3 : Mem → Prop, SpV (wC g ad sk) yX9_layLine cX9_layLine 2 none 1 [.ref (ad 0)] M Q3 ∧ ∀ M2 : Mem, Q3 M2 → ∃ Q7 : Mem → Prop, SpV (wC g ad sk) yX9_playLine cX9_playLine 8 none 6 [.ref (ad 0), vI x1, vI x2, vI x3] M2 Q7 ∧ ∀ M6 : Mem, Q7 M6 → ∃ Q11 : Int → Mem → Prop, SpI (wC g ad sk) yX5_sumOfMeans cX5_sumOfMeans 5 (some .int) 1 [.ref (ad 1), .ref (ad 10), vI (M6 11 0)] M6 Q11 ∧ ∀ (z12 : Int) (M10 : Mem), Q11 z12 M10 → R32 z12 ∧ PQ (some (vI z12)) M10) : E (wC g ad sk) X k n M 47 [(0, .ref (ad 0)), (1, vI x1), (2, vI x2), (3, vI x3)] [] := by
  refine e_wf (fun hw0 => ?_)
  refine e_aload_n C 0 dX9_play_47 rfl ?_
  obtain ⟨Q3, h1, H⟩ := H
  refine e_callVV (As := []) (rest := []) (q0 := 0) (ci := 9) C Y mi_X9_layLine ms_X9_layLine mv_X9_layLine ml_X9_223 h1 (wlX_st rfl) rfl (by decide) (Nat.le_of_ble_eq_true rfl) hk hn dX9_play_48 rfl (fun M2 hq9 => ?_)
  replace H := H M2 hq9
  refine e_wf (fun hw4 => ?_)
  refine e_aload_n C 0 dX9_play_51 rfl ?_
  refine e_iload_n C 1 dX9_play_52 rfl ?_
  refine e_iload_n C 2 dX9_play_53 rfl ?_
  refine e_iload_n C 3 dX9_play_54 rfl ?_
  obtain ⟨Q7, h5, H⟩ := H
  refine e_callVV (As := [vI x1, vI x2, vI x3]) (rest := []) (q0 := 0) (ci := 9) C Y mi_X9_playLine ms_X9_playLine mv_X9_playLine ml_X9_230 h5 (wlX_st rfl) rfl (by decide) (Nat.le_of_ble_eq_true rfl) hk hn dX9_play_55 rfl (fun M6 hq9 => ?_)
  replace H := H M6 hq9
  refine e_wf (fun hw8 => ?_)
  refine e_aload_n C 0 dX9_play_58 rfl ?_
  refine gX_9_12 C dX9_play_59 ?_
  refine e_aload_n C 0 dX9_play_62 rfl ?_
  refine gX_9_73 C dX9_play_63 ?_
  refine e_aload_n C 0 dX9_play_66 rfl ?_
  refine gX_9_19 C dX9_play_67 ?_
  refine gX_9_190 C dX9_play_70 ?_
  obtain ⟨Q11, h9, H⟩ := H
  refine e_callVI (As := [.ref (ad 10), vI (M6 11 0)]) (rest := []) (q0 := 1) (ci := 5) C Y mi_X5_sumOfMeans ms_X5_sumOfMeans mv_X5_sumOfMeans ml_X9_234 h9 (wlX_st rfl) rfl (by decide) (Nat.le_of_ble_eq_true rfl) hk hn dX9_play_73 rfl (fun z12 M10 hq9 => ?_)
  obtain ⟨o13, H⟩ := H z12 M10 hq9
  refine e_wf (fun hw14 => ?_)
  exact e_iret C Y hk hn dX9_play_76 H
