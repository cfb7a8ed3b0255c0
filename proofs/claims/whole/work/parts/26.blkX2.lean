set_option maxRecDepth 4000 in
theorem B_X9_games_0 {g : Gs} {ad : Nat → Nat} {sk : (Nat → Nat) × (Nat → Nat)} {X : Cx} {mc ms k n : Nat} {PQ : Option Value → Mem → Prop} {PX : String → Mem → Prop} {M : Mem}  (hk : k ≤ mc) (hn : n ≤ ms) (C : OkB (wC g ad sk) X cX9_games RX9 1 1 mc ms) (Y : OkR (wC g ad sk) X (some .int) mc ms PQ PX) (H : PQ (some (vI (M 4 0))) M) : E (wC g ad sk) X k n M 0 [(0, .ref (ad 0))] [] := by
  refine e_wf (fun hw0 => ?_)
  refine e_aload_n C 0 dX9_games_0 rfl ?_
  refine gX_9_12 C dX9_games_1 ?_
  refine gX_9_100 C dX9_games_4 ?_
  exact e_iret C Y hk hn dX9_games_7 H
set_option maxRecDepth 4000 in
theorem B_X9_components_0 {g : Gs} {ad : Nat → Nat} {sk : (Nat → Nat) × (Nat → Nat)} {X : Cx} {mc ms k n : Nat} {PQ : Option Value → Mem → Prop} {PX : String → Mem → Prop} {M : Mem}  (hk : k ≤ mc) (hn : n ≤ ms) (C : OkB (wC g ad sk) X cX9_components RX9 1 1 mc ms) (Y : OkR (wC g ad sk) X (some .int) mc ms PQ PX) (H : PQ (some (vI (M 11 0))) M) : E (wC g ad sk) X k n M 0 [(0, .ref (ad 0))] [] := by
  refine e_wf (fun hw0 => ?_)
  refine e_aload_n C 0 dX9_components_0 rfl ?_
  refine gX_9_19 C dX9_components_1 ?_
  refine gX_9_190 C dX9_components_4 ?_
  exact e_iret C Y hk hn dX9_components_7 H
set_option maxRecDepth 4000 in
theorem B_X9_played_0 {g : Gs} {ad : Nat → Nat} {sk : (Nat → Nat) × (Nat → Nat)} {X : Cx} {mc ms k n : Nat} {PQ : Option Value → Mem → Prop} {PX : String → Mem → Prop} {M : Mem} {x1 : Int} (r1 : R32 x1) (hk : k ≤ mc) (hn : n ≤ ms) (C : OkB (wC g ad sk) X cX9_played RX9 2 1 mc ms) (Y : OkR (wC g ad sk) X (some .int) mc ms PQ PX) (H : (((x1 < 0) → PQ (some (vI (-1))) M) ∧ ((0 ≤ x1) → ((((M 0 0) ≤ x1) → PQ (some (vI (-1))) M) ∧ ((x1 < (M 0 0)) → (0 ≤ x1 ∧ x1 < 24) ∧ PQ (some (vI (M 3 x1))) M))))) : E (wC g ad sk) X k n M 0 [(0, .ref (ad 0)), (1, vI x1)] [] := by
  refine e_wf (fun hw0 => ?_)
  refine e_iload_n C 1 dX9_played_0 rfl ?_
  refine e_if_lt C 21 r1 dX9_played_1 (by decide) (fun c9 => ?_) (fun c9 => ?_)
  · replace H := H.1 c9
    refine e_iconst C dX9_played_21 ?_
    exact e_iret C Y hk hn dX9_played_22 H
  · replace H := H.2 c9
    refine e_iload_n C 1 dX9_played_4 rfl ?_
    refine e_aload_n C 0 dX9_played_5 rfl ?_
    refine gX_9_80 C dX9_played_6 ?_
    refine e_icmp_ge C 21 r1 (hw0.2.1 0 _ rfl) dX9_played_9 (by decide) (fun c9 => ?_) (fun c9 => ?_)
    · replace H := H.1 c9
      refine e_iconst C dX9_played_21 ?_
      exact e_iret C Y hk hn dX9_played_22 H
    · replace H := H.2 c9
      refine e_aload_n C 0 dX9_played_12 rfl ?_
      refine gX_9_77 C dX9_played_13 ?_
      refine e_iload_n C 1 dX9_played_16 rfl ?_
      obtain ⟨o1, H⟩ := H
      refine aX_11 C o1 dX9_played_17 ?_
      refine e_goto C 22 dX9_played_18 (by decide) ?_
      exact e_iret C Y hk hn dX9_played_22 H
set_option maxRecDepth 4000 in
theorem B_X9_clearText_0 {g : Gs} {ad : Nat → Nat} {sk : (Nat → Nat) × (Nat → Nat)} {X : Cx} {mc ms k n : Nat} {PQ : Option Value → Mem → Prop} {PX : String → Mem → Prop} {M : Mem}  (hk : k ≤ mc) (hn : n ≤ ms) (C : OkB (wC g ad sk) X cX9_clearText RX9 2 1 mc ms) (Y : OkR (wC g ad sk) X (some .int) mc ms PQ PX) (H : PQ (some (vI (M 23 0))) (up M 23 0 0)) : E (wC g ad sk) X k n M 0 [(0, .ref (ad 0))] [] := by
  refine e_wf (fun hw0 => ?_)
  refine e_aload_n C 0 dX9_clearText_0 rfl ?_
  refine gX_9_44 C dX9_clearText_1 ?_
  refine gX_9_240 C dX9_clearText_4 ?_
  refine e_istore_n C dX9_clearText_7 (by decide) rfl ?_
  refine e_aload_n C 1 dX9_clearText_8 rfl ?_
  refine gX_9_44 C dX9_clearText_9 ?_
  refine e_iconst C dX9_clearText_12 ?_
  refine pX_9_240 C (by decide) dX9_clearText_13 ?_
  refine e_wf (fun hw1 => ?_)
  refine e_iload_n C 0 dX9_clearText_16 rfl ?_
  exact e_iret C Y hk hn dX9_clearText_17 H
set_option maxRecDepth 4000 in
theorem B_X9_written_0 {g : Gs} {ad : Nat → Nat} {sk : (Nat → Nat) × (Nat → Nat)} {X : Cx} {mc ms k n : Nat} {PQ : Option Value → Mem → Prop} {PX : String → Mem → Prop} {M : Mem} {x1 : Int} (r1 : R32 x1) (hk : k ≤ mc) (hn : n ≤ ms) (C : OkB (wC g ad sk) X cX9_written RX9 2 1 mc ms) (Y : OkR (wC g ad sk) X (some .int) mc ms PQ PX) (H : (((x1 < 0) → PQ (some (vI (-1))) M) ∧ ((0 ≤ x1) → ((((M 37 0) ≤ x1) → PQ (some (vI (-1))) M) ∧ ((x1 < (M 37 0)) → (0 ≤ x1 ∧ x1 < 400) ∧ PQ (some (vI (M 36 x1))) M))))) : E (wC g ad sk) X k n M 0 [(0, .ref (ad 0)), (1, vI x1)] [] := by
  refine e_wf (fun hw0 => ?_)
  refine e_iload_n C 1 dX9_written_0 rfl ?_
  refine e_if_lt C 27 r1 dX9_written_1 (by decide) (fun c9 => ?_) (fun c9 => ?_)
  · replace H := H.1 c9
    refine e_iconst C dX9_written_27 ?_
    exact e_iret C Y hk hn dX9_written_28 H
  · replace H := H.2 c9
    refine e_iload_n C 1 dX9_written_4 rfl ?_
    refine e_aload_n C 0 dX9_written_5 rfl ?_
    refine gX_9_58 C dX9_written_6 ?_
    refine gX_9_271 C dX9_written_9 ?_
    refine e_icmp_ge C 27 r1 (hw0.2.1 37 _ rfl) dX9_written_12 (by decide) (fun c9 => ?_) (fun c9 => ?_)
    · replace H := H.1 c9
      refine e_iconst C dX9_written_27 ?_
      exact e_iret C Y hk hn dX9_written_28 H
    · replace H := H.2 c9
      refine e_aload_n C 0 dX9_written_15 rfl ?_
      refine gX_9_58 C dX9_written_16 ?_
      refine gX_9_272 C dX9_written_19 ?_
      refine e_iload_n C 1 dX9_written_22 rfl ?_
      obtain ⟨o1, H⟩ := H
      refine aX_42 C o1 dX9_written_23 ?_
      refine e_goto C 28 dX9_written_24 (by decide) ?_
      exact e_iret C Y hk hn dX9_written_28 H
set_option maxRecDepth 4000 in
theorem B_X9_mix_0 {g : Gs} {ad : Nat → Nat} {sk : (Nat → Nat) × (Nat → Nat)} {X : Cx} {mc ms k n : Nat} {PQ : Option Value → Mem → Prop} {PX : String → Mem → Prop} {M : Mem} {x0 x2 : Int} (r0 : R64 x0) (r2 : R32 x2) (hk : k ≤ mc) (hn : n ≤ ms) (C : OkB (wC g ad sk) X cX9_mix RX9 3 1 mc ms) (Y : OkR (wC g ad sk) X (some .long) mc ms PQ PX) (H : PQ (some (vL ((31 * x0) + x2))) M) : E (wC g ad sk) X k n M 0 [(0, vL x0), (2, vI x2)] [] := by
  refine e_wf (fun hw0 => ?_)
  refine e_ldc2 C (v := 31) (tg3 145 rfl rfl) (by decide) dX9_mix_0 ?_
  refine e_lload_n C 0 dX9_mix_3 rfl ?_
  refine e_lmul C dX9_mix_4 ?_
  refine e_iload_n C 1 dX9_mix_5 rfl ?_
  refine e_i2l C r2 dX9_mix_6 ?_
  refine e_ladd C dX9_mix_7 ?_
  exact e_lret C Y hk hn dX9_mix_8 H
set_option maxRecDepth 4000 in
theorem B_X9_layLine_0 {g : Gs} {ad : Nat → Nat} {sk : (Nat → Nat) × (Nat → Nat)} {X : Cx} {mc ms k n : Nat} {PQ : Option Value → Mem → Prop} {PX : String → Mem → Prop} {M : Mem}  (hk : k ≤ mc) (hn : n ≤ ms) (C : OkB (wC g ad sk) X cX9_layLine RX9 2 1 mc ms) (Y : OkR (wC g ad sk) X none mc ms PQ PX) (H : E (wC g ad sk) X k n M 2 [(0, .ref (ad 0)), (1, vI 0)] []) : E (wC g ad sk) X k n M 0 [(0, .ref (ad 0))] [] := by
  refine e_wf (fun hw0 => ?_)
  refine e_iconst C dX9_layLine_0 ?_
  refine e_istore_n C dX9_layLine_1 (by decide) rfl ?_
  exact e_sub [1, 0] rfl H
set_option maxRecDepth 4000 in
theorem B_X9_layLine_2 {g : Gs} {ad : Nat → Nat} {sk : (Nat → Nat) × (Nat → Nat)} {X : Cx} {mc ms k n : Nat} {PQ : Option Value → Mem → Prop} {PX : String → Mem → Prop} {M : Mem} {x1 : Int} (r1 : R32 x1) (hk : k ≤ mc) (hn : n ≤ ms) (C : OkB (wC g ad sk) X cX9_layLine RX9 2 1 mc ms) (Y : OkR (wC g ad sk) X none mc ms PQ PX) (H : ((((M 11 0) ≤ x1) → PQ none M) ∧ ((x1 < (M 11 0)) → ((0 ≤ x1 ∧ x1 < 4) ∧ (R32 (x1 + 1))) ∧ E (wC g ad sk) X k n (up M 2 x1 (M 10 x1)) 2 [(0, .ref (ad 0)), (1, vI (x1 + 1))] []))) : E (wC g ad sk) X k n M 2 [(0, .ref (ad 0)), (1, vI x1)] [] := by
  refine e_wf (fun hw0 => ?_)
  refine e_iload_n C 1 dX9_layLine_2 rfl ?_
  refine e_aload_n C 0 dX9_layLine_3 rfl ?_
  refine gX_9_19 C dX9_layLine_4 ?_
  refine gX_9_190 C dX9_layLine_7 ?_
  refine e_icmp_ge C 34 r1 (hw0.2.1 11 _ rfl) dX9_layLine_10 (by decide) (fun c9 => ?_) (fun c9 => ?_)
  · replace H := H.1 c9
    exact e_vret C Y hk hn dX9_layLine_34 H
  · replace H := H.2 c9
    refine e_aload_n C 0 dX9_layLine_13 rfl ?_
    refine gX_9_73 C dX9_layLine_14 ?_
    refine e_iload_n C 1 dX9_layLine_17 rfl ?_
    refine e_aload_n C 0 dX9_layLine_18 rfl ?_
    refine gX_9_19 C dX9_layLine_19 ?_
    refine gX_9_199 C dX9_layLine_22 ?_
    refine e_iload_n C 1 dX9_layLine_25 rfl ?_
    obtain ⟨⟨o1, o3⟩, H⟩ := H
    refine aX_19 C o1 dX9_layLine_26 ?_
    refine sX_10 C o1 (hw0.2.1 10 _ rfl) dX9_layLine_27 ?_
    refine e_wf (fun hw2 => ?_)
    refine e_iinc C 1 dX9_layLine_28 rfl (by decide) rfl ?_
    refine e_goto C 2 dX9_layLine_31 (by decide) ?_
    exact e_sub [1, 0] rfl H
set_option maxRecDepth 4000 in
theorem B_X9_draft_0 {g : Gs} {ad : Nat → Nat} {sk : (Nat → Nat) × (Nat → Nat)} {X : Cx} {mc ms k n : Nat} {PQ : Option Value → Mem → Prop} {PX : String → Mem → Prop} {M : Mem} {x1 x2 : Int} (r1 : R32 x1) (r2 : R32 x2) (hk : k ≤ mc) (hn : n ≤ ms) (C : OkB (wC g ad sk) X cX9_draft RX9 5 2 mc ms) (Y : OkR (wC g ad sk) X (some .int) mc ms PQ PX) (H : (((0 ≤ x2 ∧ x2 < (M 4 0)) → (((x1 = 0 ∨ x1 = 1) → (0 ≤ x1 ∧ x1 < 2) ∧ ∃ Q6 : Int → Mem → Prop, SpI (wC g ad sk) yJ13_bitCount_95d88 cJ13_bitCount_95d88 2 (some .int) 1 [vL (lorL (M 1 x1) (lshlL 1 x2))] M Q6 ∧ ∀ (z7 : Int) (M5 : Mem), Q6 z7 M5 → R32 z7 ∧ (((z7 ≤ 4) → ∃ Q13 : Int → Mem → Prop, SpI (wC g ad sk) yJ13_bitCount_95d88 cJ13_bitCount_95d88 2 (some .int) 1 [vL (lorL (M 1 x1) (lshlL 1 x2))] (up M5 1 x1 (lorL (M 1 x1) (lshlL 1 x2))) Q13 ∧ ∀ (z14 : Int) (M12 : Mem), Q13 z14 M12 → R32 z14 ∧ PQ (some (vI z14)) M12) ∧ ((4 < z7) → (k + 1 ≤ mc ∧ n + 6 ≤ ms) ∧ PX "java/lang/IllegalStateException" M5))) ∧ (¬(x1 = 0 ∨ x1 = 1) → (k + 1 ≤ mc ∧ n + 6 ≤ ms) ∧ PX "java/lang/IllegalArgumentException" M))) ∧ (¬(0 ≤ x2 ∧ x2 < (M 4 0)) → (k + 1 ≤ mc ∧ n + 6 ≤ ms) ∧ PX "java/lang/IndexOutOfBoundsException" M))) : E (wC g ad sk) X k n M 0 [(0, .ref (ad 0)), (1, vI x1), (2, vI x2)] [] := by
  refine e_wf (fun hw0 => ?_)
  refine e_aload_n C 0 dX9_draft_0 rfl ?_
  refine e_iload_n C 2 dX9_draft_1 rfl ?_
  by_cases c1 : 0 ≤ x2 ∧ x2 < (M 4 0)
  case neg =>
    replace H := H.2 c1
    exact e_callVT (As := [vI x2]) (rest := []) (q0 := 0) (ci := 9) C Y mi_X9_requireGame ms_X9_requireGame mv_X9_requireGame ml_X9_119 (t_X9_requireGame r2 c1) (wlX_st rfl) rfl (by decide) (Nat.le_of_ble_eq_true rfl) H.1.1 H.1.2 dX9_draft_2 rfl H.2
  replace H := H.1 c1
  refine e_callVD (As := [vI x2]) (rest := []) (q0 := 0) (ci := 9) C Y mi_X9_requireGame ms_X9_requireGame mv_X9_requireGame ml_X9_119 (s_X9_requireGame r2 c1) (wlX_st rfl) rfl (by decide) (Nat.le_of_ble_eq_true rfl) hk hn dX9_draft_2 rfl ?_
  refine e_iload_n C 1 dX9_draft_5 rfl ?_
  by_cases c2 : x1 = 0 ∨ x1 = 1
  case neg =>
    replace H := H.2 c2
    exact e_callST (As := [vI x1]) (rest := []) C Y mi_X9_requireSide ms_X9_requireSide ml_X9_122 (t_X9_requireSide r1 c2) (by decide) (Nat.le_of_ble_eq_true rfl) H.1.1 H.1.2 dX9_draft_6 rfl H.2
  replace H := H.1 c2
  refine e_callSD (As := [vI x1]) (rest := []) C Y mi_X9_requireSide ms_X9_requireSide ml_X9_122 (s_X9_requireSide r1 c2) (by decide) (Nat.le_of_ble_eq_true rfl) hk hn dX9_draft_6 rfl ?_
  refine e_aload_n C 0 dX9_draft_9 rfl ?_
  refine gX_9_69 C dX9_draft_10 ?_
  refine e_iload_n C 1 dX9_draft_13 rfl ?_
  obtain ⟨o3, H⟩ := H
  refine aX_9 C o3 dX9_draft_14 ?_
  refine e_iload_n C 2 dX9_draft_15 rfl ?_
  refine e_callSD (As := [vI x2]) (rest := [vL (M 1 x1)]) C Y mi_X9_bit ms_X9_bit ml_X9_88 (s_X9_bit r2) (by decide) (Nat.le_of_ble_eq_true rfl) hk hn dX9_draft_16 rfl ?_
  refine e_lor C dX9_draft_19 ?_
  refine e_lstore_n C dX9_draft_20 (by decide) rfl ?_
  refine e_lload_n C 0 dX9_draft_21 rfl ?_
  obtain ⟨Q6, h4, H⟩ := H
  refine e_callSI (As := [vL (lorL (M 1 x1) (lshlL 1 x2))]) (rest := []) C Y mi_J13_bitCount_95d88 ms_J13_bitCount_95d88 ml_X9_125 h4 (by decide) (Nat.le_of_ble_eq_true rfl) hk hn dX9_draft_22 rfl (fun z7 M5 hq9 => ?_)
  obtain ⟨o8, H⟩ := H z7 M5 hq9
  refine e_wf (fun hw9 => ?_)
  refine e_iconst C dX9_draft_25 ?_
  refine e_icmp_le C 39 o8 (by decide) dX9_draft_26 (by decide) (fun c9 => ?_) (fun c9 => ?_)
  · replace H := H.1 c9
    refine e_aload_n C 1 dX9_draft_39 rfl ?_
    refine gX_9_69 C dX9_draft_40 ?_
    refine e_iload_n C 2 dX9_draft_43 rfl ?_
    refine e_lload_n C 0 dX9_draft_44 rfl ?_
    refine sX_9 C o3 (r64_toInt _) dX9_draft_45 ?_
    refine e_wf (fun hw10 => ?_)
    refine e_lload_n C 0 dX9_draft_46 rfl ?_
    obtain ⟨Q13, h11, H⟩ := H
    refine e_callSI (As := [vL (lorL (M 1 x1) (lshlL 1 x2))]) (rest := []) C Y mi_J13_bitCount_95d88 ms_J13_bitCount_95d88 ml_X9_125 h11 (by decide) (Nat.le_of_ble_eq_true rfl) hk hn dX9_draft_47 rfl (fun z14 M12 hq9 => ?_)
    obtain ⟨o15, H⟩ := H z14 M12 hq9
    refine e_wf (fun hw16 => ?_)
    exact e_iret C Y hk hn dX9_draft_50 H
  · replace H := H.2 c9
    exact th_IS (is := 131) (text := "the draft has 4 other options on this side") (by decide +kernel) C Y (by decide) (Nat.le_of_ble_eq_true rfl) H.1.1 H.1.2 ⟨⟨dX9_draft_29, dX9_draft_32⟩, Or.inl ⟨dX9_draft_33, dX9_draft_35, dX9_draft_38⟩⟩ H.2
set_option maxRecDepth 4000 in
theorem B_X9_clearDraft_0 {g : Gs} {ad : Nat → Nat} {sk : (Nat → Nat) × (Nat → Nat)} {X : Cx} {mc ms k n : Nat} {PQ : Option Value → Mem → Prop} {PX : String → Mem → Prop} {M : Mem}  (hk : k ≤ mc) (hn : n ≤ ms) (C : OkB (wC g ad sk) X cX9_clearDraft RX9 2 2 mc ms) (Y : OkR (wC g ad sk) X (some .int) mc ms PQ PX) (H : ∃ Q3 : Int → Mem → Prop, SpI (wC g ad sk) yJ13_bitCount_95d88 cJ13_bitCount_95d88 2 (some .int) 1 [vL (M 1 0)] M Q3 ∧ ∀ (z4 : Int) (M2 : Mem), Q3 z4 M2 → R32 z4 ∧ ∃ Q9 : Int → Mem → Prop, SpI (wC g ad sk) yJ13_bitCount_95d88 cJ13_bitCount_95d88 2 (some .int) 1 [vL (M2 1 1)] M2 Q9 ∧ ∀ (z10 : Int) (M8 : Mem), Q9 z10 M8 → R32 z10 ∧ (R32 (z4 + z10)) ∧ PQ (some (vI (z4 + z10))) (up (up M8 1 0 0) 1 1 0)) : E (wC g ad sk) X k n M 0 [(0, .ref (ad 0))] [] := by
  refine e_wf (fun hw0 => ?_)
  refine e_aload_n C 0 dX9_clearDraft_0 rfl ?_
  refine gX_9_69 C dX9_clearDraft_1 ?_
  refine e_iconst C dX9_clearDraft_4 ?_
  refine aX_9 C (by decide) dX9_clearDraft_5 ?_
  obtain ⟨Q3, h1, H⟩ := H
  refine e_callSI (As := [vL (M 1 0)]) (rest := []) C Y mi_J13_bitCount_95d88 ms_J13_bitCount_95d88 ml_X9_125 h1 (by decide) (Nat.le_of_ble_eq_true rfl) hk hn dX9_clearDraft_6 rfl (fun z4 M2 hq9 => ?_)
  obtain ⟨o5, H⟩ := H z4 M2 hq9
  refine e_wf (fun hw6 => ?_)
  refine e_aload_n C 0 dX9_clearDraft_9 rfl ?_
  refine gX_9_69 C dX9_clearDraft_10 ?_
  refine e_iconst C dX9_clearDraft_13 ?_
  refine aX_9 C (by decide) dX9_clearDraft_14 ?_
  obtain ⟨Q9, h7, H⟩ := H
  refine e_callSI (As := [vL (M2 1 1)]) (rest := [vI z4]) C Y mi_J13_bitCount_95d88 ms_J13_bitCount_95d88 ml_X9_125 h7 (by decide) (Nat.le_of_ble_eq_true rfl) hk hn dX9_clearDraft_15 rfl (fun z10 M8 hq9 => ?_)
  obtain ⟨o11, H⟩ := H z10 M8 hq9
  refine e_wf (fun hw12 => ?_)
  obtain ⟨o13, H⟩ := H
  refine e_iadd C dX9_clearDraft_18 ?_
  refine e_istore_n C dX9_clearDraft_19 (by decide) rfl ?_
  refine e_aload_n C 1 dX9_clearDraft_20 rfl ?_
  refine gX_9_69 C dX9_clearDraft_21 ?_
  refine e_iconst C dX9_clearDraft_24 ?_
  refine e_lconst0 C dX9_clearDraft_25 ?_
  refine sX_9 C (by decide) (by decide) dX9_clearDraft_26 ?_
  refine e_wf (fun hw14 => ?_)
  refine e_aload_n C 1 dX9_clearDraft_27 rfl ?_
  refine gX_9_69 C dX9_clearDraft_28 ?_
  refine e_iconst C dX9_clearDraft_31 ?_
  refine e_lconst0 C dX9_clearDraft_32 ?_
  refine sX_9 C (by decide) (by decide) dX9_clearDraft_33 ?_
  refine e_wf (fun hw15 => ?_)
  refine e_iload_n C 0 dX9_clearDraft_34 rfl ?_
  exact e_iret C Y hk hn dX9_clearDraft_35 H
set_option maxRecDepth 4000 in
theorem B_X9_options_0 {g : Gs} {ad : Nat → Nat} {sk : (Nat → Nat) × (Nat → Nat)} {X : Cx} {mc ms k n : Nat} {PQ : Option Value → Mem → Prop} {PX : String → Mem → Prop} {M : Mem} {x1 x2 : Int} (r1 : R32 x1) (r2 : R32 x2) (hk : k ≤ mc) (hn : n ≤ ms) (C : OkB (wC g ad sk) X cX9_options RX9 3 2 mc ms) (Y : OkR (wC g ad sk) X (some .int) mc ms PQ PX) (H : (((0 ≤ x1 ∧ x1 < (M 4 0)) → (((x2 = 0 ∨ x2 = 1) → ((0 ≤ x1 ∧ x1 < 40) ∧ (0 ≤ x2 ∧ x2 < 2)) ∧ PQ (some (vI (M 41 (40 * x2 + x1)))) M) ∧ (¬(x2 = 0 ∨ x2 = 1) → (k + 1 ≤ mc ∧ n + 6 ≤ ms) ∧ PX "java/lang/IllegalArgumentException" M))) ∧ (¬(0 ≤ x1 ∧ x1 < (M 4 0)) → (k + 1 ≤ mc ∧ n + 6 ≤ ms) ∧ PX "java/lang/IndexOutOfBoundsException" M))) : E (wC g ad sk) X k n M 0 [(0, .ref (ad 0)), (1, vI x1), (2, vI x2)] [] := by
  refine e_wf (fun hw0 => ?_)
  refine e_aload_n C 0 dX9_options_0 rfl ?_
  refine e_iload_n C 1 dX9_options_1 rfl ?_
  by_cases c1 : 0 ≤ x1 ∧ x1 < (M 4 0)
  case neg =>
    replace H := H.2 c1
    exact e_callVT (As := [vI x1]) (rest := []) (q0 := 0) (ci := 9) C Y mi_X9_requireGame ms_X9_requireGame mv_X9_requireGame ml_X9_119 (t_X9_requireGame r1 c1) (wlX_st rfl) rfl (by decide) (Nat.le_of_ble_eq_true rfl) H.1.1 H.1.2 dX9_options_2 rfl H.2
  replace H := H.1 c1
  refine e_callVD (As := [vI x1]) (rest := []) (q0 := 0) (ci := 9) C Y mi_X9_requireGame ms_X9_requireGame mv_X9_requireGame ml_X9_119 (s_X9_requireGame r1 c1) (wlX_st rfl) rfl (by decide) (Nat.le_of_ble_eq_true rfl) hk hn dX9_options_2 rfl ?_
  refine e_iload_n C 2 dX9_options_5 rfl ?_
  by_cases c2 : x2 = 0 ∨ x2 = 1
  case neg =>
    replace H := H.2 c2
    exact e_callST (As := [vI x2]) (rest := []) C Y mi_X9_requireSide ms_X9_requireSide ml_X9_122 (t_X9_requireSide r2 c2) (by decide) (Nat.le_of_ble_eq_true rfl) H.1.1 H.1.2 dX9_options_6 rfl H.2
  replace H := H.1 c2
  refine e_callSD (As := [vI x2]) (rest := []) C Y mi_X9_requireSide ms_X9_requireSide ml_X9_122 (s_X9_requireSide r2 c2) (by decide) (Nat.le_of_ble_eq_true rfl) hk hn dX9_options_6 rfl ?_
  refine e_aload_n C 0 dX9_options_9 rfl ?_
  refine gX_9_12 C dX9_options_10 ?_
  refine gX_9_140 C dX9_options_13 ?_
  refine e_iload_n C 1 dX9_options_16 rfl ?_
  obtain ⟨⟨o3, o4⟩, H⟩ := H
  refine e_aaldG C o3 dX9_options_17 ?_
  refine gX_9_144 C o3 dX9_options_18 ?_
  refine e_iload_n C 2 dX9_options_21 rfl ?_
  refine aG_2 C o3 o4 dX9_options_22 ?_
  exact e_iret C Y hk hn dX9_options_23 H
set_option maxRecDepth 4000 in
theorem B_X9_option_0 {g : Gs} {ad : Nat → Nat} {sk : (Nat → Nat) × (Nat → Nat)} {X : Cx} {mc ms k n : Nat} {PQ : Option Value → Mem → Prop} {PX : String → Mem → Prop} {M : Mem} {x1 x2 x3 : Int} (r1 : R32 x1) (r2 : R32 x2) (r3 : R32 x3) (hk : k ≤ mc) (hn : n ≤ ms) (C : OkB (wC g ad sk) X cX9_option RX9 4 2 mc ms) (Y : OkR (wC g ad sk) X (some .int) mc ms PQ PX) (H : (((0 ≤ x1 ∧ x1 < (M 4 0)) → (((x2 = 0 ∨ x2 = 1) → ((0 ≤ x1 ∧ x1 < 40) ∧ ((0 ≤ x2 ∧ x2 ≤ 1) ∧ M 41 (40 * x2 + x1) ≤ 4)) ∧ PQ (some (vI (optAt M x1 x2 x3))) M) ∧ (¬(x2 = 0 ∨ x2 = 1) → (k + 1 ≤ mc ∧ n + 6 ≤ ms) ∧ PX "java/lang/IllegalArgumentException" M))) ∧ (¬(0 ≤ x1 ∧ x1 < (M 4 0)) → (k + 1 ≤ mc ∧ n + 6 ≤ ms) ∧ PX "java/lang/IndexOutOfBoundsException" M))) : E (wC g ad sk) X k n M 0 [(0, .ref (ad 0)), (1, vI x1), (2, vI x2), (3, vI x3)] [] := by
  refine e_wf (fun hw0 => ?_)
  refine e_aload_n C 0 dX9_option_0 rfl ?_
  refine e_iload_n C 1 dX9_option_1 rfl ?_
  by_cases c1 : 0 ≤ x1 ∧ x1 < (M 4 0)
  case neg =>
    replace H := H.2 c1
    exact e_callVT (As := [vI x1]) (rest := []) (q0 := 0) (ci := 9) C Y mi_X9_requireGame ms_X9_requireGame mv_X9_requireGame ml_X9_119 (t_X9_requireGame r1 c1) (wlX_st rfl) rfl (by decide) (Nat.le_of_ble_eq_true rfl) H.1.1 H.1.2 dX9_option_2 rfl H.2
  replace H := H.1 c1
  refine e_callVD (As := [vI x1]) (rest := []) (q0 := 0) (ci := 9) C Y mi_X9_requireGame ms_X9_requireGame mv_X9_requireGame ml_X9_119 (s_X9_requireGame r1 c1) (wlX_st rfl) rfl (by decide) (Nat.le_of_ble_eq_true rfl) hk hn dX9_option_2 rfl ?_
  refine e_iload_n C 2 dX9_option_5 rfl ?_
  by_cases c2 : x2 = 0 ∨ x2 = 1
  case neg =>
    replace H := H.2 c2
    exact e_callST (As := [vI x2]) (rest := []) C Y mi_X9_requireSide ms_X9_requireSide ml_X9_122 (t_X9_requireSide r2 c2) (by decide) (Nat.le_of_ble_eq_true rfl) H.1.1 H.1.2 dX9_option_6 rfl H.2
  replace H := H.1 c2
  refine e_callSD (As := [vI x2]) (rest := []) C Y mi_X9_requireSide ms_X9_requireSide ml_X9_122 (s_X9_requireSide r2 c2) (by decide) (Nat.le_of_ble_eq_true rfl) hk hn dX9_option_6 rfl ?_
  refine e_aload_n C 0 dX9_option_9 rfl ?_
  refine gX_9_12 C dX9_option_10 ?_
  refine gX_9_140 C dX9_option_13 ?_
  refine e_iload_n C 1 dX9_option_16 rfl ?_
  obtain ⟨⟨o3, o4⟩, H⟩ := H
  refine e_aaldG C o3 dX9_option_17 ?_
  refine e_iload_n C 2 dX9_option_18 rfl ?_
  refine e_iload_n C 3 dX9_option_19 rfl ?_
  refine e_callVD (As := [vI x2, vI x3]) (rest := []) (ci := 2) C Y mi_X2_optionAt ms_X2_optionAt mv_X2_optionAt ml_X9_149 (s_X2_optionAt o3 r2 r3 o4) (heG o3) rfl (by decide) (Nat.le_of_ble_eq_true rfl) hk hn dX9_option_20 rfl ?_
  exact e_iret C Y hk hn dX9_option_23 H
set_option maxRecDepth 4000 in
theorem B_X9_depth_0 {g : Gs} {ad : Nat → Nat} {sk : (Nat → Nat) × (Nat → Nat)} {X : Cx} {mc ms k n : Nat} {PQ : Option Value → Mem → Prop} {PX : String → Mem → Prop} {M : Mem} {x1 : Int} (r1 : R32 x1) (hk : k ≤ mc) (hn : n ≤ ms) (C : OkB (wC g ad sk) X cX9_depth RX9 2 2 mc ms) (Y : OkR (wC g ad sk) X (some .int) mc ms PQ PX) (H : (((0 ≤ x1 ∧ x1 < (M 4 0)) → (0 ≤ x1 ∧ x1 < 40) ∧ PQ (some (vI (M 47 x1))) M) ∧ (¬(0 ≤ x1 ∧ x1 < (M 4 0)) → (k + 1 ≤ mc ∧ n + 6 ≤ ms) ∧ PX "java/lang/IndexOutOfBoundsException" M))) : E (wC g ad sk) X k n M 0 [(0, .ref (ad 0)), (1, vI x1)] [] := by
  refine e_wf (fun hw0 => ?_)
  refine e_aload_n C 0 dX9_depth_0 rfl ?_
  refine e_iload_n C 1 dX9_depth_1 rfl ?_
  by_cases c1 : 0 ≤ x1 ∧ x1 < (M 4 0)
  case neg =>
    replace H := H.2 c1
    exact e_callVT (As := [vI x1]) (rest := []) (q0 := 0) (ci := 9) C Y mi_X9_requireGame ms_X9_requireGame mv_X9_requireGame ml_X9_119 (t_X9_requireGame r1 c1) (wlX_st rfl) rfl (by decide) (Nat.le_of_ble_eq_true rfl) H.1.1 H.1.2 dX9_depth_2 rfl H.2
  replace H := H.1 c1
  refine e_callVD (As := [vI x1]) (rest := []) (q0 := 0) (ci := 9) C Y mi_X9_requireGame ms_X9_requireGame mv_X9_requireGame ml_X9_119 (s_X9_requireGame r1 c1) (wlX_st rfl) rfl (by decide) (Nat.le_of_ble_eq_true rfl) hk hn dX9_depth_2 rfl ?_
  refine e_aload_n C 0 dX9_depth_5 rfl ?_
  refine gX_9_12 C dX9_depth_6 ?_
  refine gX_9_140 C dX9_depth_9 ?_
  refine e_iload_n C 1 dX9_depth_12 rfl ?_
  obtain ⟨o2, H⟩ := H
  refine e_aaldG C o2 dX9_depth_13 ?_
  refine gX_9_153 C o2 dX9_depth_14 ?_
  exact e_iret C Y hk hn dX9_depth_17 H
set_option maxRecDepth 4000 in
theorem B_X9_compare_0 {g : Gs} {ad : Nat → Nat} {sk : (Nat → Nat) × (Nat → Nat)} {X : Cx} {mc ms k n : Nat} {PQ : Option Value → Mem → Prop} {PX : String → Mem → Prop} {M : Mem} {x1 x2 : Int} (r1 : R32 x1) (r2 : R32 x2) (hk : k ≤ mc) (hn : n ≤ ms) (C : OkB (wC g ad sk) X cX9_compare RX9 5 2 mc ms) (Y : OkR (wC g ad sk) X (some .int) mc ms PQ PX) (H : (((0 ≤ x1 ∧ x1 < (M 4 0)) → (((0 ≤ x2 ∧ x2 < (M 4 0)) → ((0 ≤ x1 ∧ x1 < 40) ∧ (0 ≤ x2 ∧ x2 < 40)) ∧ (((¬(hasB (M 5 x1) x2)) → (((¬(hasB (M 5 x2) x1)) → PQ (some (vI 3)) M) ∧ ((hasB (M 5 x2) x1) → PQ (some (vI 2)) M))) ∧ ((hasB (M 5 x1) x2) → (((¬(hasB (M 5 x2) x1)) → PQ (some (vI 1)) M) ∧ ((hasB (M 5 x2) x1) → PQ (some (vI 0)) M))))) ∧ (¬(0 ≤ x2 ∧ x2 < (M 4 0)) → (k + 1 ≤ mc ∧ n + 6 ≤ ms) ∧ PX "java/lang/IndexOutOfBoundsException" M))) ∧ (¬(0 ≤ x1 ∧ x1 < (M 4 0)) → (k + 1 ≤ mc ∧ n + 6 ≤ ms) ∧ PX "java/lang/IndexOutOfBoundsException" M))) : E (wC g ad sk) X k n M 0 [(0, .ref (ad 0)), (1, vI x1), (2, vI x2)] [] := by
  refine e_wf (fun hw0 => ?_)
  refine e_aload_n C 0 dX9_compare_0 rfl ?_
  refine e_iload_n C 1 dX9_compare_1 rfl ?_
  by_cases c1 : 0 ≤ x1 ∧ x1 < (M 4 0)
  case neg =>
    replace H := H.2 c1
    exact e_callVT (As := [vI x1]) (rest := []) (q0 := 0) (ci := 9) C Y mi_X9_requireGame ms_X9_requireGame mv_X9_requireGame ml_X9_119 (t_X9_requireGame r1 c1) (wlX_st rfl) rfl (by decide) (Nat.le_of_ble_eq_true rfl) H.1.1 H.1.2 dX9_compare_2 rfl H.2
  replace H := H.1 c1
  refine e_callVD (As := [vI x1]) (rest := []) (q0 := 0) (ci := 9) C Y mi_X9_requireGame ms_X9_requireGame mv_X9_requireGame ml_X9_119 (s_X9_requireGame r1 c1) (wlX_st rfl) rfl (by decide) (Nat.le_of_ble_eq_true rfl) hk hn dX9_compare_2 rfl ?_
  refine e_aload_n C 0 dX9_compare_5 rfl ?_
  refine e_iload_n C 2 dX9_compare_6 rfl ?_
  by_cases c2 : 0 ≤ x2 ∧ x2 < (M 4 0)
  case neg =>
    replace H := H.2 c2
    exact e_callVT (As := [vI x2]) (rest := []) (q0 := 0) (ci := 9) C Y mi_X9_requireGame ms_X9_requireGame mv_X9_requireGame ml_X9_119 (t_X9_requireGame r2 c2) (wlX_st rfl) rfl (by decide) (Nat.le_of_ble_eq_true rfl) H.1.1 H.1.2 dX9_compare_7 rfl H.2
  replace H := H.1 c2
  refine e_callVD (As := [vI x2]) (rest := []) (q0 := 0) (ci := 9) C Y mi_X9_requireGame ms_X9_requireGame mv_X9_requireGame ml_X9_119 (s_X9_requireGame r2 c2) (wlX_st rfl) rfl (by decide) (Nat.le_of_ble_eq_true rfl) hk hn dX9_compare_7 rfl ?_
  refine e_aload_n C 0 dX9_compare_10 rfl ?_
  refine gX_9_12 C dX9_compare_11 ?_
  refine e_iload_n C 1 dX9_compare_14 rfl ?_
  refine e_iload_n C 2 dX9_compare_15 rfl ?_
  obtain ⟨⟨o3, o4⟩, H⟩ := H
  refine e_callVD (As := [vI x1, vI x2]) (rest := []) (q0 := 1) (ci := 5) C Y mi_X5_isAtLeast ms_X5_isAtLeast mv_X5_isAtLeast ml_X9_156 (s_X5_isAtLeast r1 r2 o3) (wlX_st rfl) rfl (by decide) (Nat.le_of_ble_eq_true rfl) hk hn dX9_compare_16 rfl ?_
  refine e_istore_n C dX9_compare_19 (by decide) rfl ?_
  refine e_aload_n C 1 dX9_compare_20 rfl ?_
  refine gX_9_12 C dX9_compare_21 ?_
  refine e_iload_n C 3 dX9_compare_24 rfl ?_
  refine e_iload_n C 2 dX9_compare_25 rfl ?_
  refine e_callVD (As := [vI x2, vI x1]) (rest := []) (q0 := 1) (ci := 5) C Y mi_X5_isAtLeast ms_X5_isAtLeast mv_X5_isAtLeast ml_X9_156 (s_X5_isAtLeast r2 r1 o4) (wlX_st rfl) rfl (by decide) (Nat.le_of_ble_eq_true rfl) hk hn dX9_compare_26 rfl ?_
  refine e_istore C dX9_compare_29 (by decide) rfl ?_
  refine e_iload_n C 1 dX9_compare_31 rfl ?_
  refine e_if_eq C 46 (b2i_r _) dX9_compare_32 (by decide) (fun c9 => ?_) (fun c9 => ?_)
  · replace H := H.1 (b2i_0.mp c9)
    refine e_iload C 0 dX9_compare_46 rfl ?_
    refine e_if_eq C 55 (b2i_r _) dX9_compare_48 (by decide) (fun c9 => ?_) (fun c9 => ?_)
    · replace H := H.1 (b2i_0.mp c9)
      refine e_iconst C dX9_compare_55 ?_
      exact e_iret C Y hk hn dX9_compare_56 H
    · replace H := H.2 (b2i_n0.mp c9)
      refine e_iconst C dX9_compare_51 ?_
      refine e_goto C 56 dX9_compare_52 (by decide) ?_
      exact e_iret C Y hk hn dX9_compare_56 H
  · replace H := H.2 (b2i_n0.mp c9)
    refine e_iload C 0 dX9_compare_35 rfl ?_
    refine e_if_eq C 44 (b2i_r _) dX9_compare_37 (by decide) (fun c9 => ?_) (fun c9 => ?_)
    · replace H := H.1 (b2i_0.mp c9)
      refine e_iconst C dX9_compare_44 ?_
      exact e_iret C Y hk hn dX9_compare_45 H
    · replace H := H.2 (b2i_n0.mp c9)
      refine e_iconst C dX9_compare_40 ?_
      refine e_goto C 45 dX9_compare_41 (by decide) ?_
      exact e_iret C Y hk hn dX9_compare_45 H
set_option maxRecDepth 4000 in
theorem B_X9_isCold_0 {g : Gs} {ad : Nat → Nat} {sk : (Nat → Nat) × (Nat → Nat)} {X : Cx} {mc ms k n : Nat} {PQ : Option Value → Mem → Prop} {PX : String → Mem → Prop} {M : Mem} {x1 : Int} (r1 : R32 x1) (hk : k ≤ mc) (hn : n ≤ ms) (C : OkB (wC g ad sk) X cX9_isCold RX9 2 2 mc ms) (Y : OkR (wC g ad sk) X (some .boolean) mc ms PQ PX) (H : (((0 ≤ x1 ∧ x1 < (M 4 0)) → (0 ≤ x1 ∧ x1 < 40) ∧ PQ (some (vI (M 49 x1))) M) ∧ (¬(0 ≤ x1 ∧ x1 < (M 4 0)) → (k + 1 ≤ mc ∧ n + 6 ≤ ms) ∧ PX "java/lang/IndexOutOfBoundsException" M))) : E (wC g ad sk) X k n M 0 [(0, .ref (ad 0)), (1, vI x1)] [] := by
  refine e_wf (fun hw0 => ?_)
  refine e_aload_n C 0 dX9_isCold_0 rfl ?_
  refine e_iload_n C 1 dX9_isCold_1 rfl ?_
  by_cases c1 : 0 ≤ x1 ∧ x1 < (M 4 0)
  case neg =>
    replace H := H.2 c1
    exact e_callVT (As := [vI x1]) (rest := []) (q0 := 0) (ci := 9) C Y mi_X9_requireGame ms_X9_requireGame mv_X9_requireGame ml_X9_119 (t_X9_requireGame r1 c1) (wlX_st rfl) rfl (by decide) (Nat.le_of_ble_eq_true rfl) H.1.1 H.1.2 dX9_isCold_2 rfl H.2
  replace H := H.1 c1
  refine e_callVD (As := [vI x1]) (rest := []) (q0 := 0) (ci := 9) C Y mi_X9_requireGame ms_X9_requireGame mv_X9_requireGame ml_X9_119 (s_X9_requireGame r1 c1) (wlX_st rfl) rfl (by decide) (Nat.le_of_ble_eq_true rfl) hk hn dX9_isCold_2 rfl ?_
  refine e_aload_n C 0 dX9_isCold_5 rfl ?_
  refine gX_9_12 C dX9_isCold_6 ?_
  refine gX_9_140 C dX9_isCold_9 ?_
  refine e_iload_n C 1 dX9_isCold_12 rfl ?_
  obtain ⟨o2, H⟩ := H
  refine e_aaldG C o2 dX9_isCold_13 ?_
  refine gX_9_160 C o2 dX9_isCold_14 ?_
  exact e_zret C Y hk hn (hw0.2.2.1 49 _ rfl) dX9_isCold_17 H
set_option maxRecDepth 4000 in
theorem B_X9_value_0 {g : Gs} {ad : Nat → Nat} {sk : (Nat → Nat) × (Nat → Nat)} {X : Cx} {mc ms k n : Nat} {PQ : Option Value → Mem → Prop} {PX : String → Mem → Prop} {M : Mem} {x1 : Int} (r1 : R32 x1) (hk : k ≤ mc) (hn : n ≤ ms) (C : OkB (wC g ad sk) X cX9_value RX9 2 2 mc ms) (Y : OkR (wC g ad sk) X (some .int) mc ms PQ PX) (H : (((0 ≤ x1 ∧ x1 < (M 4 0)) → (0 ≤ x1 ∧ x1 < 40) ∧ ((((M 49 x1) ≠ 0) → PQ (some (vI (M 50 x1))) M) ∧ (((M 49 x1) = 0) → (k + 1 ≤ mc ∧ n + 6 ≤ ms) ∧ PX "java/lang/IllegalStateException" M))) ∧ (¬(0 ≤ x1 ∧ x1 < (M 4 0)) → (k + 1 ≤ mc ∧ n + 6 ≤ ms) ∧ PX "java/lang/IndexOutOfBoundsException" M))) : E (wC g ad sk) X k n M 0 [(0, .ref (ad 0)), (1, vI x1)] [] := by
  refine e_wf (fun hw0 => ?_)
  refine e_aload_n C 0 dX9_value_0 rfl ?_
  refine e_iload_n C 1 dX9_value_1 rfl ?_
  by_cases c1 : 0 ≤ x1 ∧ x1 < (M 4 0)
  case neg =>
    replace H := H.2 c1
    exact e_callVT (As := [vI x1]) (rest := []) (q0 := 0) (ci := 9) C Y mi_X9_requireGame ms_X9_requireGame mv_X9_requireGame ml_X9_119 (t_X9_requireGame r1 c1) (wlX_st rfl) rfl (by decide) (Nat.le_of_ble_eq_true rfl) H.1.1 H.1.2 dX9_value_2 rfl H.2
  replace H := H.1 c1
  refine e_callVD (As := [vI x1]) (rest := []) (q0 := 0) (ci := 9) C Y mi_X9_requireGame ms_X9_requireGame mv_X9_requireGame ml_X9_119 (s_X9_requireGame r1 c1) (wlX_st rfl) rfl (by decide) (Nat.le_of_ble_eq_true rfl) hk hn dX9_value_2 rfl ?_
  refine e_aload_n C 0 dX9_value_5 rfl ?_
  refine gX_9_12 C dX9_value_6 ?_
  refine gX_9_140 C dX9_value_9 ?_
  refine e_iload_n C 1 dX9_value_12 rfl ?_
  obtain ⟨o2, H⟩ := H
  refine e_aaldG C o2 dX9_value_13 ?_
  refine gX_9_160 C o2 dX9_value_14 ?_
  refine e_if_ne C 30 (hw0.2.1 49 _ rfl) dX9_value_17 (by decide) (fun c9 => ?_) (fun c9 => ?_)
  · replace H := H.1 c9
    refine e_aload_n C 0 dX9_value_30 rfl ?_
    refine gX_9_12 C dX9_value_31 ?_
    refine gX_9_140 C dX9_value_34 ?_
    refine e_iload_n C 1 dX9_value_37 rfl ?_
    refine e_aaldG C o2 dX9_value_38 ?_
    refine gX_9_166 C o2 dX9_value_39 ?_
    exact e_iret C Y hk hn dX9_value_42 H
  · replace H := H.2 c9
    exact th_IS (is := 164) (text := "the game is hot") (by decide +kernel) C Y (by decide) (Nat.le_of_ble_eq_true rfl) H.1.1 H.1.2 ⟨⟨dX9_value_20, dX9_value_23⟩, Or.inl ⟨dX9_value_24, dX9_value_26, dX9_value_29⟩⟩ H.2
set_option maxRecDepth 4000 in
theorem B_X9_mean_0 {g : Gs} {ad : Nat → Nat} {sk : (Nat → Nat) × (Nat → Nat)} {X : Cx} {mc ms k n : Nat} {PQ : Option Value → Mem → Prop} {PX : String → Mem → Prop} {M : Mem} {x1 : Int} (r1 : R32 x1) (hk : k ≤ mc) (hn : n ≤ ms) (C : OkB (wC g ad sk) X cX9_mean RX9 2 2 mc ms) (Y : OkR (wC g ad sk) X (some .int) mc ms PQ PX) (H : (((0 ≤ x1 ∧ x1 < (M 4 0)) → (0 ≤ x1 ∧ x1 < 40) ∧ PQ (some (vI (M 50 x1))) M) ∧ (¬(0 ≤ x1 ∧ x1 < (M 4 0)) → (k + 1 ≤ mc ∧ n + 6 ≤ ms) ∧ PX "java/lang/IndexOutOfBoundsException" M))) : E (wC g ad sk) X k n M 0 [(0, .ref (ad 0)), (1, vI x1)] [] := by
  refine e_wf (fun hw0 => ?_)
  refine e_aload_n C 0 dX9_mean_0 rfl ?_
  refine e_iload_n C 1 dX9_mean_1 rfl ?_
  by_cases c1 : 0 ≤ x1 ∧ x1 < (M 4 0)
  case neg =>
    replace H := H.2 c1
    exact e_callVT (As := [vI x1]) (rest := []) (q0 := 0) (ci := 9) C Y mi_X9_requireGame ms_X9_requireGame mv_X9_requireGame ml_X9_119 (t_X9_requireGame r1 c1) (wlX_st rfl) rfl (by decide) (Nat.le_of_ble_eq_true rfl) H.1.1 H.1.2 dX9_mean_2 rfl H.2
  replace H := H.1 c1
  refine e_callVD (As := [vI x1]) (rest := []) (q0 := 0) (ci := 9) C Y mi_X9_requireGame ms_X9_requireGame mv_X9_requireGame ml_X9_119 (s_X9_requireGame r1 c1) (wlX_st rfl) rfl (by decide) (Nat.le_of_ble_eq_true rfl) hk hn dX9_mean_2 rfl ?_
  refine e_aload_n C 0 dX9_mean_5 rfl ?_
  refine gX_9_12 C dX9_mean_6 ?_
  refine gX_9_140 C dX9_mean_9 ?_
  refine e_iload_n C 1 dX9_mean_12 rfl ?_
  obtain ⟨o2, H⟩ := H
  refine e_aaldG C o2 dX9_mean_13 ?_
  refine gX_9_166 C o2 dX9_mean_14 ?_
  exact e_iret C Y hk hn dX9_mean_17 H
set_option maxRecDepth 4000 in
theorem B_X9_temperature_0 {g : Gs} {ad : Nat → Nat} {sk : (Nat → Nat) × (Nat → Nat)} {X : Cx} {mc ms k n : Nat} {PQ : Option Value → Mem → Prop} {PX : String → Mem → Prop} {M : Mem} {x1 : Int} (r1 : R32 x1) (hk : k ≤ mc) (hn : n ≤ ms) (C : OkB (wC g ad sk) X cX9_temperature RX9 2 2 mc ms) (Y : OkR (wC g ad sk) X (some .int) mc ms PQ PX) (H : (((0 ≤ x1 ∧ x1 < (M 4 0)) → (0 ≤ x1 ∧ x1 < 40) ∧ PQ (some (vI (M 51 x1))) M) ∧ (¬(0 ≤ x1 ∧ x1 < (M 4 0)) → (k + 1 ≤ mc ∧ n + 6 ≤ ms) ∧ PX "java/lang/IndexOutOfBoundsException" M))) : E (wC g ad sk) X k n M 0 [(0, .ref (ad 0)), (1, vI x1)] [] := by
  refine e_wf (fun hw0 => ?_)
  refine e_aload_n C 0 dX9_temperature_0 rfl ?_
  refine e_iload_n C 1 dX9_temperature_1 rfl ?_
  by_cases c1 : 0 ≤ x1 ∧ x1 < (M 4 0)
  case neg =>
    replace H := H.2 c1
    exact e_callVT (As := [vI x1]) (rest := []) (q0 := 0) (ci := 9) C Y mi_X9_requireGame ms_X9_requireGame mv_X9_requireGame ml_X9_119 (t_X9_requireGame r1 c1) (wlX_st rfl) rfl (by decide) (Nat.le_of_ble_eq_true rfl) H.1.1 H.1.2 dX9_temperature_2 rfl H.2
  replace H := H.1 c1
  refine e_callVD (As := [vI x1]) (rest := []) (q0 := 0) (ci := 9) C Y mi_X9_requireGame ms_X9_requireGame mv_X9_requireGame ml_X9_119 (s_X9_requireGame r1 c1) (wlX_st rfl) rfl (by decide) (Nat.le_of_ble_eq_true rfl) hk hn dX9_temperature_2 rfl ?_
  refine e_aload_n C 0 dX9_temperature_5 rfl ?_
  refine gX_9_12 C dX9_temperature_6 ?_
  refine gX_9_140 C dX9_temperature_9 ?_
  refine e_iload_n C 1 dX9_temperature_12 rfl ?_
  obtain ⟨o2, H⟩ := H
  refine e_aaldG C o2 dX9_temperature_13 ?_
  refine gX_9_177 C o2 dX9_temperature_14 ?_
  exact e_iret C Y hk hn dX9_temperature_17 H
set_option maxRecDepth 4000 in
theorem B_X9_add_0 {g : Gs} {ad : Nat → Nat} {sk : (Nat → Nat) × (Nat → Nat)} {X : Cx} {mc ms k n : Nat} {PQ : Option Value → Mem → Prop} {PX : String → Mem → Prop} {M : Mem} {x1 : Int} (r1 : R32 x1) (hk : k ≤ mc) (hn : n ≤ ms) (C : OkB (wC g ad sk) X cX9_add RX9 2 2 mc ms) (Y : OkR (wC g ad sk) X (some .int) mc ms PQ PX) (H : (((0 ≤ x1 ∧ x1 < (M 4 0)) → ((((M 11 0) < 4) → ∃ Q4 : Mem → Prop, SpV (wC g ad sk) yX3_save cX3_save 5 none 1 [.ref (ad 8), vI (M 4 0), .ref (ad 2)] M Q4 ∧ ∀ M3 : Mem, Q4 M3 → ∃ Q8 : Mem → Prop, SpV (wC g ad sk) yX7_append cX7_append 2 none 1 [.ref (ad 2), vI x1] M3 Q8 ∧ ∀ M7 : Mem, Q8 M7 → PQ (some (vI (M7 11 0))) M7) ∧ ((4 ≤ (M 11 0)) → (k + 1 ≤ mc ∧ n + 6 ≤ ms) ∧ PX "java/lang/IllegalStateException" M))) ∧ (¬(0 ≤ x1 ∧ x1 < (M 4 0)) → (k + 1 ≤ mc ∧ n + 6 ≤ ms) ∧ PX "java/lang/IndexOutOfBoundsException" M))) : E (wC g ad sk) X k n M 0 [(0, .ref (ad 0)), (1, vI x1)] [] := by
  refine e_wf (fun hw0 => ?_)
  refine e_aload_n C 0 dX9_add_0 rfl ?_
  refine e_iload_n C 1 dX9_add_1 rfl ?_
  by_cases c1 : 0 ≤ x1 ∧ x1 < (M 4 0)
  case neg =>
    replace H := H.2 c1
    exact e_callVT (As := [vI x1]) (rest := []) (q0 := 0) (ci := 9) C Y mi_X9_requireGame ms_X9_requireGame mv_X9_requireGame ml_X9_119 (t_X9_requireGame r1 c1) (wlX_st rfl) rfl (by decide) (Nat.le_of_ble_eq_true rfl) H.1.1 H.1.2 dX9_add_2 rfl H.2
  replace H := H.1 c1
  refine e_callVD (As := [vI x1]) (rest := []) (q0 := 0) (ci := 9) C Y mi_X9_requireGame ms_X9_requireGame mv_X9_requireGame ml_X9_119 (s_X9_requireGame r1 c1) (wlX_st rfl) rfl (by decide) (Nat.le_of_ble_eq_true rfl) hk hn dX9_add_2 rfl ?_
  refine e_aload_n C 0 dX9_add_5 rfl ?_
  refine gX_9_19 C dX9_add_6 ?_
  refine gX_9_190 C dX9_add_9 ?_
  refine e_iconst C dX9_add_12 ?_
  refine e_icmp_lt C 26 (hw0.2.1 11 _ rfl) (by decide) dX9_add_13 (by decide) (fun c9 => ?_) (fun c9 => ?_)
  · replace H := H.1 c9
    refine e_aload_n C 0 dX9_add_26 rfl ?_
    refine gX_9_65 C dX9_add_27 ?_
    refine e_aload_n C 0 dX9_add_30 rfl ?_
    refine gX_9_12 C dX9_add_31 ?_
    refine gX_9_100 C dX9_add_34 ?_
    refine e_aload_n C 0 dX9_add_37 rfl ?_
    refine gX_9_19 C dX9_add_38 ?_
    obtain ⟨Q4, h2, H⟩ := H
    refine e_callVV (As := [vI (M 4 0), .ref (ad 2)]) (rest := []) (q0 := 8) (ci := 3) C Y mi_X3_save ms_X3_save mv_X3_save ml_X9_115 h2 (wlX_st rfl) rfl (by decide) (Nat.le_of_ble_eq_true rfl) hk hn dX9_add_41 rfl (fun M3 hq9 => ?_)
    replace H := H M3 hq9
    refine e_wf (fun hw5 => ?_)
    refine e_aload_n C 0 dX9_add_44 rfl ?_
    refine gX_9_19 C dX9_add_45 ?_
    refine e_iload_n C 1 dX9_add_48 rfl ?_
    obtain ⟨Q8, h6, H⟩ := H
    refine e_callVV (As := [vI x1]) (rest := []) (q0 := 2) (ci := 7) C Y mi_X7_append ms_X7_append mv_X7_append ml_X9_96 h6 (wlX_st rfl) rfl (by decide) (Nat.le_of_ble_eq_true rfl) hk hn dX9_add_49 rfl (fun M7 hq9 => ?_)
    replace H := H M7 hq9
    refine e_wf (fun hw9 => ?_)
    refine e_aload_n C 0 dX9_add_52 rfl ?_
    refine gX_9_19 C dX9_add_53 ?_
    refine gX_9_190 C dX9_add_56 ?_
    exact e_iret C Y hk hn dX9_add_59 H
  · replace H := H.2 c9
    exact th_IS (is := 191) (text := "there are 4 components") (by decide +kernel) C Y (by decide) (Nat.le_of_ble_eq_true rfl) H.1.1 H.1.2 ⟨⟨dX9_add_16, dX9_add_19⟩, Or.inl ⟨dX9_add_20, dX9_add_22, dX9_add_25⟩⟩ H.2
set_option maxRecDepth 4000 in
theorem B_X9_remove_0 {g : Gs} {ad : Nat → Nat} {sk : (Nat → Nat) × (Nat → Nat)} {X : Cx} {mc ms k n : Nat} {PQ : Option Value → Mem → Prop} {PX : String → Mem → Prop} {M : Mem} {x1 : Int} (r1 : R32 x1) (hk : k ≤ mc) (hn : n ≤ ms) (C : OkB (wC g ad sk) X cX9_remove RX9 2 2 mc ms) (Y : OkR (wC g ad sk) X (some .int) mc ms PQ PX) (H : (((0 ≤ x1 ∧ x1 < (M 11 0)) → ∃ Q4 : Mem → Prop, SpV (wC g ad sk) yX3_save cX3_save 5 none 1 [.ref (ad 8), vI (M 4 0), .ref (ad 2)] M Q4 ∧ ∀ M3 : Mem, Q4 M3 → ∃ Q8 : Int → Mem → Prop, SpI (wC g ad sk) yX7_takeOut cX7_takeOut 4 (some .int) 1 [.ref (ad 2), vI x1] M3 Q8 ∧ ∀ (z9 : Int) (M7 : Mem), Q8 z9 M7 → R32 z9 ∧ PQ (some (vI z9)) M7) ∧ (¬(0 ≤ x1 ∧ x1 < (M 11 0)) → (k + 1 ≤ mc ∧ n + 6 ≤ ms) ∧ PX "java/lang/IndexOutOfBoundsException" M))) : E (wC g ad sk) X k n M 0 [(0, .ref (ad 0)), (1, vI x1)] [] := by
  refine e_wf (fun hw0 => ?_)
  refine e_aload_n C 0 dX9_remove_0 rfl ?_
  refine e_iload_n C 1 dX9_remove_1 rfl ?_
  by_cases c1 : 0 ≤ x1 ∧ x1 < (M 11 0)
  case neg =>
    replace H := H.2 c1
    exact e_callVT (As := [vI x1]) (rest := []) (q0 := 0) (ci := 9) C Y mi_X9_requireComponent ms_X9_requireComponent mv_X9_requireComponent ml_X9_193 (t_X9_requireComponent r1 c1) (wlX_st rfl) rfl (by decide) (Nat.le_of_ble_eq_true rfl) H.1.1 H.1.2 dX9_remove_2 rfl H.2
  replace H := H.1 c1
  refine e_callVD (As := [vI x1]) (rest := []) (q0 := 0) (ci := 9) C Y mi_X9_requireComponent ms_X9_requireComponent mv_X9_requireComponent ml_X9_193 (s_X9_requireComponent r1 c1) (wlX_st rfl) rfl (by decide) (Nat.le_of_ble_eq_true rfl) hk hn dX9_remove_2 rfl ?_
  refine e_aload_n C 0 dX9_remove_5 rfl ?_
  refine gX_9_65 C dX9_remove_6 ?_
  refine e_aload_n C 0 dX9_remove_9 rfl ?_
  refine gX_9_12 C dX9_remove_10 ?_
  refine gX_9_100 C dX9_remove_13 ?_
  refine e_aload_n C 0 dX9_remove_16 rfl ?_
  refine gX_9_19 C dX9_remove_17 ?_
  obtain ⟨Q4, h2, H⟩ := H
  refine e_callVV (As := [vI (M 4 0), .ref (ad 2)]) (rest := []) (q0 := 8) (ci := 3) C Y mi_X3_save ms_X3_save mv_X3_save ml_X9_115 h2 (wlX_st rfl) rfl (by decide) (Nat.le_of_ble_eq_true rfl) hk hn dX9_remove_20 rfl (fun M3 hq9 => ?_)
  replace H := H M3 hq9
  refine e_wf (fun hw5 => ?_)
  refine e_aload_n C 0 dX9_remove_23 rfl ?_
  refine gX_9_19 C dX9_remove_24 ?_
  refine e_iload_n C 1 dX9_remove_27 rfl ?_
  obtain ⟨Q8, h6, H⟩ := H
  refine e_callVI (As := [vI x1]) (rest := []) (q0 := 2) (ci := 7) C Y mi_X7_takeOut ms_X7_takeOut mv_X7_takeOut ml_X9_196 h6 (wlX_st rfl) rfl (by decide) (Nat.le_of_ble_eq_true rfl) hk hn dX9_remove_28 rfl (fun z9 M7 hq9 => ?_)
  obtain ⟨o10, H⟩ := H z9 M7 hq9
  refine e_wf (fun hw11 => ?_)
  exact e_iret C Y hk hn dX9_remove_31 H
set_option maxRecDepth 4000 in
theorem B_X9_component_0 {g : Gs} {ad : Nat → Nat} {sk : (Nat → Nat) × (Nat → Nat)} {X : Cx} {mc ms k n : Nat} {PQ : Option Value → Mem → Prop} {PX : String → Mem → Prop} {M : Mem} {x1 : Int} (r1 : R32 x1) (hk : k ≤ mc) (hn : n ≤ ms) (C : OkB (wC g ad sk) X cX9_component RX9 2 2 mc ms) (Y : OkR (wC g ad sk) X (some .int) mc ms PQ PX) (H : (((0 ≤ x1 ∧ x1 < (M 11 0)) → (0 ≤ x1 ∧ x1 < 4) ∧ PQ (some (vI (M 10 x1))) M) ∧ (¬(0 ≤ x1 ∧ x1 < (M 11 0)) → (k + 1 ≤ mc ∧ n + 6 ≤ ms) ∧ PX "java/lang/IndexOutOfBoundsException" M))) : E (wC g ad sk) X k n M 0 [(0, .ref (ad 0)), (1, vI x1)] [] := by
  refine e_wf (fun hw0 => ?_)
  refine e_aload_n C 0 dX9_component_0 rfl ?_
  refine e_iload_n C 1 dX9_component_1 rfl ?_
  by_cases c1 : 0 ≤ x1 ∧ x1 < (M 11 0)
  case neg =>
    replace H := H.2 c1
    exact e_callVT (As := [vI x1]) (rest := []) (q0 := 0) (ci := 9) C Y mi_X9_requireComponent ms_X9_requireComponent mv_X9_requireComponent ml_X9_193 (t_X9_requireComponent r1 c1) (wlX_st rfl) rfl (by decide) (Nat.le_of_ble_eq_true rfl) H.1.1 H.1.2 dX9_component_2 rfl H.2
  replace H := H.1 c1
  refine e_callVD (As := [vI x1]) (rest := []) (q0 := 0) (ci := 9) C Y mi_X9_requireComponent ms_X9_requireComponent mv_X9_requireComponent ml_X9_193 (s_X9_requireComponent r1 c1) (wlX_st rfl) rfl (by decide) (Nat.le_of_ble_eq_true rfl) hk hn dX9_component_2 rfl ?_
  refine e_aload_n C 0 dX9_component_5 rfl ?_
  refine gX_9_19 C dX9_component_6 ?_
  refine gX_9_199 C dX9_component_9 ?_
  refine e_iload_n C 1 dX9_component_12 rfl ?_
  obtain ⟨o2, H⟩ := H
  refine aX_19 C o2 dX9_component_13 ?_
  exact e_iret C Y hk hn dX9_component_14 H
set_option maxRecDepth 4000 in
theorem B_X9_move_0 {g : Gs} {ad : Nat → Nat} {sk : (Nat → Nat) × (Nat → Nat)} {X : Cx} {mc ms k n : Nat} {PQ : Option Value → Mem → Prop} {PX : String → Mem → Prop} {M : Mem} {x1 x2 x3 : Int} (r1 : R32 x1) (r2 : R32 x2) (r3 : R32 x3) (hk : k ≤ mc) (hn : n ≤ ms) (C : OkB (wC g ad sk) X cX9_move RX9 6 2 mc ms) (Y : OkR (wC g ad sk) X (some .int) mc ms PQ PX) (H : (((0 ≤ x1 ∧ x1 < (M 11 0)) → (((x2 = 0 ∨ x2 = 1) → ((0 ≤ x1 ∧ x1 < 4) ∧ (0 ≤ M 10 x1 ∧ M 10 x1 < 40) ∧ ((0 ≤ x2 ∧ x2 ≤ 1) ∧ M 41 (40 * x2 + (M 10 x1)) ≤ 4)) ∧ ((((optAt M (M 10 x1) x2 x3) ≠ (-1)) → ((((M 49 (M 10 x1)) = 0) → ∃ Q8 : Mem → Prop, SpV (wC g ad sk) yX3_save cX3_save 5 none 1 [.ref (ad 8), vI (M 4 0), .ref (ad 2)] M Q8 ∧ ∀ M7 : Mem, Q8 M7 → PQ (some (vI (optAt M (M 10 x1) x2 x3))) (up M7 10 x1 (optAt M (M 10 x1) x2 x3))) ∧ (((M 49 (M 10 x1)) ≠ 0) → (k + 1 ≤ mc ∧ n + 6 ≤ ms) ∧ PX "java/lang/IllegalStateException" M))) ∧ (((optAt M (M 10 x1) x2 x3) = (-1)) → (k + 1 ≤ mc ∧ n + 6 ≤ ms) ∧ PX "java/lang/IllegalArgumentException" M))) ∧ (¬(x2 = 0 ∨ x2 = 1) → (k + 1 ≤ mc ∧ n + 6 ≤ ms) ∧ PX "java/lang/IllegalArgumentException" M))) ∧ (¬(0 ≤ x1 ∧ x1 < (M 11 0)) → (k + 1 ≤ mc ∧ n + 6 ≤ ms) ∧ PX "java/lang/IndexOutOfBoundsException" M))) : E (wC g ad sk) X k n M 0 [(0, .ref (ad 0)), (1, vI x1), (2, vI x2), (3, vI x3)] [] := by
  refine e_wf (fun hw0 => ?_)
  refine e_aload_n C 0 dX9_move_0 rfl ?_
  refine e_iload_n C 1 dX9_move_1 rfl ?_
  by_cases c1 : 0 ≤ x1 ∧ x1 < (M 11 0)
  case neg =>
    replace H := H.2 c1
    exact e_callVT (As := [vI x1]) (rest := []) (q0 := 0) (ci := 9) C Y mi_X9_requireComponent ms_X9_requireComponent mv_X9_requireComponent ml_X9_193 (t_X9_requireComponent r1 c1) (wlX_st rfl) rfl (by decide) (Nat.le_of_ble_eq_true rfl) H.1.1 H.1.2 dX9_move_2 rfl H.2
  replace H := H.1 c1
  refine e_callVD (As := [vI x1]) (rest := []) (q0 := 0) (ci := 9) C Y mi_X9_requireComponent ms_X9_requireComponent mv_X9_requireComponent ml_X9_193 (s_X9_requireComponent r1 c1) (wlX_st rfl) rfl (by decide) (Nat.le_of_ble_eq_true rfl) hk hn dX9_move_2 rfl ?_
  refine e_iload_n C 2 dX9_move_5 rfl ?_
  by_cases c2 : x2 = 0 ∨ x2 = 1
  case neg =>
    replace H := H.2 c2
    exact e_callST (As := [vI x2]) (rest := []) C Y mi_X9_requireSide ms_X9_requireSide ml_X9_122 (t_X9_requireSide r2 c2) (by decide) (Nat.le_of_ble_eq_true rfl) H.1.1 H.1.2 dX9_move_6 rfl H.2
  replace H := H.1 c2
  refine e_callSD (As := [vI x2]) (rest := []) C Y mi_X9_requireSide ms_X9_requireSide ml_X9_122 (s_X9_requireSide r2 c2) (by decide) (Nat.le_of_ble_eq_true rfl) hk hn dX9_move_6 rfl ?_
  refine e_aload_n C 0 dX9_move_9 rfl ?_
  refine gX_9_12 C dX9_move_10 ?_
  refine gX_9_140 C dX9_move_13 ?_
  refine e_aload_n C 0 dX9_move_16 rfl ?_
  refine gX_9_19 C dX9_move_17 ?_
  refine gX_9_199 C dX9_move_20 ?_
  refine e_iload_n C 1 dX9_move_23 rfl ?_
  obtain ⟨⟨o3, o4, o5⟩, H⟩ := H
  refine aX_19 C o3 dX9_move_24 ?_
  refine e_aaldG C o4 dX9_move_25 ?_
  refine e_astore C dX9_move_26 (by decide) rfl ?_
  refine e_aload C 0 dX9_move_28 rfl ?_
  refine e_iload_n C 3 dX9_move_30 rfl ?_
  refine e_iload_n C 4 dX9_move_31 rfl ?_
  refine e_callVD (As := [vI x2, vI x3]) (rest := []) (ci := 2) C Y mi_X2_optionAt ms_X2_optionAt mv_X2_optionAt ml_X9_149 (s_X2_optionAt o4 r2 r3 o5) (heG o4) rfl (by decide) (Nat.le_of_ble_eq_true rfl) hk hn dX9_move_32 rfl ?_
  refine e_istore C dX9_move_35 (by decide) rfl ?_
  refine e_iload C 0 dX9_move_37 rfl ?_
  refine e_iconst C dX9_move_39 ?_
  refine e_icmp_ne C 53 (optAt_r hw0 _ _ _) (by decide) dX9_move_40 (by decide) (fun c9 => ?_) (fun c9 => ?_)
  · replace H := H.1 c9
    refine e_aload C 1 dX9_move_53 rfl ?_
    refine gX_9_160 C o4 dX9_move_55 ?_
    refine e_if_eq C 71 (hw0.2.1 49 _ rfl) dX9_move_58 (by decide) (fun c9 => ?_) (fun c9 => ?_)
    · replace H := H.1 c9
      refine e_aload_n C 2 dX9_move_71 rfl ?_
      refine gX_9_65 C dX9_move_72 ?_
      refine e_aload_n C 2 dX9_move_75 rfl ?_
      refine gX_9_12 C dX9_move_76 ?_
      refine gX_9_100 C dX9_move_79 ?_
      refine e_aload_n C 2 dX9_move_82 rfl ?_
      refine gX_9_19 C dX9_move_83 ?_
      obtain ⟨Q8, h6, H⟩ := H
      refine e_callVV (As := [vI (M 4 0), .ref (ad 2)]) (rest := []) (q0 := 8) (ci := 3) C Y mi_X3_save ms_X3_save mv_X3_save ml_X9_115 h6 (wlX_st rfl) rfl (by decide) (Nat.le_of_ble_eq_true rfl) hk hn dX9_move_86 rfl (fun M7 hq9 => ?_)
      replace H := H M7 hq9
      refine e_wf (fun hw9 => ?_)
      refine e_aload_n C 2 dX9_move_89 rfl ?_
      refine gX_9_19 C dX9_move_90 ?_
      refine gX_9_199 C dX9_move_93 ?_
      refine e_iload_n C 3 dX9_move_96 rfl ?_
      refine e_iload C 0 dX9_move_97 rfl ?_
      refine sX_19 C o3 (optAt_r hw0 _ _ _) dX9_move_99 ?_
      refine e_wf (fun hw10 => ?_)
      refine e_iload C 0 dX9_move_100 rfl ?_
      exact e_iret C Y hk hn dX9_move_102 H
    · replace H := H.2 c9
      exact th_IS (is := 203) (text := "the component is cold") (by decide +kernel) C Y (by decide) (Nat.le_of_ble_eq_true rfl) H.1.1 H.1.2 ⟨⟨dX9_move_61, dX9_move_64⟩, Or.inl ⟨dX9_move_65, dX9_move_67, dX9_move_70⟩⟩ H.2
  · replace H := H.2 c9
    exact th_IA (is := 201) (text := "there is no such option") (by decide +kernel) C Y (by decide) (Nat.le_of_ble_eq_true rfl) H.1.1 H.1.2 ⟨⟨dX9_move_43, dX9_move_46⟩, Or.inl ⟨dX9_move_47, dX9_move_49, dX9_move_52⟩⟩ H.2
set_option maxRecDepth 4000 in
theorem B_X9_size_0 {g : Gs} {ad : Nat → Nat} {sk : (Nat → Nat) × (Nat → Nat)} {X : Cx} {mc ms k n : Nat} {PQ : Option Value → Mem → Prop} {PX : String → Mem → Prop} {M : Mem}  (hk : k ≤ mc) (hn : n ≤ ms) (C : OkB (wC g ad sk) X cX9_size RX9 3 2 mc ms) (Y : OkR (wC g ad sk) X (some .int) mc ms PQ PX) (H : E (wC g ad sk) X k n M 4 [(0, .ref (ad 0)), (1, vI 1), (2, vI 0)] []) : E (wC g ad sk) X k n M 0 [(0, .ref (ad 0))] [] := by
  refine e_wf (fun hw0 => ?_)
  refine e_iconst C dX9_size_0 ?_
  refine e_istore_n C dX9_size_1 (by decide) rfl ?_
  refine e_iconst C dX9_size_2 ?_
  refine e_istore_n C dX9_size_3 (by decide) rfl ?_
  exact e_sub [2, 1, 0] rfl H
set_option maxRecDepth 4000 in
theorem B_X9_size_4 {g : Gs} {ad : Nat → Nat} {sk : (Nat → Nat) × (Nat → Nat)} {X : Cx} {mc ms k n : Nat} {PQ : Option Value → Mem → Prop} {PX : String → Mem → Prop} {M : Mem} {x1 x2 : Int} (r1 : R32 x1) (r2 : R32 x2) (hk : k ≤ mc) (hn : n ≤ ms) (C : OkB (wC g ad sk) X cX9_size RX9 3 2 mc ms) (Y : OkR (wC g ad sk) X (some .int) mc ms PQ PX) (H : ((((M 11 0) ≤ x2) → PQ (some (vI x1)) M) ∧ ((x2 < (M 11 0)) → ((0 ≤ x2 ∧ x2 < 4) ∧ (0 ≤ M 10 x2 ∧ M 10 x2 < 40)) ∧ ∃ Q5 : Int → Mem → Prop, SpI (wC g ad sk) yJ13_bitCount_95d88 cJ13_bitCount_95d88 2 (some .int) 1 [vL (M 53 (M 10 x2))] M Q5 ∧ ∀ (z6 : Int) (M4 : Mem), Q5 z6 M4 → R32 z6 ∧ ((R32 (x1 * z6)) ∧ (R32 (x2 + 1))) ∧ E (wC g ad sk) X k n M4 4 [(0, .ref (ad 0)), (1, vI (x1 * z6)), (2, vI (x2 + 1))] []))) : E (wC g ad sk) X k n M 4 [(0, .ref (ad 0)), (1, vI x1), (2, vI x2)] [] := by
  refine e_wf (fun hw0 => ?_)
  refine e_iload_n C 2 dX9_size_4 rfl ?_
  refine e_aload_n C 0 dX9_size_5 rfl ?_
  refine gX_9_19 C dX9_size_6 ?_
  refine gX_9_190 C dX9_size_9 ?_
  refine e_icmp_ge C 47 r2 (hw0.2.1 11 _ rfl) dX9_size_12 (by decide) (fun c9 => ?_) (fun c9 => ?_)
  · replace H := H.1 c9
    refine e_iload_n C 1 dX9_size_47 rfl ?_
    exact e_iret C Y hk hn dX9_size_48 H
  · replace H := H.2 c9
    refine e_iload_n C 1 dX9_size_15 rfl ?_
    refine e_aload_n C 0 dX9_size_16 rfl ?_
    refine gX_9_12 C dX9_size_17 ?_
    refine gX_9_140 C dX9_size_20 ?_
    refine e_aload_n C 0 dX9_size_23 rfl ?_
    refine gX_9_19 C dX9_size_24 ?_
    refine gX_9_199 C dX9_size_27 ?_
    refine e_iload_n C 2 dX9_size_30 rfl ?_
    obtain ⟨⟨o1, o2⟩, H⟩ := H
    refine aX_19 C o1 dX9_size_31 ?_
    refine e_aaldG C o2 dX9_size_32 ?_
    refine gX_9_205 C o2 dX9_size_33 ?_
    obtain ⟨Q5, h3, H⟩ := H
    refine e_callSI (As := [vL (M 53 (M 10 x2))]) (rest := [vI x1]) C Y mi_J13_bitCount_95d88 ms_J13_bitCount_95d88 ml_X9_125 h3 (by decide) (Nat.le_of_ble_eq_true rfl) hk hn dX9_size_36 rfl (fun z6 M4 hq9 => ?_)
    obtain ⟨o7, H⟩ := H z6 M4 hq9
    refine e_wf (fun hw8 => ?_)
    obtain ⟨⟨o9, o10⟩, H⟩ := H
    refine e_imul C dX9_size_39 ?_
    refine e_istore_n C dX9_size_40 (by decide) rfl ?_
    refine e_iinc C 2 dX9_size_41 rfl (by decide) rfl ?_
    refine e_goto C 4 dX9_size_44 (by decide) ?_
    exact e_sub [2, 1, 0] rfl H
set_option maxRecDepth 4000 in
theorem B_X9_type_0 {g : Gs} {ad : Nat → Nat} {sk : (Nat → Nat) × (Nat → Nat)} {X : Cx} {mc ms k n : Nat} {PQ : Option Value → Mem → Prop} {PX : String → Mem → Prop} {M : Mem} {x1 : Int} (r1 : R32 x1) (hk : k ≤ mc) (hn : n ≤ ms) (C : OkB (wC g ad sk) X cX9_type RX9 2 2 mc ms) (Y : OkR (wC g ad sk) X (some .int) mc ms PQ PX) (H : (((x1 < 32) → (k + 1 ≤ mc ∧ n + 6 ≤ ms) ∧ PX "java/lang/IllegalArgumentException" M) ∧ ((32 ≤ x1) → (((x1 ≤ 126) → ((((M 23 0) < 80) → (0 ≤ x1 ∧ x1 < 65536) ∧ ∃ Q4 : Mem → Prop, SpV (wC g ad sk) yX8_append cX8_append 2 none 1 [.ref (ad 5), vI x1] M Q4 ∧ ∀ M3 : Mem, Q4 M3 → PQ (some (vI (M3 23 0))) M3) ∧ ((80 ≤ (M 23 0)) → (k + 1 ≤ mc ∧ n + 6 ≤ ms) ∧ PX "java/lang/IllegalStateException" M))) ∧ ((126 < x1) → (k + 1 ≤ mc ∧ n + 6 ≤ ms) ∧ PX "java/lang/IllegalArgumentException" M))))) : E (wC g ad sk) X k n M 0 [(0, .ref (ad 0)), (1, vI x1)] [] := by
  refine e_wf (fun hw0 => ?_)
  refine e_iload_n C 1 dX9_type_0 rfl ?_
  refine e_bipush C dX9_type_1 (by decide) ?_
  refine e_icmp_lt C 12 r1 (by decide) dX9_type_3 (by decide) (fun c9 => ?_) (fun c9 => ?_)
  · replace H := H.1 c9
    exact th_IA (is := 238) (text := "a character's code is from 32 to 126") (by decide +kernel) C Y (by decide) (Nat.le_of_ble_eq_true rfl) H.1.1 H.1.2 ⟨⟨dX9_type_12, dX9_type_15⟩, Or.inl ⟨dX9_type_16, dX9_type_18, dX9_type_21⟩⟩ H.2
  · replace H := H.2 c9
    refine e_iload_n C 1 dX9_type_6 rfl ?_
    refine e_bipush C dX9_type_7 (by decide) ?_
    refine e_icmp_le C 22 r1 (by decide) dX9_type_9 (by decide) (fun c9 => ?_) (fun c9 => ?_)
    · replace H := H.1 c9
      refine e_aload_n C 0 dX9_type_22 rfl ?_
      refine gX_9_44 C dX9_type_23 ?_
      refine gX_9_240 C dX9_type_26 ?_
      refine e_bipush C dX9_type_29 (by decide) ?_
      refine e_icmp_lt C 44 (hw0.2.1 23 _ rfl) (by decide) dX9_type_31 (by decide) (fun c9 => ?_) (fun c9 => ?_)
      · replace H := H.1 c9
        refine e_aload_n C 0 dX9_type_44 rfl ?_
        refine gX_9_44 C dX9_type_45 ?_
        refine e_iload_n C 1 dX9_type_48 rfl ?_
        obtain ⟨o1, H⟩ := H
        refine e_i2c C o1 dX9_type_49 ?_
        obtain ⟨Q4, h2, H⟩ := H
        refine e_callVV (As := [vI x1]) (rest := []) (q0 := 5) (ci := 8) C Y mi_X8_append ms_X8_append mv_X8_append ml_X9_245 h2 (wlX_st rfl) rfl (by decide) (Nat.le_of_ble_eq_true rfl) hk hn dX9_type_50 rfl (fun M3 hq9 => ?_)
        replace H := H M3 hq9
        refine e_wf (fun hw5 => ?_)
        refine e_aload_n C 0 dX9_type_53 rfl ?_
        refine gX_9_44 C dX9_type_54 ?_
        refine gX_9_240 C dX9_type_57 ?_
        exact e_iret C Y hk hn dX9_type_60 H
      · replace H := H.2 c9
        exact th_IS (is := 243) (text := "the text has 80 characters") (by decide +kernel) C Y (by decide) (Nat.le_of_ble_eq_true rfl) H.1.1 H.1.2 ⟨⟨dX9_type_34, dX9_type_37⟩, Or.inl ⟨dX9_type_38, dX9_type_40, dX9_type_43⟩⟩ H.2
    · replace H := H.2 c9
      exact th_IA (is := 238) (text := "a character's code is from 32 to 126") (by decide +kernel) C Y (by decide) (Nat.le_of_ble_eq_true rfl) H.1.1 H.1.2 ⟨⟨dX9_type_12, dX9_type_15⟩, Or.inl ⟨dX9_type_16, dX9_type_18, dX9_type_21⟩⟩ H.2
set_option maxRecDepth 4000 in
theorem B_X9_undo_0 {g : Gs} {ad : Nat → Nat} {sk : (Nat → Nat) × (Nat → Nat)} {X : Cx} {mc ms k n : Nat} {PQ : Option Value → Mem → Prop} {PX : String → Mem → Prop} {M : Mem}  (hk : k ≤ mc) (hn : n ≤ ms) (C : OkB (wC g ad sk) X cX9_undo RX9 3 2 mc ms) (Y : OkR (wC g ad sk) X (some .int) mc ms PQ PX) (H : ((((M 38 0) ≠ 0) → ∃ Q3 : Int → Mem → Prop, SpI (wC g ad sk) yX3_restore cX3_restore 4 (some .int) 1 [.ref (ad 8), .ref (ad 2)] M Q3 ∧ ∀ (z4 : Int) (M2 : Mem), Q3 z4 M2 → R32 z4 ∧ PQ (some (vI (M2 38 0))) (up (up (up M2 4 0 z4) 1 0 (landL (M2 1 0) ((lshlL 1 z4) - 1))) 1 1 (landL (M2 1 1) ((lshlL 1 z4) - 1)))) ∧ (((M 38 0) = 0) → (k + 1 ≤ mc ∧ n + 6 ≤ ms) ∧ PX "java/lang/IllegalStateException" M))) : E (wC g ad sk) X k n M 0 [(0, .ref (ad 0))] [] := by
  refine e_wf (fun hw0 => ?_)
  refine e_aload_n C 0 dX9_undo_0 rfl ?_
  refine gX_9_65 C dX9_undo_1 ?_
  refine gX_9_276 C dX9_undo_4 ?_
  refine e_if_ne C 21 (hw0.2.1 38 _ rfl) dX9_undo_7 (by decide) (fun c9 => ?_) (fun c9 => ?_)
  · replace H := H.1 c9
    refine e_aload_n C 0 dX9_undo_21 rfl ?_
    refine gX_9_12 C dX9_undo_22 ?_
    refine e_aload_n C 0 dX9_undo_25 rfl ?_
    refine gX_9_65 C dX9_undo_26 ?_
    refine e_aload_n C 0 dX9_undo_29 rfl ?_
    refine gX_9_19 C dX9_undo_30 ?_
    obtain ⟨Q3, h1, H⟩ := H
    refine e_callVI (As := [.ref (ad 2)]) (rest := [.ref (ad 1)]) (q0 := 8) (ci := 3) C Y mi_X3_restore ms_X3_restore mv_X3_restore ml_X9_279 h1 (wlX_st rfl) rfl (by decide) (Nat.le_of_ble_eq_true rfl) hk hn dX9_undo_33 rfl (fun z4 M2 hq9 => ?_)
    obtain ⟨o5, H⟩ := H z4 M2 hq9
    refine e_wf (fun hw6 => ?_)
    refine pX_9_100 C o5 dX9_undo_36 ?_
    refine e_wf (fun hw7 => ?_)
    refine e_aload_n C 0 dX9_undo_39 rfl ?_
    refine gX_9_12 C dX9_undo_40 ?_
    refine gX_9_100 C dX9_undo_43 ?_
    refine e_callSD (As := [vI z4]) (rest := []) C Y mi_X9_bit ms_X9_bit ml_X9_88 (s_X9_bit o5) (by decide) (Nat.le_of_ble_eq_true rfl) hk hn dX9_undo_46 rfl ?_
    refine e_lconst1 C dX9_undo_49 ?_
    refine e_lsub C dX9_undo_50 ?_
    refine e_lstore_n C dX9_undo_51 (by decide) rfl ?_
    refine e_aload_n C 1 dX9_undo_52 rfl ?_
    refine gX_9_69 C dX9_undo_53 ?_
    refine e_iconst C dX9_undo_56 ?_
    refine e_dup2 C rfl rfl dX9_undo_57 ?_
    refine aX_9 C (by decide) dX9_undo_58 ?_
    refine e_lload_n C 0 dX9_undo_59 rfl ?_
    refine e_land C dX9_undo_60 ?_
    refine sX_9 C (by decide) (r64_toInt _) dX9_undo_61 ?_
    refine e_wf (fun hw8 => ?_)
    refine e_aload_n C 1 dX9_undo_62 rfl ?_
    refine gX_9_69 C dX9_undo_63 ?_
    refine e_iconst C dX9_undo_66 ?_
    refine e_dup2 C rfl rfl dX9_undo_67 ?_
    refine aX_9 C (by decide) dX9_undo_68 ?_
    refine e_lload_n C 0 dX9_undo_69 rfl ?_
    refine e_land C dX9_undo_70 ?_
    refine sX_9 C (by decide) (r64_toInt _) dX9_undo_71 ?_
    refine e_wf (fun hw9 => ?_)
    refine e_aload_n C 1 dX9_undo_72 rfl ?_
    refine gX_9_65 C dX9_undo_73 ?_
    refine gX_9_276 C dX9_undo_76 ?_
    exact e_iret C Y hk hn dX9_undo_79 H
  · replace H := H.2 c9
    exact th_IS (is := 277) (text := "no state is saved") (by decide +kernel) C Y (by decide) (Nat.le_of_ble_eq_true rfl) H.1.1 H.1.2 ⟨⟨dX9_undo_10, dX9_undo_13⟩, Or.inr ⟨dX9_undo_14, dX9_undo_17, dX9_undo_20⟩⟩ H.2
set_option maxRecDepth 4000 in
theorem B_X9_mixGame_0 {g : Gs} {ad : Nat → Nat} {sk : (Nat → Nat) × (Nat → Nat)} {X : Cx} {mc ms k n : Nat} {PQ : Option Value → Mem → Prop} {PX : String → Mem → Prop} {M : Mem} {x0 x2 : Int} (r0 : R64 x0) (r2 : 0 ≤ x2 ∧ x2 < 40) (hk : k ≤ mc) (hn : n ≤ ms) (C : OkB (wC g ad sk) X cX9_mixGame RX9 7 2 mc ms) (Y : OkR (wC g ad sk) X (some .long) mc ms PQ PX) (H : ∃ Q3 : Int → Mem → Prop, SpL (wC g ad sk) yX9_mix cX9_mix 3 (some .long) 1 [vL x0, vI (M 47 x2)] M Q3 ∧ ∀ (z4 : Int) (M2 : Mem), Q3 z4 M2 → R64 z4 ∧ ∃ Q9 : Int → Mem → Prop, SpL (wC g ad sk) yX9_mix cX9_mix 3 (some .long) 1 [vL z4, vI (M2 41 (40 * 0 + x2))] M2 Q9 ∧ ∀ (z10 : Int) (M8 : Mem), Q9 z10 M8 → R64 z10 ∧ ∃ Q15 : Int → Mem → Prop, SpL (wC g ad sk) yX9_mix cX9_mix 3 (some .long) 1 [vL z10, vI (M8 41 (40 * 1 + x2))] M8 Q15 ∧ ∀ (z16 : Int) (M14 : Mem), Q15 z16 M14 → R64 z16 ∧ E (wC g ad sk) X k n M14 34 [(2, .ref (ad (44 + 6 * (Int.toNat x2)))), (3, vL z16), (5, vI 0)] []) : E (wC g ad sk) X k n M 0 [(0, vL x0), (2, .ref (ad (44 + 6 * (Int.toNat x2))))] [] := by
  refine e_wf (fun hw0 => ?_)
  refine e_lload_n C 0 dX9_mixGame_0 rfl ?_
  refine e_aload_n C 1 dX9_mixGame_1 rfl ?_
  refine gX_9_153 C r2 dX9_mixGame_2 ?_
  obtain ⟨Q3, h1, H⟩ := H
  refine e_callSL (As := [vL x0, vI (M 47 x2)]) (rest := []) C Y mi_X9_mix ms_X9_mix ml_X9_285 h1 (by decide) (Nat.le_of_ble_eq_true rfl) hk hn dX9_mixGame_5 rfl (fun z4 M2 hq9 => ?_)
  obtain ⟨o5, H⟩ := H z4 M2 hq9
  refine e_wf (fun hw6 => ?_)
  refine e_lstore_n C dX9_mixGame_8 (by decide) rfl ?_
  refine e_lload_n C 0 dX9_mixGame_9 rfl ?_
  refine e_aload_n C 2 dX9_mixGame_10 rfl ?_
  refine gX_9_144 C r2 dX9_mixGame_11 ?_
  refine e_iconst C dX9_mixGame_14 ?_
  refine aG_2 C r2 (by decide) dX9_mixGame_15 ?_
  obtain ⟨Q9, h7, H⟩ := H
  refine e_callSL (As := [vL z4, vI (M2 41 (40 * 0 + x2))]) (rest := []) C Y mi_X9_mix ms_X9_mix ml_X9_285 h7 (by decide) (Nat.le_of_ble_eq_true rfl) hk hn dX9_mixGame_16 rfl (fun z10 M8 hq9 => ?_)
  obtain ⟨o11, H⟩ := H z10 M8 hq9
  refine e_wf (fun hw12 => ?_)
  refine e_lstore_n C dX9_mixGame_19 (by decide) rfl ?_
  refine e_lload_n C 0 dX9_mixGame_20 rfl ?_
  refine e_aload_n C 2 dX9_mixGame_21 rfl ?_
  refine gX_9_144 C r2 dX9_mixGame_22 ?_
  refine e_iconst C dX9_mixGame_25 ?_
  refine aG_2 C r2 (by decide) dX9_mixGame_26 ?_
  obtain ⟨Q15, h13, H⟩ := H
  refine e_callSL (As := [vL z10, vI (M8 41 (40 * 1 + x2))]) (rest := []) C Y mi_X9_mix ms_X9_mix ml_X9_285 h13 (by decide) (Nat.le_of_ble_eq_true rfl) hk hn dX9_mixGame_27 rfl (fun z16 M14 hq9 => ?_)
  obtain ⟨o17, H⟩ := H z16 M14 hq9
  refine e_wf (fun hw18 => ?_)
  refine e_lstore_n C dX9_mixGame_30 (by decide) rfl ?_
  refine e_iconst C dX9_mixGame_31 ?_
  refine e_istore C dX9_mixGame_32 (by decide) rfl ?_
  exact e_sub [3, 1, 0] rfl H
set_option maxRecDepth 4000 in
theorem B_X9_mixGame_34 {g : Gs} {ad : Nat → Nat} {sk : (Nat → Nat) × (Nat → Nat)} {X : Cx} {mc ms k n : Nat} {PQ : Option Value → Mem → Prop} {PX : String → Mem → Prop} {M : Mem} {x2 x3 x5 : Int} (r2 : 0 ≤ x2 ∧ x2 < 40) (r3 : R64 x3) (r5 : R32 x5) (hk : k ≤ mc) (hn : n ≤ ms) (C : OkB (wC g ad sk) X cX9_mixGame RX9 7 2 mc ms) (Y : OkR (wC g ad sk) X (some .long) mc ms PQ PX) (H : (((1 < x5) → ∃ Q3 : Int → Mem → Prop, SpL (wC g ad sk) yX9_mix cX9_mix 3 (some .long) 1 [vL x3, vI (M 50 x2)] M Q3 ∧ ∀ (z4 : Int) (M2 : Mem), Q3 z4 M2 → R64 z4 ∧ ∃ Q9 : Int → Mem → Prop, SpL (wC g ad sk) yX9_mix cX9_mix 3 (some .long) 1 [vL z4, vI (M2 51 x2)] M2 Q9 ∧ ∀ (z10 : Int) (M8 : Mem), Q9 z10 M8 → R64 z10 ∧ ∃ Q15 : Int → Mem → Prop, SpL (wC g ad sk) yX9_mix cX9_mix 3 (some .long) 1 [vL z10, vI (M8 43 (40 * 0 + x2))] M8 Q15 ∧ ∀ (z16 : Int) (M14 : Mem), Q15 z16 M14 → R64 z16 ∧ ∃ Q21 : Int → Mem → Prop, SpL (wC g ad sk) yX9_mix cX9_mix 3 (some .long) 1 [vL z16, vI (M14 43 (40 * 1 + x2))] M14 Q21 ∧ ∀ (z22 : Int) (M20 : Mem), Q21 z22 M20 → R64 z22 ∧ PQ (some (vL z22)) M20) ∧ ((x5 ≤ 1) → E (wC g ad sk) X k n M 43 [(2, .ref (ad (44 + 6 * (Int.toNat x2)))), (3, vL x3), (5, vI x5), (6, vI 0)] []))) : E (wC g ad sk) X k n M 34 [(2, .ref (ad (44 + 6 * (Int.toNat x2)))), (3, vL x3), (5, vI x5)] [] := by
  refine e_wf (fun hw0 => ?_)
  refine e_iload C 2 dX9_mixGame_34 rfl ?_
  refine e_iconst C dX9_mixGame_36 ?_
  refine e_icmp_gt C 80 r5 (by decide) dX9_mixGame_37 (by decide) (fun c9 => ?_) (fun c9 => ?_)
  · replace H := H.1 c9
    refine e_lload_n C 1 dX9_mixGame_80 rfl ?_
    refine e_aload_n C 0 dX9_mixGame_81 rfl ?_
    refine gX_9_166 C r2 dX9_mixGame_82 ?_
    obtain ⟨Q3, h1, H⟩ := H
    refine e_callSL (As := [vL x3, vI (M 50 x2)]) (rest := []) C Y mi_X9_mix ms_X9_mix ml_X9_285 h1 (by decide) (Nat.le_of_ble_eq_true rfl) hk hn dX9_mixGame_85 rfl (fun z4 M2 hq9 => ?_)
    obtain ⟨o5, H⟩ := H z4 M2 hq9
    refine e_wf (fun hw6 => ?_)
    refine e_lstore_n C dX9_mixGame_88 (by decide) rfl ?_
    refine e_lload_n C 0 dX9_mixGame_89 rfl ?_
    refine e_aload_n C 1 dX9_mixGame_90 rfl ?_
    refine gX_9_177 C r2 dX9_mixGame_91 ?_
    obtain ⟨Q9, h7, H⟩ := H
    refine e_callSL (As := [vL z4, vI (M2 51 x2)]) (rest := []) C Y mi_X9_mix ms_X9_mix ml_X9_285 h7 (by decide) (Nat.le_of_ble_eq_true rfl) hk hn dX9_mixGame_94 rfl (fun z10 M8 hq9 => ?_)
    obtain ⟨o11, H⟩ := H z10 M8 hq9
    refine e_wf (fun hw12 => ?_)
    refine e_lstore_n C dX9_mixGame_97 (by decide) rfl ?_
    refine e_lload_n C 0 dX9_mixGame_98 rfl ?_
    refine e_aload_n C 1 dX9_mixGame_99 rfl ?_
    refine gX_9_295 C r2 dX9_mixGame_100 ?_
    refine e_iconst C dX9_mixGame_103 ?_
    refine aG_4 C r2 (by decide) dX9_mixGame_104 ?_
    obtain ⟨Q15, h13, H⟩ := H
    refine e_callSL (As := [vL z10, vI (M8 43 (40 * 0 + x2))]) (rest := []) C Y mi_X9_mix ms_X9_mix ml_X9_285 h13 (by decide) (Nat.le_of_ble_eq_true rfl) hk hn dX9_mixGame_105 rfl (fun z16 M14 hq9 => ?_)
    obtain ⟨o17, H⟩ := H z16 M14 hq9
    refine e_wf (fun hw18 => ?_)
    refine e_lstore_n C dX9_mixGame_108 (by decide) rfl ?_
    refine e_lload_n C 0 dX9_mixGame_109 rfl ?_
    refine e_aload_n C 1 dX9_mixGame_110 rfl ?_
    refine gX_9_295 C r2 dX9_mixGame_111 ?_
    refine e_iconst C dX9_mixGame_114 ?_
    refine aG_4 C r2 (by decide) dX9_mixGame_115 ?_
    obtain ⟨Q21, h19, H⟩ := H
    refine e_callSL (As := [vL z16, vI (M14 43 (40 * 1 + x2))]) (rest := []) C Y mi_X9_mix ms_X9_mix ml_X9_285 h19 (by decide) (Nat.le_of_ble_eq_true rfl) hk hn dX9_mixGame_116 rfl (fun z22 M20 hq9 => ?_)
    obtain ⟨o23, H⟩ := H z22 M20 hq9
    refine e_wf (fun hw24 => ?_)
    exact e_lret C Y hk hn dX9_mixGame_119 H
  · replace H := H.2 c9
    refine e_iconst C dX9_mixGame_40 ?_
    refine e_istore C dX9_mixGame_41 (by decide) rfl ?_
    exact e_sub [1, 2, 3, 0] rfl H
set_option maxRecDepth 4000 in
theorem B_X9_mixGame_43 {g : Gs} {ad : Nat → Nat} {sk : (Nat → Nat) × (Nat → Nat)} {X : Cx} {mc ms k n : Nat} {PQ : Option Value → Mem → Prop} {PX : String → Mem → Prop} {M : Mem} {x2 x3 x5 x6 : Int} (r2 : 0 ≤ x2 ∧ x2 < 40) (r3 : R64 x3) (r5 : R32 x5) (r6 : R32 x6) (hk : k ≤ mc) (hn : n ≤ ms) (C : OkB (wC g ad sk) X cX9_mixGame RX9 7 2 mc ms) (Y : OkR (wC g ad sk) X (some .long) mc ms PQ PX) (H : (0 ≤ x5 ∧ x5 < 2) ∧ ((((M 41 (40 * x5 + x2)) ≤ x6) → (R32 (x5 + 1)) ∧ E (wC g ad sk) X k n M 34 [(2, .ref (ad (44 + 6 * (Int.toNat x2)))), (3, vL x3), (5, vI (x5 + 1))] []) ∧ ((x6 < (M 41 (40 * x5 + x2))) → ((0 ≤ x5 ∧ x5 ≤ 1) ∧ M 41 (40 * x5 + x2) ≤ 4) ∧ ∃ Q6 : Int → Mem → Prop, SpL (wC g ad sk) yX9_mix cX9_mix 3 (some .long) 1 [vL x3, vI (optAt M x2 x5 x6)] M Q6 ∧ ∀ (z7 : Int) (M5 : Mem), Q6 z7 M5 → R64 z7 ∧ (R32 (x6 + 1)) ∧ E (wC g ad sk) X k n M5 43 [(2, .ref (ad (44 + 6 * (Int.toNat x2)))), (3, vL z7), (5, vI x5), (6, vI (x6 + 1))] []))) : E (wC g ad sk) X k n M 43 [(2, .ref (ad (44 + 6 * (Int.toNat x2)))), (3, vL x3), (5, vI x5), (6, vI x6)] [] := by
  refine e_wf (fun hw0 => ?_)
  refine e_iload C 3 dX9_mixGame_43 rfl ?_
  refine e_aload_n C 0 dX9_mixGame_45 rfl ?_
  refine gX_9_144 C r2 dX9_mixGame_46 ?_
  refine e_iload C 2 dX9_mixGame_49 rfl ?_
  obtain ⟨o1, H⟩ := H
  refine aG_2 C r2 o1 dX9_mixGame_51 ?_
  refine e_icmp_ge C 74 r6 (hw0.2.1 41 _ rfl) dX9_mixGame_52 (by decide) (fun c9 => ?_) (fun c9 => ?_)
  · replace H := H.1 c9
    obtain ⟨o2, H⟩ := H
    refine e_iinc C 2 dX9_mixGame_74 rfl (by decide) rfl ?_
    refine e_goto C 34 dX9_mixGame_77 (by decide) ?_
    exact e_sub [1, 2, 0] rfl H
  · replace H := H.2 c9
    refine e_lload_n C 1 dX9_mixGame_55 rfl ?_
    refine e_aload_n C 0 dX9_mixGame_56 rfl ?_
    refine e_iload C 2 dX9_mixGame_57 rfl ?_
    refine e_iload C 3 dX9_mixGame_59 rfl ?_
    obtain ⟨o3, H⟩ := H
    refine e_callVD (As := [vI x5, vI x6]) (rest := [vL x3]) (ci := 2) C Y mi_X2_optionAt ms_X2_optionAt mv_X2_optionAt ml_X9_149 (s_X2_optionAt r2 r5 r6 o3) (heG r2) rfl (by decide) (Nat.le_of_ble_eq_true rfl) hk hn dX9_mixGame_61 rfl ?_
    obtain ⟨Q6, h4, H⟩ := H
    refine e_callSL (As := [vL x3, vI (optAt M x2 x5 x6)]) (rest := []) C Y mi_X9_mix ms_X9_mix ml_X9_285 h4 (by decide) (Nat.le_of_ble_eq_true rfl) hk hn dX9_mixGame_64 rfl (fun z7 M5 hq9 => ?_)
    obtain ⟨o8, H⟩ := H z7 M5 hq9
    refine e_wf (fun hw9 => ?_)
    refine e_lstore_n C dX9_mixGame_67 (by decide) rfl ?_
    obtain ⟨o10, H⟩ := H
    refine e_iinc C 3 dX9_mixGame_68 rfl (by decide) rfl ?_
    refine e_goto C 43 dX9_mixGame_71 (by decide) ?_
    exact e_sub [2, 1, 3, 0] rfl H
set_option maxRecDepth 4000 in
theorem B_X9_checksum_0 {g : Gs} {ad : Nat → Nat} {sk : (Nat → Nat) × (Nat → Nat)} {X : Cx} {mc ms k n : Nat} {PQ : Option Value → Mem → Prop} {PX : String → Mem → Prop} {M : Mem}  (hk : k ≤ mc) (hn : n ≤ ms) (C : OkB (wC g ad sk) X cX9_checksum RX9 4 3 mc ms) (Y : OkR (wC g ad sk) X (some .long) mc ms PQ PX) (H : ∃ Q3 : Int → Mem → Prop, SpL (wC g ad sk) yX9_mix cX9_mix 3 (some .long) 1 [vL 18487, vI (M 4 0)] M Q3 ∧ ∀ (z4 : Int) (M2 : Mem), Q3 z4 M2 → R64 z4 ∧ E (wC g ad sk) X k n M2 16 [(0, .ref (ad 0)), (1, vL z4), (3, vI 0)] []) : E (wC g ad sk) X k n M 0 [(0, .ref (ad 0))] [] := by
  refine e_wf (fun hw0 => ?_)
  refine e_ldc2 C (v := 18487) (tg3 141 rfl rfl) (by decide) dX9_checksum_0 ?_
  refine e_aload_n C 0 dX9_checksum_3 rfl ?_
  refine gX_9_12 C dX9_checksum_4 ?_
  refine gX_9_100 C dX9_checksum_7 ?_
  obtain ⟨Q3, h1, H⟩ := H
  refine e_callSL (As := [vL 18487, vI (M 4 0)]) (rest := []) C Y mi_X9_mix ms_X9_mix ml_X9_285 h1 (by decide) (Nat.le_of_ble_eq_true rfl) hk hn dX9_checksum_10 rfl (fun z4 M2 hq9 => ?_)
  obtain ⟨o5, H⟩ := H z4 M2 hq9
  refine e_wf (fun hw6 => ?_)
  refine e_lstore_n C dX9_checksum_13 (by decide) rfl ?_
  refine e_iconst C dX9_checksum_14 ?_
  refine e_istore_n C dX9_checksum_15 (by decide) rfl ?_
  exact e_sub [2, 1, 0] rfl H
set_option maxRecDepth 4000 in
theorem B_X9_checksum_16 {g : Gs} {ad : Nat → Nat} {sk : (Nat → Nat) × (Nat → Nat)} {X : Cx} {mc ms k n : Nat} {PQ : Option Value → Mem → Prop} {PX : String → Mem → Prop} {M : Mem} {x1 x3 : Int} (r1 : R64 x1) (r3 : R32 x3) (hk : k ≤ mc) (hn : n ≤ ms) (C : OkB (wC g ad sk) X cX9_checksum RX9 4 3 mc ms) (Y : OkR (wC g ad sk) X (some .long) mc ms PQ PX) (H : ((((M 4 0) ≤ x3) → ∃ Q3 : Int → Mem → Prop, SpL (wC g ad sk) yX9_mix cX9_mix 3 (some .long) 1 [vL x1, vI (M 11 0)] M Q3 ∧ ∀ (z4 : Int) (M2 : Mem), Q3 z4 M2 → R64 z4 ∧ E (wC g ad sk) X k n M2 61 [(0, .ref (ad 0)), (1, vL z4), (3, vI 0)] []) ∧ ((x3 < (M 4 0)) → (0 ≤ x3 ∧ x3 < 40) ∧ ∃ Q10 : Int → Mem → Prop, SpL (wC g ad sk) yX9_mixGame cX9_mixGame 7 (some .long) 2 [vL x1, .ref (ad (44 + 6 * (Int.toNat x3)))] M Q10 ∧ ∀ (z11 : Int) (M9 : Mem), Q10 z11 M9 → R64 z11 ∧ (R32 (x3 + 1)) ∧ E (wC g ad sk) X k n M9 16 [(0, .ref (ad 0)), (1, vL z11), (3, vI (x3 + 1))] []))) : E (wC g ad sk) X k n M 16 [(0, .ref (ad 0)), (1, vL x1), (3, vI x3)] [] := by
  refine e_wf (fun hw0 => ?_)
  refine e_iload_n C 2 dX9_checksum_16 rfl ?_
  refine e_aload_n C 0 dX9_checksum_17 rfl ?_
  refine gX_9_12 C dX9_checksum_18 ?_
  refine gX_9_100 C dX9_checksum_21 ?_
  refine e_icmp_ge C 47 r3 (hw0.2.1 4 _ rfl) dX9_checksum_24 (by decide) (fun c9 => ?_) (fun c9 => ?_)
  · replace H := H.1 c9
    refine e_lload_n C 1 dX9_checksum_47 rfl ?_
    refine e_aload_n C 0 dX9_checksum_48 rfl ?_
    refine gX_9_19 C dX9_checksum_49 ?_
    refine gX_9_190 C dX9_checksum_52 ?_
    obtain ⟨Q3, h1, H⟩ := H
    refine e_callSL (As := [vL x1, vI (M 11 0)]) (rest := []) C Y mi_X9_mix ms_X9_mix ml_X9_285 h1 (by decide) (Nat.le_of_ble_eq_true rfl) hk hn dX9_checksum_55 rfl (fun z4 M2 hq9 => ?_)
    obtain ⟨o5, H⟩ := H z4 M2 hq9
    refine e_wf (fun hw6 => ?_)
    refine e_lstore_n C dX9_checksum_58 (by decide) rfl ?_
    refine e_iconst C dX9_checksum_59 ?_
    refine e_istore_n C dX9_checksum_60 (by decide) rfl ?_
    exact e_sub [2, 1, 0] rfl H
  · replace H := H.2 c9
    refine e_lload_n C 1 dX9_checksum_27 rfl ?_
    refine e_aload_n C 0 dX9_checksum_28 rfl ?_
    refine gX_9_12 C dX9_checksum_29 ?_
    refine gX_9_140 C dX9_checksum_32 ?_
    refine e_iload_n C 2 dX9_checksum_35 rfl ?_
    obtain ⟨o7, H⟩ := H
    refine e_aaldG C o7 dX9_checksum_36 ?_
    obtain ⟨Q10, h8, H⟩ := H
    refine e_callSL (As := [vL x1, .ref (ad (44 + 6 * (Int.toNat x3)))]) (rest := []) C Y mi_X9_mixGame ms_X9_mixGame ml_X9_289 h8 (by decide) (Nat.le_of_ble_eq_true rfl) hk hn dX9_checksum_37 rfl (fun z11 M9 hq9 => ?_)
    obtain ⟨o12, H⟩ := H z11 M9 hq9
    refine e_wf (fun hw13 => ?_)
    refine e_lstore_n C dX9_checksum_40 (by decide) rfl ?_
    obtain ⟨o14, H⟩ := H
    refine e_iinc C 2 dX9_checksum_41 rfl (by decide) rfl ?_
    refine e_goto C 16 dX9_checksum_44 (by decide) ?_
    exact e_sub [2, 1, 0] rfl H
set_option maxRecDepth 4000 in
theorem B_X9_checksum_61 {g : Gs} {ad : Nat → Nat} {sk : (Nat → Nat) × (Nat → Nat)} {X : Cx} {mc ms k n : Nat} {PQ : Option Value → Mem → Prop} {PX : String → Mem → Prop} {M : Mem} {x1 x3 : Int} (r1 : R64 x1) (r3 : R32 x3) (hk : k ≤ mc) (hn : n ≤ ms) (C : OkB (wC g ad sk) X cX9_checksum RX9 4 3 mc ms) (Y : OkR (wC g ad sk) X (some .long) mc ms PQ PX) (H : ((((M 11 0) ≤ x3) → ∃ Q3 : Int → Mem → Prop, SpL (wC g ad sk) yX9_mix cX9_mix 3 (some .long) 1 [vL x1, vI (M 23 0)] M Q3 ∧ ∀ (z4 : Int) (M2 : Mem), Q3 z4 M2 → R64 z4 ∧ ∃ Q9 : Int → Mem → Prop, SpI (wC g ad sk) yJ13_bitCount_95d88 cJ13_bitCount_95d88 2 (some .int) 1 [vL (M2 1 0)] M2 Q9 ∧ ∀ (z10 : Int) (M8 : Mem), Q9 z10 M8 → R32 z10 ∧ ∃ Q15 : Int → Mem → Prop, SpL (wC g ad sk) yX9_mix cX9_mix 3 (some .long) 1 [vL z4, vI z10] M8 Q15 ∧ ∀ (z16 : Int) (M14 : Mem), Q15 z16 M14 → R64 z16 ∧ ∃ Q21 : Int → Mem → Prop, SpI (wC g ad sk) yJ13_bitCount_95d88 cJ13_bitCount_95d88 2 (some .int) 1 [vL (M14 1 1)] M14 Q21 ∧ ∀ (z22 : Int) (M20 : Mem), Q21 z22 M20 → R32 z22 ∧ ∃ Q27 : Int → Mem → Prop, SpL (wC g ad sk) yX9_mix cX9_mix 3 (some .long) 1 [vL z16, vI z22] M20 Q27 ∧ ∀ (z28 : Int) (M26 : Mem), Q27 z28 M26 → R64 z28 ∧ ∃ Q33 : Int → Mem → Prop, SpL (wC g ad sk) yX9_mix cX9_mix 3 (some .long) 1 [vL z28, vI (M26 38 0)] M26 Q33 ∧ ∀ (z34 : Int) (M32 : Mem), Q33 z34 M32 → R64 z34 ∧ PQ (some (vL z34)) M32) ∧ ((x3 < (M 11 0)) → (0 ≤ x3 ∧ x3 < 4) ∧ ∃ Q40 : Int → Mem → Prop, SpL (wC g ad sk) yX9_mix cX9_mix 3 (some .long) 1 [vL x1, vI (M 10 x3)] M Q40 ∧ ∀ (z41 : Int) (M39 : Mem), Q40 z41 M39 → R64 z41 ∧ (R32 (x3 + 1)) ∧ E (wC g ad sk) X k n M39 61 [(0, .ref (ad 0)), (1, vL z41), (3, vI (x3 + 1))] []))) : E (wC g ad sk) X k n M 61 [(0, .ref (ad 0)), (1, vL x1), (3, vI x3)] [] := by
  refine e_wf (fun hw0 => ?_)
  refine e_iload_n C 2 dX9_checksum_61 rfl ?_
  refine e_aload_n C 0 dX9_checksum_62 rfl ?_
  refine gX_9_19 C dX9_checksum_63 ?_
  refine gX_9_190 C dX9_checksum_66 ?_
  refine e_icmp_ge C 92 r3 (hw0.2.1 11 _ rfl) dX9_checksum_69 (by decide) (fun c9 => ?_) (fun c9 => ?_)
  · replace H := H.1 c9
    refine e_lload_n C 1 dX9_checksum_92 rfl ?_
    refine e_aload_n C 0 dX9_checksum_93 rfl ?_
    refine gX_9_44 C dX9_checksum_94 ?_
    refine gX_9_240 C dX9_checksum_97 ?_
    obtain ⟨Q3, h1, H⟩ := H
    refine e_callSL (As := [vL x1, vI (M 23 0)]) (rest := []) C Y mi_X9_mix ms_X9_mix ml_X9_285 h1 (by decide) (Nat.le_of_ble_eq_true rfl) hk hn dX9_checksum_100 rfl (fun z4 M2 hq9 => ?_)
    obtain ⟨o5, H⟩ := H z4 M2 hq9
    refine e_wf (fun hw6 => ?_)
    refine e_lstore_n C dX9_checksum_103 (by decide) rfl ?_
    refine e_lload_n C 0 dX9_checksum_104 rfl ?_
    refine e_aload_n C 1 dX9_checksum_105 rfl ?_
    refine gX_9_69 C dX9_checksum_106 ?_
    refine e_iconst C dX9_checksum_109 ?_
    refine aX_9 C (by decide) dX9_checksum_110 ?_
    obtain ⟨Q9, h7, H⟩ := H
    refine e_callSI (As := [vL (M2 1 0)]) (rest := [vL z4]) C Y mi_J13_bitCount_95d88 ms_J13_bitCount_95d88 ml_X9_125 h7 (by decide) (Nat.le_of_ble_eq_true rfl) hk hn dX9_checksum_111 rfl (fun z10 M8 hq9 => ?_)
    obtain ⟨o11, H⟩ := H z10 M8 hq9
    refine e_wf (fun hw12 => ?_)
    obtain ⟨Q15, h13, H⟩ := H
    refine e_callSL (As := [vL z4, vI z10]) (rest := []) C Y mi_X9_mix ms_X9_mix ml_X9_285 h13 (by decide) (Nat.le_of_ble_eq_true rfl) hk hn dX9_checksum_114 rfl (fun z16 M14 hq9 => ?_)
    obtain ⟨o17, H⟩ := H z16 M14 hq9
    refine e_wf (fun hw18 => ?_)
    refine e_lstore_n C dX9_checksum_117 (by decide) rfl ?_
    refine e_lload_n C 0 dX9_checksum_118 rfl ?_
    refine e_aload_n C 1 dX9_checksum_119 rfl ?_
    refine gX_9_69 C dX9_checksum_120 ?_
    refine e_iconst C dX9_checksum_123 ?_
    refine aX_9 C (by decide) dX9_checksum_124 ?_
    obtain ⟨Q21, h19, H⟩ := H
    refine e_callSI (As := [vL (M14 1 1)]) (rest := [vL z16]) C Y mi_J13_bitCount_95d88 ms_J13_bitCount_95d88 ml_X9_125 h19 (by decide) (Nat.le_of_ble_eq_true rfl) hk hn dX9_checksum_125 rfl (fun z22 M20 hq9 => ?_)
    obtain ⟨o23, H⟩ := H z22 M20 hq9
    refine e_wf (fun hw24 => ?_)
    obtain ⟨Q27, h25, H⟩ := H
    refine e_callSL (As := [vL z16, vI z22]) (rest := []) C Y mi_X9_mix ms_X9_mix ml_X9_285 h25 (by decide) (Nat.le_of_ble_eq_true rfl) hk hn dX9_checksum_128 rfl (fun z28 M26 hq9 => ?_)
    obtain ⟨o29, H⟩ := H z28 M26 hq9
    refine e_wf (fun hw30 => ?_)
    refine e_lstore_n C dX9_checksum_131 (by decide) rfl ?_
    refine e_lload_n C 0 dX9_checksum_132 rfl ?_
    refine e_aload_n C 1 dX9_checksum_133 rfl ?_
    refine gX_9_65 C dX9_checksum_134 ?_
    refine gX_9_276 C dX9_checksum_137 ?_
    obtain ⟨Q33, h31, H⟩ := H
    refine e_callSL (As := [vL z28, vI (M26 38 0)]) (rest := []) C Y mi_X9_mix ms_X9_mix ml_X9_285 h31 (by decide) (Nat.le_of_ble_eq_true rfl) hk hn dX9_checksum_140 rfl (fun z34 M32 hq9 => ?_)
    obtain ⟨o35, H⟩ := H z34 M32 hq9
    refine e_wf (fun hw36 => ?_)
    exact e_lret C Y hk hn dX9_checksum_143 H
  · replace H := H.2 c9
    refine e_lload_n C 1 dX9_checksum_72 rfl ?_
    refine e_aload_n C 0 dX9_checksum_73 rfl ?_
    refine gX_9_19 C dX9_checksum_74 ?_
    refine gX_9_199 C dX9_checksum_77 ?_
    refine e_iload_n C 2 dX9_checksum_80 rfl ?_
    obtain ⟨o37, H⟩ := H
    refine aX_19 C o37 dX9_checksum_81 ?_
    obtain ⟨Q40, h38, H⟩ := H
    refine e_callSL (As := [vL x1, vI (M 10 x3)]) (rest := []) C Y mi_X9_mix ms_X9_mix ml_X9_285 h38 (by decide) (Nat.le_of_ble_eq_true rfl) hk hn dX9_checksum_82 rfl (fun z41 M39 hq9 => ?_)
    obtain ⟨o42, H⟩ := H z41 M39 hq9
    refine e_wf (fun hw43 => ?_)
    refine e_lstore_n C dX9_checksum_85 (by decide) rfl ?_
    obtain ⟨o44, H⟩ := H
    refine e_iinc C 2 dX9_checksum_86 rfl (by decide) rfl ?_
    refine e_goto C 61 dX9_checksum_89 (by decide) ?_
    exact e_sub [2, 1, 0] rfl H
set_option maxRecDepth 4000 in
theorem B_X9_dominated_0 {g : Gs} {ad : Nat → Nat} {sk : (Nat → Nat) × (Nat → Nat)} {X : Cx} {mc ms k n : Nat} {PQ : Option Value → Mem → Prop} {PX : String → Mem → Prop} {M : Mem} {x1 x2 x3 : Int} (r1 : R32 x1) (r2 : R32 x2) (r3 : R32 x3) (hk : k ≤ mc) (hn : n ≤ ms) (C : OkB (wC g ad sk) X cX9_dominated RX9 4 4 mc ms) (Y : OkR (wC g ad sk) X (some .int) mc ms PQ PX) (H : (((0 ≤ x1 ∧ x1 < (M 4 0)) → (((x2 = 0 ∨ x2 = 1) → (0 ≤ x1 ∧ x1 < 40) ∧ ∃ Q6 : Int → Mem → Prop, SpI (wC g ad sk) yX5_dominatorOf cX5_dominatorOf 8 (some .int) 3 [.ref (ad 1), .ref (ad (44 + 6 * (Int.toNat x1))), vI x2, vI x3] M Q6 ∧ ∀ (z7 : Int) (M5 : Mem), Q6 z7 M5 → R32 z7 ∧ PQ (some (vI z7)) M5) ∧ (¬(x2 = 0 ∨ x2 = 1) → (k + 1 ≤ mc ∧ n + 6 ≤ ms) ∧ PX "java/lang/IllegalArgumentException" M))) ∧ (¬(0 ≤ x1 ∧ x1 < (M 4 0)) → (k + 1 ≤ mc ∧ n + 6 ≤ ms) ∧ PX "java/lang/IndexOutOfBoundsException" M))) : E (wC g ad sk) X k n M 0 [(0, .ref (ad 0)), (1, vI x1), (2, vI x2), (3, vI x3)] [] := by
  refine e_wf (fun hw0 => ?_)
  refine e_aload_n C 0 dX9_dominated_0 rfl ?_
  refine e_iload_n C 1 dX9_dominated_1 rfl ?_
  by_cases c1 : 0 ≤ x1 ∧ x1 < (M 4 0)
  case neg =>
    replace H := H.2 c1
    exact e_callVT (As := [vI x1]) (rest := []) (q0 := 0) (ci := 9) C Y mi_X9_requireGame ms_X9_requireGame mv_X9_requireGame ml_X9_119 (t_X9_requireGame r1 c1) (wlX_st rfl) rfl (by decide) (Nat.le_of_ble_eq_true rfl) H.1.1 H.1.2 dX9_dominated_2 rfl H.2
  replace H := H.1 c1
  refine e_callVD (As := [vI x1]) (rest := []) (q0 := 0) (ci := 9) C Y mi_X9_requireGame ms_X9_requireGame mv_X9_requireGame ml_X9_119 (s_X9_requireGame r1 c1) (wlX_st rfl) rfl (by decide) (Nat.le_of_ble_eq_true rfl) hk hn dX9_dominated_2 rfl ?_
  refine e_iload_n C 2 dX9_dominated_5 rfl ?_
  by_cases c2 : x2 = 0 ∨ x2 = 1
  case neg =>
    replace H := H.2 c2
    exact e_callST (As := [vI x2]) (rest := []) C Y mi_X9_requireSide ms_X9_requireSide ml_X9_122 (t_X9_requireSide r2 c2) (by decide) (Nat.le_of_ble_eq_true rfl) H.1.1 H.1.2 dX9_dominated_6 rfl H.2
  replace H := H.1 c2
  refine e_callSD (As := [vI x2]) (rest := []) C Y mi_X9_requireSide ms_X9_requireSide ml_X9_122 (s_X9_requireSide r2 c2) (by decide) (Nat.le_of_ble_eq_true rfl) hk hn dX9_dominated_6 rfl ?_
  refine e_aload_n C 0 dX9_dominated_9 rfl ?_
  refine gX_9_12 C dX9_dominated_10 ?_
  refine e_aload_n C 0 dX9_dominated_13 rfl ?_
  refine gX_9_12 C dX9_dominated_14 ?_
  refine gX_9_140 C dX9_dominated_17 ?_
  refine e_iload_n C 1 dX9_dominated_20 rfl ?_
  obtain ⟨o3, H⟩ := H
  refine e_aaldG C o3 dX9_dominated_21 ?_
  refine e_iload_n C 2 dX9_dominated_22 rfl ?_
  refine e_iload_n C 3 dX9_dominated_23 rfl ?_
  obtain ⟨Q6, h4, H⟩ := H
  refine e_callVI (As := [.ref (ad (44 + 6 * (Int.toNat x1))), vI x2, vI x3]) (rest := []) (q0 := 1) (ci := 5) C Y mi_X5_dominatorOf ms_X5_dominatorOf mv_X5_dominatorOf ml_X9_169 h4 (wlX_st rfl) rfl (by decide) (Nat.le_of_ble_eq_true rfl) hk hn dX9_dominated_24 rfl (fun z7 M5 hq9 => ?_)
  obtain ⟨o8, H⟩ := H z7 M5 hq9
  refine e_wf (fun hw9 => ?_)
  exact e_iret C Y hk hn dX9_dominated_27 H
set_option maxRecDepth 4000 in
theorem B_X9_reversible_0 {g : Gs} {ad : Nat → Nat} {sk : (Nat → Nat) × (Nat → Nat)} {X : Cx} {mc ms k n : Nat} {PQ : Option Value → Mem → Prop} {PX : String → Mem → Prop} {M : Mem} {x1 x2 x3 : Int} (r1 : R32 x1) (r2 : R32 x2) (r3 : R32 x3) (hk : k ≤ mc) (hn : n ≤ ms) (C : OkB (wC g ad sk) X cX9_reversible RX9 5 4 mc ms) (Y : OkR (wC g ad sk) X (some .int) mc ms PQ PX) (H : (((0 ≤ x1 ∧ x1 < (M 4 0)) → (((x2 = 0 ∨ x2 = 1) → ((0 ≤ x1 ∧ x1 < 40) ∧ ((0 ≤ x2 ∧ x2 ≤ 1) ∧ M 41 (40 * x2 + x1) ≤ 4)) ∧ ((((optAt M x1 x2 x3) ≠ (-1)) → ∃ Q7 : Int → Mem → Prop, SpI (wC g ad sk) yX5_isReversible cX5_isReversible 6 (some .boolean) 3 [.ref (ad 1), vI x1, vI x2, vI (optAt M x1 x2 x3)] M Q7 ∧ ∀ (z8 : Int) (M6 : Mem), Q7 z8 M6 → B01 z8 ∧ (((z8 = 0) → PQ (some (vI 0)) M6) ∧ ((z8 ≠ 0) → PQ (some (vI 1)) M6))) ∧ (((optAt M x1 x2 x3) = (-1)) → PQ (some (vI (-1))) M))) ∧ (¬(x2 = 0 ∨ x2 = 1) → (k + 1 ≤ mc ∧ n + 6 ≤ ms) ∧ PX "java/lang/IllegalArgumentException" M))) ∧ (¬(0 ≤ x1 ∧ x1 < (M 4 0)) → (k + 1 ≤ mc ∧ n + 6 ≤ ms) ∧ PX "java/lang/IndexOutOfBoundsException" M))) : E (wC g ad sk) X k n M 0 [(0, .ref (ad 0)), (1, vI x1), (2, vI x2), (3, vI x3)] [] := by
  refine e_wf (fun hw0 => ?_)
  refine e_aload_n C 0 dX9_reversible_0 rfl ?_
  refine e_iload_n C 1 dX9_reversible_1 rfl ?_
  by_cases c1 : 0 ≤ x1 ∧ x1 < (M 4 0)
  case neg =>
    replace H := H.2 c1
    exact e_callVT (As := [vI x1]) (rest := []) (q0 := 0) (ci := 9) C Y mi_X9_requireGame ms_X9_requireGame mv_X9_requireGame ml_X9_119 (t_X9_requireGame r1 c1) (wlX_st rfl) rfl (by decide) (Nat.le_of_ble_eq_true rfl) H.1.1 H.1.2 dX9_reversible_2 rfl H.2
  replace H := H.1 c1
  refine e_callVD (As := [vI x1]) (rest := []) (q0 := 0) (ci := 9) C Y mi_X9_requireGame ms_X9_requireGame mv_X9_requireGame ml_X9_119 (s_X9_requireGame r1 c1) (wlX_st rfl) rfl (by decide) (Nat.le_of_ble_eq_true rfl) hk hn dX9_reversible_2 rfl ?_
  refine e_iload_n C 2 dX9_reversible_5 rfl ?_
  by_cases c2 : x2 = 0 ∨ x2 = 1
  case neg =>
    replace H := H.2 c2
    exact e_callST (As := [vI x2]) (rest := []) C Y mi_X9_requireSide ms_X9_requireSide ml_X9_122 (t_X9_requireSide r2 c2) (by decide) (Nat.le_of_ble_eq_true rfl) H.1.1 H.1.2 dX9_reversible_6 rfl H.2
  replace H := H.1 c2
  refine e_callSD (As := [vI x2]) (rest := []) C Y mi_X9_requireSide ms_X9_requireSide ml_X9_122 (s_X9_requireSide r2 c2) (by decide) (Nat.le_of_ble_eq_true rfl) hk hn dX9_reversible_6 rfl ?_
  refine e_aload_n C 0 dX9_reversible_9 rfl ?_
  refine gX_9_12 C dX9_reversible_10 ?_
  refine gX_9_140 C dX9_reversible_13 ?_
  refine e_iload_n C 1 dX9_reversible_16 rfl ?_
  obtain ⟨⟨o3, o4⟩, H⟩ := H
  refine e_aaldG C o3 dX9_reversible_17 ?_
  refine e_iload_n C 2 dX9_reversible_18 rfl ?_
  refine e_iload_n C 3 dX9_reversible_19 rfl ?_
  refine e_callVD (As := [vI x2, vI x3]) (rest := []) (ci := 2) C Y mi_X2_optionAt ms_X2_optionAt mv_X2_optionAt ml_X9_149 (s_X2_optionAt o3 r2 r3 o4) (heG o3) rfl (by decide) (Nat.le_of_ble_eq_true rfl) hk hn dX9_reversible_20 rfl ?_
  refine e_istore C dX9_reversible_23 (by decide) rfl ?_
  refine e_iload C 0 dX9_reversible_25 rfl ?_
  refine e_iconst C dX9_reversible_27 ?_
  refine e_icmp_ne C 33 (optAt_r hw0 _ _ _) (by decide) dX9_reversible_28 (by decide) (fun c9 => ?_) (fun c9 => ?_)
  · replace H := H.1 c9
    refine e_aload_n C 1 dX9_reversible_33 rfl ?_
    refine gX_9_12 C dX9_reversible_34 ?_
    refine e_iload_n C 2 dX9_reversible_37 rfl ?_
    refine e_iload_n C 3 dX9_reversible_38 rfl ?_
    refine e_iload C 0 dX9_reversible_39 rfl ?_
    obtain ⟨Q7, h5, H⟩ := H
    refine e_callVI (As := [vI x1, vI x2, vI (optAt M x1 x2 x3)]) (rest := []) (q0 := 1) (ci := 5) C Y mi_X5_isReversible ms_X5_isReversible mv_X5_isReversible ml_X9_173 h5 (wlX_st rfl) rfl (by decide) (Nat.le_of_ble_eq_true rfl) hk hn dX9_reversible_41 rfl (fun z8 M6 hq9 => ?_)
    obtain ⟨o9, H⟩ := H z8 M6 hq9
    refine e_wf (fun hw10 => ?_)
    refine e_if_eq C 51 (b01_r o9) dX9_reversible_44 (by decide) (fun c9 => ?_) (fun c9 => ?_)
    · replace H := H.1 c9
      refine e_iconst C dX9_reversible_51 ?_
      exact e_iret C Y hk hn dX9_reversible_52 H
    · replace H := H.2 c9
      refine e_iconst C dX9_reversible_47 ?_
      refine e_goto C 52 dX9_reversible_48 (by decide) ?_
      exact e_iret C Y hk hn dX9_reversible_52 H
  · replace H := H.2 c9
    refine e_iconst C dX9_reversible_31 ?_
    exact e_iret C Y hk hn dX9_reversible_32 H
set_option maxRecDepth 4000 in
theorem B_X9_wall_0 {g : Gs} {ad : Nat → Nat} {sk : (Nat → Nat) × (Nat → Nat)} {X : Cx} {mc ms k n : Nat} {PQ : Option Value → Mem → Prop} {PX : String → Mem → Prop} {M : Mem} {x1 x2 x3 : Int} (r1 : R32 x1) (r2 : R32 x2) (r3 : R32 x3) (hk : k ≤ mc) (hn : n ≤ ms) (C : OkB (wC g ad sk) X cX9_wall RX9 4 4 mc ms) (Y : OkR (wC g ad sk) X (some .int) mc ms PQ PX) (H : (((0 ≤ x1 ∧ x1 < (M 4 0)) → (((x2 = 0 ∨ x2 = 1) → (((x3 < 0) → (k + 1 ≤ mc ∧ n + 6 ≤ ms) ∧ PX "java/lang/IllegalArgumentException" M) ∧ ((0 ≤ x3) → (((x3 ≤ 100000) → ∃ Q5 : Int → Mem → Prop, SpI (wC g ad sk) yX5_wallAt cX5_wallAt 4 (some .int) 3 [.ref (ad 1), vI x1, vI x2, vI x3] M Q5 ∧ ∀ (z6 : Int) (M4 : Mem), Q5 z6 M4 → R32 z6 ∧ PQ (some (vI z6)) M4) ∧ ((100000 < x3) → (k + 1 ≤ mc ∧ n + 6 ≤ ms) ∧ PX "java/lang/IllegalArgumentException" M))))) ∧ (¬(x2 = 0 ∨ x2 = 1) → (k + 1 ≤ mc ∧ n + 6 ≤ ms) ∧ PX "java/lang/IllegalArgumentException" M))) ∧ (¬(0 ≤ x1 ∧ x1 < (M 4 0)) → (k + 1 ≤ mc ∧ n + 6 ≤ ms) ∧ PX "java/lang/IndexOutOfBoundsException" M))) : E (wC g ad sk) X k n M 0 [(0, .ref (ad 0)), (1, vI x1), (2, vI x2), (3, vI x3)] [] := by
  refine e_wf (fun hw0 => ?_)
  refine e_aload_n C 0 dX9_wall_0 rfl ?_
  refine e_iload_n C 1 dX9_wall_1 rfl ?_
  by_cases c1 : 0 ≤ x1 ∧ x1 < (M 4 0)
  case neg =>
    replace H := H.2 c1
    exact e_callVT (As := [vI x1]) (rest := []) (q0 := 0) (ci := 9) C Y mi_X9_requireGame ms_X9_requireGame mv_X9_requireGame ml_X9_119 (t_X9_requireGame r1 c1) (wlX_st rfl) rfl (by decide) (Nat.le_of_ble_eq_true rfl) H.1.1 H.1.2 dX9_wall_2 rfl H.2
  replace H := H.1 c1
  refine e_callVD (As := [vI x1]) (rest := []) (q0 := 0) (ci := 9) C Y mi_X9_requireGame ms_X9_requireGame mv_X9_requireGame ml_X9_119 (s_X9_requireGame r1 c1) (wlX_st rfl) rfl (by decide) (Nat.le_of_ble_eq_true rfl) hk hn dX9_wall_2 rfl ?_
  refine e_iload_n C 2 dX9_wall_5 rfl ?_
  by_cases c2 : x2 = 0 ∨ x2 = 1
  case neg =>
    replace H := H.2 c2
    exact e_callST (As := [vI x2]) (rest := []) C Y mi_X9_requireSide ms_X9_requireSide ml_X9_122 (t_X9_requireSide r2 c2) (by decide) (Nat.le_of_ble_eq_true rfl) H.1.1 H.1.2 dX9_wall_6 rfl H.2
  replace H := H.1 c2
  refine e_callSD (As := [vI x2]) (rest := []) C Y mi_X9_requireSide ms_X9_requireSide ml_X9_122 (s_X9_requireSide r2 c2) (by decide) (Nat.le_of_ble_eq_true rfl) hk hn dX9_wall_6 rfl ?_
  refine e_iload_n C 3 dX9_wall_9 rfl ?_
  refine e_if_lt C 19 r3 dX9_wall_10 (by decide) (fun c9 => ?_) (fun c9 => ?_)
  · replace H := H.1 c9
    exact th_IA (is := 181) (text := "t is from 0 to 100000") (by decide +kernel) C Y (by decide) (Nat.le_of_ble_eq_true rfl) H.1.1 H.1.2 ⟨⟨dX9_wall_19, dX9_wall_22⟩, Or.inl ⟨dX9_wall_23, dX9_wall_25, dX9_wall_28⟩⟩ H.2
  · replace H := H.2 c9
    refine e_iload_n C 3 dX9_wall_13 rfl ?_
    refine e_ldc C (v := 100000) (tg4 170 rfl rfl) (by decide) dX9_wall_14 ?_
    refine e_icmp_le C 29 r3 (by decide) dX9_wall_16 (by decide) (fun c9 => ?_) (fun c9 => ?_)
    · replace H := H.1 c9
      refine e_aload_n C 0 dX9_wall_29 rfl ?_
      refine gX_9_12 C dX9_wall_30 ?_
      refine e_iload_n C 1 dX9_wall_33 rfl ?_
      refine e_iload_n C 2 dX9_wall_34 rfl ?_
      refine e_iload_n C 3 dX9_wall_35 rfl ?_
      obtain ⟨Q5, h3, H⟩ := H
      refine e_callVI (As := [vI x1, vI x2, vI x3]) (rest := []) (q0 := 1) (ci := 5) C Y mi_X5_wallAt ms_X5_wallAt mv_X5_wallAt ml_X9_183 h3 (wlX_st rfl) rfl (by decide) (Nat.le_of_ble_eq_true rfl) hk hn dX9_wall_36 rfl (fun z6 M4 hq9 => ?_)
      obtain ⟨o7, H⟩ := H z6 M4 hq9
      refine e_wf (fun hw8 => ?_)
      exact e_iret C Y hk hn dX9_wall_39 H
    · replace H := H.2 c9
      exact th_IA (is := 181) (text := "t is from 0 to 100000") (by decide +kernel) C Y (by decide) (Nat.le_of_ble_eq_true rfl) H.1.1 H.1.2 ⟨⟨dX9_wall_19, dX9_wall_22⟩, Or.inl ⟨dX9_wall_23, dX9_wall_25, dX9_wall_28⟩⟩ H.2
set_option maxRecDepth 4000 in
theorem B_X9_number_0 {g : Gs} {ad : Nat → Nat} {sk : (Nat → Nat) × (Nat → Nat)} {X : Cx} {mc ms k n : Nat} {PQ : Option Value → Mem → Prop} {PX : String → Mem → Prop} {M : Mem} {x1 : Int} (r1 : R32 x1) (hk : k ≤ mc) (hn : n ≤ ms) (C : OkB (wC g ad sk) X cX9_number RX9 4 5 mc ms) (Y : OkR (wC g ad sk) X (some .int) mc ms PQ PX) (H : (((x1 < (-64)) → (k + 1 ≤ mc ∧ n + 6 ≤ ms) ∧ PX "java/lang/IllegalArgumentException" M) ∧ (((-64) ≤ x1) → (((x1 ≤ 64) → ∃ Q3 : Int → Mem → Prop, SpI (wC g ad sk) yX5_makeNumber cX5_makeNumber 3 (some .int) 4 [.ref (ad 1), vI x1] M Q3 ∧ ∀ (z4 : Int) (M2 : Mem), Q3 z4 M2 → R32 z4 ∧ (((z4 ≠ (-1)) → ∃ Q9 : Mem → Prop, SpV (wC g ad sk) yX3_save cX3_save 5 none 1 [.ref (ad 8), vI (M 4 0), .ref (ad 2)] M2 Q9 ∧ ∀ M8 : Mem, Q9 M8 → PQ (some (vI z4)) M8) ∧ ((z4 = (-1)) → (k + 1 ≤ mc ∧ n + 6 ≤ ms) ∧ PX "java/lang/IllegalStateException" M2))) ∧ ((64 < x1) → (k + 1 ≤ mc ∧ n + 6 ≤ ms) ∧ PX "java/lang/IllegalArgumentException" M))))) : E (wC g ad sk) X k n M 0 [(0, .ref (ad 0)), (1, vI x1)] [] := by
  refine e_wf (fun hw0 => ?_)
  refine e_iload_n C 1 dX9_number_0 rfl ?_
  refine e_bipush C dX9_number_1 (by decide) ?_
  refine e_icmp_lt C 12 r1 (by decide) dX9_number_3 (by decide) (fun c9 => ?_) (fun c9 => ?_)
  · replace H := H.1 c9
    exact th_IA (is := 105) (text := "a number is from -64 to 64 eighths") (by decide +kernel) C Y (by decide) (Nat.le_of_ble_eq_true rfl) H.1.1 H.1.2 ⟨⟨dX9_number_12, dX9_number_15⟩, Or.inl ⟨dX9_number_16, dX9_number_18, dX9_number_21⟩⟩ H.2
  · replace H := H.2 c9
    refine e_iload_n C 1 dX9_number_6 rfl ?_
    refine e_bipush C dX9_number_7 (by decide) ?_
    refine e_icmp_le C 22 r1 (by decide) dX9_number_9 (by decide) (fun c9 => ?_) (fun c9 => ?_)
    · replace H := H.1 c9
      refine e_aload_n C 0 dX9_number_22 rfl ?_
      refine gX_9_12 C dX9_number_23 ?_
      refine gX_9_100 C dX9_number_26 ?_
      refine e_istore_n C dX9_number_29 (by decide) rfl ?_
      refine e_aload_n C 1 dX9_number_30 rfl ?_
      refine gX_9_12 C dX9_number_31 ?_
      refine e_iload_n C 2 dX9_number_34 rfl ?_
      obtain ⟨Q3, h1, H⟩ := H
      refine e_callVI (As := [vI x1]) (rest := []) (q0 := 1) (ci := 5) C Y mi_X5_makeNumber ms_X5_makeNumber mv_X5_makeNumber ml_X9_84 h1 (wlX_st rfl) rfl (by decide) (Nat.le_of_ble_eq_true rfl) hk hn dX9_number_35 rfl (fun z4 M2 hq9 => ?_)
      obtain ⟨o5, H⟩ := H z4 M2 hq9
      refine e_wf (fun hw6 => ?_)
      refine e_istore_n C dX9_number_38 (by decide) rfl ?_
      refine e_iload_n C 0 dX9_number_39 rfl ?_
      refine e_iconst C dX9_number_40 ?_
      refine e_icmp_ne C 54 o5 (by decide) dX9_number_41 (by decide) (fun c9 => ?_) (fun c9 => ?_)
      · replace H := H.1 c9
        refine e_aload_n C 2 dX9_number_54 rfl ?_
        refine gX_9_65 C dX9_number_55 ?_
        refine e_iload_n C 1 dX9_number_58 rfl ?_
        refine e_aload_n C 2 dX9_number_59 rfl ?_
        refine gX_9_19 C dX9_number_60 ?_
        obtain ⟨Q9, h7, H⟩ := H
        refine e_callVV (As := [vI (M 4 0), .ref (ad 2)]) (rest := []) (q0 := 8) (ci := 3) C Y mi_X3_save ms_X3_save mv_X3_save ml_X9_115 h7 (wlX_st rfl) rfl (by decide) (Nat.le_of_ble_eq_true rfl) hk hn dX9_number_63 rfl (fun M8 hq9 => ?_)
        replace H := H M8 hq9
        refine e_wf (fun hw10 => ?_)
        refine e_iload_n C 0 dX9_number_66 rfl ?_
        exact e_iret C Y hk hn dX9_number_67 H
      · replace H := H.2 c9
        exact th_IS (is := 112) (text := "there are 40 games") (by decide +kernel) C Y (by decide) (Nat.le_of_ble_eq_true rfl) H.1.1 H.1.2 ⟨⟨dX9_number_44, dX9_number_47⟩, Or.inl ⟨dX9_number_48, dX9_number_50, dX9_number_53⟩⟩ H.2
    · replace H := H.2 c9
      exact th_IA (is := 105) (text := "a number is from -64 to 64 eighths") (by decide +kernel) C Y (by decide) (Nat.le_of_ble_eq_true rfl) H.1.1 H.1.2 ⟨⟨dX9_number_12, dX9_number_15⟩, Or.inl ⟨dX9_number_16, dX9_number_18, dX9_number_21⟩⟩ H.2
set_option maxRecDepth 4000 in
theorem B_X9_make_0 {g : Gs} {ad : Nat → Nat} {sk : (Nat → Nat) × (Nat → Nat)} {X : Cx} {mc ms k n : Nat} {PQ : Option Value → Mem → Prop} {PX : String → Mem → Prop} {M : Mem}  (hk : k ≤ mc) (hn : n ≤ ms) (C : OkB (wC g ad sk) X cX9_make RX9 3 5 mc ms) (Y : OkR (wC g ad sk) X (some .int) mc ms PQ PX) (H : ∃ Q3 : Int → Mem → Prop, SpI (wC g ad sk) yX5_compose cX5_compose 7 (some .int) 4 [.ref (ad 1), vL (M 1 0), vL (M 1 1)] M Q3 ∧ ∀ (z4 : Int) (M2 : Mem), Q3 z4 M2 → R32 z4 ∧ (((z4 ≠ (-1)) → ∃ Q11 : Mem → Prop, SpV (wC g ad sk) yX3_save cX3_save 5 none 1 [.ref (ad 8), vI (M 4 0), .ref (ad 2)] (up (up M2 1 0 0) 1 1 0) Q11 ∧ ∀ M10 : Mem, Q11 M10 → PQ (some (vI z4)) M10) ∧ ((z4 = (-1)) → (k + 1 ≤ mc ∧ n + 6 ≤ ms) ∧ PX "java/lang/IllegalStateException" M2))) : E (wC g ad sk) X k n M 0 [(0, .ref (ad 0))] [] := by
  refine e_wf (fun hw0 => ?_)
  refine e_aload_n C 0 dX9_make_0 rfl ?_
  refine gX_9_12 C dX9_make_1 ?_
  refine gX_9_100 C dX9_make_4 ?_
  refine e_istore_n C dX9_make_7 (by decide) rfl ?_
  refine e_aload_n C 1 dX9_make_8 rfl ?_
  refine gX_9_12 C dX9_make_9 ?_
  refine e_aload_n C 1 dX9_make_12 rfl ?_
  refine gX_9_69 C dX9_make_13 ?_
  refine e_iconst C dX9_make_16 ?_
  refine aX_9 C (by decide) dX9_make_17 ?_
  refine e_aload_n C 1 dX9_make_18 rfl ?_
  refine gX_9_69 C dX9_make_19 ?_
  refine e_iconst C dX9_make_22 ?_
  refine aX_9 C (by decide) dX9_make_23 ?_
  obtain ⟨Q3, h1, H⟩ := H
  refine e_callVI (As := [vL (M 1 0), vL (M 1 1)]) (rest := []) (q0 := 1) (ci := 5) C Y mi_X5_compose ms_X5_compose mv_X5_compose ml_X9_92 h1 (wlX_st rfl) rfl (by decide) (Nat.le_of_ble_eq_true rfl) hk hn dX9_make_24 rfl (fun z4 M2 hq9 => ?_)
  obtain ⟨o5, H⟩ := H z4 M2 hq9
  refine e_wf (fun hw6 => ?_)
  refine e_istore_n C dX9_make_27 (by decide) rfl ?_
  refine e_iload_n C 0 dX9_make_28 rfl ?_
  refine e_iconst C dX9_make_29 ?_
  refine e_icmp_ne C 43 o5 (by decide) dX9_make_30 (by decide) (fun c9 => ?_) (fun c9 => ?_)
  · replace H := H.1 c9
    refine e_aload_n C 2 dX9_make_43 rfl ?_
    refine gX_9_69 C dX9_make_44 ?_
    refine e_iconst C dX9_make_47 ?_
    refine e_lconst0 C dX9_make_48 ?_
    refine sX_9 C (by decide) (by decide) dX9_make_49 ?_
    refine e_wf (fun hw7 => ?_)
    refine e_aload_n C 2 dX9_make_50 rfl ?_
    refine gX_9_69 C dX9_make_51 ?_
    refine e_iconst C dX9_make_54 ?_
    refine e_lconst0 C dX9_make_55 ?_
    refine sX_9 C (by decide) (by decide) dX9_make_56 ?_
    refine e_wf (fun hw8 => ?_)
    refine e_aload_n C 2 dX9_make_57 rfl ?_
    refine gX_9_65 C dX9_make_58 ?_
    refine e_iload_n C 1 dX9_make_61 rfl ?_
    refine e_aload_n C 2 dX9_make_62 rfl ?_
    refine gX_9_19 C dX9_make_63 ?_
    obtain ⟨Q11, h9, H⟩ := H
    refine e_callVV (As := [vI (M 4 0), .ref (ad 2)]) (rest := []) (q0 := 8) (ci := 3) C Y mi_X3_save ms_X3_save mv_X3_save ml_X9_115 h9 (wlX_st rfl) rfl (by decide) (Nat.le_of_ble_eq_true rfl) hk hn dX9_make_66 rfl (fun M10 hq9 => ?_)
    replace H := H M10 hq9
    refine e_wf (fun hw12 => ?_)
    refine e_iload_n C 0 dX9_make_69 rfl ?_
    exact e_iret C Y hk hn dX9_make_70 H
  · replace H := H.2 c9
    exact th_IS (is := 133) (text := "the game would be too deep, or there are 40 games") (by decide +kernel) C Y (by decide) (Nat.le_of_ble_eq_true rfl) H.1.1 H.1.2 ⟨⟨dX9_make_33, dX9_make_36⟩, Or.inl ⟨dX9_make_37, dX9_make_39, dX9_make_42⟩⟩ H.2
set_option maxRecDepth 4000 in
theorem B_X9_corner_0 {g : Gs} {ad : Nat → Nat} {sk : (Nat → Nat) × (Nat → Nat)} {X : Cx} {mc ms k n : Nat} {PQ : Option Value → Mem → Prop} {PX : String → Mem → Prop} {M : Mem} {x1 x2 x3 : Int} (r1 : R32 x1) (r2 : R32 x2) (r3 : R32 x3) (hk : k ≤ mc) (hn : n ≤ ms) (C : OkB (wC g ad sk) X cX9_corner RX9 6 5 mc ms) (Y : OkR (wC g ad sk) X (some .int) mc ms PQ PX) (H : (((0 ≤ x1 ∧ x1 < (M 4 0)) → (((x2 = 0 ∨ x2 = 1) → (((0 ≤ x3) → E (wC g ad sk) X k n M 23 [(0, .ref (ad 0)), (1, vI x1), (2, vI x2), (3, vI x3), (4, vI 0), (5, vI 0)] []) ∧ ((x3 < 0) → E (wC g ad sk) X k n M 23 [(0, .ref (ad 0)), (1, vI x1), (2, vI x2), (3, vI x3), (4, vI (-1)), (5, vI 0)] []))) ∧ (¬(x2 = 0 ∨ x2 = 1) → (k + 1 ≤ mc ∧ n + 6 ≤ ms) ∧ PX "java/lang/IllegalArgumentException" M))) ∧ (¬(0 ≤ x1 ∧ x1 < (M 4 0)) → (k + 1 ≤ mc ∧ n + 6 ≤ ms) ∧ PX "java/lang/IndexOutOfBoundsException" M))) : E (wC g ad sk) X k n M 0 [(0, .ref (ad 0)), (1, vI x1), (2, vI x2), (3, vI x3)] [] := by
  refine e_wf (fun hw0 => ?_)
  refine e_aload_n C 0 dX9_corner_0 rfl ?_
  refine e_iload_n C 1 dX9_corner_1 rfl ?_
  by_cases c1 : 0 ≤ x1 ∧ x1 < (M 4 0)
  case neg =>
    replace H := H.2 c1
    exact e_callVT (As := [vI x1]) (rest := []) (q0 := 0) (ci := 9) C Y mi_X9_requireGame ms_X9_requireGame mv_X9_requireGame ml_X9_119 (t_X9_requireGame r1 c1) (wlX_st rfl) rfl (by decide) (Nat.le_of_ble_eq_true rfl) H.1.1 H.1.2 dX9_corner_2 rfl H.2
  replace H := H.1 c1
  refine e_callVD (As := [vI x1]) (rest := []) (q0 := 0) (ci := 9) C Y mi_X9_requireGame ms_X9_requireGame mv_X9_requireGame ml_X9_119 (s_X9_requireGame r1 c1) (wlX_st rfl) rfl (by decide) (Nat.le_of_ble_eq_true rfl) hk hn dX9_corner_2 rfl ?_
  refine e_iload_n C 2 dX9_corner_5 rfl ?_
  by_cases c2 : x2 = 0 ∨ x2 = 1
  case neg =>
    replace H := H.2 c2
    exact e_callST (As := [vI x2]) (rest := []) C Y mi_X9_requireSide ms_X9_requireSide ml_X9_122 (t_X9_requireSide r2 c2) (by decide) (Nat.le_of_ble_eq_true rfl) H.1.1 H.1.2 dX9_corner_6 rfl H.2
  replace H := H.1 c2
  refine e_callSD (As := [vI x2]) (rest := []) C Y mi_X9_requireSide ms_X9_requireSide ml_X9_122 (s_X9_requireSide r2 c2) (by decide) (Nat.le_of_ble_eq_true rfl) hk hn dX9_corner_6 rfl ?_
  refine e_iload_n C 3 dX9_corner_9 rfl ?_
  refine e_if_ge C 17 r3 dX9_corner_10 (by decide) (fun c9 => ?_) (fun c9 => ?_)
  · replace H := H.1 c9
    refine e_iconst C dX9_corner_17 ?_
    refine e_istore C dX9_corner_18 (by decide) rfl ?_
    refine e_iconst C dX9_corner_20 ?_
    refine e_istore C dX9_corner_21 (by decide) rfl ?_
    exact e_sub [2, 3, 4, 5, 1, 0] rfl H
  · replace H := H.2 c9
    refine e_iconst C dX9_corner_13 ?_
    refine e_goto C 18 dX9_corner_14 (by decide) ?_
    refine e_istore C dX9_corner_18 (by decide) rfl ?_
    refine e_iconst C dX9_corner_20 ?_
    refine e_istore C dX9_corner_21 (by decide) rfl ?_
    exact e_sub [2, 3, 4, 5, 1, 0] rfl H
set_option maxRecDepth 4000 in
theorem B_X9_corner_23 {g : Gs} {ad : Nat → Nat} {sk : (Nat → Nat) × (Nat → Nat)} {X : Cx} {mc ms k n : Nat} {PQ : Option Value → Mem → Prop} {PX : String → Mem → Prop} {M : Mem} {x1 x2 x3 x4 x5 : Int} (r1 : R32 x1) (r2 : R32 x2) (r3 : R32 x3) (r4 : R32 x4) (r5 : R32 x5) (hk : k ≤ mc) (hn : n ≤ ms) (C : OkB (wC g ad sk) X cX9_corner RX9 6 5 mc ms) (Y : OkR (wC g ad sk) X (some .int) mc ms PQ PX) (H : (((x3 ≤ x5) → PQ (some (vI x4)) M) ∧ ((x5 < x3) → (((x4 = (-1)) → PQ (some (vI x4)) M) ∧ ((x4 ≠ (-1)) → ∃ Q3 : Int → Mem → Prop, SpI (wC g ad sk) yX5_cornerBehind cX5_cornerBehind 8 (some .int) 4 [.ref (ad 1), vI x1, vI x2, vI x4] M Q3 ∧ ∀ (z4 : Int) (M2 : Mem), Q3 z4 M2 → R32 z4 ∧ (R32 (x5 + 1)) ∧ E (wC g ad sk) X k n M2 23 [(0, .ref (ad 0)), (1, vI x1), (2, vI x2), (3, vI x3), (4, vI z4), (5, vI (x5 + 1))] []))))) : E (wC g ad sk) X k n M 23 [(0, .ref (ad 0)), (1, vI x1), (2, vI x2), (3, vI x3), (4, vI x4), (5, vI x5)] [] := by
  refine e_wf (fun hw0 => ?_)
  refine e_iload C 5 dX9_corner_23 rfl ?_
  refine e_iload_n C 3 dX9_corner_25 rfl ?_
  refine e_icmp_ge C 54 r5 r3 dX9_corner_26 (by decide) (fun c9 => ?_) (fun c9 => ?_)
  · replace H := H.1 c9
    refine e_iload C 4 dX9_corner_54 rfl ?_
    exact e_iret C Y hk hn dX9_corner_56 H
  · replace H := H.2 c9
    refine e_iload C 4 dX9_corner_29 rfl ?_
    refine e_iconst C dX9_corner_31 ?_
    refine e_icmp_eq C 54 r4 (by decide) dX9_corner_32 (by decide) (fun c9 => ?_) (fun c9 => ?_)
    · replace H := H.1 c9
      refine e_iload C 4 dX9_corner_54 rfl ?_
      exact e_iret C Y hk hn dX9_corner_56 H
    · replace H := H.2 c9
      refine e_aload_n C 0 dX9_corner_35 rfl ?_
      refine gX_9_12 C dX9_corner_36 ?_
      refine e_iload_n C 1 dX9_corner_39 rfl ?_
      refine e_iload_n C 2 dX9_corner_40 rfl ?_
      refine e_iload C 4 dX9_corner_41 rfl ?_
      obtain ⟨Q3, h1, H⟩ := H
      refine e_callVI (As := [vI x1, vI x2, vI x4]) (rest := []) (q0 := 1) (ci := 5) C Y mi_X5_cornerBehind ms_X5_cornerBehind mv_X5_cornerBehind ml_X9_187 h1 (wlX_st rfl) rfl (by decide) (Nat.le_of_ble_eq_true rfl) hk hn dX9_corner_43 rfl (fun z4 M2 hq9 => ?_)
      obtain ⟨o5, H⟩ := H z4 M2 hq9
      refine e_wf (fun hw6 => ?_)
      refine e_istore C dX9_corner_46 (by decide) rfl ?_
      obtain ⟨o7, H⟩ := H
      refine e_iinc C 5 dX9_corner_48 rfl (by decide) rfl ?_
      refine e_goto C 23 dX9_corner_51 (by decide) ?_
      exact e_sub [2, 3, 4, 5, 1, 0] rfl H
set_option maxRecDepth 4000 in
theorem B_X9_write_0 {g : Gs} {ad : Nat → Nat} {sk : (Nat → Nat) × (Nat → Nat)} {X : Cx} {mc ms k n : Nat} {PQ : Option Value → Mem → Prop} {PX : String → Mem → Prop} {M : Mem} {x1 : Int} (r1 : R32 x1) (hk : k ≤ mc) (hn : n ≤ ms) (C : OkB (wC g ad sk) X cX9_write RX9 2 5 mc ms) (Y : OkR (wC g ad sk) X (some .int) mc ms PQ PX) (H : (((0 ≤ x1 ∧ x1 < (M 4 0)) → (0 ≤ x1 ∧ x1 < 40) ∧ ((((M 48 x1) ≤ 400) → ∃ Q5 : Mem → Prop, SpV (wC g ad sk) yX4_copyOut cX4_copyOut 2 none 4 [.ref (ad 7), vI x1] M Q5 ∧ ∀ M4 : Mem, Q5 M4 → PQ (some (vI (M4 37 0))) M4) ∧ ((400 < (M 48 x1)) → (k + 1 ≤ mc ∧ n + 6 ≤ ms) ∧ PX "java/lang/IllegalStateException" M))) ∧ (¬(0 ≤ x1 ∧ x1 < (M 4 0)) → (k + 1 ≤ mc ∧ n + 6 ≤ ms) ∧ PX "java/lang/IndexOutOfBoundsException" M))) : E (wC g ad sk) X k n M 0 [(0, .ref (ad 0)), (1, vI x1)] [] := by
  refine e_wf (fun hw0 => ?_)
  refine e_aload_n C 0 dX9_write_0 rfl ?_
  refine e_iload_n C 1 dX9_write_1 rfl ?_
  by_cases c1 : 0 ≤ x1 ∧ x1 < (M 4 0)
  case neg =>
    replace H := H.2 c1
    exact e_callVT (As := [vI x1]) (rest := []) (q0 := 0) (ci := 9) C Y mi_X9_requireGame ms_X9_requireGame mv_X9_requireGame ml_X9_119 (t_X9_requireGame r1 c1) (wlX_st rfl) rfl (by decide) (Nat.le_of_ble_eq_true rfl) H.1.1 H.1.2 dX9_write_2 rfl H.2
  replace H := H.1 c1
  refine e_callVD (As := [vI x1]) (rest := []) (q0 := 0) (ci := 9) C Y mi_X9_requireGame ms_X9_requireGame mv_X9_requireGame ml_X9_119 (s_X9_requireGame r1 c1) (wlX_st rfl) rfl (by decide) (Nat.le_of_ble_eq_true rfl) hk hn dX9_write_2 rfl ?_
  refine e_aload_n C 0 dX9_write_5 rfl ?_
  refine gX_9_12 C dX9_write_6 ?_
  refine gX_9_140 C dX9_write_9 ?_
  refine e_iload_n C 1 dX9_write_12 rfl ?_
  obtain ⟨o2, H⟩ := H
  refine e_aaldG C o2 dX9_write_13 ?_
  refine gX_9_265 C o2 dX9_write_14 ?_
  refine e_sipush C dX9_write_17 (by decide) ?_
  refine e_icmp_le C 34 (hw0.2.1 48 _ rfl) (by decide) dX9_write_20 (by decide) (fun c9 => ?_) (fun c9 => ?_)
  · replace H := H.1 c9
    refine e_aload_n C 0 dX9_write_34 rfl ?_
    refine gX_9_58 C dX9_write_35 ?_
    refine e_iload_n C 1 dX9_write_38 rfl ?_
    obtain ⟨Q5, h3, H⟩ := H
    refine e_callVV (As := [vI x1]) (rest := []) (q0 := 7) (ci := 4) C Y mi_X4_copyOut ms_X4_copyOut mv_X4_copyOut ml_X9_268 h3 (wlX_st rfl) rfl (by decide) (Nat.le_of_ble_eq_true rfl) hk hn dX9_write_39 rfl (fun M4 hq9 => ?_)
    replace H := H M4 hq9
    refine e_wf (fun hw6 => ?_)
    refine e_aload_n C 0 dX9_write_42 rfl ?_
    refine gX_9_58 C dX9_write_43 ?_
    refine gX_9_271 C dX9_write_46 ?_
    exact e_iret C Y hk hn dX9_write_49 H
  · replace H := H.2 c9
    exact th_IS (is := 266) (text := "it would be longer than 400 characters") (by decide +kernel) C Y (by decide) (Nat.le_of_ble_eq_true rfl) H.1.1 H.1.2 ⟨⟨dX9_write_23, dX9_write_26⟩, Or.inr ⟨dX9_write_27, dX9_write_30, dX9_write_33⟩⟩ H.2
set_option maxRecDepth 4000 in
theorem B_X9_playLine_0 {g : Gs} {ad : Nat → Nat} {sk : (Nat → Nat) × (Nat → Nat)} {X : Cx} {mc ms k n : Nat} {PQ : Option Value → Mem → Prop} {PX : String → Mem → Prop} {M : Mem} {x1 x2 x3 : Int} (r1 : R32 x1) (r2 : R32 x2) (r3 : R32 x3) (hk : k ≤ mc) (hn : n ≤ ms) (C : OkB (wC g ad sk) X cX9_playLine RX9 8 6 mc ms) (Y : OkR (wC g ad sk) X none mc ms PQ PX) (H : E (wC g ad sk) X k n (up M 0 0 0) 11 [(0, .ref (ad 0)), (2, vI x2), (3, vI x3), (4, vI x1), (5, vI 0)] []) : E (wC g ad sk) X k n M 0 [(0, .ref (ad 0)), (1, vI x1), (2, vI x2), (3, vI x3)] [] := by
  refine e_wf (fun hw0 => ?_)
  refine e_iload_n C 1 dX9_playLine_0 rfl ?_
  refine e_istore C dX9_playLine_1 (by decide) rfl ?_
  refine e_aload_n C 1 dX9_playLine_3 rfl ?_
  refine e_iconst C dX9_playLine_4 ?_
  refine pX_9_80 C (by decide) dX9_playLine_5 ?_
  refine e_wf (fun hw1 => ?_)
  refine e_iconst C dX9_playLine_8 ?_
  refine e_istore C dX9_playLine_9 (by decide) rfl ?_
  exact e_sub [2, 4, 5, 1, 0] rfl H
set_option maxRecDepth 4000 in
theorem B_X9_playLine_11 {g : Gs} {ad : Nat → Nat} {sk : (Nat → Nat) × (Nat → Nat)} {X : Cx} {mc ms k n : Nat} {PQ : Option Value → Mem → Prop} {PX : String → Mem → Prop} {M : Mem} {x2 x3 x4 x5 : Int} (r2 : R32 x2) (r3 : R32 x3) (r4 : R32 x4) (r5 : R32 x5) (hk : k ≤ mc) (hn : n ≤ ms) (C : OkB (wC g ad sk) X cX9_playLine RX9 8 6 mc ms) (Y : OkR (wC g ad sk) X none mc ms PQ PX) (H : (((24 ≤ x5) → PQ none M) ∧ ((x5 < 24) → (((x4 ≠ 0) → E (wC g ad sk) X k n M 45 [(0, .ref (ad 0)), (2, vI x2), (3, vI x3), (4, vI x4), (5, vI x5)] [vI x3, vI x4, vI (M 11 0), .ref (ad 10), .ref (ad 4)]) ∧ ((x4 = 0) → E (wC g ad sk) X k n M 45 [(0, .ref (ad 0)), (2, vI x2), (3, vI x3), (4, vI x4), (5, vI x5)] [vI x2, vI x4, vI (M 11 0), .ref (ad 10), .ref (ad 4)]))))) : E (wC g ad sk) X k n M 11 [(0, .ref (ad 0)), (2, vI x2), (3, vI x3), (4, vI x4), (5, vI x5)] [] := by
  refine e_wf (fun hw0 => ?_)
  refine e_iload C 4 dX9_playLine_11 rfl ?_
  refine e_bipush C dX9_playLine_13 (by decide) ?_
  refine e_icmp_ge C 125 r5 (by decide) dX9_playLine_15 (by decide) (fun c9 => ?_) (fun c9 => ?_)
  · replace H := H.1 c9
    exact e_vret C Y hk hn dX9_playLine_125 H
  · replace H := H.2 c9
    refine e_aload_n C 0 dX9_playLine_18 rfl ?_
    refine gX_9_37 C dX9_playLine_19 ?_
    refine e_aload_n C 0 dX9_playLine_22 rfl ?_
    refine gX_9_73 C dX9_playLine_23 ?_
    refine e_aload_n C 0 dX9_playLine_26 rfl ?_
    refine gX_9_19 C dX9_playLine_27 ?_
    refine gX_9_190 C dX9_playLine_30 ?_
    refine e_iload C 3 dX9_playLine_33 rfl ?_
    refine e_iload C 3 dX9_playLine_35 rfl ?_
    refine e_if_ne C 44 r4 dX9_playLine_37 (by decide) (fun c9 => ?_) (fun c9 => ?_)
    · replace H := H.1 c9
      refine e_iload_n C 2 dX9_playLine_44 rfl ?_
      exact e_sub [0, 1, 2, 3, 4] rfl H
    · replace H := H.2 c9
      refine e_iload_n C 1 dX9_playLine_40 rfl ?_
      refine e_goto C 45 dX9_playLine_41 (by decide) ?_
      exact e_sub [0, 1, 2, 3, 4] rfl H
set_option maxRecDepth 4000 in
theorem B_X9_playLine_45 {g : Gs} {ad : Nat → Nat} {sk : (Nat → Nat) × (Nat → Nat)} {X : Cx} {mc ms k n : Nat} {PQ : Option Value → Mem → Prop} {PX : String → Mem → Prop} {M : Mem} {x2 x3 x4 x5 t0 t1 t2 : Int} (r2 : R32 x2) (r3 : R32 x3) (r4 : R32 x4) (r5 : R32 x5) (q0 : R32 t0) (q1 : R32 t1) (q2 : R32 t2) (hk : k ≤ mc) (hn : n ≤ ms) (C : OkB (wC g ad sk) X cX9_playLine RX9 8 6 mc ms) (Y : OkR (wC g ad sk) X none mc ms PQ PX) (H : ∃ Q3 : Int → Mem → Prop, SpI (wC g ad sk) yX0_advise cX0_advise 5 (some .int) 5 [.ref (ad 4), .ref (ad 10), vI t2, vI t1, vI t0] M Q3 ∧ ∀ (z4 : Int) (M2 : Mem), Q3 z4 M2 → R32 z4 ∧ (((z4 ≠ (-1)) → ((0 ≤ Int.tdiv z4 100 ∧ Int.tdiv z4 100 < 4) ∧ (0 ≤ M2 2 (Int.tdiv z4 100) ∧ M2 2 (Int.tdiv z4 100) < 40) ∧ ((0 ≤ x4 ∧ x4 ≤ 1) ∧ M2 41 (40 * x4 + (M2 2 (Int.tdiv z4 100))) ≤ 4) ∧ (0 ≤ x5 ∧ x5 < 24) ∧ (R32 (x5 + 1)) ∧ (R32 (1 - x4))) ∧ E (wC g ad sk) X k n (up (up (up M2 2 (Int.tdiv z4 100) (optAt M2 (M2 2 (Int.tdiv z4 100)) x4 (Int.tmod z4 100))) 3 x5 z4) 0 0 (x5 + 1)) 11 [(0, .ref (ad 0)), (2, vI x2), (3, vI x3), (4, vI (1 - x4)), (5, vI (x5 + 1))] []) ∧ ((z4 = (-1)) → PQ none M2))) : E (wC g ad sk) X k n M 45 [(0, .ref (ad 0)), (2, vI x2), (3, vI x3), (4, vI x4), (5, vI x5)] [vI t0, vI t1, vI t2, .ref (ad 10), .ref (ad 4)] := by
  refine e_wf (fun hw0 => ?_)
  obtain ⟨Q3, h1, H⟩ := H
  refine e_callVI (As := [.ref (ad 10), vI t2, vI t1, vI t0]) (rest := []) (q0 := 4) (ci := 0) C Y mi_X0_advise ms_X0_advise mv_X0_advise ml_X9_226 h1 (wlX_st rfl) rfl (by decide) (Nat.le_of_ble_eq_true rfl) hk hn dX9_playLine_45 rfl (fun z4 M2 hq9 => ?_)
  obtain ⟨o5, H⟩ := H z4 M2 hq9
  refine e_wf (fun hw6 => ?_)
  refine e_istore C dX9_playLine_48 (by decide) rfl ?_
  refine e_iload C 0 dX9_playLine_50 rfl ?_
  refine e_iconst C dX9_playLine_52 ?_
  refine e_icmp_ne C 57 o5 (by decide) dX9_playLine_53 (by decide) (fun c9 => ?_) (fun c9 => ?_)
  · replace H := H.1 c9
    refine e_iload C 0 dX9_playLine_57 rfl ?_
    refine e_bipush C dX9_playLine_59 (by decide) ?_
    refine e_idiv C o5 (by decide) (by decide) (by decide) dX9_playLine_61 ?_
    refine e_istore C dX9_playLine_62 (by decide) rfl ?_
    refine e_aload_n C 2 dX9_playLine_64 rfl ?_
    refine gX_9_73 C dX9_playLine_65 ?_
    refine e_iload C 0 dX9_playLine_68 rfl ?_
    refine e_aload_n C 2 dX9_playLine_70 rfl ?_
    refine gX_9_12 C dX9_playLine_71 ?_
    refine gX_9_140 C dX9_playLine_74 ?_
    refine e_aload_n C 2 dX9_playLine_77 rfl ?_
    refine gX_9_73 C dX9_playLine_78 ?_
    refine e_iload C 0 dX9_playLine_81 rfl ?_
    obtain ⟨⟨o7, o8, o9, o11, o13, o15⟩, H⟩ := H
    refine aX_10 C o7 dX9_playLine_83 ?_
    refine e_aaldG C o8 dX9_playLine_84 ?_
    refine e_iload C 5 dX9_playLine_85 rfl ?_
    refine e_iload C 1 dX9_playLine_87 rfl ?_
    refine e_bipush C dX9_playLine_89 (by decide) ?_
    refine e_irem C o5 (by decide) (by decide) (by decide) dX9_playLine_91 ?_
    refine e_callVD (As := [vI x4, vI (Int.tmod z4 100)]) (rest := [vI (Int.tdiv z4 100), .ref (ad 10)]) (ci := 2) C Y mi_X2_optionAt ms_X2_optionAt mv_X2_optionAt ml_X9_149 (s_X2_optionAt o8 r4 (tmod_r o5 (by decide) (by decide)) o9) (heG o8) rfl (by decide) (Nat.le_of_ble_eq_true rfl) hk hn dX9_playLine_92 rfl ?_
    refine sX_10 C o7 (optAt_r hw6 _ _ _) dX9_playLine_95 ?_
    refine e_wf (fun hw10 => ?_)
    refine e_aload_n C 2 dX9_playLine_96 rfl ?_
    refine gX_9_77 C dX9_playLine_97 ?_
    refine e_iload C 6 dX9_playLine_100 rfl ?_
    refine e_iload C 1 dX9_playLine_102 rfl ?_
    refine sX_11 C o11 o5 dX9_playLine_104 ?_
    refine e_wf (fun hw12 => ?_)
    refine e_aload_n C 2 dX9_playLine_105 rfl ?_
    refine e_iload C 6 dX9_playLine_106 rfl ?_
    refine e_iconst C dX9_playLine_108 ?_
    refine e_iadd C dX9_playLine_109 ?_
    refine pX_9_80 C o13 dX9_playLine_110 ?_
    refine e_wf (fun hw14 => ?_)
    refine e_iconst C dX9_playLine_113 ?_
    refine e_iload C 5 dX9_playLine_114 rfl ?_
    refine e_isub C dX9_playLine_116 ?_
    refine e_istore C dX9_playLine_117 (by decide) rfl ?_
    refine e_iinc C 6 dX9_playLine_119 rfl (by decide) rfl ?_
    refine e_goto C 11 dX9_playLine_122 (by decide) ?_
    exact e_sub [4, 5, 6, 1, 0] rfl H
  · replace H := H.2 c9
    exact e_vret C Y hk hn dX9_playLine_56 H
set_option maxRecDepth 4000 in
theorem B_X9_negative_0 {g : Gs} {ad : Nat → Nat} {sk : (Nat → Nat) × (Nat → Nat)} {X : Cx} {mc ms k n : Nat} {PQ : Option Value → Mem → Prop} {PX : String → Mem → Prop} {M : Mem} {x1 : Int} (r1 : R32 x1) (hk : k ≤ mc) (hn : n ≤ ms) (C : OkB (wC g ad sk) X cX9_negative RX9 4 7 mc ms) (Y : OkR (wC g ad sk) X (some .int) mc ms PQ PX) (H : (((0 ≤ x1 ∧ x1 < (M 4 0)) → ∃ Q4 : Int → Mem → Prop, SpI (wC g ad sk) yX1_negate cX1_negate 6 (some .int) 6 [.ref (ad 6), vI x1] M Q4 ∧ ∀ (z5 : Int) (M3 : Mem), Q4 z5 M3 → R32 z5 ∧ (((z5 ≠ (-1)) → ∃ Q10 : Mem → Prop, SpV (wC g ad sk) yX3_save cX3_save 5 none 1 [.ref (ad 8), vI (M 4 0), .ref (ad 2)] M3 Q10 ∧ ∀ M9 : Mem, Q10 M9 → PQ (some (vI z5)) M9) ∧ ((z5 = (-1)) → (k + 1 ≤ mc ∧ n + 6 ≤ ms) ∧ PX "java/lang/IllegalStateException" (up M3 4 0 (M 4 0))))) ∧ (¬(0 ≤ x1 ∧ x1 < (M 4 0)) → (k + 1 ≤ mc ∧ n + 6 ≤ ms) ∧ PX "java/lang/IndexOutOfBoundsException" M))) : E (wC g ad sk) X k n M 0 [(0, .ref (ad 0)), (1, vI x1)] [] := by
  refine e_wf (fun hw0 => ?_)
  refine e_aload_n C 0 dX9_negative_0 rfl ?_
  refine e_iload_n C 1 dX9_negative_1 rfl ?_
  by_cases c1 : 0 ≤ x1 ∧ x1 < (M 4 0)
  case neg =>
    replace H := H.2 c1
    exact e_callVT (As := [vI x1]) (rest := []) (q0 := 0) (ci := 9) C Y mi_X9_requireGame ms_X9_requireGame mv_X9_requireGame ml_X9_119 (t_X9_requireGame r1 c1) (wlX_st rfl) rfl (by decide) (Nat.le_of_ble_eq_true rfl) H.1.1 H.1.2 dX9_negative_2 rfl H.2
  replace H := H.1 c1
  refine e_callVD (As := [vI x1]) (rest := []) (q0 := 0) (ci := 9) C Y mi_X9_requireGame ms_X9_requireGame mv_X9_requireGame ml_X9_119 (s_X9_requireGame r1 c1) (wlX_st rfl) rfl (by decide) (Nat.le_of_ble_eq_true rfl) hk hn dX9_negative_2 rfl ?_
  refine e_aload_n C 0 dX9_negative_5 rfl ?_
  refine gX_9_12 C dX9_negative_6 ?_
  refine gX_9_100 C dX9_negative_9 ?_
  refine e_istore_n C dX9_negative_12 (by decide) rfl ?_
  refine e_aload_n C 1 dX9_negative_13 rfl ?_
  refine gX_9_51 C dX9_negative_14 ?_
  refine e_iload_n C 2 dX9_negative_17 rfl ?_
  obtain ⟨Q4, h2, H⟩ := H
  refine e_callVI (As := [vI x1]) (rest := []) (q0 := 6) (ci := 1) C Y mi_X1_negate ms_X1_negate mv_X1_negate ml_X9_135 h2 (wlX_st rfl) rfl (by decide) (Nat.le_of_ble_eq_true rfl) hk hn dX9_negative_18 rfl (fun z5 M3 hq9 => ?_)
  obtain ⟨o6, H⟩ := H z5 M3 hq9
  refine e_wf (fun hw7 => ?_)
  refine e_istore_n C dX9_negative_21 (by decide) rfl ?_
  refine e_iload_n C 0 dX9_negative_22 rfl ?_
  refine e_iconst C dX9_negative_23 ?_
  refine e_icmp_ne C 45 o6 (by decide) dX9_negative_24 (by decide) (fun c9 => ?_) (fun c9 => ?_)
  · replace H := H.1 c9
    refine e_aload_n C 2 dX9_negative_45 rfl ?_
    refine gX_9_65 C dX9_negative_46 ?_
    refine e_iload_n C 1 dX9_negative_49 rfl ?_
    refine e_aload_n C 2 dX9_negative_50 rfl ?_
    refine gX_9_19 C dX9_negative_51 ?_
    obtain ⟨Q10, h8, H⟩ := H
    refine e_callVV (As := [vI (M 4 0), .ref (ad 2)]) (rest := []) (q0 := 8) (ci := 3) C Y mi_X3_save ms_X3_save mv_X3_save ml_X9_115 h8 (wlX_st rfl) rfl (by decide) (Nat.le_of_ble_eq_true rfl) hk hn dX9_negative_54 rfl (fun M9 hq9 => ?_)
    replace H := H M9 hq9
    refine e_wf (fun hw11 => ?_)
    refine e_iload_n C 0 dX9_negative_57 rfl ?_
    exact e_iret C Y hk hn dX9_negative_58 H
  · replace H := H.2 c9
    refine e_aload_n C 2 dX9_negative_27 rfl ?_
    refine gX_9_12 C dX9_negative_28 ?_
    refine e_iload_n C 1 dX9_negative_31 rfl ?_
    refine pX_9_100 C (hw0.2.1 4 _ rfl) dX9_negative_32 ?_
    refine e_wf (fun hw12 => ?_)
    exact th_IS (is := 138) (text := "more than 40 games would be needed") (by decide +kernel) C Y (by decide) (Nat.le_of_ble_eq_true rfl) H.1.1 H.1.2 ⟨⟨dX9_negative_35, dX9_negative_38⟩, Or.inl ⟨dX9_negative_39, dX9_negative_41, dX9_negative_44⟩⟩ H.2
set_option maxRecDepth 4000 in
theorem B_X9_fault_0 {g : Gs} {ad : Nat → Nat} {sk : (Nat → Nat) × (Nat → Nat)} {X : Cx} {mc ms k n : Nat} {PQ : Option Value → Mem → Prop} {PX : String → Mem → Prop} {M : Mem}  (hk : k ≤ mc) (hn : n ≤ ms) (C : OkB (wC g ad sk) X cX9_fault RX9 1 10 mc ms) (Y : OkR (wC g ad sk) X (some .int) mc ms PQ PX) (H : ∃ Q3 : Int → Mem → Prop, SpI (wC g ad sk) yX8_parse cX8_parse 2 (some .int) 9 [.ref (ad 5)] M Q3 ∧ ∀ (z4 : Int) (M2 : Mem), Q3 z4 M2 → R32 z4 ∧ PQ (some (vI z4)) M2) : E (wC g ad sk) X k n M 0 [(0, .ref (ad 0))] [] := by
  refine e_wf (fun hw0 => ?_)
  refine e_aload_n C 0 dX9_fault_0 rfl ?_
  refine gX_9_44 C dX9_fault_1 ?_
  obtain ⟨Q3, h1, H⟩ := H
  refine e_callVI (As := []) (rest := []) (q0 := 5) (ci := 8) C Y mi_X8_parse ms_X8_parse mv_X8_parse ml_X9_248 h1 (wlX_st rfl) rfl (by decide) (Nat.le_of_ble_eq_true rfl) hk hn dX9_fault_4 rfl (fun z4 M2 hq9 => ?_)
  obtain ⟨o5, H⟩ := H z4 M2 hq9
  refine e_wf (fun hw6 => ?_)
  exact e_iret C Y hk hn dX9_fault_7 H
set_option maxRecDepth 4000 in
theorem B_X9_read_0 {g : Gs} {ad : Nat → Nat} {sk : (Nat → Nat) × (Nat → Nat)} {X : Cx} {mc ms k n : Nat} {PQ : Option Value → Mem → Prop} {PX : String → Mem → Prop} {M : Mem}  (hk : k ≤ mc) (hn : n ≤ ms) (C : OkB (wC g ad sk) X cX9_read RX9 3 10 mc ms) (Y : OkR (wC g ad sk) X (some .int) mc ms PQ PX) (H : ∃ Q3 : Int → Mem → Prop, SpI (wC g ad sk) yX8_parse cX8_parse 2 (some .int) 9 [.ref (ad 5)] M Q3 ∧ ∀ (z4 : Int) (M2 : Mem), Q3 z4 M2 → R32 z4 ∧ (((z4 = (-1)) → ∃ Q9 : Int → Mem → Prop, SpI (wC g ad sk) yX1_build cX1_build 8 (some .int) 5 [.ref (ad 6), .ref (ad 35), vI (M2 22 0)] M2 Q9 ∧ ∀ (z10 : Int) (M8 : Mem), Q9 z10 M8 → R32 z10 ∧ (((z10 ≠ (-1)) → ∃ Q15 : Mem → Prop, SpV (wC g ad sk) yX3_save cX3_save 5 none 1 [.ref (ad 8), vI (M2 4 0), .ref (ad 2)] M8 Q15 ∧ ∀ M14 : Mem, Q15 M14 → PQ (some (vI z10)) M14) ∧ ((z10 = (-1)) → (k + 1 ≤ mc ∧ n + 6 ≤ ms) ∧ PX "java/lang/IllegalStateException" (up M8 4 0 (M2 4 0))))) ∧ ((z4 ≠ (-1)) → (k + 1 ≤ mc ∧ n + 6 ≤ ms) ∧ PX "java/lang/IllegalArgumentException" M2))) : E (wC g ad sk) X k n M 0 [(0, .ref (ad 0))] [] := by
  refine e_wf (fun hw0 => ?_)
  refine e_aload_n C 0 dX9_read_0 rfl ?_
  refine gX_9_44 C dX9_read_1 ?_
  obtain ⟨Q3, h1, H⟩ := H
  refine e_callVI (As := []) (rest := []) (q0 := 5) (ci := 8) C Y mi_X8_parse ms_X8_parse mv_X8_parse ml_X9_248 h1 (wlX_st rfl) rfl (by decide) (Nat.le_of_ble_eq_true rfl) hk hn dX9_read_4 rfl (fun z4 M2 hq9 => ?_)
  obtain ⟨o5, H⟩ := H z4 M2 hq9
  refine e_wf (fun hw6 => ?_)
  refine e_iconst C dX9_read_7 ?_
  refine e_icmp_eq C 21 o5 (by decide) dX9_read_8 (by decide) (fun c9 => ?_) (fun c9 => ?_)
  · replace H := H.1 c9
    refine e_aload_n C 0 dX9_read_21 rfl ?_
    refine gX_9_12 C dX9_read_22 ?_
    refine gX_9_100 C dX9_read_25 ?_
    refine e_istore_n C dX9_read_28 (by decide) rfl ?_
    refine e_aload_n C 1 dX9_read_29 rfl ?_
    refine gX_9_51 C dX9_read_30 ?_
    refine e_aload_n C 1 dX9_read_33 rfl ?_
    refine gX_9_44 C dX9_read_34 ?_
    refine gX_9_254 C dX9_read_37 ?_
    refine e_aload_n C 1 dX9_read_40 rfl ?_
    refine gX_9_44 C dX9_read_41 ?_
    refine gX_9_257 C dX9_read_44 ?_
    obtain ⟨Q9, h7, H⟩ := H
    refine e_callVI (As := [.ref (ad 35), vI (M2 22 0)]) (rest := []) (q0 := 6) (ci := 1) C Y mi_X1_build ms_X1_build mv_X1_build ml_X9_260 h7 (wlX_st rfl) rfl (by decide) (Nat.le_of_ble_eq_true rfl) hk hn dX9_read_47 rfl (fun z10 M8 hq9 => ?_)
    obtain ⟨o11, H⟩ := H z10 M8 hq9
    refine e_wf (fun hw12 => ?_)
    refine e_istore_n C dX9_read_50 (by decide) rfl ?_
    refine e_iload_n C 0 dX9_read_51 rfl ?_
    refine e_iconst C dX9_read_52 ?_
    refine e_icmp_ne C 75 o11 (by decide) dX9_read_53 (by decide) (fun c9 => ?_) (fun c9 => ?_)
    · replace H := H.1 c9
      refine e_aload_n C 2 dX9_read_75 rfl ?_
      refine gX_9_65 C dX9_read_76 ?_
      refine e_iload_n C 1 dX9_read_79 rfl ?_
      refine e_aload_n C 2 dX9_read_80 rfl ?_
      refine gX_9_19 C dX9_read_81 ?_
      obtain ⟨Q15, h13, H⟩ := H
      refine e_callVV (As := [vI (M2 4 0), .ref (ad 2)]) (rest := []) (q0 := 8) (ci := 3) C Y mi_X3_save ms_X3_save mv_X3_save ml_X9_115 h13 (wlX_st rfl) rfl (by decide) (Nat.le_of_ble_eq_true rfl) hk hn dX9_read_84 rfl (fun M14 hq9 => ?_)
      replace H := H M14 hq9
      refine e_wf (fun hw16 => ?_)
      refine e_iload_n C 0 dX9_read_87 rfl ?_
      exact e_iret C Y hk hn dX9_read_88 H
    · replace H := H.2 c9
      refine e_aload_n C 2 dX9_read_56 rfl ?_
      refine gX_9_12 C dX9_read_57 ?_
      refine e_iload_n C 1 dX9_read_60 rfl ?_
      refine pX_9_100 C (hw6.2.1 4 _ rfl) dX9_read_61 ?_
      refine e_wf (fun hw17 => ?_)
      exact th_IS (is := 263) (text := "too many options, too deep, or more than 40 games") (by decide +kernel) C Y (by decide) (Nat.le_of_ble_eq_true rfl) H.1.1 H.1.2 ⟨⟨dX9_read_64, dX9_read_67⟩, Or.inr ⟨dX9_read_68, dX9_read_71, dX9_read_74⟩⟩ H.2
  · replace H := H.2 c9
    exact th_IA (is := 252) (text := "the text has a fault") (by decide +kernel) C Y (by decide) (Nat.le_of_ble_eq_true rfl) H.1.1 H.1.2 ⟨⟨dX9_read_11, dX9_read_14⟩, Or.inl ⟨dX9_read_15, dX9_read_17, dX9_read_20⟩⟩ H.2
set_option maxRecDepth 4000 in
theorem B_X9_requireSmallTable_0 {g : Gs} {ad : Nat → Nat} {sk : (Nat → Nat) × (Nat → Nat)} {X : Cx} {mc ms k n : Nat} {PQ : Option Value → Mem → Prop} {PX : String → Mem → Prop} {M : Mem}  (hk : k ≤ mc) (hn : n ≤ ms) (C : OkB (wC g ad sk) X cX9_requireSmallTable RX9 1 3 mc ms) (Y : OkR (wC g ad sk) X none mc ms PQ PX) (H : ∃ Q3 : Int → Mem → Prop, SpI (wC g ad sk) yX9_size cX9_size 3 (some .int) 2 [.ref (ad 0)] M Q3 ∧ ∀ (z4 : Int) (M2 : Mem), Q3 z4 M2 → R32 z4 ∧ (((z4 ≤ 4000) → PQ none M2) ∧ ((4000 < z4) → (k + 1 ≤ mc ∧ n + 6 ≤ ms) ∧ PX "java/lang/IllegalStateException" M2))) : E (wC g ad sk) X k n M 0 [(0, .ref (ad 0))] [] := by
  refine e_wf (fun hw0 => ?_)
  refine e_aload_n C 0 dX9_requireSmallTable_0 rfl ?_
  obtain ⟨Q3, h1, H⟩ := H
  refine e_callVI (As := []) (rest := []) (q0 := 0) (ci := 9) C Y mi_X9_size ms_X9_size mv_X9_size ml_X9_309 h1 (wlX_st rfl) rfl (by decide) (Nat.le_of_ble_eq_true rfl) hk hn dX9_requireSmallTable_1 rfl (fun z4 M2 hq9 => ?_)
  obtain ⟨o5, H⟩ := H z4 M2 hq9
  refine e_wf (fun hw6 => ?_)
  refine e_sipush C dX9_requireSmallTable_4 (by decide) ?_
  refine e_icmp_le C 21 o5 (by decide) dX9_requireSmallTable_7 (by decide) (fun c9 => ?_) (fun c9 => ?_)
  · replace H := H.1 c9
    exact e_vret C Y hk hn dX9_requireSmallTable_21 H
  · replace H := H.2 c9
    exact th_IS (is := 312) (text := "the size of the table is greater than 4000") (by decide +kernel) C Y (by decide) (Nat.le_of_ble_eq_true rfl) H.1.1 H.1.2 ⟨⟨dX9_requireSmallTable_10, dX9_requireSmallTable_13⟩, Or.inr ⟨dX9_requireSmallTable_14, dX9_requireSmallTable_17, dX9_requireSmallTable_20⟩⟩ H.2
