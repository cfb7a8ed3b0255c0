/-! ===== writing: the blocks with the room that putGame needs ===== -/
set_option maxRecDepth 4000 in
theorem B_X4_copyOutW_0 {g : Gs} {ad : Nat → Nat} {sk : (Nat → Nat) × (Nat → Nat)} {X : Cx} {mc ms k n : Nat} {PQ : Option Value → Mem → Prop} {PX : String → Mem → Prop} {M : Mem} {x1 : Int} (r1 : R32 x1) (hk : k ≤ mc) (hn : n ≤ ms) (C : OkB (wC g ad sk) X cX4_copyOut RX4 2 11 mc ms) (Y : OkR (wC g ad sk) X none mc ms PQ PX) (H : ∃ Q4 : Mem → Prop, SpV (wC g ad sk) yX4_putGame cX4_putGame 6 none 10 [.ref (ad 7), vI x1, vI 0] (up M 37 0 0) Q4 ∧ ∀ M3 : Mem, Q4 M3 → PQ none M3) : E (wC g ad sk) X k n M 0 [(0, .ref (ad 7)), (1, vI x1)] [] := by
  refine e_wf (fun hw0 => ?_)
  refine e_aload_n C 0 dX4_copyOut_0 rfl ?_
  refine e_iconst C dX4_copyOut_1 ?_
  refine pX_4_15 C (by decide) dX4_copyOut_2 ?_
  refine e_wf (fun hw1 => ?_)
  refine e_aload_n C 0 dX4_copyOut_5 rfl ?_
  refine e_iload_n C 1 dX4_copyOut_6 rfl ?_
  refine e_iconst C dX4_copyOut_7 ?_
  obtain ⟨Q4, h2, H⟩ := H
  refine e_callVV (As := [vI x1, vI 0]) (rest := []) (q0 := 7) (ci := 4) C Y mi_X4_putGame ms_X4_putGame mv_X4_putGame ml_X4_23 h2 (wlX_st rfl) rfl (by decide) (Nat.le_of_ble_eq_true rfl) hk hn dX4_copyOut_8 rfl (fun M3 hq9 => ?_)
  replace H := H M3 hq9
  refine e_wf (fun hw5 => ?_)
  exact e_vret C Y hk hn dX4_copyOut_11 H
set_option maxRecDepth 4000 in
theorem B_X9_writeW_0 {g : Gs} {ad : Nat → Nat} {sk : (Nat → Nat) × (Nat → Nat)} {X : Cx} {mc ms k n : Nat} {PQ : Option Value → Mem → Prop} {PX : String → Mem → Prop} {M : Mem} {x1 : Int} (r1 : R32 x1) (hk : k ≤ mc) (hn : n ≤ ms) (C : OkB (wC g ad sk) X cX9_write RX9 2 12 mc ms) (Y : OkR (wC g ad sk) X (some .int) mc ms PQ PX) (H : (((0 ≤ x1 ∧ x1 < (M 4 0)) → (0 ≤ x1 ∧ x1 < 40) ∧ ((((M 48 x1) ≤ 400) → ∃ Q5 : Mem → Prop, SpV (wC g ad sk) yX4_copyOut cX4_copyOut 2 none 11 [.ref (ad 7), vI x1] M Q5 ∧ ∀ M4 : Mem, Q5 M4 → PQ (some (vI (M4 37 0))) M4) ∧ ((400 < (M 48 x1)) → (k + 1 ≤ mc ∧ n + 6 ≤ ms) ∧ PX "java/lang/IllegalStateException" M))) ∧ (¬(0 ≤ x1 ∧ x1 < (M 4 0)) → (k + 1 ≤ mc ∧ n + 6 ≤ ms) ∧ PX "java/lang/IndexOutOfBoundsException" M))) : E (wC g ad sk) X k n M 0 [(0, .ref (ad 0)), (1, vI x1)] [] := by
  refine e_wf (fun hw0 => ?_)
  refine e_aload_n C 0 dX9_write_0 rfl ?_
  refine e_iload_n C 1 dX9_write_1 rfl ?_
  by_cases c1 : 0 ≤ x1 ∧ x1 < (M 4 0)
  case neg =>
    replace H := H.2 c1
    exact e_callVT (As := [vI x1]) (rest := []) (q0 := 0) (ci := 9) C Y mi_X9_requireGame ms_X9_requireGame mv_X9_requireGame ml_X9_119 (t_X9_requireGame r1 c1) (wlX_st rfl) rfl (by decide) (Nat.le_of_ble_eq_true rfl) H.1.1 H.1.2 dX9_write_2 rfl H.2
  replace H := H.1 c1
  refine e_callVD (As := [vI x1]) (rest := []) (q0 := 0) (ci := 9) C Y mi_X9_requireGame ms_X9_requireGame mv_X9_requireGame ml_X9_119 (s_X9_requireGame r1 c1) (wlX_st rfl) rfl (by decide) (Nat.le_of_ble_eq_true rfl) hk hn dX9_write_2 rfl ?_
  refine e_aload_n C 0 dX9_write_5 rfl ?_
  refine gX_9_12 C dX9_write_6 ?_
  refine gX_9_140 C dX9_write_9 ?_
  refine e_iload_n C 1 dX9_write_12 rfl ?_
  obtain ⟨o2, H⟩ := H
  refine e_aaldG C o2 dX9_write_13 ?_
  refine gX_9_265 C o2 dX9_write_14 ?_
  refine e_sipush C dX9_write_17 (by decide) ?_
  refine e_icmp_le C 34 (hw0.2.1 48 _ rfl) (by decide) dX9_write_20 (by decide) (fun c9 => ?_) (fun c9 => ?_)
  · replace H := H.1 c9
    refine e_aload_n C 0 dX9_write_34 rfl ?_
    refine gX_9_58 C dX9_write_35 ?_
    refine e_iload_n C 1 dX9_write_38 rfl ?_
    obtain ⟨Q5, h3, H⟩ := H
    refine e_callVV (As := [vI x1]) (rest := []) (q0 := 7) (ci := 4) C Y mi_X4_copyOut ms_X4_copyOut mv_X4_copyOut ml_X9_268 h3 (wlX_st rfl) rfl (by decide) (Nat.le_of_ble_eq_true rfl) hk hn dX9_write_39 rfl (fun M4 hq9 => ?_)
    replace H := H M4 hq9
    refine e_wf (fun hw6 => ?_)
    refine e_aload_n C 0 dX9_write_42 rfl ?_
    refine gX_9_58 C dX9_write_43 ?_
    refine gX_9_271 C dX9_write_46 ?_
    exact e_iret C Y hk hn dX9_write_49 H
  · replace H := H.2 c9
    exact th_IS (is := 266) (text := "it would be longer than 400 characters") (by decide +kernel) C Y (by decide) (Nat.le_of_ble_eq_true rfl) H.1.1 H.1.2 ⟨⟨dX9_write_23, dX9_write_26⟩, Or.inr ⟨dX9_write_27, dX9_write_30, dX9_write_33⟩⟩ H.2
