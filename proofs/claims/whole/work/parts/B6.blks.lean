/-! ===== blocks of solve ===== -/
set_option maxRecDepth 4000 in
theorem B_X6_solve_36 {g : Gs} {ad : Nat → Nat} {sk : (Nat → Nat) × (Nat → Nat)} {X : Cx} {mc ms k n : Nat} {PQ : Option Value → Mem → Prop} {PX : String → Mem → Prop} {M : Mem} {x2 x3 x4 : Int} (r2 : R32 x2) (r3 : R32 x3) (r4 : R32 x4) (hk : k ≤ mc) (hn : n ≤ ms) (C : OkB (wC g ad sk) X cX6_solve RX6 5 3 mc ms) (Y : OkR (wC g ad sk) X none mc ms PQ PX) (H : (((x3 ≤ x4) → PQ none M) ∧ ((x4 < x3) → (((4000 ≤ x4) → PQ none M) ∧ ((x4 < 4000) → ∃ P3 : Int → Prop, SpI (wC g ad sk) yX6_bestFrom cX6_bestFrom 12 (some .int) 2 [.ref (ad 3), vI x4, vI x2, vI 0] M (fun z9 N9 => P3 z9 ∧ N9 = M) ∧ ∀ (z4 : Int), P3 z4 → R32 z4 ∧ (0 ≤ x4 ∧ x4 < (M 20 0)) ∧ ∃ P11 : Int → Prop, SpI (wC g ad sk) yX6_bestFrom cX6_bestFrom 12 (some .int) 2 [.ref (ad 3), vI x4, vI x2, vI 1] (up M 17 x4 z4) (fun z9 N9 => P11 z9 ∧ N9 = up M 17 x4 z4) ∧ ∀ (z12 : Int), P11 z12 → R32 z12 ∧ (0 ≤ x4 ∧ x4 < (M 20 0)) ∧ ∃ Q19 : Mem → Prop, SpV (wC g ad sk) yX6_turn cX6_turn 3 none 1 [.ref (ad 3), vI x2] (up (up M 17 x4 z4) 18 x4 z12) Q19 ∧ ∀ M18 : Mem, Q19 M18 → (R32 (x4 + 1)) ∧ E (wC g ad sk) X k n M18 36 [(0, .ref (ad 3)), (2, vI x2), (3, vI x3), (4, vI (x4 + 1))] []))))) : E (wC g ad sk) X k n M 36 [(0, .ref (ad 3)), (2, vI x2), (3, vI x3), (4, vI x4)] [] := by
  refine e_wf (fun hw0 => ?_)
  refine e_iload C 3 dX6_solve_36 rfl ?_
  refine e_iload_n C 2 dX6_solve_38 rfl ?_
  refine e_icmp_ge C 91 r4 r3 dX6_solve_39 (by decide) (fun c9 => ?_) (fun c9 => ?_)
  · replace H := H.1 c9
    exact e_vret C Y hk hn dX6_solve_91 H
  · replace H := H.2 c9
    refine e_iload C 3 dX6_solve_42 rfl ?_
    refine e_sipush C dX6_solve_44 (by decide) ?_
    refine e_icmp_ge C 91 r4 (by decide) dX6_solve_47 (by decide) (fun c9 => ?_) (fun c9 => ?_)
    · replace H := H.1 c9
      exact e_vret C Y hk hn dX6_solve_91 H
    · replace H := H.2 c9
      refine e_aload_n C 0 dX6_solve_50 rfl ?_
      refine gX_6_29 C dX6_solve_51 ?_
      refine e_iload C 3 dX6_solve_54 rfl ?_
      refine e_aload_n C 0 dX6_solve_56 rfl ?_
      refine e_iload C 3 dX6_solve_57 rfl ?_
      refine e_iload_n C 1 dX6_solve_59 rfl ?_
      refine e_iconst C dX6_solve_60 ?_
      obtain ⟨P3, h1, H⟩ := H
      refine e_callVI (As := [vI x4, vI x2, vI 0]) (rest := [vI x4, .ref (Int.toNat (M 19 0))]) (q0 := 3) (ci := 6) C Y mi_X6_bestFrom ms_X6_bestFrom mv_X6_bestFrom ml_X6_43 h1 (wlX_st rfl) rfl (by decide) (Nat.le_of_ble_eq_true rfl) hk hn dX6_solve_61 rfl (fun z4 M2 hq9 => ?_)
      obtain ⟨hq9, rfl⟩ := hq9
      obtain ⟨o5, H⟩ := H z4 hq9
      refine e_wf (fun hw6 => ?_)
      obtain ⟨o7, H⟩ := H
      refine sS_0 C o7 o5 dX6_solve_64 ?_
      refine e_wf (fun hw8 => ?_)
      refine e_aload_n C 0 dX6_solve_65 rfl ?_
      refine gX_6_32 C dX6_solve_66 ?_
      refine e_iload C 3 dX6_solve_69 rfl ?_
      refine e_aload_n C 0 dX6_solve_71 rfl ?_
      refine e_iload C 3 dX6_solve_72 rfl ?_
      refine e_iload_n C 1 dX6_solve_74 rfl ?_
      refine e_iconst C dX6_solve_75 ?_
      obtain ⟨P11, h9, H⟩ := H
      refine e_callVI (As := [vI x4, vI x2, vI 1]) (rest := [vI x4, .ref (Int.toNat ((up M2 17 x4 z4) 19 1))]) (q0 := 3) (ci := 6) C Y mi_X6_bestFrom ms_X6_bestFrom mv_X6_bestFrom ml_X6_43 h9 (wlX_st rfl) rfl (by decide) (Nat.le_of_ble_eq_true rfl) hk hn dX6_solve_76 rfl (fun z12 M10 hq9 => ?_)
      obtain ⟨hq9, rfl⟩ := hq9
      obtain ⟨o13, H⟩ := H z12 hq9
      refine e_wf (fun hw14 => ?_)
      obtain ⟨o15, H⟩ := H
      refine sS_1 C o15 o13 dX6_solve_79 ?_
      refine e_wf (fun hw16 => ?_)
      refine e_aload_n C 0 dX6_solve_80 rfl ?_
      refine e_iload_n C 1 dX6_solve_81 rfl ?_
      obtain ⟨Q19, h17, H⟩ := H
      refine e_callVV (As := [vI x2]) (rest := []) (q0 := 3) (ci := 6) C Y mi_X6_turn ms_X6_turn mv_X6_turn ml_X6_47 h17 (wlX_st rfl) rfl (by decide) (Nat.le_of_ble_eq_true rfl) hk hn dX6_solve_82 rfl (fun M18 hq9 => ?_)
      replace H := H M18 hq9
      refine e_wf (fun hw20 => ?_)
      obtain ⟨o21, H⟩ := H
      refine e_iinc C 3 dX6_solve_85 rfl (by decide) rfl ?_
      refine e_goto C 36 dX6_solve_88 (by decide) ?_
      exact e_sub [1, 2, 3, 0] rfl H
set_option maxRecDepth 4000 in
theorem B_X6_solve_26 {g : Gs} {ad : Nat → Nat} {sk : (Nat → Nat) × (Nat → Nat)} {X : Cx} {mc ms k n : Nat} {PQ : Option Value → Mem → Prop} {PX : String → Mem → Prop} {M : Mem} {x2 : Int} (r2 : R32 x2) (hk : k ≤ mc) (hn : n ≤ ms) (C : OkB (wC g ad sk) X cX6_solve RX6 5 3 mc ms) (Y : OkR (wC g ad sk) X none mc ms PQ PX) (H : ∃ Q3 : Int → Mem → Prop, SpI (wC g ad sk) yX6_rank cX6_rank 9 (some .int) 2 [.ref (ad 3), .ref (ad 19), vI x2] M Q3 ∧ ∀ (z4 : Int) (M2 : Mem), Q3 z4 M2 → R32 z4 ∧ E (wC g ad sk) X k n M2 36 [(0, .ref (ad 3)), (2, vI x2), (3, vI z4), (4, vI 0)] []) : E (wC g ad sk) X k n M 26 [(0, .ref (ad 3)), (1, .ref (ad 19)), (2, vI x2)] [] := by
  refine e_wf (fun hw0 => ?_)
  refine e_aload_n C 0 dX6_solve_26 rfl ?_
  refine e_aload_n C 1 dX6_solve_27 rfl ?_
  refine e_iload_n C 2 dX6_solve_28 rfl ?_
  obtain ⟨Q3, h1, H⟩ := H
  refine e_callVI (As := [.ref (ad 19), vI x2]) (rest := []) (q0 := 3) (ci := 6) C Y mi_X6_rank ms_X6_rank mv_X6_rank ml_X6_39 h1 (wlX_st rfl) rfl (by decide) (Nat.le_of_ble_eq_true rfl) hk hn dX6_solve_29 rfl (fun z4 M2 hq9 => ?_)
  obtain ⟨o5, H⟩ := H z4 M2 hq9
  refine e_wf (fun hw6 => ?_)
  refine e_istore_n C dX6_solve_32 (by decide) rfl ?_
  refine e_iconst C dX6_solve_33 ?_
  refine e_istore C dX6_solve_34 (by decide) rfl ?_
  exact e_sub [2, 4, 1, 0] rfl H
