set_option maxRecDepth 4000 in
theorem B_X0_lowest_0 {g : Gs} {ad : Nat → Nat} {sk : (Nat → Nat) × (Nat → Nat)} {X : Cx} {mc ms k n : Nat} {PQ : Option Value → Mem → Prop} {PX : String → Mem → Prop} {M : Mem} {x2 : Int} (r2 : R32 x2) (hk : k ≤ mc) (hn : n ≤ ms) (C : OkB (wC g ad sk) X cX0_lowest RX0 4 1 mc ms) (Y : OkR (wC g ad sk) X (some .int) mc ms PQ PX) (H : E (wC g ad sk) X k n M 2 [(0, .ref (ad 4)), (1, .ref (ad 10)), (2, vI x2), (3, vI 0)] []) : E (wC g ad sk) X k n M 0 [(0, .ref (ad 4)), (1, .ref (ad 10)), (2, vI x2)] [] := by
  refine e_wf (fun hw0 => ?_)
  refine e_iconst C dX0_lowest_0 ?_
  refine e_istore_n C dX0_lowest_1 (by decide) rfl ?_
  exact e_sub [1, 2, 3, 0] rfl H
set_option maxRecDepth 4000 in
theorem B_X0_lowest_2 {g : Gs} {ad : Nat → Nat} {sk : (Nat → Nat) × (Nat → Nat)} {X : Cx} {mc ms k n : Nat} {PQ : Option Value → Mem → Prop} {PX : String → Mem → Prop} {M : Mem} {x2 x3 : Int} (r2 : R32 x2) (r3 : R32 x3) (hk : k ≤ mc) (hn : n ≤ ms) (C : OkB (wC g ad sk) X cX0_lowest RX0 4 1 mc ms) (Y : OkR (wC g ad sk) X (some .int) mc ms PQ PX) (H : (((x2 ≤ x3) → PQ (some (vI (-1))) M) ∧ ((x3 < x2) → ((0 ≤ x3 ∧ x3 < 4) ∧ (0 ≤ M 2 x3 ∧ M 2 x3 < 40)) ∧ ((((M 49 (M 2 x3)) ≠ 0) → (R32 (x3 + 1)) ∧ E (wC g ad sk) X k n M 2 [(0, .ref (ad 4)), (1, .ref (ad 10)), (2, vI x2), (3, vI (x3 + 1))] []) ∧ (((M 49 (M 2 x3)) = 0) → (R32 (100 * x3)) ∧ PQ (some (vI (100 * x3))) M))))) : E (wC g ad sk) X k n M 2 [(0, .ref (ad 4)), (1, .ref (ad 10)), (2, vI x2), (3, vI x3)] [] := by
  refine e_wf (fun hw0 => ?_)
  refine e_iload_n C 3 dX0_lowest_2 rfl ?_
  refine e_iload_n C 2 dX0_lowest_3 rfl ?_
  refine e_icmp_ge C 35 r3 r2 dX0_lowest_4 (by decide) (fun c9 => ?_) (fun c9 => ?_)
  · replace H := H.1 c9
    refine e_iconst C dX0_lowest_35 ?_
    exact e_iret C Y hk hn dX0_lowest_36 H
  · replace H := H.2 c9
    refine e_aload_n C 0 dX0_lowest_7 rfl ?_
    refine gX_0_9 C dX0_lowest_8 ?_
    refine gX_0_33 C dX0_lowest_11 ?_
    refine e_aload_n C 1 dX0_lowest_14 rfl ?_
    refine e_iload_n C 3 dX0_lowest_15 rfl ?_
    obtain ⟨⟨o1, o2⟩, H⟩ := H
    refine aX_10 C o1 dX0_lowest_16 ?_
    refine e_aaldG C o2 dX0_lowest_17 ?_
    refine gX_0_39 C o2 dX0_lowest_18 ?_
    refine e_if_ne C 29 (hw0.2.1 49 _ rfl) dX0_lowest_21 (by decide) (fun c9 => ?_) (fun c9 => ?_)
    · replace H := H.1 c9
      obtain ⟨o3, H⟩ := H
      refine e_iinc C 3 dX0_lowest_29 rfl (by decide) rfl ?_
      refine e_goto C 2 dX0_lowest_32 (by decide) ?_
      exact e_sub [1, 2, 3, 0] rfl H
    · replace H := H.2 c9
      refine e_bipush C dX0_lowest_24 (by decide) ?_
      refine e_iload_n C 3 dX0_lowest_26 rfl ?_
      obtain ⟨o4, H⟩ := H
      refine e_imul C dX0_lowest_27 ?_
      exact e_iret C Y hk hn dX0_lowest_28 H
set_option maxRecDepth 4000 in
theorem B_X1_openAt_0 {g : Gs} {ad : Nat → Nat} {sk : (Nat → Nat) × (Nat → Nat)} {X : Cx} {mc ms k n : Nat} {PQ : Option Value → Mem → Prop} {PX : String → Mem → Prop} {M : Mem} {x1 : Int} (r1 : R32 x1) (hk : k ≤ mc) (hn : n ≤ ms) (C : OkB (wC g ad sk) X cX1_openAt RX1 2 1 mc ms) (Y : OkR (wC g ad sk) X none mc ms PQ PX) (H : (0 ≤ x1 ∧ x1 < 80) ∧ PQ none (up (up (up M 32 x1 0) 33 x1 0) 34 x1 0)) : E (wC g ad sk) X k n M 0 [(0, .ref (ad 6)), (1, vI x1)] [] := by
  refine e_wf (fun hw0 => ?_)
  refine e_aload_n C 0 dX1_openAt_0 rfl ?_
  refine gX_1_9 C dX1_openAt_1 ?_
  refine e_iload_n C 1 dX1_openAt_4 rfl ?_
  refine e_lconst0 C dX1_openAt_5 ?_
  obtain ⟨o1, H⟩ := H
  refine sX_38 C o1 (by decide) dX1_openAt_6 ?_
  refine e_wf (fun hw2 => ?_)
  refine e_aload_n C 0 dX1_openAt_7 rfl ?_
  refine gX_1_15 C dX1_openAt_8 ?_
  refine e_iload_n C 1 dX1_openAt_11 rfl ?_
  refine e_lconst0 C dX1_openAt_12 ?_
  refine sX_39 C o1 (by decide) dX1_openAt_13 ?_
  refine e_wf (fun hw3 => ?_)
  refine e_aload_n C 0 dX1_openAt_14 rfl ?_
  refine gX_1_18 C dX1_openAt_15 ?_
  refine e_iload_n C 1 dX1_openAt_18 rfl ?_
  refine e_iconst C dX1_openAt_19 ?_
  refine sX_40 C o1 (by decide) dX1_openAt_20 ?_
  refine e_wf (fun hw4 => ?_)
  exact e_vret C Y hk hn dX1_openAt_21 H
set_option maxRecDepth 4000 in
theorem B_X2_becomeCold_0 {g : Gs} {ad : Nat → Nat} {sk : (Nat → Nat) × (Nat → Nat)} {X : Cx} {mc ms k n : Nat} {PQ : Option Value → Mem → Prop} {PX : String → Mem → Prop} {M : Mem} {x0 x1 : Int} (r0 : 0 ≤ x0 ∧ x0 < 40) (r1 : R32 x1) (hk : k ≤ mc) (hn : n ≤ ms) (C : OkB (wC g ad sk) X cX2_becomeCold RX2 3 1 mc ms) (Y : OkR (wC g ad sk) X none mc ms PQ PX) (H : E (wC g ad sk) X k n (up (up (up M 49 x0 1) 50 x0 x1) 51 x0 (-1)) 17 [(0, .ref (ad (44 + 6 * (Int.toNat x0)))), (1, vI x1), (2, vI 0)] []) : E (wC g ad sk) X k n M 0 [(0, .ref (ad (44 + 6 * (Int.toNat x0)))), (1, vI x1)] [] := by
  refine e_wf (fun hw0 => ?_)
  refine e_aload_n C 0 dX2_becomeCold_0 rfl ?_
  refine e_iconst C dX2_becomeCold_1 ?_
  refine pX_2_59 C r0 (by decide) dX2_becomeCold_2 ?_
  refine e_wf (fun hw1 => ?_)
  refine e_aload_n C 0 dX2_becomeCold_5 rfl ?_
  refine e_iload_n C 1 dX2_becomeCold_6 rfl ?_
  refine pX_2_62 C r0 r1 dX2_becomeCold_7 ?_
  refine e_wf (fun hw2 => ?_)
  refine e_aload_n C 0 dX2_becomeCold_10 rfl ?_
  refine e_iconst C dX2_becomeCold_11 ?_
  refine pX_2_65 C r0 (by decide) dX2_becomeCold_12 ?_
  refine e_wf (fun hw3 => ?_)
  refine e_iconst C dX2_becomeCold_15 ?_
  refine e_istore_n C dX2_becomeCold_16 (by decide) rfl ?_
  exact e_sub [1, 2, 0] rfl H
set_option maxRecDepth 4000 in
theorem B_X2_becomeCold_17 {g : Gs} {ad : Nat → Nat} {sk : (Nat → Nat) × (Nat → Nat)} {X : Cx} {mc ms k n : Nat} {PQ : Option Value → Mem → Prop} {PX : String → Mem → Prop} {M : Mem} {x0 x1 x2 : Int} (r0 : 0 ≤ x0 ∧ x0 < 40) (r1 : R32 x1) (r2 : R32 x2) (hk : k ≤ mc) (hn : n ≤ ms) (C : OkB (wC g ad sk) X cX2_becomeCold RX2 3 1 mc ms) (Y : OkR (wC g ad sk) X none mc ms PQ PX) (H : (((1 < x2) → PQ none M) ∧ ((x2 ≤ 1) → ((0 ≤ x2 ∧ x2 < 2) ∧ (R32 (x2 + 1))) ∧ E (wC g ad sk) X k n (up (up M 43 (40 * x2 + x0) x1) 44 (40 * x2 + x0) 1) 17 [(0, .ref (ad (44 + 6 * (Int.toNat x0)))), (1, vI x1), (2, vI (x2 + 1))] []))) : E (wC g ad sk) X k n M 17 [(0, .ref (ad (44 + 6 * (Int.toNat x0)))), (1, vI x1), (2, vI x2)] [] := by
  refine e_wf (fun hw0 => ?_)
  refine e_iload_n C 2 dX2_becomeCold_17 rfl ?_
  refine e_iconst C dX2_becomeCold_18 ?_
  refine e_icmp_gt C 42 r2 (by decide) dX2_becomeCold_19 (by decide) (fun c9 => ?_) (fun c9 => ?_)
  · replace H := H.1 c9
    exact e_vret C Y hk hn dX2_becomeCold_42 H
  · replace H := H.2 c9
    refine e_aload_n C 0 dX2_becomeCold_22 rfl ?_
    refine gX_2_22 C r0 dX2_becomeCold_23 ?_
    refine e_iload_n C 2 dX2_becomeCold_26 rfl ?_
    refine e_iload_n C 1 dX2_becomeCold_27 rfl ?_
    obtain ⟨⟨o1, o4⟩, H⟩ := H
    refine sG_4 C r0 o1 r1 dX2_becomeCold_28 ?_
    refine e_wf (fun hw2 => ?_)
    refine e_aload_n C 0 dX2_becomeCold_29 rfl ?_
    refine gX_2_25 C r0 dX2_becomeCold_30 ?_
    refine e_iload_n C 2 dX2_becomeCold_33 rfl ?_
    refine e_iconst C dX2_becomeCold_34 ?_
    refine sG_5 C r0 o1 (by decide) dX2_becomeCold_35 ?_
    refine e_wf (fun hw3 => ?_)
    refine e_iinc C 2 dX2_becomeCold_36 rfl (by decide) rfl ?_
    refine e_goto C 17 dX2_becomeCold_39 (by decide) ?_
    exact e_sub [1, 2, 0] rfl H
set_option maxRecDepth 4000 in
theorem B_X3_restore_0 {g : Gs} {ad : Nat → Nat} {sk : (Nat → Nat) × (Nat → Nat)} {X : Cx} {mc ms k n : Nat} {PQ : Option Value → Mem → Prop} {PX : String → Mem → Prop} {M : Mem}  (hk : k ≤ mc) (hn : n ≤ ms) (C : OkB (wC g ad sk) X cX3_restore RX3 4 1 mc ms) (Y : OkR (wC g ad sk) X (some .int) mc ms PQ PX) (H : ((((M 38 0) ≤ 0) → E (wC g ad sk) X k n M 17 [(0, .ref (ad 8)), (1, .ref (ad 2))] []) ∧ ((0 < (M 38 0)) → (R32 ((M 38 0) - 1)) ∧ E (wC g ad sk) X k n (up M 38 0 ((M 38 0) - 1)) 17 [(0, .ref (ad 8)), (1, .ref (ad 2))] []))) : E (wC g ad sk) X k n M 0 [(0, .ref (ad 8)), (1, .ref (ad 2))] [] := by
  refine e_wf (fun hw0 => ?_)
  refine e_aload_n C 0 dX3_restore_0 rfl ?_
  refine gX_3_9 C dX3_restore_1 ?_
  refine e_if_le C 17 (hw0.2.1 38 _ rfl) dX3_restore_4 (by decide) (fun c9 => ?_) (fun c9 => ?_)
  · replace H := H.1 c9
    exact e_sub [0, 1] rfl H
  · replace H := H.2 c9
    refine e_aload_n C 0 dX3_restore_7 rfl ?_
    refine e_dup C rfl dX3_restore_8 ?_
    refine gX_3_9 C dX3_restore_9 ?_
    refine e_iconst C dX3_restore_12 ?_
    obtain ⟨o1, H⟩ := H
    refine e_isub C dX3_restore_13 ?_
    refine pX_3_9 C o1 dX3_restore_14 ?_
    refine e_wf (fun hw2 => ?_)
    exact e_sub [0, 1] rfl H
set_option maxRecDepth 4000 in
theorem B_X3_restore_17 {g : Gs} {ad : Nat → Nat} {sk : (Nat → Nat) × (Nat → Nat)} {X : Cx} {mc ms k n : Nat} {PQ : Option Value → Mem → Prop} {PX : String → Mem → Prop} {M : Mem}  (hk : k ≤ mc) (hn : n ≤ ms) (C : OkB (wC g ad sk) X cX3_restore RX3 4 1 mc ms) (Y : OkR (wC g ad sk) X (some .int) mc ms PQ PX) (H : ((R32 ((M 38 0) * 6)) ∧ (R32 (((M 38 0) * 6) + 1)) ∧ (0 ≤ ((M 38 0) * 6) + 1 ∧ ((M 38 0) * 6) + 1 < 36)) ∧ E (wC g ad sk) X k n (up M 11 0 (M 39 (((M 38 0) * 6) + 1))) 39 [(0, .ref (ad 8)), (1, .ref (ad 2)), (2, vI ((M 38 0) * 6)), (3, vI 0)] []) : E (wC g ad sk) X k n M 17 [(0, .ref (ad 8)), (1, .ref (ad 2))] [] := by
  refine e_wf (fun hw0 => ?_)
  refine e_aload_n C 0 dX3_restore_17 rfl ?_
  refine gX_3_9 C dX3_restore_18 ?_
  refine e_bipush C dX3_restore_21 (by decide) ?_
  obtain ⟨⟨o1, o2, o3⟩, H⟩ := H
  refine e_imul C dX3_restore_23 ?_
  refine e_istore_n C dX3_restore_24 (by decide) rfl ?_
  refine e_aload_n C 2 dX3_restore_25 rfl ?_
  refine e_aload_n C 1 dX3_restore_26 rfl ?_
  refine gX_3_15 C dX3_restore_27 ?_
  refine e_iload_n C 0 dX3_restore_30 rfl ?_
  refine e_iconst C dX3_restore_31 ?_
  refine e_iadd C dX3_restore_32 ?_
  refine aX_43 C o3 dX3_restore_33 ?_
  refine pX_3_25 C (hw0.2.1 39 _ rfl) dX3_restore_34 ?_
  refine e_wf (fun hw4 => ?_)
  refine e_iconst C dX3_restore_37 ?_
  refine e_istore_n C dX3_restore_38 (by decide) rfl ?_
  exact e_sub [2, 3, 1, 0] rfl H
set_option maxRecDepth 4000 in
theorem B_X3_restore_39 {g : Gs} {ad : Nat → Nat} {sk : (Nat → Nat) × (Nat → Nat)} {X : Cx} {mc ms k n : Nat} {PQ : Option Value → Mem → Prop} {PX : String → Mem → Prop} {M : Mem} {x2 x3 : Int} (r2 : R32 x2) (r3 : R32 x3) (hk : k ≤ mc) (hn : n ≤ ms) (C : OkB (wC g ad sk) X cX3_restore RX3 4 1 mc ms) (Y : OkR (wC g ad sk) X (some .int) mc ms PQ PX) (H : (((4 ≤ x3) → (0 ≤ x2 ∧ x2 < 36) ∧ PQ (some (vI (M 39 x2))) M) ∧ ((x3 < 4) → ((R32 (x2 + 2)) ∧ (R32 ((x2 + 2) + x3)) ∧ (0 ≤ (x2 + 2) + x3 ∧ (x2 + 2) + x3 < 36) ∧ (0 ≤ x3 ∧ x3 < 4) ∧ (R32 (x3 + 1))) ∧ E (wC g ad sk) X k n (up M 10 x3 (M 39 ((x2 + 2) + x3))) 39 [(0, .ref (ad 8)), (1, .ref (ad 2)), (2, vI x2), (3, vI (x3 + 1))] []))) : E (wC g ad sk) X k n M 39 [(0, .ref (ad 8)), (1, .ref (ad 2)), (2, vI x2), (3, vI x3)] [] := by
  refine e_wf (fun hw0 => ?_)
  refine e_iload_n C 3 dX3_restore_39 rfl ?_
  refine e_iconst C dX3_restore_40 ?_
  refine e_icmp_ge C 66 r3 (by decide) dX3_restore_41 (by decide) (fun c9 => ?_) (fun c9 => ?_)
  · replace H := H.1 c9
    refine e_aload_n C 0 dX3_restore_66 rfl ?_
    refine gX_3_15 C dX3_restore_67 ?_
    refine e_iload_n C 2 dX3_restore_70 rfl ?_
    obtain ⟨o1, H⟩ := H
    refine aX_43 C o1 dX3_restore_71 ?_
    exact e_iret C Y hk hn dX3_restore_72 H
  · replace H := H.2 c9
    refine e_aload_n C 1 dX3_restore_44 rfl ?_
    refine gX_3_28 C dX3_restore_45 ?_
    refine e_iload_n C 3 dX3_restore_48 rfl ?_
    refine e_aload_n C 0 dX3_restore_49 rfl ?_
    refine gX_3_15 C dX3_restore_50 ?_
    refine e_iload_n C 2 dX3_restore_53 rfl ?_
    refine e_iconst C dX3_restore_54 ?_
    obtain ⟨⟨o2, o3, o4, o5, o7⟩, H⟩ := H
    refine e_iadd C dX3_restore_55 ?_
    refine e_iload_n C 3 dX3_restore_56 rfl ?_
    refine e_iadd C dX3_restore_57 ?_
    refine aX_43 C o4 dX3_restore_58 ?_
    refine sX_19 C o5 (hw0.2.1 39 _ rfl) dX3_restore_59 ?_
    refine e_wf (fun hw6 => ?_)
    refine e_iinc C 3 dX3_restore_60 rfl (by decide) rfl ?_
    refine e_goto C 39 dX3_restore_63 (by decide) ?_
    exact e_sub [1, 2, 3, 0] rfl H
set_option maxRecDepth 4000 in
theorem B_X4_put_0 {g : Gs} {ad : Nat → Nat} {sk : (Nat → Nat) × (Nat → Nat)} {X : Cx} {mc ms k n : Nat} {PQ : Option Value → Mem → Prop} {PX : String → Mem → Prop} {M : Mem} {x1 : Int} (r1 : R32 x1) (hk : k ≤ mc) (hn : n ≤ ms) (C : OkB (wC g ad sk) X cX4_put RX4 2 1 mc ms) (Y : OkR (wC g ad sk) X none mc ms PQ PX) (H : (((400 ≤ (M 37 0)) → PQ none M) ∧ (((M 37 0) < 400) → ((0 ≤ M 37 0 ∧ M 37 0 < 400) ∧ (0 ≤ x1 ∧ x1 < 65536) ∧ (R32 ((M 37 0) + 1))) ∧ PQ none (up (up M 36 (M 37 0) x1) 37 0 ((M 37 0) + 1))))) : E (wC g ad sk) X k n M 0 [(0, .ref (ad 7)), (1, vI x1)] [] := by
  refine e_wf (fun hw0 => ?_)
  refine e_aload_n C 0 dX4_put_0 rfl ?_
  refine gX_4_15 C dX4_put_1 ?_
  refine e_sipush C dX4_put_4 (by decide) ?_
  refine e_icmp_ge C 30 (hw0.2.1 37 _ rfl) (by decide) dX4_put_7 (by decide) (fun c9 => ?_) (fun c9 => ?_)
  · replace H := H.1 c9
    exact e_vret C Y hk hn dX4_put_30 H
  · replace H := H.2 c9
    refine e_aload_n C 0 dX4_put_10 rfl ?_
    refine gX_4_9 C dX4_put_11 ?_
    refine e_aload_n C 0 dX4_put_14 rfl ?_
    refine gX_4_15 C dX4_put_15 ?_
    refine e_iload_n C 1 dX4_put_18 rfl ?_
    obtain ⟨⟨o1, o2, o4⟩, H⟩ := H
    refine sX_42 C o1 o2 dX4_put_19 ?_
    refine e_wf (fun hw3 => ?_)
    refine e_aload_n C 0 dX4_put_20 rfl ?_
    refine e_dup C rfl dX4_put_21 ?_
    refine gX_4_15 C dX4_put_22 ?_
    refine e_iconst C dX4_put_25 ?_
    refine e_iadd C dX4_put_26 ?_
    refine pX_4_15 C o4 dX4_put_27 ?_
    refine e_wf (fun hw5 => ?_)
    exact e_vret C Y hk hn dX4_put_30 H
set_option maxRecDepth 4000 in
theorem B_X5_edgesLeaveRoom_0 {g : Gs} {ad : Nat → Nat} {sk : (Nat → Nat) × (Nat → Nat)} {X : Cx} {mc ms k n : Nat} {PQ : Option Value → Mem → Prop} {PX : String → Mem → Prop} {M : Mem}  (hk : k ≤ mc) (hn : n ≤ ms) (C : OkB (wC g ad sk) X cX5_edgesLeaveRoom RX5 2 1 mc ms) (Y : OkR (wC g ad sk) X (some .boolean) mc ms PQ PX) (H : ((((M 9 0) = 0) → E (wC g ad sk) X k n M 23 [(0, .ref (ad 1))] [vI 0]) ∧ (((M 9 0) ≠ 0) → ((((M 9 1) = 0) → E (wC g ad sk) X k n M 23 [(0, .ref (ad 1))] [vI 0]) ∧ (((M 9 1) ≠ 0) → E (wC g ad sk) X k n M 23 [(0, .ref (ad 1))] [vI 1]))))) : E (wC g ad sk) X k n M 0 [(0, .ref (ad 1))] [] := by
  refine e_wf (fun hw0 => ?_)
  refine e_aload_n C 0 dX5_edgesLeaveRoom_0 rfl ?_
  refine gX_5_34 C dX5_edgesLeaveRoom_1 ?_
  refine e_iconst C dX5_edgesLeaveRoom_4 ?_
  refine aX_18 C (by decide) dX5_edgesLeaveRoom_5 ?_
  refine e_if_eq C 22 (hw0.2.1 9 _ rfl) dX5_edgesLeaveRoom_6 (by decide) (fun c9 => ?_) (fun c9 => ?_)
  · replace H := H.1 c9
    refine e_iconst C dX5_edgesLeaveRoom_22 ?_
    exact e_sub [0] rfl H
  · replace H := H.2 c9
    refine e_aload_n C 0 dX5_edgesLeaveRoom_9 rfl ?_
    refine gX_5_34 C dX5_edgesLeaveRoom_10 ?_
    refine e_iconst C dX5_edgesLeaveRoom_13 ?_
    refine aX_18 C (by decide) dX5_edgesLeaveRoom_14 ?_
    refine e_if_eq C 22 (hw0.2.1 9 _ rfl) dX5_edgesLeaveRoom_15 (by decide) (fun c9 => ?_) (fun c9 => ?_)
    · replace H := H.1 c9
      refine e_iconst C dX5_edgesLeaveRoom_22 ?_
      exact e_sub [0] rfl H
    · replace H := H.2 c9
      refine e_iconst C dX5_edgesLeaveRoom_18 ?_
      refine e_goto C 23 dX5_edgesLeaveRoom_19 (by decide) ?_
      exact e_sub [0] rfl H
set_option maxRecDepth 4000 in
theorem B_X5_edgesLeaveRoom_23 {g : Gs} {ad : Nat → Nat} {sk : (Nat → Nat) × (Nat → Nat)} {X : Cx} {mc ms k n : Nat} {PQ : Option Value → Mem → Prop} {PX : String → Mem → Prop} {M : Mem} {t0 : Int} (q0 : R32 t0) (hk : k ≤ mc) (hn : n ≤ ms) (C : OkB (wC g ad sk) X cX5_edgesLeaveRoom RX5 2 1 mc ms) (Y : OkR (wC g ad sk) X (some .boolean) mc ms PQ PX) (H : ((((M 8 0) < (M 8 1)) → PQ (some (vI 1)) M) ∧ (((M 8 1) ≤ (M 8 0)) → ((((M 8 0) ≠ (M 8 1)) → PQ (some (vI 0)) M) ∧ (((M 8 0) = (M 8 1)) → (((t0 = 0) → PQ (some (vI 0)) M) ∧ ((t0 ≠ 0) → PQ (some (vI 1)) M))))))) : E (wC g ad sk) X k n M 23 [(0, .ref (ad 1))] [vI t0] := by
  refine e_wf (fun hw0 => ?_)
  refine e_istore_n C dX5_edgesLeaveRoom_23 (by decide) rfl ?_
  refine e_aload_n C 1 dX5_edgesLeaveRoom_24 rfl ?_
  refine gX_5_30 C dX5_edgesLeaveRoom_25 ?_
  refine e_iconst C dX5_edgesLeaveRoom_28 ?_
  refine aX_17 C (by decide) dX5_edgesLeaveRoom_29 ?_
  refine e_aload_n C 1 dX5_edgesLeaveRoom_30 rfl ?_
  refine gX_5_30 C dX5_edgesLeaveRoom_31 ?_
  refine e_iconst C dX5_edgesLeaveRoom_34 ?_
  refine aX_17 C (by decide) dX5_edgesLeaveRoom_35 ?_
  refine e_icmp_lt C 58 (hw0.2.1 8 _ rfl) (hw0.2.1 8 _ rfl) dX5_edgesLeaveRoom_36 (by decide) (fun c9 => ?_) (fun c9 => ?_)
  · replace H := H.1 c9
    refine e_iconst C dX5_edgesLeaveRoom_58 ?_
    refine e_goto C 63 dX5_edgesLeaveRoom_59 (by decide) ?_
    exact e_zret C Y hk hn (by decide) dX5_edgesLeaveRoom_63 H
  · replace H := H.2 c9
    refine e_aload_n C 1 dX5_edgesLeaveRoom_39 rfl ?_
    refine gX_5_30 C dX5_edgesLeaveRoom_40 ?_
    refine e_iconst C dX5_edgesLeaveRoom_43 ?_
    refine aX_17 C (by decide) dX5_edgesLeaveRoom_44 ?_
    refine e_aload_n C 1 dX5_edgesLeaveRoom_45 rfl ?_
    refine gX_5_30 C dX5_edgesLeaveRoom_46 ?_
    refine e_iconst C dX5_edgesLeaveRoom_49 ?_
    refine aX_17 C (by decide) dX5_edgesLeaveRoom_50 ?_
    refine e_icmp_ne C 62 (hw0.2.1 8 _ rfl) (hw0.2.1 8 _ rfl) dX5_edgesLeaveRoom_51 (by decide) (fun c9 => ?_) (fun c9 => ?_)
    · replace H := H.1 c9
      refine e_iconst C dX5_edgesLeaveRoom_62 ?_
      exact e_zret C Y hk hn (by decide) dX5_edgesLeaveRoom_63 H
    · replace H := H.2 c9
      refine e_iload_n C 0 dX5_edgesLeaveRoom_54 rfl ?_
      refine e_if_eq C 62 q0 dX5_edgesLeaveRoom_55 (by decide) (fun c9 => ?_) (fun c9 => ?_)
      · replace H := H.1 c9
        refine e_iconst C dX5_edgesLeaveRoom_62 ?_
        exact e_zret C Y hk hn (by decide) dX5_edgesLeaveRoom_63 H
      · replace H := H.2 c9
        refine e_iconst C dX5_edgesLeaveRoom_58 ?_
        refine e_goto C 63 dX5_edgesLeaveRoom_59 (by decide) ?_
        exact e_zret C Y hk hn (by decide) dX5_edgesLeaveRoom_63 H
set_option maxRecDepth 4000 in
theorem B_X5_simplestPositive_0 {g : Gs} {ad : Nat → Nat} {sk : (Nat → Nat) × (Nat → Nat)} {X : Cx} {mc ms k n : Nat} {PQ : Option Value → Mem → Prop} {PX : String → Mem → Prop} {M : Mem} {x0 x1 x2 x3 : Int} (r0 : R32 x0) (r1 : R32 x1) (r2 : R32 x2) (r3 : R32 x3) (hk : k ≤ mc) (hn : n ≤ ms) (C : OkB (wC g ad sk) X cX5_simplestPositive RX5 6 1 mc ms) (Y : OkR (wC g ad sk) X (some .int) mc ms PQ PX) (H : E (wC g ad sk) X k n M 5 [(0, vI x0), (1, vI x1), (2, vI x2), (3, vI x3), (4, vI 1024)] []) : E (wC g ad sk) X k n M 0 [(0, vI x0), (1, vI x1), (2, vI x2), (3, vI x3)] [] := by
  refine e_wf (fun hw0 => ?_)
  refine e_sipush C dX5_simplestPositive_0 (by decide) ?_
  refine e_istore C dX5_simplestPositive_3 (by decide) rfl ?_
  exact e_sub [1, 2, 3, 4, 0] rfl H
set_option maxRecDepth 4000 in
theorem B_X5_simplestPositive_5 {g : Gs} {ad : Nat → Nat} {sk : (Nat → Nat) × (Nat → Nat)} {X : Cx} {mc ms k n : Nat} {PQ : Option Value → Mem → Prop} {PX : String → Mem → Prop} {M : Mem} {x0 x1 x2 x3 x4 : Int} (r0 : R32 x0) (r1 : R32 x1) (r2 : R32 x2) (r3 : R32 x3) (r4 : R32 x4) (hk : k ≤ mc) (hn : n ≤ ms) (C : OkB (wC g ad sk) X cX5_simplestPositive RX5 6 1 mc ms) (Y : OkR (wC g ad sk) X (some .int) mc ms PQ PX) (H : (((x4 ≤ 0) → PQ (some (vI x0)) M) ∧ ((0 < x4) → ((x4 ≠ 0) ∧ (x4 ≠ -1) ∧ (R32 ((Int.tdiv x0 x4) * x4))) ∧ (((((Int.tdiv x0 x4) * x4) < x0) → (R32 (((Int.tdiv x0 x4) * x4) + x4)) ∧ E (wC g ad sk) X k n M 42 [(0, vI x0), (1, vI x1), (2, vI x2), (3, vI x3), (4, vI x4), (5, vI (((Int.tdiv x0 x4) * x4) + x4))] []) ∧ ((x0 ≤ ((Int.tdiv x0 x4) * x4)) → (((((Int.tdiv x0 x4) * x4) ≠ x0) → E (wC g ad sk) X k n M 42 [(0, vI x0), (1, vI x1), (2, vI x2), (3, vI x3), (4, vI x4), (5, vI ((Int.tdiv x0 x4) * x4))] []) ∧ ((((Int.tdiv x0 x4) * x4) = x0) → (((x1 ≠ 0) → E (wC g ad sk) X k n M 42 [(0, vI x0), (1, vI x1), (2, vI x2), (3, vI x3), (4, vI x4), (5, vI ((Int.tdiv x0 x4) * x4))] []) ∧ ((x1 = 0) → (R32 (((Int.tdiv x0 x4) * x4) + x4)) ∧ E (wC g ad sk) X k n M 42 [(0, vI x0), (1, vI x1), (2, vI x2), (3, vI x3), (4, vI x4), (5, vI (((Int.tdiv x0 x4) * x4) + x4))] []))))))))) : E (wC g ad sk) X k n M 5 [(0, vI x0), (1, vI x1), (2, vI x2), (3, vI x3), (4, vI x4)] [] := by
  refine e_wf (fun hw0 => ?_)
  refine e_iload C 4 dX5_simplestPositive_5 rfl ?_
  refine e_if_le C 70 r4 dX5_simplestPositive_7 (by decide) (fun c9 => ?_) (fun c9 => ?_)
  · replace H := H.1 c9
    refine e_iload_n C 0 dX5_simplestPositive_70 rfl ?_
    exact e_iret C Y hk hn dX5_simplestPositive_71 H
  · replace H := H.2 c9
    refine e_iload_n C 0 dX5_simplestPositive_10 rfl ?_
    refine e_iload C 4 dX5_simplestPositive_11 rfl ?_
    obtain ⟨⟨o1, o2, o3⟩, H⟩ := H
    refine e_idiv C r0 r4 o1 o2 dX5_simplestPositive_13 ?_
    refine e_iload C 4 dX5_simplestPositive_14 rfl ?_
    refine e_imul C dX5_simplestPositive_16 ?_
    refine e_istore C dX5_simplestPositive_17 (by decide) rfl ?_
    refine e_iload C 0 dX5_simplestPositive_19 rfl ?_
    refine e_iload_n C 1 dX5_simplestPositive_21 rfl ?_
    refine e_icmp_lt C 35 o3 r0 dX5_simplestPositive_22 (by decide) (fun c9 => ?_) (fun c9 => ?_)
    · replace H := H.1 c9
      refine e_iload C 0 dX5_simplestPositive_35 rfl ?_
      refine e_iload C 5 dX5_simplestPositive_37 rfl ?_
      obtain ⟨o4, H⟩ := H
      refine e_iadd C dX5_simplestPositive_39 ?_
      refine e_istore C dX5_simplestPositive_40 (by decide) rfl ?_
      exact e_sub [1, 2, 3, 4, 5, 0] rfl H
    · replace H := H.2 c9
      refine e_iload C 0 dX5_simplestPositive_25 rfl ?_
      refine e_iload_n C 1 dX5_simplestPositive_27 rfl ?_
      refine e_icmp_ne C 42 o3 r0 dX5_simplestPositive_28 (by decide) (fun c9 => ?_) (fun c9 => ?_)
      · replace H := H.1 c9
        exact e_sub [1, 2, 3, 4, 5, 0] rfl H
      · replace H := H.2 c9
        refine e_iload_n C 2 dX5_simplestPositive_31 rfl ?_
        refine e_if_ne C 42 r1 dX5_simplestPositive_32 (by decide) (fun c9 => ?_) (fun c9 => ?_)
        · replace H := H.1 c9
          exact e_sub [1, 2, 3, 4, 5, 0] rfl H
        · replace H := H.2 c9
          refine e_iload C 0 dX5_simplestPositive_35 rfl ?_
          refine e_iload C 5 dX5_simplestPositive_37 rfl ?_
          obtain ⟨o5, H⟩ := H
          refine e_iadd C dX5_simplestPositive_39 ?_
          refine e_istore C dX5_simplestPositive_40 (by decide) rfl ?_
          exact e_sub [1, 2, 3, 4, 5, 0] rfl H
set_option maxRecDepth 4000 in
theorem B_X5_simplestPositive_42 {g : Gs} {ad : Nat → Nat} {sk : (Nat → Nat) × (Nat → Nat)} {X : Cx} {mc ms k n : Nat} {PQ : Option Value → Mem → Prop} {PX : String → Mem → Prop} {M : Mem} {x0 x1 x2 x3 x4 x5 : Int} (r0 : R32 x0) (r1 : R32 x1) (r2 : R32 x2) (r3 : R32 x3) (r4 : R32 x4) (r5 : R32 x5) (hk : k ≤ mc) (hn : n ≤ ms) (C : OkB (wC g ad sk) X cX5_simplestPositive RX5 6 1 mc ms) (Y : OkR (wC g ad sk) X (some .int) mc ms PQ PX) (H : (((x5 < x2) → PQ (some (vI x5)) M) ∧ ((x2 ≤ x5) → (((x5 ≠ x2) → E (wC g ad sk) X k n M 5 [(0, vI x0), (1, vI x1), (2, vI x2), (3, vI x3), (4, vI (Int.tdiv x4 2))] []) ∧ ((x5 = x2) → (((x3 = 0) → E (wC g ad sk) X k n M 5 [(0, vI x0), (1, vI x1), (2, vI x2), (3, vI x3), (4, vI (Int.tdiv x4 2))] []) ∧ ((x3 ≠ 0) → PQ (some (vI x5)) M))))))) : E (wC g ad sk) X k n M 42 [(0, vI x0), (1, vI x1), (2, vI x2), (3, vI x3), (4, vI x4), (5, vI x5)] [] := by
  refine e_wf (fun hw0 => ?_)
  refine e_iload C 5 dX5_simplestPositive_42 rfl ?_
  refine e_iload_n C 2 dX5_simplestPositive_44 rfl ?_
  refine e_icmp_lt C 58 r5 r2 dX5_simplestPositive_45 (by decide) (fun c9 => ?_) (fun c9 => ?_)
  · replace H := H.1 c9
    refine e_iload C 5 dX5_simplestPositive_58 rfl ?_
    exact e_iret C Y hk hn dX5_simplestPositive_60 H
  · replace H := H.2 c9
    refine e_iload C 5 dX5_simplestPositive_48 rfl ?_
    refine e_iload_n C 2 dX5_simplestPositive_50 rfl ?_
    refine e_icmp_ne C 61 r5 r2 dX5_simplestPositive_51 (by decide) (fun c9 => ?_) (fun c9 => ?_)
    · replace H := H.1 c9
      refine e_iload C 4 dX5_simplestPositive_61 rfl ?_
      refine e_iconst C dX5_simplestPositive_63 ?_
      refine e_idiv C r4 (by decide) (by decide) (by decide) dX5_simplestPositive_64 ?_
      refine e_istore C dX5_simplestPositive_65 (by decide) rfl ?_
      refine e_goto C 5 dX5_simplestPositive_67 (by decide) ?_
      exact e_sub [1, 2, 3, 4, 0] rfl H
    · replace H := H.2 c9
      refine e_iload_n C 3 dX5_simplestPositive_54 rfl ?_
      refine e_if_eq C 61 r3 dX5_simplestPositive_55 (by decide) (fun c9 => ?_) (fun c9 => ?_)
      · replace H := H.1 c9
        refine e_iload C 4 dX5_simplestPositive_61 rfl ?_
        refine e_iconst C dX5_simplestPositive_63 ?_
        refine e_idiv C r4 (by decide) (by decide) (by decide) dX5_simplestPositive_64 ?_
        refine e_istore C dX5_simplestPositive_65 (by decide) rfl ?_
        refine e_goto C 5 dX5_simplestPositive_67 (by decide) ?_
        exact e_sub [1, 2, 3, 4, 0] rfl H
      · replace H := H.2 c9
        refine e_iload C 5 dX5_simplestPositive_58 rfl ?_
        exact e_iret C Y hk hn dX5_simplestPositive_60 H
set_option maxRecDepth 4000 in
theorem B_X5_scaffold_0 {g : Gs} {ad : Nat → Nat} {sk : (Nat → Nat) × (Nat → Nat)} {X : Cx} {mc ms k n : Nat} {PQ : Option Value → Mem → Prop} {PX : String → Mem → Prop} {M : Mem} {x1 x2 x3 : Int} (r1 : 0 ≤ x1 ∧ x1 < 40) (r2 : R32 x2) (r3 : R32 x3) (hk : k ≤ mc) (hn : n ≤ ms) (C : OkB (wC g ad sk) X cX5_scaffold RX5 8 1 mc ms) (Y : OkR (wC g ad sk) X (some .int) mc ms PQ PX) (H : (((x2 ≠ 0) → E (wC g ad sk) X k n M 18 [(0, .ref (ad 1)), (1, .ref (ad (44 + 6 * (Int.toNat x1)))), (2, vI x2), (3, vI x3), (4, vI (-1)), (5, vI (-16777216)), (6, vI 0)] []) ∧ ((x2 = 0) → E (wC g ad sk) X k n M 18 [(0, .ref (ad 1)), (1, .ref (ad (44 + 6 * (Int.toNat x1)))), (2, vI x2), (3, vI x3), (4, vI 1), (5, vI (-16777216)), (6, vI 0)] []))) : E (wC g ad sk) X k n M 0 [(0, .ref (ad 1)), (1, .ref (ad (44 + 6 * (Int.toNat x1)))), (2, vI x2), (3, vI x3)] [] := by
  refine e_wf (fun hw0 => ?_)
  refine e_iload_n C 2 dX5_scaffold_0 rfl ?_
  refine e_if_ne C 8 r2 dX5_scaffold_1 (by decide) (fun c9 => ?_) (fun c9 => ?_)
  · replace H := H.1 c9
    refine e_iconst C dX5_scaffold_8 ?_
    refine e_istore C dX5_scaffold_9 (by decide) rfl ?_
    refine e_ldc C (v := (-16777216)) (tg2 159 rfl rfl) (by decide) dX5_scaffold_11 ?_
    refine e_istore C dX5_scaffold_13 (by decide) rfl ?_
    refine e_iconst C dX5_scaffold_15 ?_
    refine e_istore C dX5_scaffold_16 (by decide) rfl ?_
    exact e_sub [3, 4, 5, 6, 2, 1, 0] rfl H
  · replace H := H.2 c9
    refine e_iconst C dX5_scaffold_4 ?_
    refine e_goto C 9 dX5_scaffold_5 (by decide) ?_
    refine e_istore C dX5_scaffold_9 (by decide) rfl ?_
    refine e_ldc C (v := (-16777216)) (tg2 159 rfl rfl) (by decide) dX5_scaffold_11 ?_
    refine e_istore C dX5_scaffold_13 (by decide) rfl ?_
    refine e_iconst C dX5_scaffold_15 ?_
    refine e_istore C dX5_scaffold_16 (by decide) rfl ?_
    exact e_sub [3, 4, 5, 6, 2, 1, 0] rfl H
set_option maxRecDepth 4000 in
theorem B_X5_scaffold_18 {g : Gs} {ad : Nat → Nat} {sk : (Nat → Nat) × (Nat → Nat)} {X : Cx} {mc ms k n : Nat} {PQ : Option Value → Mem → Prop} {PX : String → Mem → Prop} {M : Mem} {x1 x2 x3 x4 x5 x6 : Int} (r1 : 0 ≤ x1 ∧ x1 < 40) (r2 : R32 x2) (r3 : R32 x3) (r4 : R32 x4) (r5 : R32 x5) (r6 : R32 x6) (hk : k ≤ mc) (hn : n ≤ ms) (C : OkB (wC g ad sk) X cX5_scaffold RX5 8 1 mc ms) (Y : OkR (wC g ad sk) X (some .int) mc ms PQ PX) (H : (0 ≤ x2 ∧ x2 < 2) ∧ ((((M 41 (40 * x2 + x1)) ≤ x6) → ((R32 (x5 - x3)) ∧ (R32 (x4 * (x5 - x3)))) ∧ PQ (some (vI (x4 * (x5 - x3)))) M) ∧ ((x6 < (M 41 (40 * x2 + x1))) → ((R32 (1 - x2)) ∧ (0 ≤ 1 - x2 ∧ 1 - x2 < 2) ∧ (R32 (x2 * 4)) ∧ (R32 ((x2 * 4) + x6)) ∧ (0 ≤ (x2 * 4) + x6 ∧ (x2 * 4) + x6 < 8) ∧ (0 ≤ M 42 (40 * ((x2 * 4) + x6) + x1) ∧ M 42 (40 * ((x2 * 4) + x6) + x1) < 40) ∧ (R32 (x4 * (M 6 (2 * (M 42 (40 * ((x2 * 4) + x6) + x1)) + (1 - x2)))))) ∧ ((((x4 * (M 6 (2 * (M 42 (40 * ((x2 * 4) + x6) + x1)) + (1 - x2)))) ≤ x5) → (R32 (x6 + 1)) ∧ E (wC g ad sk) X k n M 18 [(0, .ref (ad 1)), (1, .ref (ad (44 + 6 * (Int.toNat x1)))), (2, vI x2), (3, vI x3), (4, vI x4), (5, vI x5), (6, vI (x6 + 1))] []) ∧ ((x5 < (x4 * (M 6 (2 * (M 42 (40 * ((x2 * 4) + x6) + x1)) + (1 - x2))))) → (R32 (x6 + 1)) ∧ E (wC g ad sk) X k n M 18 [(0, .ref (ad 1)), (1, .ref (ad (44 + 6 * (Int.toNat x1)))), (2, vI x2), (3, vI x3), (4, vI x4), (5, vI (x4 * (M 6 (2 * (M 42 (40 * ((x2 * 4) + x6) + x1)) + (1 - x2))))), (6, vI (x6 + 1))] []))))) : E (wC g ad sk) X k n M 18 [(0, .ref (ad 1)), (1, .ref (ad (44 + 6 * (Int.toNat x1)))), (2, vI x2), (3, vI x3), (4, vI x4), (5, vI x5), (6, vI x6)] [] := by
  refine e_wf (fun hw0 => ?_)
  refine e_iload C 6 dX5_scaffold_18 rfl ?_
  refine e_aload_n C 1 dX5_scaffold_20 rfl ?_
  refine gX_5_116 C r1 dX5_scaffold_21 ?_
  refine e_iload_n C 2 dX5_scaffold_24 rfl ?_
  obtain ⟨o1, H⟩ := H
  refine aG_2 C r1 o1 dX5_scaffold_25 ?_
  refine e_icmp_ge C 76 r6 (hw0.2.1 41 _ rfl) dX5_scaffold_26 (by decide) (fun c9 => ?_) (fun c9 => ?_)
  · replace H := H.1 c9
    refine e_iload C 4 dX5_scaffold_76 rfl ?_
    refine e_iload C 5 dX5_scaffold_78 rfl ?_
    refine e_iload_n C 3 dX5_scaffold_80 rfl ?_
    obtain ⟨⟨o2, o3⟩, H⟩ := H
    refine e_isub C dX5_scaffold_81 ?_
    refine e_imul C dX5_scaffold_82 ?_
    exact e_iret C Y hk hn dX5_scaffold_83 H
  · replace H := H.2 c9
    refine e_iload C 4 dX5_scaffold_29 rfl ?_
    refine e_aload_n C 0 dX5_scaffold_31 rfl ?_
    refine gX_5_27 C dX5_scaffold_32 ?_
    refine e_iconst C dX5_scaffold_35 ?_
    refine e_iload_n C 2 dX5_scaffold_36 rfl ?_
    obtain ⟨⟨o4, o5, o6, o7, o8, o9, o10⟩, H⟩ := H
    refine e_isub C dX5_scaffold_37 ?_
    refine e_aaldW C o5 dX5_scaffold_38 ?_
    refine e_aload_n C 1 dX5_scaffold_39 rfl ?_
    refine gX_5_183 C r1 dX5_scaffold_40 ?_
    refine e_iload_n C 2 dX5_scaffold_43 rfl ?_
    refine e_iconst C dX5_scaffold_44 ?_
    refine e_imul C dX5_scaffold_45 ?_
    refine e_iload C 6 dX5_scaffold_46 rfl ?_
    refine e_iadd C dX5_scaffold_48 ?_
    refine aG_3 C r1 o8 dX5_scaffold_49 ?_
    refine aR_W C o5 o9 dX5_scaffold_50 ?_
    refine e_imul C dX5_scaffold_51 ?_
    refine e_istore C dX5_scaffold_52 (by decide) rfl ?_
    refine e_iload C 0 dX5_scaffold_54 rfl ?_
    refine e_iload C 6 dX5_scaffold_56 rfl ?_
    refine e_icmp_le C 66 o10 r5 dX5_scaffold_58 (by decide) (fun c9 => ?_) (fun c9 => ?_)
    · replace H := H.1 c9
      refine e_iload C 6 dX5_scaffold_66 rfl ?_
      refine e_istore C dX5_scaffold_68 (by decide) rfl ?_
      obtain ⟨o11, H⟩ := H
      refine e_iinc C 7 dX5_scaffold_70 rfl (by decide) rfl ?_
      refine e_goto C 18 dX5_scaffold_73 (by decide) ?_
      exact e_sub [3, 4, 5, 6, 7, 1, 0] rfl H
    · replace H := H.2 c9
      refine e_iload C 0 dX5_scaffold_61 rfl ?_
      refine e_goto C 68 dX5_scaffold_63 (by decide) ?_
      refine e_istore C dX5_scaffold_68 (by decide) rfl ?_
      obtain ⟨o12, H⟩ := H
      refine e_iinc C 7 dX5_scaffold_70 rfl (by decide) rfl ?_
      refine e_goto C 18 dX5_scaffold_73 (by decide) ?_
      exact e_sub [3, 4, 5, 6, 7, 1, 0] rfl H
set_option maxRecDepth 4000 in
theorem B_X5_sumOfMeans_0 {g : Gs} {ad : Nat → Nat} {sk : (Nat → Nat) × (Nat → Nat)} {X : Cx} {mc ms k n : Nat} {PQ : Option Value → Mem → Prop} {PX : String → Mem → Prop} {M : Mem} {x2 : Int} (r2 : R32 x2) (hk : k ≤ mc) (hn : n ≤ ms) (C : OkB (wC g ad sk) X cX5_sumOfMeans RX5 5 1 mc ms) (Y : OkR (wC g ad sk) X (some .int) mc ms PQ PX) (H : E (wC g ad sk) X k n M 5 [(0, .ref (ad 1)), (1, .ref (ad 10)), (2, vI x2), (3, vI 0), (4, vI 0)] []) : E (wC g ad sk) X k n M 0 [(0, .ref (ad 1)), (1, .ref (ad 10)), (2, vI x2)] [] := by
  refine e_wf (fun hw0 => ?_)
  refine e_iconst C dX5_sumOfMeans_0 ?_
  refine e_istore_n C dX5_sumOfMeans_1 (by decide) rfl ?_
  refine e_iconst C dX5_sumOfMeans_2 ?_
  refine e_istore C dX5_sumOfMeans_3 (by decide) rfl ?_
  exact e_sub [2, 3, 4, 1, 0] rfl H
set_option maxRecDepth 4000 in
theorem B_X5_sumOfMeans_5 {g : Gs} {ad : Nat → Nat} {sk : (Nat → Nat) × (Nat → Nat)} {X : Cx} {mc ms k n : Nat} {PQ : Option Value → Mem → Prop} {PX : String → Mem → Prop} {M : Mem} {x2 x3 x4 : Int} (r2 : R32 x2) (r3 : R32 x3) (r4 : R32 x4) (hk : k ≤ mc) (hn : n ≤ ms) (C : OkB (wC g ad sk) X cX5_sumOfMeans RX5 5 1 mc ms) (Y : OkR (wC g ad sk) X (some .int) mc ms PQ PX) (H : (((x2 ≤ x4) → PQ (some (vI x3)) M) ∧ ((x4 < x2) → ((0 ≤ x4 ∧ x4 < 4) ∧ (0 ≤ M 2 x4 ∧ M 2 x4 < 40) ∧ (R32 (x3 + (M 50 (M 2 x4)))) ∧ (R32 (x4 + 1))) ∧ E (wC g ad sk) X k n M 5 [(0, .ref (ad 1)), (1, .ref (ad 10)), (2, vI x2), (3, vI (x3 + (M 50 (M 2 x4)))), (4, vI (x4 + 1))] []))) : E (wC g ad sk) X k n M 5 [(0, .ref (ad 1)), (1, .ref (ad 10)), (2, vI x2), (3, vI x3), (4, vI x4)] [] := by
  refine e_wf (fun hw0 => ?_)
  refine e_iload C 4 dX5_sumOfMeans_5 rfl ?_
  refine e_iload_n C 2 dX5_sumOfMeans_7 rfl ?_
  refine e_icmp_ge C 32 r4 r2 dX5_sumOfMeans_8 (by decide) (fun c9 => ?_) (fun c9 => ?_)
  · replace H := H.1 c9
    refine e_iload_n C 3 dX5_sumOfMeans_32 rfl ?_
    exact e_iret C Y hk hn dX5_sumOfMeans_33 H
  · replace H := H.2 c9
    refine e_iload_n C 3 dX5_sumOfMeans_11 rfl ?_
    refine e_aload_n C 0 dX5_sumOfMeans_12 rfl ?_
    refine gX_5_11 C dX5_sumOfMeans_13 ?_
    refine e_aload_n C 1 dX5_sumOfMeans_16 rfl ?_
    refine e_iload C 4 dX5_sumOfMeans_17 rfl ?_
    obtain ⟨⟨o1, o2, o3, o4⟩, H⟩ := H
    refine aX_10 C o1 dX5_sumOfMeans_19 ?_
    refine e_aaldG C o2 dX5_sumOfMeans_20 ?_
    refine gX_5_152 C o2 dX5_sumOfMeans_21 ?_
    refine e_iadd C dX5_sumOfMeans_24 ?_
    refine e_istore_n C dX5_sumOfMeans_25 (by decide) rfl ?_
    refine e_iinc C 4 dX5_sumOfMeans_26 rfl (by decide) rfl ?_
    refine e_goto C 5 dX5_sumOfMeans_29 (by decide) ?_
    exact e_sub [2, 3, 4, 1, 0] rfl H
set_option maxRecDepth 4000 in
theorem B_X6_turn_0 {g : Gs} {ad : Nat → Nat} {sk : (Nat → Nat) × (Nat → Nat)} {X : Cx} {mc ms k n : Nat} {PQ : Option Value → Mem → Prop} {PX : String → Mem → Prop} {M : Mem} {x1 : Int} (r1 : R32 x1) (hk : k ≤ mc) (hn : n ≤ ms) (C : OkB (wC g ad sk) X cX6_turn RX6 3 1 mc ms) (Y : OkR (wC g ad sk) X none mc ms PQ PX) (H : E (wC g ad sk) X k n M 2 [(0, .ref (ad 3)), (1, vI x1), (2, vI 0)] []) : E (wC g ad sk) X k n M 0 [(0, .ref (ad 3)), (1, vI x1)] [] := by
  refine e_wf (fun hw0 => ?_)
  refine e_iconst C dX6_turn_0 ?_
  refine e_istore_n C dX6_turn_1 (by decide) rfl ?_
  exact e_sub [1, 2, 0] rfl H
set_option maxRecDepth 4000 in
theorem B_X6_turn_2 {g : Gs} {ad : Nat → Nat} {sk : (Nat → Nat) × (Nat → Nat)} {X : Cx} {mc ms k n : Nat} {PQ : Option Value → Mem → Prop} {PX : String → Mem → Prop} {M : Mem} {x1 x2 : Int} (r1 : R32 x1) (r2 : R32 x2) (hk : k ≤ mc) (hn : n ≤ ms) (C : OkB (wC g ad sk) X cX6_turn RX6 3 1 mc ms) (Y : OkR (wC g ad sk) X none mc ms PQ PX) (H : (((x1 ≤ x2) → PQ none M) ∧ ((x2 < x1) → ((0 ≤ x2 ∧ x2 < 4) ∧ (R32 ((M 16 x2) + 1))) ∧ ((((M 14 x2) ≤ ((up M 16 x2 ((M 16 x2) + 1)) 16 x2)) → (R32 (x2 + 1)) ∧ E (wC g ad sk) X k n (up (up M 16 x2 ((M 16 x2) + 1)) 16 x2 0) 2 [(0, .ref (ad 3)), (1, vI x1), (2, vI (x2 + 1))] []) ∧ ((((up M 16 x2 ((M 16 x2) + 1)) 16 x2) < (M 14 x2)) → PQ none (up M 16 x2 ((M 16 x2) + 1))))))) : E (wC g ad sk) X k n M 2 [(0, .ref (ad 3)), (1, vI x1), (2, vI x2)] [] := by
  refine e_wf (fun hw0 => ?_)
  refine e_iload_n C 2 dX6_turn_2 rfl ?_
  refine e_iload_n C 1 dX6_turn_3 rfl ?_
  refine e_icmp_ge C 46 r2 r1 dX6_turn_4 (by decide) (fun c9 => ?_) (fun c9 => ?_)
  · replace H := H.1 c9
    exact e_vret C Y hk hn dX6_turn_46 H
  · replace H := H.2 c9
    refine e_aload_n C 0 dX6_turn_7 rfl ?_
    refine gX_6_26 C dX6_turn_8 ?_
    refine e_iload_n C 2 dX6_turn_11 rfl ?_
    refine e_dup2 C rfl rfl dX6_turn_12 ?_
    obtain ⟨⟨o1, o2⟩, H⟩ := H
    refine aX_32 C o1 dX6_turn_13 ?_
    refine e_iconst C dX6_turn_14 ?_
    refine e_iadd C dX6_turn_15 ?_
    refine sX_32 C o1 o2 dX6_turn_16 ?_
    refine e_wf (fun hw3 => ?_)
    refine e_aload_n C 0 dX6_turn_17 rfl ?_
    refine gX_6_26 C dX6_turn_18 ?_
    refine e_iload_n C 2 dX6_turn_21 rfl ?_
    refine aX_32 C o1 dX6_turn_22 ?_
    refine e_aload_n C 0 dX6_turn_23 rfl ?_
    refine gX_6_19 C dX6_turn_24 ?_
    refine e_iload_n C 2 dX6_turn_27 rfl ?_
    refine aX_30 C o1 dX6_turn_28 ?_
    refine e_icmp_ge C 33 (hw3.2.1 16 _ rfl) (hw0.2.1 14 _ rfl) dX6_turn_29 (by decide) (fun c9 => ?_) (fun c9 => ?_)
    · replace H := H.1 c9
      refine e_aload_n C 0 dX6_turn_33 rfl ?_
      refine gX_6_26 C dX6_turn_34 ?_
      refine e_iload_n C 2 dX6_turn_37 rfl ?_
      refine e_iconst C dX6_turn_38 ?_
      refine sX_32 C o1 (by decide) dX6_turn_39 ?_
      refine e_wf (fun hw4 => ?_)
      obtain ⟨o5, H⟩ := H
      refine e_iinc C 2 dX6_turn_40 rfl (by decide) rfl ?_
      refine e_goto C 2 dX6_turn_43 (by decide) ?_
      exact e_sub [1, 2, 0] rfl H
    · replace H := H.2 c9
      exact e_vret C Y hk hn dX6_turn_32 H
set_option maxRecDepth 4000 in
theorem B_X6_scoreOf_0 {g : Gs} {ad : Nat → Nat} {sk : (Nat → Nat) × (Nat → Nat)} {X : Cx} {mc ms k n : Nat} {PQ : Option Value → Mem → Prop} {PX : String → Mem → Prop} {M : Mem} {x1 x2 x3 : Int} (r1 : 0 ≤ x1 ∧ x1 < 2) (r2 : R32 x2) (r3 : R32 x3) (hk : k ≤ mc) (hn : n ≤ ms) (C : OkB (wC g ad sk) X cX6_scoreOf RX6 6 1 mc ms) (Y : OkR (wC g ad sk) X (some .int) mc ms PQ PX) (H : E (wC g ad sk) X k n M 6 [(0, .ref (ad 3)), (1, .ref (ad (lnA x1))), (2, vI x2), (3, vI x3), (4, vI 0), (5, vI 0)] []) : E (wC g ad sk) X k n M 0 [(0, .ref (ad 3)), (1, .ref (ad (lnA x1))), (2, vI x2), (3, vI x3)] [] := by
  refine e_wf (fun hw0 => ?_)
  refine e_iconst C dX6_scoreOf_0 ?_
  refine e_istore C dX6_scoreOf_1 (by decide) rfl ?_
  refine e_iconst C dX6_scoreOf_3 ?_
  refine e_istore C dX6_scoreOf_4 (by decide) rfl ?_
  exact e_sub [2, 3, 4, 5, 1, 0] rfl H
set_option maxRecDepth 4000 in
theorem B_X6_scoreOf_6 {g : Gs} {ad : Nat → Nat} {sk : (Nat → Nat) × (Nat → Nat)} {X : Cx} {mc ms k n : Nat} {PQ : Option Value → Mem → Prop} {PX : String → Mem → Prop} {M : Mem} {x1 x2 x3 x4 x5 : Int} (r1 : 0 ≤ x1 ∧ x1 < 2) (r2 : R32 x2) (r3 : R32 x3) (r4 : R32 x4) (r5 : R32 x5) (hk : k ≤ mc) (hn : n ≤ ms) (C : OkB (wC g ad sk) X cX6_scoreOf RX6 6 1 mc ms) (Y : OkR (wC g ad sk) X (some .int) mc ms PQ PX) (H : (((x2 ≤ x5) → (((x3 ≠ 0) → (0 ≤ x4 ∧ x4 < (M 20 0)) ∧ PQ (some (vI (M (scC 1) x4))) M) ∧ ((x3 = 0) → (0 ≤ x4 ∧ x4 < (M 20 0)) ∧ PQ (some (vI (M (scC 0) x4))) M))) ∧ ((x5 < x2) → ((0 ≤ x5 ∧ x5 < 4) ∧ (0 ≤ M (lnC x1) x5 ∧ M (lnC x1) x5 < 40) ∧ (R32 ((M 12 (4 * (M (lnC x1) x5) + x5)) * (M 15 x5))) ∧ (R32 (x4 + ((M 12 (4 * (M (lnC x1) x5) + x5)) * (M 15 x5)))) ∧ (R32 (x5 + 1))) ∧ E (wC g ad sk) X k n M 6 [(0, .ref (ad 3)), (1, .ref (ad (lnA x1))), (2, vI x2), (3, vI x3), (4, vI (x4 + ((M 12 (4 * (M (lnC x1) x5) + x5)) * (M 15 x5)))), (5, vI (x5 + 1))] []))) : E (wC g ad sk) X k n M 6 [(0, .ref (ad 3)), (1, .ref (ad (lnA x1))), (2, vI x2), (3, vI x3), (4, vI x4), (5, vI x5)] [] := by
  refine e_wf (fun hw0 => ?_)
  refine e_iload C 5 dX6_scoreOf_6 rfl ?_
  refine e_iload_n C 2 dX6_scoreOf_8 rfl ?_
  refine e_icmp_ge C 43 r5 r2 dX6_scoreOf_9 (by decide) (fun c9 => ?_) (fun c9 => ?_)
  · replace H := H.1 c9
    refine e_iload_n C 3 dX6_scoreOf_43 rfl ?_
    refine e_if_ne C 57 r3 dX6_scoreOf_44 (by decide) (fun c9 => ?_) (fun c9 => ?_)
    · replace H := H.1 c9
      refine e_aload_n C 0 dX6_scoreOf_57 rfl ?_
      refine gX_6_32 C dX6_scoreOf_58 ?_
      refine e_iload C 4 dX6_scoreOf_61 rfl ?_
      obtain ⟨o1, H⟩ := H
      refine aS C (by decide) o1 dX6_scoreOf_63 ?_
      exact e_iret C Y hk hn dX6_scoreOf_64 H
    · replace H := H.2 c9
      refine e_aload_n C 0 dX6_scoreOf_47 rfl ?_
      refine gX_6_29 C dX6_scoreOf_48 ?_
      refine e_iload C 4 dX6_scoreOf_51 rfl ?_
      obtain ⟨o2, H⟩ := H
      refine aS C (by decide) o2 dX6_scoreOf_53 ?_
      refine e_goto C 64 dX6_scoreOf_54 (by decide) ?_
      exact e_iret C Y hk hn dX6_scoreOf_64 H
  · replace H := H.2 c9
    refine e_iload C 4 dX6_scoreOf_12 rfl ?_
    refine e_aload_n C 0 dX6_scoreOf_14 rfl ?_
    refine gX_6_11 C dX6_scoreOf_15 ?_
    refine e_iload C 5 dX6_scoreOf_18 rfl ?_
    obtain ⟨⟨o3, o4, o5, o6, o7⟩, H⟩ := H
    refine e_aaldR C o3 dX6_scoreOf_20 ?_
    refine e_aload_n C 1 dX6_scoreOf_21 rfl ?_
    refine e_iload C 5 dX6_scoreOf_22 rfl ?_
    refine aLn C r1 o3 dX6_scoreOf_24 ?_
    refine aR_R C o3 o4 dX6_scoreOf_25 ?_
    refine e_aload_n C 0 dX6_scoreOf_26 rfl ?_
    refine gX_6_23 C dX6_scoreOf_27 ?_
    refine e_iload C 5 dX6_scoreOf_30 rfl ?_
    refine aX_31 C o3 dX6_scoreOf_32 ?_
    refine e_imul C dX6_scoreOf_33 ?_
    refine e_iadd C dX6_scoreOf_34 ?_
    refine e_istore C dX6_scoreOf_35 (by decide) rfl ?_
    refine e_iinc C 5 dX6_scoreOf_37 rfl (by decide) rfl ?_
    refine e_goto C 6 dX6_scoreOf_40 (by decide) ?_
    exact e_sub [2, 3, 4, 5, 1, 0] rfl H
set_option maxRecDepth 4000 in
theorem B_X7_append_0 {g : Gs} {ad : Nat → Nat} {sk : (Nat → Nat) × (Nat → Nat)} {X : Cx} {mc ms k n : Nat} {PQ : Option Value → Mem → Prop} {PX : String → Mem → Prop} {M : Mem} {x1 : Int} (r1 : R32 x1) (hk : k ≤ mc) (hn : n ≤ ms) (C : OkB (wC g ad sk) X cX7_append RX7 2 1 mc ms) (Y : OkR (wC g ad sk) X none mc ms PQ PX) (H : (((4 ≤ (M 11 0)) → PQ none M) ∧ (((M 11 0) < 4) → ((0 ≤ M 11 0 ∧ M 11 0 < 4) ∧ (R32 ((M 11 0) + 1))) ∧ PQ none (up (up M 10 (M 11 0) x1) 11 0 ((M 11 0) + 1))))) : E (wC g ad sk) X k n M 0 [(0, .ref (ad 2)), (1, vI x1)] [] := by
  refine e_wf (fun hw0 => ?_)
  refine e_aload_n C 0 dX7_append_0 rfl ?_
  refine gX_7_15 C dX7_append_1 ?_
  refine e_iconst C dX7_append_4 ?_
  refine e_icmp_ge C 28 (hw0.2.1 11 _ rfl) (by decide) dX7_append_5 (by decide) (fun c9 => ?_) (fun c9 => ?_)
  · replace H := H.1 c9
    exact e_vret C Y hk hn dX7_append_28 H
  · replace H := H.2 c9
    refine e_aload_n C 0 dX7_append_8 rfl ?_
    refine gX_7_9 C dX7_append_9 ?_
    refine e_aload_n C 0 dX7_append_12 rfl ?_
    refine gX_7_15 C dX7_append_13 ?_
    refine e_iload_n C 1 dX7_append_16 rfl ?_
    obtain ⟨⟨o1, o3⟩, H⟩ := H
    refine sX_19 C o1 r1 dX7_append_17 ?_
    refine e_wf (fun hw2 => ?_)
    refine e_aload_n C 0 dX7_append_18 rfl ?_
    refine e_dup C rfl dX7_append_19 ?_
    refine gX_7_15 C dX7_append_20 ?_
    refine e_iconst C dX7_append_23 ?_
    refine e_iadd C dX7_append_24 ?_
    refine pX_7_15 C o3 dX7_append_25 ?_
    refine e_wf (fun hw4 => ?_)
    exact e_vret C Y hk hn dX7_append_28 H
set_option maxRecDepth 4000 in
theorem B_X7_takeOut_0 {g : Gs} {ad : Nat → Nat} {sk : (Nat → Nat) × (Nat → Nat)} {X : Cx} {mc ms k n : Nat} {PQ : Option Value → Mem → Prop} {PX : String → Mem → Prop} {M : Mem} {x1 : Int} (r1 : R32 x1) (hk : k ≤ mc) (hn : n ≤ ms) (C : OkB (wC g ad sk) X cX7_takeOut RX7 4 1 mc ms) (Y : OkR (wC g ad sk) X (some .int) mc ms PQ PX) (H : ((0 ≤ x1 ∧ x1 < 4) ∧ (R32 (x1 + 1))) ∧ E (wC g ad sk) X k n M 11 [(0, .ref (ad 2)), (2, vI (M 10 x1)), (3, vI (x1 + 1))] []) : E (wC g ad sk) X k n M 0 [(0, .ref (ad 2)), (1, vI x1)] [] := by
  refine e_wf (fun hw0 => ?_)
  refine e_aload_n C 0 dX7_takeOut_0 rfl ?_
  refine gX_7_9 C dX7_takeOut_1 ?_
  refine e_iload_n C 1 dX7_takeOut_4 rfl ?_
  obtain ⟨⟨o1, o2⟩, H⟩ := H
  refine aX_19 C o1 dX7_takeOut_5 ?_
  refine e_istore_n C dX7_takeOut_6 (by decide) rfl ?_
  refine e_iload_n C 2 dX7_takeOut_7 rfl ?_
  refine e_iconst C dX7_takeOut_8 ?_
  refine e_iadd C dX7_takeOut_9 ?_
  refine e_istore_n C dX7_takeOut_10 (by decide) rfl ?_
  exact e_sub [2, 1, 0] rfl H
set_option maxRecDepth 4000 in
theorem B_X7_takeOut_11 {g : Gs} {ad : Nat → Nat} {sk : (Nat → Nat) × (Nat → Nat)} {X : Cx} {mc ms k n : Nat} {PQ : Option Value → Mem → Prop} {PX : String → Mem → Prop} {M : Mem} {x2 x3 : Int} (r2 : R32 x2) (r3 : R32 x3) (hk : k ≤ mc) (hn : n ≤ ms) (C : OkB (wC g ad sk) X cX7_takeOut RX7 4 1 mc ms) (Y : OkR (wC g ad sk) X (some .int) mc ms PQ PX) (H : ((((M 11 0) ≤ x3) → (R32 ((M 11 0) - 1)) ∧ PQ (some (vI x2)) (up M 11 0 ((M 11 0) - 1))) ∧ ((x3 < (M 11 0)) → ((R32 (x3 - 1)) ∧ (0 ≤ x3 ∧ x3 < 4) ∧ (0 ≤ x3 - 1 ∧ x3 - 1 < 4) ∧ (R32 (x3 + 1))) ∧ E (wC g ad sk) X k n (up M 10 (x3 - 1) (M 10 x3)) 11 [(0, .ref (ad 2)), (2, vI x2), (3, vI (x3 + 1))] []))) : E (wC g ad sk) X k n M 11 [(0, .ref (ad 2)), (2, vI x2), (3, vI x3)] [] := by
  refine e_wf (fun hw0 => ?_)
  refine e_iload_n C 2 dX7_takeOut_11 rfl ?_
  refine e_aload_n C 0 dX7_takeOut_12 rfl ?_
  refine gX_7_15 C dX7_takeOut_13 ?_
  refine e_icmp_ge C 39 r3 (hw0.2.1 11 _ rfl) dX7_takeOut_16 (by decide) (fun c9 => ?_) (fun c9 => ?_)
  · replace H := H.1 c9
    refine e_aload_n C 0 dX7_takeOut_39 rfl ?_
    refine e_dup C rfl dX7_takeOut_40 ?_
    refine gX_7_15 C dX7_takeOut_41 ?_
    refine e_iconst C dX7_takeOut_44 ?_
    obtain ⟨o1, H⟩ := H
    refine e_isub C dX7_takeOut_45 ?_
    refine pX_7_15 C o1 dX7_takeOut_46 ?_
    refine e_wf (fun hw2 => ?_)
    refine e_iload_n C 1 dX7_takeOut_49 rfl ?_
    exact e_iret C Y hk hn dX7_takeOut_50 H
  · replace H := H.2 c9
    refine e_aload_n C 0 dX7_takeOut_19 rfl ?_
    refine gX_7_9 C dX7_takeOut_20 ?_
    refine e_iload_n C 2 dX7_takeOut_23 rfl ?_
    refine e_iconst C dX7_takeOut_24 ?_
    obtain ⟨⟨o3, o4, o5, o7⟩, H⟩ := H
    refine e_isub C dX7_takeOut_25 ?_
    refine e_aload_n C 0 dX7_takeOut_26 rfl ?_
    refine gX_7_9 C dX7_takeOut_27 ?_
    refine e_iload_n C 2 dX7_takeOut_30 rfl ?_
    refine aX_19 C o4 dX7_takeOut_31 ?_
    refine sX_19 C o5 (hw0.2.1 10 _ rfl) dX7_takeOut_32 ?_
    refine e_wf (fun hw6 => ?_)
    refine e_iinc C 2 dX7_takeOut_33 rfl (by decide) rfl ?_
    refine e_goto C 11 dX7_takeOut_36 (by decide) ?_
    exact e_sub [1, 2, 0] rfl H
set_option maxRecDepth 4000 in
theorem B_X8_append_0 {g : Gs} {ad : Nat → Nat} {sk : (Nat → Nat) × (Nat → Nat)} {X : Cx} {mc ms k n : Nat} {PQ : Option Value → Mem → Prop} {PX : String → Mem → Prop} {M : Mem} {x1 : Int} (r1 : R32 x1) (hk : k ≤ mc) (hn : n ≤ ms) (C : OkB (wC g ad sk) X cX8_append RX8 2 1 mc ms) (Y : OkR (wC g ad sk) X none mc ms PQ PX) (H : (((80 ≤ (M 23 0)) → PQ none M) ∧ (((M 23 0) < 80) → ((0 ≤ M 23 0 ∧ M 23 0 < 80) ∧ (0 ≤ x1 ∧ x1 < 65536) ∧ (R32 ((M 23 0) + 1))) ∧ PQ none (up (up M 24 (M 23 0) x1) 23 0 ((M 23 0) + 1))))) : E (wC g ad sk) X k n M 0 [(0, .ref (ad 5)), (1, vI x1)] [] := by
  refine e_wf (fun hw0 => ?_)
  refine e_aload_n C 0 dX8_append_0 rfl ?_
  refine gX_8_15 C dX8_append_1 ?_
  refine e_bipush C dX8_append_4 (by decide) ?_
  refine e_icmp_ge C 29 (hw0.2.1 23 _ rfl) (by decide) dX8_append_6 (by decide) (fun c9 => ?_) (fun c9 => ?_)
  · replace H := H.1 c9
    exact e_vret C Y hk hn dX8_append_29 H
  · replace H := H.2 c9
    refine e_aload_n C 0 dX8_append_9 rfl ?_
    refine gX_8_19 C dX8_append_10 ?_
    refine e_aload_n C 0 dX8_append_13 rfl ?_
    refine gX_8_15 C dX8_append_14 ?_
    refine e_iload_n C 1 dX8_append_17 rfl ?_
    obtain ⟨⟨o1, o2, o4⟩, H⟩ := H
    refine sX_36 C o1 o2 dX8_append_18 ?_
    refine e_wf (fun hw3 => ?_)
    refine e_aload_n C 0 dX8_append_19 rfl ?_
    refine e_dup C rfl dX8_append_20 ?_
    refine gX_8_15 C dX8_append_21 ?_
    refine e_iconst C dX8_append_24 ?_
    refine e_iadd C dX8_append_25 ?_
    refine pX_8_15 C o4 dX8_append_26 ?_
    refine e_wf (fun hw5 => ?_)
    exact e_vret C Y hk hn dX8_append_29 H
set_option maxRecDepth 4000 in
theorem B_X8_kindAt_0 {g : Gs} {ad : Nat → Nat} {sk : (Nat → Nat) × (Nat → Nat)} {X : Cx} {mc ms k n : Nat} {PQ : Option Value → Mem → Prop} {PX : String → Mem → Prop} {M : Mem} {x1 : Int} (r1 : R32 x1) (hk : k ≤ mc) (hn : n ≤ ms) (C : OkB (wC g ad sk) X cX8_kindAt RX8 4 1 mc ms) (Y : OkR (wC g ad sk) X (some .int) mc ms PQ PX) (H : (((x1 < (M 23 0)) → (0 ≤ x1 ∧ x1 < 80) ∧ ((((M 24 x1) < 97) → E (wC g ad sk) X k n M 31 [(2, vI (M 24 x1))] []) ∧ ((97 ≤ (M 24 x1)) → (((122 < (M 24 x1)) → E (wC g ad sk) X k n M 31 [(2, vI (M 24 x1))] []) ∧ (((M 24 x1) ≤ 122) → PQ (some (vI 2)) M))))) ∧ (((M 23 0) ≤ x1) → PQ (some (vI 0)) M))) : E (wC g ad sk) X k n M 0 [(0, .ref (ad 5)), (1, vI x1)] [] := by
  refine e_wf (fun hw0 => ?_)
  refine e_iload_n C 1 dX8_kindAt_0 rfl ?_
  refine e_aload_n C 0 dX8_kindAt_1 rfl ?_
  refine gX_8_15 C dX8_kindAt_2 ?_
  refine e_icmp_lt C 10 r1 (hw0.2.1 23 _ rfl) dX8_kindAt_5 (by decide) (fun c9 => ?_) (fun c9 => ?_)
  · replace H := H.1 c9
    refine e_aload_n C 0 dX8_kindAt_10 rfl ?_
    refine gX_8_19 C dX8_kindAt_11 ?_
    refine e_iload_n C 1 dX8_kindAt_14 rfl ?_
    obtain ⟨o1, H⟩ := H
    refine aX_36 C o1 dX8_kindAt_15 ?_
    refine e_istore_n C dX8_kindAt_16 (by decide) rfl ?_
    refine e_iload_n C 0 dX8_kindAt_17 rfl ?_
    refine e_bipush C dX8_kindAt_18 (by decide) ?_
    refine e_icmp_lt C 31 (hw0.2.1 24 _ rfl) (by decide) dX8_kindAt_20 (by decide) (fun c9 => ?_) (fun c9 => ?_)
    · replace H := H.1 c9
      exact e_sub [0] rfl H
    · replace H := H.2 c9
      refine e_iload_n C 0 dX8_kindAt_23 rfl ?_
      refine e_bipush C dX8_kindAt_24 (by decide) ?_
      refine e_icmp_gt C 31 (hw0.2.1 24 _ rfl) (by decide) dX8_kindAt_26 (by decide) (fun c9 => ?_) (fun c9 => ?_)
      · replace H := H.1 c9
        exact e_sub [0] rfl H
      · replace H := H.2 c9
        refine e_iconst C dX8_kindAt_29 ?_
        exact e_iret C Y hk hn dX8_kindAt_30 H
  · replace H := H.2 c9
    refine e_iconst C dX8_kindAt_8 ?_
    exact e_iret C Y hk hn dX8_kindAt_9 H
set_option maxRecDepth 4000 in
theorem B_X8_kindAt_31 {g : Gs} {ad : Nat → Nat} {sk : (Nat → Nat) × (Nat → Nat)} {X : Cx} {mc ms k n : Nat} {PQ : Option Value → Mem → Prop} {PX : String → Mem → Prop} {M : Mem} {x2 : Int} (r2 : R32 x2) (hk : k ≤ mc) (hn : n ≤ ms) (C : OkB (wC g ad sk) X cX8_kindAt RX8 4 1 mc ms) (Y : OkR (wC g ad sk) X (some .int) mc ms PQ PX) (H : (((x2 < 48) → E (wC g ad sk) X k n M 45 [(2, vI x2)] []) ∧ ((48 ≤ x2) → (((57 < x2) → E (wC g ad sk) X k n M 45 [(2, vI x2)] []) ∧ ((x2 ≤ 57) → PQ (some (vI 3)) M))))) : E (wC g ad sk) X k n M 31 [(2, vI x2)] [] := by
  refine e_wf (fun hw0 => ?_)
  refine e_iload_n C 0 dX8_kindAt_31 rfl ?_
  refine e_bipush C dX8_kindAt_32 (by decide) ?_
  refine e_icmp_lt C 45 r2 (by decide) dX8_kindAt_34 (by decide) (fun c9 => ?_) (fun c9 => ?_)
  · replace H := H.1 c9
    exact e_sub [0] rfl H
  · replace H := H.2 c9
    refine e_iload_n C 0 dX8_kindAt_37 rfl ?_
    refine e_bipush C dX8_kindAt_38 (by decide) ?_
    refine e_icmp_gt C 45 r2 (by decide) dX8_kindAt_40 (by decide) (fun c9 => ?_) (fun c9 => ?_)
    · replace H := H.1 c9
      exact e_sub [0] rfl H
    · replace H := H.2 c9
      refine e_iconst C dX8_kindAt_43 ?_
      exact e_iret C Y hk hn dX8_kindAt_44 H
set_option maxRecDepth 4000 in
theorem B_X8_kindAt_45 {g : Gs} {ad : Nat → Nat} {sk : (Nat → Nat) × (Nat → Nat)} {X : Cx} {mc ms k n : Nat} {PQ : Option Value → Mem → Prop} {PX : String → Mem → Prop} {M : Mem} {x2 : Int} (r2 : R32 x2) (hk : k ≤ mc) (hn : n ≤ ms) (C : OkB (wC g ad sk) X cX8_kindAt RX8 4 1 mc ms) (Y : OkR (wC g ad sk) X (some .int) mc ms PQ PX) (H : (((x2 = 43) → E (wC g ad sk) X k n M 92 [(2, vI x2)] [vI 1]) ∧ ((x2 ≠ 43) → (((x2 = 45) → E (wC g ad sk) X k n M 92 [(2, vI x2)] [vI 1]) ∧ ((x2 ≠ 45) → (((x2 = 47) → E (wC g ad sk) X k n M 92 [(2, vI x2)] [vI 1]) ∧ ((x2 ≠ 47) → (((x2 = 123) → E (wC g ad sk) X k n M 92 [(2, vI x2)] [vI 1]) ∧ ((x2 ≠ 123) → (((x2 = 124) → E (wC g ad sk) X k n M 92 [(2, vI x2)] [vI 1]) ∧ ((x2 ≠ 124) → (((x2 = 125) → E (wC g ad sk) X k n M 92 [(2, vI x2)] [vI 1]) ∧ ((x2 ≠ 125) → (((x2 ≠ 44) → E (wC g ad sk) X k n M 92 [(2, vI x2)] [vI 0]) ∧ ((x2 = 44) → E (wC g ad sk) X k n M 92 [(2, vI x2)] [vI 1]))))))))))))))) : E (wC g ad sk) X k n M 45 [(2, vI x2)] [] := by
  refine e_wf (fun hw0 => ?_)
  refine e_iload_n C 0 dX8_kindAt_45 rfl ?_
  refine e_bipush C dX8_kindAt_46 (by decide) ?_
  refine e_icmp_eq C 87 r2 (by decide) dX8_kindAt_48 (by decide) (fun c9 => ?_) (fun c9 => ?_)
  · replace H := H.1 c9
    refine e_iconst C dX8_kindAt_87 ?_
    refine e_goto C 92 dX8_kindAt_88 (by decide) ?_
    exact e_sub [0] rfl H
  · replace H := H.2 c9
    refine e_iload_n C 0 dX8_kindAt_51 rfl ?_
    refine e_bipush C dX8_kindAt_52 (by decide) ?_
    refine e_icmp_eq C 87 r2 (by decide) dX8_kindAt_54 (by decide) (fun c9 => ?_) (fun c9 => ?_)
    · replace H := H.1 c9
      refine e_iconst C dX8_kindAt_87 ?_
      refine e_goto C 92 dX8_kindAt_88 (by decide) ?_
      exact e_sub [0] rfl H
    · replace H := H.2 c9
      refine e_iload_n C 0 dX8_kindAt_57 rfl ?_
      refine e_bipush C dX8_kindAt_58 (by decide) ?_
      refine e_icmp_eq C 87 r2 (by decide) dX8_kindAt_60 (by decide) (fun c9 => ?_) (fun c9 => ?_)
      · replace H := H.1 c9
        refine e_iconst C dX8_kindAt_87 ?_
        refine e_goto C 92 dX8_kindAt_88 (by decide) ?_
        exact e_sub [0] rfl H
      · replace H := H.2 c9
        refine e_iload_n C 0 dX8_kindAt_63 rfl ?_
        refine e_bipush C dX8_kindAt_64 (by decide) ?_
        refine e_icmp_eq C 87 r2 (by decide) dX8_kindAt_66 (by decide) (fun c9 => ?_) (fun c9 => ?_)
        · replace H := H.1 c9
          refine e_iconst C dX8_kindAt_87 ?_
          refine e_goto C 92 dX8_kindAt_88 (by decide) ?_
          exact e_sub [0] rfl H
        · replace H := H.2 c9
          refine e_iload_n C 0 dX8_kindAt_69 rfl ?_
          refine e_bipush C dX8_kindAt_70 (by decide) ?_
          refine e_icmp_eq C 87 r2 (by decide) dX8_kindAt_72 (by decide) (fun c9 => ?_) (fun c9 => ?_)
          · replace H := H.1 c9
            refine e_iconst C dX8_kindAt_87 ?_
            refine e_goto C 92 dX8_kindAt_88 (by decide) ?_
            exact e_sub [0] rfl H
          · replace H := H.2 c9
            refine e_iload_n C 0 dX8_kindAt_75 rfl ?_
            refine e_bipush C dX8_kindAt_76 (by decide) ?_
            refine e_icmp_eq C 87 r2 (by decide) dX8_kindAt_78 (by decide) (fun c9 => ?_) (fun c9 => ?_)
            · replace H := H.1 c9
              refine e_iconst C dX8_kindAt_87 ?_
              refine e_goto C 92 dX8_kindAt_88 (by decide) ?_
              exact e_sub [0] rfl H
            · replace H := H.2 c9
              refine e_iload_n C 0 dX8_kindAt_81 rfl ?_
              refine e_bipush C dX8_kindAt_82 (by decide) ?_
              refine e_icmp_ne C 91 r2 (by decide) dX8_kindAt_84 (by decide) (fun c9 => ?_) (fun c9 => ?_)
              · replace H := H.1 c9
                refine e_iconst C dX8_kindAt_91 ?_
                exact e_sub [0] rfl H
              · replace H := H.2 c9
                refine e_iconst C dX8_kindAt_87 ?_
                refine e_goto C 92 dX8_kindAt_88 (by decide) ?_
                exact e_sub [0] rfl H
set_option maxRecDepth 4000 in
theorem B_X8_kindAt_92 {g : Gs} {ad : Nat → Nat} {sk : (Nat → Nat) × (Nat → Nat)} {X : Cx} {mc ms k n : Nat} {PQ : Option Value → Mem → Prop} {PX : String → Mem → Prop} {M : Mem} {x2 t0 : Int} (r2 : R32 x2) (q0 : R32 t0) (hk : k ≤ mc) (hn : n ≤ ms) (C : OkB (wC g ad sk) X cX8_kindAt RX8 4 1 mc ms) (Y : OkR (wC g ad sk) X (some .int) mc ms PQ PX) (H : (((t0 = 0) → PQ (some (vI 1)) M) ∧ ((t0 ≠ 0) → PQ (some (vI x2)) M))) : E (wC g ad sk) X k n M 92 [(2, vI x2)] [vI t0] := by
  refine e_wf (fun hw0 => ?_)
  refine e_istore_n C dX8_kindAt_92 (by decide) rfl ?_
  refine e_iload_n C 0 dX8_kindAt_93 rfl ?_
  refine e_if_eq C 101 q0 dX8_kindAt_94 (by decide) (fun c9 => ?_) (fun c9 => ?_)
  · replace H := H.1 c9
    refine e_iconst C dX8_kindAt_101 ?_
    exact e_iret C Y hk hn dX8_kindAt_102 H
  · replace H := H.2 c9
    refine e_iload_n C 1 dX8_kindAt_97 rfl ?_
    refine e_goto C 102 dX8_kindAt_98 (by decide) ?_
    exact e_iret C Y hk hn dX8_kindAt_102 H
set_option maxRecDepth 4000 in
theorem B_X8_digitsHere_0 {g : Gs} {ad : Nat → Nat} {sk : (Nat → Nat) × (Nat → Nat)} {X : Cx} {mc ms k n : Nat} {PQ : Option Value → Mem → Prop} {PX : String → Mem → Prop} {M : Mem}  (hk : k ≤ mc) (hn : n ≤ ms) (C : OkB (wC g ad sk) X cX8_digitsHere RX8 4 1 mc ms) (Y : OkR (wC g ad sk) X (some .int) mc ms PQ PX) (H : (R32 ((M 30 0) - (M 29 0))) ∧ ((((M 28 0) ≠ 3) → PQ (some (vI (-1))) M) ∧ (((M 28 0) = 3) → (((2 < ((M 30 0) - (M 29 0))) → PQ (some (vI (-1))) M) ∧ ((((M 30 0) - (M 29 0)) ≤ 2) → (((((M 30 0) - (M 29 0)) ≠ 2) → E (wC g ad sk) X k n M 51 [(0, .ref (ad 5)), (2, vI 0), (3, vI (M 29 0))] []) ∧ ((((M 30 0) - (M 29 0)) = 2) → (0 ≤ M 29 0 ∧ M 29 0 < 80) ∧ ((((M 24 (M 29 0)) ≠ 48) → E (wC g ad sk) X k n M 51 [(0, .ref (ad 5)), (2, vI 0), (3, vI (M 29 0))] []) ∧ (((M 24 (M 29 0)) = 48) → PQ (some (vI (-1))) M))))))))) : E (wC g ad sk) X k n M 0 [(0, .ref (ad 5))] [] := by
  refine e_wf (fun hw0 => ?_)
  refine e_aload_n C 0 dX8_digitsHere_0 rfl ?_
  refine gX_8_33 C dX8_digitsHere_1 ?_
  refine e_aload_n C 0 dX8_digitsHere_4 rfl ?_
  refine gX_8_51 C dX8_digitsHere_5 ?_
  obtain ⟨o1, H⟩ := H
  refine e_isub C dX8_digitsHere_8 ?_
  refine e_istore_n C dX8_digitsHere_9 (by decide) rfl ?_
  refine e_aload_n C 1 dX8_digitsHere_10 rfl ?_
  refine gX_8_58 C dX8_digitsHere_11 ?_
  refine e_iconst C dX8_digitsHere_14 ?_
  refine e_icmp_ne C 42 (hw0.2.1 28 _ rfl) (by decide) dX8_digitsHere_15 (by decide) (fun c9 => ?_) (fun c9 => ?_)
  · replace H := H.1 c9
    refine e_iconst C dX8_digitsHere_42 ?_
    exact e_iret C Y hk hn dX8_digitsHere_43 H
  · replace H := H.2 c9
    refine e_iload_n C 0 dX8_digitsHere_18 rfl ?_
    refine e_iconst C dX8_digitsHere_19 ?_
    refine e_icmp_gt C 42 o1 (by decide) dX8_digitsHere_20 (by decide) (fun c9 => ?_) (fun c9 => ?_)
    · replace H := H.1 c9
      refine e_iconst C dX8_digitsHere_42 ?_
      exact e_iret C Y hk hn dX8_digitsHere_43 H
    · replace H := H.2 c9
      refine e_iload_n C 0 dX8_digitsHere_23 rfl ?_
      refine e_iconst C dX8_digitsHere_24 ?_
      refine e_icmp_ne C 44 o1 (by decide) dX8_digitsHere_25 (by decide) (fun c9 => ?_) (fun c9 => ?_)
      · replace H := H.1 c9
        refine e_iconst C dX8_digitsHere_44 ?_
        refine e_istore_n C dX8_digitsHere_45 (by decide) rfl ?_
        refine e_aload_n C 2 dX8_digitsHere_46 rfl ?_
        refine gX_8_51 C dX8_digitsHere_47 ?_
        refine e_istore_n C dX8_digitsHere_50 (by decide) rfl ?_
        exact e_sub [3, 1, 0] rfl H
      · replace H := H.2 c9
        refine e_aload_n C 1 dX8_digitsHere_28 rfl ?_
        refine gX_8_19 C dX8_digitsHere_29 ?_
        refine e_aload_n C 1 dX8_digitsHere_32 rfl ?_
        refine gX_8_51 C dX8_digitsHere_33 ?_
        obtain ⟨o2, H⟩ := H
        refine aX_36 C o2 dX8_digitsHere_36 ?_
        refine e_bipush C dX8_digitsHere_37 (by decide) ?_
        refine e_icmp_ne C 44 (hw0.2.1 24 _ rfl) (by decide) dX8_digitsHere_39 (by decide) (fun c9 => ?_) (fun c9 => ?_)
        · replace H := H.1 c9
          refine e_iconst C dX8_digitsHere_44 ?_
          refine e_istore_n C dX8_digitsHere_45 (by decide) rfl ?_
          refine e_aload_n C 2 dX8_digitsHere_46 rfl ?_
          refine gX_8_51 C dX8_digitsHere_47 ?_
          refine e_istore_n C dX8_digitsHere_50 (by decide) rfl ?_
          exact e_sub [3, 1, 0] rfl H
        · replace H := H.2 c9
          refine e_iconst C dX8_digitsHere_42 ?_
          exact e_iret C Y hk hn dX8_digitsHere_43 H
set_option maxRecDepth 4000 in
theorem B_X8_digitsHere_51 {g : Gs} {ad : Nat → Nat} {sk : (Nat → Nat) × (Nat → Nat)} {X : Cx} {mc ms k n : Nat} {PQ : Option Value → Mem → Prop} {PX : String → Mem → Prop} {M : Mem} {x2 x3 : Int} (r2 : R32 x2) (r3 : R32 x3) (hk : k ≤ mc) (hn : n ≤ ms) (C : OkB (wC g ad sk) X cX8_digitsHere RX8 4 1 mc ms) (Y : OkR (wC g ad sk) X (some .int) mc ms PQ PX) (H : ((((M 30 0) ≤ x3) → PQ (some (vI x2)) M) ∧ ((x3 < (M 30 0)) → ((R32 (10 * x2)) ∧ (0 ≤ x3 ∧ x3 < 80) ∧ (R32 ((M 24 x3) - 48)) ∧ (R32 ((10 * x2) + ((M 24 x3) - 48))) ∧ (R32 (x3 + 1))) ∧ E (wC g ad sk) X k n M 51 [(0, .ref (ad 5)), (2, vI ((10 * x2) + ((M 24 x3) - 48))), (3, vI (x3 + 1))] []))) : E (wC g ad sk) X k n M 51 [(0, .ref (ad 5)), (2, vI x2), (3, vI x3)] [] := by
  refine e_wf (fun hw0 => ?_)
  refine e_iload_n C 2 dX8_digitsHere_51 rfl ?_
  refine e_aload_n C 0 dX8_digitsHere_52 rfl ?_
  refine gX_8_33 C dX8_digitsHere_53 ?_
  refine e_icmp_ge C 80 r3 (hw0.2.1 30 _ rfl) dX8_digitsHere_56 (by decide) (fun c9 => ?_) (fun c9 => ?_)
  · replace H := H.1 c9
    refine e_iload_n C 1 dX8_digitsHere_80 rfl ?_
    exact e_iret C Y hk hn dX8_digitsHere_81 H
  · replace H := H.2 c9
    refine e_bipush C dX8_digitsHere_59 (by decide) ?_
    refine e_iload_n C 1 dX8_digitsHere_61 rfl ?_
    obtain ⟨⟨o1, o2, o3, o4, o5⟩, H⟩ := H
    refine e_imul C dX8_digitsHere_62 ?_
    refine e_aload_n C 0 dX8_digitsHere_63 rfl ?_
    refine gX_8_19 C dX8_digitsHere_64 ?_
    refine e_iload_n C 2 dX8_digitsHere_67 rfl ?_
    refine aX_36 C o2 dX8_digitsHere_68 ?_
    refine e_bipush C dX8_digitsHere_69 (by decide) ?_
    refine e_isub C dX8_digitsHere_71 ?_
    refine e_iadd C dX8_digitsHere_72 ?_
    refine e_istore_n C dX8_digitsHere_73 (by decide) rfl ?_
    refine e_iinc C 2 dX8_digitsHere_74 rfl (by decide) rfl ?_
    refine e_goto C 51 dX8_digitsHere_77 (by decide) ?_
    exact e_sub [2, 1, 0] rfl H
set_option maxRecDepth 4000 in
theorem B_X8_note_0 {g : Gs} {ad : Nat → Nat} {sk : (Nat → Nat) × (Nat → Nat)} {X : Cx} {mc ms k n : Nat} {PQ : Option Value → Mem → Prop} {PX : String → Mem → Prop} {M : Mem} {x1 : Int} (r1 : R32 x1) (hk : k ≤ mc) (hn : n ≤ ms) (C : OkB (wC g ad sk) X cX8_note RX8 2 1 mc ms) (Y : OkR (wC g ad sk) X none mc ms PQ PX) (H : (((400 ≤ (M 22 0)) → PQ none M) ∧ (((M 22 0) < 400) → ((0 ≤ M 22 0 ∧ M 22 0 < 400) ∧ (R32 ((M 22 0) + 1))) ∧ PQ none (up (up M 21 (M 22 0) x1) 22 0 ((M 22 0) + 1))))) : E (wC g ad sk) X k n M 0 [(0, .ref (ad 5)), (1, vI x1)] [] := by
  refine e_wf (fun hw0 => ?_)
  refine e_aload_n C 0 dX8_note_0 rfl ?_
  refine gX_8_27 C dX8_note_1 ?_
  refine e_sipush C dX8_note_4 (by decide) ?_
  refine e_icmp_ge C 30 (hw0.2.1 22 _ rfl) (by decide) dX8_note_7 (by decide) (fun c9 => ?_) (fun c9 => ?_)
  · replace H := H.1 c9
    exact e_vret C Y hk hn dX8_note_30 H
  · replace H := H.2 c9
    refine e_aload_n C 0 dX8_note_10 rfl ?_
    refine gX_8_9 C dX8_note_11 ?_
    refine e_aload_n C 0 dX8_note_14 rfl ?_
    refine gX_8_27 C dX8_note_15 ?_
    refine e_iload_n C 1 dX8_note_18 rfl ?_
    obtain ⟨⟨o1, o3⟩, H⟩ := H
    refine sX_35 C o1 r1 dX8_note_19 ?_
    refine e_wf (fun hw2 => ?_)
    refine e_aload_n C 0 dX8_note_20 rfl ?_
    refine e_dup C rfl dX8_note_21 ?_
    refine gX_8_27 C dX8_note_22 ?_
    refine e_iconst C dX8_note_25 ?_
    refine e_iadd C dX8_note_26 ?_
    refine pX_8_27 C o3 dX8_note_27 ?_
    refine e_wf (fun hw4 => ?_)
    exact e_vret C Y hk hn dX8_note_30 H
set_option maxRecDepth 4000 in
theorem B_X0_greediest_0 {g : Gs} {ad : Nat → Nat} {sk : (Nat → Nat) × (Nat → Nat)} {X : Cx} {mc ms k n : Nat} {PQ : Option Value → Mem → Prop} {PX : String → Mem → Prop} {M : Mem} {x2 x3 : Int} (r2 : R32 x2) (r3 : R32 x3) (hk : k ≤ mc) (hn : n ≤ ms) (C : OkB (wC g ad sk) X cX0_greediest RX0 10 2 mc ms) (Y : OkR (wC g ad sk) X (some .int) mc ms PQ PX) (H : E (wC g ad sk) X k n M 10 [(0, .ref (ad 4)), (1, .ref (ad 10)), (2, vI x2), (3, vI x3), (4, vI (-16777216)), (5, vI (-1)), (6, vI 0)] []) : E (wC g ad sk) X k n M 0 [(0, .ref (ad 4)), (1, .ref (ad 10)), (2, vI x2), (3, vI x3)] [] := by
  refine e_wf (fun hw0 => ?_)
  refine e_ldc C (v := (-16777216)) (tg5 58 rfl rfl) (by decide) dX0_greediest_0 ?_
  refine e_istore C dX0_greediest_2 (by decide) rfl ?_
  refine e_iconst C dX0_greediest_4 ?_
  refine e_istore C dX0_greediest_5 (by decide) rfl ?_
  refine e_iconst C dX0_greediest_7 ?_
  refine e_istore C dX0_greediest_8 (by decide) rfl ?_
  exact e_sub [3, 4, 5, 6, 2, 1, 0] rfl H
set_option maxRecDepth 4000 in
theorem B_X0_greediest_10 {g : Gs} {ad : Nat → Nat} {sk : (Nat → Nat) × (Nat → Nat)} {X : Cx} {mc ms k n : Nat} {PQ : Option Value → Mem → Prop} {PX : String → Mem → Prop} {M : Mem} {x2 x3 x4 x5 x6 : Int} (r2 : R32 x2) (r3 : R32 x3) (r4 : R32 x4) (r5 : R32 x5) (r6 : R32 x6) (hk : k ≤ mc) (hn : n ≤ ms) (C : OkB (wC g ad sk) X cX0_greediest RX0 10 2 mc ms) (Y : OkR (wC g ad sk) X (some .int) mc ms PQ PX) (H : (((x2 ≤ x6) → PQ (some (vI x5)) M) ∧ ((x6 < x2) → ((0 ≤ x6 ∧ x6 < 4) ∧ (0 ≤ M 2 x6 ∧ M 2 x6 < 40)) ∧ E (wC g ad sk) X k n M 33 [(0, .ref (ad 4)), (1, .ref (ad 10)), (2, vI x2), (3, vI x3), (4, vI x4), (5, vI x5), (6, vI x6), (7, .ref (ad (44 + 6 * (Int.toNat (M 2 x6))))), (8, vI 0)] []))) : E (wC g ad sk) X k n M 10 [(0, .ref (ad 4)), (1, .ref (ad 10)), (2, vI x2), (3, vI x3), (4, vI x4), (5, vI x5), (6, vI x6)] [] := by
  refine e_wf (fun hw0 => ?_)
  refine e_iload C 6 dX0_greediest_10 rfl ?_
  refine e_iload_n C 2 dX0_greediest_12 rfl ?_
  refine e_icmp_ge C 118 r6 r2 dX0_greediest_13 (by decide) (fun c9 => ?_) (fun c9 => ?_)
  · replace H := H.1 c9
    refine e_iload C 5 dX0_greediest_118 rfl ?_
    exact e_iret C Y hk hn dX0_greediest_120 H
  · replace H := H.2 c9
    refine e_aload_n C 0 dX0_greediest_16 rfl ?_
    refine gX_0_9 C dX0_greediest_17 ?_
    refine gX_0_33 C dX0_greediest_20 ?_
    refine e_aload_n C 1 dX0_greediest_23 rfl ?_
    refine e_iload C 6 dX0_greediest_24 rfl ?_
    obtain ⟨⟨o1, o2⟩, H⟩ := H
    refine aX_10 C o1 dX0_greediest_26 ?_
    refine e_aaldG C o2 dX0_greediest_27 ?_
    refine e_astore C dX0_greediest_28 (by decide) rfl ?_
    refine e_iconst C dX0_greediest_30 ?_
    refine e_istore C dX0_greediest_31 (by decide) rfl ?_
    exact e_sub [2, 3, 4, 5, 6, 7, 8, 1, 0] rfl H
set_option maxRecDepth 4000 in
theorem B_X0_greediest_33 {g : Gs} {ad : Nat → Nat} {sk : (Nat → Nat) × (Nat → Nat)} {X : Cx} {mc ms k n : Nat} {PQ : Option Value → Mem → Prop} {PX : String → Mem → Prop} {M : Mem} {x2 x3 x4 x5 x6 x7 x8 : Int} (r2 : R32 x2) (r3 : R32 x3) (r4 : R32 x4) (r5 : R32 x5) (r6 : R32 x6) (r7 : 0 ≤ x7 ∧ x7 < 40) (r8 : R32 x8) (hk : k ≤ mc) (hn : n ≤ ms) (C : OkB (wC g ad sk) X cX0_greediest RX0 10 2 mc ms) (Y : OkR (wC g ad sk) X (some .int) mc ms PQ PX) (H : (0 ≤ x3 ∧ x3 < 2) ∧ ((((M 41 (40 * x3 + x7)) ≤ x8) → (R32 (x6 + 1)) ∧ E (wC g ad sk) X k n M 10 [(0, .ref (ad 4)), (1, .ref (ad 10)), (2, vI x2), (3, vI x3), (4, vI x4), (5, vI x5), (6, vI (x6 + 1))] []) ∧ ((x8 < (M 41 (40 * x3 + x7))) → ((((M 49 x7) ≠ 0) → (R32 (x6 + 1)) ∧ E (wC g ad sk) X k n M 10 [(0, .ref (ad 4)), (1, .ref (ad 10)), (2, vI x2), (3, vI x3), (4, vI x4), (5, vI x5), (6, vI (x6 + 1))] []) ∧ (((M 49 x7) = 0) → (((0 ≤ x3 ∧ x3 ≤ 1) ∧ M 41 (40 * x3 + x7) ≤ 4) ∧ (0 ≤ optAt M x7 x3 x8 ∧ optAt M x7 x3 x8 < 40) ∧ (R32 ((M 50 (optAt M x7 x3 x8)) - (M 50 x7))) ∧ (R32 ((sgnS x3) * ((M 50 (optAt M x7 x3 x8)) - (M 50 x7))))) ∧ (((((sgnS x3) * ((M 50 (optAt M x7 x3 x8)) - (M 50 x7))) ≤ x4) → (R32 (x8 + 1)) ∧ E (wC g ad sk) X k n M 33 [(0, .ref (ad 4)), (1, .ref (ad 10)), (2, vI x2), (3, vI x3), (4, vI x4), (5, vI x5), (6, vI x6), (7, .ref (ad (44 + 6 * (Int.toNat x7)))), (8, vI (x8 + 1))] []) ∧ ((x4 < ((sgnS x3) * ((M 50 (optAt M x7 x3 x8)) - (M 50 x7)))) → ((R32 (100 * x6)) ∧ (R32 ((100 * x6) + x8)) ∧ (R32 (x8 + 1))) ∧ E (wC g ad sk) X k n M 33 [(0, .ref (ad 4)), (1, .ref (ad 10)), (2, vI x2), (3, vI x3), (4, vI ((sgnS x3) * ((M 50 (optAt M x7 x3 x8)) - (M 50 x7)))), (5, vI ((100 * x6) + x8)), (6, vI x6), (7, .ref (ad (44 + 6 * (Int.toNat x7)))), (8, vI (x8 + 1))] []))))))) : E (wC g ad sk) X k n M 33 [(0, .ref (ad 4)), (1, .ref (ad 10)), (2, vI x2), (3, vI x3), (4, vI x4), (5, vI x5), (6, vI x6), (7, .ref (ad (44 + 6 * (Int.toNat x7)))), (8, vI x8)] [] := by
  refine e_wf (fun hw0 => ?_)
  refine e_iload C 8 dX0_greediest_33 rfl ?_
  refine e_aload C 7 dX0_greediest_35 rfl ?_
  refine gX_0_62 C r7 dX0_greediest_37 ?_
  refine e_iload_n C 3 dX0_greediest_40 rfl ?_
  obtain ⟨o1, H⟩ := H
  refine aG_2 C r7 o1 dX0_greediest_41 ?_
  refine e_icmp_ge C 112 r8 (hw0.2.1 41 _ rfl) dX0_greediest_42 (by decide) (fun c9 => ?_) (fun c9 => ?_)
  · replace H := H.1 c9
    obtain ⟨o2, H⟩ := H
    refine e_iinc C 6 dX0_greediest_112 rfl (by decide) rfl ?_
    refine e_goto C 10 dX0_greediest_115 (by decide) ?_
    exact e_sub [1, 2, 3, 4, 5, 6, 0] rfl H
  · replace H := H.2 c9
    refine e_aload C 7 dX0_greediest_45 rfl ?_
    refine gX_0_39 C r7 dX0_greediest_47 ?_
    refine e_if_ne C 112 (hw0.2.1 49 _ rfl) dX0_greediest_50 (by decide) (fun c9 => ?_) (fun c9 => ?_)
    · replace H := H.1 c9
      obtain ⟨o3, H⟩ := H
      refine e_iinc C 6 dX0_greediest_112 rfl (by decide) rfl ?_
      refine e_goto C 10 dX0_greediest_115 (by decide) ?_
      exact e_sub [1, 2, 3, 4, 5, 6, 0] rfl H
    · replace H := H.2 c9
      refine e_iload_n C 3 dX0_greediest_53 rfl ?_
      refine e_callSN (As := [vI x3]) (rest := []) C Y mi_X9_signOf ms_X9_signOf (host := "HotGames") (by decide +kernel) (s_X9_signOf r3) (by decide) (Nat.le_of_ble_eq_true rfl) hk hn dX0_greediest_54 rfl ?_
      refine e_aload_n C 0 dX0_greediest_57 rfl ?_
      refine gX_0_9 C dX0_greediest_58 ?_
      refine gX_0_33 C dX0_greediest_61 ?_
      refine e_aload C 7 dX0_greediest_64 rfl ?_
      refine e_iload_n C 3 dX0_greediest_66 rfl ?_
      refine e_iload C 8 dX0_greediest_67 rfl ?_
      obtain ⟨⟨o4, o5, o6, o7⟩, H⟩ := H
      refine e_callVD (As := [vI x3, vI x8]) (rest := [.ref (ad 12), vI (sgnS x3)]) (ci := 2) C Y mi_X2_optionAt ms_X2_optionAt mv_X2_optionAt ml_X0_70 (s_X2_optionAt r7 r3 r8 o4) (heG r7) rfl (by decide) (Nat.le_of_ble_eq_true rfl) hk hn dX0_greediest_69 rfl ?_
      refine e_aaldG C o5 dX0_greediest_72 ?_
      refine gX_0_77 C o5 dX0_greediest_73 ?_
      refine e_aload C 7 dX0_greediest_76 rfl ?_
      refine gX_0_77 C r7 dX0_greediest_78 ?_
      refine e_isub C dX0_greediest_81 ?_
      refine e_imul C dX0_greediest_82 ?_
      refine e_istore C dX0_greediest_83 (by decide) rfl ?_
      refine e_iload C 0 dX0_greediest_85 rfl ?_
      refine e_iload C 5 dX0_greediest_87 rfl ?_
      refine e_icmp_le C 106 o7 r4 dX0_greediest_89 (by decide) (fun c9 => ?_) (fun c9 => ?_)
      · replace H := H.1 c9
        obtain ⟨o8, H⟩ := H
        refine e_iinc C 9 dX0_greediest_106 rfl (by decide) rfl ?_
        refine e_goto C 33 dX0_greediest_109 (by decide) ?_
        exact e_sub [2, 3, 4, 5, 6, 7, 8, 9, 0] rfl H
      · replace H := H.2 c9
        refine e_iload C 0 dX0_greediest_92 rfl ?_
        refine e_istore C dX0_greediest_94 (by decide) rfl ?_
        refine e_bipush C dX0_greediest_96 (by decide) ?_
        refine e_iload C 7 dX0_greediest_98 rfl ?_
        obtain ⟨⟨o9, o10, o11⟩, H⟩ := H
        refine e_imul C dX0_greediest_100 ?_
        refine e_iload C 9 dX0_greediest_101 rfl ?_
        refine e_iadd C dX0_greediest_103 ?_
        refine e_istore C dX0_greediest_104 (by decide) rfl ?_
        refine e_iinc C 9 dX0_greediest_106 rfl (by decide) rfl ?_
        refine e_goto C 33 dX0_greediest_109 (by decide) ?_
        exact e_sub [4, 5, 6, 7, 2, 1, 8, 9, 0] rfl H
set_option maxRecDepth 4000 in
theorem B_X0_optimal_0 {g : Gs} {ad : Nat → Nat} {sk : (Nat → Nat) × (Nat → Nat)} {X : Cx} {mc ms k n : Nat} {PQ : Option Value → Mem → Prop} {PX : String → Mem → Prop} {M : Mem} {x2 x3 : Int} (r2 : R32 x2) (r3 : R32 x3) (hk : k ≤ mc) (hn : n ≤ ms) (C : OkB (wC g ad sk) X cX0_optimal RX0 10 2 mc ms) (Y : OkR (wC g ad sk) X (some .int) mc ms PQ PX) (H : ∃ Q3 : Int → Mem → Prop, SpI (wC g ad sk) yX6_scoreOf cX6_scoreOf 6 (some .int) 1 [.ref (ad 3), .ref (ad 10), vI x2, vI x3] M Q3 ∧ ∀ (z4 : Int) (M2 : Mem), Q3 z4 M2 → R32 z4 ∧ E (wC g ad sk) X k n M2 15 [(0, .ref (ad 4)), (1, .ref (ad 10)), (2, vI x2), (3, vI x3), (4, vI z4), (5, vI 0)] []) : E (wC g ad sk) X k n M 0 [(0, .ref (ad 4)), (1, .ref (ad 10)), (2, vI x2), (3, vI x3)] [] := by
  refine e_wf (fun hw0 => ?_)
  refine e_aload_n C 0 dX0_optimal_0 rfl ?_
  refine gX_0_15 C dX0_optimal_1 ?_
  refine e_aload_n C 1 dX0_optimal_4 rfl ?_
  refine e_iload_n C 2 dX0_optimal_5 rfl ?_
  refine e_iload_n C 3 dX0_optimal_6 rfl ?_
  obtain ⟨Q3, h1, H⟩ := H
  refine e_callVI (As := [.ref (ad 10), vI x2, vI x3]) (rest := []) (q0 := 3) (ci := 6) C Y mi_X6_scoreOf ms_X6_scoreOf mv_X6_scoreOf ml_X0_80 h1 (wlX_st rfl) rfl (by decide) (Nat.le_of_ble_eq_true rfl) hk hn dX0_optimal_7 rfl (fun z4 M2 hq9 => ?_)
  obtain ⟨o5, H⟩ := H z4 M2 hq9
  refine e_wf (fun hw6 => ?_)
  refine e_istore C dX0_optimal_10 (by decide) rfl ?_
  refine e_iconst C dX0_optimal_12 ?_
  refine e_istore C dX0_optimal_13 (by decide) rfl ?_
  exact e_sub [2, 3, 4, 5, 1, 0] rfl H
set_option maxRecDepth 4000 in
theorem B_X0_optimal_15 {g : Gs} {ad : Nat → Nat} {sk : (Nat → Nat) × (Nat → Nat)} {X : Cx} {mc ms k n : Nat} {PQ : Option Value → Mem → Prop} {PX : String → Mem → Prop} {M : Mem} {x2 x3 x4 x5 : Int} (r2 : R32 x2) (r3 : R32 x3) (r4 : R32 x4) (r5 : R32 x5) (hk : k ≤ mc) (hn : n ≤ ms) (C : OkB (wC g ad sk) X cX0_optimal RX0 10 2 mc ms) (Y : OkR (wC g ad sk) X (some .int) mc ms PQ PX) (H : (((x2 ≤ x5) → PQ (some (vI (-1))) M) ∧ ((x5 < x2) → ((0 ≤ x5 ∧ x5 < 4) ∧ (0 ≤ M 2 x5 ∧ M 2 x5 < 40)) ∧ E (wC g ad sk) X k n M 42 [(0, .ref (ad 4)), (1, .ref (ad 10)), (2, vI x2), (3, vI x3), (4, vI x4), (5, vI x5), (6, vI (M 2 x5)), (7, .ref (ad (44 + 6 * (Int.toNat (M 2 x5))))), (8, vI 0)] []))) : E (wC g ad sk) X k n M 15 [(0, .ref (ad 4)), (1, .ref (ad 10)), (2, vI x2), (3, vI x3), (4, vI x4), (5, vI x5)] [] := by
  refine e_wf (fun hw0 => ?_)
  refine e_iload C 5 dX0_optimal_15 rfl ?_
  refine e_iload_n C 2 dX0_optimal_17 rfl ?_
  refine e_icmp_ge C 122 r5 r2 dX0_optimal_18 (by decide) (fun c9 => ?_) (fun c9 => ?_)
  · replace H := H.1 c9
    refine e_iconst C dX0_optimal_122 ?_
    exact e_iret C Y hk hn dX0_optimal_123 H
  · replace H := H.2 c9
    refine e_aload_n C 1 dX0_optimal_21 rfl ?_
    refine e_iload C 5 dX0_optimal_22 rfl ?_
    obtain ⟨⟨o1, o2⟩, H⟩ := H
    refine aX_10 C o1 dX0_optimal_24 ?_
    refine e_istore C dX0_optimal_25 (by decide) rfl ?_
    refine e_aload_n C 1 dX0_optimal_27 rfl ?_
    refine gX_0_9 C dX0_optimal_28 ?_
    refine gX_0_33 C dX0_optimal_31 ?_
    refine e_iload C 0 dX0_optimal_34 rfl ?_
    refine e_aaldG C o2 dX0_optimal_36 ?_
    refine e_astore C dX0_optimal_37 (by decide) rfl ?_
    refine e_iconst C dX0_optimal_39 ?_
    refine e_istore C dX0_optimal_40 (by decide) rfl ?_
    exact e_sub [3, 4, 5, 6, 7, 8, 2, 1, 0] rfl H
set_option maxRecDepth 4000 in
theorem B_X0_optimal_42 {g : Gs} {ad : Nat → Nat} {sk : (Nat → Nat) × (Nat → Nat)} {X : Cx} {mc ms k n : Nat} {PQ : Option Value → Mem → Prop} {PX : String → Mem → Prop} {M : Mem} {x2 x3 x4 x5 x6 x7 x8 : Int} (r2 : R32 x2) (r3 : R32 x3) (r4 : R32 x4) (r5 : R32 x5) (r6 : R32 x6) (r7 : 0 ≤ x7 ∧ x7 < 40) (r8 : R32 x8) (hk : k ≤ mc) (hn : n ≤ ms) (C : OkB (wC g ad sk) X cX0_optimal RX0 10 2 mc ms) (Y : OkR (wC g ad sk) X (some .int) mc ms PQ PX) (H : (0 ≤ x3 ∧ x3 < 2) ∧ ((((M 41 (40 * x3 + x7)) ≤ x8) → (R32 (x5 + 1)) ∧ E (wC g ad sk) X k n M 15 [(0, .ref (ad 4)), (1, .ref (ad 10)), (2, vI x2), (3, vI x3), (4, vI x4), (5, vI (x5 + 1))] []) ∧ ((x8 < (M 41 (40 * x3 + x7))) → ((((M 49 x7) ≠ 0) → (R32 (x5 + 1)) ∧ E (wC g ad sk) X k n M 15 [(0, .ref (ad 4)), (1, .ref (ad 10)), (2, vI x2), (3, vI x3), (4, vI x4), (5, vI (x5 + 1))] []) ∧ (((M 49 x7) = 0) → (((0 ≤ x3 ∧ x3 ≤ 1) ∧ M 41 (40 * x3 + x7) ≤ 4) ∧ (0 ≤ x5 ∧ x5 < 4) ∧ (R32 (1 - x3))) ∧ ∃ Q10 : Int → Mem → Prop, SpI (wC g ad sk) yX6_scoreOf cX6_scoreOf 6 (some .int) 1 [.ref (ad 3), .ref (ad 10), vI x2, vI (1 - x3)] (up M 2 x5 (optAt M x7 x3 x8)) Q10 ∧ ∀ (z11 : Int) (M9 : Mem), Q10 z11 M9 → R32 z11 ∧ (((z11 ≠ x4) → (R32 (x8 + 1)) ∧ E (wC g ad sk) X k n (up M9 2 x5 x6) 42 [(0, .ref (ad 4)), (1, .ref (ad 10)), (2, vI x2), (3, vI x3), (4, vI x4), (5, vI x5), (6, vI x6), (7, .ref (ad (44 + 6 * (Int.toNat x7)))), (8, vI (x8 + 1))] []) ∧ ((z11 = x4) → ((R32 (100 * x5)) ∧ (R32 ((100 * x5) + x8))) ∧ PQ (some (vI ((100 * x5) + x8))) (up M9 2 x5 x6)))))))) : E (wC g ad sk) X k n M 42 [(0, .ref (ad 4)), (1, .ref (ad 10)), (2, vI x2), (3, vI x3), (4, vI x4), (5, vI x5), (6, vI x6), (7, .ref (ad (44 + 6 * (Int.toNat x7)))), (8, vI x8)] [] := by
  refine e_wf (fun hw0 => ?_)
  refine e_iload C 8 dX0_optimal_42 rfl ?_
  refine e_aload C 7 dX0_optimal_44 rfl ?_
  refine gX_0_62 C r7 dX0_optimal_46 ?_
  refine e_iload_n C 3 dX0_optimal_49 rfl ?_
  obtain ⟨o1, H⟩ := H
  refine aG_2 C r7 o1 dX0_optimal_50 ?_
  refine e_icmp_ge C 116 r8 (hw0.2.1 41 _ rfl) dX0_optimal_51 (by decide) (fun c9 => ?_) (fun c9 => ?_)
  · replace H := H.1 c9
    obtain ⟨o2, H⟩ := H
    refine e_iinc C 5 dX0_optimal_116 rfl (by decide) rfl ?_
    refine e_goto C 15 dX0_optimal_119 (by decide) ?_
    exact e_sub [1, 2, 3, 4, 5, 0] rfl H
  · replace H := H.2 c9
    refine e_aload C 7 dX0_optimal_54 rfl ?_
    refine gX_0_39 C r7 dX0_optimal_56 ?_
    refine e_if_ne C 116 (hw0.2.1 49 _ rfl) dX0_optimal_59 (by decide) (fun c9 => ?_) (fun c9 => ?_)
    · replace H := H.1 c9
      obtain ⟨o3, H⟩ := H
      refine e_iinc C 5 dX0_optimal_116 rfl (by decide) rfl ?_
      refine e_goto C 15 dX0_optimal_119 (by decide) ?_
      exact e_sub [1, 2, 3, 4, 5, 0] rfl H
    · replace H := H.2 c9
      refine e_aload_n C 1 dX0_optimal_62 rfl ?_
      refine e_iload C 5 dX0_optimal_63 rfl ?_
      refine e_aload C 7 dX0_optimal_65 rfl ?_
      refine e_iload_n C 3 dX0_optimal_67 rfl ?_
      refine e_iload C 8 dX0_optimal_68 rfl ?_
      obtain ⟨⟨o4, o5, o7⟩, H⟩ := H
      refine e_callVD (As := [vI x3, vI x8]) (rest := [vI x5, .ref (ad 10)]) (ci := 2) C Y mi_X2_optionAt ms_X2_optionAt mv_X2_optionAt ml_X0_70 (s_X2_optionAt r7 r3 r8 o4) (heG r7) rfl (by decide) (Nat.le_of_ble_eq_true rfl) hk hn dX0_optimal_70 rfl ?_
      refine sX_10 C o5 (optAt_r hw0 _ _ _) dX0_optimal_73 ?_
      refine e_wf (fun hw6 => ?_)
      refine e_aload_n C 0 dX0_optimal_74 rfl ?_
      refine gX_0_15 C dX0_optimal_75 ?_
      refine e_aload_n C 1 dX0_optimal_78 rfl ?_
      refine e_iload_n C 2 dX0_optimal_79 rfl ?_
      refine e_iconst C dX0_optimal_80 ?_
      refine e_iload_n C 3 dX0_optimal_81 rfl ?_
      refine e_isub C dX0_optimal_82 ?_
      obtain ⟨Q10, h8, H⟩ := H
      refine e_callVI (As := [.ref (ad 10), vI x2, vI (1 - x3)]) (rest := []) (q0 := 3) (ci := 6) C Y mi_X6_scoreOf ms_X6_scoreOf mv_X6_scoreOf ml_X0_80 h8 (wlX_st rfl) rfl (by decide) (Nat.le_of_ble_eq_true rfl) hk hn dX0_optimal_83 rfl (fun z11 M9 hq9 => ?_)
      obtain ⟨o12, H⟩ := H z11 M9 hq9
      refine e_wf (fun hw13 => ?_)
      refine e_istore C dX0_optimal_86 (by decide) rfl ?_
      refine e_aload_n C 2 dX0_optimal_88 rfl ?_
      refine e_iload C 6 dX0_optimal_89 rfl ?_
      refine e_iload C 7 dX0_optimal_91 rfl ?_
      refine sX_10 C o5 r6 dX0_optimal_93 ?_
      refine e_wf (fun hw14 => ?_)
      refine e_iload C 0 dX0_optimal_94 rfl ?_
      refine e_iload C 5 dX0_optimal_96 rfl ?_
      refine e_icmp_ne C 110 o12 r4 dX0_optimal_98 (by decide) (fun c9 => ?_) (fun c9 => ?_)
      · replace H := H.1 c9
        obtain ⟨o15, H⟩ := H
        refine e_iinc C 9 dX0_optimal_110 rfl (by decide) rfl ?_
        refine e_goto C 42 dX0_optimal_113 (by decide) ?_
        exact e_sub [2, 3, 4, 5, 6, 7, 8, 9, 0] rfl H
      · replace H := H.2 c9
        refine e_bipush C dX0_optimal_101 (by decide) ?_
        refine e_iload C 6 dX0_optimal_103 rfl ?_
        obtain ⟨⟨o16, o17⟩, H⟩ := H
        refine e_imul C dX0_optimal_105 ?_
        refine e_iload C 9 dX0_optimal_106 rfl ?_
        refine e_iadd C dX0_optimal_108 ?_
        exact e_iret C Y hk hn dX0_optimal_109 H
set_option maxRecDepth 4000 in
theorem B_X1_negated_0 {g : Gs} {ad : Nat → Nat} {sk : (Nat → Nat) × (Nat → Nat)} {X : Cx} {mc ms k n : Nat} {PQ : Option Value → Mem → Prop} {PX : String → Mem → Prop} {M : Mem} {x1 x2 : Int} (r1 : 0 ≤ x1 ∧ x1 < 40) (r2 : R32 x2) (hk : k ≤ mc) (hn : n ≤ ms) (C : OkB (wC g ad sk) X cX1_negated RX1 6 2 mc ms) (Y : OkR (wC g ad sk) X (some .long) mc ms PQ PX) (H : E (wC g ad sk) X k n M 5 [(0, .ref (ad 6)), (1, .ref (ad (44 + 6 * (Int.toNat x1)))), (2, vI x2), (3, vL 0), (5, vI 0)] []) : E (wC g ad sk) X k n M 0 [(0, .ref (ad 6)), (1, .ref (ad (44 + 6 * (Int.toNat x1)))), (2, vI x2)] [] := by
  refine e_wf (fun hw0 => ?_)
  refine e_lconst0 C dX1_negated_0 ?_
  refine e_lstore_n C dX1_negated_1 (by decide) rfl ?_
  refine e_iconst C dX1_negated_2 ?_
  refine e_istore C dX1_negated_3 (by decide) rfl ?_
  exact e_sub [2, 3, 4, 1, 0] rfl H
set_option maxRecDepth 4000 in
theorem B_X1_negated_5 {g : Gs} {ad : Nat → Nat} {sk : (Nat → Nat) × (Nat → Nat)} {X : Cx} {mc ms k n : Nat} {PQ : Option Value → Mem → Prop} {PX : String → Mem → Prop} {M : Mem} {x1 x2 x3 x5 : Int} (r1 : 0 ≤ x1 ∧ x1 < 40) (r2 : R32 x2) (r3 : R64 x3) (r5 : R32 x5) (hk : k ≤ mc) (hn : n ≤ ms) (C : OkB (wC g ad sk) X cX1_negated RX1 6 2 mc ms) (Y : OkR (wC g ad sk) X (some .long) mc ms PQ PX) (H : (0 ≤ x2 ∧ x2 < 2) ∧ ((((M 41 (40 * x2 + x1)) ≤ x5) → PQ (some (vL x3)) M) ∧ ((x5 < (M 41 (40 * x2 + x1))) → (((0 ≤ x2 ∧ x2 ≤ 1) ∧ M 41 (40 * x2 + x1) ≤ 4) ∧ (0 ≤ optAt M x1 x2 x5 ∧ optAt M x1 x2 x5 < 40) ∧ (R32 (x5 + 1))) ∧ E (wC g ad sk) X k n M 5 [(0, .ref (ad 6)), (1, .ref (ad (44 + 6 * (Int.toNat x1)))), (2, vI x2), (3, vL (lorL x3 (lshlL 1 (M 35 (optAt M x1 x2 x5))))), (5, vI (x5 + 1))] []))) : E (wC g ad sk) X k n M 5 [(0, .ref (ad 6)), (1, .ref (ad (44 + 6 * (Int.toNat x1)))), (2, vI x2), (3, vL x3), (5, vI x5)] [] := by
  refine e_wf (fun hw0 => ?_)
  refine e_iload C 4 dX1_negated_5 rfl ?_
  refine e_aload_n C 1 dX1_negated_7 rfl ?_
  refine gX_1_70 C r1 dX1_negated_8 ?_
  refine e_iload_n C 2 dX1_negated_11 rfl ?_
  obtain ⟨o1, H⟩ := H
  refine aG_2 C r1 o1 dX1_negated_12 ?_
  refine e_icmp_ge C 40 r5 (hw0.2.1 41 _ rfl) dX1_negated_13 (by decide) (fun c9 => ?_) (fun c9 => ?_)
  · replace H := H.1 c9
    refine e_lload_n C 3 dX1_negated_40 rfl ?_
    exact e_lret C Y hk hn dX1_negated_41 H
  · replace H := H.2 c9
    refine e_lload_n C 3 dX1_negated_16 rfl ?_
    refine e_aload_n C 0 dX1_negated_17 rfl ?_
    refine gX_1_22 C dX1_negated_18 ?_
    refine e_aload_n C 1 dX1_negated_21 rfl ?_
    refine e_iload_n C 2 dX1_negated_22 rfl ?_
    refine e_iload C 4 dX1_negated_23 rfl ?_
    obtain ⟨⟨o2, o3, o4⟩, H⟩ := H
    refine e_callVD (As := [vI x2, vI x5]) (rest := [.ref (ad 41), vL x3]) (ci := 2) C Y mi_X2_optionAt ms_X2_optionAt mv_X2_optionAt ml_X1_73 (s_X2_optionAt r1 r2 r5 o2) (heG r1) rfl (by decide) (Nat.le_of_ble_eq_true rfl) hk hn dX1_negated_25 rfl ?_
    refine aX_41 C o3 dX1_negated_28 ?_
    refine e_callSN (As := [vI (M 35 (optAt M x1 x2 x5))]) (rest := [vL x3]) C Y mi_X9_bit ms_X9_bit (host := "HotGames") (by decide +kernel) (s_X9_bit (hw0.2.1 35 _ rfl)) (by decide) (Nat.le_of_ble_eq_true rfl) hk hn dX1_negated_29 rfl ?_
    refine e_lor C dX1_negated_32 ?_
    refine e_lstore_n C dX1_negated_33 (by decide) rfl ?_
    refine e_iinc C 4 dX1_negated_34 rfl (by decide) rfl ?_
    refine e_goto C 5 dX1_negated_37 (by decide) ?_
    exact e_sub [2, 3, 4, 1, 0] rfl H
set_option maxRecDepth 4000 in
theorem B_X1_giveTo_0 {g : Gs} {ad : Nat → Nat} {sk : (Nat → Nat) × (Nat → Nat)} {X : Cx} {mc ms k n : Nat} {PQ : Option Value → Mem → Prop} {PX : String → Mem → Prop} {M : Mem} {x1 x2 : Int} (r1 : R32 x1) (r2 : R32 x2) (hk : k ≤ mc) (hn : n ≤ ms) (C : OkB (wC g ad sk) X cX1_giveTo RX1 3 2 mc ms) (Y : OkR (wC g ad sk) X none mc ms PQ PX) (H : (((x1 < 0) → E (wC g ad sk) X k n M 29 [(0, .ref (ad 6)), (1, vI x1), (2, vI x2)] []) ∧ ((0 ≤ x1) → (0 ≤ x1 ∧ x1 < 80) ∧ ((((M 34 x1) = 0) → E (wC g ad sk) X k n M 29 [(0, .ref (ad 6)), (1, vI x1), (2, vI x2)] []) ∧ (((M 34 x1) ≠ 0) → PQ none (up M 33 x1 (lorL (M 33 x1) (lshlL 1 x2)))))))) : E (wC g ad sk) X k n M 0 [(0, .ref (ad 6)), (1, vI x1), (2, vI x2)] [] := by
  refine e_wf (fun hw0 => ?_)
  refine e_iload_n C 1 dX1_giveTo_0 rfl ?_
  refine e_if_lt C 29 r1 dX1_giveTo_1 (by decide) (fun c9 => ?_) (fun c9 => ?_)
  · replace H := H.1 c9
    exact e_sub [0, 1, 2] rfl H
  · replace H := H.2 c9
    refine e_aload_n C 0 dX1_giveTo_4 rfl ?_
    refine gX_1_18 C dX1_giveTo_5 ?_
    refine e_iload_n C 1 dX1_giveTo_8 rfl ?_
    obtain ⟨o1, H⟩ := H
    refine aX_40 C o1 dX1_giveTo_9 ?_
    refine e_if_eq C 29 (hw0.2.1 34 _ rfl) dX1_giveTo_10 (by decide) (fun c9 => ?_) (fun c9 => ?_)
    · replace H := H.1 c9
      exact e_sub [0, 1, 2] rfl H
    · replace H := H.2 c9
      refine e_aload_n C 0 dX1_giveTo_13 rfl ?_
      refine gX_1_15 C dX1_giveTo_14 ?_
      refine e_iload_n C 1 dX1_giveTo_17 rfl ?_
      refine e_dup2 C rfl rfl dX1_giveTo_18 ?_
      refine aX_39 C o1 dX1_giveTo_19 ?_
      refine e_iload_n C 2 dX1_giveTo_20 rfl ?_
      refine e_callSN (As := [vI x2]) (rest := [vL (M 33 x1), vI x1, .ref (ad 39)]) C Y mi_X9_bit ms_X9_bit (host := "HotGames") (by decide +kernel) (s_X9_bit r2) (by decide) (Nat.le_of_ble_eq_true rfl) hk hn dX1_giveTo_21 rfl ?_
      refine e_lor C dX1_giveTo_24 ?_
      refine sX_39 C o1 (r64_toInt _) dX1_giveTo_25 ?_
      refine e_wf (fun hw2 => ?_)
      refine e_goto C 46 dX1_giveTo_26 (by decide) ?_
      exact e_vret C Y hk hn dX1_giveTo_46 H
set_option maxRecDepth 4000 in
theorem B_X1_giveTo_29 {g : Gs} {ad : Nat → Nat} {sk : (Nat → Nat) × (Nat → Nat)} {X : Cx} {mc ms k n : Nat} {PQ : Option Value → Mem → Prop} {PX : String → Mem → Prop} {M : Mem} {x1 x2 : Int} (r1 : R32 x1) (r2 : R32 x2) (hk : k ≤ mc) (hn : n ≤ ms) (C : OkB (wC g ad sk) X cX1_giveTo RX1 3 2 mc ms) (Y : OkR (wC g ad sk) X none mc ms PQ PX) (H : (((x1 < 0) → PQ none M) ∧ ((0 ≤ x1) → (0 ≤ x1 ∧ x1 < 80) ∧ PQ none (up M 32 x1 (lorL (M 32 x1) (lshlL 1 x2)))))) : E (wC g ad sk) X k n M 29 [(0, .ref (ad 6)), (1, vI x1), (2, vI x2)] [] := by
  refine e_wf (fun hw0 => ?_)
  refine e_iload_n C 1 dX1_giveTo_29 rfl ?_
  refine e_if_lt C 46 r1 dX1_giveTo_30 (by decide) (fun c9 => ?_) (fun c9 => ?_)
  · replace H := H.1 c9
    exact e_vret C Y hk hn dX1_giveTo_46 H
  · replace H := H.2 c9
    refine e_aload_n C 0 dX1_giveTo_33 rfl ?_
    refine gX_1_9 C dX1_giveTo_34 ?_
    refine e_iload_n C 1 dX1_giveTo_37 rfl ?_
    refine e_dup2 C rfl rfl dX1_giveTo_38 ?_
    obtain ⟨o1, H⟩ := H
    refine aX_38 C o1 dX1_giveTo_39 ?_
    refine e_iload_n C 2 dX1_giveTo_40 rfl ?_
    refine e_callSN (As := [vI x2]) (rest := [vL (M 32 x1), vI x1, .ref (ad 38)]) C Y mi_X9_bit ms_X9_bit (host := "HotGames") (by decide +kernel) (s_X9_bit r2) (by decide) (Nat.le_of_ble_eq_true rfl) hk hn dX1_giveTo_41 rfl ?_
    refine e_lor C dX1_giveTo_44 ?_
    refine sX_38 C o1 (r64_toInt _) dX1_giveTo_45 ?_
    refine e_wf (fun hw2 => ?_)
    exact e_vret C Y hk hn dX1_giveTo_46 H
set_option maxRecDepth 4000 in
theorem B_X2_takeOptions_0 {g : Gs} {ad : Nat → Nat} {sk : (Nat → Nat) × (Nat → Nat)} {X : Cx} {mc ms k n : Nat} {PQ : Option Value → Mem → Prop} {PX : String → Mem → Prop} {M : Mem} {x0 x1 x2 : Int} (r0 : 0 ≤ x0 ∧ x0 < 40) (r1 : R32 x1) (r2 : R64 x2) (hk : k ≤ mc) (hn : n ≤ ms) (C : OkB (wC g ad sk) X cX2_takeOptions RX2 6 2 mc ms) (Y : OkR (wC g ad sk) X none mc ms PQ PX) (H : (0 ≤ x1 ∧ x1 < 2) ∧ E (wC g ad sk) X k n (up M 40 (40 * x1 + x0) x2) 13 [(0, .ref (ad (44 + 6 * (Int.toNat x0)))), (1, vI x1), (2, vL x2), (4, vI 0), (5, vI 0)] []) : E (wC g ad sk) X k n M 0 [(0, .ref (ad (44 + 6 * (Int.toNat x0)))), (1, vI x1), (2, vL x2)] [] := by
  refine e_wf (fun hw0 => ?_)
  refine e_aload_n C 0 dX2_takeOptions_0 rfl ?_
  refine gX_2_9 C r0 dX2_takeOptions_1 ?_
  refine e_iload_n C 1 dX2_takeOptions_4 rfl ?_
  refine e_lload_n C 2 dX2_takeOptions_5 rfl ?_
  obtain ⟨o1, H⟩ := H
  refine sG_1 C r0 o1 r2 dX2_takeOptions_6 ?_
  refine e_wf (fun hw2 => ?_)
  refine e_iconst C dX2_takeOptions_7 ?_
  refine e_istore C dX2_takeOptions_8 (by decide) rfl ?_
  refine e_iconst C dX2_takeOptions_10 ?_
  refine e_istore C dX2_takeOptions_11 (by decide) rfl ?_
  exact e_sub [2, 3, 4, 1, 0] rfl H
set_option maxRecDepth 4000 in
theorem B_X2_takeOptions_13 {g : Gs} {ad : Nat → Nat} {sk : (Nat → Nat) × (Nat → Nat)} {X : Cx} {mc ms k n : Nat} {PQ : Option Value → Mem → Prop} {PX : String → Mem → Prop} {M : Mem} {x0 x1 x2 x4 x5 : Int} (r0 : 0 ≤ x0 ∧ x0 < 40) (r1 : R32 x1) (r2 : R64 x2) (r4 : R32 x4) (r5 : R32 x5) (hk : k ≤ mc) (hn : n ≤ ms) (C : OkB (wC g ad sk) X cX2_takeOptions RX2 6 2 mc ms) (Y : OkR (wC g ad sk) X none mc ms PQ PX) (H : (((40 ≤ x5) → (0 ≤ x1 ∧ x1 < 2) ∧ PQ none (up M 41 (40 * x1 + x0) x4)) ∧ ((x5 < 40) → (((4 ≤ x4) → (0 ≤ x1 ∧ x1 < 2) ∧ PQ none (up M 41 (40 * x1 + x0) x4)) ∧ ((x4 < 4) → (((¬(hasB x2 x5)) → (R32 (x5 + 1)) ∧ E (wC g ad sk) X k n M 13 [(0, .ref (ad (44 + 6 * (Int.toNat x0)))), (1, vI x1), (2, vL x2), (4, vI x4), (5, vI (x5 + 1))] []) ∧ ((hasB x2 x5) → ((R32 (x1 * 4)) ∧ (R32 ((x1 * 4) + x4)) ∧ (0 ≤ (x1 * 4) + x4 ∧ (x1 * 4) + x4 < 8) ∧ (R32 (x4 + 1)) ∧ (R32 (x5 + 1))) ∧ E (wC g ad sk) X k n (up M 42 (40 * ((x1 * 4) + x4) + x0) x5) 13 [(0, .ref (ad (44 + 6 * (Int.toNat x0)))), (1, vI x1), (2, vL x2), (4, vI (x4 + 1)), (5, vI (x5 + 1))] []))))))) : E (wC g ad sk) X k n M 13 [(0, .ref (ad (44 + 6 * (Int.toNat x0)))), (1, vI x1), (2, vL x2), (4, vI x4), (5, vI x5)] [] := by
  refine e_wf (fun hw0 => ?_)
  refine e_iload C 4 dX2_takeOptions_13 rfl ?_
  refine e_bipush C dX2_takeOptions_15 (by decide) ?_
  refine e_icmp_ge C 57 r5 (by decide) dX2_takeOptions_17 (by decide) (fun c9 => ?_) (fun c9 => ?_)
  · replace H := H.1 c9
    refine e_aload_n C 0 dX2_takeOptions_57 rfl ?_
    refine gX_2_15 C r0 dX2_takeOptions_58 ?_
    refine e_iload_n C 1 dX2_takeOptions_61 rfl ?_
    refine e_iload C 3 dX2_takeOptions_62 rfl ?_
    obtain ⟨o1, H⟩ := H
    refine sG_2 C r0 o1 r4 dX2_takeOptions_64 ?_
    refine e_wf (fun hw2 => ?_)
    exact e_vret C Y hk hn dX2_takeOptions_65 H
  · replace H := H.2 c9
    refine e_iload C 3 dX2_takeOptions_20 rfl ?_
    refine e_iconst C dX2_takeOptions_22 ?_
    refine e_icmp_ge C 57 r4 (by decide) dX2_takeOptions_23 (by decide) (fun c9 => ?_) (fun c9 => ?_)
    · replace H := H.1 c9
      refine e_aload_n C 0 dX2_takeOptions_57 rfl ?_
      refine gX_2_15 C r0 dX2_takeOptions_58 ?_
      refine e_iload_n C 1 dX2_takeOptions_61 rfl ?_
      refine e_iload C 3 dX2_takeOptions_62 rfl ?_
      obtain ⟨o3, H⟩ := H
      refine sG_2 C r0 o3 r4 dX2_takeOptions_64 ?_
      refine e_wf (fun hw4 => ?_)
      exact e_vret C Y hk hn dX2_takeOptions_65 H
    · replace H := H.2 c9
      refine e_lload_n C 2 dX2_takeOptions_26 rfl ?_
      refine e_iload C 4 dX2_takeOptions_27 rfl ?_
      refine e_callSN (As := [vL x2, vI x5]) (rest := []) C Y mi_X9_contains ms_X9_contains (host := "HotGames") (by decide +kernel) (s_X9_contains r2 r5) (by decide) (Nat.le_of_ble_eq_true rfl) hk hn dX2_takeOptions_29 rfl ?_
      refine e_if_eq C 51 (b2i_r _) dX2_takeOptions_32 (by decide) (fun c9 => ?_) (fun c9 => ?_)
      · replace H := H.1 (b2i_0.mp c9)
        obtain ⟨o5, H⟩ := H
        refine e_iinc C 4 dX2_takeOptions_51 rfl (by decide) rfl ?_
        refine e_goto C 13 dX2_takeOptions_54 (by decide) ?_
        exact e_sub [1, 2, 3, 4, 0] rfl H
      · replace H := H.2 (b2i_n0.mp c9)
        refine e_aload_n C 0 dX2_takeOptions_35 rfl ?_
        refine gX_2_19 C r0 dX2_takeOptions_36 ?_
        refine e_iload_n C 1 dX2_takeOptions_39 rfl ?_
        refine e_iconst C dX2_takeOptions_40 ?_
        obtain ⟨⟨o6, o7, o8, o10, o11⟩, H⟩ := H
        refine e_imul C dX2_takeOptions_41 ?_
        refine e_iload C 3 dX2_takeOptions_42 rfl ?_
        refine e_iadd C dX2_takeOptions_44 ?_
        refine e_iload C 4 dX2_takeOptions_45 rfl ?_
        refine sG_3 C r0 o8 r5 dX2_takeOptions_47 ?_
        refine e_wf (fun hw9 => ?_)
        refine e_iinc C 3 dX2_takeOptions_48 rfl (by decide) rfl ?_
        refine e_iinc C 4 dX2_takeOptions_51 rfl (by decide) rfl ?_
        refine e_goto C 13 dX2_takeOptions_54 (by decide) ?_
        exact e_sub [2, 3, 4, 1, 0] rfl H
set_option maxRecDepth 4000 in
theorem B_X2_lengthOfNumber_0 {g : Gs} {ad : Nat → Nat} {sk : (Nat → Nat) × (Nat → Nat)} {X : Cx} {mc ms k n : Nat} {PQ : Option Value → Mem → Prop} {PX : String → Mem → Prop} {M : Mem} {x0 : Int} (r0 : R32 x0) (hk : k ≤ mc) (hn : n ≤ ms) (C : OkB (wC g ad sk) X cX2_lengthOfNumber RX2 4 2 mc ms) (Y : OkR (wC g ad sk) X (some .int) mc ms PQ PX) (H : (((0 ≤ x0) → E (wC g ad sk) X k n M 9 [(0, vI x0)] [vI 0]) ∧ ((x0 < 0) → E (wC g ad sk) X k n M 9 [(0, vI x0)] [vI 1]))) : E (wC g ad sk) X k n M 0 [(0, vI x0)] [] := by
  refine e_wf (fun hw0 => ?_)
  refine e_iload_n C 0 dX2_lengthOfNumber_0 rfl ?_
  refine e_if_ge C 8 r0 dX2_lengthOfNumber_1 (by decide) (fun c9 => ?_) (fun c9 => ?_)
  · replace H := H.1 c9
    refine e_iconst C dX2_lengthOfNumber_8 ?_
    exact e_sub [0] rfl H
  · replace H := H.2 c9
    refine e_iconst C dX2_lengthOfNumber_4 ?_
    refine e_goto C 9 dX2_lengthOfNumber_5 (by decide) ?_
    exact e_sub [0] rfl H
set_option maxRecDepth 4000 in
theorem B_X2_lengthOfNumber_9 {g : Gs} {ad : Nat → Nat} {sk : (Nat → Nat) × (Nat → Nat)} {X : Cx} {mc ms k n : Nat} {PQ : Option Value → Mem → Prop} {PX : String → Mem → Prop} {M : Mem} {x0 t0 : Int} (r0 : R32 x0) (q0 : R32 t0) (hk : k ≤ mc) (hn : n ≤ ms) (C : OkB (wC g ad sk) X cX2_lengthOfNumber RX2 4 2 mc ms) (Y : OkR (wC g ad sk) X (some .int) mc ms PQ PX) (H : (((0 ≤ x0) → E (wC g ad sk) X k n M 25 [(1, vI t0), (2, vI (halvI x0))] [vI x0]) ∧ ((x0 < 0) → (R32 (-x0)) ∧ E (wC g ad sk) X k n M 25 [(1, vI t0), (2, vI (halvI x0))] [vI (-x0)]))) : E (wC g ad sk) X k n M 9 [(0, vI x0)] [vI t0] := by
  refine e_wf (fun hw0 => ?_)
  refine e_istore_n C dX2_lengthOfNumber_9 (by decide) rfl ?_
  refine e_iload_n C 1 dX2_lengthOfNumber_10 rfl ?_
  refine e_callSN (As := [vI x0]) (rest := []) C Y mi_X9_halvings ms_X9_halvings (host := "HotGames") (by decide +kernel) (s_X9_halvings r0) (by decide) (Nat.le_of_ble_eq_true rfl) hk hn dX2_lengthOfNumber_11 rfl ?_
  refine e_istore_n C dX2_lengthOfNumber_14 (by decide) rfl ?_
  refine e_iload_n C 2 dX2_lengthOfNumber_15 rfl ?_
  refine e_if_ge C 24 r0 dX2_lengthOfNumber_16 (by decide) (fun c9 => ?_) (fun c9 => ?_)
  · replace H := H.1 c9
    refine e_iload_n C 2 dX2_lengthOfNumber_24 rfl ?_
    exact e_sub [1, 0] rfl H
  · replace H := H.2 c9
    refine e_iload_n C 2 dX2_lengthOfNumber_19 rfl ?_
    obtain ⟨o1, H⟩ := H
    refine e_ineg C dX2_lengthOfNumber_20 ?_
    refine e_goto C 25 dX2_lengthOfNumber_21 (by decide) ?_
    exact e_sub [1, 0] rfl H
set_option maxRecDepth 4000 in
theorem B_X2_lengthOfNumber_25 {g : Gs} {ad : Nat → Nat} {sk : (Nat → Nat) × (Nat → Nat)} {X : Cx} {mc ms k n : Nat} {PQ : Option Value → Mem → Prop} {PX : String → Mem → Prop} {M : Mem} {x1 x2 t0 : Int} (r1 : R32 x1) (r2 : R32 x2) (q0 : R32 t0) (hk : k ≤ mc) (hn : n ≤ ms) (C : OkB (wC g ad sk) X cX2_lengthOfNumber RX2 4 2 mc ms) (Y : OkR (wC g ad sk) X (some .int) mc ms PQ PX) (H : (((10 ≤ (ishrI t0 x2)) → E (wC g ad sk) X k n M 40 [(2, vI x2)] [vI 2, vI x1]) ∧ (((ishrI t0 x2) < 10) → E (wC g ad sk) X k n M 40 [(2, vI x2)] [vI 1, vI x1]))) : E (wC g ad sk) X k n M 25 [(1, vI x1), (2, vI x2)] [vI t0] := by
  refine e_wf (fun hw0 => ?_)
  refine e_iload_n C 1 dX2_lengthOfNumber_25 rfl ?_
  refine e_ishr C dX2_lengthOfNumber_26 ?_
  refine e_istore_n C dX2_lengthOfNumber_27 (by decide) rfl ?_
  refine e_iload_n C 1 dX2_lengthOfNumber_28 rfl ?_
  refine e_iload_n C 0 dX2_lengthOfNumber_29 rfl ?_
  refine e_bipush C dX2_lengthOfNumber_30 (by decide) ?_
  refine e_icmp_ge C 39 (r32_toInt _) (by decide) dX2_lengthOfNumber_32 (by decide) (fun c9 => ?_) (fun c9 => ?_)
  · replace H := H.1 c9
    refine e_iconst C dX2_lengthOfNumber_39 ?_
    exact e_sub [2] rfl H
  · replace H := H.2 c9
    refine e_iconst C dX2_lengthOfNumber_35 ?_
    refine e_goto C 40 dX2_lengthOfNumber_36 (by decide) ?_
    exact e_sub [2] rfl H
set_option maxRecDepth 4000 in
theorem B_X2_lengthOfNumber_40 {g : Gs} {ad : Nat → Nat} {sk : (Nat → Nat) × (Nat → Nat)} {X : Cx} {mc ms k n : Nat} {PQ : Option Value → Mem → Prop} {PX : String → Mem → Prop} {M : Mem} {x2 t0 t1 : Int} (r2 : R32 x2) (q0 : R32 t0) (q1 : R32 t1) (hk : k ≤ mc) (hn : n ≤ ms) (C : OkB (wC g ad sk) X cX2_lengthOfNumber RX2 4 2 mc ms) (Y : OkR (wC g ad sk) X (some .int) mc ms PQ PX) (H : (R32 (t1 + t0)) ∧ (((3 ≤ x2) → (R32 ((t1 + t0) + 0)) ∧ PQ (some (vI ((t1 + t0) + 0))) M) ∧ ((x2 < 3) → (R32 ((t1 + t0) + 2)) ∧ PQ (some (vI ((t1 + t0) + 2))) M))) : E (wC g ad sk) X k n M 40 [(2, vI x2)] [vI t0, vI t1] := by
  refine e_wf (fun hw0 => ?_)
  obtain ⟨o1, H⟩ := H
  refine e_iadd C dX2_lengthOfNumber_40 ?_
  refine e_iload_n C 0 dX2_lengthOfNumber_41 rfl ?_
  refine e_iconst C dX2_lengthOfNumber_42 ?_
  refine e_icmp_ge C 50 r2 (by decide) dX2_lengthOfNumber_43 (by decide) (fun c9 => ?_) (fun c9 => ?_)
  · replace H := H.1 c9
    refine e_iconst C dX2_lengthOfNumber_50 ?_
    obtain ⟨o2, H⟩ := H
    refine e_iadd C dX2_lengthOfNumber_51 ?_
    exact e_iret C Y hk hn dX2_lengthOfNumber_52 H
  · replace H := H.2 c9
    refine e_iconst C dX2_lengthOfNumber_46 ?_
    refine e_goto C 51 dX2_lengthOfNumber_47 (by decide) ?_
    obtain ⟨o3, H⟩ := H
    refine e_iadd C dX2_lengthOfNumber_51 ?_
    exact e_iret C Y hk hn dX2_lengthOfNumber_52 H
set_option maxRecDepth 4000 in
theorem B_X4_putNumber_0 {g : Gs} {ad : Nat → Nat} {sk : (Nat → Nat) × (Nat → Nat)} {X : Cx} {mc ms k n : Nat} {PQ : Option Value → Mem → Prop} {PX : String → Mem → Prop} {M : Mem} {x1 : Int} (r1 : R32 x1) (hk : k ≤ mc) (hn : n ≤ ms) (C : OkB (wC g ad sk) X cX4_putNumber RX4 4 2 mc ms) (Y : OkR (wC g ad sk) X none mc ms PQ PX) (H : (((0 ≤ x1) → E (wC g ad sk) X k n M 10 [(0, .ref (ad 7)), (1, vI x1)] []) ∧ ((x1 < 0) → ∃ Q3 : Mem → Prop, SpV (wC g ad sk) yX4_put cX4_put 2 none 1 [.ref (ad 7), vI 45] M Q3 ∧ ∀ M2 : Mem, Q3 M2 → E (wC g ad sk) X k n M2 10 [(0, .ref (ad 7)), (1, vI x1)] []))) : E (wC g ad sk) X k n M 0 [(0, .ref (ad 7)), (1, vI x1)] [] := by
  refine e_wf (fun hw0 => ?_)
  refine e_iload_n C 1 dX4_putNumber_0 rfl ?_
  refine e_if_ge C 10 r1 dX4_putNumber_1 (by decide) (fun c9 => ?_) (fun c9 => ?_)
  · replace H := H.1 c9
    exact e_sub [0, 1] rfl H
  · replace H := H.2 c9
    refine e_aload_n C 0 dX4_putNumber_4 rfl ?_
    refine e_bipush C dX4_putNumber_5 (by decide) ?_
    obtain ⟨Q3, h1, H⟩ := H
    refine e_callVV (As := [vI 45]) (rest := []) (q0 := 7) (ci := 4) C Y mi_X4_put ms_X4_put mv_X4_put ml_X4_46 h1 (wlX_st rfl) rfl (by decide) (Nat.le_of_ble_eq_true rfl) hk hn dX4_putNumber_7 rfl (fun M2 hq9 => ?_)
    replace H := H M2 hq9
    refine e_wf (fun hw4 => ?_)
    exact e_sub [0, 1] rfl H
set_option maxRecDepth 4000 in
theorem B_X4_putNumber_10 {g : Gs} {ad : Nat → Nat} {sk : (Nat → Nat) × (Nat → Nat)} {X : Cx} {mc ms k n : Nat} {PQ : Option Value → Mem → Prop} {PX : String → Mem → Prop} {M : Mem} {x1 : Int} (r1 : R32 x1) (hk : k ≤ mc) (hn : n ≤ ms) (C : OkB (wC g ad sk) X cX4_putNumber RX4 4 2 mc ms) (Y : OkR (wC g ad sk) X none mc ms PQ PX) (H : (((0 ≤ x1) → E (wC g ad sk) X k n M 25 [(0, .ref (ad 7)), (2, vI (halvI x1))] [vI x1]) ∧ ((x1 < 0) → (R32 (-x1)) ∧ E (wC g ad sk) X k n M 25 [(0, .ref (ad 7)), (2, vI (halvI x1))] [vI (-x1)]))) : E (wC g ad sk) X k n M 10 [(0, .ref (ad 7)), (1, vI x1)] [] := by
  refine e_wf (fun hw0 => ?_)
  refine e_iload_n C 1 dX4_putNumber_10 rfl ?_
  refine e_callSN (As := [vI x1]) (rest := []) C Y mi_X9_halvings ms_X9_halvings (host := "HotGames") (by decide +kernel) (s_X9_halvings r1) (by decide) (Nat.le_of_ble_eq_true rfl) hk hn dX4_putNumber_11 rfl ?_
  refine e_istore_n C dX4_putNumber_14 (by decide) rfl ?_
  refine e_iload_n C 2 dX4_putNumber_15 rfl ?_
  refine e_if_ge C 24 r1 dX4_putNumber_16 (by decide) (fun c9 => ?_) (fun c9 => ?_)
  · replace H := H.1 c9
    refine e_iload_n C 2 dX4_putNumber_24 rfl ?_
    exact e_sub [1, 0] rfl H
  · replace H := H.2 c9
    refine e_iload_n C 2 dX4_putNumber_19 rfl ?_
    obtain ⟨o1, H⟩ := H
    refine e_ineg C dX4_putNumber_20 ?_
    refine e_goto C 25 dX4_putNumber_21 (by decide) ?_
    exact e_sub [1, 0] rfl H
set_option maxRecDepth 4000 in
theorem B_X4_putNumber_25 {g : Gs} {ad : Nat → Nat} {sk : (Nat → Nat) × (Nat → Nat)} {X : Cx} {mc ms k n : Nat} {PQ : Option Value → Mem → Prop} {PX : String → Mem → Prop} {M : Mem} {x2 t0 : Int} (r2 : R32 x2) (q0 : R32 t0) (hk : k ≤ mc) (hn : n ≤ ms) (C : OkB (wC g ad sk) X cX4_putNumber RX4 4 2 mc ms) (Y : OkR (wC g ad sk) X none mc ms PQ PX) (H : ((((ishrI t0 x2) < 10) → E (wC g ad sk) X k n M 46 [(0, .ref (ad 7)), (2, vI x2), (3, vI (ishrI t0 x2))] []) ∧ ((10 ≤ (ishrI t0 x2)) → ((R32 (48 + (Int.tdiv (ishrI t0 x2) 10))) ∧ (0 ≤ 48 + (Int.tdiv (ishrI t0 x2) 10) ∧ 48 + (Int.tdiv (ishrI t0 x2) 10) < 65536)) ∧ ∃ Q5 : Mem → Prop, SpV (wC g ad sk) yX4_put cX4_put 2 none 1 [.ref (ad 7), vI (48 + (Int.tdiv (ishrI t0 x2) 10))] M Q5 ∧ ∀ M4 : Mem, Q5 M4 → E (wC g ad sk) X k n M4 46 [(0, .ref (ad 7)), (2, vI x2), (3, vI (ishrI t0 x2))] []))) : E (wC g ad sk) X k n M 25 [(0, .ref (ad 7)), (2, vI x2)] [vI t0] := by
  refine e_wf (fun hw0 => ?_)
  refine e_iload_n C 1 dX4_putNumber_25 rfl ?_
  refine e_ishr C dX4_putNumber_26 ?_
  refine e_istore_n C dX4_putNumber_27 (by decide) rfl ?_
  refine e_iload_n C 0 dX4_putNumber_28 rfl ?_
  refine e_bipush C dX4_putNumber_29 (by decide) ?_
  refine e_icmp_lt C 46 (r32_toInt _) (by decide) dX4_putNumber_31 (by decide) (fun c9 => ?_) (fun c9 => ?_)
  · replace H := H.1 c9
    exact e_sub [1, 2, 0] rfl H
  · replace H := H.2 c9
    refine e_aload_n C 1 dX4_putNumber_34 rfl ?_
    refine e_bipush C dX4_putNumber_35 (by decide) ?_
    refine e_iload_n C 0 dX4_putNumber_37 rfl ?_
    refine e_bipush C dX4_putNumber_38 (by decide) ?_
    refine e_idiv C (r32_toInt _) (by decide) (by decide) (by decide) dX4_putNumber_40 ?_
    obtain ⟨⟨o1, o2⟩, H⟩ := H
    refine e_iadd C dX4_putNumber_41 ?_
    refine e_i2c C o2 dX4_putNumber_42 ?_
    obtain ⟨Q5, h3, H⟩ := H
    refine e_callVV (As := [vI (48 + (Int.tdiv (ishrI t0 x2) 10))]) (rest := []) (q0 := 7) (ci := 4) C Y mi_X4_put ms_X4_put mv_X4_put ml_X4_46 h3 (wlX_st rfl) rfl (by decide) (Nat.le_of_ble_eq_true rfl) hk hn dX4_putNumber_43 rfl (fun M4 hq9 => ?_)
    replace H := H M4 hq9
    refine e_wf (fun hw6 => ?_)
    exact e_sub [1, 2, 0] rfl H
set_option maxRecDepth 4000 in
theorem B_X4_putNumber_46 {g : Gs} {ad : Nat → Nat} {sk : (Nat → Nat) × (Nat → Nat)} {X : Cx} {mc ms k n : Nat} {PQ : Option Value → Mem → Prop} {PX : String → Mem → Prop} {M : Mem} {x2 x3 : Int} (r2 : R32 x2) (r3 : R32 x3) (hk : k ≤ mc) (hn : n ≤ ms) (C : OkB (wC g ad sk) X cX4_putNumber RX4 4 2 mc ms) (Y : OkR (wC g ad sk) X none mc ms PQ PX) (H : ((R32 (48 + (Int.tmod x3 10))) ∧ (0 ≤ 48 + (Int.tmod x3 10) ∧ 48 + (Int.tmod x3 10) < 65536)) ∧ ∃ Q5 : Mem → Prop, SpV (wC g ad sk) yX4_put cX4_put 2 none 1 [.ref (ad 7), vI (48 + (Int.tmod x3 10))] M Q5 ∧ ∀ M4 : Mem, Q5 M4 → (((3 ≤ x2) → PQ none M4) ∧ ((x2 < 3) → ∃ Q9 : Mem → Prop, SpV (wC g ad sk) yX4_put cX4_put 2 none 1 [.ref (ad 7), vI 47] M4 Q9 ∧ ∀ M8 : Mem, Q9 M8 → ((R32 (48 + (ishrI 8 x2))) ∧ (0 ≤ 48 + (ishrI 8 x2) ∧ 48 + (ishrI 8 x2) < 65536)) ∧ ∃ Q15 : Mem → Prop, SpV (wC g ad sk) yX4_put cX4_put 2 none 1 [.ref (ad 7), vI (48 + (ishrI 8 x2))] M8 Q15 ∧ ∀ M14 : Mem, Q15 M14 → PQ none M14))) : E (wC g ad sk) X k n M 46 [(0, .ref (ad 7)), (2, vI x2), (3, vI x3)] [] := by
  refine e_wf (fun hw0 => ?_)
  refine e_aload_n C 0 dX4_putNumber_46 rfl ?_
  refine e_bipush C dX4_putNumber_47 (by decide) ?_
  refine e_iload_n C 2 dX4_putNumber_49 rfl ?_
  refine e_bipush C dX4_putNumber_50 (by decide) ?_
  refine e_irem C r3 (by decide) (by decide) (by decide) dX4_putNumber_52 ?_
  obtain ⟨⟨o1, o2⟩, H⟩ := H
  refine e_iadd C dX4_putNumber_53 ?_
  refine e_i2c C o2 dX4_putNumber_54 ?_
  obtain ⟨Q5, h3, H⟩ := H
  refine e_callVV (As := [vI (48 + (Int.tmod x3 10))]) (rest := []) (q0 := 7) (ci := 4) C Y mi_X4_put ms_X4_put mv_X4_put ml_X4_46 h3 (wlX_st rfl) rfl (by decide) (Nat.le_of_ble_eq_true rfl) hk hn dX4_putNumber_55 rfl (fun M4 hq9 => ?_)
  replace H := H M4 hq9
  refine e_wf (fun hw6 => ?_)
  refine e_iload_n C 1 dX4_putNumber_58 rfl ?_
  refine e_iconst C dX4_putNumber_59 ?_
  refine e_icmp_ge C 81 r2 (by decide) dX4_putNumber_60 (by decide) (fun c9 => ?_) (fun c9 => ?_)
  · replace H := H.1 c9
    exact e_vret C Y hk hn dX4_putNumber_81 H
  · replace H := H.2 c9
    refine e_aload_n C 0 dX4_putNumber_63 rfl ?_
    refine e_bipush C dX4_putNumber_64 (by decide) ?_
    obtain ⟨Q9, h7, H⟩ := H
    refine e_callVV (As := [vI 47]) (rest := []) (q0 := 7) (ci := 4) C Y mi_X4_put ms_X4_put mv_X4_put ml_X4_46 h7 (wlX_st rfl) rfl (by decide) (Nat.le_of_ble_eq_true rfl) hk hn dX4_putNumber_66 rfl (fun M8 hq9 => ?_)
    replace H := H M8 hq9
    refine e_wf (fun hw10 => ?_)
    refine e_aload_n C 0 dX4_putNumber_69 rfl ?_
    refine e_bipush C dX4_putNumber_70 (by decide) ?_
    refine e_bipush C dX4_putNumber_72 (by decide) ?_
    refine e_iload_n C 1 dX4_putNumber_74 rfl ?_
    refine e_ishr C dX4_putNumber_75 ?_
    obtain ⟨⟨o11, o12⟩, H⟩ := H
    refine e_iadd C dX4_putNumber_76 ?_
    refine e_i2c C o12 dX4_putNumber_77 ?_
    obtain ⟨Q15, h13, H⟩ := H
    refine e_callVV (As := [vI (48 + (ishrI 8 x2))]) (rest := []) (q0 := 7) (ci := 4) C Y mi_X4_put ms_X4_put mv_X4_put ml_X4_46 h13 (wlX_st rfl) rfl (by decide) (Nat.le_of_ble_eq_true rfl) hk hn dX4_putNumber_78 rfl (fun M14 hq9 => ?_)
    replace H := H M14 hq9
    refine e_wf (fun hw16 => ?_)
    exact e_vret C Y hk hn dX4_putNumber_81 H
set_option maxRecDepth 4000 in
theorem B_X5_depthAbove_0 {g : Gs} {ad : Nat → Nat} {sk : (Nat → Nat) × (Nat → Nat)} {X : Cx} {mc ms k n : Nat} {PQ : Option Value → Mem → Prop} {PX : String → Mem → Prop} {M : Mem} {x1 : Int} (r1 : R64 x1) (hk : k ≤ mc) (hn : n ≤ ms) (C : OkB (wC g ad sk) X cX5_depthAbove RX5 5 2 mc ms) (Y : OkR (wC g ad sk) X (some .int) mc ms PQ PX) (H : E (wC g ad sk) X k n M 5 [(0, .ref (ad 1)), (1, vL x1), (3, vI 0), (4, vI 0)] []) : E (wC g ad sk) X k n M 0 [(0, .ref (ad 1)), (1, vL x1)] [] := by
  refine e_wf (fun hw0 => ?_)
  refine e_iconst C dX5_depthAbove_0 ?_
  refine e_istore_n C dX5_depthAbove_1 (by decide) rfl ?_
  refine e_iconst C dX5_depthAbove_2 ?_
  refine e_istore C dX5_depthAbove_3 (by decide) rfl ?_
  exact e_sub [2, 3, 1, 0] rfl H
set_option maxRecDepth 4000 in
theorem B_X5_depthAbove_5 {g : Gs} {ad : Nat → Nat} {sk : (Nat → Nat) × (Nat → Nat)} {X : Cx} {mc ms k n : Nat} {PQ : Option Value → Mem → Prop} {PX : String → Mem → Prop} {M : Mem} {x1 x3 x4 : Int} (r1 : R64 x1) (r3 : R32 x3) (r4 : R32 x4) (hk : k ≤ mc) (hn : n ≤ ms) (C : OkB (wC g ad sk) X cX5_depthAbove RX5 5 2 mc ms) (Y : OkR (wC g ad sk) X (some .int) mc ms PQ PX) (H : ((((M 4 0) ≤ x4) → (R32 (x3 + 1)) ∧ PQ (some (vI (x3 + 1))) M) ∧ ((x4 < (M 4 0)) → (((¬(hasB x1 x4)) → (R32 (x4 + 1)) ∧ E (wC g ad sk) X k n M 5 [(0, .ref (ad 1)), (1, vL x1), (3, vI x3), (4, vI (x4 + 1))] []) ∧ ((hasB x1 x4) → ((0 ≤ x4 ∧ x4 < 40) ∧ (R32 (x4 + 1))) ∧ E (wC g ad sk) X k n M 5 [(0, .ref (ad 1)), (1, vL x1), (3, vI (max x3 (M 47 x4))), (4, vI (x4 + 1))] []))))) : E (wC g ad sk) X k n M 5 [(0, .ref (ad 1)), (1, vL x1), (3, vI x3), (4, vI x4)] [] := by
  refine e_wf (fun hw0 => ?_)
  refine e_iload C 3 dX5_depthAbove_5 rfl ?_
  refine e_aload_n C 0 dX5_depthAbove_7 rfl ?_
  refine gX_5_17 C dX5_depthAbove_8 ?_
  refine e_icmp_ge C 44 r4 (hw0.2.1 4 _ rfl) dX5_depthAbove_11 (by decide) (fun c9 => ?_) (fun c9 => ?_)
  · replace H := H.1 c9
    refine e_iload_n C 2 dX5_depthAbove_44 rfl ?_
    refine e_iconst C dX5_depthAbove_45 ?_
    obtain ⟨o1, H⟩ := H
    refine e_iadd C dX5_depthAbove_46 ?_
    exact e_iret C Y hk hn dX5_depthAbove_47 H
  · replace H := H.2 c9
    refine e_lload_n C 1 dX5_depthAbove_14 rfl ?_
    refine e_iload C 3 dX5_depthAbove_15 rfl ?_
    refine e_callSN (As := [vL x1, vI x4]) (rest := []) C Y mi_X9_contains ms_X9_contains (host := "HotGames") (by decide +kernel) (s_X9_contains r1 r4) (by decide) (Nat.le_of_ble_eq_true rfl) hk hn dX5_depthAbove_17 rfl ?_
    refine e_if_eq C 38 (b2i_r _) dX5_depthAbove_20 (by decide) (fun c9 => ?_) (fun c9 => ?_)
    · replace H := H.1 (b2i_0.mp c9)
      obtain ⟨o2, H⟩ := H
      refine e_iinc C 3 dX5_depthAbove_38 rfl (by decide) rfl ?_
      refine e_goto C 5 dX5_depthAbove_41 (by decide) ?_
      exact e_sub [1, 2, 3, 0] rfl H
    · replace H := H.2 (b2i_n0.mp c9)
      refine e_iload_n C 2 dX5_depthAbove_23 rfl ?_
      refine e_aload_n C 0 dX5_depthAbove_24 rfl ?_
      refine gX_5_11 C dX5_depthAbove_25 ?_
      refine e_iload C 3 dX5_depthAbove_28 rfl ?_
      obtain ⟨⟨o3, o4⟩, H⟩ := H
      refine e_aaldG C o3 dX5_depthAbove_30 ?_
      refine gX_5_77 C o3 dX5_depthAbove_31 ?_
      refine e_max C r3 (hw0.2.1 47 _ rfl) (tg2 144 rfl rfl) (by decide) (Nat.le_of_ble_eq_true rfl) hk hn dX5_depthAbove_34 ?_
      refine e_istore_n C dX5_depthAbove_37 (by decide) rfl ?_
      refine e_iinc C 3 dX5_depthAbove_38 rfl (by decide) rfl ?_
      refine e_goto C 5 dX5_depthAbove_41 (by decide) ?_
      exact e_sub [2, 3, 1, 0] rfl H
set_option maxRecDepth 4000 in
theorem B_X5_gather_0 {g : Gs} {ad : Nat → Nat} {sk : (Nat → Nat) × (Nat → Nat)} {X : Cx} {mc ms k n : Nat} {PQ : Option Value → Mem → Prop} {PX : String → Mem → Prop} {M : Mem} {x1 : Int} (r1 : 0 ≤ x1 ∧ x1 < 40) (hk : k ≤ mc) (hn : n ≤ ms) (C : OkB (wC g ad sk) X cX5_gather RX5 6 2 mc ms) (Y : OkR (wC g ad sk) X none mc ms PQ PX) (H : ((R32 ((M 41 (40 * 0 + x1)) - 1)) ∧ (R32 ((M 41 (40 * 1 + x1)) - 1)) ∧ (R32 ((max (0 : Int) ((M 41 (40 * 0 + x1)) - 1)) + (max (0 : Int) ((M 41 (40 * 1 + x1)) - 1)))) ∧ (R32 (3 + ((max (0 : Int) ((M 41 (40 * 0 + x1)) - 1)) + (max (0 : Int) ((M 41 (40 * 1 + x1)) - 1)))))) ∧ E (wC g ad sk) X k n (up (up M 48 x1 (3 + ((max (0 : Int) ((M 41 (40 * 0 + x1)) - 1)) + (max (0 : Int) ((M 41 (40 * 1 + x1)) - 1))))) 52 x1 (lshlL 1 (M 4 0))) 46 [(0, .ref (ad 1)), (1, .ref (ad (44 + 6 * (Int.toNat x1)))), (3, vI 0)] []) : E (wC g ad sk) X k n M 0 [(0, .ref (ad 1)), (1, .ref (ad (44 + 6 * (Int.toNat x1))))] [] := by
  refine e_wf (fun hw0 => ?_)
  refine e_iconst C dX5_gather_0 ?_
  refine e_aload_n C 1 dX5_gather_1 rfl ?_
  refine gX_5_116 C r1 dX5_gather_2 ?_
  refine e_iconst C dX5_gather_5 ?_
  refine aG_2 C r1 (by decide) dX5_gather_6 ?_
  refine e_iconst C dX5_gather_7 ?_
  obtain ⟨⟨o1, o2, o3, o4⟩, H⟩ := H
  refine e_isub C dX5_gather_8 ?_
  refine e_max C (by decide) o1 (tg2 144 rfl rfl) (by decide) (Nat.le_of_ble_eq_true rfl) hk hn dX5_gather_9 ?_
  refine e_iconst C dX5_gather_12 ?_
  refine e_aload_n C 1 dX5_gather_13 rfl ?_
  refine gX_5_116 C r1 dX5_gather_14 ?_
  refine e_iconst C dX5_gather_17 ?_
  refine aG_2 C r1 (by decide) dX5_gather_18 ?_
  refine e_iconst C dX5_gather_19 ?_
  refine e_isub C dX5_gather_20 ?_
  refine e_max C (by decide) o2 (tg2 144 rfl rfl) (by decide) (Nat.le_of_ble_eq_true rfl) hk hn dX5_gather_21 ?_
  refine e_iadd C dX5_gather_24 ?_
  refine e_istore_n C dX5_gather_25 (by decide) rfl ?_
  refine e_aload_n C 2 dX5_gather_26 rfl ?_
  refine e_iconst C dX5_gather_27 ?_
  refine e_iload_n C 0 dX5_gather_28 rfl ?_
  refine e_iadd C dX5_gather_29 ?_
  refine pX_5_119 C r1 o4 dX5_gather_30 ?_
  refine e_wf (fun hw5 => ?_)
  refine e_aload_n C 2 dX5_gather_33 rfl ?_
  refine e_aload_n C 1 dX5_gather_34 rfl ?_
  refine gX_5_17 C dX5_gather_35 ?_
  refine e_callSN (As := [vI (M 4 0)]) (rest := [.ref (ad (44 + 6 * (Int.toNat x1)))]) C Y mi_X9_bit ms_X9_bit (host := "HotGames") (by decide +kernel) (s_X9_bit (hw0.2.1 4 _ rfl)) (by decide) (Nat.le_of_ble_eq_true rfl) hk hn dX5_gather_38 rfl ?_
  refine pX_5_54 C r1 (r64_toInt _) dX5_gather_41 ?_
  refine e_wf (fun hw6 => ?_)
  refine e_iconst C dX5_gather_44 ?_
  refine e_istore_n C dX5_gather_45 (by decide) rfl ?_
  exact e_sub [2, 3, 0] rfl H
set_option maxRecDepth 4000 in
theorem B_X5_gather_46 {g : Gs} {ad : Nat → Nat} {sk : (Nat → Nat) × (Nat → Nat)} {X : Cx} {mc ms k n : Nat} {PQ : Option Value → Mem → Prop} {PX : String → Mem → Prop} {M : Mem} {x1 x3 : Int} (r1 : 0 ≤ x1 ∧ x1 < 40) (r3 : R32 x3) (hk : k ≤ mc) (hn : n ≤ ms) (C : OkB (wC g ad sk) X cX5_gather RX5 6 2 mc ms) (Y : OkR (wC g ad sk) X none mc ms PQ PX) (H : (((1 < x3) → PQ none M) ∧ ((x3 ≤ 1) → E (wC g ad sk) X k n M 54 [(0, .ref (ad 1)), (1, .ref (ad (44 + 6 * (Int.toNat x1)))), (3, vI x3), (4, vI 0)] []))) : E (wC g ad sk) X k n M 46 [(0, .ref (ad 1)), (1, .ref (ad (44 + 6 * (Int.toNat x1)))), (3, vI x3)] [] := by
  refine e_wf (fun hw0 => ?_)
  refine e_iload_n C 2 dX5_gather_46 rfl ?_
  refine e_iconst C dX5_gather_47 ?_
  refine e_icmp_gt C 119 r3 (by decide) dX5_gather_48 (by decide) (fun c9 => ?_) (fun c9 => ?_)
  · replace H := H.1 c9
    exact e_vret C Y hk hn dX5_gather_119 H
  · replace H := H.2 c9
    refine e_iconst C dX5_gather_51 ?_
    refine e_istore C dX5_gather_52 (by decide) rfl ?_
    exact e_sub [1, 2, 3, 0] rfl H
set_option maxRecDepth 4000 in
theorem B_X5_gather_54 {g : Gs} {ad : Nat → Nat} {sk : (Nat → Nat) × (Nat → Nat)} {X : Cx} {mc ms k n : Nat} {PQ : Option Value → Mem → Prop} {PX : String → Mem → Prop} {M : Mem} {x1 x3 x4 : Int} (r1 : 0 ≤ x1 ∧ x1 < 40) (r3 : R32 x3) (r4 : R32 x4) (hk : k ≤ mc) (hn : n ≤ ms) (C : OkB (wC g ad sk) X cX5_gather RX5 6 2 mc ms) (Y : OkR (wC g ad sk) X none mc ms PQ PX) (H : (0 ≤ x3 ∧ x3 < 2) ∧ ((((M 41 (40 * x3 + x1)) ≤ x4) → (R32 (x3 + 1)) ∧ E (wC g ad sk) X k n M 46 [(0, .ref (ad 1)), (1, .ref (ad (44 + 6 * (Int.toNat x1)))), (3, vI (x3 + 1))] []) ∧ ((x4 < (M 41 (40 * x3 + x1))) → (((0 ≤ x3 ∧ x3 ≤ 1) ∧ M 41 (40 * x3 + x1) ≤ 4) ∧ (0 ≤ optAt M x1 x3 x4 ∧ optAt M x1 x3 x4 < 40) ∧ (R32 ((M 48 x1) + (M 48 (optAt M x1 x3 x4)))) ∧ (R32 (x4 + 1))) ∧ E (wC g ad sk) X k n (up (up M 48 x1 ((M 48 x1) + (M 48 (optAt M x1 x3 x4)))) 52 x1 (lorL (M 52 x1) (M 52 (optAt M x1 x3 x4)))) 54 [(0, .ref (ad 1)), (1, .ref (ad (44 + 6 * (Int.toNat x1)))), (3, vI x3), (4, vI (x4 + 1))] []))) : E (wC g ad sk) X k n M 54 [(0, .ref (ad 1)), (1, .ref (ad (44 + 6 * (Int.toNat x1)))), (3, vI x3), (4, vI x4)] [] := by
  refine e_wf (fun hw0 => ?_)
  refine e_iload C 3 dX5_gather_54 rfl ?_
  refine e_aload_n C 1 dX5_gather_56 rfl ?_
  refine gX_5_116 C r1 dX5_gather_57 ?_
  refine e_iload_n C 2 dX5_gather_60 rfl ?_
  obtain ⟨o1, H⟩ := H
  refine aG_2 C r1 o1 dX5_gather_61 ?_
  refine e_icmp_ge C 113 r4 (hw0.2.1 41 _ rfl) dX5_gather_62 (by decide) (fun c9 => ?_) (fun c9 => ?_)
  · replace H := H.1 c9
    obtain ⟨o2, H⟩ := H
    refine e_iinc C 2 dX5_gather_113 rfl (by decide) rfl ?_
    refine e_goto C 46 dX5_gather_116 (by decide) ?_
    exact e_sub [1, 2, 0] rfl H
  · replace H := H.2 c9
    refine e_aload_n C 0 dX5_gather_65 rfl ?_
    refine gX_5_11 C dX5_gather_66 ?_
    refine e_aload_n C 1 dX5_gather_69 rfl ?_
    refine e_iload_n C 2 dX5_gather_70 rfl ?_
    refine e_iload C 3 dX5_gather_71 rfl ?_
    obtain ⟨⟨o3, o4, o5, o8⟩, H⟩ := H
    refine e_callVD (As := [vI x3, vI x4]) (rest := [.ref (ad 12)]) (ci := 2) C Y mi_X2_optionAt ms_X2_optionAt mv_X2_optionAt ml_X5_122 (s_X2_optionAt r1 r3 r4 o3) (heG r1) rfl (by decide) (Nat.le_of_ble_eq_true rfl) hk hn dX5_gather_73 rfl ?_
    refine e_aaldG C o4 dX5_gather_76 ?_
    refine e_astore C dX5_gather_77 (by decide) rfl ?_
    refine e_aload_n C 2 dX5_gather_79 rfl ?_
    refine e_dup C rfl dX5_gather_80 ?_
    refine gX_5_119 C r1 dX5_gather_81 ?_
    refine e_aload C 0 dX5_gather_84 rfl ?_
    refine gX_5_119 C o4 dX5_gather_86 ?_
    refine e_iadd C dX5_gather_89 ?_
    refine pX_5_119 C r1 o5 dX5_gather_90 ?_
    refine e_wf (fun hw6 => ?_)
    refine e_aload_n C 2 dX5_gather_93 rfl ?_
    refine e_dup C rfl dX5_gather_94 ?_
    refine gX_5_54 C r1 dX5_gather_95 ?_
    refine e_aload C 0 dX5_gather_98 rfl ?_
    refine gX_5_54 C o4 dX5_gather_100 ?_
    refine e_lor C dX5_gather_103 ?_
    refine pX_5_54 C r1 (r64_toInt _) dX5_gather_104 ?_
    refine e_wf (fun hw7 => ?_)
    refine e_iinc C 4 dX5_gather_107 rfl (by decide) rfl ?_
    refine e_goto C 54 dX5_gather_110 (by decide) ?_
    exact e_sub [2, 3, 4, 0] rfl H
set_option maxRecDepth 4000 in
theorem B_X5_findEdge_0 {g : Gs} {ad : Nat → Nat} {sk : (Nat → Nat) × (Nat → Nat)} {X : Cx} {mc ms k n : Nat} {PQ : Option Value → Mem → Prop} {PX : String → Mem → Prop} {M : Mem} {x1 x2 : Int} (r1 : 0 ≤ x1 ∧ x1 < 40) (r2 : R32 x2) (hk : k ≤ mc) (hn : n ≤ ms) (C : OkB (wC g ad sk) X cX5_findEdge RX5 10 2 mc ms) (Y : OkR (wC g ad sk) X none mc ms PQ PX) (H : E (wC g ad sk) X k n M 15 [(0, .ref (ad 1)), (1, .ref (ad (44 + 6 * (Int.toNat x1)))), (2, vI x2), (3, vI (sgnS x2)), (4, vI (-16777216)), (5, vI 1), (6, vI 0)] []) : E (wC g ad sk) X k n M 0 [(0, .ref (ad 1)), (1, .ref (ad (44 + 6 * (Int.toNat x1)))), (2, vI x2)] [] := by
  refine e_wf (fun hw0 => ?_)
  refine e_iload_n C 2 dX5_findEdge_0 rfl ?_
  refine e_callSN (As := [vI x2]) (rest := []) C Y mi_X9_signOf ms_X9_signOf (host := "HotGames") (by decide +kernel) (s_X9_signOf r2) (by decide) (Nat.le_of_ble_eq_true rfl) hk hn dX5_findEdge_1 rfl ?_
  refine e_istore_n C dX5_findEdge_4 (by decide) rfl ?_
  refine e_ldc C (v := (-16777216)) (tg2 159 rfl rfl) (by decide) dX5_findEdge_5 ?_
  refine e_istore C dX5_findEdge_7 (by decide) rfl ?_
  refine e_iconst C dX5_findEdge_9 ?_
  refine e_istore C dX5_findEdge_10 (by decide) rfl ?_
  refine e_iconst C dX5_findEdge_12 ?_
  refine e_istore C dX5_findEdge_13 (by decide) rfl ?_
  exact e_sub [4, 5, 6, 3, 2, 1, 0] rfl H
set_option maxRecDepth 4000 in
theorem B_X5_findEdge_15 {g : Gs} {ad : Nat → Nat} {sk : (Nat → Nat) × (Nat → Nat)} {X : Cx} {mc ms k n : Nat} {PQ : Option Value → Mem → Prop} {PX : String → Mem → Prop} {M : Mem} {x1 x2 x3 x4 x5 x6 : Int} (r1 : 0 ≤ x1 ∧ x1 < 40) (r2 : R32 x2) (r3 : R32 x3) (r4 : R32 x4) (r5 : R32 x5) (r6 : R32 x6) (hk : k ≤ mc) (hn : n ≤ ms) (C : OkB (wC g ad sk) X cX5_findEdge RX5 10 2 mc ms) (Y : OkR (wC g ad sk) X none mc ms PQ PX) (H : (0 ≤ x2 ∧ x2 < 2) ∧ ((((M 41 (40 * x2 + x1)) ≤ x6) → ((R32 (x3 * x4)) ∧ (x5 = 0 ∨ x5 = 1)) ∧ PQ none (up (up M 8 x2 (x3 * x4)) 9 x2 x5)) ∧ ((x6 < (M 41 (40 * x2 + x1))) → (((0 ≤ x2 ∧ x2 ≤ 1) ∧ M 41 (40 * x2 + x1) ≤ 4) ∧ (0 ≤ optAt M x1 x2 x6 ∧ optAt M x1 x2 x6 < 40) ∧ (R32 (1 - x2)) ∧ (0 ≤ 1 - x2 ∧ 1 - x2 < 2) ∧ (R32 (x3 * (M 43 (40 * (1 - x2) + (optAt M x1 x2 x6)))))) ∧ ((((x3 * (M 43 (40 * (1 - x2) + (optAt M x1 x2 x6)))) ≤ x4) → ((((x3 * (M 43 (40 * (1 - x2) + (optAt M x1 x2 x6)))) ≠ x4) → (R32 (x6 + 1)) ∧ E (wC g ad sk) X k n M 15 [(0, .ref (ad 1)), (1, .ref (ad (44 + 6 * (Int.toNat x1)))), (2, vI x2), (3, vI x3), (4, vI x4), (5, vI x5), (6, vI (x6 + 1))] []) ∧ (((x3 * (M 43 (40 * (1 - x2) + (optAt M x1 x2 x6)))) = x4) → (((x5 = 0) → (R32 (x6 + 1)) ∧ E (wC g ad sk) X k n M 15 [(0, .ref (ad 1)), (1, .ref (ad (44 + 6 * (Int.toNat x1)))), (2, vI x2), (3, vI x3), (4, vI x4), (5, vI 0), (6, vI (x6 + 1))] []) ∧ ((x5 ≠ 0) → ((((M 44 (40 * (1 - x2) + (optAt M x1 x2 x6))) ≠ 0) → (R32 (x6 + 1)) ∧ E (wC g ad sk) X k n M 15 [(0, .ref (ad 1)), (1, .ref (ad (44 + 6 * (Int.toNat x1)))), (2, vI x2), (3, vI x3), (4, vI x4), (5, vI 0), (6, vI (x6 + 1))] []) ∧ (((M 44 (40 * (1 - x2) + (optAt M x1 x2 x6))) = 0) → (R32 (x6 + 1)) ∧ E (wC g ad sk) X k n M 15 [(0, .ref (ad 1)), (1, .ref (ad (44 + 6 * (Int.toNat x1)))), (2, vI x2), (3, vI x3), (4, vI x4), (5, vI 1), (6, vI (x6 + 1))] []))))))) ∧ ((x4 < (x3 * (M 43 (40 * (1 - x2) + (optAt M x1 x2 x6))))) → ((((M 44 (40 * (1 - x2) + (optAt M x1 x2 x6))) ≠ 0) → (R32 (x6 + 1)) ∧ E (wC g ad sk) X k n M 15 [(0, .ref (ad 1)), (1, .ref (ad (44 + 6 * (Int.toNat x1)))), (2, vI x2), (3, vI x3), (4, vI (x3 * (M 43 (40 * (1 - x2) + (optAt M x1 x2 x6))))), (5, vI 0), (6, vI (x6 + 1))] []) ∧ (((M 44 (40 * (1 - x2) + (optAt M x1 x2 x6))) = 0) → (R32 (x6 + 1)) ∧ E (wC g ad sk) X k n M 15 [(0, .ref (ad 1)), (1, .ref (ad (44 + 6 * (Int.toNat x1)))), (2, vI x2), (3, vI x3), (4, vI (x3 * (M 43 (40 * (1 - x2) + (optAt M x1 x2 x6))))), (5, vI 1), (6, vI (x6 + 1))] []))))))) : E (wC g ad sk) X k n M 15 [(0, .ref (ad 1)), (1, .ref (ad (44 + 6 * (Int.toNat x1)))), (2, vI x2), (3, vI x3), (4, vI x4), (5, vI x5), (6, vI x6)] [] := by
  refine e_wf (fun hw0 => ?_)
  refine e_iload C 6 dX5_findEdge_15 rfl ?_
  refine e_aload_n C 1 dX5_findEdge_17 rfl ?_
  refine gX_5_116 C r1 dX5_findEdge_18 ?_
  refine e_iload_n C 2 dX5_findEdge_21 rfl ?_
  obtain ⟨o1, H⟩ := H
  refine aG_2 C r1 o1 dX5_findEdge_22 ?_
  refine e_icmp_ge C 120 r6 (hw0.2.1 41 _ rfl) dX5_findEdge_23 (by decide) (fun c9 => ?_) (fun c9 => ?_)
  · replace H := H.1 c9
    refine e_aload_n C 0 dX5_findEdge_120 rfl ?_
    refine gX_5_30 C dX5_findEdge_121 ?_
    refine e_iload_n C 2 dX5_findEdge_124 rfl ?_
    refine e_iload_n C 3 dX5_findEdge_125 rfl ?_
    refine e_iload C 4 dX5_findEdge_126 rfl ?_
    obtain ⟨⟨o2, o4⟩, H⟩ := H
    refine e_imul C dX5_findEdge_128 ?_
    refine sX_17 C o1 o2 dX5_findEdge_129 ?_
    refine e_wf (fun hw3 => ?_)
    refine e_aload_n C 0 dX5_findEdge_130 rfl ?_
    refine gX_5_34 C dX5_findEdge_131 ?_
    refine e_iload_n C 2 dX5_findEdge_134 rfl ?_
    refine e_iload C 5 dX5_findEdge_135 rfl ?_
    refine sX_18 C o1 o4 dX5_findEdge_137 ?_
    refine e_wf (fun hw5 => ?_)
    exact e_vret C Y hk hn dX5_findEdge_138 H
  · replace H := H.2 c9
    refine e_aload_n C 0 dX5_findEdge_26 rfl ?_
    refine gX_5_11 C dX5_findEdge_27 ?_
    refine e_aload_n C 1 dX5_findEdge_30 rfl ?_
    refine e_iload_n C 2 dX5_findEdge_31 rfl ?_
    refine e_iload C 6 dX5_findEdge_32 rfl ?_
    obtain ⟨⟨o6, o7, o8, o9, o10⟩, H⟩ := H
    refine e_callVD (As := [vI x2, vI x6]) (rest := [.ref (ad 12)]) (ci := 2) C Y mi_X2_optionAt ms_X2_optionAt mv_X2_optionAt ml_X5_122 (s_X2_optionAt r1 r2 r6 o6) (heG r1) rfl (by decide) (Nat.le_of_ble_eq_true rfl) hk hn dX5_findEdge_34 rfl ?_
    refine e_aaldG C o7 dX5_findEdge_37 ?_
    refine e_astore C dX5_findEdge_38 (by decide) rfl ?_
    refine e_iload_n C 4 dX5_findEdge_40 rfl ?_
    refine e_aload C 0 dX5_findEdge_41 rfl ?_
    refine gX_5_130 C o7 dX5_findEdge_43 ?_
    refine e_iconst C dX5_findEdge_46 ?_
    refine e_iload_n C 3 dX5_findEdge_47 rfl ?_
    refine e_isub C dX5_findEdge_48 ?_
    refine aG_4 C o7 o9 dX5_findEdge_49 ?_
    refine e_imul C dX5_findEdge_50 ?_
    refine e_istore C dX5_findEdge_51 (by decide) rfl ?_
    refine e_aload C 1 dX5_findEdge_53 rfl ?_
    refine gX_5_133 C o7 dX5_findEdge_55 ?_
    refine e_iconst C dX5_findEdge_58 ?_
    refine e_iload_n C 4 dX5_findEdge_59 rfl ?_
    refine e_isub C dX5_findEdge_60 ?_
    refine aG_5 C o7 o9 dX5_findEdge_61 ?_
    refine e_istore C dX5_findEdge_62 (by decide) rfl ?_
    refine e_iload C 1 dX5_findEdge_64 rfl ?_
    refine e_iload C 7 dX5_findEdge_66 rfl ?_
    refine e_icmp_le C 90 o10 r4 dX5_findEdge_68 (by decide) (fun c9 => ?_) (fun c9 => ?_)
    · replace H := H.1 c9
      refine e_iload C 1 dX5_findEdge_90 rfl ?_
      refine e_iload C 7 dX5_findEdge_92 rfl ?_
      refine e_icmp_ne C 114 o10 r4 dX5_findEdge_94 (by decide) (fun c9 => ?_) (fun c9 => ?_)
      · replace H := H.1 c9
        obtain ⟨o11, H⟩ := H
        refine e_iinc C 9 dX5_findEdge_114 rfl (by decide) rfl ?_
        refine e_goto C 15 dX5_findEdge_117 (by decide) ?_
        exact e_sub [4, 5, 6, 7, 8, 9, 0] rfl H
      · replace H := H.2 c9
        refine e_iload C 8 dX5_findEdge_97 rfl ?_
        refine e_if_eq C 111 r5 dX5_findEdge_99 (by decide) (fun c9 => ?_) (fun c9 => ?_)
        · replace H := H.1 c9
          refine e_iconst C dX5_findEdge_111 ?_
          refine e_istore C dX5_findEdge_112 (by decide) rfl ?_
          obtain ⟨o12, H⟩ := H
          refine e_iinc C 9 dX5_findEdge_114 rfl (by decide) rfl ?_
          refine e_goto C 15 dX5_findEdge_117 (by decide) ?_
          exact e_sub [5, 6, 7, 8, 9, 1, 0] rfl H
        · replace H := H.2 c9
          refine e_iload C 0 dX5_findEdge_102 rfl ?_
          refine e_if_ne C 111 (hw0.2.1 44 _ rfl) dX5_findEdge_104 (by decide) (fun c9 => ?_) (fun c9 => ?_)
          · replace H := H.1 c9
            refine e_iconst C dX5_findEdge_111 ?_
            refine e_istore C dX5_findEdge_112 (by decide) rfl ?_
            obtain ⟨o13, H⟩ := H
            refine e_iinc C 9 dX5_findEdge_114 rfl (by decide) rfl ?_
            refine e_goto C 15 dX5_findEdge_117 (by decide) ?_
            exact e_sub [5, 6, 7, 8, 9, 1, 0] rfl H
          · replace H := H.2 c9
            refine e_iconst C dX5_findEdge_107 ?_
            refine e_goto C 112 dX5_findEdge_108 (by decide) ?_
            refine e_istore C dX5_findEdge_112 (by decide) rfl ?_
            obtain ⟨o14, H⟩ := H
            refine e_iinc C 9 dX5_findEdge_114 rfl (by decide) rfl ?_
            refine e_goto C 15 dX5_findEdge_117 (by decide) ?_
            exact e_sub [5, 6, 7, 8, 9, 1, 0] rfl H
    · replace H := H.2 c9
      refine e_iload C 1 dX5_findEdge_71 rfl ?_
      refine e_istore C dX5_findEdge_73 (by decide) rfl ?_
      refine e_iload C 1 dX5_findEdge_75 rfl ?_
      refine e_if_ne C 84 (hw0.2.1 44 _ rfl) dX5_findEdge_77 (by decide) (fun c9 => ?_) (fun c9 => ?_)
      · replace H := H.1 c9
        refine e_iconst C dX5_findEdge_84 ?_
        refine e_istore C dX5_findEdge_85 (by decide) rfl ?_
        refine e_goto C 114 dX5_findEdge_87 (by decide) ?_
        obtain ⟨o15, H⟩ := H
        refine e_iinc C 9 dX5_findEdge_114 rfl (by decide) rfl ?_
        refine e_goto C 15 dX5_findEdge_117 (by decide) ?_
        exact e_sub [6, 7, 8, 9, 2, 1, 0] rfl H
      · replace H := H.2 c9
        refine e_iconst C dX5_findEdge_80 ?_
        refine e_goto C 85 dX5_findEdge_81 (by decide) ?_
        refine e_istore C dX5_findEdge_85 (by decide) rfl ?_
        refine e_goto C 114 dX5_findEdge_87 (by decide) ?_
        obtain ⟨o16, H⟩ := H
        refine e_iinc C 9 dX5_findEdge_114 rfl (by decide) rfl ?_
        refine e_goto C 15 dX5_findEdge_117 (by decide) ?_
        exact e_sub [6, 7, 8, 9, 2, 1, 0] rfl H
set_option maxRecDepth 4000 in
theorem B_X5_simplest_0 {g : Gs} {ad : Nat → Nat} {sk : (Nat → Nat) × (Nat → Nat)} {X : Cx} {mc ms k n : Nat} {PQ : Option Value → Mem → Prop} {PX : String → Mem → Prop} {M : Mem} {x0 x1 x2 x3 : Int} (r0 : R32 x0) (r1 : R32 x1) (r2 : R32 x2) (r3 : R32 x3) (hk : k ≤ mc) (hn : n ≤ ms) (C : OkB (wC g ad sk) X cX5_simplest RX5 4 2 mc ms) (Y : OkR (wC g ad sk) X (some .int) mc ms PQ PX) (H : (((x2 < 0) → ((R32 (-x2)) ∧ (R32 (-x0))) ∧ ∃ Q5 : Int → Mem → Prop, SpI (wC g ad sk) yX5_simplestPositive cX5_simplestPositive 6 (some .int) 1 [vI (-x2), vI x3, vI (-x0), vI x1] M Q5 ∧ ∀ (z6 : Int) (M4 : Mem), Q5 z6 M4 → R32 z6 ∧ (R32 (-z6)) ∧ PQ (some (vI (-z6))) M4) ∧ ((0 ≤ x2) → (((x2 ≠ 0) → E (wC g ad sk) X k n M 23 [(0, vI x0), (1, vI x1), (2, vI x2), (3, vI x3)] []) ∧ ((x2 = 0) → (((x3 ≠ 0) → E (wC g ad sk) X k n M 23 [(0, vI x0), (1, vI x1), (2, vI x2), (3, vI x3)] []) ∧ ((x3 = 0) → ((R32 (-x2)) ∧ (R32 (-x0))) ∧ ∃ Q14 : Int → Mem → Prop, SpI (wC g ad sk) yX5_simplestPositive cX5_simplestPositive 6 (some .int) 1 [vI (-x2), vI x3, vI (-x0), vI x1] M Q14 ∧ ∀ (z15 : Int) (M13 : Mem), Q14 z15 M13 → R32 z15 ∧ (R32 (-z15)) ∧ PQ (some (vI (-z15))) M13))))))) : E (wC g ad sk) X k n M 0 [(0, vI x0), (1, vI x1), (2, vI x2), (3, vI x3)] [] := by
  refine e_wf (fun hw0 => ?_)
  refine e_iload_n C 2 dX5_simplest_0 rfl ?_
  refine e_if_lt C 12 r2 dX5_simplest_1 (by decide) (fun c9 => ?_) (fun c9 => ?_)
  · replace H := H.1 c9
    refine e_iload_n C 2 dX5_simplest_12 rfl ?_
    obtain ⟨⟨o1, o2⟩, H⟩ := H
    refine e_ineg C dX5_simplest_13 ?_
    refine e_iload_n C 3 dX5_simplest_14 rfl ?_
    refine e_iload_n C 0 dX5_simplest_15 rfl ?_
    refine e_ineg C dX5_simplest_16 ?_
    refine e_iload_n C 1 dX5_simplest_17 rfl ?_
    obtain ⟨Q5, h3, H⟩ := H
    refine e_callSI (As := [vI (-x2), vI x3, vI (-x0), vI x1]) (rest := []) C Y mi_X5_simplestPositive ms_X5_simplestPositive ml_X5_155 h3 (by decide) (Nat.le_of_ble_eq_true rfl) hk hn dX5_simplest_18 rfl (fun z6 M4 hq9 => ?_)
    obtain ⟨o7, H⟩ := H z6 M4 hq9
    refine e_wf (fun hw8 => ?_)
    obtain ⟨o9, H⟩ := H
    refine e_ineg C dX5_simplest_21 ?_
    exact e_iret C Y hk hn dX5_simplest_22 H
  · replace H := H.2 c9
    refine e_iload_n C 2 dX5_simplest_4 rfl ?_
    refine e_if_ne C 23 r2 dX5_simplest_5 (by decide) (fun c9 => ?_) (fun c9 => ?_)
    · replace H := H.1 c9
      exact e_sub [0, 1, 2, 3] rfl H
    · replace H := H.2 c9
      refine e_iload_n C 3 dX5_simplest_8 rfl ?_
      refine e_if_ne C 23 r3 dX5_simplest_9 (by decide) (fun c9 => ?_) (fun c9 => ?_)
      · replace H := H.1 c9
        exact e_sub [0, 1, 2, 3] rfl H
      · replace H := H.2 c9
        refine e_iload_n C 2 dX5_simplest_12 rfl ?_
        obtain ⟨⟨o10, o11⟩, H⟩ := H
        refine e_ineg C dX5_simplest_13 ?_
        refine e_iload_n C 3 dX5_simplest_14 rfl ?_
        refine e_iload_n C 0 dX5_simplest_15 rfl ?_
        refine e_ineg C dX5_simplest_16 ?_
        refine e_iload_n C 1 dX5_simplest_17 rfl ?_
        obtain ⟨Q14, h12, H⟩ := H
        refine e_callSI (As := [vI (-x2), vI x3, vI (-x0), vI x1]) (rest := []) C Y mi_X5_simplestPositive ms_X5_simplestPositive ml_X5_155 h12 (by decide) (Nat.le_of_ble_eq_true rfl) hk hn dX5_simplest_18 rfl (fun z15 M13 hq9 => ?_)
        obtain ⟨o16, H⟩ := H z15 M13 hq9
        refine e_wf (fun hw17 => ?_)
        obtain ⟨o18, H⟩ := H
        refine e_ineg C dX5_simplest_21 ?_
        exact e_iret C Y hk hn dX5_simplest_22 H
set_option maxRecDepth 4000 in
theorem B_X5_simplest_23 {g : Gs} {ad : Nat → Nat} {sk : (Nat → Nat) × (Nat → Nat)} {X : Cx} {mc ms k n : Nat} {PQ : Option Value → Mem → Prop} {PX : String → Mem → Prop} {M : Mem} {x0 x1 x2 x3 : Int} (r0 : R32 x0) (r1 : R32 x1) (r2 : R32 x2) (r3 : R32 x3) (hk : k ≤ mc) (hn : n ≤ ms) (C : OkB (wC g ad sk) X cX5_simplest RX5 4 2 mc ms) (Y : OkR (wC g ad sk) X (some .int) mc ms PQ PX) (H : (((0 < x0) → ∃ Q3 : Int → Mem → Prop, SpI (wC g ad sk) yX5_simplestPositive cX5_simplestPositive 6 (some .int) 1 [vI x0, vI x1, vI x2, vI x3] M Q3 ∧ ∀ (z4 : Int) (M2 : Mem), Q3 z4 M2 → R32 z4 ∧ PQ (some (vI z4)) M2) ∧ ((x0 ≤ 0) → (((x0 ≠ 0) → PQ (some (vI 0)) M) ∧ ((x0 = 0) → (((x1 ≠ 0) → PQ (some (vI 0)) M) ∧ ((x1 = 0) → ∃ Q9 : Int → Mem → Prop, SpI (wC g ad sk) yX5_simplestPositive cX5_simplestPositive 6 (some .int) 1 [vI x0, vI x1, vI x2, vI x3] M Q9 ∧ ∀ (z10 : Int) (M8 : Mem), Q9 z10 M8 → R32 z10 ∧ PQ (some (vI z10)) M8))))))) : E (wC g ad sk) X k n M 23 [(0, vI x0), (1, vI x1), (2, vI x2), (3, vI x3)] [] := by
  refine e_wf (fun hw0 => ?_)
  refine e_iload_n C 0 dX5_simplest_23 rfl ?_
  refine e_if_gt C 35 r0 dX5_simplest_24 (by decide) (fun c9 => ?_) (fun c9 => ?_)
  · replace H := H.1 c9
    refine e_iload_n C 0 dX5_simplest_35 rfl ?_
    refine e_iload_n C 1 dX5_simplest_36 rfl ?_
    refine e_iload_n C 2 dX5_simplest_37 rfl ?_
    refine e_iload_n C 3 dX5_simplest_38 rfl ?_
    obtain ⟨Q3, h1, H⟩ := H
    refine e_callSI (As := [vI x0, vI x1, vI x2, vI x3]) (rest := []) C Y mi_X5_simplestPositive ms_X5_simplestPositive ml_X5_155 h1 (by decide) (Nat.le_of_ble_eq_true rfl) hk hn dX5_simplest_39 rfl (fun z4 M2 hq9 => ?_)
    obtain ⟨o5, H⟩ := H z4 M2 hq9
    refine e_wf (fun hw6 => ?_)
    exact e_iret C Y hk hn dX5_simplest_42 H
  · replace H := H.2 c9
    refine e_iload_n C 0 dX5_simplest_27 rfl ?_
    refine e_if_ne C 43 r0 dX5_simplest_28 (by decide) (fun c9 => ?_) (fun c9 => ?_)
    · replace H := H.1 c9
      refine e_iconst C dX5_simplest_43 ?_
      exact e_iret C Y hk hn dX5_simplest_44 H
    · replace H := H.2 c9
      refine e_iload_n C 1 dX5_simplest_31 rfl ?_
      refine e_if_ne C 43 r1 dX5_simplest_32 (by decide) (fun c9 => ?_) (fun c9 => ?_)
      · replace H := H.1 c9
        refine e_iconst C dX5_simplest_43 ?_
        exact e_iret C Y hk hn dX5_simplest_44 H
      · replace H := H.2 c9
        refine e_iload_n C 0 dX5_simplest_35 rfl ?_
        refine e_iload_n C 1 dX5_simplest_36 rfl ?_
        refine e_iload_n C 2 dX5_simplest_37 rfl ?_
        refine e_iload_n C 3 dX5_simplest_38 rfl ?_
        obtain ⟨Q9, h7, H⟩ := H
        refine e_callSI (As := [vI x0, vI x1, vI x2, vI x3]) (rest := []) C Y mi_X5_simplestPositive ms_X5_simplestPositive ml_X5_155 h7 (by decide) (Nat.le_of_ble_eq_true rfl) hk hn dX5_simplest_39 rfl (fun z10 M8 hq9 => ?_)
        obtain ⟨o11, H⟩ := H z10 M8 hq9
        refine e_wf (fun hw12 => ?_)
        exact e_iret C Y hk hn dX5_simplest_42 H
set_option maxRecDepth 4000 in
theorem B_X5_isReached_0 {g : Gs} {ad : Nat → Nat} {sk : (Nat → Nat) × (Nat → Nat)} {X : Cx} {mc ms k n : Nat} {PQ : Option Value → Mem → Prop} {PX : String → Mem → Prop} {M : Mem} {x1 x2 : Int} (r1 : R32 x1) (r2 : R32 x2) (hk : k ≤ mc) (hn : n ≤ ms) (C : OkB (wC g ad sk) X cX5_isReached RX5 6 2 mc ms) (Y : OkR (wC g ad sk) X (some .boolean) mc ms PQ PX) (H : ((0 ≤ x1 ∧ x1 < 40) ∧ (0 ≤ x2 ∧ x2 < 40)) ∧ ((((M 49 x2) = 0) → ((((M 49 x1) = 0) → E (wC g ad sk) X k n M 53 [(0, .ref (ad 1)), (1, vI x1), (2, vI x2), (3, .ref (ad (44 + 6 * (Int.toNat x1)))), (4, .ref (ad (44 + 6 * (Int.toNat x2)))), (5, vI 0)] []) ∧ (((M 49 x1) ≠ 0) → PQ (some (vI (b2i (leN M x2 (M 50 x1))))) M))) ∧ (((M 49 x2) ≠ 0) → PQ (some (vI (b2i (geN M x1 (M 50 x2))))) M))) : E (wC g ad sk) X k n M 0 [(0, .ref (ad 1)), (1, vI x1), (2, vI x2)] [] := by
  refine e_wf (fun hw0 => ?_)
  refine e_aload_n C 0 dX5_isReached_0 rfl ?_
  refine gX_5_11 C dX5_isReached_1 ?_
  refine e_iload_n C 1 dX5_isReached_4 rfl ?_
  obtain ⟨⟨o1, o2⟩, H⟩ := H
  refine e_aaldG C o1 dX5_isReached_5 ?_
  refine e_astore_n C dX5_isReached_6 (by decide) rfl ?_
  refine e_aload_n C 1 dX5_isReached_7 rfl ?_
  refine gX_5_11 C dX5_isReached_8 ?_
  refine e_iload_n C 3 dX5_isReached_11 rfl ?_
  refine e_aaldG C o2 dX5_isReached_12 ?_
  refine e_astore C dX5_isReached_13 (by decide) rfl ?_
  refine e_aload C 0 dX5_isReached_15 rfl ?_
  refine gX_5_136 C o2 dX5_isReached_17 ?_
  refine e_if_eq C 33 (hw0.2.1 49 _ rfl) dX5_isReached_20 (by decide) (fun c9 => ?_) (fun c9 => ?_)
  · replace H := H.1 c9
    refine e_aload_n C 1 dX5_isReached_33 rfl ?_
    refine gX_5_136 C o1 dX5_isReached_34 ?_
    refine e_if_eq C 50 (hw0.2.1 49 _ rfl) dX5_isReached_37 (by decide) (fun c9 => ?_) (fun c9 => ?_)
    · replace H := H.1 c9
      refine e_iconst C dX5_isReached_50 ?_
      refine e_istore C dX5_isReached_51 (by decide) rfl ?_
      exact e_sub [3, 4, 5, 2, 1, 0] rfl H
    · replace H := H.2 c9
      refine e_aload C 0 dX5_isReached_40 rfl ?_
      refine e_aload_n C 1 dX5_isReached_42 rfl ?_
      refine gX_5_152 C o1 dX5_isReached_43 ?_
      refine e_callVD (As := [vI (M 50 x1)]) (rest := []) (ci := 2) C Y mi_X2_isAtMostNumber ms_X2_isAtMostNumber mv_X2_isAtMostNumber ml_X5_166 (s_X2_isAtMostNumber o2 (hw0.2.1 50 _ rfl)) (heG o2) rfl (by decide) (Nat.le_of_ble_eq_true rfl) hk hn dX5_isReached_46 rfl ?_
      exact e_zret C Y hk hn (b2i_01 _) dX5_isReached_49 H
  · replace H := H.2 c9
    refine e_aload_n C 1 dX5_isReached_23 rfl ?_
    refine e_aload C 0 dX5_isReached_24 rfl ?_
    refine gX_5_152 C o2 dX5_isReached_26 ?_
    refine e_callVD (As := [vI (M 50 x2)]) (rest := []) (ci := 2) C Y mi_X2_isAtLeastNumber ms_X2_isAtLeastNumber mv_X2_isAtLeastNumber ml_X5_162 (s_X2_isAtLeastNumber o1 (hw0.2.1 50 _ rfl)) (heG o1) rfl (by decide) (Nat.le_of_ble_eq_true rfl) hk hn dX5_isReached_29 rfl ?_
    exact e_zret C Y hk hn (b2i_01 _) dX5_isReached_32 H
set_option maxRecDepth 4000 in
theorem B_X5_isReached_53 {g : Gs} {ad : Nat → Nat} {sk : (Nat → Nat) × (Nat → Nat)} {X : Cx} {mc ms k n : Nat} {PQ : Option Value → Mem → Prop} {PX : String → Mem → Prop} {M : Mem} {x1 x2 x3 x4 x5 : Int} (r1 : R32 x1) (r2 : R32 x2) (r3 : 0 ≤ x3 ∧ x3 < 40) (r4 : 0 ≤ x4 ∧ x4 < 40) (r5 : R32 x5) (hk : k ≤ mc) (hn : n ≤ ms) (C : OkB (wC g ad sk) X cX5_isReached RX5 6 2 mc ms) (Y : OkR (wC g ad sk) X (some .boolean) mc ms PQ PX) (H : ((((M 41 (40 * 1 + x3)) ≤ x5) → E (wC g ad sk) X k n M 90 [(0, .ref (ad 1)), (1, vI x1), (4, .ref (ad (44 + 6 * (Int.toNat x4)))), (5, vI 0)] []) ∧ ((x5 < (M 41 (40 * 1 + x3))) → (((0 ≤ (1 : Int) ∧ (1 : Int) ≤ 1) ∧ M 41 (40 * (1 : Int) + x3) ≤ 4) ∧ (0 ≤ x2 ∧ x2 < 40)) ∧ (((¬(hasB (M 5 x2) (optAt M x3 (1 : Int) x5))) → (R32 (x5 + 1)) ∧ E (wC g ad sk) X k n M 53 [(0, .ref (ad 1)), (1, vI x1), (2, vI x2), (3, .ref (ad (44 + 6 * (Int.toNat x3)))), (4, .ref (ad (44 + 6 * (Int.toNat x4)))), (5, vI (x5 + 1))] []) ∧ ((hasB (M 5 x2) (optAt M x3 (1 : Int) x5)) → PQ (some (vI 0)) M))))) : E (wC g ad sk) X k n M 53 [(0, .ref (ad 1)), (1, vI x1), (2, vI x2), (3, .ref (ad (44 + 6 * (Int.toNat x3)))), (4, .ref (ad (44 + 6 * (Int.toNat x4)))), (5, vI x5)] [] := by
  refine e_wf (fun hw0 => ?_)
  refine e_iload C 5 dX5_isReached_53 rfl ?_
  refine e_aload_n C 3 dX5_isReached_55 rfl ?_
  refine gX_5_116 C r3 dX5_isReached_56 ?_
  refine e_iconst C dX5_isReached_59 ?_
  refine aG_2 C r3 (by decide) dX5_isReached_60 ?_
  refine e_icmp_ge C 87 r5 (hw0.2.1 41 _ rfl) dX5_isReached_61 (by decide) (fun c9 => ?_) (fun c9 => ?_)
  · replace H := H.1 c9
    refine e_iconst C dX5_isReached_87 ?_
    refine e_istore C dX5_isReached_88 (by decide) rfl ?_
    exact e_sub [1, 2, 5, 0] rfl H
  · replace H := H.2 c9
    refine e_aload_n C 0 dX5_isReached_64 rfl ?_
    refine e_iload_n C 2 dX5_isReached_65 rfl ?_
    refine e_aload_n C 3 dX5_isReached_66 rfl ?_
    refine e_iconst C dX5_isReached_67 ?_
    refine e_iload C 5 dX5_isReached_68 rfl ?_
    obtain ⟨⟨o1, o2⟩, H⟩ := H
    refine e_callVD (As := [vI 1, vI x5]) (rest := [vI x2, .ref (ad 1)]) (ci := 2) C Y mi_X2_optionAt ms_X2_optionAt mv_X2_optionAt ml_X5_122 (s_X2_optionAt r3 (by decide) r5 o1) (heG r3) rfl (by decide) (Nat.le_of_ble_eq_true rfl) hk hn dX5_isReached_70 rfl ?_
    refine e_callVD (As := [vI x2, vI (optAt M x3 (1 : Int) x5)]) (rest := []) (q0 := 1) (ci := 5) C Y mi_X5_isAtLeast ms_X5_isAtLeast mv_X5_isAtLeast ml_X5_169 (s_X5_isAtLeast r2 (optAt_r hw0 _ _ _) o2) (wlX_st rfl) rfl (by decide) (Nat.le_of_ble_eq_true rfl) hk hn dX5_isReached_73 rfl ?_
    refine e_if_eq C 81 (b2i_r _) dX5_isReached_76 (by decide) (fun c9 => ?_) (fun c9 => ?_)
    · replace H := H.1 (b2i_0.mp c9)
      obtain ⟨o3, H⟩ := H
      refine e_iinc C 5 dX5_isReached_81 rfl (by decide) rfl ?_
      refine e_goto C 53 dX5_isReached_84 (by decide) ?_
      exact e_sub [1, 2, 3, 4, 5, 0] rfl H
    · replace H := H.2 (b2i_n0.mp c9)
      refine e_iconst C dX5_isReached_79 ?_
      exact e_zret C Y hk hn (by decide) dX5_isReached_80 H
set_option maxRecDepth 4000 in
theorem B_X5_isReached_90 {g : Gs} {ad : Nat → Nat} {sk : (Nat → Nat) × (Nat → Nat)} {X : Cx} {mc ms k n : Nat} {PQ : Option Value → Mem → Prop} {PX : String → Mem → Prop} {M : Mem} {x1 x4 x5 : Int} (r1 : R32 x1) (r4 : 0 ≤ x4 ∧ x4 < 40) (r5 : R32 x5) (hk : k ≤ mc) (hn : n ≤ ms) (C : OkB (wC g ad sk) X cX5_isReached RX5 6 2 mc ms) (Y : OkR (wC g ad sk) X (some .boolean) mc ms PQ PX) (H : ((((M 41 (40 * 0 + x4)) ≤ x5) → PQ (some (vI 1)) M) ∧ ((x5 < (M 41 (40 * 0 + x4))) → (((0 ≤ (0 : Int) ∧ (0 : Int) ≤ 1) ∧ M 41 (40 * (0 : Int) + x4) ≤ 4) ∧ (0 ≤ (optAt M x4 (0 : Int) x5) ∧ (optAt M x4 (0 : Int) x5) < 40)) ∧ (((¬(hasB (M 5 (optAt M x4 (0 : Int) x5)) x1)) → (R32 (x5 + 1)) ∧ E (wC g ad sk) X k n M 90 [(0, .ref (ad 1)), (1, vI x1), (4, .ref (ad (44 + 6 * (Int.toNat x4)))), (5, vI (x5 + 1))] []) ∧ ((hasB (M 5 (optAt M x4 (0 : Int) x5)) x1) → PQ (some (vI 0)) M))))) : E (wC g ad sk) X k n M 90 [(0, .ref (ad 1)), (1, vI x1), (4, .ref (ad (44 + 6 * (Int.toNat x4)))), (5, vI x5)] [] := by
  refine e_wf (fun hw0 => ?_)
  refine e_iload C 3 dX5_isReached_90 rfl ?_
  refine e_aload C 2 dX5_isReached_92 rfl ?_
  refine gX_5_116 C r4 dX5_isReached_94 ?_
  refine e_iconst C dX5_isReached_97 ?_
  refine aG_2 C r4 (by decide) dX5_isReached_98 ?_
  refine e_icmp_ge C 126 r5 (hw0.2.1 41 _ rfl) dX5_isReached_99 (by decide) (fun c9 => ?_) (fun c9 => ?_)
  · replace H := H.1 c9
    refine e_iconst C dX5_isReached_126 ?_
    exact e_zret C Y hk hn (by decide) dX5_isReached_127 H
  · replace H := H.2 c9
    refine e_aload_n C 0 dX5_isReached_102 rfl ?_
    refine e_aload C 2 dX5_isReached_103 rfl ?_
    refine e_iconst C dX5_isReached_105 ?_
    refine e_iload C 3 dX5_isReached_106 rfl ?_
    obtain ⟨⟨o1, o2⟩, H⟩ := H
    refine e_callVD (As := [vI 0, vI x5]) (rest := [.ref (ad 1)]) (ci := 2) C Y mi_X2_optionAt ms_X2_optionAt mv_X2_optionAt ml_X5_122 (s_X2_optionAt r4 (by decide) r5 o1) (heG r4) rfl (by decide) (Nat.le_of_ble_eq_true rfl) hk hn dX5_isReached_108 rfl ?_
    refine e_iload_n C 1 dX5_isReached_111 rfl ?_
    refine e_callVD (As := [vI (optAt M x4 (0 : Int) x5), vI x1]) (rest := []) (q0 := 1) (ci := 5) C Y mi_X5_isAtLeast ms_X5_isAtLeast mv_X5_isAtLeast ml_X5_169 (s_X5_isAtLeast (optAt_r hw0 _ _ _) r1 o2) (wlX_st rfl) rfl (by decide) (Nat.le_of_ble_eq_true rfl) hk hn dX5_isReached_112 rfl ?_
    refine e_if_eq C 120 (b2i_r _) dX5_isReached_115 (by decide) (fun c9 => ?_) (fun c9 => ?_)
    · replace H := H.1 (b2i_0.mp c9)
      obtain ⟨o3, H⟩ := H
      refine e_iinc C 3 dX5_isReached_120 rfl (by decide) rfl ?_
      refine e_goto C 90 dX5_isReached_123 (by decide) ?_
      exact e_sub [1, 2, 3, 0] rfl H
    · replace H := H.2 (b2i_n0.mp c9)
      refine e_iconst C dX5_isReached_118 ?_
      exact e_zret C Y hk hn (by decide) dX5_isReached_119 H
set_option maxRecDepth 4000 in
theorem B_X5_isReversibleNumber_0 {g : Gs} {ad : Nat → Nat} {sk : (Nat → Nat) × (Nat → Nat)} {X : Cx} {mc ms k n : Nat} {PQ : Option Value → Mem → Prop} {PX : String → Mem → Prop} {M : Mem} {x0 x1 x2 : Int} (r0 : 0 ≤ x0 ∧ x0 < 40) (r1 : R32 x1) (r2 : R32 x2) (hk : k ≤ mc) (hn : n ≤ ms) (C : OkB (wC g ad sk) X cX5_isReversibleNumber RX5 5 2 mc ms) (Y : OkR (wC g ad sk) X (some .boolean) mc ms PQ PX) (H : ((((halvI x2) ≠ 3) → E (wC g ad sk) X k n M 21 [(0, .ref (ad (44 + 6 * (Int.toNat x0)))), (1, vI x1), (2, vI x2), (3, vI (halvI x2))] []) ∧ (((halvI x2) = 3) → (R32 ((sgnS x1) * x2)) ∧ (((((sgnS x1) * x2) < 0) → E (wC g ad sk) X k n M 21 [(0, .ref (ad (44 + 6 * (Int.toNat x0)))), (1, vI x1), (2, vI x2), (3, vI (halvI x2))] []) ∧ ((0 ≤ ((sgnS x1) * x2)) → PQ (some (vI 0)) M))))) : E (wC g ad sk) X k n M 0 [(0, .ref (ad (44 + 6 * (Int.toNat x0)))), (1, vI x1), (2, vI x2)] [] := by
  refine e_wf (fun hw0 => ?_)
  refine e_iload_n C 2 dX5_isReversibleNumber_0 rfl ?_
  refine e_callSN (As := [vI x2]) (rest := []) C Y mi_X9_halvings ms_X9_halvings (host := "HotGames") (by decide +kernel) (s_X9_halvings r2) (by decide) (Nat.le_of_ble_eq_true rfl) hk hn dX5_isReversibleNumber_1 rfl ?_
  refine e_istore_n C dX5_isReversibleNumber_4 (by decide) rfl ?_
  refine e_iload_n C 0 dX5_isReversibleNumber_5 rfl ?_
  refine e_iconst C dX5_isReversibleNumber_6 ?_
  refine e_icmp_ne C 21 (halvI_r _) (by decide) dX5_isReversibleNumber_7 (by decide) (fun c9 => ?_) (fun c9 => ?_)
  · replace H := H.1 c9
    exact e_sub [1, 2, 3, 0] rfl H
  · replace H := H.2 c9
    refine e_iload_n C 2 dX5_isReversibleNumber_10 rfl ?_
    refine e_callSN (As := [vI x1]) (rest := []) C Y mi_X9_signOf ms_X9_signOf (host := "HotGames") (by decide +kernel) (s_X9_signOf r1) (by decide) (Nat.le_of_ble_eq_true rfl) hk hn dX5_isReversibleNumber_11 rfl ?_
    refine e_iload_n C 3 dX5_isReversibleNumber_14 rfl ?_
    obtain ⟨o1, H⟩ := H
    refine e_imul C dX5_isReversibleNumber_15 ?_
    refine e_if_lt C 21 o1 dX5_isReversibleNumber_16 (by decide) (fun c9 => ?_) (fun c9 => ?_)
    · replace H := H.1 c9
      exact e_sub [1, 2, 3, 0] rfl H
    · replace H := H.2 c9
      refine e_iconst C dX5_isReversibleNumber_19 ?_
      exact e_zret C Y hk hn (by decide) dX5_isReversibleNumber_20 H
set_option maxRecDepth 4000 in
theorem B_X5_isReversibleNumber_21 {g : Gs} {ad : Nat → Nat} {sk : (Nat → Nat) × (Nat → Nat)} {X : Cx} {mc ms k n : Nat} {PQ : Option Value → Mem → Prop} {PX : String → Mem → Prop} {M : Mem} {x0 x1 x2 x3 : Int} (r0 : 0 ≤ x0 ∧ x0 < 40) (r1 : R32 x1) (r2 : R32 x2) (r3 : R32 x3) (hk : k ≤ mc) (hn : n ≤ ms) (C : OkB (wC g ad sk) X cX5_isReversibleNumber RX5 5 2 mc ms) (Y : OkR (wC g ad sk) X (some .boolean) mc ms PQ PX) (H : ((R32 ((sgnS x1) * (ishlI 1 x3))) ∧ (R32 (x2 + ((sgnS x1) * (ishlI 1 x3)))) ∧ (R32 ((x2 + ((sgnS x1) * (ishlI 1 x3))) * 128))) ∧ (((x1 ≠ 0) → PQ (some (vI (b2i (leN M x0 ((x2 + ((sgnS x1) * (ishlI 1 x3))) * 128))))) M) ∧ ((x1 = 0) → PQ (some (vI (b2i (geN M x0 ((x2 + ((sgnS x1) * (ishlI 1 x3))) * 128))))) M))) : E (wC g ad sk) X k n M 21 [(0, .ref (ad (44 + 6 * (Int.toNat x0)))), (1, vI x1), (2, vI x2), (3, vI x3)] [] := by
  refine e_wf (fun hw0 => ?_)
  refine e_iload_n C 2 dX5_isReversibleNumber_21 rfl ?_
  refine e_iload_n C 1 dX5_isReversibleNumber_22 rfl ?_
  refine e_callSN (As := [vI x1]) (rest := [vI x2]) C Y mi_X9_signOf ms_X9_signOf (host := "HotGames") (by decide +kernel) (s_X9_signOf r1) (by decide) (Nat.le_of_ble_eq_true rfl) hk hn dX5_isReversibleNumber_23 rfl ?_
  refine e_iconst C dX5_isReversibleNumber_26 ?_
  refine e_iload_n C 3 dX5_isReversibleNumber_27 rfl ?_
  refine e_ishl C dX5_isReversibleNumber_28 ?_
  obtain ⟨⟨o1, o2, o3⟩, H⟩ := H
  refine e_imul C dX5_isReversibleNumber_29 ?_
  refine e_iadd C dX5_isReversibleNumber_30 ?_
  refine e_sipush C dX5_isReversibleNumber_31 (by decide) ?_
  refine e_imul C dX5_isReversibleNumber_34 ?_
  refine e_istore C dX5_isReversibleNumber_35 (by decide) rfl ?_
  refine e_iload_n C 2 dX5_isReversibleNumber_37 rfl ?_
  refine e_if_ne C 50 r1 dX5_isReversibleNumber_38 (by decide) (fun c9 => ?_) (fun c9 => ?_)
  · replace H := H.1 c9
    refine e_aload_n C 1 dX5_isReversibleNumber_50 rfl ?_
    refine e_iload C 0 dX5_isReversibleNumber_51 rfl ?_
    refine e_callVD (As := [vI ((x2 + ((sgnS x1) * (ishlI 1 x3))) * 128)]) (rest := []) (ci := 2) C Y mi_X2_isAtMostNumber ms_X2_isAtMostNumber mv_X2_isAtMostNumber ml_X5_166 (s_X2_isAtMostNumber r0 o3) (heG r0) rfl (by decide) (Nat.le_of_ble_eq_true rfl) hk hn dX5_isReversibleNumber_53 rfl ?_
    exact e_zret C Y hk hn (b2i_01 _) dX5_isReversibleNumber_56 H
  · replace H := H.2 c9
    refine e_aload_n C 1 dX5_isReversibleNumber_41 rfl ?_
    refine e_iload C 0 dX5_isReversibleNumber_42 rfl ?_
    refine e_callVD (As := [vI ((x2 + ((sgnS x1) * (ishlI 1 x3))) * 128)]) (rest := []) (ci := 2) C Y mi_X2_isAtLeastNumber ms_X2_isAtLeastNumber mv_X2_isAtLeastNumber ml_X5_162 (s_X2_isAtLeastNumber r0 o3) (heG r0) rfl (by decide) (Nat.le_of_ble_eq_true rfl) hk hn dX5_isReversibleNumber_44 rfl ?_
    refine e_goto C 56 dX5_isReversibleNumber_47 (by decide) ?_
    exact e_zret C Y hk hn (b2i_01 _) dX5_isReversibleNumber_56 H
set_option maxRecDepth 4000 in
theorem B_X5_sweep_0 {g : Gs} {ad : Nat → Nat} {sk : (Nat → Nat) × (Nat → Nat)} {X : Cx} {mc ms k n : Nat} {PQ : Option Value → Mem → Prop} {PX : String → Mem → Prop} {M : Mem} {x1 x3 : Int} (r1 : R64 x1) (r3 : R32 x3) (hk : k ≤ mc) (hn : n ≤ ms) (C : OkB (wC g ad sk) X cX5_sweep RX5 7 2 mc ms) (Y : OkR (wC g ad sk) X none mc ms PQ PX) (H : E (wC g ad sk) X k n M 3 [(0, .ref (ad 1)), (1, vL x1), (3, vI x3), (4, vI 0)] []) : E (wC g ad sk) X k n M 0 [(0, .ref (ad 1)), (1, vL x1), (3, vI x3)] [] := by
  refine e_wf (fun hw0 => ?_)
  refine e_iconst C dX5_sweep_0 ?_
  refine e_istore C dX5_sweep_1 (by decide) rfl ?_
  exact e_sub [1, 2, 3, 0] rfl H
set_option maxRecDepth 4000 in
theorem B_X5_sweep_3 {g : Gs} {ad : Nat → Nat} {sk : (Nat → Nat) × (Nat → Nat)} {X : Cx} {mc ms k n : Nat} {PQ : Option Value → Mem → Prop} {PX : String → Mem → Prop} {M : Mem} {x1 x3 x4 : Int} (r1 : R64 x1) (r3 : R32 x3) (r4 : R32 x4) (hk : k ≤ mc) (hn : n ≤ ms) (C : OkB (wC g ad sk) X cX5_sweep RX5 7 2 mc ms) (Y : OkR (wC g ad sk) X none mc ms PQ PX) (H : ((((M 4 0) ≤ x4) → PQ none M) ∧ ((x4 < (M 4 0)) → (((¬(hasB x1 x4)) → (R32 (x4 + 1)) ∧ E (wC g ad sk) X k n M 3 [(0, .ref (ad 1)), (1, vL x1), (3, vI x3), (4, vI (x4 + 1))] []) ∧ ((hasB x1 x4) → (0 ≤ x4 ∧ x4 < 40) ∧ ((((M 49 x4) ≠ 0) → E (wC g ad sk) X k n M 52 [(0, .ref (ad 1)), (1, vL x1), (3, vI x3), (4, vI x4), (5, .ref (ad (44 + 6 * (Int.toNat x4))))] [vI 1]) ∧ (((M 49 x4) = 0) → (((x3 < (M 51 x4)) → E (wC g ad sk) X k n M 52 [(0, .ref (ad 1)), (1, vL x1), (3, vI x3), (4, vI x4), (5, .ref (ad (44 + 6 * (Int.toNat x4))))] [vI 0]) ∧ (((M 51 x4) ≤ x3) → E (wC g ad sk) X k n M 52 [(0, .ref (ad 1)), (1, vL x1), (3, vI x3), (4, vI x4), (5, .ref (ad (44 + 6 * (Int.toNat x4))))] [vI 1]))))))))) : E (wC g ad sk) X k n M 3 [(0, .ref (ad 1)), (1, vL x1), (3, vI x3), (4, vI x4)] [] := by
  refine e_wf (fun hw0 => ?_)
  refine e_iload C 3 dX5_sweep_3 rfl ?_
  refine e_aload_n C 0 dX5_sweep_5 rfl ?_
  refine gX_5_17 C dX5_sweep_6 ?_
  refine e_icmp_ge C 120 r4 (hw0.2.1 4 _ rfl) dX5_sweep_9 (by decide) (fun c9 => ?_) (fun c9 => ?_)
  · replace H := H.1 c9
    exact e_vret C Y hk hn dX5_sweep_120 H
  · replace H := H.2 c9
    refine e_lload_n C 1 dX5_sweep_12 rfl ?_
    refine e_iload C 3 dX5_sweep_13 rfl ?_
    refine e_callSN (As := [vL x1, vI x4]) (rest := []) C Y mi_X9_contains ms_X9_contains (host := "HotGames") (by decide +kernel) (s_X9_contains r1 r4) (by decide) (Nat.le_of_ble_eq_true rfl) hk hn dX5_sweep_15 rfl ?_
    refine e_if_eq C 114 (b2i_r _) dX5_sweep_18 (by decide) (fun c9 => ?_) (fun c9 => ?_)
    · replace H := H.1 (b2i_0.mp c9)
      obtain ⟨o1, H⟩ := H
      refine e_iinc C 3 dX5_sweep_114 rfl (by decide) rfl ?_
      refine e_goto C 3 dX5_sweep_117 (by decide) ?_
      exact e_sub [1, 2, 3, 0] rfl H
    · replace H := H.2 (b2i_n0.mp c9)
      refine e_aload_n C 0 dX5_sweep_21 rfl ?_
      refine gX_5_11 C dX5_sweep_22 ?_
      refine e_iload C 3 dX5_sweep_25 rfl ?_
      obtain ⟨o2, H⟩ := H
      refine e_aaldG C o2 dX5_sweep_27 ?_
      refine e_astore C dX5_sweep_28 (by decide) rfl ?_
      refine e_aload C 0 dX5_sweep_30 rfl ?_
      refine gX_5_136 C o2 dX5_sweep_32 ?_
      refine e_if_ne C 47 (hw0.2.1 49 _ rfl) dX5_sweep_35 (by decide) (fun c9 => ?_) (fun c9 => ?_)
      · replace H := H.1 c9
        refine e_iconst C dX5_sweep_47 ?_
        refine e_goto C 52 dX5_sweep_48 (by decide) ?_
        exact e_sub [1, 2, 3, 4, 0] rfl H
      · replace H := H.2 c9
        refine e_iload_n C 3 dX5_sweep_38 rfl ?_
        refine e_aload C 0 dX5_sweep_39 rfl ?_
        refine gX_5_149 C o2 dX5_sweep_41 ?_
        refine e_icmp_lt C 51 r3 (hw0.2.1 51 _ rfl) dX5_sweep_44 (by decide) (fun c9 => ?_) (fun c9 => ?_)
        · replace H := H.1 c9
          refine e_iconst C dX5_sweep_51 ?_
          exact e_sub [1, 2, 3, 4, 0] rfl H
        · replace H := H.2 c9
          refine e_iconst C dX5_sweep_47 ?_
          refine e_goto C 52 dX5_sweep_48 (by decide) ?_
          exact e_sub [1, 2, 3, 4, 0] rfl H
set_option maxRecDepth 4000 in
theorem B_X5_sweep_52 {g : Gs} {ad : Nat → Nat} {sk : (Nat → Nat) × (Nat → Nat)} {X : Cx} {mc ms k n : Nat} {PQ : Option Value → Mem → Prop} {PX : String → Mem → Prop} {M : Mem} {x1 x3 x4 x5 t0 : Int} (r1 : R64 x1) (r3 : R32 x3) (r4 : R32 x4) (r5 : 0 ≤ x5 ∧ x5 < 40) (q0 : R32 t0) (hk : k ≤ mc) (hn : n ≤ ms) (C : OkB (wC g ad sk) X cX5_sweep RX5 7 2 mc ms) (Y : OkR (wC g ad sk) X none mc ms PQ PX) (H : (((t0 = 0) → ∃ Q3 : Int → Mem → Prop, SpI (wC g ad sk) yX5_scaffold cX5_scaffold 8 (some .int) 1 [.ref (ad 1), .ref (ad (44 + 6 * (Int.toNat x5))), vI 0, vI x3] M Q3 ∧ ∀ (z4 : Int) (M2 : Mem), Q3 z4 M2 → R32 z4 ∧ E (wC g ad sk) X k n M2 83 [(0, .ref (ad 1)), (1, vL x1), (3, vI x3), (4, vI x4), (5, .ref (ad (44 + 6 * (Int.toNat x5)))), (6, vI t0)] [vI z4, vI x4, .ref (ad (15 + (Int.toNat 0)))]) ∧ ((t0 ≠ 0) → E (wC g ad sk) X k n M 83 [(0, .ref (ad 1)), (1, vL x1), (3, vI x3), (4, vI x4), (5, .ref (ad (44 + 6 * (Int.toNat x5)))), (6, vI t0)] [vI (M 50 x5), vI x4, .ref (ad (15 + (Int.toNat 0)))]))) : E (wC g ad sk) X k n M 52 [(0, .ref (ad 1)), (1, vL x1), (3, vI x3), (4, vI x4), (5, .ref (ad (44 + 6 * (Int.toNat x5))))] [vI t0] := by
  refine e_wf (fun hw0 => ?_)
  refine e_istore C dX5_sweep_52 (by decide) rfl ?_
  refine e_aload_n C 1 dX5_sweep_54 rfl ?_
  refine gX_5_27 C dX5_sweep_55 ?_
  refine e_iconst C dX5_sweep_58 ?_
  refine e_aaldW C (by decide) dX5_sweep_59 ?_
  refine e_iload C 4 dX5_sweep_60 rfl ?_
  refine e_iload C 0 dX5_sweep_62 rfl ?_
  refine e_if_eq C 75 q0 dX5_sweep_64 (by decide) (fun c9 => ?_) (fun c9 => ?_)
  · replace H := H.1 c9
    refine e_aload_n C 1 dX5_sweep_75 rfl ?_
    refine e_aload C 5 dX5_sweep_76 rfl ?_
    refine e_iconst C dX5_sweep_78 ?_
    refine e_iload_n C 3 dX5_sweep_79 rfl ?_
    obtain ⟨Q3, h1, H⟩ := H
    refine e_callVI (As := [.ref (ad (44 + 6 * (Int.toNat x5))), vI 0, vI x3]) (rest := [vI x4, .ref (ad (15 + (Int.toNat 0)))]) (q0 := 1) (ci := 5) C Y mi_X5_scaffold ms_X5_scaffold mv_X5_scaffold ml_X5_145 h1 (wlX_st rfl) rfl (by decide) (Nat.le_of_ble_eq_true rfl) hk hn dX5_sweep_80 rfl (fun z4 M2 hq9 => ?_)
    obtain ⟨o5, H⟩ := H z4 M2 hq9
    refine e_wf (fun hw6 => ?_)
    exact e_sub [1, 2, 3, 4, 5, 0] rfl H
  · replace H := H.2 c9
    refine e_aload C 5 dX5_sweep_67 rfl ?_
    refine gX_5_152 C r5 dX5_sweep_69 ?_
    refine e_goto C 83 dX5_sweep_72 (by decide) ?_
    exact e_sub [1, 2, 3, 4, 5, 0] rfl H
set_option maxRecDepth 4000 in
theorem B_X5_sweep_83 {g : Gs} {ad : Nat → Nat} {sk : (Nat → Nat) × (Nat → Nat)} {X : Cx} {mc ms k n : Nat} {PQ : Option Value → Mem → Prop} {PX : String → Mem → Prop} {M : Mem} {x1 x3 x4 x5 x6 t0 t1 t2 : Int} (r1 : R64 x1) (r3 : R32 x3) (r4 : R32 x4) (r5 : 0 ≤ x5 ∧ x5 < 40) (r6 : R32 x6) (q0 : R32 t0) (q1 : R32 t1) (q2 : 0 ≤ t2 ∧ t2 < 2) (hk : k ≤ mc) (hn : n ≤ ms) (C : OkB (wC g ad sk) X cX5_sweep RX5 7 2 mc ms) (Y : OkR (wC g ad sk) X none mc ms PQ PX) (H : (0 ≤ t1 ∧ t1 < 40) ∧ (((x6 = 0) → ∃ Q5 : Int → Mem → Prop, SpI (wC g ad sk) yX5_scaffold cX5_scaffold 8 (some .int) 1 [.ref (ad 1), .ref (ad (44 + 6 * (Int.toNat x5))), vI 1, vI x3] (up M 6 (2 * t1 + t2) t0) Q5 ∧ ∀ (z6 : Int) (M4 : Mem), Q5 z6 M4 → R32 z6 ∧ ((0 ≤ x4 ∧ x4 < 40) ∧ (R32 (x4 + 1))) ∧ E (wC g ad sk) X k n (up M4 6 (2 * x4 + 1) z6) 3 [(0, .ref (ad 1)), (1, vL x1), (3, vI x3), (4, vI (x4 + 1))] []) ∧ ((x6 ≠ 0) → ((0 ≤ x4 ∧ x4 < 40) ∧ (R32 (x4 + 1))) ∧ E (wC g ad sk) X k n (up (up M 6 (2 * t1 + t2) t0) 6 (2 * x4 + 1) (M 50 x5)) 3 [(0, .ref (ad 1)), (1, vL x1), (3, vI x3), (4, vI (x4 + 1))] []))) : E (wC g ad sk) X k n M 83 [(0, .ref (ad 1)), (1, vL x1), (3, vI x3), (4, vI x4), (5, .ref (ad (44 + 6 * (Int.toNat x5)))), (6, vI x6)] [vI t0, vI t1, .ref (ad (15 + (Int.toNat t2)))] := by
  refine e_wf (fun hw0 => ?_)
  obtain ⟨o1, H⟩ := H
  refine sR_W C q2 o1 q0 dX5_sweep_83 ?_
  refine e_wf (fun hw2 => ?_)
  refine e_aload_n C 0 dX5_sweep_84 rfl ?_
  refine gX_5_27 C dX5_sweep_85 ?_
  refine e_iconst C dX5_sweep_88 ?_
  refine e_aaldW C (by decide) dX5_sweep_89 ?_
  refine e_iload C 3 dX5_sweep_90 rfl ?_
  refine e_iload C 5 dX5_sweep_92 rfl ?_
  refine e_if_eq C 105 r6 dX5_sweep_94 (by decide) (fun c9 => ?_) (fun c9 => ?_)
  · replace H := H.1 c9
    refine e_aload_n C 0 dX5_sweep_105 rfl ?_
    refine e_aload C 4 dX5_sweep_106 rfl ?_
    refine e_iconst C dX5_sweep_108 ?_
    refine e_iload_n C 2 dX5_sweep_109 rfl ?_
    obtain ⟨Q5, h3, H⟩ := H
    refine e_callVI (As := [.ref (ad (44 + 6 * (Int.toNat x5))), vI 1, vI x3]) (rest := [vI x4, .ref (ad (15 + (Int.toNat 1)))]) (q0 := 1) (ci := 5) C Y mi_X5_scaffold ms_X5_scaffold mv_X5_scaffold ml_X5_145 h3 (wlX_st rfl) rfl (by decide) (Nat.le_of_ble_eq_true rfl) hk hn dX5_sweep_110 rfl (fun z6 M4 hq9 => ?_)
    obtain ⟨o7, H⟩ := H z6 M4 hq9
    refine e_wf (fun hw8 => ?_)
    obtain ⟨⟨o9, o11⟩, H⟩ := H
    refine sR_W C (by decide) o9 o7 dX5_sweep_113 ?_
    refine e_wf (fun hw10 => ?_)
    refine e_iinc C 3 dX5_sweep_114 rfl (by decide) rfl ?_
    refine e_goto C 3 dX5_sweep_117 (by decide) ?_
    exact e_sub [1, 2, 3, 0] rfl H
  · replace H := H.2 c9
    refine e_aload C 4 dX5_sweep_97 rfl ?_
    refine gX_5_152 C r5 dX5_sweep_99 ?_
    refine e_goto C 113 dX5_sweep_102 (by decide) ?_
    obtain ⟨⟨o12, o14⟩, H⟩ := H
    refine sR_W C (by decide) o12 (hw0.2.1 50 _ rfl) dX5_sweep_113 ?_
    refine e_wf (fun hw13 => ?_)
    refine e_iinc C 3 dX5_sweep_114 rfl (by decide) rfl ?_
    refine e_goto C 3 dX5_sweep_117 (by decide) ?_
    exact e_sub [1, 2, 3, 0] rfl H
set_option maxRecDepth 4000 in
theorem B_X6_rank_0 {g : Gs} {ad : Nat → Nat} {sk : (Nat → Nat) × (Nat → Nat)} {X : Cx} {mc ms k n : Nat} {PQ : Option Value → Mem → Prop} {PX : String → Mem → Prop} {M : Mem} {x2 : Int} (r2 : R32 x2) (hk : k ≤ mc) (hn : n ≤ ms) (C : OkB (wC g ad sk) X cX6_rank RX6 9 2 mc ms) (Y : OkR (wC g ad sk) X (some .int) mc ms PQ PX) (H : E (wC g ad sk) X k n M 5 [(0, .ref (ad 3)), (1, .ref (ad 19)), (2, vI x2), (3, vI 1), (4, vI 0)] []) : E (wC g ad sk) X k n M 0 [(0, .ref (ad 3)), (1, .ref (ad 19)), (2, vI x2)] [] := by
  refine e_wf (fun hw0 => ?_)
  refine e_iconst C dX6_rank_0 ?_
  refine e_istore_n C dX6_rank_1 (by decide) rfl ?_
  refine e_iconst C dX6_rank_2 ?_
  refine e_istore C dX6_rank_3 (by decide) rfl ?_
  exact e_sub [2, 3, 4, 1, 0] rfl H
set_option maxRecDepth 4000 in
theorem B_X6_rank_5 {g : Gs} {ad : Nat → Nat} {sk : (Nat → Nat) × (Nat → Nat)} {X : Cx} {mc ms k n : Nat} {PQ : Option Value → Mem → Prop} {PX : String → Mem → Prop} {M : Mem} {x2 x3 x4 : Int} (r2 : R32 x2) (r3 : R32 x3) (r4 : R32 x4) (hk : k ≤ mc) (hn : n ≤ ms) (C : OkB (wC g ad sk) X cX6_rank RX6 9 2 mc ms) (Y : OkR (wC g ad sk) X (some .int) mc ms PQ PX) (H : (((x2 ≤ x4) → PQ (some (vI x3)) M) ∧ ((x4 < x2) → ((0 ≤ x4 ∧ x4 < 4) ∧ (0 ≤ M 10 x4 ∧ M 10 x4 < 40)) ∧ E (wC g ad sk) X k n M 34 [(0, .ref (ad 3)), (1, .ref (ad 19)), (2, vI x2), (3, vI x3), (4, vI x4), (5, vL (M 53 (M 10 x4))), (7, vI 0), (8, vI 0)] []))) : E (wC g ad sk) X k n M 5 [(0, .ref (ad 3)), (1, .ref (ad 19)), (2, vI x2), (3, vI x3), (4, vI x4)] [] := by
  refine e_wf (fun hw0 => ?_)
  refine e_iload C 4 dX6_rank_5 rfl ?_
  refine e_iload_n C 2 dX6_rank_7 rfl ?_
  refine e_icmp_ge C 122 r4 r2 dX6_rank_8 (by decide) (fun c9 => ?_) (fun c9 => ?_)
  · replace H := H.1 c9
    refine e_iload_n C 3 dX6_rank_122 rfl ?_
    exact e_iret C Y hk hn dX6_rank_123 H
  · replace H := H.2 c9
    refine e_aload_n C 0 dX6_rank_11 rfl ?_
    refine gX_6_35 C dX6_rank_12 ?_
    refine gX_6_51 C dX6_rank_15 ?_
    refine e_aload_n C 1 dX6_rank_18 rfl ?_
    refine e_iload C 4 dX6_rank_19 rfl ?_
    obtain ⟨⟨o1, o2⟩, H⟩ := H
    refine aX_19 C o1 dX6_rank_21 ?_
    refine e_aaldG C o2 dX6_rank_22 ?_
    refine gX_6_57 C o2 dX6_rank_23 ?_
    refine e_lstore C dX6_rank_26 (by decide) rfl ?_
    refine e_iconst C dX6_rank_28 ?_
    refine e_istore C dX6_rank_29 (by decide) rfl ?_
    refine e_iconst C dX6_rank_31 ?_
    refine e_istore C dX6_rank_32 (by decide) rfl ?_
    exact e_sub [3, 4, 5, 6, 7, 2, 1, 0] rfl H
set_option maxRecDepth 4000 in
theorem B_X6_rank_34 {g : Gs} {ad : Nat → Nat} {sk : (Nat → Nat) × (Nat → Nat)} {X : Cx} {mc ms k n : Nat} {PQ : Option Value → Mem → Prop} {PX : String → Mem → Prop} {M : Mem} {x2 x3 x4 x5 x7 x8 : Int} (r2 : R32 x2) (r3 : R32 x3) (r4 : R32 x4) (r5 : R64 x5) (r7 : R32 x7) (r8 : R32 x8) (hk : k ≤ mc) (hn : n ≤ ms) (C : OkB (wC g ad sk) X cX6_rank RX6 9 2 mc ms) (Y : OkR (wC g ad sk) X (some .int) mc ms PQ PX) (H : (0 ≤ x4 ∧ x4 < 4) ∧ ((((M 10 x4) < x8) → ((R32 (x3 * x7)) ∧ (R32 (x4 + 1))) ∧ E (wC g ad sk) X k n (up (up (up M 16 x4 0) 14 x4 x7) 15 x4 x3) 5 [(0, .ref (ad 3)), (1, .ref (ad 19)), (2, vI x2), (3, vI (x3 * x7)), (4, vI (x4 + 1))] []) ∧ ((x8 ≤ (M 10 x4)) → (((¬(hasB x5 x8)) → (R32 (x8 + 1)) ∧ E (wC g ad sk) X k n M 34 [(0, .ref (ad 3)), (1, .ref (ad 19)), (2, vI x2), (3, vI x3), (4, vI x4), (5, vL x5), (7, vI x7), (8, vI (x8 + 1))] []) ∧ ((hasB x5 x8) → ((0 ≤ x8 ∧ x8 < 40) ∧ (0 ≤ x7 ∧ x7 < 40) ∧ (R32 (x7 + 1)) ∧ (R32 (x8 + 1))) ∧ E (wC g ad sk) X k n (up (up M 12 (4 * x8 + x4) x7) 13 (4 * x7 + x4) x8) 34 [(0, .ref (ad 3)), (1, .ref (ad 19)), (2, vI x2), (3, vI x3), (4, vI x4), (5, vL x5), (7, vI (x7 + 1)), (8, vI (x8 + 1))] []))))) : E (wC g ad sk) X k n M 34 [(0, .ref (ad 3)), (1, .ref (ad 19)), (2, vI x2), (3, vI x3), (4, vI x4), (5, vL x5), (7, vI x7), (8, vI x8)] [] := by
  refine e_wf (fun hw0 => ?_)
  refine e_iload C 7 dX6_rank_34 rfl ?_
  refine e_aload_n C 1 dX6_rank_36 rfl ?_
  refine e_iload C 4 dX6_rank_37 rfl ?_
  obtain ⟨o1, H⟩ := H
  refine aX_19 C o1 dX6_rank_39 ?_
  refine e_icmp_gt C 86 r8 (hw0.2.1 10 _ rfl) dX6_rank_40 (by decide) (fun c9 => ?_) (fun c9 => ?_)
  · replace H := H.1 c9
    refine e_aload_n C 0 dX6_rank_86 rfl ?_
    refine gX_6_26 C dX6_rank_87 ?_
    refine e_iload C 4 dX6_rank_90 rfl ?_
    refine e_iconst C dX6_rank_92 ?_
    refine sX_32 C o1 (by decide) dX6_rank_93 ?_
    refine e_wf (fun hw2 => ?_)
    refine e_aload_n C 0 dX6_rank_94 rfl ?_
    refine gX_6_19 C dX6_rank_95 ?_
    refine e_iload C 4 dX6_rank_98 rfl ?_
    refine e_iload C 6 dX6_rank_100 rfl ?_
    refine sX_30 C o1 r7 dX6_rank_102 ?_
    refine e_wf (fun hw3 => ?_)
    refine e_aload_n C 0 dX6_rank_103 rfl ?_
    refine gX_6_23 C dX6_rank_104 ?_
    refine e_iload C 4 dX6_rank_107 rfl ?_
    refine e_iload_n C 3 dX6_rank_109 rfl ?_
    refine sX_31 C o1 r3 dX6_rank_110 ?_
    refine e_wf (fun hw4 => ?_)
    refine e_iload_n C 3 dX6_rank_111 rfl ?_
    refine e_iload C 6 dX6_rank_112 rfl ?_
    obtain ⟨⟨o5, o6⟩, H⟩ := H
    refine e_imul C dX6_rank_114 ?_
    refine e_istore_n C dX6_rank_115 (by decide) rfl ?_
    refine e_iinc C 4 dX6_rank_116 rfl (by decide) rfl ?_
    refine e_goto C 5 dX6_rank_119 (by decide) ?_
    exact e_sub [2, 3, 4, 1, 0] rfl H
  · replace H := H.2 c9
    refine e_lload C 5 dX6_rank_43 rfl ?_
    refine e_iload C 7 dX6_rank_45 rfl ?_
    refine e_callSN (As := [vL x5, vI x8]) (rest := []) C Y mi_X9_contains ms_X9_contains (host := "HotGames") (by decide +kernel) (s_X9_contains r5 r8) (by decide) (Nat.le_of_ble_eq_true rfl) hk hn dX6_rank_47 rfl ?_
    refine e_if_eq C 80 (b2i_r _) dX6_rank_50 (by decide) (fun c9 => ?_) (fun c9 => ?_)
    · replace H := H.1 (b2i_0.mp c9)
      obtain ⟨o7, H⟩ := H
      refine e_iinc C 7 dX6_rank_80 rfl (by decide) rfl ?_
      refine e_goto C 34 dX6_rank_83 (by decide) ?_
      exact e_sub [1, 2, 3, 4, 5, 6, 7, 0] rfl H
    · replace H := H.2 (b2i_n0.mp c9)
      refine e_aload_n C 0 dX6_rank_53 rfl ?_
      refine gX_6_11 C dX6_rank_54 ?_
      refine e_iload C 4 dX6_rank_57 rfl ?_
      refine e_aaldR C o1 dX6_rank_59 ?_
      refine e_iload C 7 dX6_rank_60 rfl ?_
      refine e_iload C 6 dX6_rank_62 rfl ?_
      obtain ⟨⟨o8, o10, o12, o13⟩, H⟩ := H
      refine sR_R C o1 o8 r7 dX6_rank_64 ?_
      refine e_wf (fun hw9 => ?_)
      refine e_aload_n C 0 dX6_rank_65 rfl ?_
      refine gX_6_16 C dX6_rank_66 ?_
      refine e_iload C 4 dX6_rank_69 rfl ?_
      refine e_aaldK C o1 dX6_rank_71 ?_
      refine e_iload C 6 dX6_rank_72 rfl ?_
      refine e_iload C 7 dX6_rank_74 rfl ?_
      refine sR_K C o1 o10 r8 dX6_rank_76 ?_
      refine e_wf (fun hw11 => ?_)
      refine e_iinc C 6 dX6_rank_77 rfl (by decide) rfl ?_
      refine e_iinc C 7 dX6_rank_80 rfl (by decide) rfl ?_
      refine e_goto C 34 dX6_rank_83 (by decide) ?_
      exact e_sub [2, 3, 4, 5, 6, 7, 1, 0] rfl H
set_option maxRecDepth 4000 in
theorem B_X6_bestFrom_0 {g : Gs} {ad : Nat → Nat} {sk : (Nat → Nat) × (Nat → Nat)} {X : Cx} {mc ms k n : Nat} {PQ : Option Value → Mem → Prop} {PX : String → Mem → Prop} {M : Mem} {x1 x2 x3 : Int} (r1 : R32 x1) (r2 : R32 x2) (r3 : R32 x3) (hk : k ≤ mc) (hn : n ≤ ms) (C : OkB (wC g ad sk) X cX6_bestFrom RX6 12 2 mc ms) (Y : OkR (wC g ad sk) X (some .int) mc ms PQ PX) (H : (((x3 ≠ 0) → E (wC g ad sk) X k n M 33 [(0, .ref (ad 3)), (1, vI x1), (2, vI x2), (3, vI x3), (4, vI (sgnS x3)), (5, .ref (Int.toNat (M 19 0))), (6, vI (-16777216)), (7, vI 0), (8, vI 0)] []) ∧ ((x3 = 0) → E (wC g ad sk) X k n M 33 [(0, .ref (ad 3)), (1, vI x1), (2, vI x2), (3, vI x3), (4, vI (sgnS x3)), (5, .ref (Int.toNat (M 19 1))), (6, vI (-16777216)), (7, vI 0), (8, vI 0)] []))) : E (wC g ad sk) X k n M 0 [(0, .ref (ad 3)), (1, vI x1), (2, vI x2), (3, vI x3)] [] := by
  refine e_wf (fun hw0 => ?_)
  refine e_iload_n C 3 dX6_bestFrom_0 rfl ?_
  refine e_callSN (As := [vI x3]) (rest := []) C Y mi_X9_signOf ms_X9_signOf (host := "HotGames") (by decide +kernel) (s_X9_signOf r3) (by decide) (Nat.le_of_ble_eq_true rfl) hk hn dX6_bestFrom_1 rfl ?_
  refine e_istore C dX6_bestFrom_4 (by decide) rfl ?_
  refine e_iload_n C 4 dX6_bestFrom_6 rfl ?_
  refine e_if_ne C 17 r3 dX6_bestFrom_7 (by decide) (fun c9 => ?_) (fun c9 => ?_)
  · replace H := H.1 c9
    refine e_aload_n C 1 dX6_bestFrom_17 rfl ?_
    refine gX_6_29 C dX6_bestFrom_18 ?_
    refine e_astore C dX6_bestFrom_21 (by decide) rfl ?_
    refine e_ldc C (v := (-16777216)) (tg5 15 rfl rfl) (by decide) dX6_bestFrom_23 ?_
    refine e_istore C dX6_bestFrom_25 (by decide) rfl ?_
    refine e_iconst C dX6_bestFrom_27 ?_
    refine e_istore C dX6_bestFrom_28 (by decide) rfl ?_
    refine e_iconst C dX6_bestFrom_30 ?_
    refine e_istore C dX6_bestFrom_31 (by decide) rfl ?_
    exact e_sub [5, 6, 7, 8, 4, 3, 2, 1, 0] rfl H
  · replace H := H.2 c9
    refine e_aload_n C 1 dX6_bestFrom_10 rfl ?_
    refine gX_6_32 C dX6_bestFrom_11 ?_
    refine e_goto C 21 dX6_bestFrom_14 (by decide) ?_
    refine e_astore C dX6_bestFrom_21 (by decide) rfl ?_
    refine e_ldc C (v := (-16777216)) (tg5 15 rfl rfl) (by decide) dX6_bestFrom_23 ?_
    refine e_istore C dX6_bestFrom_25 (by decide) rfl ?_
    refine e_iconst C dX6_bestFrom_27 ?_
    refine e_istore C dX6_bestFrom_28 (by decide) rfl ?_
    refine e_iconst C dX6_bestFrom_30 ?_
    refine e_istore C dX6_bestFrom_31 (by decide) rfl ?_
    exact e_sub [5, 6, 7, 8, 4, 3, 2, 1, 0] rfl H
set_option maxRecDepth 4000 in
theorem B_X6_bestFrom_33 {g : Gs} {ad : Nat → Nat} {sk : (Nat → Nat) × (Nat → Nat)} {X : Cx} {mc ms k n : Nat} {PQ : Option Value → Mem → Prop} {PX : String → Mem → Prop} {M : Mem} {x1 x2 x3 x4 x5 x6 x7 x8 : Int} (r1 : R32 x1) (r2 : R32 x2) (r3 : R32 x3) (r4 : R32 x4) (r5 : 0 ≤ x5 ∧ x5 < 2) (r6 : R32 x6) (r7 : R32 x7) (r8 : R32 x8) (hk : k ≤ mc) (hn : n ≤ ms) (C : OkB (wC g ad sk) X cX6_bestFrom RX6 12 2 mc ms) (Y : OkR (wC g ad sk) X (some .int) mc ms PQ PX) (H : (((x2 ≤ x8) → (((x6 ≠ (-16777216)) → (R32 (x4 * x6)) ∧ PQ (some (vI (x4 * x6))) M) ∧ ((x6 = (-16777216)) → PQ (some (vI x7)) M))) ∧ ((x8 < x2) → ((0 ≤ x8 ∧ x8 < 4) ∧ (0 ≤ M 16 x8 ∧ M 16 x8 < 40) ∧ (0 ≤ M 13 (4 * (M 16 x8) + x8) ∧ M 13 (4 * (M 16 x8) + x8) < 40) ∧ (R32 (x7 + (M 50 (M 13 (4 * (M 16 x8) + x8)))))) ∧ E (wC g ad sk) X k n M 77 [(0, .ref (ad 3)), (1, vI x1), (2, vI x2), (3, vI x3), (4, vI x4), (5, .ref (Int.toNat (M 19 x5))), (6, vI x6), (7, vI (x7 + (M 50 (M 13 (4 * (M 16 x8) + x8))))), (8, vI x8), (9, .ref (ad (44 + 6 * (Int.toNat (M 13 (4 * (M 16 x8) + x8)))))), (10, vI 0)] []))) : E (wC g ad sk) X k n M 33 [(0, .ref (ad 3)), (1, vI x1), (2, vI x2), (3, vI x3), (4, vI x4), (5, .ref (Int.toNat (M 19 x5))), (6, vI x6), (7, vI x7), (8, vI x8)] [] := by
  refine e_wf (fun hw0 => ?_)
  refine e_iload C 8 dX6_bestFrom_33 rfl ?_
  refine e_iload_n C 2 dX6_bestFrom_35 rfl ?_
  refine e_icmp_ge C 160 r8 r2 dX6_bestFrom_36 (by decide) (fun c9 => ?_) (fun c9 => ?_)
  · replace H := H.1 c9
    refine e_iload C 6 dX6_bestFrom_160 rfl ?_
    refine e_ldc C (v := (-16777216)) (tg5 15 rfl rfl) (by decide) dX6_bestFrom_162 ?_
    refine e_icmp_ne C 172 r6 (by decide) dX6_bestFrom_164 (by decide) (fun c9 => ?_) (fun c9 => ?_)
    · replace H := H.1 c9
      refine e_iload C 4 dX6_bestFrom_172 rfl ?_
      refine e_iload C 6 dX6_bestFrom_174 rfl ?_
      obtain ⟨o1, H⟩ := H
      refine e_imul C dX6_bestFrom_176 ?_
      exact e_iret C Y hk hn dX6_bestFrom_177 H
    · replace H := H.2 c9
      refine e_iload C 7 dX6_bestFrom_167 rfl ?_
      refine e_goto C 177 dX6_bestFrom_169 (by decide) ?_
      exact e_iret C Y hk hn dX6_bestFrom_177 H
  · replace H := H.2 c9
    refine e_aload_n C 0 dX6_bestFrom_39 rfl ?_
    refine gX_6_35 C dX6_bestFrom_40 ?_
    refine gX_6_51 C dX6_bestFrom_43 ?_
    refine e_aload_n C 0 dX6_bestFrom_46 rfl ?_
    refine gX_6_16 C dX6_bestFrom_47 ?_
    refine e_iload C 8 dX6_bestFrom_50 rfl ?_
    obtain ⟨⟨o2, o3, o4, o5⟩, H⟩ := H
    refine e_aaldK C o2 dX6_bestFrom_52 ?_
    refine e_aload_n C 0 dX6_bestFrom_53 rfl ?_
    refine gX_6_26 C dX6_bestFrom_54 ?_
    refine e_iload C 8 dX6_bestFrom_57 rfl ?_
    refine aX_32 C o2 dX6_bestFrom_59 ?_
    refine aR_K C o2 o3 dX6_bestFrom_60 ?_
    refine e_aaldG C o4 dX6_bestFrom_61 ?_
    refine e_astore C dX6_bestFrom_62 (by decide) rfl ?_
    refine e_iload C 8 dX6_bestFrom_64 rfl ?_
    refine e_aload C 0 dX6_bestFrom_66 rfl ?_
    refine gX_6_72 C o4 dX6_bestFrom_68 ?_
    refine e_iadd C dX6_bestFrom_71 ?_
    refine e_istore C dX6_bestFrom_72 (by decide) rfl ?_
    refine e_iconst C dX6_bestFrom_74 ?_
    refine e_istore C dX6_bestFrom_75 (by decide) rfl ?_
    exact e_sub [3, 4, 5, 6, 7, 8, 9, 1, 10, 2, 0] rfl H
set_option maxRecDepth 4000 in
theorem B_X6_bestFrom_77 {g : Gs} {ad : Nat → Nat} {sk : (Nat → Nat) × (Nat → Nat)} {X : Cx} {mc ms k n : Nat} {PQ : Option Value → Mem → Prop} {PX : String → Mem → Prop} {M : Mem} {x1 x2 x3 x4 x5 x6 x7 x8 x9 x10 : Int} (r1 : R32 x1) (r2 : R32 x2) (r3 : R32 x3) (r4 : R32 x4) (r5 : 0 ≤ x5 ∧ x5 < 2) (r6 : R32 x6) (r7 : R32 x7) (r8 : R32 x8) (r9 : 0 ≤ x9 ∧ x9 < 40) (r10 : R32 x10) (hk : k ≤ mc) (hn : n ≤ ms) (C : OkB (wC g ad sk) X cX6_bestFrom RX6 12 2 mc ms) (Y : OkR (wC g ad sk) X (some .int) mc ms PQ PX) (H : (0 ≤ x3 ∧ x3 < 2) ∧ ((((M 41 (40 * x3 + x9)) ≤ x10) → (R32 (x8 + 1)) ∧ E (wC g ad sk) X k n M 33 [(0, .ref (ad 3)), (1, vI x1), (2, vI x2), (3, vI x3), (4, vI x4), (5, .ref (Int.toNat (M 19 x5))), (6, vI x6), (7, vI x7), (8, vI (x8 + 1))] []) ∧ ((x10 < (M 41 (40 * x3 + x9))) → ((((M 49 x9) ≠ 0) → (R32 (x8 + 1)) ∧ E (wC g ad sk) X k n M 33 [(0, .ref (ad 3)), (1, vI x1), (2, vI x2), (3, vI x3), (4, vI x4), (5, .ref (Int.toNat (M 19 x5))), (6, vI x6), (7, vI x7), (8, vI (x8 + 1))] []) ∧ (((M 49 x9) = 0) → ((0 ≤ x8 ∧ x8 < 4) ∧ ((0 ≤ x3 ∧ x3 ≤ 1) ∧ M 41 (40 * x3 + x9) ≤ 4) ∧ (0 ≤ optAt M x9 x3 x10 ∧ optAt M x9 x3 x10 < 40) ∧ (R32 ((M 16 x8) - (M 12 (4 * (optAt M x9 x3 x10) + x8)))) ∧ (R32 (((M 16 x8) - (M 12 (4 * (optAt M x9 x3 x10) + x8))) * (M 15 x8))) ∧ (R32 (x1 - (((M 16 x8) - (M 12 (4 * (optAt M x9 x3 x10) + x8))) * (M 15 x8)))) ∧ (0 ≤ x1 - (((M 16 x8) - (M 12 (4 * (optAt M x9 x3 x10) + x8))) * (M 15 x8)) ∧ x1 - (((M 16 x8) - (M 12 (4 * (optAt M x9 x3 x10) + x8))) * (M 15 x8)) < (M 20 0)) ∧ (R32 (x4 * (M (scC x5) (x1 - (((M 16 x8) - (M 12 (4 * (optAt M x9 x3 x10) + x8))) * (M 15 x8)))))) ∧ (R32 (x10 + 1))) ∧ E (wC g ad sk) X k n M 77 [(0, .ref (ad 3)), (1, vI x1), (2, vI x2), (3, vI x3), (4, vI x4), (5, .ref (Int.toNat (M 19 x5))), (6, vI (max x6 (x4 * (M (scC x5) (x1 - (((M 16 x8) - (M 12 (4 * (optAt M x9 x3 x10) + x8))) * (M 15 x8))))))), (7, vI x7), (8, vI x8), (9, .ref (ad (44 + 6 * (Int.toNat x9)))), (10, vI (x10 + 1))] []))))) : E (wC g ad sk) X k n M 77 [(0, .ref (ad 3)), (1, vI x1), (2, vI x2), (3, vI x3), (4, vI x4), (5, .ref (Int.toNat (M 19 x5))), (6, vI x6), (7, vI x7), (8, vI x8), (9, .ref (ad (44 + 6 * (Int.toNat x9)))), (10, vI x10)] [] := by
  refine e_wf (fun hw0 => ?_)
  refine e_iload C 10 dX6_bestFrom_77 rfl ?_
  refine e_aload C 9 dX6_bestFrom_79 rfl ?_
  refine gX_6_76 C r9 dX6_bestFrom_81 ?_
  refine e_iload_n C 3 dX6_bestFrom_84 rfl ?_
  obtain ⟨o1, H⟩ := H
  refine aG_2 C r9 o1 dX6_bestFrom_85 ?_
  refine e_icmp_ge C 154 r10 (hw0.2.1 41 _ rfl) dX6_bestFrom_86 (by decide) (fun c9 => ?_) (fun c9 => ?_)
  · replace H := H.1 c9
    obtain ⟨o2, H⟩ := H
    refine e_iinc C 8 dX6_bestFrom_154 rfl (by decide) rfl ?_
    refine e_goto C 33 dX6_bestFrom_157 (by decide) ?_
    exact e_sub [1, 2, 3, 4, 5, 6, 7, 8, 0] rfl H
  · replace H := H.2 c9
    refine e_aload C 9 dX6_bestFrom_89 rfl ?_
    refine gX_6_79 C r9 dX6_bestFrom_91 ?_
    refine e_if_ne C 154 (hw0.2.1 49 _ rfl) dX6_bestFrom_94 (by decide) (fun c9 => ?_) (fun c9 => ?_)
    · replace H := H.1 c9
      obtain ⟨o3, H⟩ := H
      refine e_iinc C 8 dX6_bestFrom_154 rfl (by decide) rfl ?_
      refine e_goto C 33 dX6_bestFrom_157 (by decide) ?_
      exact e_sub [1, 2, 3, 4, 5, 6, 7, 8, 0] rfl H
    · replace H := H.2 c9
      refine e_aload_n C 0 dX6_bestFrom_97 rfl ?_
      refine gX_6_26 C dX6_bestFrom_98 ?_
      refine e_iload C 8 dX6_bestFrom_101 rfl ?_
      obtain ⟨⟨o4, o5, o6, o7, o8, o9, o10, o11, o12⟩, H⟩ := H
      refine aX_32 C o4 dX6_bestFrom_103 ?_
      refine e_aload_n C 0 dX6_bestFrom_104 rfl ?_
      refine gX_6_11 C dX6_bestFrom_105 ?_
      refine e_iload C 8 dX6_bestFrom_108 rfl ?_
      refine e_aaldR C o4 dX6_bestFrom_110 ?_
      refine e_aload C 9 dX6_bestFrom_111 rfl ?_
      refine e_iload_n C 3 dX6_bestFrom_113 rfl ?_
      refine e_iload C 10 dX6_bestFrom_114 rfl ?_
      refine e_callVD (As := [vI x3, vI x10]) (rest := [.ref (ad (21 + (Int.toNat x8))), vI (M 16 x8)]) (ci := 2) C Y mi_X2_optionAt ms_X2_optionAt mv_X2_optionAt ml_X6_83 (s_X2_optionAt r9 r3 r10 o5) (heG r9) rfl (by decide) (Nat.le_of_ble_eq_true rfl) hk hn dX6_bestFrom_116 rfl ?_
      refine aR_R C o4 o6 dX6_bestFrom_119 ?_
      refine e_isub C dX6_bestFrom_120 ?_
      refine e_istore C dX6_bestFrom_121 (by decide) rfl ?_
      refine e_iload C 7 dX6_bestFrom_123 rfl ?_
      refine e_iload C 5 dX6_bestFrom_125 rfl ?_
      refine e_aload C 6 dX6_bestFrom_127 rfl ?_
      refine e_iload_n C 2 dX6_bestFrom_129 rfl ?_
      refine e_iload C 0 dX6_bestFrom_130 rfl ?_
      refine e_aload_n C 1 dX6_bestFrom_132 rfl ?_
      refine gX_6_23 C dX6_bestFrom_133 ?_
      refine e_iload C 9 dX6_bestFrom_136 rfl ?_
      refine aX_31 C o4 dX6_bestFrom_138 ?_
      refine e_imul C dX6_bestFrom_139 ?_
      refine e_isub C dX6_bestFrom_140 ?_
      refine aS C r5 o10 dX6_bestFrom_141 ?_
      refine e_imul C dX6_bestFrom_142 ?_
      refine e_max C r6 o11 (tg5 17 rfl rfl) (by decide) (Nat.le_of_ble_eq_true rfl) hk hn dX6_bestFrom_143 ?_
      refine e_istore C dX6_bestFrom_146 (by decide) rfl ?_
      refine e_iinc C 11 dX6_bestFrom_148 rfl (by decide) rfl ?_
      refine e_goto C 77 dX6_bestFrom_151 (by decide) ?_
      exact e_sub [3, 4, 5, 6, 7, 8, 1, 9, 10, 11, 0] rfl H
set_option maxRecDepth 4000 in
theorem B_X8_advance_0 {g : Gs} {ad : Nat → Nat} {sk : (Nat → Nat) × (Nat → Nat)} {X : Cx} {mc ms k n : Nat} {PQ : Option Value → Mem → Prop} {PX : String → Mem → Prop} {M : Mem}  (hk : k ≤ mc) (hn : n ≤ ms) (C : OkB (wC g ad sk) X cX8_advance RX8 1 2 mc ms) (Y : OkR (wC g ad sk) X none mc ms PQ PX) (H : ((((M 23 0) ≤ (M 30 0)) → E (wC g ad sk) X k n M 38 [(0, .ref (ad 5))] []) ∧ (((M 30 0) < (M 23 0)) → (0 ≤ M 30 0 ∧ M 30 0 < 80) ∧ ((((M 24 (M 30 0)) ≠ 32) → E (wC g ad sk) X k n M 38 [(0, .ref (ad 5))] []) ∧ (((M 24 (M 30 0)) = 32) → (R32 ((M 30 0) + 1)) ∧ E (wC g ad sk) X k n (up M 30 0 ((M 30 0) + 1)) 0 [(0, .ref (ad 5))] []))))) : E (wC g ad sk) X k n M 0 [(0, .ref (ad 5))] [] := by
  refine e_wf (fun hw0 => ?_)
  refine e_aload_n C 0 dX8_advance_0 rfl ?_
  refine gX_8_33 C dX8_advance_1 ?_
  refine e_aload_n C 0 dX8_advance_4 rfl ?_
  refine gX_8_15 C dX8_advance_5 ?_
  refine e_icmp_ge C 38 (hw0.2.1 30 _ rfl) (hw0.2.1 23 _ rfl) dX8_advance_8 (by decide) (fun c9 => ?_) (fun c9 => ?_)
  · replace H := H.1 c9
    exact e_sub [0] rfl H
  · replace H := H.2 c9
    refine e_aload_n C 0 dX8_advance_11 rfl ?_
    refine gX_8_19 C dX8_advance_12 ?_
    refine e_aload_n C 0 dX8_advance_15 rfl ?_
    refine gX_8_33 C dX8_advance_16 ?_
    obtain ⟨o1, H⟩ := H
    refine aX_36 C o1 dX8_advance_19 ?_
    refine e_bipush C dX8_advance_20 (by decide) ?_
    refine e_icmp_ne C 38 (hw0.2.1 24 _ rfl) (by decide) dX8_advance_22 (by decide) (fun c9 => ?_) (fun c9 => ?_)
    · replace H := H.1 c9
      exact e_sub [0] rfl H
    · replace H := H.2 c9
      refine e_aload_n C 0 dX8_advance_25 rfl ?_
      refine e_dup C rfl dX8_advance_26 ?_
      refine gX_8_33 C dX8_advance_27 ?_
      refine e_iconst C dX8_advance_30 ?_
      obtain ⟨o2, H⟩ := H
      refine e_iadd C dX8_advance_31 ?_
      refine pX_8_33 C o2 dX8_advance_32 ?_
      refine e_wf (fun hw3 => ?_)
      refine e_goto C 0 dX8_advance_35 (by decide) ?_
      exact e_sub [0] rfl H
set_option maxRecDepth 4000 in
theorem B_X8_advance_38 {g : Gs} {ad : Nat → Nat} {sk : (Nat → Nat) × (Nat → Nat)} {X : Cx} {mc ms k n : Nat} {PQ : Option Value → Mem → Prop} {PX : String → Mem → Prop} {M : Mem}  (hk : k ≤ mc) (hn : n ≤ ms) (C : OkB (wC g ad sk) X cX8_advance RX8 1 2 mc ms) (Y : OkR (wC g ad sk) X none mc ms PQ PX) (H : ∃ Q4 : Int → Mem → Prop, SpI (wC g ad sk) yX8_kindAt cX8_kindAt 4 (some .int) 1 [.ref (ad 5), vI (M 30 0)] (up M 29 0 (M 30 0)) Q4 ∧ ∀ (z5 : Int) (M3 : Mem), Q4 z5 M3 → R32 z5 ∧ (((z5 = 0) → E (wC g ad sk) X k n (up M3 28 0 z5) 75 [(0, .ref (ad 5))] []) ∧ ((z5 ≠ 0) → (R32 ((M3 30 0) + 1)) ∧ E (wC g ad sk) X k n (up (up M3 28 0 z5) 30 0 ((M3 30 0) + 1)) 75 [(0, .ref (ad 5))] []))) : E (wC g ad sk) X k n M 38 [(0, .ref (ad 5))] [] := by
  refine e_wf (fun hw0 => ?_)
  refine e_aload_n C 0 dX8_advance_38 rfl ?_
  refine e_aload_n C 0 dX8_advance_39 rfl ?_
  refine gX_8_33 C dX8_advance_40 ?_
  refine pX_8_51 C (hw0.2.1 30 _ rfl) dX8_advance_43 ?_
  refine e_wf (fun hw1 => ?_)
  refine e_aload_n C 0 dX8_advance_46 rfl ?_
  refine e_aload_n C 0 dX8_advance_47 rfl ?_
  refine e_aload_n C 0 dX8_advance_48 rfl ?_
  refine gX_8_51 C dX8_advance_49 ?_
  obtain ⟨Q4, h2, H⟩ := H
  refine e_callVI (As := [vI (M 30 0)]) (rest := [.ref (ad 5)]) (q0 := 5) (ci := 8) C Y mi_X8_kindAt ms_X8_kindAt mv_X8_kindAt ml_X8_54 h2 (wlX_st rfl) rfl (by decide) (Nat.le_of_ble_eq_true rfl) hk hn dX8_advance_52 rfl (fun z5 M3 hq9 => ?_)
  obtain ⟨o6, H⟩ := H z5 M3 hq9
  refine e_wf (fun hw7 => ?_)
  refine pX_8_58 C o6 dX8_advance_55 ?_
  refine e_wf (fun hw8 => ?_)
  refine e_aload_n C 0 dX8_advance_58 rfl ?_
  refine gX_8_58 C dX8_advance_59 ?_
  refine e_if_eq C 75 o6 dX8_advance_62 (by decide) (fun c9 => ?_) (fun c9 => ?_)
  · replace H := H.1 c9
    exact e_sub [0] rfl H
  · replace H := H.2 c9
    refine e_aload_n C 0 dX8_advance_65 rfl ?_
    refine e_dup C rfl dX8_advance_66 ?_
    refine gX_8_33 C dX8_advance_67 ?_
    refine e_iconst C dX8_advance_70 ?_
    obtain ⟨o9, H⟩ := H
    refine e_iadd C dX8_advance_71 ?_
    refine pX_8_33 C o9 dX8_advance_72 ?_
    refine e_wf (fun hw10 => ?_)
    exact e_sub [0] rfl H
set_option maxRecDepth 4000 in
theorem B_X8_advance_75 {g : Gs} {ad : Nat → Nat} {sk : (Nat → Nat) × (Nat → Nat)} {X : Cx} {mc ms k n : Nat} {PQ : Option Value → Mem → Prop} {PX : String → Mem → Prop} {M : Mem}  (hk : k ≤ mc) (hn : n ≤ ms) (C : OkB (wC g ad sk) X cX8_advance RX8 1 2 mc ms) (Y : OkR (wC g ad sk) X none mc ms PQ PX) (H : ((((M 28 0) = 2) → E (wC g ad sk) X k n M 91 [(0, .ref (ad 5))] []) ∧ (((M 28 0) ≠ 2) → ((((M 28 0) ≠ 3) → PQ none M) ∧ (((M 28 0) = 3) → E (wC g ad sk) X k n M 91 [(0, .ref (ad 5))] []))))) : E (wC g ad sk) X k n M 75 [(0, .ref (ad 5))] [] := by
  refine e_wf (fun hw0 => ?_)
  refine e_aload_n C 0 dX8_advance_75 rfl ?_
  refine gX_8_58 C dX8_advance_76 ?_
  refine e_iconst C dX8_advance_79 ?_
  refine e_icmp_eq C 91 (hw0.2.1 28 _ rfl) (by decide) dX8_advance_80 (by decide) (fun c9 => ?_) (fun c9 => ?_)
  · replace H := H.1 c9
    exact e_sub [0] rfl H
  · replace H := H.2 c9
    refine e_aload_n C 0 dX8_advance_83 rfl ?_
    refine gX_8_58 C dX8_advance_84 ?_
    refine e_iconst C dX8_advance_87 ?_
    refine e_icmp_ne C 130 (hw0.2.1 28 _ rfl) (by decide) dX8_advance_88 (by decide) (fun c9 => ?_) (fun c9 => ?_)
    · replace H := H.1 c9
      exact e_vret C Y hk hn dX8_advance_130 H
    · replace H := H.2 c9
      exact e_sub [0] rfl H
set_option maxRecDepth 4000 in
theorem B_X8_advance_91 {g : Gs} {ad : Nat → Nat} {sk : (Nat → Nat) × (Nat → Nat)} {X : Cx} {mc ms k n : Nat} {PQ : Option Value → Mem → Prop} {PX : String → Mem → Prop} {M : Mem}  (hk : k ≤ mc) (hn : n ≤ ms) (C : OkB (wC g ad sk) X cX8_advance RX8 1 2 mc ms) (Y : OkR (wC g ad sk) X none mc ms PQ PX) (H : ((((M 23 0) ≤ (M 30 0)) → PQ none M) ∧ (((M 30 0) < (M 23 0)) → ∃ Q3 : Int → Mem → Prop, SpI (wC g ad sk) yX8_kindAt cX8_kindAt 4 (some .int) 1 [.ref (ad 5), vI (M 30 0)] M Q3 ∧ ∀ (z4 : Int) (M2 : Mem), Q3 z4 M2 → R32 z4 ∧ (((z4 ≠ (M2 28 0)) → PQ none M2) ∧ ((z4 = (M2 28 0)) → (R32 ((M2 30 0) + 1)) ∧ E (wC g ad sk) X k n (up M2 30 0 ((M2 30 0) + 1)) 75 [(0, .ref (ad 5))] []))))) : E (wC g ad sk) X k n M 91 [(0, .ref (ad 5))] [] := by
  refine e_wf (fun hw0 => ?_)
  refine e_aload_n C 0 dX8_advance_91 rfl ?_
  refine gX_8_33 C dX8_advance_92 ?_
  refine e_aload_n C 0 dX8_advance_95 rfl ?_
  refine gX_8_15 C dX8_advance_96 ?_
  refine e_icmp_ge C 130 (hw0.2.1 30 _ rfl) (hw0.2.1 23 _ rfl) dX8_advance_99 (by decide) (fun c9 => ?_) (fun c9 => ?_)
  · replace H := H.1 c9
    exact e_vret C Y hk hn dX8_advance_130 H
  · replace H := H.2 c9
    refine e_aload_n C 0 dX8_advance_102 rfl ?_
    refine e_aload_n C 0 dX8_advance_103 rfl ?_
    refine gX_8_33 C dX8_advance_104 ?_
    obtain ⟨Q3, h1, H⟩ := H
    refine e_callVI (As := [vI (M 30 0)]) (rest := []) (q0 := 5) (ci := 8) C Y mi_X8_kindAt ms_X8_kindAt mv_X8_kindAt ml_X8_54 h1 (wlX_st rfl) rfl (by decide) (Nat.le_of_ble_eq_true rfl) hk hn dX8_advance_107 rfl (fun z4 M2 hq9 => ?_)
    obtain ⟨o5, H⟩ := H z4 M2 hq9
    refine e_wf (fun hw6 => ?_)
    refine e_aload_n C 0 dX8_advance_110 rfl ?_
    refine gX_8_58 C dX8_advance_111 ?_
    refine e_icmp_ne C 130 o5 (hw6.2.1 28 _ rfl) dX8_advance_114 (by decide) (fun c9 => ?_) (fun c9 => ?_)
    · replace H := H.1 c9
      exact e_vret C Y hk hn dX8_advance_130 H
    · replace H := H.2 c9
      refine e_aload_n C 0 dX8_advance_117 rfl ?_
      refine e_dup C rfl dX8_advance_118 ?_
      refine gX_8_33 C dX8_advance_119 ?_
      refine e_iconst C dX8_advance_122 ?_
      obtain ⟨o7, H⟩ := H
      refine e_iadd C dX8_advance_123 ?_
      refine pX_8_33 C o7 dX8_advance_124 ?_
      refine e_wf (fun hw8 => ?_)
      refine e_goto C 75 dX8_advance_127 (by decide) ?_
      exact e_sub [0] rfl H
set_option maxRecDepth 4000 in
theorem B_X8_notePair_0 {g : Gs} {ad : Nat → Nat} {sk : (Nat → Nat) × (Nat → Nat)} {X : Cx} {mc ms k n : Nat} {PQ : Option Value → Mem → Prop} {PX : String → Mem → Prop} {M : Mem} {x1 x2 : Int} (r1 : R32 x1) (r2 : R32 x2) (hk : k ≤ mc) (hn : n ≤ ms) (C : OkB (wC g ad sk) X cX8_notePair RX8 3 2 mc ms) (Y : OkR (wC g ad sk) X none mc ms PQ PX) (H : ∃ Q3 : Mem → Prop, SpV (wC g ad sk) yX8_note cX8_note 2 none 1 [.ref (ad 5), vI 100] M Q3 ∧ ∀ M2 : Mem, Q3 M2 → ∃ Q7 : Mem → Prop, SpV (wC g ad sk) yX8_note cX8_note 2 none 1 [.ref (ad 5), vI x1] M2 Q7 ∧ ∀ M6 : Mem, Q7 M6 → ∃ Q11 : Mem → Prop, SpV (wC g ad sk) yX8_note cX8_note 2 none 1 [.ref (ad 5), vI 101] M6 Q11 ∧ ∀ M10 : Mem, Q11 M10 → ∃ Q15 : Mem → Prop, SpV (wC g ad sk) yX8_note cX8_note 2 none 1 [.ref (ad 5), vI x2] M10 Q15 ∧ ∀ M14 : Mem, Q15 M14 → ∃ Q19 : Mem → Prop, SpV (wC g ad sk) yX8_note cX8_note 2 none 1 [.ref (ad 5), vI 102] M14 Q19 ∧ ∀ M18 : Mem, Q19 M18 → PQ none M18) : E (wC g ad sk) X k n M 0 [(0, .ref (ad 5)), (1, vI x1), (2, vI x2)] [] := by
  refine e_wf (fun hw0 => ?_)
  refine e_aload_n C 0 dX8_notePair_0 rfl ?_
  refine e_bipush C dX8_notePair_1 (by decide) ?_
  obtain ⟨Q3, h1, H⟩ := H
  refine e_callVV (As := [vI 100]) (rest := []) (q0 := 5) (ci := 8) C Y mi_X8_note ms_X8_note mv_X8_note ml_X8_71 h1 (wlX_st rfl) rfl (by decide) (Nat.le_of_ble_eq_true rfl) hk hn dX8_notePair_3 rfl (fun M2 hq9 => ?_)
  replace H := H M2 hq9
  refine e_wf (fun hw4 => ?_)
  refine e_aload_n C 0 dX8_notePair_6 rfl ?_
  refine e_iload_n C 1 dX8_notePair_7 rfl ?_
  obtain ⟨Q7, h5, H⟩ := H
  refine e_callVV (As := [vI x1]) (rest := []) (q0 := 5) (ci := 8) C Y mi_X8_note ms_X8_note mv_X8_note ml_X8_71 h5 (wlX_st rfl) rfl (by decide) (Nat.le_of_ble_eq_true rfl) hk hn dX8_notePair_8 rfl (fun M6 hq9 => ?_)
  replace H := H M6 hq9
  refine e_wf (fun hw8 => ?_)
  refine e_aload_n C 0 dX8_notePair_11 rfl ?_
  refine e_bipush C dX8_notePair_12 (by decide) ?_
  obtain ⟨Q11, h9, H⟩ := H
  refine e_callVV (As := [vI 101]) (rest := []) (q0 := 5) (ci := 8) C Y mi_X8_note ms_X8_note mv_X8_note ml_X8_71 h9 (wlX_st rfl) rfl (by decide) (Nat.le_of_ble_eq_true rfl) hk hn dX8_notePair_14 rfl (fun M10 hq9 => ?_)
  replace H := H M10 hq9
  refine e_wf (fun hw12 => ?_)
  refine e_aload_n C 0 dX8_notePair_17 rfl ?_
  refine e_iload_n C 2 dX8_notePair_18 rfl ?_
  obtain ⟨Q15, h13, H⟩ := H
  refine e_callVV (As := [vI x2]) (rest := []) (q0 := 5) (ci := 8) C Y mi_X8_note ms_X8_note mv_X8_note ml_X8_71 h13 (wlX_st rfl) rfl (by decide) (Nat.le_of_ble_eq_true rfl) hk hn dX8_notePair_19 rfl (fun M14 hq9 => ?_)
  replace H := H M14 hq9
  refine e_wf (fun hw16 => ?_)
  refine e_aload_n C 0 dX8_notePair_22 rfl ?_
  refine e_bipush C dX8_notePair_23 (by decide) ?_
  obtain ⟨Q19, h17, H⟩ := H
  refine e_callVV (As := [vI 102]) (rest := []) (q0 := 5) (ci := 8) C Y mi_X8_note ms_X8_note mv_X8_note ml_X8_71 h17 (wlX_st rfl) rfl (by decide) (Nat.le_of_ble_eq_true rfl) hk hn dX8_notePair_25 rfl (fun M18 hq9 => ?_)
  replace H := H M18 hq9
  refine e_wf (fun hw20 => ?_)
  exact e_vret C Y hk hn dX8_notePair_28 H
set_option maxRecDepth 4000 in
theorem B_X8_eighthsPerPart_0 {g : Gs} {ad : Nat → Nat} {sk : (Nat → Nat) × (Nat → Nat)} {X : Cx} {mc ms k n : Nat} {PQ : Option Value → Mem → Prop} {PX : String → Mem → Prop} {M : Mem}  (hk : k ≤ mc) (hn : n ≤ ms) (C : OkB (wC g ad sk) X cX8_eighthsPerPart RX8 1 2 mc ms) (Y : OkR (wC g ad sk) X (some .int) mc ms PQ PX) (H : ∃ Q3 : Int → Mem → Prop, SpI (wC g ad sk) yX8_digitsHere cX8_digitsHere 4 (some .int) 1 [.ref (ad 5)] M Q3 ∧ ∀ (z4 : Int) (M2 : Mem), Q3 z4 M2 → R32 z4 ∧ (((z4 = 2) → PQ (some (vI 4)) M2) ∧ ((z4 = 4) → PQ (some (vI 2)) M2) ∧ ((z4 = 8) → PQ (some (vI 1)) M2) ∧ ((z4 ≠ 2 ∧ z4 ≠ 4 ∧ z4 ≠ 8) → PQ (some (vI 0)) M2))) : E (wC g ad sk) X k n M 0 [(0, .ref (ad 5))] [] := by
  refine e_wf (fun hw0 => ?_)
  refine e_aload_n C 0 dX8_eighthsPerPart_0 rfl ?_
  obtain ⟨Q3, h1, H⟩ := H
  refine e_callVI (As := []) (rest := []) (q0 := 5) (ci := 8) C Y mi_X8_digitsHere ms_X8_digitsHere mv_X8_digitsHere ml_X8_109 h1 (wlX_st rfl) rfl (by decide) (Nat.le_of_ble_eq_true rfl) hk hn dX8_eighthsPerPart_1 rfl (fun z4 M2 hq9 => ?_)
  obtain ⟨o5, H⟩ := H z4 M2 hq9
  refine e_wf (fun hw6 => ?_)
  refine e_eqS (st' := [vI z4]) rfl ?_
  by_cases c9_0 : z4 = 2
  · replace H := H.1 c9_0
    refine e_lookup (off := 36) C 40 o5 dX8_eighthsPerPart_4 (by decide) (by rw [c9_0]; decide) (by decide) ?_
    refine e_iconst C dX8_eighthsPerPart_40 ?_
    exact e_iret C Y hk hn dX8_eighthsPerPart_41 H
  by_cases c9_1 : z4 = 4
  · replace H := H.2.1 c9_1
    refine e_lookup (off := 38) C 42 o5 dX8_eighthsPerPart_4 (by decide) (by rw [c9_1]; decide) (by decide) ?_
    refine e_iconst C dX8_eighthsPerPart_42 ?_
    exact e_iret C Y hk hn dX8_eighthsPerPart_43 H
  by_cases c9_2 : z4 = 8
  · replace H := H.2.2.1 c9_2
    refine e_lookup (off := 40) C 44 o5 dX8_eighthsPerPart_4 (by decide) (by rw [c9_2]; decide) (by decide) ?_
    refine e_iconst C dX8_eighthsPerPart_44 ?_
    exact e_iret C Y hk hn dX8_eighthsPerPart_45 H
  replace H := H.2.2.2 ⟨c9_0, c9_1, c9_2⟩
  refine e_lookup (off := 42) C 46 o5 dX8_eighthsPerPart_4 (by decide) (by simp [Op.lookupswitch.offset_cons, Ne.symm, c9_0, c9_1, c9_2, eq_comm]; try rfl) (by decide) ?_
  refine e_iconst C dX8_eighthsPerPart_46 ?_
  exact e_iret C Y hk hn dX8_eighthsPerPart_47 H
set_option maxRecDepth 4000 in
theorem B_X0_coolest_0 {g : Gs} {ad : Nat → Nat} {sk : (Nat → Nat) × (Nat → Nat)} {X : Cx} {mc ms k n : Nat} {PQ : Option Value → Mem → Prop} {PX : String → Mem → Prop} {M : Mem} {x1 x2 : Int} (r1 : 0 ≤ x1 ∧ x1 < 40) (r2 : R32 x2) (hk : k ≤ mc) (hn : n ≤ ms) (C : OkB (wC g ad sk) X cX0_coolest RX0 7 3 mc ms) (Y : OkR (wC g ad sk) X (some .int) mc ms PQ PX) (H : ∃ Q3 : Mem → Prop, SpV (wC g ad sk) yX5_sweep cX5_sweep 7 none 2 [.ref (ad 1), vL (M 52 x1), vI (M 51 x1)] M Q3 ∧ ∀ M2 : Mem, Q3 M2 → E (wC g ad sk) X k n M2 24 [(0, .ref (ad 4)), (1, .ref (ad (44 + 6 * (Int.toNat x1)))), (2, vI x2), (3, vI (-16777216)), (4, vI 0), (5, vI 0)] []) : E (wC g ad sk) X k n M 0 [(0, .ref (ad 4)), (1, .ref (ad (44 + 6 * (Int.toNat x1)))), (2, vI x2)] [] := by
  refine e_wf (fun hw0 => ?_)
  refine e_aload_n C 0 dX0_coolest_0 rfl ?_
  refine gX_0_9 C dX0_coolest_1 ?_
  refine e_aload_n C 1 dX0_coolest_4 rfl ?_
  refine gX_0_53 C r1 dX0_coolest_5 ?_
  refine e_aload_n C 1 dX0_coolest_8 rfl ?_
  refine gX_0_45 C r1 dX0_coolest_9 ?_
  obtain ⟨Q3, h1, H⟩ := H
  refine e_callVV (As := [vL (M 52 x1), vI (M 51 x1)]) (rest := []) (q0 := 1) (ci := 5) C Y mi_X5_sweep ms_X5_sweep mv_X5_sweep ml_X0_57 h1 (wlX_st rfl) rfl (by decide) (Nat.le_of_ble_eq_true rfl) hk hn dX0_coolest_12 rfl (fun M2 hq9 => ?_)
  replace H := H M2 hq9
  refine e_wf (fun hw4 => ?_)
  refine e_ldc C (v := (-16777216)) (tg5 58 rfl rfl) (by decide) dX0_coolest_15 ?_
  refine e_istore_n C dX0_coolest_17 (by decide) rfl ?_
  refine e_iconst C dX0_coolest_18 ?_
  refine e_istore C dX0_coolest_19 (by decide) rfl ?_
  refine e_iconst C dX0_coolest_21 ?_
  refine e_istore C dX0_coolest_22 (by decide) rfl ?_
  exact e_sub [3, 4, 5, 2, 1, 0] rfl H
set_option maxRecDepth 4000 in
theorem B_X0_coolest_24 {g : Gs} {ad : Nat → Nat} {sk : (Nat → Nat) × (Nat → Nat)} {X : Cx} {mc ms k n : Nat} {PQ : Option Value → Mem → Prop} {PX : String → Mem → Prop} {M : Mem} {x1 x2 x3 x4 x5 : Int} (r1 : 0 ≤ x1 ∧ x1 < 40) (r2 : R32 x2) (r3 : R32 x3) (r4 : R32 x4) (r5 : R32 x5) (hk : k ≤ mc) (hn : n ≤ ms) (C : OkB (wC g ad sk) X cX0_coolest RX0 7 3 mc ms) (Y : OkR (wC g ad sk) X (some .int) mc ms PQ PX) (H : (0 ≤ x2 ∧ x2 < 2) ∧ ((((M 41 (40 * x2 + x1)) ≤ x5) → PQ (some (vI x4)) M) ∧ ((x5 < (M 41 (40 * x2 + x1))) → (((0 ≤ x2 ∧ x2 ≤ 1) ∧ M 41 (40 * x2 + x1) ≤ 4) ∧ (R32 (1 - x2)) ∧ ((0 ≤ (optAt M x1 x2 x5) ∧ (optAt M x1 x2 x5) < 40) ∧ 0 ≤ (1 - x2) ∧ (1 - x2) ≤ 1) ∧ (R32 ((sgnS x2) * (M 6 (2 * (optAt M x1 x2 x5) + (1 - x2)))))) ∧ (((((sgnS x2) * (M 6 (2 * (optAt M x1 x2 x5) + (1 - x2)))) ≤ x3) → (R32 (x5 + 1)) ∧ E (wC g ad sk) X k n M 24 [(0, .ref (ad 4)), (1, .ref (ad (44 + 6 * (Int.toNat x1)))), (2, vI x2), (3, vI x3), (4, vI x4), (5, vI (x5 + 1))] []) ∧ ((x3 < ((sgnS x2) * (M 6 (2 * (optAt M x1 x2 x5) + (1 - x2))))) → (R32 (x5 + 1)) ∧ E (wC g ad sk) X k n M 24 [(0, .ref (ad 4)), (1, .ref (ad (44 + 6 * (Int.toNat x1)))), (2, vI x2), (3, vI ((sgnS x2) * (M 6 (2 * (optAt M x1 x2 x5) + (1 - x2))))), (4, vI x5), (5, vI (x5 + 1))] []))))) : E (wC g ad sk) X k n M 24 [(0, .ref (ad 4)), (1, .ref (ad (44 + 6 * (Int.toNat x1)))), (2, vI x2), (3, vI x3), (4, vI x4), (5, vI x5)] [] := by
  refine e_wf (fun hw0 => ?_)
  refine e_iload C 5 dX0_coolest_24 rfl ?_
  refine e_aload_n C 1 dX0_coolest_26 rfl ?_
  refine gX_0_62 C r1 dX0_coolest_27 ?_
  refine e_iload_n C 2 dX0_coolest_30 rfl ?_
  obtain ⟨o1, H⟩ := H
  refine aG_2 C r1 o1 dX0_coolest_31 ?_
  refine e_icmp_ge C 78 r5 (hw0.2.1 41 _ rfl) dX0_coolest_32 (by decide) (fun c9 => ?_) (fun c9 => ?_)
  · replace H := H.1 c9
    refine e_iload C 4 dX0_coolest_78 rfl ?_
    exact e_iret C Y hk hn dX0_coolest_80 H
  · replace H := H.2 c9
    refine e_iload_n C 2 dX0_coolest_35 rfl ?_
    refine e_callSN (As := [vI x2]) (rest := []) C Y mi_X9_signOf ms_X9_signOf (host := "HotGames") (by decide +kernel) (s_X9_signOf r2) (by decide) (Nat.le_of_ble_eq_true rfl) hk hn dX0_coolest_36 rfl ?_
    refine e_aload_n C 0 dX0_coolest_39 rfl ?_
    refine gX_0_9 C dX0_coolest_40 ?_
    refine e_aload_n C 1 dX0_coolest_43 rfl ?_
    refine e_iload_n C 2 dX0_coolest_44 rfl ?_
    refine e_iload C 5 dX0_coolest_45 rfl ?_
    obtain ⟨⟨o2, o3, o4, o5⟩, H⟩ := H
    refine e_callVD (As := [vI x2, vI x5]) (rest := [.ref (ad 1), vI (sgnS x2)]) (ci := 2) C Y mi_X2_optionAt ms_X2_optionAt mv_X2_optionAt ml_X0_70 (s_X2_optionAt r1 r2 r5 o2) (heG r1) rfl (by decide) (Nat.le_of_ble_eq_true rfl) hk hn dX0_coolest_47 rfl ?_
    refine e_iconst C dX0_coolest_50 ?_
    refine e_iload_n C 2 dX0_coolest_51 rfl ?_
    refine e_isub C dX0_coolest_52 ?_
    refine e_callVD (As := [vI (optAt M x1 x2 x5), vI (1 - x2)]) (rest := [vI (sgnS x2)]) (q0 := 1) (ci := 5) C Y mi_X5_sweptWall ms_X5_sweptWall mv_X5_sweptWall ml_X0_74 (s_X5_sweptWall (optAt_r hw0 _ _ _) o3 o4) (wlX_st rfl) rfl (by decide) (Nat.le_of_ble_eq_true rfl) hk hn dX0_coolest_53 rfl ?_
    refine e_imul C dX0_coolest_56 ?_
    refine e_istore C dX0_coolest_57 (by decide) rfl ?_
    refine e_iload C 0 dX0_coolest_59 rfl ?_
    refine e_iload_n C 4 dX0_coolest_61 rfl ?_
    refine e_icmp_le C 72 o5 r3 dX0_coolest_62 (by decide) (fun c9 => ?_) (fun c9 => ?_)
    · replace H := H.1 c9
      obtain ⟨o6, H⟩ := H
      refine e_iinc C 6 dX0_coolest_72 rfl (by decide) rfl ?_
      refine e_goto C 24 dX0_coolest_75 (by decide) ?_
      exact e_sub [2, 3, 4, 5, 6, 0] rfl H
    · replace H := H.2 c9
      refine e_iload C 0 dX0_coolest_65 rfl ?_
      refine e_istore_n C dX0_coolest_67 (by decide) rfl ?_
      refine e_iload C 6 dX0_coolest_68 rfl ?_
      refine e_istore C dX0_coolest_70 (by decide) rfl ?_
      obtain ⟨o7, H⟩ := H
      refine e_iinc C 6 dX0_coolest_72 rfl (by decide) rfl ?_
      refine e_goto C 24 dX0_coolest_75 (by decide) ?_
      exact e_sub [4, 5, 6, 2, 1, 0] rfl H
set_option maxRecDepth 4000 in
theorem B_X2_becomeNumber_0 {g : Gs} {ad : Nat → Nat} {sk : (Nat → Nat) × (Nat → Nat)} {X : Cx} {mc ms k n : Nat} {PQ : Option Value → Mem → Prop} {PX : String → Mem → Prop} {M : Mem} {x0 x1 : Int} (r0 : 0 ≤ x0 ∧ x0 < 40) (r1 : R32 x1) (hk : k ≤ mc) (hn : n ≤ ms) (C : OkB (wC g ad sk) X cX2_becomeNumber RX2 2 3 mc ms) (Y : OkR (wC g ad sk) X none mc ms PQ PX) (H : ∃ Q6 : Int → Mem → Prop, SpI (wC g ad sk) yX2_lengthOfNumber cX2_lengthOfNumber 4 (some .int) 2 [vI x1] (up (up (up M 45 x0 0) 46 x0 x1) 47 x0 0) Q6 ∧ ∀ (z7 : Int) (M5 : Mem), Q6 z7 M5 → R32 z7 ∧ ∃ Q13 : Mem → Prop, SpV (wC g ad sk) yX2_takeOptions cX2_takeOptions 6 none 2 [.ref (ad (44 + 6 * (Int.toNat x0))), vI 0, vL 0] (up M5 48 x0 z7) Q13 ∧ ∀ M12 : Mem, Q13 M12 → ∃ Q17 : Mem → Prop, SpV (wC g ad sk) yX2_takeOptions cX2_takeOptions 6 none 2 [.ref (ad (44 + 6 * (Int.toNat x0))), vI 1, vL 0] M12 Q17 ∧ ∀ M16 : Mem, Q17 M16 → (R32 (x1 * 128)) ∧ ∃ Q22 : Mem → Prop, SpV (wC g ad sk) yX2_becomeCold cX2_becomeCold 3 none 1 [.ref (ad (44 + 6 * (Int.toNat x0))), vI (x1 * 128)] M16 Q22 ∧ ∀ M21 : Mem, Q22 M21 → PQ none M21) : E (wC g ad sk) X k n M 0 [(0, .ref (ad (44 + 6 * (Int.toNat x0)))), (1, vI x1)] [] := by
  refine e_wf (fun hw0 => ?_)
  refine e_aload_n C 0 dX2_becomeNumber_0 rfl ?_
  refine e_iconst C dX2_becomeNumber_1 ?_
  refine pX_2_29 C r0 (by decide) dX2_becomeNumber_2 ?_
  refine e_wf (fun hw1 => ?_)
  refine e_aload_n C 0 dX2_becomeNumber_5 rfl ?_
  refine e_iload_n C 1 dX2_becomeNumber_6 rfl ?_
  refine pX_2_33 C r0 r1 dX2_becomeNumber_7 ?_
  refine e_wf (fun hw2 => ?_)
  refine e_aload_n C 0 dX2_becomeNumber_10 rfl ?_
  refine e_iconst C dX2_becomeNumber_11 ?_
  refine pX_2_37 C r0 (by decide) dX2_becomeNumber_12 ?_
  refine e_wf (fun hw3 => ?_)
  refine e_aload_n C 0 dX2_becomeNumber_15 rfl ?_
  refine e_iload_n C 1 dX2_becomeNumber_16 rfl ?_
  obtain ⟨Q6, h4, H⟩ := H
  refine e_callSI (As := [vI x1]) (rest := [.ref (ad (44 + 6 * (Int.toNat x0)))]) C Y mi_X2_lengthOfNumber ms_X2_lengthOfNumber ml_X2_40 h4 (by decide) (Nat.le_of_ble_eq_true rfl) hk hn dX2_becomeNumber_17 rfl (fun z7 M5 hq9 => ?_)
  obtain ⟨o8, H⟩ := H z7 M5 hq9
  refine e_wf (fun hw9 => ?_)
  refine pX_2_44 C r0 o8 dX2_becomeNumber_20 ?_
  refine e_wf (fun hw10 => ?_)
  refine e_aload_n C 0 dX2_becomeNumber_23 rfl ?_
  refine e_iconst C dX2_becomeNumber_24 ?_
  refine e_lconst0 C dX2_becomeNumber_25 ?_
  obtain ⟨Q13, h11, H⟩ := H
  refine e_callVV (As := [vI 0, vL 0]) (rest := []) (ci := 2) C Y mi_X2_takeOptions ms_X2_takeOptions mv_X2_takeOptions ml_X2_47 h11 (heG r0) rfl (by decide) (Nat.le_of_ble_eq_true rfl) hk hn dX2_becomeNumber_26 rfl (fun M12 hq9 => ?_)
  replace H := H M12 hq9
  refine e_wf (fun hw14 => ?_)
  refine e_aload_n C 0 dX2_becomeNumber_29 rfl ?_
  refine e_iconst C dX2_becomeNumber_30 ?_
  refine e_lconst0 C dX2_becomeNumber_31 ?_
  obtain ⟨Q17, h15, H⟩ := H
  refine e_callVV (As := [vI 1, vL 0]) (rest := []) (ci := 2) C Y mi_X2_takeOptions ms_X2_takeOptions mv_X2_takeOptions ml_X2_47 h15 (heG r0) rfl (by decide) (Nat.le_of_ble_eq_true rfl) hk hn dX2_becomeNumber_32 rfl (fun M16 hq9 => ?_)
  replace H := H M16 hq9
  refine e_wf (fun hw18 => ?_)
  refine e_aload_n C 0 dX2_becomeNumber_35 rfl ?_
  refine e_iload_n C 1 dX2_becomeNumber_36 rfl ?_
  refine e_sipush C dX2_becomeNumber_37 (by decide) ?_
  obtain ⟨o19, H⟩ := H
  refine e_imul C dX2_becomeNumber_40 ?_
  obtain ⟨Q22, h20, H⟩ := H
  refine e_callVV (As := [vI (x1 * 128)]) (rest := []) (ci := 2) C Y mi_X2_becomeCold ms_X2_becomeCold mv_X2_becomeCold ml_X2_51 h20 (heG r0) rfl (by decide) (Nat.le_of_ble_eq_true rfl) hk hn dX2_becomeNumber_41 rfl (fun M21 hq9 => ?_)
  replace H := H M21 hq9
  refine e_wf (fun hw23 => ?_)
  exact e_vret C Y hk hn dX2_becomeNumber_44 H
set_option maxRecDepth 4000 in
theorem B_X4_putGame_0 {g : Gs} {ad : Nat → Nat} {sk : (Nat → Nat) × (Nat → Nat)} {X : Cx} {mc ms k n : Nat} {PQ : Option Value → Mem → Prop} {PX : String → Mem → Prop} {dd : Nat} (hd9 : 2 ≤ dd) {M : Mem} {x1 x2 : Int} (r1 : R32 x1) (r2 : R32 x2) (hk : k ≤ mc) (hn : n ≤ ms) (C : OkB (wC g ad sk) X cX4_putGame RX4 6 (dd + 1) mc ms) (Y : OkR (wC g ad sk) X none mc ms PQ PX) (H : (0 ≤ x1 ∧ x1 < 40) ∧ ((((M 45 x1) ≠ 0) → (((x2 ≤ 6) → ∃ Q4 : Mem → Prop, SpV (wC g ad sk) yX4_put cX4_put 2 none 1 [.ref (ad 7), vI 123] M Q4 ∧ ∀ M3 : Mem, Q4 M3 → E (wC g ad sk) X k n M3 42 [(0, .ref (ad 7)), (2, vI x2), (3, .ref (ad (44 + 6 * (Int.toNat x1)))), (4, vI 0)] []) ∧ ((6 < x2) → PQ none M))) ∧ (((M 45 x1) = 0) → ∃ Q8 : Mem → Prop, SpV (wC g ad sk) yX4_putNumber cX4_putNumber 4 none 2 [.ref (ad 7), vI (M 46 x1)] M Q8 ∧ ∀ M7 : Mem, Q8 M7 → PQ none M7))) : E (wC g ad sk) X k n M 0 [(0, .ref (ad 7)), (1, vI x1), (2, vI x2)] [] := by
  refine e_wf (fun hw0 => ?_)
  refine e_aload_n C 0 dX4_putGame_0 rfl ?_
  refine gX_4_19 C dX4_putGame_1 ?_
  refine gX_4_27 C dX4_putGame_4 ?_
  refine e_iload_n C 1 dX4_putGame_7 rfl ?_
  obtain ⟨o1, H⟩ := H
  refine e_aaldG C o1 dX4_putGame_8 ?_
  refine e_astore_n C dX4_putGame_9 (by decide) rfl ?_
  refine e_aload_n C 0 dX4_putGame_10 rfl ?_
  refine gX_4_33 C o1 dX4_putGame_11 ?_
  refine e_if_ne C 26 (hw0.2.1 45 _ rfl) dX4_putGame_14 (by decide) (fun c9 => ?_) (fun c9 => ?_)
  · replace H := H.1 c9
    refine e_iload_n C 3 dX4_putGame_26 rfl ?_
    refine e_bipush C dX4_putGame_27 (by decide) ?_
    refine e_icmp_le C 33 r2 (by decide) dX4_putGame_29 (by decide) (fun c9 => ?_) (fun c9 => ?_)
    · replace H := H.1 c9
      refine e_aload_n C 1 dX4_putGame_33 rfl ?_
      refine e_bipush C dX4_putGame_34 (by decide) ?_
      obtain ⟨Q4, h2, H⟩ := H
      refine e_callVV (As := [vI 123]) (rest := []) (q0 := 7) (ci := 4) C Y mi_X4_put ms_X4_put mv_X4_put ml_X4_46 h2 (wlX_st rfl) rfl (by omega) (Nat.le_of_ble_eq_true rfl) hk hn dX4_putGame_36 rfl (fun M3 hq9 => ?_)
      replace H := H M3 hq9
      refine e_wf (fun hw5 => ?_)
      refine e_iconst C dX4_putGame_39 ?_
      refine e_istore C dX4_putGame_40 (by decide) rfl ?_
      exact e_sub [2, 4, 1, 0] rfl H
    · replace H := H.2 c9
      exact e_vret C Y hk hn dX4_putGame_32 H
  · replace H := H.2 c9
    refine e_aload_n C 1 dX4_putGame_17 rfl ?_
    refine e_aload_n C 0 dX4_putGame_18 rfl ?_
    refine gX_4_39 C o1 dX4_putGame_19 ?_
    obtain ⟨Q8, h6, H⟩ := H
    refine e_callVV (As := [vI (M 46 x1)]) (rest := []) (q0 := 7) (ci := 4) C Y mi_X4_putNumber ms_X4_putNumber mv_X4_putNumber ml_X4_42 h6 (wlX_st rfl) rfl (by omega) (Nat.le_of_ble_eq_true rfl) hk hn dX4_putGame_22 rfl (fun M7 hq9 => ?_)
    replace H := H M7 hq9
    refine e_wf (fun hw9 => ?_)
    exact e_vret C Y hk hn dX4_putGame_25 H
set_option maxRecDepth 4000 in
theorem B_X4_putGame_42 {g : Gs} {ad : Nat → Nat} {sk : (Nat → Nat) × (Nat → Nat)} {X : Cx} {mc ms k n : Nat} {PQ : Option Value → Mem → Prop} {PX : String → Mem → Prop} {dd : Nat} (hd9 : 2 ≤ dd) {M : Mem} {x2 x3 x4 : Int} (r2 : R32 x2) (r3 : 0 ≤ x3 ∧ x3 < 40) (r4 : R32 x4) (hk : k ≤ mc) (hn : n ≤ ms) (C : OkB (wC g ad sk) X cX4_putGame RX4 6 (dd + 1) mc ms) (Y : OkR (wC g ad sk) X none mc ms PQ PX) (H : (((1 < x4) → PQ none M) ∧ ((x4 ≤ 1) → E (wC g ad sk) X k n M 51 [(0, .ref (ad 7)), (2, vI x2), (3, .ref (ad (44 + 6 * (Int.toNat x3)))), (4, vI x4), (5, vI 0)] []))) : E (wC g ad sk) X k n M 42 [(0, .ref (ad 7)), (2, vI x2), (3, .ref (ad (44 + 6 * (Int.toNat x3)))), (4, vI x4)] [] := by
  refine e_wf (fun hw0 => ?_)
  refine e_iload C 3 dX4_putGame_42 rfl ?_
  refine e_iconst C dX4_putGame_44 ?_
  refine e_icmp_gt C 117 r4 (by decide) dX4_putGame_45 (by decide) (fun c9 => ?_) (fun c9 => ?_)
  · replace H := H.1 c9
    exact e_vret C Y hk hn dX4_putGame_117 H
  · replace H := H.2 c9
    refine e_iconst C dX4_putGame_48 ?_
    refine e_istore C dX4_putGame_49 (by decide) rfl ?_
    exact e_sub [1, 2, 3, 4, 0] rfl H
set_option maxRecDepth 4000 in
theorem B_X4_putGame_51 {g : Gs} {ad : Nat → Nat} {sk : (Nat → Nat) × (Nat → Nat)} {X : Cx} {mc ms k n : Nat} {PQ : Option Value → Mem → Prop} {PX : String → Mem → Prop} {dd : Nat} (hd9 : 2 ≤ dd) {M : Mem} {x2 x3 x4 x5 : Int} (r2 : R32 x2) (r3 : 0 ≤ x3 ∧ x3 < 40) (r4 : R32 x4) (r5 : R32 x5) (hk : k ≤ mc) (hn : n ≤ ms) (C : OkB (wC g ad sk) X cX4_putGame RX4 6 (dd + 1) mc ms) (Y : OkR (wC g ad sk) X none mc ms PQ PX) (H : (0 ≤ x4 ∧ x4 < 2) ∧ ((((M 41 (40 * x4 + x3)) ≤ x5) → (((x4 ≠ 0) → ∃ Q4 : Mem → Prop, SpV (wC g ad sk) yX4_put cX4_put 2 none 1 [.ref (ad 7), vI 125] M Q4 ∧ ∀ M3 : Mem, Q4 M3 → (R32 (x4 + 1)) ∧ E (wC g ad sk) X k n M3 42 [(0, .ref (ad 7)), (2, vI x2), (3, .ref (ad (44 + 6 * (Int.toNat x3)))), (4, vI (x4 + 1))] []) ∧ ((x4 = 0) → ∃ Q9 : Mem → Prop, SpV (wC g ad sk) yX4_put cX4_put 2 none 1 [.ref (ad 7), vI 124] M Q9 ∧ ∀ M8 : Mem, Q9 M8 → (R32 (x4 + 1)) ∧ E (wC g ad sk) X k n M8 42 [(0, .ref (ad 7)), (2, vI x2), (3, .ref (ad (44 + 6 * (Int.toNat x3)))), (4, vI (x4 + 1))] []))) ∧ ((x5 < (M 41 (40 * x4 + x3))) → (((x5 ≤ 0) → E (wC g ad sk) X k n M 74 [(0, .ref (ad 7)), (2, vI x2), (3, .ref (ad (44 + 6 * (Int.toNat x3)))), (4, vI x4), (5, vI x5)] []) ∧ ((0 < x5) → ∃ Q14 : Mem → Prop, SpV (wC g ad sk) yX4_put cX4_put 2 none 1 [.ref (ad 7), vI 44] M Q14 ∧ ∀ M13 : Mem, Q14 M13 → E (wC g ad sk) X k n M13 74 [(0, .ref (ad 7)), (2, vI x2), (3, .ref (ad (44 + 6 * (Int.toNat x3)))), (4, vI x4), (5, vI x5)] []))))) : E (wC g ad sk) X k n M 51 [(0, .ref (ad 7)), (2, vI x2), (3, .ref (ad (44 + 6 * (Int.toNat x3)))), (4, vI x4), (5, vI x5)] [] := by
  refine e_wf (fun hw0 => ?_)
  refine e_iload C 4 dX4_putGame_51 rfl ?_
  refine e_aload_n C 2 dX4_putGame_53 rfl ?_
  refine gX_4_50 C r3 dX4_putGame_54 ?_
  refine e_iload C 3 dX4_putGame_57 rfl ?_
  obtain ⟨o1, H⟩ := H
  refine aG_2 C r3 o1 dX4_putGame_59 ?_
  refine e_icmp_ge C 95 r5 (hw0.2.1 41 _ rfl) dX4_putGame_60 (by decide) (fun c9 => ?_) (fun c9 => ?_)
  · replace H := H.1 c9
    refine e_aload_n C 0 dX4_putGame_95 rfl ?_
    refine e_iload C 3 dX4_putGame_96 rfl ?_
    refine e_if_ne C 106 r4 dX4_putGame_98 (by decide) (fun c9 => ?_) (fun c9 => ?_)
    · replace H := H.1 c9
      refine e_bipush C dX4_putGame_106 (by decide) ?_
      obtain ⟨Q4, h2, H⟩ := H
      refine e_callVV (As := [vI 125]) (rest := []) (q0 := 7) (ci := 4) C Y mi_X4_put ms_X4_put mv_X4_put ml_X4_46 h2 (wlX_st rfl) rfl (by omega) (Nat.le_of_ble_eq_true rfl) hk hn dX4_putGame_108 rfl (fun M3 hq9 => ?_)
      replace H := H M3 hq9
      refine e_wf (fun hw5 => ?_)
      obtain ⟨o6, H⟩ := H
      refine e_iinc C 3 dX4_putGame_111 rfl (by decide) rfl ?_
      refine e_goto C 42 dX4_putGame_114 (by decide) ?_
      exact e_sub [1, 2, 3, 0] rfl H
    · replace H := H.2 c9
      refine e_bipush C dX4_putGame_101 (by decide) ?_
      refine e_goto C 108 dX4_putGame_103 (by decide) ?_
      obtain ⟨Q9, h7, H⟩ := H
      refine e_callVV (As := [vI 124]) (rest := []) (q0 := 7) (ci := 4) C Y mi_X4_put ms_X4_put mv_X4_put ml_X4_46 h7 (wlX_st rfl) rfl (by omega) (Nat.le_of_ble_eq_true rfl) hk hn dX4_putGame_108 rfl (fun M8 hq9 => ?_)
      replace H := H M8 hq9
      refine e_wf (fun hw10 => ?_)
      obtain ⟨o11, H⟩ := H
      refine e_iinc C 3 dX4_putGame_111 rfl (by decide) rfl ?_
      refine e_goto C 42 dX4_putGame_114 (by decide) ?_
      exact e_sub [1, 2, 3, 0] rfl H
  · replace H := H.2 c9
    refine e_iload C 4 dX4_putGame_63 rfl ?_
    refine e_if_le C 74 r5 dX4_putGame_65 (by decide) (fun c9 => ?_) (fun c9 => ?_)
    · replace H := H.1 c9
      exact e_sub [0, 1, 2, 3, 4] rfl H
    · replace H := H.2 c9
      refine e_aload_n C 0 dX4_putGame_68 rfl ?_
      refine e_bipush C dX4_putGame_69 (by decide) ?_
      obtain ⟨Q14, h12, H⟩ := H
      refine e_callVV (As := [vI 44]) (rest := []) (q0 := 7) (ci := 4) C Y mi_X4_put ms_X4_put mv_X4_put ml_X4_46 h12 (wlX_st rfl) rfl (by omega) (Nat.le_of_ble_eq_true rfl) hk hn dX4_putGame_71 rfl (fun M13 hq9 => ?_)
      replace H := H M13 hq9
      refine e_wf (fun hw15 => ?_)
      exact e_sub [0, 1, 2, 3, 4] rfl H
set_option maxRecDepth 4000 in
theorem B_X4_putGame_74 {g : Gs} {ad : Nat → Nat} {sk : (Nat → Nat) × (Nat → Nat)} {X : Cx} {mc ms k n : Nat} {PQ : Option Value → Mem → Prop} {PX : String → Mem → Prop} {dd : Nat} (hd9 : 2 ≤ dd) {M : Mem} {x2 x3 x4 x5 : Int} (r2 : R32 x2) (r3 : 0 ≤ x3 ∧ x3 < 40) (r4 : R32 x4) (r5 : R32 x5) (hk : k ≤ mc) (hn : n ≤ ms) (C : OkB (wC g ad sk) X cX4_putGame RX4 6 (dd + 1) mc ms) (Y : OkR (wC g ad sk) X none mc ms PQ PX) (H : (((0 ≤ x4 ∧ x4 ≤ 1) ∧ M 41 (40 * x4 + x3) ≤ 4) ∧ (R32 (x2 + 1))) ∧ ∃ Q5 : Mem → Prop, SpV (wC g ad sk) yX4_putGame cX4_putGame 6 none dd [.ref (ad 7), vI (optAt M x3 x4 x5), vI (x2 + 1)] M Q5 ∧ ∀ M4 : Mem, Q5 M4 → (R32 (x5 + 1)) ∧ E (wC g ad sk) X k n M4 51 [(0, .ref (ad 7)), (2, vI x2), (3, .ref (ad (44 + 6 * (Int.toNat x3)))), (4, vI x4), (5, vI (x5 + 1))] []) : E (wC g ad sk) X k n M 74 [(0, .ref (ad 7)), (2, vI x2), (3, .ref (ad (44 + 6 * (Int.toNat x3)))), (4, vI x4), (5, vI x5)] [] := by
  refine e_wf (fun hw0 => ?_)
  refine e_aload_n C 0 dX4_putGame_74 rfl ?_
  refine e_aload_n C 2 dX4_putGame_75 rfl ?_
  refine e_iload C 3 dX4_putGame_76 rfl ?_
  refine e_iload C 4 dX4_putGame_78 rfl ?_
  obtain ⟨⟨o1, o2⟩, H⟩ := H
  refine e_callVD (As := [vI x4, vI x5]) (rest := [.ref (ad 7)]) (ci := 2) C Y mi_X2_optionAt ms_X2_optionAt mv_X2_optionAt ml_X4_54 (s_X2_optionAt r3 r4 r5 o1) (heG r3) rfl (by omega) (Nat.le_of_ble_eq_true rfl) hk hn dX4_putGame_80 rfl ?_
  refine e_iload_n C 1 dX4_putGame_83 rfl ?_
  refine e_iconst C dX4_putGame_84 ?_
  refine e_iadd C dX4_putGame_85 ?_
  obtain ⟨Q5, h3, H⟩ := H
  refine e_callVV (As := [vI (optAt M x3 x4 x5), vI (x2 + 1)]) (rest := []) (q0 := 7) (ci := 4) C Y mi_X4_putGame ms_X4_putGame mv_X4_putGame ml_X4_23 h3 (wlX_st rfl) rfl (by omega) (Nat.le_of_ble_eq_true rfl) hk hn dX4_putGame_86 rfl (fun M4 hq9 => ?_)
  replace H := H M4 hq9
  refine e_wf (fun hw6 => ?_)
  obtain ⟨o7, H⟩ := H
  refine e_iinc C 4 dX4_putGame_89 rfl (by decide) rfl ?_
  refine e_goto C 51 dX4_putGame_92 (by decide) ?_
  exact e_sub [1, 2, 3, 4, 0] rfl H
set_option maxRecDepth 4000 in
theorem B_X5_becomeHot_0 {g : Gs} {ad : Nat → Nat} {sk : (Nat → Nat) × (Nat → Nat)} {X : Cx} {mc ms k n : Nat} {PQ : Option Value → Mem → Prop} {PX : String → Mem → Prop} {M : Mem} {x1 : Int} (r1 : 0 ≤ x1 ∧ x1 < 40) (hk : k ≤ mc) (hn : n ≤ ms) (C : OkB (wC g ad sk) X cX5_becomeHot RX5 6 3 mc ms) (Y : OkR (wC g ad sk) X none mc ms PQ PX) (H : E (wC g ad sk) X k n (up (up M 49 x1 0) 53 x1 (lshlL 1 (M 4 0))) 18 [(0, .ref (ad 1)), (1, .ref (ad (44 + 6 * (Int.toNat x1)))), (2, vI 0)] []) : E (wC g ad sk) X k n M 0 [(0, .ref (ad 1)), (1, .ref (ad (44 + 6 * (Int.toNat x1))))] [] := by
  refine e_wf (fun hw0 => ?_)
  refine e_aload_n C 1 dX5_becomeHot_0 rfl ?_
  refine e_iconst C dX5_becomeHot_1 ?_
  refine pX_5_136 C r1 (by decide) dX5_becomeHot_2 ?_
  refine e_wf (fun hw1 => ?_)
  refine e_aload_n C 1 dX5_becomeHot_5 rfl ?_
  refine e_aload_n C 0 dX5_becomeHot_6 rfl ?_
  refine gX_5_17 C dX5_becomeHot_7 ?_
  refine e_callSN (As := [vI (M 4 0)]) (rest := [.ref (ad (44 + 6 * (Int.toNat x1)))]) C Y mi_X9_bit ms_X9_bit (host := "HotGames") (by decide +kernel) (s_X9_bit (hw0.2.1 4 _ rfl)) (by decide) (Nat.le_of_ble_eq_true rfl) hk hn dX5_becomeHot_10 rfl ?_
  refine pX_5_58 C r1 (r64_toInt _) dX5_becomeHot_13 ?_
  refine e_wf (fun hw2 => ?_)
  refine e_iconst C dX5_becomeHot_16 ?_
  refine e_istore_n C dX5_becomeHot_17 (by decide) rfl ?_
  exact e_sub [1, 2, 0] rfl H
set_option maxRecDepth 4000 in
theorem B_X5_becomeHot_18 {g : Gs} {ad : Nat → Nat} {sk : (Nat → Nat) × (Nat → Nat)} {X : Cx} {mc ms k n : Nat} {PQ : Option Value → Mem → Prop} {PX : String → Mem → Prop} {M : Mem} {x1 x2 : Int} (r1 : 0 ≤ x1 ∧ x1 < 40) (r2 : R32 x2) (hk : k ≤ mc) (hn : n ≤ ms) (C : OkB (wC g ad sk) X cX5_becomeHot RX5 6 3 mc ms) (Y : OkR (wC g ad sk) X none mc ms PQ PX) (H : (((1 < x2) → E (wC g ad sk) X k n M 119 [(0, .ref (ad 1)), (1, .ref (ad (44 + 6 * (Int.toNat x1)))), (2, vL (landL (M 52 x1) (lxorL (lshlL 1 (M 4 0)) (-1)))), (4, vI (-1)), (5, vI 8192)] []) ∧ ((x2 ≤ 1) → (0 ≤ x2 ∧ x2 < 2) ∧ E (wC g ad sk) X k n (up (up M 43 (40 * x2 + x1) (M 8 x2)) 44 (40 * x2 + x1) (M 9 x2)) 49 [(0, .ref (ad 1)), (1, .ref (ad (44 + 6 * (Int.toNat x1)))), (2, vI x2), (3, vI 0)] []))) : E (wC g ad sk) X k n M 18 [(0, .ref (ad 1)), (1, .ref (ad (44 + 6 * (Int.toNat x1)))), (2, vI x2)] [] := by
  refine e_wf (fun hw0 => ?_)
  refine e_iload_n C 2 dX5_becomeHot_18 rfl ?_
  refine e_iconst C dX5_becomeHot_19 ?_
  refine e_icmp_gt C 94 r2 (by decide) dX5_becomeHot_20 (by decide) (fun c9 => ?_) (fun c9 => ?_)
  · replace H := H.1 c9
    refine e_aload_n C 1 dX5_becomeHot_94 rfl ?_
    refine gX_5_54 C r1 dX5_becomeHot_95 ?_
    refine e_aload_n C 0 dX5_becomeHot_98 rfl ?_
    refine gX_5_17 C dX5_becomeHot_99 ?_
    refine e_callSN (As := [vI (M 4 0)]) (rest := [vL (M 52 x1)]) C Y mi_X9_bit ms_X9_bit (host := "HotGames") (by decide +kernel) (s_X9_bit (hw0.2.1 4 _ rfl)) (by decide) (Nat.le_of_ble_eq_true rfl) hk hn dX5_becomeHot_102 rfl ?_
    refine e_ldc2 C (v := (-1)) (tg2 127 rfl rfl) (by decide) dX5_becomeHot_105 ?_
    refine e_lxor C dX5_becomeHot_108 ?_
    refine e_land C dX5_becomeHot_109 ?_
    refine e_lstore_n C dX5_becomeHot_110 (by decide) rfl ?_
    refine e_iconst C dX5_becomeHot_111 ?_
    refine e_istore C dX5_becomeHot_112 (by decide) rfl ?_
    refine e_sipush C dX5_becomeHot_114 (by decide) ?_
    refine e_istore C dX5_becomeHot_117 (by decide) rfl ?_
    exact e_sub [3, 4, 2, 1, 0] rfl H
  · replace H := H.2 c9
    refine e_aload_n C 1 dX5_becomeHot_23 rfl ?_
    refine gX_5_130 C r1 dX5_becomeHot_24 ?_
    refine e_iload_n C 2 dX5_becomeHot_27 rfl ?_
    refine e_aload_n C 0 dX5_becomeHot_28 rfl ?_
    refine gX_5_30 C dX5_becomeHot_29 ?_
    refine e_iload_n C 2 dX5_becomeHot_32 rfl ?_
    obtain ⟨o1, H⟩ := H
    refine aX_17 C o1 dX5_becomeHot_33 ?_
    refine sG_4 C r1 o1 (hw0.2.1 8 _ rfl) dX5_becomeHot_34 ?_
    refine e_wf (fun hw2 => ?_)
    refine e_aload_n C 1 dX5_becomeHot_35 rfl ?_
    refine gX_5_133 C r1 dX5_becomeHot_36 ?_
    refine e_iload_n C 2 dX5_becomeHot_39 rfl ?_
    refine e_aload_n C 0 dX5_becomeHot_40 rfl ?_
    refine gX_5_34 C dX5_becomeHot_41 ?_
    refine e_iload_n C 2 dX5_becomeHot_44 rfl ?_
    refine aX_18 C o1 dX5_becomeHot_45 ?_
    refine sG_5 C r1 o1 (hw0.2.2.1 9 _ rfl) dX5_becomeHot_46 ?_
    refine e_wf (fun hw3 => ?_)
    refine e_iconst C dX5_becomeHot_47 ?_
    refine e_istore_n C dX5_becomeHot_48 (by decide) rfl ?_
    exact e_sub [1, 2, 3, 0] rfl H
set_option maxRecDepth 4000 in
theorem B_X5_becomeHot_49 {g : Gs} {ad : Nat → Nat} {sk : (Nat → Nat) × (Nat → Nat)} {X : Cx} {mc ms k n : Nat} {PQ : Option Value → Mem → Prop} {PX : String → Mem → Prop} {M : Mem} {x1 x2 x3 : Int} (r1 : 0 ≤ x1 ∧ x1 < 40) (r2 : R32 x2) (r3 : R32 x3) (hk : k ≤ mc) (hn : n ≤ ms) (C : OkB (wC g ad sk) X cX5_becomeHot RX5 6 3 mc ms) (Y : OkR (wC g ad sk) X none mc ms PQ PX) (H : (0 ≤ x2 ∧ x2 < 2) ∧ ((((M 41 (40 * x2 + x1)) ≤ x3) → (R32 (x2 + 1)) ∧ E (wC g ad sk) X k n M 18 [(0, .ref (ad 1)), (1, .ref (ad (44 + 6 * (Int.toNat x1)))), (2, vI (x2 + 1))] []) ∧ ((x3 < (M 41 (40 * x2 + x1))) → (((0 ≤ x2 ∧ x2 ≤ 1) ∧ M 41 (40 * x2 + x1) ≤ 4) ∧ (0 ≤ optAt M x1 x2 x3 ∧ optAt M x1 x2 x3 < 40) ∧ (R32 (x3 + 1))) ∧ E (wC g ad sk) X k n (up M 53 x1 (lorL (M 53 x1) (M 53 (optAt M x1 x2 x3)))) 49 [(0, .ref (ad 1)), (1, .ref (ad (44 + 6 * (Int.toNat x1)))), (2, vI x2), (3, vI (x3 + 1))] []))) : E (wC g ad sk) X k n M 49 [(0, .ref (ad 1)), (1, .ref (ad (44 + 6 * (Int.toNat x1)))), (2, vI x2), (3, vI x3)] [] := by
  refine e_wf (fun hw0 => ?_)
  refine e_iload_n C 3 dX5_becomeHot_49 rfl ?_
  refine e_aload_n C 1 dX5_becomeHot_50 rfl ?_
  refine gX_5_116 C r1 dX5_becomeHot_51 ?_
  refine e_iload_n C 2 dX5_becomeHot_54 rfl ?_
  obtain ⟨o1, H⟩ := H
  refine aG_2 C r1 o1 dX5_becomeHot_55 ?_
  refine e_icmp_ge C 88 r3 (hw0.2.1 41 _ rfl) dX5_becomeHot_56 (by decide) (fun c9 => ?_) (fun c9 => ?_)
  · replace H := H.1 c9
    obtain ⟨o2, H⟩ := H
    refine e_iinc C 2 dX5_becomeHot_88 rfl (by decide) rfl ?_
    refine e_goto C 18 dX5_becomeHot_91 (by decide) ?_
    exact e_sub [1, 2, 0] rfl H
  · replace H := H.2 c9
    refine e_aload_n C 1 dX5_becomeHot_59 rfl ?_
    refine e_dup C rfl dX5_becomeHot_60 ?_
    refine gX_5_58 C r1 dX5_becomeHot_61 ?_
    refine e_aload_n C 0 dX5_becomeHot_64 rfl ?_
    refine gX_5_11 C dX5_becomeHot_65 ?_
    refine e_aload_n C 1 dX5_becomeHot_68 rfl ?_
    refine e_iload_n C 2 dX5_becomeHot_69 rfl ?_
    refine e_iload_n C 3 dX5_becomeHot_70 rfl ?_
    obtain ⟨⟨o3, o4, o6⟩, H⟩ := H
    refine e_callVD (As := [vI x2, vI x3]) (rest := [.ref (ad 12), vL (M 53 x1), .ref (ad (44 + 6 * (Int.toNat x1)))]) (ci := 2) C Y mi_X2_optionAt ms_X2_optionAt mv_X2_optionAt ml_X5_122 (s_X2_optionAt r1 r2 r3 o3) (heG r1) rfl (by decide) (Nat.le_of_ble_eq_true rfl) hk hn dX5_becomeHot_71 rfl ?_
    refine e_aaldG C o4 dX5_becomeHot_74 ?_
    refine gX_5_58 C o4 dX5_becomeHot_75 ?_
    refine e_lor C dX5_becomeHot_78 ?_
    refine pX_5_58 C r1 (r64_toInt _) dX5_becomeHot_79 ?_
    refine e_wf (fun hw5 => ?_)
    refine e_iinc C 3 dX5_becomeHot_82 rfl (by decide) rfl ?_
    refine e_goto C 49 dX5_becomeHot_85 (by decide) ?_
    exact e_sub [1, 2, 3, 0] rfl H
set_option maxRecDepth 4000 in
theorem B_X5_becomeHot_119 {g : Gs} {ad : Nat → Nat} {sk : (Nat → Nat) × (Nat → Nat)} {X : Cx} {mc ms k n : Nat} {PQ : Option Value → Mem → Prop} {PX : String → Mem → Prop} {M : Mem} {x1 x2 x4 x5 : Int} (r1 : 0 ≤ x1 ∧ x1 < 40) (r2 : R64 x2) (r4 : R32 x4) (r5 : R32 x5) (hk : k ≤ mc) (hn : n ≤ ms) (C : OkB (wC g ad sk) X cX5_becomeHot RX5 6 3 mc ms) (Y : OkR (wC g ad sk) X none mc ms PQ PX) (H : (((x5 ≤ 0) → (R32 (x4 + 1)) ∧ ∃ Q4 : Mem → Prop, SpV (wC g ad sk) yX5_sweep cX5_sweep 7 none 2 [.ref (ad 1), vL x2, vI (x4 + 1)] M Q4 ∧ ∀ M3 : Mem, Q4 M3 → ∃ Q9 : Int → Mem → Prop, SpI (wC g ad sk) yX5_scaffold cX5_scaffold 8 (some .int) 1 [.ref (ad 1), .ref (ad (44 + 6 * (Int.toNat x1))), vI 0, vI (x4 + 1)] (up M3 51 x1 (x4 + 1)) Q9 ∧ ∀ (z10 : Int) (M8 : Mem), Q9 z10 M8 → R32 z10 ∧ PQ none (up M8 50 x1 z10)) ∧ ((0 < x5) → (R32 (x4 + x5)) ∧ ∃ Q17 : Mem → Prop, SpV (wC g ad sk) yX5_sweep cX5_sweep 7 none 2 [.ref (ad 1), vL x2, vI (x4 + x5)] M Q17 ∧ ∀ M16 : Mem, Q17 M16 → ∃ Q21 : Int → Mem → Prop, SpI (wC g ad sk) yX5_scaffold cX5_scaffold 8 (some .int) 1 [.ref (ad 1), .ref (ad (44 + 6 * (Int.toNat x1))), vI 0, vI (x4 + x5)] M16 Q21 ∧ ∀ (z22 : Int) (M20 : Mem), Q21 z22 M20 → R32 z22 ∧ ∃ Q27 : Int → Mem → Prop, SpI (wC g ad sk) yX5_scaffold cX5_scaffold 8 (some .int) 1 [.ref (ad 1), .ref (ad (44 + 6 * (Int.toNat x1))), vI 1, vI (x4 + x5)] M20 Q27 ∧ ∀ (z28 : Int) (M26 : Mem), Q27 z28 M26 → R32 z28 ∧ (((z22 ≤ z28) → E (wC g ad sk) X k n M26 119 [(0, .ref (ad 1)), (1, .ref (ad (44 + 6 * (Int.toNat x1)))), (2, vL x2), (4, vI x4), (5, vI (Int.tdiv x5 2))] []) ∧ ((z28 < z22) → E (wC g ad sk) X k n M26 119 [(0, .ref (ad 1)), (1, .ref (ad (44 + 6 * (Int.toNat x1)))), (2, vL x2), (4, vI (x4 + x5)), (5, vI (Int.tdiv x5 2))] []))))) : E (wC g ad sk) X k n M 119 [(0, .ref (ad 1)), (1, .ref (ad (44 + 6 * (Int.toNat x1)))), (2, vL x2), (4, vI x4), (5, vI x5)] [] := by
  refine e_wf (fun hw0 => ?_)
  refine e_iload C 4 dX5_becomeHot_119 rfl ?_
  refine e_if_le C 175 r5 dX5_becomeHot_121 (by decide) (fun c9 => ?_) (fun c9 => ?_)
  · replace H := H.1 c9
    refine e_aload_n C 0 dX5_becomeHot_175 rfl ?_
    refine e_lload_n C 2 dX5_becomeHot_176 rfl ?_
    refine e_iload C 3 dX5_becomeHot_177 rfl ?_
    refine e_iconst C dX5_becomeHot_179 ?_
    obtain ⟨o1, H⟩ := H
    refine e_iadd C dX5_becomeHot_180 ?_
    obtain ⟨Q4, h2, H⟩ := H
    refine e_callVV (As := [vL x2, vI (x4 + 1)]) (rest := []) (q0 := 1) (ci := 5) C Y mi_X5_sweep ms_X5_sweep mv_X5_sweep ml_X5_141 h2 (wlX_st rfl) rfl (by decide) (Nat.le_of_ble_eq_true rfl) hk hn dX5_becomeHot_181 rfl (fun M3 hq9 => ?_)
    replace H := H M3 hq9
    refine e_wf (fun hw5 => ?_)
    refine e_aload_n C 1 dX5_becomeHot_184 rfl ?_
    refine e_iload C 3 dX5_becomeHot_185 rfl ?_
    refine e_iconst C dX5_becomeHot_187 ?_
    refine e_iadd C dX5_becomeHot_188 ?_
    refine pX_5_149 C r1 o1 dX5_becomeHot_189 ?_
    refine e_wf (fun hw6 => ?_)
    refine e_aload_n C 1 dX5_becomeHot_192 rfl ?_
    refine e_aload_n C 0 dX5_becomeHot_193 rfl ?_
    refine e_aload_n C 1 dX5_becomeHot_194 rfl ?_
    refine e_iconst C dX5_becomeHot_195 ?_
    refine e_iload C 3 dX5_becomeHot_196 rfl ?_
    refine e_iconst C dX5_becomeHot_198 ?_
    refine e_iadd C dX5_becomeHot_199 ?_
    obtain ⟨Q9, h7, H⟩ := H
    refine e_callVI (As := [.ref (ad (44 + 6 * (Int.toNat x1))), vI 0, vI (x4 + 1)]) (rest := [.ref (ad (44 + 6 * (Int.toNat x1)))]) (q0 := 1) (ci := 5) C Y mi_X5_scaffold ms_X5_scaffold mv_X5_scaffold ml_X5_145 h7 (wlX_st rfl) rfl (by decide) (Nat.le_of_ble_eq_true rfl) hk hn dX5_becomeHot_200 rfl (fun z10 M8 hq9 => ?_)
    obtain ⟨o11, H⟩ := H z10 M8 hq9
    refine e_wf (fun hw12 => ?_)
    refine pX_5_152 C r1 o11 dX5_becomeHot_203 ?_
    refine e_wf (fun hw13 => ?_)
    exact e_vret C Y hk hn dX5_becomeHot_206 H
  · replace H := H.2 c9
    refine e_aload_n C 0 dX5_becomeHot_124 rfl ?_
    refine e_lload_n C 2 dX5_becomeHot_125 rfl ?_
    refine e_iload C 3 dX5_becomeHot_126 rfl ?_
    refine e_iload C 4 dX5_becomeHot_128 rfl ?_
    obtain ⟨o14, H⟩ := H
    refine e_iadd C dX5_becomeHot_130 ?_
    obtain ⟨Q17, h15, H⟩ := H
    refine e_callVV (As := [vL x2, vI (x4 + x5)]) (rest := []) (q0 := 1) (ci := 5) C Y mi_X5_sweep ms_X5_sweep mv_X5_sweep ml_X5_141 h15 (wlX_st rfl) rfl (by decide) (Nat.le_of_ble_eq_true rfl) hk hn dX5_becomeHot_131 rfl (fun M16 hq9 => ?_)
    replace H := H M16 hq9
    refine e_wf (fun hw18 => ?_)
    refine e_aload_n C 0 dX5_becomeHot_134 rfl ?_
    refine e_aload_n C 1 dX5_becomeHot_135 rfl ?_
    refine e_iconst C dX5_becomeHot_136 ?_
    refine e_iload C 3 dX5_becomeHot_137 rfl ?_
    refine e_iload C 4 dX5_becomeHot_139 rfl ?_
    refine e_iadd C dX5_becomeHot_141 ?_
    obtain ⟨Q21, h19, H⟩ := H
    refine e_callVI (As := [.ref (ad (44 + 6 * (Int.toNat x1))), vI 0, vI (x4 + x5)]) (rest := []) (q0 := 1) (ci := 5) C Y mi_X5_scaffold ms_X5_scaffold mv_X5_scaffold ml_X5_145 h19 (wlX_st rfl) rfl (by decide) (Nat.le_of_ble_eq_true rfl) hk hn dX5_becomeHot_142 rfl (fun z22 M20 hq9 => ?_)
    obtain ⟨o23, H⟩ := H z22 M20 hq9
    refine e_wf (fun hw24 => ?_)
    refine e_aload_n C 0 dX5_becomeHot_145 rfl ?_
    refine e_aload_n C 1 dX5_becomeHot_146 rfl ?_
    refine e_iconst C dX5_becomeHot_147 ?_
    refine e_iload C 3 dX5_becomeHot_148 rfl ?_
    refine e_iload C 4 dX5_becomeHot_150 rfl ?_
    refine e_iadd C dX5_becomeHot_152 ?_
    obtain ⟨Q27, h25, H⟩ := H
    refine e_callVI (As := [.ref (ad (44 + 6 * (Int.toNat x1))), vI 1, vI (x4 + x5)]) (rest := [vI z22]) (q0 := 1) (ci := 5) C Y mi_X5_scaffold ms_X5_scaffold mv_X5_scaffold ml_X5_145 h25 (wlX_st rfl) rfl (by decide) (Nat.le_of_ble_eq_true rfl) hk hn dX5_becomeHot_153 rfl (fun z28 M26 hq9 => ?_)
    obtain ⟨o29, H⟩ := H z28 M26 hq9
    refine e_wf (fun hw30 => ?_)
    refine e_icmp_le C 166 o23 o29 dX5_becomeHot_156 (by decide) (fun c9 => ?_) (fun c9 => ?_)
    · replace H := H.1 c9
      refine e_iload C 4 dX5_becomeHot_166 rfl ?_
      refine e_iconst C dX5_becomeHot_168 ?_
      refine e_idiv C r5 (by decide) (by decide) (by decide) dX5_becomeHot_169 ?_
      refine e_istore C dX5_becomeHot_170 (by decide) rfl ?_
      refine e_goto C 119 dX5_becomeHot_172 (by decide) ?_
      exact e_sub [1, 2, 3, 4, 0] rfl H
    · replace H := H.2 c9
      refine e_iload C 3 dX5_becomeHot_159 rfl ?_
      refine e_iload C 4 dX5_becomeHot_161 rfl ?_
      refine e_iadd C dX5_becomeHot_163 ?_
      refine e_istore C dX5_becomeHot_164 (by decide) rfl ?_
      refine e_iload C 4 dX5_becomeHot_166 rfl ?_
      refine e_iconst C dX5_becomeHot_168 ?_
      refine e_idiv C r5 (by decide) (by decide) (by decide) dX5_becomeHot_169 ?_
      refine e_istore C dX5_becomeHot_170 (by decide) rfl ?_
      refine e_goto C 119 dX5_becomeHot_172 (by decide) ?_
      exact e_sub [2, 3, 4, 1, 0] rfl H
set_option maxRecDepth 4000 in
theorem B_X5_enter_0 {g : Gs} {ad : Nat → Nat} {sk : (Nat → Nat) × (Nat → Nat)} {X : Cx} {mc ms k n : Nat} {PQ : Option Value → Mem → Prop} {PX : String → Mem → Prop} {M : Mem}  (hk : k ≤ mc) (hn : n ≤ ms) (C : OkB (wC g ad sk) X cX5_enter RX5 3 3 mc ms) (Y : OkR (wC g ad sk) X (some .int) mc ms PQ PX) (H : (0 ≤ M 4 0 ∧ M 4 0 < 40) ∧ E (wC g ad sk) X k n (up M 5 (M 4 0) (lshlL 1 (M 4 0))) 17 [(0, .ref (ad 1)), (1, vI (M 4 0)), (2, vI 0)] []) : E (wC g ad sk) X k n M 0 [(0, .ref (ad 1))] [] := by
  refine e_wf (fun hw0 => ?_)
  refine e_aload_n C 0 dX5_enter_0 rfl ?_
  refine gX_5_17 C dX5_enter_1 ?_
  refine e_istore_n C dX5_enter_4 (by decide) rfl ?_
  refine e_aload_n C 1 dX5_enter_5 rfl ?_
  refine gX_5_21 C dX5_enter_6 ?_
  refine e_iload_n C 0 dX5_enter_9 rfl ?_
  refine e_iload_n C 0 dX5_enter_10 rfl ?_
  refine e_callSN (As := [vI (M 4 0)]) (rest := [vI (M 4 0), .ref (ad 13)]) C Y mi_X9_bit ms_X9_bit (host := "HotGames") (by decide +kernel) (s_X9_bit (hw0.2.1 4 _ rfl)) (by decide) (Nat.le_of_ble_eq_true rfl) hk hn dX5_enter_11 rfl ?_
  obtain ⟨o1, H⟩ := H
  refine sX_13 C o1 (r64_toInt _) dX5_enter_14 ?_
  refine e_wf (fun hw2 => ?_)
  refine e_iconst C dX5_enter_15 ?_
  refine e_istore_n C dX5_enter_16 (by decide) rfl ?_
  exact e_sub [2, 1, 0] rfl H
set_option maxRecDepth 4000 in
theorem B_X5_enter_17 {g : Gs} {ad : Nat → Nat} {sk : (Nat → Nat) × (Nat → Nat)} {X : Cx} {mc ms k n : Nat} {PQ : Option Value → Mem → Prop} {PX : String → Mem → Prop} {M : Mem} {x1 x2 : Int} (r1 : R32 x1) (r2 : R32 x2) (hk : k ≤ mc) (hn : n ≤ ms) (C : OkB (wC g ad sk) X cX5_enter RX5 3 3 mc ms) (Y : OkR (wC g ad sk) X (some .int) mc ms PQ PX) (H : (((x1 ≤ x2) → (R32 (x1 + 1)) ∧ PQ (some (vI x1)) (up M 4 0 (x1 + 1))) ∧ ((x2 < x1) → ∃ Q5 : Int → Mem → Prop, SpI (wC g ad sk) yX5_isReached cX5_isReached 6 (some .boolean) 2 [.ref (ad 1), vI x1, vI x2] M Q5 ∧ ∀ (z6 : Int) (M4 : Mem), Q5 z6 M4 → B01 z6 ∧ (((z6 = 0) → E (wC g ad sk) X k n M4 44 [(0, .ref (ad 1)), (1, vI x1), (2, vI x2)] []) ∧ ((z6 ≠ 0) → (0 ≤ x1 ∧ x1 < 40) ∧ E (wC g ad sk) X k n (up M4 5 x1 (lorL (M4 5 x1) (lshlL 1 x2))) 44 [(0, .ref (ad 1)), (1, vI x1), (2, vI x2)] []))))) : E (wC g ad sk) X k n M 17 [(0, .ref (ad 1)), (1, vI x1), (2, vI x2)] [] := by
  refine e_wf (fun hw0 => ?_)
  refine e_iload_n C 2 dX5_enter_17 rfl ?_
  refine e_iload_n C 1 dX5_enter_18 rfl ?_
  refine e_icmp_ge C 92 r2 r1 dX5_enter_19 (by decide) (fun c9 => ?_) (fun c9 => ?_)
  · replace H := H.1 c9
    refine e_aload_n C 0 dX5_enter_92 rfl ?_
    refine e_iload_n C 1 dX5_enter_93 rfl ?_
    refine e_iconst C dX5_enter_94 ?_
    obtain ⟨o1, H⟩ := H
    refine e_iadd C dX5_enter_95 ?_
    refine pX_5_17 C o1 dX5_enter_96 ?_
    refine e_wf (fun hw2 => ?_)
    refine e_iload_n C 1 dX5_enter_99 rfl ?_
    exact e_iret C Y hk hn dX5_enter_100 H
  · replace H := H.2 c9
    refine e_aload_n C 0 dX5_enter_22 rfl ?_
    refine e_iload_n C 1 dX5_enter_23 rfl ?_
    refine e_iload_n C 2 dX5_enter_24 rfl ?_
    obtain ⟨Q5, h3, H⟩ := H
    refine e_callVI (As := [vI x1, vI x2]) (rest := []) (q0 := 1) (ci := 5) C Y mi_X5_isReached ms_X5_isReached mv_X5_isReached ml_X5_158 h3 (wlX_st rfl) rfl (by decide) (Nat.le_of_ble_eq_true rfl) hk hn dX5_enter_25 rfl (fun z6 M4 hq9 => ?_)
    obtain ⟨o7, H⟩ := H z6 M4 hq9
    refine e_wf (fun hw8 => ?_)
    refine e_if_eq C 44 (b01_r o7) dX5_enter_28 (by decide) (fun c9 => ?_) (fun c9 => ?_)
    · replace H := H.1 c9
      exact e_sub [0, 1, 2] rfl H
    · replace H := H.2 c9
      refine e_aload_n C 0 dX5_enter_31 rfl ?_
      refine gX_5_21 C dX5_enter_32 ?_
      refine e_iload_n C 1 dX5_enter_35 rfl ?_
      refine e_dup2 C rfl rfl dX5_enter_36 ?_
      obtain ⟨o9, H⟩ := H
      refine aX_13 C o9 dX5_enter_37 ?_
      refine e_iload_n C 2 dX5_enter_38 rfl ?_
      refine e_callSN (As := [vI x2]) (rest := [vL (M4 5 x1), vI x1, .ref (ad 13)]) C Y mi_X9_bit ms_X9_bit (host := "HotGames") (by decide +kernel) (s_X9_bit r2) (by decide) (Nat.le_of_ble_eq_true rfl) hk hn dX5_enter_39 rfl ?_
      refine e_lor C dX5_enter_42 ?_
      refine sX_13 C o9 (r64_toInt _) dX5_enter_43 ?_
      refine e_wf (fun hw10 => ?_)
      exact e_sub [0, 1, 2] rfl H
set_option maxRecDepth 4000 in
theorem B_X5_enter_44 {g : Gs} {ad : Nat → Nat} {sk : (Nat → Nat) × (Nat → Nat)} {X : Cx} {mc ms k n : Nat} {PQ : Option Value → Mem → Prop} {PX : String → Mem → Prop} {M : Mem} {x1 x2 : Int} (r1 : R32 x1) (r2 : R32 x2) (hk : k ≤ mc) (hn : n ≤ ms) (C : OkB (wC g ad sk) X cX5_enter RX5 3 3 mc ms) (Y : OkR (wC g ad sk) X (some .int) mc ms PQ PX) (H : ∃ Q3 : Int → Mem → Prop, SpI (wC g ad sk) yX5_isReached cX5_isReached 6 (some .boolean) 2 [.ref (ad 1), vI x2, vI x1] M Q3 ∧ ∀ (z4 : Int) (M2 : Mem), Q3 z4 M2 → B01 z4 ∧ (((z4 = 0) → ((0 ≤ x2 ∧ x2 < 40) ∧ (R32 (x2 + 1))) ∧ E (wC g ad sk) X k n (up M2 5 x2 (landL (M2 5 x2) (lxorL (lshlL 1 x1) (-1)))) 17 [(0, .ref (ad 1)), (1, vI x1), (2, vI (x2 + 1))] []) ∧ ((z4 ≠ 0) → ((0 ≤ x2 ∧ x2 < 40) ∧ (R32 (x2 + 1))) ∧ E (wC g ad sk) X k n (up M2 5 x2 (lorL (M2 5 x2) (lshlL 1 x1))) 17 [(0, .ref (ad 1)), (1, vI x1), (2, vI (x2 + 1))] []))) : E (wC g ad sk) X k n M 44 [(0, .ref (ad 1)), (1, vI x1), (2, vI x2)] [] := by
  refine e_wf (fun hw0 => ?_)
  refine e_aload_n C 0 dX5_enter_44 rfl ?_
  refine e_iload_n C 2 dX5_enter_45 rfl ?_
  refine e_iload_n C 1 dX5_enter_46 rfl ?_
  obtain ⟨Q3, h1, H⟩ := H
  refine e_callVI (As := [vI x2, vI x1]) (rest := []) (q0 := 1) (ci := 5) C Y mi_X5_isReached ms_X5_isReached mv_X5_isReached ml_X5_158 h1 (wlX_st rfl) rfl (by decide) (Nat.le_of_ble_eq_true rfl) hk hn dX5_enter_47 rfl (fun z4 M2 hq9 => ?_)
  obtain ⟨o5, H⟩ := H z4 M2 hq9
  refine e_wf (fun hw6 => ?_)
  refine e_if_eq C 69 (b01_r o5) dX5_enter_50 (by decide) (fun c9 => ?_) (fun c9 => ?_)
  · replace H := H.1 c9
    refine e_aload_n C 0 dX5_enter_69 rfl ?_
    refine gX_5_21 C dX5_enter_70 ?_
    refine e_iload_n C 2 dX5_enter_73 rfl ?_
    refine e_dup2 C rfl rfl dX5_enter_74 ?_
    obtain ⟨⟨o7, o9⟩, H⟩ := H
    refine aX_13 C o7 dX5_enter_75 ?_
    refine e_iload_n C 1 dX5_enter_76 rfl ?_
    refine e_callSN (As := [vI x1]) (rest := [vL (M2 5 x2), vI x2, .ref (ad 13)]) C Y mi_X9_bit ms_X9_bit (host := "HotGames") (by decide +kernel) (s_X9_bit r1) (by decide) (Nat.le_of_ble_eq_true rfl) hk hn dX5_enter_77 rfl ?_
    refine e_ldc2 C (v := (-1)) (tg2 127 rfl rfl) (by decide) dX5_enter_80 ?_
    refine e_lxor C dX5_enter_83 ?_
    refine e_land C dX5_enter_84 ?_
    refine sX_13 C o7 (r64_toInt _) dX5_enter_85 ?_
    refine e_wf (fun hw8 => ?_)
    refine e_iinc C 2 dX5_enter_86 rfl (by decide) rfl ?_
    refine e_goto C 17 dX5_enter_89 (by decide) ?_
    exact e_sub [1, 2, 0] rfl H
  · replace H := H.2 c9
    refine e_aload_n C 0 dX5_enter_53 rfl ?_
    refine gX_5_21 C dX5_enter_54 ?_
    refine e_iload_n C 2 dX5_enter_57 rfl ?_
    refine e_dup2 C rfl rfl dX5_enter_58 ?_
    obtain ⟨⟨o10, o12⟩, H⟩ := H
    refine aX_13 C o10 dX5_enter_59 ?_
    refine e_iload_n C 1 dX5_enter_60 rfl ?_
    refine e_callSN (As := [vI x1]) (rest := [vL (M2 5 x2), vI x2, .ref (ad 13)]) C Y mi_X9_bit ms_X9_bit (host := "HotGames") (by decide +kernel) (s_X9_bit r1) (by decide) (Nat.le_of_ble_eq_true rfl) hk hn dX5_enter_61 rfl ?_
    refine e_lor C dX5_enter_64 ?_
    refine sX_13 C o10 (r64_toInt _) dX5_enter_65 ?_
    refine e_wf (fun hw11 => ?_)
    refine e_goto C 86 dX5_enter_66 (by decide) ?_
    refine e_iinc C 2 dX5_enter_86 rfl (by decide) rfl ?_
    refine e_goto C 17 dX5_enter_89 (by decide) ?_
    exact e_sub [1, 2, 0] rfl H
set_option maxRecDepth 4000 in
theorem B_X5_dominatorOf_0 {g : Gs} {ad : Nat → Nat} {sk : (Nat → Nat) × (Nat → Nat)} {X : Cx} {mc ms k n : Nat} {PQ : Option Value → Mem → Prop} {PX : String → Mem → Prop} {M : Mem} {x1 x2 x3 : Int} (r1 : 0 ≤ x1 ∧ x1 < 40) (r2 : R32 x2) (r3 : R32 x3) (hk : k ≤ mc) (hn : n ≤ ms) (C : OkB (wC g ad sk) X cX5_dominatorOf RX5 8 3 mc ms) (Y : OkR (wC g ad sk) X (some .int) mc ms PQ PX) (H : ((0 ≤ x2 ∧ x2 ≤ 1) ∧ M 41 (40 * x2 + x1) ≤ 4) ∧ ((((optAt M x1 x2 x3) ≠ (-1)) → E (wC g ad sk) X k n M 19 [(0, .ref (ad 1)), (1, .ref (ad (44 + 6 * (Int.toNat x1)))), (2, vI x2), (3, vI x3), (4, vI (optAt M x1 x2 x3)), (5, vI 0)] []) ∧ (((optAt M x1 x2 x3) = (-1)) → PQ (some (vI (-1))) M))) : E (wC g ad sk) X k n M 0 [(0, .ref (ad 1)), (1, .ref (ad (44 + 6 * (Int.toNat x1)))), (2, vI x2), (3, vI x3)] [] := by
  refine e_wf (fun hw0 => ?_)
  refine e_aload_n C 1 dX5_dominatorOf_0 rfl ?_
  refine e_iload_n C 2 dX5_dominatorOf_1 rfl ?_
  refine e_iload_n C 3 dX5_dominatorOf_2 rfl ?_
  obtain ⟨o1, H⟩ := H
  refine e_callVD (As := [vI x2, vI x3]) (rest := []) (ci := 2) C Y mi_X2_optionAt ms_X2_optionAt mv_X2_optionAt ml_X5_122 (s_X2_optionAt r1 r2 r3 o1) (heG r1) rfl (by decide) (Nat.le_of_ble_eq_true rfl) hk hn dX5_dominatorOf_3 rfl ?_
  refine e_istore C dX5_dominatorOf_6 (by decide) rfl ?_
  refine e_iload C 0 dX5_dominatorOf_8 rfl ?_
  refine e_iconst C dX5_dominatorOf_10 ?_
  refine e_icmp_ne C 16 (optAt_r hw0 _ _ _) (by decide) dX5_dominatorOf_11 (by decide) (fun c9 => ?_) (fun c9 => ?_)
  · replace H := H.1 c9
    refine e_iconst C dX5_dominatorOf_16 ?_
    refine e_istore C dX5_dominatorOf_17 (by decide) rfl ?_
    exact e_sub [2, 3, 4, 5, 1, 0] rfl H
  · replace H := H.2 c9
    refine e_iconst C dX5_dominatorOf_14 ?_
    exact e_iret C Y hk hn dX5_dominatorOf_15 H
set_option maxRecDepth 4000 in
theorem B_X5_dominatorOf_19 {g : Gs} {ad : Nat → Nat} {sk : (Nat → Nat) × (Nat → Nat)} {X : Cx} {mc ms k n : Nat} {PQ : Option Value → Mem → Prop} {PX : String → Mem → Prop} {M : Mem} {x1 x2 x3 x4 x5 : Int} (r1 : 0 ≤ x1 ∧ x1 < 40) (r2 : R32 x2) (r3 : R32 x3) (r4 : R32 x4) (r5 : R32 x5) (hk : k ≤ mc) (hn : n ≤ ms) (C : OkB (wC g ad sk) X cX5_dominatorOf RX5 8 3 mc ms) (Y : OkR (wC g ad sk) X (some .int) mc ms PQ PX) (H : (0 ≤ x2 ∧ x2 < 2) ∧ ((((M 41 (40 * x2 + x1)) ≤ x5) → PQ (some (vI (-1))) M) ∧ ((x5 < (M 41 (40 * x2 + x1))) → ((0 ≤ x2 ∧ x2 ≤ 1) ∧ M 41 (40 * x2 + x1) ≤ 4) ∧ (((x5 ≤ x3) → E (wC g ad sk) X k n M 50 [(0, .ref (ad 1)), (1, .ref (ad (44 + 6 * (Int.toNat x1)))), (2, vI x2), (3, vI x3), (4, vI x4), (5, vI x5), (6, vI (optAt M x1 x2 x5))] [vI 0]) ∧ ((x3 < x5) → E (wC g ad sk) X k n M 50 [(0, .ref (ad 1)), (1, .ref (ad (44 + 6 * (Int.toNat x1)))), (2, vI x2), (3, vI x3), (4, vI x4), (5, vI x5), (6, vI (optAt M x1 x2 x5))] [vI 1]))))) : E (wC g ad sk) X k n M 19 [(0, .ref (ad 1)), (1, .ref (ad (44 + 6 * (Int.toNat x1)))), (2, vI x2), (3, vI x3), (4, vI x4), (5, vI x5)] [] := by
  refine e_wf (fun hw0 => ?_)
  refine e_iload C 5 dX5_dominatorOf_19 rfl ?_
  refine e_aload_n C 1 dX5_dominatorOf_21 rfl ?_
  refine gX_5_116 C r1 dX5_dominatorOf_22 ?_
  refine e_iload_n C 2 dX5_dominatorOf_25 rfl ?_
  obtain ⟨o1, H⟩ := H
  refine aG_2 C r1 o1 dX5_dominatorOf_26 ?_
  refine e_icmp_ge C 96 r5 (hw0.2.1 41 _ rfl) dX5_dominatorOf_27 (by decide) (fun c9 => ?_) (fun c9 => ?_)
  · replace H := H.1 c9
    refine e_iconst C dX5_dominatorOf_96 ?_
    exact e_iret C Y hk hn dX5_dominatorOf_97 H
  · replace H := H.2 c9
    refine e_aload_n C 1 dX5_dominatorOf_30 rfl ?_
    refine e_iload_n C 2 dX5_dominatorOf_31 rfl ?_
    refine e_iload C 5 dX5_dominatorOf_32 rfl ?_
    obtain ⟨o2, H⟩ := H
    refine e_callVD (As := [vI x2, vI x5]) (rest := []) (ci := 2) C Y mi_X2_optionAt ms_X2_optionAt mv_X2_optionAt ml_X5_122 (s_X2_optionAt r1 r2 r5 o2) (heG r1) rfl (by decide) (Nat.le_of_ble_eq_true rfl) hk hn dX5_dominatorOf_34 rfl ?_
    refine e_istore C dX5_dominatorOf_37 (by decide) rfl ?_
    refine e_iload C 6 dX5_dominatorOf_39 rfl ?_
    refine e_iload_n C 4 dX5_dominatorOf_41 rfl ?_
    refine e_icmp_le C 49 r5 r3 dX5_dominatorOf_42 (by decide) (fun c9 => ?_) (fun c9 => ?_)
    · replace H := H.1 c9
      refine e_iconst C dX5_dominatorOf_49 ?_
      exact e_sub [1, 2, 3, 4, 5, 6, 0] rfl H
    · replace H := H.2 c9
      refine e_iconst C dX5_dominatorOf_45 ?_
      refine e_goto C 50 dX5_dominatorOf_46 (by decide) ?_
      exact e_sub [1, 2, 3, 4, 5, 6, 0] rfl H
set_option maxRecDepth 4000 in
theorem B_X5_dominatorOf_50 {g : Gs} {ad : Nat → Nat} {sk : (Nat → Nat) × (Nat → Nat)} {X : Cx} {mc ms k n : Nat} {PQ : Option Value → Mem → Prop} {PX : String → Mem → Prop} {M : Mem} {x1 x2 x3 x4 x5 x6 t0 : Int} (r1 : 0 ≤ x1 ∧ x1 < 40) (r2 : R32 x2) (r3 : R32 x3) (r4 : R32 x4) (r5 : R32 x5) (r6 : R32 x6) (q0 : R32 t0) (hk : k ≤ mc) (hn : n ≤ ms) (C : OkB (wC g ad sk) X cX5_dominatorOf RX5 8 3 mc ms) (Y : OkR (wC g ad sk) X (some .int) mc ms PQ PX) (H : (((x5 = x3) → (R32 (x5 + 1)) ∧ E (wC g ad sk) X k n M 19 [(0, .ref (ad 1)), (1, .ref (ad (44 + 6 * (Int.toNat x1)))), (2, vI x2), (3, vI x3), (4, vI x4), (5, vI (x5 + 1))] []) ∧ ((x5 ≠ x3) → ((0 ≤ x6 ∧ x6 < 40) ∧ 0 ≤ x4 ∧ x4 < 40) ∧ (((¬(goodA M x2 x6 x4)) → (R32 (x5 + 1)) ∧ E (wC g ad sk) X k n M 19 [(0, .ref (ad 1)), (1, .ref (ad (44 + 6 * (Int.toNat x1)))), (2, vI x2), (3, vI x3), (4, vI x4), (5, vI (x5 + 1))] []) ∧ ((goodA M x2 x6 x4) → (((t0 = 0) → PQ (some (vI x5)) M) ∧ ((t0 ≠ 0) → ((0 ≤ x4 ∧ x4 < 40) ∧ 0 ≤ x6 ∧ x6 < 40) ∧ (((goodA M x2 x4 x6) → (R32 (x5 + 1)) ∧ E (wC g ad sk) X k n M 19 [(0, .ref (ad 1)), (1, .ref (ad (44 + 6 * (Int.toNat x1)))), (2, vI x2), (3, vI x3), (4, vI x4), (5, vI (x5 + 1))] []) ∧ ((¬(goodA M x2 x4 x6)) → PQ (some (vI x5)) M))))))))) : E (wC g ad sk) X k n M 50 [(0, .ref (ad 1)), (1, .ref (ad (44 + 6 * (Int.toNat x1)))), (2, vI x2), (3, vI x3), (4, vI x4), (5, vI x5), (6, vI x6)] [vI t0] := by
  refine e_wf (fun hw0 => ?_)
  refine e_istore C dX5_dominatorOf_50 (by decide) rfl ?_
  refine e_iload C 6 dX5_dominatorOf_52 rfl ?_
  refine e_iload_n C 4 dX5_dominatorOf_54 rfl ?_
  refine e_icmp_eq C 90 r5 r3 dX5_dominatorOf_55 (by decide) (fun c9 => ?_) (fun c9 => ?_)
  · replace H := H.1 c9
    obtain ⟨o1, H⟩ := H
    refine e_iinc C 6 dX5_dominatorOf_90 rfl (by decide) rfl ?_
    refine e_goto C 19 dX5_dominatorOf_93 (by decide) ?_
    exact e_sub [2, 3, 4, 5, 6, 0] rfl H
  · replace H := H.2 c9
    refine e_aload_n C 1 dX5_dominatorOf_58 rfl ?_
    refine e_iload_n C 3 dX5_dominatorOf_59 rfl ?_
    refine e_iload C 7 dX5_dominatorOf_60 rfl ?_
    refine e_iload C 5 dX5_dominatorOf_62 rfl ?_
    obtain ⟨o2, H⟩ := H
    refine e_callVD (As := [vI x2, vI x6, vI x4]) (rest := []) (q0 := 1) (ci := 5) C Y mi_X5_isAsGood ms_X5_isAsGood mv_X5_isAsGood ml_X5_172 (s_X5_isAsGood r2 r6 r4 o2) (wlX_st rfl) rfl (by decide) (Nat.le_of_ble_eq_true rfl) hk hn dX5_dominatorOf_64 rfl ?_
    refine e_if_eq C 90 (b2i_r _) dX5_dominatorOf_67 (by decide) (fun c9 => ?_) (fun c9 => ?_)
    · replace H := H.1 (b2i_0.mp c9)
      obtain ⟨o3, H⟩ := H
      refine e_iinc C 6 dX5_dominatorOf_90 rfl (by decide) rfl ?_
      refine e_goto C 19 dX5_dominatorOf_93 (by decide) ?_
      exact e_sub [2, 3, 4, 5, 6, 0] rfl H
    · replace H := H.2 (b2i_n0.mp c9)
      refine e_iload C 0 dX5_dominatorOf_70 rfl ?_
      refine e_if_eq C 87 q0 dX5_dominatorOf_72 (by decide) (fun c9 => ?_) (fun c9 => ?_)
      · replace H := H.1 c9
        refine e_iload C 6 dX5_dominatorOf_87 rfl ?_
        exact e_iret C Y hk hn dX5_dominatorOf_89 H
      · replace H := H.2 c9
        refine e_aload_n C 1 dX5_dominatorOf_75 rfl ?_
        refine e_iload_n C 3 dX5_dominatorOf_76 rfl ?_
        refine e_iload C 5 dX5_dominatorOf_77 rfl ?_
        refine e_iload C 7 dX5_dominatorOf_79 rfl ?_
        obtain ⟨o4, H⟩ := H
        refine e_callVD (As := [vI x2, vI x4, vI x6]) (rest := []) (q0 := 1) (ci := 5) C Y mi_X5_isAsGood ms_X5_isAsGood mv_X5_isAsGood ml_X5_172 (s_X5_isAsGood r2 r4 r6 o4) (wlX_st rfl) rfl (by decide) (Nat.le_of_ble_eq_true rfl) hk hn dX5_dominatorOf_81 rfl ?_
        refine e_if_ne C 90 (b2i_r _) dX5_dominatorOf_84 (by decide) (fun c9 => ?_) (fun c9 => ?_)
        · replace H := H.1 (b2i_n0.mp c9)
          obtain ⟨o5, H⟩ := H
          refine e_iinc C 6 dX5_dominatorOf_90 rfl (by decide) rfl ?_
          refine e_goto C 19 dX5_dominatorOf_93 (by decide) ?_
          exact e_sub [2, 3, 4, 5, 6, 0] rfl H
        · replace H := H.2 (b2i_0.mp c9)
          refine e_iload C 6 dX5_dominatorOf_87 rfl ?_
          exact e_iret C Y hk hn dX5_dominatorOf_89 H
set_option maxRecDepth 4000 in
theorem B_X5_isReversible_0 {g : Gs} {ad : Nat → Nat} {sk : (Nat → Nat) × (Nat → Nat)} {X : Cx} {mc ms k n : Nat} {PQ : Option Value → Mem → Prop} {PX : String → Mem → Prop} {M : Mem} {x1 x2 x3 : Int} (r1 : R32 x1) (r2 : R32 x2) (r3 : R32 x3) (hk : k ≤ mc) (hn : n ≤ ms) (C : OkB (wC g ad sk) X cX5_isReversible RX5 6 3 mc ms) (Y : OkR (wC g ad sk) X (some .boolean) mc ms PQ PX) (H : (0 ≤ x3 ∧ x3 < 40) ∧ ((((M 45 x3) ≠ 0) → E (wC g ad sk) X k n M 35 [(0, .ref (ad 1)), (1, vI x1), (2, vI x2), (4, .ref (ad (44 + 6 * (Int.toNat x3)))), (5, vI 0)] []) ∧ (((M 45 x3) = 0) → (0 ≤ x1 ∧ x1 < 40) ∧ ∃ Q5 : Int → Mem → Prop, SpI (wC g ad sk) yX5_isReversibleNumber cX5_isReversibleNumber 5 (some .boolean) 2 [.ref (ad (44 + 6 * (Int.toNat x1))), vI x2, vI (M 46 x3)] M Q5 ∧ ∀ (z6 : Int) (M4 : Mem), Q5 z6 M4 → B01 z6 ∧ PQ (some (vI z6)) M4))) : E (wC g ad sk) X k n M 0 [(0, .ref (ad 1)), (1, vI x1), (2, vI x2), (3, vI x3)] [] := by
  refine e_wf (fun hw0 => ?_)
  refine e_aload_n C 0 dX5_isReversible_0 rfl ?_
  refine gX_5_11 C dX5_isReversible_1 ?_
  refine e_iload_n C 3 dX5_isReversible_4 rfl ?_
  obtain ⟨o1, H⟩ := H
  refine e_aaldG C o1 dX5_isReversible_5 ?_
  refine e_astore C dX5_isReversible_6 (by decide) rfl ?_
  refine e_aload C 0 dX5_isReversible_8 rfl ?_
  refine gX_5_39 C o1 dX5_isReversible_10 ?_
  refine e_if_ne C 32 (hw0.2.1 45 _ rfl) dX5_isReversible_13 (by decide) (fun c9 => ?_) (fun c9 => ?_)
  · replace H := H.1 c9
    refine e_iconst C dX5_isReversible_32 ?_
    refine e_istore C dX5_isReversible_33 (by decide) rfl ?_
    exact e_sub [2, 3, 4, 1, 0] rfl H
  · replace H := H.2 c9
    refine e_aload_n C 1 dX5_isReversible_16 rfl ?_
    refine gX_5_11 C dX5_isReversible_17 ?_
    refine e_iload_n C 2 dX5_isReversible_20 rfl ?_
    obtain ⟨o2, H⟩ := H
    refine e_aaldG C o2 dX5_isReversible_21 ?_
    refine e_iload_n C 3 dX5_isReversible_22 rfl ?_
    refine e_aload C 0 dX5_isReversible_23 rfl ?_
    refine gX_5_43 C o1 dX5_isReversible_25 ?_
    obtain ⟨Q5, h3, H⟩ := H
    refine e_callSI (As := [.ref (ad (44 + 6 * (Int.toNat x1))), vI x2, vI (M 46 x3)]) (rest := []) C Y mi_X5_isReversibleNumber ms_X5_isReversibleNumber ml_X5_176 h3 (by decide) (Nat.le_of_ble_eq_true rfl) hk hn dX5_isReversible_28 rfl (fun z6 M4 hq9 => ?_)
    obtain ⟨o7, H⟩ := H z6 M4 hq9
    refine e_wf (fun hw8 => ?_)
    exact e_zret C Y hk hn o7 dX5_isReversible_31 H
set_option maxRecDepth 4000 in
theorem B_X5_isReversible_35 {g : Gs} {ad : Nat → Nat} {sk : (Nat → Nat) × (Nat → Nat)} {X : Cx} {mc ms k n : Nat} {PQ : Option Value → Mem → Prop} {PX : String → Mem → Prop} {M : Mem} {x1 x2 x4 x5 : Int} (r1 : R32 x1) (r2 : R32 x2) (r4 : 0 ≤ x4 ∧ x4 < 40) (r5 : R32 x5) (hk : k ≤ mc) (hn : n ≤ ms) (C : OkB (wC g ad sk) X cX5_isReversible RX5 6 3 mc ms) (Y : OkR (wC g ad sk) X (some .boolean) mc ms PQ PX) (H : ((R32 (1 - x2)) ∧ (0 ≤ 1 - x2 ∧ 1 - x2 < 2)) ∧ ((((M 41 (40 * (1 - x2) + x4)) ≤ x5) → PQ (some (vI 0)) M) ∧ ((x5 < (M 41 (40 * (1 - x2) + x4))) → (((0 ≤ (1 - x2) ∧ (1 - x2) ≤ 1) ∧ M 41 (40 * (1 - x2) + x4) ≤ 4) ∧ ((0 ≤ x1 ∧ x1 < 40) ∧ 0 ≤ (optAt M x4 (1 - x2) x5) ∧ (optAt M x4 (1 - x2) x5) < 40)) ∧ (((¬(goodA M x2 x1 (optAt M x4 (1 - x2) x5))) → (R32 (x5 + 1)) ∧ E (wC g ad sk) X k n M 35 [(0, .ref (ad 1)), (1, vI x1), (2, vI x2), (4, .ref (ad (44 + 6 * (Int.toNat x4)))), (5, vI (x5 + 1))] []) ∧ ((goodA M x2 x1 (optAt M x4 (1 - x2) x5)) → PQ (some (vI 1)) M))))) : E (wC g ad sk) X k n M 35 [(0, .ref (ad 1)), (1, vI x1), (2, vI x2), (4, .ref (ad (44 + 6 * (Int.toNat x4)))), (5, vI x5)] [] := by
  refine e_wf (fun hw0 => ?_)
  refine e_iload C 4 dX5_isReversible_35 rfl ?_
  refine e_aload C 3 dX5_isReversible_37 rfl ?_
  refine gX_5_116 C r4 dX5_isReversible_39 ?_
  refine e_iconst C dX5_isReversible_42 ?_
  refine e_iload_n C 2 dX5_isReversible_43 rfl ?_
  obtain ⟨⟨o1, o2⟩, H⟩ := H
  refine e_isub C dX5_isReversible_44 ?_
  refine aG_2 C r4 o2 dX5_isReversible_45 ?_
  refine e_icmp_ge C 76 r5 (hw0.2.1 41 _ rfl) dX5_isReversible_46 (by decide) (fun c9 => ?_) (fun c9 => ?_)
  · replace H := H.1 c9
    refine e_iconst C dX5_isReversible_76 ?_
    exact e_zret C Y hk hn (by decide) dX5_isReversible_77 H
  · replace H := H.2 c9
    refine e_aload_n C 0 dX5_isReversible_49 rfl ?_
    refine e_iload_n C 2 dX5_isReversible_50 rfl ?_
    refine e_iload_n C 1 dX5_isReversible_51 rfl ?_
    refine e_aload C 3 dX5_isReversible_52 rfl ?_
    refine e_iconst C dX5_isReversible_54 ?_
    refine e_iload_n C 2 dX5_isReversible_55 rfl ?_
    refine e_isub C dX5_isReversible_56 ?_
    refine e_iload C 4 dX5_isReversible_57 rfl ?_
    obtain ⟨⟨o3, o4⟩, H⟩ := H
    refine e_callVD (As := [vI (1 - x2), vI x5]) (rest := [vI x1, vI x2, .ref (ad 1)]) (ci := 2) C Y mi_X2_optionAt ms_X2_optionAt mv_X2_optionAt ml_X5_122 (s_X2_optionAt r4 o1 r5 o3) (heG r4) rfl (by decide) (Nat.le_of_ble_eq_true rfl) hk hn dX5_isReversible_59 rfl ?_
    refine e_callVD (As := [vI x2, vI x1, vI (optAt M x4 (1 - x2) x5)]) (rest := []) (q0 := 1) (ci := 5) C Y mi_X5_isAsGood ms_X5_isAsGood mv_X5_isAsGood ml_X5_172 (s_X5_isAsGood r2 r1 (optAt_r hw0 _ _ _) o4) (wlX_st rfl) rfl (by decide) (Nat.le_of_ble_eq_true rfl) hk hn dX5_isReversible_62 rfl ?_
    refine e_if_eq C 70 (b2i_r _) dX5_isReversible_65 (by decide) (fun c9 => ?_) (fun c9 => ?_)
    · replace H := H.1 (b2i_0.mp c9)
      obtain ⟨o5, H⟩ := H
      refine e_iinc C 4 dX5_isReversible_70 rfl (by decide) rfl ?_
      refine e_goto C 35 dX5_isReversible_73 (by decide) ?_
      exact e_sub [1, 2, 3, 4, 0] rfl H
    · replace H := H.2 (b2i_n0.mp c9)
      refine e_iconst C dX5_isReversible_68 ?_
      exact e_zret C Y hk hn (by decide) dX5_isReversible_69 H
set_option maxRecDepth 4000 in
theorem B_X5_wallAt_0 {g : Gs} {ad : Nat → Nat} {sk : (Nat → Nat) × (Nat → Nat)} {X : Cx} {mc ms k n : Nat} {PQ : Option Value → Mem → Prop} {PX : String → Mem → Prop} {M : Mem} {x1 x2 x3 : Int} (r1 : R32 x1) (r2 : R32 x2) (r3 : R32 x3) (hk : k ≤ mc) (hn : n ≤ ms) (C : OkB (wC g ad sk) X cX5_wallAt RX5 4 3 mc ms) (Y : OkR (wC g ad sk) X (some .int) mc ms PQ PX) (H : (0 ≤ x1 ∧ x1 < 40) ∧ ∃ Q4 : Mem → Prop, SpV (wC g ad sk) yX5_sweep cX5_sweep 7 none 2 [.ref (ad 1), vL (M 52 x1), vI x3] M Q4 ∧ ∀ M3 : Mem, Q4 M3 → (0 ≤ x2 ∧ x2 < 2) ∧ PQ (some (vI (M3 6 (2 * x1 + x2)))) M3) : E (wC g ad sk) X k n M 0 [(0, .ref (ad 1)), (1, vI x1), (2, vI x2), (3, vI x3)] [] := by
  refine e_wf (fun hw0 => ?_)
  refine e_aload_n C 0 dX5_wallAt_0 rfl ?_
  refine e_aload_n C 0 dX5_wallAt_1 rfl ?_
  refine gX_5_11 C dX5_wallAt_2 ?_
  refine e_iload_n C 1 dX5_wallAt_5 rfl ?_
  obtain ⟨o1, H⟩ := H
  refine e_aaldG C o1 dX5_wallAt_6 ?_
  refine gX_5_54 C o1 dX5_wallAt_7 ?_
  refine e_iload_n C 3 dX5_wallAt_10 rfl ?_
  obtain ⟨Q4, h2, H⟩ := H
  refine e_callVV (As := [vL (M 52 x1), vI x3]) (rest := []) (q0 := 1) (ci := 5) C Y mi_X5_sweep ms_X5_sweep mv_X5_sweep ml_X5_141 h2 (wlX_st rfl) rfl (by decide) (Nat.le_of_ble_eq_true rfl) hk hn dX5_wallAt_11 rfl (fun M3 hq9 => ?_)
  replace H := H M3 hq9
  refine e_wf (fun hw5 => ?_)
  refine e_aload_n C 0 dX5_wallAt_14 rfl ?_
  refine gX_5_27 C dX5_wallAt_15 ?_
  refine e_iload_n C 2 dX5_wallAt_18 rfl ?_
  obtain ⟨o6, H⟩ := H
  refine e_aaldW C o6 dX5_wallAt_19 ?_
  refine e_iload_n C 1 dX5_wallAt_20 rfl ?_
  refine aR_W C o6 o1 dX5_wallAt_21 ?_
  exact e_iret C Y hk hn dX5_wallAt_22 H
set_option maxRecDepth 4000 in
theorem B_X8_takeOpen_0 {g : Gs} {ad : Nat → Nat} {sk : (Nat → Nat) × (Nat → Nat)} {X : Cx} {mc ms k n : Nat} {PQ : Option Value → Mem → Prop} {PX : String → Mem → Prop} {M : Mem}  (hk : k ≤ mc) (hn : n ≤ ms) (C : OkB (wC g ad sk) X cX8_takeOpen RX8 1 3 mc ms) (Y : OkR (wC g ad sk) X none mc ms PQ PX) (H : ∃ Q3 : Mem → Prop, SpV (wC g ad sk) yX8_note cX8_note 2 none 1 [.ref (ad 5), vI 100] M Q3 ∧ ∀ M2 : Mem, Q3 M2 → ((0 ≤ M2 26 0 ∧ M2 26 0 < 80) ∧ (R32 ((M2 26 0) + 1))) ∧ ∃ Q12 : Mem → Prop, SpV (wC g ad sk) yX8_advance cX8_advance 1 none 2 [.ref (ad 5)] (up (up (up M2 25 (M2 26 0) 0) 26 0 ((M2 26 0) + 1)) 27 0 1) Q12 ∧ ∀ M11 : Mem, Q12 M11 → PQ none M11) : E (wC g ad sk) X k n M 0 [(0, .ref (ad 5))] [] := by
  refine e_wf (fun hw0 => ?_)
  refine e_aload_n C 0 dX8_takeOpen_0 rfl ?_
  refine e_bipush C dX8_takeOpen_1 (by decide) ?_
  obtain ⟨Q3, h1, H⟩ := H
  refine e_callVV (As := [vI 100]) (rest := []) (q0 := 5) (ci := 8) C Y mi_X8_note ms_X8_note mv_X8_note ml_X8_71 h1 (wlX_st rfl) rfl (by decide) (Nat.le_of_ble_eq_true rfl) hk hn dX8_takeOpen_3 rfl (fun M2 hq9 => ?_)
  replace H := H M2 hq9
  refine e_wf (fun hw4 => ?_)
  refine e_aload_n C 0 dX8_takeOpen_6 rfl ?_
  refine gX_8_23 C dX8_takeOpen_7 ?_
  refine e_aload_n C 0 dX8_takeOpen_10 rfl ?_
  refine gX_8_30 C dX8_takeOpen_11 ?_
  refine e_iconst C dX8_takeOpen_14 ?_
  obtain ⟨⟨o5, o7⟩, H⟩ := H
  refine sX_37 C o5 (by decide) dX8_takeOpen_15 ?_
  refine e_wf (fun hw6 => ?_)
  refine e_aload_n C 0 dX8_takeOpen_16 rfl ?_
  refine e_dup C rfl dX8_takeOpen_17 ?_
  refine gX_8_30 C dX8_takeOpen_18 ?_
  refine e_iconst C dX8_takeOpen_21 ?_
  refine e_iadd C dX8_takeOpen_22 ?_
  refine pX_8_30 C o7 dX8_takeOpen_23 ?_
  refine e_wf (fun hw8 => ?_)
  refine e_aload_n C 0 dX8_takeOpen_26 rfl ?_
  refine e_iconst C dX8_takeOpen_27 ?_
  refine pX_8_39 C (by decide) dX8_takeOpen_28 ?_
  refine e_wf (fun hw9 => ?_)
  refine e_aload_n C 0 dX8_takeOpen_31 rfl ?_
  obtain ⟨Q12, h10, H⟩ := H
  refine e_callVV (As := []) (rest := []) (q0 := 5) (ci := 8) C Y mi_X8_advance ms_X8_advance mv_X8_advance ml_X8_42 h10 (wlX_st rfl) rfl (by decide) (Nat.le_of_ble_eq_true rfl) hk hn dX8_takeOpen_32 rfl (fun M11 hq9 => ?_)
  replace H := H M11 hq9
  refine e_wf (fun hw13 => ?_)
  exact e_vret C Y hk hn dX8_takeOpen_35 H
set_option maxRecDepth 4000 in
theorem B_X8_takeBar_0 {g : Gs} {ad : Nat → Nat} {sk : (Nat → Nat) × (Nat → Nat)} {X : Cx} {mc ms k n : Nat} {PQ : Option Value → Mem → Prop} {PX : String → Mem → Prop} {M : Mem}  (hk : k ≤ mc) (hn : n ≤ ms) (C : OkB (wC g ad sk) X cX8_takeBar RX8 1 3 mc ms) (Y : OkR (wC g ad sk) X none mc ms PQ PX) (H : ∃ Q3 : Mem → Prop, SpV (wC g ad sk) yX8_note cX8_note 2 none 1 [.ref (ad 5), vI 101] M Q3 ∧ ∀ M2 : Mem, Q3 M2 → ((R32 ((M2 26 0) - 1)) ∧ (0 ≤ (M2 26 0) - 1 ∧ (M2 26 0) - 1 < 80)) ∧ ∃ Q11 : Mem → Prop, SpV (wC g ad sk) yX8_advance cX8_advance 1 none 2 [.ref (ad 5)] (up (up M2 25 ((M2 26 0) - 1) 1) 27 0 2) Q11 ∧ ∀ M10 : Mem, Q11 M10 → PQ none M10) : E (wC g ad sk) X k n M 0 [(0, .ref (ad 5))] [] := by
  refine e_wf (fun hw0 => ?_)
  refine e_aload_n C 0 dX8_takeBar_0 rfl ?_
  refine e_bipush C dX8_takeBar_1 (by decide) ?_
  obtain ⟨Q3, h1, H⟩ := H
  refine e_callVV (As := [vI 101]) (rest := []) (q0 := 5) (ci := 8) C Y mi_X8_note ms_X8_note mv_X8_note ml_X8_71 h1 (wlX_st rfl) rfl (by decide) (Nat.le_of_ble_eq_true rfl) hk hn dX8_takeBar_3 rfl (fun M2 hq9 => ?_)
  replace H := H M2 hq9
  refine e_wf (fun hw4 => ?_)
  refine e_aload_n C 0 dX8_takeBar_6 rfl ?_
  refine gX_8_23 C dX8_takeBar_7 ?_
  refine e_aload_n C 0 dX8_takeBar_10 rfl ?_
  refine gX_8_30 C dX8_takeBar_11 ?_
  refine e_iconst C dX8_takeBar_14 ?_
  obtain ⟨⟨o5, o6⟩, H⟩ := H
  refine e_isub C dX8_takeBar_15 ?_
  refine e_iconst C dX8_takeBar_16 ?_
  refine sX_37 C o6 (by decide) dX8_takeBar_17 ?_
  refine e_wf (fun hw7 => ?_)
  refine e_aload_n C 0 dX8_takeBar_18 rfl ?_
  refine e_iconst C dX8_takeBar_19 ?_
  refine pX_8_39 C (by decide) dX8_takeBar_20 ?_
  refine e_wf (fun hw8 => ?_)
  refine e_aload_n C 0 dX8_takeBar_23 rfl ?_
  obtain ⟨Q11, h9, H⟩ := H
  refine e_callVV (As := []) (rest := []) (q0 := 5) (ci := 8) C Y mi_X8_advance ms_X8_advance mv_X8_advance ml_X8_42 h9 (wlX_st rfl) rfl (by decide) (Nat.le_of_ble_eq_true rfl) hk hn dX8_takeBar_24 rfl (fun M10 hq9 => ?_)
  replace H := H M10 hq9
  refine e_wf (fun hw12 => ?_)
  exact e_vret C Y hk hn dX8_takeBar_27 H
set_option maxRecDepth 4000 in
theorem B_X8_takeClose_0 {g : Gs} {ad : Nat → Nat} {sk : (Nat → Nat) × (Nat → Nat)} {X : Cx} {mc ms k n : Nat} {PQ : Option Value → Mem → Prop} {PX : String → Mem → Prop} {M : Mem}  (hk : k ≤ mc) (hn : n ≤ ms) (C : OkB (wC g ad sk) X cX8_takeClose RX8 1 3 mc ms) (Y : OkR (wC g ad sk) X none mc ms PQ PX) (H : ∃ Q3 : Mem → Prop, SpV (wC g ad sk) yX8_note cX8_note 2 none 1 [.ref (ad 5), vI 102] M Q3 ∧ ∀ M2 : Mem, Q3 M2 → (R32 ((M2 26 0) - 1)) ∧ ∃ Q10 : Mem → Prop, SpV (wC g ad sk) yX8_advance cX8_advance 1 none 2 [.ref (ad 5)] (up (up M2 26 0 ((M2 26 0) - 1)) 27 0 3) Q10 ∧ ∀ M9 : Mem, Q10 M9 → PQ none M9) : E (wC g ad sk) X k n M 0 [(0, .ref (ad 5))] [] := by
  refine e_wf (fun hw0 => ?_)
  refine e_aload_n C 0 dX8_takeClose_0 rfl ?_
  refine e_bipush C dX8_takeClose_1 (by decide) ?_
  obtain ⟨Q3, h1, H⟩ := H
  refine e_callVV (As := [vI 102]) (rest := []) (q0 := 5) (ci := 8) C Y mi_X8_note ms_X8_note mv_X8_note ml_X8_71 h1 (wlX_st rfl) rfl (by decide) (Nat.le_of_ble_eq_true rfl) hk hn dX8_takeClose_3 rfl (fun M2 hq9 => ?_)
  replace H := H M2 hq9
  refine e_wf (fun hw4 => ?_)
  refine e_aload_n C 0 dX8_takeClose_6 rfl ?_
  refine e_dup C rfl dX8_takeClose_7 ?_
  refine gX_8_30 C dX8_takeClose_8 ?_
  refine e_iconst C dX8_takeClose_11 ?_
  obtain ⟨o5, H⟩ := H
  refine e_isub C dX8_takeClose_12 ?_
  refine pX_8_30 C o5 dX8_takeClose_13 ?_
  refine e_wf (fun hw6 => ?_)
  refine e_aload_n C 0 dX8_takeClose_16 rfl ?_
  refine e_iconst C dX8_takeClose_17 ?_
  refine pX_8_39 C (by decide) dX8_takeClose_18 ?_
  refine e_wf (fun hw7 => ?_)
  refine e_aload_n C 0 dX8_takeClose_21 rfl ?_
  obtain ⟨Q10, h8, H⟩ := H
  refine e_callVV (As := []) (rest := []) (q0 := 5) (ci := 8) C Y mi_X8_advance ms_X8_advance mv_X8_advance ml_X8_42 h8 (wlX_st rfl) rfl (by decide) (Nat.le_of_ble_eq_true rfl) hk hn dX8_takeClose_22 rfl (fun M9 hq9 => ?_)
  replace H := H M9 hq9
  refine e_wf (fun hw11 => ?_)
  exact e_vret C Y hk hn dX8_takeClose_25 H
set_option maxRecDepth 4000 in
theorem B_X8_noteStar_0 {g : Gs} {ad : Nat → Nat} {sk : (Nat → Nat) × (Nat → Nat)} {X : Cx} {mc ms k n : Nat} {PQ : Option Value → Mem → Prop} {PX : String → Mem → Prop} {M : Mem}  (hk : k ≤ mc) (hn : n ≤ ms) (C : OkB (wC g ad sk) X cX8_noteStar RX8 1 3 mc ms) (Y : OkR (wC g ad sk) X none mc ms PQ PX) (H : ∃ Q3 : Mem → Prop, SpV (wC g ad sk) yX8_notePair cX8_notePair 3 none 2 [.ref (ad 5), vI 0, vI 0] M Q3 ∧ ∀ M2 : Mem, Q3 M2 → PQ none M2) : E (wC g ad sk) X k n M 0 [(0, .ref (ad 5))] [] := by
  refine e_wf (fun hw0 => ?_)
  refine e_aload_n C 0 dX8_noteStar_0 rfl ?_
  refine e_iconst C dX8_noteStar_1 ?_
  refine e_iconst C dX8_noteStar_2 ?_
  obtain ⟨Q3, h1, H⟩ := H
  refine e_callVV (As := [vI 0, vI 0]) (rest := []) (q0 := 5) (ci := 8) C Y mi_X8_notePair ms_X8_notePair mv_X8_notePair ml_X8_97 h1 (wlX_st rfl) rfl (by decide) (Nat.le_of_ble_eq_true rfl) hk hn dX8_noteStar_3 rfl (fun M2 hq9 => ?_)
  replace H := H M2 hq9
  refine e_wf (fun hw4 => ?_)
  exact e_vret C Y hk hn dX8_noteStar_6 H
set_option maxRecDepth 4000 in
theorem B_X8_takePositive_0 {g : Gs} {ad : Nat → Nat} {sk : (Nat → Nat) × (Nat → Nat)} {X : Cx} {mc ms k n : Nat} {PQ : Option Value → Mem → Prop} {PX : String → Mem → Prop} {M : Mem}  (hk : k ≤ mc) (hn : n ≤ ms) (C : OkB (wC g ad sk) X cX8_takePositive RX8 4 3 mc ms) (Y : OkR (wC g ad sk) X (some .int) mc ms PQ PX) (H : ∃ Q3 : Int → Mem → Prop, SpI (wC g ad sk) yX8_digitsHere cX8_digitsHere 4 (some .int) 1 [.ref (ad 5)] M Q3 ∧ ∀ (z4 : Int) (M2 : Mem), Q3 z4 M2 → R32 z4 ∧ (((z4 ≠ (-1)) → ∃ Q9 : Mem → Prop, SpV (wC g ad sk) yX8_advance cX8_advance 1 none 2 [.ref (ad 5)] M2 Q9 ∧ ∀ M8 : Mem, Q9 M8 → ((((M8 28 0) = 47) → ∃ Q13 : Mem → Prop, SpV (wC g ad sk) yX8_advance cX8_advance 1 none 2 [.ref (ad 5)] M8 Q13 ∧ ∀ M12 : Mem, Q13 M12 → ∃ Q17 : Int → Mem → Prop, SpI (wC g ad sk) yX8_eighthsPerPart cX8_eighthsPerPart 1 (some .int) 2 [.ref (ad 5)] M12 Q17 ∧ ∀ (z18 : Int) (M16 : Mem), Q17 z18 M16 → R32 z18 ∧ (((z18 = 0) → PQ (some (vI 0)) (up M16 31 0 (M16 29 0))) ∧ ((z18 ≠ 0) → (R32 (z4 * z18)) ∧ ((((z4 * z18) ≤ 64) → ∃ Q25 : Mem → Prop, SpV (wC g ad sk) yX8_advance cX8_advance 1 none 2 [.ref (ad 5)] M16 Q25 ∧ ∀ M24 : Mem, Q25 M24 → PQ (some (vI (z4 * z18))) M24) ∧ ((64 < (z4 * z18)) → PQ (some (vI 0)) (up M16 31 0 (M16 29 0))))))) ∧ (((M8 28 0) ≠ 47) → (((z4 ≤ 8) → (R32 (z4 * 8)) ∧ PQ (some (vI (z4 * 8))) (up M8 31 0 (-1))) ∧ ((8 < z4) → (R32 (z4 * 8)) ∧ PQ (some (vI (z4 * 8))) (up M8 31 0 (M 29 0))))))) ∧ ((z4 = (-1)) → PQ (some (vI 0)) (up M2 31 0 (M2 29 0))))) : E (wC g ad sk) X k n M 0 [(0, .ref (ad 5))] [] := by
  refine e_wf (fun hw0 => ?_)
  refine e_aload_n C 0 dX8_takePositive_0 rfl ?_
  refine gX_8_51 C dX8_takePositive_1 ?_
  refine e_istore_n C dX8_takePositive_4 (by decide) rfl ?_
  refine e_aload_n C 1 dX8_takePositive_5 rfl ?_
  obtain ⟨Q3, h1, H⟩ := H
  refine e_callVI (As := []) (rest := []) (q0 := 5) (ci := 8) C Y mi_X8_digitsHere ms_X8_digitsHere mv_X8_digitsHere ml_X8_109 h1 (wlX_st rfl) rfl (by decide) (Nat.le_of_ble_eq_true rfl) hk hn dX8_takePositive_6 rfl (fun z4 M2 hq9 => ?_)
  obtain ⟨o5, H⟩ := H z4 M2 hq9
  refine e_wf (fun hw6 => ?_)
  refine e_istore_n C dX8_takePositive_9 (by decide) rfl ?_
  refine e_iload_n C 0 dX8_takePositive_10 rfl ?_
  refine e_iconst C dX8_takePositive_11 ?_
  refine e_icmp_ne C 25 o5 (by decide) dX8_takePositive_12 (by decide) (fun c9 => ?_) (fun c9 => ?_)
  · replace H := H.1 c9
    refine e_aload_n C 2 dX8_takePositive_25 rfl ?_
    obtain ⟨Q9, h7, H⟩ := H
    refine e_callVV (As := []) (rest := []) (q0 := 5) (ci := 8) C Y mi_X8_advance ms_X8_advance mv_X8_advance ml_X8_42 h7 (wlX_st rfl) rfl (by decide) (Nat.le_of_ble_eq_true rfl) hk hn dX8_takePositive_26 rfl (fun M8 hq9 => ?_)
    replace H := H M8 hq9
    refine e_wf (fun hw10 => ?_)
    refine e_aload_n C 2 dX8_takePositive_29 rfl ?_
    refine gX_8_58 C dX8_takePositive_30 ?_
    refine e_bipush C dX8_takePositive_33 (by decide) ?_
    refine e_icmp_eq C 58 (hw10.2.1 28 _ rfl) (by decide) dX8_takePositive_35 (by decide) (fun c9 => ?_) (fun c9 => ?_)
    · replace H := H.1 c9
      refine e_aload_n C 2 dX8_takePositive_58 rfl ?_
      obtain ⟨Q13, h11, H⟩ := H
      refine e_callVV (As := []) (rest := []) (q0 := 5) (ci := 8) C Y mi_X8_advance ms_X8_advance mv_X8_advance ml_X8_42 h11 (wlX_st rfl) rfl (by decide) (Nat.le_of_ble_eq_true rfl) hk hn dX8_takePositive_59 rfl (fun M12 hq9 => ?_)
      replace H := H M12 hq9
      refine e_wf (fun hw14 => ?_)
      refine e_aload_n C 2 dX8_takePositive_62 rfl ?_
      obtain ⟨Q17, h15, H⟩ := H
      refine e_callVI (As := []) (rest := []) (q0 := 5) (ci := 8) C Y mi_X8_eighthsPerPart ms_X8_eighthsPerPart mv_X8_eighthsPerPart ml_X8_112 h15 (wlX_st rfl) rfl (by decide) (Nat.le_of_ble_eq_true rfl) hk hn dX8_takePositive_63 rfl (fun z18 M16 hq9 => ?_)
      obtain ⟨o19, H⟩ := H z18 M16 hq9
      refine e_wf (fun hw20 => ?_)
      refine e_istore_n C dX8_takePositive_66 (by decide) rfl ?_
      refine e_iload_n C 0 dX8_takePositive_67 rfl ?_
      refine e_if_eq C 79 o19 dX8_takePositive_68 (by decide) (fun c9 => ?_) (fun c9 => ?_)
      · replace H := H.1 c9
        refine e_aload_n C 3 dX8_takePositive_79 rfl ?_
        refine e_aload_n C 3 dX8_takePositive_80 rfl ?_
        refine gX_8_51 C dX8_takePositive_81 ?_
        refine pX_8_36 C (hw20.2.1 29 _ rfl) dX8_takePositive_84 ?_
        refine e_wf (fun hw21 => ?_)
        refine e_iconst C dX8_takePositive_87 ?_
        exact e_iret C Y hk hn dX8_takePositive_88 H
      · replace H := H.2 c9
        refine e_iload_n C 1 dX8_takePositive_71 rfl ?_
        refine e_iload_n C 0 dX8_takePositive_72 rfl ?_
        obtain ⟨o22, H⟩ := H
        refine e_imul C dX8_takePositive_73 ?_
        refine e_bipush C dX8_takePositive_74 (by decide) ?_
        refine e_icmp_le C 89 o22 (by decide) dX8_takePositive_76 (by decide) (fun c9 => ?_) (fun c9 => ?_)
        · replace H := H.1 c9
          refine e_aload_n C 3 dX8_takePositive_89 rfl ?_
          obtain ⟨Q25, h23, H⟩ := H
          refine e_callVV (As := []) (rest := []) (q0 := 5) (ci := 8) C Y mi_X8_advance ms_X8_advance mv_X8_advance ml_X8_42 h23 (wlX_st rfl) rfl (by decide) (Nat.le_of_ble_eq_true rfl) hk hn dX8_takePositive_90 rfl (fun M24 hq9 => ?_)
          replace H := H M24 hq9
          refine e_wf (fun hw26 => ?_)
          refine e_iload_n C 1 dX8_takePositive_93 rfl ?_
          refine e_iload_n C 0 dX8_takePositive_94 rfl ?_
          refine e_imul C dX8_takePositive_95 ?_
          exact e_iret C Y hk hn dX8_takePositive_96 H
        · replace H := H.2 c9
          refine e_aload_n C 3 dX8_takePositive_79 rfl ?_
          refine e_aload_n C 3 dX8_takePositive_80 rfl ?_
          refine gX_8_51 C dX8_takePositive_81 ?_
          refine pX_8_36 C (hw20.2.1 29 _ rfl) dX8_takePositive_84 ?_
          refine e_wf (fun hw27 => ?_)
          refine e_iconst C dX8_takePositive_87 ?_
          exact e_iret C Y hk hn dX8_takePositive_88 H
    · replace H := H.2 c9
      refine e_aload_n C 2 dX8_takePositive_38 rfl ?_
      refine e_iload_n C 0 dX8_takePositive_39 rfl ?_
      refine e_bipush C dX8_takePositive_40 (by decide) ?_
      refine e_icmp_le C 49 o5 (by decide) dX8_takePositive_42 (by decide) (fun c9 => ?_) (fun c9 => ?_)
      · replace H := H.1 c9
        refine e_iconst C dX8_takePositive_49 ?_
        refine pX_8_36 C (by decide) dX8_takePositive_50 ?_
        refine e_wf (fun hw28 => ?_)
        refine e_iload_n C 0 dX8_takePositive_53 rfl ?_
        refine e_bipush C dX8_takePositive_54 (by decide) ?_
        obtain ⟨o29, H⟩ := H
        refine e_imul C dX8_takePositive_56 ?_
        exact e_iret C Y hk hn dX8_takePositive_57 H
      · replace H := H.2 c9
        refine e_iload_n C 1 dX8_takePositive_45 rfl ?_
        refine e_goto C 50 dX8_takePositive_46 (by decide) ?_
        refine pX_8_36 C (hw0.2.1 29 _ rfl) dX8_takePositive_50 ?_
        refine e_wf (fun hw30 => ?_)
        refine e_iload_n C 0 dX8_takePositive_53 rfl ?_
        refine e_bipush C dX8_takePositive_54 (by decide) ?_
        obtain ⟨o31, H⟩ := H
        refine e_imul C dX8_takePositive_56 ?_
        exact e_iret C Y hk hn dX8_takePositive_57 H
  · replace H := H.2 c9
    refine e_aload_n C 2 dX8_takePositive_15 rfl ?_
    refine e_aload_n C 2 dX8_takePositive_16 rfl ?_
    refine gX_8_51 C dX8_takePositive_17 ?_
    refine pX_8_36 C (hw6.2.1 29 _ rfl) dX8_takePositive_20 ?_
    refine e_wf (fun hw32 => ?_)
    refine e_iconst C dX8_takePositive_23 ?_
    exact e_iret C Y hk hn dX8_takePositive_24 H
set_option maxRecDepth 4000 in
theorem B_X0_hottest_0 {g : Gs} {ad : Nat → Nat} {sk : (Nat → Nat) × (Nat → Nat)} {X : Cx} {mc ms k n : Nat} {PQ : Option Value → Mem → Prop} {PX : String → Mem → Prop} {M : Mem} {x2 x3 : Int} (r2 : R32 x2) (r3 : R32 x3) (hk : k ≤ mc) (hn : n ≤ ms) (C : OkB (wC g ad sk) X cX0_hottest RX0 7 4 mc ms) (Y : OkR (wC g ad sk) X (some .int) mc ms PQ PX) (H : E (wC g ad sk) X k n M 9 [(0, .ref (ad 4)), (1, .ref (ad 10)), (2, vI x2), (3, vI x3), (4, vI (-1)), (5, vI (-1)), (6, vI 0)] []) : E (wC g ad sk) X k n M 0 [(0, .ref (ad 4)), (1, .ref (ad 10)), (2, vI x2), (3, vI x3)] [] := by
  refine e_wf (fun hw0 => ?_)
  refine e_iconst C dX0_hottest_0 ?_
  refine e_istore C dX0_hottest_1 (by decide) rfl ?_
  refine e_iconst C dX0_hottest_3 ?_
  refine e_istore C dX0_hottest_4 (by decide) rfl ?_
  refine e_iconst C dX0_hottest_6 ?_
  refine e_istore C dX0_hottest_7 (by decide) rfl ?_
  exact e_sub [3, 4, 5, 6, 2, 1, 0] rfl H
set_option maxRecDepth 4000 in
theorem B_X0_hottest_9 {g : Gs} {ad : Nat → Nat} {sk : (Nat → Nat) × (Nat → Nat)} {X : Cx} {mc ms k n : Nat} {PQ : Option Value → Mem → Prop} {PX : String → Mem → Prop} {M : Mem} {x2 x3 x4 x5 x6 : Int} (r2 : R32 x2) (r3 : R32 x3) (r4 : R32 x4) (r5 : R32 x5) (r6 : R32 x6) (hk : k ≤ mc) (hn : n ≤ ms) (C : OkB (wC g ad sk) X cX0_hottest RX0 7 4 mc ms) (Y : OkR (wC g ad sk) X (some .int) mc ms PQ PX) (H : (((x2 ≤ x6) → (((x4 ≠ (-1)) → ((R32 (100 * x4)) ∧ (0 ≤ x4 ∧ x4 < 4) ∧ (0 ≤ M 2 x4 ∧ M 2 x4 < 40)) ∧ ∃ Q6 : Int → Mem → Prop, SpI (wC g ad sk) yX0_coolest cX0_coolest 7 (some .int) 3 [.ref (ad 4), .ref (ad (44 + 6 * (Int.toNat (M 2 x4)))), vI x3] M Q6 ∧ ∀ (z7 : Int) (M5 : Mem), Q6 z7 M5 → R32 z7 ∧ (R32 ((100 * x4) + z7)) ∧ PQ (some (vI ((100 * x4) + z7))) M5) ∧ ((x4 = (-1)) → PQ (some (vI (-1))) M))) ∧ ((x6 < x2) → ((0 ≤ x6 ∧ x6 < 4) ∧ (0 ≤ M 2 x6 ∧ M 2 x6 < 40)) ∧ ((((M 51 (M 2 x6)) ≤ x5) → (R32 (x6 + 1)) ∧ E (wC g ad sk) X k n M 9 [(0, .ref (ad 4)), (1, .ref (ad 10)), (2, vI x2), (3, vI x3), (4, vI x4), (5, vI x5), (6, vI (x6 + 1))] []) ∧ ((x5 < (M 51 (M 2 x6))) → (R32 (x6 + 1)) ∧ E (wC g ad sk) X k n M 9 [(0, .ref (ad 4)), (1, .ref (ad 10)), (2, vI x2), (3, vI x3), (4, vI x6), (5, vI (M 51 (M 2 x6))), (6, vI (x6 + 1))] []))))) : E (wC g ad sk) X k n M 9 [(0, .ref (ad 4)), (1, .ref (ad 10)), (2, vI x2), (3, vI x3), (4, vI x4), (5, vI x5), (6, vI x6)] [] := by
  refine e_wf (fun hw0 => ?_)
  refine e_iload C 6 dX0_hottest_9 rfl ?_
  refine e_iload_n C 2 dX0_hottest_11 rfl ?_
  refine e_icmp_ge C 62 r6 r2 dX0_hottest_12 (by decide) (fun c9 => ?_) (fun c9 => ?_)
  · replace H := H.1 c9
    refine e_iload C 4 dX0_hottest_62 rfl ?_
    refine e_iconst C dX0_hottest_64 ?_
    refine e_icmp_ne C 72 r4 (by decide) dX0_hottest_65 (by decide) (fun c9 => ?_) (fun c9 => ?_)
    · replace H := H.1 c9
      refine e_bipush C dX0_hottest_72 (by decide) ?_
      refine e_iload C 4 dX0_hottest_74 rfl ?_
      obtain ⟨⟨o1, o2, o3⟩, H⟩ := H
      refine e_imul C dX0_hottest_76 ?_
      refine e_aload_n C 0 dX0_hottest_77 rfl ?_
      refine e_aload_n C 0 dX0_hottest_78 rfl ?_
      refine gX_0_9 C dX0_hottest_79 ?_
      refine gX_0_33 C dX0_hottest_82 ?_
      refine e_aload_n C 1 dX0_hottest_85 rfl ?_
      refine e_iload C 4 dX0_hottest_86 rfl ?_
      refine aX_10 C o2 dX0_hottest_88 ?_
      refine e_aaldG C o3 dX0_hottest_89 ?_
      refine e_iload_n C 3 dX0_hottest_90 rfl ?_
      obtain ⟨Q6, h4, H⟩ := H
      refine e_callVI (As := [.ref (ad (44 + 6 * (Int.toNat (M 2 x4)))), vI x3]) (rest := [vI (100 * x4)]) (q0 := 4) (ci := 0) C Y mi_X0_coolest ms_X0_coolest mv_X0_coolest ml_X0_49 h4 (wlX_st rfl) rfl (by decide) (Nat.le_of_ble_eq_true rfl) hk hn dX0_hottest_91 rfl (fun z7 M5 hq9 => ?_)
      obtain ⟨o8, H⟩ := H z7 M5 hq9
      refine e_wf (fun hw9 => ?_)
      obtain ⟨o10, H⟩ := H
      refine e_iadd C dX0_hottest_94 ?_
      exact e_iret C Y hk hn dX0_hottest_95 H
    · replace H := H.2 c9
      refine e_iconst C dX0_hottest_68 ?_
      refine e_goto C 95 dX0_hottest_69 (by decide) ?_
      exact e_iret C Y hk hn dX0_hottest_95 H
  · replace H := H.2 c9
    refine e_aload_n C 0 dX0_hottest_15 rfl ?_
    refine gX_0_9 C dX0_hottest_16 ?_
    refine gX_0_33 C dX0_hottest_19 ?_
    refine e_aload_n C 1 dX0_hottest_22 rfl ?_
    refine e_iload C 6 dX0_hottest_23 rfl ?_
    obtain ⟨⟨o11, o12⟩, H⟩ := H
    refine aX_10 C o11 dX0_hottest_25 ?_
    refine e_aaldG C o12 dX0_hottest_26 ?_
    refine gX_0_45 C o12 dX0_hottest_27 ?_
    refine e_iload C 5 dX0_hottest_30 rfl ?_
    refine e_icmp_le C 56 (hw0.2.1 51 _ rfl) r5 dX0_hottest_32 (by decide) (fun c9 => ?_) (fun c9 => ?_)
    · replace H := H.1 c9
      obtain ⟨o13, H⟩ := H
      refine e_iinc C 6 dX0_hottest_56 rfl (by decide) rfl ?_
      refine e_goto C 9 dX0_hottest_59 (by decide) ?_
      exact e_sub [1, 2, 3, 4, 5, 6, 0] rfl H
    · replace H := H.2 c9
      refine e_aload_n C 0 dX0_hottest_35 rfl ?_
      refine gX_0_9 C dX0_hottest_36 ?_
      refine gX_0_33 C dX0_hottest_39 ?_
      refine e_aload_n C 1 dX0_hottest_42 rfl ?_
      refine e_iload C 6 dX0_hottest_43 rfl ?_
      refine aX_10 C o11 dX0_hottest_45 ?_
      refine e_aaldG C o12 dX0_hottest_46 ?_
      refine gX_0_45 C o12 dX0_hottest_47 ?_
      refine e_istore C dX0_hottest_50 (by decide) rfl ?_
      refine e_iload C 6 dX0_hottest_52 rfl ?_
      refine e_istore C dX0_hottest_54 (by decide) rfl ?_
      obtain ⟨o14, H⟩ := H
      refine e_iinc C 6 dX0_hottest_56 rfl (by decide) rfl ?_
      refine e_goto C 9 dX0_hottest_59 (by decide) ?_
      exact e_sub [3, 4, 5, 6, 1, 2, 0] rfl H
set_option maxRecDepth 4000 in
theorem B_X4_copyOut_0 {g : Gs} {ad : Nat → Nat} {sk : (Nat → Nat) × (Nat → Nat)} {X : Cx} {mc ms k n : Nat} {PQ : Option Value → Mem → Prop} {PX : String → Mem → Prop} {M : Mem} {x1 : Int} (r1 : R32 x1) (hk : k ≤ mc) (hn : n ≤ ms) (C : OkB (wC g ad sk) X cX4_copyOut RX4 2 4 mc ms) (Y : OkR (wC g ad sk) X none mc ms PQ PX) (H : ∃ Q4 : Mem → Prop, SpV (wC g ad sk) yX4_putGame cX4_putGame 6 none 3 [.ref (ad 7), vI x1, vI 0] (up M 37 0 0) Q4 ∧ ∀ M3 : Mem, Q4 M3 → PQ none M3) : E (wC g ad sk) X k n M 0 [(0, .ref (ad 7)), (1, vI x1)] [] := by
  refine e_wf (fun hw0 => ?_)
  refine e_aload_n C 0 dX4_copyOut_0 rfl ?_
  refine e_iconst C dX4_copyOut_1 ?_
  refine pX_4_15 C (by decide) dX4_copyOut_2 ?_
  refine e_wf (fun hw1 => ?_)
  refine e_aload_n C 0 dX4_copyOut_5 rfl ?_
  refine e_iload_n C 1 dX4_copyOut_6 rfl ?_
  refine e_iconst C dX4_copyOut_7 ?_
  obtain ⟨Q4, h2, H⟩ := H
  refine e_callVV (As := [vI x1, vI 0]) (rest := []) (q0 := 7) (ci := 4) C Y mi_X4_putGame ms_X4_putGame mv_X4_putGame ml_X4_23 h2 (wlX_st rfl) rfl (by decide) (Nat.le_of_ble_eq_true rfl) hk hn dX4_copyOut_8 rfl (fun M3 hq9 => ?_)
  replace H := H M3 hq9
  refine e_wf (fun hw5 => ?_)
  exact e_vret C Y hk hn dX4_copyOut_11 H
set_option maxRecDepth 4000 in
theorem B_X5_makeNumber_0 {g : Gs} {ad : Nat → Nat} {sk : (Nat → Nat) × (Nat → Nat)} {X : Cx} {mc ms k n : Nat} {PQ : Option Value → Mem → Prop} {PX : String → Mem → Prop} {M : Mem} {x1 : Int} (r1 : R32 x1) (hk : k ≤ mc) (hn : n ≤ ms) (C : OkB (wC g ad sk) X cX5_makeNumber RX5 3 4 mc ms) (Y : OkR (wC g ad sk) X (some .int) mc ms PQ PX) (H : E (wC g ad sk) X k n M 2 [(0, .ref (ad 1)), (1, vI x1), (2, vI 0)] []) : E (wC g ad sk) X k n M 0 [(0, .ref (ad 1)), (1, vI x1)] [] := by
  refine e_wf (fun hw0 => ?_)
  refine e_iconst C dX5_makeNumber_0 ?_
  refine e_istore_n C dX5_makeNumber_1 (by decide) rfl ?_
  exact e_sub [1, 2, 0] rfl H
set_option maxRecDepth 4000 in
theorem B_X5_makeNumber_2 {g : Gs} {ad : Nat → Nat} {sk : (Nat → Nat) × (Nat → Nat)} {X : Cx} {mc ms k n : Nat} {PQ : Option Value → Mem → Prop} {PX : String → Mem → Prop} {M : Mem} {x1 x2 : Int} (r1 : R32 x1) (r2 : R32 x2) (hk : k ≤ mc) (hn : n ≤ ms) (C : OkB (wC g ad sk) X cX5_makeNumber RX5 3 4 mc ms) (Y : OkR (wC g ad sk) X (some .int) mc ms PQ PX) (H : ((((M 4 0) ≤ x2) → ((((M 4 0) < 40) → (0 ≤ M 4 0 ∧ M 4 0 < 40) ∧ ∃ Q4 : Mem → Prop, SpV (wC g ad sk) yX2_becomeNumber cX2_becomeNumber 2 none 3 [.ref (ad (44 + 6 * (Int.toNat (M 4 0)))), vI x1] M Q4 ∧ ∀ M3 : Mem, Q4 M3 → ∃ Q10 : Int → Mem → Prop, SpI (wC g ad sk) yX5_enter cX5_enter 3 (some .int) 3 [.ref (ad 1)] (up (up M3 52 (M 4 0) (lshlL 1 (M3 4 0))) 53 (M 4 0) (lshlL 1 (M3 4 0))) Q10 ∧ ∀ (z11 : Int) (M9 : Mem), Q10 z11 M9 → R32 z11 ∧ PQ (some (vI z11)) M9) ∧ ((40 ≤ (M 4 0)) → PQ (some (vI (-1))) M))) ∧ ((x2 < (M 4 0)) → (0 ≤ x2 ∧ x2 < 40) ∧ ((((M 45 x2) ≠ 0) → (R32 (x2 + 1)) ∧ E (wC g ad sk) X k n M 2 [(0, .ref (ad 1)), (1, vI x1), (2, vI (x2 + 1))] []) ∧ (((M 45 x2) = 0) → ((((M 46 x2) ≠ x1) → (R32 (x2 + 1)) ∧ E (wC g ad sk) X k n M 2 [(0, .ref (ad 1)), (1, vI x1), (2, vI (x2 + 1))] []) ∧ (((M 46 x2) = x1) → PQ (some (vI x2)) M))))))) : E (wC g ad sk) X k n M 2 [(0, .ref (ad 1)), (1, vI x1), (2, vI x2)] [] := by
  refine e_wf (fun hw0 => ?_)
  refine e_iload_n C 2 dX5_makeNumber_2 rfl ?_
  refine e_aload_n C 0 dX5_makeNumber_3 rfl ?_
  refine gX_5_17 C dX5_makeNumber_4 ?_
  refine e_icmp_ge C 43 r2 (hw0.2.1 4 _ rfl) dX5_makeNumber_7 (by decide) (fun c9 => ?_) (fun c9 => ?_)
  · replace H := H.1 c9
    refine e_aload_n C 0 dX5_makeNumber_43 rfl ?_
    refine gX_5_17 C dX5_makeNumber_44 ?_
    refine e_bipush C dX5_makeNumber_47 (by decide) ?_
    refine e_icmp_lt C 54 (hw0.2.1 4 _ rfl) (by decide) dX5_makeNumber_49 (by decide) (fun c9 => ?_) (fun c9 => ?_)
    · replace H := H.1 c9
      refine e_aload_n C 0 dX5_makeNumber_54 rfl ?_
      refine gX_5_11 C dX5_makeNumber_55 ?_
      refine e_aload_n C 0 dX5_makeNumber_58 rfl ?_
      refine gX_5_17 C dX5_makeNumber_59 ?_
      obtain ⟨o1, H⟩ := H
      refine e_aaldG C o1 dX5_makeNumber_62 ?_
      refine e_astore_n C dX5_makeNumber_63 (by decide) rfl ?_
      refine e_aload_n C 0 dX5_makeNumber_64 rfl ?_
      refine e_iload_n C 2 dX5_makeNumber_65 rfl ?_
      obtain ⟨Q4, h2, H⟩ := H
      refine e_callVV (As := [vI x1]) (rest := []) (ci := 2) C Y mi_X2_becomeNumber ms_X2_becomeNumber mv_X2_becomeNumber ml_X5_46 h2 (heG o1) rfl (by decide) (Nat.le_of_ble_eq_true rfl) hk hn dX5_makeNumber_66 rfl (fun M3 hq9 => ?_)
      replace H := H M3 hq9
      refine e_wf (fun hw5 => ?_)
      refine e_aload_n C 0 dX5_makeNumber_69 rfl ?_
      refine e_aload_n C 1 dX5_makeNumber_70 rfl ?_
      refine gX_5_17 C dX5_makeNumber_71 ?_
      refine e_callSN (As := [vI (M3 4 0)]) (rest := [.ref (ad (44 + 6 * (Int.toNat (M 4 0))))]) C Y mi_X9_bit ms_X9_bit (host := "HotGames") (by decide +kernel) (s_X9_bit (hw5.2.1 4 _ rfl)) (by decide) (Nat.le_of_ble_eq_true rfl) hk hn dX5_makeNumber_74 rfl ?_
      refine pX_5_54 C o1 (r64_toInt _) dX5_makeNumber_77 ?_
      refine e_wf (fun hw6 => ?_)
      refine e_aload_n C 0 dX5_makeNumber_80 rfl ?_
      refine e_aload_n C 1 dX5_makeNumber_81 rfl ?_
      refine gX_5_17 C dX5_makeNumber_82 ?_
      refine e_callSN (As := [vI (M3 4 0)]) (rest := [.ref (ad (44 + 6 * (Int.toNat (M 4 0))))]) C Y mi_X9_bit ms_X9_bit (host := "HotGames") (by decide +kernel) (s_X9_bit (hw5.2.1 4 _ rfl)) (by decide) (Nat.le_of_ble_eq_true rfl) hk hn dX5_makeNumber_85 rfl ?_
      refine pX_5_58 C o1 (r64_toInt _) dX5_makeNumber_88 ?_
      refine e_wf (fun hw7 => ?_)
      refine e_aload_n C 1 dX5_makeNumber_91 rfl ?_
      obtain ⟨Q10, h8, H⟩ := H
      refine e_callVI (As := []) (rest := []) (q0 := 1) (ci := 5) C Y mi_X5_enter ms_X5_enter mv_X5_enter ml_X5_61 h8 (wlX_st rfl) rfl (by decide) (Nat.le_of_ble_eq_true rfl) hk hn dX5_makeNumber_92 rfl (fun z11 M9 hq9 => ?_)
      obtain ⟨o12, H⟩ := H z11 M9 hq9
      refine e_wf (fun hw13 => ?_)
      exact e_iret C Y hk hn dX5_makeNumber_95 H
    · replace H := H.2 c9
      refine e_iconst C dX5_makeNumber_52 ?_
      exact e_iret C Y hk hn dX5_makeNumber_53 H
  · replace H := H.2 c9
    refine e_aload_n C 0 dX5_makeNumber_10 rfl ?_
    refine gX_5_11 C dX5_makeNumber_11 ?_
    refine e_iload_n C 2 dX5_makeNumber_14 rfl ?_
    obtain ⟨o14, H⟩ := H
    refine e_aaldG C o14 dX5_makeNumber_15 ?_
    refine gX_5_39 C o14 dX5_makeNumber_16 ?_
    refine e_if_ne C 37 (hw0.2.1 45 _ rfl) dX5_makeNumber_19 (by decide) (fun c9 => ?_) (fun c9 => ?_)
    · replace H := H.1 c9
      obtain ⟨o15, H⟩ := H
      refine e_iinc C 2 dX5_makeNumber_37 rfl (by decide) rfl ?_
      refine e_goto C 2 dX5_makeNumber_40 (by decide) ?_
      exact e_sub [1, 2, 0] rfl H
    · replace H := H.2 c9
      refine e_aload_n C 0 dX5_makeNumber_22 rfl ?_
      refine gX_5_11 C dX5_makeNumber_23 ?_
      refine e_iload_n C 2 dX5_makeNumber_26 rfl ?_
      refine e_aaldG C o14 dX5_makeNumber_27 ?_
      refine gX_5_43 C o14 dX5_makeNumber_28 ?_
      refine e_iload_n C 1 dX5_makeNumber_31 rfl ?_
      refine e_icmp_ne C 37 (hw0.2.1 46 _ rfl) r1 dX5_makeNumber_32 (by decide) (fun c9 => ?_) (fun c9 => ?_)
      · replace H := H.1 c9
        obtain ⟨o16, H⟩ := H
        refine e_iinc C 2 dX5_makeNumber_37 rfl (by decide) rfl ?_
        refine e_goto C 2 dX5_makeNumber_40 (by decide) ?_
        exact e_sub [1, 2, 0] rfl H
      · replace H := H.2 c9
        refine e_iload_n C 2 dX5_makeNumber_35 rfl ?_
        exact e_iret C Y hk hn dX5_makeNumber_36 H
set_option maxRecDepth 4000 in
theorem B_X5_compose_0 {g : Gs} {ad : Nat → Nat} {sk : (Nat → Nat) × (Nat → Nat)} {X : Cx} {mc ms k n : Nat} {PQ : Option Value → Mem → Prop} {PX : String → Mem → Prop} {M : Mem} {x1 x3 : Int} (r1 : R64 x1) (r3 : R64 x3) (hk : k ≤ mc) (hn : n ≤ ms) (C : OkB (wC g ad sk) X cX5_compose RX5 7 4 mc ms) (Y : OkR (wC g ad sk) X (some .int) mc ms PQ PX) (H : E (wC g ad sk) X k n M 3 [(0, .ref (ad 1)), (1, vL x1), (3, vL x3), (5, vI 0)] []) : E (wC g ad sk) X k n M 0 [(0, .ref (ad 1)), (1, vL x1), (3, vL x3)] [] := by
  refine e_wf (fun hw0 => ?_)
  refine e_iconst C dX5_compose_0 ?_
  refine e_istore C dX5_compose_1 (by decide) rfl ?_
  exact e_sub [1, 2, 3, 0] rfl H
set_option maxRecDepth 4000 in
theorem B_X5_compose_3 {g : Gs} {ad : Nat → Nat} {sk : (Nat → Nat) × (Nat → Nat)} {X : Cx} {mc ms k n : Nat} {PQ : Option Value → Mem → Prop} {PX : String → Mem → Prop} {M : Mem} {x1 x3 x5 : Int} (r1 : R64 x1) (r3 : R64 x3) (r5 : R32 x5) (hk : k ≤ mc) (hn : n ≤ ms) (C : OkB (wC g ad sk) X cX5_compose RX5 7 4 mc ms) (Y : OkR (wC g ad sk) X (some .int) mc ms PQ PX) (H : ((((M 4 0) ≤ x5) → ∃ Q3 : Int → Mem → Prop, SpI (wC g ad sk) yJ13_bitCount_95d88 cJ13_bitCount_95d88 2 (some .int) 1 [vL x1] M Q3 ∧ ∀ (z4 : Int) (M2 : Mem), Q3 z4 M2 → R32 z4 ∧ (((4 < z4) → E (wC g ad sk) X k n M2 83 [(0, .ref (ad 1)), (1, vL x1), (3, vL x3)] [vI 1]) ∧ ((z4 ≤ 4) → ∃ Q9 : Int → Mem → Prop, SpI (wC g ad sk) yJ13_bitCount_95d88 cJ13_bitCount_95d88 2 (some .int) 1 [vL x3] M2 Q9 ∧ ∀ (z10 : Int) (M8 : Mem), Q9 z10 M8 → R32 z10 ∧ (((z10 ≤ 4) → E (wC g ad sk) X k n M8 83 [(0, .ref (ad 1)), (1, vL x1), (3, vL x3)] [vI 0]) ∧ ((4 < z10) → E (wC g ad sk) X k n M8 83 [(0, .ref (ad 1)), (1, vL x1), (3, vL x3)] [vI 1]))))) ∧ ((x5 < (M 4 0)) → (0 ≤ x5 ∧ x5 < 40) ∧ ((((M 45 x5) = 0) → (R32 (x5 + 1)) ∧ E (wC g ad sk) X k n M 3 [(0, .ref (ad 1)), (1, vL x1), (3, vL x3), (5, vI (x5 + 1))] []) ∧ (((M 45 x5) ≠ 0) → ((((cmpL (M 40 (40 * 0 + x5)) x1) ≠ 0) → (R32 (x5 + 1)) ∧ E (wC g ad sk) X k n M 3 [(0, .ref (ad 1)), (1, vL x1), (3, vL x3), (5, vI (x5 + 1))] []) ∧ (((cmpL (M 40 (40 * 0 + x5)) x1) = 0) → ((((cmpL (M 40 (40 * 1 + x5)) x3) ≠ 0) → (R32 (x5 + 1)) ∧ E (wC g ad sk) X k n M 3 [(0, .ref (ad 1)), (1, vL x1), (3, vL x3), (5, vI (x5 + 1))] []) ∧ (((cmpL (M 40 (40 * 1 + x5)) x3) = 0) → PQ (some (vI x5)) M))))))))) : E (wC g ad sk) X k n M 3 [(0, .ref (ad 1)), (1, vL x1), (3, vL x3), (5, vI x5)] [] := by
  refine e_wf (fun hw0 => ?_)
  refine e_iload C 3 dX5_compose_3 rfl ?_
  refine e_aload_n C 0 dX5_compose_5 rfl ?_
  refine gX_5_17 C dX5_compose_6 ?_
  refine e_icmp_ge C 62 r5 (hw0.2.1 4 _ rfl) dX5_compose_9 (by decide) (fun c9 => ?_) (fun c9 => ?_)
  · replace H := H.1 c9
    refine e_lload_n C 1 dX5_compose_62 rfl ?_
    obtain ⟨Q3, h1, H⟩ := H
    refine e_callSI (As := [vL x1]) (rest := []) C Y mi_J13_bitCount_95d88 ms_J13_bitCount_95d88 ml_X5_68 h1 (by decide) (Nat.le_of_ble_eq_true rfl) hk hn dX5_compose_63 rfl (fun z4 M2 hq9 => ?_)
    obtain ⟨o5, H⟩ := H z4 M2 hq9
    refine e_wf (fun hw6 => ?_)
    refine e_iconst C dX5_compose_66 ?_
    refine e_icmp_gt C 78 o5 (by decide) dX5_compose_67 (by decide) (fun c9 => ?_) (fun c9 => ?_)
    · replace H := H.1 c9
      refine e_iconst C dX5_compose_78 ?_
      refine e_goto C 83 dX5_compose_79 (by decide) ?_
      exact e_sub [0, 1, 2] rfl H
    · replace H := H.2 c9
      refine e_lload_n C 2 dX5_compose_70 rfl ?_
      obtain ⟨Q9, h7, H⟩ := H
      refine e_callSI (As := [vL x3]) (rest := []) C Y mi_J13_bitCount_95d88 ms_J13_bitCount_95d88 ml_X5_68 h7 (by decide) (Nat.le_of_ble_eq_true rfl) hk hn dX5_compose_71 rfl (fun z10 M8 hq9 => ?_)
      obtain ⟨o11, H⟩ := H z10 M8 hq9
      refine e_wf (fun hw12 => ?_)
      refine e_iconst C dX5_compose_74 ?_
      refine e_icmp_le C 82 o11 (by decide) dX5_compose_75 (by decide) (fun c9 => ?_) (fun c9 => ?_)
      · replace H := H.1 c9
        refine e_iconst C dX5_compose_82 ?_
        exact e_sub [0, 1, 2] rfl H
      · replace H := H.2 c9
        refine e_iconst C dX5_compose_78 ?_
        refine e_goto C 83 dX5_compose_79 (by decide) ?_
        exact e_sub [0, 1, 2] rfl H
  · replace H := H.2 c9
    refine e_aload_n C 0 dX5_compose_12 rfl ?_
    refine gX_5_11 C dX5_compose_13 ?_
    refine e_iload C 3 dX5_compose_16 rfl ?_
    obtain ⟨o13, H⟩ := H
    refine e_aaldG C o13 dX5_compose_18 ?_
    refine e_astore C dX5_compose_19 (by decide) rfl ?_
    refine e_aload C 0 dX5_compose_21 rfl ?_
    refine gX_5_39 C o13 dX5_compose_23 ?_
    refine e_if_eq C 56 (hw0.2.1 45 _ rfl) dX5_compose_26 (by decide) (fun c9 => ?_) (fun c9 => ?_)
    · replace H := H.1 c9
      obtain ⟨o14, H⟩ := H
      refine e_iinc C 4 dX5_compose_56 rfl (by decide) rfl ?_
      refine e_goto C 3 dX5_compose_59 (by decide) ?_
      exact e_sub [2, 3, 4, 0] rfl H
    · replace H := H.2 c9
      refine e_aload C 0 dX5_compose_29 rfl ?_
      refine gX_5_65 C o13 dX5_compose_31 ?_
      refine e_iconst C dX5_compose_34 ?_
      refine aG_1 C o13 (by decide) dX5_compose_35 ?_
      refine e_lload_n C 2 dX5_compose_36 rfl ?_
      refine e_lcmp C (hw0.1 40 _ rfl) r1 dX5_compose_37 ?_
      refine e_if_ne C 56 (cmpL_r _ _) dX5_compose_38 (by decide) (fun c9 => ?_) (fun c9 => ?_)
      · replace H := H.1 c9
        obtain ⟨o15, H⟩ := H
        refine e_iinc C 4 dX5_compose_56 rfl (by decide) rfl ?_
        refine e_goto C 3 dX5_compose_59 (by decide) ?_
        exact e_sub [2, 3, 4, 0] rfl H
      · replace H := H.2 c9
        refine e_aload C 0 dX5_compose_41 rfl ?_
        refine gX_5_65 C o13 dX5_compose_43 ?_
        refine e_iconst C dX5_compose_46 ?_
        refine aG_1 C o13 (by decide) dX5_compose_47 ?_
        refine e_lload_n C 3 dX5_compose_48 rfl ?_
        refine e_lcmp C (hw0.1 40 _ rfl) r3 dX5_compose_49 ?_
        refine e_if_ne C 56 (cmpL_r _ _) dX5_compose_50 (by decide) (fun c9 => ?_) (fun c9 => ?_)
        · replace H := H.1 c9
          obtain ⟨o16, H⟩ := H
          refine e_iinc C 4 dX5_compose_56 rfl (by decide) rfl ?_
          refine e_goto C 3 dX5_compose_59 (by decide) ?_
          exact e_sub [2, 3, 4, 0] rfl H
        · replace H := H.2 c9
          refine e_iload C 4 dX5_compose_53 rfl ?_
          exact e_iret C Y hk hn dX5_compose_55 H
set_option maxRecDepth 4000 in
theorem B_X5_compose_83 {g : Gs} {ad : Nat → Nat} {sk : (Nat → Nat) × (Nat → Nat)} {X : Cx} {mc ms k n : Nat} {PQ : Option Value → Mem → Prop} {PX : String → Mem → Prop} {M : Mem} {x1 x3 t0 : Int} (r1 : R64 x1) (r3 : R64 x3) (q0 : R32 t0) (hk : k ≤ mc) (hn : n ≤ ms) (C : OkB (wC g ad sk) X cX5_compose RX5 7 4 mc ms) (Y : OkR (wC g ad sk) X (some .int) mc ms PQ PX) (H : (((t0 ≠ 0) → PQ (some (vI (-1))) M) ∧ ((t0 = 0) → (((40 ≤ (M 4 0)) → PQ (some (vI (-1))) M) ∧ (((M 4 0) < 40) → ∃ Q3 : Int → Mem → Prop, SpI (wC g ad sk) yX5_depthAbove cX5_depthAbove 5 (some .int) 2 [.ref (ad 1), vL (lorL x1 x3)] M Q3 ∧ ∀ (z4 : Int) (M2 : Mem), Q3 z4 M2 → R32 z4 ∧ (((z4 ≤ 6) → (0 ≤ M2 4 0 ∧ M2 4 0 < 40) ∧ ∃ Q11 : Int → Mem → Prop, SpI (wC g ad sk) yX5_depthAbove cX5_depthAbove 5 (some .int) 2 [.ref (ad 1), vL (lorL x1 x3)] (up M2 45 (M2 4 0) 1) Q11 ∧ ∀ (z12 : Int) (M10 : Mem), Q11 z12 M10 → R32 z12 ∧ ∃ Q18 : Mem → Prop, SpV (wC g ad sk) yX2_takeOptions cX2_takeOptions 6 none 2 [.ref (ad (44 + 6 * (Int.toNat (M2 4 0)))), vI 0, vL x1] (up M10 47 (M2 4 0) z12) Q18 ∧ ∀ M17 : Mem, Q18 M17 → ∃ Q22 : Mem → Prop, SpV (wC g ad sk) yX2_takeOptions cX2_takeOptions 6 none 2 [.ref (ad (44 + 6 * (Int.toNat (M2 4 0)))), vI 1, vL x3] M17 Q22 ∧ ∀ M21 : Mem, Q22 M21 → ∃ Q26 : Mem → Prop, SpV (wC g ad sk) yX5_gather cX5_gather 6 none 2 [.ref (ad 1), .ref (ad (44 + 6 * (Int.toNat (M2 4 0))))] M21 Q26 ∧ ∀ M25 : Mem, Q26 M25 → ∃ Q30 : Mem → Prop, SpV (wC g ad sk) yX5_findEdge cX5_findEdge 10 none 2 [.ref (ad 1), .ref (ad (44 + 6 * (Int.toNat (M2 4 0)))), vI 0] M25 Q30 ∧ ∀ M29 : Mem, Q30 M29 → ∃ Q34 : Mem → Prop, SpV (wC g ad sk) yX5_findEdge cX5_findEdge 10 none 2 [.ref (ad 1), .ref (ad (44 + 6 * (Int.toNat (M2 4 0)))), vI 1] M29 Q34 ∧ ∀ M33 : Mem, Q34 M33 → ∃ Q38 : Int → Mem → Prop, SpI (wC g ad sk) yX5_edgesLeaveRoom cX5_edgesLeaveRoom 2 (some .boolean) 1 [.ref (ad 1)] M33 Q38 ∧ ∀ (z39 : Int) (M37 : Mem), Q38 z39 M37 → B01 z39 ∧ (((z39 = 0) → ∃ Q44 : Mem → Prop, SpV (wC g ad sk) yX5_becomeHot cX5_becomeHot 6 none 3 [.ref (ad 1), .ref (ad (44 + 6 * (Int.toNat (M2 4 0))))] M37 Q44 ∧ ∀ M43 : Mem, Q44 M43 → ∃ Q48 : Int → Mem → Prop, SpI (wC g ad sk) yX5_enter cX5_enter 3 (some .int) 3 [.ref (ad 1)] M43 Q48 ∧ ∀ (z49 : Int) (M47 : Mem), Q48 z49 M47 → R32 z49 ∧ PQ (some (vI z49)) M47) ∧ ((z39 ≠ 0) → ∃ Q55 : Int → Mem → Prop, SpI (wC g ad sk) yX5_simplest cX5_simplest 4 (some .int) 2 [vI (M37 8 0), vI (M37 9 0), vI (M37 8 1), vI (M37 9 1)] (up M37 53 (M2 4 0) (lshlL 1 (M37 4 0))) Q55 ∧ ∀ (z56 : Int) (M54 : Mem), Q55 z56 M54 → R32 z56 ∧ ∃ Q61 : Mem → Prop, SpV (wC g ad sk) yX2_becomeCold cX2_becomeCold 3 none 1 [.ref (ad (44 + 6 * (Int.toNat (M2 4 0)))), vI z56] M54 Q61 ∧ ∀ M60 : Mem, Q61 M60 → ∃ Q65 : Int → Mem → Prop, SpI (wC g ad sk) yX5_enter cX5_enter 3 (some .int) 3 [.ref (ad 1)] M60 Q65 ∧ ∀ (z66 : Int) (M64 : Mem), Q65 z66 M64 → R32 z66 ∧ PQ (some (vI z66)) M64))) ∧ ((6 < z4) → PQ (some (vI (-1))) M2))))))) : E (wC g ad sk) X k n M 83 [(0, .ref (ad 1)), (1, vL x1), (3, vL x3)] [vI t0] := by
  refine e_wf (fun hw0 => ?_)
  refine e_istore C dX5_compose_83 (by decide) rfl ?_
  refine e_iload C 0 dX5_compose_85 rfl ?_
  refine e_if_ne C 111 q0 dX5_compose_87 (by decide) (fun c9 => ?_) (fun c9 => ?_)
  · replace H := H.1 c9
    refine e_iconst C dX5_compose_111 ?_
    exact e_iret C Y hk hn dX5_compose_112 H
  · replace H := H.2 c9
    refine e_aload_n C 1 dX5_compose_90 rfl ?_
    refine gX_5_17 C dX5_compose_91 ?_
    refine e_bipush C dX5_compose_94 (by decide) ?_
    refine e_icmp_ge C 111 (hw0.2.1 4 _ rfl) (by decide) dX5_compose_96 (by decide) (fun c9 => ?_) (fun c9 => ?_)
    · replace H := H.1 c9
      refine e_iconst C dX5_compose_111 ?_
      exact e_iret C Y hk hn dX5_compose_112 H
    · replace H := H.2 c9
      refine e_aload_n C 1 dX5_compose_99 rfl ?_
      refine e_lload_n C 2 dX5_compose_100 rfl ?_
      refine e_lload_n C 3 dX5_compose_101 rfl ?_
      refine e_lor C dX5_compose_102 ?_
      obtain ⟨Q3, h1, H⟩ := H
      refine e_callVI (As := [vL (lorL x1 x3)]) (rest := []) (q0 := 1) (ci := 5) C Y mi_X5_depthAbove ms_X5_depthAbove mv_X5_depthAbove ml_X5_74 h1 (wlX_st rfl) rfl (by decide) (Nat.le_of_ble_eq_true rfl) hk hn dX5_compose_103 rfl (fun z4 M2 hq9 => ?_)
      obtain ⟨o5, H⟩ := H z4 M2 hq9
      refine e_wf (fun hw6 => ?_)
      refine e_bipush C dX5_compose_106 (by decide) ?_
      refine e_icmp_le C 113 o5 (by decide) dX5_compose_108 (by decide) (fun c9 => ?_) (fun c9 => ?_)
      · replace H := H.1 c9
        refine e_aload_n C 1 dX5_compose_113 rfl ?_
        refine gX_5_11 C dX5_compose_114 ?_
        refine e_aload_n C 1 dX5_compose_117 rfl ?_
        refine gX_5_17 C dX5_compose_118 ?_
        obtain ⟨o7, H⟩ := H
        refine e_aaldG C o7 dX5_compose_121 ?_
        refine e_astore C dX5_compose_122 (by decide) rfl ?_
        refine e_aload C 0 dX5_compose_124 rfl ?_
        refine e_iconst C dX5_compose_126 ?_
        refine pX_5_39 C o7 (by decide) dX5_compose_127 ?_
        refine e_wf (fun hw8 => ?_)
        refine e_aload C 0 dX5_compose_130 rfl ?_
        refine e_aload_n C 2 dX5_compose_132 rfl ?_
        refine e_lload_n C 3 dX5_compose_133 rfl ?_
        refine e_lload_n C 4 dX5_compose_134 rfl ?_
        refine e_lor C dX5_compose_135 ?_
        obtain ⟨Q11, h9, H⟩ := H
        refine e_callVI (As := [vL (lorL x1 x3)]) (rest := [.ref (ad (44 + 6 * (Int.toNat (M2 4 0))))]) (q0 := 1) (ci := 5) C Y mi_X5_depthAbove ms_X5_depthAbove mv_X5_depthAbove ml_X5_74 h9 (wlX_st rfl) rfl (by decide) (Nat.le_of_ble_eq_true rfl) hk hn dX5_compose_136 rfl (fun z12 M10 hq9 => ?_)
        obtain ⟨o13, H⟩ := H z12 M10 hq9
        refine e_wf (fun hw14 => ?_)
        refine pX_5_77 C o7 o13 dX5_compose_139 ?_
        refine e_wf (fun hw15 => ?_)
        refine e_aload C 0 dX5_compose_142 rfl ?_
        refine e_iconst C dX5_compose_144 ?_
        refine e_lload_n C 3 dX5_compose_145 rfl ?_
        obtain ⟨Q18, h16, H⟩ := H
        refine e_callVV (As := [vI 0, vL x1]) (rest := []) (ci := 2) C Y mi_X2_takeOptions ms_X2_takeOptions mv_X2_takeOptions ml_X5_80 h16 (heG o7) rfl (by decide) (Nat.le_of_ble_eq_true rfl) hk hn dX5_compose_146 rfl (fun M17 hq9 => ?_)
        replace H := H M17 hq9
        refine e_wf (fun hw19 => ?_)
        refine e_aload C 0 dX5_compose_149 rfl ?_
        refine e_iconst C dX5_compose_151 ?_
        refine e_lload_n C 4 dX5_compose_152 rfl ?_
        obtain ⟨Q22, h20, H⟩ := H
        refine e_callVV (As := [vI 1, vL x3]) (rest := []) (ci := 2) C Y mi_X2_takeOptions ms_X2_takeOptions mv_X2_takeOptions ml_X5_80 h20 (heG o7) rfl (by decide) (Nat.le_of_ble_eq_true rfl) hk hn dX5_compose_153 rfl (fun M21 hq9 => ?_)
        replace H := H M21 hq9
        refine e_wf (fun hw23 => ?_)
        refine e_aload_n C 2 dX5_compose_156 rfl ?_
        refine e_aload C 0 dX5_compose_157 rfl ?_
        obtain ⟨Q26, h24, H⟩ := H
        refine e_callVV (As := [.ref (ad (44 + 6 * (Int.toNat (M2 4 0))))]) (rest := []) (q0 := 1) (ci := 5) C Y mi_X5_gather ms_X5_gather mv_X5_gather ml_X5_84 h24 (wlX_st rfl) rfl (by decide) (Nat.le_of_ble_eq_true rfl) hk hn dX5_compose_159 rfl (fun M25 hq9 => ?_)
        replace H := H M25 hq9
        refine e_wf (fun hw27 => ?_)
        refine e_aload_n C 2 dX5_compose_162 rfl ?_
        refine e_aload C 0 dX5_compose_163 rfl ?_
        refine e_iconst C dX5_compose_165 ?_
        obtain ⟨Q30, h28, H⟩ := H
        refine e_callVV (As := [.ref (ad (44 + 6 * (Int.toNat (M2 4 0)))), vI 0]) (rest := []) (q0 := 1) (ci := 5) C Y mi_X5_findEdge ms_X5_findEdge mv_X5_findEdge ml_X5_88 h28 (wlX_st rfl) rfl (by decide) (Nat.le_of_ble_eq_true rfl) hk hn dX5_compose_166 rfl (fun M29 hq9 => ?_)
        replace H := H M29 hq9
        refine e_wf (fun hw31 => ?_)
        refine e_aload_n C 2 dX5_compose_169 rfl ?_
        refine e_aload C 0 dX5_compose_170 rfl ?_
        refine e_iconst C dX5_compose_172 ?_
        obtain ⟨Q34, h32, H⟩ := H
        refine e_callVV (As := [.ref (ad (44 + 6 * (Int.toNat (M2 4 0)))), vI 1]) (rest := []) (q0 := 1) (ci := 5) C Y mi_X5_findEdge ms_X5_findEdge mv_X5_findEdge ml_X5_88 h32 (wlX_st rfl) rfl (by decide) (Nat.le_of_ble_eq_true rfl) hk hn dX5_compose_173 rfl (fun M33 hq9 => ?_)
        replace H := H M33 hq9
        refine e_wf (fun hw35 => ?_)
        refine e_aload_n C 2 dX5_compose_176 rfl ?_
        obtain ⟨Q38, h36, H⟩ := H
        refine e_callVI (As := []) (rest := []) (q0 := 1) (ci := 5) C Y mi_X5_edgesLeaveRoom ms_X5_edgesLeaveRoom mv_X5_edgesLeaveRoom ml_X5_92 h36 (wlX_st rfl) rfl (by decide) (Nat.le_of_ble_eq_true rfl) hk hn dX5_compose_177 rfl (fun z39 M37 hq9 => ?_)
        obtain ⟨o40, H⟩ := H z39 M37 hq9
        refine e_wf (fun hw41 => ?_)
        refine e_if_eq C 230 (b01_r o40) dX5_compose_180 (by decide) (fun c9 => ?_) (fun c9 => ?_)
        · replace H := H.1 c9
          refine e_aload_n C 2 dX5_compose_230 rfl ?_
          refine e_aload C 0 dX5_compose_231 rfl ?_
          obtain ⟨Q44, h42, H⟩ := H
          refine e_callVV (As := [.ref (ad (44 + 6 * (Int.toNat (M2 4 0))))]) (rest := []) (q0 := 1) (ci := 5) C Y mi_X5_becomeHot ms_X5_becomeHot mv_X5_becomeHot ml_X5_103 h42 (wlX_st rfl) rfl (by decide) (Nat.le_of_ble_eq_true rfl) hk hn dX5_compose_233 rfl (fun M43 hq9 => ?_)
          replace H := H M43 hq9
          refine e_wf (fun hw45 => ?_)
          refine e_aload_n C 2 dX5_compose_236 rfl ?_
          obtain ⟨Q48, h46, H⟩ := H
          refine e_callVI (As := []) (rest := []) (q0 := 1) (ci := 5) C Y mi_X5_enter ms_X5_enter mv_X5_enter ml_X5_61 h46 (wlX_st rfl) rfl (by decide) (Nat.le_of_ble_eq_true rfl) hk hn dX5_compose_237 rfl (fun z49 M47 hq9 => ?_)
          obtain ⟨o50, H⟩ := H z49 M47 hq9
          refine e_wf (fun hw51 => ?_)
          exact e_iret C Y hk hn dX5_compose_240 H
        · replace H := H.2 c9
          refine e_aload C 0 dX5_compose_183 rfl ?_
          refine e_aload_n C 2 dX5_compose_185 rfl ?_
          refine gX_5_17 C dX5_compose_186 ?_
          refine e_callSN (As := [vI (M37 4 0)]) (rest := [.ref (ad (44 + 6 * (Int.toNat (M2 4 0))))]) C Y mi_X9_bit ms_X9_bit (host := "HotGames") (by decide +kernel) (s_X9_bit (hw41.2.1 4 _ rfl)) (by decide) (Nat.le_of_ble_eq_true rfl) hk hn dX5_compose_189 rfl ?_
          refine pX_5_58 C o7 (r64_toInt _) dX5_compose_192 ?_
          refine e_wf (fun hw52 => ?_)
          refine e_aload C 0 dX5_compose_195 rfl ?_
          refine e_aload_n C 2 dX5_compose_197 rfl ?_
          refine gX_5_30 C dX5_compose_198 ?_
          refine e_iconst C dX5_compose_201 ?_
          refine aX_17 C (by decide) dX5_compose_202 ?_
          refine e_aload_n C 2 dX5_compose_203 rfl ?_
          refine gX_5_34 C dX5_compose_204 ?_
          refine e_iconst C dX5_compose_207 ?_
          refine aX_18 C (by decide) dX5_compose_208 ?_
          refine e_aload_n C 2 dX5_compose_209 rfl ?_
          refine gX_5_30 C dX5_compose_210 ?_
          refine e_iconst C dX5_compose_213 ?_
          refine aX_17 C (by decide) dX5_compose_214 ?_
          refine e_aload_n C 2 dX5_compose_215 rfl ?_
          refine gX_5_34 C dX5_compose_216 ?_
          refine e_iconst C dX5_compose_219 ?_
          refine aX_18 C (by decide) dX5_compose_220 ?_
          obtain ⟨Q55, h53, H⟩ := H
          refine e_callSI (As := [vI (M37 8 0), vI (M37 9 0), vI (M37 8 1), vI (M37 9 1)]) (rest := [.ref (ad (44 + 6 * (Int.toNat (M2 4 0))))]) C Y mi_X5_simplest ms_X5_simplest ml_X5_96 h53 (by decide) (Nat.le_of_ble_eq_true rfl) hk hn dX5_compose_221 rfl (fun z56 M54 hq9 => ?_)
          obtain ⟨o57, H⟩ := H z56 M54 hq9
          refine e_wf (fun hw58 => ?_)
          obtain ⟨Q61, h59, H⟩ := H
          refine e_callVV (As := [vI z56]) (rest := []) (ci := 2) C Y mi_X2_becomeCold ms_X2_becomeCold mv_X2_becomeCold ml_X5_100 h59 (heG o7) rfl (by decide) (Nat.le_of_ble_eq_true rfl) hk hn dX5_compose_224 rfl (fun M60 hq9 => ?_)
          replace H := H M60 hq9
          refine e_wf (fun hw62 => ?_)
          refine e_goto C 236 dX5_compose_227 (by decide) ?_
          refine e_aload_n C 2 dX5_compose_236 rfl ?_
          obtain ⟨Q65, h63, H⟩ := H
          refine e_callVI (As := []) (rest := []) (q0 := 1) (ci := 5) C Y mi_X5_enter ms_X5_enter mv_X5_enter ml_X5_61 h63 (wlX_st rfl) rfl (by decide) (Nat.le_of_ble_eq_true rfl) hk hn dX5_compose_237 rfl (fun z66 M64 hq9 => ?_)
          obtain ⟨o67, H⟩ := H z66 M64 hq9
          refine e_wf (fun hw68 => ?_)
          exact e_iret C Y hk hn dX5_compose_240 H
      · replace H := H.2 c9
        refine e_iconst C dX5_compose_111 ?_
        exact e_iret C Y hk hn dX5_compose_112 H
set_option maxRecDepth 4000 in
theorem B_X5_cornerBehind_0 {g : Gs} {ad : Nat → Nat} {sk : (Nat → Nat) × (Nat → Nat)} {X : Cx} {mc ms k n : Nat} {PQ : Option Value → Mem → Prop} {PX : String → Mem → Prop} {M : Mem} {x1 x2 x3 : Int} (r1 : R32 x1) (r2 : R32 x2) (r3 : R32 x3) (hk : k ≤ mc) (hn : n ≤ ms) (C : OkB (wC g ad sk) X cX5_cornerBehind RX5 8 4 mc ms) (Y : OkR (wC g ad sk) X (some .int) mc ms PQ PX) (H : ∃ Q3 : Int → Mem → Prop, SpI (wC g ad sk) yX5_wallAt cX5_wallAt 4 (some .int) 3 [.ref (ad 1), vI x1, vI x2, vI x3] M Q3 ∧ ∀ (z4 : Int) (M2 : Mem), Q3 z4 M2 → R32 z4 ∧ (R32 (x3 + 1)) ∧ ∃ Q10 : Int → Mem → Prop, SpI (wC g ad sk) yX5_wallAt cX5_wallAt 4 (some .int) 3 [.ref (ad 1), vI x1, vI x2, vI (x3 + 1)] M2 Q10 ∧ ∀ (z11 : Int) (M9 : Mem), Q10 z11 M9 → R32 z11 ∧ (R32 (z11 - z4)) ∧ E (wC g ad sk) X k n M9 31 [(0, .ref (ad 1)), (1, vI x1), (2, vI x2), (3, vI x3), (4, vI z4), (5, vI (z11 - z4)), (6, vI 1), (7, vI 16384)] []) : E (wC g ad sk) X k n M 0 [(0, .ref (ad 1)), (1, vI x1), (2, vI x2), (3, vI x3)] [] := by
  refine e_wf (fun hw0 => ?_)
  refine e_aload_n C 0 dX5_cornerBehind_0 rfl ?_
  refine e_iload_n C 1 dX5_cornerBehind_1 rfl ?_
  refine e_iload_n C 2 dX5_cornerBehind_2 rfl ?_
  refine e_iload_n C 3 dX5_cornerBehind_3 rfl ?_
  obtain ⟨Q3, h1, H⟩ := H
  refine e_callVI (As := [vI x1, vI x2, vI x3]) (rest := []) (q0 := 1) (ci := 5) C Y mi_X5_wallAt ms_X5_wallAt mv_X5_wallAt ml_X5_186 h1 (wlX_st rfl) rfl (by decide) (Nat.le_of_ble_eq_true rfl) hk hn dX5_cornerBehind_4 rfl (fun z4 M2 hq9 => ?_)
  obtain ⟨o5, H⟩ := H z4 M2 hq9
  refine e_wf (fun hw6 => ?_)
  refine e_istore C dX5_cornerBehind_7 (by decide) rfl ?_
  refine e_aload_n C 1 dX5_cornerBehind_9 rfl ?_
  refine e_iload_n C 2 dX5_cornerBehind_10 rfl ?_
  refine e_iload_n C 3 dX5_cornerBehind_11 rfl ?_
  refine e_iload_n C 4 dX5_cornerBehind_12 rfl ?_
  refine e_iconst C dX5_cornerBehind_13 ?_
  obtain ⟨o7, H⟩ := H
  refine e_iadd C dX5_cornerBehind_14 ?_
  obtain ⟨Q10, h8, H⟩ := H
  refine e_callVI (As := [vI x1, vI x2, vI (x3 + 1)]) (rest := []) (q0 := 1) (ci := 5) C Y mi_X5_wallAt ms_X5_wallAt mv_X5_wallAt ml_X5_186 h8 (wlX_st rfl) rfl (by decide) (Nat.le_of_ble_eq_true rfl) hk hn dX5_cornerBehind_15 rfl (fun z11 M9 hq9 => ?_)
  obtain ⟨o12, H⟩ := H z11 M9 hq9
  refine e_wf (fun hw13 => ?_)
  refine e_iload C 0 dX5_cornerBehind_18 rfl ?_
  obtain ⟨o14, H⟩ := H
  refine e_isub C dX5_cornerBehind_20 ?_
  refine e_istore C dX5_cornerBehind_21 (by decide) rfl ?_
  refine e_iconst C dX5_cornerBehind_23 ?_
  refine e_istore C dX5_cornerBehind_24 (by decide) rfl ?_
  refine e_sipush C dX5_cornerBehind_26 (by decide) ?_
  refine e_istore C dX5_cornerBehind_29 (by decide) rfl ?_
  exact e_sub [4, 5, 6, 7, 3, 2, 1, 0] rfl H
set_option maxRecDepth 4000 in
theorem B_X5_cornerBehind_31 {g : Gs} {ad : Nat → Nat} {sk : (Nat → Nat) × (Nat → Nat)} {X : Cx} {mc ms k n : Nat} {PQ : Option Value → Mem → Prop} {PX : String → Mem → Prop} {M : Mem} {x1 x2 x3 x4 x5 x6 x7 : Int} (r1 : R32 x1) (r2 : R32 x2) (r3 : R32 x3) (r4 : R32 x4) (r5 : R32 x5) (r6 : R32 x6) (r7 : R32 x7) (hk : k ≤ mc) (hn : n ≤ ms) (C : OkB (wC g ad sk) X cX5_cornerBehind RX5 8 4 mc ms) (Y : OkR (wC g ad sk) X (some .int) mc ms PQ PX) (H : (((x7 ≤ 0) → (R32 (x3 + x6)) ∧ ((((x3 + x6) ≤ 16384) → PQ (some (vI (x3 + x6))) M) ∧ ((16384 < (x3 + x6)) → PQ (some (vI (-1))) M))) ∧ ((0 < x7) → ((R32 (x3 + x6)) ∧ (R32 ((x3 + x6) + x7))) ∧ ∃ Q6 : Int → Mem → Prop, SpI (wC g ad sk) yX5_wallAt cX5_wallAt 4 (some .int) 3 [.ref (ad 1), vI x1, vI x2, vI ((x3 + x6) + x7)] M Q6 ∧ ∀ (z7 : Int) (M5 : Mem), Q6 z7 M5 → R32 z7 ∧ ((R32 (x6 + x7)) ∧ (R32 (x5 * (x6 + x7))) ∧ (R32 (x4 + (x5 * (x6 + x7))))) ∧ (((z7 ≠ (x4 + (x5 * (x6 + x7)))) → E (wC g ad sk) X k n M5 31 [(0, .ref (ad 1)), (1, vI x1), (2, vI x2), (3, vI x3), (4, vI x4), (5, vI x5), (6, vI x6), (7, vI (Int.tdiv x7 2))] []) ∧ ((z7 = (x4 + (x5 * (x6 + x7)))) → E (wC g ad sk) X k n M5 31 [(0, .ref (ad 1)), (1, vI x1), (2, vI x2), (3, vI x3), (4, vI x4), (5, vI x5), (6, vI (x6 + x7)), (7, vI (Int.tdiv x7 2))] []))))) : E (wC g ad sk) X k n M 31 [(0, .ref (ad 1)), (1, vI x1), (2, vI x2), (3, vI x3), (4, vI x4), (5, vI x5), (6, vI x6), (7, vI x7)] [] := by
  refine e_wf (fun hw0 => ?_)
  refine e_iload C 7 dX5_cornerBehind_31 rfl ?_
  refine e_if_le C 79 r7 dX5_cornerBehind_33 (by decide) (fun c9 => ?_) (fun c9 => ?_)
  · replace H := H.1 c9
    refine e_iload_n C 3 dX5_cornerBehind_79 rfl ?_
    refine e_iload C 6 dX5_cornerBehind_80 rfl ?_
    obtain ⟨o1, H⟩ := H
    refine e_iadd C dX5_cornerBehind_82 ?_
    refine e_sipush C dX5_cornerBehind_83 (by decide) ?_
    refine e_icmp_le C 93 o1 (by decide) dX5_cornerBehind_86 (by decide) (fun c9 => ?_) (fun c9 => ?_)
    · replace H := H.1 c9
      refine e_iload_n C 3 dX5_cornerBehind_93 rfl ?_
      refine e_iload C 6 dX5_cornerBehind_94 rfl ?_
      refine e_iadd C dX5_cornerBehind_96 ?_
      exact e_iret C Y hk hn dX5_cornerBehind_97 H
    · replace H := H.2 c9
      refine e_iconst C dX5_cornerBehind_89 ?_
      refine e_goto C 97 dX5_cornerBehind_90 (by decide) ?_
      exact e_iret C Y hk hn dX5_cornerBehind_97 H
  · replace H := H.2 c9
    refine e_aload_n C 0 dX5_cornerBehind_36 rfl ?_
    refine e_iload_n C 1 dX5_cornerBehind_37 rfl ?_
    refine e_iload_n C 2 dX5_cornerBehind_38 rfl ?_
    refine e_iload_n C 3 dX5_cornerBehind_39 rfl ?_
    refine e_iload C 6 dX5_cornerBehind_40 rfl ?_
    obtain ⟨⟨o2, o3⟩, H⟩ := H
    refine e_iadd C dX5_cornerBehind_42 ?_
    refine e_iload C 7 dX5_cornerBehind_43 rfl ?_
    refine e_iadd C dX5_cornerBehind_45 ?_
    obtain ⟨Q6, h4, H⟩ := H
    refine e_callVI (As := [vI x1, vI x2, vI ((x3 + x6) + x7)]) (rest := []) (q0 := 1) (ci := 5) C Y mi_X5_wallAt ms_X5_wallAt mv_X5_wallAt ml_X5_186 h4 (wlX_st rfl) rfl (by decide) (Nat.le_of_ble_eq_true rfl) hk hn dX5_cornerBehind_46 rfl (fun z7 M5 hq9 => ?_)
    obtain ⟨o8, H⟩ := H z7 M5 hq9
    refine e_wf (fun hw9 => ?_)
    refine e_iload C 4 dX5_cornerBehind_49 rfl ?_
    refine e_iload C 5 dX5_cornerBehind_51 rfl ?_
    refine e_iload C 6 dX5_cornerBehind_53 rfl ?_
    refine e_iload C 7 dX5_cornerBehind_55 rfl ?_
    obtain ⟨⟨o10, o11, o12⟩, H⟩ := H
    refine e_iadd C dX5_cornerBehind_57 ?_
    refine e_imul C dX5_cornerBehind_58 ?_
    refine e_iadd C dX5_cornerBehind_59 ?_
    refine e_icmp_ne C 70 o8 o12 dX5_cornerBehind_60 (by decide) (fun c9 => ?_) (fun c9 => ?_)
    · replace H := H.1 c9
      refine e_iload C 7 dX5_cornerBehind_70 rfl ?_
      refine e_iconst C dX5_cornerBehind_72 ?_
      refine e_idiv C r7 (by decide) (by decide) (by decide) dX5_cornerBehind_73 ?_
      refine e_istore C dX5_cornerBehind_74 (by decide) rfl ?_
      refine e_goto C 31 dX5_cornerBehind_76 (by decide) ?_
      exact e_sub [1, 2, 3, 4, 5, 6, 7, 0] rfl H
    · replace H := H.2 c9
      refine e_iload C 6 dX5_cornerBehind_63 rfl ?_
      refine e_iload C 7 dX5_cornerBehind_65 rfl ?_
      refine e_iadd C dX5_cornerBehind_67 ?_
      refine e_istore C dX5_cornerBehind_68 (by decide) rfl ?_
      refine e_iload C 7 dX5_cornerBehind_70 rfl ?_
      refine e_iconst C dX5_cornerBehind_72 ?_
      refine e_idiv C r7 (by decide) (by decide) (by decide) dX5_cornerBehind_73 ?_
      refine e_istore C dX5_cornerBehind_74 (by decide) rfl ?_
      refine e_goto C 31 dX5_cornerBehind_76 (by decide) ?_
      exact e_sub [2, 3, 4, 5, 6, 7, 1, 0] rfl H
set_option maxRecDepth 4000 in
theorem B_X8_takeBehindGame_0 {g : Gs} {ad : Nat → Nat} {sk : (Nat → Nat) × (Nat → Nat)} {X : Cx} {mc ms k n : Nat} {PQ : Option Value → Mem → Prop} {PX : String → Mem → Prop} {M : Mem}  (hk : k ≤ mc) (hn : n ≤ ms) (C : OkB (wC g ad sk) X cX8_takeBehindGame RX8 1 4 mc ms) (Y : OkR (wC g ad sk) X none mc ms PQ PX) (H : ((((M 26 0) ≠ 0) → ((((M 28 0) ≠ 44) → ((((M 28 0) ≠ 124) → E (wC g ad sk) X k n M 85 [(0, .ref (ad 5))] []) ∧ (((M 28 0) = 124) → ((R32 ((M 26 0) - 1)) ∧ (0 ≤ (M 26 0) - 1 ∧ (M 26 0) - 1 < 80)) ∧ ((((M 25 ((M 26 0) - 1)) ≠ 0) → E (wC g ad sk) X k n M 85 [(0, .ref (ad 5))] []) ∧ (((M 25 ((M 26 0) - 1)) = 0) → ∃ Q5 : Mem → Prop, SpV (wC g ad sk) yX8_takeBar cX8_takeBar 1 none 3 [.ref (ad 5)] M Q5 ∧ ∀ M4 : Mem, Q5 M4 → PQ none M4))))) ∧ (((M 28 0) = 44) → ∃ Q10 : Mem → Prop, SpV (wC g ad sk) yX8_advance cX8_advance 1 none 2 [.ref (ad 5)] (up M 27 0 0) Q10 ∧ ∀ M9 : Mem, Q10 M9 → PQ none M9))) ∧ (((M 26 0) = 0) → ((((M 28 0) ≠ 0) → PQ none (up (up M 27 0 4) 31 0 (M 29 0))) ∧ (((M 28 0) = 0) → PQ none (up (up M 27 0 4) 31 0 (-1))))))) : E (wC g ad sk) X k n M 0 [(0, .ref (ad 5))] [] := by
  refine e_wf (fun hw0 => ?_)
  refine e_aload_n C 0 dX8_takeBehindGame_0 rfl ?_
  refine gX_8_30 C dX8_takeBehindGame_1 ?_
  refine e_if_ne C 34 (hw0.2.1 26 _ rfl) dX8_takeBehindGame_4 (by decide) (fun c9 => ?_) (fun c9 => ?_)
  · replace H := H.1 c9
    refine e_aload_n C 0 dX8_takeBehindGame_34 rfl ?_
    refine gX_8_58 C dX8_takeBehindGame_35 ?_
    refine e_bipush C dX8_takeBehindGame_38 (by decide) ?_
    refine e_icmp_ne C 55 (hw0.2.1 28 _ rfl) (by decide) dX8_takeBehindGame_40 (by decide) (fun c9 => ?_) (fun c9 => ?_)
    · replace H := H.1 c9
      refine e_aload_n C 0 dX8_takeBehindGame_55 rfl ?_
      refine gX_8_58 C dX8_takeBehindGame_56 ?_
      refine e_bipush C dX8_takeBehindGame_59 (by decide) ?_
      refine e_icmp_ne C 85 (hw0.2.1 28 _ rfl) (by decide) dX8_takeBehindGame_61 (by decide) (fun c9 => ?_) (fun c9 => ?_)
      · replace H := H.1 c9
        exact e_sub [0] rfl H
      · replace H := H.2 c9
        refine e_aload_n C 0 dX8_takeBehindGame_64 rfl ?_
        refine gX_8_23 C dX8_takeBehindGame_65 ?_
        refine e_aload_n C 0 dX8_takeBehindGame_68 rfl ?_
        refine gX_8_30 C dX8_takeBehindGame_69 ?_
        refine e_iconst C dX8_takeBehindGame_72 ?_
        obtain ⟨⟨o1, o2⟩, H⟩ := H
        refine e_isub C dX8_takeBehindGame_73 ?_
        refine aX_37 C o2 dX8_takeBehindGame_74 ?_
        refine e_if_ne C 85 (hw0.2.1 25 _ rfl) dX8_takeBehindGame_75 (by decide) (fun c9 => ?_) (fun c9 => ?_)
        · replace H := H.1 c9
          exact e_sub [0] rfl H
        · replace H := H.2 c9
          refine e_aload_n C 0 dX8_takeBehindGame_78 rfl ?_
          obtain ⟨Q5, h3, H⟩ := H
          refine e_callVV (As := []) (rest := []) (q0 := 5) (ci := 8) C Y mi_X8_takeBar ms_X8_takeBar mv_X8_takeBar ml_X8_78 h3 (wlX_st rfl) rfl (by decide) (Nat.le_of_ble_eq_true rfl) hk hn dX8_takeBehindGame_79 rfl (fun M4 hq9 => ?_)
          replace H := H M4 hq9
          refine e_wf (fun hw6 => ?_)
          refine e_goto C 123 dX8_takeBehindGame_82 (by decide) ?_
          exact e_vret C Y hk hn dX8_takeBehindGame_123 H
    · replace H := H.2 c9
      refine e_aload_n C 0 dX8_takeBehindGame_43 rfl ?_
      refine e_iconst C dX8_takeBehindGame_44 ?_
      refine pX_8_39 C (by decide) dX8_takeBehindGame_45 ?_
      refine e_wf (fun hw7 => ?_)
      refine e_aload_n C 0 dX8_takeBehindGame_48 rfl ?_
      obtain ⟨Q10, h8, H⟩ := H
      refine e_callVV (As := []) (rest := []) (q0 := 5) (ci := 8) C Y mi_X8_advance ms_X8_advance mv_X8_advance ml_X8_42 h8 (wlX_st rfl) rfl (by decide) (Nat.le_of_ble_eq_true rfl) hk hn dX8_takeBehindGame_49 rfl (fun M9 hq9 => ?_)
      replace H := H M9 hq9
      refine e_wf (fun hw11 => ?_)
      refine e_goto C 123 dX8_takeBehindGame_52 (by decide) ?_
      exact e_vret C Y hk hn dX8_takeBehindGame_123 H
  · replace H := H.2 c9
    refine e_aload_n C 0 dX8_takeBehindGame_7 rfl ?_
    refine e_iconst C dX8_takeBehindGame_8 ?_
    refine pX_8_39 C (by decide) dX8_takeBehindGame_9 ?_
    refine e_wf (fun hw12 => ?_)
    refine e_aload_n C 0 dX8_takeBehindGame_12 rfl ?_
    refine e_aload_n C 0 dX8_takeBehindGame_13 rfl ?_
    refine gX_8_58 C dX8_takeBehindGame_14 ?_
    refine e_if_ne C 24 (hw0.2.1 28 _ rfl) dX8_takeBehindGame_17 (by decide) (fun c9 => ?_) (fun c9 => ?_)
    · replace H := H.1 c9
      refine e_aload_n C 0 dX8_takeBehindGame_24 rfl ?_
      refine gX_8_51 C dX8_takeBehindGame_25 ?_
      refine pX_8_36 C (hw0.2.1 29 _ rfl) dX8_takeBehindGame_28 ?_
      refine e_wf (fun hw13 => ?_)
      refine e_goto C 123 dX8_takeBehindGame_31 (by decide) ?_
      exact e_vret C Y hk hn dX8_takeBehindGame_123 H
    · replace H := H.2 c9
      refine e_iconst C dX8_takeBehindGame_20 ?_
      refine e_goto C 28 dX8_takeBehindGame_21 (by decide) ?_
      refine pX_8_36 C (by decide) dX8_takeBehindGame_28 ?_
      refine e_wf (fun hw14 => ?_)
      refine e_goto C 123 dX8_takeBehindGame_31 (by decide) ?_
      exact e_vret C Y hk hn dX8_takeBehindGame_123 H
set_option maxRecDepth 4000 in
theorem B_X8_takeBehindGame_85 {g : Gs} {ad : Nat → Nat} {sk : (Nat → Nat) × (Nat → Nat)} {X : Cx} {mc ms k n : Nat} {PQ : Option Value → Mem → Prop} {PX : String → Mem → Prop} {M : Mem}  (hk : k ≤ mc) (hn : n ≤ ms) (C : OkB (wC g ad sk) X cX8_takeBehindGame RX8 1 4 mc ms) (Y : OkR (wC g ad sk) X none mc ms PQ PX) (H : ((((M 28 0) ≠ 125) → PQ none (up M 31 0 (M 29 0))) ∧ (((M 28 0) = 125) → ((R32 ((M 26 0) - 1)) ∧ (0 ≤ (M 26 0) - 1 ∧ (M 26 0) - 1 < 80)) ∧ ((((M 25 ((M 26 0) - 1)) = 0) → PQ none (up M 31 0 (M 29 0))) ∧ (((M 25 ((M 26 0) - 1)) ≠ 0) → ∃ Q7 : Mem → Prop, SpV (wC g ad sk) yX8_takeClose cX8_takeClose 1 none 3 [.ref (ad 5)] M Q7 ∧ ∀ M6 : Mem, Q7 M6 → PQ none M6))))) : E (wC g ad sk) X k n M 85 [(0, .ref (ad 5))] [] := by
  refine e_wf (fun hw0 => ?_)
  refine e_aload_n C 0 dX8_takeBehindGame_85 rfl ?_
  refine gX_8_58 C dX8_takeBehindGame_86 ?_
  refine e_bipush C dX8_takeBehindGame_89 (by decide) ?_
  refine e_icmp_ne C 115 (hw0.2.1 28 _ rfl) (by decide) dX8_takeBehindGame_91 (by decide) (fun c9 => ?_) (fun c9 => ?_)
  · replace H := H.1 c9
    refine e_aload_n C 0 dX8_takeBehindGame_115 rfl ?_
    refine e_aload_n C 0 dX8_takeBehindGame_116 rfl ?_
    refine gX_8_51 C dX8_takeBehindGame_117 ?_
    refine pX_8_36 C (hw0.2.1 29 _ rfl) dX8_takeBehindGame_120 ?_
    refine e_wf (fun hw1 => ?_)
    exact e_vret C Y hk hn dX8_takeBehindGame_123 H
  · replace H := H.2 c9
    refine e_aload_n C 0 dX8_takeBehindGame_94 rfl ?_
    refine gX_8_23 C dX8_takeBehindGame_95 ?_
    refine e_aload_n C 0 dX8_takeBehindGame_98 rfl ?_
    refine gX_8_30 C dX8_takeBehindGame_99 ?_
    refine e_iconst C dX8_takeBehindGame_102 ?_
    obtain ⟨⟨o2, o3⟩, H⟩ := H
    refine e_isub C dX8_takeBehindGame_103 ?_
    refine aX_37 C o3 dX8_takeBehindGame_104 ?_
    refine e_if_eq C 115 (hw0.2.1 25 _ rfl) dX8_takeBehindGame_105 (by decide) (fun c9 => ?_) (fun c9 => ?_)
    · replace H := H.1 c9
      refine e_aload_n C 0 dX8_takeBehindGame_115 rfl ?_
      refine e_aload_n C 0 dX8_takeBehindGame_116 rfl ?_
      refine gX_8_51 C dX8_takeBehindGame_117 ?_
      refine pX_8_36 C (hw0.2.1 29 _ rfl) dX8_takeBehindGame_120 ?_
      refine e_wf (fun hw4 => ?_)
      exact e_vret C Y hk hn dX8_takeBehindGame_123 H
    · replace H := H.2 c9
      refine e_aload_n C 0 dX8_takeBehindGame_108 rfl ?_
      obtain ⟨Q7, h5, H⟩ := H
      refine e_callVV (As := []) (rest := []) (q0 := 5) (ci := 8) C Y mi_X8_takeClose ms_X8_takeClose mv_X8_takeClose ml_X8_81 h5 (wlX_st rfl) rfl (by decide) (Nat.le_of_ble_eq_true rfl) hk hn dX8_takeBehindGame_109 rfl (fun M6 hq9 => ?_)
      replace H := H M6 hq9
      refine e_wf (fun hw8 => ?_)
      refine e_goto C 123 dX8_takeBehindGame_112 (by decide) ?_
      exact e_vret C Y hk hn dX8_takeBehindGame_123 H
set_option maxRecDepth 4000 in
theorem B_X8_takePlusMinus_0 {g : Gs} {ad : Nat → Nat} {sk : (Nat → Nat) × (Nat → Nat)} {X : Cx} {mc ms k n : Nat} {PQ : Option Value → Mem → Prop} {PX : String → Mem → Prop} {M : Mem}  (hk : k ≤ mc) (hn : n ≤ ms) (C : OkB (wC g ad sk) X cX8_takePlusMinus RX8 2 4 mc ms) (Y : OkR (wC g ad sk) X none mc ms PQ PX) (H : ∃ Q3 : Int → Mem → Prop, SpI (wC g ad sk) yX8_kindAt cX8_kindAt 4 (some .int) 1 [.ref (ad 5), vI (M 30 0)] M Q3 ∧ ∀ (z4 : Int) (M2 : Mem), Q3 z4 M2 → R32 z4 ∧ (((z4 = 45) → ∃ Q9 : Mem → Prop, SpV (wC g ad sk) yX8_advance cX8_advance 1 none 2 [.ref (ad 5)] M2 Q9 ∧ ∀ M8 : Mem, Q9 M8 → ∃ Q13 : Mem → Prop, SpV (wC g ad sk) yX8_advance cX8_advance 1 none 2 [.ref (ad 5)] M8 Q13 ∧ ∀ M12 : Mem, Q13 M12 → ∃ Q17 : Int → Mem → Prop, SpI (wC g ad sk) yX8_takePositive cX8_takePositive 4 (some .int) 3 [.ref (ad 5)] M12 Q17 ∧ ∀ (z18 : Int) (M16 : Mem), Q17 z18 M16 → R32 z18 ∧ (R32 (-z18)) ∧ ∃ Q24 : Mem → Prop, SpV (wC g ad sk) yX8_notePair cX8_notePair 3 none 2 [.ref (ad 5), vI z18, vI (-z18)] M16 Q24 ∧ ∀ M23 : Mem, Q24 M23 → PQ none (up M23 27 0 3)) ∧ ((z4 ≠ 45) → PQ none (up M2 31 0 (M2 30 0))))) : E (wC g ad sk) X k n M 0 [(0, .ref (ad 5))] [] := by
  refine e_wf (fun hw0 => ?_)
  refine e_aload_n C 0 dX8_takePlusMinus_0 rfl ?_
  refine e_aload_n C 0 dX8_takePlusMinus_1 rfl ?_
  refine gX_8_33 C dX8_takePlusMinus_2 ?_
  obtain ⟨Q3, h1, H⟩ := H
  refine e_callVI (As := [vI (M 30 0)]) (rest := []) (q0 := 5) (ci := 8) C Y mi_X8_kindAt ms_X8_kindAt mv_X8_kindAt ml_X8_54 h1 (wlX_st rfl) rfl (by decide) (Nat.le_of_ble_eq_true rfl) hk hn dX8_takePlusMinus_5 rfl (fun z4 M2 hq9 => ?_)
  obtain ⟨o5, H⟩ := H z4 M2 hq9
  refine e_wf (fun hw6 => ?_)
  refine e_bipush C dX8_takePlusMinus_8 (by decide) ?_
  refine e_icmp_eq C 22 o5 (by decide) dX8_takePlusMinus_10 (by decide) (fun c9 => ?_) (fun c9 => ?_)
  · replace H := H.1 c9
    refine e_aload_n C 0 dX8_takePlusMinus_22 rfl ?_
    obtain ⟨Q9, h7, H⟩ := H
    refine e_callVV (As := []) (rest := []) (q0 := 5) (ci := 8) C Y mi_X8_advance ms_X8_advance mv_X8_advance ml_X8_42 h7 (wlX_st rfl) rfl (by decide) (Nat.le_of_ble_eq_true rfl) hk hn dX8_takePlusMinus_23 rfl (fun M8 hq9 => ?_)
    replace H := H M8 hq9
    refine e_wf (fun hw10 => ?_)
    refine e_aload_n C 0 dX8_takePlusMinus_26 rfl ?_
    obtain ⟨Q13, h11, H⟩ := H
    refine e_callVV (As := []) (rest := []) (q0 := 5) (ci := 8) C Y mi_X8_advance ms_X8_advance mv_X8_advance ml_X8_42 h11 (wlX_st rfl) rfl (by decide) (Nat.le_of_ble_eq_true rfl) hk hn dX8_takePlusMinus_27 rfl (fun M12 hq9 => ?_)
    replace H := H M12 hq9
    refine e_wf (fun hw14 => ?_)
    refine e_aload_n C 0 dX8_takePlusMinus_30 rfl ?_
    obtain ⟨Q17, h15, H⟩ := H
    refine e_callVI (As := []) (rest := []) (q0 := 5) (ci := 8) C Y mi_X8_takePositive ms_X8_takePositive mv_X8_takePositive ml_X8_67 h15 (wlX_st rfl) rfl (by decide) (Nat.le_of_ble_eq_true rfl) hk hn dX8_takePlusMinus_31 rfl (fun z18 M16 hq9 => ?_)
    obtain ⟨o19, H⟩ := H z18 M16 hq9
    refine e_wf (fun hw20 => ?_)
    refine e_istore_n C dX8_takePlusMinus_34 (by decide) rfl ?_
    refine e_aload_n C 1 dX8_takePlusMinus_35 rfl ?_
    refine e_iload_n C 0 dX8_takePlusMinus_36 rfl ?_
    refine e_iload_n C 0 dX8_takePlusMinus_37 rfl ?_
    obtain ⟨o21, H⟩ := H
    refine e_ineg C dX8_takePlusMinus_38 ?_
    obtain ⟨Q24, h22, H⟩ := H
    refine e_callVV (As := [vI z18, vI (-z18)]) (rest := []) (q0 := 5) (ci := 8) C Y mi_X8_notePair ms_X8_notePair mv_X8_notePair ml_X8_97 h22 (wlX_st rfl) rfl (by decide) (Nat.le_of_ble_eq_true rfl) hk hn dX8_takePlusMinus_39 rfl (fun M23 hq9 => ?_)
    replace H := H M23 hq9
    refine e_wf (fun hw25 => ?_)
    refine e_aload_n C 1 dX8_takePlusMinus_42 rfl ?_
    refine e_iconst C dX8_takePlusMinus_43 ?_
    refine pX_8_39 C (by decide) dX8_takePlusMinus_44 ?_
    refine e_wf (fun hw26 => ?_)
    exact e_vret C Y hk hn dX8_takePlusMinus_47 H
  · replace H := H.2 c9
    refine e_aload_n C 0 dX8_takePlusMinus_13 rfl ?_
    refine e_aload_n C 0 dX8_takePlusMinus_14 rfl ?_
    refine gX_8_33 C dX8_takePlusMinus_15 ?_
    refine pX_8_36 C (hw6.2.1 30 _ rfl) dX8_takePlusMinus_18 ?_
    refine e_wf (fun hw27 => ?_)
    exact e_vret C Y hk hn dX8_takePlusMinus_21 H
set_option maxRecDepth 4000 in
theorem B_X0_advise_0 {g : Gs} {ad : Nat → Nat} {sk : (Nat → Nat) × (Nat → Nat)} {X : Cx} {mc ms k n : Nat} {PQ : Option Value → Mem → Prop} {PX : String → Mem → Prop} {M : Mem} {x2 x3 x4 : Int} (r2 : R32 x2) (r3 : R32 x3) (r4 : R32 x4) (hk : k ≤ mc) (hn : n ≤ ms) (C : OkB (wC g ad sk) X cX0_advise RX0 5 5 mc ms) (Y : OkR (wC g ad sk) X (some .int) mc ms PQ PX) (H : (((x4 = 0) → ∃ Q3 : Int → Mem → Prop, SpI (wC g ad sk) yX0_lowest cX0_lowest 4 (some .int) 1 [.ref (ad 4), .ref (ad 10), vI x2] M Q3 ∧ ∀ (z4 : Int) (M2 : Mem), Q3 z4 M2 → R32 z4 ∧ PQ (some (vI z4)) M2) ∧ ((x4 = 1) → ∃ Q9 : Int → Mem → Prop, SpI (wC g ad sk) yX0_hottest cX0_hottest 7 (some .int) 4 [.ref (ad 4), .ref (ad 10), vI x2, vI x3] M Q9 ∧ ∀ (z10 : Int) (M8 : Mem), Q9 z10 M8 → R32 z10 ∧ PQ (some (vI z10)) M8) ∧ ((x4 = 2) → ∃ Q15 : Int → Mem → Prop, SpI (wC g ad sk) yX0_greediest cX0_greediest 10 (some .int) 2 [.ref (ad 4), .ref (ad 10), vI x2, vI x3] M Q15 ∧ ∀ (z16 : Int) (M14 : Mem), Q15 z16 M14 → R32 z16 ∧ PQ (some (vI z16)) M14) ∧ ((x4 < 0 ∨ 2 < x4) → ∃ Q21 : Int → Mem → Prop, SpI (wC g ad sk) yX0_optimal cX0_optimal 10 (some .int) 2 [.ref (ad 4), .ref (ad 10), vI x2, vI x3] M Q21 ∧ ∀ (z22 : Int) (M20 : Mem), Q21 z22 M20 → R32 z22 ∧ PQ (some (vI z22)) M20))) : E (wC g ad sk) X k n M 0 [(0, .ref (ad 4)), (1, .ref (ad 10)), (2, vI x2), (3, vI x3), (4, vI x4)] [] := by
  refine e_wf (fun hw0 => ?_)
  refine e_iload C 4 dX0_advise_0 rfl ?_
  refine e_eqS (st' := [vI x4]) rfl ?_
  by_cases c9_0 : x4 = 0
  · replace H := H.1 c9_0
    refine e_tableIn C 28 r4 dX0_advise_2 (by rw [c9_0]; decide) (by rw [c9_0]; decide) (by rw [c9_0]; rfl) (by decide) ?_
    refine e_aload_n C 0 dX0_advise_28 rfl ?_
    refine e_aload_n C 1 dX0_advise_29 rfl ?_
    refine e_iload_n C 2 dX0_advise_30 rfl ?_
    obtain ⟨Q3, h1, H⟩ := H
    refine e_callVI (As := [.ref (ad 10), vI x2]) (rest := []) (q0 := 4) (ci := 0) C Y mi_X0_lowest ms_X0_lowest mv_X0_lowest ml_X0_19 h1 (wlX_st rfl) rfl (by decide) (Nat.le_of_ble_eq_true rfl) hk hn dX0_advise_31 rfl (fun z4 M2 hq9 => ?_)
    obtain ⟨o5, H⟩ := H z4 M2 hq9
    refine e_wf (fun hw6 => ?_)
    exact e_iret C Y hk hn dX0_advise_34 H
  by_cases c9_1 : x4 = 1
  · replace H := H.2.1 c9_1
    refine e_tableIn C 35 r4 dX0_advise_2 (by rw [c9_1]; decide) (by rw [c9_1]; decide) (by rw [c9_1]; rfl) (by decide) ?_
    refine e_aload_n C 0 dX0_advise_35 rfl ?_
    refine e_aload_n C 1 dX0_advise_36 rfl ?_
    refine e_iload_n C 2 dX0_advise_37 rfl ?_
    refine e_iload_n C 3 dX0_advise_38 rfl ?_
    obtain ⟨Q9, h7, H⟩ := H
    refine e_callVI (As := [.ref (ad 10), vI x2, vI x3]) (rest := []) (q0 := 4) (ci := 0) C Y mi_X0_hottest ms_X0_hottest mv_X0_hottest ml_X0_23 h7 (wlX_st rfl) rfl (by decide) (Nat.le_of_ble_eq_true rfl) hk hn dX0_advise_39 rfl (fun z10 M8 hq9 => ?_)
    obtain ⟨o11, H⟩ := H z10 M8 hq9
    refine e_wf (fun hw12 => ?_)
    exact e_iret C Y hk hn dX0_advise_42 H
  by_cases c9_2 : x4 = 2
  · replace H := H.2.2.1 c9_2
    refine e_tableIn C 43 r4 dX0_advise_2 (by rw [c9_2]; decide) (by rw [c9_2]; decide) (by rw [c9_2]; rfl) (by decide) ?_
    refine e_aload_n C 0 dX0_advise_43 rfl ?_
    refine e_aload_n C 1 dX0_advise_44 rfl ?_
    refine e_iload_n C 2 dX0_advise_45 rfl ?_
    refine e_iload_n C 3 dX0_advise_46 rfl ?_
    obtain ⟨Q15, h13, H⟩ := H
    refine e_callVI (As := [.ref (ad 10), vI x2, vI x3]) (rest := []) (q0 := 4) (ci := 0) C Y mi_X0_greediest ms_X0_greediest mv_X0_greediest ml_X0_27 h13 (wlX_st rfl) rfl (by decide) (Nat.le_of_ble_eq_true rfl) hk hn dX0_advise_47 rfl (fun z16 M14 hq9 => ?_)
    obtain ⟨o17, H⟩ := H z16 M14 hq9
    refine e_wf (fun hw18 => ?_)
    exact e_iret C Y hk hn dX0_advise_50 H
  replace H := H.2.2.2 (by omega)
  refine e_tableOut C 51 r4 dX0_advise_2 (by omega) (by decide) ?_
  refine e_aload_n C 0 dX0_advise_51 rfl ?_
  refine e_aload_n C 1 dX0_advise_52 rfl ?_
  refine e_iload_n C 2 dX0_advise_53 rfl ?_
  refine e_iload_n C 3 dX0_advise_54 rfl ?_
  obtain ⟨Q21, h19, H⟩ := H
  refine e_callVI (As := [.ref (ad 10), vI x2, vI x3]) (rest := []) (q0 := 4) (ci := 0) C Y mi_X0_optimal ms_X0_optimal mv_X0_optimal ml_X0_30 h19 (wlX_st rfl) rfl (by decide) (Nat.le_of_ble_eq_true rfl) hk hn dX0_advise_55 rfl (fun z22 M20 hq9 => ?_)
  obtain ⟨o23, H⟩ := H z22 M20 hq9
  refine e_wf (fun hw24 => ?_)
  exact e_iret C Y hk hn dX0_advise_58 H
set_option maxRecDepth 4000 in
theorem B_X1_negateOne_0 {g : Gs} {ad : Nat → Nat} {sk : (Nat → Nat) × (Nat → Nat)} {X : Cx} {mc ms k n : Nat} {PQ : Option Value → Mem → Prop} {PX : String → Mem → Prop} {M : Mem} {x1 : Int} (r1 : 0 ≤ x1 ∧ x1 < 40) (hk : k ≤ mc) (hn : n ≤ ms) (C : OkB (wC g ad sk) X cX1_negateOne RX1 2 5 mc ms) (Y : OkR (wC g ad sk) X (some .int) mc ms PQ PX) (H : ((((M 45 x1) ≠ 0) → ∃ Q3 : Int → Mem → Prop, SpL (wC g ad sk) yX1_negated cX1_negated 6 (some .long) 2 [.ref (ad 6), .ref (ad (44 + 6 * (Int.toNat x1))), vI 1] M Q3 ∧ ∀ (z4 : Int) (M2 : Mem), Q3 z4 M2 → R64 z4 ∧ ∃ Q9 : Int → Mem → Prop, SpL (wC g ad sk) yX1_negated cX1_negated 6 (some .long) 2 [.ref (ad 6), .ref (ad (44 + 6 * (Int.toNat x1))), vI 0] M2 Q9 ∧ ∀ (z10 : Int) (M8 : Mem), Q9 z10 M8 → R64 z10 ∧ ∃ Q15 : Int → Mem → Prop, SpI (wC g ad sk) yX5_compose cX5_compose 7 (some .int) 4 [.ref (ad 1), vL z4, vL z10] M8 Q15 ∧ ∀ (z16 : Int) (M14 : Mem), Q15 z16 M14 → R32 z16 ∧ PQ (some (vI z16)) M14) ∧ (((M 45 x1) = 0) → (R32 (-(M 46 x1))) ∧ ∃ Q22 : Int → Mem → Prop, SpI (wC g ad sk) yX5_makeNumber cX5_makeNumber 3 (some .int) 4 [.ref (ad 1), vI (-(M 46 x1))] M Q22 ∧ ∀ (z23 : Int) (M21 : Mem), Q22 z23 M21 → R32 z23 ∧ PQ (some (vI z23)) M21))) : E (wC g ad sk) X k n M 0 [(0, .ref (ad 6)), (1, .ref (ad (44 + 6 * (Int.toNat x1))))] [] := by
  refine e_wf (fun hw0 => ?_)
  refine e_aload_n C 1 dX1_negateOne_0 rfl ?_
  refine gX_1_50 C r1 dX1_negateOne_1 ?_
  refine e_if_ne C 20 (hw0.2.1 45 _ rfl) dX1_negateOne_4 (by decide) (fun c9 => ?_) (fun c9 => ?_)
  · replace H := H.1 c9
    refine e_aload_n C 0 dX1_negateOne_20 rfl ?_
    refine gX_1_26 C dX1_negateOne_21 ?_
    refine e_aload_n C 0 dX1_negateOne_24 rfl ?_
    refine e_aload_n C 1 dX1_negateOne_25 rfl ?_
    refine e_iconst C dX1_negateOne_26 ?_
    obtain ⟨Q3, h1, H⟩ := H
    refine e_callVL (As := [.ref (ad (44 + 6 * (Int.toNat x1))), vI 1]) (rest := [.ref (ad 1)]) (q0 := 6) (ci := 1) C Y mi_X1_negated ms_X1_negated mv_X1_negated ml_X1_62 h1 (wlX_st rfl) rfl (by decide) (Nat.le_of_ble_eq_true rfl) hk hn dX1_negateOne_27 rfl (fun z4 M2 hq9 => ?_)
    obtain ⟨o5, H⟩ := H z4 M2 hq9
    refine e_wf (fun hw6 => ?_)
    refine e_aload_n C 0 dX1_negateOne_30 rfl ?_
    refine e_aload_n C 1 dX1_negateOne_31 rfl ?_
    refine e_iconst C dX1_negateOne_32 ?_
    obtain ⟨Q9, h7, H⟩ := H
    refine e_callVL (As := [.ref (ad (44 + 6 * (Int.toNat x1))), vI 0]) (rest := [vL z4, .ref (ad 1)]) (q0 := 6) (ci := 1) C Y mi_X1_negated ms_X1_negated mv_X1_negated ml_X1_62 h7 (wlX_st rfl) rfl (by decide) (Nat.le_of_ble_eq_true rfl) hk hn dX1_negateOne_33 rfl (fun z10 M8 hq9 => ?_)
    obtain ⟨o11, H⟩ := H z10 M8 hq9
    refine e_wf (fun hw12 => ?_)
    obtain ⟨Q15, h13, H⟩ := H
    refine e_callVI (As := [vL z4, vL z10]) (rest := []) (q0 := 1) (ci := 5) C Y mi_X5_compose ms_X5_compose mv_X5_compose ml_X1_66 h13 (wlX_st rfl) rfl (by decide) (Nat.le_of_ble_eq_true rfl) hk hn dX1_negateOne_36 rfl (fun z16 M14 hq9 => ?_)
    obtain ⟨o17, H⟩ := H z16 M14 hq9
    refine e_wf (fun hw18 => ?_)
    exact e_iret C Y hk hn dX1_negateOne_39 H
  · replace H := H.2 c9
    refine e_aload_n C 0 dX1_negateOne_7 rfl ?_
    refine gX_1_26 C dX1_negateOne_8 ?_
    refine e_aload_n C 1 dX1_negateOne_11 rfl ?_
    refine gX_1_54 C r1 dX1_negateOne_12 ?_
    obtain ⟨o19, H⟩ := H
    refine e_ineg C dX1_negateOne_15 ?_
    obtain ⟨Q22, h20, H⟩ := H
    refine e_callVI (As := [vI (-(M 46 x1))]) (rest := []) (q0 := 1) (ci := 5) C Y mi_X5_makeNumber ms_X5_makeNumber mv_X5_makeNumber ml_X1_58 h20 (wlX_st rfl) rfl (by decide) (Nat.le_of_ble_eq_true rfl) hk hn dX1_negateOne_16 rfl (fun z23 M21 hq9 => ?_)
    obtain ⟨o24, H⟩ := H z23 M21 hq9
    refine e_wf (fun hw25 => ?_)
    exact e_iret C Y hk hn dX1_negateOne_19 H
set_option maxRecDepth 4000 in
theorem B_X1_build_0 {g : Gs} {ad : Nat → Nat} {sk : (Nat → Nat) × (Nat → Nat)} {X : Cx} {mc ms k n : Nat} {PQ : Option Value → Mem → Prop} {PX : String → Mem → Prop} {M : Mem} {x2 : Int} (r2 : R32 x2) (hk : k ≤ mc) (hn : n ≤ ms) (C : OkB (wC g ad sk) X cX1_build RX1 8 5 mc ms) (Y : OkR (wC g ad sk) X (some .int) mc ms PQ PX) (H : E (wC g ad sk) X k n M 8 [(0, .ref (ad 6)), (1, .ref (ad 35)), (2, vI x2), (3, vI 0), (4, vI (-1)), (5, vI 0)] []) : E (wC g ad sk) X k n M 0 [(0, .ref (ad 6)), (1, .ref (ad 35)), (2, vI x2)] [] := by
  refine e_wf (fun hw0 => ?_)
  refine e_iconst C dX1_build_0 ?_
  refine e_istore_n C dX1_build_1 (by decide) rfl ?_
  refine e_iconst C dX1_build_2 ?_
  refine e_istore C dX1_build_3 (by decide) rfl ?_
  refine e_iconst C dX1_build_5 ?_
  refine e_istore C dX1_build_6 (by decide) rfl ?_
  exact e_sub [3, 4, 5, 2, 1, 0] rfl H
set_option maxRecDepth 4000 in
theorem B_X1_build_8 {g : Gs} {ad : Nat → Nat} {sk : (Nat → Nat) × (Nat → Nat)} {X : Cx} {mc ms k n : Nat} {PQ : Option Value → Mem → Prop} {PX : String → Mem → Prop} {M : Mem} {x2 x3 x4 x5 : Int} (r2 : R32 x2) (r3 : R32 x3) (r4 : R32 x4) (r5 : R32 x5) (hk : k ≤ mc) (hn : n ≤ ms) (C : OkB (wC g ad sk) X cX1_build RX1 8 5 mc ms) (Y : OkR (wC g ad sk) X (some .int) mc ms PQ PX) (H : (((x2 ≤ x5) → PQ (some (vI x4)) M) ∧ ((x5 < x2) → (0 ≤ x5 ∧ x5 < 400) ∧ ((((M 21 x5) ≠ 100) → E (wC g ad sk) X k n M 44 [(0, .ref (ad 6)), (1, .ref (ad 35)), (2, vI x2), (3, vI x3), (4, vI x4), (5, vI x5), (6, vI (M 21 x5))] []) ∧ (((M 21 x5) = 100) → (((80 ≤ x3) → E (wC g ad sk) X k n M 44 [(0, .ref (ad 6)), (1, .ref (ad 35)), (2, vI x2), (3, vI x3), (4, vI x4), (5, vI x5), (6, vI (M 21 x5))] []) ∧ ((x3 < 80) → ∃ Q4 : Mem → Prop, SpV (wC g ad sk) yX1_openAt cX1_openAt 2 none 1 [.ref (ad 6), vI x3] M Q4 ∧ ∀ M3 : Mem, Q4 M3 → ((R32 (x3 + 1)) ∧ (R32 (x5 + 1))) ∧ E (wC g ad sk) X k n M3 8 [(0, .ref (ad 6)), (1, .ref (ad 35)), (2, vI x2), (3, vI (x3 + 1)), (4, vI x4), (5, vI (x5 + 1))] []))))))) : E (wC g ad sk) X k n M 8 [(0, .ref (ad 6)), (1, .ref (ad 35)), (2, vI x2), (3, vI x3), (4, vI x4), (5, vI x5)] [] := by
  refine e_wf (fun hw0 => ?_)
  refine e_iload C 5 dX1_build_8 rfl ?_
  refine e_iload_n C 2 dX1_build_10 rfl ?_
  refine e_icmp_ge C 159 r5 r2 dX1_build_11 (by decide) (fun c9 => ?_) (fun c9 => ?_)
  · replace H := H.1 c9
    refine e_iload C 4 dX1_build_159 rfl ?_
    exact e_iret C Y hk hn dX1_build_161 H
  · replace H := H.2 c9
    refine e_aload_n C 1 dX1_build_14 rfl ?_
    refine e_iload C 5 dX1_build_15 rfl ?_
    obtain ⟨o1, H⟩ := H
    refine aX_35 C o1 dX1_build_17 ?_
    refine e_istore C dX1_build_18 (by decide) rfl ?_
    refine e_iload C 0 dX1_build_20 rfl ?_
    refine e_bipush C dX1_build_22 (by decide) ?_
    refine e_icmp_ne C 44 (hw0.2.1 21 _ rfl) (by decide) dX1_build_24 (by decide) (fun c9 => ?_) (fun c9 => ?_)
    · replace H := H.1 c9
      exact e_sub [1, 2, 3, 4, 5, 6, 0] rfl H
    · replace H := H.2 c9
      refine e_iload_n C 4 dX1_build_27 rfl ?_
      refine e_bipush C dX1_build_28 (by decide) ?_
      refine e_icmp_ge C 44 r3 (by decide) dX1_build_30 (by decide) (fun c9 => ?_) (fun c9 => ?_)
      · replace H := H.1 c9
        exact e_sub [1, 2, 3, 4, 5, 6, 0] rfl H
      · replace H := H.2 c9
        refine e_aload_n C 1 dX1_build_33 rfl ?_
        refine e_iload_n C 4 dX1_build_34 rfl ?_
        obtain ⟨Q4, h2, H⟩ := H
        refine e_callVV (As := [vI x3]) (rest := []) (q0 := 6) (ci := 1) C Y mi_X1_openAt ms_X1_openAt mv_X1_openAt ml_X1_83 h2 (wlX_st rfl) rfl (by decide) (Nat.le_of_ble_eq_true rfl) hk hn dX1_build_35 rfl (fun M3 hq9 => ?_)
        replace H := H M3 hq9
        refine e_wf (fun hw5 => ?_)
        obtain ⟨⟨o6, o7⟩, H⟩ := H
        refine e_iinc C 4 dX1_build_38 rfl (by decide) rfl ?_
        refine e_goto C 153 dX1_build_41 (by decide) ?_
        refine e_iinc C 6 dX1_build_153 rfl (by decide) rfl ?_
        refine e_goto C 8 dX1_build_156 (by decide) ?_
        exact e_sub [3, 4, 5, 1, 6, 0] rfl H
set_option maxRecDepth 4000 in
theorem B_X1_build_44 {g : Gs} {ad : Nat → Nat} {sk : (Nat → Nat) × (Nat → Nat)} {X : Cx} {mc ms k n : Nat} {PQ : Option Value → Mem → Prop} {PX : String → Mem → Prop} {M : Mem} {x2 x3 x4 x5 x6 : Int} (r2 : R32 x2) (r3 : R32 x3) (r4 : R32 x4) (r5 : R32 x5) (r6 : R32 x6) (hk : k ≤ mc) (hn : n ≤ ms) (C : OkB (wC g ad sk) X cX1_build RX1 8 5 mc ms) (Y : OkR (wC g ad sk) X (some .int) mc ms PQ PX) (H : (((x6 ≠ 101) → E (wC g ad sk) X k n M 67 [(0, .ref (ad 6)), (1, .ref (ad 35)), (2, vI x2), (3, vI x3), (5, vI x5), (6, vI x6)] []) ∧ ((x6 = 101) → (((x3 ≤ 0) → E (wC g ad sk) X k n M 67 [(0, .ref (ad 6)), (1, .ref (ad 35)), (2, vI x2), (3, vI x3), (5, vI x5), (6, vI x6)] []) ∧ ((0 < x3) → ((R32 (x3 - 1)) ∧ (0 ≤ x3 - 1 ∧ x3 - 1 < 80) ∧ (R32 (x5 + 1))) ∧ E (wC g ad sk) X k n (up M 34 (x3 - 1) 1) 8 [(0, .ref (ad 6)), (1, .ref (ad 35)), (2, vI x2), (3, vI x3), (4, vI x4), (5, vI (x5 + 1))] []))))) : E (wC g ad sk) X k n M 44 [(0, .ref (ad 6)), (1, .ref (ad 35)), (2, vI x2), (3, vI x3), (4, vI x4), (5, vI x5), (6, vI x6)] [] := by
  refine e_wf (fun hw0 => ?_)
  refine e_iload C 6 dX1_build_44 rfl ?_
  refine e_bipush C dX1_build_46 (by decide) ?_
  refine e_icmp_ne C 67 r6 (by decide) dX1_build_48 (by decide) (fun c9 => ?_) (fun c9 => ?_)
  · replace H := H.1 c9
    exact e_sub [0, 1, 2, 3, 5, 6] rfl H
  · replace H := H.2 c9
    refine e_iload_n C 3 dX1_build_51 rfl ?_
    refine e_if_le C 67 r3 dX1_build_52 (by decide) (fun c9 => ?_) (fun c9 => ?_)
    · replace H := H.1 c9
      exact e_sub [0, 1, 2, 3, 5, 6] rfl H
    · replace H := H.2 c9
      refine e_aload_n C 0 dX1_build_55 rfl ?_
      refine gX_1_18 C dX1_build_56 ?_
      refine e_iload_n C 3 dX1_build_59 rfl ?_
      refine e_iconst C dX1_build_60 ?_
      obtain ⟨⟨o1, o2, o4⟩, H⟩ := H
      refine e_isub C dX1_build_61 ?_
      refine e_iconst C dX1_build_62 ?_
      refine sX_40 C o2 (by decide) dX1_build_63 ?_
      refine e_wf (fun hw3 => ?_)
      refine e_goto C 153 dX1_build_64 (by decide) ?_
      refine e_iinc C 5 dX1_build_153 rfl (by decide) rfl ?_
      refine e_goto C 8 dX1_build_156 (by decide) ?_
      exact e_sub [1, 2, 3, 4, 5, 0] rfl H
set_option maxRecDepth 4000 in
theorem B_X1_build_67 {g : Gs} {ad : Nat → Nat} {sk : (Nat → Nat) × (Nat → Nat)} {X : Cx} {mc ms k n : Nat} {PQ : Option Value → Mem → Prop} {PX : String → Mem → Prop} {M : Mem} {x2 x3 x5 x6 : Int} (r2 : R32 x2) (r3 : R32 x3) (r5 : R32 x5) (r6 : R32 x6) (hk : k ≤ mc) (hn : n ≤ ms) (C : OkB (wC g ad sk) X cX1_build RX1 8 5 mc ms) (Y : OkR (wC g ad sk) X (some .int) mc ms PQ PX) (H : (((x6 ≠ 102) → E (wC g ad sk) X k n M 83 [(0, .ref (ad 6)), (1, .ref (ad 35)), (2, vI x2), (3, vI x3), (5, vI x5), (6, vI x6)] [vI 0]) ∧ ((x6 = 102) → (((x3 ≤ 0) → E (wC g ad sk) X k n M 83 [(0, .ref (ad 6)), (1, .ref (ad 35)), (2, vI x2), (3, vI x3), (5, vI x5), (6, vI x6)] [vI 0]) ∧ ((0 < x3) → E (wC g ad sk) X k n M 83 [(0, .ref (ad 6)), (1, .ref (ad 35)), (2, vI x2), (3, vI x3), (5, vI x5), (6, vI x6)] [vI 1]))))) : E (wC g ad sk) X k n M 67 [(0, .ref (ad 6)), (1, .ref (ad 35)), (2, vI x2), (3, vI x3), (5, vI x5), (6, vI x6)] [] := by
  refine e_wf (fun hw0 => ?_)
  refine e_iload C 5 dX1_build_67 rfl ?_
  refine e_bipush C dX1_build_69 (by decide) ?_
  refine e_icmp_ne C 82 r6 (by decide) dX1_build_71 (by decide) (fun c9 => ?_) (fun c9 => ?_)
  · replace H := H.1 c9
    refine e_iconst C dX1_build_82 ?_
    exact e_sub [0, 1, 2, 3, 4, 5] rfl H
  · replace H := H.2 c9
    refine e_iload_n C 3 dX1_build_74 rfl ?_
    refine e_if_le C 82 r3 dX1_build_75 (by decide) (fun c9 => ?_) (fun c9 => ?_)
    · replace H := H.1 c9
      refine e_iconst C dX1_build_82 ?_
      exact e_sub [0, 1, 2, 3, 4, 5] rfl H
    · replace H := H.2 c9
      refine e_iconst C dX1_build_78 ?_
      refine e_goto C 83 dX1_build_79 (by decide) ?_
      exact e_sub [0, 1, 2, 3, 4, 5] rfl H
set_option maxRecDepth 4000 in
theorem B_X1_build_83 {g : Gs} {ad : Nat → Nat} {sk : (Nat → Nat) × (Nat → Nat)} {X : Cx} {mc ms k n : Nat} {PQ : Option Value → Mem → Prop} {PX : String → Mem → Prop} {M : Mem} {x2 x3 x5 x6 t0 : Int} (r2 : R32 x2) (r3 : R32 x3) (r5 : R32 x5) (r6 : R32 x6) (q0 : R32 t0) (hk : k ≤ mc) (hn : n ≤ ms) (C : OkB (wC g ad sk) X cX1_build RX1 8 5 mc ms) (Y : OkR (wC g ad sk) X (some .int) mc ms PQ PX) (H : (((t0 = 0) → E (wC g ad sk) X k n M 96 [(0, .ref (ad 6)), (1, .ref (ad 35)), (2, vI x2), (5, vI x5), (6, vI x6), (7, vI t0)] [vI 0, vI x3]) ∧ ((t0 ≠ 0) → E (wC g ad sk) X k n M 96 [(0, .ref (ad 6)), (1, .ref (ad 35)), (2, vI x2), (5, vI x5), (6, vI x6), (7, vI t0)] [vI 1, vI x3]))) : E (wC g ad sk) X k n M 83 [(0, .ref (ad 6)), (1, .ref (ad 35)), (2, vI x2), (3, vI x3), (5, vI x5), (6, vI x6)] [vI t0] := by
  refine e_wf (fun hw0 => ?_)
  refine e_istore C dX1_build_83 (by decide) rfl ?_
  refine e_iload_n C 4 dX1_build_85 rfl ?_
  refine e_iload C 0 dX1_build_86 rfl ?_
  refine e_if_eq C 95 q0 dX1_build_88 (by decide) (fun c9 => ?_) (fun c9 => ?_)
  · replace H := H.1 c9
    refine e_iconst C dX1_build_95 ?_
    exact e_sub [1, 2, 3, 5, 6, 0] rfl H
  · replace H := H.2 c9
    refine e_iconst C dX1_build_91 ?_
    refine e_goto C 96 dX1_build_92 (by decide) ?_
    exact e_sub [1, 2, 3, 5, 6, 0] rfl H
set_option maxRecDepth 4000 in
theorem B_X1_build_96 {g : Gs} {ad : Nat → Nat} {sk : (Nat → Nat) × (Nat → Nat)} {X : Cx} {mc ms k n : Nat} {PQ : Option Value → Mem → Prop} {PX : String → Mem → Prop} {M : Mem} {x2 x5 x6 x7 t0 t1 : Int} (r2 : R32 x2) (r5 : R32 x5) (r6 : R32 x6) (r7 : R32 x7) (q0 : R32 t0) (q1 : R32 t1) (hk : k ≤ mc) (hn : n ≤ ms) (C : OkB (wC g ad sk) X cX1_build RX1 8 5 mc ms) (Y : OkR (wC g ad sk) X (some .int) mc ms PQ PX) (H : (R32 (t1 - t0)) ∧ (((x7 = 0) → ∃ Q4 : Int → Mem → Prop, SpI (wC g ad sk) yX5_makeNumber cX5_makeNumber 3 (some .int) 4 [.ref (ad 1), vI x6] M Q4 ∧ ∀ (z5 : Int) (M3 : Mem), Q4 z5 M3 → R32 z5 ∧ E (wC g ad sk) X k n M3 134 [(0, .ref (ad 6)), (1, .ref (ad 35)), (2, vI x2), (3, vI (t1 - t0)), (5, vI x5)] [vI z5]) ∧ ((x7 ≠ 0) → (0 ≤ t1 - t0 ∧ t1 - t0 < 80) ∧ ∃ Q11 : Int → Mem → Prop, SpI (wC g ad sk) yX5_compose cX5_compose 7 (some .int) 4 [.ref (ad 1), vL (M 32 (t1 - t0)), vL (M 33 (t1 - t0))] M Q11 ∧ ∀ (z12 : Int) (M10 : Mem), Q11 z12 M10 → R32 z12 ∧ E (wC g ad sk) X k n M10 134 [(0, .ref (ad 6)), (1, .ref (ad 35)), (2, vI x2), (3, vI (t1 - t0)), (5, vI x5)] [vI z12]))) : E (wC g ad sk) X k n M 96 [(0, .ref (ad 6)), (1, .ref (ad 35)), (2, vI x2), (5, vI x5), (6, vI x6), (7, vI x7)] [vI t0, vI t1] := by
  refine e_wf (fun hw0 => ?_)
  obtain ⟨o1, H⟩ := H
  refine e_isub C dX1_build_96 ?_
  refine e_istore_n C dX1_build_97 (by decide) rfl ?_
  refine e_iload C 6 dX1_build_98 rfl ?_
  refine e_if_eq C 125 r7 dX1_build_100 (by decide) (fun c9 => ?_) (fun c9 => ?_)
  · replace H := H.1 c9
    refine e_aload_n C 1 dX1_build_125 rfl ?_
    refine gX_1_26 C dX1_build_126 ?_
    refine e_iload C 5 dX1_build_129 rfl ?_
    obtain ⟨Q4, h2, H⟩ := H
    refine e_callVI (As := [vI x6]) (rest := []) (q0 := 1) (ci := 5) C Y mi_X5_makeNumber ms_X5_makeNumber mv_X5_makeNumber ml_X1_58 h2 (wlX_st rfl) rfl (by decide) (Nat.le_of_ble_eq_true rfl) hk hn dX1_build_131 rfl (fun z5 M3 hq9 => ?_)
    obtain ⟨o6, H⟩ := H z5 M3 hq9
    refine e_wf (fun hw7 => ?_)
    exact e_sub [1, 2, 3, 0, 4] rfl H
  · replace H := H.2 c9
    refine e_aload_n C 1 dX1_build_103 rfl ?_
    refine gX_1_26 C dX1_build_104 ?_
    refine e_aload_n C 1 dX1_build_107 rfl ?_
    refine gX_1_9 C dX1_build_108 ?_
    refine e_iload_n C 0 dX1_build_111 rfl ?_
    obtain ⟨o8, H⟩ := H
    refine aX_38 C o8 dX1_build_112 ?_
    refine e_aload_n C 1 dX1_build_113 rfl ?_
    refine gX_1_15 C dX1_build_114 ?_
    refine e_iload_n C 0 dX1_build_117 rfl ?_
    refine aX_39 C o8 dX1_build_118 ?_
    obtain ⟨Q11, h9, H⟩ := H
    refine e_callVI (As := [vL (M 32 (t1 - t0)), vL (M 33 (t1 - t0))]) (rest := []) (q0 := 1) (ci := 5) C Y mi_X5_compose ms_X5_compose mv_X5_compose ml_X1_66 h9 (wlX_st rfl) rfl (by decide) (Nat.le_of_ble_eq_true rfl) hk hn dX1_build_119 rfl (fun z12 M10 hq9 => ?_)
    obtain ⟨o13, H⟩ := H z12 M10 hq9
    refine e_wf (fun hw14 => ?_)
    refine e_goto C 134 dX1_build_122 (by decide) ?_
    exact e_sub [1, 2, 3, 0, 4] rfl H
set_option maxRecDepth 4000 in
theorem B_X1_build_134 {g : Gs} {ad : Nat → Nat} {sk : (Nat → Nat) × (Nat → Nat)} {X : Cx} {mc ms k n : Nat} {PQ : Option Value → Mem → Prop} {PX : String → Mem → Prop} {M : Mem} {x2 x3 x5 t0 : Int} (r2 : R32 x2) (r3 : R32 x3) (r5 : R32 x5) (q0 : R32 t0) (hk : k ≤ mc) (hn : n ≤ ms) (C : OkB (wC g ad sk) X cX1_build RX1 8 5 mc ms) (Y : OkR (wC g ad sk) X (some .int) mc ms PQ PX) (H : (((t0 ≠ (-1)) → (R32 (x3 - 1)) ∧ ∃ Q4 : Mem → Prop, SpV (wC g ad sk) yX1_giveTo cX1_giveTo 3 none 2 [.ref (ad 6), vI (x3 - 1), vI t0] M Q4 ∧ ∀ M3 : Mem, Q4 M3 → (R32 (x5 + 1)) ∧ E (wC g ad sk) X k n M3 8 [(0, .ref (ad 6)), (1, .ref (ad 35)), (2, vI x2), (3, vI x3), (4, vI t0), (5, vI (x5 + 1))] []) ∧ ((t0 = (-1)) → PQ (some (vI (-1))) M))) : E (wC g ad sk) X k n M 134 [(0, .ref (ad 6)), (1, .ref (ad 35)), (2, vI x2), (3, vI x3), (5, vI x5)] [vI t0] := by
  refine e_wf (fun hw0 => ?_)
  refine e_istore C dX1_build_134 (by decide) rfl ?_
  refine e_iload C 0 dX1_build_136 rfl ?_
  refine e_iconst C dX1_build_138 ?_
  refine e_icmp_ne C 144 q0 (by decide) dX1_build_139 (by decide) (fun c9 => ?_) (fun c9 => ?_)
  · replace H := H.1 c9
    refine e_aload_n C 1 dX1_build_144 rfl ?_
    refine e_iload_n C 4 dX1_build_145 rfl ?_
    refine e_iconst C dX1_build_146 ?_
    obtain ⟨o1, H⟩ := H
    refine e_isub C dX1_build_147 ?_
    refine e_iload C 0 dX1_build_148 rfl ?_
    obtain ⟨Q4, h2, H⟩ := H
    refine e_callVV (As := [vI (x3 - 1), vI t0]) (rest := []) (q0 := 6) (ci := 1) C Y mi_X1_giveTo ms_X1_giveTo mv_X1_giveTo ml_X1_87 h2 (wlX_st rfl) rfl (by decide) (Nat.le_of_ble_eq_true rfl) hk hn dX1_build_150 rfl (fun M3 hq9 => ?_)
    replace H := H M3 hq9
    refine e_wf (fun hw5 => ?_)
    obtain ⟨o6, H⟩ := H
    refine e_iinc C 5 dX1_build_153 rfl (by decide) rfl ?_
    refine e_goto C 8 dX1_build_156 (by decide) ?_
    exact e_sub [2, 3, 4, 5, 1, 0] rfl H
  · replace H := H.2 c9
    refine e_iconst C dX1_build_142 ?_
    exact e_iret C Y hk hn dX1_build_143 H
set_option maxRecDepth 4000 in
theorem B_X1_negate_0 {g : Gs} {ad : Nat → Nat} {sk : (Nat → Nat) × (Nat → Nat)} {X : Cx} {mc ms k n : Nat} {PQ : Option Value → Mem → Prop} {PX : String → Mem → Prop} {M : Mem} {x1 : Int} (r1 : R32 x1) (hk : k ≤ mc) (hn : n ≤ ms) (C : OkB (wC g ad sk) X cX1_negate RX1 6 6 mc ms) (Y : OkR (wC g ad sk) X (some .int) mc ms PQ PX) (H : (0 ≤ x1 ∧ x1 < 40) ∧ E (wC g ad sk) X k n M 16 [(0, .ref (ad 6)), (1, vI x1), (2, vL (M 52 x1)), (4, vI 0)] []) : E (wC g ad sk) X k n M 0 [(0, .ref (ad 6)), (1, vI x1)] [] := by
  refine e_wf (fun hw0 => ?_)
  refine e_aload_n C 0 dX1_negate_0 rfl ?_
  refine gX_1_26 C dX1_negate_1 ?_
  refine gX_1_30 C dX1_negate_4 ?_
  refine e_iload_n C 1 dX1_negate_7 rfl ?_
  obtain ⟨o1, H⟩ := H
  refine e_aaldG C o1 dX1_negate_8 ?_
  refine gX_1_36 C o1 dX1_negate_9 ?_
  refine e_lstore_n C dX1_negate_12 (by decide) rfl ?_
  refine e_iconst C dX1_negate_13 ?_
  refine e_istore C dX1_negate_14 (by decide) rfl ?_
  exact e_sub [2, 3, 1, 0] rfl H
set_option maxRecDepth 4000 in
theorem B_X1_negate_16 {g : Gs} {ad : Nat → Nat} {sk : (Nat → Nat) × (Nat → Nat)} {X : Cx} {mc ms k n : Nat} {PQ : Option Value → Mem → Prop} {PX : String → Mem → Prop} {M : Mem} {x1 x2 x4 : Int} (r1 : R32 x1) (r2 : R64 x2) (r4 : R32 x4) (hk : k ≤ mc) (hn : n ≤ ms) (C : OkB (wC g ad sk) X cX1_negate RX1 6 6 mc ms) (Y : OkR (wC g ad sk) X (some .int) mc ms PQ PX) (H : (((x1 < x4) → (0 ≤ x1 ∧ x1 < 40) ∧ PQ (some (vI (M 35 x1))) M) ∧ ((x4 ≤ x1) → (((¬(hasB x2 x4)) → (R32 (x4 + 1)) ∧ E (wC g ad sk) X k n M 16 [(0, .ref (ad 6)), (1, vI x1), (2, vL x2), (4, vI (x4 + 1))] []) ∧ ((hasB x2 x4) → (0 ≤ x4 ∧ x4 < 40) ∧ ∃ Q6 : Int → Mem → Prop, SpI (wC g ad sk) yX1_negateOne cX1_negateOne 2 (some .int) 5 [.ref (ad 6), .ref (ad (44 + 6 * (Int.toNat x4)))] M Q6 ∧ ∀ (z7 : Int) (M5 : Mem), Q6 z7 M5 → R32 z7 ∧ (((z7 ≠ (-1)) → (R32 (x4 + 1)) ∧ E (wC g ad sk) X k n (up M5 35 x4 z7) 16 [(0, .ref (ad 6)), (1, vI x1), (2, vL x2), (4, vI (x4 + 1))] []) ∧ ((z7 = (-1)) → PQ (some (vI (-1))) M5))))))) : E (wC g ad sk) X k n M 16 [(0, .ref (ad 6)), (1, vI x1), (2, vL x2), (4, vI x4)] [] := by
  refine e_wf (fun hw0 => ?_)
  refine e_iload C 3 dX1_negate_16 rfl ?_
  refine e_iload_n C 1 dX1_negate_18 rfl ?_
  refine e_icmp_gt C 70 r4 r1 dX1_negate_19 (by decide) (fun c9 => ?_) (fun c9 => ?_)
  · replace H := H.1 c9
    refine e_aload_n C 0 dX1_negate_70 rfl ?_
    refine gX_1_22 C dX1_negate_71 ?_
    refine e_iload_n C 1 dX1_negate_74 rfl ?_
    obtain ⟨o1, H⟩ := H
    refine aX_41 C o1 dX1_negate_75 ?_
    exact e_iret C Y hk hn dX1_negate_76 H
  · replace H := H.2 c9
    refine e_lload_n C 2 dX1_negate_22 rfl ?_
    refine e_iload C 3 dX1_negate_23 rfl ?_
    refine e_callSN (As := [vL x2, vI x4]) (rest := []) C Y mi_X9_contains ms_X9_contains (host := "HotGames") (by decide +kernel) (s_X9_contains r2 r4) (by decide) (Nat.le_of_ble_eq_true rfl) hk hn dX1_negate_25 rfl ?_
    refine e_if_eq C 64 (b2i_r _) dX1_negate_28 (by decide) (fun c9 => ?_) (fun c9 => ?_)
    · replace H := H.1 (b2i_0.mp c9)
      obtain ⟨o2, H⟩ := H
      refine e_iinc C 3 dX1_negate_64 rfl (by decide) rfl ?_
      refine e_goto C 16 dX1_negate_67 (by decide) ?_
      exact e_sub [1, 2, 3, 0] rfl H
    · replace H := H.2 (b2i_n0.mp c9)
      refine e_aload_n C 0 dX1_negate_31 rfl ?_
      refine e_aload_n C 0 dX1_negate_32 rfl ?_
      refine gX_1_26 C dX1_negate_33 ?_
      refine gX_1_30 C dX1_negate_36 ?_
      refine e_iload C 3 dX1_negate_39 rfl ?_
      obtain ⟨o3, H⟩ := H
      refine e_aaldG C o3 dX1_negate_41 ?_
      obtain ⟨Q6, h4, H⟩ := H
      refine e_callVI (As := [.ref (ad (44 + 6 * (Int.toNat x4)))]) (rest := []) (q0 := 6) (ci := 1) C Y mi_X1_negateOne ms_X1_negateOne mv_X1_negateOne ml_X1_46 h4 (wlX_st rfl) rfl (by decide) (Nat.le_of_ble_eq_true rfl) hk hn dX1_negate_42 rfl (fun z7 M5 hq9 => ?_)
      obtain ⟨o8, H⟩ := H z7 M5 hq9
      refine e_wf (fun hw9 => ?_)
      refine e_istore C dX1_negate_45 (by decide) rfl ?_
      refine e_iload C 0 dX1_negate_47 rfl ?_
      refine e_iconst C dX1_negate_49 ?_
      refine e_icmp_ne C 55 o8 (by decide) dX1_negate_50 (by decide) (fun c9 => ?_) (fun c9 => ?_)
      · replace H := H.1 c9
        refine e_aload_n C 1 dX1_negate_55 rfl ?_
        refine gX_1_22 C dX1_negate_56 ?_
        refine e_iload C 4 dX1_negate_59 rfl ?_
        refine e_iload C 0 dX1_negate_61 rfl ?_
        refine sX_41 C o3 o8 dX1_negate_63 ?_
        refine e_wf (fun hw10 => ?_)
        obtain ⟨o11, H⟩ := H
        refine e_iinc C 4 dX1_negate_64 rfl (by decide) rfl ?_
        refine e_goto C 16 dX1_negate_67 (by decide) ?_
        exact e_sub [2, 3, 4, 0] rfl H
      · replace H := H.2 c9
        refine e_iconst C dX1_negate_53 ?_
        exact e_iret C Y hk hn dX1_negate_54 H
set_option maxRecDepth 4000 in
theorem B_X8_takeGame_0 {g : Gs} {ad : Nat → Nat} {sk : (Nat → Nat) × (Nat → Nat)} {X : Cx} {mc ms k n : Nat} {PQ : Option Value → Mem → Prop} {PX : String → Mem → Prop} {M : Mem}  (hk : k ≤ mc) (hn : n ≤ ms) (C : OkB (wC g ad sk) X cX8_takeGame RX8 1 8 mc ms) (Y : OkR (wC g ad sk) X none mc ms PQ PX) (H : ((((M 28 0) ≠ 2) → ((((M 28 0) ≠ 43) → ((((M 28 0) ≠ 45) → ((((M 28 0) ≠ 3) → ((((M 28 0) ≠ 123) → ((((M 28 0) ≠ 124) → E (wC g ad sk) X k n M 125 [(0, .ref (ad 5))] []) ∧ (((M 28 0) = 124) → ((((M 27 0) ≠ 1) → E (wC g ad sk) X k n M 125 [(0, .ref (ad 5))] []) ∧ (((M 27 0) = 1) → ∃ Q3 : Mem → Prop, SpV (wC g ad sk) yX8_takeBar cX8_takeBar 1 none 3 [.ref (ad 5)] M Q3 ∧ ∀ M2 : Mem, Q3 M2 → PQ none M2))))) ∧ (((M 28 0) = 123) → ∃ Q7 : Mem → Prop, SpV (wC g ad sk) yX8_takeOpen cX8_takeOpen 1 none 3 [.ref (ad 5)] M Q7 ∧ ∀ M6 : Mem, Q7 M6 → PQ none M6))) ∧ (((M 28 0) = 3) → ∃ Q11 : Int → Mem → Prop, SpI (wC g ad sk) yX8_takePositive cX8_takePositive 4 (some .int) 3 [.ref (ad 5)] M Q11 ∧ ∀ (z12 : Int) (M10 : Mem), Q11 z12 M10 → R32 z12 ∧ ∃ Q17 : Mem → Prop, SpV (wC g ad sk) yX8_note cX8_note 2 none 1 [.ref (ad 5), vI z12] M10 Q17 ∧ ∀ M16 : Mem, Q17 M16 → PQ none (up M16 27 0 3)))) ∧ (((M 28 0) = 45) → ∃ Q22 : Mem → Prop, SpV (wC g ad sk) yX8_advance cX8_advance 1 none 2 [.ref (ad 5)] M Q22 ∧ ∀ M21 : Mem, Q22 M21 → ∃ Q26 : Int → Mem → Prop, SpI (wC g ad sk) yX8_takePositive cX8_takePositive 4 (some .int) 3 [.ref (ad 5)] M21 Q26 ∧ ∀ (z27 : Int) (M25 : Mem), Q26 z27 M25 → R32 z27 ∧ (R32 (-z27)) ∧ ∃ Q33 : Mem → Prop, SpV (wC g ad sk) yX8_note cX8_note 2 none 1 [.ref (ad 5), vI (-z27)] M25 Q33 ∧ ∀ M32 : Mem, Q33 M32 → PQ none (up M32 27 0 3)))) ∧ (((M 28 0) = 43) → ∃ Q38 : Mem → Prop, SpV (wC g ad sk) yX8_takePlusMinus cX8_takePlusMinus 2 none 4 [.ref (ad 5)] M Q38 ∧ ∀ M37 : Mem, Q38 M37 → PQ none M37))) ∧ (((M 28 0) = 2) → ∃ Q42 : Mem → Prop, SpV (wC g ad sk) yX8_takeName cX8_takeName 1 none 7 [.ref (ad 5)] M Q42 ∧ ∀ M41 : Mem, Q42 M41 → PQ none M41))) : E (wC g ad sk) X k n M 0 [(0, .ref (ad 5))] [] := by
  refine e_wf (fun hw0 => ?_)
  refine e_aload_n C 0 dX8_takeGame_0 rfl ?_
  refine gX_8_58 C dX8_takeGame_1 ?_
  refine e_iconst C dX8_takeGame_4 ?_
  refine e_icmp_ne C 15 (hw0.2.1 28 _ rfl) (by decide) dX8_takeGame_5 (by decide) (fun c9 => ?_) (fun c9 => ?_)
  · replace H := H.1 c9
    refine e_aload_n C 0 dX8_takeGame_15 rfl ?_
    refine gX_8_58 C dX8_takeGame_16 ?_
    refine e_bipush C dX8_takeGame_19 (by decide) ?_
    refine e_icmp_ne C 31 (hw0.2.1 28 _ rfl) (by decide) dX8_takeGame_21 (by decide) (fun c9 => ?_) (fun c9 => ?_)
    · replace H := H.1 c9
      refine e_aload_n C 0 dX8_takeGame_31 rfl ?_
      refine gX_8_58 C dX8_takeGame_32 ?_
      refine e_bipush C dX8_takeGame_35 (by decide) ?_
      refine e_icmp_ne C 61 (hw0.2.1 28 _ rfl) (by decide) dX8_takeGame_37 (by decide) (fun c9 => ?_) (fun c9 => ?_)
      · replace H := H.1 c9
        refine e_aload_n C 0 dX8_takeGame_61 rfl ?_
        refine gX_8_58 C dX8_takeGame_62 ?_
        refine e_iconst C dX8_takeGame_65 ?_
        refine e_icmp_ne C 85 (hw0.2.1 28 _ rfl) (by decide) dX8_takeGame_66 (by decide) (fun c9 => ?_) (fun c9 => ?_)
        · replace H := H.1 c9
          refine e_aload_n C 0 dX8_takeGame_85 rfl ?_
          refine gX_8_58 C dX8_takeGame_86 ?_
          refine e_bipush C dX8_takeGame_89 (by decide) ?_
          refine e_icmp_ne C 101 (hw0.2.1 28 _ rfl) (by decide) dX8_takeGame_91 (by decide) (fun c9 => ?_) (fun c9 => ?_)
          · replace H := H.1 c9
            refine e_aload_n C 0 dX8_takeGame_101 rfl ?_
            refine gX_8_58 C dX8_takeGame_102 ?_
            refine e_bipush C dX8_takeGame_105 (by decide) ?_
            refine e_icmp_ne C 125 (hw0.2.1 28 _ rfl) (by decide) dX8_takeGame_107 (by decide) (fun c9 => ?_) (fun c9 => ?_)
            · replace H := H.1 c9
              exact e_sub [0] rfl H
            · replace H := H.2 c9
              refine e_aload_n C 0 dX8_takeGame_110 rfl ?_
              refine gX_8_39 C dX8_takeGame_111 ?_
              refine e_iconst C dX8_takeGame_114 ?_
              refine e_icmp_ne C 125 (hw0.2.1 27 _ rfl) (by decide) dX8_takeGame_115 (by decide) (fun c9 => ?_) (fun c9 => ?_)
              · replace H := H.1 c9
                exact e_sub [0] rfl H
              · replace H := H.2 c9
                refine e_aload_n C 0 dX8_takeGame_118 rfl ?_
                obtain ⟨Q3, h1, H⟩ := H
                refine e_callVV (As := []) (rest := []) (q0 := 5) (ci := 8) C Y mi_X8_takeBar ms_X8_takeBar mv_X8_takeBar ml_X8_78 h1 (wlX_st rfl) rfl (by decide) (Nat.le_of_ble_eq_true rfl) hk hn dX8_takeGame_119 rfl (fun M2 hq9 => ?_)
                replace H := H M2 hq9
                refine e_wf (fun hw4 => ?_)
                refine e_goto C 157 dX8_takeGame_122 (by decide) ?_
                exact e_vret C Y hk hn dX8_takeGame_157 H
          · replace H := H.2 c9
            refine e_aload_n C 0 dX8_takeGame_94 rfl ?_
            obtain ⟨Q7, h5, H⟩ := H
            refine e_callVV (As := []) (rest := []) (q0 := 5) (ci := 8) C Y mi_X8_takeOpen ms_X8_takeOpen mv_X8_takeOpen ml_X8_75 h5 (wlX_st rfl) rfl (by decide) (Nat.le_of_ble_eq_true rfl) hk hn dX8_takeGame_95 rfl (fun M6 hq9 => ?_)
            replace H := H M6 hq9
            refine e_wf (fun hw8 => ?_)
            refine e_goto C 157 dX8_takeGame_98 (by decide) ?_
            exact e_vret C Y hk hn dX8_takeGame_157 H
        · replace H := H.2 c9
          refine e_aload_n C 0 dX8_takeGame_69 rfl ?_
          refine e_aload_n C 0 dX8_takeGame_70 rfl ?_
          obtain ⟨Q11, h9, H⟩ := H
          refine e_callVI (As := []) (rest := [.ref (ad 5)]) (q0 := 5) (ci := 8) C Y mi_X8_takePositive ms_X8_takePositive mv_X8_takePositive ml_X8_67 h9 (wlX_st rfl) rfl (by decide) (Nat.le_of_ble_eq_true rfl) hk hn dX8_takeGame_71 rfl (fun z12 M10 hq9 => ?_)
          obtain ⟨o13, H⟩ := H z12 M10 hq9
          refine e_wf (fun hw14 => ?_)
          obtain ⟨Q17, h15, H⟩ := H
          refine e_callVV (As := [vI z12]) (rest := []) (q0 := 5) (ci := 8) C Y mi_X8_note ms_X8_note mv_X8_note ml_X8_71 h15 (wlX_st rfl) rfl (by decide) (Nat.le_of_ble_eq_true rfl) hk hn dX8_takeGame_74 rfl (fun M16 hq9 => ?_)
          replace H := H M16 hq9
          refine e_wf (fun hw18 => ?_)
          refine e_aload_n C 0 dX8_takeGame_77 rfl ?_
          refine e_iconst C dX8_takeGame_78 ?_
          refine pX_8_39 C (by decide) dX8_takeGame_79 ?_
          refine e_wf (fun hw19 => ?_)
          refine e_goto C 157 dX8_takeGame_82 (by decide) ?_
          exact e_vret C Y hk hn dX8_takeGame_157 H
      · replace H := H.2 c9
        refine e_aload_n C 0 dX8_takeGame_40 rfl ?_
        obtain ⟨Q22, h20, H⟩ := H
        refine e_callVV (As := []) (rest := []) (q0 := 5) (ci := 8) C Y mi_X8_advance ms_X8_advance mv_X8_advance ml_X8_42 h20 (wlX_st rfl) rfl (by decide) (Nat.le_of_ble_eq_true rfl) hk hn dX8_takeGame_41 rfl (fun M21 hq9 => ?_)
        replace H := H M21 hq9
        refine e_wf (fun hw23 => ?_)
        refine e_aload_n C 0 dX8_takeGame_44 rfl ?_
        refine e_aload_n C 0 dX8_takeGame_45 rfl ?_
        obtain ⟨Q26, h24, H⟩ := H
        refine e_callVI (As := []) (rest := [.ref (ad 5)]) (q0 := 5) (ci := 8) C Y mi_X8_takePositive ms_X8_takePositive mv_X8_takePositive ml_X8_67 h24 (wlX_st rfl) rfl (by decide) (Nat.le_of_ble_eq_true rfl) hk hn dX8_takeGame_46 rfl (fun z27 M25 hq9 => ?_)
        obtain ⟨o28, H⟩ := H z27 M25 hq9
        refine e_wf (fun hw29 => ?_)
        obtain ⟨o30, H⟩ := H
        refine e_ineg C dX8_takeGame_49 ?_
        obtain ⟨Q33, h31, H⟩ := H
        refine e_callVV (As := [vI (-z27)]) (rest := []) (q0 := 5) (ci := 8) C Y mi_X8_note ms_X8_note mv_X8_note ml_X8_71 h31 (wlX_st rfl) rfl (by decide) (Nat.le_of_ble_eq_true rfl) hk hn dX8_takeGame_50 rfl (fun M32 hq9 => ?_)
        replace H := H M32 hq9
        refine e_wf (fun hw34 => ?_)
        refine e_aload_n C 0 dX8_takeGame_53 rfl ?_
        refine e_iconst C dX8_takeGame_54 ?_
        refine pX_8_39 C (by decide) dX8_takeGame_55 ?_
        refine e_wf (fun hw35 => ?_)
        refine e_goto C 157 dX8_takeGame_58 (by decide) ?_
        exact e_vret C Y hk hn dX8_takeGame_157 H
    · replace H := H.2 c9
      refine e_aload_n C 0 dX8_takeGame_24 rfl ?_
      obtain ⟨Q38, h36, H⟩ := H
      refine e_callVV (As := []) (rest := []) (q0 := 5) (ci := 8) C Y mi_X8_takePlusMinus ms_X8_takePlusMinus mv_X8_takePlusMinus ml_X8_64 h36 (wlX_st rfl) rfl (by decide) (Nat.le_of_ble_eq_true rfl) hk hn dX8_takeGame_25 rfl (fun M37 hq9 => ?_)
      replace H := H M37 hq9
      refine e_wf (fun hw39 => ?_)
      refine e_goto C 157 dX8_takeGame_28 (by decide) ?_
      exact e_vret C Y hk hn dX8_takeGame_157 H
  · replace H := H.2 c9
    refine e_aload_n C 0 dX8_takeGame_8 rfl ?_
    obtain ⟨Q42, h40, H⟩ := H
    refine e_callVV (As := []) (rest := []) (q0 := 5) (ci := 8) C Y mi_X8_takeName ms_X8_takeName mv_X8_takeName ml_X8_61 h40 (wlX_st rfl) rfl (by decide) (Nat.le_of_ble_eq_true rfl) hk hn dX8_takeGame_9 rfl (fun M41 hq9 => ?_)
    replace H := H M41 hq9
    refine e_wf (fun hw43 => ?_)
    refine e_goto C 157 dX8_takeGame_12 (by decide) ?_
    exact e_vret C Y hk hn dX8_takeGame_157 H
set_option maxRecDepth 4000 in
theorem B_X8_takeGame_125 {g : Gs} {ad : Nat → Nat} {sk : (Nat → Nat) × (Nat → Nat)} {X : Cx} {mc ms k n : Nat} {PQ : Option Value → Mem → Prop} {PX : String → Mem → Prop} {M : Mem}  (hk : k ≤ mc) (hn : n ≤ ms) (C : OkB (wC g ad sk) X cX8_takeGame RX8 1 8 mc ms) (Y : OkR (wC g ad sk) X none mc ms PQ PX) (H : ((((M 28 0) ≠ 125) → PQ none (up M 31 0 (M 29 0))) ∧ (((M 28 0) = 125) → ((((M 27 0) ≠ 2) → PQ none (up M 31 0 (M 29 0))) ∧ (((M 27 0) = 2) → ∃ Q5 : Mem → Prop, SpV (wC g ad sk) yX8_takeClose cX8_takeClose 1 none 3 [.ref (ad 5)] M Q5 ∧ ∀ M4 : Mem, Q5 M4 → PQ none M4))))) : E (wC g ad sk) X k n M 125 [(0, .ref (ad 5))] [] := by
  refine e_wf (fun hw0 => ?_)
  refine e_aload_n C 0 dX8_takeGame_125 rfl ?_
  refine gX_8_58 C dX8_takeGame_126 ?_
  refine e_bipush C dX8_takeGame_129 (by decide) ?_
  refine e_icmp_ne C 149 (hw0.2.1 28 _ rfl) (by decide) dX8_takeGame_131 (by decide) (fun c9 => ?_) (fun c9 => ?_)
  · replace H := H.1 c9
    refine e_aload_n C 0 dX8_takeGame_149 rfl ?_
    refine e_aload_n C 0 dX8_takeGame_150 rfl ?_
    refine gX_8_51 C dX8_takeGame_151 ?_
    refine pX_8_36 C (hw0.2.1 29 _ rfl) dX8_takeGame_154 ?_
    refine e_wf (fun hw1 => ?_)
    exact e_vret C Y hk hn dX8_takeGame_157 H
  · replace H := H.2 c9
    refine e_aload_n C 0 dX8_takeGame_134 rfl ?_
    refine gX_8_39 C dX8_takeGame_135 ?_
    refine e_iconst C dX8_takeGame_138 ?_
    refine e_icmp_ne C 149 (hw0.2.1 27 _ rfl) (by decide) dX8_takeGame_139 (by decide) (fun c9 => ?_) (fun c9 => ?_)
    · replace H := H.1 c9
      refine e_aload_n C 0 dX8_takeGame_149 rfl ?_
      refine e_aload_n C 0 dX8_takeGame_150 rfl ?_
      refine gX_8_51 C dX8_takeGame_151 ?_
      refine pX_8_36 C (hw0.2.1 29 _ rfl) dX8_takeGame_154 ?_
      refine e_wf (fun hw2 => ?_)
      exact e_vret C Y hk hn dX8_takeGame_157 H
    · replace H := H.2 c9
      refine e_aload_n C 0 dX8_takeGame_142 rfl ?_
      obtain ⟨Q5, h3, H⟩ := H
      refine e_callVV (As := []) (rest := []) (q0 := 5) (ci := 8) C Y mi_X8_takeClose ms_X8_takeClose mv_X8_takeClose ml_X8_81 h3 (wlX_st rfl) rfl (by decide) (Nat.le_of_ble_eq_true rfl) hk hn dX8_takeGame_143 rfl (fun M4 hq9 => ?_)
      replace H := H M4 hq9
      refine e_wf (fun hw6 => ?_)
      refine e_goto C 157 dX8_takeGame_146 (by decide) ?_
      exact e_vret C Y hk hn dX8_takeGame_157 H
set_option maxRecDepth 4000 in
theorem B_X8_parse_0 {g : Gs} {ad : Nat → Nat} {sk : (Nat → Nat) × (Nat → Nat)} {X : Cx} {mc ms k n : Nat} {PQ : Option Value → Mem → Prop} {PX : String → Mem → Prop} {M : Mem}  (hk : k ≤ mc) (hn : n ≤ ms) (C : OkB (wC g ad sk) X cX8_parse RX8 2 9 mc ms) (Y : OkR (wC g ad sk) X (some .int) mc ms PQ PX) (H : ∃ Q8 : Mem → Prop, SpV (wC g ad sk) yX8_advance cX8_advance 1 none 2 [.ref (ad 5)] (up (up (up (up (up M 22 0 0) 26 0 0) 30 0 0) 31 0 (-1)) 27 0 0) Q8 ∧ ∀ M7 : Mem, Q8 M7 → E (wC g ad sk) X k n M7 31 [(0, .ref (ad 5)), (1, vI 0)] []) : E (wC g ad sk) X k n M 0 [(0, .ref (ad 5))] [] := by
  refine e_wf (fun hw0 => ?_)
  refine e_aload_n C 0 dX8_parse_0 rfl ?_
  refine e_iconst C dX8_parse_1 ?_
  refine pX_8_27 C (by decide) dX8_parse_2 ?_
  refine e_wf (fun hw1 => ?_)
  refine e_aload_n C 0 dX8_parse_5 rfl ?_
  refine e_iconst C dX8_parse_6 ?_
  refine pX_8_30 C (by decide) dX8_parse_7 ?_
  refine e_wf (fun hw2 => ?_)
  refine e_aload_n C 0 dX8_parse_10 rfl ?_
  refine e_iconst C dX8_parse_11 ?_
  refine pX_8_33 C (by decide) dX8_parse_12 ?_
  refine e_wf (fun hw3 => ?_)
  refine e_aload_n C 0 dX8_parse_15 rfl ?_
  refine e_iconst C dX8_parse_16 ?_
  refine pX_8_36 C (by decide) dX8_parse_17 ?_
  refine e_wf (fun hw4 => ?_)
  refine e_aload_n C 0 dX8_parse_20 rfl ?_
  refine e_iconst C dX8_parse_21 ?_
  refine pX_8_39 C (by decide) dX8_parse_22 ?_
  refine e_wf (fun hw5 => ?_)
  refine e_aload_n C 0 dX8_parse_25 rfl ?_
  obtain ⟨Q8, h6, H⟩ := H
  refine e_callVV (As := []) (rest := []) (q0 := 5) (ci := 8) C Y mi_X8_advance ms_X8_advance mv_X8_advance ml_X8_42 h6 (wlX_st rfl) rfl (by decide) (Nat.le_of_ble_eq_true rfl) hk hn dX8_parse_26 rfl (fun M7 hq9 => ?_)
  replace H := H M7 hq9
  refine e_wf (fun hw9 => ?_)
  refine e_iconst C dX8_parse_29 ?_
  refine e_istore_n C dX8_parse_30 (by decide) rfl ?_
  exact e_sub [1, 0] rfl H
set_option maxRecDepth 4000 in
theorem B_X8_parse_31 {g : Gs} {ad : Nat → Nat} {sk : (Nat → Nat) × (Nat → Nat)} {X : Cx} {mc ms k n : Nat} {PQ : Option Value → Mem → Prop} {PX : String → Mem → Prop} {M : Mem} {x1 : Int} (r1 : R32 x1) (hk : k ≤ mc) (hn : n ≤ ms) (C : OkB (wC g ad sk) X cX8_parse RX8 2 9 mc ms) (Y : OkR (wC g ad sk) X (some .int) mc ms PQ PX) (H : (((80 < x1) → PQ (some (vI (M 31 0))) M) ∧ ((x1 ≤ 80) → ((((M 31 0) ≠ (-1)) → PQ (some (vI (M 31 0))) M) ∧ (((M 31 0) = (-1)) → ((((M 27 0) = 4) → PQ (some (vI (M 31 0))) M) ∧ (((M 27 0) ≠ 4) → ((((M 27 0) ≠ 3) → ∃ Q3 : Mem → Prop, SpV (wC g ad sk) yX8_takeGame cX8_takeGame 1 none 8 [.ref (ad 5)] M Q3 ∧ ∀ M2 : Mem, Q3 M2 → (R32 (x1 + 1)) ∧ E (wC g ad sk) X k n M2 31 [(0, .ref (ad 5)), (1, vI (x1 + 1))] []) ∧ (((M 27 0) = 3) → ∃ Q8 : Mem → Prop, SpV (wC g ad sk) yX8_takeBehindGame cX8_takeBehindGame 1 none 4 [.ref (ad 5)] M Q8 ∧ ∀ M7 : Mem, Q8 M7 → (R32 (x1 + 1)) ∧ E (wC g ad sk) X k n M7 31 [(0, .ref (ad 5)), (1, vI (x1 + 1))] []))))))))) : E (wC g ad sk) X k n M 31 [(0, .ref (ad 5)), (1, vI x1)] [] := by
  refine e_wf (fun hw0 => ?_)
  refine e_iload_n C 1 dX8_parse_31 rfl ?_
  refine e_bipush C dX8_parse_32 (by decide) ?_
  refine e_icmp_gt C 78 r1 (by decide) dX8_parse_34 (by decide) (fun c9 => ?_) (fun c9 => ?_)
  · replace H := H.1 c9
    refine e_aload_n C 0 dX8_parse_78 rfl ?_
    refine gX_8_36 C dX8_parse_79 ?_
    exact e_iret C Y hk hn dX8_parse_82 H
  · replace H := H.2 c9
    refine e_aload_n C 0 dX8_parse_37 rfl ?_
    refine gX_8_36 C dX8_parse_38 ?_
    refine e_iconst C dX8_parse_41 ?_
    refine e_icmp_ne C 78 (hw0.2.1 31 _ rfl) (by decide) dX8_parse_42 (by decide) (fun c9 => ?_) (fun c9 => ?_)
    · replace H := H.1 c9
      refine e_aload_n C 0 dX8_parse_78 rfl ?_
      refine gX_8_36 C dX8_parse_79 ?_
      exact e_iret C Y hk hn dX8_parse_82 H
    · replace H := H.2 c9
      refine e_aload_n C 0 dX8_parse_45 rfl ?_
      refine gX_8_39 C dX8_parse_46 ?_
      refine e_iconst C dX8_parse_49 ?_
      refine e_icmp_eq C 78 (hw0.2.1 27 _ rfl) (by decide) dX8_parse_50 (by decide) (fun c9 => ?_) (fun c9 => ?_)
      · replace H := H.1 c9
        refine e_aload_n C 0 dX8_parse_78 rfl ?_
        refine gX_8_36 C dX8_parse_79 ?_
        exact e_iret C Y hk hn dX8_parse_82 H
      · replace H := H.2 c9
        refine e_aload_n C 0 dX8_parse_53 rfl ?_
        refine gX_8_39 C dX8_parse_54 ?_
        refine e_iconst C dX8_parse_57 ?_
        refine e_icmp_ne C 68 (hw0.2.1 27 _ rfl) (by decide) dX8_parse_58 (by decide) (fun c9 => ?_) (fun c9 => ?_)
        · replace H := H.1 c9
          refine e_aload_n C 0 dX8_parse_68 rfl ?_
          obtain ⟨Q3, h1, H⟩ := H
          refine e_callVV (As := []) (rest := []) (q0 := 5) (ci := 8) C Y mi_X8_takeGame ms_X8_takeGame mv_X8_takeGame ml_X8_48 h1 (wlX_st rfl) rfl (by decide) (Nat.le_of_ble_eq_true rfl) hk hn dX8_parse_69 rfl (fun M2 hq9 => ?_)
          replace H := H M2 hq9
          refine e_wf (fun hw4 => ?_)
          obtain ⟨o5, H⟩ := H
          refine e_iinc C 1 dX8_parse_72 rfl (by decide) rfl ?_
          refine e_goto C 31 dX8_parse_75 (by decide) ?_
          exact e_sub [1, 0] rfl H
        · replace H := H.2 c9
          refine e_aload_n C 0 dX8_parse_61 rfl ?_
          obtain ⟨Q8, h6, H⟩ := H
          refine e_callVV (As := []) (rest := []) (q0 := 5) (ci := 8) C Y mi_X8_takeBehindGame ms_X8_takeBehindGame mv_X8_takeBehindGame ml_X8_45 h6 (wlX_st rfl) rfl (by decide) (Nat.le_of_ble_eq_true rfl) hk hn dX8_parse_62 rfl (fun M7 hq9 => ?_)
          replace H := H M7 hq9
          refine e_wf (fun hw9 => ?_)
          refine e_goto C 72 dX8_parse_65 (by decide) ?_
          obtain ⟨o10, H⟩ := H
          refine e_iinc C 1 dX8_parse_72 rfl (by decide) rfl ?_
          refine e_goto C 31 dX8_parse_75 (by decide) ?_
          exact e_sub [1, 0] rfl H
