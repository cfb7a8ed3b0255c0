set_option maxRecDepth 4000 in
theorem B_X2_optionAt_0 {g : Gs} {ad : Nat → Nat} {sk : (Nat → Nat) × (Nat → Nat)} {X : Cx} {mc ms k n : Nat} {PQ : Option Value → Mem → Prop} {PX : String → Mem → Prop} {M : Mem} {x0 x1 x2 : Int} (r0 : 0 ≤ x0 ∧ x0 < 40) (r1 : R32 x1) (r2 : R32 x2) (hk : k ≤ mc) (hn : n ≤ ms) (C : OkB (wC g ad sk) X cX2_optionAt RX2 3 1 mc ms) (Y : OkR (wC g ad sk) X (some .int) mc ms PQ PX) (H : (((x2 < 0) → PQ (some (vI (-1))) M) ∧ ((0 ≤ x2) → (0 ≤ x1 ∧ x1 < 2) ∧ ((((M 41 (40 * x1 + x0)) ≤ x2) → PQ (some (vI (-1))) M) ∧ ((x2 < (M 41 (40 * x1 + x0))) → ((R32 (x1 * 4)) ∧ (R32 ((x1 * 4) + x2)) ∧ (0 ≤ (x1 * 4) + x2 ∧ (x1 * 4) + x2 < 8)) ∧ PQ (some (vI (M 42 (40 * ((x1 * 4) + x2) + x0)))) M))))) : E (wC g ad sk) X k n M 0 [(0, .ref (ad (44 + 6 * (Int.toNat x0)))), (1, vI x1), (2, vI x2)] [] := by
  refine e_wf (fun hw0 => ?_)
  refine e_iload_n C 2 dX2_optionAt_0 rfl ?_
  refine e_if_lt C 27 r2 dX2_optionAt_1 (by decide) (fun c9 => ?_) (fun c9 => ?_)
  · replace H := H.1 c9
    refine e_iconst C dX2_optionAt_27 ?_
    exact e_iret C Y hk hn dX2_optionAt_28 H
  · replace H := H.2 c9
    refine e_iload_n C 2 dX2_optionAt_4 rfl ?_
    refine e_aload_n C 0 dX2_optionAt_5 rfl ?_
    refine gX_2_15 C r0 dX2_optionAt_6 ?_
    refine e_iload_n C 1 dX2_optionAt_9 rfl ?_
    obtain ⟨o1, H⟩ := H
    refine aG_2 C r0 o1 dX2_optionAt_10 ?_
    refine e_icmp_ge C 27 r2 (hw0.2.1 41 _ rfl) dX2_optionAt_11 (by decide) (fun c9 => ?_) (fun c9 => ?_)
    · replace H := H.1 c9
      refine e_iconst C dX2_optionAt_27 ?_
      exact e_iret C Y hk hn dX2_optionAt_28 H
    · replace H := H.2 c9
      refine e_aload_n C 0 dX2_optionAt_14 rfl ?_
      refine gX_2_19 C r0 dX2_optionAt_15 ?_
      refine e_iload_n C 1 dX2_optionAt_18 rfl ?_
      refine e_iconst C dX2_optionAt_19 ?_
      obtain ⟨⟨o2, o3, o4⟩, H⟩ := H
      refine e_imul C dX2_optionAt_20 ?_
      refine e_iload_n C 2 dX2_optionAt_21 rfl ?_
      refine e_iadd C dX2_optionAt_22 ?_
      refine aG_3 C r0 o4 dX2_optionAt_23 ?_
      refine e_goto C 28 dX2_optionAt_24 (by decide) ?_
      exact e_iret C Y hk hn dX2_optionAt_28 H
set_option maxRecDepth 4000 in
theorem B_X2_isAtLeastNumber_0 {g : Gs} {ad : Nat → Nat} {sk : (Nat → Nat) × (Nat → Nat)} {X : Cx} {mc ms k n : Nat} {PQ : Option Value → Mem → Prop} {PX : String → Mem → Prop} {M : Mem} {x0 x1 : Int} (r0 : 0 ≤ x0 ∧ x0 < 40) (r1 : R32 x1) (hk : k ≤ mc) (hn : n ≤ ms) (C : OkB (wC g ad sk) X cX2_isAtLeastNumber RX2 2 1 mc ms) (Y : OkR (wC g ad sk) X (some .boolean) mc ms PQ PX) (H : (((x1 < (M 43 (40 * 1 + x0))) → PQ (some (vI 1)) M) ∧ (((M 43 (40 * 1 + x0)) ≤ x1) → (((x1 ≠ (M 43 (40 * 1 + x0))) → PQ (some (vI 0)) M) ∧ ((x1 = (M 43 (40 * 1 + x0))) → ((((M 44 (40 * 1 + x0)) = 0) → PQ (some (vI 0)) M) ∧ (((M 44 (40 * 1 + x0)) ≠ 0) → PQ (some (vI 1)) M))))))) : E (wC g ad sk) X k n M 0 [(0, .ref (ad (44 + 6 * (Int.toNat x0)))), (1, vI x1)] [] := by
  refine e_wf (fun hw0 => ?_)
  refine e_iload_n C 1 dX2_isAtLeastNumber_0 rfl ?_
  refine e_aload_n C 0 dX2_isAtLeastNumber_1 rfl ?_
  refine gX_2_22 C r0 dX2_isAtLeastNumber_2 ?_
  refine e_iconst C dX2_isAtLeastNumber_5 ?_
  refine aG_4 C r0 (by decide) dX2_isAtLeastNumber_6 ?_
  refine e_icmp_lt C 29 r1 (hw0.2.1 43 _ rfl) dX2_isAtLeastNumber_7 (by decide) (fun c9 => ?_) (fun c9 => ?_)
  · replace H := H.1 c9
    refine e_iconst C dX2_isAtLeastNumber_29 ?_
    refine e_goto C 34 dX2_isAtLeastNumber_30 (by decide) ?_
    exact e_zret C Y hk hn (by decide) dX2_isAtLeastNumber_34 H
  · replace H := H.2 c9
    refine e_iload_n C 1 dX2_isAtLeastNumber_10 rfl ?_
    refine e_aload_n C 0 dX2_isAtLeastNumber_11 rfl ?_
    refine gX_2_22 C r0 dX2_isAtLeastNumber_12 ?_
    refine e_iconst C dX2_isAtLeastNumber_15 ?_
    refine aG_4 C r0 (by decide) dX2_isAtLeastNumber_16 ?_
    refine e_icmp_ne C 33 r1 (hw0.2.1 43 _ rfl) dX2_isAtLeastNumber_17 (by decide) (fun c9 => ?_) (fun c9 => ?_)
    · replace H := H.1 c9
      refine e_iconst C dX2_isAtLeastNumber_33 ?_
      exact e_zret C Y hk hn (by decide) dX2_isAtLeastNumber_34 H
    · replace H := H.2 c9
      refine e_aload_n C 0 dX2_isAtLeastNumber_20 rfl ?_
      refine gX_2_25 C r0 dX2_isAtLeastNumber_21 ?_
      refine e_iconst C dX2_isAtLeastNumber_24 ?_
      refine aG_5 C r0 (by decide) dX2_isAtLeastNumber_25 ?_
      refine e_if_eq C 33 (hw0.2.1 44 _ rfl) dX2_isAtLeastNumber_26 (by decide) (fun c9 => ?_) (fun c9 => ?_)
      · replace H := H.1 c9
        refine e_iconst C dX2_isAtLeastNumber_33 ?_
        exact e_zret C Y hk hn (by decide) dX2_isAtLeastNumber_34 H
      · replace H := H.2 c9
        refine e_iconst C dX2_isAtLeastNumber_29 ?_
        refine e_goto C 34 dX2_isAtLeastNumber_30 (by decide) ?_
        exact e_zret C Y hk hn (by decide) dX2_isAtLeastNumber_34 H
set_option maxRecDepth 4000 in
theorem B_X2_isAtMostNumber_0 {g : Gs} {ad : Nat → Nat} {sk : (Nat → Nat) × (Nat → Nat)} {X : Cx} {mc ms k n : Nat} {PQ : Option Value → Mem → Prop} {PX : String → Mem → Prop} {M : Mem} {x0 x1 : Int} (r0 : 0 ≤ x0 ∧ x0 < 40) (r1 : R32 x1) (hk : k ≤ mc) (hn : n ≤ ms) (C : OkB (wC g ad sk) X cX2_isAtMostNumber RX2 2 1 mc ms) (Y : OkR (wC g ad sk) X (some .boolean) mc ms PQ PX) (H : ((((M 43 (40 * 0 + x0)) < x1) → PQ (some (vI 1)) M) ∧ ((x1 ≤ (M 43 (40 * 0 + x0))) → (((x1 ≠ (M 43 (40 * 0 + x0))) → PQ (some (vI 0)) M) ∧ ((x1 = (M 43 (40 * 0 + x0))) → ((((M 44 (40 * 0 + x0)) = 0) → PQ (some (vI 0)) M) ∧ (((M 44 (40 * 0 + x0)) ≠ 0) → PQ (some (vI 1)) M))))))) : E (wC g ad sk) X k n M 0 [(0, .ref (ad (44 + 6 * (Int.toNat x0)))), (1, vI x1)] [] := by
  refine e_wf (fun hw0 => ?_)
  refine e_iload_n C 1 dX2_isAtMostNumber_0 rfl ?_
  refine e_aload_n C 0 dX2_isAtMostNumber_1 rfl ?_
  refine gX_2_22 C r0 dX2_isAtMostNumber_2 ?_
  refine e_iconst C dX2_isAtMostNumber_5 ?_
  refine aG_4 C r0 (by decide) dX2_isAtMostNumber_6 ?_
  refine e_icmp_gt C 29 r1 (hw0.2.1 43 _ rfl) dX2_isAtMostNumber_7 (by decide) (fun c9 => ?_) (fun c9 => ?_)
  · replace H := H.1 c9
    refine e_iconst C dX2_isAtMostNumber_29 ?_
    refine e_goto C 34 dX2_isAtMostNumber_30 (by decide) ?_
    exact e_zret C Y hk hn (by decide) dX2_isAtMostNumber_34 H
  · replace H := H.2 c9
    refine e_iload_n C 1 dX2_isAtMostNumber_10 rfl ?_
    refine e_aload_n C 0 dX2_isAtMostNumber_11 rfl ?_
    refine gX_2_22 C r0 dX2_isAtMostNumber_12 ?_
    refine e_iconst C dX2_isAtMostNumber_15 ?_
    refine aG_4 C r0 (by decide) dX2_isAtMostNumber_16 ?_
    refine e_icmp_ne C 33 r1 (hw0.2.1 43 _ rfl) dX2_isAtMostNumber_17 (by decide) (fun c9 => ?_) (fun c9 => ?_)
    · replace H := H.1 c9
      refine e_iconst C dX2_isAtMostNumber_33 ?_
      exact e_zret C Y hk hn (by decide) dX2_isAtMostNumber_34 H
    · replace H := H.2 c9
      refine e_aload_n C 0 dX2_isAtMostNumber_20 rfl ?_
      refine gX_2_25 C r0 dX2_isAtMostNumber_21 ?_
      refine e_iconst C dX2_isAtMostNumber_24 ?_
      refine aG_5 C r0 (by decide) dX2_isAtMostNumber_25 ?_
      refine e_if_eq C 33 (hw0.2.1 44 _ rfl) dX2_isAtMostNumber_26 (by decide) (fun c9 => ?_) (fun c9 => ?_)
      · replace H := H.1 c9
        refine e_iconst C dX2_isAtMostNumber_33 ?_
        exact e_zret C Y hk hn (by decide) dX2_isAtMostNumber_34 H
      · replace H := H.2 c9
        refine e_iconst C dX2_isAtMostNumber_29 ?_
        refine e_goto C 34 dX2_isAtMostNumber_30 (by decide) ?_
        exact e_zret C Y hk hn (by decide) dX2_isAtMostNumber_34 H
set_option maxRecDepth 4000 in
theorem B_X5_isAtLeast_0 {g : Gs} {ad : Nat → Nat} {sk : (Nat → Nat) × (Nat → Nat)} {X : Cx} {mc ms k n : Nat} {PQ : Option Value → Mem → Prop} {PX : String → Mem → Prop} {M : Mem} {x1 x2 : Int} (r1 : R32 x1) (r2 : R32 x2) (hk : k ≤ mc) (hn : n ≤ ms) (C : OkB (wC g ad sk) X cX5_isAtLeast RX5 3 1 mc ms) (Y : OkR (wC g ad sk) X (some .boolean) mc ms PQ PX) (H : (0 ≤ x1 ∧ x1 < 40) ∧ ((((cmpL (landL (lushrL (M 5 x1) x2) 1) 0) = 0) → PQ (some (vI 0)) M) ∧ (((cmpL (landL (lushrL (M 5 x1) x2) 1) 0) ≠ 0) → PQ (some (vI 1)) M))) : E (wC g ad sk) X k n M 0 [(0, .ref (ad 1)), (1, vI x1), (2, vI x2)] [] := by
  refine e_wf (fun hw0 => ?_)
  refine e_aload_n C 0 dX5_isAtLeast_0 rfl ?_
  refine gX_5_21 C dX5_isAtLeast_1 ?_
  refine e_iload_n C 1 dX5_isAtLeast_4 rfl ?_
  obtain ⟨o1, H⟩ := H
  refine aX_13 C o1 dX5_isAtLeast_5 ?_
  refine e_iload_n C 2 dX5_isAtLeast_6 rfl ?_
  refine e_lushr C dX5_isAtLeast_7 ?_
  refine e_lconst1 C dX5_isAtLeast_8 ?_
  refine e_land C dX5_isAtLeast_9 ?_
  refine e_lconst0 C dX5_isAtLeast_10 ?_
  refine e_lcmp C (r64_toInt _) (by decide) dX5_isAtLeast_11 ?_
  refine e_if_eq C 19 (cmpL_r _ _) dX5_isAtLeast_12 (by decide) (fun c9 => ?_) (fun c9 => ?_)
  · replace H := H.1 c9
    refine e_iconst C dX5_isAtLeast_19 ?_
    exact e_zret C Y hk hn (by decide) dX5_isAtLeast_20 H
  · replace H := H.2 c9
    refine e_iconst C dX5_isAtLeast_15 ?_
    refine e_goto C 20 dX5_isAtLeast_16 (by decide) ?_
    exact e_zret C Y hk hn (by decide) dX5_isAtLeast_20 H
set_option maxRecDepth 4000 in
theorem B_X5_sweptWall_0 {g : Gs} {ad : Nat → Nat} {sk : (Nat → Nat) × (Nat → Nat)} {X : Cx} {mc ms k n : Nat} {PQ : Option Value → Mem → Prop} {PX : String → Mem → Prop} {M : Mem} {x1 x2 : Int} (r1 : R32 x1) (r2 : R32 x2) (hk : k ≤ mc) (hn : n ≤ ms) (C : OkB (wC g ad sk) X cX5_sweptWall RX5 3 1 mc ms) (Y : OkR (wC g ad sk) X (some .int) mc ms PQ PX) (H : ((0 ≤ x2 ∧ x2 < 2) ∧ (0 ≤ x1 ∧ x1 < 40)) ∧ PQ (some (vI (M 6 (2 * x1 + x2)))) M) : E (wC g ad sk) X k n M 0 [(0, .ref (ad 1)), (1, vI x1), (2, vI x2)] [] := by
  refine e_wf (fun hw0 => ?_)
  refine e_aload_n C 0 dX5_sweptWall_0 rfl ?_
  refine gX_5_27 C dX5_sweptWall_1 ?_
  refine e_iload_n C 2 dX5_sweptWall_4 rfl ?_
  obtain ⟨⟨o1, o2⟩, H⟩ := H
  refine e_aaldW C o1 dX5_sweptWall_5 ?_
  refine e_iload_n C 1 dX5_sweptWall_6 rfl ?_
  refine aR_W C o1 o2 dX5_sweptWall_7 ?_
  exact e_iret C Y hk hn dX5_sweptWall_8 H
set_option maxRecDepth 4000 in
theorem B_X9_bit_0 {g : Gs} {ad : Nat → Nat} {sk : (Nat → Nat) × (Nat → Nat)} {X : Cx} {mc ms k n : Nat} {PQ : Option Value → Mem → Prop} {PX : String → Mem → Prop} {M : Mem} {x0 : Int} (r0 : R32 x0) (hk : k ≤ mc) (hn : n ≤ ms) (C : OkB (wC g ad sk) X cX9_bit RX9 1 1 mc ms) (Y : OkR (wC g ad sk) X (some .long) mc ms PQ PX) (H : PQ (some (vL (lshlL 1 x0))) M) : E (wC g ad sk) X k n M 0 [(0, vI x0)] [] := by
  refine e_wf (fun hw0 => ?_)
  refine e_lconst1 C dX9_bit_0 ?_
  refine e_iload_n C 0 dX9_bit_1 rfl ?_
  refine e_lshl C dX9_bit_2 ?_
  exact e_lret C Y hk hn dX9_bit_3 H
set_option maxRecDepth 4000 in
theorem B_X9_contains_0 {g : Gs} {ad : Nat → Nat} {sk : (Nat → Nat) × (Nat → Nat)} {X : Cx} {mc ms k n : Nat} {PQ : Option Value → Mem → Prop} {PX : String → Mem → Prop} {M : Mem} {x0 x2 : Int} (r0 : R64 x0) (r2 : R32 x2) (hk : k ≤ mc) (hn : n ≤ ms) (C : OkB (wC g ad sk) X cX9_contains RX9 3 1 mc ms) (Y : OkR (wC g ad sk) X (some .boolean) mc ms PQ PX) (H : ((((cmpL (landL (lushrL x0 x2) 1) 0) = 0) → PQ (some (vI 0)) M) ∧ (((cmpL (landL (lushrL x0 x2) 1) 0) ≠ 0) → PQ (some (vI 1)) M))) : E (wC g ad sk) X k n M 0 [(0, vL x0), (2, vI x2)] [] := by
  refine e_wf (fun hw0 => ?_)
  refine e_lload_n C 0 dX9_contains_0 rfl ?_
  refine e_iload_n C 1 dX9_contains_1 rfl ?_
  refine e_lushr C dX9_contains_2 ?_
  refine e_lconst1 C dX9_contains_3 ?_
  refine e_land C dX9_contains_4 ?_
  refine e_lconst0 C dX9_contains_5 ?_
  refine e_lcmp C (r64_toInt _) (by decide) dX9_contains_6 ?_
  refine e_if_eq C 14 (cmpL_r _ _) dX9_contains_7 (by decide) (fun c9 => ?_) (fun c9 => ?_)
  · replace H := H.1 c9
    refine e_iconst C dX9_contains_14 ?_
    exact e_zret C Y hk hn (by decide) dX9_contains_15 H
  · replace H := H.2 c9
    refine e_iconst C dX9_contains_10 ?_
    refine e_goto C 15 dX9_contains_11 (by decide) ?_
    exact e_zret C Y hk hn (by decide) dX9_contains_15 H
set_option maxRecDepth 4000 in
theorem B_X9_signOf_0 {g : Gs} {ad : Nat → Nat} {sk : (Nat → Nat) × (Nat → Nat)} {X : Cx} {mc ms k n : Nat} {PQ : Option Value → Mem → Prop} {PX : String → Mem → Prop} {M : Mem} {x0 : Int} (r0 : R32 x0) (hk : k ≤ mc) (hn : n ≤ ms) (C : OkB (wC g ad sk) X cX9_signOf RX9 1 1 mc ms) (Y : OkR (wC g ad sk) X (some .int) mc ms PQ PX) (H : (((x0 ≠ 0) → PQ (some (vI (-1))) M) ∧ ((x0 = 0) → PQ (some (vI 1)) M))) : E (wC g ad sk) X k n M 0 [(0, vI x0)] [] := by
  refine e_wf (fun hw0 => ?_)
  refine e_iload_n C 0 dX9_signOf_0 rfl ?_
  refine e_if_ne C 8 r0 dX9_signOf_1 (by decide) (fun c9 => ?_) (fun c9 => ?_)
  · replace H := H.1 c9
    refine e_iconst C dX9_signOf_8 ?_
    exact e_iret C Y hk hn dX9_signOf_9 H
  · replace H := H.2 c9
    refine e_iconst C dX9_signOf_4 ?_
    refine e_goto C 9 dX9_signOf_5 (by decide) ?_
    exact e_iret C Y hk hn dX9_signOf_9 H
set_option maxRecDepth 4000 in
theorem B_X9_halvings_0 {g : Gs} {ad : Nat → Nat} {sk : (Nat → Nat) × (Nat → Nat)} {X : Cx} {mc ms k n : Nat} {PQ : Option Value → Mem → Prop} {PX : String → Mem → Prop} {M : Mem} {x0 : Int} (r0 : R32 x0) (hk : k ≤ mc) (hn : n ≤ ms) (C : OkB (wC g ad sk) X cX9_halvings RX9 1 1 mc ms) (Y : OkR (wC g ad sk) X (some .int) mc ms PQ PX) (H : ((((Int.tmod x0 8) ≠ 0) → ((((Int.tmod x0 4) ≠ 0) → ((((Int.tmod x0 2) ≠ 0) → PQ (some (vI 0)) M) ∧ (((Int.tmod x0 2) = 0) → PQ (some (vI 1)) M))) ∧ (((Int.tmod x0 4) = 0) → PQ (some (vI 2)) M))) ∧ (((Int.tmod x0 8) = 0) → PQ (some (vI 3)) M))) : E (wC g ad sk) X k n M 0 [(0, vI x0)] [] := by
  refine e_wf (fun hw0 => ?_)
  refine e_iload_n C 0 dX9_halvings_0 rfl ?_
  refine e_bipush C dX9_halvings_1 (by decide) ?_
  refine e_irem C r0 (by decide) (by decide) (by decide) dX9_halvings_3 ?_
  refine e_if_ne C 9 (tmod_r r0 (by decide) (by decide)) dX9_halvings_4 (by decide) (fun c9 => ?_) (fun c9 => ?_)
  · replace H := H.1 c9
    refine e_iload_n C 0 dX9_halvings_9 rfl ?_
    refine e_iconst C dX9_halvings_10 ?_
    refine e_irem C r0 (by decide) (by decide) (by decide) dX9_halvings_11 ?_
    refine e_if_ne C 17 (tmod_r r0 (by decide) (by decide)) dX9_halvings_12 (by decide) (fun c9 => ?_) (fun c9 => ?_)
    · replace H := H.1 c9
      refine e_iload_n C 0 dX9_halvings_17 rfl ?_
      refine e_iconst C dX9_halvings_18 ?_
      refine e_irem C r0 (by decide) (by decide) (by decide) dX9_halvings_19 ?_
      refine e_if_ne C 27 (tmod_r r0 (by decide) (by decide)) dX9_halvings_20 (by decide) (fun c9 => ?_) (fun c9 => ?_)
      · replace H := H.1 c9
        refine e_iconst C dX9_halvings_27 ?_
        exact e_iret C Y hk hn dX9_halvings_28 H
      · replace H := H.2 c9
        refine e_iconst C dX9_halvings_23 ?_
        refine e_goto C 28 dX9_halvings_24 (by decide) ?_
        exact e_iret C Y hk hn dX9_halvings_28 H
    · replace H := H.2 c9
      refine e_iconst C dX9_halvings_15 ?_
      exact e_iret C Y hk hn dX9_halvings_16 H
  · replace H := H.2 c9
    refine e_iconst C dX9_halvings_7 ?_
    exact e_iret C Y hk hn dX9_halvings_8 H
set_option maxRecDepth 4000 in
theorem B_X5_isAsGood_0 {g : Gs} {ad : Nat → Nat} {sk : (Nat → Nat) × (Nat → Nat)} {X : Cx} {mc ms k n : Nat} {PQ : Option Value → Mem → Prop} {PX : String → Mem → Prop} {M : Mem} {x1 x2 x3 : Int} (r1 : R32 x1) (r2 : R32 x2) (r3 : R32 x3) (hk : k ≤ mc) (hn : n ≤ ms) (C : OkB (wC g ad sk) X cX5_isAsGood RX5 4 2 mc ms) (Y : OkR (wC g ad sk) X (some .boolean) mc ms PQ PX) (H : (((x1 ≠ 0) → ∃ Q3 : Int → Mem → Prop, SpI (wC g ad sk) yX5_isAtLeast cX5_isAtLeast 3 (some .boolean) 1 [.ref (ad 1), vI x3, vI x2] M Q3 ∧ ∀ (z4 : Int) (M2 : Mem), Q3 z4 M2 → B01 z4 ∧ PQ (some (vI z4)) M2) ∧ ((x1 = 0) → ∃ Q9 : Int → Mem → Prop, SpI (wC g ad sk) yX5_isAtLeast cX5_isAtLeast 3 (some .boolean) 1 [.ref (ad 1), vI x2, vI x3] M Q9 ∧ ∀ (z10 : Int) (M8 : Mem), Q9 z10 M8 → B01 z10 ∧ PQ (some (vI z10)) M8))) : E (wC g ad sk) X k n M 0 [(0, .ref (ad 1)), (1, vI x1), (2, vI x2), (3, vI x3)] [] := by
  refine e_wf (fun hw0 => ?_)
  refine e_iload_n C 1 dX5_isAsGood_0 rfl ?_
  refine e_if_ne C 13 r1 dX5_isAsGood_1 (by decide) (fun c9 => ?_) (fun c9 => ?_)
  · replace H := H.1 c9
    refine e_aload_n C 0 dX5_isAsGood_13 rfl ?_
    refine e_iload_n C 3 dX5_isAsGood_14 rfl ?_
    refine e_iload_n C 2 dX5_isAsGood_15 rfl ?_
    obtain ⟨Q3, h1, H⟩ := H
    refine e_callVI (As := [vI x3, vI x2]) (rest := []) (q0 := 1) (ci := 5) C Y mi_X5_isAtLeast ms_X5_isAtLeast mv_X5_isAtLeast ml_X5_169 h1 (wlX_st rfl) rfl (by decide) (Nat.le_of_ble_eq_true rfl) hk hn dX5_isAsGood_16 rfl (fun z4 M2 hq9 => ?_)
    obtain ⟨o5, H⟩ := H z4 M2 hq9
    refine e_wf (fun hw6 => ?_)
    exact e_zret C Y hk hn o5 dX5_isAsGood_19 H
  · replace H := H.2 c9
    refine e_aload_n C 0 dX5_isAsGood_4 rfl ?_
    refine e_iload_n C 2 dX5_isAsGood_5 rfl ?_
    refine e_iload_n C 3 dX5_isAsGood_6 rfl ?_
    obtain ⟨Q9, h7, H⟩ := H
    refine e_callVI (As := [vI x2, vI x3]) (rest := []) (q0 := 1) (ci := 5) C Y mi_X5_isAtLeast ms_X5_isAtLeast mv_X5_isAtLeast ml_X5_169 h7 (wlX_st rfl) rfl (by decide) (Nat.le_of_ble_eq_true rfl) hk hn dX5_isAsGood_7 rfl (fun z10 M8 hq9 => ?_)
    obtain ⟨o11, H⟩ := H z10 M8 hq9
    refine e_wf (fun hw12 => ?_)
    refine e_goto C 19 dX5_isAsGood_10 (by decide) ?_
    exact e_zret C Y hk hn o11 dX5_isAsGood_19 H
set_option maxRecDepth 4000 in
theorem B_J13_bitCount_95d88_0 {g : Gs} {ad : Nat → Nat} {sk : (Nat → Nat) × (Nat → Nat)} {X : Cx} {mc ms k n : Nat} {PQ : Option Value → Mem → Prop} {PX : String → Mem → Prop} {M : Mem} {x0 : Int} (r0 : R64 x0) (hk : k ≤ mc) (hn : n ≤ ms) (C : OkB (wC g ad sk) X cJ13_bitCount_95d88 RJ13 2 1 mc ms) (Y : OkR (wC g ad sk) X (some .int) mc ms PQ PX) (H : (R32 ((((landL (((landL (x0 - (landL (lushrL x0 1) 6148914691236517205)) 3689348814741910323) + (landL (lushrL (x0 - (landL (lushrL x0 1) 6148914691236517205)) 2) 3689348814741910323)) + (lushrL ((landL (x0 - (landL (lushrL x0 1) 6148914691236517205)) 3689348814741910323) + (landL (lushrL (x0 - (landL (lushrL x0 1) 6148914691236517205)) 2) 3689348814741910323)) 4)) 1085102592571150095) + (lushrL (landL (((landL (x0 - (landL (lushrL x0 1) 6148914691236517205)) 3689348814741910323) + (landL (lushrL (x0 - (landL (lushrL x0 1) 6148914691236517205)) 2) 3689348814741910323)) + (lushrL ((landL (x0 - (landL (lushrL x0 1) 6148914691236517205)) 3689348814741910323) + (landL (lushrL (x0 - (landL (lushrL x0 1) 6148914691236517205)) 2) 3689348814741910323)) 4)) 1085102592571150095) 8)) + (lushrL ((landL (((landL (x0 - (landL (lushrL x0 1) 6148914691236517205)) 3689348814741910323) + (landL (lushrL (x0 - (landL (lushrL x0 1) 6148914691236517205)) 2) 3689348814741910323)) + (lushrL ((landL (x0 - (landL (lushrL x0 1) 6148914691236517205)) 3689348814741910323) + (landL (lushrL (x0 - (landL (lushrL x0 1) 6148914691236517205)) 2) 3689348814741910323)) 4)) 1085102592571150095) + (lushrL (landL (((landL (x0 - (landL (lushrL x0 1) 6148914691236517205)) 3689348814741910323) + (landL (lushrL (x0 - (landL (lushrL x0 1) 6148914691236517205)) 2) 3689348814741910323)) + (lushrL ((landL (x0 - (landL (lushrL x0 1) 6148914691236517205)) 3689348814741910323) + (landL (lushrL (x0 - (landL (lushrL x0 1) 6148914691236517205)) 2) 3689348814741910323)) 4)) 1085102592571150095) 8)) 16)) + (lushrL (((landL (((landL (x0 - (landL (lushrL x0 1) 6148914691236517205)) 3689348814741910323) + (landL (lushrL (x0 - (landL (lushrL x0 1) 6148914691236517205)) 2) 3689348814741910323)) + (lushrL ((landL (x0 - (landL (lushrL x0 1) 6148914691236517205)) 3689348814741910323) + (landL (lushrL (x0 - (landL (lushrL x0 1) 6148914691236517205)) 2) 3689348814741910323)) 4)) 1085102592571150095) + (lushrL (landL (((landL (x0 - (landL (lushrL x0 1) 6148914691236517205)) 3689348814741910323) + (landL (lushrL (x0 - (landL (lushrL x0 1) 6148914691236517205)) 2) 3689348814741910323)) + (lushrL ((landL (x0 - (landL (lushrL x0 1) 6148914691236517205)) 3689348814741910323) + (landL (lushrL (x0 - (landL (lushrL x0 1) 6148914691236517205)) 2) 3689348814741910323)) 4)) 1085102592571150095) 8)) + (lushrL ((landL (((landL (x0 - (landL (lushrL x0 1) 6148914691236517205)) 3689348814741910323) + (landL (lushrL (x0 - (landL (lushrL x0 1) 6148914691236517205)) 2) 3689348814741910323)) + (lushrL ((landL (x0 - (landL (lushrL x0 1) 6148914691236517205)) 3689348814741910323) + (landL (lushrL (x0 - (landL (lushrL x0 1) 6148914691236517205)) 2) 3689348814741910323)) 4)) 1085102592571150095) + (lushrL (landL (((landL (x0 - (landL (lushrL x0 1) 6148914691236517205)) 3689348814741910323) + (landL (lushrL (x0 - (landL (lushrL x0 1) 6148914691236517205)) 2) 3689348814741910323)) + (lushrL ((landL (x0 - (landL (lushrL x0 1) 6148914691236517205)) 3689348814741910323) + (landL (lushrL (x0 - (landL (lushrL x0 1) 6148914691236517205)) 2) 3689348814741910323)) 4)) 1085102592571150095) 8)) 16)) 32))) ∧ PQ (some (vI (iandI ((((landL (((landL (x0 - (landL (lushrL x0 1) 6148914691236517205)) 3689348814741910323) + (landL (lushrL (x0 - (landL (lushrL x0 1) 6148914691236517205)) 2) 3689348814741910323)) + (lushrL ((landL (x0 - (landL (lushrL x0 1) 6148914691236517205)) 3689348814741910323) + (landL (lushrL (x0 - (landL (lushrL x0 1) 6148914691236517205)) 2) 3689348814741910323)) 4)) 1085102592571150095) + (lushrL (landL (((landL (x0 - (landL (lushrL x0 1) 6148914691236517205)) 3689348814741910323) + (landL (lushrL (x0 - (landL (lushrL x0 1) 6148914691236517205)) 2) 3689348814741910323)) + (lushrL ((landL (x0 - (landL (lushrL x0 1) 6148914691236517205)) 3689348814741910323) + (landL (lushrL (x0 - (landL (lushrL x0 1) 6148914691236517205)) 2) 3689348814741910323)) 4)) 1085102592571150095) 8)) + (lushrL ((landL (((landL (x0 - (landL (lushrL x0 1) 6148914691236517205)) 3689348814741910323) + (landL (lushrL (x0 - (landL (lushrL x0 1) 6148914691236517205)) 2) 3689348814741910323)) + (lushrL ((landL (x0 - (landL (lushrL x0 1) 6148914691236517205)) 3689348814741910323) + (landL (lushrL (x0 - (landL (lushrL x0 1) 6148914691236517205)) 2) 3689348814741910323)) 4)) 1085102592571150095) + (lushrL (landL (((landL (x0 - (landL (lushrL x0 1) 6148914691236517205)) 3689348814741910323) + (landL (lushrL (x0 - (landL (lushrL x0 1) 6148914691236517205)) 2) 3689348814741910323)) + (lushrL ((landL (x0 - (landL (lushrL x0 1) 6148914691236517205)) 3689348814741910323) + (landL (lushrL (x0 - (landL (lushrL x0 1) 6148914691236517205)) 2) 3689348814741910323)) 4)) 1085102592571150095) 8)) 16)) + (lushrL (((landL (((landL (x0 - (landL (lushrL x0 1) 6148914691236517205)) 3689348814741910323) + (landL (lushrL (x0 - (landL (lushrL x0 1) 6148914691236517205)) 2) 3689348814741910323)) + (lushrL ((landL (x0 - (landL (lushrL x0 1) 6148914691236517205)) 3689348814741910323) + (landL (lushrL (x0 - (landL (lushrL x0 1) 6148914691236517205)) 2) 3689348814741910323)) 4)) 1085102592571150095) + (lushrL (landL (((landL (x0 - (landL (lushrL x0 1) 6148914691236517205)) 3689348814741910323) + (landL (lushrL (x0 - (landL (lushrL x0 1) 6148914691236517205)) 2) 3689348814741910323)) + (lushrL ((landL (x0 - (landL (lushrL x0 1) 6148914691236517205)) 3689348814741910323) + (landL (lushrL (x0 - (landL (lushrL x0 1) 6148914691236517205)) 2) 3689348814741910323)) 4)) 1085102592571150095) 8)) + (lushrL ((landL (((landL (x0 - (landL (lushrL x0 1) 6148914691236517205)) 3689348814741910323) + (landL (lushrL (x0 - (landL (lushrL x0 1) 6148914691236517205)) 2) 3689348814741910323)) + (lushrL ((landL (x0 - (landL (lushrL x0 1) 6148914691236517205)) 3689348814741910323) + (landL (lushrL (x0 - (landL (lushrL x0 1) 6148914691236517205)) 2) 3689348814741910323)) 4)) 1085102592571150095) + (lushrL (landL (((landL (x0 - (landL (lushrL x0 1) 6148914691236517205)) 3689348814741910323) + (landL (lushrL (x0 - (landL (lushrL x0 1) 6148914691236517205)) 2) 3689348814741910323)) + (lushrL ((landL (x0 - (landL (lushrL x0 1) 6148914691236517205)) 3689348814741910323) + (landL (lushrL (x0 - (landL (lushrL x0 1) 6148914691236517205)) 2) 3689348814741910323)) 4)) 1085102592571150095) 8)) 16)) 32)) 127))) M) : E (wC g ad sk) X k n M 0 [(0, vL x0)] [] := by
  refine e_wf (fun hw0 => ?_)
  refine e_lload_n C 0 dJ13_bitCount_95d88_0 rfl ?_
  refine e_lload_n C 0 dJ13_bitCount_95d88_1 rfl ?_
  refine e_iconst C dJ13_bitCount_95d88_2 ?_
  refine e_lushr C dJ13_bitCount_95d88_3 ?_
  refine e_ldc2 C (v := 6148914691236517205) (tg2 136 rfl rfl) (by decide) dJ13_bitCount_95d88_4 ?_
  refine e_land C dJ13_bitCount_95d88_7 ?_
  refine e_lsub C dJ13_bitCount_95d88_8 ?_
  refine e_lstore_n C dJ13_bitCount_95d88_9 (by decide) rfl ?_
  refine e_lload_n C 0 dJ13_bitCount_95d88_10 rfl ?_
  refine e_ldc2 C (v := 3689348814741910323) (tg2 137 rfl rfl) (by decide) dJ13_bitCount_95d88_11 ?_
  refine e_land C dJ13_bitCount_95d88_14 ?_
  refine e_lload_n C 0 dJ13_bitCount_95d88_15 rfl ?_
  refine e_iconst C dJ13_bitCount_95d88_16 ?_
  refine e_lushr C dJ13_bitCount_95d88_17 ?_
  refine e_ldc2 C (v := 3689348814741910323) (tg2 137 rfl rfl) (by decide) dJ13_bitCount_95d88_18 ?_
  refine e_land C dJ13_bitCount_95d88_21 ?_
  refine e_ladd C dJ13_bitCount_95d88_22 ?_
  refine e_lstore_n C dJ13_bitCount_95d88_23 (by decide) rfl ?_
  refine e_lload_n C 0 dJ13_bitCount_95d88_24 rfl ?_
  refine e_lload_n C 0 dJ13_bitCount_95d88_25 rfl ?_
  refine e_iconst C dJ13_bitCount_95d88_26 ?_
  refine e_lushr C dJ13_bitCount_95d88_27 ?_
  refine e_ladd C dJ13_bitCount_95d88_28 ?_
  refine e_ldc2 C (v := 1085102592571150095) (tg2 138 rfl rfl) (by decide) dJ13_bitCount_95d88_29 ?_
  refine e_land C dJ13_bitCount_95d88_32 ?_
  refine e_lstore_n C dJ13_bitCount_95d88_33 (by decide) rfl ?_
  refine e_lload_n C 0 dJ13_bitCount_95d88_34 rfl ?_
  refine e_lload_n C 0 dJ13_bitCount_95d88_35 rfl ?_
  refine e_bipush C dJ13_bitCount_95d88_36 (by decide) ?_
  refine e_lushr C dJ13_bitCount_95d88_38 ?_
  refine e_ladd C dJ13_bitCount_95d88_39 ?_
  refine e_lstore_n C dJ13_bitCount_95d88_40 (by decide) rfl ?_
  refine e_lload_n C 0 dJ13_bitCount_95d88_41 rfl ?_
  refine e_lload_n C 0 dJ13_bitCount_95d88_42 rfl ?_
  refine e_bipush C dJ13_bitCount_95d88_43 (by decide) ?_
  refine e_lushr C dJ13_bitCount_95d88_45 ?_
  refine e_ladd C dJ13_bitCount_95d88_46 ?_
  refine e_lstore_n C dJ13_bitCount_95d88_47 (by decide) rfl ?_
  refine e_lload_n C 0 dJ13_bitCount_95d88_48 rfl ?_
  refine e_lload_n C 0 dJ13_bitCount_95d88_49 rfl ?_
  refine e_bipush C dJ13_bitCount_95d88_50 (by decide) ?_
  refine e_lushr C dJ13_bitCount_95d88_52 ?_
  refine e_ladd C dJ13_bitCount_95d88_53 ?_
  refine e_lstore_n C dJ13_bitCount_95d88_54 (by decide) rfl ?_
  refine e_lload_n C 0 dJ13_bitCount_95d88_55 rfl ?_
  obtain ⟨o1, H⟩ := H
  refine e_l2i C o1 dJ13_bitCount_95d88_56 ?_
  refine e_bipush C dJ13_bitCount_95d88_57 (by decide) ?_
  refine e_iand C dJ13_bitCount_95d88_59 ?_
  exact e_iret C Y hk hn dJ13_bitCount_95d88_60 H
set_option maxRecDepth 4000 in
theorem B_X9_requireGame_0 {g : Gs} {ad : Nat → Nat} {sk : (Nat → Nat) × (Nat → Nat)} {X : Cx} {mc ms k n : Nat} {PQ : Option Value → Mem → Prop} {PX : String → Mem → Prop} {M : Mem} {x1 : Int} (r1 : R32 x1) (hk : k ≤ mc) (hn : n ≤ ms) (C : OkB (wC g ad sk) X cX9_requireGame RX9 2 1 mc ms) (Y : OkR (wC g ad sk) X none mc ms PQ PX) (H : (((x1 < 0) → (k + 1 ≤ mc ∧ n + 6 ≤ ms) ∧ PX "java/lang/IndexOutOfBoundsException" M) ∧ ((0 ≤ x1) → (((x1 < (M 4 0)) → PQ none M) ∧ (((M 4 0) ≤ x1) → (k + 1 ≤ mc ∧ n + 6 ≤ ms) ∧ PX "java/lang/IndexOutOfBoundsException" M))))) : E (wC g ad sk) X k n M 0 [(0, .ref (ad 0)), (1, vI x1)] [] := by
  refine e_wf (fun hw0 => ?_)
  refine e_iload_n C 1 dX9_requireGame_0 rfl ?_
  refine e_if_lt C 15 r1 dX9_requireGame_1 (by decide) (fun c9 => ?_) (fun c9 => ?_)
  · replace H := H.1 c9
    exact th_IO (is := 300) (text := "there is no such game") (by decide +kernel) C Y (by decide) (Nat.le_of_ble_eq_true rfl) H.1.1 H.1.2 ⟨⟨dX9_requireGame_15, dX9_requireGame_18⟩, Or.inr ⟨dX9_requireGame_19, dX9_requireGame_22, dX9_requireGame_25⟩⟩ H.2
  · replace H := H.2 c9
    refine e_iload_n C 1 dX9_requireGame_4 rfl ?_
    refine e_aload_n C 0 dX9_requireGame_5 rfl ?_
    refine gX_9_12 C dX9_requireGame_6 ?_
    refine gX_9_100 C dX9_requireGame_9 ?_
    refine e_icmp_lt C 26 r1 (hw0.2.1 4 _ rfl) dX9_requireGame_12 (by decide) (fun c9 => ?_) (fun c9 => ?_)
    · replace H := H.1 c9
      exact e_vret C Y hk hn dX9_requireGame_26 H
    · replace H := H.2 c9
      exact th_IO (is := 300) (text := "there is no such game") (by decide +kernel) C Y (by decide) (Nat.le_of_ble_eq_true rfl) H.1.1 H.1.2 ⟨⟨dX9_requireGame_15, dX9_requireGame_18⟩, Or.inr ⟨dX9_requireGame_19, dX9_requireGame_22, dX9_requireGame_25⟩⟩ H.2
set_option maxRecDepth 4000 in
theorem B_X9_requireComponent_0 {g : Gs} {ad : Nat → Nat} {sk : (Nat → Nat) × (Nat → Nat)} {X : Cx} {mc ms k n : Nat} {PQ : Option Value → Mem → Prop} {PX : String → Mem → Prop} {M : Mem} {x1 : Int} (r1 : R32 x1) (hk : k ≤ mc) (hn : n ≤ ms) (C : OkB (wC g ad sk) X cX9_requireComponent RX9 2 1 mc ms) (Y : OkR (wC g ad sk) X none mc ms PQ PX) (H : (((x1 < 0) → (k + 1 ≤ mc ∧ n + 6 ≤ ms) ∧ PX "java/lang/IndexOutOfBoundsException" M) ∧ ((0 ≤ x1) → (((x1 < (M 11 0)) → PQ none M) ∧ (((M 11 0) ≤ x1) → (k + 1 ≤ mc ∧ n + 6 ≤ ms) ∧ PX "java/lang/IndexOutOfBoundsException" M))))) : E (wC g ad sk) X k n M 0 [(0, .ref (ad 0)), (1, vI x1)] [] := by
  refine e_wf (fun hw0 => ?_)
  refine e_iload_n C 1 dX9_requireComponent_0 rfl ?_
  refine e_if_lt C 15 r1 dX9_requireComponent_1 (by decide) (fun c9 => ?_) (fun c9 => ?_)
  · replace H := H.1 c9
    exact th_IO (is := 303) (text := "there is no such component") (by decide +kernel) C Y (by decide) (Nat.le_of_ble_eq_true rfl) H.1.1 H.1.2 ⟨⟨dX9_requireComponent_15, dX9_requireComponent_18⟩, Or.inr ⟨dX9_requireComponent_19, dX9_requireComponent_22, dX9_requireComponent_25⟩⟩ H.2
  · replace H := H.2 c9
    refine e_iload_n C 1 dX9_requireComponent_4 rfl ?_
    refine e_aload_n C 0 dX9_requireComponent_5 rfl ?_
    refine gX_9_19 C dX9_requireComponent_6 ?_
    refine gX_9_190 C dX9_requireComponent_9 ?_
    refine e_icmp_lt C 26 r1 (hw0.2.1 11 _ rfl) dX9_requireComponent_12 (by decide) (fun c9 => ?_) (fun c9 => ?_)
    · replace H := H.1 c9
      exact e_vret C Y hk hn dX9_requireComponent_26 H
    · replace H := H.2 c9
      exact th_IO (is := 303) (text := "there is no such component") (by decide +kernel) C Y (by decide) (Nat.le_of_ble_eq_true rfl) H.1.1 H.1.2 ⟨⟨dX9_requireComponent_15, dX9_requireComponent_18⟩, Or.inr ⟨dX9_requireComponent_19, dX9_requireComponent_22, dX9_requireComponent_25⟩⟩ H.2
set_option maxRecDepth 4000 in
theorem B_X9_requireSide_0 {g : Gs} {ad : Nat → Nat} {sk : (Nat → Nat) × (Nat → Nat)} {X : Cx} {mc ms k n : Nat} {PQ : Option Value → Mem → Prop} {PX : String → Mem → Prop} {M : Mem} {x0 : Int} (r0 : R32 x0) (hk : k ≤ mc) (hn : n ≤ ms) (C : OkB (wC g ad sk) X cX9_requireSide RX9 1 1 mc ms) (Y : OkR (wC g ad sk) X none mc ms PQ PX) (H : (((x0 = 0) → PQ none M) ∧ ((x0 ≠ 0) → (((x0 = 1) → PQ none M) ∧ ((x0 ≠ 1) → (k + 1 ≤ mc ∧ n + 6 ≤ ms) ∧ PX "java/lang/IllegalArgumentException" M))))) : E (wC g ad sk) X k n M 0 [(0, vI x0)] [] := by
  refine e_wf (fun hw0 => ?_)
  refine e_iload_n C 0 dX9_requireSide_0 rfl ?_
  refine e_if_eq C 20 r0 dX9_requireSide_1 (by decide) (fun c9 => ?_) (fun c9 => ?_)
  · replace H := H.1 c9
    exact e_vret C Y hk hn dX9_requireSide_20 H
  · replace H := H.2 c9
    refine e_iload_n C 0 dX9_requireSide_4 rfl ?_
    refine e_iconst C dX9_requireSide_5 ?_
    refine e_icmp_eq C 20 r0 (by decide) dX9_requireSide_6 (by decide) (fun c9 => ?_) (fun c9 => ?_)
    · replace H := H.1 c9
      exact e_vret C Y hk hn dX9_requireSide_20 H
    · replace H := H.2 c9
      exact th_IA (is := 305) (text := "neither 0 nor 1") (by decide +kernel) C Y (by decide) (Nat.le_of_ble_eq_true rfl) H.1.1 H.1.2 ⟨⟨dX9_requireSide_9, dX9_requireSide_12⟩, Or.inr ⟨dX9_requireSide_13, dX9_requireSide_16, dX9_requireSide_19⟩⟩ H.2
set_option maxRecDepth 4000 in
theorem B_X9_requireStrategy_0 {g : Gs} {ad : Nat → Nat} {sk : (Nat → Nat) × (Nat → Nat)} {X : Cx} {mc ms k n : Nat} {PQ : Option Value → Mem → Prop} {PX : String → Mem → Prop} {M : Mem} {x0 : Int} (r0 : R32 x0) (hk : k ≤ mc) (hn : n ≤ ms) (C : OkB (wC g ad sk) X cX9_requireStrategy RX9 1 1 mc ms) (Y : OkR (wC g ad sk) X none mc ms PQ PX) (H : (((x0 < 0) → (k + 1 ≤ mc ∧ n + 6 ≤ ms) ∧ PX "java/lang/IllegalArgumentException" M) ∧ ((0 ≤ x0) → (((x0 ≤ 3) → PQ none M) ∧ ((3 < x0) → (k + 1 ≤ mc ∧ n + 6 ≤ ms) ∧ PX "java/lang/IllegalArgumentException" M))))) : E (wC g ad sk) X k n M 0 [(0, vI x0)] [] := by
  refine e_wf (fun hw0 => ?_)
  refine e_iload_n C 0 dX9_requireStrategy_0 rfl ?_
  refine e_if_lt C 9 r0 dX9_requireStrategy_1 (by decide) (fun c9 => ?_) (fun c9 => ?_)
  · replace H := H.1 c9
    exact th_IA (is := 307) (text := "a strategy is from 0 to 3") (by decide +kernel) C Y (by decide) (Nat.le_of_ble_eq_true rfl) H.1.1 H.1.2 ⟨⟨dX9_requireStrategy_9, dX9_requireStrategy_12⟩, Or.inr ⟨dX9_requireStrategy_13, dX9_requireStrategy_16, dX9_requireStrategy_19⟩⟩ H.2
  · replace H := H.2 c9
    refine e_iload_n C 0 dX9_requireStrategy_4 rfl ?_
    refine e_iconst C dX9_requireStrategy_5 ?_
    refine e_icmp_le C 20 r0 (by decide) dX9_requireStrategy_6 (by decide) (fun c9 => ?_) (fun c9 => ?_)
    · replace H := H.1 c9
      exact e_vret C Y hk hn dX9_requireStrategy_20 H
    · replace H := H.2 c9
      exact th_IA (is := 307) (text := "a strategy is from 0 to 3") (by decide +kernel) C Y (by decide) (Nat.le_of_ble_eq_true rfl) H.1.1 H.1.2 ⟨⟨dX9_requireStrategy_9, dX9_requireStrategy_12⟩, Or.inr ⟨dX9_requireStrategy_13, dX9_requireStrategy_16, dX9_requireStrategy_19⟩⟩ H.2
