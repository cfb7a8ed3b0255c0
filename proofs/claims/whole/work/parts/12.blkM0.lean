set_option maxRecDepth 4000 in
theorem B_X10_refused_0 {g : Gs} {ad : Nat → Nat} {X : Cx} {mc ms k n : Nat} {PQ : Option Value → Mem → Prop} {PX : String → Mem → Prop} {M : Mem} {x1 : Int} (r1 : R32 x1) (hk : k ≤ mc) (hn : n ≤ ms) (C : OkB (wM g ad) X cX10_refused RX10 2 1 mc ms) (Y : OkR (wM g ad) X (some .boolean) mc ms PQ PX) (H : (((x1 ≤ 0) → PQ (some (vI 0)) (up M 20 0 x1)) ∧ ((0 < x1) → PQ (some (vI 1)) (up M 20 0 x1)))) : E (wM g ad) X k n M 0 [(0, .ref (ad 0)), (1, vI x1)] [] := by
  refine e_wf (fun hw0 => ?_)
  refine e_aload_n C 0 dX10_refused_0 rfl ?_
  refine e_iload_n C 1 dX10_refused_1 rfl ?_
  refine pM_20 C r1 dX10_refused_2 ?_
  refine e_wf (fun hw1 => ?_)
  refine e_iload_n C 1 dX10_refused_5 rfl ?_
  refine e_if_le C 13 r1 dX10_refused_6 (by decide) (fun c9 => ?_) (fun c9 => ?_)
  · replace H := H.1 c9
    refine e_iconst C dX10_refused_13 ?_
    exact e_zret C Y hk hn (by decide) dX10_refused_14 H
  · replace H := H.2 c9
    refine e_iconst C dX10_refused_9 ?_
    refine e_goto C 14 dX10_refused_10 (by decide) ?_
    exact e_zret C Y hk hn (by decide) dX10_refused_14 H
set_option maxRecDepth 4000 in
theorem B_X10_within_0 {g : Gs} {ad : Nat → Nat} {X : Cx} {mc ms k n : Nat} {PQ : Option Value → Mem → Prop} {PX : String → Mem → Prop} {M : Mem} {x0 x1 x2 : Int} (r0 : R32 x0) (r1 : R32 x1) (r2 : R32 x2) (hk : k ≤ mc) (hn : n ≤ ms) (C : OkB (wM g ad) X cX10_within RX10 3 1 mc ms) (Y : OkR (wM g ad) X (some .boolean) mc ms PQ PX) (H : (((x0 < x1) → PQ (some (vI 0)) M) ∧ ((x1 ≤ x0) → (((x2 < x0) → PQ (some (vI 0)) M) ∧ ((x0 ≤ x2) → PQ (some (vI 1)) M))))) : E (wM g ad) X k n M 0 [(0, vI x0), (1, vI x1), (2, vI x2)] [] := by
  refine e_wf (fun hw0 => ?_)
  refine e_iload_n C 0 dX10_within_0 rfl ?_
  refine e_iload_n C 1 dX10_within_1 rfl ?_
  refine e_icmp_lt C 14 r0 r1 dX10_within_2 (by decide) (fun c9 => ?_) (fun c9 => ?_)
  · replace H := H.1 c9
    refine e_iconst C dX10_within_14 ?_
    exact e_zret C Y hk hn (by decide) dX10_within_15 H
  · replace H := H.2 c9
    refine e_iload_n C 0 dX10_within_5 rfl ?_
    refine e_iload_n C 2 dX10_within_6 rfl ?_
    refine e_icmp_gt C 14 r0 r2 dX10_within_7 (by decide) (fun c9 => ?_) (fun c9 => ?_)
    · replace H := H.1 c9
      refine e_iconst C dX10_within_14 ?_
      exact e_zret C Y hk hn (by decide) dX10_within_15 H
    · replace H := H.2 c9
      refine e_iconst C dX10_within_10 ?_
      refine e_goto C 15 dX10_within_11 (by decide) ?_
      exact e_zret C Y hk hn (by decide) dX10_within_15 H
set_option maxRecDepth 4000 in
theorem B_X10_at_0 {g : Gs} {ad : Nat → Nat} {X : Cx} {mc ms k n : Nat} {PQ : Option Value → Mem → Prop} {PX : String → Mem → Prop} {M : Mem} {x0 x1 x2 : Int} (r0 : R32 x0) (r1 : R32 x1) (r2 : R32 x2) (hk : k ≤ mc) (hn : n ≤ ms) (C : OkB (wM g ad) X cX10_at RX10 3 1 mc ms) (Y : OkR (wM g ad) X (some .int) mc ms PQ PX) (H : ((R32 (8 * x0)) ∧ (R32 (4 * x1)) ∧ (R32 ((8 * x0) + (4 * x1))) ∧ (R32 (((8 * x0) + (4 * x1)) + x2))) ∧ PQ (some (vI (((8 * x0) + (4 * x1)) + x2))) M) : E (wM g ad) X k n M 0 [(0, vI x0), (1, vI x1), (2, vI x2)] [] := by
  refine e_wf (fun hw0 => ?_)
  refine e_bipush C dX10_at_0 (by decide) ?_
  refine e_iload_n C 0 dX10_at_2 rfl ?_
  obtain ⟨⟨o1, o2, o3, o4⟩, H⟩ := H
  refine e_imul C dX10_at_3 ?_
  refine e_iconst C dX10_at_4 ?_
  refine e_iload_n C 1 dX10_at_5 rfl ?_
  refine e_imul C dX10_at_6 ?_
  refine e_iadd C dX10_at_7 ?_
  refine e_iload_n C 2 dX10_at_8 rfl ?_
  refine e_iadd C dX10_at_9 ?_
  exact e_iret C Y hk hn dX10_at_10 H
set_option maxRecDepth 4000 in
theorem B_X10_optionsOf_0 {g : Gs} {ad : Nat → Nat} {X : Cx} {mc ms k n : Nat} {PQ : Option Value → Mem → Prop} {PX : String → Mem → Prop} {M : Mem} {x1 x2 : Int} (r1 : R32 x1) (r2 : R32 x2) (hk : k ≤ mc) (hn : n ≤ ms) (C : OkB (wM g ad) X cX10_optionsOf RX10 3 1 mc ms) (Y : OkR (wM g ad) X (some .int) mc ms PQ PX) (H : ((R32 (2 * x1)) ∧ (R32 ((2 * x1) + x2)) ∧ (0 ≤ (2 * x1) + x2 ∧ (2 * x1) + x2 < 80)) ∧ PQ (some (vI (M 3 ((2 * x1) + x2)))) M) : E (wM g ad) X k n M 0 [(0, .ref (ad 0)), (1, vI x1), (2, vI x2)] [] := by
  refine e_wf (fun hw0 => ?_)
  refine e_aload_n C 0 dX10_optionsOf_0 rfl ?_
  refine gM_3 C dX10_optionsOf_1 ?_
  refine e_iconst C dX10_optionsOf_4 ?_
  refine e_iload_n C 1 dX10_optionsOf_5 rfl ?_
  obtain ⟨⟨o1, o2, o3⟩, H⟩ := H
  refine e_imul C dX10_optionsOf_6 ?_
  refine e_iload_n C 2 dX10_optionsOf_7 rfl ?_
  refine e_iadd C dX10_optionsOf_8 ?_
  refine aM_3 C o3 dX10_optionsOf_9 ?_
  exact e_iret C Y hk hn dX10_optionsOf_10 H
set_option maxRecDepth 4000 in
theorem B_X10_isBetween_0 {g : Gs} {ad : Nat → Nat} {X : Cx} {mc ms k n : Nat} {PQ : Option Value → Mem → Prop} {PX : String → Mem → Prop} {M : Mem} {x1 : Int} (r1 : R32 x1) (hk : k ≤ mc) (hn : n ≤ ms) (C : OkB (wM g ad) X cX10_isBetween RX10 2 1 mc ms) (Y : OkR (wM g ad) X (some .boolean) mc ms PQ PX) (H : ((((M 32 0) < x1) → E (wM g ad) X k n M 23 [(0, .ref (ad 0)), (1, vI x1)] []) ∧ ((x1 ≤ (M 32 0)) → (((x1 ≠ (M 32 0)) → PQ (some (vI 0)) M) ∧ ((x1 = (M 32 0)) → ((((M 33 0) = 0) → PQ (some (vI 0)) M) ∧ (((M 33 0) ≠ 0) → E (wM g ad) X k n M 23 [(0, .ref (ad 0)), (1, vI x1)] []))))))) : E (wM g ad) X k n M 0 [(0, .ref (ad 0)), (1, vI x1)] [] := by
  refine e_wf (fun hw0 => ?_)
  refine e_iload_n C 1 dX10_isBetween_0 rfl ?_
  refine e_aload_n C 0 dX10_isBetween_1 rfl ?_
  refine gM_32 C dX10_isBetween_2 ?_
  refine e_icmp_gt C 23 r1 (hw0.2.1 32 _ (by decide)) dX10_isBetween_5 (by decide) (fun c9 => ?_) (fun c9 => ?_)
  · replace H := H.1 c9
    exact e_sub [0, 1] rfl H
  · replace H := H.2 c9
    refine e_iload_n C 1 dX10_isBetween_8 rfl ?_
    refine e_aload_n C 0 dX10_isBetween_9 rfl ?_
    refine gM_32 C dX10_isBetween_10 ?_
    refine e_icmp_ne C 50 r1 (hw0.2.1 32 _ (by decide)) dX10_isBetween_13 (by decide) (fun c9 => ?_) (fun c9 => ?_)
    · replace H := H.1 c9
      refine e_iconst C dX10_isBetween_50 ?_
      exact e_zret C Y hk hn (by decide) dX10_isBetween_51 H
    · replace H := H.2 c9
      refine e_aload_n C 0 dX10_isBetween_16 rfl ?_
      refine gM_33 C dX10_isBetween_17 ?_
      refine e_if_eq C 50 (hw0.2.1 33 _ (by decide)) dX10_isBetween_20 (by decide) (fun c9 => ?_) (fun c9 => ?_)
      · replace H := H.1 c9
        refine e_iconst C dX10_isBetween_50 ?_
        exact e_zret C Y hk hn (by decide) dX10_isBetween_51 H
      · replace H := H.2 c9
        exact e_sub [0, 1] rfl H
set_option maxRecDepth 4000 in
theorem B_X10_isBetween_23 {g : Gs} {ad : Nat → Nat} {X : Cx} {mc ms k n : Nat} {PQ : Option Value → Mem → Prop} {PX : String → Mem → Prop} {M : Mem} {x1 : Int} (r1 : R32 x1) (hk : k ≤ mc) (hn : n ≤ ms) (C : OkB (wM g ad) X cX10_isBetween RX10 2 1 mc ms) (Y : OkR (wM g ad) X (some .boolean) mc ms PQ PX) (H : (((x1 < (M 34 0)) → PQ (some (vI 1)) M) ∧ (((M 34 0) ≤ x1) → (((x1 ≠ (M 34 0)) → PQ (some (vI 0)) M) ∧ ((x1 = (M 34 0)) → ((((M 35 0) = 0) → PQ (some (vI 0)) M) ∧ (((M 35 0) ≠ 0) → PQ (some (vI 1)) M))))))) : E (wM g ad) X k n M 23 [(0, .ref (ad 0)), (1, vI x1)] [] := by
  refine e_wf (fun hw0 => ?_)
  refine e_iload_n C 1 dX10_isBetween_23 rfl ?_
  refine e_aload_n C 0 dX10_isBetween_24 rfl ?_
  refine gM_34 C dX10_isBetween_25 ?_
  refine e_icmp_lt C 46 r1 (hw0.2.1 34 _ (by decide)) dX10_isBetween_28 (by decide) (fun c9 => ?_) (fun c9 => ?_)
  · replace H := H.1 c9
    refine e_iconst C dX10_isBetween_46 ?_
    refine e_goto C 51 dX10_isBetween_47 (by decide) ?_
    exact e_zret C Y hk hn (by decide) dX10_isBetween_51 H
  · replace H := H.2 c9
    refine e_iload_n C 1 dX10_isBetween_31 rfl ?_
    refine e_aload_n C 0 dX10_isBetween_32 rfl ?_
    refine gM_34 C dX10_isBetween_33 ?_
    refine e_icmp_ne C 50 r1 (hw0.2.1 34 _ (by decide)) dX10_isBetween_36 (by decide) (fun c9 => ?_) (fun c9 => ?_)
    · replace H := H.1 c9
      refine e_iconst C dX10_isBetween_50 ?_
      exact e_zret C Y hk hn (by decide) dX10_isBetween_51 H
    · replace H := H.2 c9
      refine e_aload_n C 0 dX10_isBetween_39 rfl ?_
      refine gM_35 C dX10_isBetween_40 ?_
      refine e_if_eq C 50 (hw0.2.1 35 _ (by decide)) dX10_isBetween_43 (by decide) (fun c9 => ?_) (fun c9 => ?_)
      · replace H := H.1 c9
        refine e_iconst C dX10_isBetween_50 ?_
        exact e_zret C Y hk hn (by decide) dX10_isBetween_51 H
      · replace H := H.2 c9
        refine e_iconst C dX10_isBetween_46 ?_
        refine e_goto C 51 dX10_isBetween_47 (by decide) ?_
        exact e_zret C Y hk hn (by decide) dX10_isBetween_51 H
set_option maxRecDepth 4000 in
theorem B_X10_isAtLeastNumber_0 {g : Gs} {ad : Nat → Nat} {X : Cx} {mc ms k n : Nat} {PQ : Option Value → Mem → Prop} {PX : String → Mem → Prop} {M : Mem} {x1 x2 : Int} (r1 : R32 x1) (r2 : R32 x2) (hk : k ≤ mc) (hn : n ≤ ms) (C : OkB (wM g ad) X cX10_isAtLeastNumber RX10 3 1 mc ms) (Y : OkR (wM g ad) X (some .boolean) mc ms PQ PX) (H : (0 ≤ x1 ∧ x1 < 40) ∧ (((x2 < (M 8 x1)) → PQ (some (vI 1)) M) ∧ (((M 8 x1) ≤ x2) → (((x2 ≠ (M 8 x1)) → PQ (some (vI 0)) M) ∧ ((x2 = (M 8 x1)) → ((((M 9 x1) = 0) → PQ (some (vI 0)) M) ∧ (((M 9 x1) ≠ 0) → PQ (some (vI 1)) M))))))) : E (wM g ad) X k n M 0 [(0, .ref (ad 0)), (1, vI x1), (2, vI x2)] [] := by
  refine e_wf (fun hw0 => ?_)
  refine e_iload_n C 2 dX10_isAtLeastNumber_0 rfl ?_
  refine e_aload_n C 0 dX10_isAtLeastNumber_1 rfl ?_
  refine gM_8 C dX10_isAtLeastNumber_2 ?_
  refine e_iload_n C 1 dX10_isAtLeastNumber_5 rfl ?_
  obtain ⟨o1, H⟩ := H
  refine aM_8 C o1 dX10_isAtLeastNumber_6 ?_
  refine e_icmp_lt C 29 r2 (hw0.2.1 8 _ (by decide)) dX10_isAtLeastNumber_7 (by decide) (fun c9 => ?_) (fun c9 => ?_)
  · replace H := H.1 c9
    refine e_iconst C dX10_isAtLeastNumber_29 ?_
    refine e_goto C 34 dX10_isAtLeastNumber_30 (by decide) ?_
    exact e_zret C Y hk hn (by decide) dX10_isAtLeastNumber_34 H
  · replace H := H.2 c9
    refine e_iload_n C 2 dX10_isAtLeastNumber_10 rfl ?_
    refine e_aload_n C 0 dX10_isAtLeastNumber_11 rfl ?_
    refine gM_8 C dX10_isAtLeastNumber_12 ?_
    refine e_iload_n C 1 dX10_isAtLeastNumber_15 rfl ?_
    refine aM_8 C o1 dX10_isAtLeastNumber_16 ?_
    refine e_icmp_ne C 33 r2 (hw0.2.1 8 _ (by decide)) dX10_isAtLeastNumber_17 (by decide) (fun c9 => ?_) (fun c9 => ?_)
    · replace H := H.1 c9
      refine e_iconst C dX10_isAtLeastNumber_33 ?_
      exact e_zret C Y hk hn (by decide) dX10_isAtLeastNumber_34 H
    · replace H := H.2 c9
      refine e_aload_n C 0 dX10_isAtLeastNumber_20 rfl ?_
      refine gM_9 C dX10_isAtLeastNumber_21 ?_
      refine e_iload_n C 1 dX10_isAtLeastNumber_24 rfl ?_
      refine aM_9 C o1 dX10_isAtLeastNumber_25 ?_
      refine e_if_eq C 33 (hw0.2.1 9 _ (by decide)) dX10_isAtLeastNumber_26 (by decide) (fun c9 => ?_) (fun c9 => ?_)
      · replace H := H.1 c9
        refine e_iconst C dX10_isAtLeastNumber_33 ?_
        exact e_zret C Y hk hn (by decide) dX10_isAtLeastNumber_34 H
      · replace H := H.2 c9
        refine e_iconst C dX10_isAtLeastNumber_29 ?_
        refine e_goto C 34 dX10_isAtLeastNumber_30 (by decide) ?_
        exact e_zret C Y hk hn (by decide) dX10_isAtLeastNumber_34 H
set_option maxRecDepth 4000 in
theorem B_X10_isAtMostNumber_0 {g : Gs} {ad : Nat → Nat} {X : Cx} {mc ms k n : Nat} {PQ : Option Value → Mem → Prop} {PX : String → Mem → Prop} {M : Mem} {x1 x2 : Int} (r1 : R32 x1) (r2 : R32 x2) (hk : k ≤ mc) (hn : n ≤ ms) (C : OkB (wM g ad) X cX10_isAtMostNumber RX10 3 1 mc ms) (Y : OkR (wM g ad) X (some .boolean) mc ms PQ PX) (H : (0 ≤ x1 ∧ x1 < 40) ∧ ((((M 10 x1) < x2) → PQ (some (vI 1)) M) ∧ ((x2 ≤ (M 10 x1)) → (((x2 ≠ (M 10 x1)) → PQ (some (vI 0)) M) ∧ ((x2 = (M 10 x1)) → ((((M 11 x1) = 0) → PQ (some (vI 0)) M) ∧ (((M 11 x1) ≠ 0) → PQ (some (vI 1)) M))))))) : E (wM g ad) X k n M 0 [(0, .ref (ad 0)), (1, vI x1), (2, vI x2)] [] := by
  refine e_wf (fun hw0 => ?_)
  refine e_iload_n C 2 dX10_isAtMostNumber_0 rfl ?_
  refine e_aload_n C 0 dX10_isAtMostNumber_1 rfl ?_
  refine gM_10 C dX10_isAtMostNumber_2 ?_
  refine e_iload_n C 1 dX10_isAtMostNumber_5 rfl ?_
  obtain ⟨o1, H⟩ := H
  refine aM_10 C o1 dX10_isAtMostNumber_6 ?_
  refine e_icmp_gt C 29 r2 (hw0.2.1 10 _ (by decide)) dX10_isAtMostNumber_7 (by decide) (fun c9 => ?_) (fun c9 => ?_)
  · replace H := H.1 c9
    refine e_iconst C dX10_isAtMostNumber_29 ?_
    refine e_goto C 34 dX10_isAtMostNumber_30 (by decide) ?_
    exact e_zret C Y hk hn (by decide) dX10_isAtMostNumber_34 H
  · replace H := H.2 c9
    refine e_iload_n C 2 dX10_isAtMostNumber_10 rfl ?_
    refine e_aload_n C 0 dX10_isAtMostNumber_11 rfl ?_
    refine gM_10 C dX10_isAtMostNumber_12 ?_
    refine e_iload_n C 1 dX10_isAtMostNumber_15 rfl ?_
    refine aM_10 C o1 dX10_isAtMostNumber_16 ?_
    refine e_icmp_ne C 33 r2 (hw0.2.1 10 _ (by decide)) dX10_isAtMostNumber_17 (by decide) (fun c9 => ?_) (fun c9 => ?_)
    · replace H := H.1 c9
      refine e_iconst C dX10_isAtMostNumber_33 ?_
      exact e_zret C Y hk hn (by decide) dX10_isAtMostNumber_34 H
    · replace H := H.2 c9
      refine e_aload_n C 0 dX10_isAtMostNumber_20 rfl ?_
      refine gM_11 C dX10_isAtMostNumber_21 ?_
      refine e_iload_n C 1 dX10_isAtMostNumber_24 rfl ?_
      refine aM_11 C o1 dX10_isAtMostNumber_25 ?_
      refine e_if_eq C 33 (hw0.2.1 11 _ (by decide)) dX10_isAtMostNumber_26 (by decide) (fun c9 => ?_) (fun c9 => ?_)
      · replace H := H.1 c9
        refine e_iconst C dX10_isAtMostNumber_33 ?_
        exact e_zret C Y hk hn (by decide) dX10_isAtMostNumber_34 H
      · replace H := H.2 c9
        refine e_iconst C dX10_isAtMostNumber_29 ?_
        refine e_goto C 34 dX10_isAtMostNumber_30 (by decide) ?_
        exact e_zret C Y hk hn (by decide) dX10_isAtMostNumber_34 H
set_option maxRecDepth 4000 in
theorem B_X10_sample_0 {g : Gs} {ad : Nat → Nat} {X : Cx} {mc ms k n : Nat} {PQ : Option Value → Mem → Prop} {PX : String → Mem → Prop} {M : Mem} {x1 x2 x3 : Int} (r1 : R32 x1) (r2 : R32 x2) (r3 : R32 x3) (hk : k ≤ mc) (hn : n ≤ ms) (C : OkB (wM g ad) X cX10_sample RX10 4 1 mc ms) (Y : OkR (wM g ad) X (some .int) mc ms PQ PX) (H : ((R32 (2 * x1)) ∧ (R32 ((2 * x1) + x2)) ∧ (R32 (7200 * ((2 * x1) + x2))) ∧ (R32 ((7200 * ((2 * x1) + x2)) + x3)) ∧ (0 ≤ (7200 * ((2 * x1) + x2)) + x3 ∧ (7200 * ((2 * x1) + x2)) + x3 < 576000)) ∧ PQ (some (vI (M 15 ((7200 * ((2 * x1) + x2)) + x3)))) M) : E (wM g ad) X k n M 0 [(0, .ref (ad 0)), (1, vI x1), (2, vI x2), (3, vI x3)] [] := by
  refine e_wf (fun hw0 => ?_)
  refine e_aload_n C 0 dX10_sample_0 rfl ?_
  refine gM_15 C dX10_sample_1 ?_
  refine e_sipush C dX10_sample_4 (by decide) ?_
  refine e_iconst C dX10_sample_7 ?_
  refine e_iload_n C 1 dX10_sample_8 rfl ?_
  obtain ⟨⟨o1, o2, o3, o4, o5⟩, H⟩ := H
  refine e_imul C dX10_sample_9 ?_
  refine e_iload_n C 2 dX10_sample_10 rfl ?_
  refine e_iadd C dX10_sample_11 ?_
  refine e_imul C dX10_sample_12 ?_
  refine e_iload_n C 3 dX10_sample_13 rfl ?_
  refine e_iadd C dX10_sample_14 ?_
  refine aM_15 C o5 dX10_sample_15 ?_
  exact e_iret C Y hk hn dX10_sample_16 H
set_option maxRecDepth 4000 in
theorem B_X10_put_0 {g : Gs} {ad : Nat → Nat} {X : Cx} {mc ms k n : Nat} {PQ : Option Value → Mem → Prop} {PX : String → Mem → Prop} {M : Mem} {x1 x2 x3 x4 : Int} (r1 : R32 x1) (r2 : R32 x2) (r3 : R32 x3) (r4 : R32 x4) (hk : k ≤ mc) (hn : n ≤ ms) (C : OkB (wM g ad) X cX10_put RX10 5 1 mc ms) (Y : OkR (wM g ad) X none mc ms PQ PX) (H : ((R32 (2 * x1)) ∧ (R32 ((2 * x1) + x2)) ∧ (R32 (7200 * ((2 * x1) + x2))) ∧ (R32 ((7200 * ((2 * x1) + x2)) + x3)) ∧ (0 ≤ (7200 * ((2 * x1) + x2)) + x3 ∧ (7200 * ((2 * x1) + x2)) + x3 < 576000)) ∧ PQ none (up M 15 ((7200 * ((2 * x1) + x2)) + x3) x4)) : E (wM g ad) X k n M 0 [(0, .ref (ad 0)), (1, vI x1), (2, vI x2), (3, vI x3), (4, vI x4)] [] := by
  refine e_wf (fun hw0 => ?_)
  refine e_aload_n C 0 dX10_put_0 rfl ?_
  refine gM_15 C dX10_put_1 ?_
  refine e_sipush C dX10_put_4 (by decide) ?_
  refine e_iconst C dX10_put_7 ?_
  refine e_iload_n C 1 dX10_put_8 rfl ?_
  obtain ⟨⟨o1, o2, o3, o4, o5⟩, H⟩ := H
  refine e_imul C dX10_put_9 ?_
  refine e_iload_n C 2 dX10_put_10 rfl ?_
  refine e_iadd C dX10_put_11 ?_
  refine e_imul C dX10_put_12 ?_
  refine e_iload_n C 3 dX10_put_13 rfl ?_
  refine e_iadd C dX10_put_14 ?_
  refine e_iload C 4 dX10_put_15 rfl ?_
  refine sM_15 C o5 r4 dX10_put_17 ?_
  refine e_wf (fun hw6 => ?_)
  exact e_vret C Y hk hn dX10_put_18 H
set_option maxRecDepth 4000 in
theorem B_X10_is_0 {g : Gs} {ad : Nat → Nat} {X : Cx} {mc ms k n : Nat} {PQ : Option Value → Mem → Prop} {PX : String → Mem → Prop} {M : Mem} {x1 x2 : Int} (r1 : R32 x1) (r2 : R32 x2) (hk : k ≤ mc) (hn : n ≤ ms) (C : OkB (wM g ad) X cX10_is RX10 3 1 mc ms) (Y : OkR (wM g ad) X (some .boolean) mc ms PQ PX) (H : ((R32 (40 * x1)) ∧ (R32 ((40 * x1) + x2)) ∧ (0 ≤ (40 * x1) + x2 ∧ (40 * x1) + x2 < 1600)) ∧ PQ (some (vI (M 12 ((40 * x1) + x2)))) M) : E (wM g ad) X k n M 0 [(0, .ref (ad 0)), (1, vI x1), (2, vI x2)] [] := by
  refine e_wf (fun hw0 => ?_)
  refine e_aload_n C 0 dX10_is_0 rfl ?_
  refine gM_12 C dX10_is_1 ?_
  refine e_bipush C dX10_is_4 (by decide) ?_
  refine e_iload_n C 1 dX10_is_6 rfl ?_
  obtain ⟨⟨o1, o2, o3⟩, H⟩ := H
  refine e_imul C dX10_is_7 ?_
  refine e_iload_n C 2 dX10_is_8 rfl ?_
  refine e_iadd C dX10_is_9 ?_
  refine aM_12 C o3 dX10_is_10 ?_
  exact e_zret C Y hk hn (hw0.2.2 12 _ rfl) dX10_is_11 H
set_option maxRecDepth 4000 in
theorem B_X10_isGame_0 {g : Gs} {ad : Nat → Nat} {X : Cx} {mc ms k n : Nat} {PQ : Option Value → Mem → Prop} {PX : String → Mem → Prop} {M : Mem} {x1 : Int} (r1 : R32 x1) (hk : k ≤ mc) (hn : n ≤ ms) (C : OkB (wM g ad) X cX10_isGame RX10 2 2 mc ms) (Y : OkR (wM g ad) X (some .boolean) mc ms PQ PX) (H : (R32 ((M 0 0) - 1)) ∧ ∃ Q4 : Int → Mem → Prop, SpI (wM g ad) yX10_within cX10_within 3 (some .boolean) 1 [vI x1, vI 0, vI ((M 0 0) - 1)] M Q4 ∧ ∀ (z5 : Int) (M3 : Mem), Q4 z5 M3 → B01 z5 ∧ PQ (some (vI z5)) M3) : E (wM g ad) X k n M 0 [(0, .ref (ad 0)), (1, vI x1)] [] := by
  refine e_wf (fun hw0 => ?_)
  refine e_iload_n C 1 dX10_isGame_0 rfl ?_
  refine e_iconst C dX10_isGame_1 ?_
  refine e_aload_n C 0 dX10_isGame_2 rfl ?_
  refine gM_0 C dX10_isGame_3 ?_
  refine e_iconst C dX10_isGame_6 ?_
  obtain ⟨o1, H⟩ := H
  refine e_isub C dX10_isGame_7 ?_
  obtain ⟨Q4, h2, H⟩ := H
  refine e_callSI (As := [vI x1, vI 0, vI ((M 0 0) - 1)]) (rest := []) C Y mi_X10_within ms_X10_within ml_X10_152 h2 (by decide) (Nat.le_of_ble_eq_true rfl) hk hn dX10_isGame_8 rfl (fun z5 M3 hq9 => ?_)
  obtain ⟨o6, H⟩ := H z5 M3 hq9
  refine e_wf (fun hw7 => ?_)
  exact e_zret C Y hk hn o6 dX10_isGame_11 H
set_option maxRecDepth 4000 in
theorem B_X10_optionOf_0 {g : Gs} {ad : Nat → Nat} {X : Cx} {mc ms k n : Nat} {PQ : Option Value → Mem → Prop} {PX : String → Mem → Prop} {M : Mem} {x1 x2 x3 : Int} (r1 : R32 x1) (r2 : R32 x2) (r3 : R32 x3) (hk : k ≤ mc) (hn : n ≤ ms) (C : OkB (wM g ad) X cX10_optionOf RX10 4 2 mc ms) (Y : OkR (wM g ad) X (some .int) mc ms PQ PX) (H : ∃ Q3 : Int → Mem → Prop, SpI (wM g ad) yX10_at cX10_at 3 (some .int) 1 [vI x1, vI x2, vI x3] M Q3 ∧ ∀ (z4 : Int) (M2 : Mem), Q3 z4 M2 → R32 z4 ∧ (0 ≤ z4 ∧ z4 < 320) ∧ PQ (some (vI (M2 4 z4))) M2) : E (wM g ad) X k n M 0 [(0, .ref (ad 0)), (1, vI x1), (2, vI x2), (3, vI x3)] [] := by
  refine e_wf (fun hw0 => ?_)
  refine e_aload_n C 0 dX10_optionOf_0 rfl ?_
  refine gM_4 C dX10_optionOf_1 ?_
  refine e_iload_n C 1 dX10_optionOf_4 rfl ?_
  refine e_iload_n C 2 dX10_optionOf_5 rfl ?_
  refine e_iload_n C 3 dX10_optionOf_6 rfl ?_
  obtain ⟨Q3, h1, H⟩ := H
  refine e_callSI (As := [vI x1, vI x2, vI x3]) (rest := [.ref (ad 4)]) C Y mi_X10_at ms_X10_at ml_X10_156 h1 (by decide) (Nat.le_of_ble_eq_true rfl) hk hn dX10_optionOf_7 rfl (fun z4 M2 hq9 => ?_)
  obtain ⟨o5, H⟩ := H z4 M2 hq9
  refine e_wf (fun hw6 => ?_)
  obtain ⟨o7, H⟩ := H
  refine aM_4 C o7 dX10_optionOf_10 ?_
  exact e_iret C Y hk hn dX10_optionOf_11 H
set_option maxRecDepth 4000 in
theorem B_X10_isPart_0 {g : Gs} {ad : Nat → Nat} {X : Cx} {mc ms k n : Nat} {PQ : Option Value → Mem → Prop} {PX : String → Mem → Prop} {M : Mem} {x1 : Int} (r1 : R32 x1) (hk : k ≤ mc) (hn : n ≤ ms) (C : OkB (wM g ad) X cX10_isPart RX10 2 2 mc ms) (Y : OkR (wM g ad) X (some .boolean) mc ms PQ PX) (H : (R32 ((M 16 0) - 1)) ∧ ∃ Q4 : Int → Mem → Prop, SpI (wM g ad) yX10_within cX10_within 3 (some .boolean) 1 [vI x1, vI 0, vI ((M 16 0) - 1)] M Q4 ∧ ∀ (z5 : Int) (M3 : Mem), Q4 z5 M3 → B01 z5 ∧ PQ (some (vI z5)) M3) : E (wM g ad) X k n M 0 [(0, .ref (ad 0)), (1, vI x1)] [] := by
  refine e_wf (fun hw0 => ?_)
  refine e_iload_n C 1 dX10_isPart_0 rfl ?_
  refine e_iconst C dX10_isPart_1 ?_
  refine e_aload_n C 0 dX10_isPart_2 rfl ?_
  refine gM_16 C dX10_isPart_3 ?_
  refine e_iconst C dX10_isPart_6 ?_
  obtain ⟨o1, H⟩ := H
  refine e_isub C dX10_isPart_7 ?_
  obtain ⟨Q4, h2, H⟩ := H
  refine e_callSI (As := [vI x1, vI 0, vI ((M 16 0) - 1)]) (rest := []) C Y mi_X10_within ms_X10_within ml_X10_152 h2 (by decide) (Nat.le_of_ble_eq_true rfl) hk hn dX10_isPart_8 rfl (fun z5 M3 hq9 => ?_)
  obtain ⟨o6, H⟩ := H z5 M3 hq9
  refine e_wf (fun hw7 => ?_)
  exact e_zret C Y hk hn o6 dX10_isPart_11 H
set_option maxRecDepth 4000 in
theorem B_X10_isLetter_0 {g : Gs} {ad : Nat → Nat} {X : Cx} {mc ms k n : Nat} {PQ : Option Value → Mem → Prop} {PX : String → Mem → Prop} {M : Mem} {x0 : Int} (r0 : R32 x0) (hk : k ≤ mc) (hn : n ≤ ms) (C : OkB (wM g ad) X cX10_isLetter RX10 1 2 mc ms) (Y : OkR (wM g ad) X (some .boolean) mc ms PQ PX) (H : ∃ Q3 : Int → Mem → Prop, SpI (wM g ad) yX10_within cX10_within 3 (some .boolean) 1 [vI x0, vI 97, vI 122] M Q3 ∧ ∀ (z4 : Int) (M2 : Mem), Q3 z4 M2 → B01 z4 ∧ PQ (some (vI z4)) M2) : E (wM g ad) X k n M 0 [(0, vI x0)] [] := by
  refine e_wf (fun hw0 => ?_)
  refine e_iload_n C 0 dX10_isLetter_0 rfl ?_
  refine e_bipush C dX10_isLetter_1 (by decide) ?_
  refine e_bipush C dX10_isLetter_3 (by decide) ?_
  obtain ⟨Q3, h1, H⟩ := H
  refine e_callSI (As := [vI x0, vI 97, vI 122]) (rest := []) C Y mi_X10_within ms_X10_within ml_X10_152 h1 (by decide) (Nat.le_of_ble_eq_true rfl) hk hn dX10_isLetter_5 rfl (fun z4 M2 hq9 => ?_)
  obtain ⟨o5, H⟩ := H z4 M2 hq9
  refine e_wf (fun hw6 => ?_)
  exact e_zret C Y hk hn o5 dX10_isLetter_8 H
set_option maxRecDepth 4000 in
theorem B_X10_isDigit_0 {g : Gs} {ad : Nat → Nat} {X : Cx} {mc ms k n : Nat} {PQ : Option Value → Mem → Prop} {PX : String → Mem → Prop} {M : Mem} {x0 : Int} (r0 : R32 x0) (hk : k ≤ mc) (hn : n ≤ ms) (C : OkB (wM g ad) X cX10_isDigit RX10 1 2 mc ms) (Y : OkR (wM g ad) X (some .boolean) mc ms PQ PX) (H : ∃ Q3 : Int → Mem → Prop, SpI (wM g ad) yX10_within cX10_within 3 (some .boolean) 1 [vI x0, vI 48, vI 57] M Q3 ∧ ∀ (z4 : Int) (M2 : Mem), Q3 z4 M2 → B01 z4 ∧ PQ (some (vI z4)) M2) : E (wM g ad) X k n M 0 [(0, vI x0)] [] := by
  refine e_wf (fun hw0 => ?_)
  refine e_iload_n C 0 dX10_isDigit_0 rfl ?_
  refine e_bipush C dX10_isDigit_1 (by decide) ?_
  refine e_bipush C dX10_isDigit_3 (by decide) ?_
  obtain ⟨Q3, h1, H⟩ := H
  refine e_callSI (As := [vI x0, vI 48, vI 57]) (rest := []) C Y mi_X10_within ms_X10_within ml_X10_152 h1 (by decide) (Nat.le_of_ble_eq_true rfl) hk hn dX10_isDigit_5 rfl (fun z4 M2 hq9 => ?_)
  obtain ⟨o5, H⟩ := H z4 M2 hq9
  refine e_wf (fun hw6 => ?_)
  exact e_zret C Y hk hn o5 dX10_isDigit_8 H
