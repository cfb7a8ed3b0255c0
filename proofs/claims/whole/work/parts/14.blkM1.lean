set_option maxRecDepth 4000 in
theorem B_X10_thrown_0 {g : Gs} {ad : Nat → Nat} {X : Cx} {mc ms k n : Nat} {PQ : Option Value → Mem → Prop} {PX : String → Mem → Prop} {M : Mem}  (hk : k ≤ mc) (hn : n ≤ ms) (C : OkB (wM g ad) X cX10_thrown RX10 1 1 mc ms) (Y : OkR (wM g ad) X (some .int) mc ms PQ PX) (H : PQ (some (vI (M 20 0))) M) : E (wM g ad) X k n M 0 [(0, .ref (ad 0))] [] := by
  refine e_wf (fun hw0 => ?_)
  refine e_aload_n C 0 dX10_thrown_0 rfl ?_
  refine gM_20 C dX10_thrown_1 ?_
  exact e_iret C Y hk hn dX10_thrown_4 H
set_option maxRecDepth 4000 in
theorem B_X10_begins_0 {g : Gs} {ad : Nat → Nat} {X : Cx} {mc ms k n : Nat} {PQ : Option Value → Mem → Prop} {PX : String → Mem → Prop} {M : Mem}  (hk : k ≤ mc) (hn : n ≤ ms) (C : OkB (wM g ad) X cX10_begins RX10 1 1 mc ms) (Y : OkR (wM g ad) X none mc ms PQ PX) (H : PQ none (up (up (up M 30 0 0) 30 1 0) 29 0 0)) : E (wM g ad) X k n M 0 [(0, .ref (ad 0))] [] := by
  refine e_wf (fun hw0 => ?_)
  refine e_aload_n C 0 dX10_begins_0 rfl ?_
  refine gM_30 C dX10_begins_1 ?_
  refine e_iconst C dX10_begins_4 ?_
  refine e_iconst C dX10_begins_5 ?_
  refine sM_30 C (by decide) (by decide) dX10_begins_6 ?_
  refine e_wf (fun hw1 => ?_)
  refine e_aload_n C 0 dX10_begins_7 rfl ?_
  refine gM_30 C dX10_begins_8 ?_
  refine e_iconst C dX10_begins_11 ?_
  refine e_iconst C dX10_begins_12 ?_
  refine sM_30 C (by decide) (by decide) dX10_begins_13 ?_
  refine e_wf (fun hw2 => ?_)
  refine e_aload_n C 0 dX10_begins_14 rfl ?_
  refine e_iconst C dX10_begins_15 ?_
  refine pM_29 C (by decide) dX10_begins_16 ?_
  refine e_wf (fun hw3 => ?_)
  exact e_vret C Y hk hn dX10_begins_19 H
set_option maxRecDepth 4000 in
theorem B_X10_takes_0 {g : Gs} {ad : Nat → Nat} {X : Cx} {mc ms k n : Nat} {PQ : Option Value → Mem → Prop} {PX : String → Mem → Prop} {M : Mem} {x1 x2 : Int} (r1 : R32 x1) (r2 : R32 x2) (hk : k ≤ mc) (hn : n ≤ ms) (C : OkB (wM g ad) X cX10_takes RX10 5 1 mc ms) (Y : OkR (wM g ad) X none mc ms PQ PX) (H : E (wM g ad) X k n M 2 [(0, .ref (ad 0)), (1, vI x1), (2, vI x2), (3, vI 0)] []) : E (wM g ad) X k n M 0 [(0, .ref (ad 0)), (1, vI x1), (2, vI x2)] [] := by
  refine e_wf (fun hw0 => ?_)
  refine e_iconst C dX10_takes_0 ?_
  refine e_istore_n C dX10_takes_1 (by decide) rfl ?_
  exact e_sub [1, 2, 3, 0] rfl H
set_option maxRecDepth 4000 in
theorem B_X10_takes_2 {g : Gs} {ad : Nat → Nat} {X : Cx} {mc ms k n : Nat} {PQ : Option Value → Mem → Prop} {PX : String → Mem → Prop} {M : Mem} {x1 x2 x3 : Int} (r1 : R32 x1) (r2 : R32 x2) (r3 : R32 x3) (hk : k ≤ mc) (hn : n ≤ ms) (C : OkB (wM g ad) X cX10_takes RX10 5 1 mc ms) (Y : OkR (wM g ad) X none mc ms PQ PX) (H : (0 ≤ x1 ∧ x1 < 2) ∧ ((((M 30 x1) ≤ x3) → E (wM g ad) X k n M 32 [(0, .ref (ad 0)), (1, vI x1), (2, vI x2), (3, vI x3)] []) ∧ ((x3 < (M 30 x1)) → ((R32 (4 * x1)) ∧ (R32 ((4 * x1) + x3)) ∧ (0 ≤ (4 * x1) + x3 ∧ (4 * x1) + x3 < 8)) ∧ (((x2 ≤ (M 31 ((4 * x1) + x3))) → E (wM g ad) X k n M 32 [(0, .ref (ad 0)), (1, vI x1), (2, vI x2), (3, vI x3)] []) ∧ (((M 31 ((4 * x1) + x3)) < x2) → (R32 (x3 + 1)) ∧ E (wM g ad) X k n M 2 [(0, .ref (ad 0)), (1, vI x1), (2, vI x2), (3, vI (x3 + 1))] []))))) : E (wM g ad) X k n M 2 [(0, .ref (ad 0)), (1, vI x1), (2, vI x2), (3, vI x3)] [] := by
  refine e_wf (fun hw0 => ?_)
  refine e_iload_n C 3 dX10_takes_2 rfl ?_
  refine e_aload_n C 0 dX10_takes_3 rfl ?_
  refine gM_30 C dX10_takes_4 ?_
  refine e_iload_n C 1 dX10_takes_7 rfl ?_
  obtain ⟨o1, H⟩ := H
  refine aM_30 C o1 dX10_takes_8 ?_
  refine e_icmp_ge C 32 r3 (hw0.2.1 30 _ (by decide)) dX10_takes_9 (by decide) (fun c9 => ?_) (fun c9 => ?_)
  · replace H := H.1 c9
    exact e_sub [0, 1, 2, 3] rfl H
  · replace H := H.2 c9
    refine e_aload_n C 0 dX10_takes_12 rfl ?_
    refine gM_31 C dX10_takes_13 ?_
    refine e_iconst C dX10_takes_16 ?_
    refine e_iload_n C 1 dX10_takes_17 rfl ?_
    obtain ⟨⟨o2, o3, o4⟩, H⟩ := H
    refine e_imul C dX10_takes_18 ?_
    refine e_iload_n C 3 dX10_takes_19 rfl ?_
    refine e_iadd C dX10_takes_20 ?_
    refine aM_31 C o4 dX10_takes_21 ?_
    refine e_iload_n C 2 dX10_takes_22 rfl ?_
    refine e_icmp_ge C 32 (hw0.2.1 31 _ (by decide)) r2 dX10_takes_23 (by decide) (fun c9 => ?_) (fun c9 => ?_)
    · replace H := H.1 c9
      exact e_sub [0, 1, 2, 3] rfl H
    · replace H := H.2 c9
      obtain ⟨o5, H⟩ := H
      refine e_iinc C 3 dX10_takes_26 rfl (by decide) rfl ?_
      refine e_goto C 2 dX10_takes_29 (by decide) ?_
      exact e_sub [1, 2, 3, 0] rfl H
set_option maxRecDepth 4000 in
theorem B_X10_takes_32 {g : Gs} {ad : Nat → Nat} {X : Cx} {mc ms k n : Nat} {PQ : Option Value → Mem → Prop} {PX : String → Mem → Prop} {M : Mem} {x1 x2 x3 : Int} (r1 : R32 x1) (r2 : R32 x2) (r3 : R32 x3) (hk : k ≤ mc) (hn : n ≤ ms) (C : OkB (wM g ad) X cX10_takes RX10 5 1 mc ms) (Y : OkR (wM g ad) X none mc ms PQ PX) (H : (0 ≤ x1 ∧ x1 < 2) ∧ ((((M 30 x1) ≤ x3) → E (wM g ad) X k n M 57 [(0, .ref (ad 0)), (1, vI x1), (2, vI x2), (3, vI x3)] []) ∧ ((x3 < (M 30 x1)) → ((R32 (4 * x1)) ∧ (R32 ((4 * x1) + x3)) ∧ (0 ≤ (4 * x1) + x3 ∧ (4 * x1) + x3 < 8)) ∧ ((((M 31 ((4 * x1) + x3)) ≠ x2) → E (wM g ad) X k n M 57 [(0, .ref (ad 0)), (1, vI x1), (2, vI x2), (3, vI x3)] []) ∧ (((M 31 ((4 * x1) + x3)) = x2) → PQ none M))))) : E (wM g ad) X k n M 32 [(0, .ref (ad 0)), (1, vI x1), (2, vI x2), (3, vI x3)] [] := by
  refine e_wf (fun hw0 => ?_)
  refine e_iload_n C 3 dX10_takes_32 rfl ?_
  refine e_aload_n C 0 dX10_takes_33 rfl ?_
  refine gM_30 C dX10_takes_34 ?_
  refine e_iload_n C 1 dX10_takes_37 rfl ?_
  obtain ⟨o1, H⟩ := H
  refine aM_30 C o1 dX10_takes_38 ?_
  refine e_icmp_ge C 57 r3 (hw0.2.1 30 _ (by decide)) dX10_takes_39 (by decide) (fun c9 => ?_) (fun c9 => ?_)
  · replace H := H.1 c9
    exact e_sub [0, 1, 2, 3] rfl H
  · replace H := H.2 c9
    refine e_aload_n C 0 dX10_takes_42 rfl ?_
    refine gM_31 C dX10_takes_43 ?_
    refine e_iconst C dX10_takes_46 ?_
    refine e_iload_n C 1 dX10_takes_47 rfl ?_
    obtain ⟨⟨o2, o3, o4⟩, H⟩ := H
    refine e_imul C dX10_takes_48 ?_
    refine e_iload_n C 3 dX10_takes_49 rfl ?_
    refine e_iadd C dX10_takes_50 ?_
    refine aM_31 C o4 dX10_takes_51 ?_
    refine e_iload_n C 2 dX10_takes_52 rfl ?_
    refine e_icmp_ne C 57 (hw0.2.1 31 _ (by decide)) r2 dX10_takes_53 (by decide) (fun c9 => ?_) (fun c9 => ?_)
    · replace H := H.1 c9
      exact e_sub [0, 1, 2, 3] rfl H
    · replace H := H.2 c9
      exact e_vret C Y hk hn dX10_takes_56 H
set_option maxRecDepth 4000 in
theorem B_X10_takes_57 {g : Gs} {ad : Nat → Nat} {X : Cx} {mc ms k n : Nat} {PQ : Option Value → Mem → Prop} {PX : String → Mem → Prop} {M : Mem} {x1 x2 x3 : Int} (r1 : R32 x1) (r2 : R32 x2) (r3 : R32 x3) (hk : k ≤ mc) (hn : n ≤ ms) (C : OkB (wM g ad) X cX10_takes RX10 5 1 mc ms) (Y : OkR (wM g ad) X none mc ms PQ PX) (H : (0 ≤ x1 ∧ x1 < 2) ∧ ((((M 30 x1) ≠ 4) → E (wM g ad) X k n M 81 [(0, .ref (ad 0)), (1, vI x1), (2, vI x2), (3, vI x3), (4, vI (M 30 x1))] []) ∧ (((M 30 x1) = 4) → PQ none (up M 29 0 1)))) : E (wM g ad) X k n M 57 [(0, .ref (ad 0)), (1, vI x1), (2, vI x2), (3, vI x3)] [] := by
  refine e_wf (fun hw0 => ?_)
  refine e_aload_n C 0 dX10_takes_57 rfl ?_
  refine gM_30 C dX10_takes_58 ?_
  refine e_iload_n C 1 dX10_takes_61 rfl ?_
  obtain ⟨o1, H⟩ := H
  refine aM_30 C o1 dX10_takes_62 ?_
  refine e_iconst C dX10_takes_63 ?_
  refine e_icmp_ne C 73 (hw0.2.1 30 _ (by decide)) (by decide) dX10_takes_64 (by decide) (fun c9 => ?_) (fun c9 => ?_)
  · replace H := H.1 c9
    refine e_aload_n C 0 dX10_takes_73 rfl ?_
    refine gM_30 C dX10_takes_74 ?_
    refine e_iload_n C 1 dX10_takes_77 rfl ?_
    refine aM_30 C o1 dX10_takes_78 ?_
    refine e_istore C dX10_takes_79 (by decide) rfl ?_
    exact e_sub [1, 2, 3, 4, 0] rfl H
  · replace H := H.2 c9
    refine e_aload_n C 0 dX10_takes_67 rfl ?_
    refine e_iconst C dX10_takes_68 ?_
    refine pM_29 C (by decide) dX10_takes_69 ?_
    refine e_wf (fun hw2 => ?_)
    exact e_vret C Y hk hn dX10_takes_72 H
set_option maxRecDepth 4000 in
theorem B_X10_takes_81 {g : Gs} {ad : Nat → Nat} {X : Cx} {mc ms k n : Nat} {PQ : Option Value → Mem → Prop} {PX : String → Mem → Prop} {M : Mem} {x1 x2 x3 x4 : Int} (r1 : R32 x1) (r2 : R32 x2) (r3 : R32 x3) (r4 : R32 x4) (hk : k ≤ mc) (hn : n ≤ ms) (C : OkB (wM g ad) X cX10_takes RX10 5 1 mc ms) (Y : OkR (wM g ad) X none mc ms PQ PX) (H : (((x4 ≤ x3) → ((R32 (4 * x1)) ∧ (R32 ((4 * x1) + x3)) ∧ (0 ≤ (4 * x1) + x3 ∧ (4 * x1) + x3 < 8) ∧ (0 ≤ x1 ∧ x1 < 2) ∧ (R32 ((M 30 x1) + 1))) ∧ PQ none (up (up M 31 ((4 * x1) + x3) x2) 30 x1 ((M 30 x1) + 1))) ∧ ((x3 < x4) → ((R32 (4 * x1)) ∧ (R32 ((4 * x1) + x4)) ∧ (R32 (((4 * x1) + x4) - 1)) ∧ (0 ≤ ((4 * x1) + x4) - 1 ∧ ((4 * x1) + x4) - 1 < 8) ∧ (0 ≤ (4 * x1) + x4 ∧ (4 * x1) + x4 < 8) ∧ (R32 (x4 + (-1)))) ∧ E (wM g ad) X k n (up M 31 ((4 * x1) + x4) (M 31 (((4 * x1) + x4) - 1))) 81 [(0, .ref (ad 0)), (1, vI x1), (2, vI x2), (3, vI x3), (4, vI (x4 + (-1)))] []))) : E (wM g ad) X k n M 81 [(0, .ref (ad 0)), (1, vI x1), (2, vI x2), (3, vI x3), (4, vI x4)] [] := by
  refine e_wf (fun hw0 => ?_)
  refine e_iload C 4 dX10_takes_81 rfl ?_
  refine e_iload_n C 3 dX10_takes_83 rfl ?_
  refine e_icmp_le C 117 r4 r3 dX10_takes_84 (by decide) (fun c9 => ?_) (fun c9 => ?_)
  · replace H := H.1 c9
    refine e_aload_n C 0 dX10_takes_117 rfl ?_
    refine gM_31 C dX10_takes_118 ?_
    refine e_iconst C dX10_takes_121 ?_
    refine e_iload_n C 1 dX10_takes_122 rfl ?_
    obtain ⟨⟨o1, o2, o3, o5, o6⟩, H⟩ := H
    refine e_imul C dX10_takes_123 ?_
    refine e_iload_n C 3 dX10_takes_124 rfl ?_
    refine e_iadd C dX10_takes_125 ?_
    refine e_iload_n C 2 dX10_takes_126 rfl ?_
    refine sM_31 C o3 r2 dX10_takes_127 ?_
    refine e_wf (fun hw4 => ?_)
    refine e_aload_n C 0 dX10_takes_128 rfl ?_
    refine gM_30 C dX10_takes_129 ?_
    refine e_iload_n C 1 dX10_takes_132 rfl ?_
    refine e_dup2 C rfl rfl dX10_takes_133 ?_
    refine aM_30 C o5 dX10_takes_134 ?_
    refine e_iconst C dX10_takes_135 ?_
    refine e_iadd C dX10_takes_136 ?_
    refine sM_30 C o5 o6 dX10_takes_137 ?_
    refine e_wf (fun hw7 => ?_)
    exact e_vret C Y hk hn dX10_takes_138 H
  · replace H := H.2 c9
    refine e_aload_n C 0 dX10_takes_87 rfl ?_
    refine gM_31 C dX10_takes_88 ?_
    refine e_iconst C dX10_takes_91 ?_
    refine e_iload_n C 1 dX10_takes_92 rfl ?_
    obtain ⟨⟨o8, o9, o10, o11, o12, o14⟩, H⟩ := H
    refine e_imul C dX10_takes_93 ?_
    refine e_iload C 4 dX10_takes_94 rfl ?_
    refine e_iadd C dX10_takes_96 ?_
    refine e_aload_n C 0 dX10_takes_97 rfl ?_
    refine gM_31 C dX10_takes_98 ?_
    refine e_iconst C dX10_takes_101 ?_
    refine e_iload_n C 1 dX10_takes_102 rfl ?_
    refine e_imul C dX10_takes_103 ?_
    refine e_iload C 4 dX10_takes_104 rfl ?_
    refine e_iadd C dX10_takes_106 ?_
    refine e_iconst C dX10_takes_107 ?_
    refine e_isub C dX10_takes_108 ?_
    refine aM_31 C o11 dX10_takes_109 ?_
    refine sM_31 C o12 (hw0.2.1 31 _ (by decide)) dX10_takes_110 ?_
    refine e_wf (fun hw13 => ?_)
    refine e_iinc C 4 dX10_takes_111 rfl (by decide) rfl ?_
    refine e_goto C 81 dX10_takes_114 (by decide) ?_
    exact e_sub [1, 2, 3, 4, 0] rfl H
set_option maxRecDepth 4000 in
theorem B_X10_saves_0 {g : Gs} {ad : Nat → Nat} {X : Cx} {mc ms k n : Nat} {PQ : Option Value → Mem → Prop} {PX : String → Mem → Prop} {M : Mem} {x1 : Int} (r1 : R32 x1) (hk : k ≤ mc) (hn : n ≤ ms) (C : OkB (wM g ad) X cX10_saves RX10 3 1 mc ms) (Y : OkR (wM g ad) X none mc ms PQ PX) (H : ((((M 18 0) ≠ 6) → E (wM g ad) X k n M 48 [(0, .ref (ad 0)), (1, vI x1)] []) ∧ (((M 18 0) = 6) → E (wM g ad) X k n M 11 [(0, .ref (ad 0)), (1, vI x1), (2, vI 0)] []))) : E (wM g ad) X k n M 0 [(0, .ref (ad 0)), (1, vI x1)] [] := by
  refine e_wf (fun hw0 => ?_)
  refine e_aload_n C 0 dX10_saves_0 rfl ?_
  refine gM_18 C dX10_saves_1 ?_
  refine e_bipush C dX10_saves_4 (by decide) ?_
  refine e_icmp_ne C 48 (hw0.2.1 18 _ (by decide)) (by decide) dX10_saves_6 (by decide) (fun c9 => ?_) (fun c9 => ?_)
  · replace H := H.1 c9
    exact e_sub [0, 1] rfl H
  · replace H := H.2 c9
    refine e_iconst C dX10_saves_9 ?_
    refine e_istore_n C dX10_saves_10 (by decide) rfl ?_
    exact e_sub [1, 2, 0] rfl H
set_option maxRecDepth 4000 in
theorem B_X10_saves_11 {g : Gs} {ad : Nat → Nat} {X : Cx} {mc ms k n : Nat} {PQ : Option Value → Mem → Prop} {PX : String → Mem → Prop} {M : Mem} {x1 x2 : Int} (r1 : R32 x1) (r2 : R32 x2) (hk : k ≤ mc) (hn : n ≤ ms) (C : OkB (wM g ad) X cX10_saves RX10 3 1 mc ms) (Y : OkR (wM g ad) X none mc ms PQ PX) (H : (((30 ≤ x2) → (R32 ((M 18 0) - 1)) ∧ E (wM g ad) X k n (up M 18 0 ((M 18 0) - 1)) 48 [(0, .ref (ad 0)), (1, vI x1)] []) ∧ ((x2 < 30) → ((R32 (x2 + 6)) ∧ (0 ≤ x2 + 6 ∧ x2 + 6 < 36) ∧ (0 ≤ x2 ∧ x2 < 36) ∧ (R32 (x2 + 1))) ∧ E (wM g ad) X k n (up M 19 x2 (M 19 (x2 + 6))) 11 [(0, .ref (ad 0)), (1, vI x1), (2, vI (x2 + 1))] []))) : E (wM g ad) X k n M 11 [(0, .ref (ad 0)), (1, vI x1), (2, vI x2)] [] := by
  refine e_wf (fun hw0 => ?_)
  refine e_iload_n C 2 dX10_saves_11 rfl ?_
  refine e_bipush C dX10_saves_12 (by decide) ?_
  refine e_icmp_ge C 38 r2 (by decide) dX10_saves_14 (by decide) (fun c9 => ?_) (fun c9 => ?_)
  · replace H := H.1 c9
    refine e_aload_n C 0 dX10_saves_38 rfl ?_
    refine e_dup C rfl dX10_saves_39 ?_
    refine gM_18 C dX10_saves_40 ?_
    refine e_iconst C dX10_saves_43 ?_
    obtain ⟨o1, H⟩ := H
    refine e_isub C dX10_saves_44 ?_
    refine pM_18 C o1 dX10_saves_45 ?_
    refine e_wf (fun hw2 => ?_)
    exact e_sub [0, 1] rfl H
  · replace H := H.2 c9
    refine e_aload_n C 0 dX10_saves_17 rfl ?_
    refine gM_19 C dX10_saves_18 ?_
    refine e_iload_n C 2 dX10_saves_21 rfl ?_
    refine e_aload_n C 0 dX10_saves_22 rfl ?_
    refine gM_19 C dX10_saves_23 ?_
    refine e_iload_n C 2 dX10_saves_26 rfl ?_
    refine e_bipush C dX10_saves_27 (by decide) ?_
    obtain ⟨⟨o3, o4, o5, o7⟩, H⟩ := H
    refine e_iadd C dX10_saves_29 ?_
    refine aM_19 C o4 dX10_saves_30 ?_
    refine sM_19 C o5 (hw0.2.1 19 _ (by decide)) dX10_saves_31 ?_
    refine e_wf (fun hw6 => ?_)
    refine e_iinc C 2 dX10_saves_32 rfl (by decide) rfl ?_
    refine e_goto C 11 dX10_saves_35 (by decide) ?_
    exact e_sub [1, 2, 0] rfl H
set_option maxRecDepth 4000 in
theorem B_X10_saves_48 {g : Gs} {ad : Nat → Nat} {X : Cx} {mc ms k n : Nat} {PQ : Option Value → Mem → Prop} {PX : String → Mem → Prop} {M : Mem} {x1 : Int} (r1 : R32 x1) (hk : k ≤ mc) (hn : n ≤ ms) (C : OkB (wM g ad) X cX10_saves RX10 3 1 mc ms) (Y : OkR (wM g ad) X none mc ms PQ PX) (H : ((R32 (6 * (M 18 0))) ∧ (0 ≤ 6 * (M 18 0) ∧ 6 * (M 18 0) < 36) ∧ (R32 ((6 * (M 18 0)) + 1)) ∧ (0 ≤ (6 * (M 18 0)) + 1 ∧ (6 * (M 18 0)) + 1 < 36)) ∧ E (wM g ad) X k n (up (up M 19 (6 * (M 18 0)) x1) 19 ((6 * (M 18 0)) + 1) (M 16 0)) 81 [(0, .ref (ad 0)), (2, vI 0)] []) : E (wM g ad) X k n M 48 [(0, .ref (ad 0)), (1, vI x1)] [] := by
  refine e_wf (fun hw0 => ?_)
  refine e_aload_n C 0 dX10_saves_48 rfl ?_
  refine gM_19 C dX10_saves_49 ?_
  refine e_bipush C dX10_saves_52 (by decide) ?_
  refine e_aload_n C 0 dX10_saves_54 rfl ?_
  refine gM_18 C dX10_saves_55 ?_
  obtain ⟨⟨o1, o2, o4, o5⟩, H⟩ := H
  refine e_imul C dX10_saves_58 ?_
  refine e_iload_n C 1 dX10_saves_59 rfl ?_
  refine sM_19 C o2 r1 dX10_saves_60 ?_
  refine e_wf (fun hw3 => ?_)
  refine e_aload_n C 0 dX10_saves_61 rfl ?_
  refine gM_19 C dX10_saves_62 ?_
  refine e_bipush C dX10_saves_65 (by decide) ?_
  refine e_aload_n C 0 dX10_saves_67 rfl ?_
  refine gM_18 C dX10_saves_68 ?_
  refine e_imul C dX10_saves_71 ?_
  refine e_iconst C dX10_saves_72 ?_
  refine e_iadd C dX10_saves_73 ?_
  refine e_aload_n C 0 dX10_saves_74 rfl ?_
  refine gM_16 C dX10_saves_75 ?_
  refine sM_19 C o5 (hw0.2.1 16 _ (by decide)) dX10_saves_78 ?_
  refine e_wf (fun hw6 => ?_)
  refine e_iconst C dX10_saves_79 ?_
  refine e_istore_n C dX10_saves_80 (by decide) rfl ?_
  exact e_sub [1, 0] rfl H
set_option maxRecDepth 4000 in
theorem B_X10_saves_81 {g : Gs} {ad : Nat → Nat} {X : Cx} {mc ms k n : Nat} {PQ : Option Value → Mem → Prop} {PX : String → Mem → Prop} {M : Mem} {x2 : Int} (r2 : R32 x2) (hk : k ≤ mc) (hn : n ≤ ms) (C : OkB (wM g ad) X cX10_saves RX10 3 1 mc ms) (Y : OkR (wM g ad) X none mc ms PQ PX) (H : (((4 ≤ x2) → (R32 ((M 18 0) + 1)) ∧ PQ none (up M 18 0 ((M 18 0) + 1))) ∧ ((x2 < 4) → ((R32 (6 * (M 18 0))) ∧ (R32 ((6 * (M 18 0)) + 2)) ∧ (R32 (((6 * (M 18 0)) + 2) + x2)) ∧ (0 ≤ x2 ∧ x2 < 4) ∧ (0 ≤ ((6 * (M 18 0)) + 2) + x2 ∧ ((6 * (M 18 0)) + 2) + x2 < 36) ∧ (R32 (x2 + 1))) ∧ E (wM g ad) X k n (up M 19 (((6 * (M 18 0)) + 2) + x2) (M 17 x2)) 81 [(0, .ref (ad 0)), (2, vI (x2 + 1))] []))) : E (wM g ad) X k n M 81 [(0, .ref (ad 0)), (2, vI x2)] [] := by
  refine e_wf (fun hw0 => ?_)
  refine e_iload_n C 1 dX10_saves_81 rfl ?_
  refine e_iconst C dX10_saves_82 ?_
  refine e_icmp_ge C 114 r2 (by decide) dX10_saves_83 (by decide) (fun c9 => ?_) (fun c9 => ?_)
  · replace H := H.1 c9
    refine e_aload_n C 0 dX10_saves_114 rfl ?_
    refine e_dup C rfl dX10_saves_115 ?_
    refine gM_18 C dX10_saves_116 ?_
    refine e_iconst C dX10_saves_119 ?_
    obtain ⟨o1, H⟩ := H
    refine e_iadd C dX10_saves_120 ?_
    refine pM_18 C o1 dX10_saves_121 ?_
    refine e_wf (fun hw2 => ?_)
    exact e_vret C Y hk hn dX10_saves_124 H
  · replace H := H.2 c9
    refine e_aload_n C 0 dX10_saves_86 rfl ?_
    refine gM_19 C dX10_saves_87 ?_
    refine e_bipush C dX10_saves_90 (by decide) ?_
    refine e_aload_n C 0 dX10_saves_92 rfl ?_
    refine gM_18 C dX10_saves_93 ?_
    obtain ⟨⟨o3, o4, o5, o6, o7, o9⟩, H⟩ := H
    refine e_imul C dX10_saves_96 ?_
    refine e_iconst C dX10_saves_97 ?_
    refine e_iadd C dX10_saves_98 ?_
    refine e_iload_n C 1 dX10_saves_99 rfl ?_
    refine e_iadd C dX10_saves_100 ?_
    refine e_aload_n C 0 dX10_saves_101 rfl ?_
    refine gM_17 C dX10_saves_102 ?_
    refine e_iload_n C 1 dX10_saves_105 rfl ?_
    refine aM_17 C o6 dX10_saves_106 ?_
    refine sM_19 C o7 (hw0.2.1 17 _ (by decide)) dX10_saves_107 ?_
    refine e_wf (fun hw8 => ?_)
    refine e_iinc C 1 dX10_saves_108 rfl (by decide) rfl ?_
    refine e_goto C 81 dX10_saves_111 (by decide) ?_
    exact e_sub [1, 0] rfl H
set_option maxRecDepth 4000 in
theorem B_X10_games_0 {g : Gs} {ad : Nat → Nat} {X : Cx} {mc ms k n : Nat} {PQ : Option Value → Mem → Prop} {PX : String → Mem → Prop} {M : Mem}  (hk : k ≤ mc) (hn : n ≤ ms) (C : OkB (wM g ad) X cX10_games RX10 1 1 mc ms) (Y : OkR (wM g ad) X (some .int) mc ms PQ PX) (H : PQ (some (vI (M 0 0))) (up M 20 0 0)) : E (wM g ad) X k n M 0 [(0, .ref (ad 0))] [] := by
  refine e_wf (fun hw0 => ?_)
  refine e_aload_n C 0 dX10_games_0 rfl ?_
  refine e_iconst C dX10_games_1 ?_
  refine pM_20 C (by decide) dX10_games_2 ?_
  refine e_wf (fun hw1 => ?_)
  refine e_aload_n C 0 dX10_games_5 rfl ?_
  refine gM_0 C dX10_games_6 ?_
  exact e_iret C Y hk hn dX10_games_9 H
set_option maxRecDepth 4000 in
theorem B_X10_clearDraft_0 {g : Gs} {ad : Nat → Nat} {X : Cx} {mc ms k n : Nat} {PQ : Option Value → Mem → Prop} {PX : String → Mem → Prop} {M : Mem}  (hk : k ≤ mc) (hn : n ≤ ms) (C : OkB (wM g ad) X cX10_clearDraft RX10 2 1 mc ms) (Y : OkR (wM g ad) X (some .int) mc ms PQ PX) (H : (R32 ((M 21 0) + (M 21 1))) ∧ PQ (some (vI ((M 21 0) + (M 21 1)))) (up (up (up M 20 0 0) 21 0 0) 21 1 0)) : E (wM g ad) X k n M 0 [(0, .ref (ad 0))] [] := by
  refine e_wf (fun hw0 => ?_)
  refine e_aload_n C 0 dX10_clearDraft_0 rfl ?_
  refine e_iconst C dX10_clearDraft_1 ?_
  refine pM_20 C (by decide) dX10_clearDraft_2 ?_
  refine e_wf (fun hw1 => ?_)
  refine e_aload_n C 0 dX10_clearDraft_5 rfl ?_
  refine gM_21 C dX10_clearDraft_6 ?_
  refine e_iconst C dX10_clearDraft_9 ?_
  refine aM_21 C (by decide) dX10_clearDraft_10 ?_
  refine e_aload_n C 0 dX10_clearDraft_11 rfl ?_
  refine gM_21 C dX10_clearDraft_12 ?_
  refine e_iconst C dX10_clearDraft_15 ?_
  refine aM_21 C (by decide) dX10_clearDraft_16 ?_
  obtain ⟨o2, H⟩ := H
  refine e_iadd C dX10_clearDraft_17 ?_
  refine e_istore_n C dX10_clearDraft_18 (by decide) rfl ?_
  refine e_aload_n C 1 dX10_clearDraft_19 rfl ?_
  refine gM_21 C dX10_clearDraft_20 ?_
  refine e_iconst C dX10_clearDraft_23 ?_
  refine e_iconst C dX10_clearDraft_24 ?_
  refine sM_21 C (by decide) (by decide) dX10_clearDraft_25 ?_
  refine e_wf (fun hw3 => ?_)
  refine e_aload_n C 1 dX10_clearDraft_26 rfl ?_
  refine gM_21 C dX10_clearDraft_27 ?_
  refine e_iconst C dX10_clearDraft_30 ?_
  refine e_iconst C dX10_clearDraft_31 ?_
  refine sM_21 C (by decide) (by decide) dX10_clearDraft_32 ?_
  refine e_wf (fun hw4 => ?_)
  refine e_iload_n C 0 dX10_clearDraft_33 rfl ?_
  exact e_iret C Y hk hn dX10_clearDraft_34 H
set_option maxRecDepth 4000 in
theorem B_X10_components_0 {g : Gs} {ad : Nat → Nat} {X : Cx} {mc ms k n : Nat} {PQ : Option Value → Mem → Prop} {PX : String → Mem → Prop} {M : Mem}  (hk : k ≤ mc) (hn : n ≤ ms) (C : OkB (wM g ad) X cX10_components RX10 1 1 mc ms) (Y : OkR (wM g ad) X (some .int) mc ms PQ PX) (H : PQ (some (vI (M 16 0))) (up M 20 0 0)) : E (wM g ad) X k n M 0 [(0, .ref (ad 0))] [] := by
  refine e_wf (fun hw0 => ?_)
  refine e_aload_n C 0 dX10_components_0 rfl ?_
  refine e_iconst C dX10_components_1 ?_
  refine pM_20 C (by decide) dX10_components_2 ?_
  refine e_wf (fun hw1 => ?_)
  refine e_aload_n C 0 dX10_components_5 rfl ?_
  refine gM_16 C dX10_components_6 ?_
  exact e_iret C Y hk hn dX10_components_9 H
set_option maxRecDepth 4000 in
theorem B_X10_plays_0 {g : Gs} {ad : Nat → Nat} {X : Cx} {mc ms k n : Nat} {PQ : Option Value → Mem → Prop} {PX : String → Mem → Prop} {M : Mem}  (hk : k ≤ mc) (hn : n ≤ ms) (C : OkB (wM g ad) X cX10_plays RX10 2 1 mc ms) (Y : OkR (wM g ad) X none mc ms PQ PX) (H : E (wM g ad) X k n M 2 [(0, .ref (ad 0)), (1, vI 0)] []) : E (wM g ad) X k n M 0 [(0, .ref (ad 0))] [] := by
  refine e_wf (fun hw0 => ?_)
  refine e_iconst C dX10_plays_0 ?_
  refine e_istore_n C dX10_plays_1 (by decide) rfl ?_
  exact e_sub [1, 0] rfl H
set_option maxRecDepth 4000 in
theorem B_X10_plays_2 {g : Gs} {ad : Nat → Nat} {X : Cx} {mc ms k n : Nat} {PQ : Option Value → Mem → Prop} {PX : String → Mem → Prop} {M : Mem} {x1 : Int} (r1 : R32 x1) (hk : k ≤ mc) (hn : n ≤ ms) (C : OkB (wM g ad) X cX10_plays RX10 2 1 mc ms) (Y : OkR (wM g ad) X none mc ms PQ PX) (H : ((((M 16 0) ≤ x1) → PQ none M) ∧ ((x1 < (M 16 0)) → ((0 ≤ x1 ∧ x1 < 4) ∧ (R32 (x1 + 1))) ∧ E (wM g ad) X k n (up M 38 x1 (M 17 x1)) 2 [(0, .ref (ad 0)), (1, vI (x1 + 1))] []))) : E (wM g ad) X k n M 2 [(0, .ref (ad 0)), (1, vI x1)] [] := by
  refine e_wf (fun hw0 => ?_)
  refine e_iload_n C 1 dX10_plays_2 rfl ?_
  refine e_aload_n C 0 dX10_plays_3 rfl ?_
  refine gM_16 C dX10_plays_4 ?_
  refine e_icmp_ge C 28 r1 (hw0.2.1 16 _ (by decide)) dX10_plays_7 (by decide) (fun c9 => ?_) (fun c9 => ?_)
  · replace H := H.1 c9
    exact e_vret C Y hk hn dX10_plays_28 H
  · replace H := H.2 c9
    refine e_aload_n C 0 dX10_plays_10 rfl ?_
    refine gM_38 C dX10_plays_11 ?_
    refine e_iload_n C 1 dX10_plays_14 rfl ?_
    refine e_aload_n C 0 dX10_plays_15 rfl ?_
    refine gM_17 C dX10_plays_16 ?_
    refine e_iload_n C 1 dX10_plays_19 rfl ?_
    obtain ⟨⟨o1, o3⟩, H⟩ := H
    refine aM_17 C o1 dX10_plays_20 ?_
    refine sM_38 C o1 (hw0.2.1 17 _ (by decide)) dX10_plays_21 ?_
    refine e_wf (fun hw2 => ?_)
    refine e_iinc C 1 dX10_plays_22 rfl (by decide) rfl ?_
    refine e_goto C 2 dX10_plays_25 (by decide) ?_
    exact e_sub [1, 0] rfl H
set_option maxRecDepth 4000 in
theorem B_X10_weight_0 {g : Gs} {ad : Nat → Nat} {X : Cx} {mc ms k n : Nat} {PQ : Option Value → Mem → Prop} {PX : String → Mem → Prop} {M : Mem} {x1 : Int} (r1 : R32 x1) (hk : k ≤ mc) (hn : n ≤ ms) (C : OkB (wM g ad) X cX10_weight RX10 4 1 mc ms) (Y : OkR (wM g ad) X (some .int) mc ms PQ PX) (H : E (wM g ad) X k n M 4 [(0, .ref (ad 0)), (1, vI x1), (2, vI 1), (3, vI 0)] []) : E (wM g ad) X k n M 0 [(0, .ref (ad 0)), (1, vI x1)] [] := by
  refine e_wf (fun hw0 => ?_)
  refine e_iconst C dX10_weight_0 ?_
  refine e_istore_n C dX10_weight_1 (by decide) rfl ?_
  refine e_iconst C dX10_weight_2 ?_
  refine e_istore_n C dX10_weight_3 (by decide) rfl ?_
  exact e_sub [2, 3, 1, 0] rfl H
set_option maxRecDepth 4000 in
theorem B_X10_weight_4 {g : Gs} {ad : Nat → Nat} {X : Cx} {mc ms k n : Nat} {PQ : Option Value → Mem → Prop} {PX : String → Mem → Prop} {M : Mem} {x1 x2 x3 : Int} (r1 : R32 x1) (r2 : R32 x2) (r3 : R32 x3) (hk : k ≤ mc) (hn : n ≤ ms) (C : OkB (wM g ad) X cX10_weight RX10 4 1 mc ms) (Y : OkR (wM g ad) X (some .int) mc ms PQ PX) (H : (((x1 ≤ x3) → PQ (some (vI x2)) M) ∧ ((x3 < x1) → ((0 ≤ x3 ∧ x3 < 4) ∧ (R32 (x2 * (M 39 x3))) ∧ (R32 (x3 + 1))) ∧ E (wM g ad) X k n M 4 [(0, .ref (ad 0)), (1, vI x1), (2, vI (x2 * (M 39 x3))), (3, vI (x3 + 1))] []))) : E (wM g ad) X k n M 4 [(0, .ref (ad 0)), (1, vI x1), (2, vI x2), (3, vI x3)] [] := by
  refine e_wf (fun hw0 => ?_)
  refine e_iload_n C 3 dX10_weight_4 rfl ?_
  refine e_iload_n C 1 dX10_weight_5 rfl ?_
  refine e_icmp_ge C 24 r3 r1 dX10_weight_6 (by decide) (fun c9 => ?_) (fun c9 => ?_)
  · replace H := H.1 c9
    refine e_iload_n C 2 dX10_weight_24 rfl ?_
    exact e_iret C Y hk hn dX10_weight_25 H
  · replace H := H.2 c9
    refine e_iload_n C 2 dX10_weight_9 rfl ?_
    refine e_aload_n C 0 dX10_weight_10 rfl ?_
    refine gM_39 C dX10_weight_11 ?_
    refine e_iload_n C 3 dX10_weight_14 rfl ?_
    obtain ⟨⟨o1, o2, o3⟩, H⟩ := H
    refine aM_39 C o1 dX10_weight_15 ?_
    refine e_imul C dX10_weight_16 ?_
    refine e_istore_n C dX10_weight_17 (by decide) rfl ?_
    refine e_iinc C 3 dX10_weight_18 rfl (by decide) rfl ?_
    refine e_goto C 4 dX10_weight_21 (by decide) ?_
    exact e_sub [2, 3, 1, 0] rfl H
set_option maxRecDepth 4000 in
theorem B_X10_isOver_0 {g : Gs} {ad : Nat → Nat} {X : Cx} {mc ms k n : Nat} {PQ : Option Value → Mem → Prop} {PX : String → Mem → Prop} {M : Mem}  (hk : k ≤ mc) (hn : n ≤ ms) (C : OkB (wM g ad) X cX10_isOver RX10 3 1 mc ms) (Y : OkR (wM g ad) X (some .boolean) mc ms PQ PX) (H : E (wM g ad) X k n M 4 [(0, .ref (ad 0)), (1, vI 1), (2, vI 0)] []) : E (wM g ad) X k n M 0 [(0, .ref (ad 0))] [] := by
  refine e_wf (fun hw0 => ?_)
  refine e_iconst C dX10_isOver_0 ?_
  refine e_istore_n C dX10_isOver_1 (by decide) rfl ?_
  refine e_iconst C dX10_isOver_2 ?_
  refine e_istore_n C dX10_isOver_3 (by decide) rfl ?_
  exact e_sub [2, 1, 0] rfl H
set_option maxRecDepth 4000 in
theorem B_X10_isOver_4 {g : Gs} {ad : Nat → Nat} {X : Cx} {mc ms k n : Nat} {PQ : Option Value → Mem → Prop} {PX : String → Mem → Prop} {M : Mem} {x1 x2 : Int} (r1 : R32 x1) (r2 : R32 x2) (hk : k ≤ mc) (hn : n ≤ ms) (C : OkB (wM g ad) X cX10_isOver RX10 3 1 mc ms) (Y : OkR (wM g ad) X (some .boolean) mc ms PQ PX) (H : ((((M 16 0) ≤ x2) → (x1 = 0 ∨ x1 = 1) ∧ PQ (some (vI x1)) M) ∧ ((x2 < (M 16 0)) → (((x1 = 0) → (R32 (x2 + 1)) ∧ E (wM g ad) X k n M 4 [(0, .ref (ad 0)), (1, vI 0), (2, vI (x2 + 1))] []) ∧ ((x1 ≠ 0) → ((0 ≤ x2 ∧ x2 < 4) ∧ (0 ≤ M 38 x2 ∧ M 38 x2 < 40)) ∧ ((((M 6 (M 38 x2)) = 0) → (R32 (x2 + 1)) ∧ E (wM g ad) X k n M 4 [(0, .ref (ad 0)), (1, vI 0), (2, vI (x2 + 1))] []) ∧ (((M 6 (M 38 x2)) ≠ 0) → (R32 (x2 + 1)) ∧ E (wM g ad) X k n M 4 [(0, .ref (ad 0)), (1, vI 1), (2, vI (x2 + 1))] []))))))) : E (wM g ad) X k n M 4 [(0, .ref (ad 0)), (1, vI x1), (2, vI x2)] [] := by
  refine e_wf (fun hw0 => ?_)
  refine e_iload_n C 2 dX10_isOver_4 rfl ?_
  refine e_aload_n C 0 dX10_isOver_5 rfl ?_
  refine gM_16 C dX10_isOver_6 ?_
  refine e_icmp_ge C 42 r2 (hw0.2.1 16 _ (by decide)) dX10_isOver_9 (by decide) (fun c9 => ?_) (fun c9 => ?_)
  · replace H := H.1 c9
    refine e_iload_n C 1 dX10_isOver_42 rfl ?_
    obtain ⟨o1, H⟩ := H
    exact e_zret C Y hk hn o1 dX10_isOver_43 H
  · replace H := H.2 c9
    refine e_iload_n C 1 dX10_isOver_12 rfl ?_
    refine e_if_eq C 34 r1 dX10_isOver_13 (by decide) (fun c9 => ?_) (fun c9 => ?_)
    · replace H := H.1 c9
      refine e_iconst C dX10_isOver_34 ?_
      refine e_istore_n C dX10_isOver_35 (by decide) rfl ?_
      obtain ⟨o2, H⟩ := H
      refine e_iinc C 2 dX10_isOver_36 rfl (by decide) rfl ?_
      refine e_goto C 4 dX10_isOver_39 (by decide) ?_
      exact e_sub [2, 1, 0] rfl H
    · replace H := H.2 c9
      refine e_aload_n C 0 dX10_isOver_16 rfl ?_
      refine gM_6 C dX10_isOver_17 ?_
      refine e_aload_n C 0 dX10_isOver_20 rfl ?_
      refine gM_38 C dX10_isOver_21 ?_
      refine e_iload_n C 2 dX10_isOver_24 rfl ?_
      obtain ⟨⟨o3, o4⟩, H⟩ := H
      refine aM_38 C o3 dX10_isOver_25 ?_
      refine aM_6 C o4 dX10_isOver_26 ?_
      refine e_if_eq C 34 (hw0.2.1 6 _ (by decide)) dX10_isOver_27 (by decide) (fun c9 => ?_) (fun c9 => ?_)
      · replace H := H.1 c9
        refine e_iconst C dX10_isOver_34 ?_
        refine e_istore_n C dX10_isOver_35 (by decide) rfl ?_
        obtain ⟨o5, H⟩ := H
        refine e_iinc C 2 dX10_isOver_36 rfl (by decide) rfl ?_
        refine e_goto C 4 dX10_isOver_39 (by decide) ?_
        exact e_sub [2, 1, 0] rfl H
      · replace H := H.2 c9
        refine e_iconst C dX10_isOver_30 ?_
        refine e_goto C 35 dX10_isOver_31 (by decide) ?_
        refine e_istore_n C dX10_isOver_35 (by decide) rfl ?_
        obtain ⟨o6, H⟩ := H
        refine e_iinc C 2 dX10_isOver_36 rfl (by decide) rfl ?_
        refine e_goto C 4 dX10_isOver_39 (by decide) ?_
        exact e_sub [2, 1, 0] rfl H
set_option maxRecDepth 4000 in
theorem B_X10_hottest_0 {g : Gs} {ad : Nat → Nat} {X : Cx} {mc ms k n : Nat} {PQ : Option Value → Mem → Prop} {PX : String → Mem → Prop} {M : Mem}  (hk : k ≤ mc) (hn : n ≤ ms) (C : OkB (wM g ad) X cX10_hottest RX10 3 1 mc ms) (Y : OkR (wM g ad) X (some .int) mc ms PQ PX) (H : E (wM g ad) X k n M 4 [(0, .ref (ad 0)), (1, vI (-1)), (2, vI 0)] []) : E (wM g ad) X k n M 0 [(0, .ref (ad 0))] [] := by
  refine e_wf (fun hw0 => ?_)
  refine e_iconst C dX10_hottest_0 ?_
  refine e_istore_n C dX10_hottest_1 (by decide) rfl ?_
  refine e_iconst C dX10_hottest_2 ?_
  refine e_istore_n C dX10_hottest_3 (by decide) rfl ?_
  exact e_sub [2, 1, 0] rfl H
set_option maxRecDepth 4000 in
theorem B_X10_hottest_4 {g : Gs} {ad : Nat → Nat} {X : Cx} {mc ms k n : Nat} {PQ : Option Value → Mem → Prop} {PX : String → Mem → Prop} {M : Mem} {x1 x2 : Int} (r1 : R32 x1) (r2 : R32 x2) (hk : k ≤ mc) (hn : n ≤ ms) (C : OkB (wM g ad) X cX10_hottest RX10 3 1 mc ms) (Y : OkR (wM g ad) X (some .int) mc ms PQ PX) (H : ((((M 16 0) ≤ x2) → PQ (some (vI x1)) M) ∧ ((x2 < (M 16 0)) → ((0 ≤ x2 ∧ x2 < 4) ∧ (0 ≤ M 38 x2 ∧ M 38 x2 < 40)) ∧ ((((M 6 (M 38 x2)) ≠ 0) → (R32 (x2 + 1)) ∧ E (wM g ad) X k n M 4 [(0, .ref (ad 0)), (1, vI x1), (2, vI (x2 + 1))] []) ∧ (((M 6 (M 38 x2)) = 0) → (((x1 = (-1)) → (R32 (x2 + 1)) ∧ E (wM g ad) X k n M 4 [(0, .ref (ad 0)), (1, vI x2), (2, vI (x2 + 1))] []) ∧ ((x1 ≠ (-1)) → ((0 ≤ x1 ∧ x1 < 4) ∧ (0 ≤ M 38 x1 ∧ M 38 x1 < 40)) ∧ ((((M 14 (M 38 x2)) ≤ (M 14 (M 38 x1))) → (R32 (x2 + 1)) ∧ E (wM g ad) X k n M 4 [(0, .ref (ad 0)), (1, vI x1), (2, vI (x2 + 1))] []) ∧ (((M 14 (M 38 x1)) < (M 14 (M 38 x2))) → (R32 (x2 + 1)) ∧ E (wM g ad) X k n M 4 [(0, .ref (ad 0)), (1, vI x2), (2, vI (x2 + 1))] []))))))))) : E (wM g ad) X k n M 4 [(0, .ref (ad 0)), (1, vI x1), (2, vI x2)] [] := by
  refine e_wf (fun hw0 => ?_)
  refine e_iload_n C 2 dX10_hottest_4 rfl ?_
  refine e_aload_n C 0 dX10_hottest_5 rfl ?_
  refine gM_16 C dX10_hottest_6 ?_
  refine e_icmp_ge C 64 r2 (hw0.2.1 16 _ (by decide)) dX10_hottest_9 (by decide) (fun c9 => ?_) (fun c9 => ?_)
  · replace H := H.1 c9
    refine e_iload_n C 1 dX10_hottest_64 rfl ?_
    exact e_iret C Y hk hn dX10_hottest_65 H
  · replace H := H.2 c9
    refine e_aload_n C 0 dX10_hottest_12 rfl ?_
    refine gM_6 C dX10_hottest_13 ?_
    refine e_aload_n C 0 dX10_hottest_16 rfl ?_
    refine gM_38 C dX10_hottest_17 ?_
    refine e_iload_n C 2 dX10_hottest_20 rfl ?_
    obtain ⟨⟨o1, o2⟩, H⟩ := H
    refine aM_38 C o1 dX10_hottest_21 ?_
    refine aM_6 C o2 dX10_hottest_22 ?_
    refine e_if_ne C 58 (hw0.2.1 6 _ (by decide)) dX10_hottest_23 (by decide) (fun c9 => ?_) (fun c9 => ?_)
    · replace H := H.1 c9
      obtain ⟨o3, H⟩ := H
      refine e_iinc C 2 dX10_hottest_58 rfl (by decide) rfl ?_
      refine e_goto C 4 dX10_hottest_61 (by decide) ?_
      exact e_sub [1, 2, 0] rfl H
    · replace H := H.2 c9
      refine e_iload_n C 1 dX10_hottest_26 rfl ?_
      refine e_iconst C dX10_hottest_27 ?_
      refine e_icmp_eq C 56 r1 (by decide) dX10_hottest_28 (by decide) (fun c9 => ?_) (fun c9 => ?_)
      · replace H := H.1 c9
        refine e_iload_n C 2 dX10_hottest_56 rfl ?_
        refine e_istore_n C dX10_hottest_57 (by decide) rfl ?_
        obtain ⟨o4, H⟩ := H
        refine e_iinc C 2 dX10_hottest_58 rfl (by decide) rfl ?_
        refine e_goto C 4 dX10_hottest_61 (by decide) ?_
        exact e_sub [2, 1, 0] rfl H
      · replace H := H.2 c9
        refine e_aload_n C 0 dX10_hottest_31 rfl ?_
        refine gM_14 C dX10_hottest_32 ?_
        refine e_aload_n C 0 dX10_hottest_35 rfl ?_
        refine gM_38 C dX10_hottest_36 ?_
        refine e_iload_n C 2 dX10_hottest_39 rfl ?_
        refine aM_38 C o1 dX10_hottest_40 ?_
        refine aM_14 C o2 dX10_hottest_41 ?_
        refine e_aload_n C 0 dX10_hottest_42 rfl ?_
        refine gM_14 C dX10_hottest_43 ?_
        refine e_aload_n C 0 dX10_hottest_46 rfl ?_
        refine gM_38 C dX10_hottest_47 ?_
        refine e_iload_n C 1 dX10_hottest_50 rfl ?_
        obtain ⟨⟨o5, o6⟩, H⟩ := H
        refine aM_38 C o5 dX10_hottest_51 ?_
        refine aM_14 C o6 dX10_hottest_52 ?_
        refine e_icmp_le C 58 (hw0.2.1 14 _ (by decide)) (hw0.2.1 14 _ (by decide)) dX10_hottest_53 (by decide) (fun c9 => ?_) (fun c9 => ?_)
        · replace H := H.1 c9
          obtain ⟨o7, H⟩ := H
          refine e_iinc C 2 dX10_hottest_58 rfl (by decide) rfl ?_
          refine e_goto C 4 dX10_hottest_61 (by decide) ?_
          exact e_sub [1, 2, 0] rfl H
        · replace H := H.2 c9
          refine e_iload_n C 2 dX10_hottest_56 rfl ?_
          refine e_istore_n C dX10_hottest_57 (by decide) rfl ?_
          obtain ⟨o8, H⟩ := H
          refine e_iinc C 2 dX10_hottest_58 rfl (by decide) rfl ?_
          refine e_goto C 4 dX10_hottest_61 (by decide) ?_
          exact e_sub [2, 1, 0] rfl H
set_option maxRecDepth 4000 in
theorem B_X10_clearText_0 {g : Gs} {ad : Nat → Nat} {X : Cx} {mc ms k n : Nat} {PQ : Option Value → Mem → Prop} {PX : String → Mem → Prop} {M : Mem}  (hk : k ≤ mc) (hn : n ≤ ms) (C : OkB (wM g ad) X cX10_clearText RX10 2 1 mc ms) (Y : OkR (wM g ad) X (some .int) mc ms PQ PX) (H : PQ (some (vI (M 24 0))) (up (up M 20 0 0) 24 0 0)) : E (wM g ad) X k n M 0 [(0, .ref (ad 0))] [] := by
  refine e_wf (fun hw0 => ?_)
  refine e_aload_n C 0 dX10_clearText_0 rfl ?_
  refine e_iconst C dX10_clearText_1 ?_
  refine pM_20 C (by decide) dX10_clearText_2 ?_
  refine e_wf (fun hw1 => ?_)
  refine e_aload_n C 0 dX10_clearText_5 rfl ?_
  refine gM_24 C dX10_clearText_6 ?_
  refine e_istore_n C dX10_clearText_9 (by decide) rfl ?_
  refine e_aload_n C 1 dX10_clearText_10 rfl ?_
  refine e_iconst C dX10_clearText_11 ?_
  refine pM_24 C (by decide) dX10_clearText_12 ?_
  refine e_wf (fun hw2 => ?_)
  refine e_iload_n C 0 dX10_clearText_15 rfl ?_
  exact e_iret C Y hk hn dX10_clearText_16 H
set_option maxRecDepth 4000 in
theorem B_X10_charAt_0 {g : Gs} {ad : Nat → Nat} {X : Cx} {mc ms k n : Nat} {PQ : Option Value → Mem → Prop} {PX : String → Mem → Prop} {M : Mem} {x1 : Int} (r1 : R32 x1) (hk : k ≤ mc) (hn : n ≤ ms) (C : OkB (wM g ad) X cX10_charAt RX10 2 1 mc ms) (Y : OkR (wM g ad) X (some .int) mc ms PQ PX) (H : ((((M 24 0) ≤ x1) → PQ (some (vI 0)) M) ∧ ((x1 < (M 24 0)) → (0 ≤ x1 ∧ x1 < 80) ∧ PQ (some (vI (M 23 x1))) M))) : E (wM g ad) X k n M 0 [(0, .ref (ad 0)), (1, vI x1)] [] := by
  refine e_wf (fun hw0 => ?_)
  refine e_iload_n C 1 dX10_charAt_0 rfl ?_
  refine e_aload_n C 0 dX10_charAt_1 rfl ?_
  refine gM_24 C dX10_charAt_2 ?_
  refine e_icmp_ge C 17 r1 (hw0.2.1 24 _ (by decide)) dX10_charAt_5 (by decide) (fun c9 => ?_) (fun c9 => ?_)
  · replace H := H.1 c9
    refine e_iconst C dX10_charAt_17 ?_
    exact e_iret C Y hk hn dX10_charAt_18 H
  · replace H := H.2 c9
    refine e_aload_n C 0 dX10_charAt_8 rfl ?_
    refine gM_23 C dX10_charAt_9 ?_
    refine e_iload_n C 1 dX10_charAt_12 rfl ?_
    obtain ⟨o1, H⟩ := H
    refine aM_23 C o1 dX10_charAt_13 ?_
    refine e_goto C 18 dX10_charAt_14 (by decide) ?_
    exact e_iret C Y hk hn dX10_charAt_18 H
set_option maxRecDepth 4000 in
theorem B_X10_named_0 {g : Gs} {ad : Nat → Nat} {X : Cx} {mc ms k n : Nat} {PQ : Option Value → Mem → Prop} {PX : String → Mem → Prop} {M : Mem}  (hk : k ≤ mc) (hn : n ≤ ms) (C : OkB (wM g ad) X cX10_named RX10 6 1 mc ms) (Y : OkR (wM g ad) X (some .int) mc ms PQ PX) (H : (R32 ((M 45 0) - (M 44 0))) ∧ E (wM g ad) X k n M 17 [(0, .ref (ad 0)), (1, vI ((M 45 0) - (M 44 0))), (2, vI 0), (3, vI (M 44 0))] []) : E (wM g ad) X k n M 0 [(0, .ref (ad 0))] [] := by
  refine e_wf (fun hw0 => ?_)
  refine e_aload_n C 0 dX10_named_0 rfl ?_
  refine gM_45 C dX10_named_1 ?_
  refine e_aload_n C 0 dX10_named_4 rfl ?_
  refine gM_44 C dX10_named_5 ?_
  obtain ⟨o1, H⟩ := H
  refine e_isub C dX10_named_8 ?_
  refine e_istore_n C dX10_named_9 (by decide) rfl ?_
  refine e_iconst C dX10_named_10 ?_
  refine e_istore_n C dX10_named_11 (by decide) rfl ?_
  refine e_aload_n C 2 dX10_named_12 rfl ?_
  refine gM_44 C dX10_named_13 ?_
  refine e_istore_n C dX10_named_16 (by decide) rfl ?_
  exact e_sub [3, 2, 1, 0] rfl H
set_option maxRecDepth 4000 in
theorem B_X10_named_17 {g : Gs} {ad : Nat → Nat} {X : Cx} {mc ms k n : Nat} {PQ : Option Value → Mem → Prop} {PX : String → Mem → Prop} {M : Mem} {x1 x2 x3 : Int} (r1 : R32 x1) (r2 : R32 x2) (r3 : R32 x3) (hk : k ≤ mc) (hn : n ≤ ms) (C : OkB (wM g ad) X cX10_named RX10 6 1 mc ms) (Y : OkR (wM g ad) X (some .int) mc ms PQ PX) (H : ((((M 45 0) ≤ x3) → (((x2 ≠ 388602) → (((x2 ≠ 583) → (((x2 ≠ 90302) → PQ (some (vI 6)) M) ∧ ((x2 = 90302) → PQ (some (vI 3)) M))) ∧ ((x2 = 583) → PQ (some (vI 2)) M))) ∧ ((x2 = 388602) → PQ (some (vI 1)) M))) ∧ ((x3 < (M 45 0)) → (((x1 ≤ 4) → ((R32 (27 * x2)) ∧ (0 ≤ x3 ∧ x3 < 80) ∧ (R32 ((27 * x2) + (M 23 x3))) ∧ (R32 (((27 * x2) + (M 23 x3)) - 96)) ∧ (R32 (x3 + 1))) ∧ E (wM g ad) X k n M 17 [(0, .ref (ad 0)), (1, vI x1), (2, vI (((27 * x2) + (M 23 x3)) - 96)), (3, vI (x3 + 1))] []) ∧ ((4 < x1) → (R32 (x3 + 1)) ∧ E (wM g ad) X k n M 17 [(0, .ref (ad 0)), (1, vI x1), (2, vI 0), (3, vI (x3 + 1))] []))))) : E (wM g ad) X k n M 17 [(0, .ref (ad 0)), (1, vI x1), (2, vI x2), (3, vI x3)] [] := by
  refine e_wf (fun hw0 => ?_)
  refine e_iload_n C 3 dX10_named_17 rfl ?_
  refine e_aload_n C 0 dX10_named_18 rfl ?_
  refine gM_45 C dX10_named_19 ?_
  refine e_icmp_ge C 55 r3 (hw0.2.1 45 _ (by decide)) dX10_named_22 (by decide) (fun c9 => ?_) (fun c9 => ?_)
  · replace H := H.1 c9
    refine e_ldcw C (v := 388602) (tg7 201 rfl rfl) (by decide) dX10_named_55 ?_
    refine e_istore_n C dX10_named_58 (by decide) rfl ?_
    refine e_sipush C dX10_named_59 (by decide) ?_
    refine e_istore C dX10_named_62 (by decide) rfl ?_
    refine e_ldcw C (v := 90302) (tg7 202 rfl rfl) (by decide) dX10_named_64 ?_
    refine e_istore C dX10_named_67 (by decide) rfl ?_
    refine e_iload_n C 5 dX10_named_69 rfl ?_
    refine e_iload_n C 2 dX10_named_70 rfl ?_
    refine e_icmp_ne C 78 r2 (by decide) dX10_named_71 (by decide) (fun c9 => ?_) (fun c9 => ?_)
    · replace H := H.1 c9
      refine e_iload_n C 5 dX10_named_78 rfl ?_
      refine e_iload C 1 dX10_named_79 rfl ?_
      refine e_icmp_ne C 88 r2 (by decide) dX10_named_81 (by decide) (fun c9 => ?_) (fun c9 => ?_)
      · replace H := H.1 c9
        refine e_iload_n C 5 dX10_named_88 rfl ?_
        refine e_iload C 0 dX10_named_89 rfl ?_
        refine e_icmp_ne C 98 r2 (by decide) dX10_named_91 (by decide) (fun c9 => ?_) (fun c9 => ?_)
        · replace H := H.1 c9
          refine e_bipush C dX10_named_98 (by decide) ?_
          exact e_iret C Y hk hn dX10_named_100 H
        · replace H := H.2 c9
          refine e_iconst C dX10_named_94 ?_
          refine e_goto C 100 dX10_named_95 (by decide) ?_
          exact e_iret C Y hk hn dX10_named_100 H
      · replace H := H.2 c9
        refine e_iconst C dX10_named_84 ?_
        refine e_goto C 100 dX10_named_85 (by decide) ?_
        exact e_iret C Y hk hn dX10_named_100 H
    · replace H := H.2 c9
      refine e_iconst C dX10_named_74 ?_
      refine e_goto C 100 dX10_named_75 (by decide) ?_
      exact e_iret C Y hk hn dX10_named_100 H
  · replace H := H.2 c9
    refine e_iload_n C 1 dX10_named_25 rfl ?_
    refine e_iconst C dX10_named_26 ?_
    refine e_icmp_le C 34 r1 (by decide) dX10_named_27 (by decide) (fun c9 => ?_) (fun c9 => ?_)
    · replace H := H.1 c9
      refine e_bipush C dX10_named_34 (by decide) ?_
      refine e_iload_n C 2 dX10_named_36 rfl ?_
      obtain ⟨⟨o1, o2, o3, o4, o5⟩, H⟩ := H
      refine e_imul C dX10_named_37 ?_
      refine e_aload_n C 0 dX10_named_38 rfl ?_
      refine gM_23 C dX10_named_39 ?_
      refine e_iload_n C 3 dX10_named_42 rfl ?_
      refine aM_23 C o2 dX10_named_43 ?_
      refine e_iadd C dX10_named_44 ?_
      refine e_bipush C dX10_named_45 (by decide) ?_
      refine e_isub C dX10_named_47 ?_
      refine e_istore_n C dX10_named_48 (by decide) rfl ?_
      refine e_iinc C 3 dX10_named_49 rfl (by decide) rfl ?_
      refine e_goto C 17 dX10_named_52 (by decide) ?_
      exact e_sub [2, 3, 1, 0] rfl H
    · replace H := H.2 c9
      refine e_iconst C dX10_named_30 ?_
      refine e_goto C 48 dX10_named_31 (by decide) ?_
      refine e_istore_n C dX10_named_48 (by decide) rfl ?_
      obtain ⟨o6, H⟩ := H
      refine e_iinc C 3 dX10_named_49 rfl (by decide) rfl ?_
      refine e_goto C 17 dX10_named_52 (by decide) ?_
      exact e_sub [2, 3, 1, 0] rfl H
set_option maxRecDepth 4000 in
theorem B_X10_figures_0 {g : Gs} {ad : Nat → Nat} {X : Cx} {mc ms k n : Nat} {PQ : Option Value → Mem → Prop} {PX : String → Mem → Prop} {M : Mem}  (hk : k ≤ mc) (hn : n ≤ ms) (C : OkB (wM g ad) X cX10_figures RX10 1 1 mc ms) (Y : OkR (wM g ad) X (some .int) mc ms PQ PX) (H : PQ (some (vI 5)) (up (up M 56 0 (M 47 0)) 57 0 (M 44 0))) : E (wM g ad) X k n M 0 [(0, .ref (ad 0))] [] := by
  refine e_wf (fun hw0 => ?_)
  refine e_aload_n C 0 dX10_figures_0 rfl ?_
  refine e_aload_n C 0 dX10_figures_1 rfl ?_
  refine gM_47 C dX10_figures_2 ?_
  refine pM_56 C (hw0.2.1 47 _ (by decide)) dX10_figures_5 ?_
  refine e_wf (fun hw1 => ?_)
  refine e_aload_n C 0 dX10_figures_8 rfl ?_
  refine e_aload_n C 0 dX10_figures_9 rfl ?_
  refine gM_44 C dX10_figures_10 ?_
  refine pM_57 C (hw0.2.1 44 _ (by decide)) dX10_figures_13 ?_
  refine e_wf (fun hw2 => ?_)
  refine e_iconst C dX10_figures_16 ?_
  exact e_iret C Y hk hn dX10_figures_17 H
set_option maxRecDepth 4000 in
theorem B_X10_turns_0 {g : Gs} {ad : Nat → Nat} {X : Cx} {mc ms k n : Nat} {PQ : Option Value → Mem → Prop} {PX : String → Mem → Prop} {M : Mem}  (hk : k ≤ mc) (hn : n ≤ ms) (C : OkB (wM g ad) X cX10_turns RX10 1 1 mc ms) (Y : OkR (wM g ad) X (some .int) mc ms PQ PX) (H : ((R32 ((M 48 0) - 1)) ∧ (0 ≤ (M 48 0) - 1 ∧ (M 48 0) - 1 < 81)) ∧ PQ (some (vI 2)) (up M 49 ((M 48 0) - 1) 1)) : E (wM g ad) X k n M 0 [(0, .ref (ad 0))] [] := by
  refine e_wf (fun hw0 => ?_)
  refine e_aload_n C 0 dX10_turns_0 rfl ?_
  refine gM_49 C dX10_turns_1 ?_
  refine e_aload_n C 0 dX10_turns_4 rfl ?_
  refine gM_48 C dX10_turns_5 ?_
  refine e_iconst C dX10_turns_8 ?_
  obtain ⟨⟨o1, o2⟩, H⟩ := H
  refine e_isub C dX10_turns_9 ?_
  refine e_iconst C dX10_turns_10 ?_
  refine sM_49 C o2 (by decide) dX10_turns_11 ?_
  refine e_wf (fun hw3 => ?_)
  refine e_iconst C dX10_turns_12 ?_
  exact e_iret C Y hk hn dX10_turns_13 H
set_option maxRecDepth 4000 in
theorem B_X10_gameIs_0 {g : Gs} {ad : Nat → Nat} {X : Cx} {mc ms k n : Nat} {PQ : Option Value → Mem → Prop} {PX : String → Mem → Prop} {M : Mem} {x1 : Int} (r1 : R32 x1) (hk : k ≤ mc) (hn : n ≤ ms) (C : OkB (wM g ad) X cX10_gameIs RX10 4 1 mc ms) (Y : OkR (wM g ad) X none mc ms PQ PX) (H : ((((M 53 0) ≠ 0) → E (wM g ad) X k n M 18 [(0, .ref (ad 0)), (1, vI x1)] [vI 1, .ref (ad 0)]) ∧ (((M 53 0) = 0) → (((x1 ≠ (-1)) → E (wM g ad) X k n M 18 [(0, .ref (ad 0)), (1, vI x1)] [vI 0, .ref (ad 0)]) ∧ ((x1 = (-1)) → E (wM g ad) X k n M 18 [(0, .ref (ad 0)), (1, vI x1)] [vI 1, .ref (ad 0)]))))) : E (wM g ad) X k n M 0 [(0, .ref (ad 0)), (1, vI x1)] [] := by
  refine e_wf (fun hw0 => ?_)
  refine e_aload_n C 0 dX10_gameIs_0 rfl ?_
  refine e_aload_n C 0 dX10_gameIs_1 rfl ?_
  refine gM_53 C dX10_gameIs_2 ?_
  refine e_if_ne C 13 (hw0.2.1 53 _ (by decide)) dX10_gameIs_5 (by decide) (fun c9 => ?_) (fun c9 => ?_)
  · replace H := H.1 c9
    refine e_iconst C dX10_gameIs_13 ?_
    refine e_goto C 18 dX10_gameIs_14 (by decide) ?_
    exact e_sub [0, 1] rfl H
  · replace H := H.2 c9
    refine e_iload_n C 1 dX10_gameIs_8 rfl ?_
    refine e_iconst C dX10_gameIs_9 ?_
    refine e_icmp_ne C 17 r1 (by decide) dX10_gameIs_10 (by decide) (fun c9 => ?_) (fun c9 => ?_)
    · replace H := H.1 c9
      refine e_iconst C dX10_gameIs_17 ?_
      exact e_sub [0, 1] rfl H
    · replace H := H.2 c9
      refine e_iconst C dX10_gameIs_13 ?_
      refine e_goto C 18 dX10_gameIs_14 (by decide) ?_
      exact e_sub [0, 1] rfl H
set_option maxRecDepth 4000 in
theorem B_X10_gameIs_18 {g : Gs} {ad : Nat → Nat} {X : Cx} {mc ms k n : Nat} {PQ : Option Value → Mem → Prop} {PX : String → Mem → Prop} {M : Mem} {x1 t0 : Int} (r1 : R32 x1) (q0 : R32 t0) (hk : k ≤ mc) (hn : n ≤ ms) (C : OkB (wM g ad) X cX10_gameIs RX10 4 1 mc ms) (Y : OkR (wM g ad) X none mc ms PQ PX) (H : (t0 = 0 ∨ t0 = 1) ∧ (((t0 = 0) → ((((M 48 0) ≤ 0) → PQ none (up (up M 53 0 t0) 54 0 x1)) ∧ ((0 < (M 48 0)) → ((R32 ((M 48 0) - 1)) ∧ (R32 (2 * ((M 48 0) - 1))) ∧ (0 ≤ (M 48 0) - 1 ∧ (M 48 0) - 1 < 81) ∧ (R32 ((2 * ((M 48 0) - 1)) + (M 49 ((M 48 0) - 1))))) ∧ E (wM g ad) X k n (up (up M 53 0 t0) 54 0 x1) 64 [(0, .ref (ad 0)), (1, vI x1), (2, vI ((2 * ((M 48 0) - 1)) + (M 49 ((M 48 0) - 1)))), (3, vI 0)] []))) ∧ ((t0 ≠ 0) → PQ none (up M 53 0 t0)))) : E (wM g ad) X k n M 18 [(0, .ref (ad 0)), (1, vI x1)] [vI t0, .ref (ad 0)] := by
  refine e_wf (fun hw0 => ?_)
  obtain ⟨o1, H⟩ := H
  refine pM_53 C o1 dX10_gameIs_18 ?_
  refine e_wf (fun hw2 => ?_)
  refine e_aload_n C 0 dX10_gameIs_21 rfl ?_
  refine gM_53 C dX10_gameIs_22 ?_
  refine e_if_eq C 29 q0 dX10_gameIs_25 (by decide) (fun c9 => ?_) (fun c9 => ?_)
  · replace H := H.1 c9
    refine e_aload_n C 0 dX10_gameIs_29 rfl ?_
    refine e_iload_n C 1 dX10_gameIs_30 rfl ?_
    refine pM_54 C r1 dX10_gameIs_31 ?_
    refine e_wf (fun hw3 => ?_)
    refine e_aload_n C 0 dX10_gameIs_34 rfl ?_
    refine gM_48 C dX10_gameIs_35 ?_
    refine e_if_le C 137 (hw0.2.1 48 _ (by decide)) dX10_gameIs_38 (by decide) (fun c9 => ?_) (fun c9 => ?_)
    · replace H := H.1 c9
      exact e_vret C Y hk hn dX10_gameIs_137 H
    · replace H := H.2 c9
      refine e_iconst C dX10_gameIs_41 ?_
      refine e_aload_n C 0 dX10_gameIs_42 rfl ?_
      refine gM_48 C dX10_gameIs_43 ?_
      refine e_iconst C dX10_gameIs_46 ?_
      obtain ⟨⟨o4, o5, o6, o7⟩, H⟩ := H
      refine e_isub C dX10_gameIs_47 ?_
      refine e_imul C dX10_gameIs_48 ?_
      refine e_aload_n C 0 dX10_gameIs_49 rfl ?_
      refine gM_49 C dX10_gameIs_50 ?_
      refine e_aload_n C 0 dX10_gameIs_53 rfl ?_
      refine gM_48 C dX10_gameIs_54 ?_
      refine e_iconst C dX10_gameIs_57 ?_
      refine e_isub C dX10_gameIs_58 ?_
      refine aM_49 C o6 dX10_gameIs_59 ?_
      refine e_iadd C dX10_gameIs_60 ?_
      refine e_istore_n C dX10_gameIs_61 (by decide) rfl ?_
      refine e_iconst C dX10_gameIs_62 ?_
      refine e_istore_n C dX10_gameIs_63 (by decide) rfl ?_
      exact e_sub [2, 3, 1, 0] rfl H
  · replace H := H.2 c9
    exact e_vret C Y hk hn dX10_gameIs_28 H
set_option maxRecDepth 4000 in
theorem B_X10_gameIs_64 {g : Gs} {ad : Nat → Nat} {X : Cx} {mc ms k n : Nat} {PQ : Option Value → Mem → Prop} {PX : String → Mem → Prop} {M : Mem} {x1 x2 x3 : Int} (r1 : R32 x1) (r2 : R32 x2) (r3 : R32 x3) (hk : k ≤ mc) (hn : n ≤ ms) (C : OkB (wM g ad) X cX10_gameIs RX10 4 1 mc ms) (Y : OkR (wM g ad) X none mc ms PQ PX) (H : (0 ≤ x2 ∧ x2 < 162) ∧ ((((M 50 x2) ≤ x3) → ((((M 50 x2) ≠ 4) → ((R32 (4 * x2)) ∧ (R32 ((4 * x2) + (M 50 x2))) ∧ (0 ≤ (4 * x2) + (M 50 x2) ∧ (4 * x2) + (M 50 x2) < 648) ∧ (R32 ((M 50 x2) + 1))) ∧ PQ none (up (up M 51 ((4 * x2) + (M 50 x2)) x1) 50 x2 ((M 50 x2) + 1))) ∧ (((M 50 x2) = 4) → PQ none (up M 53 0 1)))) ∧ ((x3 < (M 50 x2)) → ((R32 (4 * x2)) ∧ (R32 ((4 * x2) + x3)) ∧ (0 ≤ (4 * x2) + x3 ∧ (4 * x2) + x3 < 648)) ∧ ((((M 51 ((4 * x2) + x3)) ≠ x1) → (R32 (x3 + 1)) ∧ E (wM g ad) X k n M 64 [(0, .ref (ad 0)), (1, vI x1), (2, vI x2), (3, vI (x3 + 1))] []) ∧ (((M 51 ((4 * x2) + x3)) = x1) → PQ none M))))) : E (wM g ad) X k n M 64 [(0, .ref (ad 0)), (1, vI x1), (2, vI x2), (3, vI x3)] [] := by
  refine e_wf (fun hw0 => ?_)
  refine e_iload_n C 3 dX10_gameIs_64 rfl ?_
  refine e_aload_n C 0 dX10_gameIs_65 rfl ?_
  refine gM_50 C dX10_gameIs_66 ?_
  refine e_iload_n C 2 dX10_gameIs_69 rfl ?_
  obtain ⟨o1, H⟩ := H
  refine aM_50 C o1 dX10_gameIs_70 ?_
  refine e_icmp_ge C 95 r3 (hw0.2.1 50 _ (by decide)) dX10_gameIs_71 (by decide) (fun c9 => ?_) (fun c9 => ?_)
  · replace H := H.1 c9
    refine e_aload_n C 0 dX10_gameIs_95 rfl ?_
    refine gM_50 C dX10_gameIs_96 ?_
    refine e_iload_n C 2 dX10_gameIs_99 rfl ?_
    refine aM_50 C o1 dX10_gameIs_100 ?_
    refine e_iconst C dX10_gameIs_101 ?_
    refine e_icmp_ne C 111 (hw0.2.1 50 _ (by decide)) (by decide) dX10_gameIs_102 (by decide) (fun c9 => ?_) (fun c9 => ?_)
    · replace H := H.1 c9
      refine e_aload_n C 0 dX10_gameIs_111 rfl ?_
      refine gM_51 C dX10_gameIs_112 ?_
      refine e_iconst C dX10_gameIs_115 ?_
      refine e_iload_n C 2 dX10_gameIs_116 rfl ?_
      obtain ⟨⟨o2, o3, o4, o6⟩, H⟩ := H
      refine e_imul C dX10_gameIs_117 ?_
      refine e_aload_n C 0 dX10_gameIs_118 rfl ?_
      refine gM_50 C dX10_gameIs_119 ?_
      refine e_iload_n C 2 dX10_gameIs_122 rfl ?_
      refine aM_50 C o1 dX10_gameIs_123 ?_
      refine e_iadd C dX10_gameIs_124 ?_
      refine e_iload_n C 1 dX10_gameIs_125 rfl ?_
      refine sM_51 C o4 r1 dX10_gameIs_126 ?_
      refine e_wf (fun hw5 => ?_)
      refine e_aload_n C 0 dX10_gameIs_127 rfl ?_
      refine gM_50 C dX10_gameIs_128 ?_
      refine e_iload_n C 2 dX10_gameIs_131 rfl ?_
      refine e_dup2 C rfl rfl dX10_gameIs_132 ?_
      refine aM_50 C o1 dX10_gameIs_133 ?_
      refine e_iconst C dX10_gameIs_134 ?_
      refine e_iadd C dX10_gameIs_135 ?_
      refine sM_50 C o1 o6 dX10_gameIs_136 ?_
      refine e_wf (fun hw7 => ?_)
      exact e_vret C Y hk hn dX10_gameIs_137 H
    · replace H := H.2 c9
      refine e_aload_n C 0 dX10_gameIs_105 rfl ?_
      refine e_iconst C dX10_gameIs_106 ?_
      refine pM_53 C (by decide) dX10_gameIs_107 ?_
      refine e_wf (fun hw8 => ?_)
      exact e_vret C Y hk hn dX10_gameIs_110 H
  · replace H := H.2 c9
    refine e_aload_n C 0 dX10_gameIs_74 rfl ?_
    refine gM_51 C dX10_gameIs_75 ?_
    refine e_iconst C dX10_gameIs_78 ?_
    refine e_iload_n C 2 dX10_gameIs_79 rfl ?_
    obtain ⟨⟨o9, o10, o11⟩, H⟩ := H
    refine e_imul C dX10_gameIs_80 ?_
    refine e_iload_n C 3 dX10_gameIs_81 rfl ?_
    refine e_iadd C dX10_gameIs_82 ?_
    refine aM_51 C o11 dX10_gameIs_83 ?_
    refine e_iload_n C 1 dX10_gameIs_84 rfl ?_
    refine e_icmp_ne C 89 (hw0.2.1 51 _ (by decide)) r1 dX10_gameIs_85 (by decide) (fun c9 => ?_) (fun c9 => ?_)
    · replace H := H.1 c9
      obtain ⟨o12, H⟩ := H
      refine e_iinc C 3 dX10_gameIs_89 rfl (by decide) rfl ?_
      refine e_goto C 64 dX10_gameIs_92 (by decide) ?_
      exact e_sub [1, 2, 3, 0] rfl H
    · replace H := H.2 c9
      exact e_vret C Y hk hn dX10_gameIs_88 H
set_option maxRecDepth 4000 in
theorem B_X10_writes_0 {g : Gs} {ad : Nat → Nat} {X : Cx} {mc ms k n : Nat} {PQ : Option Value → Mem → Prop} {PX : String → Mem → Prop} {M : Mem} {x1 : Int} (r1 : R32 x1) (hk : k ≤ mc) (hn : n ≤ ms) (C : OkB (wM g ad) X cX10_writes RX10 2 1 mc ms) (Y : OkR (wM g ad) X none mc ms PQ PX) (H : (((400 < (M 61 0)) → E (wM g ad) X k n M 20 [(0, .ref (ad 0))] []) ∧ (((M 61 0) ≤ 400) → (0 ≤ M 61 0 ∧ M 61 0 < 401) ∧ E (wM g ad) X k n (up M 25 (M 61 0) x1) 20 [(0, .ref (ad 0))] []))) : E (wM g ad) X k n M 0 [(0, .ref (ad 0)), (1, vI x1)] [] := by
  refine e_wf (fun hw0 => ?_)
  refine e_aload_n C 0 dX10_writes_0 rfl ?_
  refine gM_61 C dX10_writes_1 ?_
  refine e_sipush C dX10_writes_4 (by decide) ?_
  refine e_icmp_gt C 20 (hw0.2.1 61 _ (by decide)) (by decide) dX10_writes_7 (by decide) (fun c9 => ?_) (fun c9 => ?_)
  · replace H := H.1 c9
    exact e_sub [0] rfl H
  · replace H := H.2 c9
    refine e_aload_n C 0 dX10_writes_10 rfl ?_
    refine gM_25 C dX10_writes_11 ?_
    refine e_aload_n C 0 dX10_writes_14 rfl ?_
    refine gM_61 C dX10_writes_15 ?_
    refine e_iload_n C 1 dX10_writes_18 rfl ?_
    obtain ⟨o1, H⟩ := H
    refine sM_25 C o1 r1 dX10_writes_19 ?_
    refine e_wf (fun hw2 => ?_)
    exact e_sub [0] rfl H
set_option maxRecDepth 4000 in
theorem B_X10_writes_20 {g : Gs} {ad : Nat → Nat} {X : Cx} {mc ms k n : Nat} {PQ : Option Value → Mem → Prop} {PX : String → Mem → Prop} {M : Mem}  (hk : k ≤ mc) (hn : n ≤ ms) (C : OkB (wM g ad) X cX10_writes RX10 2 1 mc ms) (Y : OkR (wM g ad) X none mc ms PQ PX) (H : (((400 < (M 61 0)) → PQ none (up M 61 0 (M 61 0))) ∧ (((M 61 0) ≤ 400) → (R32 ((M 61 0) + 1)) ∧ PQ none (up M 61 0 ((M 61 0) + 1))))) : E (wM g ad) X k n M 20 [(0, .ref (ad 0))] [] := by
  refine e_wf (fun hw0 => ?_)
  refine e_aload_n C 0 dX10_writes_20 rfl ?_
  refine e_aload_n C 0 dX10_writes_21 rfl ?_
  refine gM_61 C dX10_writes_22 ?_
  refine e_sipush C dX10_writes_25 (by decide) ?_
  refine e_icmp_gt C 40 (hw0.2.1 61 _ (by decide)) (by decide) dX10_writes_28 (by decide) (fun c9 => ?_) (fun c9 => ?_)
  · replace H := H.1 c9
    refine e_aload_n C 0 dX10_writes_40 rfl ?_
    refine gM_61 C dX10_writes_41 ?_
    refine pM_61 C (hw0.2.1 61 _ (by decide)) dX10_writes_44 ?_
    refine e_wf (fun hw1 => ?_)
    exact e_vret C Y hk hn dX10_writes_47 H
  · replace H := H.2 c9
    refine e_aload_n C 0 dX10_writes_31 rfl ?_
    refine gM_61 C dX10_writes_32 ?_
    refine e_iconst C dX10_writes_35 ?_
    obtain ⟨o2, H⟩ := H
    refine e_iadd C dX10_writes_36 ?_
    refine e_goto C 44 dX10_writes_37 (by decide) ?_
    refine pM_61 C o2 dX10_writes_44 ?_
    refine e_wf (fun hw3 => ?_)
    exact e_vret C Y hk hn dX10_writes_47 H
set_option maxRecDepth 4000 in
theorem B_X10_mix_0 {g : Gs} {ad : Nat → Nat} {X : Cx} {mc ms k n : Nat} {PQ : Option Value → Mem → Prop} {PX : String → Mem → Prop} {M : Mem} {x1 : Int} (r1 : R64 x1) (hk : k ≤ mc) (hn : n ≤ ms) (C : OkB (wM g ad) X cX10_mix RX10 3 1 mc ms) (Y : OkR (wM g ad) X none mc ms PQ PX) (H : (R64 ((31 * (M 63 0)) + x1)) ∧ PQ none (up M 63 0 ((31 * (M 63 0)) + x1))) : E (wM g ad) X k n M 0 [(0, .ref (ad 0)), (1, vL x1)] [] := by
  refine e_wf (fun hw0 => ?_)
  refine e_aload_n C 0 dX10_mix_0 rfl ?_
  refine e_ldc2 C (v := 31) (tg8 43 rfl rfl) (by decide) dX10_mix_1 ?_
  refine e_aload_n C 0 dX10_mix_4 rfl ?_
  refine gM_63 C dX10_mix_5 ?_
  refine e_lmul C dX10_mix_8 ?_
  refine e_lload_n C 1 dX10_mix_9 rfl ?_
  refine e_ladd C dX10_mix_10 ?_
  obtain ⟨o1, H⟩ := H
  refine pM_63 C o1 dX10_mix_11 ?_
  refine e_wf (fun hw2 => ?_)
  exact e_vret C Y hk hn dX10_mix_14 H
set_option maxRecDepth 4000 in
theorem B_X10_simplest_0 {g : Gs} {ad : Nat → Nat} {X : Cx} {mc ms k n : Nat} {PQ : Option Value → Mem → Prop} {PX : String → Mem → Prop} {M : Mem}  (hk : k ≤ mc) (hn : n ≤ ms) (C : OkB (wM g ad) X cX10_simplest RX10 3 2 mc ms) (Y : OkR (wM g ad) X (some .int) mc ms PQ PX) (H : E (wM g ad) X k n M 4 [(0, .ref (ad 0)), (1, vI 1024)] []) : E (wM g ad) X k n M 0 [(0, .ref (ad 0))] [] := by
  refine e_wf (fun hw0 => ?_)
  refine e_sipush C dX10_simplest_0 (by decide) ?_
  refine e_istore_n C dX10_simplest_3 (by decide) rfl ?_
  exact e_sub [1, 0] rfl H
set_option maxRecDepth 4000 in
theorem B_X10_simplest_4 {g : Gs} {ad : Nat → Nat} {X : Cx} {mc ms k n : Nat} {PQ : Option Value → Mem → Prop} {PX : String → Mem → Prop} {M : Mem} {x1 : Int} (r1 : R32 x1) (hk : k ≤ mc) (hn : n ≤ ms) (C : OkB (wM g ad) X cX10_simplest RX10 3 2 mc ms) (Y : OkR (wM g ad) X (some .int) mc ms PQ PX) (H : (((x1 ≤ 0) → PQ (some (vI 0)) M) ∧ ((0 < x1) → E (wM g ad) X k n M 10 [(0, .ref (ad 0)), (1, vI x1), (2, vI 0)] []))) : E (wM g ad) X k n M 4 [(0, .ref (ad 0)), (1, vI x1)] [] := by
  refine e_wf (fun hw0 => ?_)
  refine e_iload_n C 1 dX10_simplest_4 rfl ?_
  refine e_if_le C 53 r1 dX10_simplest_5 (by decide) (fun c9 => ?_) (fun c9 => ?_)
  · replace H := H.1 c9
    refine e_iconst C dX10_simplest_53 ?_
    exact e_iret C Y hk hn dX10_simplest_54 H
  · replace H := H.2 c9
    refine e_iconst C dX10_simplest_8 ?_
    refine e_istore_n C dX10_simplest_9 (by decide) rfl ?_
    exact e_sub [1, 2, 0] rfl H
set_option maxRecDepth 4000 in
theorem B_X10_simplest_10 {g : Gs} {ad : Nat → Nat} {X : Cx} {mc ms k n : Nat} {PQ : Option Value → Mem → Prop} {PX : String → Mem → Prop} {M : Mem} {x1 x2 : Int} (r1 : R32 x1) (r2 : R32 x2) (hk : k ≤ mc) (hn : n ≤ ms) (C : OkB (wM g ad) X cX10_simplest RX10 3 2 mc ms) (Y : OkR (wM g ad) X (some .int) mc ms PQ PX) (H : (((20480 < x2) → E (wM g ad) X k n M 4 [(0, .ref (ad 0)), (1, vI (Int.tdiv x1 2))] []) ∧ ((x2 ≤ 20480) → (((¬(betM M x2)) → (R32 (-x2)) ∧ (((¬(betM M (-x2))) → (R32 (x2 + x1)) ∧ E (wM g ad) X k n M 10 [(0, .ref (ad 0)), (1, vI x1), (2, vI (x2 + x1))] []) ∧ ((betM M (-x2)) → PQ (some (vI (-x2))) M))) ∧ ((betM M x2) → PQ (some (vI x2)) M))))) : E (wM g ad) X k n M 10 [(0, .ref (ad 0)), (1, vI x1), (2, vI x2)] [] := by
  refine e_wf (fun hw0 => ?_)
  refine e_iload_n C 2 dX10_simplest_10 rfl ?_
  refine e_sipush C dX10_simplest_11 (by decide) ?_
  refine e_icmp_gt C 46 r2 (by decide) dX10_simplest_14 (by decide) (fun c9 => ?_) (fun c9 => ?_)
  · replace H := H.1 c9
    refine e_iload_n C 1 dX10_simplest_46 rfl ?_
    refine e_iconst C dX10_simplest_47 ?_
    refine e_idiv C r1 (by decide) (by decide) (by decide) dX10_simplest_48 ?_
    refine e_istore_n C dX10_simplest_49 (by decide) rfl ?_
    refine e_goto C 4 dX10_simplest_50 (by decide) ?_
    exact e_sub [1, 0] rfl H
  · replace H := H.2 c9
    refine e_aload_n C 0 dX10_simplest_17 rfl ?_
    refine e_iload_n C 2 dX10_simplest_18 rfl ?_
    refine e_callVD (As := [vI x2]) (rest := []) (q0 := 0) (ci := 10) C Y mi_X10_isBetween ms_X10_isBetween mv_X10_isBetween ml_X10_205 (s_X10_isBetween r2) rfl rfl (by decide) (Nat.le_of_ble_eq_true rfl) hk hn dX10_simplest_19 rfl ?_
    refine e_if_eq C 27 (b2i_r _) dX10_simplest_22 (by decide) (fun c9 => ?_) (fun c9 => ?_)
    · replace H := H.1 (b2i_0.mp c9)
      refine e_aload_n C 0 dX10_simplest_27 rfl ?_
      refine e_iload_n C 2 dX10_simplest_28 rfl ?_
      obtain ⟨o1, H⟩ := H
      refine e_ineg C dX10_simplest_29 ?_
      refine e_callVD (As := [vI (-x2)]) (rest := []) (q0 := 0) (ci := 10) C Y mi_X10_isBetween ms_X10_isBetween mv_X10_isBetween ml_X10_205 (s_X10_isBetween o1) rfl rfl (by decide) (Nat.le_of_ble_eq_true rfl) hk hn dX10_simplest_30 rfl ?_
      refine e_if_eq C 39 (b2i_r _) dX10_simplest_33 (by decide) (fun c9 => ?_) (fun c9 => ?_)
      · replace H := H.1 (b2i_0.mp c9)
        refine e_iload_n C 2 dX10_simplest_39 rfl ?_
        refine e_iload_n C 1 dX10_simplest_40 rfl ?_
        obtain ⟨o2, H⟩ := H
        refine e_iadd C dX10_simplest_41 ?_
        refine e_istore_n C dX10_simplest_42 (by decide) rfl ?_
        refine e_goto C 10 dX10_simplest_43 (by decide) ?_
        exact e_sub [1, 2, 0] rfl H
      · replace H := H.2 (b2i_n0.mp c9)
        refine e_iload_n C 2 dX10_simplest_36 rfl ?_
        refine e_ineg C dX10_simplest_37 ?_
        exact e_iret C Y hk hn dX10_simplest_38 H
    · replace H := H.2 (b2i_n0.mp c9)
      refine e_iload_n C 2 dX10_simplest_25 rfl ?_
      exact e_iret C Y hk hn dX10_simplest_26 H
set_option maxRecDepth 4000 in
theorem B_X10_wallAt_0 {g : Gs} {ad : Nat → Nat} {X : Cx} {mc ms k n : Nat} {PQ : Option Value → Mem → Prop} {PX : String → Mem → Prop} {M : Mem} {x1 x2 x3 : Int} (r1 : R32 x1) (r2 : R32 x2) (r3 : R32 x3) (hk : k ≤ mc) (hn : n ≤ ms) (C : OkB (wM g ad) X cX10_wallAt RX10 5 2 mc ms) (Y : OkR (wM g ad) X (some .int) mc ms PQ PX) (H : ((((Int.tdiv x3 2) < 7199) → ((((Int.tmod x3 2) ≠ 0) → (((0 ≤ x1 ∧ x1 < 40) ∧ (0 ≤ x2 ∧ x2 ≤ 1) ∧ 0 ≤ (Int.tdiv x3 2) ∧ (Int.tdiv x3 2) < 7200) ∧ (R32 ((Int.tdiv x3 2) + 1)) ∧ ((0 ≤ x1 ∧ x1 < 40) ∧ (0 ≤ x2 ∧ x2 ≤ 1) ∧ 0 ≤ ((Int.tdiv x3 2) + 1) ∧ ((Int.tdiv x3 2) + 1) < 7200) ∧ (R32 ((M 15 (7200 * (2 * x1 + x2) + (Int.tdiv x3 2))) + (M 15 (7200 * (2 * x1 + x2) + ((Int.tdiv x3 2) + 1)))))) ∧ PQ (some (vI (Int.tdiv ((M 15 (7200 * (2 * x1 + x2) + (Int.tdiv x3 2))) + (M 15 (7200 * (2 * x1 + x2) + ((Int.tdiv x3 2) + 1)))) 2))) M) ∧ (((Int.tmod x3 2) = 0) → ((0 ≤ x1 ∧ x1 < 40) ∧ (0 ≤ x2 ∧ x2 ≤ 1) ∧ 0 ≤ (Int.tdiv x3 2) ∧ (Int.tdiv x3 2) < 7200) ∧ PQ (some (vI (M 15 (7200 * (2 * x1 + x2) + (Int.tdiv x3 2))))) M))) ∧ ((7199 ≤ (Int.tdiv x3 2)) → (0 ≤ x1 ∧ x1 < 40) ∧ PQ (some (vI (M 13 x1))) M))) : E (wM g ad) X k n M 0 [(0, .ref (ad 0)), (1, vI x1), (2, vI x2), (3, vI x3)] [] := by
  refine e_wf (fun hw0 => ?_)
  refine e_iload_n C 3 dX10_wallAt_0 rfl ?_
  refine e_iconst C dX10_wallAt_1 ?_
  refine e_idiv C r3 (by decide) (by decide) (by decide) dX10_wallAt_2 ?_
  refine e_istore C dX10_wallAt_3 (by decide) rfl ?_
  refine e_iload C 0 dX10_wallAt_5 rfl ?_
  refine e_sipush C dX10_wallAt_7 (by decide) ?_
  refine e_icmp_lt C 20 (tdiv_r r3 (by decide) (by decide)) (by decide) dX10_wallAt_10 (by decide) (fun c9 => ?_) (fun c9 => ?_)
  · replace H := H.1 c9
    refine e_iload_n C 4 dX10_wallAt_20 rfl ?_
    refine e_iconst C dX10_wallAt_21 ?_
    refine e_irem C r3 (by decide) (by decide) (by decide) dX10_wallAt_22 ?_
    refine e_if_ne C 37 (tmod_r r3 (by decide) (by decide)) dX10_wallAt_23 (by decide) (fun c9 => ?_) (fun c9 => ?_)
    · replace H := H.1 c9
      refine e_aload_n C 1 dX10_wallAt_37 rfl ?_
      refine e_iload_n C 2 dX10_wallAt_38 rfl ?_
      refine e_iload_n C 3 dX10_wallAt_39 rfl ?_
      refine e_iload C 0 dX10_wallAt_40 rfl ?_
      obtain ⟨⟨o1, o2, o3, o4⟩, H⟩ := H
      refine e_callVD (As := [vI x1, vI x2, vI (Int.tdiv x3 2)]) (rest := []) (q0 := 0) (ci := 10) C Y mi_X10_sample ms_X10_sample mv_X10_sample ml_X10_214 (s_X10_sample r1 r2 (tdiv_r r3 (by decide) (by decide)) o1) rfl rfl (by decide) (Nat.le_of_ble_eq_true rfl) hk hn dX10_wallAt_42 rfl ?_
      refine e_aload_n C 1 dX10_wallAt_45 rfl ?_
      refine e_iload_n C 2 dX10_wallAt_46 rfl ?_
      refine e_iload_n C 3 dX10_wallAt_47 rfl ?_
      refine e_iload C 0 dX10_wallAt_48 rfl ?_
      refine e_iconst C dX10_wallAt_50 ?_
      refine e_iadd C dX10_wallAt_51 ?_
      refine e_callVD (As := [vI x1, vI x2, vI ((Int.tdiv x3 2) + 1)]) (rest := [vI (M 15 (7200 * (2 * x1 + x2) + (Int.tdiv x3 2)))]) (q0 := 0) (ci := 10) C Y mi_X10_sample ms_X10_sample mv_X10_sample ml_X10_214 (s_X10_sample r1 r2 o2 o3) rfl rfl (by decide) (Nat.le_of_ble_eq_true rfl) hk hn dX10_wallAt_52 rfl ?_
      refine e_iadd C dX10_wallAt_55 ?_
      refine e_iconst C dX10_wallAt_56 ?_
      refine e_idiv C o4 (by decide) (by decide) (by decide) dX10_wallAt_57 ?_
      exact e_iret C Y hk hn dX10_wallAt_58 H
    · replace H := H.2 c9
      refine e_aload_n C 1 dX10_wallAt_26 rfl ?_
      refine e_iload_n C 2 dX10_wallAt_27 rfl ?_
      refine e_iload_n C 3 dX10_wallAt_28 rfl ?_
      refine e_iload C 0 dX10_wallAt_29 rfl ?_
      obtain ⟨o5, H⟩ := H
      refine e_callVD (As := [vI x1, vI x2, vI (Int.tdiv x3 2)]) (rest := []) (q0 := 0) (ci := 10) C Y mi_X10_sample ms_X10_sample mv_X10_sample ml_X10_214 (s_X10_sample r1 r2 (tdiv_r r3 (by decide) (by decide)) o5) rfl rfl (by decide) (Nat.le_of_ble_eq_true rfl) hk hn dX10_wallAt_31 rfl ?_
      refine e_goto C 58 dX10_wallAt_34 (by decide) ?_
      exact e_iret C Y hk hn dX10_wallAt_58 H
  · replace H := H.2 c9
    refine e_aload_n C 1 dX10_wallAt_13 rfl ?_
    refine gM_13 C dX10_wallAt_14 ?_
    refine e_iload_n C 2 dX10_wallAt_17 rfl ?_
    obtain ⟨o6, H⟩ := H
    refine aM_13 C o6 dX10_wallAt_18 ?_
    exact e_iret C Y hk hn dX10_wallAt_19 H
set_option maxRecDepth 4000 in
theorem B_X10_undo_0 {g : Gs} {ad : Nat → Nat} {X : Cx} {mc ms k n : Nat} {PQ : Option Value → Mem → Prop} {PX : String → Mem → Prop} {M : Mem}  (hk : k ≤ mc) (hn : n ≤ ms) (C : OkB (wM g ad) X cX10_undo RX10 4 2 mc ms) (Y : OkR (wM g ad) X (some .int) mc ms PQ PX) (H : ((((M 18 0) ≠ 0) → E (wM g ad) X k n M 13 [(0, .ref (ad 0))] [vI 0, .ref (ad 0)]) ∧ (((M 18 0) = 0) → E (wM g ad) X k n M 13 [(0, .ref (ad 0))] [vI 1, .ref (ad 0)]))) : E (wM g ad) X k n M 0 [(0, .ref (ad 0))] [] := by
  refine e_wf (fun hw0 => ?_)
  refine e_aload_n C 0 dX10_undo_0 rfl ?_
  refine e_aload_n C 0 dX10_undo_1 rfl ?_
  refine gM_18 C dX10_undo_2 ?_
  refine e_if_ne C 12 (hw0.2.1 18 _ (by decide)) dX10_undo_5 (by decide) (fun c9 => ?_) (fun c9 => ?_)
  · replace H := H.1 c9
    refine e_iconst C dX10_undo_12 ?_
    exact e_sub [0] rfl H
  · replace H := H.2 c9
    refine e_iconst C dX10_undo_8 ?_
    refine e_goto C 13 dX10_undo_9 (by decide) ?_
    exact e_sub [0] rfl H
set_option maxRecDepth 4000 in
theorem B_X10_undo_13 {g : Gs} {ad : Nat → Nat} {X : Cx} {mc ms k n : Nat} {PQ : Option Value → Mem → Prop} {PX : String → Mem → Prop} {M : Mem} {t0 : Int} (q0 : R32 t0) (hk : k ≤ mc) (hn : n ≤ ms) (C : OkB (wM g ad) X cX10_undo RX10 4 2 mc ms) (Y : OkR (wM g ad) X (some .int) mc ms PQ PX) (H : (((¬(0 < t0)) → ((R32 ((M 18 0) - 1)) ∧ (R32 (6 * ((M 18 0) - 1))) ∧ (0 ≤ 6 * ((M 18 0) - 1) ∧ 6 * ((M 18 0) - 1) < 36) ∧ (R32 ((6 * ((M 18 0) - 1)) + 1)) ∧ (0 ≤ (6 * ((M 18 0) - 1)) + 1 ∧ (6 * ((M 18 0) - 1)) + 1 < 36)) ∧ E (wM g ad) X k n (up (up (up (up M 20 0 t0) 18 0 ((M 18 0) - 1)) 0 0 (M 19 (6 * ((M 18 0) - 1)))) 16 0 (M 19 ((6 * ((M 18 0) - 1)) + 1))) 67 [(0, .ref (ad 0)), (1, vI 0)] []) ∧ ((0 < t0) → PQ (some (vI 0)) (up M 20 0 t0)))) : E (wM g ad) X k n M 13 [(0, .ref (ad 0))] [vI t0, .ref (ad 0)] := by
  refine e_wf (fun hw0 => ?_)
  refine e_callVD (As := [vI t0]) (rest := []) (q0 := 0) (ci := 10) C Y mi_X10_refused ms_X10_refused mv_X10_refused ml_X10_227 (s_X10_refused q0) rfl rfl (by decide) (Nat.le_of_ble_eq_true rfl) hk hn dX10_undo_13 rfl ?_
  refine e_wf (fun hw1 => ?_)
  refine e_if_eq C 21 (b2i_r _) dX10_undo_16 (by decide) (fun c9 => ?_) (fun c9 => ?_)
  · replace H := H.1 (b2i_0.mp c9)
    refine e_aload_n C 0 dX10_undo_21 rfl ?_
    refine e_dup C rfl dX10_undo_22 ?_
    refine gM_18 C dX10_undo_23 ?_
    refine e_iconst C dX10_undo_26 ?_
    obtain ⟨⟨o2, o4, o5, o7, o8⟩, H⟩ := H
    refine e_isub C dX10_undo_27 ?_
    refine pM_18 C o2 dX10_undo_28 ?_
    refine e_wf (fun hw3 => ?_)
    refine e_aload_n C 0 dX10_undo_31 rfl ?_
    refine e_aload_n C 0 dX10_undo_32 rfl ?_
    refine gM_19 C dX10_undo_33 ?_
    refine e_bipush C dX10_undo_36 (by decide) ?_
    refine e_aload_n C 0 dX10_undo_38 rfl ?_
    refine gM_18 C dX10_undo_39 ?_
    refine e_imul C dX10_undo_42 ?_
    refine aM_19 C o5 dX10_undo_43 ?_
    refine pM_0 C (hw0.2.1 19 _ (by decide)) dX10_undo_44 ?_
    refine e_wf (fun hw6 => ?_)
    refine e_aload_n C 0 dX10_undo_47 rfl ?_
    refine e_aload_n C 0 dX10_undo_48 rfl ?_
    refine gM_19 C dX10_undo_49 ?_
    refine e_bipush C dX10_undo_52 (by decide) ?_
    refine e_aload_n C 0 dX10_undo_54 rfl ?_
    refine gM_18 C dX10_undo_55 ?_
    refine e_imul C dX10_undo_58 ?_
    refine e_iconst C dX10_undo_59 ?_
    refine e_iadd C dX10_undo_60 ?_
    refine aM_19 C o8 dX10_undo_61 ?_
    refine pM_16 C (hw0.2.1 19 _ (by decide)) dX10_undo_62 ?_
    refine e_wf (fun hw9 => ?_)
    refine e_iconst C dX10_undo_65 ?_
    refine e_istore_n C dX10_undo_66 (by decide) rfl ?_
    exact e_sub [1, 0] rfl H
  · replace H := H.2 (b2i_n0.mp c9)
    refine e_iconst C dX10_undo_19 ?_
    exact e_iret C Y hk hn dX10_undo_20 H
set_option maxRecDepth 4000 in
theorem B_X10_undo_67 {g : Gs} {ad : Nat → Nat} {X : Cx} {mc ms k n : Nat} {PQ : Option Value → Mem → Prop} {PX : String → Mem → Prop} {M : Mem} {x1 : Int} (r1 : R32 x1) (hk : k ≤ mc) (hn : n ≤ ms) (C : OkB (wM g ad) X cX10_undo RX10 4 2 mc ms) (Y : OkR (wM g ad) X (some .int) mc ms PQ PX) (H : (((4 ≤ x1) → E (wM g ad) X k n M 102 [(0, .ref (ad 0)), (1, vI 0)] []) ∧ ((x1 < 4) → ((R32 (6 * (M 18 0))) ∧ (R32 ((6 * (M 18 0)) + 2)) ∧ (R32 (((6 * (M 18 0)) + 2) + x1)) ∧ (0 ≤ ((6 * (M 18 0)) + 2) + x1 ∧ ((6 * (M 18 0)) + 2) + x1 < 36) ∧ (0 ≤ x1 ∧ x1 < 4) ∧ (R32 (x1 + 1))) ∧ E (wM g ad) X k n (up M 17 x1 (M 19 (((6 * (M 18 0)) + 2) + x1))) 67 [(0, .ref (ad 0)), (1, vI (x1 + 1))] []))) : E (wM g ad) X k n M 67 [(0, .ref (ad 0)), (1, vI x1)] [] := by
  refine e_wf (fun hw0 => ?_)
  refine e_iload_n C 1 dX10_undo_67 rfl ?_
  refine e_iconst C dX10_undo_68 ?_
  refine e_icmp_ge C 100 r1 (by decide) dX10_undo_69 (by decide) (fun c9 => ?_) (fun c9 => ?_)
  · replace H := H.1 c9
    refine e_iconst C dX10_undo_100 ?_
    refine e_istore_n C dX10_undo_101 (by decide) rfl ?_
    exact e_sub [1, 0] rfl H
  · replace H := H.2 c9
    refine e_aload_n C 0 dX10_undo_72 rfl ?_
    refine gM_17 C dX10_undo_73 ?_
    refine e_iload_n C 1 dX10_undo_76 rfl ?_
    refine e_aload_n C 0 dX10_undo_77 rfl ?_
    refine gM_19 C dX10_undo_78 ?_
    refine e_bipush C dX10_undo_81 (by decide) ?_
    refine e_aload_n C 0 dX10_undo_83 rfl ?_
    refine gM_18 C dX10_undo_84 ?_
    obtain ⟨⟨o1, o2, o3, o4, o5, o7⟩, H⟩ := H
    refine e_imul C dX10_undo_87 ?_
    refine e_iconst C dX10_undo_88 ?_
    refine e_iadd C dX10_undo_89 ?_
    refine e_iload_n C 1 dX10_undo_90 rfl ?_
    refine e_iadd C dX10_undo_91 ?_
    refine aM_19 C o4 dX10_undo_92 ?_
    refine sM_17 C o5 (hw0.2.1 19 _ (by decide)) dX10_undo_93 ?_
    refine e_wf (fun hw6 => ?_)
    refine e_iinc C 1 dX10_undo_94 rfl (by decide) rfl ?_
    refine e_goto C 67 dX10_undo_97 (by decide) ?_
    exact e_sub [1, 0] rfl H
set_option maxRecDepth 4000 in
theorem B_X10_undo_102 {g : Gs} {ad : Nat → Nat} {X : Cx} {mc ms k n : Nat} {PQ : Option Value → Mem → Prop} {PX : String → Mem → Prop} {M : Mem} {x1 : Int} (r1 : R32 x1) (hk : k ≤ mc) (hn : n ≤ ms) (C : OkB (wM g ad) X cX10_undo RX10 4 2 mc ms) (Y : OkR (wM g ad) X (some .int) mc ms PQ PX) (H : (((2 ≤ x1) → PQ (some (vI (M 18 0))) M) ∧ ((x1 < 2) → E (wM g ad) X k n M 111 [(0, .ref (ad 0)), (1, vI x1), (2, vI 0), (3, vI 0)] []))) : E (wM g ad) X k n M 102 [(0, .ref (ad 0)), (1, vI x1)] [] := by
  refine e_wf (fun hw0 => ?_)
  refine e_iload_n C 1 dX10_undo_102 rfl ?_
  refine e_iconst C dX10_undo_103 ?_
  refine e_icmp_ge C 180 r1 (by decide) dX10_undo_104 (by decide) (fun c9 => ?_) (fun c9 => ?_)
  · replace H := H.1 c9
    refine e_aload_n C 0 dX10_undo_180 rfl ?_
    refine gM_18 C dX10_undo_181 ?_
    exact e_iret C Y hk hn dX10_undo_184 H
  · replace H := H.2 c9
    refine e_iconst C dX10_undo_107 ?_
    refine e_istore_n C dX10_undo_108 (by decide) rfl ?_
    refine e_iconst C dX10_undo_109 ?_
    refine e_istore_n C dX10_undo_110 (by decide) rfl ?_
    exact e_sub [2, 3, 1, 0] rfl H
set_option maxRecDepth 4000 in
theorem B_X10_undo_111 {g : Gs} {ad : Nat → Nat} {X : Cx} {mc ms k n : Nat} {PQ : Option Value → Mem → Prop} {PX : String → Mem → Prop} {M : Mem} {x1 x2 x3 : Int} (r1 : R32 x1) (r2 : R32 x2) (r3 : R32 x3) (hk : k ≤ mc) (hn : n ≤ ms) (C : OkB (wM g ad) X cX10_undo RX10 4 2 mc ms) (Y : OkR (wM g ad) X (some .int) mc ms PQ PX) (H : (0 ≤ x1 ∧ x1 < 2) ∧ ((((M 21 x1) ≤ x3) → (R32 (x1 + 1)) ∧ E (wM g ad) X k n (up M 21 x1 x2) 102 [(0, .ref (ad 0)), (1, vI (x1 + 1))] []) ∧ ((x3 < (M 21 x1)) → ((R32 (4 * x1)) ∧ (R32 ((4 * x1) + x3)) ∧ (0 ≤ (4 * x1) + x3 ∧ (4 * x1) + x3 < 8)) ∧ ((((M 0 0) ≤ (M 22 ((4 * x1) + x3))) → (R32 (x3 + 1)) ∧ E (wM g ad) X k n M 111 [(0, .ref (ad 0)), (1, vI x1), (2, vI x2), (3, vI (x3 + 1))] []) ∧ (((M 22 ((4 * x1) + x3)) < (M 0 0)) → ((R32 ((4 * x1) + x2)) ∧ (0 ≤ (4 * x1) + x2 ∧ (4 * x1) + x2 < 8) ∧ (R32 (x2 + 1)) ∧ (R32 (x3 + 1))) ∧ E (wM g ad) X k n (up M 22 ((4 * x1) + x2) (M 22 ((4 * x1) + x3))) 111 [(0, .ref (ad 0)), (1, vI x1), (2, vI (x2 + 1)), (3, vI (x3 + 1))] []))))) : E (wM g ad) X k n M 111 [(0, .ref (ad 0)), (1, vI x1), (2, vI x2), (3, vI x3)] [] := by
  refine e_wf (fun hw0 => ?_)
  refine e_iload_n C 3 dX10_undo_111 rfl ?_
  refine e_aload_n C 0 dX10_undo_112 rfl ?_
  refine gM_21 C dX10_undo_113 ?_
  refine e_iload_n C 1 dX10_undo_116 rfl ?_
  obtain ⟨o1, H⟩ := H
  refine aM_21 C o1 dX10_undo_117 ?_
  refine e_icmp_ge C 167 r3 (hw0.2.1 21 _ (by decide)) dX10_undo_118 (by decide) (fun c9 => ?_) (fun c9 => ?_)
  · replace H := H.1 c9
    refine e_aload_n C 0 dX10_undo_167 rfl ?_
    refine gM_21 C dX10_undo_168 ?_
    refine e_iload_n C 1 dX10_undo_171 rfl ?_
    refine e_iload_n C 2 dX10_undo_172 rfl ?_
    refine sM_21 C o1 r2 dX10_undo_173 ?_
    refine e_wf (fun hw2 => ?_)
    obtain ⟨o3, H⟩ := H
    refine e_iinc C 1 dX10_undo_174 rfl (by decide) rfl ?_
    refine e_goto C 102 dX10_undo_177 (by decide) ?_
    exact e_sub [1, 0] rfl H
  · replace H := H.2 c9
    refine e_aload_n C 0 dX10_undo_121 rfl ?_
    refine gM_22 C dX10_undo_122 ?_
    refine e_iconst C dX10_undo_125 ?_
    refine e_iload_n C 1 dX10_undo_126 rfl ?_
    obtain ⟨⟨o4, o5, o6⟩, H⟩ := H
    refine e_imul C dX10_undo_127 ?_
    refine e_iload_n C 3 dX10_undo_128 rfl ?_
    refine e_iadd C dX10_undo_129 ?_
    refine aM_22 C o6 dX10_undo_130 ?_
    refine e_aload_n C 0 dX10_undo_131 rfl ?_
    refine gM_0 C dX10_undo_132 ?_
    refine e_icmp_ge C 161 (hw0.2.1 22 _ (by decide)) (hw0.2.1 0 _ (by decide)) dX10_undo_135 (by decide) (fun c9 => ?_) (fun c9 => ?_)
    · replace H := H.1 c9
      obtain ⟨o7, H⟩ := H
      refine e_iinc C 3 dX10_undo_161 rfl (by decide) rfl ?_
      refine e_goto C 111 dX10_undo_164 (by decide) ?_
      exact e_sub [1, 2, 3, 0] rfl H
    · replace H := H.2 c9
      refine e_aload_n C 0 dX10_undo_138 rfl ?_
      refine gM_22 C dX10_undo_139 ?_
      refine e_iconst C dX10_undo_142 ?_
      refine e_iload_n C 1 dX10_undo_143 rfl ?_
      refine e_imul C dX10_undo_144 ?_
      refine e_iload_n C 2 dX10_undo_145 rfl ?_
      obtain ⟨⟨o8, o9, o11, o12⟩, H⟩ := H
      refine e_iadd C dX10_undo_146 ?_
      refine e_aload_n C 0 dX10_undo_147 rfl ?_
      refine gM_22 C dX10_undo_148 ?_
      refine e_iconst C dX10_undo_151 ?_
      refine e_iload_n C 1 dX10_undo_152 rfl ?_
      refine e_imul C dX10_undo_153 ?_
      refine e_iload_n C 3 dX10_undo_154 rfl ?_
      refine e_iadd C dX10_undo_155 ?_
      refine aM_22 C o6 dX10_undo_156 ?_
      refine sM_22 C o9 (hw0.2.1 22 _ (by decide)) dX10_undo_157 ?_
      refine e_wf (fun hw10 => ?_)
      refine e_iinc C 2 dX10_undo_158 rfl (by decide) rfl ?_
      refine e_iinc C 3 dX10_undo_161 rfl (by decide) rfl ?_
      refine e_goto C 111 dX10_undo_164 (by decide) ?_
      exact e_sub [2, 3, 1, 0] rfl H
set_option maxRecDepth 4000 in
theorem B_X10_ends_0 {g : Gs} {ad : Nat → Nat} {X : Cx} {mc ms k n : Nat} {PQ : Option Value → Mem → Prop} {PX : String → Mem → Prop} {M : Mem} {x1 x2 x3 : Int} (r1 : R32 x1) (r2 : R32 x2) (r3 : R32 x3) (hk : k ≤ mc) (hn : n ≤ ms) (C : OkB (wM g ad) X cX10_ends RX10 4 2 mc ms) (Y : OkR (wM g ad) X (some .int) mc ms PQ PX) (H : (((x2 ≠ (-1)) → E (wM g ad) X k n M 11 [(0, .ref (ad 0)), (1, vI x1), (2, vI x2)] [vI 0, .ref (ad 0)]) ∧ ((x2 = (-1)) → E (wM g ad) X k n M 11 [(0, .ref (ad 0)), (1, vI x1), (2, vI x2)] [vI x3, .ref (ad 0)]))) : E (wM g ad) X k n M 0 [(0, .ref (ad 0)), (1, vI x1), (2, vI x2), (3, vI x3)] [] := by
  refine e_wf (fun hw0 => ?_)
  refine e_aload_n C 0 dX10_ends_0 rfl ?_
  refine e_iload_n C 2 dX10_ends_1 rfl ?_
  refine e_iconst C dX10_ends_2 ?_
  refine e_icmp_ne C 10 r2 (by decide) dX10_ends_3 (by decide) (fun c9 => ?_) (fun c9 => ?_)
  · replace H := H.1 c9
    refine e_iconst C dX10_ends_10 ?_
    exact e_sub [0, 1, 2] rfl H
  · replace H := H.2 c9
    refine e_iload_n C 3 dX10_ends_6 rfl ?_
    refine e_goto C 11 dX10_ends_7 (by decide) ?_
    exact e_sub [0, 1, 2] rfl H
set_option maxRecDepth 4000 in
theorem B_X10_ends_11 {g : Gs} {ad : Nat → Nat} {X : Cx} {mc ms k n : Nat} {PQ : Option Value → Mem → Prop} {PX : String → Mem → Prop} {M : Mem} {x1 x2 t0 : Int} (r1 : R32 x1) (r2 : R32 x2) (q0 : R32 t0) (hk : k ≤ mc) (hn : n ≤ ms) (C : OkB (wM g ad) X cX10_ends RX10 4 2 mc ms) (Y : OkR (wM g ad) X (some .int) mc ms PQ PX) (H : (((¬(0 < t0)) → ∃ Q4 : Mem → Prop, SpV (wM g ad) yX10_saves cX10_saves 3 none 1 [.ref (ad 0), vI x1] (up M 20 0 t0) Q4 ∧ ∀ M3 : Mem, Q4 M3 → PQ (some (vI x2)) M3) ∧ ((0 < t0) → PQ (some (vI 0)) (up (up M 20 0 t0) 0 0 x1)))) : E (wM g ad) X k n M 11 [(0, .ref (ad 0)), (1, vI x1), (2, vI x2)] [vI t0, .ref (ad 0)] := by
  refine e_wf (fun hw0 => ?_)
  refine e_callVD (As := [vI t0]) (rest := []) (q0 := 0) (ci := 10) C Y mi_X10_refused ms_X10_refused mv_X10_refused ml_X10_227 (s_X10_refused q0) rfl rfl (by decide) (Nat.le_of_ble_eq_true rfl) hk hn dX10_ends_11 rfl ?_
  refine e_wf (fun hw1 => ?_)
  refine e_if_eq C 24 (b2i_r _) dX10_ends_14 (by decide) (fun c9 => ?_) (fun c9 => ?_)
  · replace H := H.1 (b2i_0.mp c9)
    refine e_aload_n C 0 dX10_ends_24 rfl ?_
    refine e_iload_n C 1 dX10_ends_25 rfl ?_
    obtain ⟨Q4, h2, H⟩ := H
    refine e_callVV (As := [vI x1]) (rest := []) (q0 := 0) (ci := 10) C Y mi_X10_saves ms_X10_saves mv_X10_saves ml_X10_230 h2 rfl rfl (by decide) (Nat.le_of_ble_eq_true rfl) hk hn dX10_ends_26 rfl (fun M3 hq9 => ?_)
    replace H := H M3 hq9
    refine e_wf (fun hw5 => ?_)
    refine e_iload_n C 2 dX10_ends_29 rfl ?_
    exact e_iret C Y hk hn dX10_ends_30 H
  · replace H := H.2 (b2i_n0.mp c9)
    refine e_aload_n C 0 dX10_ends_17 rfl ?_
    refine e_iload_n C 1 dX10_ends_18 rfl ?_
    refine pM_0 C r1 dX10_ends_19 ?_
    refine e_wf (fun hw6 => ?_)
    refine e_iconst C dX10_ends_22 ?_
    exact e_iret C Y hk hn dX10_ends_23 H
set_option maxRecDepth 4000 in
theorem B_X10_isBack_0 {g : Gs} {ad : Nat → Nat} {X : Cx} {mc ms k n : Nat} {PQ : Option Value → Mem → Prop} {PX : String → Mem → Prop} {M : Mem} {x1 x2 x3 : Int} (r1 : R32 x1) (r2 : R32 x2) (r3 : R32 x3) (hk : k ≤ mc) (hn : n ≤ ms) (C : OkB (wM g ad) X cX10_isBack RX10 5 2 mc ms) (Y : OkR (wM g ad) X (some .boolean) mc ms PQ PX) (H : E (wM g ad) X k n M 5 [(0, .ref (ad 0)), (1, vI x1), (2, vI x2), (3, vI x3), (4, vI 1024)] []) : E (wM g ad) X k n M 0 [(0, .ref (ad 0)), (1, vI x1), (2, vI x2), (3, vI x3)] [] := by
  refine e_wf (fun hw0 => ?_)
  refine e_sipush C dX10_isBack_0 (by decide) ?_
  refine e_istore C dX10_isBack_3 (by decide) rfl ?_
  exact e_sub [1, 2, 3, 4, 0] rfl H
set_option maxRecDepth 4000 in
theorem B_X10_isBack_5 {g : Gs} {ad : Nat → Nat} {X : Cx} {mc ms k n : Nat} {PQ : Option Value → Mem → Prop} {PX : String → Mem → Prop} {M : Mem} {x1 x2 x3 x4 : Int} (r1 : R32 x1) (r2 : R32 x2) (r3 : R32 x3) (r4 : R32 x4) (hk : k ≤ mc) (hn : n ≤ ms) (C : OkB (wM g ad) X cX10_isBack RX10 5 2 mc ms) (Y : OkR (wM g ad) X (some .boolean) mc ms PQ PX) (H : ((x4 ≠ 0) ∧ (x4 ≠ -1)) ∧ ((((Int.tmod x3 x4) = 0) → (((x2 ≠ 0) → (((x4 < 1024) → E (wM g ad) X k n M 67 [(0, .ref (ad 0)), (1, vI x1), (3, vI x3), (4, vI x4)] []) ∧ ((1024 ≤ x4) → (((x3 ≤ 0) → PQ (some (vI 0)) M) ∧ ((0 < x3) → E (wM g ad) X k n M 67 [(0, .ref (ad 0)), (1, vI x1), (3, vI x3), (4, vI x4)] []))))) ∧ ((x2 = 0) → (((x4 < 1024) → E (wM g ad) X k n M 37 [(0, .ref (ad 0)), (1, vI x1), (3, vI x3), (4, vI x4)] []) ∧ ((1024 ≤ x4) → (((0 ≤ x3) → PQ (some (vI 0)) M) ∧ ((x3 < 0) → E (wM g ad) X k n M 37 [(0, .ref (ad 0)), (1, vI x1), (3, vI x3), (4, vI x4)] []))))))) ∧ (((Int.tmod x3 x4) ≠ 0) → E (wM g ad) X k n M 5 [(0, .ref (ad 0)), (1, vI x1), (2, vI x2), (3, vI x3), (4, vI (Int.tdiv x4 2))] []))) : E (wM g ad) X k n M 5 [(0, .ref (ad 0)), (1, vI x1), (2, vI x2), (3, vI x3), (4, vI x4)] [] := by
  refine e_wf (fun hw0 => ?_)
  refine e_iload_n C 3 dX10_isBack_5 rfl ?_
  refine e_iload C 4 dX10_isBack_6 rfl ?_
  obtain ⟨⟨o1, o2⟩, H⟩ := H
  refine e_irem C r3 r4 o1 o2 dX10_isBack_8 ?_
  refine e_if_eq C 21 (tmod_r r3 r4 o1) dX10_isBack_9 (by decide) (fun c9 => ?_) (fun c9 => ?_)
  · replace H := H.1 c9
    refine e_iload_n C 2 dX10_isBack_21 rfl ?_
    refine e_if_ne C 55 r2 dX10_isBack_22 (by decide) (fun c9 => ?_) (fun c9 => ?_)
    · replace H := H.1 c9
      refine e_iload C 4 dX10_isBack_55 rfl ?_
      refine e_sipush C dX10_isBack_57 (by decide) ?_
      refine e_icmp_lt C 67 r4 (by decide) dX10_isBack_60 (by decide) (fun c9 => ?_) (fun c9 => ?_)
      · replace H := H.1 c9
        exact e_sub [0, 1, 3, 4] rfl H
      · replace H := H.2 c9
        refine e_iload_n C 3 dX10_isBack_63 rfl ?_
        refine e_if_le C 83 r3 dX10_isBack_64 (by decide) (fun c9 => ?_) (fun c9 => ?_)
        · replace H := H.1 c9
          refine e_iconst C dX10_isBack_83 ?_
          exact e_zret C Y hk hn (by decide) dX10_isBack_84 H
        · replace H := H.2 c9
          exact e_sub [0, 1, 3, 4] rfl H
    · replace H := H.2 c9
      refine e_iload C 4 dX10_isBack_25 rfl ?_
      refine e_sipush C dX10_isBack_27 (by decide) ?_
      refine e_icmp_lt C 37 r4 (by decide) dX10_isBack_30 (by decide) (fun c9 => ?_) (fun c9 => ?_)
      · replace H := H.1 c9
        exact e_sub [0, 1, 3, 4] rfl H
      · replace H := H.2 c9
        refine e_iload_n C 3 dX10_isBack_33 rfl ?_
        refine e_if_ge C 53 r3 dX10_isBack_34 (by decide) (fun c9 => ?_) (fun c9 => ?_)
        · replace H := H.1 c9
          refine e_iconst C dX10_isBack_53 ?_
          exact e_zret C Y hk hn (by decide) dX10_isBack_54 H
        · replace H := H.2 c9
          exact e_sub [0, 1, 3, 4] rfl H
  · replace H := H.2 c9
    refine e_iload C 4 dX10_isBack_12 rfl ?_
    refine e_iconst C dX10_isBack_14 ?_
    refine e_idiv C r4 (by decide) (by decide) (by decide) dX10_isBack_15 ?_
    refine e_istore C dX10_isBack_16 (by decide) rfl ?_
    refine e_goto C 5 dX10_isBack_18 (by decide) ?_
    exact e_sub [1, 2, 3, 4, 0] rfl H
set_option maxRecDepth 4000 in
theorem B_X10_isBack_37 {g : Gs} {ad : Nat → Nat} {X : Cx} {mc ms k n : Nat} {PQ : Option Value → Mem → Prop} {PX : String → Mem → Prop} {M : Mem} {x1 x3 x4 : Int} (r1 : R32 x1) (r3 : R32 x3) (r4 : R32 x4) (hk : k ≤ mc) (hn : n ≤ ms) (C : OkB (wM g ad) X cX10_isBack RX10 5 2 mc ms) (Y : OkR (wM g ad) X (some .boolean) mc ms PQ PX) (H : ((R32 (x3 + x4)) ∧ (0 ≤ x1 ∧ x1 < 40)) ∧ (((¬(geM M x1 (x3 + x4))) → PQ (some (vI 0)) M) ∧ ((geM M x1 (x3 + x4)) → PQ (some (vI 1)) M))) : E (wM g ad) X k n M 37 [(0, .ref (ad 0)), (1, vI x1), (3, vI x3), (4, vI x4)] [] := by
  refine e_wf (fun hw0 => ?_)
  refine e_aload_n C 0 dX10_isBack_37 rfl ?_
  refine e_iload_n C 1 dX10_isBack_38 rfl ?_
  refine e_iload_n C 2 dX10_isBack_39 rfl ?_
  refine e_iload C 3 dX10_isBack_40 rfl ?_
  obtain ⟨⟨o1, o2⟩, H⟩ := H
  refine e_iadd C dX10_isBack_42 ?_
  refine e_callVD (As := [vI x1, vI (x3 + x4)]) (rest := []) (q0 := 0) (ci := 10) C Y mi_X10_isAtLeastNumber ms_X10_isAtLeastNumber mv_X10_isAtLeastNumber ml_X10_208 (s_X10_isAtLeastNumber r1 o1 o2) rfl rfl (by decide) (Nat.le_of_ble_eq_true rfl) hk hn dX10_isBack_43 rfl ?_
  refine e_if_eq C 53 (b2i_r _) dX10_isBack_46 (by decide) (fun c9 => ?_) (fun c9 => ?_)
  · replace H := H.1 (b2i_0.mp c9)
    refine e_iconst C dX10_isBack_53 ?_
    exact e_zret C Y hk hn (by decide) dX10_isBack_54 H
  · replace H := H.2 (b2i_n0.mp c9)
    refine e_iconst C dX10_isBack_49 ?_
    refine e_goto C 54 dX10_isBack_50 (by decide) ?_
    exact e_zret C Y hk hn (by decide) dX10_isBack_54 H
set_option maxRecDepth 4000 in
theorem B_X10_isBack_67 {g : Gs} {ad : Nat → Nat} {X : Cx} {mc ms k n : Nat} {PQ : Option Value → Mem → Prop} {PX : String → Mem → Prop} {M : Mem} {x1 x3 x4 : Int} (r1 : R32 x1) (r3 : R32 x3) (r4 : R32 x4) (hk : k ≤ mc) (hn : n ≤ ms) (C : OkB (wM g ad) X cX10_isBack RX10 5 2 mc ms) (Y : OkR (wM g ad) X (some .boolean) mc ms PQ PX) (H : ((R32 (x3 - x4)) ∧ (0 ≤ x1 ∧ x1 < 40)) ∧ (((¬(leM M x1 (x3 - x4))) → PQ (some (vI 0)) M) ∧ ((leM M x1 (x3 - x4)) → PQ (some (vI 1)) M))) : E (wM g ad) X k n M 67 [(0, .ref (ad 0)), (1, vI x1), (3, vI x3), (4, vI x4)] [] := by
  refine e_wf (fun hw0 => ?_)
  refine e_aload_n C 0 dX10_isBack_67 rfl ?_
  refine e_iload_n C 1 dX10_isBack_68 rfl ?_
  refine e_iload_n C 2 dX10_isBack_69 rfl ?_
  refine e_iload C 3 dX10_isBack_70 rfl ?_
  obtain ⟨⟨o1, o2⟩, H⟩ := H
  refine e_isub C dX10_isBack_72 ?_
  refine e_callVD (As := [vI x1, vI (x3 - x4)]) (rest := []) (q0 := 0) (ci := 10) C Y mi_X10_isAtMostNumber ms_X10_isAtMostNumber mv_X10_isAtMostNumber ml_X10_211 (s_X10_isAtMostNumber r1 o1 o2) rfl rfl (by decide) (Nat.le_of_ble_eq_true rfl) hk hn dX10_isBack_73 rfl ?_
  refine e_if_eq C 83 (b2i_r _) dX10_isBack_76 (by decide) (fun c9 => ?_) (fun c9 => ?_)
  · replace H := H.1 (b2i_0.mp c9)
    refine e_iconst C dX10_isBack_83 ?_
    exact e_zret C Y hk hn (by decide) dX10_isBack_84 H
  · replace H := H.2 (b2i_n0.mp c9)
    refine e_iconst C dX10_isBack_79 ?_
    refine e_goto C 84 dX10_isBack_80 (by decide) ?_
    exact e_zret C Y hk hn (by decide) dX10_isBack_84 H
set_option maxRecDepth 4000 in
theorem B_X10_gameAt_0 {g : Gs} {ad : Nat → Nat} {X : Cx} {mc ms k n : Nat} {PQ : Option Value → Mem → Prop} {PX : String → Mem → Prop} {M : Mem} {x1 x2 : Int} (r1 : R32 x1) (r2 : R32 x2) (hk : k ≤ mc) (hn : n ≤ ms) (C : OkB (wM g ad) X cX10_gameAt RX10 3 2 mc ms) (Y : OkR (wM g ad) X (some .int) mc ms PQ PX) (H : (R32 (40 * x2)) ∧ ∃ Q4 : Int → Mem → Prop, SpI (wM g ad) yX10_weight cX10_weight 4 (some .int) 1 [.ref (ad 0), vI x2] M Q4 ∧ ∀ (z5 : Int) (M3 : Mem), Q4 z5 M3 → R32 z5 ∧ ((z5 ≠ 0) ∧ (z5 ≠ -1) ∧ (0 ≤ x2 ∧ x2 < 4) ∧ ((M3 39 x2) ≠ 0) ∧ ((M3 39 x2) ≠ -1) ∧ (R32 ((40 * x2) + (Int.tmod (Int.tdiv x1 z5) (M3 39 x2)))) ∧ (0 ≤ (40 * x2) + (Int.tmod (Int.tdiv x1 z5) (M3 39 x2)) ∧ (40 * x2) + (Int.tmod (Int.tdiv x1 z5) (M3 39 x2)) < 160)) ∧ PQ (some (vI (M3 40 ((40 * x2) + (Int.tmod (Int.tdiv x1 z5) (M3 39 x2)))))) M3) : E (wM g ad) X k n M 0 [(0, .ref (ad 0)), (1, vI x1), (2, vI x2)] [] := by
  refine e_wf (fun hw0 => ?_)
  refine e_aload_n C 0 dX10_gameAt_0 rfl ?_
  refine gM_40 C dX10_gameAt_1 ?_
  refine e_bipush C dX10_gameAt_4 (by decide) ?_
  refine e_iload_n C 2 dX10_gameAt_6 rfl ?_
  obtain ⟨o1, H⟩ := H
  refine e_imul C dX10_gameAt_7 ?_
  refine e_iload_n C 1 dX10_gameAt_8 rfl ?_
  refine e_aload_n C 0 dX10_gameAt_9 rfl ?_
  refine e_iload_n C 2 dX10_gameAt_10 rfl ?_
  obtain ⟨Q4, h2, H⟩ := H
  refine e_callVI (As := [vI x2]) (rest := [vI x1, vI (40 * x2), .ref (ad 29)]) (q0 := 0) (ci := 10) C Y mi_X10_weight ms_X10_weight mv_X10_weight ml_X10_267 h2 rfl rfl (by decide) (Nat.le_of_ble_eq_true rfl) hk hn dX10_gameAt_11 rfl (fun z5 M3 hq9 => ?_)
  obtain ⟨o6, H⟩ := H z5 M3 hq9
  refine e_wf (fun hw7 => ?_)
  obtain ⟨⟨o8, o9, o10, o11, o12, o13, o14⟩, H⟩ := H
  refine e_idiv C r1 o6 o8 o9 dX10_gameAt_14 ?_
  refine e_aload_n C 0 dX10_gameAt_15 rfl ?_
  refine gM_39 C dX10_gameAt_16 ?_
  refine e_iload_n C 2 dX10_gameAt_19 rfl ?_
  refine aM_39 C o10 dX10_gameAt_20 ?_
  refine e_irem C (tdiv_r r1 o6 o9) (hw7.2.1 39 _ (by decide)) o11 o12 dX10_gameAt_21 ?_
  refine e_iadd C dX10_gameAt_22 ?_
  refine aM_40 C o14 dX10_gameAt_23 ?_
  exact e_iret C Y hk hn dX10_gameAt_24 H
set_option maxRecDepth 4000 in
theorem B_X10_played_0 {g : Gs} {ad : Nat → Nat} {X : Cx} {mc ms k n : Nat} {PQ : Option Value → Mem → Prop} {PX : String → Mem → Prop} {M : Mem} {x1 : Int} (r1 : R32 x1) (hk : k ≤ mc) (hn : n ≤ ms) (C : OkB (wM g ad) X cX10_played RX10 2 2 mc ms) (Y : OkR (wM g ad) X (some .int) mc ms PQ PX) (H : (R32 ((M 28 0) - 1)) ∧ (((¬((0 : Int) ≤ x1 ∧ x1 ≤ ((M 28 0) - 1))) → PQ (some (vI (-1))) (up M 20 0 0)) ∧ (((0 : Int) ≤ x1 ∧ x1 ≤ ((M 28 0) - 1)) → (0 ≤ x1 ∧ x1 < 40) ∧ PQ (some (vI (M 27 x1))) (up M 20 0 0)))) : E (wM g ad) X k n M 0 [(0, .ref (ad 0)), (1, vI x1)] [] := by
  refine e_wf (fun hw0 => ?_)
  refine e_aload_n C 0 dX10_played_0 rfl ?_
  refine e_iconst C dX10_played_1 ?_
  refine pM_20 C (by decide) dX10_played_2 ?_
  refine e_wf (fun hw1 => ?_)
  refine e_iload_n C 1 dX10_played_5 rfl ?_
  refine e_iconst C dX10_played_6 ?_
  refine e_aload_n C 0 dX10_played_7 rfl ?_
  refine gM_28 C dX10_played_8 ?_
  refine e_iconst C dX10_played_11 ?_
  obtain ⟨o2, H⟩ := H
  refine e_isub C dX10_played_12 ?_
  refine e_callSD (As := [vI x1, vI 0, vI ((M 28 0) - 1)]) (rest := []) C Y mi_X10_within ms_X10_within ml_X10_152 (s_X10_within r1 (by decide) o2) (by decide) (Nat.le_of_ble_eq_true rfl) hk hn dX10_played_13 rfl ?_
  refine e_if_eq C 28 (b2i_r _) dX10_played_16 (by decide) (fun c9 => ?_) (fun c9 => ?_)
  · replace H := H.1 (b2i_0.mp c9)
    refine e_iconst C dX10_played_28 ?_
    exact e_iret C Y hk hn dX10_played_29 H
  · replace H := H.2 (b2i_n0.mp c9)
    refine e_aload_n C 0 dX10_played_19 rfl ?_
    refine gM_27 C dX10_played_20 ?_
    refine e_iload_n C 1 dX10_played_23 rfl ?_
    obtain ⟨o3, H⟩ := H
    refine aM_27 C o3 dX10_played_24 ?_
    refine e_goto C 29 dX10_played_25 (by decide) ?_
    exact e_iret C Y hk hn dX10_played_29 H
set_option maxRecDepth 4000 in
theorem B_X10_type_0 {g : Gs} {ad : Nat → Nat} {X : Cx} {mc ms k n : Nat} {PQ : Option Value → Mem → Prop} {PX : String → Mem → Prop} {M : Mem} {x1 : Int} (r1 : R32 x1) (hk : k ≤ mc) (hn : n ≤ ms) (C : OkB (wM g ad) X cX10_type RX10 2 2 mc ms) (Y : OkR (wM g ad) X (some .int) mc ms PQ PX) (H : ((((32 : Int) ≤ x1 ∧ x1 ≤ (126 : Int)) → ((((M 24 0) ≠ 80) → E (wM g ad) X k n M 30 [(0, .ref (ad 0)), (1, vI x1)] [vI 0, .ref (ad 0)]) ∧ (((M 24 0) = 80) → E (wM g ad) X k n M 30 [(0, .ref (ad 0)), (1, vI x1)] [vI 2, .ref (ad 0)]))) ∧ ((¬((32 : Int) ≤ x1 ∧ x1 ≤ (126 : Int))) → E (wM g ad) X k n M 30 [(0, .ref (ad 0)), (1, vI x1)] [vI 1, .ref (ad 0)]))) : E (wM g ad) X k n M 0 [(0, .ref (ad 0)), (1, vI x1)] [] := by
  refine e_wf (fun hw0 => ?_)
  refine e_aload_n C 0 dX10_type_0 rfl ?_
  refine e_iload_n C 1 dX10_type_1 rfl ?_
  refine e_bipush C dX10_type_2 (by decide) ?_
  refine e_bipush C dX10_type_4 (by decide) ?_
  refine e_callSD (As := [vI x1, vI 32, vI 126]) (rest := [.ref (ad 0)]) C Y mi_X10_within ms_X10_within ml_X10_152 (s_X10_within r1 (by decide) (by decide)) (by decide) (Nat.le_of_ble_eq_true rfl) hk hn dX10_type_6 rfl ?_
  refine e_if_ne C 16 (b2i_r _) dX10_type_9 (by decide) (fun c9 => ?_) (fun c9 => ?_)
  · replace H := H.1 (b2i_n0.mp c9)
    refine e_aload_n C 0 dX10_type_16 rfl ?_
    refine gM_24 C dX10_type_17 ?_
    refine e_bipush C dX10_type_20 (by decide) ?_
    refine e_icmp_ne C 29 (hw0.2.1 24 _ (by decide)) (by decide) dX10_type_22 (by decide) (fun c9 => ?_) (fun c9 => ?_)
    · replace H := H.1 c9
      refine e_iconst C dX10_type_29 ?_
      exact e_sub [0, 1] rfl H
    · replace H := H.2 c9
      refine e_iconst C dX10_type_25 ?_
      refine e_goto C 30 dX10_type_26 (by decide) ?_
      exact e_sub [0, 1] rfl H
  · replace H := H.2 (b2i_0.mp c9)
    refine e_iconst C dX10_type_12 ?_
    refine e_goto C 30 dX10_type_13 (by decide) ?_
    exact e_sub [0, 1] rfl H
set_option maxRecDepth 4000 in
theorem B_X10_type_30 {g : Gs} {ad : Nat → Nat} {X : Cx} {mc ms k n : Nat} {PQ : Option Value → Mem → Prop} {PX : String → Mem → Prop} {M : Mem} {x1 t0 : Int} (r1 : R32 x1) (q0 : R32 t0) (hk : k ≤ mc) (hn : n ≤ ms) (C : OkB (wM g ad) X cX10_type RX10 2 2 mc ms) (Y : OkR (wM g ad) X (some .int) mc ms PQ PX) (H : (((¬(0 < t0)) → ((0 ≤ M 24 0 ∧ M 24 0 < 80) ∧ (R32 ((M 24 0) + 1))) ∧ PQ (some (vI ((M 24 0) + 1))) (up (up (up M 20 0 t0) 23 (M 24 0) x1) 24 0 ((M 24 0) + 1))) ∧ ((0 < t0) → PQ (some (vI 0)) (up M 20 0 t0)))) : E (wM g ad) X k n M 30 [(0, .ref (ad 0)), (1, vI x1)] [vI t0, .ref (ad 0)] := by
  refine e_wf (fun hw0 => ?_)
  refine e_callVD (As := [vI t0]) (rest := []) (q0 := 0) (ci := 10) C Y mi_X10_refused ms_X10_refused mv_X10_refused ml_X10_227 (s_X10_refused q0) rfl rfl (by decide) (Nat.le_of_ble_eq_true rfl) hk hn dX10_type_30 rfl ?_
  refine e_wf (fun hw1 => ?_)
  refine e_if_eq C 38 (b2i_r _) dX10_type_33 (by decide) (fun c9 => ?_) (fun c9 => ?_)
  · replace H := H.1 (b2i_0.mp c9)
    refine e_aload_n C 0 dX10_type_38 rfl ?_
    refine gM_23 C dX10_type_39 ?_
    refine e_aload_n C 0 dX10_type_42 rfl ?_
    refine gM_24 C dX10_type_43 ?_
    refine e_iload_n C 1 dX10_type_46 rfl ?_
    obtain ⟨⟨o2, o4⟩, H⟩ := H
    refine sM_23 C o2 r1 dX10_type_47 ?_
    refine e_wf (fun hw3 => ?_)
    refine e_aload_n C 0 dX10_type_48 rfl ?_
    refine e_dup C rfl dX10_type_49 ?_
    refine gM_24 C dX10_type_50 ?_
    refine e_iconst C dX10_type_53 ?_
    refine e_iadd C dX10_type_54 ?_
    refine pM_24 C o4 dX10_type_55 ?_
    refine e_wf (fun hw5 => ?_)
    refine e_aload_n C 0 dX10_type_58 rfl ?_
    refine gM_24 C dX10_type_59 ?_
    exact e_iret C Y hk hn dX10_type_62 H
  · replace H := H.2 (b2i_n0.mp c9)
    refine e_iconst C dX10_type_36 ?_
    exact e_iret C Y hk hn dX10_type_37 H
set_option maxRecDepth 4000 in
theorem B_X10_writesWhole_0 {g : Gs} {ad : Nat → Nat} {X : Cx} {mc ms k n : Nat} {PQ : Option Value → Mem → Prop} {PX : String → Mem → Prop} {M : Mem} {x1 : Int} (r1 : R32 x1) (hk : k ≤ mc) (hn : n ≤ ms) (C : OkB (wM g ad) X cX10_writesWhole RX10 2 2 mc ms) (Y : OkR (wM g ad) X none mc ms PQ PX) (H : (((x1 ≤ 9) → (R32 (48 + (Int.tmod x1 10))) ∧ ∃ Q4 : Mem → Prop, SpV (wM g ad) yX10_writes cX10_writes 2 none 1 [.ref (ad 0), vI (48 + (Int.tmod x1 10))] M Q4 ∧ ∀ M3 : Mem, Q4 M3 → PQ none M3) ∧ ((9 < x1) → (R32 (48 + (Int.tdiv x1 10))) ∧ ∃ Q9 : Mem → Prop, SpV (wM g ad) yX10_writes cX10_writes 2 none 1 [.ref (ad 0), vI (48 + (Int.tdiv x1 10))] M Q9 ∧ ∀ M8 : Mem, Q9 M8 → (R32 (48 + (Int.tmod x1 10))) ∧ ∃ Q14 : Mem → Prop, SpV (wM g ad) yX10_writes cX10_writes 2 none 1 [.ref (ad 0), vI (48 + (Int.tmod x1 10))] M8 Q14 ∧ ∀ M13 : Mem, Q14 M13 → PQ none M13))) : E (wM g ad) X k n M 0 [(0, .ref (ad 0)), (1, vI x1)] [] := by
  refine e_wf (fun hw0 => ?_)
  refine e_iload_n C 1 dX10_writesWhole_0 rfl ?_
  refine e_bipush C dX10_writesWhole_1 (by decide) ?_
  refine e_icmp_le C 17 r1 (by decide) dX10_writesWhole_3 (by decide) (fun c9 => ?_) (fun c9 => ?_)
  · replace H := H.1 c9
    refine e_aload_n C 0 dX10_writesWhole_17 rfl ?_
    refine e_bipush C dX10_writesWhole_18 (by decide) ?_
    refine e_iload_n C 1 dX10_writesWhole_20 rfl ?_
    refine e_bipush C dX10_writesWhole_21 (by decide) ?_
    refine e_irem C r1 (by decide) (by decide) (by decide) dX10_writesWhole_23 ?_
    obtain ⟨o1, H⟩ := H
    refine e_iadd C dX10_writesWhole_24 ?_
    obtain ⟨Q4, h2, H⟩ := H
    refine e_callVV (As := [vI (48 + (Int.tmod x1 10))]) (rest := []) (q0 := 0) (ci := 10) C Y mi_X10_writes ms_X10_writes mv_X10_writes ml_X10_392 h2 rfl rfl (by decide) (Nat.le_of_ble_eq_true rfl) hk hn dX10_writesWhole_25 rfl (fun M3 hq9 => ?_)
    replace H := H M3 hq9
    refine e_wf (fun hw5 => ?_)
    exact e_vret C Y hk hn dX10_writesWhole_28 H
  · replace H := H.2 c9
    refine e_aload_n C 0 dX10_writesWhole_6 rfl ?_
    refine e_bipush C dX10_writesWhole_7 (by decide) ?_
    refine e_iload_n C 1 dX10_writesWhole_9 rfl ?_
    refine e_bipush C dX10_writesWhole_10 (by decide) ?_
    refine e_idiv C r1 (by decide) (by decide) (by decide) dX10_writesWhole_12 ?_
    obtain ⟨o6, H⟩ := H
    refine e_iadd C dX10_writesWhole_13 ?_
    obtain ⟨Q9, h7, H⟩ := H
    refine e_callVV (As := [vI (48 + (Int.tdiv x1 10))]) (rest := []) (q0 := 0) (ci := 10) C Y mi_X10_writes ms_X10_writes mv_X10_writes ml_X10_392 h7 rfl rfl (by decide) (Nat.le_of_ble_eq_true rfl) hk hn dX10_writesWhole_14 rfl (fun M8 hq9 => ?_)
    replace H := H M8 hq9
    refine e_wf (fun hw10 => ?_)
    refine e_aload_n C 0 dX10_writesWhole_17 rfl ?_
    refine e_bipush C dX10_writesWhole_18 (by decide) ?_
    refine e_iload_n C 1 dX10_writesWhole_20 rfl ?_
    refine e_bipush C dX10_writesWhole_21 (by decide) ?_
    refine e_irem C r1 (by decide) (by decide) (by decide) dX10_writesWhole_23 ?_
    obtain ⟨o11, H⟩ := H
    refine e_iadd C dX10_writesWhole_24 ?_
    obtain ⟨Q14, h12, H⟩ := H
    refine e_callVV (As := [vI (48 + (Int.tmod x1 10))]) (rest := []) (q0 := 0) (ci := 10) C Y mi_X10_writes ms_X10_writes mv_X10_writes ml_X10_392 h12 rfl rfl (by decide) (Nat.le_of_ble_eq_true rfl) hk hn dX10_writesWhole_25 rfl (fun M13 hq9 => ?_)
    replace H := H M13 hq9
    refine e_wf (fun hw15 => ?_)
    exact e_vret C Y hk hn dX10_writesWhole_28 H
set_option maxRecDepth 4000 in
theorem B_X10_written_0 {g : Gs} {ad : Nat → Nat} {X : Cx} {mc ms k n : Nat} {PQ : Option Value → Mem → Prop} {PX : String → Mem → Prop} {M : Mem} {x1 : Int} (r1 : R32 x1) (hk : k ≤ mc) (hn : n ≤ ms) (C : OkB (wM g ad) X cX10_written RX10 2 2 mc ms) (Y : OkR (wM g ad) X (some .int) mc ms PQ PX) (H : (R32 ((M 26 0) - 1)) ∧ (((¬((0 : Int) ≤ x1 ∧ x1 ≤ ((M 26 0) - 1))) → PQ (some (vI (-1))) (up M 20 0 0)) ∧ (((0 : Int) ≤ x1 ∧ x1 ≤ ((M 26 0) - 1)) → (0 ≤ x1 ∧ x1 < 400) ∧ PQ (some (vI (M 62 x1))) (up M 20 0 0)))) : E (wM g ad) X k n M 0 [(0, .ref (ad 0)), (1, vI x1)] [] := by
  refine e_wf (fun hw0 => ?_)
  refine e_aload_n C 0 dX10_written_0 rfl ?_
  refine e_iconst C dX10_written_1 ?_
  refine pM_20 C (by decide) dX10_written_2 ?_
  refine e_wf (fun hw1 => ?_)
  refine e_iload_n C 1 dX10_written_5 rfl ?_
  refine e_iconst C dX10_written_6 ?_
  refine e_aload_n C 0 dX10_written_7 rfl ?_
  refine gM_26 C dX10_written_8 ?_
  refine e_iconst C dX10_written_11 ?_
  obtain ⟨o2, H⟩ := H
  refine e_isub C dX10_written_12 ?_
  refine e_callSD (As := [vI x1, vI 0, vI ((M 26 0) - 1)]) (rest := []) C Y mi_X10_within ms_X10_within ml_X10_152 (s_X10_within r1 (by decide) o2) (by decide) (Nat.le_of_ble_eq_true rfl) hk hn dX10_written_13 rfl ?_
  refine e_if_eq C 28 (b2i_r _) dX10_written_16 (by decide) (fun c9 => ?_) (fun c9 => ?_)
  · replace H := H.1 (b2i_0.mp c9)
    refine e_iconst C dX10_written_28 ?_
    exact e_iret C Y hk hn dX10_written_29 H
  · replace H := H.2 (b2i_n0.mp c9)
    refine e_aload_n C 0 dX10_written_19 rfl ?_
    refine gM_62 C dX10_written_20 ?_
    refine e_iload_n C 1 dX10_written_23 rfl ?_
    obtain ⟨o3, H⟩ := H
    refine aM_62 C o3 dX10_written_24 ?_
    refine e_goto C 29 dX10_written_25 (by decide) ?_
    exact e_iret C Y hk hn dX10_written_29 H
set_option maxRecDepth 4000 in
theorem B_X10_isNew_0 {g : Gs} {ad : Nat → Nat} {X : Cx} {mc ms k n : Nat} {PQ : Option Value → Mem → Prop} {PX : String → Mem → Prop} {M : Mem} {x1 : Int} (r1 : R32 x1) (hk : k ≤ mc) (hn : n ≤ ms) (C : OkB (wM g ad) X cX10_isNew RX10 5 3 mc ms) (Y : OkR (wM g ad) X (some .boolean) mc ms PQ PX) (H : (0 ≤ x1 ∧ x1 < 40) ∧ ((((M 1 x1) ≠ 0) → E (wM g ad) X k n M 17 [(0, .ref (ad 0)), (1, vI x1), (2, vI 0), (3, vI 0)] []) ∧ (((M 1 x1) = 0) → E (wM g ad) X k n M 17 [(0, .ref (ad 0)), (1, vI x1), (2, vI 1), (3, vI 0)] []))) : E (wM g ad) X k n M 0 [(0, .ref (ad 0)), (1, vI x1)] [] := by
  refine e_wf (fun hw0 => ?_)
  refine e_aload_n C 0 dX10_isNew_0 rfl ?_
  refine gM_1 C dX10_isNew_1 ?_
  refine e_iload_n C 1 dX10_isNew_4 rfl ?_
  obtain ⟨o1, H⟩ := H
  refine aM_1 C o1 dX10_isNew_5 ?_
  refine e_if_ne C 13 (hw0.2.1 1 _ (by decide)) dX10_isNew_6 (by decide) (fun c9 => ?_) (fun c9 => ?_)
  · replace H := H.1 c9
    refine e_iconst C dX10_isNew_13 ?_
    refine e_istore_n C dX10_isNew_14 (by decide) rfl ?_
    refine e_iconst C dX10_isNew_15 ?_
    refine e_istore_n C dX10_isNew_16 (by decide) rfl ?_
    exact e_sub [2, 3, 1, 0] rfl H
  · replace H := H.2 c9
    refine e_iconst C dX10_isNew_9 ?_
    refine e_goto C 14 dX10_isNew_10 (by decide) ?_
    refine e_istore_n C dX10_isNew_14 (by decide) rfl ?_
    refine e_iconst C dX10_isNew_15 ?_
    refine e_istore_n C dX10_isNew_16 (by decide) rfl ?_
    exact e_sub [2, 3, 1, 0] rfl H
set_option maxRecDepth 4000 in
theorem B_X10_isNew_17 {g : Gs} {ad : Nat → Nat} {X : Cx} {mc ms k n : Nat} {PQ : Option Value → Mem → Prop} {PX : String → Mem → Prop} {M : Mem} {x1 x2 x3 : Int} (r1 : R32 x1) (r2 : R32 x2) (r3 : R32 x3) (hk : k ≤ mc) (hn : n ≤ ms) (C : OkB (wM g ad) X cX10_isNew RX10 5 3 mc ms) (Y : OkR (wM g ad) X (some .boolean) mc ms PQ PX) (H : (((2 ≤ x3) → (x2 = 0 ∨ x2 = 1) ∧ PQ (some (vI x2)) M) ∧ ((x3 < 2) → (((x2 = 0) → E (wM g ad) X k n M 50 [(0, .ref (ad 0)), (1, vI x1), (2, vI 0), (3, vI x3), (4, vI 0)] []) ∧ ((x2 ≠ 0) → (((0 ≤ x1 ∧ x1 < 40) ∧ 0 ≤ x3 ∧ x3 ≤ 1) ∧ (0 ≤ x3 ∧ x3 < 2)) ∧ ((((M 3 (2 * x1 + x3)) ≠ (M 30 x3)) → E (wM g ad) X k n M 50 [(0, .ref (ad 0)), (1, vI x1), (2, vI 0), (3, vI x3), (4, vI 0)] []) ∧ (((M 3 (2 * x1 + x3)) = (M 30 x3)) → E (wM g ad) X k n M 50 [(0, .ref (ad 0)), (1, vI x1), (2, vI 1), (3, vI x3), (4, vI 0)] []))))))) : E (wM g ad) X k n M 17 [(0, .ref (ad 0)), (1, vI x1), (2, vI x2), (3, vI x3)] [] := by
  refine e_wf (fun hw0 => ?_)
  refine e_iload_n C 3 dX10_isNew_17 rfl ?_
  refine e_iconst C dX10_isNew_18 ?_
  refine e_icmp_ge C 105 r3 (by decide) dX10_isNew_19 (by decide) (fun c9 => ?_) (fun c9 => ?_)
  · replace H := H.1 c9
    refine e_iload_n C 2 dX10_isNew_105 rfl ?_
    obtain ⟨o1, H⟩ := H
    exact e_zret C Y hk hn o1 dX10_isNew_106 H
  · replace H := H.2 c9
    refine e_iload_n C 2 dX10_isNew_22 rfl ?_
    refine e_if_eq C 45 r2 dX10_isNew_23 (by decide) (fun c9 => ?_) (fun c9 => ?_)
    · replace H := H.1 c9
      refine e_iconst C dX10_isNew_45 ?_
      refine e_istore_n C dX10_isNew_46 (by decide) rfl ?_
      refine e_iconst C dX10_isNew_47 ?_
      refine e_istore C dX10_isNew_48 (by decide) rfl ?_
      exact e_sub [2, 3, 1, 4, 0] rfl H
    · replace H := H.2 c9
      refine e_aload_n C 0 dX10_isNew_26 rfl ?_
      refine e_iload_n C 1 dX10_isNew_27 rfl ?_
      refine e_iload_n C 3 dX10_isNew_28 rfl ?_
      obtain ⟨⟨o2, o3⟩, H⟩ := H
      refine e_callVD (As := [vI x1, vI x3]) (rest := []) (q0 := 0) (ci := 10) C Y mi_X10_optionsOf ms_X10_optionsOf mv_X10_optionsOf ml_X10_164 (s_X10_optionsOf r1 r3 o2) rfl rfl (by decide) (Nat.le_of_ble_eq_true rfl) hk hn dX10_isNew_29 rfl ?_
      refine e_aload_n C 0 dX10_isNew_32 rfl ?_
      refine gM_30 C dX10_isNew_33 ?_
      refine e_iload_n C 3 dX10_isNew_36 rfl ?_
      refine aM_30 C o3 dX10_isNew_37 ?_
      refine e_icmp_ne C 45 (hw0.2.1 3 _ (by decide)) (hw0.2.1 30 _ (by decide)) dX10_isNew_38 (by decide) (fun c9 => ?_) (fun c9 => ?_)
      · replace H := H.1 c9
        refine e_iconst C dX10_isNew_45 ?_
        refine e_istore_n C dX10_isNew_46 (by decide) rfl ?_
        refine e_iconst C dX10_isNew_47 ?_
        refine e_istore C dX10_isNew_48 (by decide) rfl ?_
        exact e_sub [2, 3, 1, 4, 0] rfl H
      · replace H := H.2 c9
        refine e_iconst C dX10_isNew_41 ?_
        refine e_goto C 46 dX10_isNew_42 (by decide) ?_
        refine e_istore_n C dX10_isNew_46 (by decide) rfl ?_
        refine e_iconst C dX10_isNew_47 ?_
        refine e_istore C dX10_isNew_48 (by decide) rfl ?_
        exact e_sub [2, 3, 1, 4, 0] rfl H
set_option maxRecDepth 4000 in
theorem B_X10_isNew_50 {g : Gs} {ad : Nat → Nat} {X : Cx} {mc ms k n : Nat} {PQ : Option Value → Mem → Prop} {PX : String → Mem → Prop} {M : Mem} {x1 x2 x3 x4 : Int} (r1 : R32 x1) (r2 : R32 x2) (r3 : R32 x3) (r4 : R32 x4) (hk : k ≤ mc) (hn : n ≤ ms) (C : OkB (wM g ad) X cX10_isNew RX10 5 3 mc ms) (Y : OkR (wM g ad) X (some .boolean) mc ms PQ PX) (H : (0 ≤ x3 ∧ x3 < 2) ∧ ((((M 30 x3) ≤ x4) → (R32 (x3 + 1)) ∧ E (wM g ad) X k n M 17 [(0, .ref (ad 0)), (1, vI x1), (2, vI x2), (3, vI (x3 + 1))] []) ∧ ((x4 < (M 30 x3)) → (((x2 = 0) → (R32 (x3 + 1)) ∧ E (wM g ad) X k n M 17 [(0, .ref (ad 0)), (1, vI x1), (2, vI x2), (3, vI (x3 + 1))] []) ∧ ((x2 ≠ 0) → (((0 ≤ x1 ∧ x1 < 40) ∧ (0 ≤ x3 ∧ x3 ≤ 1) ∧ 0 ≤ x4 ∧ x4 < 4) ∧ (R32 (4 * x3)) ∧ (R32 ((4 * x3) + x4)) ∧ (0 ≤ (4 * x3) + x4 ∧ (4 * x3) + x4 < 8)) ∧ ((((M 4 (8 * x1 + 4 * x3 + x4)) ≠ (M 31 ((4 * x3) + x4))) → (R32 (x4 + 1)) ∧ E (wM g ad) X k n M 50 [(0, .ref (ad 0)), (1, vI x1), (2, vI 0), (3, vI x3), (4, vI (x4 + 1))] []) ∧ (((M 4 (8 * x1 + 4 * x3 + x4)) = (M 31 ((4 * x3) + x4))) → (R32 (x4 + 1)) ∧ E (wM g ad) X k n M 50 [(0, .ref (ad 0)), (1, vI x1), (2, vI 1), (3, vI x3), (4, vI (x4 + 1))] []))))))) : E (wM g ad) X k n M 50 [(0, .ref (ad 0)), (1, vI x1), (2, vI x2), (3, vI x3), (4, vI x4)] [] := by
  refine e_wf (fun hw0 => ?_)
  refine e_iload C 4 dX10_isNew_50 rfl ?_
  refine e_aload_n C 0 dX10_isNew_52 rfl ?_
  refine gM_30 C dX10_isNew_53 ?_
  refine e_iload_n C 3 dX10_isNew_56 rfl ?_
  obtain ⟨o1, H⟩ := H
  refine aM_30 C o1 dX10_isNew_57 ?_
  refine e_icmp_ge C 99 r4 (hw0.2.1 30 _ (by decide)) dX10_isNew_58 (by decide) (fun c9 => ?_) (fun c9 => ?_)
  · replace H := H.1 c9
    obtain ⟨o2, H⟩ := H
    refine e_iinc C 3 dX10_isNew_99 rfl (by decide) rfl ?_
    refine e_goto C 17 dX10_isNew_102 (by decide) ?_
    exact e_sub [1, 2, 3, 0] rfl H
  · replace H := H.2 c9
    refine e_iload_n C 2 dX10_isNew_61 rfl ?_
    refine e_if_eq C 99 r2 dX10_isNew_62 (by decide) (fun c9 => ?_) (fun c9 => ?_)
    · replace H := H.1 c9
      obtain ⟨o3, H⟩ := H
      refine e_iinc C 3 dX10_isNew_99 rfl (by decide) rfl ?_
      refine e_goto C 17 dX10_isNew_102 (by decide) ?_
      exact e_sub [1, 2, 3, 0] rfl H
    · replace H := H.2 c9
      refine e_aload_n C 0 dX10_isNew_65 rfl ?_
      refine e_iload_n C 1 dX10_isNew_66 rfl ?_
      refine e_iload_n C 3 dX10_isNew_67 rfl ?_
      refine e_iload C 4 dX10_isNew_68 rfl ?_
      obtain ⟨⟨o4, o5, o6, o7⟩, H⟩ := H
      refine e_callVD (As := [vI x1, vI x3, vI x4]) (rest := []) (q0 := 0) (ci := 10) C Y mi_X10_optionOf ms_X10_optionOf mv_X10_optionOf ml_X10_167 (s_X10_optionOf r1 r3 r4 o4) rfl rfl (by decide) (Nat.le_of_ble_eq_true rfl) hk hn dX10_isNew_70 rfl ?_
      refine e_aload_n C 0 dX10_isNew_73 rfl ?_
      refine gM_31 C dX10_isNew_74 ?_
      refine e_iconst C dX10_isNew_77 ?_
      refine e_iload_n C 3 dX10_isNew_78 rfl ?_
      refine e_imul C dX10_isNew_79 ?_
      refine e_iload C 4 dX10_isNew_80 rfl ?_
      refine e_iadd C dX10_isNew_82 ?_
      refine aM_31 C o7 dX10_isNew_83 ?_
      refine e_icmp_ne C 91 (hw0.2.1 4 _ (by decide)) (hw0.2.1 31 _ (by decide)) dX10_isNew_84 (by decide) (fun c9 => ?_) (fun c9 => ?_)
      · replace H := H.1 c9
        refine e_iconst C dX10_isNew_91 ?_
        refine e_istore_n C dX10_isNew_92 (by decide) rfl ?_
        obtain ⟨o8, H⟩ := H
        refine e_iinc C 4 dX10_isNew_93 rfl (by decide) rfl ?_
        refine e_goto C 50 dX10_isNew_96 (by decide) ?_
        exact e_sub [2, 3, 1, 4, 0] rfl H
      · replace H := H.2 c9
        refine e_iconst C dX10_isNew_87 ?_
        refine e_goto C 92 dX10_isNew_88 (by decide) ?_
        refine e_istore_n C dX10_isNew_92 (by decide) rfl ?_
        obtain ⟨o9, H⟩ := H
        refine e_iinc C 4 dX10_isNew_93 rfl (by decide) rfl ?_
        refine e_goto C 50 dX10_isNew_96 (by decide) ?_
        exact e_sub [2, 3, 1, 4, 0] rfl H
set_option maxRecDepth 4000 in
theorem B_X10_hasValue_0 {g : Gs} {ad : Nat → Nat} {X : Cx} {mc ms k n : Nat} {PQ : Option Value → Mem → Prop} {PX : String → Mem → Prop} {M : Mem} {x1 : Int} (r1 : R32 x1) (hk : k ≤ mc) (hn : n ≤ ms) (C : OkB (wM g ad) X cX10_hasValue RX10 4 3 mc ms) (Y : OkR (wM g ad) X (some .boolean) mc ms PQ PX) (H : E (wM g ad) X k n (up (up (up (up M 32 0 (-1000000)) 33 0 0) 34 0 1000000) 35 0 0) 24 [(0, .ref (ad 0)), (1, vI x1), (2, vI 0)] []) : E (wM g ad) X k n M 0 [(0, .ref (ad 0)), (1, vI x1)] [] := by
  refine e_wf (fun hw0 => ?_)
  refine e_aload_n C 0 dX10_hasValue_0 rfl ?_
  refine e_ldc C (v := (-1000000)) (tg5 180 rfl rfl) (by decide) dX10_hasValue_1 ?_
  refine pM_32 C (by decide) dX10_hasValue_3 ?_
  refine e_wf (fun hw1 => ?_)
  refine e_aload_n C 0 dX10_hasValue_6 rfl ?_
  refine e_iconst C dX10_hasValue_7 ?_
  refine pM_33 C (by decide) dX10_hasValue_8 ?_
  refine e_wf (fun hw2 => ?_)
  refine e_aload_n C 0 dX10_hasValue_11 rfl ?_
  refine e_ldc C (v := 1000000) (tg5 181 rfl rfl) (by decide) dX10_hasValue_12 ?_
  refine pM_34 C (by decide) dX10_hasValue_14 ?_
  refine e_wf (fun hw3 => ?_)
  refine e_aload_n C 0 dX10_hasValue_17 rfl ?_
  refine e_iconst C dX10_hasValue_18 ?_
  refine pM_35 C (by decide) dX10_hasValue_19 ?_
  refine e_wf (fun hw4 => ?_)
  refine e_iconst C dX10_hasValue_22 ?_
  refine e_istore_n C dX10_hasValue_23 (by decide) rfl ?_
  exact e_sub [1, 2, 0] rfl H
set_option maxRecDepth 4000 in
theorem B_X10_hasValue_24 {g : Gs} {ad : Nat → Nat} {X : Cx} {mc ms k n : Nat} {PQ : Option Value → Mem → Prop} {PX : String → Mem → Prop} {M : Mem} {x1 x2 : Int} (r1 : R32 x1) (r2 : R32 x2) (hk : k ≤ mc) (hn : n ≤ ms) (C : OkB (wM g ad) X cX10_hasValue RX10 4 3 mc ms) (Y : OkR (wM g ad) X (some .boolean) mc ms PQ PX) (H : ((0 ≤ x1 ∧ x1 < 40) ∧ 0 ≤ (0 : Int) ∧ (0 : Int) ≤ 1) ∧ ((((M 3 (2 * x1 + (0 : Int))) ≤ x2) → E (wM g ad) X k n M 155 [(0, .ref (ad 0)), (1, vI x1), (2, vI 0)] []) ∧ ((x2 < (M 3 (2 * x1 + (0 : Int)))) → (((0 ≤ x1 ∧ x1 < 40) ∧ (0 ≤ (0 : Int) ∧ (0 : Int) ≤ 1) ∧ 0 ≤ x2 ∧ x2 < 4) ∧ (0 ≤ M 4 (8 * x1 + 4 * (0 : Int) + x2) ∧ M 4 (8 * x1 + 4 * (0 : Int) + x2) < 40)) ∧ ((((M 8 (M 4 (8 * x1 + 4 * (0 : Int) + x2))) ≤ (M 32 0)) → ((((M 8 (M 4 (8 * x1 + 4 * (0 : Int) + x2))) ≠ (M 32 0)) → E (wM g ad) X k n M 114 [(0, .ref (ad 0)), (1, vI x1), (2, vI x2), (3, vI (M 4 (8 * x1 + 4 * (0 : Int) + x2)))] [vI (M 33 0), .ref (ad 0)]) ∧ (((M 8 (M 4 (8 * x1 + 4 * (0 : Int) + x2))) = (M 32 0)) → ((((M 33 0) = 0) → E (wM g ad) X k n M 114 [(0, .ref (ad 0)), (1, vI x1), (2, vI x2), (3, vI (M 4 (8 * x1 + 4 * (0 : Int) + x2)))] [vI 0, .ref (ad 0)]) ∧ (((M 33 0) ≠ 0) → ((((M 9 (M 4 (8 * x1 + 4 * (0 : Int) + x2))) ≠ 0) → E (wM g ad) X k n M 114 [(0, .ref (ad 0)), (1, vI x1), (2, vI x2), (3, vI (M 4 (8 * x1 + 4 * (0 : Int) + x2)))] [vI 0, .ref (ad 0)]) ∧ (((M 9 (M 4 (8 * x1 + 4 * (0 : Int) + x2))) = 0) → E (wM g ad) X k n M 114 [(0, .ref (ad 0)), (1, vI x1), (2, vI x2), (3, vI (M 4 (8 * x1 + 4 * (0 : Int) + x2)))] [vI 1, .ref (ad 0)]))))))) ∧ (((M 32 0) < (M 8 (M 4 (8 * x1 + 4 * (0 : Int) + x2)))) → ((((M 9 (M 4 (8 * x1 + 4 * (0 : Int) + x2))) ≠ 0) → E (wM g ad) X k n M 114 [(0, .ref (ad 0)), (1, vI x1), (2, vI x2), (3, vI (M 4 (8 * x1 + 4 * (0 : Int) + x2)))] [vI 0, .ref (ad 0)]) ∧ (((M 9 (M 4 (8 * x1 + 4 * (0 : Int) + x2))) = 0) → E (wM g ad) X k n M 114 [(0, .ref (ad 0)), (1, vI x1), (2, vI x2), (3, vI (M 4 (8 * x1 + 4 * (0 : Int) + x2)))] [vI 1, .ref (ad 0)]))))))) : E (wM g ad) X k n M 24 [(0, .ref (ad 0)), (1, vI x1), (2, vI x2)] [] := by
  refine e_wf (fun hw0 => ?_)
  refine e_iload_n C 2 dX10_hasValue_24 rfl ?_
  refine e_aload_n C 0 dX10_hasValue_25 rfl ?_
  refine e_iload_n C 1 dX10_hasValue_26 rfl ?_
  refine e_iconst C dX10_hasValue_27 ?_
  obtain ⟨o1, H⟩ := H
  refine e_callVD (As := [vI x1, vI 0]) (rest := [vI x2]) (q0 := 0) (ci := 10) C Y mi_X10_optionsOf ms_X10_optionsOf mv_X10_optionsOf ml_X10_164 (s_X10_optionsOf r1 (by decide) o1) rfl rfl (by decide) (Nat.le_of_ble_eq_true rfl) hk hn dX10_hasValue_28 rfl ?_
  refine e_icmp_ge C 153 r2 (hw0.2.1 3 _ (by decide)) dX10_hasValue_31 (by decide) (fun c9 => ?_) (fun c9 => ?_)
  · replace H := H.1 c9
    refine e_iconst C dX10_hasValue_153 ?_
    refine e_istore_n C dX10_hasValue_154 (by decide) rfl ?_
    exact e_sub [1, 2, 0] rfl H
  · replace H := H.2 c9
    refine e_aload_n C 0 dX10_hasValue_34 rfl ?_
    refine e_iload_n C 1 dX10_hasValue_35 rfl ?_
    refine e_iconst C dX10_hasValue_36 ?_
    refine e_iload_n C 2 dX10_hasValue_37 rfl ?_
    obtain ⟨⟨o2, o3⟩, H⟩ := H
    refine e_callVD (As := [vI x1, vI 0, vI x2]) (rest := []) (q0 := 0) (ci := 10) C Y mi_X10_optionOf ms_X10_optionOf mv_X10_optionOf ml_X10_167 (s_X10_optionOf r1 (by decide) r2 o2) rfl rfl (by decide) (Nat.le_of_ble_eq_true rfl) hk hn dX10_hasValue_38 rfl ?_
    refine e_istore_n C dX10_hasValue_41 (by decide) rfl ?_
    refine e_aload_n C 1 dX10_hasValue_42 rfl ?_
    refine e_aload_n C 1 dX10_hasValue_43 rfl ?_
    refine gM_8 C dX10_hasValue_44 ?_
    refine e_iload_n C 0 dX10_hasValue_47 rfl ?_
    refine aM_8 C o3 dX10_hasValue_48 ?_
    refine e_aload_n C 1 dX10_hasValue_49 rfl ?_
    refine gM_32 C dX10_hasValue_50 ?_
    refine e_icmp_le C 73 (hw0.2.1 8 _ (by decide)) (hw0.2.1 32 _ (by decide)) dX10_hasValue_53 (by decide) (fun c9 => ?_) (fun c9 => ?_)
    · replace H := H.1 c9
      refine e_aload_n C 1 dX10_hasValue_73 rfl ?_
      refine gM_8 C dX10_hasValue_74 ?_
      refine e_iload_n C 0 dX10_hasValue_77 rfl ?_
      refine aM_8 C o3 dX10_hasValue_78 ?_
      refine e_aload_n C 1 dX10_hasValue_79 rfl ?_
      refine gM_32 C dX10_hasValue_80 ?_
      refine e_icmp_ne C 110 (hw0.2.1 8 _ (by decide)) (hw0.2.1 32 _ (by decide)) dX10_hasValue_83 (by decide) (fun c9 => ?_) (fun c9 => ?_)
      · replace H := H.1 c9
        refine e_aload_n C 1 dX10_hasValue_110 rfl ?_
        refine gM_33 C dX10_hasValue_111 ?_
        exact e_sub [1, 2, 3, 0] rfl H
      · replace H := H.2 c9
        refine e_aload_n C 1 dX10_hasValue_86 rfl ?_
        refine gM_33 C dX10_hasValue_87 ?_
        refine e_if_eq C 106 (hw0.2.1 33 _ (by decide)) dX10_hasValue_90 (by decide) (fun c9 => ?_) (fun c9 => ?_)
        · replace H := H.1 c9
          refine e_iconst C dX10_hasValue_106 ?_
          refine e_goto C 114 dX10_hasValue_107 (by decide) ?_
          exact e_sub [1, 2, 3, 0] rfl H
        · replace H := H.2 c9
          refine e_aload_n C 1 dX10_hasValue_93 rfl ?_
          refine gM_9 C dX10_hasValue_94 ?_
          refine e_iload_n C 0 dX10_hasValue_97 rfl ?_
          refine aM_9 C o3 dX10_hasValue_98 ?_
          refine e_if_ne C 106 (hw0.2.1 9 _ (by decide)) dX10_hasValue_99 (by decide) (fun c9 => ?_) (fun c9 => ?_)
          · replace H := H.1 c9
            refine e_iconst C dX10_hasValue_106 ?_
            refine e_goto C 114 dX10_hasValue_107 (by decide) ?_
            exact e_sub [1, 2, 3, 0] rfl H
          · replace H := H.2 c9
            refine e_iconst C dX10_hasValue_102 ?_
            refine e_goto C 114 dX10_hasValue_103 (by decide) ?_
            exact e_sub [1, 2, 3, 0] rfl H
    · replace H := H.2 c9
      refine e_aload_n C 1 dX10_hasValue_56 rfl ?_
      refine gM_9 C dX10_hasValue_57 ?_
      refine e_iload_n C 0 dX10_hasValue_60 rfl ?_
      refine aM_9 C o3 dX10_hasValue_61 ?_
      refine e_if_ne C 69 (hw0.2.1 9 _ (by decide)) dX10_hasValue_62 (by decide) (fun c9 => ?_) (fun c9 => ?_)
      · replace H := H.1 c9
        refine e_iconst C dX10_hasValue_69 ?_
        refine e_goto C 114 dX10_hasValue_70 (by decide) ?_
        exact e_sub [1, 2, 3, 0] rfl H
      · replace H := H.2 c9
        refine e_iconst C dX10_hasValue_65 ?_
        refine e_goto C 114 dX10_hasValue_66 (by decide) ?_
        exact e_sub [1, 2, 3, 0] rfl H
set_option maxRecDepth 4000 in
theorem B_X10_hasValue_114 {g : Gs} {ad : Nat → Nat} {X : Cx} {mc ms k n : Nat} {PQ : Option Value → Mem → Prop} {PX : String → Mem → Prop} {M : Mem} {x1 x2 x3 t0 : Int} (r1 : R32 x1) (r2 : R32 x2) (r3 : R32 x3) (q0 : R32 t0) (hk : k ≤ mc) (hn : n ≤ ms) (C : OkB (wM g ad) X cX10_hasValue RX10 4 3 mc ms) (Y : OkR (wM g ad) X (some .boolean) mc ms PQ PX) (H : ((t0 = 0 ∨ t0 = 1) ∧ (0 ≤ x3 ∧ x3 < 40)) ∧ ((((M 8 x3) ≤ (M 32 0)) → (R32 (x2 + 1)) ∧ E (wM g ad) X k n (up (up M 33 0 t0) 32 0 (M 32 0)) 24 [(0, .ref (ad 0)), (1, vI x1), (2, vI (x2 + 1))] []) ∧ (((M 32 0) < (M 8 x3)) → (R32 (x2 + 1)) ∧ E (wM g ad) X k n (up (up M 33 0 t0) 32 0 (M 8 x3)) 24 [(0, .ref (ad 0)), (1, vI x1), (2, vI (x2 + 1))] []))) : E (wM g ad) X k n M 114 [(0, .ref (ad 0)), (1, vI x1), (2, vI x2), (3, vI x3)] [vI t0, .ref (ad 0)] := by
  refine e_wf (fun hw0 => ?_)
  obtain ⟨⟨o1, o3⟩, H⟩ := H
  refine pM_33 C o1 dX10_hasValue_114 ?_
  refine e_wf (fun hw2 => ?_)
  refine e_aload_n C 0 dX10_hasValue_117 rfl ?_
  refine e_aload_n C 0 dX10_hasValue_118 rfl ?_
  refine gM_8 C dX10_hasValue_119 ?_
  refine e_iload_n C 3 dX10_hasValue_122 rfl ?_
  refine aM_8 C o3 dX10_hasValue_123 ?_
  refine e_aload_n C 0 dX10_hasValue_124 rfl ?_
  refine gM_32 C dX10_hasValue_125 ?_
  refine e_icmp_le C 140 (hw0.2.1 8 _ (by decide)) (hw0.2.1 32 _ (by decide)) dX10_hasValue_128 (by decide) (fun c9 => ?_) (fun c9 => ?_)
  · replace H := H.1 c9
    refine e_aload_n C 0 dX10_hasValue_140 rfl ?_
    refine gM_32 C dX10_hasValue_141 ?_
    refine pM_32 C (hw0.2.1 32 _ (by decide)) dX10_hasValue_144 ?_
    refine e_wf (fun hw4 => ?_)
    obtain ⟨o5, H⟩ := H
    refine e_iinc C 2 dX10_hasValue_147 rfl (by decide) rfl ?_
    refine e_goto C 24 dX10_hasValue_150 (by decide) ?_
    exact e_sub [1, 2, 0] rfl H
  · replace H := H.2 c9
    refine e_aload_n C 0 dX10_hasValue_131 rfl ?_
    refine gM_8 C dX10_hasValue_132 ?_
    refine e_iload_n C 3 dX10_hasValue_135 rfl ?_
    refine aM_8 C o3 dX10_hasValue_136 ?_
    refine e_goto C 144 dX10_hasValue_137 (by decide) ?_
    refine pM_32 C (hw0.2.1 8 _ (by decide)) dX10_hasValue_144 ?_
    refine e_wf (fun hw6 => ?_)
    obtain ⟨o7, H⟩ := H
    refine e_iinc C 2 dX10_hasValue_147 rfl (by decide) rfl ?_
    refine e_goto C 24 dX10_hasValue_150 (by decide) ?_
    exact e_sub [1, 2, 0] rfl H
set_option maxRecDepth 4000 in
theorem B_X10_hasValue_155 {g : Gs} {ad : Nat → Nat} {X : Cx} {mc ms k n : Nat} {PQ : Option Value → Mem → Prop} {PX : String → Mem → Prop} {M : Mem} {x1 x2 : Int} (r1 : R32 x1) (r2 : R32 x2) (hk : k ≤ mc) (hn : n ≤ ms) (C : OkB (wM g ad) X cX10_hasValue RX10 4 3 mc ms) (Y : OkR (wM g ad) X (some .boolean) mc ms PQ PX) (H : ((0 ≤ x1 ∧ x1 < 40) ∧ 0 ≤ (1 : Int) ∧ (1 : Int) ≤ 1) ∧ ((((M 3 (2 * x1 + (1 : Int))) ≤ x2) → ((((M 32 0) < (M 34 0)) → PQ (some (vI 1)) M) ∧ (((M 34 0) ≤ (M 32 0)) → ((((M 32 0) ≠ (M 34 0)) → PQ (some (vI 0)) M) ∧ (((M 32 0) = (M 34 0)) → ((((M 33 0) = 0) → PQ (some (vI 0)) M) ∧ (((M 33 0) ≠ 0) → ((((M 35 0) = 0) → PQ (some (vI 0)) M) ∧ (((M 35 0) ≠ 0) → PQ (some (vI 1)) M))))))))) ∧ ((x2 < (M 3 (2 * x1 + (1 : Int)))) → (((0 ≤ x1 ∧ x1 < 40) ∧ (0 ≤ (1 : Int) ∧ (1 : Int) ≤ 1) ∧ 0 ≤ x2 ∧ x2 < 4) ∧ (0 ≤ M 4 (8 * x1 + 4 * (1 : Int) + x2) ∧ M 4 (8 * x1 + 4 * (1 : Int) + x2) < 40)) ∧ ((((M 34 0) ≤ (M 10 (M 4 (8 * x1 + 4 * (1 : Int) + x2)))) → ((((M 10 (M 4 (8 * x1 + 4 * (1 : Int) + x2))) ≠ (M 34 0)) → E (wM g ad) X k n M 245 [(0, .ref (ad 0)), (1, vI x1), (2, vI x2), (3, vI (M 4 (8 * x1 + 4 * (1 : Int) + x2)))] [vI (M 35 0), .ref (ad 0)]) ∧ (((M 10 (M 4 (8 * x1 + 4 * (1 : Int) + x2))) = (M 34 0)) → ((((M 35 0) = 0) → E (wM g ad) X k n M 245 [(0, .ref (ad 0)), (1, vI x1), (2, vI x2), (3, vI (M 4 (8 * x1 + 4 * (1 : Int) + x2)))] [vI 0, .ref (ad 0)]) ∧ (((M 35 0) ≠ 0) → ((((M 11 (M 4 (8 * x1 + 4 * (1 : Int) + x2))) ≠ 0) → E (wM g ad) X k n M 245 [(0, .ref (ad 0)), (1, vI x1), (2, vI x2), (3, vI (M 4 (8 * x1 + 4 * (1 : Int) + x2)))] [vI 0, .ref (ad 0)]) ∧ (((M 11 (M 4 (8 * x1 + 4 * (1 : Int) + x2))) = 0) → E (wM g ad) X k n M 245 [(0, .ref (ad 0)), (1, vI x1), (2, vI x2), (3, vI (M 4 (8 * x1 + 4 * (1 : Int) + x2)))] [vI 1, .ref (ad 0)]))))))) ∧ (((M 10 (M 4 (8 * x1 + 4 * (1 : Int) + x2))) < (M 34 0)) → ((((M 11 (M 4 (8 * x1 + 4 * (1 : Int) + x2))) ≠ 0) → E (wM g ad) X k n M 245 [(0, .ref (ad 0)), (1, vI x1), (2, vI x2), (3, vI (M 4 (8 * x1 + 4 * (1 : Int) + x2)))] [vI 0, .ref (ad 0)]) ∧ (((M 11 (M 4 (8 * x1 + 4 * (1 : Int) + x2))) = 0) → E (wM g ad) X k n M 245 [(0, .ref (ad 0)), (1, vI x1), (2, vI x2), (3, vI (M 4 (8 * x1 + 4 * (1 : Int) + x2)))] [vI 1, .ref (ad 0)]))))))) : E (wM g ad) X k n M 155 [(0, .ref (ad 0)), (1, vI x1), (2, vI x2)] [] := by
  refine e_wf (fun hw0 => ?_)
  refine e_iload_n C 2 dX10_hasValue_155 rfl ?_
  refine e_aload_n C 0 dX10_hasValue_156 rfl ?_
  refine e_iload_n C 1 dX10_hasValue_157 rfl ?_
  refine e_iconst C dX10_hasValue_158 ?_
  obtain ⟨o1, H⟩ := H
  refine e_callVD (As := [vI x1, vI 1]) (rest := [vI x2]) (q0 := 0) (ci := 10) C Y mi_X10_optionsOf ms_X10_optionsOf mv_X10_optionsOf ml_X10_164 (s_X10_optionsOf r1 (by decide) o1) rfl rfl (by decide) (Nat.le_of_ble_eq_true rfl) hk hn dX10_hasValue_159 rfl ?_
  refine e_icmp_ge C 284 r2 (hw0.2.1 3 _ (by decide)) dX10_hasValue_162 (by decide) (fun c9 => ?_) (fun c9 => ?_)
  · replace H := H.1 c9
    refine e_aload_n C 0 dX10_hasValue_284 rfl ?_
    refine gM_32 C dX10_hasValue_285 ?_
    refine e_aload_n C 0 dX10_hasValue_288 rfl ?_
    refine gM_34 C dX10_hasValue_289 ?_
    refine e_icmp_lt C 320 (hw0.2.1 32 _ (by decide)) (hw0.2.1 34 _ (by decide)) dX10_hasValue_292 (by decide) (fun c9 => ?_) (fun c9 => ?_)
    · replace H := H.1 c9
      refine e_iconst C dX10_hasValue_320 ?_
      refine e_goto C 325 dX10_hasValue_321 (by decide) ?_
      exact e_zret C Y hk hn (by decide) dX10_hasValue_325 H
    · replace H := H.2 c9
      refine e_aload_n C 0 dX10_hasValue_295 rfl ?_
      refine gM_32 C dX10_hasValue_296 ?_
      refine e_aload_n C 0 dX10_hasValue_299 rfl ?_
      refine gM_34 C dX10_hasValue_300 ?_
      refine e_icmp_ne C 324 (hw0.2.1 32 _ (by decide)) (hw0.2.1 34 _ (by decide)) dX10_hasValue_303 (by decide) (fun c9 => ?_) (fun c9 => ?_)
      · replace H := H.1 c9
        refine e_iconst C dX10_hasValue_324 ?_
        exact e_zret C Y hk hn (by decide) dX10_hasValue_325 H
      · replace H := H.2 c9
        refine e_aload_n C 0 dX10_hasValue_306 rfl ?_
        refine gM_33 C dX10_hasValue_307 ?_
        refine e_if_eq C 324 (hw0.2.1 33 _ (by decide)) dX10_hasValue_310 (by decide) (fun c9 => ?_) (fun c9 => ?_)
        · replace H := H.1 c9
          refine e_iconst C dX10_hasValue_324 ?_
          exact e_zret C Y hk hn (by decide) dX10_hasValue_325 H
        · replace H := H.2 c9
          refine e_aload_n C 0 dX10_hasValue_313 rfl ?_
          refine gM_35 C dX10_hasValue_314 ?_
          refine e_if_eq C 324 (hw0.2.1 35 _ (by decide)) dX10_hasValue_317 (by decide) (fun c9 => ?_) (fun c9 => ?_)
          · replace H := H.1 c9
            refine e_iconst C dX10_hasValue_324 ?_
            exact e_zret C Y hk hn (by decide) dX10_hasValue_325 H
          · replace H := H.2 c9
            refine e_iconst C dX10_hasValue_320 ?_
            refine e_goto C 325 dX10_hasValue_321 (by decide) ?_
            exact e_zret C Y hk hn (by decide) dX10_hasValue_325 H
  · replace H := H.2 c9
    refine e_aload_n C 0 dX10_hasValue_165 rfl ?_
    refine e_iload_n C 1 dX10_hasValue_166 rfl ?_
    refine e_iconst C dX10_hasValue_167 ?_
    refine e_iload_n C 2 dX10_hasValue_168 rfl ?_
    obtain ⟨⟨o2, o3⟩, H⟩ := H
    refine e_callVD (As := [vI x1, vI 1, vI x2]) (rest := []) (q0 := 0) (ci := 10) C Y mi_X10_optionOf ms_X10_optionOf mv_X10_optionOf ml_X10_167 (s_X10_optionOf r1 (by decide) r2 o2) rfl rfl (by decide) (Nat.le_of_ble_eq_true rfl) hk hn dX10_hasValue_169 rfl ?_
    refine e_istore_n C dX10_hasValue_172 (by decide) rfl ?_
    refine e_aload_n C 1 dX10_hasValue_173 rfl ?_
    refine e_aload_n C 1 dX10_hasValue_174 rfl ?_
    refine gM_10 C dX10_hasValue_175 ?_
    refine e_iload_n C 0 dX10_hasValue_178 rfl ?_
    refine aM_10 C o3 dX10_hasValue_179 ?_
    refine e_aload_n C 1 dX10_hasValue_180 rfl ?_
    refine gM_34 C dX10_hasValue_181 ?_
    refine e_icmp_ge C 204 (hw0.2.1 10 _ (by decide)) (hw0.2.1 34 _ (by decide)) dX10_hasValue_184 (by decide) (fun c9 => ?_) (fun c9 => ?_)
    · replace H := H.1 c9
      refine e_aload_n C 1 dX10_hasValue_204 rfl ?_
      refine gM_10 C dX10_hasValue_205 ?_
      refine e_iload_n C 0 dX10_hasValue_208 rfl ?_
      refine aM_10 C o3 dX10_hasValue_209 ?_
      refine e_aload_n C 1 dX10_hasValue_210 rfl ?_
      refine gM_34 C dX10_hasValue_211 ?_
      refine e_icmp_ne C 241 (hw0.2.1 10 _ (by decide)) (hw0.2.1 34 _ (by decide)) dX10_hasValue_214 (by decide) (fun c9 => ?_) (fun c9 => ?_)
      · replace H := H.1 c9
        refine e_aload_n C 1 dX10_hasValue_241 rfl ?_
        refine gM_35 C dX10_hasValue_242 ?_
        exact e_sub [1, 2, 3, 0] rfl H
      · replace H := H.2 c9
        refine e_aload_n C 1 dX10_hasValue_217 rfl ?_
        refine gM_35 C dX10_hasValue_218 ?_
        refine e_if_eq C 237 (hw0.2.1 35 _ (by decide)) dX10_hasValue_221 (by decide) (fun c9 => ?_) (fun c9 => ?_)
        · replace H := H.1 c9
          refine e_iconst C dX10_hasValue_237 ?_
          refine e_goto C 245 dX10_hasValue_238 (by decide) ?_
          exact e_sub [1, 2, 3, 0] rfl H
        · replace H := H.2 c9
          refine e_aload_n C 1 dX10_hasValue_224 rfl ?_
          refine gM_11 C dX10_hasValue_225 ?_
          refine e_iload_n C 0 dX10_hasValue_228 rfl ?_
          refine aM_11 C o3 dX10_hasValue_229 ?_
          refine e_if_ne C 237 (hw0.2.1 11 _ (by decide)) dX10_hasValue_230 (by decide) (fun c9 => ?_) (fun c9 => ?_)
          · replace H := H.1 c9
            refine e_iconst C dX10_hasValue_237 ?_
            refine e_goto C 245 dX10_hasValue_238 (by decide) ?_
            exact e_sub [1, 2, 3, 0] rfl H
          · replace H := H.2 c9
            refine e_iconst C dX10_hasValue_233 ?_
            refine e_goto C 245 dX10_hasValue_234 (by decide) ?_
            exact e_sub [1, 2, 3, 0] rfl H
    · replace H := H.2 c9
      refine e_aload_n C 1 dX10_hasValue_187 rfl ?_
      refine gM_11 C dX10_hasValue_188 ?_
      refine e_iload_n C 0 dX10_hasValue_191 rfl ?_
      refine aM_11 C o3 dX10_hasValue_192 ?_
      refine e_if_ne C 200 (hw0.2.1 11 _ (by decide)) dX10_hasValue_193 (by decide) (fun c9 => ?_) (fun c9 => ?_)
      · replace H := H.1 c9
        refine e_iconst C dX10_hasValue_200 ?_
        refine e_goto C 245 dX10_hasValue_201 (by decide) ?_
        exact e_sub [1, 2, 3, 0] rfl H
      · replace H := H.2 c9
        refine e_iconst C dX10_hasValue_196 ?_
        refine e_goto C 245 dX10_hasValue_197 (by decide) ?_
        exact e_sub [1, 2, 3, 0] rfl H
set_option maxRecDepth 4000 in
theorem B_X10_hasValue_245 {g : Gs} {ad : Nat → Nat} {X : Cx} {mc ms k n : Nat} {PQ : Option Value → Mem → Prop} {PX : String → Mem → Prop} {M : Mem} {x1 x2 x3 t0 : Int} (r1 : R32 x1) (r2 : R32 x2) (r3 : R32 x3) (q0 : R32 t0) (hk : k ≤ mc) (hn : n ≤ ms) (C : OkB (wM g ad) X cX10_hasValue RX10 4 3 mc ms) (Y : OkR (wM g ad) X (some .boolean) mc ms PQ PX) (H : ((t0 = 0 ∨ t0 = 1) ∧ (0 ≤ x3 ∧ x3 < 40)) ∧ ((((M 34 0) ≤ (M 10 x3)) → (R32 (x2 + 1)) ∧ E (wM g ad) X k n (up (up M 35 0 t0) 34 0 (M 34 0)) 155 [(0, .ref (ad 0)), (1, vI x1), (2, vI (x2 + 1))] []) ∧ (((M 10 x3) < (M 34 0)) → (R32 (x2 + 1)) ∧ E (wM g ad) X k n (up (up M 35 0 t0) 34 0 (M 10 x3)) 155 [(0, .ref (ad 0)), (1, vI x1), (2, vI (x2 + 1))] []))) : E (wM g ad) X k n M 245 [(0, .ref (ad 0)), (1, vI x1), (2, vI x2), (3, vI x3)] [vI t0, .ref (ad 0)] := by
  refine e_wf (fun hw0 => ?_)
  obtain ⟨⟨o1, o3⟩, H⟩ := H
  refine pM_35 C o1 dX10_hasValue_245 ?_
  refine e_wf (fun hw2 => ?_)
  refine e_aload_n C 0 dX10_hasValue_248 rfl ?_
  refine e_aload_n C 0 dX10_hasValue_249 rfl ?_
  refine gM_10 C dX10_hasValue_250 ?_
  refine e_iload_n C 3 dX10_hasValue_253 rfl ?_
  refine aM_10 C o3 dX10_hasValue_254 ?_
  refine e_aload_n C 0 dX10_hasValue_255 rfl ?_
  refine gM_34 C dX10_hasValue_256 ?_
  refine e_icmp_ge C 271 (hw0.2.1 10 _ (by decide)) (hw0.2.1 34 _ (by decide)) dX10_hasValue_259 (by decide) (fun c9 => ?_) (fun c9 => ?_)
  · replace H := H.1 c9
    refine e_aload_n C 0 dX10_hasValue_271 rfl ?_
    refine gM_34 C dX10_hasValue_272 ?_
    refine pM_34 C (hw0.2.1 34 _ (by decide)) dX10_hasValue_275 ?_
    refine e_wf (fun hw4 => ?_)
    obtain ⟨o5, H⟩ := H
    refine e_iinc C 2 dX10_hasValue_278 rfl (by decide) rfl ?_
    refine e_goto C 155 dX10_hasValue_281 (by decide) ?_
    exact e_sub [1, 2, 0] rfl H
  · replace H := H.2 c9
    refine e_aload_n C 0 dX10_hasValue_262 rfl ?_
    refine gM_10 C dX10_hasValue_263 ?_
    refine e_iload_n C 3 dX10_hasValue_266 rfl ?_
    refine aM_10 C o3 dX10_hasValue_267 ?_
    refine e_goto C 275 dX10_hasValue_268 (by decide) ?_
    refine pM_34 C (hw0.2.1 10 _ (by decide)) dX10_hasValue_275 ?_
    refine e_wf (fun hw6 => ?_)
    obtain ⟨o7, H⟩ := H
    refine e_iinc C 2 dX10_hasValue_278 rfl (by decide) rfl ?_
    refine e_goto C 155 dX10_hasValue_281 (by decide) ?_
    exact e_sub [1, 2, 0] rfl H
set_option maxRecDepth 4000 in
theorem B_X10_isAtLeast_0 {g : Gs} {ad : Nat → Nat} {X : Cx} {mc ms k n : Nat} {PQ : Option Value → Mem → Prop} {PX : String → Mem → Prop} {M : Mem} {x1 x2 : Int} (r1 : R32 x1) (r2 : R32 x2) (hk : k ≤ mc) (hn : n ≤ ms) (C : OkB (wM g ad) X cX10_isAtLeast RX10 5 3 mc ms) (Y : OkR (wM g ad) X (some .boolean) mc ms PQ PX) (H : (0 ≤ x2 ∧ x2 < 40) ∧ ((((M 1 x2) = 0) → (0 ≤ x1 ∧ x1 < 40) ∧ ((((M 1 x1) = 0) → E (wM g ad) X k n M 47 [(0, .ref (ad 0)), (1, vI x1), (2, vI x2), (3, vI 1), (4, vI 0)] []) ∧ (((M 1 x1) ≠ 0) → PQ (some (vI (b2i (leM M x2 (M 2 x1))))) M))) ∧ (((M 1 x2) ≠ 0) → (0 ≤ x1 ∧ x1 < 40) ∧ PQ (some (vI (b2i (geM M x1 (M 2 x2))))) M))) : E (wM g ad) X k n M 0 [(0, .ref (ad 0)), (1, vI x1), (2, vI x2)] [] := by
  refine e_wf (fun hw0 => ?_)
  refine e_aload_n C 0 dX10_isAtLeast_0 rfl ?_
  refine gM_1 C dX10_isAtLeast_1 ?_
  refine e_iload_n C 2 dX10_isAtLeast_4 rfl ?_
  obtain ⟨o1, H⟩ := H
  refine aM_1 C o1 dX10_isAtLeast_5 ?_
  refine e_if_eq C 21 (hw0.2.1 1 _ (by decide)) dX10_isAtLeast_6 (by decide) (fun c9 => ?_) (fun c9 => ?_)
  · replace H := H.1 c9
    refine e_aload_n C 0 dX10_isAtLeast_21 rfl ?_
    refine gM_1 C dX10_isAtLeast_22 ?_
    refine e_iload_n C 1 dX10_isAtLeast_25 rfl ?_
    obtain ⟨o2, H⟩ := H
    refine aM_1 C o2 dX10_isAtLeast_26 ?_
    refine e_if_eq C 42 (hw0.2.1 1 _ (by decide)) dX10_isAtLeast_27 (by decide) (fun c9 => ?_) (fun c9 => ?_)
    · replace H := H.1 c9
      refine e_iconst C dX10_isAtLeast_42 ?_
      refine e_istore_n C dX10_isAtLeast_43 (by decide) rfl ?_
      refine e_iconst C dX10_isAtLeast_44 ?_
      refine e_istore C dX10_isAtLeast_45 (by decide) rfl ?_
      exact e_sub [2, 3, 4, 1, 0] rfl H
    · replace H := H.2 c9
      refine e_aload_n C 0 dX10_isAtLeast_30 rfl ?_
      refine e_iload_n C 2 dX10_isAtLeast_31 rfl ?_
      refine e_aload_n C 0 dX10_isAtLeast_32 rfl ?_
      refine gM_2 C dX10_isAtLeast_33 ?_
      refine e_iload_n C 1 dX10_isAtLeast_36 rfl ?_
      refine aM_2 C o2 dX10_isAtLeast_37 ?_
      refine e_callVD (As := [vI x2, vI (M 2 x1)]) (rest := []) (q0 := 0) (ci := 10) C Y mi_X10_isAtMostNumber ms_X10_isAtMostNumber mv_X10_isAtMostNumber ml_X10_211 (s_X10_isAtMostNumber r2 (hw0.2.1 2 _ (by decide)) o1) rfl rfl (by decide) (Nat.le_of_ble_eq_true rfl) hk hn dX10_isAtLeast_38 rfl ?_
      exact e_zret C Y hk hn (b2i_01 _) dX10_isAtLeast_41 H
  · replace H := H.2 c9
    refine e_aload_n C 0 dX10_isAtLeast_9 rfl ?_
    refine e_iload_n C 1 dX10_isAtLeast_10 rfl ?_
    refine e_aload_n C 0 dX10_isAtLeast_11 rfl ?_
    refine gM_2 C dX10_isAtLeast_12 ?_
    refine e_iload_n C 2 dX10_isAtLeast_15 rfl ?_
    refine aM_2 C o1 dX10_isAtLeast_16 ?_
    obtain ⟨o3, H⟩ := H
    refine e_callVD (As := [vI x1, vI (M 2 x2)]) (rest := []) (q0 := 0) (ci := 10) C Y mi_X10_isAtLeastNumber ms_X10_isAtLeastNumber mv_X10_isAtLeastNumber ml_X10_208 (s_X10_isAtLeastNumber r1 (hw0.2.1 2 _ (by decide)) o3) rfl rfl (by decide) (Nat.le_of_ble_eq_true rfl) hk hn dX10_isAtLeast_17 rfl ?_
    exact e_zret C Y hk hn (b2i_01 _) dX10_isAtLeast_20 H
set_option maxRecDepth 4000 in
theorem B_X10_isAtLeast_47 {g : Gs} {ad : Nat → Nat} {X : Cx} {mc ms k n : Nat} {PQ : Option Value → Mem → Prop} {PX : String → Mem → Prop} {M : Mem} {x1 x2 x3 x4 : Int} (r1 : R32 x1) (r2 : R32 x2) (r3 : R32 x3) (r4 : R32 x4) (hk : k ≤ mc) (hn : n ≤ ms) (C : OkB (wM g ad) X cX10_isAtLeast RX10 5 3 mc ms) (Y : OkR (wM g ad) X (some .boolean) mc ms PQ PX) (H : ((0 ≤ x1 ∧ x1 < 40) ∧ 0 ≤ (1 : Int) ∧ (1 : Int) ≤ 1) ∧ ((((M 3 (2 * x1 + (1 : Int))) ≤ x4) → E (wM g ad) X k n M 98 [(0, .ref (ad 0)), (1, vI x1), (2, vI x2), (3, vI x3), (4, vI 0)] []) ∧ ((x4 < (M 3 (2 * x1 + (1 : Int)))) → (((x3 = 0) → E (wM g ad) X k n M 98 [(0, .ref (ad 0)), (1, vI x1), (2, vI x2), (3, vI x3), (4, vI 0)] []) ∧ ((x3 ≠ 0) → ((R32 (40 * x2)) ∧ ((0 ≤ x1 ∧ x1 < 40) ∧ (0 ≤ (1 : Int) ∧ (1 : Int) ≤ 1) ∧ 0 ≤ x4 ∧ x4 < 4) ∧ (R32 ((40 * x2) + (M 4 (8 * x1 + 4 * (1 : Int) + x4)))) ∧ (0 ≤ (40 * x2) + (M 4 (8 * x1 + 4 * (1 : Int) + x4)) ∧ (40 * x2) + (M 4 (8 * x1 + 4 * (1 : Int) + x4)) < 1600)) ∧ ((((M 12 ((40 * x2) + (M 4 (8 * x1 + 4 * (1 : Int) + x4)))) ≠ 0) → (R32 (x4 + 1)) ∧ E (wM g ad) X k n M 47 [(0, .ref (ad 0)), (1, vI x1), (2, vI x2), (3, vI 0), (4, vI (x4 + 1))] []) ∧ (((M 12 ((40 * x2) + (M 4 (8 * x1 + 4 * (1 : Int) + x4)))) = 0) → (R32 (x4 + 1)) ∧ E (wM g ad) X k n M 47 [(0, .ref (ad 0)), (1, vI x1), (2, vI x2), (3, vI 1), (4, vI (x4 + 1))] []))))))) : E (wM g ad) X k n M 47 [(0, .ref (ad 0)), (1, vI x1), (2, vI x2), (3, vI x3), (4, vI x4)] [] := by
  refine e_wf (fun hw0 => ?_)
  refine e_iload C 4 dX10_isAtLeast_47 rfl ?_
  refine e_aload_n C 0 dX10_isAtLeast_49 rfl ?_
  refine e_iload_n C 1 dX10_isAtLeast_50 rfl ?_
  refine e_iconst C dX10_isAtLeast_51 ?_
  obtain ⟨o1, H⟩ := H
  refine e_callVD (As := [vI x1, vI 1]) (rest := [vI x4]) (q0 := 0) (ci := 10) C Y mi_X10_optionsOf ms_X10_optionsOf mv_X10_optionsOf ml_X10_164 (s_X10_optionsOf r1 (by decide) o1) rfl rfl (by decide) (Nat.le_of_ble_eq_true rfl) hk hn dX10_isAtLeast_52 rfl ?_
  refine e_icmp_ge C 95 r4 (hw0.2.1 3 _ (by decide)) dX10_isAtLeast_55 (by decide) (fun c9 => ?_) (fun c9 => ?_)
  · replace H := H.1 c9
    refine e_iconst C dX10_isAtLeast_95 ?_
    refine e_istore C dX10_isAtLeast_96 (by decide) rfl ?_
    exact e_sub [1, 2, 3, 4, 0] rfl H
  · replace H := H.2 c9
    refine e_iload_n C 3 dX10_isAtLeast_58 rfl ?_
    refine e_if_eq C 95 r3 dX10_isAtLeast_59 (by decide) (fun c9 => ?_) (fun c9 => ?_)
    · replace H := H.1 c9
      refine e_iconst C dX10_isAtLeast_95 ?_
      refine e_istore C dX10_isAtLeast_96 (by decide) rfl ?_
      exact e_sub [1, 2, 3, 4, 0] rfl H
    · replace H := H.2 c9
      refine e_aload_n C 0 dX10_isAtLeast_62 rfl ?_
      refine gM_12 C dX10_isAtLeast_63 ?_
      refine e_bipush C dX10_isAtLeast_66 (by decide) ?_
      refine e_iload_n C 2 dX10_isAtLeast_68 rfl ?_
      obtain ⟨⟨o2, o3, o4, o5⟩, H⟩ := H
      refine e_imul C dX10_isAtLeast_69 ?_
      refine e_aload_n C 0 dX10_isAtLeast_70 rfl ?_
      refine e_iload_n C 1 dX10_isAtLeast_71 rfl ?_
      refine e_iconst C dX10_isAtLeast_72 ?_
      refine e_iload C 4 dX10_isAtLeast_73 rfl ?_
      refine e_callVD (As := [vI x1, vI 1, vI x4]) (rest := [vI (40 * x2), .ref (ad 12)]) (q0 := 0) (ci := 10) C Y mi_X10_optionOf ms_X10_optionOf mv_X10_optionOf ml_X10_167 (s_X10_optionOf r1 (by decide) r4 o3) rfl rfl (by decide) (Nat.le_of_ble_eq_true rfl) hk hn dX10_isAtLeast_75 rfl ?_
      refine e_iadd C dX10_isAtLeast_78 ?_
      refine aM_12 C o5 dX10_isAtLeast_79 ?_
      refine e_if_ne C 87 (hw0.2.1 12 _ (by decide)) dX10_isAtLeast_80 (by decide) (fun c9 => ?_) (fun c9 => ?_)
      · replace H := H.1 c9
        refine e_iconst C dX10_isAtLeast_87 ?_
        refine e_istore_n C dX10_isAtLeast_88 (by decide) rfl ?_
        obtain ⟨o6, H⟩ := H
        refine e_iinc C 4 dX10_isAtLeast_89 rfl (by decide) rfl ?_
        refine e_goto C 47 dX10_isAtLeast_92 (by decide) ?_
        exact e_sub [2, 3, 4, 1, 0] rfl H
      · replace H := H.2 c9
        refine e_iconst C dX10_isAtLeast_83 ?_
        refine e_goto C 88 dX10_isAtLeast_84 (by decide) ?_
        refine e_istore_n C dX10_isAtLeast_88 (by decide) rfl ?_
        obtain ⟨o7, H⟩ := H
        refine e_iinc C 4 dX10_isAtLeast_89 rfl (by decide) rfl ?_
        refine e_goto C 47 dX10_isAtLeast_92 (by decide) ?_
        exact e_sub [2, 3, 4, 1, 0] rfl H
set_option maxRecDepth 4000 in
theorem B_X10_isAtLeast_98 {g : Gs} {ad : Nat → Nat} {X : Cx} {mc ms k n : Nat} {PQ : Option Value → Mem → Prop} {PX : String → Mem → Prop} {M : Mem} {x1 x2 x3 x4 : Int} (r1 : R32 x1) (r2 : R32 x2) (r3 : R32 x3) (r4 : R32 x4) (hk : k ≤ mc) (hn : n ≤ ms) (C : OkB (wM g ad) X cX10_isAtLeast RX10 5 3 mc ms) (Y : OkR (wM g ad) X (some .boolean) mc ms PQ PX) (H : ((0 ≤ x2 ∧ x2 < 40) ∧ 0 ≤ (0 : Int) ∧ (0 : Int) ≤ 1) ∧ ((((M 3 (2 * x2 + (0 : Int))) ≤ x4) → (x3 = 0 ∨ x3 = 1) ∧ PQ (some (vI x3)) M) ∧ ((x4 < (M 3 (2 * x2 + (0 : Int)))) → (((x3 = 0) → (x3 = 0 ∨ x3 = 1) ∧ PQ (some (vI x3)) M) ∧ ((x3 ≠ 0) → (((0 ≤ x2 ∧ x2 < 40) ∧ (0 ≤ (0 : Int) ∧ (0 : Int) ≤ 1) ∧ 0 ≤ x4 ∧ x4 < 4) ∧ (R32 (40 * (M 4 (8 * x2 + 4 * (0 : Int) + x4)))) ∧ (R32 ((40 * (M 4 (8 * x2 + 4 * (0 : Int) + x4))) + x1)) ∧ (0 ≤ (40 * (M 4 (8 * x2 + 4 * (0 : Int) + x4))) + x1 ∧ (40 * (M 4 (8 * x2 + 4 * (0 : Int) + x4))) + x1 < 1600)) ∧ ((((M 12 ((40 * (M 4 (8 * x2 + 4 * (0 : Int) + x4))) + x1)) ≠ 0) → (R32 (x4 + 1)) ∧ E (wM g ad) X k n M 98 [(0, .ref (ad 0)), (1, vI x1), (2, vI x2), (3, vI 0), (4, vI (x4 + 1))] []) ∧ (((M 12 ((40 * (M 4 (8 * x2 + 4 * (0 : Int) + x4))) + x1)) = 0) → (R32 (x4 + 1)) ∧ E (wM g ad) X k n M 98 [(0, .ref (ad 0)), (1, vI x1), (2, vI x2), (3, vI 1), (4, vI (x4 + 1))] []))))))) : E (wM g ad) X k n M 98 [(0, .ref (ad 0)), (1, vI x1), (2, vI x2), (3, vI x3), (4, vI x4)] [] := by
  refine e_wf (fun hw0 => ?_)
  refine e_iload C 4 dX10_isAtLeast_98 rfl ?_
  refine e_aload_n C 0 dX10_isAtLeast_100 rfl ?_
  refine e_iload_n C 2 dX10_isAtLeast_101 rfl ?_
  refine e_iconst C dX10_isAtLeast_102 ?_
  obtain ⟨o1, H⟩ := H
  refine e_callVD (As := [vI x2, vI 0]) (rest := [vI x4]) (q0 := 0) (ci := 10) C Y mi_X10_optionsOf ms_X10_optionsOf mv_X10_optionsOf ml_X10_164 (s_X10_optionsOf r2 (by decide) o1) rfl rfl (by decide) (Nat.le_of_ble_eq_true rfl) hk hn dX10_isAtLeast_103 rfl ?_
  refine e_icmp_ge C 146 r4 (hw0.2.1 3 _ (by decide)) dX10_isAtLeast_106 (by decide) (fun c9 => ?_) (fun c9 => ?_)
  · replace H := H.1 c9
    refine e_iload_n C 3 dX10_isAtLeast_146 rfl ?_
    obtain ⟨o2, H⟩ := H
    exact e_zret C Y hk hn o2 dX10_isAtLeast_147 H
  · replace H := H.2 c9
    refine e_iload_n C 3 dX10_isAtLeast_109 rfl ?_
    refine e_if_eq C 146 r3 dX10_isAtLeast_110 (by decide) (fun c9 => ?_) (fun c9 => ?_)
    · replace H := H.1 c9
      refine e_iload_n C 3 dX10_isAtLeast_146 rfl ?_
      obtain ⟨o3, H⟩ := H
      exact e_zret C Y hk hn o3 dX10_isAtLeast_147 H
    · replace H := H.2 c9
      refine e_aload_n C 0 dX10_isAtLeast_113 rfl ?_
      refine gM_12 C dX10_isAtLeast_114 ?_
      refine e_bipush C dX10_isAtLeast_117 (by decide) ?_
      refine e_aload_n C 0 dX10_isAtLeast_119 rfl ?_
      refine e_iload_n C 2 dX10_isAtLeast_120 rfl ?_
      refine e_iconst C dX10_isAtLeast_121 ?_
      refine e_iload C 4 dX10_isAtLeast_122 rfl ?_
      obtain ⟨⟨o4, o5, o6, o7⟩, H⟩ := H
      refine e_callVD (As := [vI x2, vI 0, vI x4]) (rest := [vI 40, .ref (ad 12)]) (q0 := 0) (ci := 10) C Y mi_X10_optionOf ms_X10_optionOf mv_X10_optionOf ml_X10_167 (s_X10_optionOf r2 (by decide) r4 o4) rfl rfl (by decide) (Nat.le_of_ble_eq_true rfl) hk hn dX10_isAtLeast_124 rfl ?_
      refine e_imul C dX10_isAtLeast_127 ?_
      refine e_iload_n C 1 dX10_isAtLeast_128 rfl ?_
      refine e_iadd C dX10_isAtLeast_129 ?_
      refine aM_12 C o7 dX10_isAtLeast_130 ?_
      refine e_if_ne C 138 (hw0.2.1 12 _ (by decide)) dX10_isAtLeast_131 (by decide) (fun c9 => ?_) (fun c9 => ?_)
      · replace H := H.1 c9
        refine e_iconst C dX10_isAtLeast_138 ?_
        refine e_istore_n C dX10_isAtLeast_139 (by decide) rfl ?_
        obtain ⟨o8, H⟩ := H
        refine e_iinc C 4 dX10_isAtLeast_140 rfl (by decide) rfl ?_
        refine e_goto C 98 dX10_isAtLeast_143 (by decide) ?_
        exact e_sub [2, 3, 4, 1, 0] rfl H
      · replace H := H.2 c9
        refine e_iconst C dX10_isAtLeast_134 ?_
        refine e_goto C 139 dX10_isAtLeast_135 (by decide) ?_
        refine e_istore_n C dX10_isAtLeast_139 (by decide) rfl ?_
        obtain ⟨o9, H⟩ := H
        refine e_iinc C 4 dX10_isAtLeast_140 rfl (by decide) rfl ?_
        refine e_goto C 98 dX10_isAtLeast_143 (by decide) ?_
        exact e_sub [2, 3, 4, 1, 0] rfl H
set_option maxRecDepth 4000 in
theorem B_X10_taxed_0 {g : Gs} {ad : Nat → Nat} {X : Cx} {mc ms k n : Nat} {PQ : Option Value → Mem → Prop} {PX : String → Mem → Prop} {M : Mem} {x1 x2 x3 : Int} (r1 : R32 x1) (r2 : R32 x2) (r3 : R32 x3) (hk : k ≤ mc) (hn : n ≤ ms) (C : OkB (wM g ad) X cX10_taxed RX10 7 3 mc ms) (Y : OkR (wM g ad) X (some .int) mc ms PQ PX) (H : (((x2 ≠ 0) → E (wM g ad) X k n M 16 [(0, .ref (ad 0)), (1, vI x1), (2, vI x2), (3, vI x3), (4, vI 1000000), (5, vI 0)] []) ∧ ((x2 = 0) → E (wM g ad) X k n M 16 [(0, .ref (ad 0)), (1, vI x1), (2, vI x2), (3, vI x3), (4, vI (-1000000)), (5, vI 0)] []))) : E (wM g ad) X k n M 0 [(0, .ref (ad 0)), (1, vI x1), (2, vI x2), (3, vI x3)] [] := by
  refine e_wf (fun hw0 => ?_)
  refine e_iload_n C 2 dX10_taxed_0 rfl ?_
  refine e_if_ne C 9 r2 dX10_taxed_1 (by decide) (fun c9 => ?_) (fun c9 => ?_)
  · replace H := H.1 c9
    refine e_ldc C (v := 1000000) (tg5 181 rfl rfl) (by decide) dX10_taxed_9 ?_
    refine e_istore C dX10_taxed_11 (by decide) rfl ?_
    refine e_iconst C dX10_taxed_13 ?_
    refine e_istore C dX10_taxed_14 (by decide) rfl ?_
    exact e_sub [2, 3, 4, 5, 1, 0] rfl H
  · replace H := H.2 c9
    refine e_ldc C (v := (-1000000)) (tg5 180 rfl rfl) (by decide) dX10_taxed_4 ?_
    refine e_goto C 11 dX10_taxed_6 (by decide) ?_
    refine e_istore C dX10_taxed_11 (by decide) rfl ?_
    refine e_iconst C dX10_taxed_13 ?_
    refine e_istore C dX10_taxed_14 (by decide) rfl ?_
    exact e_sub [2, 3, 4, 5, 1, 0] rfl H
set_option maxRecDepth 4000 in
theorem B_X10_taxed_16 {g : Gs} {ad : Nat → Nat} {X : Cx} {mc ms k n : Nat} {PQ : Option Value → Mem → Prop} {PX : String → Mem → Prop} {M : Mem} {x1 x2 x3 x4 x5 : Int} (r1 : R32 x1) (r2 : R32 x2) (r3 : R32 x3) (r4 : R32 x4) (r5 : R32 x5) (hk : k ≤ mc) (hn : n ≤ ms) (C : OkB (wM g ad) X cX10_taxed RX10 7 3 mc ms) (Y : OkR (wM g ad) X (some .int) mc ms PQ PX) (H : ((0 ≤ x1 ∧ x1 < 40) ∧ 0 ≤ x2 ∧ x2 ≤ 1) ∧ ((((M 3 (2 * x1 + x2)) ≤ x5) → (((x2 ≠ 0) → ((R32 (2 * x3)) ∧ (R32 (x4 + (2 * x3)))) ∧ PQ (some (vI (x4 + (2 * x3)))) M) ∧ ((x2 = 0) → ((R32 (2 * x3)) ∧ (R32 (x4 - (2 * x3)))) ∧ PQ (some (vI (x4 - (2 * x3)))) M))) ∧ ((x5 < (M 3 (2 * x1 + x2))) → (((0 ≤ x1 ∧ x1 < 40) ∧ (0 ≤ x2 ∧ x2 ≤ 1) ∧ 0 ≤ x5 ∧ x5 < 4) ∧ (R32 (1 - x2)) ∧ ((0 ≤ (M 4 (8 * x1 + 4 * x2 + x5)) ∧ (M 4 (8 * x1 + 4 * x2 + x5)) < 40) ∧ (0 ≤ (1 - x2) ∧ (1 - x2) ≤ 1) ∧ 0 ≤ x3 ∧ x3 < 7200)) ∧ (((x2 ≠ 0) → (((x4 ≤ (M 15 (7200 * (2 * (M 4 (8 * x1 + 4 * x2 + x5)) + (1 - x2)) + x3))) → (R32 (x5 + 1)) ∧ E (wM g ad) X k n M 16 [(0, .ref (ad 0)), (1, vI x1), (2, vI x2), (3, vI x3), (4, vI x4), (5, vI (x5 + 1))] []) ∧ (((M 15 (7200 * (2 * (M 4 (8 * x1 + 4 * x2 + x5)) + (1 - x2)) + x3)) < x4) → (R32 (x5 + 1)) ∧ E (wM g ad) X k n M 16 [(0, .ref (ad 0)), (1, vI x1), (2, vI x2), (3, vI x3), (4, vI (M 15 (7200 * (2 * (M 4 (8 * x1 + 4 * x2 + x5)) + (1 - x2)) + x3))), (5, vI (x5 + 1))] []))) ∧ ((x2 = 0) → ((((M 15 (7200 * (2 * (M 4 (8 * x1 + 4 * x2 + x5)) + (1 - x2)) + x3)) ≤ x4) → (R32 (x5 + 1)) ∧ E (wM g ad) X k n M 16 [(0, .ref (ad 0)), (1, vI x1), (2, vI x2), (3, vI x3), (4, vI x4), (5, vI (x5 + 1))] []) ∧ ((x4 < (M 15 (7200 * (2 * (M 4 (8 * x1 + 4 * x2 + x5)) + (1 - x2)) + x3))) → (R32 (x5 + 1)) ∧ E (wM g ad) X k n M 16 [(0, .ref (ad 0)), (1, vI x1), (2, vI x2), (3, vI x3), (4, vI (M 15 (7200 * (2 * (M 4 (8 * x1 + 4 * x2 + x5)) + (1 - x2)) + x3))), (5, vI (x5 + 1))] []))))))) : E (wM g ad) X k n M 16 [(0, .ref (ad 0)), (1, vI x1), (2, vI x2), (3, vI x3), (4, vI x4), (5, vI x5)] [] := by
  refine e_wf (fun hw0 => ?_)
  refine e_iload C 5 dX10_taxed_16 rfl ?_
  refine e_aload_n C 0 dX10_taxed_18 rfl ?_
  refine e_iload_n C 1 dX10_taxed_19 rfl ?_
  refine e_iload_n C 2 dX10_taxed_20 rfl ?_
  obtain ⟨o1, H⟩ := H
  refine e_callVD (As := [vI x1, vI x2]) (rest := [vI x5]) (q0 := 0) (ci := 10) C Y mi_X10_optionsOf ms_X10_optionsOf mv_X10_optionsOf ml_X10_164 (s_X10_optionsOf r1 r2 o1) rfl rfl (by decide) (Nat.le_of_ble_eq_true rfl) hk hn dX10_taxed_21 rfl ?_
  refine e_icmp_ge C 88 r5 (hw0.2.1 3 _ (by decide)) dX10_taxed_24 (by decide) (fun c9 => ?_) (fun c9 => ?_)
  · replace H := H.1 c9
    refine e_iload_n C 2 dX10_taxed_88 rfl ?_
    refine e_if_ne C 101 r2 dX10_taxed_89 (by decide) (fun c9 => ?_) (fun c9 => ?_)
    · replace H := H.1 c9
      refine e_iload C 4 dX10_taxed_101 rfl ?_
      refine e_iconst C dX10_taxed_103 ?_
      refine e_iload_n C 3 dX10_taxed_104 rfl ?_
      obtain ⟨⟨o2, o3⟩, H⟩ := H
      refine e_imul C dX10_taxed_105 ?_
      refine e_iadd C dX10_taxed_106 ?_
      exact e_iret C Y hk hn dX10_taxed_107 H
    · replace H := H.2 c9
      refine e_iload C 4 dX10_taxed_92 rfl ?_
      refine e_iconst C dX10_taxed_94 ?_
      refine e_iload_n C 3 dX10_taxed_95 rfl ?_
      obtain ⟨⟨o4, o5⟩, H⟩ := H
      refine e_imul C dX10_taxed_96 ?_
      refine e_isub C dX10_taxed_97 ?_
      refine e_goto C 107 dX10_taxed_98 (by decide) ?_
      exact e_iret C Y hk hn dX10_taxed_107 H
  · replace H := H.2 c9
    refine e_aload_n C 0 dX10_taxed_27 rfl ?_
    refine e_aload_n C 0 dX10_taxed_28 rfl ?_
    refine e_iload_n C 1 dX10_taxed_29 rfl ?_
    refine e_iload_n C 2 dX10_taxed_30 rfl ?_
    refine e_iload C 5 dX10_taxed_31 rfl ?_
    obtain ⟨⟨o6, o7, o8⟩, H⟩ := H
    refine e_callVD (As := [vI x1, vI x2, vI x5]) (rest := [.ref (ad 0)]) (q0 := 0) (ci := 10) C Y mi_X10_optionOf ms_X10_optionOf mv_X10_optionOf ml_X10_167 (s_X10_optionOf r1 r2 r5 o6) rfl rfl (by decide) (Nat.le_of_ble_eq_true rfl) hk hn dX10_taxed_33 rfl ?_
    refine e_iconst C dX10_taxed_36 ?_
    refine e_iload_n C 2 dX10_taxed_37 rfl ?_
    refine e_isub C dX10_taxed_38 ?_
    refine e_iload_n C 3 dX10_taxed_39 rfl ?_
    refine e_callVD (As := [vI (M 4 (8 * x1 + 4 * x2 + x5)), vI (1 - x2), vI x3]) (rest := []) (q0 := 0) (ci := 10) C Y mi_X10_sample ms_X10_sample mv_X10_sample ml_X10_214 (s_X10_sample (hw0.2.1 4 _ (by decide)) o7 r3 o8) rfl rfl (by decide) (Nat.le_of_ble_eq_true rfl) hk hn dX10_taxed_40 rfl ?_
    refine e_istore C dX10_taxed_43 (by decide) rfl ?_
    refine e_iload_n C 3 dX10_taxed_45 rfl ?_
    refine e_if_ne C 66 r2 dX10_taxed_46 (by decide) (fun c9 => ?_) (fun c9 => ?_)
    · replace H := H.1 c9
      refine e_iload C 0 dX10_taxed_66 rfl ?_
      refine e_iload C 5 dX10_taxed_68 rfl ?_
      refine e_icmp_ge C 78 (hw0.2.1 15 _ (by decide)) r4 dX10_taxed_70 (by decide) (fun c9 => ?_) (fun c9 => ?_)
      · replace H := H.1 c9
        refine e_iload C 5 dX10_taxed_78 rfl ?_
        refine e_istore C dX10_taxed_80 (by decide) rfl ?_
        obtain ⟨o9, H⟩ := H
        refine e_iinc C 6 dX10_taxed_82 rfl (by decide) rfl ?_
        refine e_goto C 16 dX10_taxed_85 (by decide) ?_
        exact e_sub [3, 4, 5, 6, 1, 0] rfl H
      · replace H := H.2 c9
        refine e_iload C 0 dX10_taxed_73 rfl ?_
        refine e_goto C 80 dX10_taxed_75 (by decide) ?_
        refine e_istore C dX10_taxed_80 (by decide) rfl ?_
        obtain ⟨o10, H⟩ := H
        refine e_iinc C 6 dX10_taxed_82 rfl (by decide) rfl ?_
        refine e_goto C 16 dX10_taxed_85 (by decide) ?_
        exact e_sub [3, 4, 5, 6, 1, 0] rfl H
    · replace H := H.2 c9
      refine e_iload C 0 dX10_taxed_49 rfl ?_
      refine e_iload C 5 dX10_taxed_51 rfl ?_
      refine e_icmp_le C 61 (hw0.2.1 15 _ (by decide)) r4 dX10_taxed_53 (by decide) (fun c9 => ?_) (fun c9 => ?_)
      · replace H := H.1 c9
        refine e_iload C 5 dX10_taxed_61 rfl ?_
        refine e_goto C 80 dX10_taxed_63 (by decide) ?_
        refine e_istore C dX10_taxed_80 (by decide) rfl ?_
        obtain ⟨o11, H⟩ := H
        refine e_iinc C 6 dX10_taxed_82 rfl (by decide) rfl ?_
        refine e_goto C 16 dX10_taxed_85 (by decide) ?_
        exact e_sub [3, 4, 5, 6, 1, 0] rfl H
      · replace H := H.2 c9
        refine e_iload C 0 dX10_taxed_56 rfl ?_
        refine e_goto C 80 dX10_taxed_58 (by decide) ?_
        refine e_istore C dX10_taxed_80 (by decide) rfl ?_
        obtain ⟨o12, H⟩ := H
        refine e_iinc C 6 dX10_taxed_82 rfl (by decide) rfl ?_
        refine e_goto C 16 dX10_taxed_85 (by decide) ?_
        exact e_sub [3, 4, 5, 6, 1, 0] rfl H
set_option maxRecDepth 4000 in
theorem B_X10_draft_0 {g : Gs} {ad : Nat → Nat} {X : Cx} {mc ms k n : Nat} {PQ : Option Value → Mem → Prop} {PX : String → Mem → Prop} {M : Mem} {x1 x2 : Int} (r1 : R32 x1) (r2 : R32 x2) (hk : k ≤ mc) (hn : n ≤ ms) (C : OkB (wM g ad) X cX10_draft RX10 6 3 mc ms) (Y : OkR (wM g ad) X (some .int) mc ms PQ PX) (H : E (wM g ad) X k n M 13 [(0, .ref (ad 0)), (1, vI x1), (2, vI x2), (3, vI (b2i ((0 : Int) ≤ x1 ∧ x1 ≤ (1 : Int)))), (4, vI 0), (5, vI 0)] []) : E (wM g ad) X k n M 0 [(0, .ref (ad 0)), (1, vI x1), (2, vI x2)] [] := by
  refine e_wf (fun hw0 => ?_)
  refine e_iload_n C 1 dX10_draft_0 rfl ?_
  refine e_iconst C dX10_draft_1 ?_
  refine e_iconst C dX10_draft_2 ?_
  refine e_callSD (As := [vI x1, vI 0, vI 1]) (rest := []) C Y mi_X10_within ms_X10_within ml_X10_152 (s_X10_within r1 (by decide) (by decide)) (by decide) (Nat.le_of_ble_eq_true rfl) hk hn dX10_draft_3 rfl ?_
  refine e_istore_n C dX10_draft_6 (by decide) rfl ?_
  refine e_iconst C dX10_draft_7 ?_
  refine e_istore C dX10_draft_8 (by decide) rfl ?_
  refine e_iconst C dX10_draft_10 ?_
  refine e_istore C dX10_draft_11 (by decide) rfl ?_
  exact e_sub [3, 4, 5, 2, 1, 0] rfl H
set_option maxRecDepth 4000 in
theorem B_X10_draft_13 {g : Gs} {ad : Nat → Nat} {X : Cx} {mc ms k n : Nat} {PQ : Option Value → Mem → Prop} {PX : String → Mem → Prop} {M : Mem} {x1 x2 x3 x4 x5 : Int} (r1 : R32 x1) (r2 : R32 x2) (r3 : R32 x3) (r4 : R32 x4) (r5 : R32 x5) (hk : k ≤ mc) (hn : n ≤ ms) (C : OkB (wM g ad) X cX10_draft RX10 6 3 mc ms) (Y : OkR (wM g ad) X (some .int) mc ms PQ PX) (H : (((x3 = 0) → E (wM g ad) X k n M 61 [(0, .ref (ad 0)), (1, vI x1), (2, vI x2), (3, vI x3), (4, vI x4)] []) ∧ ((x3 ≠ 0) → (0 ≤ x1 ∧ x1 < 2) ∧ ((((M 21 x1) ≤ x5) → E (wM g ad) X k n M 61 [(0, .ref (ad 0)), (1, vI x1), (2, vI x2), (3, vI x3), (4, vI x4)] []) ∧ ((x5 < (M 21 x1)) → (((x4 ≠ 0) → (R32 (x5 + 1)) ∧ E (wM g ad) X k n M 13 [(0, .ref (ad 0)), (1, vI x1), (2, vI x2), (3, vI x3), (4, vI 1), (5, vI (x5 + 1))] []) ∧ ((x4 = 0) → ((R32 (4 * x1)) ∧ (R32 ((4 * x1) + x5)) ∧ (0 ≤ (4 * x1) + x5 ∧ (4 * x1) + x5 < 8)) ∧ ((((M 22 ((4 * x1) + x5)) ≠ x2) → (R32 (x5 + 1)) ∧ E (wM g ad) X k n M 13 [(0, .ref (ad 0)), (1, vI x1), (2, vI x2), (3, vI x3), (4, vI 0), (5, vI (x5 + 1))] []) ∧ (((M 22 ((4 * x1) + x5)) = x2) → (R32 (x5 + 1)) ∧ E (wM g ad) X k n M 13 [(0, .ref (ad 0)), (1, vI x1), (2, vI x2), (3, vI x3), (4, vI 1), (5, vI (x5 + 1))] []))))))))) : E (wM g ad) X k n M 13 [(0, .ref (ad 0)), (1, vI x1), (2, vI x2), (3, vI x3), (4, vI x4), (5, vI x5)] [] := by
  refine e_wf (fun hw0 => ?_)
  refine e_iload_n C 3 dX10_draft_13 rfl ?_
  refine e_if_eq C 61 r3 dX10_draft_14 (by decide) (fun c9 => ?_) (fun c9 => ?_)
  · replace H := H.1 c9
    exact e_sub [0, 1, 2, 3, 4] rfl H
  · replace H := H.2 c9
    refine e_iload C 5 dX10_draft_17 rfl ?_
    refine e_aload_n C 0 dX10_draft_19 rfl ?_
    refine gM_21 C dX10_draft_20 ?_
    refine e_iload_n C 1 dX10_draft_23 rfl ?_
    obtain ⟨o1, H⟩ := H
    refine aM_21 C o1 dX10_draft_24 ?_
    refine e_icmp_ge C 61 r5 (hw0.2.1 21 _ (by decide)) dX10_draft_25 (by decide) (fun c9 => ?_) (fun c9 => ?_)
    · replace H := H.1 c9
      exact e_sub [0, 1, 2, 3, 4] rfl H
    · replace H := H.2 c9
      refine e_iload C 4 dX10_draft_28 rfl ?_
      refine e_if_ne C 48 r4 dX10_draft_30 (by decide) (fun c9 => ?_) (fun c9 => ?_)
      · replace H := H.1 c9
        refine e_iconst C dX10_draft_48 ?_
        refine e_goto C 53 dX10_draft_49 (by decide) ?_
        refine e_istore C dX10_draft_53 (by decide) rfl ?_
        obtain ⟨o2, H⟩ := H
        refine e_iinc C 5 dX10_draft_55 rfl (by decide) rfl ?_
        refine e_goto C 13 dX10_draft_58 (by decide) ?_
        exact e_sub [2, 3, 4, 5, 1, 0] rfl H
      · replace H := H.2 c9
        refine e_aload_n C 0 dX10_draft_33 rfl ?_
        refine gM_22 C dX10_draft_34 ?_
        refine e_iconst C dX10_draft_37 ?_
        refine e_iload_n C 1 dX10_draft_38 rfl ?_
        obtain ⟨⟨o3, o4, o5⟩, H⟩ := H
        refine e_imul C dX10_draft_39 ?_
        refine e_iload C 5 dX10_draft_40 rfl ?_
        refine e_iadd C dX10_draft_42 ?_
        refine aM_22 C o5 dX10_draft_43 ?_
        refine e_iload_n C 2 dX10_draft_44 rfl ?_
        refine e_icmp_ne C 52 (hw0.2.1 22 _ (by decide)) r2 dX10_draft_45 (by decide) (fun c9 => ?_) (fun c9 => ?_)
        · replace H := H.1 c9
          refine e_iconst C dX10_draft_52 ?_
          refine e_istore C dX10_draft_53 (by decide) rfl ?_
          obtain ⟨o6, H⟩ := H
          refine e_iinc C 5 dX10_draft_55 rfl (by decide) rfl ?_
          refine e_goto C 13 dX10_draft_58 (by decide) ?_
          exact e_sub [2, 3, 4, 5, 1, 0] rfl H
        · replace H := H.2 c9
          refine e_iconst C dX10_draft_48 ?_
          refine e_goto C 53 dX10_draft_49 (by decide) ?_
          refine e_istore C dX10_draft_53 (by decide) rfl ?_
          obtain ⟨o7, H⟩ := H
          refine e_iinc C 5 dX10_draft_55 rfl (by decide) rfl ?_
          refine e_goto C 13 dX10_draft_58 (by decide) ?_
          exact e_sub [2, 3, 4, 5, 1, 0] rfl H
set_option maxRecDepth 4000 in
theorem B_X10_draft_61 {g : Gs} {ad : Nat → Nat} {X : Cx} {mc ms k n : Nat} {PQ : Option Value → Mem → Prop} {PX : String → Mem → Prop} {M : Mem} {x1 x2 x3 x4 : Int} (r1 : R32 x1) (r2 : R32 x2) (r3 : R32 x3) (r4 : R32 x4) (hk : k ≤ mc) (hn : n ≤ ms) (C : OkB (wM g ad) X cX10_draft RX10 6 3 mc ms) (Y : OkR (wM g ad) X (some .int) mc ms PQ PX) (H : (R32 ((M 0 0) - 1)) ∧ (((0 ≤ x2 ∧ x2 < (M 0 0)) → (((x3 ≠ 0) → (0 ≤ x1 ∧ x1 < 2) ∧ ((((M 21 x1) ≠ 4) → E (wM g ad) X k n M 102 [(0, .ref (ad 0)), (1, vI x1), (2, vI x2), (4, vI x4)] [vI 0, .ref (ad 0)]) ∧ (((M 21 x1) = 4) → (((x4 ≠ 0) → E (wM g ad) X k n M 102 [(0, .ref (ad 0)), (1, vI x1), (2, vI x2), (4, vI x4)] [vI 0, .ref (ad 0)]) ∧ ((x4 = 0) → E (wM g ad) X k n M 102 [(0, .ref (ad 0)), (1, vI x1), (2, vI x2), (4, vI x4)] [vI 3, .ref (ad 0)]))))) ∧ ((x3 = 0) → E (wM g ad) X k n M 102 [(0, .ref (ad 0)), (1, vI x1), (2, vI x2), (4, vI x4)] [vI 2, .ref (ad 0)]))) ∧ ((¬(0 ≤ x2 ∧ x2 < (M 0 0))) → E (wM g ad) X k n M 102 [(0, .ref (ad 0)), (1, vI x1), (2, vI x2), (4, vI x4)] [vI 1, .ref (ad 0)]))) : E (wM g ad) X k n M 61 [(0, .ref (ad 0)), (1, vI x1), (2, vI x2), (3, vI x3), (4, vI x4)] [] := by
  refine e_wf (fun hw0 => ?_)
  refine e_aload_n C 0 dX10_draft_61 rfl ?_
  refine e_aload_n C 0 dX10_draft_62 rfl ?_
  refine e_iload_n C 2 dX10_draft_63 rfl ?_
  obtain ⟨o1, H⟩ := H
  refine e_callVD (As := [vI x2]) (rest := [.ref (ad 0)]) (q0 := 0) (ci := 10) C Y mi_X10_isGame ms_X10_isGame mv_X10_isGame ml_X10_236 (s_X10_isGame r2 o1) rfl rfl (by decide) (Nat.le_of_ble_eq_true rfl) hk hn dX10_draft_64 rfl ?_
  refine e_if_ne C 74 (b2i_r _) dX10_draft_67 (by decide) (fun c9 => ?_) (fun c9 => ?_)
  · replace H := H.1 (b2i_n0.mp c9)
    refine e_iload_n C 3 dX10_draft_74 rfl ?_
    refine e_if_ne C 82 r3 dX10_draft_75 (by decide) (fun c9 => ?_) (fun c9 => ?_)
    · replace H := H.1 c9
      refine e_aload_n C 0 dX10_draft_82 rfl ?_
      refine gM_21 C dX10_draft_83 ?_
      refine e_iload_n C 1 dX10_draft_86 rfl ?_
      obtain ⟨o2, H⟩ := H
      refine aM_21 C o2 dX10_draft_87 ?_
      refine e_iconst C dX10_draft_88 ?_
      refine e_icmp_ne C 101 (hw0.2.1 21 _ (by decide)) (by decide) dX10_draft_89 (by decide) (fun c9 => ?_) (fun c9 => ?_)
      · replace H := H.1 c9
        refine e_iconst C dX10_draft_101 ?_
        exact e_sub [0, 1, 2, 4] rfl H
      · replace H := H.2 c9
        refine e_iload C 4 dX10_draft_92 rfl ?_
        refine e_if_ne C 101 r4 dX10_draft_94 (by decide) (fun c9 => ?_) (fun c9 => ?_)
        · replace H := H.1 c9
          refine e_iconst C dX10_draft_101 ?_
          exact e_sub [0, 1, 2, 4] rfl H
        · replace H := H.2 c9
          refine e_iconst C dX10_draft_97 ?_
          refine e_goto C 102 dX10_draft_98 (by decide) ?_
          exact e_sub [0, 1, 2, 4] rfl H
    · replace H := H.2 c9
      refine e_iconst C dX10_draft_78 ?_
      refine e_goto C 102 dX10_draft_79 (by decide) ?_
      exact e_sub [0, 1, 2, 4] rfl H
  · replace H := H.2 (b2i_0.mp c9)
    refine e_iconst C dX10_draft_70 ?_
    refine e_goto C 102 dX10_draft_71 (by decide) ?_
    exact e_sub [0, 1, 2, 4] rfl H
set_option maxRecDepth 4000 in
theorem B_X10_draft_102 {g : Gs} {ad : Nat → Nat} {X : Cx} {mc ms k n : Nat} {PQ : Option Value → Mem → Prop} {PX : String → Mem → Prop} {M : Mem} {x1 x2 x4 t0 : Int} (r1 : R32 x1) (r2 : R32 x2) (r4 : R32 x4) (q0 : R32 t0) (hk : k ≤ mc) (hn : n ≤ ms) (C : OkB (wM g ad) X cX10_draft RX10 6 3 mc ms) (Y : OkR (wM g ad) X (some .int) mc ms PQ PX) (H : (((¬(0 < t0)) → (((x4 ≠ 0) → (0 ≤ x1 ∧ x1 < 2) ∧ PQ (some (vI (M 21 x1))) (up M 20 0 t0)) ∧ ((x4 = 0) → ((R32 (4 * x1)) ∧ (0 ≤ x1 ∧ x1 < 2) ∧ (R32 ((4 * x1) + (M 21 x1))) ∧ (0 ≤ (4 * x1) + (M 21 x1) ∧ (4 * x1) + (M 21 x1) < 8) ∧ (R32 ((M 21 x1) + 1))) ∧ PQ (some (vI ((up (up (up M 20 0 t0) 22 ((4 * x1) + (M 21 x1)) x2) 21 x1 ((M 21 x1) + 1)) 21 x1))) (up (up (up M 20 0 t0) 22 ((4 * x1) + (M 21 x1)) x2) 21 x1 ((M 21 x1) + 1))))) ∧ ((0 < t0) → PQ (some (vI 0)) (up M 20 0 t0)))) : E (wM g ad) X k n M 102 [(0, .ref (ad 0)), (1, vI x1), (2, vI x2), (4, vI x4)] [vI t0, .ref (ad 0)] := by
  refine e_wf (fun hw0 => ?_)
  refine e_callVD (As := [vI t0]) (rest := []) (q0 := 0) (ci := 10) C Y mi_X10_refused ms_X10_refused mv_X10_refused ml_X10_227 (s_X10_refused q0) rfl rfl (by decide) (Nat.le_of_ble_eq_true rfl) hk hn dX10_draft_102 rfl ?_
  refine e_wf (fun hw1 => ?_)
  refine e_if_eq C 110 (b2i_r _) dX10_draft_105 (by decide) (fun c9 => ?_) (fun c9 => ?_)
  · replace H := H.1 (b2i_0.mp c9)
    refine e_iload C 3 dX10_draft_110 rfl ?_
    refine e_if_ne C 141 r4 dX10_draft_112 (by decide) (fun c9 => ?_) (fun c9 => ?_)
    · replace H := H.1 c9
      refine e_aload_n C 0 dX10_draft_141 rfl ?_
      refine gM_21 C dX10_draft_142 ?_
      refine e_iload_n C 1 dX10_draft_145 rfl ?_
      obtain ⟨o2, H⟩ := H
      refine aM_21 C o2 dX10_draft_146 ?_
      exact e_iret C Y hk hn dX10_draft_147 H
    · replace H := H.2 c9
      refine e_aload_n C 0 dX10_draft_115 rfl ?_
      refine gM_22 C dX10_draft_116 ?_
      refine e_iconst C dX10_draft_119 ?_
      refine e_iload_n C 1 dX10_draft_120 rfl ?_
      obtain ⟨⟨o3, o4, o5, o6, o8⟩, H⟩ := H
      refine e_imul C dX10_draft_121 ?_
      refine e_aload_n C 0 dX10_draft_122 rfl ?_
      refine gM_21 C dX10_draft_123 ?_
      refine e_iload_n C 1 dX10_draft_126 rfl ?_
      refine aM_21 C o4 dX10_draft_127 ?_
      refine e_iadd C dX10_draft_128 ?_
      refine e_iload_n C 2 dX10_draft_129 rfl ?_
      refine sM_22 C o6 r2 dX10_draft_130 ?_
      refine e_wf (fun hw7 => ?_)
      refine e_aload_n C 0 dX10_draft_131 rfl ?_
      refine gM_21 C dX10_draft_132 ?_
      refine e_iload_n C 1 dX10_draft_135 rfl ?_
      refine e_dup2 C rfl rfl dX10_draft_136 ?_
      refine aM_21 C o4 dX10_draft_137 ?_
      refine e_iconst C dX10_draft_138 ?_
      refine e_iadd C dX10_draft_139 ?_
      refine sM_21 C o4 o8 dX10_draft_140 ?_
      refine e_wf (fun hw9 => ?_)
      refine e_aload_n C 0 dX10_draft_141 rfl ?_
      refine gM_21 C dX10_draft_142 ?_
      refine e_iload_n C 1 dX10_draft_145 rfl ?_
      refine aM_21 C o4 dX10_draft_146 ?_
      exact e_iret C Y hk hn dX10_draft_147 H
  · replace H := H.2 (b2i_n0.mp c9)
    refine e_iconst C dX10_draft_108 ?_
    exact e_iret C Y hk hn dX10_draft_109 H
set_option maxRecDepth 4000 in
theorem B_X10_needSide_0 {g : Gs} {ad : Nat → Nat} {X : Cx} {mc ms k n : Nat} {PQ : Option Value → Mem → Prop} {PX : String → Mem → Prop} {M : Mem} {x1 x2 : Int} (r1 : R32 x1) (r2 : R32 x2) (hk : k ≤ mc) (hn : n ≤ ms) (C : OkB (wM g ad) X cX10_needSide RX10 3 3 mc ms) (Y : OkR (wM g ad) X (some .int) mc ms PQ PX) (H : (R32 ((M 0 0) - 1)) ∧ (((0 ≤ x1 ∧ x1 < (M 0 0)) → ((((0 : Int) ≤ x2 ∧ x2 ≤ (1 : Int)) → PQ (some (vI 0)) M) ∧ ((¬((0 : Int) ≤ x2 ∧ x2 ≤ (1 : Int))) → PQ (some (vI 2)) M))) ∧ ((¬(0 ≤ x1 ∧ x1 < (M 0 0))) → PQ (some (vI 1)) M))) : E (wM g ad) X k n M 0 [(0, .ref (ad 0)), (1, vI x1), (2, vI x2)] [] := by
  refine e_wf (fun hw0 => ?_)
  refine e_aload_n C 0 dX10_needSide_0 rfl ?_
  refine e_iload_n C 1 dX10_needSide_1 rfl ?_
  obtain ⟨o1, H⟩ := H
  refine e_callVD (As := [vI x1]) (rest := []) (q0 := 0) (ci := 10) C Y mi_X10_isGame ms_X10_isGame mv_X10_isGame ml_X10_236 (s_X10_isGame r1 o1) rfl rfl (by decide) (Nat.le_of_ble_eq_true rfl) hk hn dX10_needSide_2 rfl ?_
  refine e_if_ne C 12 (b2i_r _) dX10_needSide_5 (by decide) (fun c9 => ?_) (fun c9 => ?_)
  · replace H := H.1 (b2i_n0.mp c9)
    refine e_iload_n C 2 dX10_needSide_12 rfl ?_
    refine e_iconst C dX10_needSide_13 ?_
    refine e_iconst C dX10_needSide_14 ?_
    refine e_callSD (As := [vI x2, vI 0, vI 1]) (rest := []) C Y mi_X10_within ms_X10_within ml_X10_152 (s_X10_within r2 (by decide) (by decide)) (by decide) (Nat.le_of_ble_eq_true rfl) hk hn dX10_needSide_15 rfl ?_
    refine e_if_ne C 25 (b2i_r _) dX10_needSide_18 (by decide) (fun c9 => ?_) (fun c9 => ?_)
    · replace H := H.1 (b2i_n0.mp c9)
      refine e_iconst C dX10_needSide_25 ?_
      exact e_iret C Y hk hn dX10_needSide_26 H
    · replace H := H.2 (b2i_0.mp c9)
      refine e_iconst C dX10_needSide_21 ?_
      refine e_goto C 26 dX10_needSide_22 (by decide) ?_
      exact e_iret C Y hk hn dX10_needSide_26 H
  · replace H := H.2 (b2i_0.mp c9)
    refine e_iconst C dX10_needSide_8 ?_
    refine e_goto C 26 dX10_needSide_9 (by decide) ?_
    exact e_iret C Y hk hn dX10_needSide_26 H
set_option maxRecDepth 4000 in
theorem B_X10_depth_0 {g : Gs} {ad : Nat → Nat} {X : Cx} {mc ms k n : Nat} {PQ : Option Value → Mem → Prop} {PX : String → Mem → Prop} {M : Mem} {x1 : Int} (r1 : R32 x1) (hk : k ≤ mc) (hn : n ≤ ms) (C : OkB (wM g ad) X cX10_depth RX10 2 3 mc ms) (Y : OkR (wM g ad) X (some .int) mc ms PQ PX) (H : (R32 ((M 0 0) - 1)) ∧ (((¬(0 ≤ x1 ∧ x1 < (M 0 0))) → E (wM g ad) X k n M 14 [(0, .ref (ad 0)), (1, vI x1)] [vI 1, .ref (ad 0)]) ∧ ((0 ≤ x1 ∧ x1 < (M 0 0)) → E (wM g ad) X k n M 14 [(0, .ref (ad 0)), (1, vI x1)] [vI 0, .ref (ad 0)]))) : E (wM g ad) X k n M 0 [(0, .ref (ad 0)), (1, vI x1)] [] := by
  refine e_wf (fun hw0 => ?_)
  refine e_aload_n C 0 dX10_depth_0 rfl ?_
  refine e_aload_n C 0 dX10_depth_1 rfl ?_
  refine e_iload_n C 1 dX10_depth_2 rfl ?_
  obtain ⟨o1, H⟩ := H
  refine e_callVD (As := [vI x1]) (rest := [.ref (ad 0)]) (q0 := 0) (ci := 10) C Y mi_X10_isGame ms_X10_isGame mv_X10_isGame ml_X10_236 (s_X10_isGame r1 o1) rfl rfl (by decide) (Nat.le_of_ble_eq_true rfl) hk hn dX10_depth_3 rfl ?_
  refine e_if_eq C 13 (b2i_r _) dX10_depth_6 (by decide) (fun c9 => ?_) (fun c9 => ?_)
  · replace H := H.1 (b2i_0.mp c9)
    refine e_iconst C dX10_depth_13 ?_
    exact e_sub [0, 1] rfl H
  · replace H := H.2 (b2i_n0.mp c9)
    refine e_iconst C dX10_depth_9 ?_
    refine e_goto C 14 dX10_depth_10 (by decide) ?_
    exact e_sub [0, 1] rfl H
set_option maxRecDepth 4000 in
theorem B_X10_depth_14 {g : Gs} {ad : Nat → Nat} {X : Cx} {mc ms k n : Nat} {PQ : Option Value → Mem → Prop} {PX : String → Mem → Prop} {M : Mem} {x1 t0 : Int} (r1 : R32 x1) (q0 : R32 t0) (hk : k ≤ mc) (hn : n ≤ ms) (C : OkB (wM g ad) X cX10_depth RX10 2 3 mc ms) (Y : OkR (wM g ad) X (some .int) mc ms PQ PX) (H : (((¬(0 < t0)) → (0 ≤ x1 ∧ x1 < 40) ∧ PQ (some (vI (M 5 x1))) (up M 20 0 t0)) ∧ ((0 < t0) → PQ (some (vI 0)) (up M 20 0 t0)))) : E (wM g ad) X k n M 14 [(0, .ref (ad 0)), (1, vI x1)] [vI t0, .ref (ad 0)] := by
  refine e_wf (fun hw0 => ?_)
  refine e_callVD (As := [vI t0]) (rest := []) (q0 := 0) (ci := 10) C Y mi_X10_refused ms_X10_refused mv_X10_refused ml_X10_227 (s_X10_refused q0) rfl rfl (by decide) (Nat.le_of_ble_eq_true rfl) hk hn dX10_depth_14 rfl ?_
  refine e_wf (fun hw1 => ?_)
  refine e_if_eq C 24 (b2i_r _) dX10_depth_17 (by decide) (fun c9 => ?_) (fun c9 => ?_)
  · replace H := H.1 (b2i_0.mp c9)
    refine e_aload_n C 0 dX10_depth_24 rfl ?_
    refine gM_5 C dX10_depth_25 ?_
    refine e_iload_n C 1 dX10_depth_28 rfl ?_
    obtain ⟨o2, H⟩ := H
    refine aM_5 C o2 dX10_depth_29 ?_
    exact e_iret C Y hk hn dX10_depth_30 H
  · replace H := H.2 (b2i_n0.mp c9)
    refine e_iconst C dX10_depth_20 ?_
    refine e_goto C 30 dX10_depth_21 (by decide) ?_
    exact e_iret C Y hk hn dX10_depth_30 H
set_option maxRecDepth 4000 in
theorem B_X10_compare_0 {g : Gs} {ad : Nat → Nat} {X : Cx} {mc ms k n : Nat} {PQ : Option Value → Mem → Prop} {PX : String → Mem → Prop} {M : Mem} {x1 x2 : Int} (r1 : R32 x1) (r2 : R32 x2) (hk : k ≤ mc) (hn : n ≤ ms) (C : OkB (wM g ad) X cX10_compare RX10 3 3 mc ms) (Y : OkR (wM g ad) X (some .int) mc ms PQ PX) (H : (R32 ((M 0 0) - 1)) ∧ (((¬(0 ≤ x1 ∧ x1 < (M 0 0))) → E (wM g ad) X k n M 22 [(0, .ref (ad 0)), (1, vI x1), (2, vI x2)] [vI 1, .ref (ad 0)]) ∧ ((0 ≤ x1 ∧ x1 < (M 0 0)) → (((¬(0 ≤ x2 ∧ x2 < (M 0 0))) → E (wM g ad) X k n M 22 [(0, .ref (ad 0)), (1, vI x1), (2, vI x2)] [vI 1, .ref (ad 0)]) ∧ ((0 ≤ x2 ∧ x2 < (M 0 0)) → E (wM g ad) X k n M 22 [(0, .ref (ad 0)), (1, vI x1), (2, vI x2)] [vI 0, .ref (ad 0)]))))) : E (wM g ad) X k n M 0 [(0, .ref (ad 0)), (1, vI x1), (2, vI x2)] [] := by
  refine e_wf (fun hw0 => ?_)
  refine e_aload_n C 0 dX10_compare_0 rfl ?_
  refine e_aload_n C 0 dX10_compare_1 rfl ?_
  refine e_iload_n C 1 dX10_compare_2 rfl ?_
  obtain ⟨o1, H⟩ := H
  refine e_callVD (As := [vI x1]) (rest := [.ref (ad 0)]) (q0 := 0) (ci := 10) C Y mi_X10_isGame ms_X10_isGame mv_X10_isGame ml_X10_236 (s_X10_isGame r1 o1) rfl rfl (by decide) (Nat.le_of_ble_eq_true rfl) hk hn dX10_compare_3 rfl ?_
  refine e_if_eq C 21 (b2i_r _) dX10_compare_6 (by decide) (fun c9 => ?_) (fun c9 => ?_)
  · replace H := H.1 (b2i_0.mp c9)
    refine e_iconst C dX10_compare_21 ?_
    exact e_sub [0, 1, 2] rfl H
  · replace H := H.2 (b2i_n0.mp c9)
    refine e_aload_n C 0 dX10_compare_9 rfl ?_
    refine e_iload_n C 2 dX10_compare_10 rfl ?_
    refine e_callVD (As := [vI x2]) (rest := [.ref (ad 0)]) (q0 := 0) (ci := 10) C Y mi_X10_isGame ms_X10_isGame mv_X10_isGame ml_X10_236 (s_X10_isGame r2 o1) rfl rfl (by decide) (Nat.le_of_ble_eq_true rfl) hk hn dX10_compare_11 rfl ?_
    refine e_if_eq C 21 (b2i_r _) dX10_compare_14 (by decide) (fun c9 => ?_) (fun c9 => ?_)
    · replace H := H.1 (b2i_0.mp c9)
      refine e_iconst C dX10_compare_21 ?_
      exact e_sub [0, 1, 2] rfl H
    · replace H := H.2 (b2i_n0.mp c9)
      refine e_iconst C dX10_compare_17 ?_
      refine e_goto C 22 dX10_compare_18 (by decide) ?_
      exact e_sub [0, 1, 2] rfl H
set_option maxRecDepth 4000 in
theorem B_X10_compare_22 {g : Gs} {ad : Nat → Nat} {X : Cx} {mc ms k n : Nat} {PQ : Option Value → Mem → Prop} {PX : String → Mem → Prop} {M : Mem} {x1 x2 t0 : Int} (r1 : R32 x1) (r2 : R32 x2) (q0 : R32 t0) (hk : k ≤ mc) (hn : n ≤ ms) (C : OkB (wM g ad) X cX10_compare RX10 3 3 mc ms) (Y : OkR (wM g ad) X (some .int) mc ms PQ PX) (H : (((¬(0 < t0)) → ((0 ≤ x1 ∧ x1 < 40) ∧ 0 ≤ x2 ∧ x2 < 40) ∧ ((((M 12 (40 * x1 + x2)) = 0) → ((0 ≤ x2 ∧ x2 < 40) ∧ 0 ≤ x1 ∧ x1 < 40) ∧ ((((M 12 (40 * x2 + x1)) = 0) → PQ (some (vI 3)) (up M 20 0 t0)) ∧ (((M 12 (40 * x2 + x1)) ≠ 0) → PQ (some (vI 2)) (up M 20 0 t0)))) ∧ (((M 12 (40 * x1 + x2)) ≠ 0) → ((0 ≤ x2 ∧ x2 < 40) ∧ 0 ≤ x1 ∧ x1 < 40) ∧ ((((M 12 (40 * x2 + x1)) = 0) → PQ (some (vI 1)) (up M 20 0 t0)) ∧ (((M 12 (40 * x2 + x1)) ≠ 0) → PQ (some (vI 0)) (up M 20 0 t0)))))) ∧ ((0 < t0) → PQ (some (vI 0)) (up M 20 0 t0)))) : E (wM g ad) X k n M 22 [(0, .ref (ad 0)), (1, vI x1), (2, vI x2)] [vI t0, .ref (ad 0)] := by
  refine e_wf (fun hw0 => ?_)
  refine e_callVD (As := [vI t0]) (rest := []) (q0 := 0) (ci := 10) C Y mi_X10_refused ms_X10_refused mv_X10_refused ml_X10_227 (s_X10_refused q0) rfl rfl (by decide) (Nat.le_of_ble_eq_true rfl) hk hn dX10_compare_22 rfl ?_
  refine e_wf (fun hw1 => ?_)
  refine e_if_eq C 30 (b2i_r _) dX10_compare_25 (by decide) (fun c9 => ?_) (fun c9 => ?_)
  · replace H := H.1 (b2i_0.mp c9)
    refine e_aload_n C 0 dX10_compare_30 rfl ?_
    refine e_iload_n C 1 dX10_compare_31 rfl ?_
    refine e_iload_n C 2 dX10_compare_32 rfl ?_
    obtain ⟨o2, H⟩ := H
    refine e_callVD (As := [vI x1, vI x2]) (rest := []) (q0 := 0) (ci := 10) C Y mi_X10_is ms_X10_is mv_X10_is ml_X10_245 (s_X10_is r1 r2 o2) rfl rfl (by decide) (Nat.le_of_ble_eq_true rfl) hk hn dX10_compare_33 rfl ?_
    refine e_if_eq C 56 (hw0.2.1 12 _ (by decide)) dX10_compare_36 (by decide) (fun c9 => ?_) (fun c9 => ?_)
    · replace H := H.1 c9
      refine e_aload_n C 0 dX10_compare_56 rfl ?_
      refine e_iload_n C 2 dX10_compare_57 rfl ?_
      refine e_iload_n C 1 dX10_compare_58 rfl ?_
      obtain ⟨o3, H⟩ := H
      refine e_callVD (As := [vI x2, vI x1]) (rest := []) (q0 := 0) (ci := 10) C Y mi_X10_is ms_X10_is mv_X10_is ml_X10_245 (s_X10_is r2 r1 o3) rfl rfl (by decide) (Nat.le_of_ble_eq_true rfl) hk hn dX10_compare_59 rfl ?_
      refine e_if_eq C 69 (hw0.2.1 12 _ (by decide)) dX10_compare_62 (by decide) (fun c9 => ?_) (fun c9 => ?_)
      · replace H := H.1 c9
        refine e_iconst C dX10_compare_69 ?_
        exact e_iret C Y hk hn dX10_compare_70 H
      · replace H := H.2 c9
        refine e_iconst C dX10_compare_65 ?_
        refine e_goto C 70 dX10_compare_66 (by decide) ?_
        exact e_iret C Y hk hn dX10_compare_70 H
    · replace H := H.2 c9
      refine e_aload_n C 0 dX10_compare_39 rfl ?_
      refine e_iload_n C 2 dX10_compare_40 rfl ?_
      refine e_iload_n C 1 dX10_compare_41 rfl ?_
      obtain ⟨o4, H⟩ := H
      refine e_callVD (As := [vI x2, vI x1]) (rest := []) (q0 := 0) (ci := 10) C Y mi_X10_is ms_X10_is mv_X10_is ml_X10_245 (s_X10_is r2 r1 o4) rfl rfl (by decide) (Nat.le_of_ble_eq_true rfl) hk hn dX10_compare_42 rfl ?_
      refine e_if_eq C 52 (hw0.2.1 12 _ (by decide)) dX10_compare_45 (by decide) (fun c9 => ?_) (fun c9 => ?_)
      · replace H := H.1 c9
        refine e_iconst C dX10_compare_52 ?_
        refine e_goto C 70 dX10_compare_53 (by decide) ?_
        exact e_iret C Y hk hn dX10_compare_70 H
      · replace H := H.2 c9
        refine e_iconst C dX10_compare_48 ?_
        refine e_goto C 70 dX10_compare_49 (by decide) ?_
        exact e_iret C Y hk hn dX10_compare_70 H
  · replace H := H.2 (b2i_n0.mp c9)
    refine e_iconst C dX10_compare_28 ?_
    exact e_iret C Y hk hn dX10_compare_29 H
set_option maxRecDepth 4000 in
theorem B_X10_isCold_0 {g : Gs} {ad : Nat → Nat} {X : Cx} {mc ms k n : Nat} {PQ : Option Value → Mem → Prop} {PX : String → Mem → Prop} {M : Mem} {x1 : Int} (r1 : R32 x1) (hk : k ≤ mc) (hn : n ≤ ms) (C : OkB (wM g ad) X cX10_isCold RX10 2 3 mc ms) (Y : OkR (wM g ad) X (some .boolean) mc ms PQ PX) (H : (R32 ((M 0 0) - 1)) ∧ (((¬(0 ≤ x1 ∧ x1 < (M 0 0))) → E (wM g ad) X k n M 14 [(0, .ref (ad 0)), (1, vI x1)] [vI 1, .ref (ad 0)]) ∧ ((0 ≤ x1 ∧ x1 < (M 0 0)) → E (wM g ad) X k n M 14 [(0, .ref (ad 0)), (1, vI x1)] [vI 0, .ref (ad 0)]))) : E (wM g ad) X k n M 0 [(0, .ref (ad 0)), (1, vI x1)] [] := by
  refine e_wf (fun hw0 => ?_)
  refine e_aload_n C 0 dX10_isCold_0 rfl ?_
  refine e_aload_n C 0 dX10_isCold_1 rfl ?_
  refine e_iload_n C 1 dX10_isCold_2 rfl ?_
  obtain ⟨o1, H⟩ := H
  refine e_callVD (As := [vI x1]) (rest := [.ref (ad 0)]) (q0 := 0) (ci := 10) C Y mi_X10_isGame ms_X10_isGame mv_X10_isGame ml_X10_236 (s_X10_isGame r1 o1) rfl rfl (by decide) (Nat.le_of_ble_eq_true rfl) hk hn dX10_isCold_3 rfl ?_
  refine e_if_eq C 13 (b2i_r _) dX10_isCold_6 (by decide) (fun c9 => ?_) (fun c9 => ?_)
  · replace H := H.1 (b2i_0.mp c9)
    refine e_iconst C dX10_isCold_13 ?_
    exact e_sub [0, 1] rfl H
  · replace H := H.2 (b2i_n0.mp c9)
    refine e_iconst C dX10_isCold_9 ?_
    refine e_goto C 14 dX10_isCold_10 (by decide) ?_
    exact e_sub [0, 1] rfl H
set_option maxRecDepth 4000 in
theorem B_X10_isCold_14 {g : Gs} {ad : Nat → Nat} {X : Cx} {mc ms k n : Nat} {PQ : Option Value → Mem → Prop} {PX : String → Mem → Prop} {M : Mem} {x1 t0 : Int} (r1 : R32 x1) (q0 : R32 t0) (hk : k ≤ mc) (hn : n ≤ ms) (C : OkB (wM g ad) X cX10_isCold RX10 2 3 mc ms) (Y : OkR (wM g ad) X (some .boolean) mc ms PQ PX) (H : (((0 < t0) → PQ (some (vI 0)) (up M 20 0 t0)) ∧ ((¬(0 < t0)) → (0 ≤ x1 ∧ x1 < 40) ∧ ((((M 6 x1) = 0) → PQ (some (vI 0)) (up M 20 0 t0)) ∧ (((M 6 x1) ≠ 0) → PQ (some (vI 1)) (up M 20 0 t0)))))) : E (wM g ad) X k n M 14 [(0, .ref (ad 0)), (1, vI x1)] [vI t0, .ref (ad 0)] := by
  refine e_wf (fun hw0 => ?_)
  refine e_callVD (As := [vI t0]) (rest := []) (q0 := 0) (ci := 10) C Y mi_X10_refused ms_X10_refused mv_X10_refused ml_X10_227 (s_X10_refused q0) rfl rfl (by decide) (Nat.le_of_ble_eq_true rfl) hk hn dX10_isCold_14 rfl ?_
  refine e_wf (fun hw1 => ?_)
  refine e_if_ne C 33 (b2i_r _) dX10_isCold_17 (by decide) (fun c9 => ?_) (fun c9 => ?_)
  · replace H := H.1 (b2i_n0.mp c9)
    refine e_iconst C dX10_isCold_33 ?_
    exact e_zret C Y hk hn (by decide) dX10_isCold_34 H
  · replace H := H.2 (b2i_0.mp c9)
    refine e_aload_n C 0 dX10_isCold_20 rfl ?_
    refine gM_6 C dX10_isCold_21 ?_
    refine e_iload_n C 1 dX10_isCold_24 rfl ?_
    obtain ⟨o2, H⟩ := H
    refine aM_6 C o2 dX10_isCold_25 ?_
    refine e_if_eq C 33 (hw0.2.1 6 _ (by decide)) dX10_isCold_26 (by decide) (fun c9 => ?_) (fun c9 => ?_)
    · replace H := H.1 c9
      refine e_iconst C dX10_isCold_33 ?_
      exact e_zret C Y hk hn (by decide) dX10_isCold_34 H
    · replace H := H.2 c9
      refine e_iconst C dX10_isCold_29 ?_
      refine e_goto C 34 dX10_isCold_30 (by decide) ?_
      exact e_zret C Y hk hn (by decide) dX10_isCold_34 H
set_option maxRecDepth 4000 in
theorem B_X10_value_0 {g : Gs} {ad : Nat → Nat} {X : Cx} {mc ms k n : Nat} {PQ : Option Value → Mem → Prop} {PX : String → Mem → Prop} {M : Mem} {x1 : Int} (r1 : R32 x1) (hk : k ≤ mc) (hn : n ≤ ms) (C : OkB (wM g ad) X cX10_value RX10 2 3 mc ms) (Y : OkR (wM g ad) X (some .int) mc ms PQ PX) (H : (R32 ((M 0 0) - 1)) ∧ (((0 ≤ x1 ∧ x1 < (M 0 0)) → (0 ≤ x1 ∧ x1 < 40) ∧ ((((M 6 x1) ≠ 0) → E (wM g ad) X k n M 27 [(0, .ref (ad 0)), (1, vI x1)] [vI 0, .ref (ad 0)]) ∧ (((M 6 x1) = 0) → E (wM g ad) X k n M 27 [(0, .ref (ad 0)), (1, vI x1)] [vI 2, .ref (ad 0)]))) ∧ ((¬(0 ≤ x1 ∧ x1 < (M 0 0))) → E (wM g ad) X k n M 27 [(0, .ref (ad 0)), (1, vI x1)] [vI 1, .ref (ad 0)]))) : E (wM g ad) X k n M 0 [(0, .ref (ad 0)), (1, vI x1)] [] := by
  refine e_wf (fun hw0 => ?_)
  refine e_aload_n C 0 dX10_value_0 rfl ?_
  refine e_aload_n C 0 dX10_value_1 rfl ?_
  refine e_iload_n C 1 dX10_value_2 rfl ?_
  obtain ⟨o1, H⟩ := H
  refine e_callVD (As := [vI x1]) (rest := [.ref (ad 0)]) (q0 := 0) (ci := 10) C Y mi_X10_isGame ms_X10_isGame mv_X10_isGame ml_X10_236 (s_X10_isGame r1 o1) rfl rfl (by decide) (Nat.le_of_ble_eq_true rfl) hk hn dX10_value_3 rfl ?_
  refine e_if_ne C 13 (b2i_r _) dX10_value_6 (by decide) (fun c9 => ?_) (fun c9 => ?_)
  · replace H := H.1 (b2i_n0.mp c9)
    refine e_aload_n C 0 dX10_value_13 rfl ?_
    refine gM_6 C dX10_value_14 ?_
    refine e_iload_n C 1 dX10_value_17 rfl ?_
    obtain ⟨o2, H⟩ := H
    refine aM_6 C o2 dX10_value_18 ?_
    refine e_if_ne C 26 (hw0.2.1 6 _ (by decide)) dX10_value_19 (by decide) (fun c9 => ?_) (fun c9 => ?_)
    · replace H := H.1 c9
      refine e_iconst C dX10_value_26 ?_
      exact e_sub [0, 1] rfl H
    · replace H := H.2 c9
      refine e_iconst C dX10_value_22 ?_
      refine e_goto C 27 dX10_value_23 (by decide) ?_
      exact e_sub [0, 1] rfl H
  · replace H := H.2 (b2i_0.mp c9)
    refine e_iconst C dX10_value_9 ?_
    refine e_goto C 27 dX10_value_10 (by decide) ?_
    exact e_sub [0, 1] rfl H
set_option maxRecDepth 4000 in
theorem B_X10_value_27 {g : Gs} {ad : Nat → Nat} {X : Cx} {mc ms k n : Nat} {PQ : Option Value → Mem → Prop} {PX : String → Mem → Prop} {M : Mem} {x1 t0 : Int} (r1 : R32 x1) (q0 : R32 t0) (hk : k ≤ mc) (hn : n ≤ ms) (C : OkB (wM g ad) X cX10_value RX10 2 3 mc ms) (Y : OkR (wM g ad) X (some .int) mc ms PQ PX) (H : (((¬(0 < t0)) → (0 ≤ x1 ∧ x1 < 40) ∧ PQ (some (vI (M 7 x1))) (up M 20 0 t0)) ∧ ((0 < t0) → PQ (some (vI 0)) (up M 20 0 t0)))) : E (wM g ad) X k n M 27 [(0, .ref (ad 0)), (1, vI x1)] [vI t0, .ref (ad 0)] := by
  refine e_wf (fun hw0 => ?_)
  refine e_callVD (As := [vI t0]) (rest := []) (q0 := 0) (ci := 10) C Y mi_X10_refused ms_X10_refused mv_X10_refused ml_X10_227 (s_X10_refused q0) rfl rfl (by decide) (Nat.le_of_ble_eq_true rfl) hk hn dX10_value_27 rfl ?_
  refine e_wf (fun hw1 => ?_)
  refine e_if_eq C 35 (b2i_r _) dX10_value_30 (by decide) (fun c9 => ?_) (fun c9 => ?_)
  · replace H := H.1 (b2i_0.mp c9)
    refine e_aload_n C 0 dX10_value_35 rfl ?_
    refine gM_7 C dX10_value_36 ?_
    refine e_iload_n C 1 dX10_value_39 rfl ?_
    obtain ⟨o2, H⟩ := H
    refine aM_7 C o2 dX10_value_40 ?_
    exact e_iret C Y hk hn dX10_value_41 H
  · replace H := H.2 (b2i_n0.mp c9)
    refine e_iconst C dX10_value_33 ?_
    exact e_iret C Y hk hn dX10_value_34 H
set_option maxRecDepth 4000 in
theorem B_X10_mean_0 {g : Gs} {ad : Nat → Nat} {X : Cx} {mc ms k n : Nat} {PQ : Option Value → Mem → Prop} {PX : String → Mem → Prop} {M : Mem} {x1 : Int} (r1 : R32 x1) (hk : k ≤ mc) (hn : n ≤ ms) (C : OkB (wM g ad) X cX10_mean RX10 2 3 mc ms) (Y : OkR (wM g ad) X (some .int) mc ms PQ PX) (H : (R32 ((M 0 0) - 1)) ∧ (((¬(0 ≤ x1 ∧ x1 < (M 0 0))) → E (wM g ad) X k n M 14 [(0, .ref (ad 0)), (1, vI x1)] [vI 1, .ref (ad 0)]) ∧ ((0 ≤ x1 ∧ x1 < (M 0 0)) → E (wM g ad) X k n M 14 [(0, .ref (ad 0)), (1, vI x1)] [vI 0, .ref (ad 0)]))) : E (wM g ad) X k n M 0 [(0, .ref (ad 0)), (1, vI x1)] [] := by
  refine e_wf (fun hw0 => ?_)
  refine e_aload_n C 0 dX10_mean_0 rfl ?_
  refine e_aload_n C 0 dX10_mean_1 rfl ?_
  refine e_iload_n C 1 dX10_mean_2 rfl ?_
  obtain ⟨o1, H⟩ := H
  refine e_callVD (As := [vI x1]) (rest := [.ref (ad 0)]) (q0 := 0) (ci := 10) C Y mi_X10_isGame ms_X10_isGame mv_X10_isGame ml_X10_236 (s_X10_isGame r1 o1) rfl rfl (by decide) (Nat.le_of_ble_eq_true rfl) hk hn dX10_mean_3 rfl ?_
  refine e_if_eq C 13 (b2i_r _) dX10_mean_6 (by decide) (fun c9 => ?_) (fun c9 => ?_)
  · replace H := H.1 (b2i_0.mp c9)
    refine e_iconst C dX10_mean_13 ?_
    exact e_sub [0, 1] rfl H
  · replace H := H.2 (b2i_n0.mp c9)
    refine e_iconst C dX10_mean_9 ?_
    refine e_goto C 14 dX10_mean_10 (by decide) ?_
    exact e_sub [0, 1] rfl H
set_option maxRecDepth 4000 in
theorem B_X10_mean_14 {g : Gs} {ad : Nat → Nat} {X : Cx} {mc ms k n : Nat} {PQ : Option Value → Mem → Prop} {PX : String → Mem → Prop} {M : Mem} {x1 t0 : Int} (r1 : R32 x1) (q0 : R32 t0) (hk : k ≤ mc) (hn : n ≤ ms) (C : OkB (wM g ad) X cX10_mean RX10 2 3 mc ms) (Y : OkR (wM g ad) X (some .int) mc ms PQ PX) (H : (((¬(0 < t0)) → (0 ≤ x1 ∧ x1 < 40) ∧ PQ (some (vI (M 13 x1))) (up M 20 0 t0)) ∧ ((0 < t0) → PQ (some (vI 0)) (up M 20 0 t0)))) : E (wM g ad) X k n M 14 [(0, .ref (ad 0)), (1, vI x1)] [vI t0, .ref (ad 0)] := by
  refine e_wf (fun hw0 => ?_)
  refine e_callVD (As := [vI t0]) (rest := []) (q0 := 0) (ci := 10) C Y mi_X10_refused ms_X10_refused mv_X10_refused ml_X10_227 (s_X10_refused q0) rfl rfl (by decide) (Nat.le_of_ble_eq_true rfl) hk hn dX10_mean_14 rfl ?_
  refine e_wf (fun hw1 => ?_)
  refine e_if_eq C 24 (b2i_r _) dX10_mean_17 (by decide) (fun c9 => ?_) (fun c9 => ?_)
  · replace H := H.1 (b2i_0.mp c9)
    refine e_aload_n C 0 dX10_mean_24 rfl ?_
    refine gM_13 C dX10_mean_25 ?_
    refine e_iload_n C 1 dX10_mean_28 rfl ?_
    obtain ⟨o2, H⟩ := H
    refine aM_13 C o2 dX10_mean_29 ?_
    exact e_iret C Y hk hn dX10_mean_30 H
  · replace H := H.2 (b2i_n0.mp c9)
    refine e_iconst C dX10_mean_20 ?_
    refine e_goto C 30 dX10_mean_21 (by decide) ?_
    exact e_iret C Y hk hn dX10_mean_30 H
set_option maxRecDepth 4000 in
theorem B_X10_temperature_0 {g : Gs} {ad : Nat → Nat} {X : Cx} {mc ms k n : Nat} {PQ : Option Value → Mem → Prop} {PX : String → Mem → Prop} {M : Mem} {x1 : Int} (r1 : R32 x1) (hk : k ≤ mc) (hn : n ≤ ms) (C : OkB (wM g ad) X cX10_temperature RX10 2 3 mc ms) (Y : OkR (wM g ad) X (some .int) mc ms PQ PX) (H : (R32 ((M 0 0) - 1)) ∧ (((¬(0 ≤ x1 ∧ x1 < (M 0 0))) → E (wM g ad) X k n M 14 [(0, .ref (ad 0)), (1, vI x1)] [vI 1, .ref (ad 0)]) ∧ ((0 ≤ x1 ∧ x1 < (M 0 0)) → E (wM g ad) X k n M 14 [(0, .ref (ad 0)), (1, vI x1)] [vI 0, .ref (ad 0)]))) : E (wM g ad) X k n M 0 [(0, .ref (ad 0)), (1, vI x1)] [] := by
  refine e_wf (fun hw0 => ?_)
  refine e_aload_n C 0 dX10_temperature_0 rfl ?_
  refine e_aload_n C 0 dX10_temperature_1 rfl ?_
  refine e_iload_n C 1 dX10_temperature_2 rfl ?_
  obtain ⟨o1, H⟩ := H
  refine e_callVD (As := [vI x1]) (rest := [.ref (ad 0)]) (q0 := 0) (ci := 10) C Y mi_X10_isGame ms_X10_isGame mv_X10_isGame ml_X10_236 (s_X10_isGame r1 o1) rfl rfl (by decide) (Nat.le_of_ble_eq_true rfl) hk hn dX10_temperature_3 rfl ?_
  refine e_if_eq C 13 (b2i_r _) dX10_temperature_6 (by decide) (fun c9 => ?_) (fun c9 => ?_)
  · replace H := H.1 (b2i_0.mp c9)
    refine e_iconst C dX10_temperature_13 ?_
    exact e_sub [0, 1] rfl H
  · replace H := H.2 (b2i_n0.mp c9)
    refine e_iconst C dX10_temperature_9 ?_
    refine e_goto C 14 dX10_temperature_10 (by decide) ?_
    exact e_sub [0, 1] rfl H
set_option maxRecDepth 4000 in
theorem B_X10_temperature_14 {g : Gs} {ad : Nat → Nat} {X : Cx} {mc ms k n : Nat} {PQ : Option Value → Mem → Prop} {PX : String → Mem → Prop} {M : Mem} {x1 t0 : Int} (r1 : R32 x1) (q0 : R32 t0) (hk : k ≤ mc) (hn : n ≤ ms) (C : OkB (wM g ad) X cX10_temperature RX10 2 3 mc ms) (Y : OkR (wM g ad) X (some .int) mc ms PQ PX) (H : (((¬(0 < t0)) → (0 ≤ x1 ∧ x1 < 40) ∧ PQ (some (vI (M 14 x1))) (up M 20 0 t0)) ∧ ((0 < t0) → PQ (some (vI 0)) (up M 20 0 t0)))) : E (wM g ad) X k n M 14 [(0, .ref (ad 0)), (1, vI x1)] [vI t0, .ref (ad 0)] := by
  refine e_wf (fun hw0 => ?_)
  refine e_callVD (As := [vI t0]) (rest := []) (q0 := 0) (ci := 10) C Y mi_X10_refused ms_X10_refused mv_X10_refused ml_X10_227 (s_X10_refused q0) rfl rfl (by decide) (Nat.le_of_ble_eq_true rfl) hk hn dX10_temperature_14 rfl ?_
  refine e_wf (fun hw1 => ?_)
  refine e_if_eq C 24 (b2i_r _) dX10_temperature_17 (by decide) (fun c9 => ?_) (fun c9 => ?_)
  · replace H := H.1 (b2i_0.mp c9)
    refine e_aload_n C 0 dX10_temperature_24 rfl ?_
    refine gM_14 C dX10_temperature_25 ?_
    refine e_iload_n C 1 dX10_temperature_28 rfl ?_
    obtain ⟨o2, H⟩ := H
    refine aM_14 C o2 dX10_temperature_29 ?_
    exact e_iret C Y hk hn dX10_temperature_30 H
  · replace H := H.2 (b2i_n0.mp c9)
    refine e_iconst C dX10_temperature_20 ?_
    refine e_goto C 30 dX10_temperature_21 (by decide) ?_
    exact e_iret C Y hk hn dX10_temperature_30 H
set_option maxRecDepth 4000 in
theorem B_X10_wall_0 {g : Gs} {ad : Nat → Nat} {X : Cx} {mc ms k n : Nat} {PQ : Option Value → Mem → Prop} {PX : String → Mem → Prop} {M : Mem} {x1 x2 x3 : Int} (r1 : R32 x1) (r2 : R32 x2) (r3 : R32 x3) (hk : k ≤ mc) (hn : n ≤ ms) (C : OkB (wM g ad) X cX10_wall RX10 4 3 mc ms) (Y : OkR (wM g ad) X (some .int) mc ms PQ PX) (H : (R32 ((M 0 0) - 1)) ∧ (((0 ≤ x1 ∧ x1 < (M 0 0)) → (((¬((0 : Int) ≤ x2 ∧ x2 ≤ (1 : Int))) → E (wM g ad) X k n M 37 [(0, .ref (ad 0)), (1, vI x1), (2, vI x2), (3, vI x3)] [vI 2, .ref (ad 0)]) ∧ (((0 : Int) ≤ x2 ∧ x2 ≤ (1 : Int)) → ((((0 : Int) ≤ x3 ∧ x3 ≤ (100000 : Int)) → E (wM g ad) X k n M 37 [(0, .ref (ad 0)), (1, vI x1), (2, vI x2), (3, vI x3)] [vI 0, .ref (ad 0)]) ∧ ((¬((0 : Int) ≤ x3 ∧ x3 ≤ (100000 : Int))) → E (wM g ad) X k n M 37 [(0, .ref (ad 0)), (1, vI x1), (2, vI x2), (3, vI x3)] [vI 2, .ref (ad 0)]))))) ∧ ((¬(0 ≤ x1 ∧ x1 < (M 0 0))) → E (wM g ad) X k n M 37 [(0, .ref (ad 0)), (1, vI x1), (2, vI x2), (3, vI x3)] [vI 1, .ref (ad 0)]))) : E (wM g ad) X k n M 0 [(0, .ref (ad 0)), (1, vI x1), (2, vI x2), (3, vI x3)] [] := by
  refine e_wf (fun hw0 => ?_)
  refine e_aload_n C 0 dX10_wall_0 rfl ?_
  refine e_aload_n C 0 dX10_wall_1 rfl ?_
  refine e_iload_n C 1 dX10_wall_2 rfl ?_
  obtain ⟨o1, H⟩ := H
  refine e_callVD (As := [vI x1]) (rest := [.ref (ad 0)]) (q0 := 0) (ci := 10) C Y mi_X10_isGame ms_X10_isGame mv_X10_isGame ml_X10_236 (s_X10_isGame r1 o1) rfl rfl (by decide) (Nat.le_of_ble_eq_true rfl) hk hn dX10_wall_3 rfl ?_
  refine e_if_ne C 13 (b2i_r _) dX10_wall_6 (by decide) (fun c9 => ?_) (fun c9 => ?_)
  · replace H := H.1 (b2i_n0.mp c9)
    refine e_iload_n C 2 dX10_wall_13 rfl ?_
    refine e_iconst C dX10_wall_14 ?_
    refine e_iconst C dX10_wall_15 ?_
    refine e_callSD (As := [vI x2, vI 0, vI 1]) (rest := [.ref (ad 0)]) C Y mi_X10_within ms_X10_within ml_X10_152 (s_X10_within r2 (by decide) (by decide)) (by decide) (Nat.le_of_ble_eq_true rfl) hk hn dX10_wall_16 rfl ?_
    refine e_if_eq C 32 (b2i_r _) dX10_wall_19 (by decide) (fun c9 => ?_) (fun c9 => ?_)
    · replace H := H.1 (b2i_0.mp c9)
      refine e_iconst C dX10_wall_32 ?_
      refine e_goto C 37 dX10_wall_33 (by decide) ?_
      exact e_sub [0, 1, 2, 3] rfl H
    · replace H := H.2 (b2i_n0.mp c9)
      refine e_iload_n C 3 dX10_wall_22 rfl ?_
      refine e_iconst C dX10_wall_23 ?_
      refine e_ldc C (v := 100000) (tg7 73 rfl rfl) (by decide) dX10_wall_24 ?_
      refine e_callSD (As := [vI x3, vI 0, vI 100000]) (rest := [.ref (ad 0)]) C Y mi_X10_within ms_X10_within ml_X10_152 (s_X10_within r3 (by decide) (by decide)) (by decide) (Nat.le_of_ble_eq_true rfl) hk hn dX10_wall_26 rfl ?_
      refine e_if_ne C 36 (b2i_r _) dX10_wall_29 (by decide) (fun c9 => ?_) (fun c9 => ?_)
      · replace H := H.1 (b2i_n0.mp c9)
        refine e_iconst C dX10_wall_36 ?_
        exact e_sub [0, 1, 2, 3] rfl H
      · replace H := H.2 (b2i_0.mp c9)
        refine e_iconst C dX10_wall_32 ?_
        refine e_goto C 37 dX10_wall_33 (by decide) ?_
        exact e_sub [0, 1, 2, 3] rfl H
  · replace H := H.2 (b2i_0.mp c9)
    refine e_iconst C dX10_wall_9 ?_
    refine e_goto C 37 dX10_wall_10 (by decide) ?_
    exact e_sub [0, 1, 2, 3] rfl H
set_option maxRecDepth 4000 in
theorem B_X10_wall_37 {g : Gs} {ad : Nat → Nat} {X : Cx} {mc ms k n : Nat} {PQ : Option Value → Mem → Prop} {PX : String → Mem → Prop} {M : Mem} {x1 x2 x3 t0 : Int} (r1 : R32 x1) (r2 : R32 x2) (r3 : R32 x3) (q0 : R32 t0) (hk : k ≤ mc) (hn : n ≤ ms) (C : OkB (wM g ad) X cX10_wall RX10 4 3 mc ms) (Y : OkR (wM g ad) X (some .int) mc ms PQ PX) (H : (((¬(0 < t0)) → ∃ Q4 : Int → Mem → Prop, SpI (wM g ad) yX10_wallAt cX10_wallAt 5 (some .int) 2 [.ref (ad 0), vI x1, vI x2, vI x3] (up M 20 0 t0) Q4 ∧ ∀ (z5 : Int) (M3 : Mem), Q4 z5 M3 → R32 z5 ∧ PQ (some (vI z5)) M3) ∧ ((0 < t0) → PQ (some (vI 0)) (up M 20 0 t0)))) : E (wM g ad) X k n M 37 [(0, .ref (ad 0)), (1, vI x1), (2, vI x2), (3, vI x3)] [vI t0, .ref (ad 0)] := by
  refine e_wf (fun hw0 => ?_)
  refine e_callVD (As := [vI t0]) (rest := []) (q0 := 0) (ci := 10) C Y mi_X10_refused ms_X10_refused mv_X10_refused ml_X10_227 (s_X10_refused q0) rfl rfl (by decide) (Nat.le_of_ble_eq_true rfl) hk hn dX10_wall_37 rfl ?_
  refine e_wf (fun hw1 => ?_)
  refine e_if_eq C 45 (b2i_r _) dX10_wall_40 (by decide) (fun c9 => ?_) (fun c9 => ?_)
  · replace H := H.1 (b2i_0.mp c9)
    refine e_aload_n C 0 dX10_wall_45 rfl ?_
    refine e_iload_n C 1 dX10_wall_46 rfl ?_
    refine e_iload_n C 2 dX10_wall_47 rfl ?_
    refine e_iload_n C 3 dX10_wall_48 rfl ?_
    obtain ⟨Q4, h2, H⟩ := H
    refine e_callVI (As := [vI x1, vI x2, vI x3]) (rest := []) (q0 := 0) (ci := 10) C Y mi_X10_wallAt ms_X10_wallAt mv_X10_wallAt ml_X10_252 h2 rfl rfl (by decide) (Nat.le_of_ble_eq_true rfl) hk hn dX10_wall_49 rfl (fun z5 M3 hq9 => ?_)
    obtain ⟨o6, H⟩ := H z5 M3 hq9
    refine e_wf (fun hw7 => ?_)
    exact e_iret C Y hk hn dX10_wall_52 H
  · replace H := H.2 (b2i_n0.mp c9)
    refine e_iconst C dX10_wall_43 ?_
    exact e_iret C Y hk hn dX10_wall_44 H
