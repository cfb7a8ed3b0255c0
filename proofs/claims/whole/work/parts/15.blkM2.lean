set_option maxRecDepth 4000 in
theorem B_X10_add_0 {g : Gs} {ad : Nat → Nat} {X : Cx} {mc ms k n : Nat} {PQ : Option Value → Mem → Prop} {PX : String → Mem → Prop} {M : Mem} {x1 : Int} (r1 : R32 x1) (hk : k ≤ mc) (hn : n ≤ ms) (C : OkB (wM g ad) X cX10_add RX10 2 3 mc ms) (Y : OkR (wM g ad) X (some .int) mc ms PQ PX) (H : (R32 ((M 0 0) - 1)) ∧ (((0 ≤ x1 ∧ x1 < (M 0 0)) → ((((M 16 0) ≠ 4) → E (wM g ad) X k n M 26 [(0, .ref (ad 0)), (1, vI x1)] [vI 0, .ref (ad 0)]) ∧ (((M 16 0) = 4) → E (wM g ad) X k n M 26 [(0, .ref (ad 0)), (1, vI x1)] [vI 2, .ref (ad 0)]))) ∧ ((¬(0 ≤ x1 ∧ x1 < (M 0 0))) → E (wM g ad) X k n M 26 [(0, .ref (ad 0)), (1, vI x1)] [vI 1, .ref (ad 0)]))) : E (wM g ad) X k n M 0 [(0, .ref (ad 0)), (1, vI x1)] [] := by
  refine e_wf (fun hw0 => ?_)
  refine e_aload_n C 0 dX10_add_0 rfl ?_
  refine e_aload_n C 0 dX10_add_1 rfl ?_
  refine e_iload_n C 1 dX10_add_2 rfl ?_
  obtain ⟨o1, H⟩ := H
  refine e_callVD (As := [vI x1]) (rest := [.ref (ad 0)]) (q0 := 0) (ci := 10) C Y mi_X10_isGame ms_X10_isGame mv_X10_isGame ml_X10_236 (s_X10_isGame r1 o1) rfl rfl (by decide) (Nat.le_of_ble_eq_true rfl) hk hn dX10_add_3 rfl ?_
  refine e_if_ne C 13 (b2i_r _) dX10_add_6 (by decide) (fun c9 => ?_) (fun c9 => ?_)
  · replace H := H.1 (b2i_n0.mp c9)
    refine e_aload_n C 0 dX10_add_13 rfl ?_
    refine gM_16 C dX10_add_14 ?_
    refine e_iconst C dX10_add_17 ?_
    refine e_icmp_ne C 25 (hw0.2.1 16 _ (by decide)) (by decide) dX10_add_18 (by decide) (fun c9 => ?_) (fun c9 => ?_)
    · replace H := H.1 c9
      refine e_iconst C dX10_add_25 ?_
      exact e_sub [0, 1] rfl H
    · replace H := H.2 c9
      refine e_iconst C dX10_add_21 ?_
      refine e_goto C 26 dX10_add_22 (by decide) ?_
      exact e_sub [0, 1] rfl H
  · replace H := H.2 (b2i_0.mp c9)
    refine e_iconst C dX10_add_9 ?_
    refine e_goto C 26 dX10_add_10 (by decide) ?_
    exact e_sub [0, 1] rfl H
set_option maxRecDepth 4000 in
theorem B_X10_add_26 {g : Gs} {ad : Nat → Nat} {X : Cx} {mc ms k n : Nat} {PQ : Option Value → Mem → Prop} {PX : String → Mem → Prop} {M : Mem} {x1 t0 : Int} (r1 : R32 x1) (q0 : R32 t0) (hk : k ≤ mc) (hn : n ≤ ms) (C : OkB (wM g ad) X cX10_add RX10 2 3 mc ms) (Y : OkR (wM g ad) X (some .int) mc ms PQ PX) (H : (((¬(0 < t0)) → ∃ Q4 : Mem → Prop, SpV (wM g ad) yX10_saves cX10_saves 3 none 1 [.ref (ad 0), vI (M 0 0)] (up M 20 0 t0) Q4 ∧ ∀ M3 : Mem, Q4 M3 → ((0 ≤ M3 16 0 ∧ M3 16 0 < 4) ∧ (R32 ((M3 16 0) + 1))) ∧ PQ (some (vI ((M3 16 0) + 1))) (up (up M3 17 (M3 16 0) x1) 16 0 ((M3 16 0) + 1))) ∧ ((0 < t0) → PQ (some (vI 0)) (up M 20 0 t0)))) : E (wM g ad) X k n M 26 [(0, .ref (ad 0)), (1, vI x1)] [vI t0, .ref (ad 0)] := by
  refine e_wf (fun hw0 => ?_)
  refine e_callVD (As := [vI t0]) (rest := []) (q0 := 0) (ci := 10) C Y mi_X10_refused ms_X10_refused mv_X10_refused ml_X10_227 (s_X10_refused q0) rfl rfl (by decide) (Nat.le_of_ble_eq_true rfl) hk hn dX10_add_26 rfl ?_
  refine e_wf (fun hw1 => ?_)
  refine e_if_eq C 34 (b2i_r _) dX10_add_29 (by decide) (fun c9 => ?_) (fun c9 => ?_)
  · replace H := H.1 (b2i_0.mp c9)
    refine e_aload_n C 0 dX10_add_34 rfl ?_
    refine e_aload_n C 0 dX10_add_35 rfl ?_
    refine gM_0 C dX10_add_36 ?_
    obtain ⟨Q4, h2, H⟩ := H
    refine e_callVV (As := [vI (M 0 0)]) (rest := []) (q0 := 0) (ci := 10) C Y mi_X10_saves ms_X10_saves mv_X10_saves ml_X10_230 h2 rfl rfl (by decide) (Nat.le_of_ble_eq_true rfl) hk hn dX10_add_39 rfl (fun M3 hq9 => ?_)
    replace H := H M3 hq9
    refine e_wf (fun hw5 => ?_)
    refine e_aload_n C 0 dX10_add_42 rfl ?_
    refine gM_17 C dX10_add_43 ?_
    refine e_aload_n C 0 dX10_add_46 rfl ?_
    refine gM_16 C dX10_add_47 ?_
    refine e_iload_n C 1 dX10_add_50 rfl ?_
    obtain ⟨⟨o6, o8⟩, H⟩ := H
    refine sM_17 C o6 r1 dX10_add_51 ?_
    refine e_wf (fun hw7 => ?_)
    refine e_aload_n C 0 dX10_add_52 rfl ?_
    refine e_dup C rfl dX10_add_53 ?_
    refine gM_16 C dX10_add_54 ?_
    refine e_iconst C dX10_add_57 ?_
    refine e_iadd C dX10_add_58 ?_
    refine pM_16 C o8 dX10_add_59 ?_
    refine e_wf (fun hw9 => ?_)
    refine e_aload_n C 0 dX10_add_62 rfl ?_
    refine gM_16 C dX10_add_63 ?_
    exact e_iret C Y hk hn dX10_add_66 H
  · replace H := H.2 (b2i_n0.mp c9)
    refine e_iconst C dX10_add_32 ?_
    exact e_iret C Y hk hn dX10_add_33 H
set_option maxRecDepth 4000 in
theorem B_X10_remove_0 {g : Gs} {ad : Nat → Nat} {X : Cx} {mc ms k n : Nat} {PQ : Option Value → Mem → Prop} {PX : String → Mem → Prop} {M : Mem} {x1 : Int} (r1 : R32 x1) (hk : k ≤ mc) (hn : n ≤ ms) (C : OkB (wM g ad) X cX10_remove RX10 4 3 mc ms) (Y : OkR (wM g ad) X (some .int) mc ms PQ PX) (H : (R32 ((M 16 0) - 1)) ∧ (((¬(0 ≤ x1 ∧ x1 < (M 16 0))) → E (wM g ad) X k n M 14 [(0, .ref (ad 0)), (1, vI x1)] [vI 1, .ref (ad 0)]) ∧ ((0 ≤ x1 ∧ x1 < (M 16 0)) → E (wM g ad) X k n M 14 [(0, .ref (ad 0)), (1, vI x1)] [vI 0, .ref (ad 0)]))) : E (wM g ad) X k n M 0 [(0, .ref (ad 0)), (1, vI x1)] [] := by
  refine e_wf (fun hw0 => ?_)
  refine e_aload_n C 0 dX10_remove_0 rfl ?_
  refine e_aload_n C 0 dX10_remove_1 rfl ?_
  refine e_iload_n C 1 dX10_remove_2 rfl ?_
  obtain ⟨o1, H⟩ := H
  refine e_callVD (As := [vI x1]) (rest := [.ref (ad 0)]) (q0 := 0) (ci := 10) C Y mi_X10_isPart ms_X10_isPart mv_X10_isPart ml_X10_255 (s_X10_isPart r1 o1) rfl rfl (by decide) (Nat.le_of_ble_eq_true rfl) hk hn dX10_remove_3 rfl ?_
  refine e_if_eq C 13 (b2i_r _) dX10_remove_6 (by decide) (fun c9 => ?_) (fun c9 => ?_)
  · replace H := H.1 (b2i_0.mp c9)
    refine e_iconst C dX10_remove_13 ?_
    exact e_sub [0, 1] rfl H
  · replace H := H.2 (b2i_n0.mp c9)
    refine e_iconst C dX10_remove_9 ?_
    refine e_goto C 14 dX10_remove_10 (by decide) ?_
    exact e_sub [0, 1] rfl H
set_option maxRecDepth 4000 in
theorem B_X10_remove_14 {g : Gs} {ad : Nat → Nat} {X : Cx} {mc ms k n : Nat} {PQ : Option Value → Mem → Prop} {PX : String → Mem → Prop} {M : Mem} {x1 t0 : Int} (r1 : R32 x1) (q0 : R32 t0) (hk : k ≤ mc) (hn : n ≤ ms) (C : OkB (wM g ad) X cX10_remove RX10 4 3 mc ms) (Y : OkR (wM g ad) X (some .int) mc ms PQ PX) (H : (((¬(0 < t0)) → (0 ≤ x1 ∧ x1 < 4) ∧ ∃ Q5 : Mem → Prop, SpV (wM g ad) yX10_saves cX10_saves 3 none 1 [.ref (ad 0), vI (M 0 0)] (up M 20 0 t0) Q5 ∧ ∀ M4 : Mem, Q5 M4 → E (wM g ad) X k n M4 39 [(0, .ref (ad 0)), (2, vI (M 17 x1)), (3, vI x1)] []) ∧ ((0 < t0) → PQ (some (vI 0)) (up M 20 0 t0)))) : E (wM g ad) X k n M 14 [(0, .ref (ad 0)), (1, vI x1)] [vI t0, .ref (ad 0)] := by
  refine e_wf (fun hw0 => ?_)
  refine e_callVD (As := [vI t0]) (rest := []) (q0 := 0) (ci := 10) C Y mi_X10_refused ms_X10_refused mv_X10_refused ml_X10_227 (s_X10_refused q0) rfl rfl (by decide) (Nat.le_of_ble_eq_true rfl) hk hn dX10_remove_14 rfl ?_
  refine e_wf (fun hw1 => ?_)
  refine e_if_eq C 22 (b2i_r _) dX10_remove_17 (by decide) (fun c9 => ?_) (fun c9 => ?_)
  · replace H := H.1 (b2i_0.mp c9)
    refine e_aload_n C 0 dX10_remove_22 rfl ?_
    refine gM_17 C dX10_remove_23 ?_
    refine e_iload_n C 1 dX10_remove_26 rfl ?_
    obtain ⟨o2, H⟩ := H
    refine aM_17 C o2 dX10_remove_27 ?_
    refine e_istore_n C dX10_remove_28 (by decide) rfl ?_
    refine e_aload_n C 1 dX10_remove_29 rfl ?_
    refine e_aload_n C 1 dX10_remove_30 rfl ?_
    refine gM_0 C dX10_remove_31 ?_
    obtain ⟨Q5, h3, H⟩ := H
    refine e_callVV (As := [vI (M 0 0)]) (rest := []) (q0 := 0) (ci := 10) C Y mi_X10_saves ms_X10_saves mv_X10_saves ml_X10_230 h3 rfl rfl (by decide) (Nat.le_of_ble_eq_true rfl) hk hn dX10_remove_34 rfl (fun M4 hq9 => ?_)
    replace H := H M4 hq9
    refine e_wf (fun hw6 => ?_)
    refine e_iload_n C 2 dX10_remove_37 rfl ?_
    refine e_istore_n C dX10_remove_38 (by decide) rfl ?_
    exact e_sub [2, 1, 0] rfl H
  · replace H := H.2 (b2i_n0.mp c9)
    refine e_iconst C dX10_remove_20 ?_
    exact e_iret C Y hk hn dX10_remove_21 H
set_option maxRecDepth 4000 in
theorem B_X10_remove_39 {g : Gs} {ad : Nat → Nat} {X : Cx} {mc ms k n : Nat} {PQ : Option Value → Mem → Prop} {PX : String → Mem → Prop} {M : Mem} {x2 x3 : Int} (r2 : R32 x2) (r3 : R32 x3) (hk : k ≤ mc) (hn : n ≤ ms) (C : OkB (wM g ad) X cX10_remove RX10 4 3 mc ms) (Y : OkR (wM g ad) X (some .int) mc ms PQ PX) (H : (R32 ((M 16 0) - 1)) ∧ (((((M 16 0) - 1) ≤ x3) → PQ (some (vI x2)) (up M 16 0 ((M 16 0) - 1))) ∧ ((x3 < ((M 16 0) - 1)) → ((R32 (x3 + 1)) ∧ (0 ≤ x3 + 1 ∧ x3 + 1 < 4) ∧ (0 ≤ x3 ∧ x3 < 4)) ∧ E (wM g ad) X k n (up M 17 x3 (M 17 (x3 + 1))) 39 [(0, .ref (ad 0)), (2, vI x2), (3, vI (x3 + 1))] []))) : E (wM g ad) X k n M 39 [(0, .ref (ad 0)), (2, vI x2), (3, vI x3)] [] := by
  refine e_wf (fun hw0 => ?_)
  refine e_iload_n C 2 dX10_remove_39 rfl ?_
  refine e_aload_n C 0 dX10_remove_40 rfl ?_
  refine gM_16 C dX10_remove_41 ?_
  refine e_iconst C dX10_remove_44 ?_
  obtain ⟨o1, H⟩ := H
  refine e_isub C dX10_remove_45 ?_
  refine e_icmp_ge C 69 r3 o1 dX10_remove_46 (by decide) (fun c9 => ?_) (fun c9 => ?_)
  · replace H := H.1 c9
    refine e_aload_n C 0 dX10_remove_69 rfl ?_
    refine e_dup C rfl dX10_remove_70 ?_
    refine gM_16 C dX10_remove_71 ?_
    refine e_iconst C dX10_remove_74 ?_
    refine e_isub C dX10_remove_75 ?_
    refine pM_16 C o1 dX10_remove_76 ?_
    refine e_wf (fun hw2 => ?_)
    refine e_iload_n C 1 dX10_remove_79 rfl ?_
    exact e_iret C Y hk hn dX10_remove_80 H
  · replace H := H.2 c9
    refine e_aload_n C 0 dX10_remove_49 rfl ?_
    refine gM_17 C dX10_remove_50 ?_
    refine e_iload_n C 2 dX10_remove_53 rfl ?_
    refine e_aload_n C 0 dX10_remove_54 rfl ?_
    refine gM_17 C dX10_remove_55 ?_
    refine e_iload_n C 2 dX10_remove_58 rfl ?_
    refine e_iconst C dX10_remove_59 ?_
    obtain ⟨⟨o3, o4, o5⟩, H⟩ := H
    refine e_iadd C dX10_remove_60 ?_
    refine aM_17 C o4 dX10_remove_61 ?_
    refine sM_17 C o5 (hw0.2.1 17 _ (by decide)) dX10_remove_62 ?_
    refine e_wf (fun hw6 => ?_)
    refine e_iinc C 2 dX10_remove_63 rfl (by decide) rfl ?_
    refine e_goto C 39 dX10_remove_66 (by decide) ?_
    exact e_sub [1, 2, 0] rfl H
set_option maxRecDepth 4000 in
theorem B_X10_component_0 {g : Gs} {ad : Nat → Nat} {X : Cx} {mc ms k n : Nat} {PQ : Option Value → Mem → Prop} {PX : String → Mem → Prop} {M : Mem} {x1 : Int} (r1 : R32 x1) (hk : k ≤ mc) (hn : n ≤ ms) (C : OkB (wM g ad) X cX10_component RX10 2 3 mc ms) (Y : OkR (wM g ad) X (some .int) mc ms PQ PX) (H : (R32 ((M 16 0) - 1)) ∧ (((¬(0 ≤ x1 ∧ x1 < (M 16 0))) → E (wM g ad) X k n M 14 [(0, .ref (ad 0)), (1, vI x1)] [vI 1, .ref (ad 0)]) ∧ ((0 ≤ x1 ∧ x1 < (M 16 0)) → E (wM g ad) X k n M 14 [(0, .ref (ad 0)), (1, vI x1)] [vI 0, .ref (ad 0)]))) : E (wM g ad) X k n M 0 [(0, .ref (ad 0)), (1, vI x1)] [] := by
  refine e_wf (fun hw0 => ?_)
  refine e_aload_n C 0 dX10_component_0 rfl ?_
  refine e_aload_n C 0 dX10_component_1 rfl ?_
  refine e_iload_n C 1 dX10_component_2 rfl ?_
  obtain ⟨o1, H⟩ := H
  refine e_callVD (As := [vI x1]) (rest := [.ref (ad 0)]) (q0 := 0) (ci := 10) C Y mi_X10_isPart ms_X10_isPart mv_X10_isPart ml_X10_255 (s_X10_isPart r1 o1) rfl rfl (by decide) (Nat.le_of_ble_eq_true rfl) hk hn dX10_component_3 rfl ?_
  refine e_if_eq C 13 (b2i_r _) dX10_component_6 (by decide) (fun c9 => ?_) (fun c9 => ?_)
  · replace H := H.1 (b2i_0.mp c9)
    refine e_iconst C dX10_component_13 ?_
    exact e_sub [0, 1] rfl H
  · replace H := H.2 (b2i_n0.mp c9)
    refine e_iconst C dX10_component_9 ?_
    refine e_goto C 14 dX10_component_10 (by decide) ?_
    exact e_sub [0, 1] rfl H
set_option maxRecDepth 4000 in
theorem B_X10_component_14 {g : Gs} {ad : Nat → Nat} {X : Cx} {mc ms k n : Nat} {PQ : Option Value → Mem → Prop} {PX : String → Mem → Prop} {M : Mem} {x1 t0 : Int} (r1 : R32 x1) (q0 : R32 t0) (hk : k ≤ mc) (hn : n ≤ ms) (C : OkB (wM g ad) X cX10_component RX10 2 3 mc ms) (Y : OkR (wM g ad) X (some .int) mc ms PQ PX) (H : (((¬(0 < t0)) → (0 ≤ x1 ∧ x1 < 4) ∧ PQ (some (vI (M 17 x1))) (up M 20 0 t0)) ∧ ((0 < t0) → PQ (some (vI 0)) (up M 20 0 t0)))) : E (wM g ad) X k n M 14 [(0, .ref (ad 0)), (1, vI x1)] [vI t0, .ref (ad 0)] := by
  refine e_wf (fun hw0 => ?_)
  refine e_callVD (As := [vI t0]) (rest := []) (q0 := 0) (ci := 10) C Y mi_X10_refused ms_X10_refused mv_X10_refused ml_X10_227 (s_X10_refused q0) rfl rfl (by decide) (Nat.le_of_ble_eq_true rfl) hk hn dX10_component_14 rfl ?_
  refine e_wf (fun hw1 => ?_)
  refine e_if_eq C 24 (b2i_r _) dX10_component_17 (by decide) (fun c9 => ?_) (fun c9 => ?_)
  · replace H := H.1 (b2i_0.mp c9)
    refine e_aload_n C 0 dX10_component_24 rfl ?_
    refine gM_17 C dX10_component_25 ?_
    refine e_iload_n C 1 dX10_component_28 rfl ?_
    obtain ⟨o2, H⟩ := H
    refine aM_17 C o2 dX10_component_29 ?_
    exact e_iret C Y hk hn dX10_component_30 H
  · replace H := H.2 (b2i_n0.mp c9)
    refine e_iconst C dX10_component_20 ?_
    refine e_goto C 30 dX10_component_21 (by decide) ?_
    exact e_iret C Y hk hn dX10_component_30 H
set_option maxRecDepth 4000 in
theorem B_X10_move_0 {g : Gs} {ad : Nat → Nat} {X : Cx} {mc ms k n : Nat} {PQ : Option Value → Mem → Prop} {PX : String → Mem → Prop} {M : Mem} {x1 x2 x3 : Int} (r1 : R32 x1) (r2 : R32 x2) (r3 : R32 x3) (hk : k ≤ mc) (hn : n ≤ ms) (C : OkB (wM g ad) X cX10_move RX10 6 3 mc ms) (Y : OkR (wM g ad) X (some .int) mc ms PQ PX) (H : (R32 ((M 16 0) - 1)) ∧ (((¬(0 ≤ x1 ∧ x1 < (M 16 0))) → E (wM g ad) X k n M 43 [(0, .ref (ad 0)), (1, vI x1), (2, vI x2), (3, vI x3)] [vI 0]) ∧ ((0 ≤ x1 ∧ x1 < (M 16 0)) → (((¬((0 : Int) ≤ x2 ∧ x2 ≤ (1 : Int))) → E (wM g ad) X k n M 43 [(0, .ref (ad 0)), (1, vI x1), (2, vI x2), (3, vI x3)] [vI 0]) ∧ (((0 : Int) ≤ x2 ∧ x2 ≤ (1 : Int)) → ((0 ≤ x1 ∧ x1 < 4) ∧ ((0 ≤ (M 17 x1) ∧ (M 17 x1) < 40) ∧ 0 ≤ x2 ∧ x2 ≤ 1) ∧ (R32 ((M 3 (2 * (M 17 x1) + x2)) - 1))) ∧ (((¬((0 : Int) ≤ x3 ∧ x3 ≤ ((M 3 (2 * (M 17 x1) + x2)) - 1))) → E (wM g ad) X k n M 43 [(0, .ref (ad 0)), (1, vI x1), (2, vI x2), (3, vI x3)] [vI 0]) ∧ (((0 : Int) ≤ x3 ∧ x3 ≤ ((M 3 (2 * (M 17 x1) + x2)) - 1)) → E (wM g ad) X k n M 43 [(0, .ref (ad 0)), (1, vI x1), (2, vI x2), (3, vI x3)] [vI 1]))))))) : E (wM g ad) X k n M 0 [(0, .ref (ad 0)), (1, vI x1), (2, vI x2), (3, vI x3)] [] := by
  refine e_wf (fun hw0 => ?_)
  refine e_aload_n C 0 dX10_move_0 rfl ?_
  refine e_iload_n C 1 dX10_move_1 rfl ?_
  obtain ⟨o1, H⟩ := H
  refine e_callVD (As := [vI x1]) (rest := []) (q0 := 0) (ci := 10) C Y mi_X10_isPart ms_X10_isPart mv_X10_isPart ml_X10_255 (s_X10_isPart r1 o1) rfl rfl (by decide) (Nat.le_of_ble_eq_true rfl) hk hn dX10_move_2 rfl ?_
  refine e_if_eq C 42 (b2i_r _) dX10_move_5 (by decide) (fun c9 => ?_) (fun c9 => ?_)
  · replace H := H.1 (b2i_0.mp c9)
    refine e_iconst C dX10_move_42 ?_
    exact e_sub [0, 1, 2, 3] rfl H
  · replace H := H.2 (b2i_n0.mp c9)
    refine e_iload_n C 2 dX10_move_8 rfl ?_
    refine e_iconst C dX10_move_9 ?_
    refine e_iconst C dX10_move_10 ?_
    refine e_callSD (As := [vI x2, vI 0, vI 1]) (rest := []) C Y mi_X10_within ms_X10_within ml_X10_152 (s_X10_within r2 (by decide) (by decide)) (by decide) (Nat.le_of_ble_eq_true rfl) hk hn dX10_move_11 rfl ?_
    refine e_if_eq C 42 (b2i_r _) dX10_move_14 (by decide) (fun c9 => ?_) (fun c9 => ?_)
    · replace H := H.1 (b2i_0.mp c9)
      refine e_iconst C dX10_move_42 ?_
      exact e_sub [0, 1, 2, 3] rfl H
    · replace H := H.2 (b2i_n0.mp c9)
      refine e_iload_n C 3 dX10_move_17 rfl ?_
      refine e_iconst C dX10_move_18 ?_
      refine e_aload_n C 0 dX10_move_19 rfl ?_
      refine e_aload_n C 0 dX10_move_20 rfl ?_
      refine gM_17 C dX10_move_21 ?_
      refine e_iload_n C 1 dX10_move_24 rfl ?_
      obtain ⟨⟨o2, o3, o4⟩, H⟩ := H
      refine aM_17 C o2 dX10_move_25 ?_
      refine e_iload_n C 2 dX10_move_26 rfl ?_
      refine e_callVD (As := [vI (M 17 x1), vI x2]) (rest := [vI 0, vI x3]) (q0 := 0) (ci := 10) C Y mi_X10_optionsOf ms_X10_optionsOf mv_X10_optionsOf ml_X10_164 (s_X10_optionsOf (hw0.2.1 17 _ (by decide)) r2 o3) rfl rfl (by decide) (Nat.le_of_ble_eq_true rfl) hk hn dX10_move_27 rfl ?_
      refine e_iconst C dX10_move_30 ?_
      refine e_isub C dX10_move_31 ?_
      refine e_callSD (As := [vI x3, vI 0, vI ((M 3 (2 * (M 17 x1) + x2)) - 1)]) (rest := []) C Y mi_X10_within ms_X10_within ml_X10_152 (s_X10_within r3 (by decide) o4) (by decide) (Nat.le_of_ble_eq_true rfl) hk hn dX10_move_32 rfl ?_
      refine e_if_eq C 42 (b2i_r _) dX10_move_35 (by decide) (fun c9 => ?_) (fun c9 => ?_)
      · replace H := H.1 (b2i_0.mp c9)
        refine e_iconst C dX10_move_42 ?_
        exact e_sub [0, 1, 2, 3] rfl H
      · replace H := H.2 (b2i_n0.mp c9)
        refine e_iconst C dX10_move_38 ?_
        refine e_goto C 43 dX10_move_39 (by decide) ?_
        exact e_sub [0, 1, 2, 3] rfl H
set_option maxRecDepth 4000 in
theorem B_X10_move_43 {g : Gs} {ad : Nat → Nat} {X : Cx} {mc ms k n : Nat} {PQ : Option Value → Mem → Prop} {PX : String → Mem → Prop} {M : Mem} {x1 x2 x3 t0 : Int} (r1 : R32 x1) (r2 : R32 x2) (r3 : R32 x3) (q0 : R32 t0) (hk : k ≤ mc) (hn : n ≤ ms) (C : OkB (wM g ad) X cX10_move RX10 6 3 mc ms) (Y : OkR (wM g ad) X (some .int) mc ms PQ PX) (H : (R32 ((M 16 0) - 1)) ∧ (((0 ≤ x1 ∧ x1 < (M 16 0)) → (((t0 ≠ 0) → ((0 ≤ x1 ∧ x1 < 4) ∧ (0 ≤ M 17 x1 ∧ M 17 x1 < 40)) ∧ ((((M 6 (M 17 x1)) = 0) → E (wM g ad) X k n M 86 [(0, .ref (ad 0)), (1, vI x1), (2, vI x2), (3, vI x3)] [vI 0, .ref (ad 0)]) ∧ (((M 6 (M 17 x1)) ≠ 0) → E (wM g ad) X k n M 86 [(0, .ref (ad 0)), (1, vI x1), (2, vI x2), (3, vI x3)] [vI 3, .ref (ad 0)]))) ∧ ((t0 = 0) → E (wM g ad) X k n M 86 [(0, .ref (ad 0)), (1, vI x1), (2, vI x2), (3, vI x3)] [vI 2, .ref (ad 0)]))) ∧ ((¬(0 ≤ x1 ∧ x1 < (M 16 0))) → E (wM g ad) X k n M 86 [(0, .ref (ad 0)), (1, vI x1), (2, vI x2), (3, vI x3)] [vI 1, .ref (ad 0)]))) : E (wM g ad) X k n M 43 [(0, .ref (ad 0)), (1, vI x1), (2, vI x2), (3, vI x3)] [vI t0] := by
  refine e_wf (fun hw0 => ?_)
  refine e_istore C dX10_move_43 (by decide) rfl ?_
  refine e_aload_n C 1 dX10_move_45 rfl ?_
  refine e_aload_n C 1 dX10_move_46 rfl ?_
  refine e_iload_n C 2 dX10_move_47 rfl ?_
  obtain ⟨o1, H⟩ := H
  refine e_callVD (As := [vI x1]) (rest := [.ref (ad 0)]) (q0 := 0) (ci := 10) C Y mi_X10_isPart ms_X10_isPart mv_X10_isPart ml_X10_255 (s_X10_isPart r1 o1) rfl rfl (by decide) (Nat.le_of_ble_eq_true rfl) hk hn dX10_move_48 rfl ?_
  refine e_if_ne C 58 (b2i_r _) dX10_move_51 (by decide) (fun c9 => ?_) (fun c9 => ?_)
  · replace H := H.1 (b2i_n0.mp c9)
    refine e_iload C 0 dX10_move_58 rfl ?_
    refine e_if_ne C 67 q0 dX10_move_60 (by decide) (fun c9 => ?_) (fun c9 => ?_)
    · replace H := H.1 c9
      refine e_aload_n C 1 dX10_move_67 rfl ?_
      refine gM_6 C dX10_move_68 ?_
      refine e_aload_n C 1 dX10_move_71 rfl ?_
      refine gM_17 C dX10_move_72 ?_
      refine e_iload_n C 2 dX10_move_75 rfl ?_
      obtain ⟨⟨o2, o3⟩, H⟩ := H
      refine aM_17 C o2 dX10_move_76 ?_
      refine aM_6 C o3 dX10_move_77 ?_
      refine e_if_eq C 85 (hw0.2.1 6 _ (by decide)) dX10_move_78 (by decide) (fun c9 => ?_) (fun c9 => ?_)
      · replace H := H.1 c9
        refine e_iconst C dX10_move_85 ?_
        exact e_sub [1, 2, 3, 4] rfl H
      · replace H := H.2 c9
        refine e_iconst C dX10_move_81 ?_
        refine e_goto C 86 dX10_move_82 (by decide) ?_
        exact e_sub [1, 2, 3, 4] rfl H
    · replace H := H.2 c9
      refine e_iconst C dX10_move_63 ?_
      refine e_goto C 86 dX10_move_64 (by decide) ?_
      exact e_sub [1, 2, 3, 4] rfl H
  · replace H := H.2 (b2i_0.mp c9)
    refine e_iconst C dX10_move_54 ?_
    refine e_goto C 86 dX10_move_55 (by decide) ?_
    exact e_sub [1, 2, 3, 4] rfl H
set_option maxRecDepth 4000 in
theorem B_X10_move_86 {g : Gs} {ad : Nat → Nat} {X : Cx} {mc ms k n : Nat} {PQ : Option Value → Mem → Prop} {PX : String → Mem → Prop} {M : Mem} {x1 x2 x3 t0 : Int} (r1 : R32 x1) (r2 : R32 x2) (r3 : R32 x3) (q0 : R32 t0) (hk : k ≤ mc) (hn : n ≤ ms) (C : OkB (wM g ad) X cX10_move RX10 6 3 mc ms) (Y : OkR (wM g ad) X (some .int) mc ms PQ PX) (H : (((¬(0 < t0)) → ((0 ≤ x1 ∧ x1 < 4) ∧ ((0 ≤ (M 17 x1) ∧ (M 17 x1) < 40) ∧ (0 ≤ x2 ∧ x2 ≤ 1) ∧ 0 ≤ x3 ∧ x3 < 4)) ∧ ∃ Q6 : Mem → Prop, SpV (wM g ad) yX10_saves cX10_saves 3 none 1 [.ref (ad 0), vI (M 0 0)] (up M 20 0 t0) Q6 ∧ ∀ M5 : Mem, Q6 M5 → PQ (some (vI (M 4 (8 * (M 17 x1) + 4 * x2 + x3)))) (up M5 17 x1 (M 4 (8 * (M 17 x1) + 4 * x2 + x3)))) ∧ ((0 < t0) → PQ (some (vI 0)) (up M 20 0 t0)))) : E (wM g ad) X k n M 86 [(0, .ref (ad 0)), (1, vI x1), (2, vI x2), (3, vI x3)] [vI t0, .ref (ad 0)] := by
  refine e_wf (fun hw0 => ?_)
  refine e_callVD (As := [vI t0]) (rest := []) (q0 := 0) (ci := 10) C Y mi_X10_refused ms_X10_refused mv_X10_refused ml_X10_227 (s_X10_refused q0) rfl rfl (by decide) (Nat.le_of_ble_eq_true rfl) hk hn dX10_move_86 rfl ?_
  refine e_wf (fun hw1 => ?_)
  refine e_if_eq C 94 (b2i_r _) dX10_move_89 (by decide) (fun c9 => ?_) (fun c9 => ?_)
  · replace H := H.1 (b2i_0.mp c9)
    refine e_aload_n C 0 dX10_move_94 rfl ?_
    refine e_aload_n C 0 dX10_move_95 rfl ?_
    refine gM_17 C dX10_move_96 ?_
    refine e_iload_n C 1 dX10_move_99 rfl ?_
    obtain ⟨⟨o2, o3⟩, H⟩ := H
    refine aM_17 C o2 dX10_move_100 ?_
    refine e_iload_n C 2 dX10_move_101 rfl ?_
    refine e_iload_n C 3 dX10_move_102 rfl ?_
    refine e_callVD (As := [vI (M 17 x1), vI x2, vI x3]) (rest := []) (q0 := 0) (ci := 10) C Y mi_X10_optionOf ms_X10_optionOf mv_X10_optionOf ml_X10_167 (s_X10_optionOf (hw0.2.1 17 _ (by decide)) r2 r3 o3) rfl rfl (by decide) (Nat.le_of_ble_eq_true rfl) hk hn dX10_move_103 rfl ?_
    refine e_istore C dX10_move_106 (by decide) rfl ?_
    refine e_aload_n C 1 dX10_move_108 rfl ?_
    refine e_aload_n C 1 dX10_move_109 rfl ?_
    refine gM_0 C dX10_move_110 ?_
    obtain ⟨Q6, h4, H⟩ := H
    refine e_callVV (As := [vI (M 0 0)]) (rest := []) (q0 := 0) (ci := 10) C Y mi_X10_saves ms_X10_saves mv_X10_saves ml_X10_230 h4 rfl rfl (by decide) (Nat.le_of_ble_eq_true rfl) hk hn dX10_move_113 rfl (fun M5 hq9 => ?_)
    replace H := H M5 hq9
    refine e_wf (fun hw7 => ?_)
    refine e_aload_n C 1 dX10_move_116 rfl ?_
    refine gM_17 C dX10_move_117 ?_
    refine e_iload_n C 2 dX10_move_120 rfl ?_
    refine e_iload C 0 dX10_move_121 rfl ?_
    refine sM_17 C o2 (hw0.2.1 4 _ (by decide)) dX10_move_123 ?_
    refine e_wf (fun hw8 => ?_)
    refine e_iload C 0 dX10_move_124 rfl ?_
    exact e_iret C Y hk hn dX10_move_126 H
  · replace H := H.2 (b2i_n0.mp c9)
    refine e_iconst C dX10_move_92 ?_
    exact e_iret C Y hk hn dX10_move_93 H
set_option maxRecDepth 4000 in
theorem B_X10_laysPositions_0 {g : Gs} {ad : Nat → Nat} {X : Cx} {mc ms k n : Nat} {PQ : Option Value → Mem → Prop} {PX : String → Mem → Prop} {M : Mem} {x1 : Int} (r1 : R32 x1) (hk : k ≤ mc) (hn : n ≤ ms) (C : OkB (wM g ad) X cX10_laysPositions RX10 5 3 mc ms) (Y : OkR (wM g ad) X none mc ms PQ PX) (H : E (wM g ad) X k n M 2 [(0, .ref (ad 0)), (1, vI x1), (2, vI 0)] []) : E (wM g ad) X k n M 0 [(0, .ref (ad 0)), (1, vI x1)] [] := by
  refine e_wf (fun hw0 => ?_)
  refine e_iconst C dX10_laysPositions_0 ?_
  refine e_istore_n C dX10_laysPositions_1 (by decide) rfl ?_
  exact e_sub [1, 2, 0] rfl H
set_option maxRecDepth 4000 in
theorem B_X10_laysPositions_2 {g : Gs} {ad : Nat → Nat} {X : Cx} {mc ms k n : Nat} {PQ : Option Value → Mem → Prop} {PX : String → Mem → Prop} {M : Mem} {x1 x2 : Int} (r1 : R32 x1) (r2 : R32 x2) (hk : k ≤ mc) (hn : n ≤ ms) (C : OkB (wM g ad) X cX10_laysPositions RX10 5 3 mc ms) (Y : OkR (wM g ad) X none mc ms PQ PX) (H : (((40 ≤ x2) → (0 ≤ x1 ∧ x1 < 4) ∧ E (wM g ad) X k n (up M 39 x1 0) 49 [(0, .ref (ad 0)), (1, vI x1), (2, vI (M 38 x1))] []) ∧ ((x2 < 40) → (0 ≤ x1 ∧ x1 < 4) ∧ (((x2 ≠ (M 38 x1)) → ((0 ≤ x2 ∧ x2 < 40) ∧ (R32 (x2 + 1))) ∧ E (wM g ad) X k n (up M 36 x2 0) 2 [(0, .ref (ad 0)), (1, vI x1), (2, vI (x2 + 1))] []) ∧ ((x2 = (M 38 x1)) → ((0 ≤ x2 ∧ x2 < 40) ∧ (R32 (x2 + 1))) ∧ E (wM g ad) X k n (up M 36 x2 1) 2 [(0, .ref (ad 0)), (1, vI x1), (2, vI (x2 + 1))] []))))) : E (wM g ad) X k n M 2 [(0, .ref (ad 0)), (1, vI x1), (2, vI x2)] [] := by
  refine e_wf (fun hw0 => ?_)
  refine e_iload_n C 2 dX10_laysPositions_2 rfl ?_
  refine e_bipush C dX10_laysPositions_3 (by decide) ?_
  refine e_icmp_ge C 35 r2 (by decide) dX10_laysPositions_5 (by decide) (fun c9 => ?_) (fun c9 => ?_)
  · replace H := H.1 c9
    refine e_aload_n C 0 dX10_laysPositions_35 rfl ?_
    refine gM_39 C dX10_laysPositions_36 ?_
    refine e_iload_n C 1 dX10_laysPositions_39 rfl ?_
    refine e_iconst C dX10_laysPositions_40 ?_
    obtain ⟨o1, H⟩ := H
    refine sM_39 C o1 (by decide) dX10_laysPositions_41 ?_
    refine e_wf (fun hw2 => ?_)
    refine e_aload_n C 0 dX10_laysPositions_42 rfl ?_
    refine gM_38 C dX10_laysPositions_43 ?_
    refine e_iload_n C 1 dX10_laysPositions_46 rfl ?_
    refine aM_38 C o1 dX10_laysPositions_47 ?_
    refine e_istore_n C dX10_laysPositions_48 (by decide) rfl ?_
    exact e_sub [1, 2, 0] rfl H
  · replace H := H.2 c9
    refine e_aload_n C 0 dX10_laysPositions_8 rfl ?_
    refine gM_36 C dX10_laysPositions_9 ?_
    refine e_iload_n C 2 dX10_laysPositions_12 rfl ?_
    refine e_iload_n C 2 dX10_laysPositions_13 rfl ?_
    refine e_aload_n C 0 dX10_laysPositions_14 rfl ?_
    refine gM_38 C dX10_laysPositions_15 ?_
    refine e_iload_n C 1 dX10_laysPositions_18 rfl ?_
    obtain ⟨o3, H⟩ := H
    refine aM_38 C o3 dX10_laysPositions_19 ?_
    refine e_icmp_ne C 27 r2 (hw0.2.1 38 _ (by decide)) dX10_laysPositions_20 (by decide) (fun c9 => ?_) (fun c9 => ?_)
    · replace H := H.1 c9
      refine e_iconst C dX10_laysPositions_27 ?_
      obtain ⟨⟨o4, o6⟩, H⟩ := H
      refine sM_36 C o4 (by decide) dX10_laysPositions_28 ?_
      refine e_wf (fun hw5 => ?_)
      refine e_iinc C 2 dX10_laysPositions_29 rfl (by decide) rfl ?_
      refine e_goto C 2 dX10_laysPositions_32 (by decide) ?_
      exact e_sub [1, 2, 0] rfl H
    · replace H := H.2 c9
      refine e_iconst C dX10_laysPositions_23 ?_
      refine e_goto C 28 dX10_laysPositions_24 (by decide) ?_
      obtain ⟨⟨o7, o9⟩, H⟩ := H
      refine sM_36 C o7 (by decide) dX10_laysPositions_28 ?_
      refine e_wf (fun hw8 => ?_)
      refine e_iinc C 2 dX10_laysPositions_29 rfl (by decide) rfl ?_
      refine e_goto C 2 dX10_laysPositions_32 (by decide) ?_
      exact e_sub [1, 2, 0] rfl H
set_option maxRecDepth 4000 in
theorem B_X10_laysPositions_49 {g : Gs} {ad : Nat → Nat} {X : Cx} {mc ms k n : Nat} {PQ : Option Value → Mem → Prop} {PX : String → Mem → Prop} {M : Mem} {x1 x2 : Int} (r1 : R32 x1) (r2 : R32 x2) (hk : k ≤ mc) (hn : n ≤ ms) (C : OkB (wM g ad) X cX10_laysPositions RX10 5 3 mc ms) (Y : OkR (wM g ad) X none mc ms PQ PX) (H : (((x2 < 0) → E (wM g ad) X k n M 126 [(0, .ref (ad 0)), (1, vI x1), (2, vI 0)] []) ∧ ((0 ≤ x2) → E (wM g ad) X k n M 55 [(0, .ref (ad 0)), (1, vI x1), (2, vI x2), (3, vI 0)] []))) : E (wM g ad) X k n M 49 [(0, .ref (ad 0)), (1, vI x1), (2, vI x2)] [] := by
  refine e_wf (fun hw0 => ?_)
  refine e_iload_n C 2 dX10_laysPositions_49 rfl ?_
  refine e_if_lt C 124 r2 dX10_laysPositions_50 (by decide) (fun c9 => ?_) (fun c9 => ?_)
  · replace H := H.1 c9
    refine e_iconst C dX10_laysPositions_124 ?_
    refine e_istore_n C dX10_laysPositions_125 (by decide) rfl ?_
    exact e_sub [1, 2, 0] rfl H
  · replace H := H.2 c9
    refine e_iconst C dX10_laysPositions_53 ?_
    refine e_istore_n C dX10_laysPositions_54 (by decide) rfl ?_
    exact e_sub [1, 2, 3, 0] rfl H
set_option maxRecDepth 4000 in
theorem B_X10_laysPositions_55 {g : Gs} {ad : Nat → Nat} {X : Cx} {mc ms k n : Nat} {PQ : Option Value → Mem → Prop} {PX : String → Mem → Prop} {M : Mem} {x1 x2 x3 : Int} (r1 : R32 x1) (r2 : R32 x2) (r3 : R32 x3) (hk : k ≤ mc) (hn : n ≤ ms) (C : OkB (wM g ad) X cX10_laysPositions RX10 5 3 mc ms) (Y : OkR (wM g ad) X none mc ms PQ PX) (H : (((2 ≤ x3) → (R32 (x2 + (-1))) ∧ E (wM g ad) X k n M 49 [(0, .ref (ad 0)), (1, vI x1), (2, vI (x2 + (-1)))] []) ∧ ((x3 < 2) → (0 ≤ x2 ∧ x2 < 40) ∧ ((((M 36 x2) = 0) → (R32 (x2 + (-1))) ∧ E (wM g ad) X k n M 49 [(0, .ref (ad 0)), (1, vI x1), (2, vI (x2 + (-1)))] []) ∧ (((M 36 x2) ≠ 0) → ((((M 6 x2) ≠ 0) → (R32 (x2 + (-1))) ∧ E (wM g ad) X k n M 49 [(0, .ref (ad 0)), (1, vI x1), (2, vI (x2 + (-1)))] []) ∧ (((M 6 x2) = 0) → E (wM g ad) X k n M 81 [(0, .ref (ad 0)), (1, vI x1), (2, vI x2), (3, vI x3), (4, vI 0)] []))))))) : E (wM g ad) X k n M 55 [(0, .ref (ad 0)), (1, vI x1), (2, vI x2), (3, vI x3)] [] := by
  refine e_wf (fun hw0 => ?_)
  refine e_iload_n C 3 dX10_laysPositions_55 rfl ?_
  refine e_iconst C dX10_laysPositions_56 ?_
  refine e_icmp_ge C 118 r3 (by decide) dX10_laysPositions_57 (by decide) (fun c9 => ?_) (fun c9 => ?_)
  · replace H := H.1 c9
    obtain ⟨o1, H⟩ := H
    refine e_iinc C 2 dX10_laysPositions_118 rfl (by decide) rfl ?_
    refine e_goto C 49 dX10_laysPositions_121 (by decide) ?_
    exact e_sub [1, 2, 0] rfl H
  · replace H := H.2 c9
    refine e_aload_n C 0 dX10_laysPositions_60 rfl ?_
    refine gM_36 C dX10_laysPositions_61 ?_
    refine e_iload_n C 2 dX10_laysPositions_64 rfl ?_
    obtain ⟨o2, H⟩ := H
    refine aM_36 C o2 dX10_laysPositions_65 ?_
    refine e_if_eq C 118 (hw0.2.1 36 _ (by decide)) dX10_laysPositions_66 (by decide) (fun c9 => ?_) (fun c9 => ?_)
    · replace H := H.1 c9
      obtain ⟨o3, H⟩ := H
      refine e_iinc C 2 dX10_laysPositions_118 rfl (by decide) rfl ?_
      refine e_goto C 49 dX10_laysPositions_121 (by decide) ?_
      exact e_sub [1, 2, 0] rfl H
    · replace H := H.2 c9
      refine e_aload_n C 0 dX10_laysPositions_69 rfl ?_
      refine gM_6 C dX10_laysPositions_70 ?_
      refine e_iload_n C 2 dX10_laysPositions_73 rfl ?_
      refine aM_6 C o2 dX10_laysPositions_74 ?_
      refine e_if_ne C 118 (hw0.2.1 6 _ (by decide)) dX10_laysPositions_75 (by decide) (fun c9 => ?_) (fun c9 => ?_)
      · replace H := H.1 c9
        obtain ⟨o4, H⟩ := H
        refine e_iinc C 2 dX10_laysPositions_118 rfl (by decide) rfl ?_
        refine e_goto C 49 dX10_laysPositions_121 (by decide) ?_
        exact e_sub [1, 2, 0] rfl H
      · replace H := H.2 c9
        refine e_iconst C dX10_laysPositions_78 ?_
        refine e_istore C dX10_laysPositions_79 (by decide) rfl ?_
        exact e_sub [1, 2, 3, 4, 0] rfl H
set_option maxRecDepth 4000 in
theorem B_X10_laysPositions_81 {g : Gs} {ad : Nat → Nat} {X : Cx} {mc ms k n : Nat} {PQ : Option Value → Mem → Prop} {PX : String → Mem → Prop} {M : Mem} {x1 x2 x3 x4 : Int} (r1 : R32 x1) (r2 : R32 x2) (r3 : R32 x3) (r4 : R32 x4) (hk : k ≤ mc) (hn : n ≤ ms) (C : OkB (wM g ad) X cX10_laysPositions RX10 5 3 mc ms) (Y : OkR (wM g ad) X none mc ms PQ PX) (H : ((0 ≤ x2 ∧ x2 < 40) ∧ 0 ≤ x3 ∧ x3 ≤ 1) ∧ ((((M 3 (2 * x2 + x3)) ≤ x4) → (R32 (x3 + 1)) ∧ E (wM g ad) X k n M 55 [(0, .ref (ad 0)), (1, vI x1), (2, vI x2), (3, vI (x3 + 1))] []) ∧ ((x4 < (M 3 (2 * x2 + x3))) → (((0 ≤ x2 ∧ x2 < 40) ∧ (0 ≤ x3 ∧ x3 ≤ 1) ∧ 0 ≤ x4 ∧ x4 < 4) ∧ (0 ≤ M 4 (8 * x2 + 4 * x3 + x4) ∧ M 4 (8 * x2 + 4 * x3 + x4) < 40) ∧ (R32 (x4 + 1))) ∧ E (wM g ad) X k n (up M 36 (M 4 (8 * x2 + 4 * x3 + x4)) 1) 81 [(0, .ref (ad 0)), (1, vI x1), (2, vI x2), (3, vI x3), (4, vI (x4 + 1))] []))) : E (wM g ad) X k n M 81 [(0, .ref (ad 0)), (1, vI x1), (2, vI x2), (3, vI x3), (4, vI x4)] [] := by
  refine e_wf (fun hw0 => ?_)
  refine e_iload C 4 dX10_laysPositions_81 rfl ?_
  refine e_aload_n C 0 dX10_laysPositions_83 rfl ?_
  refine e_iload_n C 2 dX10_laysPositions_84 rfl ?_
  refine e_iload_n C 3 dX10_laysPositions_85 rfl ?_
  obtain ⟨o1, H⟩ := H
  refine e_callVD (As := [vI x2, vI x3]) (rest := [vI x4]) (q0 := 0) (ci := 10) C Y mi_X10_optionsOf ms_X10_optionsOf mv_X10_optionsOf ml_X10_164 (s_X10_optionsOf r2 r3 o1) rfl rfl (by decide) (Nat.le_of_ble_eq_true rfl) hk hn dX10_laysPositions_86 rfl ?_
  refine e_icmp_ge C 112 r4 (hw0.2.1 3 _ (by decide)) dX10_laysPositions_89 (by decide) (fun c9 => ?_) (fun c9 => ?_)
  · replace H := H.1 c9
    obtain ⟨o2, H⟩ := H
    refine e_iinc C 3 dX10_laysPositions_112 rfl (by decide) rfl ?_
    refine e_goto C 55 dX10_laysPositions_115 (by decide) ?_
    exact e_sub [1, 2, 3, 0] rfl H
  · replace H := H.2 c9
    refine e_aload_n C 0 dX10_laysPositions_92 rfl ?_
    refine gM_36 C dX10_laysPositions_93 ?_
    refine e_aload_n C 0 dX10_laysPositions_96 rfl ?_
    refine e_iload_n C 2 dX10_laysPositions_97 rfl ?_
    refine e_iload_n C 3 dX10_laysPositions_98 rfl ?_
    refine e_iload C 4 dX10_laysPositions_99 rfl ?_
    obtain ⟨⟨o3, o4, o6⟩, H⟩ := H
    refine e_callVD (As := [vI x2, vI x3, vI x4]) (rest := [.ref (ad 25)]) (q0 := 0) (ci := 10) C Y mi_X10_optionOf ms_X10_optionOf mv_X10_optionOf ml_X10_167 (s_X10_optionOf r2 r3 r4 o3) rfl rfl (by decide) (Nat.le_of_ble_eq_true rfl) hk hn dX10_laysPositions_101 rfl ?_
    refine e_iconst C dX10_laysPositions_104 ?_
    refine sM_36 C o4 (by decide) dX10_laysPositions_105 ?_
    refine e_wf (fun hw5 => ?_)
    refine e_iinc C 4 dX10_laysPositions_106 rfl (by decide) rfl ?_
    refine e_goto C 81 dX10_laysPositions_109 (by decide) ?_
    exact e_sub [1, 2, 3, 4, 0] rfl H
set_option maxRecDepth 4000 in
theorem B_X10_laysPositions_126 {g : Gs} {ad : Nat → Nat} {X : Cx} {mc ms k n : Nat} {PQ : Option Value → Mem → Prop} {PX : String → Mem → Prop} {M : Mem} {x1 x2 : Int} (r1 : R32 x1) (r2 : R32 x2) (hk : k ≤ mc) (hn : n ≤ ms) (C : OkB (wM g ad) X cX10_laysPositions RX10 5 3 mc ms) (Y : OkR (wM g ad) X none mc ms PQ PX) (H : (0 ≤ x1 ∧ x1 < 4) ∧ ((((M 38 x1) < x2) → PQ none M) ∧ ((x2 ≤ (M 38 x1)) → (0 ≤ x2 ∧ x2 < 40) ∧ ((((M 36 x2) = 0) → (R32 (x2 + 1)) ∧ E (wM g ad) X k n M 126 [(0, .ref (ad 0)), (1, vI x1), (2, vI (x2 + 1))] []) ∧ (((M 36 x2) ≠ 0) → ((R32 (40 * x1)) ∧ (R32 ((40 * x1) + x2)) ∧ (0 ≤ (40 * x1) + x2 ∧ (40 * x1) + x2 < 160) ∧ (R32 ((40 * x1) + (M 39 x1))) ∧ (0 ≤ (40 * x1) + (M 39 x1) ∧ (40 * x1) + (M 39 x1) < 160) ∧ (R32 ((M 39 x1) + 1)) ∧ (R32 (x2 + 1))) ∧ E (wM g ad) X k n (up (up (up M 41 ((40 * x1) + x2) (M 39 x1)) 40 ((40 * x1) + (M 39 x1)) x2) 39 x1 ((M 39 x1) + 1)) 126 [(0, .ref (ad 0)), (1, vI x1), (2, vI (x2 + 1))] []))))) : E (wM g ad) X k n M 126 [(0, .ref (ad 0)), (1, vI x1), (2, vI x2)] [] := by
  refine e_wf (fun hw0 => ?_)
  refine e_iload_n C 2 dX10_laysPositions_126 rfl ?_
  refine e_aload_n C 0 dX10_laysPositions_127 rfl ?_
  refine gM_38 C dX10_laysPositions_128 ?_
  refine e_iload_n C 1 dX10_laysPositions_131 rfl ?_
  obtain ⟨o1, H⟩ := H
  refine aM_38 C o1 dX10_laysPositions_132 ?_
  refine e_icmp_gt C 195 r2 (hw0.2.1 38 _ (by decide)) dX10_laysPositions_133 (by decide) (fun c9 => ?_) (fun c9 => ?_)
  · replace H := H.1 c9
    exact e_vret C Y hk hn dX10_laysPositions_195 H
  · replace H := H.2 c9
    refine e_aload_n C 0 dX10_laysPositions_136 rfl ?_
    refine gM_36 C dX10_laysPositions_137 ?_
    refine e_iload_n C 2 dX10_laysPositions_140 rfl ?_
    obtain ⟨o2, H⟩ := H
    refine aM_36 C o2 dX10_laysPositions_141 ?_
    refine e_if_eq C 189 (hw0.2.1 36 _ (by decide)) dX10_laysPositions_142 (by decide) (fun c9 => ?_) (fun c9 => ?_)
    · replace H := H.1 c9
      obtain ⟨o3, H⟩ := H
      refine e_iinc C 2 dX10_laysPositions_189 rfl (by decide) rfl ?_
      refine e_goto C 126 dX10_laysPositions_192 (by decide) ?_
      exact e_sub [1, 2, 0] rfl H
    · replace H := H.2 c9
      refine e_aload_n C 0 dX10_laysPositions_145 rfl ?_
      refine gM_41 C dX10_laysPositions_146 ?_
      refine e_bipush C dX10_laysPositions_149 (by decide) ?_
      refine e_iload_n C 1 dX10_laysPositions_151 rfl ?_
      obtain ⟨⟨o4, o5, o6, o8, o9, o11, o13⟩, H⟩ := H
      refine e_imul C dX10_laysPositions_152 ?_
      refine e_iload_n C 2 dX10_laysPositions_153 rfl ?_
      refine e_iadd C dX10_laysPositions_154 ?_
      refine e_aload_n C 0 dX10_laysPositions_155 rfl ?_
      refine gM_39 C dX10_laysPositions_156 ?_
      refine e_iload_n C 1 dX10_laysPositions_159 rfl ?_
      refine aM_39 C o1 dX10_laysPositions_160 ?_
      refine sM_41 C o6 (hw0.2.1 39 _ (by decide)) dX10_laysPositions_161 ?_
      refine e_wf (fun hw7 => ?_)
      refine e_aload_n C 0 dX10_laysPositions_162 rfl ?_
      refine gM_40 C dX10_laysPositions_163 ?_
      refine e_bipush C dX10_laysPositions_166 (by decide) ?_
      refine e_iload_n C 1 dX10_laysPositions_168 rfl ?_
      refine e_imul C dX10_laysPositions_169 ?_
      refine e_aload_n C 0 dX10_laysPositions_170 rfl ?_
      refine gM_39 C dX10_laysPositions_171 ?_
      refine e_iload_n C 1 dX10_laysPositions_174 rfl ?_
      refine aM_39 C o1 dX10_laysPositions_175 ?_
      refine e_iadd C dX10_laysPositions_176 ?_
      refine e_iload_n C 2 dX10_laysPositions_177 rfl ?_
      refine sM_40 C o9 r2 dX10_laysPositions_178 ?_
      refine e_wf (fun hw10 => ?_)
      refine e_aload_n C 0 dX10_laysPositions_179 rfl ?_
      refine gM_39 C dX10_laysPositions_180 ?_
      refine e_iload_n C 1 dX10_laysPositions_183 rfl ?_
      refine e_dup2 C rfl rfl dX10_laysPositions_184 ?_
      refine aM_39 C o1 dX10_laysPositions_185 ?_
      refine e_iconst C dX10_laysPositions_186 ?_
      refine e_iadd C dX10_laysPositions_187 ?_
      refine sM_39 C o1 o11 dX10_laysPositions_188 ?_
      refine e_wf (fun hw12 => ?_)
      refine e_iinc C 2 dX10_laysPositions_189 rfl (by decide) rfl ?_
      refine e_goto C 126 dX10_laysPositions_192 (by decide) ?_
      exact e_sub [1, 2, 0] rfl H
set_option maxRecDepth 4000 in
theorem B_X10_scoreOf_0 {g : Gs} {ad : Nat → Nat} {X : Cx} {mc ms k n : Nat} {PQ : Option Value → Mem → Prop} {PX : String → Mem → Prop} {M : Mem} {x1 x2 : Int} (r1 : R32 x1) (r2 : R32 x2) (hk : k ≤ mc) (hn : n ≤ ms) (C : OkB (wM g ad) X cX10_scoreOf RX10 11 3 mc ms) (Y : OkR (wM g ad) X (some .int) mc ms PQ PX) (H : (((x2 ≠ 0) → E (wM g ad) X k n M 21 [(0, .ref (ad 0)), (1, vI x1), (2, vI x2), (3, vI 1), (4, vI 0), (5, vI 1000000), (6, vI 0)] []) ∧ ((x2 = 0) → E (wM g ad) X k n M 21 [(0, .ref (ad 0)), (1, vI x1), (2, vI x2), (3, vI 1), (4, vI 0), (5, vI (-1000000)), (6, vI 0)] []))) : E (wM g ad) X k n M 0 [(0, .ref (ad 0)), (1, vI x1), (2, vI x2)] [] := by
  refine e_wf (fun hw0 => ?_)
  refine e_iconst C dX10_scoreOf_0 ?_
  refine e_istore_n C dX10_scoreOf_1 (by decide) rfl ?_
  refine e_iconst C dX10_scoreOf_2 ?_
  refine e_istore C dX10_scoreOf_3 (by decide) rfl ?_
  refine e_iload_n C 4 dX10_scoreOf_5 rfl ?_
  refine e_if_ne C 14 r2 dX10_scoreOf_6 (by decide) (fun c9 => ?_) (fun c9 => ?_)
  · replace H := H.1 c9
    refine e_ldc C (v := 1000000) (tg5 181 rfl rfl) (by decide) dX10_scoreOf_14 ?_
    refine e_istore C dX10_scoreOf_16 (by decide) rfl ?_
    refine e_iconst C dX10_scoreOf_18 ?_
    refine e_istore C dX10_scoreOf_19 (by decide) rfl ?_
    exact e_sub [4, 5, 6, 3, 2, 1, 0] rfl H
  · replace H := H.2 c9
    refine e_ldc C (v := (-1000000)) (tg5 180 rfl rfl) (by decide) dX10_scoreOf_9 ?_
    refine e_goto C 16 dX10_scoreOf_11 (by decide) ?_
    refine e_istore C dX10_scoreOf_16 (by decide) rfl ?_
    refine e_iconst C dX10_scoreOf_18 ?_
    refine e_istore C dX10_scoreOf_19 (by decide) rfl ?_
    exact e_sub [4, 5, 6, 3, 2, 1, 0] rfl H
set_option maxRecDepth 4000 in
theorem B_X10_scoreOf_21 {g : Gs} {ad : Nat → Nat} {X : Cx} {mc ms k n : Nat} {PQ : Option Value → Mem → Prop} {PX : String → Mem → Prop} {M : Mem} {x1 x2 x3 x4 x5 x6 : Int} (r1 : R32 x1) (r2 : R32 x2) (r3 : R32 x3) (r4 : R32 x4) (r5 : R32 x5) (r6 : R32 x6) (hk : k ≤ mc) (hn : n ≤ ms) (C : OkB (wM g ad) X cX10_scoreOf RX10 11 3 mc ms) (Y : OkR (wM g ad) X (some .int) mc ms PQ PX) (H : ((((M 16 0) ≤ x6) → (((x3 = 0) → PQ (some (vI x5)) M) ∧ ((x3 ≠ 0) → PQ (some (vI x4)) M))) ∧ ((x6 < (M 16 0)) → ∃ Q3 : Int → Mem → Prop, SpI (wM g ad) yX10_gameAt cX10_gameAt 3 (some .int) 2 [.ref (ad 0), vI x1, vI x6] M Q3 ∧ ∀ (z4 : Int) (M2 : Mem), Q3 z4 M2 → R32 z4 ∧ (0 ≤ z4 ∧ z4 < 40) ∧ ((((M2 6 z4) = 0) → E (wM g ad) X k n M2 69 [(0, .ref (ad 0)), (1, vI x1), (2, vI x2), (3, vI 0), (4, vI x4), (5, vI x5), (6, vI x6), (7, vI z4), (8, vI 0)] []) ∧ (((M2 6 z4) ≠ 0) → ((R32 (x4 + (M2 7 z4))) ∧ (R32 (x6 + 1))) ∧ E (wM g ad) X k n M2 21 [(0, .ref (ad 0)), (1, vI x1), (2, vI x2), (3, vI x3), (4, vI (x4 + (M2 7 z4))), (5, vI x5), (6, vI (x6 + 1))] []))))) : E (wM g ad) X k n M 21 [(0, .ref (ad 0)), (1, vI x1), (2, vI x2), (3, vI x3), (4, vI x4), (5, vI x5), (6, vI x6)] [] := by
  refine e_wf (fun hw0 => ?_)
  refine e_iload C 6 dX10_scoreOf_21 rfl ?_
  refine e_aload_n C 0 dX10_scoreOf_23 rfl ?_
  refine gM_16 C dX10_scoreOf_24 ?_
  refine e_icmp_ge C 190 r6 (hw0.2.1 16 _ (by decide)) dX10_scoreOf_27 (by decide) (fun c9 => ?_) (fun c9 => ?_)
  · replace H := H.1 c9
    refine e_iload_n C 3 dX10_scoreOf_190 rfl ?_
    refine e_if_eq C 199 r3 dX10_scoreOf_191 (by decide) (fun c9 => ?_) (fun c9 => ?_)
    · replace H := H.1 c9
      refine e_iload C 5 dX10_scoreOf_199 rfl ?_
      exact e_iret C Y hk hn dX10_scoreOf_201 H
    · replace H := H.2 c9
      refine e_iload C 4 dX10_scoreOf_194 rfl ?_
      refine e_goto C 201 dX10_scoreOf_196 (by decide) ?_
      exact e_iret C Y hk hn dX10_scoreOf_201 H
  · replace H := H.2 c9
    refine e_aload_n C 0 dX10_scoreOf_30 rfl ?_
    refine e_iload_n C 1 dX10_scoreOf_31 rfl ?_
    refine e_iload C 6 dX10_scoreOf_32 rfl ?_
    obtain ⟨Q3, h1, H⟩ := H
    refine e_callVI (As := [vI x1, vI x6]) (rest := []) (q0 := 0) (ci := 10) C Y mi_X10_gameAt ms_X10_gameAt mv_X10_gameAt ml_X10_270 h1 rfl rfl (by decide) (Nat.le_of_ble_eq_true rfl) hk hn dX10_scoreOf_34 rfl (fun z4 M2 hq9 => ?_)
    obtain ⟨o5, H⟩ := H z4 M2 hq9
    refine e_wf (fun hw6 => ?_)
    refine e_istore C dX10_scoreOf_37 (by decide) rfl ?_
    refine e_aload_n C 1 dX10_scoreOf_39 rfl ?_
    refine gM_6 C dX10_scoreOf_40 ?_
    refine e_iload C 0 dX10_scoreOf_43 rfl ?_
    obtain ⟨o7, H⟩ := H
    refine aM_6 C o7 dX10_scoreOf_45 ?_
    refine e_if_eq C 64 (hw6.2.1 6 _ (by decide)) dX10_scoreOf_46 (by decide) (fun c9 => ?_) (fun c9 => ?_)
    · replace H := H.1 c9
      refine e_iconst C dX10_scoreOf_64 ?_
      refine e_istore_n C dX10_scoreOf_65 (by decide) rfl ?_
      refine e_iconst C dX10_scoreOf_66 ?_
      refine e_istore C dX10_scoreOf_67 (by decide) rfl ?_
      exact e_sub [3, 4, 5, 1, 6, 7, 8, 2, 0] rfl H
    · replace H := H.2 c9
      refine e_iload C 5 dX10_scoreOf_49 rfl ?_
      refine e_aload_n C 1 dX10_scoreOf_51 rfl ?_
      refine gM_7 C dX10_scoreOf_52 ?_
      refine e_iload C 0 dX10_scoreOf_55 rfl ?_
      refine aM_7 C o7 dX10_scoreOf_57 ?_
      obtain ⟨⟨o8, o9⟩, H⟩ := H
      refine e_iadd C dX10_scoreOf_58 ?_
      refine e_istore C dX10_scoreOf_59 (by decide) rfl ?_
      refine e_goto C 184 dX10_scoreOf_61 (by decide) ?_
      refine e_iinc C 7 dX10_scoreOf_184 rfl (by decide) rfl ?_
      refine e_goto C 21 dX10_scoreOf_187 (by decide) ?_
      exact e_sub [3, 4, 5, 6, 1, 7, 0] rfl H
set_option maxRecDepth 4000 in
theorem B_X10_scoreOf_69 {g : Gs} {ad : Nat → Nat} {X : Cx} {mc ms k n : Nat} {PQ : Option Value → Mem → Prop} {PX : String → Mem → Prop} {M : Mem} {x1 x2 x3 x4 x5 x6 x7 x8 : Int} (r1 : R32 x1) (r2 : R32 x2) (r3 : R32 x3) (r4 : R32 x4) (r5 : R32 x5) (r6 : R32 x6) (r7 : R32 x7) (r8 : R32 x8) (hk : k ≤ mc) (hn : n ≤ ms) (C : OkB (wM g ad) X cX10_scoreOf RX10 11 3 mc ms) (Y : OkR (wM g ad) X (some .int) mc ms PQ PX) (H : ((0 ≤ x7 ∧ x7 < 40) ∧ 0 ≤ x2 ∧ x2 ≤ 1) ∧ ((((M 3 (2 * x7 + x2)) ≤ x8) → (R32 (x6 + 1)) ∧ E (wM g ad) X k n M 21 [(0, .ref (ad 0)), (1, vI x1), (2, vI x2), (3, vI x3), (4, vI x4), (5, vI x5), (6, vI (x6 + 1))] []) ∧ ((x8 < (M 3 (2 * x7 + x2))) → ∃ Q5 : Int → Mem → Prop, SpI (wM g ad) yX10_weight cX10_weight 4 (some .int) 1 [.ref (ad 0), vI x6] M Q5 ∧ ∀ (z6 : Int) (M4 : Mem), Q5 z6 M4 → R32 z6 ∧ ((R32 (40 * x6)) ∧ ((0 ≤ x7 ∧ x7 < 40) ∧ (0 ≤ x2 ∧ x2 ≤ 1) ∧ 0 ≤ x8 ∧ x8 < 4) ∧ (R32 ((40 * x6) + (M4 4 (8 * x7 + 4 * x2 + x8)))) ∧ (0 ≤ (40 * x6) + (M4 4 (8 * x7 + 4 * x2 + x8)) ∧ (40 * x6) + (M4 4 (8 * x7 + 4 * x2 + x8)) < 160) ∧ (R32 ((40 * x6) + x7)) ∧ (0 ≤ (40 * x6) + x7 ∧ (40 * x6) + x7 < 160) ∧ (R32 ((M4 41 ((40 * x6) + (M4 4 (8 * x7 + 4 * x2 + x8)))) - (M4 41 ((40 * x6) + x7)))) ∧ (R32 (z6 * ((M4 41 ((40 * x6) + (M4 4 (8 * x7 + 4 * x2 + x8)))) - (M4 41 ((40 * x6) + x7))))) ∧ (R32 (x1 + (z6 * ((M4 41 ((40 * x6) + (M4 4 (8 * x7 + 4 * x2 + x8)))) - (M4 41 ((40 * x6) + x7)))))) ∧ (R32 (2 * (x1 + (z6 * ((M4 41 ((40 * x6) + (M4 4 (8 * x7 + 4 * x2 + x8)))) - (M4 41 ((40 * x6) + x7))))))) ∧ (R32 ((2 * (x1 + (z6 * ((M4 41 ((40 * x6) + (M4 4 (8 * x7 + 4 * x2 + x8)))) - (M4 41 ((40 * x6) + x7)))))) + 1)) ∧ (R32 (((2 * (x1 + (z6 * ((M4 41 ((40 * x6) + (M4 4 (8 * x7 + 4 * x2 + x8)))) - (M4 41 ((40 * x6) + x7)))))) + 1) - x2)) ∧ (0 ≤ ((2 * (x1 + (z6 * ((M4 41 ((40 * x6) + (M4 4 (8 * x7 + 4 * x2 + x8)))) - (M4 41 ((40 * x6) + x7)))))) + 1) - x2 ∧ ((2 * (x1 + (z6 * ((M4 41 ((40 * x6) + (M4 4 (8 * x7 + 4 * x2 + x8)))) - (M4 41 ((40 * x6) + x7)))))) + 1) - x2 < 8000)) ∧ (((x2 ≠ 0) → (((x5 ≤ (M4 42 (((2 * (x1 + (z6 * ((M4 41 ((40 * x6) + (M4 4 (8 * x7 + 4 * x2 + x8)))) - (M4 41 ((40 * x6) + x7)))))) + 1) - x2))) → (R32 (x8 + 1)) ∧ E (wM g ad) X k n M4 69 [(0, .ref (ad 0)), (1, vI x1), (2, vI x2), (3, vI x3), (4, vI x4), (5, vI x5), (6, vI x6), (7, vI x7), (8, vI (x8 + 1))] []) ∧ (((M4 42 (((2 * (x1 + (z6 * ((M4 41 ((40 * x6) + (M4 4 (8 * x7 + 4 * x2 + x8)))) - (M4 41 ((40 * x6) + x7)))))) + 1) - x2)) < x5) → (R32 (x8 + 1)) ∧ E (wM g ad) X k n M4 69 [(0, .ref (ad 0)), (1, vI x1), (2, vI x2), (3, vI x3), (4, vI x4), (5, vI (M4 42 (((2 * (x1 + (z6 * ((M4 41 ((40 * x6) + (M4 4 (8 * x7 + 4 * x2 + x8)))) - (M4 41 ((40 * x6) + x7)))))) + 1) - x2))), (6, vI x6), (7, vI x7), (8, vI (x8 + 1))] []))) ∧ ((x2 = 0) → ((((M4 42 (((2 * (x1 + (z6 * ((M4 41 ((40 * x6) + (M4 4 (8 * x7 + 4 * x2 + x8)))) - (M4 41 ((40 * x6) + x7)))))) + 1) - x2)) ≤ x5) → (R32 (x8 + 1)) ∧ E (wM g ad) X k n M4 69 [(0, .ref (ad 0)), (1, vI x1), (2, vI x2), (3, vI x3), (4, vI x4), (5, vI x5), (6, vI x6), (7, vI x7), (8, vI (x8 + 1))] []) ∧ ((x5 < (M4 42 (((2 * (x1 + (z6 * ((M4 41 ((40 * x6) + (M4 4 (8 * x7 + 4 * x2 + x8)))) - (M4 41 ((40 * x6) + x7)))))) + 1) - x2))) → (R32 (x8 + 1)) ∧ E (wM g ad) X k n M4 69 [(0, .ref (ad 0)), (1, vI x1), (2, vI x2), (3, vI x3), (4, vI x4), (5, vI (M4 42 (((2 * (x1 + (z6 * ((M4 41 ((40 * x6) + (M4 4 (8 * x7 + 4 * x2 + x8)))) - (M4 41 ((40 * x6) + x7)))))) + 1) - x2))), (6, vI x6), (7, vI x7), (8, vI (x8 + 1))] []))))))) : E (wM g ad) X k n M 69 [(0, .ref (ad 0)), (1, vI x1), (2, vI x2), (3, vI x3), (4, vI x4), (5, vI x5), (6, vI x6), (7, vI x7), (8, vI x8)] [] := by
  refine e_wf (fun hw0 => ?_)
  refine e_iload C 8 dX10_scoreOf_69 rfl ?_
  refine e_aload_n C 0 dX10_scoreOf_71 rfl ?_
  refine e_iload C 7 dX10_scoreOf_72 rfl ?_
  refine e_iload_n C 2 dX10_scoreOf_74 rfl ?_
  obtain ⟨o1, H⟩ := H
  refine e_callVD (As := [vI x7, vI x2]) (rest := [vI x8]) (q0 := 0) (ci := 10) C Y mi_X10_optionsOf ms_X10_optionsOf mv_X10_optionsOf ml_X10_164 (s_X10_optionsOf r7 r2 o1) rfl rfl (by decide) (Nat.le_of_ble_eq_true rfl) hk hn dX10_scoreOf_75 rfl ?_
  refine e_icmp_ge C 184 r8 (hw0.2.1 3 _ (by decide)) dX10_scoreOf_78 (by decide) (fun c9 => ?_) (fun c9 => ?_)
  · replace H := H.1 c9
    obtain ⟨o2, H⟩ := H
    refine e_iinc C 6 dX10_scoreOf_184 rfl (by decide) rfl ?_
    refine e_goto C 21 dX10_scoreOf_187 (by decide) ?_
    exact e_sub [1, 2, 3, 4, 5, 6, 0] rfl H
  · replace H := H.2 c9
    refine e_iload_n C 1 dX10_scoreOf_81 rfl ?_
    refine e_aload_n C 0 dX10_scoreOf_82 rfl ?_
    refine e_iload C 6 dX10_scoreOf_83 rfl ?_
    obtain ⟨Q5, h3, H⟩ := H
    refine e_callVI (As := [vI x6]) (rest := [vI x1]) (q0 := 0) (ci := 10) C Y mi_X10_weight ms_X10_weight mv_X10_weight ml_X10_267 h3 rfl rfl (by decide) (Nat.le_of_ble_eq_true rfl) hk hn dX10_scoreOf_85 rfl (fun z6 M4 hq9 => ?_)
    obtain ⟨o7, H⟩ := H z6 M4 hq9
    refine e_wf (fun hw8 => ?_)
    refine e_aload_n C 0 dX10_scoreOf_88 rfl ?_
    refine gM_41 C dX10_scoreOf_89 ?_
    refine e_bipush C dX10_scoreOf_92 (by decide) ?_
    refine e_iload C 6 dX10_scoreOf_94 rfl ?_
    obtain ⟨⟨o9, o10, o11, o12, o13, o14, o15, o16, o17, o18, o19, o20, o21⟩, H⟩ := H
    refine e_imul C dX10_scoreOf_96 ?_
    refine e_aload_n C 0 dX10_scoreOf_97 rfl ?_
    refine e_iload C 7 dX10_scoreOf_98 rfl ?_
    refine e_iload_n C 2 dX10_scoreOf_100 rfl ?_
    refine e_iload C 8 dX10_scoreOf_101 rfl ?_
    refine e_callVD (As := [vI x7, vI x2, vI x8]) (rest := [vI (40 * x6), .ref (ad 30), vI z6, vI x1]) (q0 := 0) (ci := 10) C Y mi_X10_optionOf ms_X10_optionOf mv_X10_optionOf ml_X10_167 (s_X10_optionOf r7 r2 r8 o10) rfl rfl (by decide) (Nat.le_of_ble_eq_true rfl) hk hn dX10_scoreOf_103 rfl ?_
    refine e_iadd C dX10_scoreOf_106 ?_
    refine aM_41 C o12 dX10_scoreOf_107 ?_
    refine e_aload_n C 0 dX10_scoreOf_108 rfl ?_
    refine gM_41 C dX10_scoreOf_109 ?_
    refine e_bipush C dX10_scoreOf_112 (by decide) ?_
    refine e_iload C 6 dX10_scoreOf_114 rfl ?_
    refine e_imul C dX10_scoreOf_116 ?_
    refine e_iload C 7 dX10_scoreOf_117 rfl ?_
    refine e_iadd C dX10_scoreOf_119 ?_
    refine aM_41 C o14 dX10_scoreOf_120 ?_
    refine e_isub C dX10_scoreOf_121 ?_
    refine e_imul C dX10_scoreOf_122 ?_
    refine e_iadd C dX10_scoreOf_123 ?_
    refine e_istore C dX10_scoreOf_124 (by decide) rfl ?_
    refine e_aload_n C 1 dX10_scoreOf_126 rfl ?_
    refine gM_42 C dX10_scoreOf_127 ?_
    refine e_iconst C dX10_scoreOf_130 ?_
    refine e_iload C 0 dX10_scoreOf_131 rfl ?_
    refine e_imul C dX10_scoreOf_133 ?_
    refine e_iconst C dX10_scoreOf_134 ?_
    refine e_iadd C dX10_scoreOf_135 ?_
    refine e_iload_n C 3 dX10_scoreOf_136 rfl ?_
    refine e_isub C dX10_scoreOf_137 ?_
    refine aM_42 C o21 dX10_scoreOf_138 ?_
    refine e_istore C dX10_scoreOf_139 (by decide) rfl ?_
    refine e_iload_n C 4 dX10_scoreOf_141 rfl ?_
    refine e_if_ne C 162 r2 dX10_scoreOf_142 (by decide) (fun c9 => ?_) (fun c9 => ?_)
    · replace H := H.1 c9
      refine e_iload C 0 dX10_scoreOf_162 rfl ?_
      refine e_iload C 7 dX10_scoreOf_164 rfl ?_
      refine e_icmp_ge C 174 (hw8.2.1 42 _ (by decide)) r5 dX10_scoreOf_166 (by decide) (fun c9 => ?_) (fun c9 => ?_)
      · replace H := H.1 c9
        refine e_iload C 7 dX10_scoreOf_174 rfl ?_
        refine e_istore C dX10_scoreOf_176 (by decide) rfl ?_
        obtain ⟨o22, H⟩ := H
        refine e_iinc C 10 dX10_scoreOf_178 rfl (by decide) rfl ?_
        refine e_goto C 69 dX10_scoreOf_181 (by decide) ?_
        exact e_sub [4, 5, 6, 7, 8, 1, 9, 10, 0] rfl H
      · replace H := H.2 c9
        refine e_iload C 0 dX10_scoreOf_169 rfl ?_
        refine e_goto C 176 dX10_scoreOf_171 (by decide) ?_
        refine e_istore C dX10_scoreOf_176 (by decide) rfl ?_
        obtain ⟨o23, H⟩ := H
        refine e_iinc C 10 dX10_scoreOf_178 rfl (by decide) rfl ?_
        refine e_goto C 69 dX10_scoreOf_181 (by decide) ?_
        exact e_sub [4, 5, 6, 7, 8, 1, 9, 10, 0] rfl H
    · replace H := H.2 c9
      refine e_iload C 0 dX10_scoreOf_145 rfl ?_
      refine e_iload C 7 dX10_scoreOf_147 rfl ?_
      refine e_icmp_le C 157 (hw8.2.1 42 _ (by decide)) r5 dX10_scoreOf_149 (by decide) (fun c9 => ?_) (fun c9 => ?_)
      · replace H := H.1 c9
        refine e_iload C 7 dX10_scoreOf_157 rfl ?_
        refine e_goto C 176 dX10_scoreOf_159 (by decide) ?_
        refine e_istore C dX10_scoreOf_176 (by decide) rfl ?_
        obtain ⟨o24, H⟩ := H
        refine e_iinc C 10 dX10_scoreOf_178 rfl (by decide) rfl ?_
        refine e_goto C 69 dX10_scoreOf_181 (by decide) ?_
        exact e_sub [4, 5, 6, 7, 8, 1, 9, 10, 0] rfl H
      · replace H := H.2 c9
        refine e_iload C 0 dX10_scoreOf_152 rfl ?_
        refine e_goto C 176 dX10_scoreOf_154 (by decide) ?_
        refine e_istore C dX10_scoreOf_176 (by decide) rfl ?_
        obtain ⟨o25, H⟩ := H
        refine e_iinc C 10 dX10_scoreOf_178 rfl (by decide) rfl ?_
        refine e_goto C 69 dX10_scoreOf_181 (by decide) ?_
        exact e_sub [4, 5, 6, 7, 8, 1, 9, 10, 0] rfl H
set_option maxRecDepth 4000 in
theorem B_X10_worth_0 {g : Gs} {ad : Nat → Nat} {X : Cx} {mc ms k n : Nat} {PQ : Option Value → Mem → Prop} {PX : String → Mem → Prop} {M : Mem} {x1 x2 x3 x4 : Int} (r1 : R32 x1) (r2 : R32 x2) (r3 : R32 x3) (r4 : R32 x4) (hk : k ≤ mc) (hn : n ≤ ms) (C : OkB (wM g ad) X cX10_worth RX10 8 3 mc ms) (Y : OkR (wM g ad) X (some .int) mc ms PQ PX) (H : ((0 ≤ x3 ∧ x3 < 4) ∧ ((0 ≤ (M 38 x3) ∧ (M 38 x3) < 40) ∧ (0 ≤ x1 ∧ x1 ≤ 1) ∧ 0 ≤ x4 ∧ x4 < 4)) ∧ (((x1 ≠ 0) → E (wM g ad) X k n M 28 [(0, .ref (ad 0)), (1, vI x1), (2, vI x2), (3, vI x3), (5, vI (M 38 x3)), (6, vI (M 4 (8 * (M 38 x3) + 4 * x1 + x4)))] [vI (-1)]) ∧ ((x1 = 0) → E (wM g ad) X k n M 28 [(0, .ref (ad 0)), (1, vI x1), (2, vI x2), (3, vI x3), (5, vI (M 38 x3)), (6, vI (M 4 (8 * (M 38 x3) + 4 * x1 + x4)))] [vI 1]))) : E (wM g ad) X k n M 0 [(0, .ref (ad 0)), (1, vI x1), (2, vI x2), (3, vI x3), (4, vI x4)] [] := by
  refine e_wf (fun hw0 => ?_)
  refine e_aload_n C 0 dX10_worth_0 rfl ?_
  refine gM_38 C dX10_worth_1 ?_
  refine e_iload_n C 3 dX10_worth_4 rfl ?_
  obtain ⟨⟨o1, o2⟩, H⟩ := H
  refine aM_38 C o1 dX10_worth_5 ?_
  refine e_istore C dX10_worth_6 (by decide) rfl ?_
  refine e_aload_n C 1 dX10_worth_8 rfl ?_
  refine e_iload C 0 dX10_worth_9 rfl ?_
  refine e_iload_n C 2 dX10_worth_11 rfl ?_
  refine e_iload C 5 dX10_worth_12 rfl ?_
  refine e_callVD (As := [vI (M 38 x3), vI x1, vI x4]) (rest := []) (q0 := 0) (ci := 10) C Y mi_X10_optionOf ms_X10_optionOf mv_X10_optionOf ml_X10_167 (s_X10_optionOf (hw0.2.1 38 _ (by decide)) r1 r4 o2) rfl rfl (by decide) (Nat.le_of_ble_eq_true rfl) hk hn dX10_worth_14 rfl ?_
  refine e_istore C dX10_worth_17 (by decide) rfl ?_
  refine e_iload_n C 3 dX10_worth_19 rfl ?_
  refine e_if_ne C 27 r1 dX10_worth_20 (by decide) (fun c9 => ?_) (fun c9 => ?_)
  · replace H := H.1 c9
    refine e_iconst C dX10_worth_27 ?_
    exact e_sub [2, 3, 4, 5, 1, 0] rfl H
  · replace H := H.2 c9
    refine e_iconst C dX10_worth_23 ?_
    refine e_goto C 28 dX10_worth_24 (by decide) ?_
    exact e_sub [2, 3, 4, 5, 1, 0] rfl H
set_option maxRecDepth 4000 in
theorem B_X10_worth_28 {g : Gs} {ad : Nat → Nat} {X : Cx} {mc ms k n : Nat} {PQ : Option Value → Mem → Prop} {PX : String → Mem → Prop} {M : Mem} {x1 x2 x3 x5 x6 t0 : Int} (r1 : R32 x1) (r2 : R32 x2) (r3 : R32 x3) (r5 : R32 x5) (r6 : R32 x6) (q0 : R32 t0) (hk : k ≤ mc) (hn : n ≤ ms) (C : OkB (wM g ad) X cX10_worth RX10 8 3 mc ms) (Y : OkR (wM g ad) X (some .int) mc ms PQ PX) (H : (((x2 = 0) → PQ (some (vI 0)) M) ∧ ((x2 = 1) → ((R32 (1 - x1)) ∧ (0 ≤ x5 ∧ x5 < 40)) ∧ ∃ Q5 : Int → Mem → Prop, SpI (wM g ad) yX10_wallAt cX10_wallAt 5 (some .int) 2 [.ref (ad 0), vI x6, vI (1 - x1), vI (M 14 x5)] M Q5 ∧ ∀ (z6 : Int) (M4 : Mem), Q5 z6 M4 → R32 z6 ∧ (R32 (t0 * z6)) ∧ PQ (some (vI (t0 * z6))) M4) ∧ ((x2 = 2) → ((0 ≤ x6 ∧ x6 < 40) ∧ (0 ≤ x5 ∧ x5 < 40) ∧ (R32 ((M 13 x6) - (M 13 x5))) ∧ (R32 (t0 * ((M 13 x6) - (M 13 x5))))) ∧ PQ (some (vI (t0 * ((M 13 x6) - (M 13 x5))))) M) ∧ ((x2 < 0 ∨ 2 < x2) → ∃ Q16 : Int → Mem → Prop, SpI (wM g ad) yX10_weight cX10_weight 4 (some .int) 1 [.ref (ad 0), vI x3] M Q16 ∧ ∀ (z17 : Int) (M15 : Mem), Q16 z17 M15 → R32 z17 ∧ ((R32 (40 * x3)) ∧ (R32 ((40 * x3) + x6)) ∧ (0 ≤ (40 * x3) + x6 ∧ (40 * x3) + x6 < 160) ∧ (R32 ((40 * x3) + x5)) ∧ (0 ≤ (40 * x3) + x5 ∧ (40 * x3) + x5 < 160) ∧ (R32 ((M15 41 ((40 * x3) + x6)) - (M15 41 ((40 * x3) + x5)))) ∧ (R32 (z17 * ((M15 41 ((40 * x3) + x6)) - (M15 41 ((40 * x3) + x5))))) ∧ (R32 ((M 43 0) + (z17 * ((M15 41 ((40 * x3) + x6)) - (M15 41 ((40 * x3) + x5)))))) ∧ (R32 (2 * ((M 43 0) + (z17 * ((M15 41 ((40 * x3) + x6)) - (M15 41 ((40 * x3) + x5))))))) ∧ (R32 ((2 * ((M 43 0) + (z17 * ((M15 41 ((40 * x3) + x6)) - (M15 41 ((40 * x3) + x5)))))) + 1)) ∧ (R32 (((2 * ((M 43 0) + (z17 * ((M15 41 ((40 * x3) + x6)) - (M15 41 ((40 * x3) + x5)))))) + 1) - x1)) ∧ (0 ≤ ((2 * ((M 43 0) + (z17 * ((M15 41 ((40 * x3) + x6)) - (M15 41 ((40 * x3) + x5)))))) + 1) - x1 ∧ ((2 * ((M 43 0) + (z17 * ((M15 41 ((40 * x3) + x6)) - (M15 41 ((40 * x3) + x5)))))) + 1) - x1 < 8000) ∧ (R32 (t0 * (M15 42 (((2 * ((M 43 0) + (z17 * ((M15 41 ((40 * x3) + x6)) - (M15 41 ((40 * x3) + x5)))))) + 1) - x1))))) ∧ PQ (some (vI (t0 * (M15 42 (((2 * ((M 43 0) + (z17 * ((M15 41 ((40 * x3) + x6)) - (M15 41 ((40 * x3) + x5)))))) + 1) - x1))))) M15))) : E (wM g ad) X k n M 28 [(0, .ref (ad 0)), (1, vI x1), (2, vI x2), (3, vI x3), (5, vI x5), (6, vI x6)] [vI t0] := by
  refine e_wf (fun hw0 => ?_)
  refine e_istore C dX10_worth_28 (by decide) rfl ?_
  refine e_iload_n C 3 dX10_worth_30 rfl ?_
  refine e_eqS (st' := [vI x2]) rfl ?_
  by_cases c9_0 : x2 = 0
  · replace H := H.1 c9_0
    refine e_tableIn C 56 r2 dX10_worth_31 (by rw [c9_0]; decide) (by rw [c9_0]; decide) (by rw [c9_0]; rfl) (by decide) ?_
    refine e_iconst C dX10_worth_56 ?_
    exact e_iret C Y hk hn dX10_worth_57 H
  by_cases c9_1 : x2 = 1
  · replace H := H.2.1 c9_1
    refine e_tableIn C 58 r2 dX10_worth_31 (by rw [c9_1]; decide) (by rw [c9_1]; decide) (by rw [c9_1]; rfl) (by decide) ?_
    refine e_iload C 0 dX10_worth_58 rfl ?_
    refine e_aload_n C 1 dX10_worth_60 rfl ?_
    refine e_iload C 6 dX10_worth_61 rfl ?_
    refine e_iconst C dX10_worth_63 ?_
    refine e_iload_n C 2 dX10_worth_64 rfl ?_
    obtain ⟨⟨o1, o2⟩, H⟩ := H
    refine e_isub C dX10_worth_65 ?_
    refine e_aload_n C 1 dX10_worth_66 rfl ?_
    refine gM_14 C dX10_worth_67 ?_
    refine e_iload C 5 dX10_worth_70 rfl ?_
    refine aM_14 C o2 dX10_worth_72 ?_
    obtain ⟨Q5, h3, H⟩ := H
    refine e_callVI (As := [vI x6, vI (1 - x1), vI (M 14 x5)]) (rest := [vI t0]) (q0 := 0) (ci := 10) C Y mi_X10_wallAt ms_X10_wallAt mv_X10_wallAt ml_X10_252 h3 rfl rfl (by decide) (Nat.le_of_ble_eq_true rfl) hk hn dX10_worth_73 rfl (fun z6 M4 hq9 => ?_)
    obtain ⟨o7, H⟩ := H z6 M4 hq9
    refine e_wf (fun hw8 => ?_)
    obtain ⟨o9, H⟩ := H
    refine e_imul C dX10_worth_76 ?_
    exact e_iret C Y hk hn dX10_worth_77 H
  by_cases c9_2 : x2 = 2
  · replace H := H.2.2.1 c9_2
    refine e_tableIn C 78 r2 dX10_worth_31 (by rw [c9_2]; decide) (by rw [c9_2]; decide) (by rw [c9_2]; rfl) (by decide) ?_
    refine e_iload C 0 dX10_worth_78 rfl ?_
    refine e_aload_n C 1 dX10_worth_80 rfl ?_
    refine gM_13 C dX10_worth_81 ?_
    refine e_iload C 6 dX10_worth_84 rfl ?_
    obtain ⟨⟨o10, o11, o12, o13⟩, H⟩ := H
    refine aM_13 C o10 dX10_worth_86 ?_
    refine e_aload_n C 1 dX10_worth_87 rfl ?_
    refine gM_13 C dX10_worth_88 ?_
    refine e_iload C 5 dX10_worth_91 rfl ?_
    refine aM_13 C o11 dX10_worth_93 ?_
    refine e_isub C dX10_worth_94 ?_
    refine e_imul C dX10_worth_95 ?_
    exact e_iret C Y hk hn dX10_worth_96 H
  replace H := H.2.2.2 (by omega)
  refine e_tableOut C 97 r2 dX10_worth_31 (by omega) (by decide) ?_
  refine e_iload C 0 dX10_worth_97 rfl ?_
  refine e_aload_n C 1 dX10_worth_99 rfl ?_
  refine gM_42 C dX10_worth_100 ?_
  refine e_iconst C dX10_worth_103 ?_
  refine e_aload_n C 1 dX10_worth_104 rfl ?_
  refine gM_43 C dX10_worth_105 ?_
  refine e_aload_n C 1 dX10_worth_108 rfl ?_
  refine e_iload_n C 4 dX10_worth_109 rfl ?_
  obtain ⟨Q16, h14, H⟩ := H
  refine e_callVI (As := [vI x3]) (rest := [vI (M 43 0), vI 2, .ref (ad 31), vI t0]) (q0 := 0) (ci := 10) C Y mi_X10_weight ms_X10_weight mv_X10_weight ml_X10_267 h14 rfl rfl (by decide) (Nat.le_of_ble_eq_true rfl) hk hn dX10_worth_110 rfl (fun z17 M15 hq9 => ?_)
  obtain ⟨o18, H⟩ := H z17 M15 hq9
  refine e_wf (fun hw19 => ?_)
  refine e_aload_n C 1 dX10_worth_113 rfl ?_
  refine gM_41 C dX10_worth_114 ?_
  refine e_bipush C dX10_worth_117 (by decide) ?_
  refine e_iload_n C 4 dX10_worth_119 rfl ?_
  obtain ⟨⟨o20, o21, o22, o23, o24, o25, o26, o27, o28, o29, o30, o31, o32⟩, H⟩ := H
  refine e_imul C dX10_worth_120 ?_
  refine e_iload C 6 dX10_worth_121 rfl ?_
  refine e_iadd C dX10_worth_123 ?_
  refine aM_41 C o22 dX10_worth_124 ?_
  refine e_aload_n C 1 dX10_worth_125 rfl ?_
  refine gM_41 C dX10_worth_126 ?_
  refine e_bipush C dX10_worth_129 (by decide) ?_
  refine e_iload_n C 4 dX10_worth_131 rfl ?_
  refine e_imul C dX10_worth_132 ?_
  refine e_iload C 5 dX10_worth_133 rfl ?_
  refine e_iadd C dX10_worth_135 ?_
  refine aM_41 C o24 dX10_worth_136 ?_
  refine e_isub C dX10_worth_137 ?_
  refine e_imul C dX10_worth_138 ?_
  refine e_iadd C dX10_worth_139 ?_
  refine e_imul C dX10_worth_140 ?_
  refine e_iconst C dX10_worth_141 ?_
  refine e_iadd C dX10_worth_142 ?_
  refine e_iload_n C 2 dX10_worth_143 rfl ?_
  refine e_isub C dX10_worth_144 ?_
  refine aM_42 C o31 dX10_worth_145 ?_
  refine e_imul C dX10_worth_146 ?_
  exact e_iret C Y hk hn dX10_worth_147 H
set_option maxRecDepth 4000 in
theorem B_X10_next_0 {g : Gs} {ad : Nat → Nat} {X : Cx} {mc ms k n : Nat} {PQ : Option Value → Mem → Prop} {PX : String → Mem → Prop} {M : Mem}  (hk : k ≤ mc) (hn : n ≤ ms) (C : OkB (wM g ad) X cX10_next RX10 2 3 mc ms) (Y : OkR (wM g ad) X none mc ms PQ PX) (H : E (wM g ad) X k n (up M 44 0 (M 45 0)) 8 [(0, .ref (ad 0))] []) : E (wM g ad) X k n M 0 [(0, .ref (ad 0))] [] := by
  refine e_wf (fun hw0 => ?_)
  refine e_aload_n C 0 dX10_next_0 rfl ?_
  refine e_aload_n C 0 dX10_next_1 rfl ?_
  refine gM_45 C dX10_next_2 ?_
  refine pM_44 C (hw0.2.1 45 _ (by decide)) dX10_next_5 ?_
  refine e_wf (fun hw1 => ?_)
  exact e_sub [0] rfl H
set_option maxRecDepth 4000 in
theorem B_X10_next_8 {g : Gs} {ad : Nat → Nat} {X : Cx} {mc ms k n : Nat} {PQ : Option Value → Mem → Prop} {PX : String → Mem → Prop} {M : Mem}  (hk : k ≤ mc) (hn : n ≤ ms) (C : OkB (wM g ad) X cX10_next RX10 2 3 mc ms) (Y : OkR (wM g ad) X none mc ms PQ PX) (H : ∃ Q3 : Int → Mem → Prop, SpI (wM g ad) yX10_charAt cX10_charAt 2 (some .int) 1 [.ref (ad 0), vI (M 44 0)] M Q3 ∧ ∀ (z4 : Int) (M2 : Mem), Q3 z4 M2 → R32 z4 ∧ (((z4 ≠ 32) → ∃ Q9 : Int → Mem → Prop, SpI (wM g ad) yX10_charAt cX10_charAt 2 (some .int) 1 [.ref (ad 0), vI (M2 44 0)] M2 Q9 ∧ ∀ (z10 : Int) (M8 : Mem), Q9 z10 M8 → R32 z10 ∧ (R32 ((M8 44 0) + 1)) ∧ ((((M8 44 0) < (M8 24 0)) → (((¬(97 ≤ z10 ∧ z10 ≤ 122)) → (((¬(48 ≤ z10 ∧ z10 ≤ 57)) → (((z10 ≠ 43) → (((z10 = 45) → PQ none (up (up M8 45 0 ((M8 44 0) + 1)) 46 0 z10)) ∧ ((z10 ≠ 45) → (((z10 = 47) → PQ none (up (up M8 45 0 ((M8 44 0) + 1)) 46 0 z10)) ∧ ((z10 ≠ 47) → (((z10 = 123) → PQ none (up (up M8 45 0 ((M8 44 0) + 1)) 46 0 z10)) ∧ ((z10 ≠ 123) → (((z10 = 124) → PQ none (up (up M8 45 0 ((M8 44 0) + 1)) 46 0 z10)) ∧ ((z10 ≠ 124) → (((z10 = 125) → PQ none (up (up M8 45 0 ((M8 44 0) + 1)) 46 0 z10)) ∧ ((z10 ≠ 125) → (((z10 = 44) → PQ none (up (up M8 45 0 ((M8 44 0) + 1)) 46 0 z10)) ∧ ((z10 ≠ 44) → PQ none (up (up (up M8 45 0 ((M8 44 0) + 1)) 46 0 z10) 46 0 6)))))))))))))) ∧ ((z10 = 43) → (R32 (((M8 44 0) + 1) + 1)) ∧ PQ none (up (up (up (up M8 45 0 ((M8 44 0) + 1)) 46 0 z10) 46 0 5) 45 0 (((M8 44 0) + 1) + 1))))) ∧ ((48 ≤ z10 ∧ z10 ≤ 57) → (R32 (z10 - 48)) ∧ E (wM g ad) X k n (up (up (up M8 45 0 ((M8 44 0) + 1)) 46 0 z10) 47 0 (z10 - 48)) 137 [(0, .ref (ad 0)), (1, vI z10)] []))) ∧ ((97 ≤ z10 ∧ z10 ≤ 122) → E (wM g ad) X k n (up (up M8 45 0 ((M8 44 0) + 1)) 46 0 z10) 84 [(0, .ref (ad 0))] []))) ∧ (((M8 24 0) ≤ (M8 44 0)) → PQ none (up (up (up M8 45 0 ((M8 44 0) + 1)) 46 0 z10) 46 0 0)))) ∧ ((z4 = 32) → (R32 ((M2 44 0) + 1)) ∧ E (wM g ad) X k n (up M2 44 0 ((M2 44 0) + 1)) 8 [(0, .ref (ad 0))] []))) : E (wM g ad) X k n M 8 [(0, .ref (ad 0))] [] := by
  refine e_wf (fun hw0 => ?_)
  refine e_aload_n C 0 dX10_next_8 rfl ?_
  refine e_aload_n C 0 dX10_next_9 rfl ?_
  refine gM_44 C dX10_next_10 ?_
  obtain ⟨Q3, h1, H⟩ := H
  refine e_callVI (As := [vI (M 44 0)]) (rest := []) (q0 := 0) (ci := 10) C Y mi_X10_charAt ms_X10_charAt mv_X10_charAt ml_X10_308 h1 rfl rfl (by decide) (Nat.le_of_ble_eq_true rfl) hk hn dX10_next_13 rfl (fun z4 M2 hq9 => ?_)
  obtain ⟨o5, H⟩ := H z4 M2 hq9
  refine e_wf (fun hw6 => ?_)
  refine e_bipush C dX10_next_16 (by decide) ?_
  refine e_icmp_ne C 34 o5 (by decide) dX10_next_18 (by decide) (fun c9 => ?_) (fun c9 => ?_)
  · replace H := H.1 c9
    refine e_aload_n C 0 dX10_next_34 rfl ?_
    refine e_aload_n C 0 dX10_next_35 rfl ?_
    refine gM_44 C dX10_next_36 ?_
    obtain ⟨Q9, h7, H⟩ := H
    refine e_callVI (As := [vI (M2 44 0)]) (rest := []) (q0 := 0) (ci := 10) C Y mi_X10_charAt ms_X10_charAt mv_X10_charAt ml_X10_308 h7 rfl rfl (by decide) (Nat.le_of_ble_eq_true rfl) hk hn dX10_next_39 rfl (fun z10 M8 hq9 => ?_)
    obtain ⟨o11, H⟩ := H z10 M8 hq9
    refine e_wf (fun hw12 => ?_)
    refine e_istore_n C dX10_next_42 (by decide) rfl ?_
    refine e_aload_n C 1 dX10_next_43 rfl ?_
    refine e_aload_n C 1 dX10_next_44 rfl ?_
    refine gM_44 C dX10_next_45 ?_
    refine e_iconst C dX10_next_48 ?_
    obtain ⟨o13, H⟩ := H
    refine e_iadd C dX10_next_49 ?_
    refine pM_45 C o13 dX10_next_50 ?_
    refine e_wf (fun hw14 => ?_)
    refine e_aload_n C 1 dX10_next_53 rfl ?_
    refine e_iload_n C 0 dX10_next_54 rfl ?_
    refine pM_46 C o11 dX10_next_55 ?_
    refine e_wf (fun hw15 => ?_)
    refine e_aload_n C 1 dX10_next_58 rfl ?_
    refine gM_44 C dX10_next_59 ?_
    refine e_aload_n C 1 dX10_next_62 rfl ?_
    refine gM_24 C dX10_next_63 ?_
    refine e_icmp_lt C 77 (hw12.2.1 44 _ (by decide)) (hw12.2.1 24 _ (by decide)) dX10_next_66 (by decide) (fun c9 => ?_) (fun c9 => ?_)
    · replace H := H.1 c9
      refine e_iload_n C 0 dX10_next_77 rfl ?_
      refine e_callSD (As := [vI z10]) (rest := []) C Y mi_X10_isLetter ms_X10_isLetter ml_X10_314 (s_X10_isLetter o11) (by decide) (Nat.le_of_ble_eq_true rfl) hk hn dX10_next_78 rfl ?_
      refine e_if_eq C 122 (b2i_r _) dX10_next_81 (by decide) (fun c9 => ?_) (fun c9 => ?_)
      · replace H := H.1 (b2i_0.mp c9)
        refine e_iload_n C 0 dX10_next_122 rfl ?_
        refine e_callSD (As := [vI z10]) (rest := []) C Y mi_X10_isDigit ms_X10_isDigit ml_X10_320 (s_X10_isDigit o11) (by decide) (Nat.le_of_ble_eq_true rfl) hk hn dX10_next_123 rfl ?_
        refine e_if_eq C 248 (b2i_r _) dX10_next_126 (by decide) (fun c9 => ?_) (fun c9 => ?_)
        · replace H := H.1 (b2i_0.mp c9)
          refine e_iload_n C 0 dX10_next_248 rfl ?_
          refine e_bipush C dX10_next_249 (by decide) ?_
          refine e_icmp_ne C 272 o11 (by decide) dX10_next_251 (by decide) (fun c9 => ?_) (fun c9 => ?_)
          · replace H := H.1 c9
            refine e_iload_n C 0 dX10_next_272 rfl ?_
            refine e_bipush C dX10_next_273 (by decide) ?_
            refine e_icmp_eq C 314 o11 (by decide) dX10_next_275 (by decide) (fun c9 => ?_) (fun c9 => ?_)
            · replace H := H.1 c9
              exact e_vret C Y hk hn dX10_next_314 H
            · replace H := H.2 c9
              refine e_iload_n C 0 dX10_next_278 rfl ?_
              refine e_bipush C dX10_next_279 (by decide) ?_
              refine e_icmp_eq C 314 o11 (by decide) dX10_next_281 (by decide) (fun c9 => ?_) (fun c9 => ?_)
              · replace H := H.1 c9
                exact e_vret C Y hk hn dX10_next_314 H
              · replace H := H.2 c9
                refine e_iload_n C 0 dX10_next_284 rfl ?_
                refine e_bipush C dX10_next_285 (by decide) ?_
                refine e_icmp_eq C 314 o11 (by decide) dX10_next_287 (by decide) (fun c9 => ?_) (fun c9 => ?_)
                · replace H := H.1 c9
                  exact e_vret C Y hk hn dX10_next_314 H
                · replace H := H.2 c9
                  refine e_iload_n C 0 dX10_next_290 rfl ?_
                  refine e_bipush C dX10_next_291 (by decide) ?_
                  refine e_icmp_eq C 314 o11 (by decide) dX10_next_293 (by decide) (fun c9 => ?_) (fun c9 => ?_)
                  · replace H := H.1 c9
                    exact e_vret C Y hk hn dX10_next_314 H
                  · replace H := H.2 c9
                    refine e_iload_n C 0 dX10_next_296 rfl ?_
                    refine e_bipush C dX10_next_297 (by decide) ?_
                    refine e_icmp_eq C 314 o11 (by decide) dX10_next_299 (by decide) (fun c9 => ?_) (fun c9 => ?_)
                    · replace H := H.1 c9
                      exact e_vret C Y hk hn dX10_next_314 H
                    · replace H := H.2 c9
                      refine e_iload_n C 0 dX10_next_302 rfl ?_
                      refine e_bipush C dX10_next_303 (by decide) ?_
                      refine e_icmp_eq C 314 o11 (by decide) dX10_next_305 (by decide) (fun c9 => ?_) (fun c9 => ?_)
                      · replace H := H.1 c9
                        exact e_vret C Y hk hn dX10_next_314 H
                      · replace H := H.2 c9
                        refine e_aload_n C 1 dX10_next_308 rfl ?_
                        refine e_bipush C dX10_next_309 (by decide) ?_
                        refine pM_46 C (by decide) dX10_next_311 ?_
                        refine e_wf (fun hw16 => ?_)
                        exact e_vret C Y hk hn dX10_next_314 H
          · replace H := H.2 c9
            refine e_aload_n C 1 dX10_next_254 rfl ?_
            refine e_iconst C dX10_next_255 ?_
            refine pM_46 C (by decide) dX10_next_256 ?_
            refine e_wf (fun hw17 => ?_)
            refine e_aload_n C 1 dX10_next_259 rfl ?_
            refine e_dup C rfl dX10_next_260 ?_
            refine gM_45 C dX10_next_261 ?_
            refine e_iconst C dX10_next_264 ?_
            obtain ⟨o18, H⟩ := H
            refine e_iadd C dX10_next_265 ?_
            refine pM_45 C o18 dX10_next_266 ?_
            refine e_wf (fun hw19 => ?_)
            refine e_goto C 314 dX10_next_269 (by decide) ?_
            exact e_vret C Y hk hn dX10_next_314 H
        · replace H := H.2 (b2i_n0.mp c9)
          refine e_aload_n C 1 dX10_next_129 rfl ?_
          refine e_iload_n C 0 dX10_next_130 rfl ?_
          refine e_bipush C dX10_next_131 (by decide) ?_
          obtain ⟨o20, H⟩ := H
          refine e_isub C dX10_next_133 ?_
          refine pM_47 C o20 dX10_next_134 ?_
          refine e_wf (fun hw21 => ?_)
          exact e_sub [1, 0] rfl H
      · replace H := H.2 (b2i_n0.mp c9)
        exact e_sub [1] rfl H
    · replace H := H.2 c9
      refine e_aload_n C 1 dX10_next_69 rfl ?_
      refine e_iconst C dX10_next_70 ?_
      refine pM_46 C (by decide) dX10_next_71 ?_
      refine e_wf (fun hw22 => ?_)
      refine e_goto C 314 dX10_next_74 (by decide) ?_
      exact e_vret C Y hk hn dX10_next_314 H
  · replace H := H.2 c9
    refine e_aload_n C 0 dX10_next_21 rfl ?_
    refine e_dup C rfl dX10_next_22 ?_
    refine gM_44 C dX10_next_23 ?_
    refine e_iconst C dX10_next_26 ?_
    obtain ⟨o23, H⟩ := H
    refine e_iadd C dX10_next_27 ?_
    refine pM_44 C o23 dX10_next_28 ?_
    refine e_wf (fun hw24 => ?_)
    refine e_goto C 8 dX10_next_31 (by decide) ?_
    exact e_sub [0] rfl H
set_option maxRecDepth 4000 in
theorem B_X10_next_84 {g : Gs} {ad : Nat → Nat} {X : Cx} {mc ms k n : Nat} {PQ : Option Value → Mem → Prop} {PX : String → Mem → Prop} {M : Mem}  (hk : k ≤ mc) (hn : n ≤ ms) (C : OkB (wM g ad) X cX10_next RX10 2 3 mc ms) (Y : OkR (wM g ad) X none mc ms PQ PX) (H : ∃ Q3 : Int → Mem → Prop, SpI (wM g ad) yX10_charAt cX10_charAt 2 (some .int) 1 [.ref (ad 0), vI (M 45 0)] M Q3 ∧ ∀ (z4 : Int) (M2 : Mem), Q3 z4 M2 → R32 z4 ∧ (((¬(97 ≤ z4 ∧ z4 ≤ 122)) → ∃ Q9 : Int → Mem → Prop, SpI (wM g ad) yX10_named cX10_named 6 (some .int) 1 [.ref (ad 0)] M2 Q9 ∧ ∀ (z10 : Int) (M8 : Mem), Q9 z10 M8 → R32 z10 ∧ PQ none (up M8 46 0 z10)) ∧ ((97 ≤ z4 ∧ z4 ≤ 122) → (R32 ((M2 45 0) + 1)) ∧ E (wM g ad) X k n (up M2 45 0 ((M2 45 0) + 1)) 84 [(0, .ref (ad 0))] []))) : E (wM g ad) X k n M 84 [(0, .ref (ad 0))] [] := by
  refine e_wf (fun hw0 => ?_)
  refine e_aload_n C 0 dX10_next_84 rfl ?_
  refine e_aload_n C 0 dX10_next_85 rfl ?_
  refine gM_45 C dX10_next_86 ?_
  obtain ⟨Q3, h1, H⟩ := H
  refine e_callVI (As := [vI (M 45 0)]) (rest := []) (q0 := 0) (ci := 10) C Y mi_X10_charAt ms_X10_charAt mv_X10_charAt ml_X10_308 h1 rfl rfl (by decide) (Nat.le_of_ble_eq_true rfl) hk hn dX10_next_89 rfl (fun z4 M2 hq9 => ?_)
  obtain ⟨o5, H⟩ := H z4 M2 hq9
  refine e_wf (fun hw6 => ?_)
  refine e_callSD (As := [vI z4]) (rest := []) C Y mi_X10_isLetter ms_X10_isLetter ml_X10_314 (s_X10_isLetter o5) (by decide) (Nat.le_of_ble_eq_true rfl) hk hn dX10_next_92 rfl ?_
  refine e_if_eq C 111 (b2i_r _) dX10_next_95 (by decide) (fun c9 => ?_) (fun c9 => ?_)
  · replace H := H.1 (b2i_0.mp c9)
    refine e_aload_n C 0 dX10_next_111 rfl ?_
    refine e_aload_n C 0 dX10_next_112 rfl ?_
    obtain ⟨Q9, h7, H⟩ := H
    refine e_callVI (As := []) (rest := [.ref (ad 0)]) (q0 := 0) (ci := 10) C Y mi_X10_named ms_X10_named mv_X10_named ml_X10_317 h7 rfl rfl (by decide) (Nat.le_of_ble_eq_true rfl) hk hn dX10_next_113 rfl (fun z10 M8 hq9 => ?_)
    obtain ⟨o11, H⟩ := H z10 M8 hq9
    refine e_wf (fun hw12 => ?_)
    refine pM_46 C o11 dX10_next_116 ?_
    refine e_wf (fun hw13 => ?_)
    refine e_goto C 314 dX10_next_119 (by decide) ?_
    exact e_vret C Y hk hn dX10_next_314 H
  · replace H := H.2 (b2i_n0.mp c9)
    refine e_aload_n C 0 dX10_next_98 rfl ?_
    refine e_dup C rfl dX10_next_99 ?_
    refine gM_45 C dX10_next_100 ?_
    refine e_iconst C dX10_next_103 ?_
    obtain ⟨o14, H⟩ := H
    refine e_iadd C dX10_next_104 ?_
    refine pM_45 C o14 dX10_next_105 ?_
    refine e_wf (fun hw15 => ?_)
    refine e_goto C 84 dX10_next_108 (by decide) ?_
    exact e_sub [0] rfl H
set_option maxRecDepth 4000 in
theorem B_X10_next_137 {g : Gs} {ad : Nat → Nat} {X : Cx} {mc ms k n : Nat} {PQ : Option Value → Mem → Prop} {PX : String → Mem → Prop} {M : Mem} {x1 : Int} (r1 : R32 x1) (hk : k ≤ mc) (hn : n ≤ ms) (C : OkB (wM g ad) X cX10_next RX10 2 3 mc ms) (Y : OkR (wM g ad) X none mc ms PQ PX) (H : ∃ Q3 : Int → Mem → Prop, SpI (wM g ad) yX10_charAt cX10_charAt 2 (some .int) 1 [.ref (ad 0), vI (M 45 0)] M Q3 ∧ ∀ (z4 : Int) (M2 : Mem), Q3 z4 M2 → R32 z4 ∧ (((¬(48 ≤ z4 ∧ z4 ≤ 57)) → (R32 ((M2 45 0) - (M2 44 0))) ∧ (((2 < ((M2 45 0) - (M2 44 0))) → PQ none (up M2 46 0 6)) ∧ ((((M2 45 0) - (M2 44 0)) ≤ 2) → (((((M2 45 0) - (M2 44 0)) ≠ 2) → PQ none (up M2 46 0 4)) ∧ ((((M2 45 0) - (M2 44 0)) = 2) → (((x1 ≠ 48) → PQ none (up M2 46 0 4)) ∧ ((x1 = 48) → PQ none (up M2 46 0 6)))))))) ∧ ((48 ≤ z4 ∧ z4 ≤ 57) → (((100 ≤ (M2 47 0)) → (R32 ((M2 45 0) + 1)) ∧ E (wM g ad) X k n (up (up M2 47 0 (M2 47 0)) 45 0 ((M2 45 0) + 1)) 137 [(0, .ref (ad 0)), (1, vI x1)] []) ∧ (((M2 47 0) < 100) → (R32 (10 * (M2 47 0))) ∧ ∃ Q18 : Int → Mem → Prop, SpI (wM g ad) yX10_charAt cX10_charAt 2 (some .int) 1 [.ref (ad 0), vI (M2 45 0)] M2 Q18 ∧ ∀ (z19 : Int) (M17 : Mem), Q18 z19 M17 → R32 z19 ∧ ((R32 ((10 * (M2 47 0)) + z19)) ∧ (R32 (((10 * (M2 47 0)) + z19) - 48)) ∧ (R32 ((M17 45 0) + 1))) ∧ E (wM g ad) X k n (up (up M17 47 0 (((10 * (M2 47 0)) + z19) - 48)) 45 0 ((M17 45 0) + 1)) 137 [(0, .ref (ad 0)), (1, vI x1)] []))))) : E (wM g ad) X k n M 137 [(0, .ref (ad 0)), (1, vI x1)] [] := by
  refine e_wf (fun hw0 => ?_)
  refine e_aload_n C 0 dX10_next_137 rfl ?_
  refine e_aload_n C 0 dX10_next_138 rfl ?_
  refine gM_45 C dX10_next_139 ?_
  obtain ⟨Q3, h1, H⟩ := H
  refine e_callVI (As := [vI (M 45 0)]) (rest := []) (q0 := 0) (ci := 10) C Y mi_X10_charAt ms_X10_charAt mv_X10_charAt ml_X10_308 h1 rfl rfl (by decide) (Nat.le_of_ble_eq_true rfl) hk hn dX10_next_142 rfl (fun z4 M2 hq9 => ?_)
  obtain ⟨o5, H⟩ := H z4 M2 hq9
  refine e_wf (fun hw6 => ?_)
  refine e_callSD (As := [vI z4]) (rest := []) C Y mi_X10_isDigit ms_X10_isDigit ml_X10_320 (s_X10_isDigit o5) (by decide) (Nat.le_of_ble_eq_true rfl) hk hn dX10_next_145 rfl ?_
  refine e_if_eq C 203 (b2i_r _) dX10_next_148 (by decide) (fun c9 => ?_) (fun c9 => ?_)
  · replace H := H.1 (b2i_0.mp c9)
    refine e_aload_n C 0 dX10_next_203 rfl ?_
    refine e_aload_n C 0 dX10_next_204 rfl ?_
    refine gM_45 C dX10_next_205 ?_
    refine e_aload_n C 0 dX10_next_208 rfl ?_
    refine gM_44 C dX10_next_209 ?_
    obtain ⟨o7, H⟩ := H
    refine e_isub C dX10_next_212 ?_
    refine e_iconst C dX10_next_213 ?_
    refine e_icmp_gt C 236 o7 (by decide) dX10_next_214 (by decide) (fun c9 => ?_) (fun c9 => ?_)
    · replace H := H.1 c9
      refine e_bipush C dX10_next_236 (by decide) ?_
      refine e_goto C 242 dX10_next_238 (by decide) ?_
      refine pM_46 C (by decide) dX10_next_242 ?_
      refine e_wf (fun hw8 => ?_)
      refine e_goto C 314 dX10_next_245 (by decide) ?_
      exact e_vret C Y hk hn dX10_next_314 H
    · replace H := H.2 c9
      refine e_aload_n C 0 dX10_next_217 rfl ?_
      refine gM_45 C dX10_next_218 ?_
      refine e_aload_n C 0 dX10_next_221 rfl ?_
      refine gM_44 C dX10_next_222 ?_
      refine e_isub C dX10_next_225 ?_
      refine e_iconst C dX10_next_226 ?_
      refine e_icmp_ne C 241 o7 (by decide) dX10_next_227 (by decide) (fun c9 => ?_) (fun c9 => ?_)
      · replace H := H.1 c9
        refine e_iconst C dX10_next_241 ?_
        refine pM_46 C (by decide) dX10_next_242 ?_
        refine e_wf (fun hw9 => ?_)
        refine e_goto C 314 dX10_next_245 (by decide) ?_
        exact e_vret C Y hk hn dX10_next_314 H
      · replace H := H.2 c9
        refine e_iload_n C 1 dX10_next_230 rfl ?_
        refine e_bipush C dX10_next_231 (by decide) ?_
        refine e_icmp_ne C 241 r1 (by decide) dX10_next_233 (by decide) (fun c9 => ?_) (fun c9 => ?_)
        · replace H := H.1 c9
          refine e_iconst C dX10_next_241 ?_
          refine pM_46 C (by decide) dX10_next_242 ?_
          refine e_wf (fun hw10 => ?_)
          refine e_goto C 314 dX10_next_245 (by decide) ?_
          exact e_vret C Y hk hn dX10_next_314 H
        · replace H := H.2 c9
          refine e_bipush C dX10_next_236 (by decide) ?_
          refine e_goto C 242 dX10_next_238 (by decide) ?_
          refine pM_46 C (by decide) dX10_next_242 ?_
          refine e_wf (fun hw11 => ?_)
          refine e_goto C 314 dX10_next_245 (by decide) ?_
          exact e_vret C Y hk hn dX10_next_314 H
  · replace H := H.2 (b2i_n0.mp c9)
    refine e_aload_n C 0 dX10_next_151 rfl ?_
    refine e_aload_n C 0 dX10_next_152 rfl ?_
    refine gM_47 C dX10_next_153 ?_
    refine e_bipush C dX10_next_156 (by decide) ?_
    refine e_icmp_ge C 183 (hw6.2.1 47 _ (by decide)) (by decide) dX10_next_158 (by decide) (fun c9 => ?_) (fun c9 => ?_)
    · replace H := H.1 c9
      refine e_aload_n C 0 dX10_next_183 rfl ?_
      refine gM_47 C dX10_next_184 ?_
      refine pM_47 C (hw6.2.1 47 _ (by decide)) dX10_next_187 ?_
      refine e_wf (fun hw12 => ?_)
      refine e_aload_n C 0 dX10_next_190 rfl ?_
      refine e_dup C rfl dX10_next_191 ?_
      refine gM_45 C dX10_next_192 ?_
      refine e_iconst C dX10_next_195 ?_
      obtain ⟨o13, H⟩ := H
      refine e_iadd C dX10_next_196 ?_
      refine pM_45 C o13 dX10_next_197 ?_
      refine e_wf (fun hw14 => ?_)
      refine e_goto C 137 dX10_next_200 (by decide) ?_
      exact e_sub [0, 1] rfl H
    · replace H := H.2 c9
      refine e_bipush C dX10_next_161 (by decide) ?_
      refine e_aload_n C 0 dX10_next_163 rfl ?_
      refine gM_47 C dX10_next_164 ?_
      obtain ⟨o15, H⟩ := H
      refine e_imul C dX10_next_167 ?_
      refine e_aload_n C 0 dX10_next_168 rfl ?_
      refine e_aload_n C 0 dX10_next_169 rfl ?_
      refine gM_45 C dX10_next_170 ?_
      obtain ⟨Q18, h16, H⟩ := H
      refine e_callVI (As := [vI (M2 45 0)]) (rest := [vI (10 * (M2 47 0)), .ref (ad 0)]) (q0 := 0) (ci := 10) C Y mi_X10_charAt ms_X10_charAt mv_X10_charAt ml_X10_308 h16 rfl rfl (by decide) (Nat.le_of_ble_eq_true rfl) hk hn dX10_next_173 rfl (fun z19 M17 hq9 => ?_)
      obtain ⟨o20, H⟩ := H z19 M17 hq9
      refine e_wf (fun hw21 => ?_)
      obtain ⟨⟨o22, o23, o25⟩, H⟩ := H
      refine e_iadd C dX10_next_176 ?_
      refine e_bipush C dX10_next_177 (by decide) ?_
      refine e_isub C dX10_next_179 ?_
      refine e_goto C 187 dX10_next_180 (by decide) ?_
      refine pM_47 C o23 dX10_next_187 ?_
      refine e_wf (fun hw24 => ?_)
      refine e_aload_n C 0 dX10_next_190 rfl ?_
      refine e_dup C rfl dX10_next_191 ?_
      refine gM_45 C dX10_next_192 ?_
      refine e_iconst C dX10_next_195 ?_
      refine e_iadd C dX10_next_196 ?_
      refine pM_45 C o25 dX10_next_197 ?_
      refine e_wf (fun hw26 => ?_)
      refine e_goto C 137 dX10_next_200 (by decide) ?_
      exact e_sub [0, 1] rfl H
set_option maxRecDepth 4000 in
theorem B_X10_writesNumber_0 {g : Gs} {ad : Nat → Nat} {X : Cx} {mc ms k n : Nat} {PQ : Option Value → Mem → Prop} {PX : String → Mem → Prop} {M : Mem} {x1 : Int} (r1 : R32 x1) (hk : k ≤ mc) (hn : n ≤ ms) (C : OkB (wM g ad) X cX10_writesNumber RX10 4 3 mc ms) (Y : OkR (wM g ad) X none mc ms PQ PX) (H : (((0 ≤ x1) → E (wM g ad) X k n M 14 [(0, .ref (ad 0)), (1, vI x1), (2, vI x1), (3, vI 8)] []) ∧ ((x1 < 0) → (R32 (-x1)) ∧ E (wM g ad) X k n M 14 [(0, .ref (ad 0)), (1, vI x1), (2, vI (-x1)), (3, vI 8)] []))) : E (wM g ad) X k n M 0 [(0, .ref (ad 0)), (1, vI x1)] [] := by
  refine e_wf (fun hw0 => ?_)
  refine e_iload_n C 1 dX10_writesNumber_0 rfl ?_
  refine e_if_ge C 9 r1 dX10_writesNumber_1 (by decide) (fun c9 => ?_) (fun c9 => ?_)
  · replace H := H.1 c9
    refine e_iload_n C 1 dX10_writesNumber_9 rfl ?_
    refine e_istore_n C dX10_writesNumber_10 (by decide) rfl ?_
    refine e_bipush C dX10_writesNumber_11 (by decide) ?_
    refine e_istore_n C dX10_writesNumber_13 (by decide) rfl ?_
    exact e_sub [2, 3, 1, 0] rfl H
  · replace H := H.2 c9
    refine e_iload_n C 1 dX10_writesNumber_4 rfl ?_
    obtain ⟨o1, H⟩ := H
    refine e_ineg C dX10_writesNumber_5 ?_
    refine e_goto C 10 dX10_writesNumber_6 (by decide) ?_
    refine e_istore_n C dX10_writesNumber_10 (by decide) rfl ?_
    refine e_bipush C dX10_writesNumber_11 (by decide) ?_
    refine e_istore_n C dX10_writesNumber_13 (by decide) rfl ?_
    exact e_sub [2, 3, 1, 0] rfl H
set_option maxRecDepth 4000 in
theorem B_X10_writesNumber_14 {g : Gs} {ad : Nat → Nat} {X : Cx} {mc ms k n : Nat} {PQ : Option Value → Mem → Prop} {PX : String → Mem → Prop} {M : Mem} {x1 x2 x3 : Int} (r1 : R32 x1) (r2 : R32 x2) (r3 : R32 x3) (hk : k ≤ mc) (hn : n ≤ ms) (C : OkB (wM g ad) X cX10_writesNumber RX10 4 3 mc ms) (Y : OkR (wM g ad) X none mc ms PQ PX) (H : (((x3 ≤ 1) → E (wM g ad) X k n M 36 [(0, .ref (ad 0)), (1, vI x1), (2, vI x2), (3, vI x3)] []) ∧ ((1 < x3) → ((((Int.tmod x2 2) ≠ 0) → E (wM g ad) X k n M 36 [(0, .ref (ad 0)), (1, vI x1), (2, vI x2), (3, vI x3)] []) ∧ (((Int.tmod x2 2) = 0) → E (wM g ad) X k n M 14 [(0, .ref (ad 0)), (1, vI x1), (2, vI (Int.tdiv x2 2)), (3, vI (Int.tdiv x3 2))] []))))) : E (wM g ad) X k n M 14 [(0, .ref (ad 0)), (1, vI x1), (2, vI x2), (3, vI x3)] [] := by
  refine e_wf (fun hw0 => ?_)
  refine e_iload_n C 3 dX10_writesNumber_14 rfl ?_
  refine e_iconst C dX10_writesNumber_15 ?_
  refine e_icmp_le C 36 r3 (by decide) dX10_writesNumber_16 (by decide) (fun c9 => ?_) (fun c9 => ?_)
  · replace H := H.1 c9
    exact e_sub [0, 1, 2, 3] rfl H
  · replace H := H.2 c9
    refine e_iload_n C 2 dX10_writesNumber_19 rfl ?_
    refine e_iconst C dX10_writesNumber_20 ?_
    refine e_irem C r2 (by decide) (by decide) (by decide) dX10_writesNumber_21 ?_
    refine e_if_ne C 36 (tmod_r r2 (by decide) (by decide)) dX10_writesNumber_22 (by decide) (fun c9 => ?_) (fun c9 => ?_)
    · replace H := H.1 c9
      exact e_sub [0, 1, 2, 3] rfl H
    · replace H := H.2 c9
      refine e_iload_n C 2 dX10_writesNumber_25 rfl ?_
      refine e_iconst C dX10_writesNumber_26 ?_
      refine e_idiv C r2 (by decide) (by decide) (by decide) dX10_writesNumber_27 ?_
      refine e_istore_n C dX10_writesNumber_28 (by decide) rfl ?_
      refine e_iload_n C 3 dX10_writesNumber_29 rfl ?_
      refine e_iconst C dX10_writesNumber_30 ?_
      refine e_idiv C r3 (by decide) (by decide) (by decide) dX10_writesNumber_31 ?_
      refine e_istore_n C dX10_writesNumber_32 (by decide) rfl ?_
      refine e_goto C 14 dX10_writesNumber_33 (by decide) ?_
      exact e_sub [2, 3, 1, 0] rfl H
set_option maxRecDepth 4000 in
theorem B_X10_writesNumber_36 {g : Gs} {ad : Nat → Nat} {X : Cx} {mc ms k n : Nat} {PQ : Option Value → Mem → Prop} {PX : String → Mem → Prop} {M : Mem} {x1 x2 x3 : Int} (r1 : R32 x1) (r2 : R32 x2) (r3 : R32 x3) (hk : k ≤ mc) (hn : n ≤ ms) (C : OkB (wM g ad) X cX10_writesNumber RX10 4 3 mc ms) (Y : OkR (wM g ad) X none mc ms PQ PX) (H : (((0 ≤ x1) → E (wM g ad) X k n M 46 [(0, .ref (ad 0)), (2, vI x2), (3, vI x3)] []) ∧ ((x1 < 0) → ∃ Q3 : Mem → Prop, SpV (wM g ad) yX10_writes cX10_writes 2 none 1 [.ref (ad 0), vI 45] M Q3 ∧ ∀ M2 : Mem, Q3 M2 → E (wM g ad) X k n M2 46 [(0, .ref (ad 0)), (2, vI x2), (3, vI x3)] []))) : E (wM g ad) X k n M 36 [(0, .ref (ad 0)), (1, vI x1), (2, vI x2), (3, vI x3)] [] := by
  refine e_wf (fun hw0 => ?_)
  refine e_iload_n C 1 dX10_writesNumber_36 rfl ?_
  refine e_if_ge C 46 r1 dX10_writesNumber_37 (by decide) (fun c9 => ?_) (fun c9 => ?_)
  · replace H := H.1 c9
    exact e_sub [0, 2, 3] rfl H
  · replace H := H.2 c9
    refine e_aload_n C 0 dX10_writesNumber_40 rfl ?_
    refine e_bipush C dX10_writesNumber_41 (by decide) ?_
    obtain ⟨Q3, h1, H⟩ := H
    refine e_callVV (As := [vI 45]) (rest := []) (q0 := 0) (ci := 10) C Y mi_X10_writes ms_X10_writes mv_X10_writes ml_X10_392 h1 rfl rfl (by decide) (Nat.le_of_ble_eq_true rfl) hk hn dX10_writesNumber_43 rfl (fun M2 hq9 => ?_)
    replace H := H M2 hq9
    refine e_wf (fun hw4 => ?_)
    exact e_sub [0, 2, 3] rfl H
set_option maxRecDepth 4000 in
theorem B_X10_writesNumber_46 {g : Gs} {ad : Nat → Nat} {X : Cx} {mc ms k n : Nat} {PQ : Option Value → Mem → Prop} {PX : String → Mem → Prop} {M : Mem} {x2 x3 : Int} (r2 : R32 x2) (r3 : R32 x3) (hk : k ≤ mc) (hn : n ≤ ms) (C : OkB (wM g ad) X cX10_writesNumber RX10 4 3 mc ms) (Y : OkR (wM g ad) X none mc ms PQ PX) (H : ∃ Q3 : Mem → Prop, SpV (wM g ad) yX10_writesWhole cX10_writesWhole 2 none 2 [.ref (ad 0), vI x2] M Q3 ∧ ∀ M2 : Mem, Q3 M2 → (((x3 ≤ 1) → PQ none M2) ∧ ((1 < x3) → ∃ Q7 : Mem → Prop, SpV (wM g ad) yX10_writes cX10_writes 2 none 1 [.ref (ad 0), vI 47] M2 Q7 ∧ ∀ M6 : Mem, Q7 M6 → ∃ Q11 : Mem → Prop, SpV (wM g ad) yX10_writesWhole cX10_writesWhole 2 none 2 [.ref (ad 0), vI x3] M6 Q11 ∧ ∀ M10 : Mem, Q11 M10 → PQ none M10))) : E (wM g ad) X k n M 46 [(0, .ref (ad 0)), (2, vI x2), (3, vI x3)] [] := by
  refine e_wf (fun hw0 => ?_)
  refine e_aload_n C 0 dX10_writesNumber_46 rfl ?_
  refine e_iload_n C 1 dX10_writesNumber_47 rfl ?_
  obtain ⟨Q3, h1, H⟩ := H
  refine e_callVV (As := [vI x2]) (rest := []) (q0 := 0) (ci := 10) C Y mi_X10_writesWhole ms_X10_writesWhole mv_X10_writesWhole ml_X10_395 h1 rfl rfl (by decide) (Nat.le_of_ble_eq_true rfl) hk hn dX10_writesNumber_48 rfl (fun M2 hq9 => ?_)
  replace H := H M2 hq9
  refine e_wf (fun hw4 => ?_)
  refine e_iload_n C 2 dX10_writesNumber_51 rfl ?_
  refine e_iconst C dX10_writesNumber_52 ?_
  refine e_icmp_le C 67 r3 (by decide) dX10_writesNumber_53 (by decide) (fun c9 => ?_) (fun c9 => ?_)
  · replace H := H.1 c9
    exact e_vret C Y hk hn dX10_writesNumber_67 H
  · replace H := H.2 c9
    refine e_aload_n C 0 dX10_writesNumber_56 rfl ?_
    refine e_bipush C dX10_writesNumber_57 (by decide) ?_
    obtain ⟨Q7, h5, H⟩ := H
    refine e_callVV (As := [vI 47]) (rest := []) (q0 := 0) (ci := 10) C Y mi_X10_writes ms_X10_writes mv_X10_writes ml_X10_392 h5 rfl rfl (by decide) (Nat.le_of_ble_eq_true rfl) hk hn dX10_writesNumber_59 rfl (fun M6 hq9 => ?_)
    replace H := H M6 hq9
    refine e_wf (fun hw8 => ?_)
    refine e_aload_n C 0 dX10_writesNumber_62 rfl ?_
    refine e_iload_n C 2 dX10_writesNumber_63 rfl ?_
    obtain ⟨Q11, h9, H⟩ := H
    refine e_callVV (As := [vI x3]) (rest := []) (q0 := 0) (ci := 10) C Y mi_X10_writesWhole ms_X10_writesWhole mv_X10_writesWhole ml_X10_395 h9 rfl rfl (by decide) (Nat.le_of_ble_eq_true rfl) hk hn dX10_writesNumber_64 rfl (fun M10 hq9 => ?_)
    replace H := H M10 hq9
    refine e_wf (fun hw12 => ?_)
    exact e_vret C Y hk hn dX10_writesNumber_67 H
set_option maxRecDepth 4000 in
theorem B_X10_checksum_0 {g : Gs} {ad : Nat → Nat} {X : Cx} {mc ms k n : Nat} {PQ : Option Value → Mem → Prop} {PX : String → Mem → Prop} {M : Mem}  (hk : k ≤ mc) (hn : n ≤ ms) (C : OkB (wM g ad) X cX10_checksum RX10 4 3 mc ms) (Y : OkR (wM g ad) X (some .long) mc ms PQ PX) (H : ∃ Q5 : Mem → Prop, SpV (wM g ad) yX10_mix cX10_mix 3 none 1 [.ref (ad 0), vL (M 0 0)] (up (up M 20 0 0) 63 0 18487) Q5 ∧ ∀ M4 : Mem, Q5 M4 → E (wM g ad) X k n M4 23 [(0, .ref (ad 0)), (1, vI 0)] []) : E (wM g ad) X k n M 0 [(0, .ref (ad 0))] [] := by
  refine e_wf (fun hw0 => ?_)
  refine e_aload_n C 0 dX10_checksum_0 rfl ?_
  refine e_iconst C dX10_checksum_1 ?_
  refine pM_20 C (by decide) dX10_checksum_2 ?_
  refine e_wf (fun hw1 => ?_)
  refine e_aload_n C 0 dX10_checksum_5 rfl ?_
  refine e_ldc2 C (v := 18487) (tg8 38 rfl rfl) (by decide) dX10_checksum_6 ?_
  refine pM_63 C (by decide) dX10_checksum_9 ?_
  refine e_wf (fun hw2 => ?_)
  refine e_aload_n C 0 dX10_checksum_12 rfl ?_
  refine e_aload_n C 0 dX10_checksum_13 rfl ?_
  refine gM_0 C dX10_checksum_14 ?_
  refine e_i2l C (hw0.2.1 0 _ (by decide)) dX10_checksum_17 ?_
  obtain ⟨Q5, h3, H⟩ := H
  refine e_callVV (As := [vL (M 0 0)]) (rest := []) (q0 := 0) (ci := 10) C Y mi_X10_mix ms_X10_mix mv_X10_mix ml_X10_415 h3 rfl rfl (by decide) (Nat.le_of_ble_eq_true rfl) hk hn dX10_checksum_18 rfl (fun M4 hq9 => ?_)
  replace H := H M4 hq9
  refine e_wf (fun hw6 => ?_)
  refine e_iconst C dX10_checksum_21 ?_
  refine e_istore_n C dX10_checksum_22 (by decide) rfl ?_
  exact e_sub [1, 0] rfl H
set_option maxRecDepth 4000 in
theorem B_X10_checksum_23 {g : Gs} {ad : Nat → Nat} {X : Cx} {mc ms k n : Nat} {PQ : Option Value → Mem → Prop} {PX : String → Mem → Prop} {M : Mem} {x1 : Int} (r1 : R32 x1) (hk : k ≤ mc) (hn : n ≤ ms) (C : OkB (wM g ad) X cX10_checksum RX10 4 3 mc ms) (Y : OkR (wM g ad) X (some .long) mc ms PQ PX) (H : ((((M 0 0) ≤ x1) → ∃ Q3 : Mem → Prop, SpV (wM g ad) yX10_mix cX10_mix 3 none 1 [.ref (ad 0), vL (M 16 0)] M Q3 ∧ ∀ M2 : Mem, Q3 M2 → E (wM g ad) X k n M2 170 [(0, .ref (ad 0)), (1, vI 0)] []) ∧ ((x1 < (M 0 0)) → (0 ≤ x1 ∧ x1 < 40) ∧ ∃ Q8 : Mem → Prop, SpV (wM g ad) yX10_mix cX10_mix 3 none 1 [.ref (ad 0), vL (M 5 x1)] M Q8 ∧ ∀ M7 : Mem, Q8 M7 → ((0 ≤ x1 ∧ x1 < 40) ∧ 0 ≤ (0 : Int) ∧ (0 : Int) ≤ 1) ∧ ∃ Q13 : Mem → Prop, SpV (wM g ad) yX10_mix cX10_mix 3 none 1 [.ref (ad 0), vL (M7 3 (2 * x1 + (0 : Int)))] M7 Q13 ∧ ∀ M12 : Mem, Q13 M12 → ((0 ≤ x1 ∧ x1 < 40) ∧ 0 ≤ (1 : Int) ∧ (1 : Int) ≤ 1) ∧ ∃ Q18 : Mem → Prop, SpV (wM g ad) yX10_mix cX10_mix 3 none 1 [.ref (ad 0), vL (M12 3 (2 * x1 + (1 : Int)))] M12 Q18 ∧ ∀ M17 : Mem, Q18 M17 → E (wM g ad) X k n M17 66 [(0, .ref (ad 0)), (1, vI x1), (2, vI 0)] []))) : E (wM g ad) X k n M 23 [(0, .ref (ad 0)), (1, vI x1)] [] := by
  refine e_wf (fun hw0 => ?_)
  refine e_iload_n C 1 dX10_checksum_23 rfl ?_
  refine e_aload_n C 0 dX10_checksum_24 rfl ?_
  refine gM_0 C dX10_checksum_25 ?_
  refine e_icmp_ge C 159 r1 (hw0.2.1 0 _ (by decide)) dX10_checksum_28 (by decide) (fun c9 => ?_) (fun c9 => ?_)
  · replace H := H.1 c9
    refine e_aload_n C 0 dX10_checksum_159 rfl ?_
    refine e_aload_n C 0 dX10_checksum_160 rfl ?_
    refine gM_16 C dX10_checksum_161 ?_
    refine e_i2l C (hw0.2.1 16 _ (by decide)) dX10_checksum_164 ?_
    obtain ⟨Q3, h1, H⟩ := H
    refine e_callVV (As := [vL (M 16 0)]) (rest := []) (q0 := 0) (ci := 10) C Y mi_X10_mix ms_X10_mix mv_X10_mix ml_X10_415 h1 rfl rfl (by decide) (Nat.le_of_ble_eq_true rfl) hk hn dX10_checksum_165 rfl (fun M2 hq9 => ?_)
    replace H := H M2 hq9
    refine e_wf (fun hw4 => ?_)
    refine e_iconst C dX10_checksum_168 ?_
    refine e_istore_n C dX10_checksum_169 (by decide) rfl ?_
    exact e_sub [1, 0] rfl H
  · replace H := H.2 c9
    refine e_aload_n C 0 dX10_checksum_31 rfl ?_
    refine e_aload_n C 0 dX10_checksum_32 rfl ?_
    refine gM_5 C dX10_checksum_33 ?_
    refine e_iload_n C 1 dX10_checksum_36 rfl ?_
    obtain ⟨o5, H⟩ := H
    refine aM_5 C o5 dX10_checksum_37 ?_
    refine e_i2l C (hw0.2.1 5 _ (by decide)) dX10_checksum_38 ?_
    obtain ⟨Q8, h6, H⟩ := H
    refine e_callVV (As := [vL (M 5 x1)]) (rest := []) (q0 := 0) (ci := 10) C Y mi_X10_mix ms_X10_mix mv_X10_mix ml_X10_415 h6 rfl rfl (by decide) (Nat.le_of_ble_eq_true rfl) hk hn dX10_checksum_39 rfl (fun M7 hq9 => ?_)
    replace H := H M7 hq9
    refine e_wf (fun hw9 => ?_)
    refine e_aload_n C 0 dX10_checksum_42 rfl ?_
    refine e_aload_n C 0 dX10_checksum_43 rfl ?_
    refine e_iload_n C 1 dX10_checksum_44 rfl ?_
    refine e_iconst C dX10_checksum_45 ?_
    obtain ⟨o10, H⟩ := H
    refine e_callVD (As := [vI x1, vI 0]) (rest := [.ref (ad 0)]) (q0 := 0) (ci := 10) C Y mi_X10_optionsOf ms_X10_optionsOf mv_X10_optionsOf ml_X10_164 (s_X10_optionsOf r1 (by decide) o10) rfl rfl (by decide) (Nat.le_of_ble_eq_true rfl) hk hn dX10_checksum_46 rfl ?_
    refine e_i2l C (hw9.2.1 3 _ (by decide)) dX10_checksum_49 ?_
    obtain ⟨Q13, h11, H⟩ := H
    refine e_callVV (As := [vL (M7 3 (2 * x1 + (0 : Int)))]) (rest := []) (q0 := 0) (ci := 10) C Y mi_X10_mix ms_X10_mix mv_X10_mix ml_X10_415 h11 rfl rfl (by decide) (Nat.le_of_ble_eq_true rfl) hk hn dX10_checksum_50 rfl (fun M12 hq9 => ?_)
    replace H := H M12 hq9
    refine e_wf (fun hw14 => ?_)
    refine e_aload_n C 0 dX10_checksum_53 rfl ?_
    refine e_aload_n C 0 dX10_checksum_54 rfl ?_
    refine e_iload_n C 1 dX10_checksum_55 rfl ?_
    refine e_iconst C dX10_checksum_56 ?_
    obtain ⟨o15, H⟩ := H
    refine e_callVD (As := [vI x1, vI 1]) (rest := [.ref (ad 0)]) (q0 := 0) (ci := 10) C Y mi_X10_optionsOf ms_X10_optionsOf mv_X10_optionsOf ml_X10_164 (s_X10_optionsOf r1 (by decide) o15) rfl rfl (by decide) (Nat.le_of_ble_eq_true rfl) hk hn dX10_checksum_57 rfl ?_
    refine e_i2l C (hw14.2.1 3 _ (by decide)) dX10_checksum_60 ?_
    obtain ⟨Q18, h16, H⟩ := H
    refine e_callVV (As := [vL (M12 3 (2 * x1 + (1 : Int)))]) (rest := []) (q0 := 0) (ci := 10) C Y mi_X10_mix ms_X10_mix mv_X10_mix ml_X10_415 h16 rfl rfl (by decide) (Nat.le_of_ble_eq_true rfl) hk hn dX10_checksum_61 rfl (fun M17 hq9 => ?_)
    replace H := H M17 hq9
    refine e_wf (fun hw19 => ?_)
    refine e_iconst C dX10_checksum_64 ?_
    refine e_istore_n C dX10_checksum_65 (by decide) rfl ?_
    exact e_sub [1, 2, 0] rfl H
set_option maxRecDepth 4000 in
theorem B_X10_checksum_66 {g : Gs} {ad : Nat → Nat} {X : Cx} {mc ms k n : Nat} {PQ : Option Value → Mem → Prop} {PX : String → Mem → Prop} {M : Mem} {x1 x2 : Int} (r1 : R32 x1) (r2 : R32 x2) (hk : k ≤ mc) (hn : n ≤ ms) (C : OkB (wM g ad) X cX10_checksum RX10 4 3 mc ms) (Y : OkR (wM g ad) X (some .long) mc ms PQ PX) (H : (((2 ≤ x2) → (0 ≤ x1 ∧ x1 < 40) ∧ ∃ Q4 : Mem → Prop, SpV (wM g ad) yX10_mix cX10_mix 3 none 1 [.ref (ad 0), vL (M 13 x1)] M Q4 ∧ ∀ M3 : Mem, Q4 M3 → ∃ Q8 : Mem → Prop, SpV (wM g ad) yX10_mix cX10_mix 3 none 1 [.ref (ad 0), vL (M3 14 x1)] M3 Q8 ∧ ∀ M7 : Mem, Q8 M7 → ((0 ≤ x1 ∧ x1 < 40) ∧ (0 ≤ (0 : Int) ∧ (0 : Int) ≤ 1) ∧ 0 ≤ (0 : Int) ∧ (0 : Int) < 7200) ∧ ∃ Q13 : Mem → Prop, SpV (wM g ad) yX10_mix cX10_mix 3 none 1 [.ref (ad 0), vL (M7 15 (7200 * (2 * x1 + (0 : Int)) + (0 : Int)))] M7 Q13 ∧ ∀ M12 : Mem, Q13 M12 → ((0 ≤ x1 ∧ x1 < 40) ∧ (0 ≤ (1 : Int) ∧ (1 : Int) ≤ 1) ∧ 0 ≤ (0 : Int) ∧ (0 : Int) < 7200) ∧ ∃ Q18 : Mem → Prop, SpV (wM g ad) yX10_mix cX10_mix 3 none 1 [.ref (ad 0), vL (M12 15 (7200 * (2 * x1 + (1 : Int)) + (0 : Int)))] M12 Q18 ∧ ∀ M17 : Mem, Q18 M17 → (R32 (x1 + 1)) ∧ E (wM g ad) X k n M17 23 [(0, .ref (ad 0)), (1, vI (x1 + 1))] []) ∧ ((x2 < 2) → E (wM g ad) X k n M 73 [(0, .ref (ad 0)), (1, vI x1), (2, vI x2), (3, vI 0)] []))) : E (wM g ad) X k n M 66 [(0, .ref (ad 0)), (1, vI x1), (2, vI x2)] [] := by
  refine e_wf (fun hw0 => ?_)
  refine e_iload_n C 2 dX10_checksum_66 rfl ?_
  refine e_iconst C dX10_checksum_67 ?_
  refine e_icmp_ge C 107 r2 (by decide) dX10_checksum_68 (by decide) (fun c9 => ?_) (fun c9 => ?_)
  · replace H := H.1 c9
    refine e_aload_n C 0 dX10_checksum_107 rfl ?_
    refine e_aload_n C 0 dX10_checksum_108 rfl ?_
    refine gM_13 C dX10_checksum_109 ?_
    refine e_iload_n C 1 dX10_checksum_112 rfl ?_
    obtain ⟨o1, H⟩ := H
    refine aM_13 C o1 dX10_checksum_113 ?_
    refine e_i2l C (hw0.2.1 13 _ (by decide)) dX10_checksum_114 ?_
    obtain ⟨Q4, h2, H⟩ := H
    refine e_callVV (As := [vL (M 13 x1)]) (rest := []) (q0 := 0) (ci := 10) C Y mi_X10_mix ms_X10_mix mv_X10_mix ml_X10_415 h2 rfl rfl (by decide) (Nat.le_of_ble_eq_true rfl) hk hn dX10_checksum_115 rfl (fun M3 hq9 => ?_)
    replace H := H M3 hq9
    refine e_wf (fun hw5 => ?_)
    refine e_aload_n C 0 dX10_checksum_118 rfl ?_
    refine e_aload_n C 0 dX10_checksum_119 rfl ?_
    refine gM_14 C dX10_checksum_120 ?_
    refine e_iload_n C 1 dX10_checksum_123 rfl ?_
    refine aM_14 C o1 dX10_checksum_124 ?_
    refine e_i2l C (hw5.2.1 14 _ (by decide)) dX10_checksum_125 ?_
    obtain ⟨Q8, h6, H⟩ := H
    refine e_callVV (As := [vL (M3 14 x1)]) (rest := []) (q0 := 0) (ci := 10) C Y mi_X10_mix ms_X10_mix mv_X10_mix ml_X10_415 h6 rfl rfl (by decide) (Nat.le_of_ble_eq_true rfl) hk hn dX10_checksum_126 rfl (fun M7 hq9 => ?_)
    replace H := H M7 hq9
    refine e_wf (fun hw9 => ?_)
    refine e_aload_n C 0 dX10_checksum_129 rfl ?_
    refine e_aload_n C 0 dX10_checksum_130 rfl ?_
    refine e_iload_n C 1 dX10_checksum_131 rfl ?_
    refine e_iconst C dX10_checksum_132 ?_
    refine e_iconst C dX10_checksum_133 ?_
    obtain ⟨o10, H⟩ := H
    refine e_callVD (As := [vI x1, vI 0, vI 0]) (rest := [.ref (ad 0)]) (q0 := 0) (ci := 10) C Y mi_X10_sample ms_X10_sample mv_X10_sample ml_X10_214 (s_X10_sample r1 (by decide) (by decide) o10) rfl rfl (by decide) (Nat.le_of_ble_eq_true rfl) hk hn dX10_checksum_134 rfl ?_
    refine e_i2l C (hw9.2.1 15 _ (by decide)) dX10_checksum_137 ?_
    obtain ⟨Q13, h11, H⟩ := H
    refine e_callVV (As := [vL (M7 15 (7200 * (2 * x1 + (0 : Int)) + (0 : Int)))]) (rest := []) (q0 := 0) (ci := 10) C Y mi_X10_mix ms_X10_mix mv_X10_mix ml_X10_415 h11 rfl rfl (by decide) (Nat.le_of_ble_eq_true rfl) hk hn dX10_checksum_138 rfl (fun M12 hq9 => ?_)
    replace H := H M12 hq9
    refine e_wf (fun hw14 => ?_)
    refine e_aload_n C 0 dX10_checksum_141 rfl ?_
    refine e_aload_n C 0 dX10_checksum_142 rfl ?_
    refine e_iload_n C 1 dX10_checksum_143 rfl ?_
    refine e_iconst C dX10_checksum_144 ?_
    refine e_iconst C dX10_checksum_145 ?_
    obtain ⟨o15, H⟩ := H
    refine e_callVD (As := [vI x1, vI 1, vI 0]) (rest := [.ref (ad 0)]) (q0 := 0) (ci := 10) C Y mi_X10_sample ms_X10_sample mv_X10_sample ml_X10_214 (s_X10_sample r1 (by decide) (by decide) o15) rfl rfl (by decide) (Nat.le_of_ble_eq_true rfl) hk hn dX10_checksum_146 rfl ?_
    refine e_i2l C (hw14.2.1 15 _ (by decide)) dX10_checksum_149 ?_
    obtain ⟨Q18, h16, H⟩ := H
    refine e_callVV (As := [vL (M12 15 (7200 * (2 * x1 + (1 : Int)) + (0 : Int)))]) (rest := []) (q0 := 0) (ci := 10) C Y mi_X10_mix ms_X10_mix mv_X10_mix ml_X10_415 h16 rfl rfl (by decide) (Nat.le_of_ble_eq_true rfl) hk hn dX10_checksum_150 rfl (fun M17 hq9 => ?_)
    replace H := H M17 hq9
    refine e_wf (fun hw19 => ?_)
    obtain ⟨o20, H⟩ := H
    refine e_iinc C 1 dX10_checksum_153 rfl (by decide) rfl ?_
    refine e_goto C 23 dX10_checksum_156 (by decide) ?_
    exact e_sub [1, 0] rfl H
  · replace H := H.2 c9
    refine e_iconst C dX10_checksum_71 ?_
    refine e_istore_n C dX10_checksum_72 (by decide) rfl ?_
    exact e_sub [1, 2, 3, 0] rfl H
set_option maxRecDepth 4000 in
theorem B_X10_checksum_73 {g : Gs} {ad : Nat → Nat} {X : Cx} {mc ms k n : Nat} {PQ : Option Value → Mem → Prop} {PX : String → Mem → Prop} {M : Mem} {x1 x2 x3 : Int} (r1 : R32 x1) (r2 : R32 x2) (r3 : R32 x3) (hk : k ≤ mc) (hn : n ≤ ms) (C : OkB (wM g ad) X cX10_checksum RX10 4 3 mc ms) (Y : OkR (wM g ad) X (some .long) mc ms PQ PX) (H : ((0 ≤ x1 ∧ x1 < 40) ∧ 0 ≤ x2 ∧ x2 ≤ 1) ∧ ((((M 3 (2 * x1 + x2)) ≤ x3) → (R32 (x2 + 1)) ∧ E (wM g ad) X k n M 66 [(0, .ref (ad 0)), (1, vI x1), (2, vI (x2 + 1))] []) ∧ ((x3 < (M 3 (2 * x1 + x2))) → ((0 ≤ x1 ∧ x1 < 40) ∧ (0 ≤ x2 ∧ x2 ≤ 1) ∧ 0 ≤ x3 ∧ x3 < 4) ∧ ∃ Q6 : Mem → Prop, SpV (wM g ad) yX10_mix cX10_mix 3 none 1 [.ref (ad 0), vL (M 4 (8 * x1 + 4 * x2 + x3))] M Q6 ∧ ∀ M5 : Mem, Q6 M5 → (R32 (x3 + 1)) ∧ E (wM g ad) X k n M5 73 [(0, .ref (ad 0)), (1, vI x1), (2, vI x2), (3, vI (x3 + 1))] []))) : E (wM g ad) X k n M 73 [(0, .ref (ad 0)), (1, vI x1), (2, vI x2), (3, vI x3)] [] := by
  refine e_wf (fun hw0 => ?_)
  refine e_iload_n C 3 dX10_checksum_73 rfl ?_
  refine e_aload_n C 0 dX10_checksum_74 rfl ?_
  refine e_iload_n C 1 dX10_checksum_75 rfl ?_
  refine e_iload_n C 2 dX10_checksum_76 rfl ?_
  obtain ⟨o1, H⟩ := H
  refine e_callVD (As := [vI x1, vI x2]) (rest := [vI x3]) (q0 := 0) (ci := 10) C Y mi_X10_optionsOf ms_X10_optionsOf mv_X10_optionsOf ml_X10_164 (s_X10_optionsOf r1 r2 o1) rfl rfl (by decide) (Nat.le_of_ble_eq_true rfl) hk hn dX10_checksum_77 rfl ?_
  refine e_icmp_ge C 101 r3 (hw0.2.1 3 _ (by decide)) dX10_checksum_80 (by decide) (fun c9 => ?_) (fun c9 => ?_)
  · replace H := H.1 c9
    obtain ⟨o2, H⟩ := H
    refine e_iinc C 2 dX10_checksum_101 rfl (by decide) rfl ?_
    refine e_goto C 66 dX10_checksum_104 (by decide) ?_
    exact e_sub [1, 2, 0] rfl H
  · replace H := H.2 c9
    refine e_aload_n C 0 dX10_checksum_83 rfl ?_
    refine e_aload_n C 0 dX10_checksum_84 rfl ?_
    refine e_iload_n C 1 dX10_checksum_85 rfl ?_
    refine e_iload_n C 2 dX10_checksum_86 rfl ?_
    refine e_iload_n C 3 dX10_checksum_87 rfl ?_
    obtain ⟨o3, H⟩ := H
    refine e_callVD (As := [vI x1, vI x2, vI x3]) (rest := [.ref (ad 0)]) (q0 := 0) (ci := 10) C Y mi_X10_optionOf ms_X10_optionOf mv_X10_optionOf ml_X10_167 (s_X10_optionOf r1 r2 r3 o3) rfl rfl (by decide) (Nat.le_of_ble_eq_true rfl) hk hn dX10_checksum_88 rfl ?_
    refine e_i2l C (hw0.2.1 4 _ (by decide)) dX10_checksum_91 ?_
    obtain ⟨Q6, h4, H⟩ := H
    refine e_callVV (As := [vL (M 4 (8 * x1 + 4 * x2 + x3))]) (rest := []) (q0 := 0) (ci := 10) C Y mi_X10_mix ms_X10_mix mv_X10_mix ml_X10_415 h4 rfl rfl (by decide) (Nat.le_of_ble_eq_true rfl) hk hn dX10_checksum_92 rfl (fun M5 hq9 => ?_)
    replace H := H M5 hq9
    refine e_wf (fun hw7 => ?_)
    obtain ⟨o8, H⟩ := H
    refine e_iinc C 3 dX10_checksum_95 rfl (by decide) rfl ?_
    refine e_goto C 73 dX10_checksum_98 (by decide) ?_
    exact e_sub [1, 2, 3, 0] rfl H
set_option maxRecDepth 4000 in
theorem B_X10_checksum_170 {g : Gs} {ad : Nat → Nat} {X : Cx} {mc ms k n : Nat} {PQ : Option Value → Mem → Prop} {PX : String → Mem → Prop} {M : Mem} {x1 : Int} (r1 : R32 x1) (hk : k ≤ mc) (hn : n ≤ ms) (C : OkB (wM g ad) X cX10_checksum RX10 4 3 mc ms) (Y : OkR (wM g ad) X (some .long) mc ms PQ PX) (H : ((((M 16 0) ≤ x1) → ∃ Q3 : Mem → Prop, SpV (wM g ad) yX10_mix cX10_mix 3 none 1 [.ref (ad 0), vL (M 24 0)] M Q3 ∧ ∀ M2 : Mem, Q3 M2 → ∃ Q7 : Mem → Prop, SpV (wM g ad) yX10_mix cX10_mix 3 none 1 [.ref (ad 0), vL (M2 21 0)] M2 Q7 ∧ ∀ M6 : Mem, Q7 M6 → ∃ Q11 : Mem → Prop, SpV (wM g ad) yX10_mix cX10_mix 3 none 1 [.ref (ad 0), vL (M6 21 1)] M6 Q11 ∧ ∀ M10 : Mem, Q11 M10 → ∃ Q15 : Mem → Prop, SpV (wM g ad) yX10_mix cX10_mix 3 none 1 [.ref (ad 0), vL (M10 18 0)] M10 Q15 ∧ ∀ M14 : Mem, Q15 M14 → PQ (some (vL (M14 63 0))) M14) ∧ ((x1 < (M 16 0)) → (0 ≤ x1 ∧ x1 < 4) ∧ ∃ Q20 : Mem → Prop, SpV (wM g ad) yX10_mix cX10_mix 3 none 1 [.ref (ad 0), vL (M 17 x1)] M Q20 ∧ ∀ M19 : Mem, Q20 M19 → (R32 (x1 + 1)) ∧ E (wM g ad) X k n M19 170 [(0, .ref (ad 0)), (1, vI (x1 + 1))] []))) : E (wM g ad) X k n M 170 [(0, .ref (ad 0)), (1, vI x1)] [] := by
  refine e_wf (fun hw0 => ?_)
  refine e_iload_n C 1 dX10_checksum_170 rfl ?_
  refine e_aload_n C 0 dX10_checksum_171 rfl ?_
  refine gM_16 C dX10_checksum_172 ?_
  refine e_icmp_ge C 195 r1 (hw0.2.1 16 _ (by decide)) dX10_checksum_175 (by decide) (fun c9 => ?_) (fun c9 => ?_)
  · replace H := H.1 c9
    refine e_aload_n C 0 dX10_checksum_195 rfl ?_
    refine e_aload_n C 0 dX10_checksum_196 rfl ?_
    refine gM_24 C dX10_checksum_197 ?_
    refine e_i2l C (hw0.2.1 24 _ (by decide)) dX10_checksum_200 ?_
    obtain ⟨Q3, h1, H⟩ := H
    refine e_callVV (As := [vL (M 24 0)]) (rest := []) (q0 := 0) (ci := 10) C Y mi_X10_mix ms_X10_mix mv_X10_mix ml_X10_415 h1 rfl rfl (by decide) (Nat.le_of_ble_eq_true rfl) hk hn dX10_checksum_201 rfl (fun M2 hq9 => ?_)
    replace H := H M2 hq9
    refine e_wf (fun hw4 => ?_)
    refine e_aload_n C 0 dX10_checksum_204 rfl ?_
    refine e_aload_n C 0 dX10_checksum_205 rfl ?_
    refine gM_21 C dX10_checksum_206 ?_
    refine e_iconst C dX10_checksum_209 ?_
    refine aM_21 C (by decide) dX10_checksum_210 ?_
    refine e_i2l C (hw4.2.1 21 _ (by decide)) dX10_checksum_211 ?_
    obtain ⟨Q7, h5, H⟩ := H
    refine e_callVV (As := [vL (M2 21 0)]) (rest := []) (q0 := 0) (ci := 10) C Y mi_X10_mix ms_X10_mix mv_X10_mix ml_X10_415 h5 rfl rfl (by decide) (Nat.le_of_ble_eq_true rfl) hk hn dX10_checksum_212 rfl (fun M6 hq9 => ?_)
    replace H := H M6 hq9
    refine e_wf (fun hw8 => ?_)
    refine e_aload_n C 0 dX10_checksum_215 rfl ?_
    refine e_aload_n C 0 dX10_checksum_216 rfl ?_
    refine gM_21 C dX10_checksum_217 ?_
    refine e_iconst C dX10_checksum_220 ?_
    refine aM_21 C (by decide) dX10_checksum_221 ?_
    refine e_i2l C (hw8.2.1 21 _ (by decide)) dX10_checksum_222 ?_
    obtain ⟨Q11, h9, H⟩ := H
    refine e_callVV (As := [vL (M6 21 1)]) (rest := []) (q0 := 0) (ci := 10) C Y mi_X10_mix ms_X10_mix mv_X10_mix ml_X10_415 h9 rfl rfl (by decide) (Nat.le_of_ble_eq_true rfl) hk hn dX10_checksum_223 rfl (fun M10 hq9 => ?_)
    replace H := H M10 hq9
    refine e_wf (fun hw12 => ?_)
    refine e_aload_n C 0 dX10_checksum_226 rfl ?_
    refine e_aload_n C 0 dX10_checksum_227 rfl ?_
    refine gM_18 C dX10_checksum_228 ?_
    refine e_i2l C (hw12.2.1 18 _ (by decide)) dX10_checksum_231 ?_
    obtain ⟨Q15, h13, H⟩ := H
    refine e_callVV (As := [vL (M10 18 0)]) (rest := []) (q0 := 0) (ci := 10) C Y mi_X10_mix ms_X10_mix mv_X10_mix ml_X10_415 h13 rfl rfl (by decide) (Nat.le_of_ble_eq_true rfl) hk hn dX10_checksum_232 rfl (fun M14 hq9 => ?_)
    replace H := H M14 hq9
    refine e_wf (fun hw16 => ?_)
    refine e_aload_n C 0 dX10_checksum_235 rfl ?_
    refine gM_63 C dX10_checksum_236 ?_
    exact e_lret C Y hk hn dX10_checksum_239 H
  · replace H := H.2 c9
    refine e_aload_n C 0 dX10_checksum_178 rfl ?_
    refine e_aload_n C 0 dX10_checksum_179 rfl ?_
    refine gM_17 C dX10_checksum_180 ?_
    refine e_iload_n C 1 dX10_checksum_183 rfl ?_
    obtain ⟨o17, H⟩ := H
    refine aM_17 C o17 dX10_checksum_184 ?_
    refine e_i2l C (hw0.2.1 17 _ (by decide)) dX10_checksum_185 ?_
    obtain ⟨Q20, h18, H⟩ := H
    refine e_callVV (As := [vL (M 17 x1)]) (rest := []) (q0 := 0) (ci := 10) C Y mi_X10_mix ms_X10_mix mv_X10_mix ml_X10_415 h18 rfl rfl (by decide) (Nat.le_of_ble_eq_true rfl) hk hn dX10_checksum_186 rfl (fun M19 hq9 => ?_)
    replace H := H M19 hq9
    refine e_wf (fun hw21 => ?_)
    obtain ⟨o22, H⟩ := H
    refine e_iinc C 1 dX10_checksum_189 rfl (by decide) rfl ?_
    refine e_goto C 170 dX10_checksum_192 (by decide) ?_
    exact e_sub [1, 0] rfl H
set_option maxRecDepth 4000 in
theorem B_X10_laysWalls_0 {g : Gs} {ad : Nat → Nat} {X : Cx} {mc ms k n : Nat} {PQ : Option Value → Mem → Prop} {PX : String → Mem → Prop} {M : Mem} {x1 : Int} (r1 : R32 x1) (hk : k ≤ mc) (hn : n ≤ ms) (C : OkB (wM g ad) X cX10_laysWalls RX10 6 4 mc ms) (Y : OkR (wM g ad) X none mc ms PQ PX) (H : (0 ≤ x1 ∧ x1 < 40) ∧ E (wM g ad) X k n (up (up M 13 x1 (M 7 x1)) 14 x1 (-1)) 28 [(0, .ref (ad 0)), (1, vI x1), (2, vI (M 6 x1)), (3, vI 0)] []) : E (wM g ad) X k n M 0 [(0, .ref (ad 0)), (1, vI x1)] [] := by
  refine e_wf (fun hw0 => ?_)
  refine e_aload_n C 0 dX10_laysWalls_0 rfl ?_
  refine gM_13 C dX10_laysWalls_1 ?_
  refine e_iload_n C 1 dX10_laysWalls_4 rfl ?_
  refine e_aload_n C 0 dX10_laysWalls_5 rfl ?_
  refine gM_7 C dX10_laysWalls_6 ?_
  refine e_iload_n C 1 dX10_laysWalls_9 rfl ?_
  obtain ⟨o1, H⟩ := H
  refine aM_7 C o1 dX10_laysWalls_10 ?_
  refine sM_13 C o1 (hw0.2.1 7 _ (by decide)) dX10_laysWalls_11 ?_
  refine e_wf (fun hw2 => ?_)
  refine e_aload_n C 0 dX10_laysWalls_12 rfl ?_
  refine gM_14 C dX10_laysWalls_13 ?_
  refine e_iload_n C 1 dX10_laysWalls_16 rfl ?_
  refine e_iconst C dX10_laysWalls_17 ?_
  refine sM_14 C o1 (by decide) dX10_laysWalls_18 ?_
  refine e_wf (fun hw3 => ?_)
  refine e_aload_n C 0 dX10_laysWalls_19 rfl ?_
  refine gM_6 C dX10_laysWalls_20 ?_
  refine e_iload_n C 1 dX10_laysWalls_23 rfl ?_
  refine aM_6 C o1 dX10_laysWalls_24 ?_
  refine e_istore_n C dX10_laysWalls_25 (by decide) rfl ?_
  refine e_iconst C dX10_laysWalls_26 ?_
  refine e_istore_n C dX10_laysWalls_27 (by decide) rfl ?_
  exact e_sub [2, 3, 1, 0] rfl H
set_option maxRecDepth 4000 in
theorem B_X10_laysWalls_28 {g : Gs} {ad : Nat → Nat} {X : Cx} {mc ms k n : Nat} {PQ : Option Value → Mem → Prop} {PX : String → Mem → Prop} {M : Mem} {x1 x2 x3 : Int} (r1 : R32 x1) (r2 : R32 x2) (r3 : R32 x3) (hk : k ≤ mc) (hn : n ≤ ms) (C : OkB (wM g ad) X cX10_laysWalls RX10 6 4 mc ms) (Y : OkR (wM g ad) X none mc ms PQ PX) (H : (((7200 ≤ x3) → PQ none M) ∧ ((x3 < 7200) → (((x2 = 0) → ∃ Q3 : Int → Mem → Prop, SpI (wM g ad) yX10_taxed cX10_taxed 7 (some .int) 3 [.ref (ad 0), vI x1, vI 0, vI x3] M Q3 ∧ ∀ (z4 : Int) (M2 : Mem), Q3 z4 M2 → R32 z4 ∧ E (wM g ad) X k n M2 55 [(0, .ref (ad 0)), (1, vI x1), (2, vI x2), (3, vI x3)] [vI z4]) ∧ ((x2 ≠ 0) → (0 ≤ x1 ∧ x1 < 40) ∧ E (wM g ad) X k n M 55 [(0, .ref (ad 0)), (1, vI x1), (2, vI x2), (3, vI x3)] [vI (M 13 x1)]))))) : E (wM g ad) X k n M 28 [(0, .ref (ad 0)), (1, vI x1), (2, vI x2), (3, vI x3)] [] := by
  refine e_wf (fun hw0 => ?_)
  refine e_iload_n C 3 dX10_laysWalls_28 rfl ?_
  refine e_sipush C dX10_laysWalls_29 (by decide) ?_
  refine e_icmp_ge C 137 r3 (by decide) dX10_laysWalls_32 (by decide) (fun c9 => ?_) (fun c9 => ?_)
  · replace H := H.1 c9
    exact e_vret C Y hk hn dX10_laysWalls_137 H
  · replace H := H.2 c9
    refine e_iload_n C 2 dX10_laysWalls_35 rfl ?_
    refine e_if_eq C 48 r2 dX10_laysWalls_36 (by decide) (fun c9 => ?_) (fun c9 => ?_)
    · replace H := H.1 c9
      refine e_aload_n C 0 dX10_laysWalls_48 rfl ?_
      refine e_iload_n C 1 dX10_laysWalls_49 rfl ?_
      refine e_iconst C dX10_laysWalls_50 ?_
      refine e_iload_n C 3 dX10_laysWalls_51 rfl ?_
      obtain ⟨Q3, h1, H⟩ := H
      refine e_callVI (As := [vI x1, vI 0, vI x3]) (rest := []) (q0 := 0) (ci := 10) C Y mi_X10_taxed ms_X10_taxed mv_X10_taxed ml_X10_217 h1 rfl rfl (by decide) (Nat.le_of_ble_eq_true rfl) hk hn dX10_laysWalls_52 rfl (fun z4 M2 hq9 => ?_)
      obtain ⟨o5, H⟩ := H z4 M2 hq9
      refine e_wf (fun hw6 => ?_)
      exact e_sub [0, 1, 2, 3] rfl H
    · replace H := H.2 c9
      refine e_aload_n C 0 dX10_laysWalls_39 rfl ?_
      refine gM_13 C dX10_laysWalls_40 ?_
      refine e_iload_n C 1 dX10_laysWalls_43 rfl ?_
      obtain ⟨o7, H⟩ := H
      refine aM_13 C o7 dX10_laysWalls_44 ?_
      refine e_goto C 55 dX10_laysWalls_45 (by decide) ?_
      exact e_sub [0, 1, 2, 3] rfl H
set_option maxRecDepth 4000 in
theorem B_X10_laysWalls_55 {g : Gs} {ad : Nat → Nat} {X : Cx} {mc ms k n : Nat} {PQ : Option Value → Mem → Prop} {PX : String → Mem → Prop} {M : Mem} {x1 x2 x3 t0 : Int} (r1 : R32 x1) (r2 : R32 x2) (r3 : R32 x3) (q0 : R32 t0) (hk : k ≤ mc) (hn : n ≤ ms) (C : OkB (wM g ad) X cX10_laysWalls RX10 6 4 mc ms) (Y : OkR (wM g ad) X none mc ms PQ PX) (H : (((x2 = 0) → ∃ Q3 : Int → Mem → Prop, SpI (wM g ad) yX10_taxed cX10_taxed 7 (some .int) 3 [.ref (ad 0), vI x1, vI 1, vI x3] M Q3 ∧ ∀ (z4 : Int) (M2 : Mem), Q3 z4 M2 → R32 z4 ∧ E (wM g ad) X k n M2 77 [(0, .ref (ad 0)), (1, vI x1), (2, vI x2), (3, vI x3), (4, vI t0)] [vI z4]) ∧ ((x2 ≠ 0) → (0 ≤ x1 ∧ x1 < 40) ∧ E (wM g ad) X k n M 77 [(0, .ref (ad 0)), (1, vI x1), (2, vI x2), (3, vI x3), (4, vI t0)] [vI (M 13 x1)]))) : E (wM g ad) X k n M 55 [(0, .ref (ad 0)), (1, vI x1), (2, vI x2), (3, vI x3)] [vI t0] := by
  refine e_wf (fun hw0 => ?_)
  refine e_istore C dX10_laysWalls_55 (by decide) rfl ?_
  refine e_iload_n C 3 dX10_laysWalls_57 rfl ?_
  refine e_if_eq C 70 r2 dX10_laysWalls_58 (by decide) (fun c9 => ?_) (fun c9 => ?_)
  · replace H := H.1 c9
    refine e_aload_n C 1 dX10_laysWalls_70 rfl ?_
    refine e_iload_n C 2 dX10_laysWalls_71 rfl ?_
    refine e_iconst C dX10_laysWalls_72 ?_
    refine e_iload_n C 4 dX10_laysWalls_73 rfl ?_
    obtain ⟨Q3, h1, H⟩ := H
    refine e_callVI (As := [vI x1, vI 1, vI x3]) (rest := []) (q0 := 0) (ci := 10) C Y mi_X10_taxed ms_X10_taxed mv_X10_taxed ml_X10_217 h1 rfl rfl (by decide) (Nat.le_of_ble_eq_true rfl) hk hn dX10_laysWalls_74 rfl (fun z4 M2 hq9 => ?_)
    obtain ⟨o5, H⟩ := H z4 M2 hq9
    refine e_wf (fun hw6 => ?_)
    exact e_sub [1, 2, 3, 4, 0] rfl H
  · replace H := H.2 c9
    refine e_aload_n C 1 dX10_laysWalls_61 rfl ?_
    refine gM_13 C dX10_laysWalls_62 ?_
    refine e_iload_n C 2 dX10_laysWalls_65 rfl ?_
    obtain ⟨o7, H⟩ := H
    refine aM_13 C o7 dX10_laysWalls_66 ?_
    refine e_goto C 77 dX10_laysWalls_67 (by decide) ?_
    exact e_sub [1, 2, 3, 4, 0] rfl H
set_option maxRecDepth 4000 in
theorem B_X10_laysWalls_77 {g : Gs} {ad : Nat → Nat} {X : Cx} {mc ms k n : Nat} {PQ : Option Value → Mem → Prop} {PX : String → Mem → Prop} {M : Mem} {x1 x2 x3 x4 t0 : Int} (r1 : R32 x1) (r2 : R32 x2) (r3 : R32 x3) (r4 : R32 x4) (q0 : R32 t0) (hk : k ≤ mc) (hn : n ≤ ms) (C : OkB (wM g ad) X cX10_laysWalls RX10 6 4 mc ms) (Y : OkR (wM g ad) X none mc ms PQ PX) (H : (((x2 ≠ 0) → E (wM g ad) X k n M 113 [(0, .ref (ad 0)), (1, vI x1), (2, vI x2), (3, vI x3), (4, vI x4), (5, vI t0)] []) ∧ ((x2 = 0) → (((t0 < x4) → E (wM g ad) X k n M 113 [(0, .ref (ad 0)), (1, vI x1), (2, vI x2), (3, vI x3), (4, vI x4), (5, vI t0)] []) ∧ ((x4 ≤ t0) → ((0 ≤ x1 ∧ x1 < 40) ∧ (R32 (2 * x3))) ∧ E (wM g ad) X k n (up (up M 13 x1 x4) 14 x1 (2 * x3)) 113 [(0, .ref (ad 0)), (1, vI x1), (2, vI 1), (3, vI x3), (4, vI x4), (5, vI x4)] []))))) : E (wM g ad) X k n M 77 [(0, .ref (ad 0)), (1, vI x1), (2, vI x2), (3, vI x3), (4, vI x4)] [vI t0] := by
  refine e_wf (fun hw0 => ?_)
  refine e_istore C dX10_laysWalls_77 (by decide) rfl ?_
  refine e_iload_n C 3 dX10_laysWalls_79 rfl ?_
  refine e_if_ne C 113 r2 dX10_laysWalls_80 (by decide) (fun c9 => ?_) (fun c9 => ?_)
  · replace H := H.1 c9
    exact e_sub [1, 2, 3, 4, 5, 0] rfl H
  · replace H := H.2 c9
    refine e_iload C 5 dX10_laysWalls_83 rfl ?_
    refine e_iload C 0 dX10_laysWalls_85 rfl ?_
    refine e_icmp_gt C 113 r4 q0 dX10_laysWalls_87 (by decide) (fun c9 => ?_) (fun c9 => ?_)
    · replace H := H.1 c9
      exact e_sub [1, 2, 3, 4, 5, 0] rfl H
    · replace H := H.2 c9
      refine e_iconst C dX10_laysWalls_90 ?_
      refine e_istore_n C dX10_laysWalls_91 (by decide) rfl ?_
      refine e_aload_n C 2 dX10_laysWalls_92 rfl ?_
      refine gM_13 C dX10_laysWalls_93 ?_
      refine e_iload_n C 3 dX10_laysWalls_96 rfl ?_
      refine e_iload C 5 dX10_laysWalls_97 rfl ?_
      obtain ⟨⟨o1, o3⟩, H⟩ := H
      refine sM_13 C o1 r4 dX10_laysWalls_99 ?_
      refine e_wf (fun hw2 => ?_)
      refine e_aload_n C 2 dX10_laysWalls_100 rfl ?_
      refine gM_14 C dX10_laysWalls_101 ?_
      refine e_iload_n C 3 dX10_laysWalls_104 rfl ?_
      refine e_iconst C dX10_laysWalls_105 ?_
      refine e_iload_n C 4 dX10_laysWalls_106 rfl ?_
      refine e_imul C dX10_laysWalls_107 ?_
      refine sM_14 C o1 o3 dX10_laysWalls_108 ?_
      refine e_wf (fun hw4 => ?_)
      refine e_iload C 5 dX10_laysWalls_109 rfl ?_
      refine e_istore C dX10_laysWalls_111 (by decide) rfl ?_
      exact e_sub [2, 3, 1, 4, 5, 0] rfl H
set_option maxRecDepth 4000 in
theorem B_X10_laysWalls_113 {g : Gs} {ad : Nat → Nat} {X : Cx} {mc ms k n : Nat} {PQ : Option Value → Mem → Prop} {PX : String → Mem → Prop} {M : Mem} {x1 x2 x3 x4 x5 : Int} (r1 : R32 x1) (r2 : R32 x2) (r3 : R32 x3) (r4 : R32 x4) (r5 : R32 x5) (hk : k ≤ mc) (hn : n ≤ ms) (C : OkB (wM g ad) X cX10_laysWalls RX10 6 4 mc ms) (Y : OkR (wM g ad) X none mc ms PQ PX) (H : (((0 ≤ x1 ∧ x1 < 40) ∧ (0 ≤ (0 : Int) ∧ (0 : Int) ≤ 1) ∧ 0 ≤ x3 ∧ x3 < 7200) ∧ ((0 ≤ x1 ∧ x1 < 40) ∧ (0 ≤ (1 : Int) ∧ (1 : Int) ≤ 1) ∧ 0 ≤ x3 ∧ x3 < 7200) ∧ (R32 (x3 + 1))) ∧ E (wM g ad) X k n (up (up M 15 (7200 * (2 * x1 + (0 : Int)) + x3) x4) 15 (7200 * (2 * x1 + (1 : Int)) + x3) x5) 28 [(0, .ref (ad 0)), (1, vI x1), (2, vI x2), (3, vI (x3 + 1))] []) : E (wM g ad) X k n M 113 [(0, .ref (ad 0)), (1, vI x1), (2, vI x2), (3, vI x3), (4, vI x4), (5, vI x5)] [] := by
  refine e_wf (fun hw0 => ?_)
  refine e_aload_n C 0 dX10_laysWalls_113 rfl ?_
  refine e_iload_n C 1 dX10_laysWalls_114 rfl ?_
  refine e_iconst C dX10_laysWalls_115 ?_
  refine e_iload_n C 3 dX10_laysWalls_116 rfl ?_
  refine e_iload C 4 dX10_laysWalls_117 rfl ?_
  obtain ⟨⟨o1, o3, o5⟩, H⟩ := H
  refine e_callVD (As := [vI x1, vI 0, vI x3, vI x4]) (rest := []) (q0 := 0) (ci := 10) C Y mi_X10_put ms_X10_put mv_X10_put ml_X10_220 (s_X10_put r1 (by decide) r3 r4 o1) rfl rfl (by decide) (Nat.le_of_ble_eq_true rfl) hk hn dX10_laysWalls_119 rfl ?_
  refine e_wf (fun hw2 => ?_)
  refine e_aload_n C 0 dX10_laysWalls_122 rfl ?_
  refine e_iload_n C 1 dX10_laysWalls_123 rfl ?_
  refine e_iconst C dX10_laysWalls_124 ?_
  refine e_iload_n C 3 dX10_laysWalls_125 rfl ?_
  refine e_iload C 5 dX10_laysWalls_126 rfl ?_
  refine e_callVD (As := [vI x1, vI 1, vI x3, vI x5]) (rest := []) (q0 := 0) (ci := 10) C Y mi_X10_put ms_X10_put mv_X10_put ml_X10_220 (s_X10_put r1 (by decide) r3 r5 o3) rfl rfl (by decide) (Nat.le_of_ble_eq_true rfl) hk hn dX10_laysWalls_128 rfl ?_
  refine e_wf (fun hw4 => ?_)
  refine e_iinc C 3 dX10_laysWalls_131 rfl (by decide) rfl ?_
  refine e_goto C 28 dX10_laysWalls_134 (by decide) ?_
  exact e_sub [1, 2, 3, 0] rfl H
set_option maxRecDepth 4000 in
theorem B_X10_options_0 {g : Gs} {ad : Nat → Nat} {X : Cx} {mc ms k n : Nat} {PQ : Option Value → Mem → Prop} {PX : String → Mem → Prop} {M : Mem} {x1 x2 : Int} (r1 : R32 x1) (r2 : R32 x2) (hk : k ≤ mc) (hn : n ≤ ms) (C : OkB (wM g ad) X cX10_options RX10 3 4 mc ms) (Y : OkR (wM g ad) X (some .int) mc ms PQ PX) (H : ∃ Q3 : Int → Mem → Prop, SpI (wM g ad) yX10_needSide cX10_needSide 3 (some .int) 3 [.ref (ad 0), vI x1, vI x2] M Q3 ∧ ∀ (z4 : Int) (M2 : Mem), Q3 z4 M2 → R32 z4 ∧ (((¬(0 < z4)) → ((0 ≤ x1 ∧ x1 < 40) ∧ 0 ≤ x2 ∧ x2 ≤ 1) ∧ PQ (some (vI (M2 3 (2 * x1 + x2)))) (up M2 20 0 z4)) ∧ ((0 < z4) → PQ (some (vI 0)) (up M2 20 0 z4)))) : E (wM g ad) X k n M 0 [(0, .ref (ad 0)), (1, vI x1), (2, vI x2)] [] := by
  refine e_wf (fun hw0 => ?_)
  refine e_aload_n C 0 dX10_options_0 rfl ?_
  refine e_aload_n C 0 dX10_options_1 rfl ?_
  refine e_iload_n C 1 dX10_options_2 rfl ?_
  refine e_iload_n C 2 dX10_options_3 rfl ?_
  obtain ⟨Q3, h1, H⟩ := H
  refine e_callVI (As := [vI x1, vI x2]) (rest := [.ref (ad 0)]) (q0 := 0) (ci := 10) C Y mi_X10_needSide ms_X10_needSide mv_X10_needSide ml_X10_242 h1 rfl rfl (by decide) (Nat.le_of_ble_eq_true rfl) hk hn dX10_options_4 rfl (fun z4 M2 hq9 => ?_)
  obtain ⟨o5, H⟩ := H z4 M2 hq9
  refine e_wf (fun hw6 => ?_)
  refine e_callVD (As := [vI z4]) (rest := []) (q0 := 0) (ci := 10) C Y mi_X10_refused ms_X10_refused mv_X10_refused ml_X10_227 (s_X10_refused o5) rfl rfl (by decide) (Nat.le_of_ble_eq_true rfl) hk hn dX10_options_7 rfl ?_
  refine e_wf (fun hw7 => ?_)
  refine e_if_eq C 17 (b2i_r _) dX10_options_10 (by decide) (fun c9 => ?_) (fun c9 => ?_)
  · replace H := H.1 (b2i_0.mp c9)
    refine e_aload_n C 0 dX10_options_17 rfl ?_
    refine e_iload_n C 1 dX10_options_18 rfl ?_
    refine e_iload_n C 2 dX10_options_19 rfl ?_
    obtain ⟨o8, H⟩ := H
    refine e_callVD (As := [vI x1, vI x2]) (rest := []) (q0 := 0) (ci := 10) C Y mi_X10_optionsOf ms_X10_optionsOf mv_X10_optionsOf ml_X10_164 (s_X10_optionsOf r1 r2 o8) rfl rfl (by decide) (Nat.le_of_ble_eq_true rfl) hk hn dX10_options_20 rfl ?_
    exact e_iret C Y hk hn dX10_options_23 H
  · replace H := H.2 (b2i_n0.mp c9)
    refine e_iconst C dX10_options_13 ?_
    refine e_goto C 23 dX10_options_14 (by decide) ?_
    exact e_iret C Y hk hn dX10_options_23 H
set_option maxRecDepth 4000 in
theorem B_X10_option_0 {g : Gs} {ad : Nat → Nat} {X : Cx} {mc ms k n : Nat} {PQ : Option Value → Mem → Prop} {PX : String → Mem → Prop} {M : Mem} {x1 x2 x3 : Int} (r1 : R32 x1) (r2 : R32 x2) (r3 : R32 x3) (hk : k ≤ mc) (hn : n ≤ ms) (C : OkB (wM g ad) X cX10_option RX10 4 4 mc ms) (Y : OkR (wM g ad) X (some .int) mc ms PQ PX) (H : ∃ Q3 : Int → Mem → Prop, SpI (wM g ad) yX10_needSide cX10_needSide 3 (some .int) 3 [.ref (ad 0), vI x1, vI x2] M Q3 ∧ ∀ (z4 : Int) (M2 : Mem), Q3 z4 M2 → R32 z4 ∧ (((¬(0 < z4)) → (((0 ≤ x1 ∧ x1 < 40) ∧ 0 ≤ x2 ∧ x2 ≤ 1) ∧ (R32 ((M2 3 (2 * x1 + x2)) - 1))) ∧ (((¬((0 : Int) ≤ x3 ∧ x3 ≤ ((M2 3 (2 * x1 + x2)) - 1))) → PQ (some (vI (-1))) (up M2 20 0 z4)) ∧ (((0 : Int) ≤ x3 ∧ x3 ≤ ((M2 3 (2 * x1 + x2)) - 1)) → ((0 ≤ x1 ∧ x1 < 40) ∧ (0 ≤ x2 ∧ x2 ≤ 1) ∧ 0 ≤ x3 ∧ x3 < 4) ∧ PQ (some (vI (M2 4 (8 * x1 + 4 * x2 + x3)))) (up M2 20 0 z4)))) ∧ ((0 < z4) → PQ (some (vI 0)) (up M2 20 0 z4)))) : E (wM g ad) X k n M 0 [(0, .ref (ad 0)), (1, vI x1), (2, vI x2), (3, vI x3)] [] := by
  refine e_wf (fun hw0 => ?_)
  refine e_aload_n C 0 dX10_option_0 rfl ?_
  refine e_aload_n C 0 dX10_option_1 rfl ?_
  refine e_iload_n C 1 dX10_option_2 rfl ?_
  refine e_iload_n C 2 dX10_option_3 rfl ?_
  obtain ⟨Q3, h1, H⟩ := H
  refine e_callVI (As := [vI x1, vI x2]) (rest := [.ref (ad 0)]) (q0 := 0) (ci := 10) C Y mi_X10_needSide ms_X10_needSide mv_X10_needSide ml_X10_242 h1 rfl rfl (by decide) (Nat.le_of_ble_eq_true rfl) hk hn dX10_option_4 rfl (fun z4 M2 hq9 => ?_)
  obtain ⟨o5, H⟩ := H z4 M2 hq9
  refine e_wf (fun hw6 => ?_)
  refine e_callVD (As := [vI z4]) (rest := []) (q0 := 0) (ci := 10) C Y mi_X10_refused ms_X10_refused mv_X10_refused ml_X10_227 (s_X10_refused o5) rfl rfl (by decide) (Nat.le_of_ble_eq_true rfl) hk hn dX10_option_7 rfl ?_
  refine e_wf (fun hw7 => ?_)
  refine e_if_eq C 15 (b2i_r _) dX10_option_10 (by decide) (fun c9 => ?_) (fun c9 => ?_)
  · replace H := H.1 (b2i_0.mp c9)
    refine e_iload_n C 3 dX10_option_15 rfl ?_
    refine e_iconst C dX10_option_16 ?_
    refine e_aload_n C 0 dX10_option_17 rfl ?_
    refine e_iload_n C 1 dX10_option_18 rfl ?_
    refine e_iload_n C 2 dX10_option_19 rfl ?_
    obtain ⟨⟨o8, o9⟩, H⟩ := H
    refine e_callVD (As := [vI x1, vI x2]) (rest := [vI 0, vI x3]) (q0 := 0) (ci := 10) C Y mi_X10_optionsOf ms_X10_optionsOf mv_X10_optionsOf ml_X10_164 (s_X10_optionsOf r1 r2 o8) rfl rfl (by decide) (Nat.le_of_ble_eq_true rfl) hk hn dX10_option_20 rfl ?_
    refine e_iconst C dX10_option_23 ?_
    refine e_isub C dX10_option_24 ?_
    refine e_callSD (As := [vI x3, vI 0, vI ((M2 3 (2 * x1 + x2)) - 1)]) (rest := []) C Y mi_X10_within ms_X10_within ml_X10_152 (s_X10_within r3 (by decide) o9) (by decide) (Nat.le_of_ble_eq_true rfl) hk hn dX10_option_25 rfl ?_
    refine e_if_eq C 41 (b2i_r _) dX10_option_28 (by decide) (fun c9 => ?_) (fun c9 => ?_)
    · replace H := H.1 (b2i_0.mp c9)
      refine e_iconst C dX10_option_41 ?_
      exact e_iret C Y hk hn dX10_option_42 H
    · replace H := H.2 (b2i_n0.mp c9)
      refine e_aload_n C 0 dX10_option_31 rfl ?_
      refine e_iload_n C 1 dX10_option_32 rfl ?_
      refine e_iload_n C 2 dX10_option_33 rfl ?_
      refine e_iload_n C 3 dX10_option_34 rfl ?_
      obtain ⟨o10, H⟩ := H
      refine e_callVD (As := [vI x1, vI x2, vI x3]) (rest := []) (q0 := 0) (ci := 10) C Y mi_X10_optionOf ms_X10_optionOf mv_X10_optionOf ml_X10_167 (s_X10_optionOf r1 r2 r3 o10) rfl rfl (by decide) (Nat.le_of_ble_eq_true rfl) hk hn dX10_option_35 rfl ?_
      refine e_goto C 42 dX10_option_38 (by decide) ?_
      exact e_iret C Y hk hn dX10_option_42 H
  · replace H := H.2 (b2i_n0.mp c9)
    refine e_iconst C dX10_option_13 ?_
    exact e_iret C Y hk hn dX10_option_14 H
set_option maxRecDepth 4000 in
theorem B_X10_dominated_0 {g : Gs} {ad : Nat → Nat} {X : Cx} {mc ms k n : Nat} {PQ : Option Value → Mem → Prop} {PX : String → Mem → Prop} {M : Mem} {x1 x2 x3 : Int} (r1 : R32 x1) (r2 : R32 x2) (r3 : R32 x3) (hk : k ≤ mc) (hn : n ≤ ms) (C : OkB (wM g ad) X cX10_dominated RX10 9 4 mc ms) (Y : OkR (wM g ad) X (some .int) mc ms PQ PX) (H : ∃ Q3 : Int → Mem → Prop, SpI (wM g ad) yX10_needSide cX10_needSide 3 (some .int) 3 [.ref (ad 0), vI x1, vI x2] M Q3 ∧ ∀ (z4 : Int) (M2 : Mem), Q3 z4 M2 → R32 z4 ∧ (((¬(0 < z4)) → (((0 ≤ x1 ∧ x1 < 40) ∧ 0 ≤ x2 ∧ x2 ≤ 1) ∧ (R32 ((M2 3 (2 * x1 + x2)) - 1))) ∧ ((((0 : Int) ≤ x3 ∧ x3 ≤ ((M2 3 (2 * x1 + x2)) - 1)) → ((0 ≤ x1 ∧ x1 < 40) ∧ (0 ≤ x2 ∧ x2 ≤ 1) ∧ 0 ≤ x3 ∧ x3 < 4) ∧ E (wM g ad) X k n (up M2 20 0 z4) 45 [(0, .ref (ad 0)), (1, vI x1), (2, vI x2), (3, vI x3), (4, vI (M2 4 (8 * x1 + 4 * x2 + x3))), (5, vI 0)] []) ∧ ((¬((0 : Int) ≤ x3 ∧ x3 ≤ ((M2 3 (2 * x1 + x2)) - 1))) → PQ (some (vI (-1))) (up M2 20 0 z4)))) ∧ ((0 < z4) → PQ (some (vI 0)) (up M2 20 0 z4)))) : E (wM g ad) X k n M 0 [(0, .ref (ad 0)), (1, vI x1), (2, vI x2), (3, vI x3)] [] := by
  refine e_wf (fun hw0 => ?_)
  refine e_aload_n C 0 dX10_dominated_0 rfl ?_
  refine e_aload_n C 0 dX10_dominated_1 rfl ?_
  refine e_iload_n C 1 dX10_dominated_2 rfl ?_
  refine e_iload_n C 2 dX10_dominated_3 rfl ?_
  obtain ⟨Q3, h1, H⟩ := H
  refine e_callVI (As := [vI x1, vI x2]) (rest := [.ref (ad 0)]) (q0 := 0) (ci := 10) C Y mi_X10_needSide ms_X10_needSide mv_X10_needSide ml_X10_242 h1 rfl rfl (by decide) (Nat.le_of_ble_eq_true rfl) hk hn dX10_dominated_4 rfl (fun z4 M2 hq9 => ?_)
  obtain ⟨o5, H⟩ := H z4 M2 hq9
  refine e_wf (fun hw6 => ?_)
  refine e_callVD (As := [vI z4]) (rest := []) (q0 := 0) (ci := 10) C Y mi_X10_refused ms_X10_refused mv_X10_refused ml_X10_227 (s_X10_refused o5) rfl rfl (by decide) (Nat.le_of_ble_eq_true rfl) hk hn dX10_dominated_7 rfl ?_
  refine e_wf (fun hw7 => ?_)
  refine e_if_eq C 15 (b2i_r _) dX10_dominated_10 (by decide) (fun c9 => ?_) (fun c9 => ?_)
  · replace H := H.1 (b2i_0.mp c9)
    refine e_iload_n C 3 dX10_dominated_15 rfl ?_
    refine e_iconst C dX10_dominated_16 ?_
    refine e_aload_n C 0 dX10_dominated_17 rfl ?_
    refine e_iload_n C 1 dX10_dominated_18 rfl ?_
    refine e_iload_n C 2 dX10_dominated_19 rfl ?_
    obtain ⟨⟨o8, o9⟩, H⟩ := H
    refine e_callVD (As := [vI x1, vI x2]) (rest := [vI 0, vI x3]) (q0 := 0) (ci := 10) C Y mi_X10_optionsOf ms_X10_optionsOf mv_X10_optionsOf ml_X10_164 (s_X10_optionsOf r1 r2 o8) rfl rfl (by decide) (Nat.le_of_ble_eq_true rfl) hk hn dX10_dominated_20 rfl ?_
    refine e_iconst C dX10_dominated_23 ?_
    refine e_isub C dX10_dominated_24 ?_
    refine e_callSD (As := [vI x3, vI 0, vI ((M2 3 (2 * x1 + x2)) - 1)]) (rest := []) C Y mi_X10_within ms_X10_within ml_X10_152 (s_X10_within r3 (by decide) o9) (by decide) (Nat.le_of_ble_eq_true rfl) hk hn dX10_dominated_25 rfl ?_
    refine e_if_ne C 33 (b2i_r _) dX10_dominated_28 (by decide) (fun c9 => ?_) (fun c9 => ?_)
    · replace H := H.1 (b2i_n0.mp c9)
      refine e_aload_n C 0 dX10_dominated_33 rfl ?_
      refine e_iload_n C 1 dX10_dominated_34 rfl ?_
      refine e_iload_n C 2 dX10_dominated_35 rfl ?_
      refine e_iload_n C 3 dX10_dominated_36 rfl ?_
      obtain ⟨o10, H⟩ := H
      refine e_callVD (As := [vI x1, vI x2, vI x3]) (rest := []) (q0 := 0) (ci := 10) C Y mi_X10_optionOf ms_X10_optionOf mv_X10_optionOf ml_X10_167 (s_X10_optionOf r1 r2 r3 o10) rfl rfl (by decide) (Nat.le_of_ble_eq_true rfl) hk hn dX10_dominated_37 rfl ?_
      refine e_istore C dX10_dominated_40 (by decide) rfl ?_
      refine e_iconst C dX10_dominated_42 ?_
      refine e_istore C dX10_dominated_43 (by decide) rfl ?_
      exact e_sub [2, 3, 4, 5, 1, 0] rfl H
    · replace H := H.2 (b2i_0.mp c9)
      refine e_iconst C dX10_dominated_31 ?_
      exact e_iret C Y hk hn dX10_dominated_32 H
  · replace H := H.2 (b2i_n0.mp c9)
    refine e_iconst C dX10_dominated_13 ?_
    exact e_iret C Y hk hn dX10_dominated_14 H
set_option maxRecDepth 4000 in
theorem B_X10_dominated_45 {g : Gs} {ad : Nat → Nat} {X : Cx} {mc ms k n : Nat} {PQ : Option Value → Mem → Prop} {PX : String → Mem → Prop} {M : Mem} {x1 x2 x3 x4 x5 : Int} (r1 : R32 x1) (r2 : R32 x2) (r3 : R32 x3) (r4 : R32 x4) (r5 : R32 x5) (hk : k ≤ mc) (hn : n ≤ ms) (C : OkB (wM g ad) X cX10_dominated RX10 9 4 mc ms) (Y : OkR (wM g ad) X (some .int) mc ms PQ PX) (H : ((0 ≤ x1 ∧ x1 < 40) ∧ 0 ≤ x2 ∧ x2 ≤ 1) ∧ ((((M 3 (2 * x1 + x2)) ≤ x5) → PQ (some (vI (-1))) M) ∧ ((x5 < (M 3 (2 * x1 + x2))) → ((0 ≤ x1 ∧ x1 < 40) ∧ (0 ≤ x2 ∧ x2 ≤ 1) ∧ 0 ≤ x5 ∧ x5 < 4) ∧ (((x2 ≠ 0) → ((0 ≤ x4 ∧ x4 < 40) ∧ 0 ≤ (M 4 (8 * x1 + 4 * x2 + x5)) ∧ (M 4 (8 * x1 + 4 * x2 + x5)) < 40) ∧ E (wM g ad) X k n M 89 [(0, .ref (ad 0)), (1, vI x1), (2, vI x2), (3, vI x3), (4, vI x4), (5, vI x5), (6, vI (M 4 (8 * x1 + 4 * x2 + x5)))] [vI (M 12 (40 * x4 + (M 4 (8 * x1 + 4 * x2 + x5))))]) ∧ ((x2 = 0) → ((0 ≤ (M 4 (8 * x1 + 4 * x2 + x5)) ∧ (M 4 (8 * x1 + 4 * x2 + x5)) < 40) ∧ 0 ≤ x4 ∧ x4 < 40) ∧ E (wM g ad) X k n M 89 [(0, .ref (ad 0)), (1, vI x1), (2, vI x2), (3, vI x3), (4, vI x4), (5, vI x5), (6, vI (M 4 (8 * x1 + 4 * x2 + x5)))] [vI (M 12 (40 * (M 4 (8 * x1 + 4 * x2 + x5)) + x4))]))))) : E (wM g ad) X k n M 45 [(0, .ref (ad 0)), (1, vI x1), (2, vI x2), (3, vI x3), (4, vI x4), (5, vI x5)] [] := by
  refine e_wf (fun hw0 => ?_)
  refine e_iload C 5 dX10_dominated_45 rfl ?_
  refine e_aload_n C 0 dX10_dominated_47 rfl ?_
  refine e_iload_n C 1 dX10_dominated_48 rfl ?_
  refine e_iload_n C 2 dX10_dominated_49 rfl ?_
  obtain ⟨o1, H⟩ := H
  refine e_callVD (As := [vI x1, vI x2]) (rest := [vI x5]) (q0 := 0) (ci := 10) C Y mi_X10_optionsOf ms_X10_optionsOf mv_X10_optionsOf ml_X10_164 (s_X10_optionsOf r1 r2 o1) rfl rfl (by decide) (Nat.le_of_ble_eq_true rfl) hk hn dX10_dominated_50 rfl ?_
  refine e_icmp_ge C 147 r5 (hw0.2.1 3 _ (by decide)) dX10_dominated_53 (by decide) (fun c9 => ?_) (fun c9 => ?_)
  · replace H := H.1 c9
    refine e_iconst C dX10_dominated_147 ?_
    exact e_iret C Y hk hn dX10_dominated_148 H
  · replace H := H.2 c9
    refine e_aload_n C 0 dX10_dominated_56 rfl ?_
    refine e_iload_n C 1 dX10_dominated_57 rfl ?_
    refine e_iload_n C 2 dX10_dominated_58 rfl ?_
    refine e_iload C 5 dX10_dominated_59 rfl ?_
    obtain ⟨o2, H⟩ := H
    refine e_callVD (As := [vI x1, vI x2, vI x5]) (rest := []) (q0 := 0) (ci := 10) C Y mi_X10_optionOf ms_X10_optionOf mv_X10_optionOf ml_X10_167 (s_X10_optionOf r1 r2 r5 o2) rfl rfl (by decide) (Nat.le_of_ble_eq_true rfl) hk hn dX10_dominated_61 rfl ?_
    refine e_istore C dX10_dominated_64 (by decide) rfl ?_
    refine e_iload_n C 3 dX10_dominated_66 rfl ?_
    refine e_if_ne C 81 r2 dX10_dominated_67 (by decide) (fun c9 => ?_) (fun c9 => ?_)
    · replace H := H.1 c9
      refine e_aload_n C 1 dX10_dominated_81 rfl ?_
      refine e_iload C 5 dX10_dominated_82 rfl ?_
      refine e_iload C 0 dX10_dominated_84 rfl ?_
      obtain ⟨o3, H⟩ := H
      refine e_callVD (As := [vI x4, vI (M 4 (8 * x1 + 4 * x2 + x5))]) (rest := []) (q0 := 0) (ci := 10) C Y mi_X10_is ms_X10_is mv_X10_is ml_X10_245 (s_X10_is r4 (hw0.2.1 4 _ (by decide)) o3) rfl rfl (by decide) (Nat.le_of_ble_eq_true rfl) hk hn dX10_dominated_86 rfl ?_
      exact e_sub [1, 2, 3, 4, 5, 6, 0] rfl H
    · replace H := H.2 c9
      refine e_aload_n C 1 dX10_dominated_70 rfl ?_
      refine e_iload C 0 dX10_dominated_71 rfl ?_
      refine e_iload C 5 dX10_dominated_73 rfl ?_
      obtain ⟨o4, H⟩ := H
      refine e_callVD (As := [vI (M 4 (8 * x1 + 4 * x2 + x5)), vI x4]) (rest := []) (q0 := 0) (ci := 10) C Y mi_X10_is ms_X10_is mv_X10_is ml_X10_245 (s_X10_is (hw0.2.1 4 _ (by decide)) r4 o4) rfl rfl (by decide) (Nat.le_of_ble_eq_true rfl) hk hn dX10_dominated_75 rfl ?_
      refine e_goto C 89 dX10_dominated_78 (by decide) ?_
      exact e_sub [1, 2, 3, 4, 5, 6, 0] rfl H
set_option maxRecDepth 4000 in
theorem B_X10_dominated_89 {g : Gs} {ad : Nat → Nat} {X : Cx} {mc ms k n : Nat} {PQ : Option Value → Mem → Prop} {PX : String → Mem → Prop} {M : Mem} {x1 x2 x3 x4 x5 x6 t0 : Int} (r1 : R32 x1) (r2 : R32 x2) (r3 : R32 x3) (r4 : R32 x4) (r5 : R32 x5) (r6 : R32 x6) (q0 : R32 t0) (hk : k ≤ mc) (hn : n ≤ ms) (C : OkB (wM g ad) X cX10_dominated RX10 9 4 mc ms) (Y : OkR (wM g ad) X (some .int) mc ms PQ PX) (H : (((x2 ≠ 0) → ((0 ≤ x6 ∧ x6 < 40) ∧ 0 ≤ x4 ∧ x4 < 40) ∧ E (wM g ad) X k n M 114 [(0, .ref (ad 0)), (1, vI x1), (2, vI x2), (3, vI x3), (4, vI x4), (5, vI x5), (7, vI t0)] [vI (M 12 (40 * x6 + x4))]) ∧ ((x2 = 0) → ((0 ≤ x4 ∧ x4 < 40) ∧ 0 ≤ x6 ∧ x6 < 40) ∧ E (wM g ad) X k n M 114 [(0, .ref (ad 0)), (1, vI x1), (2, vI x2), (3, vI x3), (4, vI x4), (5, vI x5), (7, vI t0)] [vI (M 12 (40 * x4 + x6))]))) : E (wM g ad) X k n M 89 [(0, .ref (ad 0)), (1, vI x1), (2, vI x2), (3, vI x3), (4, vI x4), (5, vI x5), (6, vI x6)] [vI t0] := by
  refine e_wf (fun hw0 => ?_)
  refine e_istore C dX10_dominated_89 (by decide) rfl ?_
  refine e_iload_n C 3 dX10_dominated_91 rfl ?_
  refine e_if_ne C 106 r2 dX10_dominated_92 (by decide) (fun c9 => ?_) (fun c9 => ?_)
  · replace H := H.1 c9
    refine e_aload_n C 1 dX10_dominated_106 rfl ?_
    refine e_iload C 7 dX10_dominated_107 rfl ?_
    refine e_iload C 5 dX10_dominated_109 rfl ?_
    obtain ⟨o1, H⟩ := H
    refine e_callVD (As := [vI x6, vI x4]) (rest := []) (q0 := 0) (ci := 10) C Y mi_X10_is ms_X10_is mv_X10_is ml_X10_245 (s_X10_is r6 r4 o1) rfl rfl (by decide) (Nat.le_of_ble_eq_true rfl) hk hn dX10_dominated_111 rfl ?_
    exact e_sub [1, 2, 3, 4, 5, 6, 0] rfl H
  · replace H := H.2 c9
    refine e_aload_n C 1 dX10_dominated_95 rfl ?_
    refine e_iload C 5 dX10_dominated_96 rfl ?_
    refine e_iload C 7 dX10_dominated_98 rfl ?_
    obtain ⟨o2, H⟩ := H
    refine e_callVD (As := [vI x4, vI x6]) (rest := []) (q0 := 0) (ci := 10) C Y mi_X10_is ms_X10_is mv_X10_is ml_X10_245 (s_X10_is r4 r6 o2) rfl rfl (by decide) (Nat.le_of_ble_eq_true rfl) hk hn dX10_dominated_100 rfl ?_
    refine e_goto C 114 dX10_dominated_103 (by decide) ?_
    exact e_sub [1, 2, 3, 4, 5, 6, 0] rfl H
set_option maxRecDepth 4000 in
theorem B_X10_dominated_114 {g : Gs} {ad : Nat → Nat} {X : Cx} {mc ms k n : Nat} {PQ : Option Value → Mem → Prop} {PX : String → Mem → Prop} {M : Mem} {x1 x2 x3 x4 x5 x7 t0 : Int} (r1 : R32 x1) (r2 : R32 x2) (r3 : R32 x3) (r4 : R32 x4) (r5 : R32 x5) (r7 : R32 x7) (q0 : R32 t0) (hk : k ≤ mc) (hn : n ≤ ms) (C : OkB (wM g ad) X cX10_dominated RX10 9 4 mc ms) (Y : OkR (wM g ad) X (some .int) mc ms PQ PX) (H : (((x5 = x3) → (R32 (x5 + 1)) ∧ E (wM g ad) X k n M 45 [(0, .ref (ad 0)), (1, vI x1), (2, vI x2), (3, vI x3), (4, vI x4), (5, vI (x5 + 1))] []) ∧ ((x5 ≠ x3) → (((x7 = 0) → (R32 (x5 + 1)) ∧ E (wM g ad) X k n M 45 [(0, .ref (ad 0)), (1, vI x1), (2, vI x2), (3, vI x3), (4, vI x4), (5, vI (x5 + 1))] []) ∧ ((x7 ≠ 0) → (((t0 = 0) → PQ (some (vI x5)) M) ∧ ((t0 ≠ 0) → (((x3 ≤ x5) → (R32 (x5 + 1)) ∧ E (wM g ad) X k n M 45 [(0, .ref (ad 0)), (1, vI x1), (2, vI x2), (3, vI x3), (4, vI x4), (5, vI (x5 + 1))] []) ∧ ((x5 < x3) → PQ (some (vI x5)) M))))))))) : E (wM g ad) X k n M 114 [(0, .ref (ad 0)), (1, vI x1), (2, vI x2), (3, vI x3), (4, vI x4), (5, vI x5), (7, vI x7)] [vI t0] := by
  refine e_wf (fun hw0 => ?_)
  refine e_istore C dX10_dominated_114 (by decide) rfl ?_
  refine e_iload C 6 dX10_dominated_116 rfl ?_
  refine e_iload_n C 4 dX10_dominated_118 rfl ?_
  refine e_icmp_eq C 141 r5 r3 dX10_dominated_119 (by decide) (fun c9 => ?_) (fun c9 => ?_)
  · replace H := H.1 c9
    obtain ⟨o1, H⟩ := H
    refine e_iinc C 6 dX10_dominated_141 rfl (by decide) rfl ?_
    refine e_goto C 45 dX10_dominated_144 (by decide) ?_
    exact e_sub [2, 3, 4, 5, 6, 0] rfl H
  · replace H := H.2 c9
    refine e_iload C 7 dX10_dominated_122 rfl ?_
    refine e_if_eq C 141 r7 dX10_dominated_124 (by decide) (fun c9 => ?_) (fun c9 => ?_)
    · replace H := H.1 c9
      obtain ⟨o2, H⟩ := H
      refine e_iinc C 6 dX10_dominated_141 rfl (by decide) rfl ?_
      refine e_goto C 45 dX10_dominated_144 (by decide) ?_
      exact e_sub [2, 3, 4, 5, 6, 0] rfl H
    · replace H := H.2 c9
      refine e_iload C 0 dX10_dominated_127 rfl ?_
      refine e_if_eq C 138 q0 dX10_dominated_129 (by decide) (fun c9 => ?_) (fun c9 => ?_)
      · replace H := H.1 c9
        refine e_iload C 6 dX10_dominated_138 rfl ?_
        exact e_iret C Y hk hn dX10_dominated_140 H
      · replace H := H.2 c9
        refine e_iload C 6 dX10_dominated_132 rfl ?_
        refine e_iload_n C 4 dX10_dominated_134 rfl ?_
        refine e_icmp_ge C 141 r5 r3 dX10_dominated_135 (by decide) (fun c9 => ?_) (fun c9 => ?_)
        · replace H := H.1 c9
          obtain ⟨o3, H⟩ := H
          refine e_iinc C 6 dX10_dominated_141 rfl (by decide) rfl ?_
          refine e_goto C 45 dX10_dominated_144 (by decide) ?_
          exact e_sub [2, 3, 4, 5, 6, 0] rfl H
        · replace H := H.2 c9
          refine e_iload C 6 dX10_dominated_138 rfl ?_
          exact e_iret C Y hk hn dX10_dominated_140 H
set_option maxRecDepth 4000 in
theorem B_X10_reversible_0 {g : Gs} {ad : Nat → Nat} {X : Cx} {mc ms k n : Nat} {PQ : Option Value → Mem → Prop} {PX : String → Mem → Prop} {M : Mem} {x1 x2 x3 : Int} (r1 : R32 x1) (r2 : R32 x2) (r3 : R32 x3) (hk : k ≤ mc) (hn : n ≤ ms) (C : OkB (wM g ad) X cX10_reversible RX10 8 4 mc ms) (Y : OkR (wM g ad) X (some .int) mc ms PQ PX) (H : ∃ Q3 : Int → Mem → Prop, SpI (wM g ad) yX10_needSide cX10_needSide 3 (some .int) 3 [.ref (ad 0), vI x1, vI x2] M Q3 ∧ ∀ (z4 : Int) (M2 : Mem), Q3 z4 M2 → R32 z4 ∧ (((¬(0 < z4)) → (((0 ≤ x1 ∧ x1 < 40) ∧ 0 ≤ x2 ∧ x2 ≤ 1) ∧ (R32 ((M2 3 (2 * x1 + x2)) - 1))) ∧ ((((0 : Int) ≤ x3 ∧ x3 ≤ ((M2 3 (2 * x1 + x2)) - 1)) → (((0 ≤ x1 ∧ x1 < 40) ∧ (0 ≤ x2 ∧ x2 ≤ 1) ∧ 0 ≤ x3 ∧ x3 < 4) ∧ (0 ≤ M2 4 (8 * x1 + 4 * x2 + x3) ∧ M2 4 (8 * x1 + 4 * x2 + x3) < 40)) ∧ ((((M2 1 (M2 4 (8 * x1 + 4 * x2 + x3))) = 0) → E (wM g ad) X k n (up M2 20 0 z4) 80 [(0, .ref (ad 0)), (1, vI x1), (2, vI x2), (4, vI (M2 4 (8 * x1 + 4 * x2 + x3))), (5, vI 0), (6, vI 0)] []) ∧ (((M2 1 (M2 4 (8 * x1 + 4 * x2 + x3))) ≠ 0) → ∃ Q14 : Int → Mem → Prop, SpI (wM g ad) yX10_isBack cX10_isBack 5 (some .boolean) 2 [.ref (ad 0), vI x1, vI x2, vI (M2 2 (M2 4 (8 * x1 + 4 * x2 + x3)))] (up M2 20 0 z4) Q14 ∧ ∀ (z15 : Int) (M13 : Mem), Q14 z15 M13 → B01 z15 ∧ (((z15 = 0) → PQ (some (vI 0)) M13) ∧ ((z15 ≠ 0) → PQ (some (vI 1)) M13))))) ∧ ((¬((0 : Int) ≤ x3 ∧ x3 ≤ ((M2 3 (2 * x1 + x2)) - 1))) → PQ (some (vI (-1))) (up M2 20 0 z4)))) ∧ ((0 < z4) → PQ (some (vI 0)) (up M2 20 0 z4)))) : E (wM g ad) X k n M 0 [(0, .ref (ad 0)), (1, vI x1), (2, vI x2), (3, vI x3)] [] := by
  refine e_wf (fun hw0 => ?_)
  refine e_aload_n C 0 dX10_reversible_0 rfl ?_
  refine e_aload_n C 0 dX10_reversible_1 rfl ?_
  refine e_iload_n C 1 dX10_reversible_2 rfl ?_
  refine e_iload_n C 2 dX10_reversible_3 rfl ?_
  obtain ⟨Q3, h1, H⟩ := H
  refine e_callVI (As := [vI x1, vI x2]) (rest := [.ref (ad 0)]) (q0 := 0) (ci := 10) C Y mi_X10_needSide ms_X10_needSide mv_X10_needSide ml_X10_242 h1 rfl rfl (by decide) (Nat.le_of_ble_eq_true rfl) hk hn dX10_reversible_4 rfl (fun z4 M2 hq9 => ?_)
  obtain ⟨o5, H⟩ := H z4 M2 hq9
  refine e_wf (fun hw6 => ?_)
  refine e_callVD (As := [vI z4]) (rest := []) (q0 := 0) (ci := 10) C Y mi_X10_refused ms_X10_refused mv_X10_refused ml_X10_227 (s_X10_refused o5) rfl rfl (by decide) (Nat.le_of_ble_eq_true rfl) hk hn dX10_reversible_7 rfl ?_
  refine e_wf (fun hw7 => ?_)
  refine e_if_eq C 15 (b2i_r _) dX10_reversible_10 (by decide) (fun c9 => ?_) (fun c9 => ?_)
  · replace H := H.1 (b2i_0.mp c9)
    refine e_iload_n C 3 dX10_reversible_15 rfl ?_
    refine e_iconst C dX10_reversible_16 ?_
    refine e_aload_n C 0 dX10_reversible_17 rfl ?_
    refine e_iload_n C 1 dX10_reversible_18 rfl ?_
    refine e_iload_n C 2 dX10_reversible_19 rfl ?_
    obtain ⟨⟨o8, o9⟩, H⟩ := H
    refine e_callVD (As := [vI x1, vI x2]) (rest := [vI 0, vI x3]) (q0 := 0) (ci := 10) C Y mi_X10_optionsOf ms_X10_optionsOf mv_X10_optionsOf ml_X10_164 (s_X10_optionsOf r1 r2 o8) rfl rfl (by decide) (Nat.le_of_ble_eq_true rfl) hk hn dX10_reversible_20 rfl ?_
    refine e_iconst C dX10_reversible_23 ?_
    refine e_isub C dX10_reversible_24 ?_
    refine e_callSD (As := [vI x3, vI 0, vI ((M2 3 (2 * x1 + x2)) - 1)]) (rest := []) C Y mi_X10_within ms_X10_within ml_X10_152 (s_X10_within r3 (by decide) o9) (by decide) (Nat.le_of_ble_eq_true rfl) hk hn dX10_reversible_25 rfl ?_
    refine e_if_ne C 33 (b2i_r _) dX10_reversible_28 (by decide) (fun c9 => ?_) (fun c9 => ?_)
    · replace H := H.1 (b2i_n0.mp c9)
      refine e_aload_n C 0 dX10_reversible_33 rfl ?_
      refine e_iload_n C 1 dX10_reversible_34 rfl ?_
      refine e_iload_n C 2 dX10_reversible_35 rfl ?_
      refine e_iload_n C 3 dX10_reversible_36 rfl ?_
      obtain ⟨⟨o10, o11⟩, H⟩ := H
      refine e_callVD (As := [vI x1, vI x2, vI x3]) (rest := []) (q0 := 0) (ci := 10) C Y mi_X10_optionOf ms_X10_optionOf mv_X10_optionOf ml_X10_167 (s_X10_optionOf r1 r2 r3 o10) rfl rfl (by decide) (Nat.le_of_ble_eq_true rfl) hk hn dX10_reversible_37 rfl ?_
      refine e_istore C dX10_reversible_40 (by decide) rfl ?_
      refine e_aload_n C 1 dX10_reversible_42 rfl ?_
      refine gM_1 C dX10_reversible_43 ?_
      refine e_iload C 0 dX10_reversible_46 rfl ?_
      refine aM_1 C o11 dX10_reversible_48 ?_
      refine e_if_eq C 74 (hw6.2.1 1 _ (by decide)) dX10_reversible_49 (by decide) (fun c9 => ?_) (fun c9 => ?_)
      · replace H := H.1 c9
        refine e_iconst C dX10_reversible_74 ?_
        refine e_istore C dX10_reversible_75 (by decide) rfl ?_
        refine e_iconst C dX10_reversible_77 ?_
        refine e_istore C dX10_reversible_78 (by decide) rfl ?_
        exact e_sub [3, 4, 5, 2, 1, 0] rfl H
      · replace H := H.2 c9
        refine e_aload_n C 1 dX10_reversible_52 rfl ?_
        refine e_iload_n C 2 dX10_reversible_53 rfl ?_
        refine e_iload_n C 3 dX10_reversible_54 rfl ?_
        refine e_aload_n C 1 dX10_reversible_55 rfl ?_
        refine gM_2 C dX10_reversible_56 ?_
        refine e_iload C 0 dX10_reversible_59 rfl ?_
        refine aM_2 C o11 dX10_reversible_61 ?_
        obtain ⟨Q14, h12, H⟩ := H
        refine e_callVI (As := [vI x1, vI x2, vI (M2 2 (M2 4 (8 * x1 + 4 * x2 + x3)))]) (rest := []) (q0 := 0) (ci := 10) C Y mi_X10_isBack ms_X10_isBack mv_X10_isBack ml_X10_248 h12 rfl rfl (by decide) (Nat.le_of_ble_eq_true rfl) hk hn dX10_reversible_62 rfl (fun z15 M13 hq9 => ?_)
        obtain ⟨o16, H⟩ := H z15 M13 hq9
        refine e_wf (fun hw17 => ?_)
        refine e_if_eq C 72 (b01_r o16) dX10_reversible_65 (by decide) (fun c9 => ?_) (fun c9 => ?_)
        · replace H := H.1 c9
          refine e_iconst C dX10_reversible_72 ?_
          exact e_iret C Y hk hn dX10_reversible_73 H
        · replace H := H.2 c9
          refine e_iconst C dX10_reversible_68 ?_
          refine e_goto C 73 dX10_reversible_69 (by decide) ?_
          exact e_iret C Y hk hn dX10_reversible_73 H
    · replace H := H.2 (b2i_0.mp c9)
      refine e_iconst C dX10_reversible_31 ?_
      exact e_iret C Y hk hn dX10_reversible_32 H
  · replace H := H.2 (b2i_n0.mp c9)
    refine e_iconst C dX10_reversible_13 ?_
    exact e_iret C Y hk hn dX10_reversible_14 H
set_option maxRecDepth 4000 in
theorem B_X10_reversible_80 {g : Gs} {ad : Nat → Nat} {X : Cx} {mc ms k n : Nat} {PQ : Option Value → Mem → Prop} {PX : String → Mem → Prop} {M : Mem} {x1 x2 x4 x5 x6 : Int} (r1 : R32 x1) (r2 : R32 x2) (r4 : R32 x4) (r5 : R32 x5) (r6 : R32 x6) (hk : k ≤ mc) (hn : n ≤ ms) (C : OkB (wM g ad) X cX10_reversible RX10 8 4 mc ms) (Y : OkR (wM g ad) X (some .int) mc ms PQ PX) (H : ((R32 (1 - x2)) ∧ ((0 ≤ x4 ∧ x4 < 40) ∧ 0 ≤ (1 - x2) ∧ (1 - x2) ≤ 1)) ∧ ((((M 3 (2 * x4 + (1 - x2))) ≤ x6) → PQ (some (vI x5)) M) ∧ ((x6 < (M 3 (2 * x4 + (1 - x2)))) → ((0 ≤ x4 ∧ x4 < 40) ∧ (0 ≤ (1 - x2) ∧ (1 - x2) ≤ 1) ∧ 0 ≤ x6 ∧ x6 < 4) ∧ (((x2 ≠ 0) → ((0 ≤ (M 4 (8 * x4 + 4 * (1 - x2) + x6)) ∧ (M 4 (8 * x4 + 4 * (1 - x2) + x6)) < 40) ∧ 0 ≤ x1 ∧ x1 < 40) ∧ ((((M 12 (40 * (M 4 (8 * x4 + 4 * (1 - x2) + x6)) + x1)) = 0) → (R32 (x6 + 1)) ∧ E (wM g ad) X k n M 80 [(0, .ref (ad 0)), (1, vI x1), (2, vI x2), (4, vI x4), (5, vI (iorI x5 0)), (6, vI (x6 + 1))] []) ∧ (((M 12 (40 * (M 4 (8 * x4 + 4 * (1 - x2) + x6)) + x1)) ≠ 0) → (R32 (x6 + 1)) ∧ E (wM g ad) X k n M 80 [(0, .ref (ad 0)), (1, vI x1), (2, vI x2), (4, vI x4), (5, vI (iorI x5 1)), (6, vI (x6 + 1))] []))) ∧ ((x2 = 0) → ((0 ≤ x1 ∧ x1 < 40) ∧ 0 ≤ (M 4 (8 * x4 + 4 * (1 - x2) + x6)) ∧ (M 4 (8 * x4 + 4 * (1 - x2) + x6)) < 40) ∧ ((((M 12 (40 * x1 + (M 4 (8 * x4 + 4 * (1 - x2) + x6)))) = 0) → (R32 (x6 + 1)) ∧ E (wM g ad) X k n M 80 [(0, .ref (ad 0)), (1, vI x1), (2, vI x2), (4, vI x4), (5, vI (iorI x5 0)), (6, vI (x6 + 1))] []) ∧ (((M 12 (40 * x1 + (M 4 (8 * x4 + 4 * (1 - x2) + x6)))) ≠ 0) → (R32 (x6 + 1)) ∧ E (wM g ad) X k n M 80 [(0, .ref (ad 0)), (1, vI x1), (2, vI x2), (4, vI x4), (5, vI (iorI x5 1)), (6, vI (x6 + 1))] []))))))) : E (wM g ad) X k n M 80 [(0, .ref (ad 0)), (1, vI x1), (2, vI x2), (4, vI x4), (5, vI x5), (6, vI x6)] [] := by
  refine e_wf (fun hw0 => ?_)
  refine e_iload C 5 dX10_reversible_80 rfl ?_
  refine e_aload_n C 0 dX10_reversible_82 rfl ?_
  refine e_iload C 3 dX10_reversible_83 rfl ?_
  refine e_iconst C dX10_reversible_85 ?_
  refine e_iload_n C 2 dX10_reversible_86 rfl ?_
  obtain ⟨⟨o1, o2⟩, H⟩ := H
  refine e_isub C dX10_reversible_87 ?_
  refine e_callVD (As := [vI x4, vI (1 - x2)]) (rest := [vI x6]) (q0 := 0) (ci := 10) C Y mi_X10_optionsOf ms_X10_optionsOf mv_X10_optionsOf ml_X10_164 (s_X10_optionsOf r4 o1 o2) rfl rfl (by decide) (Nat.le_of_ble_eq_true rfl) hk hn dX10_reversible_88 rfl ?_
  refine e_icmp_ge C 150 r6 (hw0.2.1 3 _ (by decide)) dX10_reversible_91 (by decide) (fun c9 => ?_) (fun c9 => ?_)
  · replace H := H.1 c9
    refine e_iload C 4 dX10_reversible_150 rfl ?_
    exact e_iret C Y hk hn dX10_reversible_152 H
  · replace H := H.2 c9
    refine e_aload_n C 0 dX10_reversible_94 rfl ?_
    refine e_iload C 3 dX10_reversible_95 rfl ?_
    refine e_iconst C dX10_reversible_97 ?_
    refine e_iload_n C 2 dX10_reversible_98 rfl ?_
    refine e_isub C dX10_reversible_99 ?_
    refine e_iload C 5 dX10_reversible_100 rfl ?_
    obtain ⟨o3, H⟩ := H
    refine e_callVD (As := [vI x4, vI (1 - x2), vI x6]) (rest := []) (q0 := 0) (ci := 10) C Y mi_X10_optionOf ms_X10_optionOf mv_X10_optionOf ml_X10_167 (s_X10_optionOf r4 o1 r6 o3) rfl rfl (by decide) (Nat.le_of_ble_eq_true rfl) hk hn dX10_reversible_102 rfl ?_
    refine e_istore C dX10_reversible_105 (by decide) rfl ?_
    refine e_iload C 5 dX10_reversible_107 rfl ?_
    refine e_iload_n C 3 dX10_reversible_109 rfl ?_
    refine e_if_ne C 126 r2 dX10_reversible_110 (by decide) (fun c9 => ?_) (fun c9 => ?_)
    · replace H := H.1 c9
      refine e_aload_n C 1 dX10_reversible_126 rfl ?_
      refine e_iload C 0 dX10_reversible_127 rfl ?_
      refine e_iload_n C 2 dX10_reversible_129 rfl ?_
      obtain ⟨o4, H⟩ := H
      refine e_callVD (As := [vI (M 4 (8 * x4 + 4 * (1 - x2) + x6)), vI x1]) (rest := [vI x5]) (q0 := 0) (ci := 10) C Y mi_X10_is ms_X10_is mv_X10_is ml_X10_245 (s_X10_is (hw0.2.1 4 _ (by decide)) r1 o4) rfl rfl (by decide) (Nat.le_of_ble_eq_true rfl) hk hn dX10_reversible_130 rfl ?_
      refine e_if_eq C 140 (hw0.2.1 12 _ (by decide)) dX10_reversible_133 (by decide) (fun c9 => ?_) (fun c9 => ?_)
      · replace H := H.1 c9
        refine e_iconst C dX10_reversible_140 ?_
        refine e_ior C dX10_reversible_141 ?_
        refine e_istore C dX10_reversible_142 (by decide) rfl ?_
        obtain ⟨o5, H⟩ := H
        refine e_iinc C 6 dX10_reversible_144 rfl (by decide) rfl ?_
        refine e_goto C 80 dX10_reversible_147 (by decide) ?_
        exact e_sub [3, 4, 5, 6, 1, 0] rfl H
      · replace H := H.2 c9
        refine e_iconst C dX10_reversible_136 ?_
        refine e_goto C 141 dX10_reversible_137 (by decide) ?_
        refine e_ior C dX10_reversible_141 ?_
        refine e_istore C dX10_reversible_142 (by decide) rfl ?_
        obtain ⟨o6, H⟩ := H
        refine e_iinc C 6 dX10_reversible_144 rfl (by decide) rfl ?_
        refine e_goto C 80 dX10_reversible_147 (by decide) ?_
        exact e_sub [3, 4, 5, 6, 1, 0] rfl H
    · replace H := H.2 c9
      refine e_aload_n C 1 dX10_reversible_113 rfl ?_
      refine e_iload_n C 2 dX10_reversible_114 rfl ?_
      refine e_iload C 0 dX10_reversible_115 rfl ?_
      obtain ⟨o7, H⟩ := H
      refine e_callVD (As := [vI x1, vI (M 4 (8 * x4 + 4 * (1 - x2) + x6))]) (rest := [vI x5]) (q0 := 0) (ci := 10) C Y mi_X10_is ms_X10_is mv_X10_is ml_X10_245 (s_X10_is r1 (hw0.2.1 4 _ (by decide)) o7) rfl rfl (by decide) (Nat.le_of_ble_eq_true rfl) hk hn dX10_reversible_117 rfl ?_
      refine e_if_eq C 140 (hw0.2.1 12 _ (by decide)) dX10_reversible_120 (by decide) (fun c9 => ?_) (fun c9 => ?_)
      · replace H := H.1 c9
        refine e_iconst C dX10_reversible_140 ?_
        refine e_ior C dX10_reversible_141 ?_
        refine e_istore C dX10_reversible_142 (by decide) rfl ?_
        obtain ⟨o8, H⟩ := H
        refine e_iinc C 6 dX10_reversible_144 rfl (by decide) rfl ?_
        refine e_goto C 80 dX10_reversible_147 (by decide) ?_
        exact e_sub [3, 4, 5, 6, 1, 0] rfl H
      · replace H := H.2 c9
        refine e_goto C 136 dX10_reversible_123 (by decide) ?_
        refine e_iconst C dX10_reversible_136 ?_
        refine e_goto C 141 dX10_reversible_137 (by decide) ?_
        refine e_ior C dX10_reversible_141 ?_
        refine e_istore C dX10_reversible_142 (by decide) rfl ?_
        obtain ⟨o9, H⟩ := H
        refine e_iinc C 6 dX10_reversible_144 rfl (by decide) rfl ?_
        refine e_goto C 80 dX10_reversible_147 (by decide) ?_
        exact e_sub [3, 4, 5, 6, 1, 0] rfl H
set_option maxRecDepth 4000 in
theorem B_X10_corner_0 {g : Gs} {ad : Nat → Nat} {X : Cx} {mc ms k n : Nat} {PQ : Option Value → Mem → Prop} {PX : String → Mem → Prop} {M : Mem} {x1 x2 x3 : Int} (r1 : R32 x1) (r2 : R32 x2) (r3 : R32 x3) (hk : k ≤ mc) (hn : n ≤ ms) (C : OkB (wM g ad) X cX10_corner RX10 7 4 mc ms) (Y : OkR (wM g ad) X (some .int) mc ms PQ PX) (H : ∃ Q3 : Int → Mem → Prop, SpI (wM g ad) yX10_needSide cX10_needSide 3 (some .int) 3 [.ref (ad 0), vI x1, vI x2] M Q3 ∧ ∀ (z4 : Int) (M2 : Mem), Q3 z4 M2 → R32 z4 ∧ (((¬(0 < z4)) → E (wM g ad) X k n (up M2 20 0 z4) 21 [(0, .ref (ad 0)), (1, vI x1), (2, vI x2), (3, vI x3), (4, vI 1), (5, vI 1)] []) ∧ ((0 < z4) → PQ (some (vI 0)) (up M2 20 0 z4)))) : E (wM g ad) X k n M 0 [(0, .ref (ad 0)), (1, vI x1), (2, vI x2), (3, vI x3)] [] := by
  refine e_wf (fun hw0 => ?_)
  refine e_aload_n C 0 dX10_corner_0 rfl ?_
  refine e_aload_n C 0 dX10_corner_1 rfl ?_
  refine e_iload_n C 1 dX10_corner_2 rfl ?_
  refine e_iload_n C 2 dX10_corner_3 rfl ?_
  obtain ⟨Q3, h1, H⟩ := H
  refine e_callVI (As := [vI x1, vI x2]) (rest := [.ref (ad 0)]) (q0 := 0) (ci := 10) C Y mi_X10_needSide ms_X10_needSide mv_X10_needSide ml_X10_242 h1 rfl rfl (by decide) (Nat.le_of_ble_eq_true rfl) hk hn dX10_corner_4 rfl (fun z4 M2 hq9 => ?_)
  obtain ⟨o5, H⟩ := H z4 M2 hq9
  refine e_wf (fun hw6 => ?_)
  refine e_callVD (As := [vI z4]) (rest := []) (q0 := 0) (ci := 10) C Y mi_X10_refused ms_X10_refused mv_X10_refused ml_X10_227 (s_X10_refused o5) rfl rfl (by decide) (Nat.le_of_ble_eq_true rfl) hk hn dX10_corner_7 rfl ?_
  refine e_wf (fun hw7 => ?_)
  refine e_if_eq C 15 (b2i_r _) dX10_corner_10 (by decide) (fun c9 => ?_) (fun c9 => ?_)
  · replace H := H.1 (b2i_0.mp c9)
    refine e_iconst C dX10_corner_15 ?_
    refine e_istore C dX10_corner_16 (by decide) rfl ?_
    refine e_iconst C dX10_corner_18 ?_
    refine e_istore C dX10_corner_19 (by decide) rfl ?_
    exact e_sub [2, 3, 4, 5, 1, 0] rfl H
  · replace H := H.2 (b2i_n0.mp c9)
    refine e_iconst C dX10_corner_13 ?_
    exact e_iret C Y hk hn dX10_corner_14 H
set_option maxRecDepth 4000 in
theorem B_X10_corner_21 {g : Gs} {ad : Nat → Nat} {X : Cx} {mc ms k n : Nat} {PQ : Option Value → Mem → Prop} {PX : String → Mem → Prop} {M : Mem} {x1 x2 x3 x4 x5 : Int} (r1 : R32 x1) (r2 : R32 x2) (r3 : R32 x3) (r4 : R32 x4) (r5 : R32 x5) (hk : k ≤ mc) (hn : n ≤ ms) (C : OkB (wM g ad) X cX10_corner RX10 7 4 mc ms) (Y : OkR (wM g ad) X (some .int) mc ms PQ PX) (H : (((7199 ≤ x5) → (((x3 ≠ 0) → PQ (some (vI (-1))) M) ∧ ((x3 = 0) → PQ (some (vI 0)) M))) ∧ ((x5 < 7199) → ((R32 (x5 + 1)) ∧ ((0 ≤ x1 ∧ x1 < 40) ∧ (0 ≤ x2 ∧ x2 ≤ 1) ∧ 0 ≤ (x5 + 1) ∧ (x5 + 1) < 7200) ∧ ((0 ≤ x1 ∧ x1 < 40) ∧ (0 ≤ x2 ∧ x2 ≤ 1) ∧ 0 ≤ x5 ∧ x5 < 7200) ∧ (R32 ((M 15 (7200 * (2 * x1 + x2) + (x5 + 1))) - (M 15 (7200 * (2 * x1 + x2) + x5)))) ∧ (R32 (x5 - 1)) ∧ ((0 ≤ x1 ∧ x1 < 40) ∧ (0 ≤ x2 ∧ x2 ≤ 1) ∧ 0 ≤ (x5 - 1) ∧ (x5 - 1) < 7200) ∧ (R32 ((M 15 (7200 * (2 * x1 + x2) + x5)) - (M 15 (7200 * (2 * x1 + x2) + (x5 - 1)))))) ∧ (((((M 15 (7200 * (2 * x1 + x2) + (x5 + 1))) - (M 15 (7200 * (2 * x1 + x2) + x5))) = ((M 15 (7200 * (2 * x1 + x2) + x5)) - (M 15 (7200 * (2 * x1 + x2) + (x5 - 1))))) → E (wM g ad) X k n M 75 [(0, .ref (ad 0)), (1, vI x1), (2, vI x2), (3, vI x3), (4, vI x4), (5, vI x5)] [vI 0]) ∧ ((((M 15 (7200 * (2 * x1 + x2) + (x5 + 1))) - (M 15 (7200 * (2 * x1 + x2) + x5))) ≠ ((M 15 (7200 * (2 * x1 + x2) + x5)) - (M 15 (7200 * (2 * x1 + x2) + (x5 - 1))))) → E (wM g ad) X k n M 75 [(0, .ref (ad 0)), (1, vI x1), (2, vI x2), (3, vI x3), (4, vI x4), (5, vI x5)] [vI 1]))))) : E (wM g ad) X k n M 21 [(0, .ref (ad 0)), (1, vI x1), (2, vI x2), (3, vI x3), (4, vI x4), (5, vI x5)] [] := by
  refine e_wf (fun hw0 => ?_)
  refine e_iload C 5 dX10_corner_21 rfl ?_
  refine e_sipush C dX10_corner_23 (by decide) ?_
  refine e_icmp_ge C 114 r5 (by decide) dX10_corner_26 (by decide) (fun c9 => ?_) (fun c9 => ?_)
  · replace H := H.1 c9
    refine e_iload_n C 3 dX10_corner_114 rfl ?_
    refine e_if_ne C 122 r3 dX10_corner_115 (by decide) (fun c9 => ?_) (fun c9 => ?_)
    · replace H := H.1 c9
      refine e_iconst C dX10_corner_122 ?_
      exact e_iret C Y hk hn dX10_corner_123 H
    · replace H := H.2 c9
      refine e_iconst C dX10_corner_118 ?_
      refine e_goto C 123 dX10_corner_119 (by decide) ?_
      exact e_iret C Y hk hn dX10_corner_123 H
  · replace H := H.2 c9
    refine e_aload_n C 0 dX10_corner_29 rfl ?_
    refine e_iload_n C 1 dX10_corner_30 rfl ?_
    refine e_iload_n C 2 dX10_corner_31 rfl ?_
    refine e_iload C 5 dX10_corner_32 rfl ?_
    refine e_iconst C dX10_corner_34 ?_
    obtain ⟨⟨o1, o2, o3, o4, o5, o6, o7⟩, H⟩ := H
    refine e_iadd C dX10_corner_35 ?_
    refine e_callVD (As := [vI x1, vI x2, vI (x5 + 1)]) (rest := []) (q0 := 0) (ci := 10) C Y mi_X10_sample ms_X10_sample mv_X10_sample ml_X10_214 (s_X10_sample r1 r2 o1 o2) rfl rfl (by decide) (Nat.le_of_ble_eq_true rfl) hk hn dX10_corner_36 rfl ?_
    refine e_aload_n C 0 dX10_corner_39 rfl ?_
    refine e_iload_n C 1 dX10_corner_40 rfl ?_
    refine e_iload_n C 2 dX10_corner_41 rfl ?_
    refine e_iload C 5 dX10_corner_42 rfl ?_
    refine e_callVD (As := [vI x1, vI x2, vI x5]) (rest := [vI (M 15 (7200 * (2 * x1 + x2) + (x5 + 1)))]) (q0 := 0) (ci := 10) C Y mi_X10_sample ms_X10_sample mv_X10_sample ml_X10_214 (s_X10_sample r1 r2 r5 o3) rfl rfl (by decide) (Nat.le_of_ble_eq_true rfl) hk hn dX10_corner_44 rfl ?_
    refine e_isub C dX10_corner_47 ?_
    refine e_aload_n C 0 dX10_corner_48 rfl ?_
    refine e_iload_n C 1 dX10_corner_49 rfl ?_
    refine e_iload_n C 2 dX10_corner_50 rfl ?_
    refine e_iload C 5 dX10_corner_51 rfl ?_
    refine e_callVD (As := [vI x1, vI x2, vI x5]) (rest := [vI ((M 15 (7200 * (2 * x1 + x2) + (x5 + 1))) - (M 15 (7200 * (2 * x1 + x2) + x5)))]) (q0 := 0) (ci := 10) C Y mi_X10_sample ms_X10_sample mv_X10_sample ml_X10_214 (s_X10_sample r1 r2 r5 o3) rfl rfl (by decide) (Nat.le_of_ble_eq_true rfl) hk hn dX10_corner_53 rfl ?_
    refine e_aload_n C 0 dX10_corner_56 rfl ?_
    refine e_iload_n C 1 dX10_corner_57 rfl ?_
    refine e_iload_n C 2 dX10_corner_58 rfl ?_
    refine e_iload C 5 dX10_corner_59 rfl ?_
    refine e_iconst C dX10_corner_61 ?_
    refine e_isub C dX10_corner_62 ?_
    refine e_callVD (As := [vI x1, vI x2, vI (x5 - 1)]) (rest := [vI (M 15 (7200 * (2 * x1 + x2) + x5)), vI ((M 15 (7200 * (2 * x1 + x2) + (x5 + 1))) - (M 15 (7200 * (2 * x1 + x2) + x5)))]) (q0 := 0) (ci := 10) C Y mi_X10_sample ms_X10_sample mv_X10_sample ml_X10_214 (s_X10_sample r1 r2 o5 o6) rfl rfl (by decide) (Nat.le_of_ble_eq_true rfl) hk hn dX10_corner_63 rfl ?_
    refine e_isub C dX10_corner_66 ?_
    refine e_icmp_eq C 74 o4 o7 dX10_corner_67 (by decide) (fun c9 => ?_) (fun c9 => ?_)
    · replace H := H.1 c9
      refine e_iconst C dX10_corner_74 ?_
      exact e_sub [0, 1, 2, 3, 4, 5] rfl H
    · replace H := H.2 c9
      refine e_iconst C dX10_corner_70 ?_
      refine e_goto C 75 dX10_corner_71 (by decide) ?_
      exact e_sub [0, 1, 2, 3, 4, 5] rfl H
set_option maxRecDepth 4000 in
theorem B_X10_corner_75 {g : Gs} {ad : Nat → Nat} {X : Cx} {mc ms k n : Nat} {PQ : Option Value → Mem → Prop} {PX : String → Mem → Prop} {M : Mem} {x1 x2 x3 x4 x5 t0 : Int} (r1 : R32 x1) (r2 : R32 x2) (r3 : R32 x3) (r4 : R32 x4) (r5 : R32 x5) (q0 : R32 t0) (hk : k ≤ mc) (hn : n ≤ ms) (C : OkB (wM g ad) X cX10_corner RX10 7 4 mc ms) (Y : OkR (wM g ad) X (some .int) mc ms PQ PX) (H : (((t0 = 0) → E (wM g ad) X k n M 93 [(0, .ref (ad 0)), (1, vI x1), (2, vI x2), (3, vI x3), (4, vI x4), (5, vI x5), (6, vI t0)] []) ∧ ((t0 ≠ 0) → (((x4 ≠ x3) → E (wM g ad) X k n M 93 [(0, .ref (ad 0)), (1, vI x1), (2, vI x2), (3, vI x3), (4, vI x4), (5, vI x5), (6, vI t0)] []) ∧ ((x4 = x3) → (R32 (2 * x5)) ∧ PQ (some (vI (2 * x5))) M))))) : E (wM g ad) X k n M 75 [(0, .ref (ad 0)), (1, vI x1), (2, vI x2), (3, vI x3), (4, vI x4), (5, vI x5)] [vI t0] := by
  refine e_wf (fun hw0 => ?_)
  refine e_istore C dX10_corner_75 (by decide) rfl ?_
  refine e_iload C 0 dX10_corner_77 rfl ?_
  refine e_if_eq C 93 q0 dX10_corner_79 (by decide) (fun c9 => ?_) (fun c9 => ?_)
  · replace H := H.1 c9
    exact e_sub [1, 2, 3, 4, 5, 6, 0] rfl H
  · replace H := H.2 c9
    refine e_iload C 5 dX10_corner_82 rfl ?_
    refine e_iload_n C 4 dX10_corner_84 rfl ?_
    refine e_icmp_ne C 93 r4 r3 dX10_corner_85 (by decide) (fun c9 => ?_) (fun c9 => ?_)
    · replace H := H.1 c9
      exact e_sub [1, 2, 3, 4, 5, 6, 0] rfl H
    · replace H := H.2 c9
      refine e_iconst C dX10_corner_88 ?_
      refine e_iload C 6 dX10_corner_89 rfl ?_
      obtain ⟨o1, H⟩ := H
      refine e_imul C dX10_corner_91 ?_
      exact e_iret C Y hk hn dX10_corner_92 H
set_option maxRecDepth 4000 in
theorem B_X10_corner_93 {g : Gs} {ad : Nat → Nat} {X : Cx} {mc ms k n : Nat} {PQ : Option Value → Mem → Prop} {PX : String → Mem → Prop} {M : Mem} {x1 x2 x3 x4 x5 x6 : Int} (r1 : R32 x1) (r2 : R32 x2) (r3 : R32 x3) (r4 : R32 x4) (r5 : R32 x5) (r6 : R32 x6) (hk : k ≤ mc) (hn : n ≤ ms) (C : OkB (wM g ad) X cX10_corner RX10 7 4 mc ms) (Y : OkR (wM g ad) X (some .int) mc ms PQ PX) (H : (((x6 = 0) → ((R32 (x4 + 0)) ∧ (R32 (x5 + 1))) ∧ E (wM g ad) X k n M 21 [(0, .ref (ad 0)), (1, vI x1), (2, vI x2), (3, vI x3), (4, vI (x4 + 0)), (5, vI (x5 + 1))] []) ∧ ((x6 ≠ 0) → ((R32 (x4 + 1)) ∧ (R32 (x5 + 1))) ∧ E (wM g ad) X k n M 21 [(0, .ref (ad 0)), (1, vI x1), (2, vI x2), (3, vI x3), (4, vI (x4 + 1)), (5, vI (x5 + 1))] []))) : E (wM g ad) X k n M 93 [(0, .ref (ad 0)), (1, vI x1), (2, vI x2), (3, vI x3), (4, vI x4), (5, vI x5), (6, vI x6)] [] := by
  refine e_wf (fun hw0 => ?_)
  refine e_iload C 4 dX10_corner_93 rfl ?_
  refine e_iload C 6 dX10_corner_95 rfl ?_
  refine e_if_eq C 104 r6 dX10_corner_97 (by decide) (fun c9 => ?_) (fun c9 => ?_)
  · replace H := H.1 c9
    refine e_iconst C dX10_corner_104 ?_
    obtain ⟨⟨o1, o2⟩, H⟩ := H
    refine e_iadd C dX10_corner_105 ?_
    refine e_istore C dX10_corner_106 (by decide) rfl ?_
    refine e_iinc C 5 dX10_corner_108 rfl (by decide) rfl ?_
    refine e_goto C 21 dX10_corner_111 (by decide) ?_
    exact e_sub [2, 3, 4, 5, 1, 0] rfl H
  · replace H := H.2 c9
    refine e_iconst C dX10_corner_100 ?_
    refine e_goto C 105 dX10_corner_101 (by decide) ?_
    obtain ⟨⟨o3, o4⟩, H⟩ := H
    refine e_iadd C dX10_corner_105 ?_
    refine e_istore C dX10_corner_106 (by decide) rfl ?_
    refine e_iinc C 5 dX10_corner_108 rfl (by decide) rfl ?_
    refine e_goto C 21 dX10_corner_111 (by decide) ?_
    exact e_sub [2, 3, 4, 5, 1, 0] rfl H
set_option maxRecDepth 4000 in
theorem B_X10_sizeNow_0 {g : Gs} {ad : Nat → Nat} {X : Cx} {mc ms k n : Nat} {PQ : Option Value → Mem → Prop} {PX : String → Mem → Prop} {M : Mem}  (hk : k ≤ mc) (hn : n ≤ ms) (C : OkB (wM g ad) X cX10_sizeNow RX10 3 4 mc ms) (Y : OkR (wM g ad) X (some .int) mc ms PQ PX) (H : E (wM g ad) X k n M 4 [(0, .ref (ad 0)), (1, vI 1), (2, vI 0)] []) : E (wM g ad) X k n M 0 [(0, .ref (ad 0))] [] := by
  refine e_wf (fun hw0 => ?_)
  refine e_iconst C dX10_sizeNow_0 ?_
  refine e_istore_n C dX10_sizeNow_1 (by decide) rfl ?_
  refine e_iconst C dX10_sizeNow_2 ?_
  refine e_istore_n C dX10_sizeNow_3 (by decide) rfl ?_
  exact e_sub [2, 1, 0] rfl H
set_option maxRecDepth 4000 in
theorem B_X10_sizeNow_4 {g : Gs} {ad : Nat → Nat} {X : Cx} {mc ms k n : Nat} {PQ : Option Value → Mem → Prop} {PX : String → Mem → Prop} {M : Mem} {x1 x2 : Int} (r1 : R32 x1) (r2 : R32 x2) (hk : k ≤ mc) (hn : n ≤ ms) (C : OkB (wM g ad) X cX10_sizeNow RX10 3 4 mc ms) (Y : OkR (wM g ad) X (some .int) mc ms PQ PX) (H : ((((M 16 0) ≤ x2) → PQ (some (vI x1)) M) ∧ ((x2 < (M 16 0)) → ∃ Q3 : Mem → Prop, SpV (wM g ad) yX10_laysPositions cX10_laysPositions 5 none 3 [.ref (ad 0), vI x2] M Q3 ∧ ∀ M2 : Mem, Q3 M2 → ((0 ≤ x2 ∧ x2 < 4) ∧ (R32 (x1 * (M2 39 x2))) ∧ (R32 (x2 + 1))) ∧ E (wM g ad) X k n M2 4 [(0, .ref (ad 0)), (1, vI (x1 * (M2 39 x2))), (2, vI (x2 + 1))] []))) : E (wM g ad) X k n M 4 [(0, .ref (ad 0)), (1, vI x1), (2, vI x2)] [] := by
  refine e_wf (fun hw0 => ?_)
  refine e_iload_n C 2 dX10_sizeNow_4 rfl ?_
  refine e_aload_n C 0 dX10_sizeNow_5 rfl ?_
  refine gM_16 C dX10_sizeNow_6 ?_
  refine e_icmp_ge C 32 r2 (hw0.2.1 16 _ (by decide)) dX10_sizeNow_9 (by decide) (fun c9 => ?_) (fun c9 => ?_)
  · replace H := H.1 c9
    refine e_iload_n C 1 dX10_sizeNow_32 rfl ?_
    exact e_iret C Y hk hn dX10_sizeNow_33 H
  · replace H := H.2 c9
    refine e_aload_n C 0 dX10_sizeNow_12 rfl ?_
    refine e_iload_n C 2 dX10_sizeNow_13 rfl ?_
    obtain ⟨Q3, h1, H⟩ := H
    refine e_callVV (As := [vI x2]) (rest := []) (q0 := 0) (ci := 10) C Y mi_X10_laysPositions ms_X10_laysPositions mv_X10_laysPositions ml_X10_258 h1 rfl rfl (by decide) (Nat.le_of_ble_eq_true rfl) hk hn dX10_sizeNow_14 rfl (fun M2 hq9 => ?_)
    replace H := H M2 hq9
    refine e_wf (fun hw4 => ?_)
    refine e_iload_n C 1 dX10_sizeNow_17 rfl ?_
    refine e_aload_n C 0 dX10_sizeNow_18 rfl ?_
    refine gM_39 C dX10_sizeNow_19 ?_
    refine e_iload_n C 2 dX10_sizeNow_22 rfl ?_
    obtain ⟨⟨o5, o6, o7⟩, H⟩ := H
    refine aM_39 C o5 dX10_sizeNow_23 ?_
    refine e_imul C dX10_sizeNow_24 ?_
    refine e_istore_n C dX10_sizeNow_25 (by decide) rfl ?_
    refine e_iinc C 2 dX10_sizeNow_26 rfl (by decide) rfl ?_
    refine e_goto C 4 dX10_sizeNow_29 (by decide) ?_
    exact e_sub [2, 1, 0] rfl H
set_option maxRecDepth 4000 in
theorem B_X10_writesGame_0 {g : Gs} {ad : Nat → Nat} {X : Cx} {mc ms k n : Nat} {PQ : Option Value → Mem → Prop} {PX : String → Mem → Prop} {M : Mem} {x1 : Int} (r1 : R32 x1) (hk : k ≤ mc) (hn : n ≤ ms) (C : OkB (wM g ad) X cX10_writesGame RX10 7 4 mc ms) (Y : OkR (wM g ad) X none mc ms PQ PX) (H : E (wM g ad) X k n (up (up (up M 61 0 0) 59 0 x1) 60 0 0) 21 [(0, .ref (ad 0)), (2, vI 0)] []) : E (wM g ad) X k n M 0 [(0, .ref (ad 0)), (1, vI x1)] [] := by
  refine e_wf (fun hw0 => ?_)
  refine e_aload_n C 0 dX10_writesGame_0 rfl ?_
  refine e_iconst C dX10_writesGame_1 ?_
  refine pM_61 C (by decide) dX10_writesGame_2 ?_
  refine e_wf (fun hw1 => ?_)
  refine e_iconst C dX10_writesGame_5 ?_
  refine e_istore_n C dX10_writesGame_6 (by decide) rfl ?_
  refine e_aload_n C 1 dX10_writesGame_7 rfl ?_
  refine gM_59 C dX10_writesGame_8 ?_
  refine e_iconst C dX10_writesGame_11 ?_
  refine e_iload_n C 2 dX10_writesGame_12 rfl ?_
  refine sM_59 C (by decide) r1 dX10_writesGame_13 ?_
  refine e_wf (fun hw2 => ?_)
  refine e_aload_n C 1 dX10_writesGame_14 rfl ?_
  refine gM_60 C dX10_writesGame_15 ?_
  refine e_iconst C dX10_writesGame_18 ?_
  refine e_iconst C dX10_writesGame_19 ?_
  refine sM_60 C (by decide) (by decide) dX10_writesGame_20 ?_
  refine e_wf (fun hw3 => ?_)
  exact e_sub [1, 0] rfl H
set_option maxRecDepth 4000 in
theorem B_X10_writesGame_21 {g : Gs} {ad : Nat → Nat} {X : Cx} {mc ms k n : Nat} {PQ : Option Value → Mem → Prop} {PX : String → Mem → Prop} {M : Mem} {x2 : Int} (r2 : R32 x2) (hk : k ≤ mc) (hn : n ≤ ms) (C : OkB (wM g ad) X cX10_writesGame RX10 7 4 mc ms) (Y : OkR (wM g ad) X none mc ms PQ PX) (H : (((x2 < 0) → PQ none M) ∧ ((0 ≤ x2) → (((400 < (M 61 0)) → PQ none M) ∧ (((M 61 0) ≤ 400) → ((0 ≤ x2 ∧ x2 < 8) ∧ ((0 ≤ (M 59 x2) ∧ (M 59 x2) < 40) ∧ 0 ≤ (0 : Int) ∧ (0 : Int) ≤ 1) ∧ ((0 ≤ (M 59 x2) ∧ (M 59 x2) < 40) ∧ 0 ≤ (1 : Int) ∧ (1 : Int) ≤ 1) ∧ (R32 ((M 3 (2 * (M 59 x2) + (0 : Int))) + (M 3 (2 * (M 59 x2) + (1 : Int))))) ∧ (R32 ((M 60 x2) + 1)) ∧ (0 ≤ M 59 x2 ∧ M 59 x2 < 40)) ∧ ((((M 1 (M 59 x2)) = 0) → ((((M 60 x2) ≠ 0) → E (wM g ad) X k n (up M 60 x2 ((M 60 x2) + 1)) 119 [(0, .ref (ad 0)), (2, vI x2), (3, vI (M 59 x2)), (4, vI (M 60 x2)), (5, vI (M 3 (2 * (M 59 x2) + (0 : Int)))), (6, vI ((M 3 (2 * (M 59 x2) + (0 : Int))) + (M 3 (2 * (M 59 x2) + (1 : Int)))))] []) ∧ (((M 60 x2) = 0) → ∃ Q10 : Mem → Prop, SpV (wM g ad) yX10_writes cX10_writes 2 none 1 [.ref (ad 0), vI 123] (up M 60 x2 ((M 60 x2) + 1)) Q10 ∧ ∀ M9 : Mem, Q10 M9 → E (wM g ad) X k n M9 119 [(0, .ref (ad 0)), (2, vI x2), (3, vI (M 59 x2)), (4, vI (M 60 x2)), (5, vI (M 3 (2 * (M 59 x2) + (0 : Int)))), (6, vI ((M 3 (2 * (M 59 x2) + (0 : Int))) + (M 3 (2 * (M 59 x2) + (1 : Int)))))] []))) ∧ (((M 1 (M 59 x2)) ≠ 0) → ∃ Q14 : Mem → Prop, SpV (wM g ad) yX10_writesNumber cX10_writesNumber 4 none 3 [.ref (ad 0), vI (Int.tdiv (M 2 (M 59 x2)) 128)] (up M 60 x2 ((M 60 x2) + 1)) Q14 ∧ ∀ M13 : Mem, Q14 M13 → (R32 (x2 + (-1))) ∧ E (wM g ad) X k n M13 21 [(0, .ref (ad 0)), (2, vI (x2 + (-1)))] []))))))) : E (wM g ad) X k n M 21 [(0, .ref (ad 0)), (2, vI x2)] [] := by
  refine e_wf (fun hw0 => ?_)
  refine e_iload_n C 1 dX10_writesGame_21 rfl ?_
  refine e_if_lt C 217 r2 dX10_writesGame_22 (by decide) (fun c9 => ?_) (fun c9 => ?_)
  · replace H := H.1 c9
    exact e_vret C Y hk hn dX10_writesGame_217 H
  · replace H := H.2 c9
    refine e_aload_n C 0 dX10_writesGame_25 rfl ?_
    refine gM_61 C dX10_writesGame_26 ?_
    refine e_sipush C dX10_writesGame_29 (by decide) ?_
    refine e_icmp_gt C 217 (hw0.2.1 61 _ (by decide)) (by decide) dX10_writesGame_32 (by decide) (fun c9 => ?_) (fun c9 => ?_)
    · replace H := H.1 c9
      exact e_vret C Y hk hn dX10_writesGame_217 H
    · replace H := H.2 c9
      refine e_aload_n C 0 dX10_writesGame_35 rfl ?_
      refine gM_59 C dX10_writesGame_36 ?_
      refine e_iload_n C 1 dX10_writesGame_39 rfl ?_
      obtain ⟨⟨o1, o2, o3, o4, o5, o7⟩, H⟩ := H
      refine aM_59 C o1 dX10_writesGame_40 ?_
      refine e_istore_n C dX10_writesGame_41 (by decide) rfl ?_
      refine e_aload_n C 1 dX10_writesGame_42 rfl ?_
      refine gM_60 C dX10_writesGame_43 ?_
      refine e_iload_n C 2 dX10_writesGame_46 rfl ?_
      refine aM_60 C o1 dX10_writesGame_47 ?_
      refine e_istore C dX10_writesGame_48 (by decide) rfl ?_
      refine e_aload_n C 2 dX10_writesGame_50 rfl ?_
      refine e_iload_n C 1 dX10_writesGame_51 rfl ?_
      refine e_iconst C dX10_writesGame_52 ?_
      refine e_callVD (As := [vI (M 59 x2), vI 0]) (rest := []) (q0 := 0) (ci := 10) C Y mi_X10_optionsOf ms_X10_optionsOf mv_X10_optionsOf ml_X10_164 (s_X10_optionsOf (hw0.2.1 59 _ (by decide)) (by decide) o2) rfl rfl (by decide) (Nat.le_of_ble_eq_true rfl) hk hn dX10_writesGame_53 rfl ?_
      refine e_istore C dX10_writesGame_56 (by decide) rfl ?_
      refine e_iload C 0 dX10_writesGame_58 rfl ?_
      refine e_aload_n C 3 dX10_writesGame_60 rfl ?_
      refine e_iload_n C 2 dX10_writesGame_61 rfl ?_
      refine e_iconst C dX10_writesGame_62 ?_
      refine e_callVD (As := [vI (M 59 x2), vI 1]) (rest := [vI (M 3 (2 * (M 59 x2) + (0 : Int)))]) (q0 := 0) (ci := 10) C Y mi_X10_optionsOf ms_X10_optionsOf mv_X10_optionsOf ml_X10_164 (s_X10_optionsOf (hw0.2.1 59 _ (by decide)) (by decide) o3) rfl rfl (by decide) (Nat.le_of_ble_eq_true rfl) hk hn dX10_writesGame_63 rfl ?_
      refine e_iadd C dX10_writesGame_66 ?_
      refine e_istore C dX10_writesGame_67 (by decide) rfl ?_
      refine e_aload_n C 4 dX10_writesGame_69 rfl ?_
      refine gM_60 C dX10_writesGame_70 ?_
      refine e_iload_n C 5 dX10_writesGame_73 rfl ?_
      refine e_dup2 C rfl rfl dX10_writesGame_74 ?_
      refine aM_60 C o1 dX10_writesGame_75 ?_
      refine e_iconst C dX10_writesGame_76 ?_
      refine e_iadd C dX10_writesGame_77 ?_
      refine sM_60 C o1 o5 dX10_writesGame_78 ?_
      refine e_wf (fun hw6 => ?_)
      refine e_aload_n C 4 dX10_writesGame_79 rfl ?_
      refine gM_1 C dX10_writesGame_80 ?_
      refine e_iload_n C 3 dX10_writesGame_83 rfl ?_
      refine aM_1 C o7 dX10_writesGame_84 ?_
      refine e_if_eq C 108 (hw0.2.1 1 _ (by decide)) dX10_writesGame_85 (by decide) (fun c9 => ?_) (fun c9 => ?_)
      · replace H := H.1 c9
        refine e_iload C 2 dX10_writesGame_108 rfl ?_
        refine e_if_ne C 119 (hw0.2.1 60 _ (by decide)) dX10_writesGame_110 (by decide) (fun c9 => ?_) (fun c9 => ?_)
        · replace H := H.1 c9
          exact e_sub [4, 5, 3, 2, 1, 0] rfl H
        · replace H := H.2 c9
          refine e_aload_n C 4 dX10_writesGame_113 rfl ?_
          refine e_bipush C dX10_writesGame_114 (by decide) ?_
          obtain ⟨Q10, h8, H⟩ := H
          refine e_callVV (As := [vI 123]) (rest := []) (q0 := 0) (ci := 10) C Y mi_X10_writes ms_X10_writes mv_X10_writes ml_X10_392 h8 rfl rfl (by decide) (Nat.le_of_ble_eq_true rfl) hk hn dX10_writesGame_116 rfl (fun M9 hq9 => ?_)
          replace H := H M9 hq9
          refine e_wf (fun hw11 => ?_)
          exact e_sub [4, 5, 3, 2, 1, 0] rfl H
      · replace H := H.2 c9
        refine e_aload_n C 4 dX10_writesGame_88 rfl ?_
        refine e_aload_n C 4 dX10_writesGame_89 rfl ?_
        refine gM_2 C dX10_writesGame_90 ?_
        refine e_iload_n C 3 dX10_writesGame_93 rfl ?_
        refine aM_2 C o7 dX10_writesGame_94 ?_
        refine e_sipush C dX10_writesGame_95 (by decide) ?_
        refine e_idiv C (hw0.2.1 2 _ (by decide)) (by decide) (by decide) (by decide) dX10_writesGame_98 ?_
        obtain ⟨Q14, h12, H⟩ := H
        refine e_callVV (As := [vI (Int.tdiv (M 2 (M 59 x2)) 128)]) (rest := []) (q0 := 0) (ci := 10) C Y mi_X10_writesNumber ms_X10_writesNumber mv_X10_writesNumber ml_X10_398 h12 rfl rfl (by decide) (Nat.le_of_ble_eq_true rfl) hk hn dX10_writesGame_99 rfl (fun M13 hq9 => ?_)
        replace H := H M13 hq9
        refine e_wf (fun hw15 => ?_)
        obtain ⟨o16, H⟩ := H
        refine e_iinc C 5 dX10_writesGame_102 rfl (by decide) rfl ?_
        refine e_goto C 214 dX10_writesGame_105 (by decide) ?_
        refine e_goto C 21 dX10_writesGame_214 (by decide) ?_
        exact e_sub [5, 0] rfl H
set_option maxRecDepth 4000 in
theorem B_X10_writesGame_119 {g : Gs} {ad : Nat → Nat} {X : Cx} {mc ms k n : Nat} {PQ : Option Value → Mem → Prop} {PX : String → Mem → Prop} {M : Mem} {x2 x3 x4 x5 x6 : Int} (r2 : R32 x2) (r3 : R32 x3) (r4 : R32 x4) (r5 : R32 x5) (r6 : R32 x6) (hk : k ≤ mc) (hn : n ≤ ms) (C : OkB (wM g ad) X cX10_writesGame RX10 7 4 mc ms) (Y : OkR (wM g ad) X none mc ms PQ PX) (H : (((x4 ≠ x5) → E (wM g ad) X k n M 132 [(0, .ref (ad 0)), (2, vI x2), (3, vI x3), (4, vI x4), (5, vI x5), (6, vI x6)] []) ∧ ((x4 = x5) → ∃ Q3 : Mem → Prop, SpV (wM g ad) yX10_writes cX10_writes 2 none 1 [.ref (ad 0), vI 124] M Q3 ∧ ∀ M2 : Mem, Q3 M2 → E (wM g ad) X k n M2 132 [(0, .ref (ad 0)), (2, vI x2), (3, vI x3), (4, vI x4), (5, vI x5), (6, vI x6)] []))) : E (wM g ad) X k n M 119 [(0, .ref (ad 0)), (2, vI x2), (3, vI x3), (4, vI x4), (5, vI x5), (6, vI x6)] [] := by
  refine e_wf (fun hw0 => ?_)
  refine e_iload C 3 dX10_writesGame_119 rfl ?_
  refine e_iload C 4 dX10_writesGame_121 rfl ?_
  refine e_icmp_ne C 132 r4 r5 dX10_writesGame_123 (by decide) (fun c9 => ?_) (fun c9 => ?_)
  · replace H := H.1 c9
    exact e_sub [0, 1, 2, 3, 4, 5] rfl H
  · replace H := H.2 c9
    refine e_aload_n C 0 dX10_writesGame_126 rfl ?_
    refine e_bipush C dX10_writesGame_127 (by decide) ?_
    obtain ⟨Q3, h1, H⟩ := H
    refine e_callVV (As := [vI 124]) (rest := []) (q0 := 0) (ci := 10) C Y mi_X10_writes ms_X10_writes mv_X10_writes ml_X10_392 h1 rfl rfl (by decide) (Nat.le_of_ble_eq_true rfl) hk hn dX10_writesGame_129 rfl (fun M2 hq9 => ?_)
    replace H := H M2 hq9
    refine e_wf (fun hw4 => ?_)
    exact e_sub [0, 1, 2, 3, 4, 5] rfl H
set_option maxRecDepth 4000 in
theorem B_X10_writesGame_132 {g : Gs} {ad : Nat → Nat} {X : Cx} {mc ms k n : Nat} {PQ : Option Value → Mem → Prop} {PX : String → Mem → Prop} {M : Mem} {x2 x3 x4 x5 x6 : Int} (r2 : R32 x2) (r3 : R32 x3) (r4 : R32 x4) (r5 : R32 x5) (r6 : R32 x6) (hk : k ≤ mc) (hn : n ≤ ms) (C : OkB (wM g ad) X cX10_writesGame RX10 7 4 mc ms) (Y : OkR (wM g ad) X none mc ms PQ PX) (H : (((x4 ≠ x6) → (((x4 ≤ 0) → E (wM g ad) X k n M 169 [(0, .ref (ad 0)), (2, vI x2), (3, vI x3), (4, vI x4), (5, vI x5)] []) ∧ ((0 < x4) → (((x4 = x5) → E (wM g ad) X k n M 169 [(0, .ref (ad 0)), (2, vI x2), (3, vI x3), (4, vI x4), (5, vI x5)] []) ∧ ((x4 ≠ x5) → ∃ Q3 : Mem → Prop, SpV (wM g ad) yX10_writes cX10_writes 2 none 1 [.ref (ad 0), vI 44] M Q3 ∧ ∀ M2 : Mem, Q3 M2 → E (wM g ad) X k n M2 169 [(0, .ref (ad 0)), (2, vI x2), (3, vI x3), (4, vI x4), (5, vI x5)] []))))) ∧ ((x4 = x6) → ∃ Q7 : Mem → Prop, SpV (wM g ad) yX10_writes cX10_writes 2 none 1 [.ref (ad 0), vI 125] M Q7 ∧ ∀ M6 : Mem, Q7 M6 → (R32 (x2 + (-1))) ∧ E (wM g ad) X k n M6 21 [(0, .ref (ad 0)), (2, vI (x2 + (-1)))] []))) : E (wM g ad) X k n M 132 [(0, .ref (ad 0)), (2, vI x2), (3, vI x3), (4, vI x4), (5, vI x5), (6, vI x6)] [] := by
  refine e_wf (fun hw0 => ?_)
  refine e_iload C 3 dX10_writesGame_132 rfl ?_
  refine e_iload C 5 dX10_writesGame_134 rfl ?_
  refine e_icmp_ne C 151 r4 r6 dX10_writesGame_136 (by decide) (fun c9 => ?_) (fun c9 => ?_)
  · replace H := H.1 c9
    refine e_iload C 3 dX10_writesGame_151 rfl ?_
    refine e_if_le C 169 r4 dX10_writesGame_153 (by decide) (fun c9 => ?_) (fun c9 => ?_)
    · replace H := H.1 c9
      exact e_sub [0, 1, 2, 3, 4] rfl H
    · replace H := H.2 c9
      refine e_iload C 3 dX10_writesGame_156 rfl ?_
      refine e_iload C 4 dX10_writesGame_158 rfl ?_
      refine e_icmp_eq C 169 r4 r5 dX10_writesGame_160 (by decide) (fun c9 => ?_) (fun c9 => ?_)
      · replace H := H.1 c9
        exact e_sub [0, 1, 2, 3, 4] rfl H
      · replace H := H.2 c9
        refine e_aload_n C 0 dX10_writesGame_163 rfl ?_
        refine e_bipush C dX10_writesGame_164 (by decide) ?_
        obtain ⟨Q3, h1, H⟩ := H
        refine e_callVV (As := [vI 44]) (rest := []) (q0 := 0) (ci := 10) C Y mi_X10_writes ms_X10_writes mv_X10_writes ml_X10_392 h1 rfl rfl (by decide) (Nat.le_of_ble_eq_true rfl) hk hn dX10_writesGame_166 rfl (fun M2 hq9 => ?_)
        replace H := H M2 hq9
        refine e_wf (fun hw4 => ?_)
        exact e_sub [0, 1, 2, 3, 4] rfl H
  · replace H := H.2 c9
    refine e_aload_n C 0 dX10_writesGame_139 rfl ?_
    refine e_bipush C dX10_writesGame_140 (by decide) ?_
    obtain ⟨Q7, h5, H⟩ := H
    refine e_callVV (As := [vI 125]) (rest := []) (q0 := 0) (ci := 10) C Y mi_X10_writes ms_X10_writes mv_X10_writes ml_X10_392 h5 rfl rfl (by decide) (Nat.le_of_ble_eq_true rfl) hk hn dX10_writesGame_142 rfl (fun M6 hq9 => ?_)
    replace H := H M6 hq9
    refine e_wf (fun hw8 => ?_)
    obtain ⟨o9, H⟩ := H
    refine e_iinc C 1 dX10_writesGame_145 rfl (by decide) rfl ?_
    refine e_goto C 214 dX10_writesGame_148 (by decide) ?_
    refine e_goto C 21 dX10_writesGame_214 (by decide) ?_
    exact e_sub [1, 0] rfl H
set_option maxRecDepth 4000 in
theorem B_X10_writesGame_169 {g : Gs} {ad : Nat → Nat} {X : Cx} {mc ms k n : Nat} {PQ : Option Value → Mem → Prop} {PX : String → Mem → Prop} {M : Mem} {x2 x3 x4 x5 : Int} (r2 : R32 x2) (r3 : R32 x3) (r4 : R32 x4) (r5 : R32 x5) (hk : k ≤ mc) (hn : n ≤ ms) (C : OkB (wM g ad) X cX10_writesGame RX10 7 4 mc ms) (Y : OkR (wM g ad) X none mc ms PQ PX) (H : (R32 (x2 + 1)) ∧ (((x5 ≤ x4) → ((R32 (x4 - x5)) ∧ ((0 ≤ x3 ∧ x3 < 40) ∧ (0 ≤ (1 : Int) ∧ (1 : Int) ≤ 1) ∧ 0 ≤ (x4 - x5) ∧ (x4 - x5) < 4) ∧ (0 ≤ x2 + 1 ∧ x2 + 1 < 8)) ∧ E (wM g ad) X k n (up (up M 59 (x2 + 1) (M 4 (8 * x3 + 4 * (1 : Int) + (x4 - x5)))) 60 (x2 + 1) 0) 21 [(0, .ref (ad 0)), (2, vI (x2 + 1))] []) ∧ ((x4 < x5) → (((0 ≤ x3 ∧ x3 < 40) ∧ (0 ≤ (0 : Int) ∧ (0 : Int) ≤ 1) ∧ 0 ≤ x4 ∧ x4 < 4) ∧ (0 ≤ x2 + 1 ∧ x2 + 1 < 8)) ∧ E (wM g ad) X k n (up (up M 59 (x2 + 1) (M 4 (8 * x3 + 4 * (0 : Int) + x4))) 60 (x2 + 1) 0) 21 [(0, .ref (ad 0)), (2, vI (x2 + 1))] []))) : E (wM g ad) X k n M 169 [(0, .ref (ad 0)), (2, vI x2), (3, vI x3), (4, vI x4), (5, vI x5)] [] := by
  refine e_wf (fun hw0 => ?_)
  obtain ⟨o1, H⟩ := H
  refine e_iinc C 1 dX10_writesGame_169 rfl (by decide) rfl ?_
  refine e_aload_n C 1 dX10_writesGame_172 rfl ?_
  refine gM_59 C dX10_writesGame_173 ?_
  refine e_iload_n C 0 dX10_writesGame_176 rfl ?_
  refine e_iload C 3 dX10_writesGame_177 rfl ?_
  refine e_iload C 4 dX10_writesGame_179 rfl ?_
  refine e_icmp_ge C 195 r4 r5 dX10_writesGame_181 (by decide) (fun c9 => ?_) (fun c9 => ?_)
  · replace H := H.1 c9
    refine e_aload_n C 1 dX10_writesGame_195 rfl ?_
    refine e_iload_n C 2 dX10_writesGame_196 rfl ?_
    refine e_iconst C dX10_writesGame_197 ?_
    refine e_iload C 3 dX10_writesGame_198 rfl ?_
    refine e_iload C 4 dX10_writesGame_200 rfl ?_
    obtain ⟨⟨o2, o3, o4⟩, H⟩ := H
    refine e_isub C dX10_writesGame_202 ?_
    refine e_callVD (As := [vI x3, vI 1, vI (x4 - x5)]) (rest := [vI (x2 + 1), .ref (ad 35)]) (q0 := 0) (ci := 10) C Y mi_X10_optionOf ms_X10_optionOf mv_X10_optionOf ml_X10_167 (s_X10_optionOf r3 (by decide) o2 o3) rfl rfl (by decide) (Nat.le_of_ble_eq_true rfl) hk hn dX10_writesGame_203 rfl ?_
    refine sM_59 C o4 (hw0.2.1 4 _ (by decide)) dX10_writesGame_206 ?_
    refine e_wf (fun hw5 => ?_)
    refine e_aload_n C 1 dX10_writesGame_207 rfl ?_
    refine gM_60 C dX10_writesGame_208 ?_
    refine e_iload_n C 0 dX10_writesGame_211 rfl ?_
    refine e_iconst C dX10_writesGame_212 ?_
    refine sM_60 C o4 (by decide) dX10_writesGame_213 ?_
    refine e_wf (fun hw6 => ?_)
    refine e_goto C 21 dX10_writesGame_214 (by decide) ?_
    exact e_sub [1, 0] rfl H
  · replace H := H.2 c9
    refine e_aload_n C 1 dX10_writesGame_184 rfl ?_
    refine e_iload_n C 2 dX10_writesGame_185 rfl ?_
    refine e_iconst C dX10_writesGame_186 ?_
    refine e_iload C 3 dX10_writesGame_187 rfl ?_
    obtain ⟨⟨o7, o8⟩, H⟩ := H
    refine e_callVD (As := [vI x3, vI 0, vI x4]) (rest := [vI (x2 + 1), .ref (ad 35)]) (q0 := 0) (ci := 10) C Y mi_X10_optionOf ms_X10_optionOf mv_X10_optionOf ml_X10_167 (s_X10_optionOf r3 (by decide) r4 o7) rfl rfl (by decide) (Nat.le_of_ble_eq_true rfl) hk hn dX10_writesGame_189 rfl ?_
    refine e_goto C 206 dX10_writesGame_192 (by decide) ?_
    refine sM_59 C o8 (hw0.2.1 4 _ (by decide)) dX10_writesGame_206 ?_
    refine e_wf (fun hw9 => ?_)
    refine e_aload_n C 1 dX10_writesGame_207 rfl ?_
    refine gM_60 C dX10_writesGame_208 ?_
    refine e_iload_n C 0 dX10_writesGame_211 rfl ?_
    refine e_iconst C dX10_writesGame_212 ?_
    refine sM_60 C o8 (by decide) dX10_writesGame_213 ?_
    refine e_wf (fun hw10 => ?_)
    refine e_goto C 21 dX10_writesGame_214 (by decide) ?_
    exact e_sub [1, 0] rfl H
set_option maxRecDepth 4000 in
theorem B_X10_lays_0 {g : Gs} {ad : Nat → Nat} {X : Cx} {mc ms k n : Nat} {PQ : Option Value → Mem → Prop} {PX : String → Mem → Prop} {M : Mem}  (hk : k ≤ mc) (hn : n ≤ ms) (C : OkB (wM g ad) X cX10_lays RX10 3 5 mc ms) (Y : OkR (wM g ad) X (some .int) mc ms PQ PX) (H : ((R32 ((M 0 0) + 1)) ∧ (0 ≤ M 0 0 ∧ M 0 0 < 40)) ∧ ((((M 1 (M 0 0)) ≠ 0) → E (wM g ad) X k n (up M 0 0 ((M 0 0) + 1)) 42 [(0, .ref (ad 0)), (1, vI (M 0 0))] [vI 1, vI (M 0 0), .ref (ad 6)]) ∧ (((M 1 (M 0 0)) = 0) → ∃ Q6 : Int → Mem → Prop, SpI (wM g ad) yX10_hasValue cX10_hasValue 4 (some .boolean) 3 [.ref (ad 0), vI (M 0 0)] (up M 0 0 ((M 0 0) + 1)) Q6 ∧ ∀ (z7 : Int) (M5 : Mem), Q6 z7 M5 → B01 z7 ∧ (((z7 = 0) → E (wM g ad) X k n M5 42 [(0, .ref (ad 0)), (1, vI (M 0 0))] [vI 0, vI (M 0 0), .ref (ad 6)]) ∧ ((z7 ≠ 0) → E (wM g ad) X k n M5 42 [(0, .ref (ad 0)), (1, vI (M 0 0))] [vI 1, vI (M 0 0), .ref (ad 6)]))))) : E (wM g ad) X k n M 0 [(0, .ref (ad 0))] [] := by
  refine e_wf (fun hw0 => ?_)
  refine e_aload_n C 0 dX10_lays_0 rfl ?_
  refine gM_0 C dX10_lays_1 ?_
  refine e_istore_n C dX10_lays_4 (by decide) rfl ?_
  refine e_aload_n C 1 dX10_lays_5 rfl ?_
  refine e_dup C rfl dX10_lays_6 ?_
  refine gM_0 C dX10_lays_7 ?_
  refine e_iconst C dX10_lays_10 ?_
  obtain ⟨⟨o1, o3⟩, H⟩ := H
  refine e_iadd C dX10_lays_11 ?_
  refine pM_0 C o1 dX10_lays_12 ?_
  refine e_wf (fun hw2 => ?_)
  refine e_aload_n C 1 dX10_lays_15 rfl ?_
  refine gM_6 C dX10_lays_16 ?_
  refine e_iload_n C 0 dX10_lays_19 rfl ?_
  refine e_aload_n C 1 dX10_lays_20 rfl ?_
  refine gM_1 C dX10_lays_21 ?_
  refine e_iload_n C 0 dX10_lays_24 rfl ?_
  refine aM_1 C o3 dX10_lays_25 ?_
  refine e_if_ne C 37 (hw0.2.1 1 _ (by decide)) dX10_lays_26 (by decide) (fun c9 => ?_) (fun c9 => ?_)
  · replace H := H.1 c9
    refine e_iconst C dX10_lays_37 ?_
    refine e_goto C 42 dX10_lays_38 (by decide) ?_
    exact e_sub [1, 0] rfl H
  · replace H := H.2 c9
    refine e_aload_n C 1 dX10_lays_29 rfl ?_
    refine e_iload_n C 0 dX10_lays_30 rfl ?_
    obtain ⟨Q6, h4, H⟩ := H
    refine e_callVI (As := [vI (M 0 0)]) (rest := [vI (M 0 0), .ref (ad 6)]) (q0 := 0) (ci := 10) C Y mi_X10_hasValue ms_X10_hasValue mv_X10_hasValue ml_X10_177 h4 rfl rfl (by decide) (Nat.le_of_ble_eq_true rfl) hk hn dX10_lays_31 rfl (fun z7 M5 hq9 => ?_)
    obtain ⟨o8, H⟩ := H z7 M5 hq9
    refine e_wf (fun hw9 => ?_)
    refine e_if_eq C 41 (b01_r o8) dX10_lays_34 (by decide) (fun c9 => ?_) (fun c9 => ?_)
    · replace H := H.1 c9
      refine e_iconst C dX10_lays_41 ?_
      exact e_sub [1, 0] rfl H
    · replace H := H.2 c9
      refine e_iconst C dX10_lays_37 ?_
      refine e_goto C 42 dX10_lays_38 (by decide) ?_
      exact e_sub [1, 0] rfl H
set_option maxRecDepth 4000 in
theorem B_X10_lays_42 {g : Gs} {ad : Nat → Nat} {X : Cx} {mc ms k n : Nat} {PQ : Option Value → Mem → Prop} {PX : String → Mem → Prop} {M : Mem} {x1 t0 t1 : Int} (r1 : R32 x1) (q0 : R32 t0) (q1 : R32 t1) (hk : k ≤ mc) (hn : n ≤ ms) (C : OkB (wM g ad) X cX10_lays RX10 3 5 mc ms) (Y : OkR (wM g ad) X (some .int) mc ms PQ PX) (H : ((0 ≤ t1 ∧ t1 < 40) ∧ (t0 = 0 ∨ t0 = 1) ∧ (0 ≤ x1 ∧ x1 < 40)) ∧ ((((M 1 x1) = 0) → (((((up M 6 t1 t0) 6 x1) = 0) → E (wM g ad) X k n (up M 6 t1 t0) 83 [(0, .ref (ad 0)), (1, vI x1)] [vI 0, vI x1, .ref (ad 7)]) ∧ ((((up M 6 t1 t0) 6 x1) ≠ 0) → ∃ Q7 : Int → Mem → Prop, SpI (wM g ad) yX10_simplest cX10_simplest 3 (some .int) 2 [.ref (ad 0)] (up M 6 t1 t0) Q7 ∧ ∀ (z8 : Int) (M6 : Mem), Q7 z8 M6 → R32 z8 ∧ E (wM g ad) X k n M6 83 [(0, .ref (ad 0)), (1, vI x1)] [vI z8, vI x1, .ref (ad 7)]))) ∧ (((M 1 x1) ≠ 0) → E (wM g ad) X k n (up M 6 t1 t0) 83 [(0, .ref (ad 0)), (1, vI x1)] [vI (M 2 x1), vI x1, .ref (ad 7)]))) : E (wM g ad) X k n M 42 [(0, .ref (ad 0)), (1, vI x1)] [vI t0, vI t1, .ref (ad 6)] := by
  refine e_wf (fun hw0 => ?_)
  obtain ⟨⟨o1, o2, o4⟩, H⟩ := H
  refine sM_6 C o1 o2 dX10_lays_42 ?_
  refine e_wf (fun hw3 => ?_)
  refine e_aload_n C 0 dX10_lays_43 rfl ?_
  refine gM_7 C dX10_lays_44 ?_
  refine e_iload_n C 1 dX10_lays_47 rfl ?_
  refine e_aload_n C 0 dX10_lays_48 rfl ?_
  refine gM_1 C dX10_lays_49 ?_
  refine e_iload_n C 1 dX10_lays_52 rfl ?_
  refine aM_1 C o4 dX10_lays_53 ?_
  refine e_if_eq C 66 (hw0.2.1 1 _ (by decide)) dX10_lays_54 (by decide) (fun c9 => ?_) (fun c9 => ?_)
  · replace H := H.1 c9
    refine e_aload_n C 0 dX10_lays_66 rfl ?_
    refine gM_6 C dX10_lays_67 ?_
    refine e_iload_n C 1 dX10_lays_70 rfl ?_
    refine aM_6 C o4 dX10_lays_71 ?_
    refine e_if_eq C 82 (hw3.2.1 6 _ (by decide)) dX10_lays_72 (by decide) (fun c9 => ?_) (fun c9 => ?_)
    · replace H := H.1 c9
      refine e_iconst C dX10_lays_82 ?_
      exact e_sub [0, 1] rfl H
    · replace H := H.2 c9
      refine e_aload_n C 0 dX10_lays_75 rfl ?_
      obtain ⟨Q7, h5, H⟩ := H
      refine e_callVI (As := []) (rest := [vI x1, .ref (ad 7)]) (q0 := 0) (ci := 10) C Y mi_X10_simplest ms_X10_simplest mv_X10_simplest ml_X10_180 h5 rfl rfl (by decide) (Nat.le_of_ble_eq_true rfl) hk hn dX10_lays_76 rfl (fun z8 M6 hq9 => ?_)
      obtain ⟨o9, H⟩ := H z8 M6 hq9
      refine e_wf (fun hw10 => ?_)
      refine e_goto C 83 dX10_lays_79 (by decide) ?_
      exact e_sub [0, 1] rfl H
  · replace H := H.2 c9
    refine e_aload_n C 0 dX10_lays_57 rfl ?_
    refine gM_2 C dX10_lays_58 ?_
    refine e_iload_n C 1 dX10_lays_61 rfl ?_
    refine aM_2 C o4 dX10_lays_62 ?_
    refine e_goto C 83 dX10_lays_63 (by decide) ?_
    exact e_sub [0, 1] rfl H
set_option maxRecDepth 4000 in
theorem B_X10_lays_83 {g : Gs} {ad : Nat → Nat} {X : Cx} {mc ms k n : Nat} {PQ : Option Value → Mem → Prop} {PX : String → Mem → Prop} {M : Mem} {x1 t0 t1 : Int} (r1 : R32 x1) (q0 : R32 t0) (q1 : R32 t1) (hk : k ≤ mc) (hn : n ≤ ms) (C : OkB (wM g ad) X cX10_lays RX10 3 5 mc ms) (Y : OkR (wM g ad) X (some .int) mc ms PQ PX) (H : ((0 ≤ t1 ∧ t1 < 40) ∧ (0 ≤ x1 ∧ x1 < 40)) ∧ ((((M 6 x1) = 0) → E (wM g ad) X k n (up (up (up (up (up M 7 t1 t0) 8 x1 (M 34 0)) 9 x1 (M 35 0)) 10 x1 (M 32 0)) 11 x1 (M 33 0)) 176 [(0, .ref (ad 0)), (1, vI x1), (2, vI 0)] []) ∧ (((M 6 x1) ≠ 0) → E (wM g ad) X k n (up (up (up (up (up M 7 t1 t0) 8 x1 ((up M 7 t1 t0) 7 x1)) 10 x1 ((up M 7 t1 t0) 7 x1)) 9 x1 1) 11 x1 1) 176 [(0, .ref (ad 0)), (1, vI x1), (2, vI 0)] []))) : E (wM g ad) X k n M 83 [(0, .ref (ad 0)), (1, vI x1)] [vI t0, vI t1, .ref (ad 7)] := by
  refine e_wf (fun hw0 => ?_)
  obtain ⟨⟨o1, o3⟩, H⟩ := H
  refine sM_7 C o1 q0 dX10_lays_83 ?_
  refine e_wf (fun hw2 => ?_)
  refine e_aload_n C 0 dX10_lays_84 rfl ?_
  refine gM_6 C dX10_lays_85 ?_
  refine e_iload_n C 1 dX10_lays_88 rfl ?_
  refine aM_6 C o3 dX10_lays_89 ?_
  refine e_if_eq C 134 (hw0.2.1 6 _ (by decide)) dX10_lays_90 (by decide) (fun c9 => ?_) (fun c9 => ?_)
  · replace H := H.1 c9
    refine e_aload_n C 0 dX10_lays_134 rfl ?_
    refine gM_8 C dX10_lays_135 ?_
    refine e_iload_n C 1 dX10_lays_138 rfl ?_
    refine e_aload_n C 0 dX10_lays_139 rfl ?_
    refine gM_34 C dX10_lays_140 ?_
    refine sM_8 C o3 (hw0.2.1 34 _ (by decide)) dX10_lays_143 ?_
    refine e_wf (fun hw4 => ?_)
    refine e_aload_n C 0 dX10_lays_144 rfl ?_
    refine gM_9 C dX10_lays_145 ?_
    refine e_iload_n C 1 dX10_lays_148 rfl ?_
    refine e_aload_n C 0 dX10_lays_149 rfl ?_
    refine gM_35 C dX10_lays_150 ?_
    refine sM_9 C o3 (hw0.2.2 35 _ rfl) dX10_lays_153 ?_
    refine e_wf (fun hw5 => ?_)
    refine e_aload_n C 0 dX10_lays_154 rfl ?_
    refine gM_10 C dX10_lays_155 ?_
    refine e_iload_n C 1 dX10_lays_158 rfl ?_
    refine e_aload_n C 0 dX10_lays_159 rfl ?_
    refine gM_32 C dX10_lays_160 ?_
    refine sM_10 C o3 (hw0.2.1 32 _ (by decide)) dX10_lays_163 ?_
    refine e_wf (fun hw6 => ?_)
    refine e_aload_n C 0 dX10_lays_164 rfl ?_
    refine gM_11 C dX10_lays_165 ?_
    refine e_iload_n C 1 dX10_lays_168 rfl ?_
    refine e_aload_n C 0 dX10_lays_169 rfl ?_
    refine gM_33 C dX10_lays_170 ?_
    refine sM_11 C o3 (hw0.2.2 33 _ rfl) dX10_lays_173 ?_
    refine e_wf (fun hw7 => ?_)
    refine e_iconst C dX10_lays_174 ?_
    refine e_istore_n C dX10_lays_175 (by decide) rfl ?_
    exact e_sub [1, 2, 0] rfl H
  · replace H := H.2 c9
    refine e_aload_n C 0 dX10_lays_93 rfl ?_
    refine gM_8 C dX10_lays_94 ?_
    refine e_iload_n C 1 dX10_lays_97 rfl ?_
    refine e_aload_n C 0 dX10_lays_98 rfl ?_
    refine gM_7 C dX10_lays_99 ?_
    refine e_iload_n C 1 dX10_lays_102 rfl ?_
    refine aM_7 C o3 dX10_lays_103 ?_
    refine sM_8 C o3 (hw2.2.1 7 _ (by decide)) dX10_lays_104 ?_
    refine e_wf (fun hw8 => ?_)
    refine e_aload_n C 0 dX10_lays_105 rfl ?_
    refine gM_10 C dX10_lays_106 ?_
    refine e_iload_n C 1 dX10_lays_109 rfl ?_
    refine e_aload_n C 0 dX10_lays_110 rfl ?_
    refine gM_7 C dX10_lays_111 ?_
    refine e_iload_n C 1 dX10_lays_114 rfl ?_
    refine aM_7 C o3 dX10_lays_115 ?_
    refine sM_10 C o3 (hw2.2.1 7 _ (by decide)) dX10_lays_116 ?_
    refine e_wf (fun hw9 => ?_)
    refine e_aload_n C 0 dX10_lays_117 rfl ?_
    refine gM_9 C dX10_lays_118 ?_
    refine e_iload_n C 1 dX10_lays_121 rfl ?_
    refine e_iconst C dX10_lays_122 ?_
    refine sM_9 C o3 (by decide) dX10_lays_123 ?_
    refine e_wf (fun hw10 => ?_)
    refine e_aload_n C 0 dX10_lays_124 rfl ?_
    refine gM_11 C dX10_lays_125 ?_
    refine e_iload_n C 1 dX10_lays_128 rfl ?_
    refine e_iconst C dX10_lays_129 ?_
    refine sM_11 C o3 (by decide) dX10_lays_130 ?_
    refine e_wf (fun hw11 => ?_)
    refine e_goto C 174 dX10_lays_131 (by decide) ?_
    refine e_iconst C dX10_lays_174 ?_
    refine e_istore_n C dX10_lays_175 (by decide) rfl ?_
    exact e_sub [1, 2, 0] rfl H
set_option maxRecDepth 4000 in
theorem B_X10_lays_176 {g : Gs} {ad : Nat → Nat} {X : Cx} {mc ms k n : Nat} {PQ : Option Value → Mem → Prop} {PX : String → Mem → Prop} {M : Mem} {x1 x2 : Int} (r1 : R32 x1) (r2 : R32 x2) (hk : k ≤ mc) (hn : n ≤ ms) (C : OkB (wM g ad) X cX10_lays RX10 3 5 mc ms) (Y : OkR (wM g ad) X (some .int) mc ms PQ PX) (H : (((x1 < x2) → ∃ Q3 : Mem → Prop, SpV (wM g ad) yX10_laysWalls cX10_laysWalls 6 none 4 [.ref (ad 0), vI x1] M Q3 ∧ ∀ M2 : Mem, Q3 M2 → PQ (some (vI x1)) M2) ∧ ((x2 ≤ x1) → ((R32 (40 * x1)) ∧ (R32 ((40 * x1) + x2))) ∧ ∃ Q9 : Int → Mem → Prop, SpI (wM g ad) yX10_isAtLeast cX10_isAtLeast 5 (some .boolean) 3 [.ref (ad 0), vI x1, vI x2] M Q9 ∧ ∀ (z10 : Int) (M8 : Mem), Q9 z10 M8 → B01 z10 ∧ ((0 ≤ (40 * x1) + x2 ∧ (40 * x1) + x2 < 1600) ∧ (R32 (40 * x2)) ∧ (R32 ((40 * x2) + x1))) ∧ ∃ Q19 : Int → Mem → Prop, SpI (wM g ad) yX10_isAtLeast cX10_isAtLeast 5 (some .boolean) 3 [.ref (ad 0), vI x2, vI x1] (up M8 12 ((40 * x1) + x2) z10) Q19 ∧ ∀ (z20 : Int) (M18 : Mem), Q19 z20 M18 → B01 z20 ∧ ((0 ≤ (40 * x2) + x1 ∧ (40 * x2) + x1 < 1600) ∧ (R32 (x2 + 1))) ∧ E (wM g ad) X k n (up M18 12 ((40 * x2) + x1) z20) 176 [(0, .ref (ad 0)), (1, vI x1), (2, vI (x2 + 1))] []))) : E (wM g ad) X k n M 176 [(0, .ref (ad 0)), (1, vI x1), (2, vI x2)] [] := by
  refine e_wf (fun hw0 => ?_)
  refine e_iload_n C 2 dX10_lays_176 rfl ?_
  refine e_iload_n C 1 dX10_lays_177 rfl ?_
  refine e_icmp_gt C 221 r2 r1 dX10_lays_178 (by decide) (fun c9 => ?_) (fun c9 => ?_)
  · replace H := H.1 c9
    refine e_aload_n C 0 dX10_lays_221 rfl ?_
    refine e_iload_n C 1 dX10_lays_222 rfl ?_
    obtain ⟨Q3, h1, H⟩ := H
    refine e_callVV (As := [vI x1]) (rest := []) (q0 := 0) (ci := 10) C Y mi_X10_laysWalls ms_X10_laysWalls mv_X10_laysWalls ml_X10_199 h1 rfl rfl (by decide) (Nat.le_of_ble_eq_true rfl) hk hn dX10_lays_223 rfl (fun M2 hq9 => ?_)
    replace H := H M2 hq9
    refine e_wf (fun hw4 => ?_)
    refine e_iload_n C 1 dX10_lays_226 rfl ?_
    exact e_iret C Y hk hn dX10_lays_227 H
  · replace H := H.2 c9
    refine e_aload_n C 0 dX10_lays_181 rfl ?_
    refine gM_12 C dX10_lays_182 ?_
    refine e_bipush C dX10_lays_185 (by decide) ?_
    refine e_iload_n C 1 dX10_lays_187 rfl ?_
    obtain ⟨⟨o5, o6⟩, H⟩ := H
    refine e_imul C dX10_lays_188 ?_
    refine e_iload_n C 2 dX10_lays_189 rfl ?_
    refine e_iadd C dX10_lays_190 ?_
    refine e_aload_n C 0 dX10_lays_191 rfl ?_
    refine e_iload_n C 1 dX10_lays_192 rfl ?_
    refine e_iload_n C 2 dX10_lays_193 rfl ?_
    obtain ⟨Q9, h7, H⟩ := H
    refine e_callVI (As := [vI x1, vI x2]) (rest := [vI ((40 * x1) + x2), .ref (ad 12)]) (q0 := 0) (ci := 10) C Y mi_X10_isAtLeast ms_X10_isAtLeast mv_X10_isAtLeast ml_X10_195 h7 rfl rfl (by decide) (Nat.le_of_ble_eq_true rfl) hk hn dX10_lays_194 rfl (fun z10 M8 hq9 => ?_)
    obtain ⟨o11, H⟩ := H z10 M8 hq9
    refine e_wf (fun hw12 => ?_)
    obtain ⟨⟨o13, o15, o16⟩, H⟩ := H
    refine sM_12 C o13 o11 dX10_lays_197 ?_
    refine e_wf (fun hw14 => ?_)
    refine e_aload_n C 0 dX10_lays_198 rfl ?_
    refine gM_12 C dX10_lays_199 ?_
    refine e_bipush C dX10_lays_202 (by decide) ?_
    refine e_iload_n C 2 dX10_lays_204 rfl ?_
    refine e_imul C dX10_lays_205 ?_
    refine e_iload_n C 1 dX10_lays_206 rfl ?_
    refine e_iadd C dX10_lays_207 ?_
    refine e_aload_n C 0 dX10_lays_208 rfl ?_
    refine e_iload_n C 2 dX10_lays_209 rfl ?_
    refine e_iload_n C 1 dX10_lays_210 rfl ?_
    obtain ⟨Q19, h17, H⟩ := H
    refine e_callVI (As := [vI x2, vI x1]) (rest := [vI ((40 * x2) + x1), .ref (ad 12)]) (q0 := 0) (ci := 10) C Y mi_X10_isAtLeast ms_X10_isAtLeast mv_X10_isAtLeast ml_X10_195 h17 rfl rfl (by decide) (Nat.le_of_ble_eq_true rfl) hk hn dX10_lays_211 rfl (fun z20 M18 hq9 => ?_)
    obtain ⟨o21, H⟩ := H z20 M18 hq9
    refine e_wf (fun hw22 => ?_)
    obtain ⟨⟨o23, o25⟩, H⟩ := H
    refine sM_12 C o23 o21 dX10_lays_214 ?_
    refine e_wf (fun hw24 => ?_)
    refine e_iinc C 2 dX10_lays_215 rfl (by decide) rfl ?_
    refine e_goto C 176 dX10_lays_218 (by decide) ?_
    exact e_sub [1, 2, 0] rfl H
set_option maxRecDepth 4000 in
theorem B_X10_size_0 {g : Gs} {ad : Nat → Nat} {X : Cx} {mc ms k n : Nat} {PQ : Option Value → Mem → Prop} {PX : String → Mem → Prop} {M : Mem}  (hk : k ≤ mc) (hn : n ≤ ms) (C : OkB (wM g ad) X cX10_size RX10 1 5 mc ms) (Y : OkR (wM g ad) X (some .int) mc ms PQ PX) (H : ∃ Q4 : Mem → Prop, SpV (wM g ad) yX10_plays cX10_plays 2 none 1 [.ref (ad 0)] (up M 20 0 0) Q4 ∧ ∀ M3 : Mem, Q4 M3 → ∃ Q8 : Int → Mem → Prop, SpI (wM g ad) yX10_sizeNow cX10_sizeNow 3 (some .int) 4 [.ref (ad 0)] M3 Q8 ∧ ∀ (z9 : Int) (M7 : Mem), Q8 z9 M7 → R32 z9 ∧ PQ (some (vI z9)) M7) : E (wM g ad) X k n M 0 [(0, .ref (ad 0))] [] := by
  refine e_wf (fun hw0 => ?_)
  refine e_aload_n C 0 dX10_size_0 rfl ?_
  refine e_iconst C dX10_size_1 ?_
  refine pM_20 C (by decide) dX10_size_2 ?_
  refine e_wf (fun hw1 => ?_)
  refine e_aload_n C 0 dX10_size_5 rfl ?_
  obtain ⟨Q4, h2, H⟩ := H
  refine e_callVV (As := []) (rest := []) (q0 := 0) (ci := 10) C Y mi_X10_plays ms_X10_plays mv_X10_plays ml_X10_261 h2 rfl rfl (by decide) (Nat.le_of_ble_eq_true rfl) hk hn dX10_size_6 rfl (fun M3 hq9 => ?_)
  replace H := H M3 hq9
  refine e_wf (fun hw5 => ?_)
  refine e_aload_n C 0 dX10_size_9 rfl ?_
  obtain ⟨Q8, h6, H⟩ := H
  refine e_callVI (As := []) (rest := []) (q0 := 0) (ci := 10) C Y mi_X10_sizeNow ms_X10_sizeNow mv_X10_sizeNow ml_X10_264 h6 rfl rfl (by decide) (Nat.le_of_ble_eq_true rfl) hk hn dX10_size_10 rfl (fun z9 M7 hq9 => ?_)
  obtain ⟨o10, H⟩ := H z9 M7 hq9
  refine e_wf (fun hw11 => ?_)
  exact e_iret C Y hk hn dX10_size_13 H
set_option maxRecDepth 4000 in
theorem B_X10_laysScores_0 {g : Gs} {ad : Nat → Nat} {X : Cx} {mc ms k n : Nat} {PQ : Option Value → Mem → Prop} {PX : String → Mem → Prop} {M : Mem}  (hk : k ≤ mc) (hn : n ≤ ms) (C : OkB (wM g ad) X cX10_laysScores RX10 3 5 mc ms) (Y : OkR (wM g ad) X (some .int) mc ms PQ PX) (H : ∃ Q3 : Int → Mem → Prop, SpI (wM g ad) yX10_sizeNow cX10_sizeNow 3 (some .int) 4 [.ref (ad 0)] M Q3 ∧ ∀ (z4 : Int) (M2 : Mem), Q3 z4 M2 → R32 z4 ∧ E (wM g ad) X k n M2 7 [(0, .ref (ad 0)), (1, vI z4), (2, vI 0)] []) : E (wM g ad) X k n M 0 [(0, .ref (ad 0))] [] := by
  refine e_wf (fun hw0 => ?_)
  refine e_aload_n C 0 dX10_laysScores_0 rfl ?_
  obtain ⟨Q3, h1, H⟩ := H
  refine e_callVI (As := []) (rest := []) (q0 := 0) (ci := 10) C Y mi_X10_sizeNow ms_X10_sizeNow mv_X10_sizeNow ml_X10_264 h1 rfl rfl (by decide) (Nat.le_of_ble_eq_true rfl) hk hn dX10_laysScores_1 rfl (fun z4 M2 hq9 => ?_)
  obtain ⟨o5, H⟩ := H z4 M2 hq9
  refine e_wf (fun hw6 => ?_)
  refine e_istore_n C dX10_laysScores_4 (by decide) rfl ?_
  refine e_iconst C dX10_laysScores_5 ?_
  refine e_istore_n C dX10_laysScores_6 (by decide) rfl ?_
  exact e_sub [2, 1, 0] rfl H
set_option maxRecDepth 4000 in
theorem B_X10_laysScores_7 {g : Gs} {ad : Nat → Nat} {X : Cx} {mc ms k n : Nat} {PQ : Option Value → Mem → Prop} {PX : String → Mem → Prop} {M : Mem} {x1 x2 : Int} (r1 : R32 x1) (r2 : R32 x2) (hk : k ≤ mc) (hn : n ≤ ms) (C : OkB (wM g ad) X cX10_laysScores RX10 3 5 mc ms) (Y : OkR (wM g ad) X (some .int) mc ms PQ PX) (H : (((x1 ≤ x2) → (R32 (x1 - 1)) ∧ PQ (some (vI (x1 - 1))) M) ∧ ((x2 < x1) → (R32 (2 * x2)) ∧ ∃ Q5 : Int → Mem → Prop, SpI (wM g ad) yX10_scoreOf cX10_scoreOf 11 (some .int) 3 [.ref (ad 0), vI x2, vI 0] M Q5 ∧ ∀ (z6 : Int) (M4 : Mem), Q5 z6 M4 → R32 z6 ∧ ((0 ≤ 2 * x2 ∧ 2 * x2 < 8000) ∧ (R32 ((2 * x2) + 1))) ∧ ∃ Q14 : Int → Mem → Prop, SpI (wM g ad) yX10_scoreOf cX10_scoreOf 11 (some .int) 3 [.ref (ad 0), vI x2, vI 1] (up M4 42 (2 * x2) z6) Q14 ∧ ∀ (z15 : Int) (M13 : Mem), Q14 z15 M13 → R32 z15 ∧ ((0 ≤ (2 * x2) + 1 ∧ (2 * x2) + 1 < 8000) ∧ (R32 (x2 + 1))) ∧ E (wM g ad) X k n (up M13 42 ((2 * x2) + 1) z15) 7 [(0, .ref (ad 0)), (1, vI x1), (2, vI (x2 + 1))] []))) : E (wM g ad) X k n M 7 [(0, .ref (ad 0)), (1, vI x1), (2, vI x2)] [] := by
  refine e_wf (fun hw0 => ?_)
  refine e_iload_n C 2 dX10_laysScores_7 rfl ?_
  refine e_iload_n C 1 dX10_laysScores_8 rfl ?_
  refine e_icmp_ge C 48 r2 r1 dX10_laysScores_9 (by decide) (fun c9 => ?_) (fun c9 => ?_)
  · replace H := H.1 c9
    refine e_iload_n C 1 dX10_laysScores_48 rfl ?_
    refine e_iconst C dX10_laysScores_49 ?_
    obtain ⟨o1, H⟩ := H
    refine e_isub C dX10_laysScores_50 ?_
    exact e_iret C Y hk hn dX10_laysScores_51 H
  · replace H := H.2 c9
    refine e_aload_n C 0 dX10_laysScores_12 rfl ?_
    refine gM_42 C dX10_laysScores_13 ?_
    refine e_iconst C dX10_laysScores_16 ?_
    refine e_iload_n C 2 dX10_laysScores_17 rfl ?_
    obtain ⟨o2, H⟩ := H
    refine e_imul C dX10_laysScores_18 ?_
    refine e_aload_n C 0 dX10_laysScores_19 rfl ?_
    refine e_iload_n C 2 dX10_laysScores_20 rfl ?_
    refine e_iconst C dX10_laysScores_21 ?_
    obtain ⟨Q5, h3, H⟩ := H
    refine e_callVI (As := [vI x2, vI 0]) (rest := [vI (2 * x2), .ref (ad 31)]) (q0 := 0) (ci := 10) C Y mi_X10_scoreOf ms_X10_scoreOf mv_X10_scoreOf ml_X10_273 h3 rfl rfl (by decide) (Nat.le_of_ble_eq_true rfl) hk hn dX10_laysScores_22 rfl (fun z6 M4 hq9 => ?_)
    obtain ⟨o7, H⟩ := H z6 M4 hq9
    refine e_wf (fun hw8 => ?_)
    obtain ⟨⟨o9, o11⟩, H⟩ := H
    refine sM_42 C o9 o7 dX10_laysScores_25 ?_
    refine e_wf (fun hw10 => ?_)
    refine e_aload_n C 0 dX10_laysScores_26 rfl ?_
    refine gM_42 C dX10_laysScores_27 ?_
    refine e_iconst C dX10_laysScores_30 ?_
    refine e_iload_n C 2 dX10_laysScores_31 rfl ?_
    refine e_imul C dX10_laysScores_32 ?_
    refine e_iconst C dX10_laysScores_33 ?_
    refine e_iadd C dX10_laysScores_34 ?_
    refine e_aload_n C 0 dX10_laysScores_35 rfl ?_
    refine e_iload_n C 2 dX10_laysScores_36 rfl ?_
    refine e_iconst C dX10_laysScores_37 ?_
    obtain ⟨Q14, h12, H⟩ := H
    refine e_callVI (As := [vI x2, vI 1]) (rest := [vI ((2 * x2) + 1), .ref (ad 31)]) (q0 := 0) (ci := 10) C Y mi_X10_scoreOf ms_X10_scoreOf mv_X10_scoreOf ml_X10_273 h12 rfl rfl (by decide) (Nat.le_of_ble_eq_true rfl) hk hn dX10_laysScores_38 rfl (fun z15 M13 hq9 => ?_)
    obtain ⟨o16, H⟩ := H z15 M13 hq9
    refine e_wf (fun hw17 => ?_)
    obtain ⟨⟨o18, o20⟩, H⟩ := H
    refine sM_42 C o18 o16 dX10_laysScores_41 ?_
    refine e_wf (fun hw19 => ?_)
    refine e_iinc C 2 dX10_laysScores_42 rfl (by decide) rfl ?_
    refine e_goto C 7 dX10_laysScores_45 (by decide) ?_
    exact e_sub [1, 2, 0] rfl H
set_option maxRecDepth 4000 in
theorem B_X10_write_0 {g : Gs} {ad : Nat → Nat} {X : Cx} {mc ms k n : Nat} {PQ : Option Value → Mem → Prop} {PX : String → Mem → Prop} {M : Mem} {x1 : Int} (r1 : R32 x1) (hk : k ≤ mc) (hn : n ≤ ms) (C : OkB (wM g ad) X cX10_write RX10 4 5 mc ms) (Y : OkR (wM g ad) X (some .int) mc ms PQ PX) (H : (R32 ((M 0 0) - 1)) ∧ (((¬(0 ≤ x1 ∧ x1 < (M 0 0))) → E (wM g ad) X k n M 15 [(0, .ref (ad 0)), (2, vI (b2i (0 ≤ x1 ∧ x1 < (M 0 0))))] []) ∧ ((0 ≤ x1 ∧ x1 < (M 0 0)) → ∃ Q4 : Mem → Prop, SpV (wM g ad) yX10_writesGame cX10_writesGame 7 none 4 [.ref (ad 0), vI x1] M Q4 ∧ ∀ M3 : Mem, Q4 M3 → E (wM g ad) X k n M3 15 [(0, .ref (ad 0)), (2, vI (b2i (0 ≤ x1 ∧ x1 < (M 0 0))))] []))) : E (wM g ad) X k n M 0 [(0, .ref (ad 0)), (1, vI x1)] [] := by
  refine e_wf (fun hw0 => ?_)
  refine e_aload_n C 0 dX10_write_0 rfl ?_
  refine e_iload_n C 1 dX10_write_1 rfl ?_
  obtain ⟨o1, H⟩ := H
  refine e_callVD (As := [vI x1]) (rest := []) (q0 := 0) (ci := 10) C Y mi_X10_isGame ms_X10_isGame mv_X10_isGame ml_X10_236 (s_X10_isGame r1 o1) rfl rfl (by decide) (Nat.le_of_ble_eq_true rfl) hk hn dX10_write_2 rfl ?_
  refine e_istore_n C dX10_write_5 (by decide) rfl ?_
  refine e_iload_n C 0 dX10_write_6 rfl ?_
  refine e_if_eq C 15 (b2i_r _) dX10_write_7 (by decide) (fun c9 => ?_) (fun c9 => ?_)
  · replace H := H.1 (b2i_0.mp c9)
    exact e_sub [1, 0] rfl H
  · replace H := H.2 (b2i_n0.mp c9)
    refine e_aload_n C 1 dX10_write_10 rfl ?_
    refine e_iload_n C 2 dX10_write_11 rfl ?_
    obtain ⟨Q4, h2, H⟩ := H
    refine e_callVV (As := [vI x1]) (rest := []) (q0 := 0) (ci := 10) C Y mi_X10_writesGame ms_X10_writesGame mv_X10_writesGame ml_X10_401 h2 rfl rfl (by decide) (Nat.le_of_ble_eq_true rfl) hk hn dX10_write_12 rfl (fun M3 hq9 => ?_)
    replace H := H M3 hq9
    refine e_wf (fun hw5 => ?_)
    exact e_sub [1, 0] rfl H
set_option maxRecDepth 4000 in
theorem B_X10_write_15 {g : Gs} {ad : Nat → Nat} {X : Cx} {mc ms k n : Nat} {PQ : Option Value → Mem → Prop} {PX : String → Mem → Prop} {M : Mem} {x2 : Int} (r2 : R32 x2) (hk : k ≤ mc) (hn : n ≤ ms) (C : OkB (wM g ad) X cX10_write RX10 4 5 mc ms) (Y : OkR (wM g ad) X (some .int) mc ms PQ PX) (H : (((x2 ≠ 0) → ((((M 61 0) ≤ 400) → E (wM g ad) X k n M 39 [(0, .ref (ad 0))] [vI 0, .ref (ad 0)]) ∧ ((400 < (M 61 0)) → E (wM g ad) X k n M 39 [(0, .ref (ad 0))] [vI 2, .ref (ad 0)]))) ∧ ((x2 = 0) → E (wM g ad) X k n M 39 [(0, .ref (ad 0))] [vI 1, .ref (ad 0)]))) : E (wM g ad) X k n M 15 [(0, .ref (ad 0)), (2, vI x2)] [] := by
  refine e_wf (fun hw0 => ?_)
  refine e_aload_n C 0 dX10_write_15 rfl ?_
  refine e_iload_n C 1 dX10_write_16 rfl ?_
  refine e_if_ne C 24 r2 dX10_write_17 (by decide) (fun c9 => ?_) (fun c9 => ?_)
  · replace H := H.1 c9
    refine e_aload_n C 0 dX10_write_24 rfl ?_
    refine gM_61 C dX10_write_25 ?_
    refine e_sipush C dX10_write_28 (by decide) ?_
    refine e_icmp_le C 38 (hw0.2.1 61 _ (by decide)) (by decide) dX10_write_31 (by decide) (fun c9 => ?_) (fun c9 => ?_)
    · replace H := H.1 c9
      refine e_iconst C dX10_write_38 ?_
      exact e_sub [0] rfl H
    · replace H := H.2 c9
      refine e_iconst C dX10_write_34 ?_
      refine e_goto C 39 dX10_write_35 (by decide) ?_
      exact e_sub [0] rfl H
  · replace H := H.2 c9
    refine e_iconst C dX10_write_20 ?_
    refine e_goto C 39 dX10_write_21 (by decide) ?_
    exact e_sub [0] rfl H
set_option maxRecDepth 4000 in
theorem B_X10_write_39 {g : Gs} {ad : Nat → Nat} {X : Cx} {mc ms k n : Nat} {PQ : Option Value → Mem → Prop} {PX : String → Mem → Prop} {M : Mem} {t0 : Int} (q0 : R32 t0) (hk : k ≤ mc) (hn : n ≤ ms) (C : OkB (wM g ad) X cX10_write RX10 4 5 mc ms) (Y : OkR (wM g ad) X (some .int) mc ms PQ PX) (H : (((¬(0 < t0)) → E (wM g ad) X k n (up (up M 20 0 t0) 26 0 (M 61 0)) 57 [(0, .ref (ad 0)), (3, vI 0)] []) ∧ ((0 < t0) → PQ (some (vI 0)) (up M 20 0 t0)))) : E (wM g ad) X k n M 39 [(0, .ref (ad 0))] [vI t0, .ref (ad 0)] := by
  refine e_wf (fun hw0 => ?_)
  refine e_callVD (As := [vI t0]) (rest := []) (q0 := 0) (ci := 10) C Y mi_X10_refused ms_X10_refused mv_X10_refused ml_X10_227 (s_X10_refused q0) rfl rfl (by decide) (Nat.le_of_ble_eq_true rfl) hk hn dX10_write_39 rfl ?_
  refine e_wf (fun hw1 => ?_)
  refine e_if_eq C 47 (b2i_r _) dX10_write_42 (by decide) (fun c9 => ?_) (fun c9 => ?_)
  · replace H := H.1 (b2i_0.mp c9)
    refine e_aload_n C 0 dX10_write_47 rfl ?_
    refine e_aload_n C 0 dX10_write_48 rfl ?_
    refine gM_61 C dX10_write_49 ?_
    refine pM_26 C (hw0.2.1 61 _ (by decide)) dX10_write_52 ?_
    refine e_wf (fun hw2 => ?_)
    refine e_iconst C dX10_write_55 ?_
    refine e_istore_n C dX10_write_56 (by decide) rfl ?_
    exact e_sub [1, 0] rfl H
  · replace H := H.2 (b2i_n0.mp c9)
    refine e_iconst C dX10_write_45 ?_
    exact e_iret C Y hk hn dX10_write_46 H
set_option maxRecDepth 4000 in
theorem B_X10_write_57 {g : Gs} {ad : Nat → Nat} {X : Cx} {mc ms k n : Nat} {PQ : Option Value → Mem → Prop} {PX : String → Mem → Prop} {M : Mem} {x3 : Int} (r3 : R32 x3) (hk : k ≤ mc) (hn : n ≤ ms) (C : OkB (wM g ad) X cX10_write RX10 4 5 mc ms) (Y : OkR (wM g ad) X (some .int) mc ms PQ PX) (H : ((((M 26 0) ≤ x3) → PQ (some (vI (M 26 0))) M) ∧ ((x3 < (M 26 0)) → ((0 ≤ x3 ∧ x3 < 401) ∧ (0 ≤ x3 ∧ x3 < 400) ∧ (R32 (x3 + 1))) ∧ E (wM g ad) X k n (up M 62 x3 (M 25 x3)) 57 [(0, .ref (ad 0)), (3, vI (x3 + 1))] []))) : E (wM g ad) X k n M 57 [(0, .ref (ad 0)), (3, vI x3)] [] := by
  refine e_wf (fun hw0 => ?_)
  refine e_iload_n C 1 dX10_write_57 rfl ?_
  refine e_aload_n C 0 dX10_write_58 rfl ?_
  refine gM_26 C dX10_write_59 ?_
  refine e_icmp_ge C 83 r3 (hw0.2.1 26 _ (by decide)) dX10_write_62 (by decide) (fun c9 => ?_) (fun c9 => ?_)
  · replace H := H.1 c9
    refine e_aload_n C 0 dX10_write_83 rfl ?_
    refine gM_26 C dX10_write_84 ?_
    exact e_iret C Y hk hn dX10_write_87 H
  · replace H := H.2 c9
    refine e_aload_n C 0 dX10_write_65 rfl ?_
    refine gM_62 C dX10_write_66 ?_
    refine e_iload_n C 1 dX10_write_69 rfl ?_
    refine e_aload_n C 0 dX10_write_70 rfl ?_
    refine gM_25 C dX10_write_71 ?_
    refine e_iload_n C 1 dX10_write_74 rfl ?_
    obtain ⟨⟨o1, o2, o4⟩, H⟩ := H
    refine aM_25 C o1 dX10_write_75 ?_
    refine sM_62 C o2 (hw0.2.1 25 _ (by decide)) dX10_write_76 ?_
    refine e_wf (fun hw3 => ?_)
    refine e_iinc C 1 dX10_write_77 rfl (by decide) rfl ?_
    refine e_goto C 57 dX10_write_80 (by decide) ?_
    exact e_sub [1, 0] rfl H
set_option maxRecDepth 4000 in
theorem B_X10_made_0 {g : Gs} {ad : Nat → Nat} {X : Cx} {mc ms k n : Nat} {PQ : Option Value → Mem → Prop} {PX : String → Mem → Prop} {M : Mem}  (hk : k ≤ mc) (hn : n ≤ ms) (C : OkB (wM g ad) X cX10_made RX10 5 6 mc ms) (Y : OkR (wM g ad) X (some .int) mc ms PQ PX) (H : ((((M 29 0) = 0) → E (wM g ad) X k n M 13 [(0, .ref (ad 0)), (1, vI 0), (2, vI 0)] []) ∧ (((M 29 0) ≠ 0) → PQ (some (vI (-1))) M))) : E (wM g ad) X k n M 0 [(0, .ref (ad 0))] [] := by
  refine e_wf (fun hw0 => ?_)
  refine e_aload_n C 0 dX10_made_0 rfl ?_
  refine gM_29 C dX10_made_1 ?_
  refine e_if_eq C 9 (hw0.2.1 29 _ (by decide)) dX10_made_4 (by decide) (fun c9 => ?_) (fun c9 => ?_)
  · replace H := H.1 c9
    refine e_iconst C dX10_made_9 ?_
    refine e_istore_n C dX10_made_10 (by decide) rfl ?_
    refine e_iconst C dX10_made_11 ?_
    refine e_istore_n C dX10_made_12 (by decide) rfl ?_
    exact e_sub [2, 1, 0] rfl H
  · replace H := H.2 c9
    refine e_iconst C dX10_made_7 ?_
    exact e_iret C Y hk hn dX10_made_8 H
set_option maxRecDepth 4000 in
theorem B_X10_made_13 {g : Gs} {ad : Nat → Nat} {X : Cx} {mc ms k n : Nat} {PQ : Option Value → Mem → Prop} {PX : String → Mem → Prop} {M : Mem} {x1 x2 : Int} (r1 : R32 x1) (r2 : R32 x2) (hk : k ≤ mc) (hn : n ≤ ms) (C : OkB (wM g ad) X cX10_made RX10 5 6 mc ms) (Y : OkR (wM g ad) X (some .int) mc ms PQ PX) (H : (((2 ≤ x2) → (((x1 ≠ 6) → E (wM g ad) X k n M 82 [(0, .ref (ad 0)), (1, vI x1), (2, vI 0)] []) ∧ ((x1 = 6) → PQ (some (vI (-1))) M))) ∧ ((x2 < 2) → E (wM g ad) X k n M 20 [(0, .ref (ad 0)), (1, vI x1), (2, vI x2), (3, vI 0)] []))) : E (wM g ad) X k n M 13 [(0, .ref (ad 0)), (1, vI x1), (2, vI x2)] [] := by
  refine e_wf (fun hw0 => ?_)
  refine e_iload_n C 2 dX10_made_13 rfl ?_
  refine e_iconst C dX10_made_14 ?_
  refine e_icmp_ge C 72 r2 (by decide) dX10_made_15 (by decide) (fun c9 => ?_) (fun c9 => ?_)
  · replace H := H.1 c9
    refine e_iload_n C 1 dX10_made_72 rfl ?_
    refine e_bipush C dX10_made_73 (by decide) ?_
    refine e_icmp_ne C 80 r1 (by decide) dX10_made_75 (by decide) (fun c9 => ?_) (fun c9 => ?_)
    · replace H := H.1 c9
      refine e_iconst C dX10_made_80 ?_
      refine e_istore_n C dX10_made_81 (by decide) rfl ?_
      exact e_sub [1, 2, 0] rfl H
    · replace H := H.2 c9
      refine e_iconst C dX10_made_78 ?_
      exact e_iret C Y hk hn dX10_made_79 H
  · replace H := H.2 c9
    refine e_iconst C dX10_made_18 ?_
    refine e_istore_n C dX10_made_19 (by decide) rfl ?_
    exact e_sub [1, 2, 3, 0] rfl H
set_option maxRecDepth 4000 in
theorem B_X10_made_20 {g : Gs} {ad : Nat → Nat} {X : Cx} {mc ms k n : Nat} {PQ : Option Value → Mem → Prop} {PX : String → Mem → Prop} {M : Mem} {x1 x2 x3 : Int} (r1 : R32 x1) (r2 : R32 x2) (r3 : R32 x3) (hk : k ≤ mc) (hn : n ≤ ms) (C : OkB (wM g ad) X cX10_made RX10 5 6 mc ms) (Y : OkR (wM g ad) X (some .int) mc ms PQ PX) (H : (0 ≤ x2 ∧ x2 < 2) ∧ ((((M 30 x2) ≤ x3) → (R32 (x2 + 1)) ∧ E (wM g ad) X k n M 13 [(0, .ref (ad 0)), (1, vI x1), (2, vI (x2 + 1))] []) ∧ ((x3 < (M 30 x2)) → ((R32 (4 * x2)) ∧ (R32 ((4 * x2) + x3)) ∧ (0 ≤ (4 * x2) + x3 ∧ (4 * x2) + x3 < 8) ∧ (0 ≤ M 31 ((4 * x2) + x3) ∧ M 31 ((4 * x2) + x3) < 40)) ∧ ((((M 5 (M 31 ((4 * x2) + x3))) ≤ x1) → (R32 (x3 + 1)) ∧ E (wM g ad) X k n M 20 [(0, .ref (ad 0)), (1, vI x1), (2, vI x2), (3, vI (x3 + 1))] []) ∧ ((x1 < (M 5 (M 31 ((4 * x2) + x3)))) → (R32 (x3 + 1)) ∧ E (wM g ad) X k n M 20 [(0, .ref (ad 0)), (1, vI (M 5 (M 31 ((4 * x2) + x3)))), (2, vI x2), (3, vI (x3 + 1))] []))))) : E (wM g ad) X k n M 20 [(0, .ref (ad 0)), (1, vI x1), (2, vI x2), (3, vI x3)] [] := by
  refine e_wf (fun hw0 => ?_)
  refine e_iload_n C 3 dX10_made_20 rfl ?_
  refine e_aload_n C 0 dX10_made_21 rfl ?_
  refine gM_30 C dX10_made_22 ?_
  refine e_iload_n C 2 dX10_made_25 rfl ?_
  obtain ⟨o1, H⟩ := H
  refine aM_30 C o1 dX10_made_26 ?_
  refine e_icmp_ge C 66 r3 (hw0.2.1 30 _ (by decide)) dX10_made_27 (by decide) (fun c9 => ?_) (fun c9 => ?_)
  · replace H := H.1 c9
    obtain ⟨o2, H⟩ := H
    refine e_iinc C 2 dX10_made_66 rfl (by decide) rfl ?_
    refine e_goto C 13 dX10_made_69 (by decide) ?_
    exact e_sub [1, 2, 0] rfl H
  · replace H := H.2 c9
    refine e_aload_n C 0 dX10_made_30 rfl ?_
    refine gM_5 C dX10_made_31 ?_
    refine e_aload_n C 0 dX10_made_34 rfl ?_
    refine gM_31 C dX10_made_35 ?_
    refine e_iconst C dX10_made_38 ?_
    refine e_iload_n C 2 dX10_made_39 rfl ?_
    obtain ⟨⟨o3, o4, o5, o6⟩, H⟩ := H
    refine e_imul C dX10_made_40 ?_
    refine e_iload_n C 3 dX10_made_41 rfl ?_
    refine e_iadd C dX10_made_42 ?_
    refine aM_31 C o5 dX10_made_43 ?_
    refine aM_5 C o6 dX10_made_44 ?_
    refine e_istore C dX10_made_45 (by decide) rfl ?_
    refine e_iload C 0 dX10_made_47 rfl ?_
    refine e_iload_n C 2 dX10_made_49 rfl ?_
    refine e_icmp_le C 58 (hw0.2.1 5 _ (by decide)) r1 dX10_made_50 (by decide) (fun c9 => ?_) (fun c9 => ?_)
    · replace H := H.1 c9
      refine e_iload_n C 2 dX10_made_58 rfl ?_
      refine e_istore_n C dX10_made_59 (by decide) rfl ?_
      obtain ⟨o7, H⟩ := H
      refine e_iinc C 4 dX10_made_60 rfl (by decide) rfl ?_
      refine e_goto C 20 dX10_made_63 (by decide) ?_
      exact e_sub [3, 1, 4, 0] rfl H
    · replace H := H.2 c9
      refine e_iload C 0 dX10_made_53 rfl ?_
      refine e_goto C 59 dX10_made_55 (by decide) ?_
      refine e_istore_n C dX10_made_59 (by decide) rfl ?_
      obtain ⟨o8, H⟩ := H
      refine e_iinc C 4 dX10_made_60 rfl (by decide) rfl ?_
      refine e_goto C 20 dX10_made_63 (by decide) ?_
      exact e_sub [3, 1, 4, 0] rfl H
set_option maxRecDepth 4000 in
theorem B_X10_made_82 {g : Gs} {ad : Nat → Nat} {X : Cx} {mc ms k n : Nat} {PQ : Option Value → Mem → Prop} {PX : String → Mem → Prop} {M : Mem} {x1 x2 : Int} (r1 : R32 x1) (r2 : R32 x2) (hk : k ≤ mc) (hn : n ≤ ms) (C : OkB (wM g ad) X cX10_made RX10 5 6 mc ms) (Y : OkR (wM g ad) X (some .int) mc ms PQ PX) (H : ((((M 0 0) ≤ x2) → ((((M 0 0) ≠ 40) → ((0 ≤ M 0 0 ∧ M 0 0 < 40) ∧ (R32 (x1 + 1))) ∧ E (wM g ad) X k n (up (up M 1 (M 0 0) 0) 5 (M 0 0) (x1 + 1)) 141 [(0, .ref (ad 0)), (2, vI 0)] []) ∧ (((M 0 0) = 40) → PQ (some (vI (-1))) M))) ∧ ((x2 < (M 0 0)) → ∃ Q7 : Int → Mem → Prop, SpI (wM g ad) yX10_isNew cX10_isNew 5 (some .boolean) 3 [.ref (ad 0), vI x2] M Q7 ∧ ∀ (z8 : Int) (M6 : Mem), Q7 z8 M6 → B01 z8 ∧ (((z8 = 0) → (R32 (x2 + 1)) ∧ E (wM g ad) X k n M6 82 [(0, .ref (ad 0)), (1, vI x1), (2, vI (x2 + 1))] []) ∧ ((z8 ≠ 0) → PQ (some (vI x2)) M6))))) : E (wM g ad) X k n M 82 [(0, .ref (ad 0)), (1, vI x1), (2, vI x2)] [] := by
  refine e_wf (fun hw0 => ?_)
  refine e_iload_n C 2 dX10_made_82 rfl ?_
  refine e_aload_n C 0 dX10_made_83 rfl ?_
  refine gM_0 C dX10_made_84 ?_
  refine e_icmp_ge C 106 r2 (hw0.2.1 0 _ (by decide)) dX10_made_87 (by decide) (fun c9 => ?_) (fun c9 => ?_)
  · replace H := H.1 c9
    refine e_aload_n C 0 dX10_made_106 rfl ?_
    refine gM_0 C dX10_made_107 ?_
    refine e_bipush C dX10_made_110 (by decide) ?_
    refine e_icmp_ne C 117 (hw0.2.1 0 _ (by decide)) (by decide) dX10_made_112 (by decide) (fun c9 => ?_) (fun c9 => ?_)
    · replace H := H.1 c9
      refine e_aload_n C 0 dX10_made_117 rfl ?_
      refine gM_1 C dX10_made_118 ?_
      refine e_aload_n C 0 dX10_made_121 rfl ?_
      refine gM_0 C dX10_made_122 ?_
      refine e_iconst C dX10_made_125 ?_
      obtain ⟨⟨o1, o3⟩, H⟩ := H
      refine sM_1 C o1 (by decide) dX10_made_126 ?_
      refine e_wf (fun hw2 => ?_)
      refine e_aload_n C 0 dX10_made_127 rfl ?_
      refine gM_5 C dX10_made_128 ?_
      refine e_aload_n C 0 dX10_made_131 rfl ?_
      refine gM_0 C dX10_made_132 ?_
      refine e_iload_n C 1 dX10_made_135 rfl ?_
      refine e_iconst C dX10_made_136 ?_
      refine e_iadd C dX10_made_137 ?_
      refine sM_5 C o1 o3 dX10_made_138 ?_
      refine e_wf (fun hw4 => ?_)
      refine e_iconst C dX10_made_139 ?_
      refine e_istore_n C dX10_made_140 (by decide) rfl ?_
      exact e_sub [1, 0] rfl H
    · replace H := H.2 c9
      refine e_iconst C dX10_made_115 ?_
      exact e_iret C Y hk hn dX10_made_116 H
  · replace H := H.2 c9
    refine e_aload_n C 0 dX10_made_90 rfl ?_
    refine e_iload_n C 2 dX10_made_91 rfl ?_
    obtain ⟨Q7, h5, H⟩ := H
    refine e_callVI (As := [vI x2]) (rest := []) (q0 := 0) (ci := 10) C Y mi_X10_isNew ms_X10_isNew mv_X10_isNew ml_X10_170 h5 rfl rfl (by decide) (Nat.le_of_ble_eq_true rfl) hk hn dX10_made_92 rfl (fun z8 M6 hq9 => ?_)
    obtain ⟨o9, H⟩ := H z8 M6 hq9
    refine e_wf (fun hw10 => ?_)
    refine e_if_eq C 100 (b01_r o9) dX10_made_95 (by decide) (fun c9 => ?_) (fun c9 => ?_)
    · replace H := H.1 c9
      obtain ⟨o11, H⟩ := H
      refine e_iinc C 2 dX10_made_100 rfl (by decide) rfl ?_
      refine e_goto C 82 dX10_made_103 (by decide) ?_
      exact e_sub [1, 2, 0] rfl H
    · replace H := H.2 c9
      refine e_iload_n C 2 dX10_made_98 rfl ?_
      exact e_iret C Y hk hn dX10_made_99 H
set_option maxRecDepth 4000 in
theorem B_X10_made_141 {g : Gs} {ad : Nat → Nat} {X : Cx} {mc ms k n : Nat} {PQ : Option Value → Mem → Prop} {PX : String → Mem → Prop} {M : Mem} {x2 : Int} (r2 : R32 x2) (hk : k ≤ mc) (hn : n ≤ ms) (C : OkB (wM g ad) X cX10_made RX10 5 6 mc ms) (Y : OkR (wM g ad) X (some .int) mc ms PQ PX) (H : (((2 ≤ x2) → ∃ Q3 : Int → Mem → Prop, SpI (wM g ad) yX10_lays cX10_lays 3 (some .int) 5 [.ref (ad 0)] M Q3 ∧ ∀ (z4 : Int) (M2 : Mem), Q3 z4 M2 → R32 z4 ∧ PQ (some (vI z4)) M2) ∧ ((x2 < 2) → ((R32 (2 * (M 0 0))) ∧ (R32 ((2 * (M 0 0)) + x2)) ∧ (0 ≤ x2 ∧ x2 < 2) ∧ (0 ≤ (2 * (M 0 0)) + x2 ∧ (2 * (M 0 0)) + x2 < 80)) ∧ E (wM g ad) X k n (up M 3 ((2 * (M 0 0)) + x2) (M 30 x2)) 167 [(0, .ref (ad 0)), (2, vI x2), (3, vI 0)] []))) : E (wM g ad) X k n M 141 [(0, .ref (ad 0)), (2, vI x2)] [] := by
  refine e_wf (fun hw0 => ?_)
  refine e_iload_n C 1 dX10_made_141 rfl ?_
  refine e_iconst C dX10_made_142 ?_
  refine e_icmp_ge C 208 r2 (by decide) dX10_made_143 (by decide) (fun c9 => ?_) (fun c9 => ?_)
  · replace H := H.1 c9
    refine e_aload_n C 0 dX10_made_208 rfl ?_
    obtain ⟨Q3, h1, H⟩ := H
    refine e_callVI (As := []) (rest := []) (q0 := 0) (ci := 10) C Y mi_X10_lays ms_X10_lays mv_X10_lays ml_X10_174 h1 rfl rfl (by decide) (Nat.le_of_ble_eq_true rfl) hk hn dX10_made_209 rfl (fun z4 M2 hq9 => ?_)
    obtain ⟨o5, H⟩ := H z4 M2 hq9
    refine e_wf (fun hw6 => ?_)
    exact e_iret C Y hk hn dX10_made_212 H
  · replace H := H.2 c9
    refine e_aload_n C 0 dX10_made_146 rfl ?_
    refine gM_3 C dX10_made_147 ?_
    refine e_iconst C dX10_made_150 ?_
    refine e_aload_n C 0 dX10_made_151 rfl ?_
    refine gM_0 C dX10_made_152 ?_
    obtain ⟨⟨o7, o8, o9, o10⟩, H⟩ := H
    refine e_imul C dX10_made_155 ?_
    refine e_iload_n C 1 dX10_made_156 rfl ?_
    refine e_iadd C dX10_made_157 ?_
    refine e_aload_n C 0 dX10_made_158 rfl ?_
    refine gM_30 C dX10_made_159 ?_
    refine e_iload_n C 1 dX10_made_162 rfl ?_
    refine aM_30 C o9 dX10_made_163 ?_
    refine sM_3 C o10 (hw0.2.1 30 _ (by decide)) dX10_made_164 ?_
    refine e_wf (fun hw11 => ?_)
    refine e_iconst C dX10_made_165 ?_
    refine e_istore_n C dX10_made_166 (by decide) rfl ?_
    exact e_sub [1, 2, 0] rfl H
set_option maxRecDepth 4000 in
theorem B_X10_made_167 {g : Gs} {ad : Nat → Nat} {X : Cx} {mc ms k n : Nat} {PQ : Option Value → Mem → Prop} {PX : String → Mem → Prop} {M : Mem} {x2 x3 : Int} (r2 : R32 x2) (r3 : R32 x3) (hk : k ≤ mc) (hn : n ≤ ms) (C : OkB (wM g ad) X cX10_made RX10 5 6 mc ms) (Y : OkR (wM g ad) X (some .int) mc ms PQ PX) (H : (((4 ≤ x3) → (R32 (x2 + 1)) ∧ E (wM g ad) X k n M 141 [(0, .ref (ad 0)), (2, vI (x2 + 1))] []) ∧ ((x3 < 4) → (((0 ≤ (M 0 0) ∧ (M 0 0) ≤ 40) ∧ (0 ≤ x2 ∧ x2 ≤ 1) ∧ 0 ≤ x3 ∧ x3 ≤ 1000) ∧ (R32 (4 * x2)) ∧ (R32 ((4 * x2) + x3)) ∧ (0 ≤ (4 * x2) + x3 ∧ (4 * x2) + x3 < 8) ∧ (0 ≤ 8 * (M 0 0) + 4 * x2 + x3 ∧ 8 * (M 0 0) + 4 * x2 + x3 < 320) ∧ (R32 (x3 + 1))) ∧ E (wM g ad) X k n (up M 4 (8 * (M 0 0) + 4 * x2 + x3) (M 31 ((4 * x2) + x3))) 167 [(0, .ref (ad 0)), (2, vI x2), (3, vI (x3 + 1))] []))) : E (wM g ad) X k n M 167 [(0, .ref (ad 0)), (2, vI x2), (3, vI x3)] [] := by
  refine e_wf (fun hw0 => ?_)
  refine e_iload_n C 2 dX10_made_167 rfl ?_
  refine e_iconst C dX10_made_168 ?_
  refine e_icmp_ge C 202 r3 (by decide) dX10_made_169 (by decide) (fun c9 => ?_) (fun c9 => ?_)
  · replace H := H.1 c9
    obtain ⟨o1, H⟩ := H
    refine e_iinc C 1 dX10_made_202 rfl (by decide) rfl ?_
    refine e_goto C 141 dX10_made_205 (by decide) ?_
    exact e_sub [1, 0] rfl H
  · replace H := H.2 c9
    refine e_aload_n C 0 dX10_made_172 rfl ?_
    refine gM_4 C dX10_made_173 ?_
    refine e_aload_n C 0 dX10_made_176 rfl ?_
    refine gM_0 C dX10_made_177 ?_
    refine e_iload_n C 1 dX10_made_180 rfl ?_
    refine e_iload_n C 2 dX10_made_181 rfl ?_
    obtain ⟨⟨o2, o3, o4, o5, o6, o8⟩, H⟩ := H
    refine e_callSD (As := [vI (M 0 0), vI x2, vI x3]) (rest := [.ref (ad 4)]) C Y mi_X10_at ms_X10_at ml_X10_156 (s_X10_at (hw0.2.1 0 _ (by decide)) r2 r3 o2) (by decide) (Nat.le_of_ble_eq_true rfl) hk hn dX10_made_182 rfl ?_
    refine e_aload_n C 0 dX10_made_185 rfl ?_
    refine gM_31 C dX10_made_186 ?_
    refine e_iconst C dX10_made_189 ?_
    refine e_iload_n C 1 dX10_made_190 rfl ?_
    refine e_imul C dX10_made_191 ?_
    refine e_iload_n C 2 dX10_made_192 rfl ?_
    refine e_iadd C dX10_made_193 ?_
    refine aM_31 C o5 dX10_made_194 ?_
    refine sM_4 C o6 (hw0.2.1 31 _ (by decide)) dX10_made_195 ?_
    refine e_wf (fun hw7 => ?_)
    refine e_iinc C 2 dX10_made_196 rfl (by decide) rfl ?_
    refine e_goto C 167 dX10_made_199 (by decide) ?_
    exact e_sub [1, 2, 0] rfl H
set_option maxRecDepth 4000 in
theorem B_X10_madeNumber_0 {g : Gs} {ad : Nat → Nat} {X : Cx} {mc ms k n : Nat} {PQ : Option Value → Mem → Prop} {PX : String → Mem → Prop} {M : Mem} {x1 : Int} (r1 : R32 x1) (hk : k ≤ mc) (hn : n ≤ ms) (C : OkB (wM g ad) X cX10_madeNumber RX10 3 6 mc ms) (Y : OkR (wM g ad) X (some .int) mc ms PQ PX) (H : E (wM g ad) X k n M 2 [(0, .ref (ad 0)), (1, vI x1), (2, vI 0)] []) : E (wM g ad) X k n M 0 [(0, .ref (ad 0)), (1, vI x1)] [] := by
  refine e_wf (fun hw0 => ?_)
  refine e_iconst C dX10_madeNumber_0 ?_
  refine e_istore_n C dX10_madeNumber_1 (by decide) rfl ?_
  exact e_sub [1, 2, 0] rfl H
set_option maxRecDepth 4000 in
theorem B_X10_madeNumber_2 {g : Gs} {ad : Nat → Nat} {X : Cx} {mc ms k n : Nat} {PQ : Option Value → Mem → Prop} {PX : String → Mem → Prop} {M : Mem} {x1 x2 : Int} (r1 : R32 x1) (r2 : R32 x2) (hk : k ≤ mc) (hn : n ≤ ms) (C : OkB (wM g ad) X cX10_madeNumber RX10 3 6 mc ms) (Y : OkR (wM g ad) X (some .int) mc ms PQ PX) (H : ((((M 0 0) ≤ x2) → ((((M 0 0) ≠ 40) → ((0 ≤ M 0 0 ∧ M 0 0 < 40) ∧ (R32 (128 * x1)) ∧ (R32 (2 * (M 0 0))) ∧ (0 ≤ 2 * (M 0 0) ∧ 2 * (M 0 0) < 80) ∧ (R32 ((2 * (M 0 0)) + 1)) ∧ (0 ≤ (2 * (M 0 0)) + 1 ∧ (2 * (M 0 0)) + 1 < 80)) ∧ ∃ Q14 : Int → Mem → Prop, SpI (wM g ad) yX10_lays cX10_lays 3 (some .int) 5 [.ref (ad 0)] (up (up (up (up (up M 1 (M 0 0) 1) 2 (M 0 0) (128 * x1)) 5 (M 0 0) 0) 3 (2 * (M 0 0)) 0) 3 ((2 * (M 0 0)) + 1) 0) Q14 ∧ ∀ (z15 : Int) (M13 : Mem), Q14 z15 M13 → R32 z15 ∧ PQ (some (vI z15)) M13) ∧ (((M 0 0) = 40) → PQ (some (vI (-1))) M))) ∧ ((x2 < (M 0 0)) → (0 ≤ x2 ∧ x2 < 40) ∧ ((((M 1 x2) = 0) → (R32 (x2 + 1)) ∧ E (wM g ad) X k n M 2 [(0, .ref (ad 0)), (1, vI x1), (2, vI (x2 + 1))] []) ∧ (((M 1 x2) ≠ 0) → (R32 (128 * x1)) ∧ ((((M 2 x2) ≠ (128 * x1)) → (R32 (x2 + 1)) ∧ E (wM g ad) X k n M 2 [(0, .ref (ad 0)), (1, vI x1), (2, vI (x2 + 1))] []) ∧ (((M 2 x2) = (128 * x1)) → PQ (some (vI x2)) M))))))) : E (wM g ad) X k n M 2 [(0, .ref (ad 0)), (1, vI x1), (2, vI x2)] [] := by
  refine e_wf (fun hw0 => ?_)
  refine e_iload_n C 2 dX10_madeNumber_2 rfl ?_
  refine e_aload_n C 0 dX10_madeNumber_3 rfl ?_
  refine gM_0 C dX10_madeNumber_4 ?_
  refine e_icmp_ge C 41 r2 (hw0.2.1 0 _ (by decide)) dX10_madeNumber_7 (by decide) (fun c9 => ?_) (fun c9 => ?_)
  · replace H := H.1 c9
    refine e_aload_n C 0 dX10_madeNumber_41 rfl ?_
    refine gM_0 C dX10_madeNumber_42 ?_
    refine e_bipush C dX10_madeNumber_45 (by decide) ?_
    refine e_icmp_ne C 52 (hw0.2.1 0 _ (by decide)) (by decide) dX10_madeNumber_47 (by decide) (fun c9 => ?_) (fun c9 => ?_)
    · replace H := H.1 c9
      refine e_aload_n C 0 dX10_madeNumber_52 rfl ?_
      refine gM_1 C dX10_madeNumber_53 ?_
      refine e_aload_n C 0 dX10_madeNumber_56 rfl ?_
      refine gM_0 C dX10_madeNumber_57 ?_
      refine e_iconst C dX10_madeNumber_60 ?_
      obtain ⟨⟨o1, o3, o6, o7, o9, o10⟩, H⟩ := H
      refine sM_1 C o1 (by decide) dX10_madeNumber_61 ?_
      refine e_wf (fun hw2 => ?_)
      refine e_aload_n C 0 dX10_madeNumber_62 rfl ?_
      refine gM_2 C dX10_madeNumber_63 ?_
      refine e_aload_n C 0 dX10_madeNumber_66 rfl ?_
      refine gM_0 C dX10_madeNumber_67 ?_
      refine e_sipush C dX10_madeNumber_70 (by decide) ?_
      refine e_iload_n C 1 dX10_madeNumber_73 rfl ?_
      refine e_imul C dX10_madeNumber_74 ?_
      refine sM_2 C o1 o3 dX10_madeNumber_75 ?_
      refine e_wf (fun hw4 => ?_)
      refine e_aload_n C 0 dX10_madeNumber_76 rfl ?_
      refine gM_5 C dX10_madeNumber_77 ?_
      refine e_aload_n C 0 dX10_madeNumber_80 rfl ?_
      refine gM_0 C dX10_madeNumber_81 ?_
      refine e_iconst C dX10_madeNumber_84 ?_
      refine sM_5 C o1 (by decide) dX10_madeNumber_85 ?_
      refine e_wf (fun hw5 => ?_)
      refine e_aload_n C 0 dX10_madeNumber_86 rfl ?_
      refine gM_3 C dX10_madeNumber_87 ?_
      refine e_iconst C dX10_madeNumber_90 ?_
      refine e_aload_n C 0 dX10_madeNumber_91 rfl ?_
      refine gM_0 C dX10_madeNumber_92 ?_
      refine e_imul C dX10_madeNumber_95 ?_
      refine e_iconst C dX10_madeNumber_96 ?_
      refine sM_3 C o7 (by decide) dX10_madeNumber_97 ?_
      refine e_wf (fun hw8 => ?_)
      refine e_aload_n C 0 dX10_madeNumber_98 rfl ?_
      refine gM_3 C dX10_madeNumber_99 ?_
      refine e_iconst C dX10_madeNumber_102 ?_
      refine e_aload_n C 0 dX10_madeNumber_103 rfl ?_
      refine gM_0 C dX10_madeNumber_104 ?_
      refine e_imul C dX10_madeNumber_107 ?_
      refine e_iconst C dX10_madeNumber_108 ?_
      refine e_iadd C dX10_madeNumber_109 ?_
      refine e_iconst C dX10_madeNumber_110 ?_
      refine sM_3 C o10 (by decide) dX10_madeNumber_111 ?_
      refine e_wf (fun hw11 => ?_)
      refine e_aload_n C 0 dX10_madeNumber_112 rfl ?_
      obtain ⟨Q14, h12, H⟩ := H
      refine e_callVI (As := []) (rest := []) (q0 := 0) (ci := 10) C Y mi_X10_lays ms_X10_lays mv_X10_lays ml_X10_174 h12 rfl rfl (by decide) (Nat.le_of_ble_eq_true rfl) hk hn dX10_madeNumber_113 rfl (fun z15 M13 hq9 => ?_)
      obtain ⟨o16, H⟩ := H z15 M13 hq9
      refine e_wf (fun hw17 => ?_)
      exact e_iret C Y hk hn dX10_madeNumber_116 H
    · replace H := H.2 c9
      refine e_iconst C dX10_madeNumber_50 ?_
      exact e_iret C Y hk hn dX10_madeNumber_51 H
  · replace H := H.2 c9
    refine e_aload_n C 0 dX10_madeNumber_10 rfl ?_
    refine gM_1 C dX10_madeNumber_11 ?_
    refine e_iload_n C 2 dX10_madeNumber_14 rfl ?_
    obtain ⟨o18, H⟩ := H
    refine aM_1 C o18 dX10_madeNumber_15 ?_
    refine e_if_eq C 35 (hw0.2.1 1 _ (by decide)) dX10_madeNumber_16 (by decide) (fun c9 => ?_) (fun c9 => ?_)
    · replace H := H.1 c9
      obtain ⟨o19, H⟩ := H
      refine e_iinc C 2 dX10_madeNumber_35 rfl (by decide) rfl ?_
      refine e_goto C 2 dX10_madeNumber_38 (by decide) ?_
      exact e_sub [1, 2, 0] rfl H
    · replace H := H.2 c9
      refine e_aload_n C 0 dX10_madeNumber_19 rfl ?_
      refine gM_2 C dX10_madeNumber_20 ?_
      refine e_iload_n C 2 dX10_madeNumber_23 rfl ?_
      refine aM_2 C o18 dX10_madeNumber_24 ?_
      refine e_sipush C dX10_madeNumber_25 (by decide) ?_
      refine e_iload_n C 1 dX10_madeNumber_28 rfl ?_
      obtain ⟨o20, H⟩ := H
      refine e_imul C dX10_madeNumber_29 ?_
      refine e_icmp_ne C 35 (hw0.2.1 2 _ (by decide)) o20 dX10_madeNumber_30 (by decide) (fun c9 => ?_) (fun c9 => ?_)
      · replace H := H.1 c9
        obtain ⟨o21, H⟩ := H
        refine e_iinc C 2 dX10_madeNumber_35 rfl (by decide) rfl ?_
        refine e_goto C 2 dX10_madeNumber_38 (by decide) ?_
        exact e_sub [1, 2, 0] rfl H
      · replace H := H.2 c9
        refine e_iload_n C 2 dX10_madeNumber_33 rfl ?_
        exact e_iret C Y hk hn dX10_madeNumber_34 H
set_option maxRecDepth 4000 in
theorem B_X10_best_0 {g : Gs} {ad : Nat → Nat} {X : Cx} {mc ms k n : Nat} {PQ : Option Value → Mem → Prop} {PX : String → Mem → Prop} {M : Mem} {x1 : Int} (r1 : R32 x1) (hk : k ≤ mc) (hn : n ≤ ms) (C : OkB (wM g ad) X cX10_best RX10 2 6 mc ms) (Y : OkR (wM g ad) X (some .int) mc ms PQ PX) (H : ∃ Q3 : Mem → Prop, SpV (wM g ad) yX10_plays cX10_plays 2 none 1 [.ref (ad 0)] M Q3 ∧ ∀ M2 : Mem, Q3 M2 → ((((0 : Int) ≤ x1 ∧ x1 ≤ (1 : Int)) → ∃ Q7 : Int → Mem → Prop, SpI (wM g ad) yX10_sizeNow cX10_sizeNow 3 (some .int) 4 [.ref (ad 0)] M2 Q7 ∧ ∀ (z8 : Int) (M6 : Mem), Q7 z8 M6 → R32 z8 ∧ (((z8 ≤ 4000) → E (wM g ad) X k n M6 33 [(0, .ref (ad 0)), (1, vI x1)] [vI 0, .ref (ad 0)]) ∧ ((4000 < z8) → E (wM g ad) X k n M6 33 [(0, .ref (ad 0)), (1, vI x1)] [vI 2, .ref (ad 0)]))) ∧ ((¬((0 : Int) ≤ x1 ∧ x1 ≤ (1 : Int))) → E (wM g ad) X k n M2 33 [(0, .ref (ad 0)), (1, vI x1)] [vI 1, .ref (ad 0)]))) : E (wM g ad) X k n M 0 [(0, .ref (ad 0)), (1, vI x1)] [] := by
  refine e_wf (fun hw0 => ?_)
  refine e_aload_n C 0 dX10_best_0 rfl ?_
  obtain ⟨Q3, h1, H⟩ := H
  refine e_callVV (As := []) (rest := []) (q0 := 0) (ci := 10) C Y mi_X10_plays ms_X10_plays mv_X10_plays ml_X10_261 h1 rfl rfl (by decide) (Nat.le_of_ble_eq_true rfl) hk hn dX10_best_1 rfl (fun M2 hq9 => ?_)
  replace H := H M2 hq9
  refine e_wf (fun hw4 => ?_)
  refine e_aload_n C 0 dX10_best_4 rfl ?_
  refine e_iload_n C 1 dX10_best_5 rfl ?_
  refine e_iconst C dX10_best_6 ?_
  refine e_iconst C dX10_best_7 ?_
  refine e_callSD (As := [vI x1, vI 0, vI 1]) (rest := [.ref (ad 0)]) C Y mi_X10_within ms_X10_within ml_X10_152 (s_X10_within r1 (by decide) (by decide)) (by decide) (Nat.le_of_ble_eq_true rfl) hk hn dX10_best_8 rfl ?_
  refine e_if_ne C 18 (b2i_r _) dX10_best_11 (by decide) (fun c9 => ?_) (fun c9 => ?_)
  · replace H := H.1 (b2i_n0.mp c9)
    refine e_aload_n C 0 dX10_best_18 rfl ?_
    obtain ⟨Q7, h5, H⟩ := H
    refine e_callVI (As := []) (rest := [.ref (ad 0)]) (q0 := 0) (ci := 10) C Y mi_X10_sizeNow ms_X10_sizeNow mv_X10_sizeNow ml_X10_264 h5 rfl rfl (by decide) (Nat.le_of_ble_eq_true rfl) hk hn dX10_best_19 rfl (fun z8 M6 hq9 => ?_)
    obtain ⟨o9, H⟩ := H z8 M6 hq9
    refine e_wf (fun hw10 => ?_)
    refine e_sipush C dX10_best_22 (by decide) ?_
    refine e_icmp_le C 32 o9 (by decide) dX10_best_25 (by decide) (fun c9 => ?_) (fun c9 => ?_)
    · replace H := H.1 c9
      refine e_iconst C dX10_best_32 ?_
      exact e_sub [0, 1] rfl H
    · replace H := H.2 c9
      refine e_iconst C dX10_best_28 ?_
      refine e_goto C 33 dX10_best_29 (by decide) ?_
      exact e_sub [0, 1] rfl H
  · replace H := H.2 (b2i_0.mp c9)
    refine e_iconst C dX10_best_14 ?_
    refine e_goto C 33 dX10_best_15 (by decide) ?_
    exact e_sub [0, 1] rfl H
set_option maxRecDepth 4000 in
theorem B_X10_best_33 {g : Gs} {ad : Nat → Nat} {X : Cx} {mc ms k n : Nat} {PQ : Option Value → Mem → Prop} {PX : String → Mem → Prop} {M : Mem} {x1 t0 : Int} (r1 : R32 x1) (q0 : R32 t0) (hk : k ≤ mc) (hn : n ≤ ms) (C : OkB (wM g ad) X cX10_best RX10 2 6 mc ms) (Y : OkR (wM g ad) X (some .int) mc ms PQ PX) (H : (((¬(0 < t0)) → ∃ Q4 : Int → Mem → Prop, SpI (wM g ad) yX10_laysScores cX10_laysScores 3 (some .int) 5 [.ref (ad 0)] (up M 20 0 t0) Q4 ∧ ∀ (z5 : Int) (M3 : Mem), Q4 z5 M3 → R32 z5 ∧ ((R32 (2 * z5)) ∧ (R32 ((2 * z5) + x1)) ∧ (0 ≤ (2 * z5) + x1 ∧ (2 * z5) + x1 < 8000)) ∧ PQ (some (vI (M3 42 ((2 * z5) + x1)))) M3) ∧ ((0 < t0) → PQ (some (vI 0)) (up M 20 0 t0)))) : E (wM g ad) X k n M 33 [(0, .ref (ad 0)), (1, vI x1)] [vI t0, .ref (ad 0)] := by
  refine e_wf (fun hw0 => ?_)
  refine e_callVD (As := [vI t0]) (rest := []) (q0 := 0) (ci := 10) C Y mi_X10_refused ms_X10_refused mv_X10_refused ml_X10_227 (s_X10_refused q0) rfl rfl (by decide) (Nat.le_of_ble_eq_true rfl) hk hn dX10_best_33 rfl ?_
  refine e_wf (fun hw1 => ?_)
  refine e_if_eq C 41 (b2i_r _) dX10_best_36 (by decide) (fun c9 => ?_) (fun c9 => ?_)
  · replace H := H.1 (b2i_0.mp c9)
    refine e_aload_n C 0 dX10_best_41 rfl ?_
    refine gM_42 C dX10_best_42 ?_
    refine e_iconst C dX10_best_45 ?_
    refine e_aload_n C 0 dX10_best_46 rfl ?_
    obtain ⟨Q4, h2, H⟩ := H
    refine e_callVI (As := []) (rest := [vI 2, .ref (ad 31)]) (q0 := 0) (ci := 10) C Y mi_X10_laysScores ms_X10_laysScores mv_X10_laysScores ml_X10_276 h2 rfl rfl (by decide) (Nat.le_of_ble_eq_true rfl) hk hn dX10_best_47 rfl (fun z5 M3 hq9 => ?_)
    obtain ⟨o6, H⟩ := H z5 M3 hq9
    refine e_wf (fun hw7 => ?_)
    obtain ⟨⟨o8, o9, o10⟩, H⟩ := H
    refine e_imul C dX10_best_50 ?_
    refine e_iload_n C 1 dX10_best_51 rfl ?_
    refine e_iadd C dX10_best_52 ?_
    refine aM_42 C o10 dX10_best_53 ?_
    exact e_iret C Y hk hn dX10_best_54 H
  · replace H := H.2 (b2i_n0.mp c9)
    refine e_iconst C dX10_best_39 ?_
    exact e_iret C Y hk hn dX10_best_40 H
set_option maxRecDepth 4000 in
theorem B_X10_chosen_0 {g : Gs} {ad : Nat → Nat} {X : Cx} {mc ms k n : Nat} {PQ : Option Value → Mem → Prop} {PX : String → Mem → Prop} {M : Mem} {x1 x2 : Int} (r1 : R32 x1) (r2 : R32 x2) (hk : k ≤ mc) (hn : n ≤ ms) (C : OkB (wM g ad) X cX10_chosen RX10 9 6 mc ms) (Y : OkR (wM g ad) X (some .int) mc ms PQ PX) (H : ∃ Q3 : Int → Mem → Prop, SpI (wM g ad) yX10_isOver cX10_isOver 3 (some .boolean) 1 [.ref (ad 0)] M Q3 ∧ ∀ (z4 : Int) (M2 : Mem), Q3 z4 M2 → B01 z4 ∧ (((z4 = 0) → (((x2 ≠ 3) → E (wM g ad) X k n M2 22 [(0, .ref (ad 0)), (1, vI x1), (2, vI x2)] []) ∧ ((x2 = 3) → ∃ Q9 : Int → Mem → Prop, SpI (wM g ad) yX10_laysScores cX10_laysScores 3 (some .int) 5 [.ref (ad 0)] M2 Q9 ∧ ∀ (z10 : Int) (M8 : Mem), Q9 z10 M8 → R32 z10 ∧ E (wM g ad) X k n (up M8 43 0 z10) 22 [(0, .ref (ad 0)), (1, vI x1), (2, vI x2)] []))) ∧ ((z4 ≠ 0) → PQ (some (vI (-1))) M2))) : E (wM g ad) X k n M 0 [(0, .ref (ad 0)), (1, vI x1), (2, vI x2)] [] := by
  refine e_wf (fun hw0 => ?_)
  refine e_aload_n C 0 dX10_chosen_0 rfl ?_
  obtain ⟨Q3, h1, H⟩ := H
  refine e_callVI (As := []) (rest := []) (q0 := 0) (ci := 10) C Y mi_X10_isOver ms_X10_isOver mv_X10_isOver ml_X10_282 h1 rfl rfl (by decide) (Nat.le_of_ble_eq_true rfl) hk hn dX10_chosen_1 rfl (fun z4 M2 hq9 => ?_)
  obtain ⟨o5, H⟩ := H z4 M2 hq9
  refine e_wf (fun hw6 => ?_)
  refine e_if_eq C 9 (b01_r o5) dX10_chosen_4 (by decide) (fun c9 => ?_) (fun c9 => ?_)
  · replace H := H.1 c9
    refine e_iload_n C 2 dX10_chosen_9 rfl ?_
    refine e_iconst C dX10_chosen_10 ?_
    refine e_icmp_ne C 22 r2 (by decide) dX10_chosen_11 (by decide) (fun c9 => ?_) (fun c9 => ?_)
    · replace H := H.1 c9
      exact e_sub [0, 1, 2] rfl H
    · replace H := H.2 c9
      refine e_aload_n C 0 dX10_chosen_14 rfl ?_
      refine e_aload_n C 0 dX10_chosen_15 rfl ?_
      obtain ⟨Q9, h7, H⟩ := H
      refine e_callVI (As := []) (rest := [.ref (ad 0)]) (q0 := 0) (ci := 10) C Y mi_X10_laysScores ms_X10_laysScores mv_X10_laysScores ml_X10_276 h7 rfl rfl (by decide) (Nat.le_of_ble_eq_true rfl) hk hn dX10_chosen_16 rfl (fun z10 M8 hq9 => ?_)
      obtain ⟨o11, H⟩ := H z10 M8 hq9
      refine e_wf (fun hw12 => ?_)
      refine pM_43 C o11 dX10_chosen_19 ?_
      refine e_wf (fun hw13 => ?_)
      exact e_sub [0, 1, 2] rfl H
  · replace H := H.2 c9
    refine e_iconst C dX10_chosen_7 ?_
    exact e_iret C Y hk hn dX10_chosen_8 H
set_option maxRecDepth 4000 in
theorem B_X10_chosen_22 {g : Gs} {ad : Nat → Nat} {X : Cx} {mc ms k n : Nat} {PQ : Option Value → Mem → Prop} {PX : String → Mem → Prop} {M : Mem} {x1 x2 : Int} (r1 : R32 x1) (r2 : R32 x2) (hk : k ≤ mc) (hn : n ≤ ms) (C : OkB (wM g ad) X cX10_chosen RX10 9 6 mc ms) (Y : OkR (wM g ad) X (some .int) mc ms PQ PX) (H : (((x2 ≠ 1) → E (wM g ad) X k n M 45 [(0, .ref (ad 0)), (1, vI x1), (2, vI x2), (3, vI (-1)), (4, vI (-1)), (5, vI 0), (6, vI 0)] []) ∧ ((x2 = 1) → ∃ Q3 : Int → Mem → Prop, SpI (wM g ad) yX10_hottest cX10_hottest 3 (some .int) 1 [.ref (ad 0)] M Q3 ∧ ∀ (z4 : Int) (M2 : Mem), Q3 z4 M2 → R32 z4 ∧ E (wM g ad) X k n M2 45 [(0, .ref (ad 0)), (1, vI x1), (2, vI x2), (3, vI z4), (4, vI (-1)), (5, vI 0), (6, vI 0)] []))) : E (wM g ad) X k n M 22 [(0, .ref (ad 0)), (1, vI x1), (2, vI x2)] [] := by
  refine e_wf (fun hw0 => ?_)
  refine e_iload_n C 2 dX10_chosen_22 rfl ?_
  refine e_iconst C dX10_chosen_23 ?_
  refine e_icmp_ne C 34 r2 (by decide) dX10_chosen_24 (by decide) (fun c9 => ?_) (fun c9 => ?_)
  · replace H := H.1 c9
    refine e_iconst C dX10_chosen_34 ?_
    refine e_istore_n C dX10_chosen_35 (by decide) rfl ?_
    refine e_iconst C dX10_chosen_36 ?_
    refine e_istore C dX10_chosen_37 (by decide) rfl ?_
    refine e_iconst C dX10_chosen_39 ?_
    refine e_istore C dX10_chosen_40 (by decide) rfl ?_
    refine e_iconst C dX10_chosen_42 ?_
    refine e_istore C dX10_chosen_43 (by decide) rfl ?_
    exact e_sub [4, 5, 6, 3, 2, 1, 0] rfl H
  · replace H := H.2 c9
    refine e_aload_n C 0 dX10_chosen_27 rfl ?_
    obtain ⟨Q3, h1, H⟩ := H
    refine e_callVI (As := []) (rest := []) (q0 := 0) (ci := 10) C Y mi_X10_hottest ms_X10_hottest mv_X10_hottest ml_X10_286 h1 rfl rfl (by decide) (Nat.le_of_ble_eq_true rfl) hk hn dX10_chosen_28 rfl (fun z4 M2 hq9 => ?_)
    obtain ⟨o5, H⟩ := H z4 M2 hq9
    refine e_wf (fun hw6 => ?_)
    refine e_goto C 35 dX10_chosen_31 (by decide) ?_
    refine e_istore_n C dX10_chosen_35 (by decide) rfl ?_
    refine e_iconst C dX10_chosen_36 ?_
    refine e_istore C dX10_chosen_37 (by decide) rfl ?_
    refine e_iconst C dX10_chosen_39 ?_
    refine e_istore C dX10_chosen_40 (by decide) rfl ?_
    refine e_iconst C dX10_chosen_42 ?_
    refine e_istore C dX10_chosen_43 (by decide) rfl ?_
    exact e_sub [4, 5, 6, 3, 2, 1, 0] rfl H
set_option maxRecDepth 4000 in
theorem B_X10_chosen_45 {g : Gs} {ad : Nat → Nat} {X : Cx} {mc ms k n : Nat} {PQ : Option Value → Mem → Prop} {PX : String → Mem → Prop} {M : Mem} {x1 x2 x3 x4 x5 x6 : Int} (r1 : R32 x1) (r2 : R32 x2) (r3 : R32 x3) (r4 : R32 x4) (r5 : R32 x5) (r6 : R32 x6) (hk : k ≤ mc) (hn : n ≤ ms) (C : OkB (wM g ad) X cX10_chosen RX10 9 6 mc ms) (Y : OkR (wM g ad) X (some .int) mc ms PQ PX) (H : ((((M 16 0) ≤ x6) → PQ (some (vI x4)) M) ∧ ((x6 < (M 16 0)) → E (wM g ad) X k n M 57 [(0, .ref (ad 0)), (1, vI x1), (2, vI x2), (3, vI x3), (4, vI x4), (5, vI x5), (6, vI x6), (7, vI 0)] []))) : E (wM g ad) X k n M 45 [(0, .ref (ad 0)), (1, vI x1), (2, vI x2), (3, vI x3), (4, vI x4), (5, vI x5), (6, vI x6)] [] := by
  refine e_wf (fun hw0 => ?_)
  refine e_iload C 6 dX10_chosen_45 rfl ?_
  refine e_aload_n C 0 dX10_chosen_47 rfl ?_
  refine gM_16 C dX10_chosen_48 ?_
  refine e_icmp_ge C 151 r6 (hw0.2.1 16 _ (by decide)) dX10_chosen_51 (by decide) (fun c9 => ?_) (fun c9 => ?_)
  · replace H := H.1 c9
    refine e_iload C 4 dX10_chosen_151 rfl ?_
    exact e_iret C Y hk hn dX10_chosen_153 H
  · replace H := H.2 c9
    refine e_iconst C dX10_chosen_54 ?_
    refine e_istore C dX10_chosen_55 (by decide) rfl ?_
    exact e_sub [1, 2, 3, 4, 5, 6, 7, 0] rfl H
set_option maxRecDepth 4000 in
theorem B_X10_chosen_57 {g : Gs} {ad : Nat → Nat} {X : Cx} {mc ms k n : Nat} {PQ : Option Value → Mem → Prop} {PX : String → Mem → Prop} {M : Mem} {x1 x2 x3 x4 x5 x6 x7 : Int} (r1 : R32 x1) (r2 : R32 x2) (r3 : R32 x3) (r4 : R32 x4) (r5 : R32 x5) (r6 : R32 x6) (r7 : R32 x7) (hk : k ≤ mc) (hn : n ≤ ms) (C : OkB (wM g ad) X cX10_chosen RX10 9 6 mc ms) (Y : OkR (wM g ad) X (some .int) mc ms PQ PX) (H : ((0 ≤ x6 ∧ x6 < 4) ∧ (0 ≤ M 38 x6 ∧ M 38 x6 < 40)) ∧ ((((M 6 (M 38 x6)) ≠ 0) → (R32 (x6 + 1)) ∧ E (wM g ad) X k n M 45 [(0, .ref (ad 0)), (1, vI x1), (2, vI x2), (3, vI x3), (4, vI x4), (5, vI x5), (6, vI (x6 + 1))] []) ∧ (((M 6 (M 38 x6)) = 0) → (((x3 = (-1)) → E (wM g ad) X k n M 83 [(0, .ref (ad 0)), (1, vI x1), (2, vI x2), (3, vI x3), (4, vI x4), (5, vI x5), (6, vI x6), (7, vI x7)] []) ∧ ((x3 ≠ (-1)) → (((x6 ≠ x3) → (R32 (x6 + 1)) ∧ E (wM g ad) X k n M 45 [(0, .ref (ad 0)), (1, vI x1), (2, vI x2), (3, vI x3), (4, vI x4), (5, vI x5), (6, vI (x6 + 1))] []) ∧ ((x6 = x3) → E (wM g ad) X k n M 83 [(0, .ref (ad 0)), (1, vI x1), (2, vI x2), (3, vI x3), (4, vI x4), (5, vI x5), (6, vI x6), (7, vI x7)] []))))))) : E (wM g ad) X k n M 57 [(0, .ref (ad 0)), (1, vI x1), (2, vI x2), (3, vI x3), (4, vI x4), (5, vI x5), (6, vI x6), (7, vI x7)] [] := by
  refine e_wf (fun hw0 => ?_)
  refine e_aload_n C 0 dX10_chosen_57 rfl ?_
  refine gM_6 C dX10_chosen_58 ?_
  refine e_aload_n C 0 dX10_chosen_61 rfl ?_
  refine gM_38 C dX10_chosen_62 ?_
  refine e_iload C 6 dX10_chosen_65 rfl ?_
  obtain ⟨⟨o1, o2⟩, H⟩ := H
  refine aM_38 C o1 dX10_chosen_67 ?_
  refine aM_6 C o2 dX10_chosen_68 ?_
  refine e_if_ne C 145 (hw0.2.1 6 _ (by decide)) dX10_chosen_69 (by decide) (fun c9 => ?_) (fun c9 => ?_)
  · replace H := H.1 c9
    obtain ⟨o3, H⟩ := H
    refine e_iinc C 6 dX10_chosen_145 rfl (by decide) rfl ?_
    refine e_goto C 45 dX10_chosen_148 (by decide) ?_
    exact e_sub [1, 2, 3, 4, 5, 6, 0] rfl H
  · replace H := H.2 c9
    refine e_iload_n C 3 dX10_chosen_72 rfl ?_
    refine e_iconst C dX10_chosen_73 ?_
    refine e_icmp_eq C 83 r3 (by decide) dX10_chosen_74 (by decide) (fun c9 => ?_) (fun c9 => ?_)
    · replace H := H.1 c9
      exact e_sub [0, 1, 2, 3, 4, 5, 6, 7] rfl H
    · replace H := H.2 c9
      refine e_iload C 6 dX10_chosen_77 rfl ?_
      refine e_iload_n C 3 dX10_chosen_79 rfl ?_
      refine e_icmp_ne C 145 r6 r3 dX10_chosen_80 (by decide) (fun c9 => ?_) (fun c9 => ?_)
      · replace H := H.1 c9
        obtain ⟨o4, H⟩ := H
        refine e_iinc C 6 dX10_chosen_145 rfl (by decide) rfl ?_
        refine e_goto C 45 dX10_chosen_148 (by decide) ?_
        exact e_sub [1, 2, 3, 4, 5, 6, 0] rfl H
      · replace H := H.2 c9
        exact e_sub [0, 1, 2, 3, 4, 5, 6, 7] rfl H
set_option maxRecDepth 4000 in
theorem B_X10_chosen_83 {g : Gs} {ad : Nat → Nat} {X : Cx} {mc ms k n : Nat} {PQ : Option Value → Mem → Prop} {PX : String → Mem → Prop} {M : Mem} {x1 x2 x3 x4 x5 x6 x7 : Int} (r1 : R32 x1) (r2 : R32 x2) (r3 : R32 x3) (r4 : R32 x4) (r5 : R32 x5) (r6 : R32 x6) (r7 : R32 x7) (hk : k ≤ mc) (hn : n ≤ ms) (C : OkB (wM g ad) X cX10_chosen RX10 9 6 mc ms) (Y : OkR (wM g ad) X (some .int) mc ms PQ PX) (H : ((0 ≤ x6 ∧ x6 < 4) ∧ ((0 ≤ (M 38 x6) ∧ (M 38 x6) < 40) ∧ 0 ≤ x1 ∧ x1 ≤ 1)) ∧ ((((M 3 (2 * (M 38 x6) + x1)) ≤ x7) → (R32 (x6 + 1)) ∧ E (wM g ad) X k n M 45 [(0, .ref (ad 0)), (1, vI x1), (2, vI x2), (3, vI x3), (4, vI x4), (5, vI x5), (6, vI (x6 + 1))] []) ∧ ((x7 < (M 3 (2 * (M 38 x6) + x1))) → ∃ Q6 : Int → Mem → Prop, SpI (wM g ad) yX10_worth cX10_worth 8 (some .int) 3 [.ref (ad 0), vI x1, vI x2, vI x6, vI x7] M Q6 ∧ ∀ (z7 : Int) (M5 : Mem), Q6 z7 M5 → R32 z7 ∧ (((x4 = (-1)) → ((R32 (100 * x6)) ∧ (R32 ((100 * x6) + x7)) ∧ (R32 (x7 + 1))) ∧ E (wM g ad) X k n M5 57 [(0, .ref (ad 0)), (1, vI x1), (2, vI x2), (3, vI x3), (4, vI ((100 * x6) + x7)), (5, vI z7), (6, vI x6), (7, vI (x7 + 1))] []) ∧ ((x4 ≠ (-1)) → (((z7 ≤ x5) → (R32 (x7 + 1)) ∧ E (wM g ad) X k n M5 57 [(0, .ref (ad 0)), (1, vI x1), (2, vI x2), (3, vI x3), (4, vI x4), (5, vI x5), (6, vI x6), (7, vI (x7 + 1))] []) ∧ ((x5 < z7) → ((R32 (100 * x6)) ∧ (R32 ((100 * x6) + x7)) ∧ (R32 (x7 + 1))) ∧ E (wM g ad) X k n M5 57 [(0, .ref (ad 0)), (1, vI x1), (2, vI x2), (3, vI x3), (4, vI ((100 * x6) + x7)), (5, vI z7), (6, vI x6), (7, vI (x7 + 1))] []))))))) : E (wM g ad) X k n M 83 [(0, .ref (ad 0)), (1, vI x1), (2, vI x2), (3, vI x3), (4, vI x4), (5, vI x5), (6, vI x6), (7, vI x7)] [] := by
  refine e_wf (fun hw0 => ?_)
  refine e_iload C 7 dX10_chosen_83 rfl ?_
  refine e_aload_n C 0 dX10_chosen_85 rfl ?_
  refine e_aload_n C 0 dX10_chosen_86 rfl ?_
  refine gM_38 C dX10_chosen_87 ?_
  refine e_iload C 6 dX10_chosen_90 rfl ?_
  obtain ⟨⟨o1, o2⟩, H⟩ := H
  refine aM_38 C o1 dX10_chosen_92 ?_
  refine e_iload_n C 1 dX10_chosen_93 rfl ?_
  refine e_callVD (As := [vI (M 38 x6), vI x1]) (rest := [vI x7]) (q0 := 0) (ci := 10) C Y mi_X10_optionsOf ms_X10_optionsOf mv_X10_optionsOf ml_X10_164 (s_X10_optionsOf (hw0.2.1 38 _ (by decide)) r1 o2) rfl rfl (by decide) (Nat.le_of_ble_eq_true rfl) hk hn dX10_chosen_94 rfl ?_
  refine e_icmp_ge C 145 r7 (hw0.2.1 3 _ (by decide)) dX10_chosen_97 (by decide) (fun c9 => ?_) (fun c9 => ?_)
  · replace H := H.1 c9
    obtain ⟨o3, H⟩ := H
    refine e_iinc C 6 dX10_chosen_145 rfl (by decide) rfl ?_
    refine e_goto C 45 dX10_chosen_148 (by decide) ?_
    exact e_sub [1, 2, 3, 4, 5, 6, 0] rfl H
  · replace H := H.2 c9
    refine e_aload_n C 0 dX10_chosen_100 rfl ?_
    refine e_iload_n C 1 dX10_chosen_101 rfl ?_
    refine e_iload_n C 2 dX10_chosen_102 rfl ?_
    refine e_iload C 6 dX10_chosen_103 rfl ?_
    refine e_iload C 7 dX10_chosen_105 rfl ?_
    obtain ⟨Q6, h4, H⟩ := H
    refine e_callVI (As := [vI x1, vI x2, vI x6, vI x7]) (rest := []) (q0 := 0) (ci := 10) C Y mi_X10_worth ms_X10_worth mv_X10_worth ml_X10_289 h4 rfl rfl (by decide) (Nat.le_of_ble_eq_true rfl) hk hn dX10_chosen_107 rfl (fun z7 M5 hq9 => ?_)
    obtain ⟨o8, H⟩ := H z7 M5 hq9
    refine e_wf (fun hw9 => ?_)
    refine e_istore C dX10_chosen_110 (by decide) rfl ?_
    refine e_iload C 5 dX10_chosen_112 rfl ?_
    refine e_iconst C dX10_chosen_114 ?_
    refine e_icmp_eq C 125 r4 (by decide) dX10_chosen_115 (by decide) (fun c9 => ?_) (fun c9 => ?_)
    · replace H := H.1 c9
      refine e_bipush C dX10_chosen_125 (by decide) ?_
      refine e_iload C 7 dX10_chosen_127 rfl ?_
      obtain ⟨⟨o10, o11, o12⟩, H⟩ := H
      refine e_imul C dX10_chosen_129 ?_
      refine e_iload C 8 dX10_chosen_130 rfl ?_
      refine e_iadd C dX10_chosen_132 ?_
      refine e_istore C dX10_chosen_133 (by decide) rfl ?_
      refine e_iload C 1 dX10_chosen_135 rfl ?_
      refine e_istore C dX10_chosen_137 (by decide) rfl ?_
      refine e_iinc C 8 dX10_chosen_139 rfl (by decide) rfl ?_
      refine e_goto C 57 dX10_chosen_142 (by decide) ?_
      exact e_sub [4, 5, 6, 7, 2, 1, 8, 0] rfl H
    · replace H := H.2 c9
      refine e_iload C 0 dX10_chosen_118 rfl ?_
      refine e_iload C 6 dX10_chosen_120 rfl ?_
      refine e_icmp_le C 139 o8 r5 dX10_chosen_122 (by decide) (fun c9 => ?_) (fun c9 => ?_)
      · replace H := H.1 c9
        obtain ⟨o13, H⟩ := H
        refine e_iinc C 8 dX10_chosen_139 rfl (by decide) rfl ?_
        refine e_goto C 57 dX10_chosen_142 (by decide) ?_
        exact e_sub [2, 3, 4, 5, 6, 7, 8, 0] rfl H
      · replace H := H.2 c9
        refine e_bipush C dX10_chosen_125 (by decide) ?_
        refine e_iload C 7 dX10_chosen_127 rfl ?_
        obtain ⟨⟨o14, o15, o16⟩, H⟩ := H
        refine e_imul C dX10_chosen_129 ?_
        refine e_iload C 8 dX10_chosen_130 rfl ?_
        refine e_iadd C dX10_chosen_132 ?_
        refine e_istore C dX10_chosen_133 (by decide) rfl ?_
        refine e_iload C 1 dX10_chosen_135 rfl ?_
        refine e_istore C dX10_chosen_137 (by decide) rfl ?_
        refine e_iinc C 8 dX10_chosen_139 rfl (by decide) rfl ?_
        refine e_goto C 57 dX10_chosen_142 (by decide) ?_
        exact e_sub [4, 5, 6, 7, 2, 1, 8, 0] rfl H
set_option maxRecDepth 4000 in
theorem B_X10_pair_0 {g : Gs} {ad : Nat → Nat} {X : Cx} {mc ms k n : Nat} {PQ : Option Value → Mem → Prop} {PX : String → Mem → Prop} {M : Mem} {x1 x2 : Int} (r1 : R32 x1) (r2 : R32 x2) (hk : k ≤ mc) (hn : n ≤ ms) (C : OkB (wM g ad) X cX10_pair RX10 3 7 mc ms) (Y : OkR (wM g ad) X (some .int) mc ms PQ PX) (H : ∃ Q3 : Mem → Prop, SpV (wM g ad) yX10_begins cX10_begins 1 none 1 [.ref (ad 0)] M Q3 ∧ ∀ M2 : Mem, Q3 M2 → ∃ Q7 : Mem → Prop, SpV (wM g ad) yX10_takes cX10_takes 5 none 1 [.ref (ad 0), vI 0, vI x1] M2 Q7 ∧ ∀ M6 : Mem, Q7 M6 → ∃ Q11 : Mem → Prop, SpV (wM g ad) yX10_takes cX10_takes 5 none 1 [.ref (ad 0), vI 1, vI x2] M6 Q11 ∧ ∀ M10 : Mem, Q11 M10 → ∃ Q15 : Int → Mem → Prop, SpI (wM g ad) yX10_made cX10_made 5 (some .int) 6 [.ref (ad 0)] M10 Q15 ∧ ∀ (z16 : Int) (M14 : Mem), Q15 z16 M14 → R32 z16 ∧ PQ (some (vI z16)) M14) : E (wM g ad) X k n M 0 [(0, .ref (ad 0)), (1, vI x1), (2, vI x2)] [] := by
  refine e_wf (fun hw0 => ?_)
  refine e_aload_n C 0 dX10_pair_0 rfl ?_
  obtain ⟨Q3, h1, H⟩ := H
  refine e_callVV (As := []) (rest := []) (q0 := 0) (ci := 10) C Y mi_X10_begins ms_X10_begins mv_X10_begins ml_X10_131 h1 rfl rfl (by decide) (Nat.le_of_ble_eq_true rfl) hk hn dX10_pair_1 rfl (fun M2 hq9 => ?_)
  replace H := H M2 hq9
  refine e_wf (fun hw4 => ?_)
  refine e_aload_n C 0 dX10_pair_4 rfl ?_
  refine e_iconst C dX10_pair_5 ?_
  refine e_iload_n C 1 dX10_pair_6 rfl ?_
  obtain ⟨Q7, h5, H⟩ := H
  refine e_callVV (As := [vI 0, vI x1]) (rest := []) (q0 := 0) (ci := 10) C Y mi_X10_takes ms_X10_takes mv_X10_takes ml_X10_134 h5 rfl rfl (by decide) (Nat.le_of_ble_eq_true rfl) hk hn dX10_pair_7 rfl (fun M6 hq9 => ?_)
  replace H := H M6 hq9
  refine e_wf (fun hw8 => ?_)
  refine e_aload_n C 0 dX10_pair_10 rfl ?_
  refine e_iconst C dX10_pair_11 ?_
  refine e_iload_n C 2 dX10_pair_12 rfl ?_
  obtain ⟨Q11, h9, H⟩ := H
  refine e_callVV (As := [vI 1, vI x2]) (rest := []) (q0 := 0) (ci := 10) C Y mi_X10_takes ms_X10_takes mv_X10_takes ml_X10_134 h9 rfl rfl (by decide) (Nat.le_of_ble_eq_true rfl) hk hn dX10_pair_13 rfl (fun M10 hq9 => ?_)
  replace H := H M10 hq9
  refine e_wf (fun hw12 => ?_)
  refine e_aload_n C 0 dX10_pair_16 rfl ?_
  obtain ⟨Q15, h13, H⟩ := H
  refine e_callVI (As := []) (rest := []) (q0 := 0) (ci := 10) C Y mi_X10_made ms_X10_made mv_X10_made ml_X10_138 h13 rfl rfl (by decide) (Nat.le_of_ble_eq_true rfl) hk hn dX10_pair_17 rfl (fun z16 M14 hq9 => ?_)
  obtain ⟨o17, H⟩ := H z16 M14 hq9
  refine e_wf (fun hw18 => ?_)
  exact e_iret C Y hk hn dX10_pair_20 H
set_option maxRecDepth 4000 in
theorem B_X10_number_0 {g : Gs} {ad : Nat → Nat} {X : Cx} {mc ms k n : Nat} {PQ : Option Value → Mem → Prop} {PX : String → Mem → Prop} {M : Mem} {x1 : Int} (r1 : R32 x1) (hk : k ≤ mc) (hn : n ≤ ms) (C : OkB (wM g ad) X cX10_number RX10 3 7 mc ms) (Y : OkR (wM g ad) X (some .int) mc ms PQ PX) (H : (((¬((-64 : Int) ≤ x1 ∧ x1 ≤ (64 : Int))) → E (wM g ad) X k n M 17 [(0, .ref (ad 0)), (1, vI x1)] [vI 1, .ref (ad 0)]) ∧ (((-64 : Int) ≤ x1 ∧ x1 ≤ (64 : Int)) → E (wM g ad) X k n M 17 [(0, .ref (ad 0)), (1, vI x1)] [vI 0, .ref (ad 0)]))) : E (wM g ad) X k n M 0 [(0, .ref (ad 0)), (1, vI x1)] [] := by
  refine e_wf (fun hw0 => ?_)
  refine e_aload_n C 0 dX10_number_0 rfl ?_
  refine e_iload_n C 1 dX10_number_1 rfl ?_
  refine e_bipush C dX10_number_2 (by decide) ?_
  refine e_bipush C dX10_number_4 (by decide) ?_
  refine e_callSD (As := [vI x1, vI (-64), vI 64]) (rest := [.ref (ad 0)]) C Y mi_X10_within ms_X10_within ml_X10_152 (s_X10_within r1 (by decide) (by decide)) (by decide) (Nat.le_of_ble_eq_true rfl) hk hn dX10_number_6 rfl ?_
  refine e_if_eq C 16 (b2i_r _) dX10_number_9 (by decide) (fun c9 => ?_) (fun c9 => ?_)
  · replace H := H.1 (b2i_0.mp c9)
    refine e_iconst C dX10_number_16 ?_
    exact e_sub [0, 1] rfl H
  · replace H := H.2 (b2i_n0.mp c9)
    refine e_iconst C dX10_number_12 ?_
    refine e_goto C 17 dX10_number_13 (by decide) ?_
    exact e_sub [0, 1] rfl H
set_option maxRecDepth 4000 in
theorem B_X10_number_17 {g : Gs} {ad : Nat → Nat} {X : Cx} {mc ms k n : Nat} {PQ : Option Value → Mem → Prop} {PX : String → Mem → Prop} {M : Mem} {x1 t0 : Int} (r1 : R32 x1) (q0 : R32 t0) (hk : k ≤ mc) (hn : n ≤ ms) (C : OkB (wM g ad) X cX10_number RX10 3 7 mc ms) (Y : OkR (wM g ad) X (some .int) mc ms PQ PX) (H : (((¬(0 < t0)) → ∃ Q4 : Int → Mem → Prop, SpI (wM g ad) yX10_madeNumber cX10_madeNumber 3 (some .int) 6 [.ref (ad 0), vI x1] (up M 20 0 t0) Q4 ∧ ∀ (z5 : Int) (M3 : Mem), Q4 z5 M3 → R32 z5 ∧ ∃ Q10 : Int → Mem → Prop, SpI (wM g ad) yX10_ends cX10_ends 4 (some .int) 2 [.ref (ad 0), vI (M 0 0), vI z5, vI 2] M3 Q10 ∧ ∀ (z11 : Int) (M9 : Mem), Q10 z11 M9 → R32 z11 ∧ PQ (some (vI z11)) M9) ∧ ((0 < t0) → PQ (some (vI 0)) (up M 20 0 t0)))) : E (wM g ad) X k n M 17 [(0, .ref (ad 0)), (1, vI x1)] [vI t0, .ref (ad 0)] := by
  refine e_wf (fun hw0 => ?_)
  refine e_callVD (As := [vI t0]) (rest := []) (q0 := 0) (ci := 10) C Y mi_X10_refused ms_X10_refused mv_X10_refused ml_X10_227 (s_X10_refused q0) rfl rfl (by decide) (Nat.le_of_ble_eq_true rfl) hk hn dX10_number_17 rfl ?_
  refine e_wf (fun hw1 => ?_)
  refine e_if_eq C 25 (b2i_r _) dX10_number_20 (by decide) (fun c9 => ?_) (fun c9 => ?_)
  · replace H := H.1 (b2i_0.mp c9)
    refine e_aload_n C 0 dX10_number_25 rfl ?_
    refine gM_0 C dX10_number_26 ?_
    refine e_istore_n C dX10_number_29 (by decide) rfl ?_
    refine e_aload_n C 1 dX10_number_30 rfl ?_
    refine e_iload_n C 0 dX10_number_31 rfl ?_
    refine e_aload_n C 1 dX10_number_32 rfl ?_
    refine e_iload_n C 2 dX10_number_33 rfl ?_
    obtain ⟨Q4, h2, H⟩ := H
    refine e_callVI (As := [vI x1]) (rest := [vI (M 0 0), .ref (ad 0)]) (q0 := 0) (ci := 10) C Y mi_X10_madeNumber ms_X10_madeNumber mv_X10_madeNumber ml_X10_123 h2 rfl rfl (by decide) (Nat.le_of_ble_eq_true rfl) hk hn dX10_number_34 rfl (fun z5 M3 hq9 => ?_)
    obtain ⟨o6, H⟩ := H z5 M3 hq9
    refine e_wf (fun hw7 => ?_)
    refine e_iconst C dX10_number_37 ?_
    obtain ⟨Q10, h8, H⟩ := H
    refine e_callVI (As := [vI (M 0 0), vI z5, vI 2]) (rest := []) (q0 := 0) (ci := 10) C Y mi_X10_ends ms_X10_ends mv_X10_ends ml_X10_233 h8 rfl rfl (by decide) (Nat.le_of_ble_eq_true rfl) hk hn dX10_number_38 rfl (fun z11 M9 hq9 => ?_)
    obtain ⟨o12, H⟩ := H z11 M9 hq9
    refine e_wf (fun hw13 => ?_)
    exact e_iret C Y hk hn dX10_number_41 H
  · replace H := H.2 (b2i_n0.mp c9)
    refine e_iconst C dX10_number_23 ?_
    exact e_iret C Y hk hn dX10_number_24 H
set_option maxRecDepth 4000 in
theorem B_X10_make_0 {g : Gs} {ad : Nat → Nat} {X : Cx} {mc ms k n : Nat} {PQ : Option Value → Mem → Prop} {PX : String → Mem → Prop} {M : Mem}  (hk : k ≤ mc) (hn : n ≤ ms) (C : OkB (wM g ad) X cX10_make RX10 3 7 mc ms) (Y : OkR (wM g ad) X (some .int) mc ms PQ PX) (H : ∃ Q3 : Mem → Prop, SpV (wM g ad) yX10_begins cX10_begins 1 none 1 [.ref (ad 0)] M Q3 ∧ ∀ M2 : Mem, Q3 M2 → E (wM g ad) X k n M2 6 [(0, .ref (ad 0)), (1, vI 0)] []) : E (wM g ad) X k n M 0 [(0, .ref (ad 0))] [] := by
  refine e_wf (fun hw0 => ?_)
  refine e_aload_n C 0 dX10_make_0 rfl ?_
  obtain ⟨Q3, h1, H⟩ := H
  refine e_callVV (As := []) (rest := []) (q0 := 0) (ci := 10) C Y mi_X10_begins ms_X10_begins mv_X10_begins ml_X10_131 h1 rfl rfl (by decide) (Nat.le_of_ble_eq_true rfl) hk hn dX10_make_1 rfl (fun M2 hq9 => ?_)
  replace H := H M2 hq9
  refine e_wf (fun hw4 => ?_)
  refine e_iconst C dX10_make_4 ?_
  refine e_istore_n C dX10_make_5 (by decide) rfl ?_
  exact e_sub [1, 0] rfl H
set_option maxRecDepth 4000 in
theorem B_X10_make_6 {g : Gs} {ad : Nat → Nat} {X : Cx} {mc ms k n : Nat} {PQ : Option Value → Mem → Prop} {PX : String → Mem → Prop} {M : Mem} {x1 : Int} (r1 : R32 x1) (hk : k ≤ mc) (hn : n ≤ ms) (C : OkB (wM g ad) X cX10_make RX10 3 7 mc ms) (Y : OkR (wM g ad) X (some .int) mc ms PQ PX) (H : (((2 ≤ x1) → ∃ Q3 : Int → Mem → Prop, SpI (wM g ad) yX10_made cX10_made 5 (some .int) 6 [.ref (ad 0)] M Q3 ∧ ∀ (z4 : Int) (M2 : Mem), Q3 z4 M2 → R32 z4 ∧ ∃ Q9 : Int → Mem → Prop, SpI (wM g ad) yX10_ends cX10_ends 4 (some .int) 2 [.ref (ad 0), vI (M 0 0), vI z4, vI 1] M2 Q9 ∧ ∀ (z10 : Int) (M8 : Mem), Q9 z10 M8 → R32 z10 ∧ ((((M8 20 0) ≠ 0) → PQ (some (vI z10)) M8) ∧ (((M8 20 0) = 0) → PQ (some (vI z10)) (up (up M8 21 0 0) 21 1 0)))) ∧ ((x1 < 2) → E (wM g ad) X k n M 13 [(0, .ref (ad 0)), (1, vI x1), (2, vI 0)] []))) : E (wM g ad) X k n M 6 [(0, .ref (ad 0)), (1, vI x1)] [] := by
  refine e_wf (fun hw0 => ?_)
  refine e_iload_n C 1 dX10_make_6 rfl ?_
  refine e_iconst C dX10_make_7 ?_
  refine e_icmp_ge C 50 r1 (by decide) dX10_make_8 (by decide) (fun c9 => ?_) (fun c9 => ?_)
  · replace H := H.1 c9
    refine e_aload_n C 0 dX10_make_50 rfl ?_
    refine gM_0 C dX10_make_51 ?_
    refine e_istore_n C dX10_make_54 (by decide) rfl ?_
    refine e_aload_n C 1 dX10_make_55 rfl ?_
    refine e_iload_n C 0 dX10_make_56 rfl ?_
    refine e_aload_n C 1 dX10_make_57 rfl ?_
    obtain ⟨Q3, h1, H⟩ := H
    refine e_callVI (As := []) (rest := [vI (M 0 0), .ref (ad 0)]) (q0 := 0) (ci := 10) C Y mi_X10_made ms_X10_made mv_X10_made ml_X10_138 h1 rfl rfl (by decide) (Nat.le_of_ble_eq_true rfl) hk hn dX10_make_58 rfl (fun z4 M2 hq9 => ?_)
    obtain ⟨o5, H⟩ := H z4 M2 hq9
    refine e_wf (fun hw6 => ?_)
    refine e_iconst C dX10_make_61 ?_
    obtain ⟨Q9, h7, H⟩ := H
    refine e_callVI (As := [vI (M 0 0), vI z4, vI 1]) (rest := []) (q0 := 0) (ci := 10) C Y mi_X10_ends ms_X10_ends mv_X10_ends ml_X10_233 h7 rfl rfl (by decide) (Nat.le_of_ble_eq_true rfl) hk hn dX10_make_62 rfl (fun z10 M8 hq9 => ?_)
    obtain ⟨o11, H⟩ := H z10 M8 hq9
    refine e_wf (fun hw12 => ?_)
    refine e_istore_n C dX10_make_65 (by decide) rfl ?_
    refine e_aload_n C 2 dX10_make_66 rfl ?_
    refine gM_20 C dX10_make_67 ?_
    refine e_if_ne C 87 (hw12.2.1 20 _ (by decide)) dX10_make_70 (by decide) (fun c9 => ?_) (fun c9 => ?_)
    · replace H := H.1 c9
      refine e_iload_n C 0 dX10_make_87 rfl ?_
      exact e_iret C Y hk hn dX10_make_88 H
    · replace H := H.2 c9
      refine e_aload_n C 2 dX10_make_73 rfl ?_
      refine gM_21 C dX10_make_74 ?_
      refine e_iconst C dX10_make_77 ?_
      refine e_iconst C dX10_make_78 ?_
      refine sM_21 C (by decide) (by decide) dX10_make_79 ?_
      refine e_wf (fun hw13 => ?_)
      refine e_aload_n C 2 dX10_make_80 rfl ?_
      refine gM_21 C dX10_make_81 ?_
      refine e_iconst C dX10_make_84 ?_
      refine e_iconst C dX10_make_85 ?_
      refine sM_21 C (by decide) (by decide) dX10_make_86 ?_
      refine e_wf (fun hw14 => ?_)
      refine e_iload_n C 0 dX10_make_87 rfl ?_
      exact e_iret C Y hk hn dX10_make_88 H
  · replace H := H.2 c9
    refine e_iconst C dX10_make_11 ?_
    refine e_istore_n C dX10_make_12 (by decide) rfl ?_
    exact e_sub [1, 2, 0] rfl H
set_option maxRecDepth 4000 in
theorem B_X10_make_13 {g : Gs} {ad : Nat → Nat} {X : Cx} {mc ms k n : Nat} {PQ : Option Value → Mem → Prop} {PX : String → Mem → Prop} {M : Mem} {x1 x2 : Int} (r1 : R32 x1) (r2 : R32 x2) (hk : k ≤ mc) (hn : n ≤ ms) (C : OkB (wM g ad) X cX10_make RX10 3 7 mc ms) (Y : OkR (wM g ad) X (some .int) mc ms PQ PX) (H : (0 ≤ x1 ∧ x1 < 2) ∧ ((((M 21 x1) ≤ x2) → (R32 (x1 + 1)) ∧ E (wM g ad) X k n M 6 [(0, .ref (ad 0)), (1, vI (x1 + 1))] []) ∧ ((x2 < (M 21 x1)) → ((R32 (4 * x1)) ∧ (R32 ((4 * x1) + x2)) ∧ (0 ≤ (4 * x1) + x2 ∧ (4 * x1) + x2 < 8)) ∧ ∃ Q8 : Mem → Prop, SpV (wM g ad) yX10_takes cX10_takes 5 none 1 [.ref (ad 0), vI x1, vI (M 22 ((4 * x1) + x2))] M Q8 ∧ ∀ M7 : Mem, Q8 M7 → (R32 (x2 + 1)) ∧ E (wM g ad) X k n M7 13 [(0, .ref (ad 0)), (1, vI x1), (2, vI (x2 + 1))] []))) : E (wM g ad) X k n M 13 [(0, .ref (ad 0)), (1, vI x1), (2, vI x2)] [] := by
  refine e_wf (fun hw0 => ?_)
  refine e_iload_n C 2 dX10_make_13 rfl ?_
  refine e_aload_n C 0 dX10_make_14 rfl ?_
  refine gM_21 C dX10_make_15 ?_
  refine e_iload_n C 1 dX10_make_18 rfl ?_
  obtain ⟨o1, H⟩ := H
  refine aM_21 C o1 dX10_make_19 ?_
  refine e_icmp_ge C 44 r2 (hw0.2.1 21 _ (by decide)) dX10_make_20 (by decide) (fun c9 => ?_) (fun c9 => ?_)
  · replace H := H.1 c9
    obtain ⟨o2, H⟩ := H
    refine e_iinc C 1 dX10_make_44 rfl (by decide) rfl ?_
    refine e_goto C 6 dX10_make_47 (by decide) ?_
    exact e_sub [1, 0] rfl H
  · replace H := H.2 c9
    refine e_aload_n C 0 dX10_make_23 rfl ?_
    refine e_iload_n C 1 dX10_make_24 rfl ?_
    refine e_aload_n C 0 dX10_make_25 rfl ?_
    refine gM_22 C dX10_make_26 ?_
    refine e_iconst C dX10_make_29 ?_
    refine e_iload_n C 1 dX10_make_30 rfl ?_
    obtain ⟨⟨o3, o4, o5⟩, H⟩ := H
    refine e_imul C dX10_make_31 ?_
    refine e_iload_n C 2 dX10_make_32 rfl ?_
    refine e_iadd C dX10_make_33 ?_
    refine aM_22 C o5 dX10_make_34 ?_
    obtain ⟨Q8, h6, H⟩ := H
    refine e_callVV (As := [vI x1, vI (M 22 ((4 * x1) + x2))]) (rest := []) (q0 := 0) (ci := 10) C Y mi_X10_takes ms_X10_takes mv_X10_takes ml_X10_134 h6 rfl rfl (by decide) (Nat.le_of_ble_eq_true rfl) hk hn dX10_make_35 rfl (fun M7 hq9 => ?_)
    replace H := H M7 hq9
    refine e_wf (fun hw9 => ?_)
    obtain ⟨o10, H⟩ := H
    refine e_iinc C 2 dX10_make_38 rfl (by decide) rfl ?_
    refine e_goto C 13 dX10_make_41 (by decide) ?_
    exact e_sub [1, 2, 0] rfl H
set_option maxRecDepth 4000 in
theorem B_X10_opposite_0 {g : Gs} {ad : Nat → Nat} {X : Cx} {mc ms k n : Nat} {PQ : Option Value → Mem → Prop} {PX : String → Mem → Prop} {M : Mem} {x1 : Int} (r1 : R32 x1) (hk : k ≤ mc) (hn : n ≤ ms) (C : OkB (wM g ad) X cX10_opposite RX10 4 7 mc ms) (Y : OkR (wM g ad) X (some .int) mc ms PQ PX) (H : (0 ≤ x1 ∧ x1 < 40) ∧ ((((M 1 x1) = 0) → ∃ Q4 : Mem → Prop, SpV (wM g ad) yX10_begins cX10_begins 1 none 1 [.ref (ad 0)] M Q4 ∧ ∀ M3 : Mem, Q4 M3 → E (wM g ad) X k n M3 31 [(0, .ref (ad 0)), (1, vI x1), (2, vI 0)] []) ∧ (((M 1 x1) ≠ 0) → (R32 (-(M 2 x1))) ∧ ∃ Q9 : Int → Mem → Prop, SpI (wM g ad) yX10_madeNumber cX10_madeNumber 3 (some .int) 6 [.ref (ad 0), vI (Int.tdiv (-(M 2 x1)) 128)] M Q9 ∧ ∀ (z10 : Int) (M8 : Mem), Q9 z10 M8 → R32 z10 ∧ PQ (some (vI z10)) M8))) : E (wM g ad) X k n M 0 [(0, .ref (ad 0)), (1, vI x1)] [] := by
  refine e_wf (fun hw0 => ?_)
  refine e_aload_n C 0 dX10_opposite_0 rfl ?_
  refine gM_1 C dX10_opposite_1 ?_
  refine e_iload_n C 1 dX10_opposite_4 rfl ?_
  obtain ⟨o1, H⟩ := H
  refine aM_1 C o1 dX10_opposite_5 ?_
  refine e_if_eq C 25 (hw0.2.1 1 _ (by decide)) dX10_opposite_6 (by decide) (fun c9 => ?_) (fun c9 => ?_)
  · replace H := H.1 c9
    refine e_aload_n C 0 dX10_opposite_25 rfl ?_
    obtain ⟨Q4, h2, H⟩ := H
    refine e_callVV (As := []) (rest := []) (q0 := 0) (ci := 10) C Y mi_X10_begins ms_X10_begins mv_X10_begins ml_X10_131 h2 rfl rfl (by decide) (Nat.le_of_ble_eq_true rfl) hk hn dX10_opposite_26 rfl (fun M3 hq9 => ?_)
    replace H := H M3 hq9
    refine e_wf (fun hw5 => ?_)
    refine e_iconst C dX10_opposite_29 ?_
    refine e_istore_n C dX10_opposite_30 (by decide) rfl ?_
    exact e_sub [1, 2, 0] rfl H
  · replace H := H.2 c9
    refine e_aload_n C 0 dX10_opposite_9 rfl ?_
    refine e_aload_n C 0 dX10_opposite_10 rfl ?_
    refine gM_2 C dX10_opposite_11 ?_
    refine e_iload_n C 1 dX10_opposite_14 rfl ?_
    refine aM_2 C o1 dX10_opposite_15 ?_
    obtain ⟨o6, H⟩ := H
    refine e_ineg C dX10_opposite_16 ?_
    refine e_sipush C dX10_opposite_17 (by decide) ?_
    refine e_idiv C o6 (by decide) (by decide) (by decide) dX10_opposite_20 ?_
    obtain ⟨Q9, h7, H⟩ := H
    refine e_callVI (As := [vI (Int.tdiv (-(M 2 x1)) 128)]) (rest := []) (q0 := 0) (ci := 10) C Y mi_X10_madeNumber ms_X10_madeNumber mv_X10_madeNumber ml_X10_123 h7 rfl rfl (by decide) (Nat.le_of_ble_eq_true rfl) hk hn dX10_opposite_21 rfl (fun z10 M8 hq9 => ?_)
    obtain ⟨o11, H⟩ := H z10 M8 hq9
    refine e_wf (fun hw12 => ?_)
    exact e_iret C Y hk hn dX10_opposite_24 H
set_option maxRecDepth 4000 in
theorem B_X10_opposite_31 {g : Gs} {ad : Nat → Nat} {X : Cx} {mc ms k n : Nat} {PQ : Option Value → Mem → Prop} {PX : String → Mem → Prop} {M : Mem} {x1 x2 : Int} (r1 : R32 x1) (r2 : R32 x2) (hk : k ≤ mc) (hn : n ≤ ms) (C : OkB (wM g ad) X cX10_opposite RX10 4 7 mc ms) (Y : OkR (wM g ad) X (some .int) mc ms PQ PX) (H : (((2 ≤ x2) → ∃ Q3 : Int → Mem → Prop, SpI (wM g ad) yX10_made cX10_made 5 (some .int) 6 [.ref (ad 0)] M Q3 ∧ ∀ (z4 : Int) (M2 : Mem), Q3 z4 M2 → R32 z4 ∧ PQ (some (vI z4)) M2) ∧ ((x2 < 2) → E (wM g ad) X k n M 38 [(0, .ref (ad 0)), (1, vI x1), (2, vI x2), (3, vI 0)] []))) : E (wM g ad) X k n M 31 [(0, .ref (ad 0)), (1, vI x1), (2, vI x2)] [] := by
  refine e_wf (fun hw0 => ?_)
  refine e_iload_n C 2 dX10_opposite_31 rfl ?_
  refine e_iconst C dX10_opposite_32 ?_
  refine e_icmp_ge C 79 r2 (by decide) dX10_opposite_33 (by decide) (fun c9 => ?_) (fun c9 => ?_)
  · replace H := H.1 c9
    refine e_aload_n C 0 dX10_opposite_79 rfl ?_
    obtain ⟨Q3, h1, H⟩ := H
    refine e_callVI (As := []) (rest := []) (q0 := 0) (ci := 10) C Y mi_X10_made ms_X10_made mv_X10_made ml_X10_138 h1 rfl rfl (by decide) (Nat.le_of_ble_eq_true rfl) hk hn dX10_opposite_80 rfl (fun z4 M2 hq9 => ?_)
    obtain ⟨o5, H⟩ := H z4 M2 hq9
    refine e_wf (fun hw6 => ?_)
    exact e_iret C Y hk hn dX10_opposite_83 H
  · replace H := H.2 c9
    refine e_iconst C dX10_opposite_36 ?_
    refine e_istore_n C dX10_opposite_37 (by decide) rfl ?_
    exact e_sub [1, 2, 3, 0] rfl H
set_option maxRecDepth 4000 in
theorem B_X10_opposite_38 {g : Gs} {ad : Nat → Nat} {X : Cx} {mc ms k n : Nat} {PQ : Option Value → Mem → Prop} {PX : String → Mem → Prop} {M : Mem} {x1 x2 x3 : Int} (r1 : R32 x1) (r2 : R32 x2) (r3 : R32 x3) (hk : k ≤ mc) (hn : n ≤ ms) (C : OkB (wM g ad) X cX10_opposite RX10 4 7 mc ms) (Y : OkR (wM g ad) X (some .int) mc ms PQ PX) (H : ((0 ≤ x1 ∧ x1 < 40) ∧ 0 ≤ x2 ∧ x2 ≤ 1) ∧ ((((M 3 (2 * x1 + x2)) ≤ x3) → (R32 (x2 + 1)) ∧ E (wM g ad) X k n M 31 [(0, .ref (ad 0)), (1, vI x1), (2, vI (x2 + 1))] []) ∧ ((x3 < (M 3 (2 * x1 + x2))) → ((R32 (1 - x2)) ∧ ((0 ≤ x1 ∧ x1 < 40) ∧ (0 ≤ x2 ∧ x2 ≤ 1) ∧ 0 ≤ x3 ∧ x3 < 4) ∧ (0 ≤ M 4 (8 * x1 + 4 * x2 + x3) ∧ M 4 (8 * x1 + 4 * x2 + x3) < 40)) ∧ ∃ Q8 : Mem → Prop, SpV (wM g ad) yX10_takes cX10_takes 5 none 1 [.ref (ad 0), vI (1 - x2), vI (M 37 (M 4 (8 * x1 + 4 * x2 + x3)))] M Q8 ∧ ∀ M7 : Mem, Q8 M7 → (R32 (x3 + 1)) ∧ E (wM g ad) X k n M7 38 [(0, .ref (ad 0)), (1, vI x1), (2, vI x2), (3, vI (x3 + 1))] []))) : E (wM g ad) X k n M 38 [(0, .ref (ad 0)), (1, vI x1), (2, vI x2), (3, vI x3)] [] := by
  refine e_wf (fun hw0 => ?_)
  refine e_iload_n C 3 dX10_opposite_38 rfl ?_
  refine e_aload_n C 0 dX10_opposite_39 rfl ?_
  refine e_iload_n C 1 dX10_opposite_40 rfl ?_
  refine e_iload_n C 2 dX10_opposite_41 rfl ?_
  obtain ⟨o1, H⟩ := H
  refine e_callVD (As := [vI x1, vI x2]) (rest := [vI x3]) (q0 := 0) (ci := 10) C Y mi_X10_optionsOf ms_X10_optionsOf mv_X10_optionsOf ml_X10_164 (s_X10_optionsOf r1 r2 o1) rfl rfl (by decide) (Nat.le_of_ble_eq_true rfl) hk hn dX10_opposite_42 rfl ?_
  refine e_icmp_ge C 73 r3 (hw0.2.1 3 _ (by decide)) dX10_opposite_45 (by decide) (fun c9 => ?_) (fun c9 => ?_)
  · replace H := H.1 c9
    obtain ⟨o2, H⟩ := H
    refine e_iinc C 2 dX10_opposite_73 rfl (by decide) rfl ?_
    refine e_goto C 31 dX10_opposite_76 (by decide) ?_
    exact e_sub [1, 2, 0] rfl H
  · replace H := H.2 c9
    refine e_aload_n C 0 dX10_opposite_48 rfl ?_
    refine e_iconst C dX10_opposite_49 ?_
    refine e_iload_n C 2 dX10_opposite_50 rfl ?_
    obtain ⟨⟨o3, o4, o5⟩, H⟩ := H
    refine e_isub C dX10_opposite_51 ?_
    refine e_aload_n C 0 dX10_opposite_52 rfl ?_
    refine gM_37 C dX10_opposite_53 ?_
    refine e_aload_n C 0 dX10_opposite_56 rfl ?_
    refine e_iload_n C 1 dX10_opposite_57 rfl ?_
    refine e_iload_n C 2 dX10_opposite_58 rfl ?_
    refine e_iload_n C 3 dX10_opposite_59 rfl ?_
    refine e_callVD (As := [vI x1, vI x2, vI x3]) (rest := [.ref (ad 26), vI (1 - x2), .ref (ad 0)]) (q0 := 0) (ci := 10) C Y mi_X10_optionOf ms_X10_optionOf mv_X10_optionOf ml_X10_167 (s_X10_optionOf r1 r2 r3 o4) rfl rfl (by decide) (Nat.le_of_ble_eq_true rfl) hk hn dX10_opposite_60 rfl ?_
    refine aM_37 C o5 dX10_opposite_63 ?_
    obtain ⟨Q8, h6, H⟩ := H
    refine e_callVV (As := [vI (1 - x2), vI (M 37 (M 4 (8 * x1 + 4 * x2 + x3)))]) (rest := []) (q0 := 0) (ci := 10) C Y mi_X10_takes ms_X10_takes mv_X10_takes ml_X10_134 h6 rfl rfl (by decide) (Nat.le_of_ble_eq_true rfl) hk hn dX10_opposite_64 rfl (fun M7 hq9 => ?_)
    replace H := H M7 hq9
    refine e_wf (fun hw9 => ?_)
    obtain ⟨o10, H⟩ := H
    refine e_iinc C 3 dX10_opposite_67 rfl (by decide) rfl ?_
    refine e_goto C 38 dX10_opposite_70 (by decide) ?_
    exact e_sub [1, 2, 3, 0] rfl H
set_option maxRecDepth 4000 in
theorem B_X10_advice_0 {g : Gs} {ad : Nat → Nat} {X : Cx} {mc ms k n : Nat} {PQ : Option Value → Mem → Prop} {PX : String → Mem → Prop} {M : Mem} {x1 x2 : Int} (r1 : R32 x1) (r2 : R32 x2) (hk : k ≤ mc) (hn : n ≤ ms) (C : OkB (wM g ad) X cX10_advice RX10 3 7 mc ms) (Y : OkR (wM g ad) X (some .int) mc ms PQ PX) (H : ∃ Q3 : Mem → Prop, SpV (wM g ad) yX10_plays cX10_plays 2 none 1 [.ref (ad 0)] M Q3 ∧ ∀ M2 : Mem, Q3 M2 → (((¬((0 : Int) ≤ x1 ∧ x1 ≤ (1 : Int))) → E (wM g ad) X k n M2 47 [(0, .ref (ad 0)), (1, vI x1), (2, vI x2)] [vI 1, .ref (ad 0)]) ∧ (((0 : Int) ≤ x1 ∧ x1 ≤ (1 : Int)) → ((((0 : Int) ≤ x2 ∧ x2 ≤ (3 : Int)) → (((x2 ≠ 3) → E (wM g ad) X k n M2 47 [(0, .ref (ad 0)), (1, vI x1), (2, vI x2)] [vI 0, .ref (ad 0)]) ∧ ((x2 = 3) → ∃ Q7 : Int → Mem → Prop, SpI (wM g ad) yX10_sizeNow cX10_sizeNow 3 (some .int) 4 [.ref (ad 0)] M2 Q7 ∧ ∀ (z8 : Int) (M6 : Mem), Q7 z8 M6 → R32 z8 ∧ (((z8 ≤ 4000) → E (wM g ad) X k n M6 47 [(0, .ref (ad 0)), (1, vI x1), (2, vI x2)] [vI 0, .ref (ad 0)]) ∧ ((4000 < z8) → E (wM g ad) X k n M6 47 [(0, .ref (ad 0)), (1, vI x1), (2, vI x2)] [vI 2, .ref (ad 0)]))))) ∧ ((¬((0 : Int) ≤ x2 ∧ x2 ≤ (3 : Int))) → E (wM g ad) X k n M2 47 [(0, .ref (ad 0)), (1, vI x1), (2, vI x2)] [vI 1, .ref (ad 0)]))))) : E (wM g ad) X k n M 0 [(0, .ref (ad 0)), (1, vI x1), (2, vI x2)] [] := by
  refine e_wf (fun hw0 => ?_)
  refine e_aload_n C 0 dX10_advice_0 rfl ?_
  obtain ⟨Q3, h1, H⟩ := H
  refine e_callVV (As := []) (rest := []) (q0 := 0) (ci := 10) C Y mi_X10_plays ms_X10_plays mv_X10_plays ml_X10_261 h1 rfl rfl (by decide) (Nat.le_of_ble_eq_true rfl) hk hn dX10_advice_1 rfl (fun M2 hq9 => ?_)
  replace H := H M2 hq9
  refine e_wf (fun hw4 => ?_)
  refine e_aload_n C 0 dX10_advice_4 rfl ?_
  refine e_iload_n C 1 dX10_advice_5 rfl ?_
  refine e_iconst C dX10_advice_6 ?_
  refine e_iconst C dX10_advice_7 ?_
  refine e_callSD (As := [vI x1, vI 0, vI 1]) (rest := [.ref (ad 0)]) C Y mi_X10_within ms_X10_within ml_X10_152 (s_X10_within r1 (by decide) (by decide)) (by decide) (Nat.le_of_ble_eq_true rfl) hk hn dX10_advice_8 rfl ?_
  refine e_if_eq C 23 (b2i_r _) dX10_advice_11 (by decide) (fun c9 => ?_) (fun c9 => ?_)
  · replace H := H.1 (b2i_0.mp c9)
    refine e_iconst C dX10_advice_23 ?_
    refine e_goto C 47 dX10_advice_24 (by decide) ?_
    exact e_sub [0, 1, 2] rfl H
  · replace H := H.2 (b2i_n0.mp c9)
    refine e_iload_n C 2 dX10_advice_14 rfl ?_
    refine e_iconst C dX10_advice_15 ?_
    refine e_iconst C dX10_advice_16 ?_
    refine e_callSD (As := [vI x2, vI 0, vI 3]) (rest := [.ref (ad 0)]) C Y mi_X10_within ms_X10_within ml_X10_152 (s_X10_within r2 (by decide) (by decide)) (by decide) (Nat.le_of_ble_eq_true rfl) hk hn dX10_advice_17 rfl ?_
    refine e_if_ne C 27 (b2i_r _) dX10_advice_20 (by decide) (fun c9 => ?_) (fun c9 => ?_)
    · replace H := H.1 (b2i_n0.mp c9)
      refine e_iload_n C 2 dX10_advice_27 rfl ?_
      refine e_iconst C dX10_advice_28 ?_
      refine e_icmp_ne C 46 r2 (by decide) dX10_advice_29 (by decide) (fun c9 => ?_) (fun c9 => ?_)
      · replace H := H.1 c9
        refine e_iconst C dX10_advice_46 ?_
        exact e_sub [0, 1, 2] rfl H
      · replace H := H.2 c9
        refine e_aload_n C 0 dX10_advice_32 rfl ?_
        obtain ⟨Q7, h5, H⟩ := H
        refine e_callVI (As := []) (rest := [.ref (ad 0)]) (q0 := 0) (ci := 10) C Y mi_X10_sizeNow ms_X10_sizeNow mv_X10_sizeNow ml_X10_264 h5 rfl rfl (by decide) (Nat.le_of_ble_eq_true rfl) hk hn dX10_advice_33 rfl (fun z8 M6 hq9 => ?_)
        obtain ⟨o9, H⟩ := H z8 M6 hq9
        refine e_wf (fun hw10 => ?_)
        refine e_sipush C dX10_advice_36 (by decide) ?_
        refine e_icmp_le C 46 o9 (by decide) dX10_advice_39 (by decide) (fun c9 => ?_) (fun c9 => ?_)
        · replace H := H.1 c9
          refine e_iconst C dX10_advice_46 ?_
          exact e_sub [0, 1, 2] rfl H
        · replace H := H.2 c9
          refine e_iconst C dX10_advice_42 ?_
          refine e_goto C 47 dX10_advice_43 (by decide) ?_
          exact e_sub [0, 1, 2] rfl H
    · replace H := H.2 (b2i_0.mp c9)
      refine e_iconst C dX10_advice_23 ?_
      refine e_goto C 47 dX10_advice_24 (by decide) ?_
      exact e_sub [0, 1, 2] rfl H
set_option maxRecDepth 4000 in
theorem B_X10_advice_47 {g : Gs} {ad : Nat → Nat} {X : Cx} {mc ms k n : Nat} {PQ : Option Value → Mem → Prop} {PX : String → Mem → Prop} {M : Mem} {x1 x2 t0 : Int} (r1 : R32 x1) (r2 : R32 x2) (q0 : R32 t0) (hk : k ≤ mc) (hn : n ≤ ms) (C : OkB (wM g ad) X cX10_advice RX10 3 7 mc ms) (Y : OkR (wM g ad) X (some .int) mc ms PQ PX) (H : (((¬(0 < t0)) → ∃ Q4 : Int → Mem → Prop, SpI (wM g ad) yX10_chosen cX10_chosen 9 (some .int) 6 [.ref (ad 0), vI x1, vI x2] (up M 20 0 t0) Q4 ∧ ∀ (z5 : Int) (M3 : Mem), Q4 z5 M3 → R32 z5 ∧ PQ (some (vI z5)) M3) ∧ ((0 < t0) → PQ (some (vI 0)) (up M 20 0 t0)))) : E (wM g ad) X k n M 47 [(0, .ref (ad 0)), (1, vI x1), (2, vI x2)] [vI t0, .ref (ad 0)] := by
  refine e_wf (fun hw0 => ?_)
  refine e_callVD (As := [vI t0]) (rest := []) (q0 := 0) (ci := 10) C Y mi_X10_refused ms_X10_refused mv_X10_refused ml_X10_227 (s_X10_refused q0) rfl rfl (by decide) (Nat.le_of_ble_eq_true rfl) hk hn dX10_advice_47 rfl ?_
  refine e_wf (fun hw1 => ?_)
  refine e_if_eq C 55 (b2i_r _) dX10_advice_50 (by decide) (fun c9 => ?_) (fun c9 => ?_)
  · replace H := H.1 (b2i_0.mp c9)
    refine e_aload_n C 0 dX10_advice_55 rfl ?_
    refine e_iload_n C 1 dX10_advice_56 rfl ?_
    refine e_iload_n C 2 dX10_advice_57 rfl ?_
    obtain ⟨Q4, h2, H⟩ := H
    refine e_callVI (As := [vI x1, vI x2]) (rest := []) (q0 := 0) (ci := 10) C Y mi_X10_chosen ms_X10_chosen mv_X10_chosen ml_X10_293 h2 rfl rfl (by decide) (Nat.le_of_ble_eq_true rfl) hk hn dX10_advice_58 rfl (fun z5 M3 hq9 => ?_)
    obtain ⟨o6, H⟩ := H z5 M3 hq9
    refine e_wf (fun hw7 => ?_)
    exact e_iret C Y hk hn dX10_advice_61 H
  · replace H := H.2 (b2i_n0.mp c9)
    refine e_iconst C dX10_advice_53 ?_
    exact e_iret C Y hk hn dX10_advice_54 H
set_option maxRecDepth 4000 in
theorem B_X10_play_0 {g : Gs} {ad : Nat → Nat} {X : Cx} {mc ms k n : Nat} {PQ : Option Value → Mem → Prop} {PX : String → Mem → Prop} {M : Mem} {x1 x2 x3 : Int} (r1 : R32 x1) (r2 : R32 x2) (r3 : R32 x3) (hk : k ≤ mc) (hn : n ≤ ms) (C : OkB (wM g ad) X cX10_play RX10 8 7 mc ms) (Y : OkR (wM g ad) X (some .int) mc ms PQ PX) (H : ∃ Q3 : Mem → Prop, SpV (wM g ad) yX10_plays cX10_plays 2 none 1 [.ref (ad 0)] M Q3 ∧ ∀ M2 : Mem, Q3 M2 → (((¬((0 : Int) ≤ x1 ∧ x1 ≤ (1 : Int))) → E (wM g ad) X k n M2 36 [(0, .ref (ad 0)), (1, vI x1), (2, vI x2), (3, vI x3)] [vI 0]) ∧ (((0 : Int) ≤ x1 ∧ x1 ≤ (1 : Int)) → (((¬((0 : Int) ≤ x2 ∧ x2 ≤ (3 : Int))) → E (wM g ad) X k n M2 36 [(0, .ref (ad 0)), (1, vI x1), (2, vI x2), (3, vI x3)] [vI 0]) ∧ (((0 : Int) ≤ x2 ∧ x2 ≤ (3 : Int)) → (((¬((0 : Int) ≤ x3 ∧ x3 ≤ (3 : Int))) → E (wM g ad) X k n M2 36 [(0, .ref (ad 0)), (1, vI x1), (2, vI x2), (3, vI x3)] [vI 0]) ∧ (((0 : Int) ≤ x3 ∧ x3 ≤ (3 : Int)) → E (wM g ad) X k n M2 36 [(0, .ref (ad 0)), (1, vI x1), (2, vI x2), (3, vI x3)] [vI 1]))))))) : E (wM g ad) X k n M 0 [(0, .ref (ad 0)), (1, vI x1), (2, vI x2), (3, vI x3)] [] := by
  refine e_wf (fun hw0 => ?_)
  refine e_aload_n C 0 dX10_play_0 rfl ?_
  obtain ⟨Q3, h1, H⟩ := H
  refine e_callVV (As := []) (rest := []) (q0 := 0) (ci := 10) C Y mi_X10_plays ms_X10_plays mv_X10_plays ml_X10_261 h1 rfl rfl (by decide) (Nat.le_of_ble_eq_true rfl) hk hn dX10_play_1 rfl (fun M2 hq9 => ?_)
  replace H := H M2 hq9
  refine e_wf (fun hw4 => ?_)
  refine e_iload_n C 1 dX10_play_4 rfl ?_
  refine e_iconst C dX10_play_5 ?_
  refine e_iconst C dX10_play_6 ?_
  refine e_callSD (As := [vI x1, vI 0, vI 1]) (rest := []) C Y mi_X10_within ms_X10_within ml_X10_152 (s_X10_within r1 (by decide) (by decide)) (by decide) (Nat.le_of_ble_eq_true rfl) hk hn dX10_play_7 rfl ?_
  refine e_if_eq C 35 (b2i_r _) dX10_play_10 (by decide) (fun c9 => ?_) (fun c9 => ?_)
  · replace H := H.1 (b2i_0.mp c9)
    refine e_iconst C dX10_play_35 ?_
    exact e_sub [0, 1, 2, 3] rfl H
  · replace H := H.2 (b2i_n0.mp c9)
    refine e_iload_n C 2 dX10_play_13 rfl ?_
    refine e_iconst C dX10_play_14 ?_
    refine e_iconst C dX10_play_15 ?_
    refine e_callSD (As := [vI x2, vI 0, vI 3]) (rest := []) C Y mi_X10_within ms_X10_within ml_X10_152 (s_X10_within r2 (by decide) (by decide)) (by decide) (Nat.le_of_ble_eq_true rfl) hk hn dX10_play_16 rfl ?_
    refine e_if_eq C 35 (b2i_r _) dX10_play_19 (by decide) (fun c9 => ?_) (fun c9 => ?_)
    · replace H := H.1 (b2i_0.mp c9)
      refine e_iconst C dX10_play_35 ?_
      exact e_sub [0, 1, 2, 3] rfl H
    · replace H := H.2 (b2i_n0.mp c9)
      refine e_iload_n C 3 dX10_play_22 rfl ?_
      refine e_iconst C dX10_play_23 ?_
      refine e_iconst C dX10_play_24 ?_
      refine e_callSD (As := [vI x3, vI 0, vI 3]) (rest := []) C Y mi_X10_within ms_X10_within ml_X10_152 (s_X10_within r3 (by decide) (by decide)) (by decide) (Nat.le_of_ble_eq_true rfl) hk hn dX10_play_25 rfl ?_
      refine e_if_eq C 35 (b2i_r _) dX10_play_28 (by decide) (fun c9 => ?_) (fun c9 => ?_)
      · replace H := H.1 (b2i_0.mp c9)
        refine e_iconst C dX10_play_35 ?_
        exact e_sub [0, 1, 2, 3] rfl H
      · replace H := H.2 (b2i_n0.mp c9)
        refine e_iconst C dX10_play_31 ?_
        refine e_goto C 36 dX10_play_32 (by decide) ?_
        exact e_sub [0, 1, 2, 3] rfl H
set_option maxRecDepth 4000 in
theorem B_X10_play_36 {g : Gs} {ad : Nat → Nat} {X : Cx} {mc ms k n : Nat} {PQ : Option Value → Mem → Prop} {PX : String → Mem → Prop} {M : Mem} {x1 x2 x3 t0 : Int} (r1 : R32 x1) (r2 : R32 x2) (r3 : R32 x3) (q0 : R32 t0) (hk : k ≤ mc) (hn : n ≤ ms) (C : OkB (wM g ad) X cX10_play RX10 8 7 mc ms) (Y : OkR (wM g ad) X (some .int) mc ms PQ PX) (H : (((t0 ≠ 0) → (((x2 = 3) → E (wM g ad) X k n M 58 [(0, .ref (ad 0)), (1, vI x1), (2, vI x2), (3, vI x3)] [.ref (ad 0)]) ∧ ((x2 ≠ 3) → (((x3 ≠ 3) → E (wM g ad) X k n M 73 [(0, .ref (ad 0)), (1, vI x1), (2, vI x2), (3, vI x3)] [vI 0, .ref (ad 0)]) ∧ ((x3 = 3) → E (wM g ad) X k n M 58 [(0, .ref (ad 0)), (1, vI x1), (2, vI x2), (3, vI x3)] [.ref (ad 0)]))))) ∧ ((t0 = 0) → E (wM g ad) X k n M 73 [(0, .ref (ad 0)), (1, vI x1), (2, vI x2), (3, vI x3)] [vI 1, .ref (ad 0)]))) : E (wM g ad) X k n M 36 [(0, .ref (ad 0)), (1, vI x1), (2, vI x2), (3, vI x3)] [vI t0] := by
  refine e_wf (fun hw0 => ?_)
  refine e_istore C dX10_play_36 (by decide) rfl ?_
  refine e_aload_n C 1 dX10_play_38 rfl ?_
  refine e_iload C 0 dX10_play_39 rfl ?_
  refine e_if_ne C 48 q0 dX10_play_41 (by decide) (fun c9 => ?_) (fun c9 => ?_)
  · replace H := H.1 c9
    refine e_iload_n C 3 dX10_play_48 rfl ?_
    refine e_iconst C dX10_play_49 ?_
    refine e_icmp_eq C 58 r2 (by decide) dX10_play_50 (by decide) (fun c9 => ?_) (fun c9 => ?_)
    · replace H := H.1 c9
      exact e_sub [1, 2, 3, 4] rfl H
    · replace H := H.2 c9
      refine e_iload_n C 4 dX10_play_53 rfl ?_
      refine e_iconst C dX10_play_54 ?_
      refine e_icmp_ne C 72 r3 (by decide) dX10_play_55 (by decide) (fun c9 => ?_) (fun c9 => ?_)
      · replace H := H.1 c9
        refine e_iconst C dX10_play_72 ?_
        exact e_sub [1, 2, 3, 4] rfl H
      · replace H := H.2 c9
        exact e_sub [1, 2, 3, 4] rfl H
  · replace H := H.2 c9
    refine e_iconst C dX10_play_44 ?_
    refine e_goto C 73 dX10_play_45 (by decide) ?_
    exact e_sub [1, 2, 3, 4] rfl H
set_option maxRecDepth 4000 in
theorem B_X10_play_58 {g : Gs} {ad : Nat → Nat} {X : Cx} {mc ms k n : Nat} {PQ : Option Value → Mem → Prop} {PX : String → Mem → Prop} {M : Mem} {x1 x2 x3 : Int} (r1 : R32 x1) (r2 : R32 x2) (r3 : R32 x3) (hk : k ≤ mc) (hn : n ≤ ms) (C : OkB (wM g ad) X cX10_play RX10 8 7 mc ms) (Y : OkR (wM g ad) X (some .int) mc ms PQ PX) (H : ∃ Q3 : Int → Mem → Prop, SpI (wM g ad) yX10_sizeNow cX10_sizeNow 3 (some .int) 4 [.ref (ad 0)] M Q3 ∧ ∀ (z4 : Int) (M2 : Mem), Q3 z4 M2 → R32 z4 ∧ (((z4 ≤ 4000) → E (wM g ad) X k n M2 73 [(0, .ref (ad 0)), (1, vI x1), (2, vI x2), (3, vI x3)] [vI 0, .ref (ad 0)]) ∧ ((4000 < z4) → E (wM g ad) X k n M2 73 [(0, .ref (ad 0)), (1, vI x1), (2, vI x2), (3, vI x3)] [vI 2, .ref (ad 0)]))) : E (wM g ad) X k n M 58 [(0, .ref (ad 0)), (1, vI x1), (2, vI x2), (3, vI x3)] [.ref (ad 0)] := by
  refine e_wf (fun hw0 => ?_)
  refine e_aload_n C 0 dX10_play_58 rfl ?_
  obtain ⟨Q3, h1, H⟩ := H
  refine e_callVI (As := []) (rest := [.ref (ad 0)]) (q0 := 0) (ci := 10) C Y mi_X10_sizeNow ms_X10_sizeNow mv_X10_sizeNow ml_X10_264 h1 rfl rfl (by decide) (Nat.le_of_ble_eq_true rfl) hk hn dX10_play_59 rfl (fun z4 M2 hq9 => ?_)
  obtain ⟨o5, H⟩ := H z4 M2 hq9
  refine e_wf (fun hw6 => ?_)
  refine e_sipush C dX10_play_62 (by decide) ?_
  refine e_icmp_le C 72 o5 (by decide) dX10_play_65 (by decide) (fun c9 => ?_) (fun c9 => ?_)
  · replace H := H.1 c9
    refine e_iconst C dX10_play_72 ?_
    exact e_sub [0, 1, 2, 3] rfl H
  · replace H := H.2 c9
    refine e_iconst C dX10_play_68 ?_
    refine e_goto C 73 dX10_play_69 (by decide) ?_
    exact e_sub [0, 1, 2, 3] rfl H
set_option maxRecDepth 4000 in
theorem B_X10_play_73 {g : Gs} {ad : Nat → Nat} {X : Cx} {mc ms k n : Nat} {PQ : Option Value → Mem → Prop} {PX : String → Mem → Prop} {M : Mem} {x1 x2 x3 t0 : Int} (r1 : R32 x1) (r2 : R32 x2) (r3 : R32 x3) (q0 : R32 t0) (hk : k ≤ mc) (hn : n ≤ ms) (C : OkB (wM g ad) X cX10_play RX10 8 7 mc ms) (Y : OkR (wM g ad) X (some .int) mc ms PQ PX) (H : (((¬(0 < t0)) → E (wM g ad) X k n (up (up M 20 0 t0) 28 0 0) 89 [(0, .ref (ad 0)), (2, vI x2), (3, vI x3), (5, vI x1)] []) ∧ ((0 < t0) → PQ (some (vI 0)) (up M 20 0 t0)))) : E (wM g ad) X k n M 73 [(0, .ref (ad 0)), (1, vI x1), (2, vI x2), (3, vI x3)] [vI t0, .ref (ad 0)] := by
  refine e_wf (fun hw0 => ?_)
  refine e_callVD (As := [vI t0]) (rest := []) (q0 := 0) (ci := 10) C Y mi_X10_refused ms_X10_refused mv_X10_refused ml_X10_227 (s_X10_refused q0) rfl rfl (by decide) (Nat.le_of_ble_eq_true rfl) hk hn dX10_play_73 rfl ?_
  refine e_wf (fun hw1 => ?_)
  refine e_if_eq C 81 (b2i_r _) dX10_play_76 (by decide) (fun c9 => ?_) (fun c9 => ?_)
  · replace H := H.1 (b2i_0.mp c9)
    refine e_aload_n C 0 dX10_play_81 rfl ?_
    refine e_iconst C dX10_play_82 ?_
    refine pM_28 C (by decide) dX10_play_83 ?_
    refine e_wf (fun hw2 => ?_)
    refine e_iload_n C 1 dX10_play_86 rfl ?_
    refine e_istore C dX10_play_87 (by decide) rfl ?_
    exact e_sub [1, 3, 4, 0] rfl H
  · replace H := H.2 (b2i_n0.mp c9)
    refine e_iconst C dX10_play_79 ?_
    exact e_iret C Y hk hn dX10_play_80 H
set_option maxRecDepth 4000 in
theorem B_X10_play_89 {g : Gs} {ad : Nat → Nat} {X : Cx} {mc ms k n : Nat} {PQ : Option Value → Mem → Prop} {PX : String → Mem → Prop} {M : Mem} {x2 x3 x5 : Int} (r2 : R32 x2) (r3 : R32 x3) (r5 : R32 x5) (hk : k ≤ mc) (hn : n ≤ ms) (C : OkB (wM g ad) X cX10_play RX10 8 7 mc ms) (Y : OkR (wM g ad) X (some .int) mc ms PQ PX) (H : ∃ Q3 : Int → Mem → Prop, SpI (wM g ad) yX10_isOver cX10_isOver 3 (some .boolean) 1 [.ref (ad 0)] M Q3 ∧ ∀ (z4 : Int) (M2 : Mem), Q3 z4 M2 → B01 z4 ∧ (((z4 ≠ 0) → E (wM g ad) X k n M2 181 [(0, .ref (ad 0)), (6, vI 0), (7, vI 0)] []) ∧ ((z4 = 0) → (((x5 ≠ 0) → E (wM g ad) X k n M2 109 [(0, .ref (ad 0)), (2, vI x2), (3, vI x3), (5, vI x5)] [vI x3, vI x5, .ref (ad 0)]) ∧ ((x5 = 0) → E (wM g ad) X k n M2 109 [(0, .ref (ad 0)), (2, vI x2), (3, vI x3), (5, vI x5)] [vI x2, vI x5, .ref (ad 0)]))))) : E (wM g ad) X k n M 89 [(0, .ref (ad 0)), (2, vI x2), (3, vI x3), (5, vI x5)] [] := by
  refine e_wf (fun hw0 => ?_)
  refine e_aload_n C 0 dX10_play_89 rfl ?_
  obtain ⟨Q3, h1, H⟩ := H
  refine e_callVI (As := []) (rest := []) (q0 := 0) (ci := 10) C Y mi_X10_isOver ms_X10_isOver mv_X10_isOver ml_X10_282 h1 rfl rfl (by decide) (Nat.le_of_ble_eq_true rfl) hk hn dX10_play_90 rfl (fun z4 M2 hq9 => ?_)
  obtain ⟨o5, H⟩ := H z4 M2 hq9
  refine e_wf (fun hw6 => ?_)
  refine e_if_ne C 175 (b01_r o5) dX10_play_93 (by decide) (fun c9 => ?_) (fun c9 => ?_)
  · replace H := H.1 c9
    refine e_iconst C dX10_play_175 ?_
    refine e_istore C dX10_play_176 (by decide) rfl ?_
    refine e_iconst C dX10_play_178 ?_
    refine e_istore C dX10_play_179 (by decide) rfl ?_
    exact e_sub [2, 1, 0] rfl H
  · replace H := H.2 c9
    refine e_aload_n C 0 dX10_play_96 rfl ?_
    refine e_iload C 3 dX10_play_97 rfl ?_
    refine e_iload C 3 dX10_play_99 rfl ?_
    refine e_if_ne C 108 r5 dX10_play_101 (by decide) (fun c9 => ?_) (fun c9 => ?_)
    · replace H := H.1 c9
      refine e_iload_n C 2 dX10_play_108 rfl ?_
      exact e_sub [0, 1, 2, 3] rfl H
    · replace H := H.2 c9
      refine e_iload_n C 1 dX10_play_104 rfl ?_
      refine e_goto C 109 dX10_play_105 (by decide) ?_
      exact e_sub [0, 1, 2, 3] rfl H
set_option maxRecDepth 4000 in
theorem B_X10_play_109 {g : Gs} {ad : Nat → Nat} {X : Cx} {mc ms k n : Nat} {PQ : Option Value → Mem → Prop} {PX : String → Mem → Prop} {M : Mem} {x2 x3 x5 t0 t1 : Int} (r2 : R32 x2) (r3 : R32 x3) (r5 : R32 x5) (q0 : R32 t0) (q1 : R32 t1) (hk : k ≤ mc) (hn : n ≤ ms) (C : OkB (wM g ad) X cX10_play RX10 8 7 mc ms) (Y : OkR (wM g ad) X (some .int) mc ms PQ PX) (H : ∃ Q3 : Int → Mem → Prop, SpI (wM g ad) yX10_chosen cX10_chosen 9 (some .int) 6 [.ref (ad 0), vI t1, vI t0] M Q3 ∧ ∀ (z4 : Int) (M2 : Mem), Q3 z4 M2 → R32 z4 ∧ ((0 ≤ M2 28 0 ∧ M2 28 0 < 40) ∧ (R32 ((M2 28 0) + 1)) ∧ (0 ≤ Int.tdiv z4 100 ∧ Int.tdiv z4 100 < 4) ∧ ((0 ≤ (M2 38 (Int.tdiv z4 100)) ∧ (M2 38 (Int.tdiv z4 100)) < 40) ∧ (0 ≤ x5 ∧ x5 ≤ 1) ∧ 0 ≤ (Int.tmod z4 100) ∧ (Int.tmod z4 100) < 4) ∧ (R32 (1 - x5))) ∧ E (wM g ad) X k n (up (up (up M2 27 (M2 28 0) z4) 28 0 ((M2 28 0) + 1)) 38 (Int.tdiv z4 100) (M2 4 (8 * (M2 38 (Int.tdiv z4 100)) + 4 * x5 + (Int.tmod z4 100)))) 89 [(0, .ref (ad 0)), (2, vI x2), (3, vI x3), (5, vI (1 - x5))] []) : E (wM g ad) X k n M 109 [(0, .ref (ad 0)), (2, vI x2), (3, vI x3), (5, vI x5)] [vI t0, vI t1, .ref (ad 0)] := by
  refine e_wf (fun hw0 => ?_)
  obtain ⟨Q3, h1, H⟩ := H
  refine e_callVI (As := [vI t1, vI t0]) (rest := []) (q0 := 0) (ci := 10) C Y mi_X10_chosen ms_X10_chosen mv_X10_chosen ml_X10_293 h1 rfl rfl (by decide) (Nat.le_of_ble_eq_true rfl) hk hn dX10_play_109 rfl (fun z4 M2 hq9 => ?_)
  obtain ⟨o5, H⟩ := H z4 M2 hq9
  refine e_wf (fun hw6 => ?_)
  refine e_istore C dX10_play_112 (by decide) rfl ?_
  refine e_aload_n C 1 dX10_play_114 rfl ?_
  refine gM_27 C dX10_play_115 ?_
  refine e_aload_n C 1 dX10_play_118 rfl ?_
  refine gM_28 C dX10_play_119 ?_
  refine e_iload C 0 dX10_play_122 rfl ?_
  obtain ⟨⟨o7, o9, o11, o12, o14⟩, H⟩ := H
  refine sM_27 C o7 o5 dX10_play_124 ?_
  refine e_wf (fun hw8 => ?_)
  refine e_aload_n C 1 dX10_play_125 rfl ?_
  refine e_dup C rfl dX10_play_126 ?_
  refine gM_28 C dX10_play_127 ?_
  refine e_iconst C dX10_play_130 ?_
  refine e_iadd C dX10_play_131 ?_
  refine pM_28 C o9 dX10_play_132 ?_
  refine e_wf (fun hw10 => ?_)
  refine e_aload_n C 1 dX10_play_135 rfl ?_
  refine gM_38 C dX10_play_136 ?_
  refine e_iload C 0 dX10_play_139 rfl ?_
  refine e_bipush C dX10_play_141 (by decide) ?_
  refine e_idiv C o5 (by decide) (by decide) (by decide) dX10_play_143 ?_
  refine e_aload_n C 1 dX10_play_144 rfl ?_
  refine e_aload_n C 1 dX10_play_145 rfl ?_
  refine gM_38 C dX10_play_146 ?_
  refine e_iload C 0 dX10_play_149 rfl ?_
  refine e_bipush C dX10_play_151 (by decide) ?_
  refine e_idiv C o5 (by decide) (by decide) (by decide) dX10_play_153 ?_
  refine aM_38 C o11 dX10_play_154 ?_
  refine e_iload C 4 dX10_play_155 rfl ?_
  refine e_iload C 0 dX10_play_157 rfl ?_
  refine e_bipush C dX10_play_159 (by decide) ?_
  refine e_irem C o5 (by decide) (by decide) (by decide) dX10_play_161 ?_
  refine e_callVD (As := [vI (M2 38 (Int.tdiv z4 100)), vI x5, vI (Int.tmod z4 100)]) (rest := [vI (Int.tdiv z4 100), .ref (ad 27)]) (q0 := 0) (ci := 10) C Y mi_X10_optionOf ms_X10_optionOf mv_X10_optionOf ml_X10_167 (s_X10_optionOf (hw6.2.1 38 _ (by decide)) r5 (tmod_r o5 (by decide) (by decide)) o12) rfl rfl (by decide) (Nat.le_of_ble_eq_true rfl) hk hn dX10_play_162 rfl ?_
  refine sM_38 C o11 (hw6.2.1 4 _ (by decide)) dX10_play_165 ?_
  refine e_wf (fun hw13 => ?_)
  refine e_iconst C dX10_play_166 ?_
  refine e_iload C 4 dX10_play_167 rfl ?_
  refine e_isub C dX10_play_169 ?_
  refine e_istore C dX10_play_170 (by decide) rfl ?_
  refine e_goto C 89 dX10_play_172 (by decide) ?_
  exact e_sub [2, 3, 4, 0] rfl H
set_option maxRecDepth 4000 in
theorem B_X10_play_181 {g : Gs} {ad : Nat → Nat} {X : Cx} {mc ms k n : Nat} {PQ : Option Value → Mem → Prop} {PX : String → Mem → Prop} {M : Mem} {x6 x7 : Int} (r6 : R32 x6) (r7 : R32 x7) (hk : k ≤ mc) (hn : n ≤ ms) (C : OkB (wM g ad) X cX10_play RX10 8 7 mc ms) (Y : OkR (wM g ad) X (some .int) mc ms PQ PX) (H : ((((M 16 0) ≤ x7) → PQ (some (vI x6)) M) ∧ ((x7 < (M 16 0)) → ((0 ≤ x7 ∧ x7 < 4) ∧ (0 ≤ M 38 x7 ∧ M 38 x7 < 40) ∧ (R32 (x6 + (M 7 (M 38 x7)))) ∧ (R32 (x7 + 1))) ∧ E (wM g ad) X k n M 181 [(0, .ref (ad 0)), (6, vI (x6 + (M 7 (M 38 x7)))), (7, vI (x7 + 1))] []))) : E (wM g ad) X k n M 181 [(0, .ref (ad 0)), (6, vI x6), (7, vI x7)] [] := by
  refine e_wf (fun hw0 => ?_)
  refine e_iload C 2 dX10_play_181 rfl ?_
  refine e_aload_n C 0 dX10_play_183 rfl ?_
  refine gM_16 C dX10_play_184 ?_
  refine e_icmp_ge C 213 r7 (hw0.2.1 16 _ (by decide)) dX10_play_187 (by decide) (fun c9 => ?_) (fun c9 => ?_)
  · replace H := H.1 c9
    refine e_iload C 1 dX10_play_213 rfl ?_
    exact e_iret C Y hk hn dX10_play_215 H
  · replace H := H.2 c9
    refine e_iload C 1 dX10_play_190 rfl ?_
    refine e_aload_n C 0 dX10_play_192 rfl ?_
    refine gM_7 C dX10_play_193 ?_
    refine e_aload_n C 0 dX10_play_196 rfl ?_
    refine gM_38 C dX10_play_197 ?_
    refine e_iload C 2 dX10_play_200 rfl ?_
    obtain ⟨⟨o1, o2, o3, o4⟩, H⟩ := H
    refine aM_38 C o1 dX10_play_202 ?_
    refine aM_7 C o2 dX10_play_203 ?_
    refine e_iadd C dX10_play_204 ?_
    refine e_istore C dX10_play_205 (by decide) rfl ?_
    refine e_iinc C 2 dX10_play_207 rfl (by decide) rfl ?_
    refine e_goto C 181 dX10_play_210 (by decide) ?_
    exact e_sub [2, 1, 0] rfl H
set_option maxRecDepth 4000 in
theorem B_X10_closes_0 {g : Gs} {ad : Nat → Nat} {X : Cx} {mc ms k n : Nat} {PQ : Option Value → Mem → Prop} {PX : String → Mem → Prop} {M : Mem}  (hk : k ≤ mc) (hn : n ≤ ms) (C : OkB (wM g ad) X cX10_closes RX10 3 7 mc ms) (Y : OkR (wM g ad) X (some .int) mc ms PQ PX) (H : (R32 ((M 48 0) - 1)) ∧ ((((M 52 0) = 0) → PQ (some (vI 3)) (up M 48 0 ((M 48 0) - 1))) ∧ (((M 52 0) ≠ 0) → ((((M 53 0) ≠ 0) → PQ (some (vI 3)) (up M 48 0 ((M 48 0) - 1))) ∧ (((M 53 0) = 0) → ∃ Q5 : Mem → Prop, SpV (wM g ad) yX10_begins cX10_begins 1 none 1 [.ref (ad 0)] (up M 48 0 ((M 48 0) - 1)) Q5 ∧ ∀ M4 : Mem, Q5 M4 → E (wM g ad) X k n M4 30 [(0, .ref (ad 0)), (1, vI 0)] []))))) : E (wM g ad) X k n M 0 [(0, .ref (ad 0))] [] := by
  refine e_wf (fun hw0 => ?_)
  refine e_aload_n C 0 dX10_closes_0 rfl ?_
  refine e_dup C rfl dX10_closes_1 ?_
  refine gM_48 C dX10_closes_2 ?_
  refine e_iconst C dX10_closes_5 ?_
  obtain ⟨o1, H⟩ := H
  refine e_isub C dX10_closes_6 ?_
  refine pM_48 C o1 dX10_closes_7 ?_
  refine e_wf (fun hw2 => ?_)
  refine e_aload_n C 0 dX10_closes_10 rfl ?_
  refine gM_52 C dX10_closes_11 ?_
  refine e_if_eq C 96 (hw0.2.1 52 _ (by decide)) dX10_closes_14 (by decide) (fun c9 => ?_) (fun c9 => ?_)
  · replace H := H.1 c9
    refine e_iconst C dX10_closes_96 ?_
    exact e_iret C Y hk hn dX10_closes_97 H
  · replace H := H.2 c9
    refine e_aload_n C 0 dX10_closes_17 rfl ?_
    refine gM_53 C dX10_closes_18 ?_
    refine e_if_ne C 96 (hw0.2.1 53 _ (by decide)) dX10_closes_21 (by decide) (fun c9 => ?_) (fun c9 => ?_)
    · replace H := H.1 c9
      refine e_iconst C dX10_closes_96 ?_
      exact e_iret C Y hk hn dX10_closes_97 H
    · replace H := H.2 c9
      refine e_aload_n C 0 dX10_closes_24 rfl ?_
      obtain ⟨Q5, h3, H⟩ := H
      refine e_callVV (As := []) (rest := []) (q0 := 0) (ci := 10) C Y mi_X10_begins ms_X10_begins mv_X10_begins ml_X10_131 h3 rfl rfl (by decide) (Nat.le_of_ble_eq_true rfl) hk hn dX10_closes_25 rfl (fun M4 hq9 => ?_)
      replace H := H M4 hq9
      refine e_wf (fun hw6 => ?_)
      refine e_iconst C dX10_closes_28 ?_
      refine e_istore_n C dX10_closes_29 (by decide) rfl ?_
      exact e_sub [1, 0] rfl H
set_option maxRecDepth 4000 in
theorem B_X10_closes_30 {g : Gs} {ad : Nat → Nat} {X : Cx} {mc ms k n : Nat} {PQ : Option Value → Mem → Prop} {PX : String → Mem → Prop} {M : Mem} {x1 : Int} (r1 : R32 x1) (hk : k ≤ mc) (hn : n ≤ ms) (C : OkB (wM g ad) X cX10_closes RX10 3 7 mc ms) (Y : OkR (wM g ad) X (some .int) mc ms PQ PX) (H : (((2 ≤ x1) → ∃ Q3 : Int → Mem → Prop, SpI (wM g ad) yX10_made cX10_made 5 (some .int) 6 [.ref (ad 0)] M Q3 ∧ ∀ (z4 : Int) (M2 : Mem), Q3 z4 M2 → R32 z4 ∧ ∃ Q9 : Mem → Prop, SpV (wM g ad) yX10_gameIs cX10_gameIs 4 none 1 [.ref (ad 0), vI z4] M2 Q9 ∧ ∀ M8 : Mem, Q9 M8 → PQ (some (vI 3)) M8) ∧ ((x1 < 2) → E (wM g ad) X k n M 37 [(0, .ref (ad 0)), (1, vI x1), (2, vI 0)] []))) : E (wM g ad) X k n M 30 [(0, .ref (ad 0)), (1, vI x1)] [] := by
  refine e_wf (fun hw0 => ?_)
  refine e_iload_n C 1 dX10_closes_30 rfl ?_
  refine e_iconst C dX10_closes_31 ?_
  refine e_icmp_ge C 88 r1 (by decide) dX10_closes_32 (by decide) (fun c9 => ?_) (fun c9 => ?_)
  · replace H := H.1 c9
    refine e_aload_n C 0 dX10_closes_88 rfl ?_
    refine e_aload_n C 0 dX10_closes_89 rfl ?_
    obtain ⟨Q3, h1, H⟩ := H
    refine e_callVI (As := []) (rest := [.ref (ad 0)]) (q0 := 0) (ci := 10) C Y mi_X10_made ms_X10_made mv_X10_made ml_X10_138 h1 rfl rfl (by decide) (Nat.le_of_ble_eq_true rfl) hk hn dX10_closes_90 rfl (fun z4 M2 hq9 => ?_)
    obtain ⟨o5, H⟩ := H z4 M2 hq9
    refine e_wf (fun hw6 => ?_)
    obtain ⟨Q9, h7, H⟩ := H
    refine e_callVV (As := [vI z4]) (rest := []) (q0 := 0) (ci := 10) C Y mi_X10_gameIs ms_X10_gameIs mv_X10_gameIs ml_X10_376 h7 rfl rfl (by decide) (Nat.le_of_ble_eq_true rfl) hk hn dX10_closes_93 rfl (fun M8 hq9 => ?_)
    replace H := H M8 hq9
    refine e_wf (fun hw10 => ?_)
    refine e_iconst C dX10_closes_96 ?_
    exact e_iret C Y hk hn dX10_closes_97 H
  · replace H := H.2 c9
    refine e_iconst C dX10_closes_35 ?_
    refine e_istore_n C dX10_closes_36 (by decide) rfl ?_
    exact e_sub [1, 2, 0] rfl H
set_option maxRecDepth 4000 in
theorem B_X10_closes_37 {g : Gs} {ad : Nat → Nat} {X : Cx} {mc ms k n : Nat} {PQ : Option Value → Mem → Prop} {PX : String → Mem → Prop} {M : Mem} {x1 x2 : Int} (r1 : R32 x1) (r2 : R32 x2) (hk : k ≤ mc) (hn : n ≤ ms) (C : OkB (wM g ad) X cX10_closes RX10 3 7 mc ms) (Y : OkR (wM g ad) X (some .int) mc ms PQ PX) (H : ((R32 (2 * (M 48 0))) ∧ (R32 ((2 * (M 48 0)) + x1)) ∧ (0 ≤ (2 * (M 48 0)) + x1 ∧ (2 * (M 48 0)) + x1 < 162)) ∧ ((((M 50 ((2 * (M 48 0)) + x1)) ≤ x2) → (R32 (x1 + 1)) ∧ E (wM g ad) X k n M 30 [(0, .ref (ad 0)), (1, vI (x1 + 1))] []) ∧ ((x2 < (M 50 ((2 * (M 48 0)) + x1))) → ((R32 (4 * ((2 * (M 48 0)) + x1))) ∧ (R32 ((4 * ((2 * (M 48 0)) + x1)) + x2)) ∧ (0 ≤ (4 * ((2 * (M 48 0)) + x1)) + x2 ∧ (4 * ((2 * (M 48 0)) + x1)) + x2 < 648)) ∧ ∃ Q10 : Mem → Prop, SpV (wM g ad) yX10_takes cX10_takes 5 none 1 [.ref (ad 0), vI x1, vI (M 51 ((4 * ((2 * (M 48 0)) + x1)) + x2))] M Q10 ∧ ∀ M9 : Mem, Q10 M9 → (R32 (x2 + 1)) ∧ E (wM g ad) X k n M9 37 [(0, .ref (ad 0)), (1, vI x1), (2, vI (x2 + 1))] []))) : E (wM g ad) X k n M 37 [(0, .ref (ad 0)), (1, vI x1), (2, vI x2)] [] := by
  refine e_wf (fun hw0 => ?_)
  refine e_iload_n C 2 dX10_closes_37 rfl ?_
  refine e_aload_n C 0 dX10_closes_38 rfl ?_
  refine gM_50 C dX10_closes_39 ?_
  refine e_iconst C dX10_closes_42 ?_
  refine e_aload_n C 0 dX10_closes_43 rfl ?_
  refine gM_48 C dX10_closes_44 ?_
  obtain ⟨⟨o1, o2, o3⟩, H⟩ := H
  refine e_imul C dX10_closes_47 ?_
  refine e_iload_n C 1 dX10_closes_48 rfl ?_
  refine e_iadd C dX10_closes_49 ?_
  refine aM_50 C o3 dX10_closes_50 ?_
  refine e_icmp_ge C 82 r2 (hw0.2.1 50 _ (by decide)) dX10_closes_51 (by decide) (fun c9 => ?_) (fun c9 => ?_)
  · replace H := H.1 c9
    obtain ⟨o4, H⟩ := H
    refine e_iinc C 1 dX10_closes_82 rfl (by decide) rfl ?_
    refine e_goto C 30 dX10_closes_85 (by decide) ?_
    exact e_sub [1, 0] rfl H
  · replace H := H.2 c9
    refine e_aload_n C 0 dX10_closes_54 rfl ?_
    refine e_iload_n C 1 dX10_closes_55 rfl ?_
    refine e_aload_n C 0 dX10_closes_56 rfl ?_
    refine gM_51 C dX10_closes_57 ?_
    refine e_iconst C dX10_closes_60 ?_
    refine e_iconst C dX10_closes_61 ?_
    refine e_aload_n C 0 dX10_closes_62 rfl ?_
    refine gM_48 C dX10_closes_63 ?_
    refine e_imul C dX10_closes_66 ?_
    refine e_iload_n C 1 dX10_closes_67 rfl ?_
    refine e_iadd C dX10_closes_68 ?_
    obtain ⟨⟨o5, o6, o7⟩, H⟩ := H
    refine e_imul C dX10_closes_69 ?_
    refine e_iload_n C 2 dX10_closes_70 rfl ?_
    refine e_iadd C dX10_closes_71 ?_
    refine aM_51 C o7 dX10_closes_72 ?_
    obtain ⟨Q10, h8, H⟩ := H
    refine e_callVV (As := [vI x1, vI (M 51 ((4 * ((2 * (M 48 0)) + x1)) + x2))]) (rest := []) (q0 := 0) (ci := 10) C Y mi_X10_takes ms_X10_takes mv_X10_takes ml_X10_134 h8 rfl rfl (by decide) (Nat.le_of_ble_eq_true rfl) hk hn dX10_closes_73 rfl (fun M9 hq9 => ?_)
    replace H := H M9 hq9
    refine e_wf (fun hw11 => ?_)
    obtain ⟨o12, H⟩ := H
    refine e_iinc C 2 dX10_closes_76 rfl (by decide) rfl ?_
    refine e_goto C 37 dX10_closes_79 (by decide) ?_
    exact e_sub [1, 2, 0] rfl H
set_option maxRecDepth 4000 in
theorem B_X10_negative_0 {g : Gs} {ad : Nat → Nat} {X : Cx} {mc ms k n : Nat} {PQ : Option Value → Mem → Prop} {PX : String → Mem → Prop} {M : Mem} {x1 : Int} (r1 : R32 x1) (hk : k ≤ mc) (hn : n ≤ ms) (C : OkB (wM g ad) X cX10_negative RX10 6 8 mc ms) (Y : OkR (wM g ad) X (some .int) mc ms PQ PX) (H : (R32 ((M 0 0) - 1)) ∧ (((¬(0 ≤ x1 ∧ x1 < (M 0 0))) → E (wM g ad) X k n M 14 [(0, .ref (ad 0)), (1, vI x1)] [vI 1, .ref (ad 0)]) ∧ ((0 ≤ x1 ∧ x1 < (M 0 0)) → E (wM g ad) X k n M 14 [(0, .ref (ad 0)), (1, vI x1)] [vI 0, .ref (ad 0)]))) : E (wM g ad) X k n M 0 [(0, .ref (ad 0)), (1, vI x1)] [] := by
  refine e_wf (fun hw0 => ?_)
  refine e_aload_n C 0 dX10_negative_0 rfl ?_
  refine e_aload_n C 0 dX10_negative_1 rfl ?_
  refine e_iload_n C 1 dX10_negative_2 rfl ?_
  obtain ⟨o1, H⟩ := H
  refine e_callVD (As := [vI x1]) (rest := [.ref (ad 0)]) (q0 := 0) (ci := 10) C Y mi_X10_isGame ms_X10_isGame mv_X10_isGame ml_X10_236 (s_X10_isGame r1 o1) rfl rfl (by decide) (Nat.le_of_ble_eq_true rfl) hk hn dX10_negative_3 rfl ?_
  refine e_if_eq C 13 (b2i_r _) dX10_negative_6 (by decide) (fun c9 => ?_) (fun c9 => ?_)
  · replace H := H.1 (b2i_0.mp c9)
    refine e_iconst C dX10_negative_13 ?_
    exact e_sub [0, 1] rfl H
  · replace H := H.2 (b2i_n0.mp c9)
    refine e_iconst C dX10_negative_9 ?_
    refine e_goto C 14 dX10_negative_10 (by decide) ?_
    exact e_sub [0, 1] rfl H
set_option maxRecDepth 4000 in
theorem B_X10_negative_14 {g : Gs} {ad : Nat → Nat} {X : Cx} {mc ms k n : Nat} {PQ : Option Value → Mem → Prop} {PX : String → Mem → Prop} {M : Mem} {x1 t0 : Int} (r1 : R32 x1) (q0 : R32 t0) (hk : k ≤ mc) (hn : n ≤ ms) (C : OkB (wM g ad) X cX10_negative RX10 6 8 mc ms) (Y : OkR (wM g ad) X (some .int) mc ms PQ PX) (H : (((¬(0 < t0)) → E (wM g ad) X k n (up M 20 0 t0) 29 [(0, .ref (ad 0)), (1, vI x1), (2, vI (M 0 0)), (3, vI 0)] []) ∧ ((0 < t0) → PQ (some (vI 0)) (up M 20 0 t0)))) : E (wM g ad) X k n M 14 [(0, .ref (ad 0)), (1, vI x1)] [vI t0, .ref (ad 0)] := by
  refine e_wf (fun hw0 => ?_)
  refine e_callVD (As := [vI t0]) (rest := []) (q0 := 0) (ci := 10) C Y mi_X10_refused ms_X10_refused mv_X10_refused ml_X10_227 (s_X10_refused q0) rfl rfl (by decide) (Nat.le_of_ble_eq_true rfl) hk hn dX10_negative_14 rfl ?_
  refine e_wf (fun hw1 => ?_)
  refine e_if_eq C 22 (b2i_r _) dX10_negative_17 (by decide) (fun c9 => ?_) (fun c9 => ?_)
  · replace H := H.1 (b2i_0.mp c9)
    refine e_aload_n C 0 dX10_negative_22 rfl ?_
    refine gM_0 C dX10_negative_23 ?_
    refine e_istore_n C dX10_negative_26 (by decide) rfl ?_
    refine e_iconst C dX10_negative_27 ?_
    refine e_istore_n C dX10_negative_28 (by decide) rfl ?_
    exact e_sub [2, 3, 1, 0] rfl H
  · replace H := H.2 (b2i_n0.mp c9)
    refine e_iconst C dX10_negative_20 ?_
    exact e_iret C Y hk hn dX10_negative_21 H
set_option maxRecDepth 4000 in
theorem B_X10_negative_29 {g : Gs} {ad : Nat → Nat} {X : Cx} {mc ms k n : Nat} {PQ : Option Value → Mem → Prop} {PX : String → Mem → Prop} {M : Mem} {x1 x2 x3 : Int} (r1 : R32 x1) (r2 : R32 x2) (r3 : R32 x3) (hk : k ≤ mc) (hn : n ≤ ms) (C : OkB (wM g ad) X cX10_negative RX10 6 8 mc ms) (Y : OkR (wM g ad) X (some .int) mc ms PQ PX) (H : (((40 ≤ x3) → E (wM g ad) X k n M 59 [(0, .ref (ad 0)), (1, vI x1), (2, vI x2), (3, vI x1)] []) ∧ ((x3 < 40) → (((x3 ≠ x1) → ((0 ≤ x3 ∧ x3 < 40) ∧ (R32 (x3 + 1))) ∧ E (wM g ad) X k n (up M 36 x3 0) 29 [(0, .ref (ad 0)), (1, vI x1), (2, vI x2), (3, vI (x3 + 1))] []) ∧ ((x3 = x1) → ((0 ≤ x3 ∧ x3 < 40) ∧ (R32 (x3 + 1))) ∧ E (wM g ad) X k n (up M 36 x3 1) 29 [(0, .ref (ad 0)), (1, vI x1), (2, vI x2), (3, vI (x3 + 1))] []))))) : E (wM g ad) X k n M 29 [(0, .ref (ad 0)), (1, vI x1), (2, vI x2), (3, vI x3)] [] := by
  refine e_wf (fun hw0 => ?_)
  refine e_iload_n C 3 dX10_negative_29 rfl ?_
  refine e_bipush C dX10_negative_30 (by decide) ?_
  refine e_icmp_ge C 57 r3 (by decide) dX10_negative_32 (by decide) (fun c9 => ?_) (fun c9 => ?_)
  · replace H := H.1 c9
    refine e_iload_n C 1 dX10_negative_57 rfl ?_
    refine e_istore_n C dX10_negative_58 (by decide) rfl ?_
    exact e_sub [1, 2, 3, 0] rfl H
  · replace H := H.2 c9
    refine e_aload_n C 0 dX10_negative_35 rfl ?_
    refine gM_36 C dX10_negative_36 ?_
    refine e_iload_n C 3 dX10_negative_39 rfl ?_
    refine e_iload_n C 3 dX10_negative_40 rfl ?_
    refine e_iload_n C 1 dX10_negative_41 rfl ?_
    refine e_icmp_ne C 49 r3 r1 dX10_negative_42 (by decide) (fun c9 => ?_) (fun c9 => ?_)
    · replace H := H.1 c9
      refine e_iconst C dX10_negative_49 ?_
      obtain ⟨⟨o1, o3⟩, H⟩ := H
      refine sM_36 C o1 (by decide) dX10_negative_50 ?_
      refine e_wf (fun hw2 => ?_)
      refine e_iinc C 3 dX10_negative_51 rfl (by decide) rfl ?_
      refine e_goto C 29 dX10_negative_54 (by decide) ?_
      exact e_sub [1, 2, 3, 0] rfl H
    · replace H := H.2 c9
      refine e_iconst C dX10_negative_45 ?_
      refine e_goto C 50 dX10_negative_46 (by decide) ?_
      obtain ⟨⟨o4, o6⟩, H⟩ := H
      refine sM_36 C o4 (by decide) dX10_negative_50 ?_
      refine e_wf (fun hw5 => ?_)
      refine e_iinc C 3 dX10_negative_51 rfl (by decide) rfl ?_
      refine e_goto C 29 dX10_negative_54 (by decide) ?_
      exact e_sub [1, 2, 3, 0] rfl H
set_option maxRecDepth 4000 in
theorem B_X10_negative_59 {g : Gs} {ad : Nat → Nat} {X : Cx} {mc ms k n : Nat} {PQ : Option Value → Mem → Prop} {PX : String → Mem → Prop} {M : Mem} {x1 x2 x3 : Int} (r1 : R32 x1) (r2 : R32 x2) (r3 : R32 x3) (hk : k ≤ mc) (hn : n ≤ ms) (C : OkB (wM g ad) X cX10_negative RX10 6 8 mc ms) (Y : OkR (wM g ad) X (some .int) mc ms PQ PX) (H : (((x3 < 0) → E (wM g ad) X k n M 134 [(0, .ref (ad 0)), (1, vI x1), (2, vI x2), (3, vI 0), (4, vI 0)] []) ∧ ((0 ≤ x3) → E (wM g ad) X k n M 66 [(0, .ref (ad 0)), (1, vI x1), (2, vI x2), (3, vI x3), (4, vI 0)] []))) : E (wM g ad) X k n M 59 [(0, .ref (ad 0)), (1, vI x1), (2, vI x2), (3, vI x3)] [] := by
  refine e_wf (fun hw0 => ?_)
  refine e_iload_n C 3 dX10_negative_59 rfl ?_
  refine e_if_lt C 129 r3 dX10_negative_60 (by decide) (fun c9 => ?_) (fun c9 => ?_)
  · replace H := H.1 c9
    refine e_iconst C dX10_negative_129 ?_
    refine e_istore_n C dX10_negative_130 (by decide) rfl ?_
    refine e_iconst C dX10_negative_131 ?_
    refine e_istore C dX10_negative_132 (by decide) rfl ?_
    exact e_sub [2, 3, 4, 1, 0] rfl H
  · replace H := H.2 c9
    refine e_iconst C dX10_negative_63 ?_
    refine e_istore C dX10_negative_64 (by decide) rfl ?_
    exact e_sub [1, 2, 3, 4, 0] rfl H
set_option maxRecDepth 4000 in
theorem B_X10_negative_66 {g : Gs} {ad : Nat → Nat} {X : Cx} {mc ms k n : Nat} {PQ : Option Value → Mem → Prop} {PX : String → Mem → Prop} {M : Mem} {x1 x2 x3 x4 : Int} (r1 : R32 x1) (r2 : R32 x2) (r3 : R32 x3) (r4 : R32 x4) (hk : k ≤ mc) (hn : n ≤ ms) (C : OkB (wM g ad) X cX10_negative RX10 6 8 mc ms) (Y : OkR (wM g ad) X (some .int) mc ms PQ PX) (H : (((2 ≤ x4) → (R32 (x3 + (-1))) ∧ E (wM g ad) X k n M 59 [(0, .ref (ad 0)), (1, vI x1), (2, vI x2), (3, vI (x3 + (-1)))] []) ∧ ((x4 < 2) → (0 ≤ x3 ∧ x3 < 40) ∧ ((((M 36 x3) = 0) → (R32 (x3 + (-1))) ∧ E (wM g ad) X k n M 59 [(0, .ref (ad 0)), (1, vI x1), (2, vI x2), (3, vI (x3 + (-1)))] []) ∧ (((M 36 x3) ≠ 0) → E (wM g ad) X k n M 84 [(0, .ref (ad 0)), (1, vI x1), (2, vI x2), (3, vI x3), (4, vI x4), (5, vI 0)] []))))) : E (wM g ad) X k n M 66 [(0, .ref (ad 0)), (1, vI x1), (2, vI x2), (3, vI x3), (4, vI x4)] [] := by
  refine e_wf (fun hw0 => ?_)
  refine e_iload C 4 dX10_negative_66 rfl ?_
  refine e_iconst C dX10_negative_68 ?_
  refine e_icmp_ge C 123 r4 (by decide) dX10_negative_69 (by decide) (fun c9 => ?_) (fun c9 => ?_)
  · replace H := H.1 c9
    obtain ⟨o1, H⟩ := H
    refine e_iinc C 3 dX10_negative_123 rfl (by decide) rfl ?_
    refine e_goto C 59 dX10_negative_126 (by decide) ?_
    exact e_sub [1, 2, 3, 0] rfl H
  · replace H := H.2 c9
    refine e_aload_n C 0 dX10_negative_72 rfl ?_
    refine gM_36 C dX10_negative_73 ?_
    refine e_iload_n C 3 dX10_negative_76 rfl ?_
    obtain ⟨o2, H⟩ := H
    refine aM_36 C o2 dX10_negative_77 ?_
    refine e_if_eq C 123 (hw0.2.1 36 _ (by decide)) dX10_negative_78 (by decide) (fun c9 => ?_) (fun c9 => ?_)
    · replace H := H.1 c9
      obtain ⟨o3, H⟩ := H
      refine e_iinc C 3 dX10_negative_123 rfl (by decide) rfl ?_
      refine e_goto C 59 dX10_negative_126 (by decide) ?_
      exact e_sub [1, 2, 3, 0] rfl H
    · replace H := H.2 c9
      refine e_iconst C dX10_negative_81 ?_
      refine e_istore C dX10_negative_82 (by decide) rfl ?_
      exact e_sub [1, 2, 3, 4, 5, 0] rfl H
set_option maxRecDepth 4000 in
theorem B_X10_negative_84 {g : Gs} {ad : Nat → Nat} {X : Cx} {mc ms k n : Nat} {PQ : Option Value → Mem → Prop} {PX : String → Mem → Prop} {M : Mem} {x1 x2 x3 x4 x5 : Int} (r1 : R32 x1) (r2 : R32 x2) (r3 : R32 x3) (r4 : R32 x4) (r5 : R32 x5) (hk : k ≤ mc) (hn : n ≤ ms) (C : OkB (wM g ad) X cX10_negative RX10 6 8 mc ms) (Y : OkR (wM g ad) X (some .int) mc ms PQ PX) (H : ((0 ≤ x3 ∧ x3 < 40) ∧ 0 ≤ x4 ∧ x4 ≤ 1) ∧ ((((M 3 (2 * x3 + x4)) ≤ x5) → (R32 (x4 + 1)) ∧ E (wM g ad) X k n M 66 [(0, .ref (ad 0)), (1, vI x1), (2, vI x2), (3, vI x3), (4, vI (x4 + 1))] []) ∧ ((x5 < (M 3 (2 * x3 + x4))) → (((0 ≤ x3 ∧ x3 < 40) ∧ (0 ≤ x4 ∧ x4 ≤ 1) ∧ 0 ≤ x5 ∧ x5 < 4) ∧ (0 ≤ M 4 (8 * x3 + 4 * x4 + x5) ∧ M 4 (8 * x3 + 4 * x4 + x5) < 40) ∧ (R32 (x5 + 1))) ∧ E (wM g ad) X k n (up M 36 (M 4 (8 * x3 + 4 * x4 + x5)) 1) 84 [(0, .ref (ad 0)), (1, vI x1), (2, vI x2), (3, vI x3), (4, vI x4), (5, vI (x5 + 1))] []))) : E (wM g ad) X k n M 84 [(0, .ref (ad 0)), (1, vI x1), (2, vI x2), (3, vI x3), (4, vI x4), (5, vI x5)] [] := by
  refine e_wf (fun hw0 => ?_)
  refine e_iload C 5 dX10_negative_84 rfl ?_
  refine e_aload_n C 0 dX10_negative_86 rfl ?_
  refine e_iload_n C 3 dX10_negative_87 rfl ?_
  refine e_iload C 4 dX10_negative_88 rfl ?_
  obtain ⟨o1, H⟩ := H
  refine e_callVD (As := [vI x3, vI x4]) (rest := [vI x5]) (q0 := 0) (ci := 10) C Y mi_X10_optionsOf ms_X10_optionsOf mv_X10_optionsOf ml_X10_164 (s_X10_optionsOf r3 r4 o1) rfl rfl (by decide) (Nat.le_of_ble_eq_true rfl) hk hn dX10_negative_90 rfl ?_
  refine e_icmp_ge C 117 r5 (hw0.2.1 3 _ (by decide)) dX10_negative_93 (by decide) (fun c9 => ?_) (fun c9 => ?_)
  · replace H := H.1 c9
    obtain ⟨o2, H⟩ := H
    refine e_iinc C 4 dX10_negative_117 rfl (by decide) rfl ?_
    refine e_goto C 66 dX10_negative_120 (by decide) ?_
    exact e_sub [1, 2, 3, 4, 0] rfl H
  · replace H := H.2 c9
    refine e_aload_n C 0 dX10_negative_96 rfl ?_
    refine gM_36 C dX10_negative_97 ?_
    refine e_aload_n C 0 dX10_negative_100 rfl ?_
    refine e_iload_n C 3 dX10_negative_101 rfl ?_
    refine e_iload C 4 dX10_negative_102 rfl ?_
    refine e_iload C 5 dX10_negative_104 rfl ?_
    obtain ⟨⟨o3, o4, o6⟩, H⟩ := H
    refine e_callVD (As := [vI x3, vI x4, vI x5]) (rest := [.ref (ad 25)]) (q0 := 0) (ci := 10) C Y mi_X10_optionOf ms_X10_optionOf mv_X10_optionOf ml_X10_167 (s_X10_optionOf r3 r4 r5 o3) rfl rfl (by decide) (Nat.le_of_ble_eq_true rfl) hk hn dX10_negative_106 rfl ?_
    refine e_iconst C dX10_negative_109 ?_
    refine sM_36 C o4 (by decide) dX10_negative_110 ?_
    refine e_wf (fun hw5 => ?_)
    refine e_iinc C 5 dX10_negative_111 rfl (by decide) rfl ?_
    refine e_goto C 84 dX10_negative_114 (by decide) ?_
    exact e_sub [1, 2, 3, 4, 5, 0] rfl H
set_option maxRecDepth 4000 in
theorem B_X10_negative_134 {g : Gs} {ad : Nat → Nat} {X : Cx} {mc ms k n : Nat} {PQ : Option Value → Mem → Prop} {PX : String → Mem → Prop} {M : Mem} {x1 x2 x3 x4 : Int} (r1 : R32 x1) (r2 : R32 x2) (r3 : R32 x3) (r4 : R32 x4) (hk : k ≤ mc) (hn : n ≤ ms) (C : OkB (wM g ad) X cX10_negative RX10 6 8 mc ms) (Y : OkR (wM g ad) X (some .int) mc ms PQ PX) (H : (((x1 < x4) → ∃ Q3 : Int → Mem → Prop, SpI (wM g ad) yX10_ends cX10_ends 4 (some .int) 2 [.ref (ad 0), vI x2, vI x3, vI 2] M Q3 ∧ ∀ (z4 : Int) (M2 : Mem), Q3 z4 M2 → R32 z4 ∧ PQ (some (vI z4)) M2) ∧ ((x4 ≤ x1) → (((x3 = (-1)) → ∃ Q9 : Int → Mem → Prop, SpI (wM g ad) yX10_ends cX10_ends 4 (some .int) 2 [.ref (ad 0), vI x2, vI x3, vI 2] M Q9 ∧ ∀ (z10 : Int) (M8 : Mem), Q9 z10 M8 → R32 z10 ∧ PQ (some (vI z10)) M8) ∧ ((x3 ≠ (-1)) → (0 ≤ x4 ∧ x4 < 40) ∧ ((((M 36 x4) = 0) → (R32 (x4 + 1)) ∧ E (wM g ad) X k n M 134 [(0, .ref (ad 0)), (1, vI x1), (2, vI x2), (3, vI x3), (4, vI (x4 + 1))] []) ∧ (((M 36 x4) ≠ 0) → ∃ Q17 : Int → Mem → Prop, SpI (wM g ad) yX10_opposite cX10_opposite 4 (some .int) 7 [.ref (ad 0), vI x4] M Q17 ∧ ∀ (z18 : Int) (M16 : Mem), Q17 z18 M16 → R32 z18 ∧ (R32 (x4 + 1)) ∧ E (wM g ad) X k n (up M16 37 x4 z18) 134 [(0, .ref (ad 0)), (1, vI x1), (2, vI x2), (3, vI z18), (4, vI (x4 + 1))] []))))))) : E (wM g ad) X k n M 134 [(0, .ref (ad 0)), (1, vI x1), (2, vI x2), (3, vI x3), (4, vI x4)] [] := by
  refine e_wf (fun hw0 => ?_)
  refine e_iload C 4 dX10_negative_134 rfl ?_
  refine e_iload_n C 1 dX10_negative_136 rfl ?_
  refine e_icmp_gt C 176 r4 r1 dX10_negative_137 (by decide) (fun c9 => ?_) (fun c9 => ?_)
  · replace H := H.1 c9
    refine e_aload_n C 0 dX10_negative_176 rfl ?_
    refine e_iload_n C 2 dX10_negative_177 rfl ?_
    refine e_iload_n C 3 dX10_negative_178 rfl ?_
    refine e_iconst C dX10_negative_179 ?_
    obtain ⟨Q3, h1, H⟩ := H
    refine e_callVI (As := [vI x2, vI x3, vI 2]) (rest := []) (q0 := 0) (ci := 10) C Y mi_X10_ends ms_X10_ends mv_X10_ends ml_X10_233 h1 rfl rfl (by decide) (Nat.le_of_ble_eq_true rfl) hk hn dX10_negative_180 rfl (fun z4 M2 hq9 => ?_)
    obtain ⟨o5, H⟩ := H z4 M2 hq9
    refine e_wf (fun hw6 => ?_)
    exact e_iret C Y hk hn dX10_negative_183 H
  · replace H := H.2 c9
    refine e_iload_n C 3 dX10_negative_140 rfl ?_
    refine e_iconst C dX10_negative_141 ?_
    refine e_icmp_eq C 176 r3 (by decide) dX10_negative_142 (by decide) (fun c9 => ?_) (fun c9 => ?_)
    · replace H := H.1 c9
      refine e_aload_n C 0 dX10_negative_176 rfl ?_
      refine e_iload_n C 2 dX10_negative_177 rfl ?_
      refine e_iload_n C 3 dX10_negative_178 rfl ?_
      refine e_iconst C dX10_negative_179 ?_
      obtain ⟨Q9, h7, H⟩ := H
      refine e_callVI (As := [vI x2, vI x3, vI 2]) (rest := []) (q0 := 0) (ci := 10) C Y mi_X10_ends ms_X10_ends mv_X10_ends ml_X10_233 h7 rfl rfl (by decide) (Nat.le_of_ble_eq_true rfl) hk hn dX10_negative_180 rfl (fun z10 M8 hq9 => ?_)
      obtain ⟨o11, H⟩ := H z10 M8 hq9
      refine e_wf (fun hw12 => ?_)
      exact e_iret C Y hk hn dX10_negative_183 H
    · replace H := H.2 c9
      refine e_aload_n C 0 dX10_negative_145 rfl ?_
      refine gM_36 C dX10_negative_146 ?_
      refine e_iload C 4 dX10_negative_149 rfl ?_
      obtain ⟨o13, H⟩ := H
      refine aM_36 C o13 dX10_negative_151 ?_
      refine e_if_eq C 170 (hw0.2.1 36 _ (by decide)) dX10_negative_152 (by decide) (fun c9 => ?_) (fun c9 => ?_)
      · replace H := H.1 c9
        obtain ⟨o14, H⟩ := H
        refine e_iinc C 4 dX10_negative_170 rfl (by decide) rfl ?_
        refine e_goto C 134 dX10_negative_173 (by decide) ?_
        exact e_sub [1, 2, 3, 4, 0] rfl H
      · replace H := H.2 c9
        refine e_aload_n C 0 dX10_negative_155 rfl ?_
        refine e_iload C 4 dX10_negative_156 rfl ?_
        obtain ⟨Q17, h15, H⟩ := H
        refine e_callVI (As := [vI x4]) (rest := []) (q0 := 0) (ci := 10) C Y mi_X10_opposite ms_X10_opposite mv_X10_opposite ml_X10_239 h15 rfl rfl (by decide) (Nat.le_of_ble_eq_true rfl) hk hn dX10_negative_158 rfl (fun z18 M16 hq9 => ?_)
        obtain ⟨o19, H⟩ := H z18 M16 hq9
        refine e_wf (fun hw20 => ?_)
        refine e_istore_n C dX10_negative_161 (by decide) rfl ?_
        refine e_aload_n C 1 dX10_negative_162 rfl ?_
        refine gM_37 C dX10_negative_163 ?_
        refine e_iload C 4 dX10_negative_166 rfl ?_
        refine e_iload_n C 0 dX10_negative_168 rfl ?_
        refine sM_37 C o13 o19 dX10_negative_169 ?_
        refine e_wf (fun hw21 => ?_)
        obtain ⟨o22, H⟩ := H
        refine e_iinc C 4 dX10_negative_170 rfl (by decide) rfl ?_
        refine e_goto C 134 dX10_negative_173 (by decide) ?_
        exact e_sub [2, 3, 4, 1, 0] rfl H
set_option maxRecDepth 4000 in
theorem B_X10_behind_0 {g : Gs} {ad : Nat → Nat} {X : Cx} {mc ms k n : Nat} {PQ : Option Value → Mem → Prop} {PX : String → Mem → Prop} {M : Mem}  (hk : k ≤ mc) (hn : n ≤ ms) (C : OkB (wM g ad) X cX10_behind RX10 1 8 mc ms) (Y : OkR (wM g ad) X (some .int) mc ms PQ PX) (H : ((((M 48 0) ≠ 0) → ((((M 46 0) ≠ 44) → ((((M 46 0) ≠ 124) → E (wM g ad) X k n M 50 [(0, .ref (ad 0))] []) ∧ (((M 46 0) = 124) → ((R32 ((M 48 0) - 1)) ∧ (0 ≤ (M 48 0) - 1 ∧ (M 48 0) - 1 < 81)) ∧ ((((M 49 ((M 48 0) - 1)) ≠ 0) → E (wM g ad) X k n M 50 [(0, .ref (ad 0))] []) ∧ (((M 49 ((M 48 0) - 1)) = 0) → ∃ Q5 : Int → Mem → Prop, SpI (wM g ad) yX10_turns cX10_turns 1 (some .int) 1 [.ref (ad 0)] M Q5 ∧ ∀ (z6 : Int) (M4 : Mem), Q5 z6 M4 → R32 z6 ∧ PQ (some (vI z6)) M4))))) ∧ (((M 46 0) = 44) → PQ (some (vI 0)) M))) ∧ (((M 48 0) = 0) → PQ (some (vI (-1))) M))) : E (wM g ad) X k n M 0 [(0, .ref (ad 0))] [] := by
  refine e_wf (fun hw0 => ?_)
  refine e_aload_n C 0 dX10_behind_0 rfl ?_
  refine gM_48 C dX10_behind_1 ?_
  refine e_if_ne C 9 (hw0.2.1 48 _ (by decide)) dX10_behind_4 (by decide) (fun c9 => ?_) (fun c9 => ?_)
  · replace H := H.1 c9
    refine e_aload_n C 0 dX10_behind_9 rfl ?_
    refine gM_46 C dX10_behind_10 ?_
    refine e_bipush C dX10_behind_13 (by decide) ?_
    refine e_icmp_ne C 20 (hw0.2.1 46 _ (by decide)) (by decide) dX10_behind_15 (by decide) (fun c9 => ?_) (fun c9 => ?_)
    · replace H := H.1 c9
      refine e_aload_n C 0 dX10_behind_20 rfl ?_
      refine gM_46 C dX10_behind_21 ?_
      refine e_bipush C dX10_behind_24 (by decide) ?_
      refine e_icmp_ne C 50 (hw0.2.1 46 _ (by decide)) (by decide) dX10_behind_26 (by decide) (fun c9 => ?_) (fun c9 => ?_)
      · replace H := H.1 c9
        exact e_sub [0] rfl H
      · replace H := H.2 c9
        refine e_aload_n C 0 dX10_behind_29 rfl ?_
        refine gM_49 C dX10_behind_30 ?_
        refine e_aload_n C 0 dX10_behind_33 rfl ?_
        refine gM_48 C dX10_behind_34 ?_
        refine e_iconst C dX10_behind_37 ?_
        obtain ⟨⟨o1, o2⟩, H⟩ := H
        refine e_isub C dX10_behind_38 ?_
        refine aM_49 C o2 dX10_behind_39 ?_
        refine e_if_ne C 50 (hw0.2.1 49 _ (by decide)) dX10_behind_40 (by decide) (fun c9 => ?_) (fun c9 => ?_)
        · replace H := H.1 c9
          exact e_sub [0] rfl H
        · replace H := H.2 c9
          refine e_aload_n C 0 dX10_behind_43 rfl ?_
          obtain ⟨Q5, h3, H⟩ := H
          refine e_callVI (As := []) (rest := []) (q0 := 0) (ci := 10) C Y mi_X10_turns ms_X10_turns mv_X10_turns ml_X10_370 h3 rfl rfl (by decide) (Nat.le_of_ble_eq_true rfl) hk hn dX10_behind_44 rfl (fun z6 M4 hq9 => ?_)
          obtain ⟨o7, H⟩ := H z6 M4 hq9
          refine e_wf (fun hw8 => ?_)
          refine e_goto C 82 dX10_behind_47 (by decide) ?_
          exact e_iret C Y hk hn dX10_behind_82 H
    · replace H := H.2 c9
      refine e_iconst C dX10_behind_18 ?_
      exact e_iret C Y hk hn dX10_behind_19 H
  · replace H := H.2 c9
    refine e_iconst C dX10_behind_7 ?_
    exact e_iret C Y hk hn dX10_behind_8 H
set_option maxRecDepth 4000 in
theorem B_X10_behind_50 {g : Gs} {ad : Nat → Nat} {X : Cx} {mc ms k n : Nat} {PQ : Option Value → Mem → Prop} {PX : String → Mem → Prop} {M : Mem}  (hk : k ≤ mc) (hn : n ≤ ms) (C : OkB (wM g ad) X cX10_behind RX10 1 8 mc ms) (Y : OkR (wM g ad) X (some .int) mc ms PQ PX) (H : ((((M 46 0) ≠ 125) → PQ (some (vI (-1))) M) ∧ (((M 46 0) = 125) → ((R32 ((M 48 0) - 1)) ∧ (0 ≤ (M 48 0) - 1 ∧ (M 48 0) - 1 < 81)) ∧ ((((M 49 ((M 48 0) - 1)) ≠ 1) → PQ (some (vI (-1))) M) ∧ (((M 49 ((M 48 0) - 1)) = 1) → ∃ Q5 : Int → Mem → Prop, SpI (wM g ad) yX10_closes cX10_closes 3 (some .int) 7 [.ref (ad 0)] M Q5 ∧ ∀ (z6 : Int) (M4 : Mem), Q5 z6 M4 → R32 z6 ∧ PQ (some (vI z6)) M4))))) : E (wM g ad) X k n M 50 [(0, .ref (ad 0))] [] := by
  refine e_wf (fun hw0 => ?_)
  refine e_aload_n C 0 dX10_behind_50 rfl ?_
  refine gM_46 C dX10_behind_51 ?_
  refine e_bipush C dX10_behind_54 (by decide) ?_
  refine e_icmp_ne C 81 (hw0.2.1 46 _ (by decide)) (by decide) dX10_behind_56 (by decide) (fun c9 => ?_) (fun c9 => ?_)
  · replace H := H.1 c9
    refine e_iconst C dX10_behind_81 ?_
    exact e_iret C Y hk hn dX10_behind_82 H
  · replace H := H.2 c9
    refine e_aload_n C 0 dX10_behind_59 rfl ?_
    refine gM_49 C dX10_behind_60 ?_
    refine e_aload_n C 0 dX10_behind_63 rfl ?_
    refine gM_48 C dX10_behind_64 ?_
    refine e_iconst C dX10_behind_67 ?_
    obtain ⟨⟨o1, o2⟩, H⟩ := H
    refine e_isub C dX10_behind_68 ?_
    refine aM_49 C o2 dX10_behind_69 ?_
    refine e_iconst C dX10_behind_70 ?_
    refine e_icmp_ne C 81 (hw0.2.1 49 _ (by decide)) (by decide) dX10_behind_71 (by decide) (fun c9 => ?_) (fun c9 => ?_)
    · replace H := H.1 c9
      refine e_iconst C dX10_behind_81 ?_
      exact e_iret C Y hk hn dX10_behind_82 H
    · replace H := H.2 c9
      refine e_aload_n C 0 dX10_behind_74 rfl ?_
      obtain ⟨Q5, h3, H⟩ := H
      refine e_callVI (As := []) (rest := []) (q0 := 0) (ci := 10) C Y mi_X10_closes ms_X10_closes mv_X10_closes ml_X10_373 h3 rfl rfl (by decide) (Nat.le_of_ble_eq_true rfl) hk hn dX10_behind_75 rfl (fun z6 M4 hq9 => ?_)
      obtain ⟨o7, H⟩ := H z6 M4 hq9
      refine e_wf (fun hw8 => ?_)
      refine e_goto C 82 dX10_behind_78 (by decide) ?_
      exact e_iret C Y hk hn dX10_behind_82 H
set_option maxRecDepth 4000 in
theorem B_X10_checkedPair_0 {g : Gs} {ad : Nat → Nat} {X : Cx} {mc ms k n : Nat} {PQ : Option Value → Mem → Prop} {PX : String → Mem → Prop} {M : Mem} {x1 x2 : Int} (r1 : R32 x1) (r2 : R32 x2) (hk : k ≤ mc) (hn : n ≤ ms) (C : OkB (wM g ad) X cX10_checkedPair RX10 3 8 mc ms) (Y : OkR (wM g ad) X (some .int) mc ms PQ PX) (H : (((x1 = (-1)) → PQ (some (vI (-1))) M) ∧ ((x1 ≠ (-1)) → (((x2 ≠ (-1)) → ∃ Q3 : Int → Mem → Prop, SpI (wM g ad) yX10_pair cX10_pair 3 (some .int) 7 [.ref (ad 0), vI x1, vI x2] M Q3 ∧ ∀ (z4 : Int) (M2 : Mem), Q3 z4 M2 → R32 z4 ∧ PQ (some (vI z4)) M2) ∧ ((x2 = (-1)) → PQ (some (vI (-1))) M))))) : E (wM g ad) X k n M 0 [(0, .ref (ad 0)), (1, vI x1), (2, vI x2)] [] := by
  refine e_wf (fun hw0 => ?_)
  refine e_iload_n C 1 dX10_checkedPair_0 rfl ?_
  refine e_iconst C dX10_checkedPair_1 ?_
  refine e_icmp_eq C 10 r1 (by decide) dX10_checkedPair_2 (by decide) (fun c9 => ?_) (fun c9 => ?_)
  · replace H := H.1 c9
    refine e_iconst C dX10_checkedPair_10 ?_
    refine e_goto C 20 dX10_checkedPair_11 (by decide) ?_
    exact e_iret C Y hk hn dX10_checkedPair_20 H
  · replace H := H.2 c9
    refine e_iload_n C 2 dX10_checkedPair_5 rfl ?_
    refine e_iconst C dX10_checkedPair_6 ?_
    refine e_icmp_ne C 14 r2 (by decide) dX10_checkedPair_7 (by decide) (fun c9 => ?_) (fun c9 => ?_)
    · replace H := H.1 c9
      refine e_aload_n C 0 dX10_checkedPair_14 rfl ?_
      refine e_iload_n C 1 dX10_checkedPair_15 rfl ?_
      refine e_iload_n C 2 dX10_checkedPair_16 rfl ?_
      obtain ⟨Q3, h1, H⟩ := H
      refine e_callVI (As := [vI x1, vI x2]) (rest := []) (q0 := 0) (ci := 10) C Y mi_X10_pair ms_X10_pair mv_X10_pair ml_X10_127 h1 rfl rfl (by decide) (Nat.le_of_ble_eq_true rfl) hk hn dX10_checkedPair_17 rfl (fun z4 M2 hq9 => ?_)
      obtain ⟨o5, H⟩ := H z4 M2 hq9
      refine e_wf (fun hw6 => ?_)
      exact e_iret C Y hk hn dX10_checkedPair_20 H
    · replace H := H.2 c9
      refine e_iconst C dX10_checkedPair_10 ?_
      refine e_goto C 20 dX10_checkedPair_11 (by decide) ?_
      exact e_iret C Y hk hn dX10_checkedPair_20 H
set_option maxRecDepth 4000 in
theorem B_X10_numberIs_0 {g : Gs} {ad : Nat → Nat} {X : Cx} {mc ms k n : Nat} {PQ : Option Value → Mem → Prop} {PX : String → Mem → Prop} {M : Mem} {x1 : Int} (r1 : R32 x1) (hk : k ≤ mc) (hn : n ≤ ms) (C : OkB (wM g ad) X cX10_numberIs RX10 3 9 mc ms) (Y : OkR (wM g ad) X none mc ms PQ PX) (H : ((((M 52 0) = 0) → PQ none M) ∧ (((M 52 0) ≠ 0) → ((((M 53 0) = 0) → (R32 ((M 55 0) * x1)) ∧ ∃ Q4 : Int → Mem → Prop, SpI (wM g ad) yX10_madeNumber cX10_madeNumber 3 (some .int) 6 [.ref (ad 0), vI ((M 55 0) * x1)] M Q4 ∧ ∀ (z5 : Int) (M3 : Mem), Q4 z5 M3 → R32 z5 ∧ ((((M3 58 0) = 0) → ∃ Q10 : Mem → Prop, SpV (wM g ad) yX10_gameIs cX10_gameIs 4 none 1 [.ref (ad 0), vI z5] M3 Q10 ∧ ∀ M9 : Mem, Q10 M9 → PQ none M9) ∧ (((M3 58 0) ≠ 0) → (((z5 = (-1)) → ∃ Q14 : Mem → Prop, SpV (wM g ad) yX10_gameIs cX10_gameIs 4 none 1 [.ref (ad 0), vI z5] M3 Q14 ∧ ∀ M13 : Mem, Q14 M13 → PQ none M13) ∧ ((z5 ≠ (-1)) → (R32 (-x1)) ∧ ∃ Q19 : Int → Mem → Prop, SpI (wM g ad) yX10_madeNumber cX10_madeNumber 3 (some .int) 6 [.ref (ad 0), vI (-x1)] M3 Q19 ∧ ∀ (z20 : Int) (M18 : Mem), Q19 z20 M18 → R32 z20 ∧ ∃ Q25 : Int → Mem → Prop, SpI (wM g ad) yX10_checkedPair cX10_checkedPair 3 (some .int) 8 [.ref (ad 0), vI z5, vI z20] M18 Q25 ∧ ∀ (z26 : Int) (M24 : Mem), Q25 z26 M24 → R32 z26 ∧ ∃ Q31 : Mem → Prop, SpV (wM g ad) yX10_gameIs cX10_gameIs 4 none 1 [.ref (ad 0), vI z26] M24 Q31 ∧ ∀ M30 : Mem, Q31 M30 → PQ none M30))))) ∧ (((M 53 0) ≠ 0) → PQ none M))))) : E (wM g ad) X k n M 0 [(0, .ref (ad 0)), (1, vI x1)] [] := by
  refine e_wf (fun hw0 => ?_)
  refine e_aload_n C 0 dX10_numberIs_0 rfl ?_
  refine gM_52 C dX10_numberIs_1 ?_
  refine e_if_eq C 14 (hw0.2.1 52 _ (by decide)) dX10_numberIs_4 (by decide) (fun c9 => ?_) (fun c9 => ?_)
  · replace H := H.1 c9
    exact e_vret C Y hk hn dX10_numberIs_14 H
  · replace H := H.2 c9
    refine e_aload_n C 0 dX10_numberIs_7 rfl ?_
    refine gM_53 C dX10_numberIs_8 ?_
    refine e_if_eq C 15 (hw0.2.1 53 _ (by decide)) dX10_numberIs_11 (by decide) (fun c9 => ?_) (fun c9 => ?_)
    · replace H := H.1 c9
      refine e_aload_n C 0 dX10_numberIs_15 rfl ?_
      refine e_aload_n C 0 dX10_numberIs_16 rfl ?_
      refine gM_55 C dX10_numberIs_17 ?_
      refine e_iload_n C 1 dX10_numberIs_20 rfl ?_
      obtain ⟨o1, H⟩ := H
      refine e_imul C dX10_numberIs_21 ?_
      obtain ⟨Q4, h2, H⟩ := H
      refine e_callVI (As := [vI ((M 55 0) * x1)]) (rest := []) (q0 := 0) (ci := 10) C Y mi_X10_madeNumber ms_X10_madeNumber mv_X10_madeNumber ml_X10_123 h2 rfl rfl (by decide) (Nat.le_of_ble_eq_true rfl) hk hn dX10_numberIs_22 rfl (fun z5 M3 hq9 => ?_)
      obtain ⟨o6, H⟩ := H z5 M3 hq9
      refine e_wf (fun hw7 => ?_)
      refine e_istore_n C dX10_numberIs_25 (by decide) rfl ?_
      refine e_aload_n C 1 dX10_numberIs_26 rfl ?_
      refine gM_58 C dX10_numberIs_27 ?_
      refine e_if_eq C 50 (hw7.2.1 58 _ (by decide)) dX10_numberIs_30 (by decide) (fun c9 => ?_) (fun c9 => ?_)
      · replace H := H.1 c9
        refine e_aload_n C 1 dX10_numberIs_50 rfl ?_
        refine e_iload_n C 0 dX10_numberIs_51 rfl ?_
        obtain ⟨Q10, h8, H⟩ := H
        refine e_callVV (As := [vI z5]) (rest := []) (q0 := 0) (ci := 10) C Y mi_X10_gameIs ms_X10_gameIs mv_X10_gameIs ml_X10_376 h8 rfl rfl (by decide) (Nat.le_of_ble_eq_true rfl) hk hn dX10_numberIs_52 rfl (fun M9 hq9 => ?_)
        replace H := H M9 hq9
        refine e_wf (fun hw11 => ?_)
        exact e_vret C Y hk hn dX10_numberIs_55 H
      · replace H := H.2 c9
        refine e_iload_n C 0 dX10_numberIs_33 rfl ?_
        refine e_iconst C dX10_numberIs_34 ?_
        refine e_icmp_eq C 50 o6 (by decide) dX10_numberIs_35 (by decide) (fun c9 => ?_) (fun c9 => ?_)
        · replace H := H.1 c9
          refine e_aload_n C 1 dX10_numberIs_50 rfl ?_
          refine e_iload_n C 0 dX10_numberIs_51 rfl ?_
          obtain ⟨Q14, h12, H⟩ := H
          refine e_callVV (As := [vI z5]) (rest := []) (q0 := 0) (ci := 10) C Y mi_X10_gameIs ms_X10_gameIs mv_X10_gameIs ml_X10_376 h12 rfl rfl (by decide) (Nat.le_of_ble_eq_true rfl) hk hn dX10_numberIs_52 rfl (fun M13 hq9 => ?_)
          replace H := H M13 hq9
          refine e_wf (fun hw15 => ?_)
          exact e_vret C Y hk hn dX10_numberIs_55 H
        · replace H := H.2 c9
          refine e_aload_n C 1 dX10_numberIs_38 rfl ?_
          refine e_iload_n C 0 dX10_numberIs_39 rfl ?_
          refine e_aload_n C 1 dX10_numberIs_40 rfl ?_
          refine e_iload_n C 2 dX10_numberIs_41 rfl ?_
          obtain ⟨o16, H⟩ := H
          refine e_ineg C dX10_numberIs_42 ?_
          obtain ⟨Q19, h17, H⟩ := H
          refine e_callVI (As := [vI (-x1)]) (rest := [vI z5, .ref (ad 0)]) (q0 := 0) (ci := 10) C Y mi_X10_madeNumber ms_X10_madeNumber mv_X10_madeNumber ml_X10_123 h17 rfl rfl (by decide) (Nat.le_of_ble_eq_true rfl) hk hn dX10_numberIs_43 rfl (fun z20 M18 hq9 => ?_)
          obtain ⟨o21, H⟩ := H z20 M18 hq9
          refine e_wf (fun hw22 => ?_)
          obtain ⟨Q25, h23, H⟩ := H
          refine e_callVI (As := [vI z5, vI z20]) (rest := []) (q0 := 0) (ci := 10) C Y mi_X10_checkedPair ms_X10_checkedPair mv_X10_checkedPair ml_X10_382 h23 rfl rfl (by decide) (Nat.le_of_ble_eq_true rfl) hk hn dX10_numberIs_46 rfl (fun z26 M24 hq9 => ?_)
          obtain ⟨o27, H⟩ := H z26 M24 hq9
          refine e_wf (fun hw28 => ?_)
          refine e_istore_n C dX10_numberIs_49 (by decide) rfl ?_
          refine e_aload_n C 1 dX10_numberIs_50 rfl ?_
          refine e_iload_n C 0 dX10_numberIs_51 rfl ?_
          obtain ⟨Q31, h29, H⟩ := H
          refine e_callVV (As := [vI z26]) (rest := []) (q0 := 0) (ci := 10) C Y mi_X10_gameIs ms_X10_gameIs mv_X10_gameIs ml_X10_376 h29 rfl rfl (by decide) (Nat.le_of_ble_eq_true rfl) hk hn dX10_numberIs_52 rfl (fun M30 hq9 => ?_)
          replace H := H M30 hq9
          refine e_wf (fun hw32 => ?_)
          exact e_vret C Y hk hn dX10_numberIs_55 H
    · replace H := H.2 c9
      exact e_vret C Y hk hn dX10_numberIs_14 H
set_option maxRecDepth 4000 in
theorem B_X10_nameIs_0 {g : Gs} {ad : Nat → Nat} {X : Cx} {mc ms k n : Nat} {PQ : Option Value → Mem → Prop} {PX : String → Mem → Prop} {M : Mem} {x1 : Int} (r1 : R32 x1) (hk : k ≤ mc) (hn : n ≤ ms) (C : OkB (wM g ad) X cX10_nameIs RX10 4 9 mc ms) (Y : OkR (wM g ad) X none mc ms PQ PX) (H : ((((M 52 0) = 0) → PQ none M) ∧ (((M 52 0) ≠ 0) → ((((M 53 0) = 0) → ∃ Q3 : Int → Mem → Prop, SpI (wM g ad) yX10_madeNumber cX10_madeNumber 3 (some .int) 6 [.ref (ad 0), vI 0] M Q3 ∧ ∀ (z4 : Int) (M2 : Mem), Q3 z4 M2 → R32 z4 ∧ ∃ Q9 : Int → Mem → Prop, SpI (wM g ad) yX10_checkedPair cX10_checkedPair 3 (some .int) 8 [.ref (ad 0), vI z4, vI z4] M2 Q9 ∧ ∀ (z10 : Int) (M8 : Mem), Q9 z10 M8 → R32 z10 ∧ (((x1 ≠ 1) → (((x1 ≠ 2) → ∃ Q15 : Int → Mem → Prop, SpI (wM g ad) yX10_checkedPair cX10_checkedPair 3 (some .int) 8 [.ref (ad 0), vI z10, vI z4] M8 Q15 ∧ ∀ (z16 : Int) (M14 : Mem), Q15 z16 M14 → R32 z16 ∧ ∃ Q21 : Mem → Prop, SpV (wM g ad) yX10_gameIs cX10_gameIs 4 none 1 [.ref (ad 0), vI z16] M14 Q21 ∧ ∀ M20 : Mem, Q21 M20 → PQ none M20) ∧ ((x1 = 2) → ∃ Q25 : Int → Mem → Prop, SpI (wM g ad) yX10_checkedPair cX10_checkedPair 3 (some .int) 8 [.ref (ad 0), vI z4, vI z10] M8 Q25 ∧ ∀ (z26 : Int) (M24 : Mem), Q25 z26 M24 → R32 z26 ∧ ∃ Q31 : Mem → Prop, SpV (wM g ad) yX10_gameIs cX10_gameIs 4 none 1 [.ref (ad 0), vI z26] M24 Q31 ∧ ∀ M30 : Mem, Q31 M30 → PQ none M30))) ∧ ((x1 = 1) → ∃ Q35 : Mem → Prop, SpV (wM g ad) yX10_gameIs cX10_gameIs 4 none 1 [.ref (ad 0), vI z10] M8 Q35 ∧ ∀ M34 : Mem, Q35 M34 → PQ none M34))) ∧ (((M 53 0) ≠ 0) → PQ none M))))) : E (wM g ad) X k n M 0 [(0, .ref (ad 0)), (1, vI x1)] [] := by
  refine e_wf (fun hw0 => ?_)
  refine e_aload_n C 0 dX10_nameIs_0 rfl ?_
  refine gM_52 C dX10_nameIs_1 ?_
  refine e_if_eq C 14 (hw0.2.1 52 _ (by decide)) dX10_nameIs_4 (by decide) (fun c9 => ?_) (fun c9 => ?_)
  · replace H := H.1 c9
    exact e_vret C Y hk hn dX10_nameIs_14 H
  · replace H := H.2 c9
    refine e_aload_n C 0 dX10_nameIs_7 rfl ?_
    refine gM_53 C dX10_nameIs_8 ?_
    refine e_if_eq C 15 (hw0.2.1 53 _ (by decide)) dX10_nameIs_11 (by decide) (fun c9 => ?_) (fun c9 => ?_)
    · replace H := H.1 c9
      refine e_aload_n C 0 dX10_nameIs_15 rfl ?_
      refine e_iconst C dX10_nameIs_16 ?_
      obtain ⟨Q3, h1, H⟩ := H
      refine e_callVI (As := [vI 0]) (rest := []) (q0 := 0) (ci := 10) C Y mi_X10_madeNumber ms_X10_madeNumber mv_X10_madeNumber ml_X10_123 h1 rfl rfl (by decide) (Nat.le_of_ble_eq_true rfl) hk hn dX10_nameIs_17 rfl (fun z4 M2 hq9 => ?_)
      obtain ⟨o5, H⟩ := H z4 M2 hq9
      refine e_wf (fun hw6 => ?_)
      refine e_istore_n C dX10_nameIs_20 (by decide) rfl ?_
      refine e_aload_n C 1 dX10_nameIs_21 rfl ?_
      refine e_iload_n C 0 dX10_nameIs_22 rfl ?_
      refine e_iload_n C 0 dX10_nameIs_23 rfl ?_
      obtain ⟨Q9, h7, H⟩ := H
      refine e_callVI (As := [vI z4, vI z4]) (rest := []) (q0 := 0) (ci := 10) C Y mi_X10_checkedPair ms_X10_checkedPair mv_X10_checkedPair ml_X10_382 h7 rfl rfl (by decide) (Nat.le_of_ble_eq_true rfl) hk hn dX10_nameIs_24 rfl (fun z10 M8 hq9 => ?_)
      obtain ⟨o11, H⟩ := H z10 M8 hq9
      refine e_wf (fun hw12 => ?_)
      refine e_istore_n C dX10_nameIs_27 (by decide) rfl ?_
      refine e_aload_n C 2 dX10_nameIs_28 rfl ?_
      refine e_iload_n C 3 dX10_nameIs_29 rfl ?_
      refine e_iconst C dX10_nameIs_30 ?_
      refine e_icmp_ne C 38 r1 (by decide) dX10_nameIs_31 (by decide) (fun c9 => ?_) (fun c9 => ?_)
      · replace H := H.1 c9
        refine e_iload_n C 3 dX10_nameIs_38 rfl ?_
        refine e_iconst C dX10_nameIs_39 ?_
        refine e_icmp_ne C 52 r1 (by decide) dX10_nameIs_40 (by decide) (fun c9 => ?_) (fun c9 => ?_)
        · replace H := H.1 c9
          refine e_aload_n C 2 dX10_nameIs_52 rfl ?_
          refine e_iload_n C 0 dX10_nameIs_53 rfl ?_
          refine e_iload_n C 1 dX10_nameIs_54 rfl ?_
          obtain ⟨Q15, h13, H⟩ := H
          refine e_callVI (As := [vI z10, vI z4]) (rest := [.ref (ad 0)]) (q0 := 0) (ci := 10) C Y mi_X10_checkedPair ms_X10_checkedPair mv_X10_checkedPair ml_X10_382 h13 rfl rfl (by decide) (Nat.le_of_ble_eq_true rfl) hk hn dX10_nameIs_55 rfl (fun z16 M14 hq9 => ?_)
          obtain ⟨o17, H⟩ := H z16 M14 hq9
          refine e_wf (fun hw18 => ?_)
          obtain ⟨Q21, h19, H⟩ := H
          refine e_callVV (As := [vI z16]) (rest := []) (q0 := 0) (ci := 10) C Y mi_X10_gameIs ms_X10_gameIs mv_X10_gameIs ml_X10_376 h19 rfl rfl (by decide) (Nat.le_of_ble_eq_true rfl) hk hn dX10_nameIs_58 rfl (fun M20 hq9 => ?_)
          replace H := H M20 hq9
          refine e_wf (fun hw22 => ?_)
          exact e_vret C Y hk hn dX10_nameIs_61 H
        · replace H := H.2 c9
          refine e_aload_n C 2 dX10_nameIs_43 rfl ?_
          refine e_iload_n C 1 dX10_nameIs_44 rfl ?_
          refine e_iload_n C 0 dX10_nameIs_45 rfl ?_
          obtain ⟨Q25, h23, H⟩ := H
          refine e_callVI (As := [vI z4, vI z10]) (rest := [.ref (ad 0)]) (q0 := 0) (ci := 10) C Y mi_X10_checkedPair ms_X10_checkedPair mv_X10_checkedPair ml_X10_382 h23 rfl rfl (by decide) (Nat.le_of_ble_eq_true rfl) hk hn dX10_nameIs_46 rfl (fun z26 M24 hq9 => ?_)
          obtain ⟨o27, H⟩ := H z26 M24 hq9
          refine e_wf (fun hw28 => ?_)
          refine e_goto C 58 dX10_nameIs_49 (by decide) ?_
          obtain ⟨Q31, h29, H⟩ := H
          refine e_callVV (As := [vI z26]) (rest := []) (q0 := 0) (ci := 10) C Y mi_X10_gameIs ms_X10_gameIs mv_X10_gameIs ml_X10_376 h29 rfl rfl (by decide) (Nat.le_of_ble_eq_true rfl) hk hn dX10_nameIs_58 rfl (fun M30 hq9 => ?_)
          replace H := H M30 hq9
          refine e_wf (fun hw32 => ?_)
          exact e_vret C Y hk hn dX10_nameIs_61 H
      · replace H := H.2 c9
        refine e_iload_n C 0 dX10_nameIs_34 rfl ?_
        refine e_goto C 58 dX10_nameIs_35 (by decide) ?_
        obtain ⟨Q35, h33, H⟩ := H
        refine e_callVV (As := [vI z10]) (rest := []) (q0 := 0) (ci := 10) C Y mi_X10_gameIs ms_X10_gameIs mv_X10_gameIs ml_X10_376 h33 rfl rfl (by decide) (Nat.le_of_ble_eq_true rfl) hk hn dX10_nameIs_58 rfl (fun M34 hq9 => ?_)
        replace H := H M34 hq9
        refine e_wf (fun hw36 => ?_)
        exact e_vret C Y hk hn dX10_nameIs_61 H
    · replace H := H.2 c9
      exact e_vret C Y hk hn dX10_nameIs_14 H
set_option maxRecDepth 4000 in
theorem B_X10_beginsGame_0 {g : Gs} {ad : Nat → Nat} {X : Cx} {mc ms k n : Nat} {PQ : Option Value → Mem → Prop} {PX : String → Mem → Prop} {M : Mem} {x1 : Int} (r1 : R32 x1) (hk : k ≤ mc) (hn : n ≤ ms) (C : OkB (wM g ad) X cX10_beginsGame RX10 2 10 mc ms) (Y : OkR (wM g ad) X (some .int) mc ms PQ PX) (H : ((((M 46 0) = 1) → ∃ Q5 : Mem → Prop, SpV (wM g ad) yX10_nameIs cX10_nameIs 4 none 9 [.ref (ad 0), vI (M 46 0)] (up (up M 55 0 1) 58 0 0) Q5 ∧ ∀ M4 : Mem, Q5 M4 → PQ (some (vI 3)) M4) ∧ (((M 46 0) = 2) → ∃ Q9 : Mem → Prop, SpV (wM g ad) yX10_nameIs cX10_nameIs 4 none 9 [.ref (ad 0), vI (M 46 0)] (up (up M 55 0 1) 58 0 0) Q9 ∧ ∀ M8 : Mem, Q9 M8 → PQ (some (vI 3)) M8) ∧ (((M 46 0) = 3) → ∃ Q13 : Mem → Prop, SpV (wM g ad) yX10_nameIs cX10_nameIs 4 none 9 [.ref (ad 0), vI (M 46 0)] (up (up M 55 0 1) 58 0 0) Q13 ∧ ∀ M12 : Mem, Q13 M12 → PQ (some (vI 3)) M12) ∧ (((M 46 0) = 4) → ∃ Q17 : Int → Mem → Prop, SpI (wM g ad) yX10_figures cX10_figures 1 (some .int) 1 [.ref (ad 0)] (up (up M 55 0 1) 58 0 0) Q17 ∧ ∀ (z18 : Int) (M16 : Mem), Q17 z18 M16 → R32 z18 ∧ PQ (some (vI z18)) M16) ∧ (((M 46 0) = 5) → (R32 ((M 44 0) + 1)) ∧ ∃ Q24 : Int → Mem → Prop, SpI (wM g ad) yX10_charAt cX10_charAt 2 (some .int) 1 [.ref (ad 0), vI ((M 44 0) + 1)] (up (up M 55 0 1) 58 0 0) Q24 ∧ ∀ (z25 : Int) (M23 : Mem), Q24 z25 M23 → R32 z25 ∧ (((z25 = 45) → PQ (some (vI 4)) (up M23 58 0 1)) ∧ ((z25 ≠ 45) → ((R32 ((M23 44 0) + 1)) ∧ (R32 ((-2) - ((M23 44 0) + 1)))) ∧ PQ (some (vI ((-2) - ((M23 44 0) + 1)))) M23))) ∧ (((M 46 0) = 45) → PQ (some (vI 4)) (up (up (up M 55 0 1) 58 0 0) 55 0 (-1))) ∧ (((M 46 0) = 123) → ((0 ≤ M 48 0 ∧ M 48 0 < 81) ∧ (R32 (2 * (M 48 0))) ∧ (0 ≤ 2 * (M 48 0) ∧ 2 * (M 48 0) < 162) ∧ (R32 ((2 * (M 48 0)) + 1)) ∧ (0 ≤ (2 * (M 48 0)) + 1 ∧ (2 * (M 48 0)) + 1 < 162) ∧ (R32 ((M 48 0) + 1))) ∧ PQ (some (vI 1)) (up (up (up (up (up (up M 55 0 1) 58 0 0) 49 (M 48 0) 0) 50 (2 * (M 48 0)) 0) 50 ((2 * (M 48 0)) + 1) 0) 48 0 ((M 48 0) + 1))) ∧ (((M 46 0) = 124) → (((x1 ≠ 1) → PQ (some (vI (-1))) (up (up M 55 0 1) 58 0 0)) ∧ ((x1 = 1) → ∃ Q44 : Int → Mem → Prop, SpI (wM g ad) yX10_turns cX10_turns 1 (some .int) 1 [.ref (ad 0)] (up (up M 55 0 1) 58 0 0) Q44 ∧ ∀ (z45 : Int) (M43 : Mem), Q44 z45 M43 → R32 z45 ∧ PQ (some (vI z45)) M43))) ∧ (((M 46 0) = 125) → (((x1 ≠ 2) → PQ (some (vI (-1))) (up (up M 55 0 1) 58 0 0)) ∧ ((x1 = 2) → ∃ Q50 : Int → Mem → Prop, SpI (wM g ad) yX10_closes cX10_closes 3 (some .int) 7 [.ref (ad 0)] (up (up M 55 0 1) 58 0 0) Q50 ∧ ∀ (z51 : Int) (M49 : Mem), Q50 z51 M49 → R32 z51 ∧ PQ (some (vI z51)) M49))) ∧ (((M 46 0) ≠ 1 ∧ (M 46 0) ≠ 2 ∧ (M 46 0) ≠ 3 ∧ (M 46 0) ≠ 4 ∧ (M 46 0) ≠ 5 ∧ (M 46 0) ≠ 45 ∧ (M 46 0) ≠ 123 ∧ (M 46 0) ≠ 124 ∧ (M 46 0) ≠ 125) → PQ (some (vI (-1))) (up (up M 55 0 1) 58 0 0)))) : E (wM g ad) X k n M 0 [(0, .ref (ad 0)), (1, vI x1)] [] := by
  refine e_wf (fun hw0 => ?_)
  refine e_aload_n C 0 dX10_beginsGame_0 rfl ?_
  refine e_iconst C dX10_beginsGame_1 ?_
  refine pM_55 C (by decide) dX10_beginsGame_2 ?_
  refine e_wf (fun hw1 => ?_)
  refine e_aload_n C 0 dX10_beginsGame_5 rfl ?_
  refine e_iconst C dX10_beginsGame_6 ?_
  refine pM_58 C (by decide) dX10_beginsGame_7 ?_
  refine e_wf (fun hw2 => ?_)
  refine e_aload_n C 0 dX10_beginsGame_10 rfl ?_
  refine gM_46 C dX10_beginsGame_11 ?_
  refine e_eqS (st' := [vI (M 46 0)]) rfl ?_
  by_cases c9_0 : (M 46 0) = 1
  · replace H := H.1 c9_0
    refine e_lookup (off := 82) C 96 (hw0.2.1 46 _ (by decide)) dX10_beginsGame_14 (by decide) (by rw [c9_0]; decide) (by decide) ?_
    refine e_aload_n C 0 dX10_beginsGame_96 rfl ?_
    refine e_aload_n C 0 dX10_beginsGame_97 rfl ?_
    refine gM_46 C dX10_beginsGame_98 ?_
    obtain ⟨Q5, h3, H⟩ := H
    refine e_callVV (As := [vI (M 46 0)]) (rest := []) (q0 := 0) (ci := 10) C Y mi_X10_nameIs ms_X10_nameIs mv_X10_nameIs ml_X10_367 h3 rfl rfl (by decide) (Nat.le_of_ble_eq_true rfl) hk hn dX10_beginsGame_101 rfl (fun M4 hq9 => ?_)
    replace H := H M4 hq9
    refine e_wf (fun hw6 => ?_)
    refine e_iconst C dX10_beginsGame_104 ?_
    exact e_iret C Y hk hn dX10_beginsGame_105 H
  by_cases c9_1 : (M 46 0) = 2
  · replace H := H.2.1 c9_1
    refine e_lookup (off := 82) C 96 (hw0.2.1 46 _ (by decide)) dX10_beginsGame_14 (by decide) (by rw [c9_1]; decide) (by decide) ?_
    refine e_aload_n C 0 dX10_beginsGame_96 rfl ?_
    refine e_aload_n C 0 dX10_beginsGame_97 rfl ?_
    refine gM_46 C dX10_beginsGame_98 ?_
    obtain ⟨Q9, h7, H⟩ := H
    refine e_callVV (As := [vI (M 46 0)]) (rest := []) (q0 := 0) (ci := 10) C Y mi_X10_nameIs ms_X10_nameIs mv_X10_nameIs ml_X10_367 h7 rfl rfl (by decide) (Nat.le_of_ble_eq_true rfl) hk hn dX10_beginsGame_101 rfl (fun M8 hq9 => ?_)
    replace H := H M8 hq9
    refine e_wf (fun hw10 => ?_)
    refine e_iconst C dX10_beginsGame_104 ?_
    exact e_iret C Y hk hn dX10_beginsGame_105 H
  by_cases c9_2 : (M 46 0) = 3
  · replace H := H.2.2.1 c9_2
    refine e_lookup (off := 82) C 96 (hw0.2.1 46 _ (by decide)) dX10_beginsGame_14 (by decide) (by rw [c9_2]; decide) (by decide) ?_
    refine e_aload_n C 0 dX10_beginsGame_96 rfl ?_
    refine e_aload_n C 0 dX10_beginsGame_97 rfl ?_
    refine gM_46 C dX10_beginsGame_98 ?_
    obtain ⟨Q13, h11, H⟩ := H
    refine e_callVV (As := [vI (M 46 0)]) (rest := []) (q0 := 0) (ci := 10) C Y mi_X10_nameIs ms_X10_nameIs mv_X10_nameIs ml_X10_367 h11 rfl rfl (by decide) (Nat.le_of_ble_eq_true rfl) hk hn dX10_beginsGame_101 rfl (fun M12 hq9 => ?_)
    replace H := H M12 hq9
    refine e_wf (fun hw14 => ?_)
    refine e_iconst C dX10_beginsGame_104 ?_
    exact e_iret C Y hk hn dX10_beginsGame_105 H
  by_cases c9_3 : (M 46 0) = 4
  · replace H := H.2.2.2.1 c9_3
    refine e_lookup (off := 92) C 106 (hw0.2.1 46 _ (by decide)) dX10_beginsGame_14 (by decide) (by rw [c9_3]; decide) (by decide) ?_
    refine e_aload_n C 0 dX10_beginsGame_106 rfl ?_
    obtain ⟨Q17, h15, H⟩ := H
    refine e_callVI (As := []) (rest := []) (q0 := 0) (ci := 10) C Y mi_X10_figures ms_X10_figures mv_X10_figures ml_X10_352 h15 rfl rfl (by decide) (Nat.le_of_ble_eq_true rfl) hk hn dX10_beginsGame_107 rfl (fun z18 M16 hq9 => ?_)
    obtain ⟨o19, H⟩ := H z18 M16 hq9
    refine e_wf (fun hw20 => ?_)
    exact e_iret C Y hk hn dX10_beginsGame_110 H
  by_cases c9_4 : (M 46 0) = 5
  · replace H := H.2.2.2.2.1 c9_4
    refine e_lookup (off := 97) C 111 (hw0.2.1 46 _ (by decide)) dX10_beginsGame_14 (by decide) (by rw [c9_4]; decide) (by decide) ?_
    refine e_aload_n C 0 dX10_beginsGame_111 rfl ?_
    refine e_aload_n C 0 dX10_beginsGame_112 rfl ?_
    refine gM_44 C dX10_beginsGame_113 ?_
    refine e_iconst C dX10_beginsGame_116 ?_
    obtain ⟨o21, H⟩ := H
    refine e_iadd C dX10_beginsGame_117 ?_
    obtain ⟨Q24, h22, H⟩ := H
    refine e_callVI (As := [vI ((M 44 0) + 1)]) (rest := []) (q0 := 0) (ci := 10) C Y mi_X10_charAt ms_X10_charAt mv_X10_charAt ml_X10_308 h22 rfl rfl (by decide) (Nat.le_of_ble_eq_true rfl) hk hn dX10_beginsGame_118 rfl (fun z25 M23 hq9 => ?_)
    obtain ⟨o26, H⟩ := H z25 M23 hq9
    refine e_wf (fun hw27 => ?_)
    refine e_bipush C dX10_beginsGame_121 (by decide) ?_
    refine e_icmp_eq C 136 o26 (by decide) dX10_beginsGame_123 (by decide) (fun c9 => ?_) (fun c9 => ?_)
    · replace H := H.1 c9
      refine e_aload_n C 0 dX10_beginsGame_136 rfl ?_
      refine e_iconst C dX10_beginsGame_137 ?_
      refine pM_58 C (by decide) dX10_beginsGame_138 ?_
      refine e_wf (fun hw28 => ?_)
      refine e_iconst C dX10_beginsGame_141 ?_
      exact e_iret C Y hk hn dX10_beginsGame_142 H
    · replace H := H.2 c9
      refine e_bipush C dX10_beginsGame_126 (by decide) ?_
      refine e_aload_n C 0 dX10_beginsGame_128 rfl ?_
      refine gM_44 C dX10_beginsGame_129 ?_
      refine e_iconst C dX10_beginsGame_132 ?_
      obtain ⟨⟨o29, o30⟩, H⟩ := H
      refine e_iadd C dX10_beginsGame_133 ?_
      refine e_isub C dX10_beginsGame_134 ?_
      exact e_iret C Y hk hn dX10_beginsGame_135 H
  by_cases c9_5 : (M 46 0) = 45
  · replace H := H.2.2.2.2.2.1 c9_5
    refine e_lookup (off := 129) C 143 (hw0.2.1 46 _ (by decide)) dX10_beginsGame_14 (by decide) (by rw [c9_5]; decide) (by decide) ?_
    refine e_aload_n C 0 dX10_beginsGame_143 rfl ?_
    refine e_iconst C dX10_beginsGame_144 ?_
    refine pM_55 C (by decide) dX10_beginsGame_145 ?_
    refine e_wf (fun hw31 => ?_)
    refine e_iconst C dX10_beginsGame_148 ?_
    exact e_iret C Y hk hn dX10_beginsGame_149 H
  by_cases c9_6 : (M 46 0) = 123
  · replace H := H.2.2.2.2.2.2.1 c9_6
    refine e_lookup (off := 136) C 150 (hw0.2.1 46 _ (by decide)) dX10_beginsGame_14 (by decide) (by rw [c9_6]; decide) (by decide) ?_
    refine e_aload_n C 0 dX10_beginsGame_150 rfl ?_
    refine gM_49 C dX10_beginsGame_151 ?_
    refine e_aload_n C 0 dX10_beginsGame_154 rfl ?_
    refine gM_48 C dX10_beginsGame_155 ?_
    refine e_iconst C dX10_beginsGame_158 ?_
    obtain ⟨⟨o32, o34, o35, o37, o38, o40⟩, H⟩ := H
    refine sM_49 C o32 (by decide) dX10_beginsGame_159 ?_
    refine e_wf (fun hw33 => ?_)
    refine e_aload_n C 0 dX10_beginsGame_160 rfl ?_
    refine gM_50 C dX10_beginsGame_161 ?_
    refine e_iconst C dX10_beginsGame_164 ?_
    refine e_aload_n C 0 dX10_beginsGame_165 rfl ?_
    refine gM_48 C dX10_beginsGame_166 ?_
    refine e_imul C dX10_beginsGame_169 ?_
    refine e_iconst C dX10_beginsGame_170 ?_
    refine sM_50 C o35 (by decide) dX10_beginsGame_171 ?_
    refine e_wf (fun hw36 => ?_)
    refine e_aload_n C 0 dX10_beginsGame_172 rfl ?_
    refine gM_50 C dX10_beginsGame_173 ?_
    refine e_iconst C dX10_beginsGame_176 ?_
    refine e_aload_n C 0 dX10_beginsGame_177 rfl ?_
    refine gM_48 C dX10_beginsGame_178 ?_
    refine e_imul C dX10_beginsGame_181 ?_
    refine e_iconst C dX10_beginsGame_182 ?_
    refine e_iadd C dX10_beginsGame_183 ?_
    refine e_iconst C dX10_beginsGame_184 ?_
    refine sM_50 C o38 (by decide) dX10_beginsGame_185 ?_
    refine e_wf (fun hw39 => ?_)
    refine e_aload_n C 0 dX10_beginsGame_186 rfl ?_
    refine e_dup C rfl dX10_beginsGame_187 ?_
    refine gM_48 C dX10_beginsGame_188 ?_
    refine e_iconst C dX10_beginsGame_191 ?_
    refine e_iadd C dX10_beginsGame_192 ?_
    refine pM_48 C o40 dX10_beginsGame_193 ?_
    refine e_wf (fun hw41 => ?_)
    refine e_iconst C dX10_beginsGame_196 ?_
    exact e_iret C Y hk hn dX10_beginsGame_197 H
  by_cases c9_7 : (M 46 0) = 124
  · replace H := H.2.2.2.2.2.2.2.1 c9_7
    refine e_lookup (off := 184) C 198 (hw0.2.1 46 _ (by decide)) dX10_beginsGame_14 (by decide) (by rw [c9_7]; decide) (by decide) ?_
    refine e_iload_n C 1 dX10_beginsGame_198 rfl ?_
    refine e_iconst C dX10_beginsGame_199 ?_
    refine e_icmp_ne C 210 r1 (by decide) dX10_beginsGame_200 (by decide) (fun c9 => ?_) (fun c9 => ?_)
    · replace H := H.1 c9
      refine e_iconst C dX10_beginsGame_210 ?_
      exact e_iret C Y hk hn dX10_beginsGame_211 H
    · replace H := H.2 c9
      refine e_aload_n C 0 dX10_beginsGame_203 rfl ?_
      obtain ⟨Q44, h42, H⟩ := H
      refine e_callVI (As := []) (rest := []) (q0 := 0) (ci := 10) C Y mi_X10_turns ms_X10_turns mv_X10_turns ml_X10_370 h42 rfl rfl (by decide) (Nat.le_of_ble_eq_true rfl) hk hn dX10_beginsGame_204 rfl (fun z45 M43 hq9 => ?_)
      obtain ⟨o46, H⟩ := H z45 M43 hq9
      refine e_wf (fun hw47 => ?_)
      refine e_goto C 211 dX10_beginsGame_207 (by decide) ?_
      exact e_iret C Y hk hn dX10_beginsGame_211 H
  by_cases c9_8 : (M 46 0) = 125
  · replace H := H.2.2.2.2.2.2.2.2.1 c9_8
    refine e_lookup (off := 198) C 212 (hw0.2.1 46 _ (by decide)) dX10_beginsGame_14 (by decide) (by rw [c9_8]; decide) (by decide) ?_
    refine e_iload_n C 1 dX10_beginsGame_212 rfl ?_
    refine e_iconst C dX10_beginsGame_213 ?_
    refine e_icmp_ne C 224 r1 (by decide) dX10_beginsGame_214 (by decide) (fun c9 => ?_) (fun c9 => ?_)
    · replace H := H.1 c9
      refine e_iconst C dX10_beginsGame_224 ?_
      exact e_iret C Y hk hn dX10_beginsGame_225 H
    · replace H := H.2 c9
      refine e_aload_n C 0 dX10_beginsGame_217 rfl ?_
      obtain ⟨Q50, h48, H⟩ := H
      refine e_callVI (As := []) (rest := []) (q0 := 0) (ci := 10) C Y mi_X10_closes ms_X10_closes mv_X10_closes ml_X10_373 h48 rfl rfl (by decide) (Nat.le_of_ble_eq_true rfl) hk hn dX10_beginsGame_218 rfl (fun z51 M49 hq9 => ?_)
      obtain ⟨o52, H⟩ := H z51 M49 hq9
      refine e_wf (fun hw53 => ?_)
      refine e_goto C 225 dX10_beginsGame_221 (by decide) ?_
      exact e_iret C Y hk hn dX10_beginsGame_225 H
  replace H := H.2.2.2.2.2.2.2.2.2 ⟨c9_0, c9_1, c9_2, c9_3, c9_4, c9_5, c9_6, c9_7, c9_8⟩
  refine e_lookup (off := 212) C 226 (hw0.2.1 46 _ (by decide)) dX10_beginsGame_14 (by decide) (by simp [Op.lookupswitch.offset_cons, Ne.symm, c9_0, c9_1, c9_2, c9_3, c9_4, c9_5, c9_6, c9_7, c9_8, eq_comm]; try rfl) (by decide) ?_
  refine e_iconst C dX10_beginsGame_226 ?_
  exact e_iret C Y hk hn dX10_beginsGame_227 H
set_option maxRecDepth 4000 in
theorem B_X10_follows_0 {g : Gs} {ad : Nat → Nat} {X : Cx} {mc ms k n : Nat} {PQ : Option Value → Mem → Prop} {PX : String → Mem → Prop} {M : Mem} {x1 : Int} (r1 : R32 x1) (hk : k ≤ mc) (hn : n ≤ ms) (C : OkB (wM g ad) X cX10_follows RX10 2 11 mc ms) (Y : OkR (wM g ad) X (some .int) mc ms PQ PX) (H : (((x1 = 3) → ∃ Q3 : Int → Mem → Prop, SpI (wM g ad) yX10_behind cX10_behind 1 (some .int) 8 [.ref (ad 0)] M Q3 ∧ ∀ (z4 : Int) (M2 : Mem), Q3 z4 M2 → R32 z4 ∧ PQ (some (vI z4)) M2) ∧ ((x1 = 4) → ((((M 46 0) ≠ 4) → PQ (some (vI (-1))) M) ∧ (((M 46 0) = 4) → ∃ Q9 : Int → Mem → Prop, SpI (wM g ad) yX10_figures cX10_figures 1 (some .int) 1 [.ref (ad 0)] M Q9 ∧ ∀ (z10 : Int) (M8 : Mem), Q9 z10 M8 → R32 z10 ∧ PQ (some (vI z10)) M8))) ∧ ((x1 = 5) → ((((M 46 0) ≠ 47) → ((((M 56 0) ≤ 8) → (R32 (8 * (M 56 0))) ∧ ∃ Q16 : Mem → Prop, SpV (wM g ad) yX10_numberIs cX10_numberIs 3 none 9 [.ref (ad 0), vI (8 * (M 56 0))] M Q16 ∧ ∀ M15 : Mem, Q16 M15 → ∃ Q20 : Int → Mem → Prop, SpI (wM g ad) yX10_behind cX10_behind 1 (some .int) 8 [.ref (ad 0)] M15 Q20 ∧ ∀ (z21 : Int) (M19 : Mem), Q20 z21 M19 → R32 z21 ∧ PQ (some (vI z21)) M19) ∧ ((8 < (M 56 0)) → (R32 ((-2) - (M 57 0))) ∧ PQ (some (vI ((-2) - (M 57 0)))) M))) ∧ (((M 46 0) = 47) → PQ (some (vI 6)) M))) ∧ ((x1 = 6) → ((((M 46 0) ≠ 4) → PQ (some (vI (-1))) M) ∧ (((M 46 0) = 4) → ((((M 47 0) = 2) → E (wM g ad) X k n M 127 [(0, .ref (ad 0))] []) ∧ (((M 47 0) ≠ 2) → ((((M 47 0) = 4) → E (wM g ad) X k n M 127 [(0, .ref (ad 0))] []) ∧ (((M 47 0) ≠ 4) → ((((M 47 0) ≠ 8) → PQ (some (vI (-1))) M) ∧ (((M 47 0) = 8) → E (wM g ad) X k n M 127 [(0, .ref (ad 0))] []))))))))) ∧ ((x1 < 3 ∨ 6 < x1) → ∃ Q27 : Int → Mem → Prop, SpI (wM g ad) yX10_beginsGame cX10_beginsGame 2 (some .int) 10 [.ref (ad 0), vI x1] M Q27 ∧ ∀ (z28 : Int) (M26 : Mem), Q27 z28 M26 → R32 z28 ∧ PQ (some (vI z28)) M26))) : E (wM g ad) X k n M 0 [(0, .ref (ad 0)), (1, vI x1)] [] := by
  refine e_wf (fun hw0 => ?_)
  refine e_iload_n C 1 dX10_follows_0 rfl ?_
  refine e_eqS (st' := [vI x1]) rfl ?_
  by_cases c9_0 : x1 = 3
  · replace H := H.1 c9_0
    refine e_tableIn C 164 r1 dX10_follows_1 (by rw [c9_0]; decide) (by rw [c9_0]; decide) (by rw [c9_0]; rfl) (by decide) ?_
    refine e_aload_n C 0 dX10_follows_164 rfl ?_
    obtain ⟨Q3, h1, H⟩ := H
    refine e_callVI (As := []) (rest := []) (q0 := 0) (ci := 10) C Y mi_X10_behind ms_X10_behind mv_X10_behind ml_X10_355 h1 rfl rfl (by decide) (Nat.le_of_ble_eq_true rfl) hk hn dX10_follows_165 rfl (fun z4 M2 hq9 => ?_)
    obtain ⟨o5, H⟩ := H z4 M2 hq9
    refine e_wf (fun hw6 => ?_)
    exact e_iret C Y hk hn dX10_follows_168 H
  by_cases c9_1 : x1 = 4
  · replace H := H.2.1 c9_1
    refine e_tableIn C 32 r1 dX10_follows_1 (by rw [c9_1]; decide) (by rw [c9_1]; decide) (by rw [c9_1]; rfl) (by decide) ?_
    refine e_aload_n C 0 dX10_follows_32 rfl ?_
    refine gM_46 C dX10_follows_33 ?_
    refine e_iconst C dX10_follows_36 ?_
    refine e_icmp_ne C 47 (hw0.2.1 46 _ (by decide)) (by decide) dX10_follows_37 (by decide) (fun c9 => ?_) (fun c9 => ?_)
    · replace H := H.1 c9
      refine e_iconst C dX10_follows_47 ?_
      exact e_iret C Y hk hn dX10_follows_48 H
    · replace H := H.2 c9
      refine e_aload_n C 0 dX10_follows_40 rfl ?_
      obtain ⟨Q9, h7, H⟩ := H
      refine e_callVI (As := []) (rest := []) (q0 := 0) (ci := 10) C Y mi_X10_figures ms_X10_figures mv_X10_figures ml_X10_352 h7 rfl rfl (by decide) (Nat.le_of_ble_eq_true rfl) hk hn dX10_follows_41 rfl (fun z10 M8 hq9 => ?_)
      obtain ⟨o11, H⟩ := H z10 M8 hq9
      refine e_wf (fun hw12 => ?_)
      refine e_goto C 48 dX10_follows_44 (by decide) ?_
      exact e_iret C Y hk hn dX10_follows_48 H
  by_cases c9_2 : x1 = 5
  · replace H := H.2.2.1 c9_2
    refine e_tableIn C 49 r1 dX10_follows_1 (by rw [c9_2]; decide) (by rw [c9_2]; decide) (by rw [c9_2]; rfl) (by decide) ?_
    refine e_aload_n C 0 dX10_follows_49 rfl ?_
    refine gM_46 C dX10_follows_50 ?_
    refine e_bipush C dX10_follows_53 (by decide) ?_
    refine e_icmp_ne C 61 (hw0.2.1 46 _ (by decide)) (by decide) dX10_follows_55 (by decide) (fun c9 => ?_) (fun c9 => ?_)
    · replace H := H.1 c9
      refine e_aload_n C 0 dX10_follows_61 rfl ?_
      refine gM_56 C dX10_follows_62 ?_
      refine e_bipush C dX10_follows_65 (by decide) ?_
      refine e_icmp_le C 78 (hw0.2.1 56 _ (by decide)) (by decide) dX10_follows_67 (by decide) (fun c9 => ?_) (fun c9 => ?_)
      · replace H := H.1 c9
        refine e_aload_n C 0 dX10_follows_78 rfl ?_
        refine e_bipush C dX10_follows_79 (by decide) ?_
        refine e_aload_n C 0 dX10_follows_81 rfl ?_
        refine gM_56 C dX10_follows_82 ?_
        obtain ⟨o13, H⟩ := H
        refine e_imul C dX10_follows_85 ?_
        obtain ⟨Q16, h14, H⟩ := H
        refine e_callVV (As := [vI (8 * (M 56 0))]) (rest := []) (q0 := 0) (ci := 10) C Y mi_X10_numberIs ms_X10_numberIs mv_X10_numberIs ml_X10_349 h14 rfl rfl (by decide) (Nat.le_of_ble_eq_true rfl) hk hn dX10_follows_86 rfl (fun M15 hq9 => ?_)
        replace H := H M15 hq9
        refine e_wf (fun hw17 => ?_)
        refine e_aload_n C 0 dX10_follows_89 rfl ?_
        obtain ⟨Q20, h18, H⟩ := H
        refine e_callVI (As := []) (rest := []) (q0 := 0) (ci := 10) C Y mi_X10_behind ms_X10_behind mv_X10_behind ml_X10_355 h18 rfl rfl (by decide) (Nat.le_of_ble_eq_true rfl) hk hn dX10_follows_90 rfl (fun z21 M19 hq9 => ?_)
        obtain ⟨o22, H⟩ := H z21 M19 hq9
        refine e_wf (fun hw23 => ?_)
        exact e_iret C Y hk hn dX10_follows_93 H
      · replace H := H.2 c9
        refine e_bipush C dX10_follows_70 (by decide) ?_
        refine e_aload_n C 0 dX10_follows_72 rfl ?_
        refine gM_57 C dX10_follows_73 ?_
        obtain ⟨o24, H⟩ := H
        refine e_isub C dX10_follows_76 ?_
        exact e_iret C Y hk hn dX10_follows_77 H
    · replace H := H.2 c9
      refine e_bipush C dX10_follows_58 (by decide) ?_
      exact e_iret C Y hk hn dX10_follows_60 H
  by_cases c9_3 : x1 = 6
  · replace H := H.2.2.2.1 c9_3
    refine e_tableIn C 94 r1 dX10_follows_1 (by rw [c9_3]; decide) (by rw [c9_3]; decide) (by rw [c9_3]; rfl) (by decide) ?_
    refine e_aload_n C 0 dX10_follows_94 rfl ?_
    refine gM_46 C dX10_follows_95 ?_
    refine e_iconst C dX10_follows_98 ?_
    refine e_icmp_ne C 144 (hw0.2.1 46 _ (by decide)) (by decide) dX10_follows_99 (by decide) (fun c9 => ?_) (fun c9 => ?_)
    · replace H := H.1 c9
      refine e_iconst C dX10_follows_144 ?_
      exact e_iret C Y hk hn dX10_follows_145 H
    · replace H := H.2 c9
      refine e_aload_n C 0 dX10_follows_102 rfl ?_
      refine gM_47 C dX10_follows_103 ?_
      refine e_iconst C dX10_follows_106 ?_
      refine e_icmp_eq C 127 (hw0.2.1 47 _ (by decide)) (by decide) dX10_follows_107 (by decide) (fun c9 => ?_) (fun c9 => ?_)
      · replace H := H.1 c9
        exact e_sub [0] rfl H
      · replace H := H.2 c9
        refine e_aload_n C 0 dX10_follows_110 rfl ?_
        refine gM_47 C dX10_follows_111 ?_
        refine e_iconst C dX10_follows_114 ?_
        refine e_icmp_eq C 127 (hw0.2.1 47 _ (by decide)) (by decide) dX10_follows_115 (by decide) (fun c9 => ?_) (fun c9 => ?_)
        · replace H := H.1 c9
          exact e_sub [0] rfl H
        · replace H := H.2 c9
          refine e_aload_n C 0 dX10_follows_118 rfl ?_
          refine gM_47 C dX10_follows_119 ?_
          refine e_bipush C dX10_follows_122 (by decide) ?_
          refine e_icmp_ne C 144 (hw0.2.1 47 _ (by decide)) (by decide) dX10_follows_124 (by decide) (fun c9 => ?_) (fun c9 => ?_)
          · replace H := H.1 c9
            refine e_iconst C dX10_follows_144 ?_
            exact e_iret C Y hk hn dX10_follows_145 H
          · replace H := H.2 c9
            exact e_sub [0] rfl H
  replace H := H.2.2.2.2 (by omega)
  refine e_tableOut C 169 r1 dX10_follows_1 (by omega) (by decide) ?_
  refine e_aload_n C 0 dX10_follows_169 rfl ?_
  refine e_iload_n C 1 dX10_follows_170 rfl ?_
  obtain ⟨Q27, h25, H⟩ := H
  refine e_callVI (As := [vI x1]) (rest := []) (q0 := 0) (ci := 10) C Y mi_X10_beginsGame ms_X10_beginsGame mv_X10_beginsGame ml_X10_358 h25 rfl rfl (by decide) (Nat.le_of_ble_eq_true rfl) hk hn dX10_follows_171 rfl (fun z28 M26 hq9 => ?_)
  obtain ⟨o29, H⟩ := H z28 M26 hq9
  refine e_wf (fun hw30 => ?_)
  exact e_iret C Y hk hn dX10_follows_174 H
set_option maxRecDepth 4000 in
theorem B_X10_follows_127 {g : Gs} {ad : Nat → Nat} {X : Cx} {mc ms k n : Nat} {PQ : Option Value → Mem → Prop} {PX : String → Mem → Prop} {M : Mem}  (hk : k ≤ mc) (hn : n ≤ ms) (C : OkB (wM g ad) X cX10_follows RX10 2 11 mc ms) (Y : OkR (wM g ad) X (some .int) mc ms PQ PX) (H : ((R32 ((M 56 0) * 8)) ∧ ((M 47 0) ≠ 0) ∧ ((M 47 0) ≠ -1)) ∧ ((((Int.tdiv ((M 56 0) * 8) (M 47 0)) ≤ 64) → ∃ Q6 : Mem → Prop, SpV (wM g ad) yX10_numberIs cX10_numberIs 3 none 9 [.ref (ad 0), vI (Int.tdiv ((M 56 0) * 8) (M 47 0))] M Q6 ∧ ∀ M5 : Mem, Q6 M5 → PQ (some (vI 3)) M5) ∧ ((64 < (Int.tdiv ((M 56 0) * 8) (M 47 0))) → PQ (some (vI (-1))) M))) : E (wM g ad) X k n M 127 [(0, .ref (ad 0))] [] := by
  refine e_wf (fun hw0 => ?_)
  refine e_aload_n C 0 dX10_follows_127 rfl ?_
  refine gM_56 C dX10_follows_128 ?_
  refine e_bipush C dX10_follows_131 (by decide) ?_
  obtain ⟨⟨o1, o2, o3⟩, H⟩ := H
  refine e_imul C dX10_follows_133 ?_
  refine e_aload_n C 0 dX10_follows_134 rfl ?_
  refine gM_47 C dX10_follows_135 ?_
  refine e_idiv C o1 (hw0.2.1 47 _ (by decide)) o2 o3 dX10_follows_138 ?_
  refine e_bipush C dX10_follows_139 (by decide) ?_
  refine e_icmp_le C 146 (tdiv_r o1 (hw0.2.1 47 _ (by decide)) o3) (by decide) dX10_follows_141 (by decide) (fun c9 => ?_) (fun c9 => ?_)
  · replace H := H.1 c9
    refine e_aload_n C 0 dX10_follows_146 rfl ?_
    refine e_aload_n C 0 dX10_follows_147 rfl ?_
    refine gM_56 C dX10_follows_148 ?_
    refine e_bipush C dX10_follows_151 (by decide) ?_
    refine e_imul C dX10_follows_153 ?_
    refine e_aload_n C 0 dX10_follows_154 rfl ?_
    refine gM_47 C dX10_follows_155 ?_
    refine e_idiv C o1 (hw0.2.1 47 _ (by decide)) o2 o3 dX10_follows_158 ?_
    obtain ⟨Q6, h4, H⟩ := H
    refine e_callVV (As := [vI (Int.tdiv ((M 56 0) * 8) (M 47 0))]) (rest := []) (q0 := 0) (ci := 10) C Y mi_X10_numberIs ms_X10_numberIs mv_X10_numberIs ml_X10_349 h4 rfl rfl (by decide) (Nat.le_of_ble_eq_true rfl) hk hn dX10_follows_159 rfl (fun M5 hq9 => ?_)
    replace H := H M5 hq9
    refine e_wf (fun hw7 => ?_)
    refine e_iconst C dX10_follows_162 ?_
    exact e_iret C Y hk hn dX10_follows_163 H
  · replace H := H.2 c9
    refine e_iconst C dX10_follows_144 ?_
    exact e_iret C Y hk hn dX10_follows_145 H
set_option maxRecDepth 4000 in
theorem B_X10_goes_0 {g : Gs} {ad : Nat → Nat} {X : Cx} {mc ms k n : Nat} {PQ : Option Value → Mem → Prop} {PX : String → Mem → Prop} {M : Mem} {x1 : Int} (r1 : R32 x1) (hk : k ≤ mc) (hn : n ≤ ms) (C : OkB (wM g ad) X cX10_goes RX10 4 12 mc ms) (Y : OkR (wM g ad) X (some .int) mc ms PQ PX) (H : (x1 = 0 ∨ x1 = 1) ∧ ∃ Q8 : Mem → Prop, SpV (wM g ad) yX10_next cX10_next 2 none 3 [.ref (ad 0)] (up (up (up (up M 52 0 x1) 53 0 0) 48 0 0) 45 0 0) Q8 ∧ ∀ M7 : Mem, Q8 M7 → E (wM g ad) X k n M7 26 [(0, .ref (ad 0)), (2, vI 0)] []) : E (wM g ad) X k n M 0 [(0, .ref (ad 0)), (1, vI x1)] [] := by
  refine e_wf (fun hw0 => ?_)
  refine e_aload_n C 0 dX10_goes_0 rfl ?_
  refine e_iload_n C 1 dX10_goes_1 rfl ?_
  obtain ⟨o1, H⟩ := H
  refine pM_52 C o1 dX10_goes_2 ?_
  refine e_wf (fun hw2 => ?_)
  refine e_aload_n C 0 dX10_goes_5 rfl ?_
  refine e_iconst C dX10_goes_6 ?_
  refine pM_53 C (by decide) dX10_goes_7 ?_
  refine e_wf (fun hw3 => ?_)
  refine e_aload_n C 0 dX10_goes_10 rfl ?_
  refine e_iconst C dX10_goes_11 ?_
  refine pM_48 C (by decide) dX10_goes_12 ?_
  refine e_wf (fun hw4 => ?_)
  refine e_aload_n C 0 dX10_goes_15 rfl ?_
  refine e_iconst C dX10_goes_16 ?_
  refine pM_45 C (by decide) dX10_goes_17 ?_
  refine e_wf (fun hw5 => ?_)
  refine e_iconst C dX10_goes_20 ?_
  refine e_istore_n C dX10_goes_21 (by decide) rfl ?_
  refine e_aload_n C 1 dX10_goes_22 rfl ?_
  obtain ⟨Q8, h6, H⟩ := H
  refine e_callVV (As := []) (rest := []) (q0 := 0) (ci := 10) C Y mi_X10_next ms_X10_next mv_X10_next ml_X10_337 h6 rfl rfl (by decide) (Nat.le_of_ble_eq_true rfl) hk hn dX10_goes_23 rfl (fun M7 hq9 => ?_)
  replace H := H M7 hq9
  refine e_wf (fun hw9 => ?_)
  exact e_sub [1, 0] rfl H
set_option maxRecDepth 4000 in
theorem B_X10_goes_26 {g : Gs} {ad : Nat → Nat} {X : Cx} {mc ms k n : Nat} {PQ : Option Value → Mem → Prop} {PX : String → Mem → Prop} {M : Mem} {x2 : Int} (r2 : R32 x2) (hk : k ≤ mc) (hn : n ≤ ms) (C : OkB (wM g ad) X cX10_goes RX10 4 12 mc ms) (Y : OkR (wM g ad) X (some .int) mc ms PQ PX) (H : ((((M 46 0) = 0) → (((x2 ≠ 5) → E (wM g ad) X k n M 87 [(0, .ref (ad 0)), (2, vI x2)] []) ∧ ((x2 = 5) → ((((M 56 0) ≤ 8) → E (wM g ad) X k n M 87 [(0, .ref (ad 0)), (2, vI x2)] []) ∧ ((8 < (M 56 0)) → PQ (some (vI (M 57 0))) M))))) ∧ (((M 46 0) ≠ 0) → ∃ Q3 : Int → Mem → Prop, SpI (wM g ad) yX10_follows cX10_follows 2 (some .int) 11 [.ref (ad 0), vI x2] M Q3 ∧ ∀ (z4 : Int) (M2 : Mem), Q3 z4 M2 → R32 z4 ∧ (((z4 ≠ (-1)) → ((((-1) ≤ z4) → ∃ Q9 : Mem → Prop, SpV (wM g ad) yX10_next cX10_next 2 none 3 [.ref (ad 0)] M2 Q9 ∧ ∀ M8 : Mem, Q9 M8 → E (wM g ad) X k n M8 26 [(0, .ref (ad 0)), (2, vI z4)] []) ∧ ((z4 < (-1)) → (R32 ((-2) - z4)) ∧ PQ (some (vI ((-2) - z4))) M2))) ∧ ((z4 = (-1)) → PQ (some (vI (M2 44 0))) M2))))) : E (wM g ad) X k n M 26 [(0, .ref (ad 0)), (2, vI x2)] [] := by
  refine e_wf (fun hw0 => ?_)
  refine e_aload_n C 0 dX10_goes_26 rfl ?_
  refine gM_46 C dX10_goes_27 ?_
  refine e_if_eq C 68 (hw0.2.1 46 _ (by decide)) dX10_goes_30 (by decide) (fun c9 => ?_) (fun c9 => ?_)
  · replace H := H.1 c9
    refine e_iload_n C 1 dX10_goes_68 rfl ?_
    refine e_iconst C dX10_goes_69 ?_
    refine e_icmp_ne C 87 r2 (by decide) dX10_goes_70 (by decide) (fun c9 => ?_) (fun c9 => ?_)
    · replace H := H.1 c9
      exact e_sub [0, 1] rfl H
    · replace H := H.2 c9
      refine e_aload_n C 0 dX10_goes_73 rfl ?_
      refine gM_56 C dX10_goes_74 ?_
      refine e_bipush C dX10_goes_77 (by decide) ?_
      refine e_icmp_le C 87 (hw0.2.1 56 _ (by decide)) (by decide) dX10_goes_79 (by decide) (fun c9 => ?_) (fun c9 => ?_)
      · replace H := H.1 c9
        exact e_sub [0, 1] rfl H
      · replace H := H.2 c9
        refine e_aload_n C 0 dX10_goes_82 rfl ?_
        refine gM_57 C dX10_goes_83 ?_
        exact e_iret C Y hk hn dX10_goes_86 H
  · replace H := H.2 c9
    refine e_aload_n C 0 dX10_goes_33 rfl ?_
    refine e_iload_n C 1 dX10_goes_34 rfl ?_
    obtain ⟨Q3, h1, H⟩ := H
    refine e_callVI (As := [vI x2]) (rest := []) (q0 := 0) (ci := 10) C Y mi_X10_follows ms_X10_follows mv_X10_follows ml_X10_340 h1 rfl rfl (by decide) (Nat.le_of_ble_eq_true rfl) hk hn dX10_goes_35 rfl (fun z4 M2 hq9 => ?_)
    obtain ⟨o5, H⟩ := H z4 M2 hq9
    refine e_wf (fun hw6 => ?_)
    refine e_istore_n C dX10_goes_38 (by decide) rfl ?_
    refine e_iload_n C 0 dX10_goes_39 rfl ?_
    refine e_iconst C dX10_goes_40 ?_
    refine e_icmp_ne C 49 o5 (by decide) dX10_goes_41 (by decide) (fun c9 => ?_) (fun c9 => ?_)
    · replace H := H.1 c9
      refine e_iload_n C 0 dX10_goes_49 rfl ?_
      refine e_iconst C dX10_goes_50 ?_
      refine e_icmp_ge C 59 o5 (by decide) dX10_goes_51 (by decide) (fun c9 => ?_) (fun c9 => ?_)
      · replace H := H.1 c9
        refine e_iload_n C 0 dX10_goes_59 rfl ?_
        refine e_istore_n C dX10_goes_60 (by decide) rfl ?_
        refine e_aload_n C 2 dX10_goes_61 rfl ?_
        obtain ⟨Q9, h7, H⟩ := H
        refine e_callVV (As := []) (rest := []) (q0 := 0) (ci := 10) C Y mi_X10_next ms_X10_next mv_X10_next ml_X10_337 h7 rfl rfl (by decide) (Nat.le_of_ble_eq_true rfl) hk hn dX10_goes_62 rfl (fun M8 hq9 => ?_)
        replace H := H M8 hq9
        refine e_wf (fun hw10 => ?_)
        refine e_goto C 26 dX10_goes_65 (by decide) ?_
        exact e_sub [2, 0] rfl H
      · replace H := H.2 c9
        refine e_bipush C dX10_goes_54 (by decide) ?_
        refine e_iload_n C 0 dX10_goes_56 rfl ?_
        obtain ⟨o11, H⟩ := H
        refine e_isub C dX10_goes_57 ?_
        exact e_iret C Y hk hn dX10_goes_58 H
    · replace H := H.2 c9
      refine e_aload_n C 1 dX10_goes_44 rfl ?_
      refine gM_44 C dX10_goes_45 ?_
      exact e_iret C Y hk hn dX10_goes_48 H
set_option maxRecDepth 4000 in
theorem B_X10_goes_87 {g : Gs} {ad : Nat → Nat} {X : Cx} {mc ms k n : Nat} {PQ : Option Value → Mem → Prop} {PX : String → Mem → Prop} {M : Mem} {x2 : Int} (r2 : R32 x2) (hk : k ≤ mc) (hn : n ≤ ms) (C : OkB (wM g ad) X cX10_goes RX10 4 12 mc ms) (Y : OkR (wM g ad) X (some .int) mc ms PQ PX) (H : (((x2 ≠ 5) → E (wM g ad) X k n M 103 [(0, .ref (ad 0)), (2, vI x2)] []) ∧ ((x2 = 5) → (R32 (8 * (M 56 0))) ∧ ∃ Q4 : Mem → Prop, SpV (wM g ad) yX10_numberIs cX10_numberIs 3 none 9 [.ref (ad 0), vI (8 * (M 56 0))] M Q4 ∧ ∀ M3 : Mem, Q4 M3 → E (wM g ad) X k n M3 103 [(0, .ref (ad 0)), (2, vI x2)] []))) : E (wM g ad) X k n M 87 [(0, .ref (ad 0)), (2, vI x2)] [] := by
  refine e_wf (fun hw0 => ?_)
  refine e_iload_n C 1 dX10_goes_87 rfl ?_
  refine e_iconst C dX10_goes_88 ?_
  refine e_icmp_ne C 103 r2 (by decide) dX10_goes_89 (by decide) (fun c9 => ?_) (fun c9 => ?_)
  · replace H := H.1 c9
    exact e_sub [0, 1] rfl H
  · replace H := H.2 c9
    refine e_aload_n C 0 dX10_goes_92 rfl ?_
    refine e_bipush C dX10_goes_93 (by decide) ?_
    refine e_aload_n C 0 dX10_goes_95 rfl ?_
    refine gM_56 C dX10_goes_96 ?_
    obtain ⟨o1, H⟩ := H
    refine e_imul C dX10_goes_99 ?_
    obtain ⟨Q4, h2, H⟩ := H
    refine e_callVV (As := [vI (8 * (M 56 0))]) (rest := []) (q0 := 0) (ci := 10) C Y mi_X10_numberIs ms_X10_numberIs mv_X10_numberIs ml_X10_349 h2 rfl rfl (by decide) (Nat.le_of_ble_eq_true rfl) hk hn dX10_goes_100 rfl (fun M3 hq9 => ?_)
    replace H := H M3 hq9
    refine e_wf (fun hw5 => ?_)
    exact e_sub [0, 1] rfl H
set_option maxRecDepth 4000 in
theorem B_X10_goes_103 {g : Gs} {ad : Nat → Nat} {X : Cx} {mc ms k n : Nat} {PQ : Option Value → Mem → Prop} {PX : String → Mem → Prop} {M : Mem} {x2 : Int} (r2 : R32 x2) (hk : k ≤ mc) (hn : n ≤ ms) (C : OkB (wM g ad) X cX10_goes RX10 4 12 mc ms) (Y : OkR (wM g ad) X (some .int) mc ms PQ PX) (H : (((x2 = 3) → E (wM g ad) X k n M 113 [(0, .ref (ad 0))] []) ∧ ((x2 ≠ 3) → (((x2 ≠ 5) → PQ (some (vI (M 24 0))) M) ∧ ((x2 = 5) → E (wM g ad) X k n M 113 [(0, .ref (ad 0))] []))))) : E (wM g ad) X k n M 103 [(0, .ref (ad 0)), (2, vI x2)] [] := by
  refine e_wf (fun hw0 => ?_)
  refine e_iload_n C 1 dX10_goes_103 rfl ?_
  refine e_iconst C dX10_goes_104 ?_
  refine e_icmp_eq C 113 r2 (by decide) dX10_goes_105 (by decide) (fun c9 => ?_) (fun c9 => ?_)
  · replace H := H.1 c9
    exact e_sub [0] rfl H
  · replace H := H.2 c9
    refine e_iload_n C 1 dX10_goes_108 rfl ?_
    refine e_iconst C dX10_goes_109 ?_
    refine e_icmp_ne C 124 r2 (by decide) dX10_goes_110 (by decide) (fun c9 => ?_) (fun c9 => ?_)
    · replace H := H.1 c9
      refine e_aload_n C 0 dX10_goes_124 rfl ?_
      refine gM_24 C dX10_goes_125 ?_
      exact e_iret C Y hk hn dX10_goes_128 H
    · replace H := H.2 c9
      exact e_sub [0] rfl H
set_option maxRecDepth 4000 in
theorem B_X10_goes_113 {g : Gs} {ad : Nat → Nat} {X : Cx} {mc ms k n : Nat} {PQ : Option Value → Mem → Prop} {PX : String → Mem → Prop} {M : Mem}  (hk : k ≤ mc) (hn : n ≤ ms) (C : OkB (wM g ad) X cX10_goes RX10 4 12 mc ms) (Y : OkR (wM g ad) X (some .int) mc ms PQ PX) (H : ((((M 48 0) ≠ 0) → PQ (some (vI (M 24 0))) M) ∧ (((M 48 0) = 0) → PQ (some (vI (-1))) M))) : E (wM g ad) X k n M 113 [(0, .ref (ad 0))] [] := by
  refine e_wf (fun hw0 => ?_)
  refine e_aload_n C 0 dX10_goes_113 rfl ?_
  refine gM_48 C dX10_goes_114 ?_
  refine e_if_ne C 124 (hw0.2.1 48 _ (by decide)) dX10_goes_117 (by decide) (fun c9 => ?_) (fun c9 => ?_)
  · replace H := H.1 c9
    refine e_aload_n C 0 dX10_goes_124 rfl ?_
    refine gM_24 C dX10_goes_125 ?_
    exact e_iret C Y hk hn dX10_goes_128 H
  · replace H := H.2 c9
    refine e_iconst C dX10_goes_120 ?_
    refine e_goto C 128 dX10_goes_121 (by decide) ?_
    exact e_iret C Y hk hn dX10_goes_128 H
set_option maxRecDepth 4000 in
theorem B_X10_fault_0 {g : Gs} {ad : Nat → Nat} {X : Cx} {mc ms k n : Nat} {PQ : Option Value → Mem → Prop} {PX : String → Mem → Prop} {M : Mem}  (hk : k ≤ mc) (hn : n ≤ ms) (C : OkB (wM g ad) X cX10_fault RX10 1 13 mc ms) (Y : OkR (wM g ad) X (some .int) mc ms PQ PX) (H : ∃ Q4 : Int → Mem → Prop, SpI (wM g ad) yX10_goes cX10_goes 4 (some .int) 12 [.ref (ad 0), vI 0] (up M 20 0 0) Q4 ∧ ∀ (z5 : Int) (M3 : Mem), Q4 z5 M3 → R32 z5 ∧ PQ (some (vI z5)) M3) : E (wM g ad) X k n M 0 [(0, .ref (ad 0))] [] := by
  refine e_wf (fun hw0 => ?_)
  refine e_aload_n C 0 dX10_fault_0 rfl ?_
  refine e_iconst C dX10_fault_1 ?_
  refine pM_20 C (by decide) dX10_fault_2 ?_
  refine e_wf (fun hw1 => ?_)
  refine e_aload_n C 0 dX10_fault_5 rfl ?_
  refine e_iconst C dX10_fault_6 ?_
  obtain ⟨Q4, h2, H⟩ := H
  refine e_callVI (As := [vI 0]) (rest := []) (q0 := 0) (ci := 10) C Y mi_X10_goes ms_X10_goes mv_X10_goes ml_X10_385 h2 rfl rfl (by decide) (Nat.le_of_ble_eq_true rfl) hk hn dX10_fault_7 rfl (fun z5 M3 hq9 => ?_)
  obtain ⟨o6, H⟩ := H z5 M3 hq9
  refine e_wf (fun hw7 => ?_)
  exact e_iret C Y hk hn dX10_fault_10 H
set_option maxRecDepth 4000 in
theorem B_X10_read_0 {g : Gs} {ad : Nat → Nat} {X : Cx} {mc ms k n : Nat} {PQ : Option Value → Mem → Prop} {PX : String → Mem → Prop} {M : Mem}  (hk : k ≤ mc) (hn : n ≤ ms) (C : OkB (wM g ad) X cX10_read RX10 2 13 mc ms) (Y : OkR (wM g ad) X (some .int) mc ms PQ PX) (H : ∃ Q3 : Int → Mem → Prop, SpI (wM g ad) yX10_goes cX10_goes 4 (some .int) 12 [.ref (ad 0), vI 0] M Q3 ∧ ∀ (z4 : Int) (M2 : Mem), Q3 z4 M2 → R32 z4 ∧ (((z4 ≠ (-1)) → E (wM g ad) X k n M2 15 [(0, .ref (ad 0))] [vI 1, .ref (ad 0)]) ∧ ((z4 = (-1)) → E (wM g ad) X k n M2 15 [(0, .ref (ad 0))] [vI 0, .ref (ad 0)]))) : E (wM g ad) X k n M 0 [(0, .ref (ad 0))] [] := by
  refine e_wf (fun hw0 => ?_)
  refine e_aload_n C 0 dX10_read_0 rfl ?_
  refine e_aload_n C 0 dX10_read_1 rfl ?_
  refine e_iconst C dX10_read_2 ?_
  obtain ⟨Q3, h1, H⟩ := H
  refine e_callVI (As := [vI 0]) (rest := [.ref (ad 0)]) (q0 := 0) (ci := 10) C Y mi_X10_goes ms_X10_goes mv_X10_goes ml_X10_385 h1 rfl rfl (by decide) (Nat.le_of_ble_eq_true rfl) hk hn dX10_read_3 rfl (fun z4 M2 hq9 => ?_)
  obtain ⟨o5, H⟩ := H z4 M2 hq9
  refine e_wf (fun hw6 => ?_)
  refine e_iconst C dX10_read_6 ?_
  refine e_icmp_ne C 14 o5 (by decide) dX10_read_7 (by decide) (fun c9 => ?_) (fun c9 => ?_)
  · replace H := H.1 c9
    refine e_iconst C dX10_read_14 ?_
    exact e_sub [0] rfl H
  · replace H := H.2 c9
    refine e_iconst C dX10_read_10 ?_
    refine e_goto C 15 dX10_read_11 (by decide) ?_
    exact e_sub [0] rfl H
set_option maxRecDepth 4000 in
theorem B_X10_read_15 {g : Gs} {ad : Nat → Nat} {X : Cx} {mc ms k n : Nat} {PQ : Option Value → Mem → Prop} {PX : String → Mem → Prop} {M : Mem} {t0 : Int} (q0 : R32 t0) (hk : k ≤ mc) (hn : n ≤ ms) (C : OkB (wM g ad) X cX10_read RX10 2 13 mc ms) (Y : OkR (wM g ad) X (some .int) mc ms PQ PX) (H : (((¬(0 < t0)) → ∃ Q4 : Int → Mem → Prop, SpI (wM g ad) yX10_goes cX10_goes 4 (some .int) 12 [.ref (ad 0), vI 1] (up M 20 0 t0) Q4 ∧ ∀ (z5 : Int) (M3 : Mem), Q4 z5 M3 → R32 z5 ∧ ((((M3 53 0) = 0) → ∃ Q10 : Int → Mem → Prop, SpI (wM g ad) yX10_ends cX10_ends 4 (some .int) 2 [.ref (ad 0), vI (M 0 0), vI (M3 54 0), vI 2] M3 Q10 ∧ ∀ (z11 : Int) (M9 : Mem), Q10 z11 M9 → R32 z11 ∧ PQ (some (vI z11)) M9) ∧ (((M3 53 0) ≠ 0) → ∃ Q16 : Int → Mem → Prop, SpI (wM g ad) yX10_ends cX10_ends 4 (some .int) 2 [.ref (ad 0), vI (M 0 0), vI (-1), vI 2] M3 Q16 ∧ ∀ (z17 : Int) (M15 : Mem), Q16 z17 M15 → R32 z17 ∧ PQ (some (vI z17)) M15))) ∧ ((0 < t0) → PQ (some (vI 0)) (up M 20 0 t0)))) : E (wM g ad) X k n M 15 [(0, .ref (ad 0))] [vI t0, .ref (ad 0)] := by
  refine e_wf (fun hw0 => ?_)
  refine e_callVD (As := [vI t0]) (rest := []) (q0 := 0) (ci := 10) C Y mi_X10_refused ms_X10_refused mv_X10_refused ml_X10_227 (s_X10_refused q0) rfl rfl (by decide) (Nat.le_of_ble_eq_true rfl) hk hn dX10_read_15 rfl ?_
  refine e_wf (fun hw1 => ?_)
  refine e_if_eq C 23 (b2i_r _) dX10_read_18 (by decide) (fun c9 => ?_) (fun c9 => ?_)
  · replace H := H.1 (b2i_0.mp c9)
    refine e_aload_n C 0 dX10_read_23 rfl ?_
    refine gM_0 C dX10_read_24 ?_
    refine e_istore_n C dX10_read_27 (by decide) rfl ?_
    refine e_aload_n C 1 dX10_read_28 rfl ?_
    refine e_iconst C dX10_read_29 ?_
    obtain ⟨Q4, h2, H⟩ := H
    refine e_callVI (As := [vI 1]) (rest := []) (q0 := 0) (ci := 10) C Y mi_X10_goes ms_X10_goes mv_X10_goes ml_X10_385 h2 rfl rfl (by decide) (Nat.le_of_ble_eq_true rfl) hk hn dX10_read_30 rfl (fun z5 M3 hq9 => ?_)
    obtain ⟨o6, H⟩ := H z5 M3 hq9
    refine e_wf (fun hw7 => ?_)
    refine e_pop C rfl dX10_read_33 ?_
    refine e_aload_n C 1 dX10_read_34 rfl ?_
    refine e_iload_n C 0 dX10_read_35 rfl ?_
    refine e_aload_n C 1 dX10_read_36 rfl ?_
    refine gM_53 C dX10_read_37 ?_
    refine e_if_eq C 47 (hw7.2.1 53 _ (by decide)) dX10_read_40 (by decide) (fun c9 => ?_) (fun c9 => ?_)
    · replace H := H.1 c9
      refine e_aload_n C 1 dX10_read_47 rfl ?_
      refine gM_54 C dX10_read_48 ?_
      refine e_iconst C dX10_read_51 ?_
      obtain ⟨Q10, h8, H⟩ := H
      refine e_callVI (As := [vI (M 0 0), vI (M3 54 0), vI 2]) (rest := []) (q0 := 0) (ci := 10) C Y mi_X10_ends ms_X10_ends mv_X10_ends ml_X10_233 h8 rfl rfl (by decide) (Nat.le_of_ble_eq_true rfl) hk hn dX10_read_52 rfl (fun z11 M9 hq9 => ?_)
      obtain ⟨o12, H⟩ := H z11 M9 hq9
      refine e_wf (fun hw13 => ?_)
      exact e_iret C Y hk hn dX10_read_55 H
    · replace H := H.2 c9
      refine e_iconst C dX10_read_43 ?_
      refine e_goto C 51 dX10_read_44 (by decide) ?_
      refine e_iconst C dX10_read_51 ?_
      obtain ⟨Q16, h14, H⟩ := H
      refine e_callVI (As := [vI (M 0 0), vI (-1), vI 2]) (rest := []) (q0 := 0) (ci := 10) C Y mi_X10_ends ms_X10_ends mv_X10_ends ml_X10_233 h14 rfl rfl (by decide) (Nat.le_of_ble_eq_true rfl) hk hn dX10_read_52 rfl (fun z17 M15 hq9 => ?_)
      obtain ⟨o18, H⟩ := H z17 M15 hq9
      refine e_wf (fun hw19 => ?_)
      exact e_iret C Y hk hn dX10_read_55 H
  · replace H := H.2 (b2i_n0.mp c9)
    refine e_iconst C dX10_read_21 ?_
    exact e_iret C Y hk hn dX10_read_22 H
