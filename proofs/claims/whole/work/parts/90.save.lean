/-! ===== the class: a row is shifted; save ===== -/
/-- the rows of the history, one row down -/
def shf (M : Mem) : Mem := fun c i => if c = 39 ∧ 0 ≤ i ∧ i < 30 then M 39 (i + 6) else M c i
theorem shf_c {M : Mem} {c : Nat} {i : Int} (h : c ≠ 39) : shf M c i = M c i := by unfold shf; rw [if_neg (fun q => h q.1)]
theorem shf_lo {M : Mem} {i : Int} (h : 0 ≤ i ∧ i < 30) : shf M 39 i = M 39 (i + 6) := by unfold shf; rw [if_pos ⟨rfl, h⟩]
theorem shf_hi {M : Mem} {i : Int} (h : 30 ≤ i) : shf M 39 i = M 39 i := by unfold shf; rw [if_neg (fun q => by omega)]
theorem rmx_shf {ad : Nat → Nat} {M : Mem} (h : RMx ad M) : RMx ad (shf M) := by
  obtain ⟨a, b, c, d⟩ := h
  refine ⟨fun q i hq => ?_, fun q i hq => ?_, fun q i hq => ?_, ?_⟩
  · by_cases e : q = 39
    · subst e; exact absurd hq (by decide)
    · rw [shf_c e]; exact a q i hq
  · by_cases e : q = 39
    · subst e
      unfold shf
      split
      · exact b 39 _ rfl
      · exact b 39 _ rfl
    · rw [shf_c e]; exact b q i hq
  · by_cases e : q = 39
    · subst e; exact absurd hq (by decide)
    · rw [shf_c e]; exact c q i hq
  · rw [shf_c (by decide), shf_c (by decide), shf_c (by decide)]; exact d
theorem cpy_shf (M : Mem) : va_cpy (fun j : Nat => i32 (M 39 (j : Int))) (fun j : Nat => i32 (M 39 (j : Int))) 6 0 30 = fun j : Nat => i32 (shf M 39 (j : Int)) := by
  funext j
  unfold va_cpy
  by_cases h : 0 ≤ j ∧ j < 0 + 30
  · rw [if_pos h, shf_lo (by omega)]
    show i32 (M 39 ((6 + (j - 0) : Nat) : Int)) = _
    rw [show ((6 + (j - 0) : Nat) : Int) = (j : Int) + 6 by omega]
  · rw [if_neg h, shf_hi (by omega)]
section SHF
variable {g : Gs} {ad : Nat → Nat} {KK : (Nat → Prop) → State → Prop} {X : Cx} {cc : ByteArray} {nL d mc ms : Nat} {k n : Nat} {M : Mem} {pc : Nat} {lv : List (Nat × Value)} {st : List Value}
theorem wlX_shf : (wlX g ad M).set 43 (ad 43, .inl (g.2.1, 36, .inl (va_cpy (fun j : Nat => i32 (M 39 (j : Int))) (fun j : Nat => i32 (M 39 (j : Int))) 6 0 30))) = wlX g ad (shf M) := by
  rw [cpy_shf]
  exact wlX_setS (by decide) rfl (fun _ => rfl)
theorem e_shf (hd1 : 1 ≤ d) (C : OkB (wX g ad KK) X cc RX3 nL d mc ms) (hd : decode cc pc = .ok (.invokestatic 19, 3)) (kk : E (wX g ad KK) X k n (shf M) (pc + 3) lv []) : E (wX g ad KK) X k n M pc lv (vI 30 :: vI 0 :: .ref (ad 43) :: vI 6 :: .ref (ad 43) :: []) := by
  obtain ⟨p, l, e, R, s, m, args, below, meth, c, A, Q, nL9⟩ := X
  obtain ⟨hx, hb, hml, hown, hts, hA, hK, hKK, hmv, rfl, hfr, hlo, hmc, hms, hlk, htb⟩ := C
  intro hw H locs ls hP hD hS hl
  have hnf : (([] : List Value).map fun v => v.category).sum + (nativeFrameWords "java/lang/System" "arraycopy" 5 + 11) ≤ R.locals := by
    have e9 : nativeFrameWords "java/lang/System" "arraycopy" 5 = 7 := by decide
    rw [e9]
    show 0 + (7 + 11) ≤ R.locals
    omega
  have hf1 : 1 ≤ R.frames := by omega
  refine va_copyi (rest := []) (sp := i32 6) (dp := i32 0) (n := i32 30) hx hb (by rw [hml]; exact hl.1.symm) hown (hts (.methodLink RX3 19 arraycopyName) (tg4 6 rfl rfl)) (hts (.native arraycopyName) (tg4 8 rfl rfl)) (hts (.static arraycopyName) (tg4 7 rfl rfl)) (hts (.initialized "java/lang/System") (tg1 19 rfl rfl)) hK hP hD hS 43 43 0 0 (wlX_st rfl) (wlX_st rfl) (ty := .int) rfl rfl rfl (by decide) (by decide) (by decide) (by decide) (by decide) (fun i hi => rfl) hf1 hnf hd (fun H1 locs1 hP1 hD1 hS1 => ?_)
  have e6 : (i32 6).toNatClampNeg = 6 := by decide
  have e0 : (i32 0).toNatClampNeg = 0 := by decide
  have e30 : (i32 30).toNatClampNeg = 30 := by decide
  rw [e6, e0, e30] at hP1 hD1
  have ew : (wlX g ad M).set 43 _ = wlX g ad (shf M) := wlX_shf (g := g) (ad := ad) (M := M)
  have hP2 : va_P (wX g ad KK).1 vwCl (wlX g ad (shf M)) H1 := by rw [← ew]; exact hP1
  have hD2 : va_D A (wlX g ad (shf M)) := by rw [← ew]; exact hD1
  exact kk (rmx_shf hw) H1 locs1 ls hP2 hD2 hS1 hl
end SHF
theorem B_X3_save_0 {g : Gs} {ad : Nat → Nat} {sk : (Nat → Nat) × (Nat → Nat)} {X : Cx} {mc ms k n : Nat} {PQ : Option Value → Mem → Prop} {PX : String → Mem → Prop} {M : Mem} {x1 : Int} (r1 : R32 x1) (hk : k ≤ mc) (hn : n ≤ ms) (C : OkB (wC g ad sk) X cX3_save RX3 5 1 mc ms) (Y : OkR (wC g ad sk) X none mc ms PQ PX) (H : (M 38 0 ≠ 6 → E (wC g ad sk) X k n (M) 35 [(0, .ref (ad 8)), (1, vI (x1)), (2, .ref (ad 2))] []) ∧ (M 38 0 = 6 → E (wC g ad sk) X k n ((up (shf M) 38 0 5)) 35 [(0, .ref (ad 8)), (1, vI (x1)), (2, .ref (ad 2))] [])) : E (wC g ad sk) X k n (M) 0 [(0, .ref (ad 8)), (1, vI (x1)), (2, .ref (ad 2))] [] := by
  refine e_wf (fun hw0 => ?_)
  refine e_aload_n C 0 dX3_save_0 rfl ?_
  refine gX_3_9 C dX3_save_1 ?_
  refine e_bipush C dX3_save_4 (by decide) ?_
  refine e_icmp_ne C 35 (hw0.2.1 38 _ rfl) (by decide) dX3_save_6 (by decide) (fun c9 => ?_) (fun c9 => ?_)
  · exact e_sub [0, 1, 2] rfl (H.1 c9)
  · refine e_aload_n C 0 dX3_save_9 rfl ?_
    refine gX_3_15 C dX3_save_10 ?_
    refine e_bipush C dX3_save_13 (by decide) ?_
    refine e_aload_n C 0 dX3_save_15 rfl ?_
    refine gX_3_15 C dX3_save_16 ?_
    refine e_iconst C dX3_save_19 ?_
    refine e_bipush C dX3_save_20 (by decide) ?_
    refine e_shf (by decide) C dX3_save_22 ?_
    refine e_aload_n C 0 dX3_save_25 rfl ?_
    refine e_dup C rfl dX3_save_26 ?_
    refine gX_3_9 C dX3_save_27 ?_
    refine e_iconst C dX3_save_30 ?_
    refine e_isub C dX3_save_31 ?_
    rw [shf_c (by decide), c9]
    refine pX_3_9 C (by decide) dX3_save_32 ?_
    exact e_sub [0, 1, 2] rfl (H.2 c9)
set_option maxRecDepth 4000 in
theorem B_X3_save_35 {g : Gs} {ad : Nat → Nat} {sk : (Nat → Nat) × (Nat → Nat)} {X : Cx} {mc ms k n : Nat} {PQ : Option Value → Mem → Prop} {PX : String → Mem → Prop} {M : Mem} {x1 : Int} (r1 : R32 x1) (hk : k ≤ mc) (hn : n ≤ ms) (C : OkB (wC g ad sk) X cX3_save RX3 5 1 mc ms) (Y : OkR (wC g ad sk) X none mc ms PQ PX) (H : ((R32 ((M 38 0) * 6)) ∧ (0 ≤ (M 38 0) * 6 ∧ (M 38 0) * 6 < 36) ∧ (R32 (((M 38 0) * 6) + 1)) ∧ (0 ≤ ((M 38 0) * 6) + 1 ∧ ((M 38 0) * 6) + 1 < 36)) ∧ E (wC g ad sk) X k n (up (up M 39 ((M 38 0) * 6) x1) 39 (((M 38 0) * 6) + 1) (M 11 0)) 65 [(0, .ref (ad 8)), (2, .ref (ad 2)), (3, vI ((M 38 0) * 6)), (4, vI 0)] []) : E (wC g ad sk) X k n M 35 [(0, .ref (ad 8)), (1, vI x1), (2, .ref (ad 2))] [] := by
  refine e_wf (fun hw0 => ?_)
  refine e_aload_n C 0 dX3_save_35 rfl ?_
  refine gX_3_9 C dX3_save_36 ?_
  refine e_bipush C dX3_save_39 (by decide) ?_
  obtain ⟨⟨o1, o2, o4, o5⟩, H⟩ := H
  refine e_imul C dX3_save_41 ?_
  refine e_istore_n C dX3_save_42 (by decide) rfl ?_
  refine e_aload_n C 1 dX3_save_43 rfl ?_
  refine gX_3_15 C dX3_save_44 ?_
  refine e_iload_n C 0 dX3_save_47 rfl ?_
  refine e_iload_n C 2 dX3_save_48 rfl ?_
  refine sX_43 C o2 r1 dX3_save_49 ?_
  refine e_wf (fun hw3 => ?_)
  refine e_aload_n C 1 dX3_save_50 rfl ?_
  refine gX_3_15 C dX3_save_51 ?_
  refine e_iload_n C 0 dX3_save_54 rfl ?_
  refine e_iconst C dX3_save_55 ?_
  refine e_iadd C dX3_save_56 ?_
  refine e_aload_n C 3 dX3_save_57 rfl ?_
  refine gX_3_25 C dX3_save_58 ?_
  refine sX_43 C o5 (hw0.2.1 11 _ rfl) dX3_save_61 ?_
  refine e_wf (fun hw6 => ?_)
  refine e_iconst C dX3_save_62 ?_
  refine e_istore C dX3_save_63 (by decide) rfl ?_
  exact e_sub [2, 4, 1, 0] rfl H
set_option maxRecDepth 4000 in
theorem B_X3_save_65 {g : Gs} {ad : Nat → Nat} {sk : (Nat → Nat) × (Nat → Nat)} {X : Cx} {mc ms k n : Nat} {PQ : Option Value → Mem → Prop} {PX : String → Mem → Prop} {M : Mem} {x3 x4 : Int} (r3 : R32 x3) (r4 : R32 x4) (hk : k ≤ mc) (hn : n ≤ ms) (C : OkB (wC g ad sk) X cX3_save RX3 5 1 mc ms) (Y : OkR (wC g ad sk) X none mc ms PQ PX) (H : (((4 ≤ x4) → (R32 ((M 38 0) + 1)) ∧ PQ none (up M 38 0 ((M 38 0) + 1))) ∧ ((x4 < 4) → ((R32 (x3 + 2)) ∧ (R32 ((x3 + 2) + x4)) ∧ (0 ≤ x4 ∧ x4 < 4) ∧ (0 ≤ (x3 + 2) + x4 ∧ (x3 + 2) + x4 < 36) ∧ (R32 (x4 + 1))) ∧ E (wC g ad sk) X k n (up M 39 ((x3 + 2) + x4) (M 10 x4)) 65 [(0, .ref (ad 8)), (2, .ref (ad 2)), (3, vI x3), (4, vI (x4 + 1))] []))) : E (wC g ad sk) X k n M 65 [(0, .ref (ad 8)), (2, .ref (ad 2)), (3, vI x3), (4, vI x4)] [] := by
  refine e_wf (fun hw0 => ?_)
  refine e_iload C 3 dX3_save_65 rfl ?_
  refine e_iconst C dX3_save_67 ?_
  refine e_icmp_ge C 95 r4 (by decide) dX3_save_68 (by decide) (fun c9 => ?_) (fun c9 => ?_)
  · replace H := H.1 c9
    refine e_aload_n C 0 dX3_save_95 rfl ?_
    refine e_dup C rfl dX3_save_96 ?_
    refine gX_3_9 C dX3_save_97 ?_
    refine e_iconst C dX3_save_100 ?_
    obtain ⟨o1, H⟩ := H
    refine e_iadd C dX3_save_101 ?_
    refine pX_3_9 C o1 dX3_save_102 ?_
    refine e_wf (fun hw2 => ?_)
    exact e_vret C Y hk hn dX3_save_105 H
  · replace H := H.2 c9
    refine e_aload_n C 0 dX3_save_71 rfl ?_
    refine gX_3_15 C dX3_save_72 ?_
    refine e_iload_n C 2 dX3_save_75 rfl ?_
    refine e_iconst C dX3_save_76 ?_
    obtain ⟨⟨o3, o4, o5, o6, o8⟩, H⟩ := H
    refine e_iadd C dX3_save_77 ?_
    refine e_iload C 3 dX3_save_78 rfl ?_
    refine e_iadd C dX3_save_80 ?_
    refine e_aload_n C 1 dX3_save_81 rfl ?_
    refine gX_3_28 C dX3_save_82 ?_
    refine e_iload C 3 dX3_save_85 rfl ?_
    refine aX_19 C o5 dX3_save_87 ?_
    refine sX_43 C o6 (hw0.2.1 10 _ rfl) dX3_save_88 ?_
    refine e_wf (fun hw7 => ?_)
    refine e_iinc C 3 dX3_save_89 rfl (by decide) rfl ?_
    refine e_goto C 65 dX3_save_92 (by decide) ?_
    exact e_sub [1, 2, 3, 0] rfl H
