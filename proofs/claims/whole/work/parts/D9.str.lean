/-! ===== constant strings: length, charAt ===== -/
theorem mi_J0_length : MI yJ0_length_8abf5 cJ0_length_8abf5 1 (some .int) 0 := ⟨⟨tg3 57 rfl rfl, tg1 21 rfl rfl⟩, ⟨by decide +kernel, by decide +kernel⟩, by decide, by decide +kernel⟩
theorem mi_J0_coder : MI yJ0_coder_7d493 cJ0_coder_7d493 1 (some .byte) 0 := ⟨⟨tg3 61 rfl rfl, tg1 21 rfl rfl⟩, ⟨by decide +kernel, by decide +kernel⟩, by decide, by decide +kernel⟩
theorem mi_J0_charAt : MI yJ0_charAt_5068e cJ0_charAt_5068e 2 (some .char) 1 := ⟨⟨tg3 67 rfl rfl, tg1 21 rfl rfl⟩, ⟨by decide +kernel, by decide +kernel⟩, by decide, by decide +kernel⟩
theorem mi_J0_isLatin1 : MI yJ0_isLatin1_aae02 cJ0_isLatin1_aae02 1 (some .boolean) 0 := ⟨⟨tg3 71 rfl rfl, tg1 21 rfl rfl⟩, ⟨by decide +kernel, by decide +kernel⟩, by decide, by decide +kernel⟩
theorem mi_J1_charAt : MI yJ1_charAt_3b067 cJ1_charAt_3b067 2 (some .char) 2 := ⟨⟨tg3 74 rfl rfl, tg1 22 rfl rfl⟩, ⟨by decide +kernel, by decide +kernel⟩, by decide, by decide +kernel⟩
theorem mi_J0_checkIndex : MI yJ0_checkIndex_df160 cJ0_checkIndex_df160 2 none 2 := ⟨⟨tg3 77 rfl rfl, tg1 21 rfl rfl⟩, ⟨by decide +kernel, by decide +kernel⟩, by decide, by decide +kernel⟩
theorem mi_J3_checkIndex : MI yJ3_checkIndex_8e157 cJ3_checkIndex_8e157 3 (some .int) 3 := ⟨⟨tg3 82 rfl rfl, tg1 23 rfl rfl⟩, ⟨by decide +kernel, by decide +kernel⟩, by decide, by decide +kernel⟩
section STR
variable {g : Gs} {ad : Nat → Nat} {sk : (Nat → Nat) × (Nat → Nat)} {X : Cx} {cc cc' : ByteArray} {own : String} {nL d mc ms nL' d' : Nat} {k n : Nat} {M : Mem} {pc : Nat} {lv : List (Nat × Value)} {st As rest : List Value} {PQ : Option Value → Mem → Prop} {PX : String → Mem → Prop} {y : MethodName} {ret ret' : Option FieldType} {ix : Nat}
theorem e_nret {v : Int} {ty : FieldType} (C : OkB (wC g ad sk) X cc own nL d mc ms) (Y : OkR (wC g ad sk) X (some ty) mc ms PQ PX) (hk : k ≤ mc) (hn : n ≤ ms) (hv : narrow ty (vI v) = vI v) (hd : decode cc pc = .ok (.ireturn, 1)) (hq : PQ (some (vI v)) M) : E (wC g ad sk) X k n M pc lv [vI v] := by
  obtain ⟨p, l, e, R, s, m, args, below, meth, c, A, Q, nL9⟩ := X
  obtain ⟨hx, hb, hml, hown, hts, hA, hK, hKK, hmv, rfl, hfr, hlo, hmc, hms, hlk, htb⟩ := C
  obtain ⟨rfl, hr, -⟩ := Y
  intro hw H locs ls hP hD hS hl
  exact W.widen hk hn (vx_ret (W.zret hx hb hr hv (fun t ht hW => ⟨_, M, rfl, hq, hw, by rw [ht]; exact hP, hD, hS.F ht⟩) hS.2.2 hd))
theorem e_ldcS {q : Nat} {tx : String} (C : OkB (wC g ad sk) X cc RX8 nL d mc ms) (hR : ∀ A s, KX sk A s → vk_R RX8 ix tx q s) (hd : decode cc pc = .ok (.ldc ix, 2)) (kk : E (wC g ad sk) X k n M (pc + 2) lv (.ref q :: st)) : E (wC g ad sk) X k n M pc lv st := by
  obtain ⟨p, l, e, R, s, m, args, below, meth, c, A, Q, nL9⟩ := X
  obtain ⟨hx, hb, hml, hown, hts, hA, hK, hKK, hmv, rfl, hfr, hlo, hmc, hms, hlk2, htb⟩ := C
  intro hw H locs ls hP hD hS hl
  exact va_ldcS hx hb hown (hR _ _ hKK) hd (kk hw H locs ls hP hD hS hl)
theorem e_strV {i : Nat} (hi : i < 3) (C : OkB (wC g ad sk) X cc RJ0 nL d mc ms) (hd : decode cc pc = .ok (.getfield 9, 3)) (kk : E (wC g ad sk) X k n M (pc + 3) lv (.ref (sk.2 i) :: st)) : E (wC g ad sk) X k n M pc lv (.ref (sk.1 i) :: st) := by
  obtain ⟨p, l, e, R, s, m, args, below, meth, c, A, Q, nL9⟩ := X
  obtain ⟨hx, hb, hml, hown, hts, hA, hK, hKK, hmv, rfl, hfr, hlo, hmc, hms, hlk2, htb⟩ := C
  intro hw H locs ls hP hD hS hl
  exact vk_getf (own := RJ0) (ref := RJ0) hx hb (hKK.2.2.2.2.2.2.1.1 i hi).2.2.1 hS hown (hts _ (tg8 45 rfl rfl)) (fun _ h => h) hd (kk hw H locs ls hP hD hS hl)
theorem e_strC {i : Nat} (hi : i < 3) (C : OkB (wC g ad sk) X cc RJ0 nL d mc ms) (hd : decode cc pc = .ok (.getfield 15, 3)) (kk : E (wC g ad sk) X k n M (pc + 3) lv (vI 0 :: st)) : E (wC g ad sk) X k n M pc lv (.ref (sk.1 i) :: st) := by
  obtain ⟨p, l, e, R, s, m, args, below, meth, c, A, Q, nL9⟩ := X
  obtain ⟨hx, hb, hml, hown, hts, hA, hK, hKK, hmv, rfl, hfr, hlo, hmc, hms, hlk2, htb⟩ := C
  intro hw H locs ls hP hD hS hl
  exact vk_getf (own := RJ0) (ref := RJ0) hx hb (hKK.2.2.2.2.2.2.1.1 i hi).2.1 hS hown (hts _ (tg8 46 rfl rfl)) (fun _ h => h) hd (kk hw H locs ls hP hD hS hl)
theorem e_getCS (C : OkB (wC g ad sk) X cc RJ0 nL d mc ms) (hd : decode cc pc = .ok (.getstatic 38, 3)) (kk : E (wC g ad sk) X k n M (pc + 3) lv (vI 1 :: st)) : E (wC g ad sk) X k n M pc lv st := by
  obtain ⟨p, l, e, R, s, m, args, below, meth, c, A, Q, nL9⟩ := X
  obtain ⟨hx, hb, hml, hown, hts, hA, hK, hKK, hmv, rfl, hfr, hlo, hmc, hms, hlk2, htb⟩ := C
  intro hw H locs ls hP hD hS hl
  exact va_gets (own := RJ0) (ref := RJ0) hx hb hKK.2.2.2.2.2.2.2.2.1 hS hown (hts _ (tg3 62 rfl rfl)) (fun _ h => h) hd (kk hw H locs ls hP hD hS hl)
theorem e_getSF (C : OkB (wC g ad sk) X cc RJ0 nL d mc ms) (hd : decode cc pc = .ok (.getstatic 1053, 3)) (kk : ∀ v : Value, (v = .null ∨ ∃ t, v = .ref t) → E (wC g ad sk) X k n M (pc + 3) lv (v :: st)) : E (wC g ad sk) X k n M pc lv st := by
  obtain ⟨p, l, e, R, s, m, args, below, meth, c, A, Q, nL9⟩ := X
  obtain ⟨hx, hb, hml, hown, hts, hA, hK, hKK, hmv, rfl, hfr, hlo, hmc, hms, hlk2, htb⟩ := C
  intro hw H locs ls hP hD hS hl
  rcases hKK.2.2.2.2.2.2.2.2.2 with h | ⟨t, h⟩
  · exact va_gets (own := RJ0) (ref := RJ3) hx hb h hS hown (hts _ (tg3 78 rfl rfl)) (fun _ h => h) hd (kk .null (Or.inl rfl) hw H locs ls hP hD hS hl)
  · exact va_gets (own := RJ0) (ref := RJ3) hx hb h hS hown (hts _ (tg3 78 rfl rfl)) (fun _ h => h) hd (kk (.ref t) (Or.inr ⟨t, rfl⟩) hw H locs ls hP hD hS hl)
theorem e_strL {i : Nat} {x : Int} (hi : i < 3) (hx9 : Int32.ofNat (lenN.getD i 0) = i32 x) (C : OkB (wC g ad sk) X cc own nL d mc ms) (hd : decode cc pc = .ok (.arraylength, 1)) (kk : E (wC g ad sk) X k n M (pc + 1) lv (vI x :: st)) : E (wC g ad sk) X k n M pc lv (.ref (sk.2 i) :: st) := by
  obtain ⟨p, l, e, R, s, m, args, below, meth, c, A, Q, nL9⟩ := X
  obtain ⟨hx, hb, hml, hown, hts, hA, hK, hKK, hmv, rfl, hfr, hlo, hmc, hms, hlk2, htb⟩ := C
  intro hw H locs ls hP hD hS hl
  exact va_tlen hx hb (hKK.2.2.2.2.2.2.1.1 i hi).2.2.2 hS hx9 hd (kk hw H locs ls hP hD hS hl)
/-- a character of a constant -/
def chN (i : Nat) (j : Int) : Int := ((bytN.getD i []).getD j.toNat 0).toInt
theorem e_strB {i : Nat} {j : Int} (hi : i < 3) (hj : 0 ≤ j ∧ j < (lenN.getD i 0 : Nat)) (hl9 : lenN.getD i 0 < 2147483648) (C : OkB (wC g ad sk) X cc own nL d mc ms) (hd : decode cc pc = .ok (.baload, 1)) (kk : E (wC g ad sk) X k n M (pc + 1) lv (vI (chN i j) :: st)) : E (wC g ad sk) X k n M pc lv (vI j :: .ref (sk.2 i) :: st) := by
  obtain ⟨p, l, e, R, s, m, args, below, meth, c, A, Q, nL9⟩ := X
  obtain ⟨hx, hb, hml, hown, hts, hA, hK, hKK, hmv, rfl, hfr, hlo, hmc, hms, hlk2, htb⟩ := C
  intro hw H locs ls hP hD hS hl
  refine va_tb hx hb (hKK.2.2.2.2.2.2.1.1 i hi).2.2.2 hS (vp_in_i hj hl9) ?_ hd (kk hw H locs ls hP hD hS hl)
  show Value.int _ = Value.int _
  rw [clamp_i hj.1 (by omega), chN, i32_of]
theorem e_callKD {i : Nat} {v2 : Option Value} {M2 : Mem} (hi : i < 3) (C : OkB (wC g ad sk) X cc own nL d mc ms) (Y : OkR (wC g ad sk) X ret mc ms PQ PX) (I : MI y cc' nL' ret' As.length) (hin : Cond.instanceMethod y ∈ gT) (hse : Cond.selects RJ0 y y ∈ gT) (hlk : Cond.methodLink own ix y ∈ gT)
    (hC : Sp (wC g ad sk) y cc' nL' ret' d' (.ref (sk.1 i) :: As) M v2 M2) (hdd : d' < d) (hr8 : (rest.map fun v => v.category).sum ≤ 8) (hk : k ≤ mc) (hn : n ≤ ms)
    (hd : decode cc pc = .ok (.invokevirtual ix, 3)) (hs0 : st = As.reverse ++ .ref (sk.1 i) :: rest)
    (kret : E (wC g ad sk) X k n M2 (pc + 3) lv (v2.toList ++ rest)) : E (wC g ad sk) X k n M pc lv st := by
  subst hs0
  obtain ⟨p, l, e, R, s, m, args, below, meth, c, A, Q, nL9⟩ := X
  obtain ⟨hx, hb, hml, hown, hts, hA, hK, hKK, hmv, rfl, hfr, hlo, hmc, hms, hlk2, htb⟩ := C
  obtain ⟨rfl, hrt, hst⟩ := Y
  obtain ⟨⟨hcode, hini⟩, hdy, hnl, -⟩ := I
  intro hw H locs ls hP hD hS hl
  have hM := hC l hst hw hmv H.size
  have hrun := vx_runV (g := F0 m pc ls (As.reverse ++ .ref (sk.1 i) :: rest)) (locs := locs) (cells := k) (slots := n) (below := below) (meth := meth) (e := e) (rest := rest) (Ts := gT) (own := own) (R := R) ⟨hx, hb, hml, hown, hts⟩ hM
    (⟨callB_of As.length hts (goodIn_law hcode) rfl rfl rfl (hts _ hini) (hts _ hlk) ⟨hdy.1.1, hdy.1.2, hdy.2⟩ ⟨by show 16 * d' + 1 ≤ R.frames; omega, by show 8 + (nL' + 11) + 200 * d' ≤ R.locals; omega⟩, hts _ hin, hts _ hse⟩ : CallW R s args own RJ0 ix y cc' nL' ret' _ _ 0 0 As.length)
    (H := H) ⟨pc_blind hmv, vk_recv hKK.2.2.2.2.2.2.1 hi hS, fun U hU hW => ct_pre hmv hP hD hS hA hK hKK hU hW⟩ rfl rfl hl.1 rfl (lv_room hr8) hd ⟨by omega, by omega⟩
  refine e_run (PX' := NoX) hrun hD hS hA hl (fun v M1 h => ?_) (fun Ec M1 H1 locs1 q ce h1 => absurd h1 id)
  obtain ⟨rfl, rfl⟩ := h
  exact kret
end STR
section STR2
variable {g : Gs} {ad : Nat → Nat} {sk : (Nat → Nat) × (Nat → Nat)} {M : Mem} {i : Nat}
theorem s_coder (hi : i < 3) : Sp (wC g ad sk) yJ0_coder_7d493 cJ0_coder_7d493 1 (some .byte) 1 [.ref (sk.1 i)] M (some (vI 0)) M := by
  intro l9 hl9
  refine ct_of hl9 mi_J0_coder.2.2.2 (Nat.le_of_ble_eq_true rfl) (fun X _ C Y => ?_)
  show E (wC g ad sk) X 0 0 M 0 [(0, .ref (sk.1 i))] []
  refine e_getCS C dJ0_coder_7d493_0 ?_
  refine e_if_eq C 13 (by decide) dJ0_coder_7d493_3 (by decide) (fun c9 => absurd c9 (by decide)) (fun _ => ?_)
  refine e_aload_n C 0 dJ0_coder_7d493_6 rfl ?_
  refine e_strC hi C dJ0_coder_7d493_7 ?_
  refine e_goto C 14 dJ0_coder_7d493_10 (by decide) ?_
  exact e_nret C Y (Nat.zero_le _) (Nat.zero_le _) rfl dJ0_coder_7d493_14 ⟨rfl, rfl⟩
theorem s_isLatin1 (hi : i < 3) : Sp (wC g ad sk) yJ0_isLatin1_aae02 cJ0_isLatin1_aae02 1 (some .boolean) 1 [.ref (sk.1 i)] M (some (vI 1)) M := by
  intro l9 hl9
  refine ct_of hl9 mi_J0_isLatin1.2.2.2 (Nat.le_of_ble_eq_true rfl) (fun X _ C Y => ?_)
  show E (wC g ad sk) X 0 0 M 0 [(0, .ref (sk.1 i))] []
  refine e_getCS C dJ0_isLatin1_aae02_0 ?_
  refine e_if_eq C 17 (by decide) dJ0_isLatin1_aae02_3 (by decide) (fun c9 => absurd c9 (by decide)) (fun _ => ?_)
  refine e_aload_n C 0 dJ0_isLatin1_aae02_6 rfl ?_
  refine e_strC hi C dJ0_isLatin1_aae02_7 ?_
  refine e_if_ne C 17 (by decide) dJ0_isLatin1_aae02_10 (by decide) (fun c9 => absurd rfl c9) (fun _ => ?_)
  refine e_iconst C dJ0_isLatin1_aae02_13 ?_
  refine e_goto C 18 dJ0_isLatin1_aae02_14 (by decide) ?_
  exact e_zret C Y (Nat.zero_le _) (Nat.zero_le _) (Or.inr rfl) dJ0_isLatin1_aae02_18 ⟨rfl, rfl⟩
def lnN (i : Nat) : Int := ((lenN.getD i 0 : Nat) : Int)
theorem lnN_e : ∀ i, i < 3 → Int32.ofNat (lenN.getD i 0) = i32 (lnN i) ∧ ishrI (lnN i) 0 = lnN i ∧ 2 ≤ lnN i ∧ lnN i ≤ 4 := by decide +kernel
theorem s_length (hi : i < 3) : Sp (wC g ad sk) yJ0_length_8abf5 cJ0_length_8abf5 1 (some .int) 2 [.ref (sk.1 i)] M (some (vI (lnN i))) M := by
  intro l9 hl9
  refine ct_of hl9 mi_J0_length.2.2.2 (Nat.le_of_ble_eq_true rfl) (fun X _ C Y => ?_)
  show E (wC g ad sk) X 0 0 M 0 [(0, .ref (sk.1 i))] []
  refine e_aload_n C 0 dJ0_length_8abf5_0 rfl ?_
  refine e_strV hi C dJ0_length_8abf5_1 ?_
  refine e_strL hi (lnN_e i hi).1 C dJ0_length_8abf5_4 ?_
  refine e_aload_n C 0 dJ0_length_8abf5_5 rfl ?_
  refine e_callKD (As := []) (rest := [vI (lnN i)]) hi C Y mi_J0_coder (tg3 59 rfl rfl) (tg3 60 rfl rfl) (tg3 58 rfl rfl) (s_coder hi) (by decide) (Nat.le_of_ble_eq_true rfl) (Nat.zero_le _) (Nat.zero_le _) dJ0_length_8abf5_6 rfl ?_
  refine e_ishr C dJ0_length_8abf5_9 ?_
  rw [(lnN_e i hi).2.1]
  exact e_iret C Y (Nat.zero_le _) (Nat.zero_le _) dJ0_length_8abf5_10 ⟨rfl, rfl⟩
theorem s_check3 {a b : Int} {v : Value} (hv : v = .null ∨ ∃ t, v = .ref t) (ha : R32 a) (hb : R32 b) (h : 0 ≤ a ∧ a < b) : Sp (wC g ad sk) yJ3_checkIndex_8e157 cJ3_checkIndex_8e157 3 (some .int) 1 [vI a, vI b, v] M (some (vI a)) M := by
  intro l9 hl9
  refine ct_of hl9 mi_J3_checkIndex.2.2.2 ?_ (fun X _ C Y => ?_)
  · rcases hv with rfl | ⟨t, rfl⟩ <;> exact (Nat.le_of_ble_eq_true rfl)
  have e0 : lv_args 0 [vI a, vI b, v] = [(0, vI a), (1, vI b), (2, v)] := by rcases hv with rfl | ⟨t, rfl⟩ <;> rfl
  rw [e0]
  refine e_iload_n C 0 dJ3_checkIndex_8e157_0 rfl ?_
  refine e_if_lt C 9 ha dJ3_checkIndex_8e157_1 (by decide) (fun c9 => absurd c9 (by omega)) (fun _ => ?_)
  refine e_iload_n C 0 dJ3_checkIndex_8e157_4 rfl ?_
  refine e_iload_n C 1 dJ3_checkIndex_8e157_5 rfl ?_
  refine e_icmp_lt C 16 ha hb dJ3_checkIndex_8e157_6 (by decide) (fun _ => ?_) (fun c9 => absurd c9 (by omega))
  refine e_iload_n C 0 dJ3_checkIndex_8e157_16 rfl ?_
  exact e_iret C Y (Nat.zero_le _) (Nat.zero_le _) dJ3_checkIndex_8e157_17 ⟨rfl, rfl⟩
theorem s_check0 {a b : Int} (ha : R32 a) (hb : R32 b) (h : 0 ≤ a ∧ a < b) : Sp (wC g ad sk) yJ0_checkIndex_df160 cJ0_checkIndex_df160 2 none 2 [vI a, vI b] M none M := by
  intro l9 hl9
  refine ct_of hl9 mi_J0_checkIndex.2.2.2 (Nat.le_of_ble_eq_true rfl) (fun X _ C Y => ?_)
  show E (wC g ad sk) X 0 0 M 0 [(0, vI a), (1, vI b)] []
  refine e_iload_n C 0 dJ0_checkIndex_df160_0 rfl ?_
  refine e_iload_n C 1 dJ0_checkIndex_df160_1 rfl ?_
  refine e_getSF C dJ0_checkIndex_df160_2 (fun v hv => ?_)
  refine e_callSD (As := [vI a, vI b, v]) (rest := []) C Y mi_J3_checkIndex (tg3 81 rfl rfl) (tg3 80 rfl rfl) (s_check3 hv ha hb h) (by decide) (Nat.le_of_ble_eq_true rfl) (Nat.zero_le _) (Nat.zero_le _) dJ0_checkIndex_df160_5 rfl ?_
  refine e_pop C rfl dJ0_checkIndex_df160_8 ?_
  exact e_vret C Y (Nat.zero_le _) (Nat.zero_le _) dJ0_checkIndex_df160_9 ⟨rfl, rfl⟩
theorem chN_e : ∀ i, i < 3 → ∀ j, j < 4 → iandI (chN i (j : Nat)) 255 = chN i (j : Nat) ∧ (0 ≤ chN i (j : Nat) ∧ chN i (j : Nat) < 128) := by decide +kernel
theorem chN_i {i : Nat} {j : Int} (hi : i < 3) (hj : 0 ≤ j ∧ j < lnN i) : iandI (chN i j) 255 = chN i j ∧ (0 ≤ chN i j ∧ chN i j < 128) := by
  have l := lnN_e i hi
  have := chN_e i hi j.toNat (by omega)
  rwa [show ((j.toNat : Nat) : Int) = j by omega] at this
theorem nar_ch {a : Int} (h : 0 ≤ a ∧ a < 128) : narrow .char (vI a) = vI a := by
  have h2 : ∀ x : Nat, x < 128 → narrow .char (vI (x : Int)) = vI (x : Int) := by decide +kernel
  have := h2 a.toNat (by omega)
  rwa [show ((a.toNat : Nat) : Int) = a by omega] at this
theorem s_charAt1 {j : Int} (hi : i < 3) (hj : 0 ≤ j ∧ j < lnN i) : Sp (wC g ad sk) yJ1_charAt_3b067 cJ1_charAt_3b067 2 (some .char) 3 [.ref (sk.2 i), vI j] M (some (vI (chN i j))) M := by
  have l := lnN_e i hi
  have c := chN_i hi hj
  intro l9 hl9
  refine ct_of hl9 mi_J1_charAt.2.2.2 (Nat.le_of_ble_eq_true rfl) (fun X _ C Y => ?_)
  show E (wC g ad sk) X 0 0 M 0 [(0, .ref (sk.2 i)), (1, vI j)] []
  refine e_iload_n C 1 dJ1_charAt_3b067_0 rfl ?_
  refine e_aload_n C 0 dJ1_charAt_3b067_1 rfl ?_
  refine e_strL hi l.1 C dJ1_charAt_3b067_2 ?_
  refine e_callSD (As := [vI j, vI (lnN i)]) (rest := []) C Y mi_J0_checkIndex (tg3 76 rfl rfl) (tg3 75 rfl rfl) (s_check0 (by omega) (by omega) hj) (by decide) (Nat.le_of_ble_eq_true rfl) (Nat.zero_le _) (Nat.zero_le _) dJ1_charAt_3b067_3 rfl ?_
  refine e_aload_n C 0 dJ1_charAt_3b067_6 rfl ?_
  refine e_iload_n C 1 dJ1_charAt_3b067_7 rfl ?_
  refine e_strB hi hj (by have := l.2.2.2; unfold lnN at this; omega) C dJ1_charAt_3b067_8 ?_
  refine e_sipush C dJ1_charAt_3b067_9 (by decide) ?_
  refine e_iand C dJ1_charAt_3b067_12 ?_
  rw [c.1]
  refine e_i2c C (by omega) dJ1_charAt_3b067_13 ?_
  exact e_nret C Y (Nat.zero_le _) (Nat.zero_le _) (nar_ch c.2) dJ1_charAt_3b067_14 ⟨rfl, rfl⟩
theorem s_charAt0 {j : Int} (hi : i < 3) (hj : 0 ≤ j ∧ j < lnN i) : Sp (wC g ad sk) yJ0_charAt_5068e cJ0_charAt_5068e 2 (some .char) 5 [.ref (sk.1 i), vI j] M (some (vI (chN i j))) M := by
  have c := chN_i hi hj
  intro l9 hl9
  refine ct_of hl9 mi_J0_charAt.2.2.2 (Nat.le_of_ble_eq_true rfl) (fun X _ C Y => ?_)
  show E (wC g ad sk) X 0 0 M 0 [(0, .ref (sk.1 i)), (1, vI j)] []
  refine e_aload_n C 0 dJ0_charAt_5068e_0 rfl ?_
  refine e_callKD (As := []) (rest := []) hi C Y mi_J0_isLatin1 (tg3 69 rfl rfl) (tg3 70 rfl rfl) (tg3 68 rfl rfl) (s_isLatin1 hi) (by decide) (Nat.le_of_ble_eq_true rfl) (Nat.zero_le _) (Nat.zero_le _) dJ0_charAt_5068e_1 rfl ?_
  refine e_if_eq C 16 (by decide) dJ0_charAt_5068e_4 (by decide) (fun c9 => absurd c9 (by decide)) (fun _ => ?_)
  refine e_aload_n C 0 dJ0_charAt_5068e_7 rfl ?_
  refine e_strV hi C dJ0_charAt_5068e_8 ?_
  refine e_iload_n C 1 dJ0_charAt_5068e_11 rfl ?_
  refine e_callSD (As := [.ref (sk.2 i), vI j]) (rest := []) C Y mi_J1_charAt (tg3 73 rfl rfl) (tg3 72 rfl rfl) (s_charAt1 hi hj) (by decide) (Nat.le_of_ble_eq_true rfl) (Nat.zero_le _) (Nat.zero_le _) dJ0_charAt_5068e_12 rfl ?_
  exact e_nret C Y (Nat.zero_le _) (Nat.zero_le _) (nar_ch c.2) dJ0_charAt_5068e_15 ⟨rfl, rfl⟩
end STR2
