/-! ===== Long.bitCount ===== -/
section L2I
variable {g : Gs} {ad : Nat → Nat} {sk : (Nat → Nat) × (Nat → Nat)} {X : Cx} {cc : ByteArray} {own : String} {nL d mc ms k n : Nat} {M : Mem} {pc : Nat} {lv : List (Nat × Value)} {st : List Value}
theorem e_l2i' {a : Int} (C : OkB (wC g ad sk) X cc own nL d mc ms) (hd : decode cc pc = .ok (.l2i, 1)) (kk : E (wC g ad sk) X k n M (pc + 1) lv (vI a :: st)) : E (wC g ad sk) X k n M pc lv (vL a :: st) := by
  obtain ⟨p, l, e, R, s, m, args, below, meth, c, A, Q, nL9⟩ := X
  obtain ⟨hx, hb, hml, hown, hts, hA, hK, hKK, hmv, rfl, hfr, hlo, hmc, hms, hlk2, htb⟩ := C
  intro hw H locs ls hP hD hS hl
  refine lv_l2i hx hb hd ?_ (kk hw H locs ls hP hD hS hl)
  exact Int64.toInt32_ofInt
end L2I
def bcY1 (x : Int) : Int := x - landL (lushrL x 1) 6148914691236517205
def bcY2 (x : Int) : Int := landL (bcY1 x) 3689348814741910323 + landL (lushrL (bcY1 x) 2) 3689348814741910323
def bcY3 (x : Int) : Int := landL (bcY2 x + lushrL (bcY2 x) 4) 1085102592571150095
def bcY4 (x : Int) : Int := bcY3 x + lushrL (bcY3 x) 8
def bcY5 (x : Int) : Int := bcY4 x + lushrL (bcY4 x) 16
def bcY (x : Int) : Int := bcY5 x + lushrL (bcY5 x) 32
theorem bitC {g : Gs} {ad : Nat → Nat} {sk : (Nat → Nat) × (Nat → Nat)} {X : Cx} {mc ms k n : Nat} {PQ : Option Value → Mem → Prop} {PX : String → Mem → Prop} {M : Mem} {x0 : Int} (r0 : R64 x0) (hk : k ≤ mc) (hn : n ≤ ms) (C : OkB (wC g ad sk) X cJ13_bitCount_95d88 RJ13 2 1 mc ms) (Y : OkR (wC g ad sk) X (some .int) mc ms PQ PX) (H : PQ (some (vI (iandI (bcY x0) 127))) M) : E (wC g ad sk) X k n M 0 [(0, vL x0)] [] := by
  refine e_wf (fun hw0 => ?_)
  refine e_lload_n C 0 dJ13_bitCount_95d88_0 rfl ?_
  refine e_lload_n C 0 dJ13_bitCount_95d88_1 rfl ?_
  refine e_iconst C dJ13_bitCount_95d88_2 ?_
  refine e_lushr C dJ13_bitCount_95d88_3 ?_
  refine e_ldc2 C (v := 6148914691236517205) (tg2 136 rfl rfl) (by decide) dJ13_bitCount_95d88_4 ?_
  refine e_land C dJ13_bitCount_95d88_7 ?_
  refine e_lsub C dJ13_bitCount_95d88_8 ?_
  refine e_lstore_n C dJ13_bitCount_95d88_9 (by decide) rfl ?_
  refine e_lload_n C 0 dJ13_bitCount_95d88_10 rfl ?_
  refine e_ldc2 C (v := 3689348814741910323) (tg2 137 rfl rfl) (by decide) dJ13_bitCount_95d88_11 ?_
  refine e_land C dJ13_bitCount_95d88_14 ?_
  refine e_lload_n C 0 dJ13_bitCount_95d88_15 rfl ?_
  refine e_iconst C dJ13_bitCount_95d88_16 ?_
  refine e_lushr C dJ13_bitCount_95d88_17 ?_
  refine e_ldc2 C (v := 3689348814741910323) (tg2 137 rfl rfl) (by decide) dJ13_bitCount_95d88_18 ?_
  refine e_land C dJ13_bitCount_95d88_21 ?_
  refine e_ladd C dJ13_bitCount_95d88_22 ?_
  refine e_lstore_n C dJ13_bitCount_95d88_23 (by decide) rfl ?_
  refine e_lload_n C 0 dJ13_bitCount_95d88_24 rfl ?_
  refine e_lload_n C 0 dJ13_bitCount_95d88_25 rfl ?_
  refine e_iconst C dJ13_bitCount_95d88_26 ?_
  refine e_lushr C dJ13_bitCount_95d88_27 ?_
  refine e_ladd C dJ13_bitCount_95d88_28 ?_
  refine e_ldc2 C (v := 1085102592571150095) (tg2 138 rfl rfl) (by decide) dJ13_bitCount_95d88_29 ?_
  refine e_land C dJ13_bitCount_95d88_32 ?_
  refine e_lstore_n C dJ13_bitCount_95d88_33 (by decide) rfl ?_
  refine e_lload_n C 0 dJ13_bitCount_95d88_34 rfl ?_
  refine e_lload_n C 0 dJ13_bitCount_95d88_35 rfl ?_
  refine e_bipush C dJ13_bitCount_95d88_36 (by decide) ?_
  refine e_lushr C dJ13_bitCount_95d88_38 ?_
  refine e_ladd C dJ13_bitCount_95d88_39 ?_
  refine e_lstore_n C dJ13_bitCount_95d88_40 (by decide) rfl ?_
  refine e_lload_n C 0 dJ13_bitCount_95d88_41 rfl ?_
  refine e_lload_n C 0 dJ13_bitCount_95d88_42 rfl ?_
  refine e_bipush C dJ13_bitCount_95d88_43 (by decide) ?_
  refine e_lushr C dJ13_bitCount_95d88_45 ?_
  refine e_ladd C dJ13_bitCount_95d88_46 ?_
  refine e_lstore_n C dJ13_bitCount_95d88_47 (by decide) rfl ?_
  refine e_lload_n C 0 dJ13_bitCount_95d88_48 rfl ?_
  refine e_lload_n C 0 dJ13_bitCount_95d88_49 rfl ?_
  refine e_bipush C dJ13_bitCount_95d88_50 (by decide) ?_
  refine e_lushr C dJ13_bitCount_95d88_52 ?_
  refine e_ladd C dJ13_bitCount_95d88_53 ?_
  refine e_lstore_n C dJ13_bitCount_95d88_54 (by decide) rfl ?_
  refine e_lload_n C 0 dJ13_bitCount_95d88_55 rfl ?_
  refine e_l2i' C dJ13_bitCount_95d88_56 ?_
  refine e_bipush C dJ13_bitCount_95d88_57 (by decide) ?_
  refine e_iand C dJ13_bitCount_95d88_59 ?_
  exact e_iret C Y hk hn dJ13_bitCount_95d88_60 H
def nv (x : Int) : Nat := (i64 x).toBitVec.toNat
theorem nv_lt (x : Int) : nv x < 18446744073709551616 := (i64 x).toBitVec.isLt
theorem nv_and (a b : Int) : nv (landL a b) = nv a &&& nv b := by
  unfold nv landL
  rw [i64_ti, Int64.toBitVec_and, BitVec.toNat_and]
theorem nv_add (a b : Int) : nv (a + b) = (nv a + nv b) % 18446744073709551616 := by
  unfold nv
  rw [show i64 (a + b) = i64 a + i64 b from Int64.ofInt_add a b, Int64.toBitVec_add, BitVec.toNat_add]
theorem nv_sub {a b : Int} (h : nv b ≤ nv a) : nv (a - b) = nv a - nv b := by
  have h1 := nv_lt a
  unfold nv at *
  rw [show i64 (a - b) = i64 a - i64 b from Int64.ofInt_sub a b, Int64.toBitVec_sub, BitVec.toNat_sub]
  omega
theorem nv_shr {a k : Int} (h : 0 ≤ k ∧ k < 64) : nv (lushrL a k) = nv a / 2 ^ k.toNat := by
  unfold nv lushrL
  rw [i64_ti, sh_am h]
  have hn : (BitVec.ofNat 64 k.toNat).toNat = k.toNat := by
    rw [BitVec.toNat_ofNat, Nat.mod_eq_of_lt (by omega)]
  show ((i64 a).toUInt64 >>> UInt64.ofNat k.toNat).toBitVec.toNat = _
  rw [UInt64.toBitVec_shiftRight, sh_md h, BitVec.ushiftRight_eq', hn, BitVec.toNat_ushiftRight, Nat.shiftRight_eq_div_pow]
  exact congrArg (fun v : BitVec 64 => v.toNat / 2 ^ k.toNat) (show (i64 a).toUInt64.toBitVec = (i64 a).toBitVec from rfl)
theorem ln_cg {f h : Nat → Nat} (e : ∀ a, a < 256 → f a = h a) : ∀ k n, ln f k n = ln h k n := by
  intro k
  induction k with
  | zero => intro n; rfl
  | succ k ih => intro n; rw [ln, ln, e _ (Nat.mod_lt _ (by decide)), ih]
theorem sm_b : ∀ k n, Sm k n → 2 * n < 256 ^ k := by
  intro k
  induction k with
  | zero => intro n h; rw [Sm] at h; omega
  | succ k ih =>
    intro n h
    obtain ⟨h1, -, h3⟩ := h
    have := ih _ h3
    rw [Nat.pow_succ]
    omega
theorem p256 : (256 : Nat) ^ 8 = 18446744073709551616 := by decide +kernel
theorem k85 : nv 6148914691236517205 = ln (fun _ => 85) 8 0 := by decide +kernel
theorem k51 : nv 3689348814741910323 = ln (fun _ => 51) 8 0 := by decide +kernel
theorem k15 : nv 1085102592571150095 = ln (fun _ => 15) 8 0 := by decide +kernel
theorem nv_1 (a : Int) : nv (lushrL a 1) = nv a / 2 := (nv_shr (k := 1) (by omega)).trans (congrArg (nv a / ·) (by decide +kernel))
theorem nv_2 (a : Int) : nv (lushrL a 2) = nv a / 4 := (nv_shr (k := 2) (by omega)).trans (congrArg (nv a / ·) (by decide +kernel))
theorem nv_4 (a : Int) : nv (lushrL a 4) = nv a / 16 := (nv_shr (k := 4) (by omega)).trans (congrArg (nv a / ·) (by decide +kernel))
theorem nv_8 (a : Int) : nv (lushrL a 8) = nv a / 256 := (nv_shr (k := 8) (by omega)).trans (congrArg (nv a / ·) (by decide +kernel))
theorem nv_16 (a : Int) : nv (lushrL a 16) = nv a / 65536 := (nv_shr (k := 16) (by omega)).trans (congrArg (nv a / ·) (by decide +kernel))
theorem nv_32 (a : Int) : nv (lushrL a 32) = nv a / 4294967296 := (nv_shr (k := 32) (by omega)).trans (congrArg (nv a / ·) (by decide +kernel))
theorem ar1 {b T U K : Nat} (t : T = b + 256 * U) (hb : b ≤ 8) (hu : U ≤ K) : T ≤ 8 + 256 * K := by omega
theorem ar2 {b T v : Nat} (y : v = b + 256 * T) (hb : b ≤ 8) : v / 256 = T := by omega
theorem ar3 {b0 b1 b2 T1 T2 T3 : Nat} (t1 : T1 = b1 + 256 * T2) (t2 : T2 = b2 + 256 * T3) : b0 + 256 * T1 + T1 = (b0 + 257 * b1 + 256 * b2) + 65536 * (b2 + 257 * T3) := by omega
theorem ar4 {lo Q v : Nat} (y : v = lo + 65536 * Q) (h : lo ≤ 5000) : v / 65536 = Q := by omega
theorem ar5 {b2 b3 b4 T3 T4 T5 : Nat} (t3 : T3 = b3 + 256 * T4) (t4 : T4 = b4 + 256 * T5) : b2 + 257 * T3 = (b2 + 257 * b3 + 256 * b4) + 65536 * (b4 + 257 * T5) := by omega
theorem ar6 {lo Q q0 q1 Q1 Q2 : Nat} (h0 : Q = q0 + 65536 * Q1) (h1 : Q1 = q1 + 65536 * Q2) : lo + 65536 * Q + Q = (lo + 65537 * q0 + 65536 * q1) + 4294967296 * (Q1 + Q2) := by omega
theorem ar7 {a B : Nat} (h : a ≤ 3000000000) : (a + 4294967296 * B) / 4294967296 = B := by
  rw [Nat.add_mul_div_left _ _ (by decide), Nat.div_eq_of_lt (by omega), Nat.zero_add]
theorem ar8 {lo q0 q1 B b0 b1 b2 b3 b4 : Nat} (el : lo = b0 + 257 * b1 + 256 * b2) (e0 : q0 = b2 + 257 * b3 + 256 * b4) (a0 : b0 ≤ 8) (a1 : b1 ≤ 8) (a2 : b2 ≤ 8) (a3 : b3 ≤ 8) : (lo + 65537 * q0 + 65536 * q1 + 4294967296 * B) % 128 = b0 + b1 + b2 + b3 := by
  have : lo + 65537 * q0 + 65536 * q1 + 4294967296 * B = (b0 + b1 + b2 + b3) + 128 * (2 * b1 + 2 * b2 + 512 * q0 + 2 * b3 + 2 * b4 + 512 * q1 + 33554432 * B) := by omega
  rw [this, Nat.add_mul_mod_self_left, Nat.mod_eq_of_lt (by omega)]
theorem ar9 {q1 Q1 Q2 b4 b5 b6 b7 : Nat} (e1 : q1 = b4 + 257 * b5 + 256 * b6) (h1 : Q1 = q1 + 65536 * Q2) (h2 : Q2 = b6 + 257 * b7) (a4 : b4 ≤ 8) (a5 : b5 ≤ 8) (a6 : b6 ≤ 8) (a7 : b7 ≤ 8) : (Q1 + Q2) % 128 = b4 + b5 + b6 + b7 := by
  have : Q1 + Q2 = (b4 + b5 + b6 + b7) + 128 * (2 * b5 + 2 * b6 + 512 * Q2 + 2 * b7) := by omega
  rw [this, Nat.add_mul_mod_self_left, Nat.mod_eq_of_lt (by omega)]
theorem ar10 {lo Q : Nat} (h : lo ≤ 5000) (hq : Q ≤ 8865081987088) : lo + 65536 * Q < 18446744073709551616 ∧ lo + 65536 * Q + Q < 18446744073709551616 := by omega
theorem ar11 {b T : Nat} (hb : b ≤ 8) (hT : T ≤ 34494482440) : b + 257 * T ≤ 8865081987088 := by omega
theorem ar12 {a b c : Nat} (ha : a ≤ 8) (hb : b ≤ 8) (hc : c ≤ 8) : a + 257 * b + 256 * c ≤ 5000 := by omega
theorem ar13 {a b c : Nat} (ha : a ≤ 5000) (hb : b ≤ 5000) (hc : c ≤ 5000) : a + 65537 * b + 65536 * c ≤ 3000000000 := by omega
theorem ar14 {v Q1 Q2 : Nat} (h : v < 1000000000000000000) (h1 : Q1 ≤ 135270416) (h2 : Q2 ≤ 2064) : v + (Q1 + Q2) < 18446744073709551616 := by omega
theorem ar15 {lo Q : Nat} (h : lo ≤ 5000) (hq : Q ≤ 8865081987088) : lo + 65536 * Q + Q < 1000000000000000000 := by omega
theorem ar16 {b T : Nat} (hb : b ≤ 8) (hT : T ≤ 526344) : b + 257 * T ≤ 135270416 := by omega
theorem ar17 {b T : Nat} (hb : b ≤ 8) (hT : T ≤ 8) : b + 257 * T ≤ 2064 := by omega
theorem ar18 {a b c d e f g h : Nat} (h1 : a ≤ 8) (h2 : b ≤ 8) (h3 : c ≤ 8) (h4 : d ≤ 8) (h5 : e ≤ 8) (h6 : f ≤ 8) (h7 : g ≤ 8) (h8 : h ≤ 8) : (a + b + c + d + (e + f + g + h)) % 128 = a + (b + (c + (d + (e + (f + (g + (h + 0))))))) := by
  rw [Nat.mod_eq_of_lt (by omega)]; omega
theorem bc_ar {b0 b1 b2 b3 b4 b5 b6 b7 v3 v4 v5 v6 : Nat} (y3 : v3 = b0 + 256 * (b1 + 256 * (b2 + 256 * (b3 + 256 * (b4 + 256 * (b5 + 256 * (b6 + 256 * (b7 + 256 * 0)))))))) (y4 : v4 = (v3 + v3 / 256) % 18446744073709551616) (y5 : v5 = (v4 + v4 / 65536) % 18446744073709551616) (y6 : v6 = (v5 + v5 / 4294967296) % 18446744073709551616) (a0 : b0 ≤ 8) (a1 : b1 ≤ 8) (a2 : b2 ≤ 8) (a3 : b3 ≤ 8) (a4 : b4 ≤ 8) (a5 : b5 ≤ 8) (a6 : b6 ≤ 8) (a7 : b7 ≤ 8) : v6 % 128 = b0 + (b1 + (b2 + (b3 + (b4 + (b5 + (b6 + (b7 + 0))))))) := by
  obtain ⟨T6, t6⟩ : ∃ T, T = b6 + 256 * b7 := ⟨_, rfl⟩
  obtain ⟨T5, t5⟩ : ∃ T, T = b5 + 256 * T6 := ⟨_, rfl⟩
  obtain ⟨T4, t4⟩ : ∃ T, T = b4 + 256 * T5 := ⟨_, rfl⟩
  obtain ⟨T3, t3⟩ : ∃ T, T = b3 + 256 * T4 := ⟨_, rfl⟩
  obtain ⟨T2, t2⟩ : ∃ T, T = b2 + 256 * T3 := ⟨_, rfl⟩
  obtain ⟨T1, t1⟩ : ∃ T, T = b1 + 256 * T2 := ⟨_, rfl⟩
  have y3' : v3 = b0 + 256 * T1 := by rw [y3, t1, t2, t3, t4, t5, t6, Nat.mul_zero, Nat.add_zero]
  have u6 : T6 ≤ 2056 := ar1 t6 a6 a7
  have u5 : T5 ≤ 526344 := ar1 t5 a5 u6
  have u4 : T4 ≤ 134744072 := ar1 t4 a4 u5
  have u3 : T3 ≤ 34494482440 := ar1 t3 a3 u4
  have d3 : v3 / 256 = T1 := ar2 y3' a0
  have k6 : b4 + 257 * T5 = (b4 + 257 * b5 + 256 * b6) + 65536 * (b6 + 257 * b7) := ar5 t5 t6
  have k3 : b2 + 257 * T3 = (b2 + 257 * b3 + 256 * b4) + 65536 * (b4 + 257 * T5) := ar5 t3 t4
  have z4 : v4 = (b0 + 257 * b1 + 256 * b2) + 65536 * (b2 + 257 * T3) := by
    rw [y4, d3, y3', ar3 t1 t2]
    exact Nat.mod_eq_of_lt (ar10 (ar12 a0 a1 a2) (ar11 a2 u3)).1
  have d4 := ar4 z4 (ar12 a0 a1 a2)
  have z5 : v5 = (b0 + 257 * b1 + 256 * b2) + 65536 * (b2 + 257 * T3) + (b2 + 257 * T3) := by
    rw [y5, d4, z4]
    exact Nat.mod_eq_of_lt (ar10 (ar12 a0 a1 a2) (ar11 a2 u3)).2
  have z5' := z5.trans (ar6 k3 k6)
  have d5 : v5 / 4294967296 = (b4 + 257 * T5) + (b6 + 257 * b7) := by
    rw [z5']
    exact ar7 (ar13 (ar12 a0 a1 a2) (ar12 a2 a3 a4) (ar12 a4 a5 a6))
  have z6 : v6 = v5 + ((b4 + 257 * T5) + (b6 + 257 * b7)) := by
    rw [y6, d5]
    exact Nat.mod_eq_of_lt (ar14 (by rw [z5]; exact ar15 (ar12 a0 a1 a2) (ar11 a2 u3)) (ar16 a4 u5) (ar17 a6 a7))
  have m5 : v5 % 128 = b0 + b1 + b2 + b3 := by
    rw [z5']
    exact ar8 rfl rfl a0 a1 a2 a3
  have m1 : ((b4 + 257 * T5) + (b6 + 257 * b7)) % 128 = b4 + b5 + b6 + b7 := ar9 rfl k6 rfl a4 a5 a6 a7
  rw [z6, Nat.add_mod, m5, m1]
  exact ar18 a0 a1 a2 a3 a4 a5 a6 a7
theorem bc_nv (x : Int) : nv (bcY x) % 128 = cn (nv x) 64 := by
  have hx := nv_lt x
  obtain ⟨n, hn⟩ : ∃ n, n = nv x := ⟨_, rfl⟩
  have hx' : n < 256 ^ 8 := by rw [hn, p256]; exact hx
  have y1 : nv (bcY1 x) = ln f1 8 n := by
    obtain ⟨a, b⟩ := (st1 8 n).2 hx'
    have e : nv (landL (lushrL x 1) 6148914691236517205) = (n / 2) &&& ln (fun _ => 85) 8 0 := by
      rw [nv_and, nv_1, ← hn, k85]
    unfold bcY1
    rw [nv_sub (by rw [e, ← hn]; exact b), e, ← hn]
    exact a
  have q1 : ∀ a, a < 256 → f1 a < 256 := fun a ha => (lo1 ⟨a, ha⟩ 0).2.2
  have q2 : ∀ a, a < 256 → f2 a < 256 := fun a ha => (lo2 ⟨a, ha⟩ 0).2
  have y2 : nv (bcY2 x) = ln (fun a => f2 (f1 a)) 8 n := by
    have e1 : nv (landL (bcY1 x) 3689348814741910323) = ln f1 8 n &&& ln (fun _ => 51) 8 0 := by rw [nv_and, y1, k51]
    have e2 : nv (landL (lushrL (bcY1 x) 2) 3689348814741910323) = (ln f1 8 n / 4) &&& ln (fun _ => 51) 8 0 := by rw [nv_and, nv_2, y1, k51]
    unfold bcY2
    rw [nv_add, e1, e2, st2, ln_ln q1]
    exact Nat.mod_eq_of_lt (by rw [← p256]; exact ln_lt (fun a ha => q2 _ (q1 a ha)) 8 n)
  have hS := sm_ln 8 n
  have hB := sm_b 8 _ hS
  have y3 : nv (bcY3 x) = ln p8 8 n := by
    have e1 : nv (bcY2 x + lushrL (bcY2 x) 4) = ln (fun a => f2 (f1 a)) 8 n + ln (fun a => f2 (f1 a)) 8 n / 16 := by
      rw [nv_add, nv_4, y2]
      refine Nat.mod_eq_of_lt ?_
      rw [p256] at hB
      omega
    unfold bcY3
    rw [nv_and, e1, k15, st3 8 _ hS, ln_ln (fun a ha => q2 _ (q1 a ha))]
    exact ln_cg (fun a ha => (lo3 ⟨a, ha⟩).1) 8 n
  have hp : ∀ m, p8 (m % 256) ≤ 8 := fun m => (lo3 ⟨m % 256, Nat.mod_lt _ (by decide)⟩).2.1
  have hc : cn n 64 = p8 (n % 256) + (p8 (n / 256 % 256) + (p8 (n / 256 / 256 % 256) + (p8 (n / 256 / 256 / 256 % 256) + (p8 (n / 256 / 256 / 256 / 256 % 256) + (p8 (n / 256 / 256 / 256 / 256 / 256 % 256) + (p8 (n / 256 / 256 / 256 / 256 / 256 / 256 % 256) + (p8 (n / 256 / 256 / 256 / 256 / 256 / 256 / 256 % 256) + 0))))))) := by
    exact (cn_by n 56).trans (congrArg (_ + ·) ((cn_by _ 48).trans (congrArg (_ + ·) ((cn_by _ 40).trans (congrArg (_ + ·) ((cn_by _ 32).trans (congrArg (_ + ·) ((cn_by _ 24).trans (congrArg (_ + ·) ((cn_by _ 16).trans (congrArg (_ + ·) ((cn_by _ 8).trans (congrArg (_ + ·) (cn_by _ 0))))))))))))))
  have hl : ln p8 8 n = p8 (n % 256) + 256 * (p8 (n / 256 % 256) + 256 * (p8 (n / 256 / 256 % 256) + 256 * (p8 (n / 256 / 256 / 256 % 256) + 256 * (p8 (n / 256 / 256 / 256 / 256 % 256) + 256 * (p8 (n / 256 / 256 / 256 / 256 / 256 % 256) + 256 * (p8 (n / 256 / 256 / 256 / 256 / 256 / 256 % 256) + 256 * (p8 (n / 256 / 256 / 256 / 256 / 256 / 256 / 256 % 256) + 256 * 0))))))) := by simp only [ln]
  have a0 := hp n
  have a1 := hp (n / 256)
  have a2 := hp (n / 256 / 256)
  have a3 := hp (n / 256 / 256 / 256)
  have a4 := hp (n / 256 / 256 / 256 / 256)
  have a5 := hp (n / 256 / 256 / 256 / 256 / 256)
  have a6 := hp (n / 256 / 256 / 256 / 256 / 256 / 256)
  have a7 := hp (n / 256 / 256 / 256 / 256 / 256 / 256 / 256)
  rw [← hn, hc]
  rw [hl] at y3
  revert y3 a0 a1 a2 a3 a4 a5 a6 a7
  generalize p8 (n % 256) = b0
  generalize p8 (n / 256 % 256) = b1
  generalize p8 (n / 256 / 256 % 256) = b2
  generalize p8 (n / 256 / 256 / 256 % 256) = b3
  generalize p8 (n / 256 / 256 / 256 / 256 % 256) = b4
  generalize p8 (n / 256 / 256 / 256 / 256 / 256 % 256) = b5
  generalize p8 (n / 256 / 256 / 256 / 256 / 256 / 256 % 256) = b6
  generalize p8 (n / 256 / 256 / 256 / 256 / 256 / 256 / 256 % 256) = b7
  intro y3 a0 a1 a2 a3 a4 a5 a6 a7
  have y4 : nv (bcY4 x) = (nv (bcY3 x) + nv (bcY3 x) / 256) % 18446744073709551616 := by unfold bcY4; rw [nv_add, nv_8]
  have y5 : nv (bcY5 x) = (nv (bcY4 x) + nv (bcY4 x) / 65536) % 18446744073709551616 := by unfold bcY5; rw [nv_add, nv_16]
  have y6 : nv (bcY x) = (nv (bcY5 x) + nv (bcY5 x) / 4294967296) % 18446744073709551616 := by unfold bcY; rw [nv_add, nv_32]
  exact bc_ar y3 y4 y5 y6 a0 a1 a2 a3 a4 a5 a6 a7
theorem bc_i (x : Int) : iandI (bcY x) 127 = (cn (nv x) 64 : Int) := by
  have h := bc_nv x
  have e : i32 (bcY x) = (i64 (bcY x)).toInt32 := Int64.toInt32_ofInt.symm
  have hc : cn (nv x) 64 < 128 := by rw [← h]; exact Nat.mod_lt _ (by decide)
  unfold iandI
  rw [e]
  have hb : ((i64 (bcY x)).toInt32 &&& i32 127).toBitVec.toNat = nv (bcY x) % 128 := by
    rw [Int32.toBitVec_and, BitVec.toNat_and, Int64.toBitVec_toInt32, BitVec.signExtend_eq_setWidth_of_le _ (by decide), BitVec.toNat_setWidth, show (i32 127).toBitVec.toNat = 2 ^ 7 - 1 by decide +kernel, Nat.and_two_pow_sub_one_eq_mod]
    unfold nv
    omega
  rw [Int32.toInt, BitVec.toInt_eq_toNat_of_lt (by rw [hb]; omega), hb, h]
theorem s_bitCount {g : Gs} {ad : Nat → Nat} {sk : (Nat → Nat) × (Nat → Nat)} {M : Mem} {x : Int} (r0 : R64 x) : Sp (wC g ad sk) yJ13_bitCount_95d88 cJ13_bitCount_95d88 2 (some .int) 1 [vL (x)] (M) (some (vI (cn (nv x) 64))) (M) := by
  intro l9 hl9
  refine ct_of hl9 mi_J13_bitCount_95d88.2.2.2 (Nat.le_of_ble_eq_true rfl) (fun X _ C Y => ?_)
  show E (wC g ad sk) X 0 0 (M) 0 [(0, vL (x))] []
  refine e_wf (fun hw => ?_)
  refine bitC r0 (Nat.le_refl _) (Nat.le_refl _) C Y ?_
  rw [bc_i]
  exact dt_r
