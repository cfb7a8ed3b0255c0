/-! ===== sets of games as words ===== -/
/-- bit g of a word -/
def tb (x g : Int) : Bool := (i64 x).toBitVec.getLsbD g.toNat
theorem i64_ti (y : Int64) : i64 y.toInt = y := Int64.ofInt_toInt y
theorem tb_and (a b g : Int) : tb (landL a b) g = (tb a g && tb b g) := by
  unfold tb landL
  rw [i64_ti, Int64.toBitVec_and, BitVec.getLsbD_and]
theorem tb_or (a b g : Int) : tb (lorL a b) g = (tb a g || tb b g) := by
  unfold tb lorL
  rw [i64_ti, Int64.toBitVec_or, BitVec.getLsbD_or]
theorem tb_xor (a b g : Int) : tb (lxorL a b) g = (tb a g ^^ tb b g) := by
  unfold tb lxorL
  rw [i64_ti, Int64.toBitVec_xor, BitVec.getLsbD_xor]
theorem fin_of {g : Int} (h : 0 ≤ g ∧ g < 64) : ∃ i : Fin 64, g = (i.val : Int) := ⟨⟨g.toNat, by omega⟩, by simp; omega⟩
theorem tb_m1 {g : Int} (h : 0 ≤ g ∧ g < 64) : tb (-1) g = true := by
  obtain ⟨i, rfl⟩ := fin_of h
  revert i
  decide +kernel
theorem tb_0 {g : Int} (h : 0 ≤ g ∧ g < 64) : tb 0 g = false := by
  obtain ⟨i, rfl⟩ := fin_of h
  revert i
  decide +kernel
theorem tb_bit {k g : Int} (hk : 0 ≤ k ∧ k < 64) (h : 0 ≤ g ∧ g < 64) : tb (lshlL 1 k) g = decide (g = k) := by
  obtain ⟨i, rfl⟩ := fin_of h
  obtain ⟨j, rfl⟩ := fin_of hk
  revert i j
  decide +kernel
theorem bit_v {k : Int} (hk : 0 ≤ k ∧ k < 62) : lshlL 1 k = 2 ^ k.toNat := by
  obtain ⟨j, rfl⟩ := fin_of (g := k) (by omega)
  revert j
  decide +kernel
theorem sh_am {g : Int} (h : 0 ≤ g ∧ g < 64) : ((i32 g).toInt64.toUInt64 &&& Int64.toUInt64 63) = UInt64.ofNat g.toNat := by
  obtain ⟨i, rfl⟩ := fin_of h
  revert i
  decide +kernel
theorem r64_i {a : Int} (h : R64 a) : (i64 a).toInt = a := Int64.toInt_ofInt_of_le (by omega) (by omega)
theorem tb_ext {a b : Int} (ha : R64 a) (hb : R64 b) (h : ∀ g, 0 ≤ g → g < 64 → tb a g = tb b g) : a = b := by
  have : i64 a = i64 b := by
    apply Int64.toBitVec_inj.mp
    apply BitVec.eq_of_getLsbD_eq
    intro i hi
    have := h i (by omega) (by omega)
    unfold tb at this
    simpa using this
  rw [← r64_i ha, ← r64_i hb, this]
theorem sh_md {g : Int} (h : 0 ≤ g ∧ g < 64) : (UInt64.ofNat g.toNat).toBitVec % 64 = BitVec.ofNat 64 g.toNat := by
  obtain ⟨i, rfl⟩ := fin_of h
  revert i
  decide +kernel
theorem has_tb {x g : Int} (h : 0 ≤ g ∧ g < 64) : hasB x g ↔ tb x g = true := by
  unfold hasB tb
  have e : landL (lushrL x g) 1 = (((i64 x).toUInt64 >>> UInt64.ofNat g.toNat).toInt64 &&& 1).toInt := by
    unfold landL lushrL
    rw [i64_ti, sh_am h]
    rfl
  rw [e]
  have e2 : (((i64 x).toUInt64 >>> UInt64.ofNat g.toNat).toInt64 &&& 1) = 0 ↔ (i64 x).toBitVec.getLsbD g.toNat = false := by
    have hs := sh_md h
    have hn : (BitVec.ofNat 64 g.toNat).toNat = g.toNat := by
      rw [BitVec.toNat_ofNat, Nat.mod_eq_of_lt (by omega)]
    have e3 : (((i64 x).toUInt64 >>> UInt64.ofNat g.toNat).toInt64 &&& 1).toBitVec = ((i64 x).toBitVec >>> g.toNat) &&& 1#64 := by
      rw [Int64.toBitVec_and]
      show ((i64 x).toUInt64 >>> UInt64.ofNat g.toNat).toBitVec &&& 1#64 = _
      rw [UInt64.toBitVec_shiftRight, hs, BitVec.ushiftRight_eq', hn]
      rfl
    rw [← Int64.toBitVec_inj, e3, BitVec.and_one_eq_setWidth_ofBool_getLsbD, BitVec.getLsbD_ushiftRight, Nat.add_zero]
    cases (i64 x).toBitVec.getLsbD g.toNat <;> decide
  constructor
  · intro q
    rcases hb : (i64 x).toBitVec.getLsbD g.toNat with _ | _
    · exact absurd (by rw [e2.mpr hb]; rfl) q
    · rfl
  · intro q k
    have : (((i64 x).toUInt64 >>> UInt64.ofNat g.toNat).toInt64 &&& 1) = 0 := Int64.toInt_inj.mp k
    rw [e2.mp this] at q
    exact absurd q (by decide)
