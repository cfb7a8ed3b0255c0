/-! ===== my layer: memories, worlds, the judgement E ===== -/
/-- a memory: a column and a place give a number -/
abbrev Mem : Type := Nat → Int → Int
def up (M : Mem) (c : Nat) (i v : Int) : Mem := fun a b => if a = c then (if b = i then v else M a b) else M a b
theorem up_s (M : Mem) (c : Nat) (i v : Int) : up M c i v c i = v := by simp [up]
theorem up_c {M : Mem} {c a : Nat} {i v b : Int} (h : a ≠ c) : up M c i v a b = M a b := by simp [up, h]
theorem up_i {M : Mem} {c : Nat} {i v b : Int} (h : b ≠ i) : up M c i v c b = M c b := by simp [up, h]
def i32 (x : Int) : Int32 := Int32.ofInt x
def i64 (x : Int) : Int64 := Int64.ofInt x
abbrev R32 (x : Int) : Prop := -2147483648 ≤ x ∧ x ≤ 2147483647
abbrev R64 (x : Int) : Prop := -9223372036854775808 ≤ x ∧ x ≤ 9223372036854775807
abbrev vI (x : Int) : Value := .int (i32 x)
abbrev vL (x : Int) : Value := .long (i64 x)
theorem i32_toInt {x : Int} (h : R32 x) : (i32 x).toInt = x := Int32.toInt_ofInt_of_le (by omega) (by omega)
theorem i64_toInt {x : Int} (h : R64 x) : (i64 x).toInt = x := Int64.toInt_ofInt_of_le (by omega) (by omega)
theorem i32_of (x : Int32) : i32 x.toInt = x := Int32.ofInt_toInt x
theorem i64_of (x : Int64) : i64 x.toInt = x := Int64.ofInt_toInt x
theorem r32_toInt (x : Int32) : R32 x.toInt := ⟨by have := x.le_toInt; omega, by have := x.toInt_lt; omega⟩
theorem r64_toInt (x : Int64) : R64 x.toInt := ⟨by have := x.le_toInt; omega, by have := x.toInt_lt; omega⟩
theorem i32_add (a b : Int) : i32 a + i32 b = i32 (a + b) := (Int32.ofInt_add a b).symm
theorem i32_sub (a b : Int) : i32 a - i32 b = i32 (a - b) := (Int32.ofInt_sub a b).symm
theorem i32_mul (a b : Int) : i32 a * i32 b = i32 (a * b) := (Int32.ofInt_mul a b).symm
theorem i32_neg (a : Int) : -i32 a = i32 (-a) := (Int32.ofInt_neg a).symm
theorem i64_add (a b : Int) : i64 a + i64 b = i64 (a + b) := (Int64.ofInt_add a b).symm
theorem i64_sub (a b : Int) : i64 a - i64 b = i64 (a - b) := (Int64.ofInt_sub a b).symm
theorem i64_mul (a b : Int) : i64 a * i64 b = i64 (a * b) := (Int64.ofInt_mul a b).symm
theorem i32_lt {a b : Int} (ha : R32 a) (hb : R32 b) : i32 a < i32 b ↔ a < b := by rw [Int32.lt_iff_toInt_lt, i32_toInt ha, i32_toInt hb]
theorem i32_le {a b : Int} (ha : R32 a) (hb : R32 b) : i32 a ≤ i32 b ↔ a ≤ b := by rw [Int32.le_iff_toInt_le, i32_toInt ha, i32_toInt hb]
theorem i32_eq {a b : Int} (ha : R32 a) (hb : R32 b) : i32 a = i32 b ↔ a = b := ⟨fun h => by rw [← i32_toInt ha, h, i32_toInt hb], fun h => by rw [h]⟩
theorem i64_lt {a b : Int} (ha : R64 a) (hb : R64 b) : i64 a < i64 b ↔ a < b := by rw [Int64.lt_iff_toInt_lt, i64_toInt ha, i64_toInt hb]
theorem i64_eq {a b : Int} (ha : R64 a) (hb : R64 b) : i64 a = i64 b ↔ a = b := ⟨fun h => by rw [← i64_toInt ha, h, i64_toInt hb], fun h => by rw [h]⟩
theorem i32_lit (n : Nat) : (OfNat.ofNat n : Int32) = i32 (n : Int) := by
  show Int32.ofNat n = Int32.ofInt n
  exact (Int32.ofInt_eq_ofNat ..).symm
theorem tdiv_r {a b : Int} (ha : R32 a) (hb : R32 b) (h : b ≠ -1) : R32 (a.tdiv b) := by
  by_cases hb0 : b = 1
  · subst hb0
    rw [Int.tdiv_one]
    exact ha
  have h1 : (a.tdiv b).natAbs = a.natAbs / b.natAbs := Int.natAbs_tdiv a b
  have h2 : a.natAbs / b.natAbs ≤ a.natAbs := Nat.div_le_self _ _
  generalize a.tdiv b = t at h1 ⊢
  by_cases hb1 : b = 0
  · subst hb1
    have e2 : a.natAbs / (0 : Int).natAbs = 0 := Nat.div_zero _
    rw [e2] at h1
    omega
  · have h4 : a.natAbs / b.natAbs ≤ a.natAbs / 2 := Nat.div_le_div_left (by omega) (by omega)
    omega
theorem i32_div {a b : Int} (ha : R32 a) (hb : R32 b) (h : b ≠ -1) : i32 a / i32 b = i32 (a.tdiv b) := by
  apply Int32.toInt_inj.mp
  rw [Int32.toInt_div, i32_toInt ha, i32_toInt hb, i32_toInt (tdiv_r ha hb h)]
  have := tdiv_r ha hb h
  exact Int.bmod_eq_of_le (by omega) (by omega)
theorem i32_rem {a b : Int} (ha : R32 a) (hb : R32 b) (h : b ≠ -1) : i32 a - i32 a / i32 b * i32 b = i32 (a.tmod b) := by
  rw [i32_div ha hb h, i32_mul, i32_sub]
  congr 1
  have := Int.tmod_add_mul_tdiv a b
  rw [Int.mul_comm b] at this
  omega
theorem i32_long {a : Int} (ha : R32 a) : (i32 a).toInt64 = i64 a := by
  apply Int64.toInt_inj.mp
  rw [Int32.toInt_toInt64, i32_toInt ha, i64_toInt (by omega)]
def cmpL (a b : Int) : Int := if a < b then -1 else if a = b then 0 else 1
def landL (a b : Int) : Int := (i64 a &&& i64 b).toInt
def lorL (a b : Int) : Int := (i64 a ||| i64 b).toInt
def lxorL (a b : Int) : Int := (i64 a ^^^ i64 b).toInt
def lshlL (a b : Int) : Int := (i64 a <<< ((i32 b).toInt64 &&& 63)).toInt
def lushrL (a b : Int) : Int := ((i64 a).toUInt64 >>> ((i32 b).toInt64.toUInt64 &&& Int64.toUInt64 63)).toInt64.toInt
def iandI (a b : Int) : Int := (i32 a &&& i32 b).toInt
def iorI (a b : Int) : Int := (i32 a ||| i32 b).toInt
def ishlI (a b : Int) : Int := (i32 a <<< (i32 b &&& 31)).toInt
def ishrI (a b : Int) : Int := (i32 a >>> (i32 b &&& 31)).toInt
theorem vp_in_i {i : Int} {n : Nat} (h : 0 ≤ i ∧ i < n) (hn : n < 2147483648 := by decide) : vp_in (i32 i) n := by
  rw [vp_in_iff, i32_toInt (by omega)]
  exact h
theorem clamp_i {i : Int} (h : 0 ≤ i) (h2 : i < 2147483648) : (i32 i).toNatClampNeg = i.toNat := by
  have := i32_toInt (x := i) (by omega)
  show (i32 i).toInt.toNat = i.toNat
  rw [this]
