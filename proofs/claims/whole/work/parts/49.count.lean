/-! ===== how many bits a word has ===== -/
def cn (n : Nat) : Nat → Nat
  | 0 => 0
  | k + 1 => cn n k + (if n.testBit k then 1 else 0)
def p8 (a : Nat) : Nat := cn a 8
/-- a function on every byte -/
def ln (f : Nat → Nat) : Nat → Nat → Nat
  | 0, _ => 0
  | k + 1, n => f (n % 256) + 256 * ln f k (n / 256)
theorem land_by {a c q m : Nat} (ha : a < 256) (hc : c < 256) : (a + 256 * q) &&& (c + 256 * m) = (a &&& c) + 256 * (q &&& m) := by
  have h1 : ((a + 256 * q) &&& (c + 256 * m)) / 2 ^ 8 = (q &&& m) := by
    rw [Nat.and_div_two_pow]
    congr 1 <;> omega
  have h2 : ((a + 256 * q) &&& (c + 256 * m)) % 2 ^ 8 = (a &&& c) := by
    rw [Nat.and_mod_two_pow]
    congr 1 <;> omega
  omega
theorem cn_by (n : Nat) : ∀ k, cn n (8 + k) = p8 (n % 256) + cn (n / 256) k := by
  intro k
  induction k with
  | zero =>
    have h : ∀ i, i < 8 → n.testBit i = (n % 256).testBit i := fun i hi => by
      rw [show (256 : Nat) = 2 ^ 8 from rfl, Nat.testBit_mod_two_pow]
      simp [hi]
    show cn n 8 = p8 (n % 256) + 0
    simp only [p8, cn, h 0 (by omega), h 1 (by omega), h 2 (by omega), h 3 (by omega), h 4 (by omega), h 5 (by omega), h 6 (by omega), h 7 (by omega), Nat.add_zero]
  | succ k ih =>
    rw [show 8 + (k + 1) = (8 + k) + 1 by omega, cn, ih, cn]
    have : n.testBit (8 + k) = (n / 256).testBit k := by
      rw [show (256 : Nat) = 2 ^ 8 from rfl, Nat.testBit_div_two_pow, Nat.add_comm]
    rw [this]
    omega
theorem cn_ln : ∀ k n, cn n (8 * k) = (match k with | 0 => 0 | j + 1 => p8 (n % 256) + cn (n / 256) (8 * j)) := by
  intro k n
  cases k with
  | zero => rfl
  | succ j => rw [show 8 * (j + 1) = 8 + 8 * j by omega, cn_by]
theorem ln_lt {f : Nat → Nat} (hf : ∀ a, a < 256 → f a < 256) : ∀ k n, ln f k n < 256 ^ k := by
  intro k
  induction k with
  | zero => intro n; exact Nat.one_pos
  | succ k ih =>
    intro n
    have h1 := hf (n % 256) (Nat.mod_lt _ (by decide))
    have h2 := ih (n / 256)
    rw [ln, Nat.pow_succ]
    omega
theorem ln_ln {f h : Nat → Nat} (hf : ∀ a, a < 256 → f a < 256) : ∀ k n, ln h k (ln f k n) = ln (fun a => h (f a)) k n := by
  intro k
  induction k with
  | zero => intro n; rfl
  | succ k ih =>
    intro n
    have h1 := hf (n % 256) (Nat.mod_lt _ (by decide))
    rw [ln, ln, ln, show (f (n % 256) + 256 * ln f k (n / 256)) % 256 = f (n % 256) by omega, show (f (n % 256) + 256 * ln f k (n / 256)) / 256 = ln f k (n / 256) by omega, ih]
def f1 (a : Nat) : Nat := a - ((a / 2) &&& 85)
def f2 (a : Nat) : Nat := (a &&& 51) + ((a / 4) &&& 51)
def f3 (a : Nat) : Nat := (a + a / 16) &&& 15
theorem lo1 : ∀ a : Fin 256, ∀ r : Fin 2, ((a.val / 2 + 128 * r.val) &&& 85) = ((a.val / 2) &&& 85) ∧ ((a.val / 2) &&& 85) ≤ a.val ∧ f1 a.val < 256 := by decide +kernel
theorem lo2 : ∀ a : Fin 256, ∀ r : Fin 4, ((a.val / 4 + 64 * r.val) &&& 51) = ((a.val / 4) &&& 51) ∧ f2 a.val < 256 := by decide +kernel
theorem lo3 : ∀ a : Fin 256, f3 (f2 (f1 a.val)) = p8 a.val ∧ p8 a.val ≤ 8 ∧ f2 (f1 a.val) ≤ 68 ∧ f2 (f1 a.val) % 16 ≤ 4 := by decide +kernel
theorem lo4 : ∀ a : Fin 69, ∀ r : Fin 5, ((a.val + a.val / 16 + 16 * r.val) &&& 15) = f3 a.val := by decide +kernel
theorem st1 : ∀ k n, (n / 2) &&& ln (fun _ => 85) k 0 = ln (fun a => (a / 2) &&& 85) k n ∧ (n < 256 ^ k → n - ((n / 2) &&& ln (fun _ => 85) k 0) = ln f1 k n ∧ ((n / 2) &&& ln (fun _ => 85) k 0) ≤ n) := by
  intro k
  induction k with
  | zero => intro n; exact ⟨Nat.and_zero _, fun h => ⟨by rw [ln, Nat.and_zero, ln]; simp at h; omega, by rw [ln, Nat.and_zero]; omega⟩⟩
  | succ k ih =>
    intro n
    obtain ⟨i1, i2⟩ := ih (n / 256)
    have hb := lo1 ⟨n % 256, Nat.mod_lt _ (by decide)⟩ ⟨(n / 256) % 2, Nat.mod_lt _ (by decide)⟩
    simp only at hb
    have e : (n / 2) &&& ln (fun _ => 85) (k + 1) 0 = ((n % 256 / 2) &&& 85) + 256 * ((n / 256 / 2) &&& ln (fun _ => 85) k 0) := by
      rw [ln]
      show _ &&& (85 + 256 * ln (fun _ => 85) k (0 / 256)) = _
      rw [show 0 / 256 = 0 from rfl, show n / 2 = (n % 256 / 2 + 128 * ((n / 256) % 2)) + 256 * (n / 256 / 2) by omega, land_by (by omega) (by decide), hb.1]
    refine ⟨by rw [e, i1, ln], fun h => ?_⟩
    rw [Nat.pow_succ] at h
    obtain ⟨i3, i4⟩ := i2 (by omega)
    rw [e, ln, ← i3]
    unfold f1
    omega
theorem st2 : ∀ k n, (n &&& ln (fun _ => 51) k 0) + ((n / 4) &&& ln (fun _ => 51) k 0) = ln f2 k n := by
  intro k
  induction k with
  | zero => intro n; rw [ln, Nat.and_zero, Nat.and_zero, ln]
  | succ k ih =>
    intro n
    have hb := lo2 ⟨n % 256, Nat.mod_lt _ (by decide)⟩ ⟨(n / 256) % 4, Nat.mod_lt _ (by decide)⟩
    simp only at hb
    have e0 : ln (fun _ => 51) (k + 1) 0 = 51 + 256 * ln (fun _ => 51) k 0 := rfl
    have e1 : n &&& ln (fun _ => 51) (k + 1) 0 = ((n % 256) &&& 51) + 256 * ((n / 256) &&& ln (fun _ => 51) k 0) := by
      rw [e0, ← land_by (Nat.mod_lt _ (by decide)) (by decide), show n % 256 + 256 * (n / 256) = n by omega]
    have e2 : (n / 4) &&& ln (fun _ => 51) (k + 1) 0 = ((n % 256 / 4) &&& 51) + 256 * ((n / 256 / 4) &&& ln (fun _ => 51) k 0) := by
      rw [e0, show n / 4 = (n % 256 / 4 + 64 * ((n / 256) % 4)) + 256 * (n / 256 / 4) by omega, land_by (by omega) (by decide), hb.1]
    rw [e1, e2, ln, ← ih]
    unfold f2
    omega
/-- the bytes are small -/
def Sm : Nat → Nat → Prop
  | 0, n => n = 0
  | k + 1, n => n % 256 ≤ 68 ∧ n % 16 ≤ 4 ∧ Sm k (n / 256)
theorem sm_16 : ∀ k n, Sm k n → n % 16 ≤ 4 := by
  intro k n h
  cases k with
  | zero => rw [Sm] at h; omega
  | succ k => exact h.2.1
theorem st3 : ∀ k n, Sm k n → (n + n / 16) &&& ln (fun _ => 15) k 0 = ln f3 k n := by
  intro k
  induction k with
  | zero => intro n h; rw [ln, Nat.and_zero, ln]
  | succ k ih =>
    intro n h
    obtain ⟨h1, -, h3⟩ := h
    have hq := sm_16 k _ h3
    have hb := lo4 ⟨n % 256, by omega⟩ ⟨(n / 256) % 16, by omega⟩
    simp only at hb
    have e0 : ln (fun _ => 15) (k + 1) 0 = 15 + 256 * ln (fun _ => 15) k 0 := rfl
    rw [e0, show n + n / 16 = (n % 256 + n % 256 / 16 + 16 * ((n / 256) % 16)) + 256 * (n / 256 + n / 256 / 16) by omega, land_by (by omega) (by decide), hb, ih _ h3, ln]
theorem sm_ln : ∀ k n, Sm k (ln (fun a => f2 (f1 a)) k n) := by
  intro k
  induction k with
  | zero => intro n; rfl
  | succ k ih =>
    intro n
    have hb := lo3 ⟨n % 256, Nat.mod_lt _ (by decide)⟩
    simp only at hb
    rw [ln]
    refine ⟨?_, ?_, ?_⟩
    · show (f2 (f1 (n % 256)) + 256 * ln (fun a => f2 (f1 a)) k (n / 256)) % 256 ≤ 68
      omega
    · show (f2 (f1 (n % 256)) + 256 * ln (fun a => f2 (f1 a)) k (n / 256)) % 16 ≤ 4
      omega
    · have : (f2 (f1 (n % 256)) + 256 * ln (fun a => f2 (f1 a)) k (n / 256)) / 256 = ln (fun a => f2 (f1 a)) k (n / 256) := by omega
      show Sm k ((f2 (f1 (n % 256)) + 256 * ln (fun a => f2 (f1 a)) k (n / 256)) / 256)
      rw [this]; exact ih _
