/-! ===== counting and listing sets ===== -/
def cnB (p : Nat → Bool) : Nat → Nat
  | 0 => 0
  | k + 1 => cnB p k + (if p k then 1 else 0)
theorem cn_B (n : Nat) : ∀ k, cn n k = cnB n.testBit k := by
  intro k
  induction k with
  | zero => rfl
  | succ k ih => rw [cn, cnB, ih]
theorem cnB_cg {p q : Nat → Bool} : ∀ k, (∀ x, x < k → p x = q x) → cnB p k = cnB q k := by
  intro k
  induction k with
  | zero => intro _; rfl
  | succ k ih => intro h; rw [cnB, cnB, ih (fun x hx => h x (by omega)), h k (by omega)]
theorem cnB_le {p q : Nat → Bool} : ∀ k, (∀ x, x < k → p x = true → q x = true) → cnB p k ≤ cnB q k := by
  intro k
  induction k with
  | zero => intro _; exact Nat.le_refl _
  | succ k ih =>
    intro h
    have h1 := ih (fun x hx => h x (by omega))
    have h2 := h k (by omega)
    rw [cnB, cnB]
    cases hp : p k
    · simp; omega
    · rw [h2 hp]; simp; omega
theorem cnB_add {p q : Nat → Bool} {y : Nat} (hy : p y = false) (hq : ∀ x, q x = (p x || decide (x = y))) : ∀ k, cnB q k = cnB p k + (if y < k then 1 else 0) := by
  intro k
  induction k with
  | zero => rfl
  | succ k ih =>
    rw [cnB, cnB, ih, hq k]
    by_cases h : k = y
    · subst h; simp [hy]
    · by_cases h2 : y < k
      · simp [h, h2, show y < k + 1 by omega]; omega
      · simp [h, h2, show ¬ y < k + 1 by omega]
theorem cnB_0 : ∀ k, cnB (fun _ => false) k = 0 := by
  intro k
  induction k with
  | zero => rfl
  | succ k ih => rw [cnB, ih]; rfl
theorem cnB_hi {p : Nat → Bool} {k : Nat} : ∀ m, (∀ x, k ≤ x → x < k + m → p x = false) → cnB p (k + m) = cnB p k := by
  intro m
  induction m with
  | zero => intro _; rfl
  | succ m ih =>
    intro h
    rw [show k + (m + 1) = (k + m) + 1 by omega, cnB, ih (fun x h1 h2 => h x h1 (by omega)), h (k + m) (by omega) (by omega)]
    simp
/-- f lists, in order, the c places below K of the set p -/
def Enu (f : Int → Int) (c : Int) (p : Nat → Bool) (K : Nat) : Prop := 0 ≤ c ∧ (∀ i j, 0 ≤ i → i < j → j < c → f i < f j) ∧ (∀ i, 0 ≤ i → i < c → 0 ≤ f i ∧ f i < K ∧ p (f i).toNat = true) ∧ ∀ x : Nat, x < K → p x = true → ∃ i, 0 ≤ i ∧ i < c ∧ f i = x
theorem enu_cn {f : Int → Int} {p : Nat → Bool} : ∀ (K : Nat) (c : Int), Enu f c p K → (cnB p K : Int) = c := by
  intro K
  induction K with
  | zero =>
    intro c h
    rcases Int.lt_or_le 0 c with q | q
    · have := h.2.2.1 0 (by omega) q; omega
    · have := h.1; show (0 : Int) = c; omega
  | succ K ih =>
    intro c h
    obtain ⟨h0, h1, h2, h3⟩ := h
    rw [cnB]
    cases hp : p K
    · have := ih c ⟨h0, h1, fun i i1 i2 => ?_, fun x hx hpx => h3 x (by omega) hpx⟩
      · simp; exact this
      · have a := h2 i i1 i2
        refine ⟨a.1, ?_, a.2.2⟩
        rcases Int.lt_or_le (f i) K with q | q
        · exact q
        · have e : (f i).toNat = K := by omega
          rw [e, hp] at a
          exact absurd a.2.2 (by decide)
    · obtain ⟨i, i1, i2, i3⟩ := h3 K (by omega) hp
      have hi : i = c - 1 := by
        rcases Int.lt_or_le i (c - 1) with q | q
        · have a := h1 i (c - 1) i1 q (by omega)
          have b := h2 (c - 1) (by omega) (by omega)
          omega
        · omega
      subst hi
      have := ih (c - 1) ⟨by omega, fun a b a1 a2 a3 => h1 a b a1 a2 (by omega), fun a a1 a2 => ?_, fun x hx hpx => ?_⟩
      · simp; omega
      · have b := h2 a a1 (by omega)
        have d := h1 a (c - 1) a1 (by omega) (by omega)
        exact ⟨b.1, by omega, b.2.2⟩
      · obtain ⟨j, j1, j2, j3⟩ := h3 x (by omega) hpx
        refine ⟨j, j1, ?_, j3⟩
        rcases Int.lt_or_le j (c - 1) with q | q
        · exact q
        · rw [show j = c - 1 by omega] at j3; omega
theorem enu_uq {f h : Int → Int} {p : Nat → Bool} {K : Nat} {c d : Int} (a : Enu f c p K) (b : Enu h d p K) : c = d ∧ ∀ i, 0 ≤ i → i < c → f i = h i := by
  have e : c = d := (enu_cn K c a).symm.trans (enu_cn K d b)
  subst e
  obtain ⟨-, a1, a2, a3⟩ := a
  obtain ⟨-, b1, b2, b3⟩ := b
  have key : ∀ m : Nat, ∀ i, 0 ≤ i → i < c → i < m → f i = h i := by
    intro m
    induction m with
    | zero => intro i i1 i2 i3; omega
    | succ m ih =>
      intro i i1 i2 i3
      have fi := a2 i i1 i2
      have hi := b2 i i1 i2
      obtain ⟨k, k1, k2, k3⟩ := b3 (f i).toNat (by omega) fi.2.2
      obtain ⟨l, l1, l2, l3⟩ := a3 (h i).toNat (by omega) hi.2.2
      have hk : i ≤ k := by
        rcases Int.lt_or_le k i with q | q
        · have := ih k k1 k2 (by omega)
          have := a1 k i k1 q i2
          omega
        · exact q
      have hl : i ≤ l := by
        rcases Int.lt_or_le l i with q | q
        · have := ih l l1 l2 (by omega)
          have := b1 l i l1 q i2
          omega
        · exact q
      have q1 : h i ≤ h k := by
        by_cases q : i = k
        · subst q; exact Int.le_refl _
        · have := b1 i k i1 (by omega) k2; omega
      have q2 : f i ≤ f l := by
        by_cases q : i = l
        · subst q; exact Int.le_refl _
        · have := a1 i l i1 (by omega) l2; omega
      omega
  exact ⟨rfl, fun i i1 i2 => key (i + 1).toNat i i1 i2 (by omega)⟩
/-- the bits of a word -/
abbrev tbN (w : Int) : Nat → Bool := fun x => tb w (x : Int)
/-- a word whose bits are games below n -/
def Wd40 (w n : Int) : Prop := R64 w ∧ ∀ x, 0 ≤ x → x < 64 → tb w x = true → x < n
theorem tb_nv (w : Int) (x : Nat) : tbN w x = (nv w).testBit x := by
  show (i64 w).toBitVec.getLsbD ((x : Int)).toNat = _
  rw [Int.toNat_natCast]
  rfl
theorem pop_enu {w n c : Int} {f : Int → Int} (hw : Wd40 w n) (hn : n ≤ 40) (h : Enu f c (tbN w) 40) : (cn (nv w) 64 : Int) = c := by
  rw [cn_B, show cnB (nv w).testBit 64 = cnB (tbN w) 64 from cnB_cg 64 (fun x _ => (tb_nv w x).symm), show (64 : Nat) = 40 + 24 from rfl, cnB_hi 24 (fun x h1 h2 => ?_)]
  · exact enu_cn 40 c h
  · rcases hb : tbN w x with _ | _
    · rfl
    · have := hw.2 x (by omega) (by omega) hb
      omega
