/-! ===== how games are written: lists of signs ===== -/
def whT (v : Int) : List Int := if 9 < v then [48 + v / 10, 48 + v % 10] else [48 + v % 10]
def absI (e : Int) : Int := if e < 0 then -e else e
def nmr (e : Int) : Int := absI e / (if e % 8 = 0 then 8 else if e % 4 = 0 then 4 else if e % 2 = 0 then 2 else 1)
def dnm (e : Int) : Int := if e % 8 = 0 then 1 else if e % 4 = 0 then 2 else if e % 2 = 0 then 4 else 8
def numTx (e : Int) : List Int := (if e < 0 then [45] else []) ++ whT (nmr e) ++ (if 1 < dnm e then [47, 48 + dnm e] else [])
theorem f129 {e : Int} (h : -64 ≤ e ∧ e ≤ 64) : ∃ i : Fin 129, e = (i.val : Int) - 64 := ⟨⟨(e + 64).toNat, by omega⟩, by simp; omega⟩
theorem num_sh {e : Int} (h : -64 ≤ e ∧ e ≤ 64) : ishrI (absI e) (halvI e) = nmr e ∧ ishrI 8 (halvI e) = dnm e ∧ (3 ≤ halvI e ↔ dnm e = 1) ∧ 0 ≤ nmr e ∧ nmr e ≤ 64 ∧ (dnm e = 1 ∨ dnm e = 2 ∨ dnm e = 4 ∨ dnm e = 8) ∧ ((numTx e).length : Int) = numLn e := by
  obtain ⟨i, rfl⟩ := f129 h
  revert i
  decide +kernel
def bdF (f : Int → List Int) (M : Mem) (z : Int) (L al : Int) : Nat → List Int
  | 0 => (if al = L then [124] else []) ++ [125]
  | r + 1 => (if al - ((r + 1 : Nat) : Int) = L then [124] else []) ++ ((if 0 < al - ((r + 1 : Nat) : Int) ∧ al - ((r + 1 : Nat) : Int) ≠ L then [44] else []) ++ (f (if al - ((r + 1 : Nat) : Int) < L then opt M z 0 (al - ((r + 1 : Nat) : Int)) else opt M z 1 (al - ((r + 1 : Nat) : Int) - L)) ++ bdF f M z L al r))
/-- what is left of a composed game behind its first p options -/
def bd (f : Int → List Int) (M : Mem) (z p : Int) : List Int := bdF f M z (M 3 (2 * z + 0)) (M 3 (2 * z + 0) + M 3 (2 * z + 1)) (M 3 (2 * z + 0) + M 3 (2 * z + 1) - p).toNat
/-- the same without the bar -/
def bdN (f : Int → List Int) (M : Mem) (z p : Int) : List Int := if p = M 3 (2 * z + 0) + M 3 (2 * z + 1) then [125] else (if 0 < p ∧ p ≠ M 3 (2 * z + 0) then [44] else []) ++ (f (if p < M 3 (2 * z + 0) then opt M z 0 p else opt M z 1 (p - M 3 (2 * z + 0))) ++ bd f M z (p + 1))
theorem bd_eq {f : Int → List Int} {M : Mem} {z p : Int} (hp : 0 ≤ p ∧ p ≤ M 3 (2 * z + 0) + M 3 (2 * z + 1)) : bd f M z p = (if p = M 3 (2 * z + 0) then [124] else []) ++ bdN f M z p := by
  unfold bdN
  by_cases e : p = M 3 (2 * z + 0) + M 3 (2 * z + 1)
  · rw [if_pos e]
    unfold bd
    rw [show (M 3 (2 * z + 0) + M 3 (2 * z + 1) - p).toNat = 0 by omega, bdF, ← e]
  · rw [if_neg e]
    unfold bd
    obtain ⟨r, hr⟩ : ∃ r : Nat, (M 3 (2 * z + 0) + M 3 (2 * z + 1) - p).toNat = r + 1 := ⟨(M 3 (2 * z + 0) + M 3 (2 * z + 1) - p).toNat - 1, by omega⟩
    rw [hr, bdF, show M 3 (2 * z + 0) + M 3 (2 * z + 1) - ((r + 1 : Nat) : Int) = p by omega, show (M 3 (2 * z + 0) + M 3 (2 * z + 1) - (p + 1)).toNat = r by omega]
def gtxK (M : Mem) : Nat → Int → List Int
  | 0, z => numTx (M 2 z / 128)
  | k + 1, z => if M 1 z = 0 then 123 :: bd (gtxK M k) M z 0 else numTx (M 2 z / 128)
theorem bdF_cg {f h : Int → List Int} {M : Mem} {z L al : Int} (hL : 0 ≤ L) (e : ∀ s i, 0 ≤ s → s ≤ 1 → 0 ≤ i → i < (if s = 0 then L else al - L) → f (opt M z s i) = h (opt M z s i)) : ∀ r : Nat, (r : Int) ≤ al → bdF f M z L al r = bdF h M z L al r := by
  intro r
  induction r with
  | zero => intro _; rfl
  | succ r ih =>
    intro hr
    rw [bdF, bdF, ih (by omega)]
    have : f (if al - ((r + 1 : Nat) : Int) < L then opt M z 0 (al - ((r + 1 : Nat) : Int)) else opt M z 1 (al - ((r + 1 : Nat) : Int) - L)) = h (if al - ((r + 1 : Nat) : Int) < L then opt M z 0 (al - ((r + 1 : Nat) : Int)) else opt M z 1 (al - ((r + 1 : Nat) : Int) - L)) := by
      split
      · exact e 0 _ (by omega) (by omega) (by omega) (by simp; omega)
      · exact e 1 _ (by omega) (by omega) (by omega) (by simp; omega)
    rw [this]
theorem gtx_st {M : Mem} {n : Int} (hG : Good n M) : ∀ (k : Nat) (z : Int), 0 ≤ z → z < n → M 5 z ≤ k → gtxK M (k + 1) z = gtxK M k z := by
  intro k
  induction k with
  | zero =>
    intro z z1 z2 hd
    obtain ⟨hD, -⟩ := hG.2.2 z z1 z2
    by_cases h1 : M 1 z = 0
    · have := (hD.2.2.2.2 h1).1; omega
    · show (if M 1 z = 0 then _ else _) = _
      rw [if_neg h1]
      rfl
  | succ k ih =>
    intro z z1 z2 hd
    obtain ⟨hD, -⟩ := hG.2.2 z z1 z2
    by_cases h1 : M 1 z = 0
    · rw [gtxK, if_pos h1, gtxK, if_pos h1]
      have o0 := opS_r hD.1 (s := 0) (by omega)
      have o1 := opS_r hD.1 (s := 1) (by omega)
      unfold bd
      rw [bdF_cg o0.1 (fun s i s1 s2 i1 i2 => ?_) _ (by omega)]
      have hi : i < M 3 (2 * z + s) := by
        rcases (show s = 0 ∨ s = 1 by omega) with rfl | rfl
        · simpa using i2
        · simp at i2; omega
      have o := (opS_r hD.1 ⟨s1, s2⟩).2.2 i i1 hi
      exact ih _ o.1 (by omega) (by have := (hD.2.2.2.2 h1).2.1 s s1 s2 i i1 hi; omega)
    · rw [gtxK, if_neg h1, gtxK, if_neg h1]
def gtx (M : Mem) (z : Int) : List Int := gtxK M 6 z
theorem gtx_eq {M : Mem} {n z : Int} (hG : Good n M) (hz : 0 ≤ z ∧ z < n) : gtx M z = if M 1 z = 0 then 123 :: bd (gtx M) M z 0 else numTx (M 2 z / 128) := by
  have h := gtx_st hG 6 z hz.1 hz.2 (by have := (hG.2.2 z hz.1 hz.2).1.2.2.1; omega)
  unfold gtx
  rw [← h, gtxK]
/-- its length is the length that the class counts -/
theorem bd_len {f : Int → List Int} {l : Int → Int} {M : Mem} {z : Int} (ho : OpS M z) (hf : ∀ s i, 0 ≤ s → s ≤ 1 → 0 ≤ i → i < M 3 (2 * z + s) → ((f (opt M z s i)).length : Int) = l (opt M z s i)) : ((bd f M z 0).length : Int) = 2 + (max 0 (M 3 (2 * z + 0) - 1) + max 0 (M 3 (2 * z + 1) - 1)) + sumO l M z 0 (M 3 (2 * z + 0)).toNat + sumO l M z 1 (M 3 (2 * z + 1)).toNat := by
  have o0 := opS_r ho (s := 0) (by omega)
  have o1 := opS_r ho (s := 1) (by omega)
  have right : ∀ (m j : Nat), (j : Int) + m = M 3 (2 * z + 1) → ((bdN f M z (M 3 (2 * z + 0) + j)).length : Int) = 1 + (max 0 (M 3 (2 * z + 1) - 1) - max 0 ((j : Int) - 1)) + (sumO l M z 1 (M 3 (2 * z + 1)).toNat - sumO l M z 1 j) := by
    intro m
    induction m with
    | zero =>
      intro j hj
      unfold bdN
      rw [if_pos (by omega), show (M 3 (2 * z + 1)).toNat = j by omega, show M 3 (2 * z + 1) = (j : Int) by omega]
      simp only [List.length_singleton]
      omega
    | succ m ih =>
      intro j hj
      have nx := ih (j + 1) (by omega)
      have hl := hf 1 j (by omega) (by omega) (by omega) (by omega)
      unfold bdN
      rw [if_neg (by omega), bd_eq (by omega), if_neg (by omega : ¬ (M 3 (2 * z + 0) + (j : Int) + 1 = M 3 (2 * z + 0))), if_neg (by omega : ¬ (M 3 (2 * z + 0) + (j : Int) < M 3 (2 * z + 0))), show M 3 (2 * z + 0) + (j : Int) - M 3 (2 * z + 0) = j by omega]
      rw [show M 3 (2 * z + 0) + (j : Int) + 1 = M 3 (2 * z + 0) + ((j + 1 : Nat) : Int) by omega]
      simp only [List.length_append, List.nil_append]
      rw [sumO] at nx
      have e1 : ((j + 1 : Nat) : Int) = (j : Int) + 1 := rfl
      rw [e1] at nx
      split
      · rename_i q
        simp only [List.length_singleton]
        rw [e1]
        omega
      · rename_i q
        simp only [List.length_nil]
        rw [e1]
        omega
  have left : ∀ (m j : Nat), (j : Int) + m = M 3 (2 * z + 0) → ((bd f M z j).length : Int) = ((bd f M z (M 3 (2 * z + 0))).length : Int) + ((max 0 (M 3 (2 * z + 0) - 1)) - max 0 ((j : Int) - 1) + (if m = 0 then 0 else 0)) + (sumO l M z 0 (M 3 (2 * z + 0)).toNat - sumO l M z 0 j) := by
    intro m
    induction m with
    | zero =>
      intro j hj
      rw [show (M 3 (2 * z + 0)).toNat = j by omega, show M 3 (2 * z + 0) = (j : Int) by omega]
      simp only [if_true]
      omega
    | succ m ih =>
      intro j hj
      have nx := ih (j + 1) (by omega)
      have hl := hf 0 j (by omega) (by omega) (by omega) (by omega)
      rw [bd_eq (p := (j : Int)) (by omega), if_neg (by omega)]
      unfold bdN
      rw [if_neg (by omega), if_pos (by omega : (j : Int) < M 3 (2 * z + 0))]
      simp only [List.length_append, List.nil_append]
      rw [sumO] at nx
      have e1 : ((j + 1 : Nat) : Int) = (j : Int) + 1 := rfl
      rw [e1] at nx
      split
      · simp only [List.length_singleton]
        split at nx <;> split <;> omega
      · simp only [List.length_nil]
        split at nx <;> split <;> omega
  have a := left (M 3 (2 * z + 0)).toNat 0 (by omega)
  have b := right (M 3 (2 * z + 1)).toNat 0 (by omega)
  rw [bd_eq (p := M 3 (2 * z + 0)) (by omega), if_pos rfl] at a
  rw [show M 3 (2 * z + 0) + ((0 : Nat) : Int) = M 3 (2 * z + 0) by omega] at b
  simp only [List.length_append, List.length_singleton, sumO] at a b
  rw [show ((0 : Nat) : Int) = 0 from rfl] at a b
  split at a <;> omega
theorem gtx_len {M : Mem} {n : Int} (hG : Good n M) : ∀ (m : Nat) (z : Int), 0 ≤ z → z < n → z < m → ((gtx M z).length : Int) = Ln M z := by
  intro m
  induction m with
  | zero => intro z z1 z2 z3; omega
  | succ m ih =>
    intro z z1 z2 z3
    obtain ⟨hD, -⟩ := hG.2.2 z z1 z2
    rw [gtx_eq hG ⟨z1, z2⟩, ln_eq hG ⟨z1, z2⟩]
    split
    · have := bd_len (f := gtx M) (l := Ln M) hD.1 (fun s i s1 s2 i1 i2 => by
        have o := (opS_r hD.1 ⟨s1, s2⟩).2.2 i i1 i2
        exact ih _ o.1 (by omega) (by omega))
      rw [List.length_cons]
      omega
    · rename_i h1
      obtain ⟨-, -, -, x, x1, x2, x3⟩ := hD.2.2.2.1 h1
      rw [x3, show 128 * x / 128 = x by omega]
      exact (num_sh ⟨x1, x2⟩).2.2.2.2.2.2
