/-! ===== scores of lines ===== -/
def updL (l : Int → Int) (c o : Int) : Int → Int := fun x => if x = c then o else l x
def sumV (M : Mem) (l : Int → Int) : Nat → Int
  | 0 => 0
  | k + 1 => sumV M l k + M 13 (l k)
def sumD (M : Mem) (l : Int → Int) : Nat → Int
  | 0 => 0
  | k + 1 => sumD M l k + M 5 (l k)
def AllC (M : Mem) (l : Int → Int) (p : Nat) : Prop := ∀ c, 0 ≤ c → c < (p : Int) → M 6 (l c) ≠ 0
def Mv (M : Mem) (p : Nat) (l : Int → Int) (s c i : Int) : Prop := (0 ≤ c ∧ c < (p : Int)) ∧ M 6 (l c) = 0 ∧ 0 ≤ i ∧ i < M 3 (2 * l c + s)
def ScR (M : Mem) (p : Nat) : Nat → (Int → Int) → Int → Int → Prop
  | 0, l, _, v => v = sumV M l p
  | k + 1, l, s, v => (AllC M l p ∧ v = sumV M l p) ∨ (¬ AllC M l p ∧ (∃ c i, Mv M p l s c i ∧ ScR M p k (updL l c (opt M (l c) s i)) (1 - s) v) ∧ ∀ c i w, Mv M p l s c i → ScR M p k (updL l c (opt M (l c) s i)) (1 - s) w → (s = 0 → w ≤ v) ∧ (s ≠ 0 → v ≤ w))
/-- a line of games -/
def LnO (n : Int) (p : Nat) (l : Int → Int) : Prop := ∀ c, 0 ≤ c → c < (p : Int) → 0 ≤ l c ∧ l c < n
theorem sumV_cg {M : Mem} {l l' : Int → Int} : ∀ k : Nat, (∀ c, 0 ≤ c → c < (k : Int) → l' c = l c) → sumV M l' k = sumV M l k := by
  intro k
  induction k with
  | zero => intro _; rfl
  | succ k ih => intro e; rw [sumV, sumV, ih (fun c c1 c2 => e c c1 (by omega)), e k (by omega) (by omega)]
theorem sumD_cg {M : Mem} {l l' : Int → Int} : ∀ k : Nat, (∀ c, 0 ≤ c → c < (k : Int) → l' c = l c) → sumD M l' k = sumD M l k := by
  intro k
  induction k with
  | zero => intro _; rfl
  | succ k ih => intro e; rw [sumD, sumD, ih (fun c c1 c2 => e c c1 (by omega)), e k (by omega) (by omega)]
theorem sumD_up {M : Mem} {l : Int → Int} {c o : Int} : ∀ k : Nat, 0 ≤ c → (c < (k : Int) → sumD M (updL l c o) k = sumD M l k + M 5 o - M 5 (l c)) ∧ ((k : Int) ≤ c → sumD M (updL l c o) k = sumD M l k) := by
  intro k
  induction k with
  | zero => intro c0; exact ⟨fun h => by omega, fun _ => rfl⟩
  | succ k ih =>
    intro c0
    have h := ih c0
    rw [sumD, sumD]
    by_cases e : c = (k : Int)
    · have h2 := h.2 (by omega)
      have u : updL l c o k = o := by unfold updL; rw [if_pos e.symm]
      rw [u, h2]
      refine ⟨fun _ => by rw [e]; omega, fun q => by omega⟩
    · have u : updL l c o k = l k := by unfold updL; rw [if_neg (fun q => e q.symm)]
      rw [u]
      exact ⟨fun q => by rw [h.1 (by omega)]; omega, fun q => by rw [h.2 (by omega)]⟩
theorem updL_cg {l l' : Int → Int} {p : Nat} {c o : Int} (e : ∀ x, 0 ≤ x → x < (p : Int) → l' x = l x) : ∀ x, 0 ≤ x → x < (p : Int) → updL l' c o x = updL l c o x := by
  intro x x1 x2
  unfold updL
  split
  · rfl
  · exact e x x1 x2
theorem ScR.cg {M : Mem} {p : Nat} : ∀ (k : Nat) (l l' : Int → Int) (s v : Int), (∀ c, 0 ≤ c → c < (p : Int) → l' c = l c) → (ScR M p k l' s v ↔ ScR M p k l s v) := by
  intro k
  induction k with
  | zero => intro l l' s v e; rw [ScR, ScR, sumV_cg p e]
  | succ k ih =>
    intro l l' s v e
    have ea : AllC M l' p ↔ AllC M l p := ⟨fun h c c1 c2 => by rw [← e c c1 c2]; exact h c c1 c2, fun h c c1 c2 => by rw [e c c1 c2]; exact h c c1 c2⟩
    have em : ∀ c i, Mv M p l' s c i ↔ Mv M p l s c i := fun c i => by
      unfold Mv
      constructor
      · rintro ⟨a, b⟩; rw [e c a.1 a.2] at b; exact ⟨a, b⟩
      · rintro ⟨a, b⟩; rw [← e c a.1 a.2] at b; exact ⟨a, b⟩
    have ec : ∀ c i w, Mv M p l s c i → (ScR M p k (updL l' c (opt M (l' c) s i)) (1 - s) w ↔ ScR M p k (updL l c (opt M (l c) s i)) (1 - s) w) := fun c i w q => by
      rw [e c q.1.1 q.1.2]
      exact ih _ _ _ _ (updL_cg e)
    rw [ScR, ScR, ea, sumV_cg p e]
    constructor
    · rintro (q | ⟨q1, ⟨c, i, q2, q3⟩, q4⟩)
      · exact Or.inl q
      · exact Or.inr ⟨q1, ⟨c, i, (em c i).mp q2, (ec c i v ((em c i).mp q2)).mp q3⟩, fun c i w a b => q4 c i w ((em c i).mpr a) ((ec c i w a).mpr b)⟩
    · rintro (q | ⟨q1, ⟨c, i, q2, q3⟩, q4⟩)
      · exact Or.inl q
      · exact Or.inr ⟨q1, ⟨c, i, (em c i).mpr q2, (ec c i v q2).mpr q3⟩, fun c i w a b => q4 c i w ((em c i).mp a) ((ec c i w ((em c i).mp a)).mp b)⟩
theorem sc_uq {M : Mem} {p : Nat} : ∀ (k : Nat) (l : Int → Int) (s v w : Int), ScR M p k l s v → ScR M p k l s w → v = w := by
  intro k l s v w a b
  cases k with
  | zero => rw [ScR] at a b; omega
  | succ k =>
    rw [ScR] at a b
    rcases a with ⟨a1, a2⟩ | ⟨a1, ⟨c, i, a2, a3⟩, a4⟩
    · rcases b with ⟨b1, b2⟩ | ⟨b1, -⟩
      · omega
      · exact absurd a1 b1
    · rcases b with ⟨b1, -⟩ | ⟨b1, ⟨c', i', b2, b3⟩, b4⟩
      · exact absurd b1 a1
      · have h1 := b4 c i v a2 a3
        have h2 := a4 c' i' w b2 b3
        by_cases s0 : s = 0
        · have := h1.1 s0; have := h2.1 s0; omega
        · have := h1.2 s0; have := h2.2 s0; omega
theorem mv_ok {M : Mem} {n : Int} {p : Nat} {l : Int → Int} {s c i : Int} (hG : Good n M) (hl : LnO n p l) (hs : s = 0 ∨ s = 1) (h : Mv M p l s c i) : LnO n p (updL l c (opt M (l c) s i)) ∧ sumD M (updL l c (opt M (l c) s i)) p < sumD M l p ∧ 0 ≤ opt M (l c) s i ∧ opt M (l c) s i < l c := by
  obtain ⟨⟨c1, c2⟩, h6, i1, i2⟩ := h
  have lc := hl c c1 c2
  obtain ⟨hD, hO, -⟩ := hG.2.2 (l c) lc.1 lc.2
  have o := (opS_r hD.1 (s := s) (by omega)).2.2 i i1 i2
  have n1 : M 1 (l c) = 0 := by
    rcases Classical.em (M 1 (l c) = 0) with q | q
    · exact q
    · have := (hO.2.1.2.1 q).1; omega
  have d := (hD.2.2.2.2 n1).2.1 s (by omega) (by omega) i i1 i2
  refine ⟨fun x x1 x2 => ?_, ?_, o⟩
  · unfold updL
    split
    · omega
    · exact hl x x1 x2
  · rw [(sumD_up p c1).1 c2]; omega
theorem sumD_r {M : Mem} {n : Int} {l : Int → Int} (hG : Good n M) : ∀ p : Nat, LnO n p l → 0 ≤ sumD M l p ∧ sumD M l p ≤ 6 * p ∧ (∀ c, 0 ≤ c → c < (p : Int) → M 5 (l c) ≤ sumD M l p) := by
  intro p
  induction p with
  | zero => intro _; simp [sumD]; intro c c1 c2; omega
  | succ p ih =>
    intro hl
    have h := ih (fun c c1 c2 => hl c c1 (by omega))
    have lp := hl p (by omega) (by omega)
    have d := (hG.2.2 (l p) lp.1 lp.2).1.2.2.1
    rw [sumD]
    refine ⟨by omega, by omega, fun c c1 c2 => ?_⟩
    by_cases e : c = (p : Int)
    · rw [e]; omega
    · have := h.2.2 c c1 (by omega); omega
theorem sc_st {M : Mem} {n : Int} {p : Nat} (hG : Good n M) : ∀ (k : Nat) (l : Int → Int) (s v : Int), LnO n p l → (s = 0 ∨ s = 1) → sumD M l p ≤ k → (ScR M p (k + 1) l s v ↔ ScR M p k l s v) := by
  intro k
  induction k with
  | zero =>
    intro l s v hl hs hd
    have ac : AllC M l p := by
      intro c c1 c2 h6
      have lc := hl c c1 c2
      obtain ⟨hD, hO, -⟩ := hG.2.2 (l c) lc.1 lc.2
      have n1 : M 1 (l c) = 0 := by
        rcases Classical.em (M 1 (l c) = 0) with q | q
        · exact q
        · have := (hO.2.1.2.1 q).1; omega
      have := (hD.2.2.2.2 n1).1
      have := (sumD_r hG p hl).2.2 c c1 c2
      omega
    rw [ScR, ScR]
    exact ⟨fun q => q.elim (fun q => q.2) (fun q => absurd ac q.1), fun q => Or.inl ⟨ac, q⟩⟩
  | succ k ih =>
    intro l s v hl hs hd
    have st : ∀ c i w, Mv M p l s c i → (ScR M p (k + 1) (updL l c (opt M (l c) s i)) (1 - s) w ↔ ScR M p k (updL l c (opt M (l c) s i)) (1 - s) w) := fun c i w q => by
      have ok := mv_ok hG hl hs q
      exact ih _ _ _ ok.1 (by omega) (by omega)
    rw [ScR, ScR]
    constructor
    · rintro (q | ⟨q1, ⟨c, i, q2, q3⟩, q4⟩)
      · exact Or.inl q
      · exact Or.inr ⟨q1, ⟨c, i, q2, (st c i v q2).mp q3⟩, fun c i w a b => q4 c i w a ((st c i w a).mpr b)⟩
    · rintro (q | ⟨q1, ⟨c, i, q2, q3⟩, q4⟩)
      · exact Or.inl q
      · exact Or.inr ⟨q1, ⟨c, i, q2, (st c i v q2).mpr q3⟩, fun c i w a b => q4 c i w a ((st c i w a).mp b)⟩
/-- the score of a line of at most four games -/
def Sc (M : Mem) (p : Nat) (l : Int → Int) (s v : Int) : Prop := ScR M p 24 l s v
theorem scL_eq {M : Mem} {n : Int} {p : Nat} {l : Int → Int} {s v : Int} (hG : Good n M) (hp : p ≤ 4) (hl : LnO n p l) (hs : s = 0 ∨ s = 1) : Sc M p l s v ↔ ((AllC M l p ∧ v = sumV M l p) ∨ (¬ AllC M l p ∧ (∃ c i, Mv M p l s c i ∧ Sc M p (updL l c (opt M (l c) s i)) (1 - s) v) ∧ ∀ c i w, Mv M p l s c i → Sc M p (updL l c (opt M (l c) s i)) (1 - s) w → (s = 0 → w ≤ v) ∧ (s ≠ 0 → v ≤ w))) := by
  unfold Sc
  rw [← sc_st hG 24 l s v hl hs (by have := (sumD_r hG p hl).2.1; omega), ScR]
theorem sumV_r {M : Mem} {n : Int} {l : Int → Int} (hG : Good n M) : ∀ p : Nat, LnO n p l → -(14336 * p) ≤ sumV M l p ∧ sumV M l p ≤ 14336 * p := by
  intro p
  induction p with
  | zero => intro _; simp [sumV]
  | succ p ih =>
    intro hl
    have h := ih (fun c c1 c2 => hl c c1 (by omega))
    have lp := hl p (by omega) (by omega)
    obtain ⟨hD, -, -, -, hI⟩ := hG.2.2 (l p) lp.1 lp.2
    have b := hI.2.2.2.1.2.2.2
    have hd := hD.2.2.1
    unfold Bd at b
    rw [sumV]
    omega
theorem scR_r {M : Mem} {n : Int} {p : Nat} (hG : Good n M) : ∀ (k : Nat) (l : Int → Int) (s v : Int), LnO n p l → (s = 0 ∨ s = 1) → ScR M p k l s v → -(14336 * p) ≤ v ∧ v ≤ 14336 * p := by
  intro k
  induction k with
  | zero => intro l s v hl hs h; rw [ScR] at h; rw [h]; exact sumV_r hG p hl
  | succ k ih =>
    intro l s v hl hs h
    rw [ScR] at h
    rcases h with ⟨-, rfl⟩ | ⟨-, ⟨c, i, q1, q2⟩, -⟩
    · exact sumV_r hG p hl
    · exact ih _ _ _ (mv_ok hG hl hs q1).1 (by omega) q2
theorem sc_r {M : Mem} {n : Int} {p : Nat} {l : Int → Int} {s v : Int} (hG : Good n M) (hp : p ≤ 4) (hl : LnO n p l) (hs : s = 0 ∨ s = 1) (h : Sc M p l s v) : -57344 ≤ v ∧ v ≤ 57344 := by
  have := scR_r hG 24 l s v hl hs h
  omega
/-! ===== places in a table of many columns ===== -/
def wtR (w : Int → Int) : Nat → Int
  | 0 => 1
  | k + 1 => wtR w k * w k
def stV (w d : Int → Int) : Nat → Int
  | 0 => 0
  | k + 1 => stV w d k + d k * wtR w k
/-- digits below their bounds -/
def DgO (w d : Int → Int) (p : Nat) : Prop := ∀ c, 0 ≤ c → c < (p : Int) → 0 ≤ d c ∧ d c < w c
theorem wtR_p {w : Int → Int} : ∀ k : Nat, (∀ c, 0 ≤ c → c < (k : Int) → 1 ≤ w c) → 1 ≤ wtR w k := by
  intro k
  induction k with
  | zero => intro _; simp [wtR]
  | succ k ih =>
    intro h
    have a := ih (fun c c1 c2 => h c c1 (by omega))
    have b := h k (by omega) (by omega)
    rw [wtR]
    have := Int.mul_le_mul (a := 1) (b := 1) (c := wtR w k) (d := w k) a b (by omega) (by omega)
    omega
theorem stV_r {w d : Int → Int} : ∀ k : Nat, DgO w d k → 0 ≤ stV w d k ∧ stV w d k < wtR w k := by
  intro k
  induction k with
  | zero => intro _; simp [stV, wtR]
  | succ k ih =>
    intro h
    have a := ih (fun c c1 c2 => h c c1 (by omega))
    have b := h k (by omega) (by omega)
    have wp := wtR_p (w := w) k (fun c c1 c2 => by have := h c c1 (by omega); omega)
    rw [stV, wtR]
    have h1 : 0 ≤ d k * wtR w k := Int.mul_nonneg b.1 (by omega)
    have h2 : (d k + 1) * wtR w k ≤ w k * wtR w k := Int.mul_le_mul_of_nonneg_right (by omega) (by omega)
    rw [Int.add_mul, Int.one_mul] at h2
    have h3 : wtR w k * w k = w k * wtR w k := Int.mul_comm _ _
    omega
theorem wtR_mul {w : Int → Int} : ∀ (m k : Nat), (∀ c, 0 ≤ c → c < ((k + m : Nat) : Int) → 1 ≤ w c) → ∃ q, 1 ≤ q ∧ wtR w (k + m) = wtR w k * q := by
  intro m
  induction m with
  | zero => intro k _; exact ⟨1, by omega, by simp⟩
  | succ m ih =>
    intro k h
    obtain ⟨q, q1, q2⟩ := ih k (fun c c1 c2 => h c c1 (by omega))
    have b := h ((k + m : Nat) : Int) (by omega) (by omega)
    refine ⟨q * w ((k + m : Nat) : Int), ?_, ?_⟩
    · have := Int.mul_le_mul (a := 1) (b := 1) (c := q) (d := w ((k + m : Nat) : Int)) q1 b (by omega) (by omega)
      omega
    · rw [show k + (m + 1) = (k + m) + 1 by omega, wtR, q2, Int.mul_assoc]
/-- what stands above column c -/
theorem stV_hi {w d : Int → Int} {c : Nat} : ∀ m : Nat, DgO w d (c + 1 + m) → ∃ H, 0 ≤ H ∧ stV w d (c + 1 + m) = stV w d c + wtR w c * (d c + w c * H) := by
  intro m
  induction m with
  | zero => intro _; exact ⟨0, by omega, by rw [Nat.add_zero, stV, Int.mul_zero, Int.add_zero, Int.mul_comm (d _)]⟩
  | succ m ih =>
    intro h
    obtain ⟨H, h0, h1⟩ := ih (fun x x1 x2 => h x x1 (by omega))
    obtain ⟨q, q1, q2⟩ := wtR_mul (w := w) m (c + 1) (fun x x1 x2 => by have := h x x1 (by omega); omega)
    have b := h ((c + 1 + m : Nat) : Int) (by omega) (by omega)
    refine ⟨H + q * d ((c + 1 + m : Nat) : Int), ?_, ?_⟩
    · have := Int.mul_nonneg (a := q) (b := d ((c + 1 + m : Nat) : Int)) (by omega) b.1
      omega
    · rw [show c + 1 + (m + 1) = (c + 1 + m) + 1 by omega, stV, h1, q2, wtR]
      rw [Int.mul_add (w c), Int.mul_add (wtR w c), Int.mul_add (wtR w c), Int.mul_add (wtR w c)]
      rw [Int.mul_comm (d ((c + 1 + m : Nat) : Int)), Int.mul_assoc, Int.mul_assoc]
      omega
theorem stV_dg {w d : Int → Int} {p : Nat} (h : DgO w d p) {c : Nat} (hc : c < p) : stV w d p / wtR w c % w c = d c := by
  obtain ⟨H, h0, h1⟩ := stV_hi (w := w) (d := d) (c := c) (p - (c + 1)) (by rw [show c + 1 + (p - (c + 1)) = p by omega]; exact h)
  rw [show c + 1 + (p - (c + 1)) = p by omega] at h1
  have lo := stV_r (w := w) (d := d) c (fun x x1 x2 => h x x1 (by omega))
  have wp := wtR_p (w := w) c (fun x x1 x2 => by have := h x x1 (by omega); omega)
  have dc := h c (by omega) (by omega)
  rw [h1, Int.add_mul_ediv_left _ _ (by omega), Int.ediv_eq_zero_of_lt lo.1 lo.2, Int.zero_add, Int.add_mul_emod_self_left]
  exact Int.emod_eq_of_lt dc.1 dc.2
theorem stV_inj {w d d' : Int → Int} {p : Nat} (h : DgO w d p) (h' : DgO w d' p) (e : stV w d p = stV w d' p) : ∀ c, 0 ≤ c → c < (p : Int) → d c = d' c := by
  intro c c1 c2
  have a := stV_dg h (c := c.toNat) (by omega)
  have b := stV_dg h' (c := c.toNat) (by omega)
  rw [Int.toNat_of_nonneg c1] at a b
  rw [← a, ← b, e]
theorem stV_up {w d : Int → Int} {c x : Int} : ∀ k : Nat, 0 ≤ c → (c < (k : Int) → stV w (updL d c x) k = stV w d k + (x - d c) * wtR w c.toNat) ∧ ((k : Int) ≤ c → stV w (updL d c x) k = stV w d k) := by
  intro k
  induction k with
  | zero => intro c0; exact ⟨fun h => by omega, fun _ => rfl⟩
  | succ k ih =>
    intro c0
    have h := ih c0
    rw [stV, stV]
    by_cases e : c = (k : Int)
    · have h2 := h.2 (by omega)
      have u : updL d c x k = x := by unfold updL; rw [if_pos e.symm]
      rw [u, h2]
      refine ⟨fun _ => ?_, fun q => by omega⟩
      rw [e, Int.toNat_natCast, Int.sub_mul]; omega
    · have u : updL d c x k = d k := by unfold updL; rw [if_neg (fun q => e q.symm)]
      rw [u]
      exact ⟨fun q => by rw [h.1 (by omega)]; omega, fun q => by rw [h.2 (by omega)]⟩
theorem stV_cg {w d d' : Int → Int} : ∀ k : Nat, (∀ c, 0 ≤ c → c < (k : Int) → d' c = d c) → stV w d' k = stV w d k := by
  intro k
  induction k with
  | zero => intro _; rfl
  | succ k ih => intro e; rw [stV, stV, ih (fun c c1 c2 => e c c1 (by omega)), e k (by omega) (by omega)]
theorem wtR_cg {w w' : Int → Int} : ∀ k : Nat, (∀ c, 0 ≤ c → c < (k : Int) → w' c = w c) → wtR w' k = wtR w k := by
  intro k
  induction k with
  | zero => intro _; rfl
  | succ k ih => intro e; rw [wtR, wtR, ih (fun c c1 c2 => e c c1 (by omega)), e k (by omega) (by omega)]
/-- every place has digits -/
theorem stV_ex {w : Int → Int} {x : Int} (hx : 0 ≤ x) : ∀ k : Nat, (∀ c, 0 ≤ c → c < (k : Int) → 1 ≤ w c) → stV w (fun c => x / wtR w c.toNat % w c) k = x % wtR w k ∧ DgO w (fun c => x / wtR w c.toNat % w c) k := by
  intro k
  induction k with
  | zero => intro _; exact ⟨by simp [stV, wtR, Int.emod_one], fun c c1 c2 => by omega⟩
  | succ k ih =>
    intro h
    have a := ih (fun c c1 c2 => h c c1 (by omega))
    have b := h k (by omega) (by omega)
    have wp := wtR_p (w := w) k (fun c c1 c2 => h c c1 (by omega))
    have d0 : 0 ≤ x / wtR w k % w k ∧ x / wtR w k % w k < w k := ⟨Int.emod_nonneg _ (by omega), Int.emod_lt_of_pos _ (by omega)⟩
    constructor
    · rw [stV, a.1, wtR]
      show x % wtR w k + x / wtR w ((k : Int)).toNat % w k * wtR w k = _
      rw [Int.toNat_natCast]
      have e1 := Int.emod_add_mul_ediv x (wtR w k)
      have e2 := Int.emod_add_mul_ediv (x / wtR w k) (w k)
      have r1 : 0 ≤ x % wtR w k ∧ x % wtR w k < wtR w k := ⟨Int.emod_nonneg _ (by omega), Int.emod_lt_of_pos _ (by omega)⟩
      have key : x = (x % wtR w k + x / wtR w k % w k * wtR w k) + wtR w k * w k * (x / wtR w k / w k) := by
        have e3 : wtR w k * (x / wtR w k) = wtR w k * (x / wtR w k % w k + w k * (x / wtR w k / w k)) := by rw [e2]
        rw [Int.mul_add, ← Int.mul_assoc] at e3
        rw [Int.mul_comm (x / wtR w k % w k)]
        omega
      have lt : 0 ≤ x % wtR w k + x / wtR w k % w k * wtR w k ∧ x % wtR w k + x / wtR w k % w k * wtR w k < wtR w k * w k := by
        have h1 : 0 ≤ x / wtR w k % w k * wtR w k := Int.mul_nonneg d0.1 (by omega)
        have h2 : (x / wtR w k % w k + 1) * wtR w k ≤ w k * wtR w k := Int.mul_le_mul_of_nonneg_right (by omega) (by omega)
        rw [Int.add_mul, Int.one_mul] at h2
        have h3 : wtR w k * w k = w k * wtR w k := Int.mul_comm _ _
        omega
      conv => rhs; rw [key]
      rw [Int.add_mul_emod_self_left, Int.emod_eq_of_lt lt.1 lt.2]
    · intro c c1 c2
      by_cases e : c = (k : Int)
      · subst e
        show 0 ≤ x / wtR w ((k : Int)).toNat % w k ∧ x / wtR w ((k : Int)).toNat % w k < w k
        rw [Int.toNat_natCast]; exact d0
      · exact a.2 c c1 (by omega)
