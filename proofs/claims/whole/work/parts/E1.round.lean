/-! ===== a round of the machine ===== -/
/-- what is wanted, how many braces stand open, behind the bar or not by level, the place -/
abbrev MSt : Type := Int × Int × (Int → Int) × Int
def nuF (p : Int ⊕ (Int × Int)) (o : Int) (b : Int → Int) (f : Int → List Int) : Int ⊕ (MSt × List Int) := match p with
  | .inl a => .inl a
  | .inr (x, e) => .inr ((3, o, b, e), f x)
def gmF (u : Int → Int) (L w o : Int) (b : Int → Int) (e : Int) : Int ⊕ (MSt × List Int) :=
  if kdF u L e = 2 then (if nmK u L e = 6 then .inl (stF u L e) else .inr ((3, o, b, enF u L e), nmX (nmK u L e))) else
  if kdF u L e = 43 then (if kdA u L (enF u L e) = 45 then nuF (posF u L (enF u L (enF u L e))) o b (fun x => [100, x, 101, -x, 102]) else .inl (enF u L e)) else
  if kdF u L e = 45 then nuF (posF u L (enF u L e)) o b (fun x => [-x]) else
  if kdF u L e = 3 then nuF (posF u L e) o b (fun x => [x]) else
  if kdF u L e = 123 then .inr ((1, o + 1, fun i => if i = o then 0 else b i, enF u L e), [100]) else
  if kdF u L e = 124 ∧ w = 1 then .inr ((2, o, fun i => if i = o - 1 then 1 else b i, enF u L e), [101]) else
  if kdF u L e = 125 ∧ w = 2 then .inr ((3, o - 1, b, enF u L e), [102]) else .inl (stF u L e)
def bhF (u : Int → Int) (L o : Int) (b : Int → Int) (e : Int) : Int ⊕ (MSt × List Int) :=
  if o = 0 then (if kdF u L e = 0 then .inr ((4, o, b, e), []) else .inl (stF u L e)) else
  if kdF u L e = 44 then .inr ((0, o, b, enF u L e), []) else
  if kdF u L e = 124 ∧ b (o - 1) = 0 then .inr ((2, o, fun i => if i = o - 1 then 1 else b i, enF u L e), [101]) else
  if kdF u L e = 125 ∧ b (o - 1) ≠ 0 then .inr ((3, o - 1, b, enF u L e), [102]) else .inl (stF u L e)
def rdF (u : Int → Int) (L w o : Int) (b : Int → Int) (e : Int) : Int ⊕ (MSt × List Int) := if w = 3 then bhF u L o b e else gmF u L w o b e
/-- the run: the fault (-1: none) and the steps -/
def RnN (u : Int → Int) (L : Int) : Nat → Int → Int → (Int → Int) → Int → Int → List Int → Prop
  | 0, w, _, _, _, f, xs => w = 4 ∧ f = -1 ∧ xs = []
  | n + 1, w, o, b, e, f, xs => (w = 4 ∧ f = -1 ∧ xs = []) ∨ (w ≠ 4 ∧ rdF u L w o b e = .inl f ∧ xs = []) ∨ (w ≠ 4 ∧ ∃ w' o' b' e' ys zs, rdF u L w o b e = .inr ((w', o', b', e'), ys) ∧ RnN u L n w' o' b' e' f zs ∧ xs = ys ++ zs)
def Rn (u : Int → Int) (L w o : Int) (b : Int → Int) (e f : Int) (xs : List Int) : Prop := ∃ n, RnN u L n w o b e f xs
theorem Rn.dn {u : Int → Int} {L o : Int} {b : Int → Int} {e : Int} : Rn u L 4 o b e (-1) [] := ⟨0, rfl, rfl, rfl⟩
theorem Rn.ft {u : Int → Int} {L w o : Int} {b : Int → Int} {e f : Int} (hw : w ≠ 4) (h : rdF u L w o b e = .inl f) : Rn u L w o b e f [] := ⟨1, Or.inr (Or.inl ⟨hw, h, rfl⟩)⟩
theorem Rn.nx {u : Int → Int} {L w o : Int} {b : Int → Int} {e f w' o' : Int} {b' : Int → Int} {e' : Int} {xs ys : List Int} (hw : w ≠ 4) (h : rdF u L w o b e = .inr ((w', o', b', e'), xs)) (k : Rn u L w' o' b' e' f ys) : Rn u L w o b e f (xs ++ ys) := by
  obtain ⟨n, k⟩ := k
  exact ⟨n + 1, Or.inr (Or.inr ⟨hw, w', o', b', e', xs, ys, h, k, rfl⟩)⟩
theorem RnN.cs {u : Int → Int} {L w o : Int} {b : Int → Int} {e f : Int} {xs : List Int} {n : Nat} (h : RnN u L n w o b e f xs) : (w = 4 ∧ f = -1 ∧ xs = []) ∨ (w ≠ 4 ∧ rdF u L w o b e = .inl f ∧ xs = []) ∨ (w ≠ 4 ∧ ∃ w' o' b' e' ys zs k, n = k + 1 ∧ rdF u L w o b e = .inr ((w', o', b', e'), ys) ∧ RnN u L k w' o' b' e' f zs ∧ xs = ys ++ zs) := by
  cases n with
  | zero => exact Or.inl h
  | succ n =>
    rcases h with h | h | ⟨hw, w', o', b', e', ys, zs, h1, h2, h3⟩
    · exact Or.inl h
    · exact Or.inr (Or.inl h)
    · exact Or.inr (Or.inr ⟨hw, w', o', b', e', ys, zs, n, rfl, h1, h2, h3⟩)
theorem nuF_b {p : Int ⊕ (Int × Int)} {o : Int} {b b' : Int → Int} {f : Int → List Int} : (∀ a, nuF p o b f = .inl a → nuF p o b' f = .inl a) ∧ (∀ w' o' b1 e' xs, nuF p o b f = .inr ((w', o', b1, e'), xs) → o' = o ∧ b1 = b ∧ nuF p o b' f = .inr ((w', o', b', e'), xs)) := by
  cases p with
  | inl q => exact ⟨fun a h => h, fun w' o' b1 e' xs h => by cases h⟩
  | inr q =>
    obtain ⟨x, e⟩ := q
    exact ⟨fun a h => (by cases h), fun w' o' b1 e' xs h => by cases h; exact ⟨rfl, rfl, rfl⟩⟩
theorem rd_cg {u : Int → Int} {L w o : Int} {b b' : Int → Int} {e : Int} (ho : 0 ≤ o) (hb : ∀ i, 0 ≤ i → i < o → b i = b' i) : (∀ a, rdF u L w o b e = .inl a → rdF u L w o b' e = .inl a) ∧ (∀ w' o' b1 e' xs, rdF u L w o b e = .inr ((w', o', b1, e'), xs) → ∃ b2, rdF u L w o b' e = .inr ((w', o', b2, e'), xs) ∧ (∀ i, 0 ≤ i → i < o' → b1 i = b2 i)) := by
  have nu : ∀ (p : Int ⊕ (Int × Int)) (f : Int → List Int), (∀ a, nuF p o b f = .inl a → nuF p o b' f = .inl a) ∧ (∀ w' o' b1 e' xs, nuF p o b f = .inr ((w', o', b1, e'), xs) → ∃ b2, nuF p o b' f = .inr ((w', o', b2, e'), xs) ∧ (∀ i, 0 ≤ i → i < o' → b1 i = b2 i)) := by
    intro p f
    refine ⟨(nuF_b (b := b) (b' := b')).1, fun w' o' b1 e' xs h => ?_⟩
    obtain ⟨e1, e2, e3⟩ := (nuF_b (b := b) (b' := b')).2 w' o' b1 e' xs h
    exact ⟨b', e3, fun i i0 i1 => by rw [e2]; exact hb i i0 (by omega)⟩
  have ups : ∀ (q v o' : Int), o' ≤ o + 1 → (o' = o + 1 → q = o) → ∀ i, 0 ≤ i → i < o' → (if i = q then v else b i) = (if i = q then v else b' i) := by
    intro q v o' h1 h2 i i0 i1
    split
    · rfl
    · rename_i hn
      exact hb i i0 (by
        by_cases w9 : o' = o + 1
        · have := h2 w9; omega
        · omega)
  unfold rdF
  by_cases w3 : w = 3
  · rw [if_pos w3, if_pos w3]
    unfold bhF
    by_cases o0 : o = 0
    · rw [if_pos o0, if_pos o0]
      by_cases k0 : kdF u L e = 0
      · rw [if_pos k0, if_pos k0]
        exact ⟨fun a h => (by cases h), fun w' o' b1 e' xs h => by cases h; exact ⟨b', rfl, hb⟩⟩
      · rw [if_neg k0, if_neg k0]
        exact ⟨fun a h => h, fun w' o' b1 e' xs h => by cases h⟩
    · rw [if_neg o0, if_neg o0, ← hb (o - 1) (by omega) (by omega)]
      by_cases k1 : kdF u L e = 44
      · rw [if_pos k1, if_pos k1]
        exact ⟨fun a h => (by cases h), fun w' o' b1 e' xs h => by cases h; exact ⟨b', rfl, hb⟩⟩
      · rw [if_neg k1, if_neg k1]
        by_cases k2 : kdF u L e = 124 ∧ b (o - 1) = 0
        · rw [if_pos k2, if_pos k2]
          exact ⟨fun a h => (by cases h), fun w' o' b1 e' xs h => by cases h; exact ⟨_, rfl, ups _ _ _ (by omega) (by omega)⟩⟩
        · rw [if_neg k2, if_neg k2]
          by_cases k3 : kdF u L e = 125 ∧ b (o - 1) ≠ 0
          · rw [if_pos k3, if_pos k3]
            exact ⟨fun a h => (by cases h), fun w' o' b1 e' xs h => by cases h; exact ⟨b', rfl, fun i i0 i1 => hb i i0 (by omega)⟩⟩
          · rw [if_neg k3, if_neg k3]
            exact ⟨fun a h => h, fun w' o' b1 e' xs h => by cases h⟩
  · rw [if_neg w3, if_neg w3]
    unfold gmF
    by_cases k1 : kdF u L e = 2
    · rw [if_pos k1, if_pos k1]
      by_cases k2 : nmK u L e = 6
      · rw [if_pos k2, if_pos k2]
        exact ⟨fun a h => h, fun w' o' b1 e' xs h => by cases h⟩
      · rw [if_neg k2, if_neg k2]
        exact ⟨fun a h => (by cases h), fun w' o' b1 e' xs h => by cases h; exact ⟨b', rfl, hb⟩⟩
    · rw [if_neg k1, if_neg k1]
      by_cases k2 : kdF u L e = 43
      · rw [if_pos k2, if_pos k2]
        by_cases k3 : kdA u L (enF u L e) = 45
        · rw [if_pos k3, if_pos k3]; exact nu _ _
        · rw [if_neg k3, if_neg k3]
          exact ⟨fun a h => h, fun w' o' b1 e' xs h => by cases h⟩
      · rw [if_neg k2, if_neg k2]
        by_cases k3 : kdF u L e = 45
        · rw [if_pos k3, if_pos k3]; exact nu _ _
        · rw [if_neg k3, if_neg k3]
          by_cases k4 : kdF u L e = 3
          · rw [if_pos k4, if_pos k4]; exact nu _ _
          · rw [if_neg k4, if_neg k4]
            by_cases k5 : kdF u L e = 123
            · rw [if_pos k5, if_pos k5]
              exact ⟨fun a h => (by cases h), fun w' o' b1 e' xs h => by cases h; exact ⟨_, rfl, ups _ _ _ (by omega) (fun _ => rfl)⟩⟩
            · rw [if_neg k5, if_neg k5]
              by_cases k6 : kdF u L e = 124 ∧ w = 1
              · rw [if_pos k6, if_pos k6]
                exact ⟨fun a h => (by cases h), fun w' o' b1 e' xs h => by cases h; exact ⟨_, rfl, ups _ _ _ (by omega) (by omega)⟩⟩
              · rw [if_neg k6, if_neg k6]
                by_cases k7 : kdF u L e = 125 ∧ w = 2
                · rw [if_pos k7, if_pos k7]
                  exact ⟨fun a h => (by cases h), fun w' o' b1 e' xs h => by cases h; exact ⟨b', rfl, fun i i0 i1 => hb i i0 (by omega)⟩⟩
                · rw [if_neg k7, if_neg k7]
                  exact ⟨fun a h => h, fun w' o' b1 e' xs h => by cases h⟩
/-- what the states keep -/
def Ms (L w o e : Int) : Prop := (0 ≤ w ∧ w ≤ 4) ∧ (0 ≤ o ∧ o ≤ e) ∧ ((w = 1 ∨ w = 2) → 1 ≤ o) ∧ (0 ≤ e ∧ e ≤ L)
theorem dgF_r {u : Int → Int} {L e : Int} (he : 0 ≤ e ∧ e ≤ L) : (-1 ≤ dgF u L e ∧ dgF u L e ≤ 99) ∧ (dgF u L e ≠ -1 → kdF u L e = 3) := by
  have t := tok_ex (u := u) he.2
  have r := atT_r (u := u) he
  by_cases q : kdF u L e = 3 ∧ enF u L e - stF u L e ≤ 2 ∧ ¬ (enF u L e - stF u L e = 2 ∧ u (stF u L e) = 48)
  · have lt := r.2.2.2 (by omega)
    have c1 := dg_ch (t.2.2.2.2.2.2.1 (Or.inr q.1) |>.1 (stF u L e) (by omega) lt |>.trans q.1)
    rw [dgF, if_pos q]
    by_cases q2 : enF u L e - stF u L e = 2
    · have c2 := dg_ch (t.2.2.2.2.2.2.1 (Or.inr q.1) |>.1 (stF u L e + 1) (by omega) (by omega) |>.trans q.1)
      rw [if_pos q2]
      exact ⟨by omega, fun _ => q.1⟩
    · rw [if_neg q2]
      exact ⟨by omega, fun _ => q.1⟩
  · rw [dgF, if_neg q]
    exact ⟨by omega, fun w => absurd rfl w⟩
theorem ppF_r (d : Int) : ppF d = 0 ∨ ppF d = 1 ∨ ppF d = 2 ∨ ppF d = 4 := by
  unfold ppF
  split
  · omega
  · split
    · omega
    · split <;> omega
theorem posF_r {u : Int → Int} {L e : Int} (he : 0 ≤ e ∧ e ≤ L) : (∀ f, posF u L e = .inl f → 0 ≤ f ∧ f ≤ L) ∧ (∀ x e', posF u L e = .inr (x, e') → (0 ≤ x ∧ x ≤ 64) ∧ (e < e' ∧ e' ≤ L)) := by
  have d1 := dgF_r (u := u) he
  have r1 := atT_r (u := u) he
  have r2 := atT_r (u := u) (L := L) (e := enF u L e) (by omega)
  have r3 := atT_r (u := u) (L := L) (e := enF u L (enF u L e)) (by omega)
  unfold posF
  by_cases q1 : dgF u L e = -1
  · rw [if_pos q1]
    exact ⟨fun f h => (by cases h; omega), fun x e' h => by cases h⟩
  · have lt := r1.2.2.2 (by rw [d1.2 q1]; decide)
    rw [if_neg q1]
    by_cases q2 : kdF u L (enF u L e) ≠ 47
    · rw [if_pos q2]
      by_cases q3 : 8 < dgF u L e
      · rw [if_pos q3]
        exact ⟨fun f h => (by cases h; omega), fun x e' h => by cases h⟩
      · rw [if_neg q3]
        exact ⟨fun f h => (by cases h), fun x e' h => by cases h; omega⟩
    · rw [if_neg q2]
      by_cases q3 : ppF (dgF u L (enF u L (enF u L e))) = 0 ∨ 64 < dgF u L e * ppF (dgF u L (enF u L (enF u L e)))
      · rw [if_pos q3]
        exact ⟨fun f h => (by cases h; omega), fun x e' h => by cases h⟩
      · rw [if_neg q3]
        refine ⟨fun f h => (by cases h), fun x e' h => ?_⟩
        cases h
        refine ⟨⟨?_, by omega⟩, by omega⟩
        have := ppF_r (dgF u L (enF u L (enF u L e)))
        exact Int.mul_nonneg (by omega) (by omega)
theorem rd_ms {u : Int → Int} {L w o : Int} {b : Int → Int} {e : Int} (h : Ms L w o e) (hw : w ≠ 4) : (∀ f, rdF u L w o b e = .inl f → 0 ≤ f ∧ f ≤ L) ∧ (∀ w' o' b' e' xs, rdF u L w o b e = .inr ((w', o', b', e'), xs) → Ms L w' o' e' ∧ e ≤ e' ∧ (w' = 4 ∨ e < e') ∧ (xs.length : Int) ≤ 5 * (e' - e) ∧ (w' = 4 → o' = 0)) := by
  obtain ⟨h1, h2, h3, h4⟩ := h
  have r1 := atT_r (u := u) h4
  have r2 := atT_r (u := u) (L := L) (e := enF u L e) (by omega)
  have nu : ∀ (p : Int) (f : Int → List Int), e ≤ p → p ≤ L → (∀ x, (f x).length ≤ 5) → (∀ a, nuF (posF u L p) o b f = .inl a → 0 ≤ a ∧ a ≤ L) ∧ (∀ w' o' b' e' xs, nuF (posF u L p) o b f = .inr ((w', o', b', e'), xs) → Ms L w' o' e' ∧ e ≤ e' ∧ (w' = 4 ∨ e < e') ∧ (xs.length : Int) ≤ 5 * (e' - e) ∧ (w' = 4 → o' = 0)) := by
    intro p f p1 p2 hf
    have pr := posF_r (u := u) (L := L) (e := p) (by omega)
    generalize posF u L p = z at pr
    cases z with
    | inl q => exact ⟨fun a h => (by cases h; exact pr.1 q rfl), fun w' o' b' e' xs h => by cases h⟩
    | inr q =>
      obtain ⟨x, e1⟩ := q
      have pe := pr.2 x e1 rfl
      refine ⟨fun a h => (by cases h), fun w' o' b' e' xs h => ?_⟩
      cases h
      have := hf x
      exact ⟨⟨by omega, by omega, by omega, by omega⟩, by omega, Or.inr (by omega), by omega, by omega⟩
  have no : ∀ f : Int, 0 ≤ f ∧ f ≤ L → (∀ a, (Sum.inl f : Int ⊕ (MSt × List Int)) = .inl a → 0 ≤ a ∧ a ≤ L) ∧ (∀ w' o' b' e' xs, (Sum.inl f : Int ⊕ (MSt × List Int)) = .inr ((w', o', b', e'), xs) → Ms L w' o' e' ∧ e ≤ e' ∧ (w' = 4 ∨ e < e') ∧ (xs.length : Int) ≤ 5 * (e' - e) ∧ (w' = 4 → o' = 0)) :=
    fun f hf => ⟨fun a h => (by cases h; exact hf), fun w' o' b' e' xs h => by cases h⟩
  have ye : ∀ (w1 o1 : Int) (b1 : Int → Int) (e1 : Int) (ys : List Int), (Ms L w1 o1 e1 ∧ e ≤ e1 ∧ (w1 = 4 ∨ e < e1) ∧ (ys.length : Int) ≤ 5 * (e1 - e) ∧ (w1 = 4 → o1 = 0)) → (∀ a, (Sum.inr ((w1, o1, b1, e1), ys) : Int ⊕ (MSt × List Int)) = .inl a → 0 ≤ a ∧ a ≤ L) ∧ (∀ w' o' b' e' xs, (Sum.inr ((w1, o1, b1, e1), ys) : Int ⊕ (MSt × List Int)) = .inr ((w', o', b', e'), xs) → Ms L w' o' e' ∧ e ≤ e' ∧ (w' = 4 ∨ e < e') ∧ (xs.length : Int) ≤ 5 * (e' - e) ∧ (w' = 4 → o' = 0)) :=
    fun w1 o1 b1 e1 ys hy => ⟨fun a h => (by cases h), fun w' o' b' e' xs h => by cases h; exact hy⟩
  unfold rdF
  by_cases w3 : w = 3
  · rw [if_pos w3]
    unfold bhF
    by_cases o0 : o = 0
    · rw [if_pos o0]
      by_cases k0 : kdF u L e = 0
      · rw [if_pos k0]; exact ye _ _ _ _ _ ⟨⟨by omega, by omega, by omega, h4⟩, by omega, Or.inl rfl, by simp, fun _ => o0⟩
      · rw [if_neg k0]; exact no _ (by omega)
    · rw [if_neg o0]
      by_cases k1 : kdF u L e = 44
      · have lt := r1.2.2.2 (by omega)
        rw [if_pos k1]; exact ye _ _ _ _ _ ⟨⟨by omega, by omega, by omega, by omega⟩, by omega, Or.inr (by omega), by simp; omega, by omega⟩
      · rw [if_neg k1]
        by_cases k2 : kdF u L e = 124 ∧ b (o - 1) = 0
        · have lt := r1.2.2.2 (by omega)
          rw [if_pos k2]; exact ye _ _ _ _ _ ⟨⟨by omega, by omega, by omega, by omega⟩, by omega, Or.inr (by omega), by simp; omega, by omega⟩
        · rw [if_neg k2]
          by_cases k3 : kdF u L e = 125 ∧ b (o - 1) ≠ 0
          · have lt := r1.2.2.2 (by omega)
            rw [if_pos k3]; exact ye _ _ _ _ _ ⟨⟨by omega, by omega, by omega, by omega⟩, by omega, Or.inr (by omega), by simp; omega, by omega⟩
          · rw [if_neg k3]; exact no _ (by omega)
  · rw [if_neg w3]
    unfold gmF
    by_cases k1 : kdF u L e = 2
    · have lt := r1.2.2.2 (by omega)
      rw [if_pos k1]
      by_cases k2 : nmK u L e = 6
      · rw [if_pos k2]; exact no _ (by omega)
      · rw [if_neg k2]
        refine ye _ _ _ _ _ ⟨⟨by omega, by omega, by omega, by omega⟩, by omega, Or.inr (by omega), ?_, by omega⟩
        have l2 : 2 ≤ enF u L e - stF u L e := by
          unfold nmK at k2
          split at k2
          · omega
          · split at k2
            · omega
            · split at k2
              · omega
              · omega
        have : (nmX (nmK u L e)).length ≤ 9 := by
          unfold nmX
          split
          · decide
          · split <;> decide
        omega
    · rw [if_neg k1]
      by_cases k2 : kdF u L e = 43
      · rw [if_pos k2]
        by_cases k3 : kdA u L (enF u L e) = 45
        · rw [if_pos k3]; exact nu _ _ (by omega) (by omega) (fun x => by simp)
        · rw [if_neg k3]; exact no _ (by omega)
      · rw [if_neg k2]
        by_cases k3 : kdF u L e = 45
        · rw [if_pos k3]; exact nu _ _ (by omega) (by omega) (fun x => by simp)
        · rw [if_neg k3]
          by_cases k4 : kdF u L e = 3
          · rw [if_pos k4]; exact nu _ _ (by omega) (by omega) (fun x => by simp)
          · rw [if_neg k4]
            by_cases k5 : kdF u L e = 123
            · have lt := r1.2.2.2 (by omega)
              rw [if_pos k5]; exact ye _ _ _ _ _ ⟨⟨by omega, by omega, by omega, by omega⟩, by omega, Or.inr (by omega), by simp; omega, by omega⟩
            · rw [if_neg k5]
              by_cases k6 : kdF u L e = 124 ∧ w = 1
              · have lt := r1.2.2.2 (by omega)
                rw [if_pos k6]; exact ye _ _ _ _ _ ⟨⟨by omega, by omega, by omega, by omega⟩, by omega, Or.inr (by omega), by simp; omega, by omega⟩
              · rw [if_neg k6]
                by_cases k7 : kdF u L e = 125 ∧ w = 2
                · have lt := r1.2.2.2 (by omega)
                  rw [if_pos k7]; exact ye _ _ _ _ _ ⟨⟨by omega, by omega, by omega, by omega⟩, by omega, Or.inr (by omega), by simp; omega, by omega⟩
                · rw [if_neg k7]; exact no _ (by omega)
theorem rnN_uq {u : Int → Int} {L : Int} : ∀ (n : Nat) {w o : Int} {b : Int → Int} {e f : Int} {xs : List Int}, RnN u L n w o b e f xs → ∀ {n' : Nat} {b' : Int → Int} {f' : Int} {xs' : List Int}, Ms L w o e → (∀ i, 0 ≤ i → i < o → b i = b' i) → RnN u L n' w o b' e f' xs' → f = f' ∧ xs = xs' := by
  intro n
  induction n with
  | zero =>
    intro w o b e f xs h n' b' f' xs' m hb k
    obtain ⟨h1, h2, h3⟩ := h
    rcases k.cs with ⟨k1, k2, k3⟩ | ⟨k1, -⟩ | ⟨k1, -⟩
    · exact ⟨h2.trans k2.symm, h3.trans k3.symm⟩
    · exact absurd h1 k1
    · exact absurd h1 k1
  | succ n ih =>
    intro w o b e f xs h n' b' f' xs' m hb k
    rcases h.cs with ⟨h1, h2, h3⟩ | ⟨h1, h2, h3⟩ | ⟨h1, w1, o1, b1, e1, ys, zs, k1, hk1, h2, h3, h4⟩
    · rcases k.cs with ⟨k1, k2, k3⟩ | ⟨k1, -⟩ | ⟨k1, -⟩
      · exact ⟨h2.trans k2.symm, h3.trans k3.symm⟩
      · exact absurd h1 k1
      · exact absurd h1 k1
    · have r := (rd_cg m.2.1.1 hb).1 _ h2
      rcases k.cs with ⟨k1, -⟩ | ⟨-, k2, k3⟩ | ⟨-, w2, o2, b2, e2, ys2, zs2, k9, -, k2, -⟩
      · exact absurd k1 h1
      · rw [r] at k2
        exact ⟨Sum.inl.inj k2, h3.trans k3.symm⟩
      · rw [r] at k2; cases k2
    · obtain ⟨b3, r, hb3⟩ := (rd_cg m.2.1.1 hb).2 _ _ _ _ _ h2
      have m2 := (rd_ms m h1).2 _ _ _ _ _ h2
      rcases k.cs with ⟨k1, -⟩ | ⟨-, k2, k3⟩ | ⟨-, w2, o2, b2, e2, ys2, zs2, k9, -, k2, k3, k4⟩
      · exact absurd k1 h1
      · rw [r] at k2; cases k2
      · rw [r] at k2
        cases k2
        have ek : k1 = n := by omega
        subst ek
        obtain ⟨e1, e2⟩ := ih h3 m2.1 hb3 k3
        exact ⟨e1, by rw [h4, k4, e2]⟩
theorem rn_uq {u : Int → Int} {L w o : Int} {b b' : Int → Int} {e f f' : Int} {xs xs' : List Int} (h : Rn u L w o b e f xs) (m : Ms L w o e) (hb : ∀ i, 0 ≤ i → i < o → b i = b' i) (k : Rn u L w o b' e f' xs') : f = f' ∧ xs = xs' := by
  obtain ⟨n, h⟩ := h
  obtain ⟨n', k⟩ := k
  exact rnN_uq n h m hb k
