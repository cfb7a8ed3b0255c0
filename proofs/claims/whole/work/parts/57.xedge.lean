/-! ===== the class: edges ===== -/
/-- game z of the class's memory X has the rows of G, its options the stops of G -/
def EdP (G X : Mem) (z : Int) : Prop := OpS G z ∧ (∀ s, 0 ≤ s → s ≤ 1 → X 41 (40 * s + z) = G 3 (2 * z + s) ∧ ∀ i, 0 ≤ i → i < G 3 (2 * z + s) → X 42 (40 * (4 * s + i) + z) = opt G z s i) ∧ ∀ s, 0 ≤ s → s ≤ 1 → ∀ i, 0 ≤ i → i < G 3 (2 * z + s) → (X 43 (40 * 0 + opt G z s i) = G 10 (opt G z s i) ∧ X 43 (40 * 1 + opt G z s i) = G 8 (opt G z s i) ∧ X 44 (40 * 0 + opt G z s i) = G 11 (opt G z s i) ∧ X 44 (40 * 1 + opt G z s i) = G 9 (opt G z s i)) ∧ (-20480 ≤ G 8 (opt G z s i) ∧ G 8 (opt G z s i) ≤ 20480) ∧ (-20480 ≤ G 10 (opt G z s i) ∧ G 10 (opt G z s i) ≤ 20480)
theorem ed_opt {G X : Mem} {z s i : Int} (h : EdP G X z) (hs : 0 ≤ s ∧ s ≤ 1) (hi : 0 ≤ i ∧ i < G 3 (2 * z + s)) : optAt X z s i = opt G z s i := by
  obtain ⟨a, b⟩ := h.2.1 s hs.1 hs.2
  unfold optAt
  rw [if_pos (by rw [a]; exact hi)]
  exact b i hi.1 hi.2
/-- the running edge: nothing seen yet, or the reference's -/
def RunL (G : Mem) (z : Int) (j : Nat) (e t : Int) : Prop := (t = 0 ∨ t = 1) ∧ ((j = 0 ∧ e = -16777216 ∧ t = 1) ∨ (1 ≤ j ∧ e = (loS G z j).1 ∧ t = (loS G z j).2 ∧ -20480 ≤ e ∧ e ≤ 20480))
def RunR (G : Mem) (z : Int) (j : Nat) (e t : Int) : Prop := (t = 0 ∨ t = 1) ∧ ((j = 0 ∧ e = -16777216 ∧ t = 1) ∨ (1 ≤ j ∧ -e = (upS G z j).1 ∧ t = (upS G z j).2 ∧ -20480 ≤ e ∧ e ≤ 20480))
theorem runL_s {G : Mem} {z e t v b : Int} {j : Nat} (h : RunL G z j e t) (hv : v = G 8 (opt G z 0 j)) (hb : b = G 9 (opt G z 0 j)) (hr : -20480 ≤ v ∧ v ≤ 20480) (e' t' : Int) (he : e' = if e < v then v else e) (ht : t' = if e < v then (if b = 0 then 1 else 0) else if v = e then (if t ≠ 0 ∧ b = 0 then 1 else 0) else t) : RunL G z (j + 1) e' t' := by
  obtain ⟨t01, h⟩ := h
  have e1 : loS G z (j + 1) = if (loS G z j).1 < v then (v, if b = 0 then 1 else 0) else if v = (loS G z j).1 then ((loS G z j).1, if (loS G z j).2 ≠ 0 ∧ b = 0 then 1 else 0) else loS G z j := by
    rw [loS, hv, hb]
  have t01' : t' = 0 ∨ t' = 1 := by rw [ht]; repeat (first | omega | split)
  refine ⟨t01', Or.inr ⟨by omega, ?_⟩⟩
  rcases h with ⟨j0, k1, k2⟩ | ⟨j1, k1, k2, k3, k4⟩
  · subst j0
    have e2 : (loS G z 0) = (-1000000, 0) := rfl
    rw [e2, if_pos (show (-1000000 : Int) < v by omega)] at e1
    rw [if_pos (by omega)] at he ht
    rw [e1]
    exact ⟨he, ht, by omega, by omega⟩
  · rw [← k1, ← k2] at e1
    by_cases c : e < v
    · rw [if_pos c] at e1 he ht
      rw [e1]; exact ⟨he, ht, by omega, by omega⟩
    · rw [if_neg c] at e1 he ht
      by_cases c2 : v = e
      · rw [if_pos c2] at e1 ht
        rw [e1]; exact ⟨he, ht, by omega, by omega⟩
      · rw [if_neg c2] at e1 ht
        rw [e1, ← k1, ← k2]; exact ⟨he, ht, by omega, by omega⟩
theorem runR_s {G : Mem} {z e t v b : Int} {j : Nat} (h : RunR G z j e t) (hv : v = G 10 (opt G z 1 j)) (hb : b = G 11 (opt G z 1 j)) (hr : -20480 ≤ v ∧ v ≤ 20480) (e' t' : Int) (he : e' = if e < -v then -v else e) (ht : t' = if e < -v then (if b = 0 then 1 else 0) else if -v = e then (if t ≠ 0 ∧ b = 0 then 1 else 0) else t) : RunR G z (j + 1) e' t' := by
  obtain ⟨t01, h⟩ := h
  have e1 : upS G z (j + 1) = if v < (upS G z j).1 then (v, if b = 0 then 1 else 0) else if v = (upS G z j).1 then ((upS G z j).1, if (upS G z j).2 ≠ 0 ∧ b = 0 then 1 else 0) else upS G z j := by
    rw [upS, hv, hb]
  have t01' : t' = 0 ∨ t' = 1 := by rw [ht]; repeat (first | omega | split)
  refine ⟨t01', Or.inr ⟨by omega, ?_⟩⟩
  rcases h with ⟨j0, k1, k2⟩ | ⟨j1, k1, k2, k3, k4⟩
  · subst j0
    have e2 : (upS G z 0) = (1000000, 0) := rfl
    rw [e2, if_pos (show v < (1000000 : Int) by omega)] at e1
    rw [if_pos (by omega)] at he ht
    rw [e1]
    exact ⟨by rw [he]; omega, ht, by omega, by omega⟩
  · rw [← k1, ← k2] at e1
    by_cases c : e < -v
    · rw [if_pos (show v < -e by omega)] at e1
      rw [if_pos c] at he ht
      rw [e1]; exact ⟨by rw [he]; omega, ht, by omega, by omega⟩
    · rw [if_neg (show ¬ v < -e by omega)] at e1
      rw [if_neg c] at he ht
      by_cases c2 : -v = e
      · rw [if_pos (show v = -e by omega)] at e1
        rw [if_pos c2] at ht
        rw [e1]; exact ⟨by rw [he], ht, by omega, by omega⟩
      · rw [if_neg (show ¬ v = -e by omega)] at e1
        rw [if_neg c2] at ht
        rw [e1, ← k1, ← k2]; exact ⟨by rw [he], ht, by omega, by omega⟩
