/-! ===== the class: steps are noted ===== -/
def FN (A N : Mem) : Prop := ∀ c i, c ≠ 21 → c ≠ 22 → N c i = A c i
def Em (A N : Mem) (xs : List Int) : Prop := N 22 0 = A 22 0 + (xs.length : Int) ∧ (∀ i, i < A 22 0 → N 21 i = A 21 i) ∧ ∀ (j : Nat) (v : Int), xs[j]? = some v → N 21 (A 22 0 + j) = v
theorem em_app {A N P : Mem} {xs ys : List Int} (h : Em A N xs) (k : Em N P ys) : Em A P (xs ++ ys) := by
  obtain ⟨a, b, c⟩ := h
  obtain ⟨d, e, f⟩ := k
  refine ⟨by rw [d, a, List.length_append]; omega, fun i hi => (e i (by omega)).trans (b i hi), fun j v q => ?_⟩
  by_cases w : j < xs.length
  · rw [List.getElem?_append_left w] at q
    rw [e _ (by omega)]
    exact c j v q
  · rw [List.getElem?_append_right (by omega)] at q
    have := f (j - xs.length) v q
    rw [show N 22 0 + ((j - xs.length : Nat) : Int) = A 22 0 + j by omega] at this
    exact this
theorem em_fn {A N P : Mem} {xs : List Int} (h : Em A N xs) (e : ∀ i, P 21 i = N 21 i) (e2 : P 22 0 = N 22 0) : Em A P xs := ⟨e2.trans h.1, fun i hi => (e i).trans (h.2.1 i hi), fun j v q => (e _).trans (h.2.2 j v q)⟩
theorem em_0 {A N : Mem} (e : ∀ i, N 21 i = A 21 i) (e2 : N 22 0 = A 22 0) : Em A N [] := ⟨by rw [e2]; simp, fun i _ => e i, fun j v q => by simp at q⟩
theorem x_note {g : Gs} {ad : Nat → Nat} {sk : (Nat → Nat) × (Nat → Nat)} {A : Mem} {x : Int} (hx : R32 x) (h : 0 ≤ A 22 0 ∧ A 22 0 < 400) : SpV (wC g ad sk) yX8_note cX8_note 2 none 1 [.ref (ad 5), vI (x)] (A) (fun N => FN A N ∧ Em A N [x]) := by
  intro l9 hl9
  refine ct_of hl9 mi_X8_note.2.2.2 (Nat.le_of_ble_eq_true rfl) (fun X _ C Y => ?_)
  show E (wC g ad sk) X 0 0 (A) 0 [(0, .ref (ad 5)), (1, vI (x))] []
  refine e_wf (fun hw => ?_)
  refine B_X8_note_0 (by omega) (Nat.zero_le _) (Nat.zero_le _) C Y ⟨fun q => absurd q (by omega), fun q => ⟨by omega, rfl, fun c i h1 h2 => by rw [up_c h2, up_c h1], ?_, fun i hi => ?_, fun j v q => ?_⟩⟩
  · rw [up_s]; rfl
  · rw [up_c (by decide), up_i (by omega)]
  · have j0 : j = 0 := by
      have := (List.getElem?_eq_some_iff.mp q).1
      simp at this; exact this
    subst j0
    have e : x = v := by simpa using q
    rw [up_c (by decide), show A 22 0 + ((0 : Nat) : Int) = A 22 0 by omega, up_s, e]
theorem x_notePair {g : Gs} {ad : Nat → Nat} {sk : (Nat → Nat) × (Nat → Nat)} {A : Mem} {x y : Int} (hx : R32 x) (hy : R32 y) (h : 0 ≤ A 22 0 ∧ A 22 0 + 5 ≤ 400) : SpV (wC g ad sk) yX8_notePair cX8_notePair 3 none 2 [.ref (ad 5), vI (x), vI (y)] (A) (fun N => FN A N ∧ Em A N [100, x, 101, y, 102]) := by
  intro l9 hl9
  refine ct_of hl9 mi_X8_notePair.2.2.2 (Nat.le_of_ble_eq_true rfl) (fun X _ C Y => ?_)
  show E (wC g ad sk) X 0 0 (A) 0 [(0, .ref (ad 5)), (1, vI (x)), (2, vI (y))] []
  refine e_wf (fun hw => ?_)
  refine B_X8_notePair_0 (by omega) (by omega) (Nat.zero_le _) (Nat.zero_le _) C Y ⟨_, x_note (by omega) (by omega), fun N1 h1 => ?_⟩
  have n1 : N1 22 0 = A 22 0 + 1 := h1.2.1
  refine ⟨_, x_note hx (by omega), fun N2 h2 => ?_⟩
  have n2 : N2 22 0 = N1 22 0 + 1 := h2.2.1
  refine ⟨_, x_note (by omega) (by omega), fun N3 h3 => ?_⟩
  have n3 : N3 22 0 = N2 22 0 + 1 := h3.2.1
  refine ⟨_, x_note hy (by omega), fun N4 h4 => ?_⟩
  have n4 : N4 22 0 = N3 22 0 + 1 := h4.2.1
  refine ⟨_, x_note (by omega) (by omega), fun N5 h5 => ?_⟩
  exact ⟨rfl, fun c i q1 q2 => (h5.1 c i q1 q2).trans ((h4.1 c i q1 q2).trans ((h3.1 c i q1 q2).trans ((h2.1 c i q1 q2).trans (h1.1 c i q1 q2)))), em_app (em_app (em_app (em_app h1.2 h2.2) h3.2) h4.2) h5.2⟩
theorem x_noteStar {g : Gs} {ad : Nat → Nat} {sk : (Nat → Nat) × (Nat → Nat)} {A : Mem} (h : 0 ≤ A 22 0 ∧ A 22 0 + 5 ≤ 400) : SpV (wC g ad sk) yX8_noteStar cX8_noteStar 1 none 3 [.ref (ad 5)] (A) (fun N => FN A N ∧ Em A N [100, 0, 101, 0, 102]) := by
  intro l9 hl9
  refine ct_of hl9 mi_X8_noteStar.2.2.2 (Nat.le_of_ble_eq_true rfl) (fun X _ C Y => ?_)
  show E (wC g ad sk) X 0 0 (A) 0 [(0, .ref (ad 5))] []
  refine e_wf (fun hw => ?_)
  refine B_X8_noteStar_0  (Nat.zero_le _) (Nat.zero_le _) C Y ⟨_, x_notePair (by omega) (by omega) h, fun N hN => ⟨rfl, hN⟩⟩
