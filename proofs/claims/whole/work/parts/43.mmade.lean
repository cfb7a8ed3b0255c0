/-! ===== the reference: making games ===== -/
/-- x stands in row s of the new game -/
def InR (M : Mem) (s x : Int) : Prop := ∃ i, 0 ≤ i ∧ i < M 30 s ∧ M 31 (4 * s + i) = x
/-- row s of the new game is strictly ordered -/
def Srt (M : Mem) (s : Int) : Prop := (0 ≤ M 30 s ∧ M 30 s ≤ 4) ∧ ∀ i j, 0 ≤ i → i < j → j < M 30 s → M 31 (4 * s + i) < M 31 (4 * s + j)
/-- what takes does -/
def TkP (M : Mem) (s x : Int) (N : Mem) : Prop := (∀ c i, c ≠ 29 → c ≠ 30 → c ≠ 31 → N c i = M c i) ∧ (∀ i, i ≠ s → N 30 i = M 30 i) ∧ (∀ i, (i < 4 * s ∨ 4 * s + 4 ≤ i) → N 31 i = M 31 i) ∧ Srt N s ∧
  ((N 29 0 = M 29 0 ∧ ∀ y, InR N s y ↔ (InR M s y ∨ y = x)) ∨ (M 30 s = 4 ∧ ¬ InR M s x ∧ N = up M 29 0 1))
theorem srt_le {M : Mem} {s : Int} (h : Srt M s) {i j : Int} (h0 : 0 ≤ i) (h1 : i ≤ j) (h2 : j < M 30 s) : M 31 (4 * s + i) ≤ M 31 (4 * s + j) := by
  by_cases q : i = j
  · subst q; exact Int.le_refl _
  · have := h.2 i j h0 (by omega) h2; omega
/-- the place where x belongs -/
theorem srt_at {M : Mem} {s x : Int} (h : Srt M s) : ∃ t, (0 ≤ t ∧ t ≤ M 30 s) ∧ (∀ i, 0 ≤ i → i < t → M 31 (4 * s + i) < x) ∧ (t < M 30 s → x ≤ M 31 (4 * s + t)) := by
  obtain ⟨t, ht, hm⟩ := least_nat (fun t => ¬ ((t : Int) < M 30 s ∧ M 31 (4 * s + t) < x)) ⟨(M 30 s).toNat, by have := h.1; omega⟩
  have hle : (t : Int) ≤ M 30 s := by
    rcases Int.lt_or_le (M 30 s) t with q | q
    · exact absurd (hm (M 30 s).toNat (by have := h.1; omega)) (by have := h.1; intro k; exact k (by omega))
    · exact q
  refine ⟨t, ⟨by omega, hle⟩, fun i i1 i2 => ?_, fun q => ?_⟩
  · have := hm i.toNat (by omega)
    rw [Int.toNat_of_nonneg i1] at this
    exact (Classical.not_not.mp this).2
  · rcases Int.lt_or_le (M 31 (4 * s + t)) x with k | k
    · exact absurd ⟨q, k⟩ ht
    · exact k
theorem tk_rel {M : Mem} {s x t : Int} (hs : 0 ≤ s ∧ s ≤ 1) (h : Srt M s) (ht : 0 ≤ t ∧ t ≤ M 30 s) (hlt : ∀ i, 0 ≤ i → i < t → M 31 (4 * s + i) < x) (hge : t < M 30 s → x ≤ M 31 (4 * s + t)) : TkP M s x (takM M s x t) := by
  unfold takM
  by_cases c1 : t < M 30 s ∧ M 31 (4 * s + t) = x
  · rw [if_pos c1]
    refine ⟨fun _ _ _ _ _ => rfl, fun _ _ => rfl, fun _ _ => rfl, h, Or.inl ⟨rfl, fun y => ⟨Or.inl, ?_⟩⟩⟩
    rintro (q | q)
    · exact q
    · exact ⟨t, ht.1, c1.1, by rw [q]; exact c1.2⟩
  · rw [if_neg c1]
    have hno : ¬ InR M s x := by
      rintro ⟨i, i1, i2, i3⟩
      rcases Int.lt_trichotomy i t with q | q | q
      · have := hlt i i1 q; omega
      · subst q; exact c1 ⟨i2, i3⟩
      · have a := h.2 t i ht.1 q i2
        have b := hge (by omega)
        omega
    by_cases c2 : M 30 s = 4
    · rw [if_pos c2]
      refine ⟨fun c i q1 _ _ => up_c q1, fun i _ => up_c (by decide), fun i _ => up_c (by decide), ⟨by rw [up_c (by decide)]; exact h.1, fun i j i1 i2 i3 => ?_⟩, Or.inr ⟨c2, hno, rfl⟩⟩
      rw [up_c (by decide)] at i3
      rw [up_c (by decide), up_c (by decide)]
      exact h.2 i j i1 i2 i3
    · rw [if_neg c2]
      have e30 : insM M s x t 30 s = M 30 s + 1 := by simp [insM]
      have e31 : ∀ i, insM M s x t 31 i = if 4 * s + t < i ∧ i ≤ 4 * s + M 30 s then M 31 (i - 1) else if i = 4 * s + t then x else M 31 i := fun i => by simp [insM]
      have hh := h.1
      have lo : ∀ i, 0 ≤ i → i < t → insM M s x t 31 (4 * s + i) = M 31 (4 * s + i) := fun i i1 i2 => by rw [e31, if_neg (by omega), if_neg (by omega)]
      have at_ : insM M s x t 31 (4 * s + t) = x := by rw [e31, if_neg (by omega), if_pos rfl]
      have hi : ∀ i, t < i → i ≤ M 30 s → insM M s x t 31 (4 * s + i) = M 31 (4 * s + (i - 1)) := fun i i1 i2 => by rw [e31, if_pos (by omega), show 4 * s + i - 1 = 4 * s + (i - 1) by omega]
      refine ⟨fun c i q1 q2 q3 => by simp [insM, q2, q3], fun i hi => by simp [insM, hi], fun i hi => by rw [e31, if_neg (by omega), if_neg (by omega)], ⟨by rw [e30]; omega, fun i j i1 i2 i3 => ?_⟩, Or.inl ⟨by simp [insM], fun y => ⟨?_, ?_⟩⟩⟩
      · rw [e30] at i3
        rcases Int.lt_trichotomy i t with q | q | q
        · rw [lo i i1 q]
          rcases Int.lt_trichotomy j t with k | k | k
          · rw [lo j (by omega) k]; exact h.2 i j i1 i2 (by omega)
          · subst k; rw [at_]; exact hlt i i1 q
          · rw [hi j k (by omega)]; exact h.2 i (j - 1) i1 (by omega) (by omega)
        · subst q
          rw [at_, hi j i2 (by omega)]
          have b := hge (by omega)
          have d := srt_le h (i := i) (j := j - 1) i1 (by omega) (by omega)
          have : M 31 (4 * s + i) ≠ x := fun k => c1 ⟨by omega, k⟩
          omega
        · rw [hi i q (by omega), hi j (by omega) (by omega)]; exact h.2 (i - 1) (j - 1) (by omega) (by omega) (by omega)
      · rintro ⟨i, i1, i2, i3⟩
        rw [e30] at i2
        rcases Int.lt_trichotomy i t with q | q | q
        · rw [lo i i1 q] at i3; exact Or.inl ⟨i, i1, by omega, i3⟩
        · subst q; rw [at_] at i3; exact Or.inr i3.symm
        · rw [hi i q (by omega)] at i3; exact Or.inl ⟨i - 1, by omega, by omega, i3⟩
      · rintro (⟨i, i1, i2, i3⟩ | q)
        · rcases Int.lt_or_le i t with q | q
          · exact ⟨i, i1, by omega, by rw [lo i i1 q]; exact i3⟩
          · exact ⟨i + 1, by omega, by omega, by rw [hi (i + 1) (by omega) (by omega), show i + 1 - 1 = i by omega]; exact i3⟩
        · exact ⟨t, ht.1, by omega, by rw [at_, q]⟩
theorem g_takes {g : Gs} {ad : Nat → Nat} {M : Mem} {s x : Int} (hs : 0 ≤ s ∧ s ≤ 1) (hx : R32 x) (h : Srt M s) : SpV (wM g ad) yX10_takes cX10_takes 5 none 1 [.ref (ad 0), vI (s), vI (x)] (M) (fun N => TkP M s x N) := by
  obtain ⟨t, t1, t2, t3⟩ := srt_at (x := x) h
  refine (s_X10_takes hs hx h.1 t1 t2 t3).toV.mono (fun N e => ?_)
  rw [← e]
  exact tk_rel hs h t1 t2 t3
/-- game g is the new game -/
def SamR (M : Mem) (g s : Int) : Prop := M 3 (2 * g + s) = M 30 s ∧ ∀ i, 0 ≤ i → i < M 30 s → opt M g s i = M 31 (4 * s + i)
def SamN (M : Mem) (g : Int) : Prop := M 1 g = 0 ∧ SamR M g 0 ∧ SamR M g 1
theorem new_50 {g : Gs} {ad : Nat → Nat} {X : Cx} {PQ : Option Value → Mem → Prop} {PX : String → Mem → Prop} (C : OkB (wM g ad) X cX10_isNew RX10 5 3 0 0) (Y : OkR (wM g ad) X (some .boolean) 0 0 PQ PX) {M : Mem} {z s : Int} {f : Prop} (hg : 0 ≤ z ∧ z < 40) (hs : 0 ≤ s ∧ s ≤ 1) (h : 0 ≤ M 30 s ∧ M 30 s ≤ 4) (k1 : f → SamR M z s → E (wM g ad) X 0 0 (M) 17 [(0, .ref (ad 0)), (1, vI (z)), (2, vI (1)), (3, vI (s + 1))] []) (k0 : ¬ (f ∧ SamR M z s) → E (wM g ad) X 0 0 (M) 17 [(0, .ref (ad 0)), (1, vI (z)), (2, vI (0)), (3, vI (s + 1))] []) : ∀ (n : Nat) (j r : Int), 0 ≤ j → j ≤ M 30 s → M 30 s - j = n → (r = 1 ∧ f ∧ M 3 (2 * z + s) = M 30 s ∧ (∀ i, 0 ≤ i → i < j → opt M z s i = M 31 (4 * s + i)) ∨ r = 0 ∧ ¬ (f ∧ SamR M z s)) → E (wM g ad) X 0 0 (M) 50 [(0, .ref (ad 0)), (1, vI (z)), (2, vI (r)), (3, vI (s)), (4, vI (j))] [] := by
  intro n
  induction n with
  | zero =>
    intro j r h1 h2 h3 hr
    have hj : j = M 30 s := by omega
    subst hj
    refine B_X10_isNew_50 (by omega) (by omega) (by omega) (by omega) (Nat.le_refl _) (Nat.le_refl _) C Y ⟨by omega, fun c => ⟨by omega, ?_⟩, fun c => absurd c (by omega)⟩
    rcases hr with ⟨rfl, hf, e, hh⟩ | ⟨rfl, hh⟩
    · exact k1 hf ⟨e, hh⟩
    · exact k0 hh
  | succ n ih =>
    intro j r h1 h2 h3 hr
    refine B_X10_isNew_50 (by omega) (by omega) (by omega) (by omega) (Nat.le_refl _) (Nat.le_refl _) C Y ⟨by omega, fun c => absurd c (by omega), fun c => ⟨fun c1 => ⟨by omega, ?_⟩, fun c1 => ⟨by omega, fun c2 => ⟨by omega, ?_⟩, fun c2 => ⟨by omega, ?_⟩⟩⟩⟩
    · subst c1
      rcases hr with hr | hr
      · exact absurd hr.1 (by decide)
      · exact k0 hr.2
    · refine ih (j + 1) 0 (by omega) (by omega) (by omega) (Or.inr ⟨rfl, fun q => c2 (q.2.2 j h1 c)⟩)
    · rcases hr with ⟨-, hf, e, hh⟩ | hr
      · refine ih (j + 1) 1 (by omega) (by omega) (by omega) (Or.inl ⟨rfl, hf, e, fun i i1 i2 => ?_⟩)
        by_cases hi : i = j
        · subst hi; exact c2
        · exact hh i i1 (by omega)
      · exact absurd hr.1 c1
theorem g_isNew {g : Gs} {ad : Nat → Nat} {M : Mem} {z : Int} (hg : 0 ≤ z ∧ z < 40) (h0 : 0 ≤ M 30 0 ∧ M 30 0 ≤ 4) (h1 : 0 ≤ M 30 1 ∧ M 30 1 ≤ 4) : SpI (wM g ad) yX10_isNew cX10_isNew 5 (some .boolean) 3 [.ref (ad 0), vI (z)] (M) (fun r N => N = M ∧ (r = 0 ∨ r = 1) ∧ (r = 1 ↔ SamN M z)) := by
  intro l9 hl9
  refine ct_of hl9 mi_X10_isNew.2.2.2 (Nat.le_of_ble_eq_true rfl) (fun X _ C Y => ?_)
  show E (wM g ad) X 0 0 (M) 0 [(0, .ref (ad 0)), (1, vI (z))] []
  refine e_wf (fun hw => ?_)
  have e2 : ∀ r : Int, (r = 0 ∨ r = 1) → (r = 1 ↔ SamN M z) → E (wM g ad) X 0 0 (M) 17 [(0, .ref (ad 0)), (1, vI (z)), (2, vI (r)), (3, vI (2))] [] := fun r r01 r1 => B_X10_isNew_17 (by omega) (by omega) (by omega) (Nat.le_refl _) (Nat.le_refl _) C Y ⟨fun c => ⟨r01, r, rfl, rfl, r01, r1⟩, fun c => absurd c (by omega)⟩
  have e1 : ∀ r : Int, (r = 0 ∨ r = 1) → (r = 1 ↔ (M 1 z = 0 ∧ SamR M z 0)) → E (wM g ad) X 0 0 (M) 17 [(0, .ref (ad 0)), (1, vI (z)), (2, vI (r)), (3, vI (1))] [] := by
    intro r r01 r1
    have h50 := new_50 C Y (f := M 1 z = 0 ∧ SamR M z 0) hg (s := 1) (by omega) h1 (fun a b => e2 1 (by omega) ⟨fun _ => ⟨a.1, a.2, b⟩, fun _ => rfl⟩) (fun a => e2 0 (by omega) ⟨fun q => absurd q (by decide), fun q => absurd ⟨⟨q.1, q.2.1⟩, q.2.2⟩ a⟩)
    refine B_X10_isNew_17 (by omega) (by omega) (by omega) (Nat.le_refl _) (Nat.le_refl _) C Y ⟨fun c => absurd c (by omega), fun c => ⟨fun c1 => ?_, fun c1 => ⟨by omega, fun c2 => ?_, fun c2 => ?_⟩⟩⟩
    · exact h50 (M 30 1).toNat 0 0 (by omega) (by omega) (by omega) (Or.inr ⟨rfl, fun q => by have := r1.mpr q.1; omega⟩)
    · exact h50 (M 30 1).toNat 0 0 (by omega) (by omega) (by omega) (Or.inr ⟨rfl, fun q => c2 q.2.1⟩)
    · exact h50 (M 30 1).toNat 0 1 (by omega) (by omega) (by omega) (Or.inl ⟨rfl, r1.mp (by omega), c2, fun i i1 i2 => absurd i2 (by omega)⟩)
  have e0 : ∀ r : Int, (r = 0 ∨ r = 1) → (r = 1 ↔ M 1 z = 0) → E (wM g ad) X 0 0 (M) 17 [(0, .ref (ad 0)), (1, vI (z)), (2, vI (r)), (3, vI (0))] [] := by
    intro r r01 r1
    have h50 := new_50 C Y (f := M 1 z = 0) hg (s := 0) (by omega) h0 (fun a b => e1 1 (by omega) ⟨fun _ => ⟨a, b⟩, fun _ => rfl⟩) (fun a => e1 0 (by omega) ⟨fun q => absurd q (by decide), fun q => absurd q a⟩)
    refine B_X10_isNew_17 (by omega) (by omega) (by omega) (Nat.le_refl _) (Nat.le_refl _) C Y ⟨fun c => absurd c (by omega), fun c => ⟨fun c1 => ?_, fun c1 => ⟨by omega, fun c2 => ?_, fun c2 => ?_⟩⟩⟩
    · exact h50 (M 30 0).toNat 0 0 (by omega) (by omega) (by omega) (Or.inr ⟨rfl, fun q => by have := r1.mpr q.1; omega⟩)
    · exact h50 (M 30 0).toNat 0 0 (by omega) (by omega) (by omega) (Or.inr ⟨rfl, fun q => c2 q.2.1⟩)
    · exact h50 (M 30 0).toNat 0 1 (by omega) (by omega) (by omega) (Or.inl ⟨rfl, r1.mp (by omega), c2, fun i i1 i2 => absurd i2 (by omega)⟩)
  exact B_X10_isNew_0 (by omega) (Nat.le_refl _) (Nat.le_refl _) C Y ⟨hg, fun c => e0 0 (by omega) ⟨fun q => absurd q (by decide), fun q => absurd q c⟩, fun c => e0 1 (by omega) ⟨fun _ => c, fun _ => rfl⟩⟩
