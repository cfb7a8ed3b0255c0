/-! ===== the reference: a new game's options ===== -/
theorem s_X10_begins {g : Gs} {ad : Nat → Nat} {M : Mem} : Sp (wM g ad) yX10_begins cX10_begins 1 none 1 [.ref (ad 0)] (M) (none) (up (up (up M 30 0 0) 30 1 0) 29 0 0) := by
  intro l9 hl9
  refine ct_of hl9 mi_X10_begins.2.2.2 (Nat.le_of_ble_eq_true rfl) (fun X _ C Y => ?_)
  show E (wM g ad) X 0 0 (M) 0 [(0, .ref (ad 0))] []
  refine e_wf (fun hw => ?_)
  exact B_X10_begins_0  (Nat.le_refl _) (Nat.le_refl _) C Y dt_r
/-- x comes to row s at place t -/
def insM (M : Mem) (s x t : Int) : Mem := fun c i => if c = 31 then (if 4 * s + t < i ∧ i ≤ 4 * s + M 30 s then M 31 (i - 1) else if i = 4 * s + t then x else M 31 i) else if c = 30 then (if i = s then M 30 s + 1 else M 30 i) else M c i
def shfM (M : Mem) (s j : Int) : Mem := fun c i => if c = 31 then (if 4 * s + j < i ∧ i ≤ 4 * s + M 30 s then M 31 (i - 1) else M 31 i) else M c i
def takM (M : Mem) (s x t : Int) : Mem := if t < M 30 s ∧ M 31 (4 * s + t) = x then M else if M 30 s = 4 then up M 29 0 1 else insM M s x t
theorem takes_81 {g : Gs} {ad : Nat → Nat} {X : Cx} {PQ : Option Value → Mem → Prop} {PX : String → Mem → Prop} (C : OkB (wM g ad) X cX10_takes RX10 5 1 0 0) (Y : OkR (wM g ad) X none 0 0 PQ PX) {M : Mem} {s x t : Int} (hs : 0 ≤ s ∧ s ≤ 1) (hx : R32 x) (hm : 0 ≤ M 30 s ∧ M 30 s < 4) (ht : 0 ≤ t ∧ t ≤ M 30 s) (hq : PQ none (insM M s x t)) : ∀ (n : Nat) (j : Int), t ≤ j → j ≤ M 30 s → j - t = n → E (wM g ad) X 0 0 ((shfM M s j)) 81 [(0, .ref (ad 0)), (1, vI (s)), (2, vI (x)), (3, vI (t)), (4, vI (j))] [] := by
  intro n
  induction n with
  | zero =>
    intro j h1 h2 h3
    have hj : j = t := by omega
    subst hj
    refine B_X10_takes_81 (by omega) (by omega) (by omega) (by omega) (Nat.le_refl _) (Nat.le_refl _) C Y ⟨fun c => ⟨?_, ?_⟩, fun c => absurd c (by omega)⟩
    · show (_ ∧ _ ∧ _ ∧ _ ∧ R32 (M 30 s + 1))
      omega
    · have e : up (up (shfM M s j) 31 (4 * s + j) x) 30 s (shfM M s j 30 s + 1) = insM M s x j := by
        funext c i
        simp only [up, shfM, insM]
        by_cases hc : c = 30
        · subst hc
          simp
        · by_cases hc2 : c = 31
          · subst hc2
            simp
            by_cases hi : i = 4 * s + j
            · simp [hi]
            · simp [hi]
          · simp [hc, hc2]
      rw [e]
      exact hq
  | succ n ih =>
    intro j h1 h2 h3
    refine B_X10_takes_81 (by omega) (by omega) (by omega) (by omega) (Nat.le_refl _) (Nat.le_refl _) C Y ⟨fun c => absurd c (by omega), fun c => ⟨by omega, ?_⟩⟩
    have e : up (shfM M s j) 31 (4 * s + j) (shfM M s j 31 (4 * s + j - 1)) = shfM M s (j + -1) := by
      funext c i
      simp only [up, shfM]
      by_cases hc2 : c = 31
      · subst hc2
        simp only [if_true]
        by_cases hi : i = 4 * s + j
        · subst hi
          rw [if_pos rfl, if_neg (by omega), if_pos (by omega)]
        · rw [if_neg hi]
          by_cases hi2 : 4 * s + j < i ∧ i ≤ 4 * s + M 30 s
          · rw [if_pos hi2, if_pos (by omega)]
          · rw [if_neg hi2, if_neg (by omega)]
      · simp [hc2]
    rw [e]
    exact ih (j + -1) (by omega) (by omega) (by omega)
theorem takes_32 {g : Gs} {ad : Nat → Nat} {X : Cx} {PQ : Option Value → Mem → Prop} {PX : String → Mem → Prop} (C : OkB (wM g ad) X cX10_takes RX10 5 1 0 0) (Y : OkR (wM g ad) X none 0 0 PQ PX) {M : Mem} {s x t : Int} (hw : RMm M) (hs : 0 ≤ s ∧ s ≤ 1) (hx : R32 x) (hm : 0 ≤ M 30 s ∧ M 30 s ≤ 4) (ht : 0 ≤ t ∧ t ≤ M 30 s) (hq : PQ none (takM M s x t)) : E (wM g ad) X 0 0 (M) 32 [(0, .ref (ad 0)), (1, vI (s)), (2, vI (x)), (3, vI (t))] [] := by
  have h57 : ¬ (t < M 30 s ∧ M 31 (4 * s + t) = x) → E (wM g ad) X 0 0 (M) 57 [(0, .ref (ad 0)), (1, vI (s)), (2, vI (x)), (3, vI (t))] [] := by
    intro hn
    rw [takM, if_neg hn] at hq
    refine B_X10_takes_57 (by omega) (by omega) (by omega) (Nat.le_refl _) (Nat.le_refl _) C Y ⟨by omega, fun c => ?_, fun c => ?_⟩
    · rw [if_neg c] at hq
      have h9 := takes_81 C Y hs hx (by omega) ht hq (M 30 s - t).toNat (M 30 s) (by omega) (by omega) (by omega)
      have e : shfM M s (M 30 s) = M := by
        funext c i
        simp only [shfM]
        by_cases hc2 : c = 31
        · subst hc2
          rw [if_pos rfl, if_neg (by omega)]
        · simp [hc2]
      rw [e] at h9
      exact h9
    · rw [if_pos c] at hq
      exact hq
  refine B_X10_takes_32 (by omega) (by omega) (by omega) (Nat.le_refl _) (Nat.le_refl _) C Y ⟨by omega, fun c => h57 (by omega), fun c => ⟨by omega, fun c2 => h57 (fun h => c2 h.2), fun c2 => ?_⟩⟩
  rw [takM, if_pos ⟨c, c2⟩] at hq
  exact hq
theorem takes_2 {g : Gs} {ad : Nat → Nat} {X : Cx} {PQ : Option Value → Mem → Prop} {PX : String → Mem → Prop} (C : OkB (wM g ad) X cX10_takes RX10 5 1 0 0) (Y : OkR (wM g ad) X none 0 0 PQ PX) {M : Mem} {s x t : Int} (hw : RMm M) (hs : 0 ≤ s ∧ s ≤ 1) (hx : R32 x) (hm : 0 ≤ M 30 s ∧ M 30 s ≤ 4) (ht : 0 ≤ t ∧ t ≤ M 30 s) (hlt : ∀ i, 0 ≤ i → i < t → M 31 (4 * s + i) < x) (hge : t < M 30 s → x ≤ M 31 (4 * s + t)) (hq : PQ none (takM M s x t)) : ∀ (n : Nat) (j : Int), 0 ≤ j → j ≤ t → t - j = n → E (wM g ad) X 0 0 (M) 2 [(0, .ref (ad 0)), (1, vI (s)), (2, vI (x)), (3, vI (j))] [] := by
  intro n
  induction n with
  | zero =>
    intro j h1 h2 h3
    have hj : j = t := by omega
    subst hj
    have h9 := takes_32 C Y hw hs hx hm ht hq
    refine B_X10_takes_2 (by omega) (by omega) (by omega) (Nat.le_refl _) (Nat.le_refl _) C Y ⟨by omega, fun c => h9, fun c => ⟨by omega, fun c2 => h9, fun c2 => absurd (hge c) (by omega)⟩⟩
  | succ n ih =>
    intro j h1 h2 h3
    have h8 := hlt j h1 (by omega)
    refine B_X10_takes_2 (by omega) (by omega) (by omega) (Nat.le_refl _) (Nat.le_refl _) C Y ⟨by omega, fun c => absurd c (by omega), fun c => ⟨by omega, fun c2 => absurd c2 (by omega), fun c2 => ⟨by omega, ?_⟩⟩⟩
    exact ih (j + 1) (by omega) (by omega) (by omega)
theorem s_X10_takes {g : Gs} {ad : Nat → Nat} {M : Mem} {s x t : Int} (hs : 0 ≤ s ∧ s ≤ 1) (hx : R32 x) (hm : 0 ≤ M 30 s ∧ M 30 s ≤ 4) (ht : 0 ≤ t ∧ t ≤ M 30 s) (hlt : ∀ i, 0 ≤ i → i < t → M 31 (4 * s + i) < x) (hge : t < M 30 s → x ≤ M 31 (4 * s + t)) : Sp (wM g ad) yX10_takes cX10_takes 5 none 1 [.ref (ad 0), vI (s), vI (x)] (M) (none) (takM M s x t) := by
  intro l9 hl9
  refine ct_of hl9 mi_X10_takes.2.2.2 (Nat.le_of_ble_eq_true rfl) (fun X _ C Y => ?_)
  show E (wM g ad) X 0 0 (M) 0 [(0, .ref (ad 0)), (1, vI (s)), (2, vI (x))] []
  refine e_wf (fun hw => ?_)
  refine B_X10_takes_0 (by omega) (by omega) (Nat.le_refl _) (Nat.le_refl _) C Y ?_
  exact takes_2 C Y hw hs hx hm ht hlt hge dt_r t.toNat 0 (by omega) (by omega) (by omega)
