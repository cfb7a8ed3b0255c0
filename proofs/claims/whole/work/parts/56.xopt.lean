/-! ===== the class: a game takes its options ===== -/
theorem cnB_mono {p : Nat → Bool} {a : Nat} : ∀ m, cnB p a ≤ cnB p (a + m) := by
  intro m
  induction m with
  | zero => exact Nat.le_refl _
  | succ m ih => rw [show a + (m + 1) = (a + m) + 1 by omega, cnB]; omega
theorem cnB_more {p : Nat → Bool} {a x K : Nat} (h1 : a ≤ x) (h2 : x < K) (hp : p x = true) : cnB p a + 1 ≤ cnB p K := by
  have e1 := cnB_mono (p := p) (a := a) (x - a)
  have e2 := cnB_mono (p := p) (a := x + 1) (K - (x + 1))
  rw [show a + (x - a) = x by omega] at e1
  rw [show x + 1 + (K - (x + 1)) = K by omega, cnB, hp] at e2
  simp at e2
  omega
/-- N is M but for the row s of game z -/
def TkF (M N : Mem) (z s : Int) : Prop := ∀ c i, ¬ (c = 40 ∧ i = 40 * s + z) → ¬ (c = 41 ∧ i = 40 * s + z) → ¬ (c = 42 ∧ ∃ j, 0 ≤ j ∧ j < 4 ∧ i = 40 * (s * 4 + j) + z) → N c i = M c i
def TkO (M N : Mem) (z s w : Int) : Prop := TkF M N z s ∧ N 40 (40 * s + z) = w ∧ Enu (fun i => N 42 (40 * (s * 4 + i) + z)) (N 41 (40 * s + z)) (tbN w) 40
theorem to_13 {g : Gs} {ad : Nat → Nat} {sk : (Nat → Nat) × (Nat → Nat)} {X : Cx} {PQ : Option Value → Mem → Prop} {PX : String → Mem → Prop} (C : OkB (wC g ad sk) X cX2_takeOptions RX2 6 2 0 0) (Y : OkR (wC g ad sk) X none 0 0 PQ PX) {M : Mem} {z s w : Int} (hz : 0 ≤ z ∧ z < 40) (hs : 0 ≤ s ∧ s ≤ 1) (hw : R64 w) (h4 : cnB (tbN w) 40 ≤ 4) (kk : ∀ N, TkO M N z s w → PQ none N) : ∀ (m : Nat) (j x : Int), 0 ≤ x → x ≤ 40 → 40 - x = m → ∀ N, TkF M N z s → N 40 (40 * s + z) = w → Enu (fun i => N 42 (40 * (s * 4 + i) + z)) j (tbN w) x.toNat → E (wC g ad sk) X 0 0 (N) 13 [(0, .ref (ad (44 + 6 * (Int.toNat z)))), (1, vI (s)), (2, vL (w)), (4, vI (j)), (5, vI (x))] [] := by
  have fin : ∀ (j : Int) (N : Mem), TkF M N z s → N 40 (40 * s + z) = w → Enu (fun i => N 42 (40 * (s * 4 + i) + z)) j (tbN w) 40 → PQ none (up N 41 (40 * s + z) j) := by
    intro j N h1 h2 h3
    refine kk _ ⟨fun c i q1 q2 q3 => ?_, by rw [up_c (by decide)]; exact h2, ?_⟩
    · by_cases hc : c = 41
      · subst hc
        rw [up_i (fun e => q2 ⟨rfl, e⟩)]; exact h1 41 i q1 q2 q3
      · rw [up_c hc]; exact h1 c i q1 q2 q3
    · rw [up_s]
      exact enu_cg (fun i _ _ => up_c (by decide)) h3
  intro m
  induction m with
  | zero =>
    intro j x x1 x2 x3 N h1 h2 h3
    have hx : x = 40 := by omega
    subst hx
    have hj : j ≤ 4 := by have := enu_cn _ _ h3; have e : (40 : Int).toNat = 40 := rfl; rw [e] at this; omega
    have hj0 := h3.1
    exact B_X2_takeOptions_13 (by omega) (by omega) (by omega) (by omega) (by omega) (Nat.le_refl _) (Nat.le_refl _) C Y ⟨fun c => ⟨by omega, fin j N h1 h2 h3⟩, fun c => absurd c (by omega)⟩
  | succ m ih =>
    intro j x x1 x2 x3 N h1 h2 h3
    have hj0 := h3.1
    have hc := enu_cn _ _ h3
    have hle : cnB (tbN w) x.toNat ≤ 4 := by
      have := cnB_mono (p := tbN w) (a := x.toNat) (40 - x.toNat)
      rw [show x.toNat + (40 - x.toNat) = 40 by omega] at this
      omega
    refine B_X2_takeOptions_13 (by omega) (by omega) (by omega) (by omega) (by omega) (Nat.le_refl _) (Nat.le_refl _) C Y ⟨fun c => absurd c (by omega), fun c => ⟨fun c1 => ⟨by omega, fin j N h1 h2 ?_⟩, fun c1 => ⟨fun c2 => ⟨by omega, ?_⟩, fun c2 => ⟨by omega, ?_⟩⟩⟩⟩
    · obtain ⟨a0, a1, a2, a3⟩ := h3
      refine ⟨a0, a1, fun i i1 i2 => ⟨(a2 i i1 i2).1, by have := (a2 i i1 i2).2.1; omega, (a2 i i1 i2).2.2⟩, fun y hy hp => ?_⟩
      rcases Nat.lt_or_ge y x.toNat with q | q
      · exact a3 y q hp
      · have := cnB_more q hy hp
        omega
    · rw [has_tb (by omega)] at c2
      refine ih j (x + 1) (by omega) (by omega) (by omega) N h1 h2 ?_
      obtain ⟨a0, a1, a2, a3⟩ := h3
      refine ⟨a0, a1, fun i i1 i2 => ⟨(a2 i i1 i2).1, by have := (a2 i i1 i2).2.1; omega, (a2 i i1 i2).2.2⟩, fun y hy hp => ?_⟩
      by_cases e : y = x.toNat
      · exfalso
        apply c2
        have : tb w ((y : Nat) : Int) = true := hp
        rwa [e, Int.toNat_of_nonneg x1] at this
      · exact a3 y (by omega) hp
    · rw [has_tb (by omega)] at c2
      refine ih (j + 1) (x + 1) (by omega) (by omega) (by omega) _ (fun c i q1 q2 q3 => ?_) (by rw [up_c (by decide)]; exact h2) ?_
      · by_cases hc : c = 42
        · subst hc
          rw [up_i (fun e => q3 ⟨rfl, j, hj0, by omega, e⟩)]; exact h1 42 i q1 q2 q3
        · rw [up_c hc]; exact h1 c i q1 q2 q3
      · obtain ⟨a0, a1, a2, a3⟩ := h3
        have old : ∀ i, 0 ≤ i → i < j → up N 42 (40 * (s * 4 + j) + z) x 42 (40 * (s * 4 + i) + z) = N 42 (40 * (s * 4 + i) + z) := fun i i1 i2 => up_i (by omega)
        have new : up N 42 (40 * (s * 4 + j) + z) x 42 (40 * (s * 4 + j) + z) = x := up_s _ _ _ _
        refine ⟨by omega, fun a b b1 b2 b3 => ?_, fun i i1 i2 => ?_, fun y hy hp => ?_⟩
        · show up N 42 (40 * (s * 4 + j) + z) x 42 (40 * (s * 4 + a) + z) < up N 42 (40 * (s * 4 + j) + z) x 42 (40 * (s * 4 + b) + z)
          rw [old a b1 (by omega)]
          by_cases e : b = j
          · subst e; rw [new]; have : N 42 (40 * (s * 4 + a) + z) < ((x.toNat : Nat) : Int) := (a2 a b1 (by omega)).2.1; omega
          · rw [old b (by omega) (by omega)]; exact a1 a b b1 b2 (by omega)
        · show 0 ≤ up N 42 (40 * (s * 4 + j) + z) x 42 (40 * (s * 4 + i) + z) ∧ up N 42 (40 * (s * 4 + j) + z) x 42 (40 * (s * 4 + i) + z) < _ ∧ tbN w (up N 42 (40 * (s * 4 + j) + z) x 42 (40 * (s * 4 + i) + z)).toNat = true
          by_cases e : i = j
          · subst e; rw [new]
            exact ⟨x1, by omega, by show tb w ((x.toNat : Nat) : Int) = true; rw [Int.toNat_of_nonneg x1]; exact c2⟩
          · rw [old i i1 (by omega)]
            have := a2 i i1 (by omega)
            exact ⟨this.1, by have t : N 42 (40 * (s * 4 + i) + z) < ((x.toNat : Nat) : Int) := this.2.1; omega, this.2.2⟩
        · by_cases e : y = x.toNat
          · exact ⟨j, a0, by omega, by show up N 42 (40 * (s * 4 + j) + z) x 42 (40 * (s * 4 + j) + z) = _; rw [new]; omega⟩
          · obtain ⟨i, i1, i2, i3⟩ := a3 y (by omega) hp
            exact ⟨i, i1, by omega, by show up N 42 (40 * (s * 4 + j) + z) x 42 (40 * (s * 4 + i) + z) = _; rw [old i i1 i2]; exact i3⟩
theorem x_takeOptions {g : Gs} {ad : Nat → Nat} {sk : (Nat → Nat) × (Nat → Nat)} {M : Mem} {z s w : Int} (hz : 0 ≤ z ∧ z < 40) (hs : 0 ≤ s ∧ s ≤ 1) (hw9 : R64 w) (h4 : cnB (tbN w) 40 ≤ 4) : SpV (wC g ad sk) yX2_takeOptions cX2_takeOptions 6 none 2 [.ref (ad (44 + 6 * (Int.toNat z))), vI (s), vL (w)] (M) (fun N => TkO M N z s w) := by
  intro l9 hl9
  refine ct_of hl9 mi_X2_takeOptions.2.2.2 (Nat.le_of_ble_eq_true rfl) (fun X _ C Y => ?_)
  show E (wC g ad sk) X 0 0 (M) 0 [(0, .ref (ad (44 + 6 * (Int.toNat z)))), (1, vI (s)), (2, vL (w))] []
  refine e_wf (fun hw => ?_)
  refine B_X2_takeOptions_0 (by omega) (by omega) (by omega) (Nat.le_refl _) (Nat.le_refl _) C Y ⟨by omega, ?_⟩
  refine to_13 C Y hz hs hw9 h4 (fun N h => ⟨rfl, h⟩) 40 0 0 (by omega) (by omega) (by omega) _ (fun c i q1 q2 q3 => ?_) (up_s _ _ _ _) ⟨by omega, fun i j i1 i2 i3 => absurd i3 (by omega), fun i i1 i2 => absurd i2 (by omega), fun y hy => absurd hy (by simp)⟩
  by_cases hc : c = 40
  · subst hc; exact up_i (fun e => q1 ⟨rfl, e⟩)
  · exact up_c hc
