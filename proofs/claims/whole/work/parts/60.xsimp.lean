/-! ===== the class: simplestPositive ===== -/
def BtV (a ai b bi x : Int) : Prop := (a < x ∨ (x = a ∧ ai ≠ 0)) ∧ (x < b ∨ (x = b ∧ bi ≠ 0))
/-- the least multiple of p that the lower edge lets in -/
theorem least_m {a ai p x : Int} (ha : 0 ≤ a) (hp : 0 < p) (hx : x = (if Int.tdiv a p * p < a ∨ (Int.tdiv a p * p = a ∧ ai = 0) then Int.tdiv a p * p + p else Int.tdiv a p * p)) : p ∣ x ∧ (a < x ∨ (x = a ∧ ai ≠ 0)) ∧ x ≤ a + p ∧ 0 ≤ x ∧ ∀ y, p ∣ y → (a < y ∨ (y = a ∧ ai ≠ 0)) → x ≤ y := by
  have e : Int.tdiv a p * p = p * (a / p) := by rw [Int.tdiv_eq_ediv_of_nonneg ha, Int.mul_comm]
  have h1 := Int.mul_ediv_add_emod a p
  have h2 := Int.emod_nonneg a (by omega : p ≠ 0)
  have h3 := Int.emod_lt_of_pos a hp
  have h4 : 0 ≤ p * (a / p) := Int.mul_nonneg (by omega) (Int.ediv_nonneg ha (by omega))
  rw [e] at hx
  have hd : p ∣ p * (a / p) := Int.dvd_mul_right _ _
  have hd2 : p ∣ p * (a / p) + p := Int.dvd_add hd (Int.dvd_refl _)
  split at hx
  · rename_i c
    subst hx
    refine ⟨hd2, by omega, by omega, by omega, fun y hy hy2 => ?_⟩
    exact dvd_gap hp hd hy (by omega)
  · rename_i c
    subst hx
    refine ⟨hd, by omega, by omega, by omega, fun y hy hy2 => ?_⟩
    rcases Int.lt_or_le y (p * (a / p)) with q | q
    · omega
    · exact q
/-- simplest among the positive ones -/
def SmpP (P : Int → Prop) (v : Int) : Prop := P v ∧ ∃ e : Nat, e ≤ 10 ∧ (2 : Int) ^ e ∣ v ∧ (∀ e' : Nat, e < e' → e' ≤ 10 → ∀ x, (2 : Int) ^ e' ∣ x → ¬ P x) ∧ (∀ x, (2 : Int) ^ e ∣ x → x < v → ¬ P x)
theorem sp_5 {g : Gs} {ad : Nat → Nat} {sk : (Nat → Nat) × (Nat → Nat)} {X : Cx} {PQ : Option Value → Mem → Prop} {PX : String → Mem → Prop} (C : OkB (wC g ad sk) X cX5_simplestPositive RX5 6 1 0 0) (Y : OkR (wC g ad sk) X (some .int) 0 0 PQ PX) {M : Mem} {a ai b bi : Int} (ha : 0 ≤ a ∧ a ≤ 16384) (hai : R32 ai) (hbi : R32 bi) (hb : R32 b) (hex : ∃ x, BtV a ai b bi x) (kk : ∀ v, SmpP (BtV a ai b bi) v → 0 ≤ v → v ≤ 17408 → PQ (some (vI v)) M) : ∀ e : Nat, e ≤ 10 → (∀ e' : Nat, e < e' → e' ≤ 10 → ∀ x, (2 : Int) ^ e' ∣ x → ¬ BtV a ai b bi x) → E (wC g ad sk) X 0 0 (M) 5 [(0, vI (a)), (1, vI (ai)), (2, vI (b)), (3, vI (bi)), (4, vI ((2 : Int) ^ e))] [] := by
  intro e
  induction e with
  | zero =>
    intro he hno
    have hp := pow2_r (e := 0) (by omega)
    have go : ∀ x : Int, (x = if Int.tdiv a ((2 : Int) ^ 0) * (2 : Int) ^ 0 < a ∨ (Int.tdiv a ((2 : Int) ^ 0) * (2 : Int) ^ 0 = a ∧ ai = 0) then Int.tdiv a ((2 : Int) ^ 0) * (2 : Int) ^ 0 + (2 : Int) ^ 0 else Int.tdiv a ((2 : Int) ^ 0) * (2 : Int) ^ 0) → E (wC g ad sk) X 0 0 (M) 42 [(0, vI (a)), (1, vI (ai)), (2, vI (b)), (3, vI (bi)), (4, vI ((2 : Int) ^ 0)), (5, vI (x))] [] := by
      intro x hx
      obtain ⟨l1, l2, l3, l4, l5⟩ := least_m ha.1 (by omega) hx
      have hin : x < b ∨ (x = b ∧ bi ≠ 0) := by
        obtain ⟨y, y1, y2⟩ := hex
        have := l5 y ⟨y, by simp⟩ y1
        omega
      have hS : SmpP (BtV a ai b bi) x := ⟨⟨l2, hin⟩, 0, by omega, l1, hno, fun y y1 y2 y3 => by have := l5 y y1 y3.1; omega⟩
      refine B_X5_simplestPositive_42 (by omega) (by omega) (by omega) (by omega) (by omega) (by omega) (Nat.le_refl _) (Nat.le_refl _) C Y ⟨fun c => kk x hS l4 (by omega), fun c => ⟨fun c1 => ?_, fun c1 => ⟨fun c2 => ?_, fun c2 => kk x hS l4 (by omega)⟩⟩⟩
      · omega
      · omega
    have q := least_m (ai := ai) ha.1 (show 0 < (2 : Int) ^ 0 by omega) rfl
    have qt : 0 ≤ Int.tdiv a ((2 : Int) ^ 0) * (2 : Int) ^ 0 ∧ Int.tdiv a ((2 : Int) ^ 0) * (2 : Int) ^ 0 ≤ a := by simp; omega
    refine B_X5_simplestPositive_5 (by omega) (by omega) (by omega) (by omega) (by omega) (Nat.le_refl _) (Nat.le_refl _) C Y ⟨fun c => absurd c (by omega), fun c => ⟨by omega, fun c1 => ⟨by omega, go _ ?_⟩, fun c1 => ⟨fun c2 => go _ ?_, fun c2 => ⟨fun c3 => go _ ?_, fun c3 => ⟨by omega, go _ ?_⟩⟩⟩⟩⟩
    · rw [if_pos (Or.inl c1)]
    · rw [if_neg (by omega)]
    · rw [if_neg (by omega)]
    · rw [if_pos (Or.inr ⟨c2, c3⟩)]
  | succ e ih =>
    intro he hno
    have hp := pow2_r (e := e + 1) (by omega)
    have go : ∀ x : Int, (x = if Int.tdiv a ((2 : Int) ^ (e + 1)) * (2 : Int) ^ (e + 1) < a ∨ (Int.tdiv a ((2 : Int) ^ (e + 1)) * (2 : Int) ^ (e + 1) = a ∧ ai = 0) then Int.tdiv a ((2 : Int) ^ (e + 1)) * (2 : Int) ^ (e + 1) + (2 : Int) ^ (e + 1) else Int.tdiv a ((2 : Int) ^ (e + 1)) * (2 : Int) ^ (e + 1)) → E (wC g ad sk) X 0 0 (M) 42 [(0, vI (a)), (1, vI (ai)), (2, vI (b)), (3, vI (bi)), (4, vI ((2 : Int) ^ (e + 1))), (5, vI (x))] [] := by
      intro x hx
      obtain ⟨l1, l2, l3, l4, l5⟩ := least_m ha.1 (by omega) hx
      have yes : (x < b ∨ (x = b ∧ bi ≠ 0)) → PQ (some (vI x)) M := fun hin => kk x ⟨⟨l2, hin⟩, e + 1, he, l1, hno, fun y y1 y2 y3 => by have := l5 y y1 y3.1; omega⟩ l4 (by omega)
      have no : ¬ (x < b ∨ (x = b ∧ bi ≠ 0)) → E (wC g ad sk) X 0 0 (M) 5 [(0, vI (a)), (1, vI (ai)), (2, vI (b)), (3, vI (bi)), (4, vI (Int.tdiv ((2 : Int) ^ (e + 1)) 2))] [] := fun hout => by
        rw [pow2_h (by omega)]
        refine ih (by omega) (fun e' h1 h2 y y1 y2 => ?_)
        by_cases q : e' = e + 1
        · subst q
          have := l5 y y1 y2.1
          have := y2.2
          omega
        · exact hno e' (by omega) h2 y y1 y2
      exact B_X5_simplestPositive_42 (by omega) (by omega) (by omega) (by omega) (by omega) (by omega) (Nat.le_refl _) (Nat.le_refl _) C Y ⟨fun c => yes (Or.inl c), fun c => ⟨fun c1 => no (by omega), fun c1 => ⟨fun c2 => no (by omega), fun c2 => yes (by omega)⟩⟩⟩
    have qt : 0 ≤ Int.tdiv a ((2 : Int) ^ (e + 1)) * (2 : Int) ^ (e + 1) ∧ Int.tdiv a ((2 : Int) ^ (e + 1)) * (2 : Int) ^ (e + 1) ≤ a := by
      rw [Int.tdiv_eq_ediv_of_nonneg ha.1]
      exact ⟨Int.mul_nonneg (Int.ediv_nonneg ha.1 (by omega)) (by omega), Int.ediv_mul_le a (by omega)⟩
    refine B_X5_simplestPositive_5 (by omega) (by omega) (by omega) (by omega) (by omega) (Nat.le_refl _) (Nat.le_refl _) C Y ⟨fun c => absurd c (by omega), fun c => ⟨by omega, fun c1 => ⟨by omega, go _ ?_⟩, fun c1 => ⟨fun c2 => go _ ?_, fun c2 => ⟨fun c3 => go _ ?_, fun c3 => ⟨by omega, go _ ?_⟩⟩⟩⟩⟩
    · rw [if_pos (Or.inl c1)]
    · rw [if_neg (by omega)]
    · rw [if_neg (by omega)]
    · rw [if_pos (Or.inr ⟨c2, c3⟩)]
theorem x_simplestPositive {g : Gs} {ad : Nat → Nat} {sk : (Nat → Nat) × (Nat → Nat)} {M : Mem} {a ai b bi : Int} (ha : 0 ≤ a ∧ a ≤ 16384) (hai : R32 ai) (hbi : R32 bi) (hb : R32 b) (hex : ∃ x, BtV a ai b bi x) : SpI (wC g ad sk) yX5_simplestPositive cX5_simplestPositive 6 (some .int) 1 [vI (a), vI (ai), vI (b), vI (bi)] (M) (fun v N => N = M ∧ SmpP (BtV a ai b bi) v ∧ 0 ≤ v ∧ v ≤ 17408) := by
  intro l9 hl9
  refine ct_of hl9 mi_X5_simplestPositive.2.2.2 (Nat.le_of_ble_eq_true rfl) (fun X _ C Y => ?_)
  show E (wC g ad sk) X 0 0 (M) 0 [(0, vI (a)), (1, vI (ai)), (2, vI (b)), (3, vI (bi))] []
  refine e_wf (fun hw => ?_)
  refine B_X5_simplestPositive_0 (by omega) (by omega) (by omega) (by omega) (Nat.le_refl _) (Nat.le_refl _) C Y ?_
  exact sp_5 C Y ha hai hbi hb hex (fun v h1 h2 h3 => ⟨v, rfl, rfl, h1, h2, h3⟩) 10 (by omega) (fun e' h1 h2 => by omega)
