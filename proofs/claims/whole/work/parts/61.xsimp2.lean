/-! ===== the class: simplest ===== -/
theorem smp_pos {P : Int → Prop} {v : Int} (h : SmpP P v) (h0 : 0 ≤ v ∧ v ≤ 17408) (hp : ∀ x, P x → 0 < x) : Smp P v := by
  obtain ⟨p, e, e1, e2, e3, e4⟩ := h
  exact ⟨p, by omega, e, e1, e2, fun e' a b x c _ _ => e3 e' a b x c, fun x a b q => e4 x a (by have := hp x q; omega) q, fun q => by omega⟩
theorem smp_neg {P Q : Int → Prop} {v : Int} (hq : ∀ x, Q x ↔ P (-x)) (h : SmpP Q v) (h0 : 0 ≤ v ∧ v ≤ 17408) (hp : ∀ x, P x → x < 0) : Smp P (-v) := by
  obtain ⟨p, e, e1, e2, e3, e4⟩ := h
  have pv : P (-v) := (hq v).mp p
  have hv := hp _ pv
  refine ⟨pv, by omega, e, e1, Int.dvd_neg.mpr e2, fun e' a b x c _ _ q => e3 e' a b (-x) (Int.dvd_neg.mpr c) ((hq _).mpr (by rw [Int.neg_neg]; exact q)), fun x a b q => ?_, fun _ q => ?_⟩
  · have := hp x q
    exact e4 (-x) (Int.dvd_neg.mpr a) (by omega) ((hq _).mpr (by rw [Int.neg_neg]; exact q))
  · have := hp _ q; omega
theorem x_simplest {g : Gs} {ad : Nat → Nat} {sk : (Nat → Nat) × (Nat → Nat)} {M : Mem} {a ai b bi : Int} (ha : -16777216 ≤ a ∧ a ≤ 16384) (hb : -16384 ≤ b ∧ b ≤ 16777216) (hai : R32 ai) (hbi : R32 bi) (hex : ∃ x, BtV a ai b bi x) : SpI (wC g ad sk) yX5_simplest cX5_simplest 4 (some .int) 2 [vI (a), vI (ai), vI (b), vI (bi)] (M) (fun v N => N = M ∧ Smp (BtV a ai b bi) v) := by
  intro l9 hl9
  refine ct_of hl9 mi_X5_simplest.2.2.2 (Nat.le_of_ble_eq_true rfl) (fun X _ C Y => ?_)
  show E (wC g ad sk) X 0 0 (M) 0 [(0, vI (a)), (1, vI (ai)), (2, vI (b)), (3, vI (bi))] []
  refine e_wf (fun hw => ?_)
  have hq : ∀ x, BtV (-b) bi (-a) ai x ↔ BtV a ai b bi (-x) := fun x => by unfold BtV; omega
  have hex2 : ∃ x, BtV (-b) bi (-a) ai x := by
    obtain ⟨x, hx⟩ := hex
    exact ⟨-x, (hq _).mpr (by rw [Int.neg_neg]; exact hx)⟩
  have h23 : ¬ (b < 0 ∨ (b = 0 ∧ bi = 0)) → E (wC g ad sk) X 0 0 (M) 23 [(0, vI (a)), (1, vI (ai)), (2, vI (b)), (3, vI (bi))] [] := by
    intro hn
    have z0 : ¬ (0 < a ∨ (a = 0 ∧ ai = 0)) → Smp (BtV a ai b bi) 0 := fun k => ⟨by unfold BtV; omega, by omega, 10, by omega, Int.dvd_zero _, fun e' q1 q2 => by omega, fun x q1 q2 => absurd q2 (by simp), fun q => absurd q (by decide)⟩
    have ps : (0 < a ∨ (a = 0 ∧ ai = 0)) → ∀ x, BtV a ai b bi x → 0 < x := fun k x hx => by unfold BtV at hx; omega
    refine B_X5_simplest_23 (by omega) (by omega) (by omega) (by omega) (Nat.le_refl _) (Nat.le_refl _) C Y ⟨fun c => ⟨_, x_simplestPositive (by omega) hai hbi (by omega) hex, fun v N h => ?_⟩, fun c => ⟨fun c1 => ⟨0, rfl, rfl, z0 (by omega)⟩, fun c1 => ⟨fun c2 => ⟨0, rfl, rfl, z0 (by omega)⟩, fun c2 => ⟨_, x_simplestPositive (by omega) hai hbi (by omega) hex, fun v N h => ?_⟩⟩⟩⟩
    · obtain ⟨rfl, h1, h2, h3⟩ := h
      exact ⟨by omega, v, rfl, rfl, smp_pos h1 ⟨h2, h3⟩ (ps (by omega))⟩
    · obtain ⟨rfl, h1, h2, h3⟩ := h
      exact ⟨by omega, v, rfl, rfl, smp_pos h1 ⟨h2, h3⟩ (ps (by omega))⟩
  have ng : (b < 0 ∨ (b = 0 ∧ bi = 0)) → ∀ x, BtV a ai b bi x → x < 0 := fun k x hx => by unfold BtV at hx; omega
  refine B_X5_simplest_0 (by omega) (by omega) (by omega) (by omega) (Nat.le_refl _) (Nat.le_refl _) C Y ⟨fun c => ⟨by omega, _, x_simplestPositive (by omega) hbi hai (by omega) hex2, fun v N h => ?_⟩, fun c => ⟨fun c1 => h23 (by omega), fun c1 => ⟨fun c2 => h23 (by omega), fun c2 => ⟨by omega, _, x_simplestPositive (by omega) hbi hai (by omega) hex2, fun v N h => ?_⟩⟩⟩⟩
  · obtain ⟨rfl, h1, h2, h3⟩ := h
    exact ⟨by omega, by omega, -v, rfl, rfl, smp_neg hq h1 ⟨h2, h3⟩ (ng (by omega))⟩
  · obtain ⟨rfl, h1, h2, h3⟩ := h
    exact ⟨by omega, by omega, -v, rfl, rfl, smp_neg hq h1 ⟨h2, h3⟩ (ng (by omega))⟩
