/-! ===== the class: the length of a number ===== -/
def numLn (n : Int) : Int := ((if n < 0 then 1 else 0) + (if 10 ≤ ishrI (if n < 0 then -n else n) (halvI n) then 2 else 1)) + (if 3 ≤ halvI n then 0 else 2)
theorem numLn_r (n : Int) : 1 ≤ numLn n ∧ numLn n ≤ 5 := by unfold numLn; repeat (first | omega | split)
theorem x_lengthOfNumber {g : Gs} {ad : Nat → Nat} {sk : (Nat → Nat) × (Nat → Nat)} {M : Mem} {x : Int} (hx : -64 ≤ x ∧ x ≤ 64) : Sp (wC g ad sk) yX2_lengthOfNumber cX2_lengthOfNumber 4 (some .int) 2 [vI (x)] (M) (some (vI (numLn x))) (M) := by
  intro l9 hl9
  refine ct_of hl9 mi_X2_lengthOfNumber.2.2.2 (Nat.le_of_ble_eq_true rfl) (fun X _ C Y => ?_)
  show E (wC g ad sk) X 0 0 (M) 0 [(0, vI (x))] []
  refine e_wf (fun hw => ?_)
  have hh := halvI_r x
  have e40 : ∀ a b : Int, (0 ≤ a ∧ a ≤ 1) → (1 ≤ b ∧ b ≤ 2) → numLn x = (a + b) + (if 3 ≤ halvI x then 0 else 2) → E (wC g ad sk) X 0 0 (M) 40 [(2, vI (halvI x))] [vI (b), vI (a)] := by
    intro a b ha hb e
    refine B_X2_lengthOfNumber_40 (by omega) (by omega) (by omega) (Nat.le_refl _) (Nat.le_refl _) C Y ⟨by omega, fun c => ⟨by omega, ?_⟩, fun c => ⟨by omega, ?_⟩⟩
    · rw [if_pos c] at e; rw [← e]; exact dt_r
    · rw [if_neg (by omega)] at e; rw [← e]; exact dt_r
  have e25 : ∀ a : Int, (a = if x < 0 then 1 else 0) → ∀ t : Int, (t = if x < 0 then -x else x) → E (wC g ad sk) X 0 0 (M) 25 [(1, vI (a)), (2, vI (halvI x))] [vI (t)] := by
    intro a ha t ht
    have a01 : 0 ≤ a ∧ a ≤ 1 := by rw [ha]; split <;> omega
    have t01 : R32 t := by rw [ht]; split <;> omega
    refine B_X2_lengthOfNumber_25 (by omega) (by omega) (by omega) (Nat.le_refl _) (Nat.le_refl _) C Y ⟨fun c => e40 a 2 a01 (by omega) ?_, fun c => e40 a 1 a01 (by omega) ?_⟩
    · unfold numLn; rw [← ha, ← ht, if_pos c]
    · unfold numLn; rw [← ha, ← ht, if_neg (by omega)]
  have e9 : ∀ a : Int, (a = if x < 0 then 1 else 0) → E (wC g ad sk) X 0 0 (M) 9 [(0, vI (x))] [vI (a)] := by
    intro a ha
    have a01 : 0 ≤ a ∧ a ≤ 1 := by rw [ha]; split <;> omega
    exact B_X2_lengthOfNumber_9 (by omega) (by omega) (Nat.le_refl _) (Nat.le_refl _) C Y ⟨fun c => e25 a ha x (by rw [if_neg (by omega)]), fun c => ⟨by omega, e25 a ha (-x) (by rw [if_pos c])⟩⟩
  exact B_X2_lengthOfNumber_0 (by omega) (Nat.le_refl _) (Nat.le_refl _) C Y ⟨fun c => e9 0 (by rw [if_neg (by omega)]), fun c => e9 1 (by rw [if_pos c])⟩
