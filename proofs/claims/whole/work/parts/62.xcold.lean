/-! ===== the class: becomeCold ===== -/
def ColX (M N : Mem) (z v : Int) : Prop := N 49 z = 1 ∧ N 50 z = v ∧ N 51 z = -1 ∧ (∀ s, 0 ≤ s → s ≤ 1 → N 43 (40 * s + z) = v ∧ N 44 (40 * s + z) = 1) ∧ ∀ c i, ¬ ((c = 49 ∨ c = 50 ∨ c = 51) ∧ i = z) → ¬ ((c = 43 ∨ c = 44) ∧ (i = z ∨ i = 40 + z)) → N c i = M c i
theorem x_becomeCold {g : Gs} {ad : Nat → Nat} {sk : (Nat → Nat) × (Nat → Nat)} {M : Mem} {z v : Int} (hz : 0 ≤ z ∧ z < 40) (hv : R32 v) : SpV (wC g ad sk) yX2_becomeCold cX2_becomeCold 3 none 1 [.ref (ad (44 + 6 * (Int.toNat z))), vI (v)] (M) (fun N => ColX M N z v) := by
  intro l9 hl9
  refine ct_of hl9 mi_X2_becomeCold.2.2.2 (Nat.le_of_ble_eq_true rfl) (fun X _ C Y => ?_)
  show E (wC g ad sk) X 0 0 (M) 0 [(0, .ref (ad (44 + 6 * (Int.toNat z)))), (1, vI (v))] []
  refine e_wf (fun hw => ?_)
  refine B_X2_becomeCold_0 (by omega) (by omega) (Nat.le_refl _) (Nat.le_refl _) C Y ?_
  refine B_X2_becomeCold_17 (by omega) (by omega) (by omega) (Nat.le_refl _) (Nat.le_refl _) C Y ⟨fun c => absurd c (by omega), fun c => ⟨by omega, ?_⟩⟩
  refine B_X2_becomeCold_17 (by omega) (by omega) (by omega) (Nat.le_refl _) (Nat.le_refl _) C Y ⟨fun c => absurd c (by omega), fun c => ⟨by omega, ?_⟩⟩
  refine B_X2_becomeCold_17 (by omega) (by omega) (by omega) (Nat.le_refl _) (Nat.le_refl _) C Y ⟨fun c => ⟨rfl, ?_⟩, fun c => absurd c (by omega)⟩
  refine ⟨?_, ?_, ?_, fun s s1 s2 => ?_, fun c i q1 q2 => ?_⟩
  · rw [up_c (by decide), up_c (by decide), up_c (by decide), up_c (by decide), up_c (by decide), up_c (by decide), up_s]
  · rw [up_c (by decide), up_c (by decide), up_c (by decide), up_c (by decide), up_c (by decide), up_s]
  · rw [up_c (by decide), up_c (by decide), up_c (by decide), up_c (by decide), up_s]
  · rcases (show s = 0 ∨ s = 1 by omega) with rfl | rfl
    · constructor
      · rw [up_c (by decide), up_i (by omega), up_c (by decide), up_s]
      · rw [up_i (by omega), up_c (by decide), up_s]
    · constructor
      · rw [up_c (by decide)]; exact up_s _ _ _ _
      · exact up_s _ _ _ _
  · have h44 : ∀ (K : Mem) (s x : Int), (s = 0 ∨ s = 1) → up K 44 (40 * s + z) x c i = K c i := fun K s x hs => by
      by_cases h : c = 44
      · subst h; exact up_i (fun e => q2 ⟨Or.inr rfl, by omega⟩)
      · exact up_c h
    have h43 : ∀ (K : Mem) (s x : Int), (s = 0 ∨ s = 1) → up K 43 (40 * s + z) x c i = K c i := fun K s x hs => by
      by_cases h : c = 43
      · subst h; exact up_i (fun e => q2 ⟨Or.inl rfl, by omega⟩)
      · exact up_c h
    have hk : ∀ (K : Mem) (k : Nat) (x : Int), (k = 49 ∨ k = 50 ∨ k = 51) → up K k z x c i = K c i := fun K k x hk => by
      by_cases h : c = k
      · subst h; exact up_i (fun e => q1 ⟨hk, e⟩)
      · exact up_c h
    have e1 : (0 : Int) + 1 = 1 := rfl
    rw [e1, h44 _ 1 _ (Or.inr rfl), h43 _ 1 _ (Or.inr rfl), h44 _ 0 _ (Or.inl rfl), h43 _ 0 _ (Or.inl rfl), hk _ 51 _ (by omega), hk _ 50 _ (by omega), hk _ 49 _ (by omega)]
