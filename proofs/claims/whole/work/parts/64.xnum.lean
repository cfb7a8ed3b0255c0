/-! ===== the class: becomeNumber ===== -/
/-- place i of column c belongs to game z -/
def OwnX (z : Int) (c : Nat) (i : Int) : Prop := ((45 ≤ c ∧ c ≤ 53) ∧ i = z) ∨ ((c = 40 ∨ c = 41 ∨ c = 43 ∨ c = 44) ∧ (i = z ∨ i = 40 + z)) ∨ (c = 42 ∧ ∃ j, 0 ≤ j ∧ j < 8 ∧ i = 40 * j + z)
def NumX (M N : Mem) (z e : Int) : Prop := N 45 z = 0 ∧ N 46 z = e ∧ N 47 z = 0 ∧ N 48 z = numLn e ∧ N 49 z = 1 ∧ N 50 z = 128 * e ∧ N 51 z = -1 ∧ (∀ s, 0 ≤ s → s ≤ 1 → N 41 (40 * s + z) = 0 ∧ N 43 (40 * s + z) = 128 * e ∧ N 44 (40 * s + z) = 1) ∧ ∀ c i, ¬ OwnX z c i → N c i = M c i
theorem tb0N (x : Nat) (h : x < 64) : tbN 0 x = false := tb_0 (by omega)
theorem enu_0 {f : Int → Int} {c : Int} (h : Enu f c (tbN 0) 40) : c = 0 := by
  have := enu_cn 40 c h
  rw [cnB_cg (q := fun _ => false) 40 (fun x hx => tb0N x (by omega)), cnB_0] at this
  omega
theorem x_becomeNumber {g : Gs} {ad : Nat → Nat} {sk : (Nat → Nat) × (Nat → Nat)} {M : Mem} {z e : Int} (hz : 0 ≤ z ∧ z < 40) (he : -64 ≤ e ∧ e ≤ 64) : SpV (wC g ad sk) yX2_becomeNumber cX2_becomeNumber 2 none 3 [.ref (ad (44 + 6 * (Int.toNat z))), vI (e)] (M) (fun N => NumX M N z e) := by
  intro l9 hl9
  refine ct_of hl9 mi_X2_becomeNumber.2.2.2 (Nat.le_of_ble_eq_true rfl) (fun X _ C Y => ?_)
  show E (wC g ad sk) X 0 0 (M) 0 [(0, .ref (ad (44 + 6 * (Int.toNat z)))), (1, vI (e))] []
  refine e_wf (fun hw => ?_)
  have h4 : cnB (tbN 0) 40 ≤ 4 := by rw [cnB_cg (q := fun _ => false) 40 (fun x hx => tb0N x (by omega)), cnB_0]; omega
  refine B_X2_becomeNumber_0 (by omega) (by omega) (Nat.le_refl _) (Nat.le_refl _) C Y ⟨_, (x_lengthOfNumber he).toI, fun r A hA => ?_⟩
  obtain ⟨rfl, rfl⟩ := hA
  have hl := numLn_r e
  refine ⟨by omega, _, x_takeOptions hz (by omega) (by omega) h4, fun B hB => ⟨_, x_takeOptions hz (by omega) (by omega) h4, fun D hD => ⟨by omega, _, x_becomeCold hz (by omega), fun N hN => ⟨rfl, ?_⟩⟩⟩⟩
  obtain ⟨b1, b2, b3⟩ := hB
  obtain ⟨d1, d2, d3⟩ := hD
  obtain ⟨n1, n2, n3, n4, n5⟩ := hN
  have c0 := enu_0 b3
  have c1 := enu_0 d3
  have lo : ∀ c, 45 ≤ c → c ≤ 48 → N c z = up (up (up (up M 45 z 0) 46 z e) 47 z 0) 48 z (numLn e) c z := fun c k1 k2 => by
    rw [n5 c z (by omega) (by omega), d1 c z (by omega) (by omega) (by omega), b1 c z (by omega) (by omega) (by omega)]
  refine ⟨?_, ?_, ?_, ?_, n1, by rw [n2]; omega, n3, fun s s1 s2 => ⟨?_, by rw [(n4 s s1 s2).1]; omega, (n4 s s1 s2).2⟩, fun c i q => ?_⟩
  · rw [lo 45 (by omega) (by omega), up_c (by decide), up_c (by decide), up_c (by decide), up_s]
  · rw [lo 46 (by omega) (by omega), up_c (by decide), up_c (by decide), up_s]
  · rw [lo 47 (by omega) (by omega), up_c (by decide), up_s]
  · rw [lo 48 (by omega) (by omega), up_s]
  · rcases (show s = 0 ∨ s = 1 by omega) with rfl | rfl
    · rw [n5 41 _ (by omega) (by omega), d1 41 _ (by omega) (by omega) (by omega)]; exact c0
    · rw [n5 41 _ (by omega) (by omega)]; exact c1
  · have q1 : ¬ ((45 ≤ c ∧ c ≤ 53) ∧ i = z) := fun k => q (Or.inl k)
    have q2 : ¬ ((c = 40 ∨ c = 41 ∨ c = 43 ∨ c = 44) ∧ (i = z ∨ i = 40 + z)) := fun k => q (Or.inr (Or.inl k))
    have q3 : ∀ s, 0 ≤ s → s ≤ 1 → ¬ (c = 42 ∧ ∃ j, 0 ≤ j ∧ j < 4 ∧ i = 40 * (s * 4 + j) + z) := fun s s1 s2 ⟨k1, j, j1, j2, j3⟩ => q (Or.inr (Or.inr ⟨k1, s * 4 + j, by omega, by omega, j3⟩))
    rw [n5 c i (by omega) (by omega), d1 c i (by omega) (by omega) (q3 1 (by omega) (by omega)), b1 c i (by omega) (by omega) (q3 0 (by omega) (by omega))]
    have hk : ∀ (K : Mem) (k : Nat) (x : Int), (45 ≤ k ∧ k ≤ 53) → up K k z x c i = K c i := fun K k x hk => by
      by_cases h : c = k
      · subst h; exact up_i (fun e => q1 ⟨hk, e⟩)
      · exact up_c h
    rw [hk _ 48 _ (by omega), hk _ 47 _ (by omega), hk _ 46 _ (by omega), hk _ 45 _ (by omega)]
