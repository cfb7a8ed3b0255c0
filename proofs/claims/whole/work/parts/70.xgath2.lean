/-- the rows of game z in the class's memory are G's -/
def RwX (G X : Mem) (z : Int) : Prop := OpS G z ∧ ∀ s, 0 ≤ s → s ≤ 1 → X 41 (40 * s + z) = G 3 (2 * z + s) ∧ ∀ i, 0 ≤ i → i < G 3 (2 * z + s) → X 42 (40 * (4 * s + i) + z) = opt G z s i
theorem rw_opt {G X : Mem} {z s i : Int} (h : RwX G X z) (hs : 0 ≤ s ∧ s ≤ 1) (hi : 0 ≤ i ∧ i < G 3 (2 * z + s)) : optAt X z s i = opt G z s i := by
  obtain ⟨a, b⟩ := h.2 s hs.1 hs.2
  unfold optAt
  rw [if_pos (by rw [a]; exact hi)]
  exact b i hi.1 hi.2
def comG (G : Mem) (z : Int) : Int := 3 + (max 0 (G 3 (2 * z + 0) - 1) + max 0 (G 3 (2 * z + 1) - 1))
def sumT (f : Int → Int) (G : Mem) (z s : Int) (j : Nat) : Int := if s = 0 then sumO f G z 0 j else sumO f G z 0 (G 3 (2 * z + 0)).toNat + sumO f G z 1 j
def GaI (f : Int → Int) (G M N : Mem) (z s : Int) (j : Nat) : Prop := (∀ c i, ¬ ((c = 48 ∨ c = 52) ∧ i = z) → N c i = M c i) ∧ N 48 z = comG G z + sumT f G z s j ∧ ∀ x, 0 ≤ x → x < 64 → (tb (N 52 z) x = true ↔ (x = z ∨ ∃ s' i, 0 ≤ s' ∧ s' ≤ 1 ∧ 0 ≤ i ∧ i < G 3 (2 * z + s') ∧ (s' < s ∨ (s' = s ∧ i < (j : Int))) ∧ tb (M 52 (opt G z s' i)) x = true))
theorem ga_54 {g : Gs} {ad : Nat → Nat} {sk : (Nat → Nat) × (Nat → Nat)} {X : Cx} {PQ : Option Value → Mem → Prop} {PX : String → Mem → Prop} (C : OkB (wC g ad sk) X cX5_gather RX5 6 2 0 0) (Y : OkR (wC g ad sk) X none 0 0 PQ PX) {f : Int → Int} {G M : Mem} {z s : Int} (hz : 0 ≤ z ∧ z < 40) (hs : 0 ≤ s ∧ s ≤ 1) (hr : RwX G M z) (hf : ∀ o, 0 ≤ o → o < z → M 48 o = f o ∧ 0 ≤ f o ∧ f o ≤ 2000000) (kk : ∀ N, GaI f G M N z s (G 3 (2 * z + s)).toNat → E (wC g ad sk) X 0 0 (N) 46 [(0, .ref (ad 1)), (1, .ref (ad (44 + 6 * (Int.toNat z)))), (3, vI (s + 1))] []) : ∀ (m j : Nat), (j : Int) + m = G 3 (2 * z + s) → ∀ N, GaI f G M N z s j → E (wC g ad sk) X 0 0 (N) 54 [(0, .ref (ad 1)), (1, .ref (ad (44 + 6 * (Int.toNat z)))), (3, vI (s)), (4, vI (j))] [] := by
  have hb := opS_r hr.1 hs
  have hb0 := opS_r hr.1 (s := 0) (by omega)
  have hb1 := opS_r hr.1 (s := 1) (by omega)
  intro m
  induction m with
  | zero =>
    intro j hj N hN
    have c41 : N 41 (40 * s + z) = G 3 (2 * z + s) := (hN.1 41 _ (by omega)).trans (hr.2 s hs.1 hs.2).1
    have ej : (G 3 (2 * z + s)).toNat = j := by omega
    rw [ej] at kk
    exact B_X5_gather_54 (by omega) (by omega) (by omega) (Nat.le_refl _) (Nat.le_refl _) C Y ⟨by omega, fun c => ⟨by omega, kk N hN⟩, fun c => absurd c (by omega)⟩
  | succ m ih =>
    intro j hj N hN
    have c41 : N 41 (40 * s + z) = G 3 (2 * z + s) := (hN.1 41 _ (by omega)).trans (hr.2 s hs.1 hs.2).1
    have hrN : RwX G N z := ⟨hr.1, fun t t1 t2 => ⟨(hN.1 41 _ (by omega)).trans (hr.2 t t1 t2).1, fun i i1 i2 => (hN.1 42 _ (by omega)).trans ((hr.2 t t1 t2).2 i i1 i2)⟩⟩
    have eo := rw_opt hrN hs (i := j) (by omega)
    have ob := hb.2.2 j (by omega) (by omega)
    have n48 : N 48 (opt G z s j) = f (opt G z s j) := (hN.1 48 _ (by omega)).trans (hf _ ob.1 ob.2).1
    have n52 : N 52 (opt G z s j) = M 52 (opt G z s j) := hN.1 52 _ (by omega)
    have fb := (hf _ ob.1 ob.2).2
    have sb : 0 ≤ sumT f G z s j ∧ sumT f G z s j ≤ 16000000 := by
      have b0 := sumO_r (f := f) (G := G) (z := z) (s := 0) (B := 2000000) (G 3 (2 * z + 0)).toNat (fun i i1 i2 => (hf _ (hb0.2.2 i i1 (by omega)).1 (hb0.2.2 i i1 (by omega)).2).2)
      have b1 := sumO_r (f := f) (G := G) (z := z) (s := s) (B := 2000000) j (fun i i1 i2 => (hf _ (hb.2.2 i i1 (by omega)).1 (hb.2.2 i i1 (by omega)).2).2)
      unfold sumT
      split
      · rename_i q; subst q; omega
      · rename_i q
        have : s = 1 := by omega
        subst this; omega
    have cb : 3 ≤ comG G z ∧ comG G z ≤ 9 := by unfold comG; omega
    refine B_X5_gather_54 (by omega) (by omega) (by omega) (Nat.le_refl _) (Nat.le_refl _) C Y ⟨by omega, fun c => absurd c (by omega), fun c => ⟨by rw [eo, n48, hN.2.1]; omega, ?_⟩⟩
    rw [eo, n48, n52]
    refine ih (j + 1) (by omega) _ ⟨fun c i q => ?_, ?_, fun x x1 x2 => ?_⟩
    · by_cases h : c = 52
      · subst h; rw [up_i (fun e => q ⟨Or.inr rfl, e⟩), up_c (by decide)]; exact hN.1 52 i q
      · by_cases h2 : c = 48
        · subst h2; rw [up_c (by decide), up_i (fun e => q ⟨Or.inl rfl, e⟩)]; exact hN.1 48 i q
        · rw [up_c h, up_c h2]; exact hN.1 c i q
    · rw [up_c (by decide), up_s, hN.2.1]
      unfold sumT
      split
      · rename_i q; subst q; rw [sumO]; omega
      · rename_i q
        have : s = 1 := by omega
        subst this; rw [sumO]; omega
    · rw [up_s, tb_or, Bool.or_eq_true, hN.2.2 x x1 x2]
      constructor
      · rintro ((q | ⟨s', i, a1, a2, a3, a4, a5, a6⟩) | q)
        · exact Or.inl q
        · exact Or.inr ⟨s', i, a1, a2, a3, a4, by omega, a6⟩
        · exact Or.inr ⟨s, j, hs.1, hs.2, by omega, by omega, by omega, q⟩
      · rintro (q | ⟨s', i, a1, a2, a3, a4, a5, a6⟩)
        · exact Or.inl (Or.inl q)
        · by_cases e : s' = s ∧ i = j
          · obtain ⟨rfl, rfl⟩ := e; exact Or.inr a6
          · exact Or.inl (Or.inr ⟨s', i, a1, a2, a3, a4, by omega, a6⟩)
