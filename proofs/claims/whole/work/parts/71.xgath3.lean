/-! ===== the class: gather, whole ===== -/
def GaX (M N : Mem) (z l : Int) (p : Int → Prop) : Prop := (∀ c i, ¬ ((c = 48 ∨ c = 52) ∧ i = z) → N c i = M c i) ∧ N 48 z = l ∧ R64 (N 52 z) ∧ ∀ x, 0 ≤ x → x < 64 → (tb (N 52 z) x = true ↔ p x)
theorem x_gather {g : Gs} {ad : Nat → Nat} {sk : (Nat → Nat) × (Nat → Nat)} {f : Int → Int} {G M : Mem} {z : Int} (hz : 0 ≤ z ∧ z < 40) (h4 : M 4 0 = z) (hr : RwX G M z) (hf : ∀ o, 0 ≤ o → o < z → M 48 o = f o ∧ 0 ≤ f o ∧ f o ≤ 2000000) : SpV (wC g ad sk) yX5_gather cX5_gather 6 none 2 [.ref (ad 1), .ref (ad (44 + 6 * (Int.toNat z)))] (M) (fun N => GaX M N z (comG G z + sumO f G z 0 (G 3 (2 * z + 0)).toNat + sumO f G z 1 (G 3 (2 * z + 1)).toNat) (fun x => x = z ∨ ∃ s i, 0 ≤ s ∧ s ≤ 1 ∧ 0 ≤ i ∧ i < G 3 (2 * z + s) ∧ tb (M 52 (opt G z s i)) x = true)) := by
  intro l9 hl9
  refine ct_of hl9 mi_X5_gather.2.2.2 (Nat.le_of_ble_eq_true rfl) (fun X _ C Y => ?_)
  show E (wC g ad sk) X 0 0 (M) 0 [(0, .ref (ad 1)), (1, .ref (ad (44 + 6 * (Int.toNat z))))] []
  refine e_wf (fun hw => ?_)
  have hb0 := opS_r hr.1 (s := 0) (by omega)
  have hb1 := opS_r hr.1 (s := 1) (by omega)
  have e0 := (hr.2 0 (by omega) (by omega)).1
  have e1 := (hr.2 1 (by omega) (by omega)).1
  refine B_X5_gather_0 (by omega) (Nat.le_refl _) (Nat.le_refl _) C Y ⟨⟨by omega, by omega, by omega, by omega⟩, ?_⟩
  refine B_X5_gather_46 (by omega) (by omega) (Nat.le_refl _) (Nat.le_refl _) C Y ⟨fun c => absurd c (by omega), fun c => ?_⟩
  refine ga_54 C Y (f := f) (G := G) (M := M) (s := 0) hz (by omega) hr hf (fun N1 h1 => ?_) (G 3 (2 * z + 0)).toNat 0 (by omega) _ ⟨fun c i q => ?_, ?_, fun x x1 x2 => ?_⟩
  · refine B_X5_gather_46 (by omega) (by omega) (Nat.le_refl _) (Nat.le_refl _) C Y ⟨fun c => absurd c (by omega), fun c => ?_⟩
    refine ga_54 C Y (f := f) (G := G) (M := M) (s := 1) hz (by omega) hr hf (fun N2 h2 => ?_) (G 3 (2 * z + 1)).toNat 0 (by omega) _ ⟨h1.1, ?_, fun x x1 x2 => ?_⟩
    · refine e_wf (fun hw9 => B_X5_gather_46 (by omega) (by omega) (Nat.le_refl _) (Nat.le_refl _) C Y ⟨fun c => ⟨rfl, h2.1, ?_, hw9.1 52 z rfl, fun x x1 x2 => ?_⟩, fun c => absurd c (by omega)⟩)
      · rw [h2.2.1, sumT, if_neg (by decide)]; omega
      · rw [h2.2.2 x x1 x2]
        constructor
        · rintro (q | ⟨s', i, a1, a2, a3, a4, a5, a6⟩)
          · exact Or.inl q
          · exact Or.inr ⟨s', i, a1, a2, a3, a4, a6⟩
        · rintro (q | ⟨s', i, a1, a2, a3, a4, a6⟩)
          · exact Or.inl q
          · refine Or.inr ⟨s', i, a1, a2, a3, a4, ?_, a6⟩
            rcases (show s' = 0 ∨ s' = 1 by omega) with rfl | rfl
            · exact Or.inl (by omega)
            · exact Or.inr ⟨rfl, by omega⟩
    · rw [h1.2.1, sumT, if_pos rfl, sumT, if_neg (by decide), sumO]; omega
    · rw [h1.2.2 x x1 x2]
      constructor
      · rintro (q | ⟨s', i, a1, a2, a3, a4, a5, a6⟩)
        · exact Or.inl q
        · exact Or.inr ⟨s', i, a1, a2, a3, a4, by omega, a6⟩
      · rintro (q | ⟨s', i, a1, a2, a3, a4, a5, a6⟩)
        · exact Or.inl q
        · refine Or.inr ⟨s', i, a1, a2, a3, a4, ?_, a6⟩
          have : s' = 0 := by omega
          subst this
          exact Or.inr ⟨rfl, by omega⟩
  · by_cases h : c = 52
    · subst h; rw [up_i (fun e => q ⟨Or.inr rfl, e⟩), up_c (by decide)]
    · by_cases h2 : c = 48
      · subst h2; rw [up_c (by decide), up_i (fun e => q ⟨Or.inl rfl, e⟩)]
      · rw [up_c h, up_c h2]
  · rw [up_c (by decide), up_s, sumT, if_pos rfl, sumO, e0, e1, comG]; omega
  · rw [up_s, h4, tb_bit (by omega) ⟨x1, x2⟩]
    simp only [decide_eq_true_eq]
    refine ⟨Or.inl, fun q => ?_⟩
    rcases q with q | ⟨s', i, a1, a2, a3, a4, a5, a6⟩
    · exact q
    · omega
/-- gather at the newest game n of N -/
theorem x_gatherN {g : Gs} {ad : Nat → Nat} {sk : (Nat → Nat) × (Nat → Nat)} {N M : Mem} {n : Int} (hn : 0 ≤ n ∧ n < 40) (h4 : M 4 0 = n) (hN : Good (n + 1) N) (h1 : N 1 n = 0) (hr : RwX N M n) (hq : ∀ z, 0 ≤ z → z < n → RepG N M z) : SpV (wC g ad sk) yX5_gather cX5_gather 6 none 2 [.ref (ad 1), .ref (ad (44 + 6 * (Int.toNat n)))] (M) (fun Z => (∀ c i, ¬ ((c = 48 ∨ c = 52) ∧ i = n) → Z c i = M c i) ∧ Z 48 n = Ln N n ∧ Wd40 (Z 52 n) (n + 1) ∧ ∀ x, 0 ≤ x → x < 40 → (tb (Z 52 n) x = true ↔ Pt N AllG n x)) := by
  refine SpV.mono (x_gather (f := Ln N) (G := N) hn h4 hr (fun o o1 o2 => ⟨(hq o o1 o2).2.1.2.1, ln_r hN ⟨o1, by omega⟩⟩)) (fun Z hZ => ?_)
  obtain ⟨a, b, r52, c⟩ := hZ
  have hD := (hN.2.2 n hn.1 (by omega)).1
  have c' : ∀ x, 0 ≤ x → x < 64 → (tb (Z 52 n) x = true ↔ Pt N AllG n x) := by
    intro x x1 x2
    rw [c x x1 x2, pt_eq hN ⟨hn.1, by omega⟩]
    constructor
    · rintro (q | ⟨s, i, s1, s2, i1, i2, q⟩)
      · exact Or.inl q
      · have o := (opS_r hD.1 ⟨s1, s2⟩).2.2 i i1 i2
        have rg := (hq _ o.1 o.2).2.2.2.2.1
        have hx : x < 40 := by have := rg.1.2 x x1 x2 q; omega
        exact Or.inr ⟨trivial, s, i, s1, s2, i1, i2, (rg.2 x x1 hx).mp q⟩
    · rintro (q | ⟨-, s, i, s1, s2, i1, i2, q⟩)
      · exact Or.inl q
      · have o := (opS_r hD.1 ⟨s1, s2⟩).2.2 i i1 i2
        have rg := (hq _ o.1 o.2).2.2.2.2.1
        have := pt_le hN 6 _ x o.1 (by omega) q
        exact Or.inr ⟨s, i, s1, s2, i1, i2, (rg.2 x x1 (by omega)).mpr q⟩
  refine ⟨a, ?_, ⟨r52, fun x x1 x2 q => ?_⟩, fun x x1 x2 => c' x x1 (by omega)⟩
  · rw [b, ln_eq hN ⟨hn.1, by omega⟩, if_pos h1, comG]
  · have := pt_le hN 6 n x hn.1 (by omega) ((c' x x1 x2).mp q)
    omega
