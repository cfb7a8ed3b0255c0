/-! ===== composing: there is a result ===== -/
theorem deepW_ex {G : Mem} {n l r : Int} (hG : Good n G) (hl : Wd40 l n) (hr : Wd40 r n) : ∃ d, DeepW G l r d := by
  have key : ∀ K : Nat, K ≤ 40 → ∃ d, (0 ≤ d ∧ d ≤ 6) ∧ (∀ x, 0 ≤ x → x < (K : Int) → InW l r x → G 5 x ≤ d) ∧ (d = 0 ∨ ∃ x, 0 ≤ x ∧ x < 40 ∧ InW l r x ∧ G 5 x = d) := by
    intro K
    induction K with
    | zero => intro _; exact ⟨0, by omega, fun x x1 x2 => absurd x2 (by omega), Or.inl rfl⟩
    | succ K ih =>
      intro hK
      obtain ⟨d, d1, d2, d3⟩ := ih (by omega)
      by_cases c : InW l r (K : Int) ∧ d < G 5 (K : Int)
      · have hk : (K : Int) < n := by
          rcases c.1 with q | q
          · exact hl.2 K (by omega) (by omega) q
          · exact hr.2 K (by omega) (by omega) q
        have h5 := (hG.2.2 K (by omega) hk).1.2.2.1
        refine ⟨G 5 K, h5, fun x x1 x2 hx => ?_, Or.inr ⟨K, by omega, by omega, c.1, rfl⟩⟩
        by_cases e : x = K
        · subst e; exact Int.le_refl _
        · have := d2 x x1 (by omega) hx; omega
      · refine ⟨d, d1, fun x x1 x2 hx => ?_, d3⟩
        by_cases e : x = K
        · subst e
          rcases Int.lt_or_le d (G 5 (K : Int)) with q | q
          · exact absurd ⟨hx, q⟩ c
          · exact q
        · exact d2 x x1 (by omega) hx
  obtain ⟨d, d1, d2, d3⟩ := key 40 (by omega)
  exact ⟨d, d1, fun x x1 x2 hx => d2 x x1 (by omega) hx, d3⟩
/-- a memory whose new rows list the words -/
def rowM (G : Mem) (f h : Int → Int) (a b : Int) : Mem := fun c i => if c = 29 then 0 else if c = 30 then (if i = 0 then a else b) else if c = 31 then (if i < 4 then f i else h (i - 4)) else G c i
theorem cmp_ex {G : Mem} {n l r : Int} (hG : Good n G) (h0 : G 0 0 = n) (hl : Wd40 l n) (hr : Wd40 r n) : ∃ z N, CmpR G n l r z N := by
  have hn := hG.2.1
  have hn0 := hG.1
  by_cases c1 : 4 < siz l ∨ 4 < siz r
  · exact ⟨-1, G, Or.inl ⟨rfl, h0, Ag.refl _ _, c1.elim Or.inl (fun k => Or.inr (Or.inl k))⟩⟩
  obtain ⟨f, a, hf⟩ := enu_ex (tbN l) 40
  obtain ⟨h, b, hh⟩ := enu_ex (tbN r) 40
  have ea : siz l = a := pop_enu hl hn hf
  have eb : siz r = b := pop_enu hr hn hh
  have fl : ∀ i, 0 ≤ i → i < a → 0 ≤ f i ∧ f i < n := fun i i1 i2 => by
    obtain ⟨q1, q2, q3⟩ := hf.2.2.1 i i1 i2
    have q4 : tb l (((f i).toNat : Nat) : Int) = true := q3
    rw [Int.toNat_of_nonneg q1] at q4
    exact ⟨q1, hl.2 _ q1 (by omega) q4⟩
  have hl2 : ∀ i, 0 ≤ i → i < b → 0 ≤ h i ∧ h i < n := fun i i1 i2 => by
    obtain ⟨q1, q2, q3⟩ := hh.2.2.1 i i1 i2
    have q4 : tb r (((h i).toNat : Nat) : Int) = true := q3
    rw [Int.toNat_of_nonneg q1] at q4
    exact ⟨q1, hr.2 _ q1 (by omega) q4⟩
  obtain ⟨M, hM⟩ : ∃ M, M = rowM G f h a b := ⟨_, rfl⟩
  have f0 := hf.1
  have g0 := hh.1
  have m30 : M 30 0 = a := by rw [hM]; rfl
  have m301 : M 30 1 = b := by rw [hM]; rfl
  have m31 : ∀ i, i < 4 → M 31 i = f i := fun i hi => by rw [hM]; simp only [rowM]; rw [if_neg (by decide), if_neg (by decide), if_pos trivial, if_pos hi]
  have m31' : ∀ i, 0 ≤ i → M 31 (4 + i) = h i := fun i hi => by rw [hM]; simp only [rowM]; rw [if_neg (by decide), if_neg (by decide), if_pos trivial, if_neg (by omega), show 4 + i - 4 = i by omega]
  have mo : ∀ c i, c < 29 → M c i = G c i := fun c i hc => by rw [hM]; simp only [rowM]; rw [if_neg (by omega), if_neg (by omega), if_neg (by omega)]
  have g : Ag G M n := Ag.of n (fun c i q1 q2 => mo c i (by omega))
  have r0 : RwN M 0 l := by
    unfold RwN; rw [m30]
    exact enu_cg (fun i i1 i2 => by show M 31 (4 * 0 + i) = f i; rw [m31 _ (by omega)]; congr 1; omega) hf
  have r1 : RwN M 1 r := by
    unfold RwN; rw [m301]
    exact enu_cg (fun i i1 i2 => by show M 31 (4 * 1 + i) = h i; rw [show 4 * 1 + i = 4 + i by omega, m31' _ i1]) hh
  have hNw : NwOk M n := by
    refine ⟨hG.cg g, by rw [mo 0 0 (by decide)]; exact h0, ⟨by rw [m30]; omega, r0.2.1⟩, ⟨by rw [m301]; omega, r1.2.1⟩, fun s s1 s2 i i1 i2 => ?_⟩
    rcases (show s = 0 ∨ s = 1 by omega) with rfl | rfl
    · rw [m30] at i2
      rw [show 4 * 0 + i = i by omega, m31 i (by omega)]; exact fl i i1 i2
    · rw [m301] at i2
      rw [show 4 * 1 + i = 4 + i by omega, m31' i i1]; exact hl2 i i1 i2
  have m29 : M 29 0 = 0 := by rw [hM]; rfl
  suffices hs : ∃ z N, MdP M n z N by
    obtain ⟨z, N, hz⟩ := hs
    exact ⟨z, N, cmp_cg g hl hr (mdp_W hNw hl hr (fun q => absurd m29 q) (fun _ => ⟨r0, r1⟩) hz)⟩
  obtain ⟨d, hd⟩ := deepW_ex hG hl hr
  have hdM : Deep M d := (deep_W r0 r1).mpr ((deepW_cg g hl hr).mpr hd)
  have hdr := hd.1
  by_cases c2 : d = 6
  · subst c2; exact ⟨-1, M, Or.inl ⟨rfl, rfl, Or.inr (Or.inl hdM)⟩⟩
  by_cases c3 : ∃ y : Nat, (y : Int) < n ∧ SamN M y
  · obtain ⟨y, ⟨y1, y2⟩, y3⟩ := least_nat _ c3
    refine ⟨y, M, Or.inr (Or.inl ⟨by omega, y1, rfl, m29, y2, fun x x1 x2 q => ?_⟩)⟩
    have := y3 x.toNat (by omega)
    rw [Int.toNat_of_nonneg x1] at this
    exact this ⟨by omega, q⟩
  have c3' : ∀ x, 0 ≤ x → x < n → ¬ SamN M x := fun x x1 x2 q => c3 ⟨x.toNat, by omega, by rw [Int.toNat_of_nonneg x1]; exact q⟩
  by_cases c4 : n = 40
  · exact ⟨-1, M, Or.inl ⟨rfl, rfl, Or.inr (Or.inr ⟨c4, c3'⟩)⟩⟩
  obtain ⟨K, hK⟩ : ∃ K : Mem, K = fun c i => if c = 3 ∧ 2 * n ≤ i then M 30 (i - 2 * n) else if c = 4 ∧ 8 * n ≤ i then M 31 (i - 8 * n) else (up (up M 1 n 0) 5 n (d + 1)) c i := ⟨_, rfl⟩
  have hCp : CpA (up (up M 1 n 0) 5 n (d + 1)) K n 2 := by
    refine ⟨fun c i q1 q2 => by rw [hK]; simp only; rw [if_neg q1, if_neg q2], fun s s1 s2 => ⟨?_, fun i i1 i2 => ?_⟩⟩
    · rw [hK]; simp only
      rw [if_pos ⟨trivial, by omega⟩, up_c (by decide), up_c (by decide), show 2 * n + s - 2 * n = s by omega]
    · rw [hK]; simp only
      rw [if_neg (by omega), if_pos ⟨trivial, by omega⟩, up_c (by decide), up_c (by decide), show 8 * n + 4 * s + i - 8 * n = 4 * s + i by omega]
  obtain ⟨kg, hDK, k0, k1, k5, row, fr⟩ := cp_dat hNw (by omega) (by omega) hdM rfl hCp
  obtain ⟨N, n0, nG, nA, nF⟩ := ly_ex ⟨hn0, by omega⟩ (hNw.1.cg kg) hDK (Or.inl k1)
  refine ⟨n, N, Or.inr (Or.inr ⟨rfl, by omega, m29, c3', d, by omega, hdM, n0, nG, kg.trans (Int.le_refl _) nA, ?_, ?_, fun s s1 s2 => ?_, fun c i q1 q2 => ?_⟩)⟩
  · rw [nF 1 n (by decide) (by decide) (by decide)]; exact k1
  · rw [nF 5 n (by decide) (by decide) (by decide)]; exact k5
  · obtain ⟨x, y⟩ := row s s1 s2
    refine ⟨by rw [nF 3 _ (by decide) (by decide) (by decide)]; exact x, fun i i1 i2 => ?_⟩
    rw [show opt N n s i = opt K n s i from nF 4 _ (by decide) (by decide) (by decide)]
    exact y i i1 i2
  · rw [nF c i (by omega) (by omega) q2, fr c i (by omega) (by omega) (by omega) (by omega)]
