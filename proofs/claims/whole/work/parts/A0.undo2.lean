/-! ===== undo: the class ===== -/
theorem pst_le {A M : Mem} (h : PstJ A M) : ∀ (m : Nat) (r p : Int), 0 ≤ r → r + m = p → p < M 18 0 → M 19 (6 * r) ≤ M 19 (6 * p) := by
  intro m
  induction m with
  | zero => intro r p r1 r2 r3; rw [show r = p by omega]; exact Int.le_refl _
  | succ m ih =>
    intro r p r1 r2 r3
    have a := h.2.2.2.2 r r1 (by omega)
    have b := ih (r + 1) p (by omega) (by omega) r3
    omega
theorem drf_un {A M B N : Mem} {s v : Int} (h : DrfJ A M s) (hv : 0 ≤ v ∧ v ≤ 40) (hn : M 0 0 ≤ 40) (hN0 : N 0 0 = v) (hd : DrU M N s v) (hB : B 1 s = landL (A 1 s) (lshlL 1 v - 1)) : DrfJ B N s := by
  obtain ⟨a, b, c, d, f⟩ := h
  obtain ⟨u1, u2, u3⟩ := hd
  have tv : ∀ x, 0 ≤ x → x < 64 → (tb (B 1 s) x = true ↔ (tb (A 1 s) x = true ∧ x < v)) := by
    intro x x1 x2
    rw [hB, tb_and, Bool.and_eq_true, tb_mask (by omega) ⟨x1, x2⟩, decide_eq_true_eq]
  have rg : ∀ i, 0 ≤ i → i < N 21 s → 0 ≤ N 22 (4 * s + i) ∧ N 22 (4 * s + i) < v := by
    intro i i1 i2
    obtain ⟨⟨j, j1, j2, j3⟩, q⟩ := (u3 _).mp ⟨i, i1, i2, rfl⟩
    have := d j j1 j2
    omega
  unfold DrfJ
  rw [hN0]
  refine ⟨⟨by rw [hB]; exact landL_r _ _, fun x x1 x2 q => ((tv x x1 x2).mp q).2⟩, u1, u2, rg, fun x x1 x2 => ?_⟩
  rw [tv x x1 (by omega), f x x1 x2]
  exact (u3 x).symm
theorem x_undo {g : Gs} {ad : Nat → Nat} {sk : (Nat → Nat) × (Nat → Nat)} {A M : Mem} (h : Jn A M) : SpT (wC g ad sk) yX9_undo cX9_undo 3 (some .int) 2 [.ref (ad 0)] (A) (fun r B => Res (UnR M) 0 r B) (fun e B => e = eIS ∧ Res (UnR M) 1 0 B) := by
  intro l9 hl9
  refine ct_of hl9 mi_X9_undo.2.2.2 (Nat.le_of_ble_eq_true rfl) (fun X _ C Y => ?_)
  show E (wC g ad sk) X 0 0 (A) 0 [(0, .ref (ad 0))] []
  refine e_wf (fun hw => ?_)
  have hn := h.n
  have hp := h.2.2.1
  have p18 := hp.1
  have e38 := hp.2.1
  obtain ⟨d0, d1⟩ := h.2.2.2.1
  refine B_X9_undo_0  (Nat.zero_le _) (Nat.zero_le _) C Y ⟨fun c => ⟨_, x_restore (by omega), fun v B0 hB => ?_⟩, fun c => ⟨by omega, rfl, ?_⟩⟩
  · obtain ⟨rv, b38, b11, b10, bf⟩ := hB
    rw [e38] at rv b38 b11 b10 c
    have q1 : 0 ≤ M 18 0 - 1 ∧ M 18 0 - 1 < 6 := by omega
    have rj := hp.2.2.2.1 (M 18 0 - 1) q1.1 (by omega)
    have ea : ∀ i, 0 ≤ i → i < 36 → A 39 i = M 19 i := hp.2.2.1
    rw [ea _ (by omega) (by omega)] at rv b11
    obtain ⟨r1, r2, r3⟩ := rj
    subst rv
    refine ⟨by omega, _, rfl, ?_⟩
    rintro k' r' N (⟨w, -⟩ | ⟨-, rfl, rfl, n18, n0, n16, n17, u0, u1, fN⟩)
    · exact absurd w c
    · have fB : ∀ x y c i, c ≠ 1 → c ≠ 4 → c ≠ 10 → c ≠ 11 → c ≠ 38 → up (up (up B0 4 0 (M 19 (6 * (M 18 0 - 1)))) 1 0 x) 1 1 y c i = A c i := fun x y c i h1 h4 h2 h3 h5 => by rw [up_c h1, up_c h1, up_c h4]; exact bf c i h2 h3 h5
      have e10 : ∀ j, 0 ≤ j → j < 4 → B0 10 j = N 17 j := fun j j1 j2 => by rw [b10 j j1 j2, n17 j j1 j2]; exact ea _ (by omega) (by omega)
      have v40 : 0 ≤ M 19 (6 * (M 18 0 - 1)) ∧ M 19 (6 * (M 18 0 - 1)) ≤ 40 := by omega
      have f1 : ∀ i, B0 1 i = A 1 i := fun i => bf 1 i (by decide) (by decide) (by decide)
      rw [n0] at u0 u1
      refine ⟨rfl, fun _ => b38.symm, ?_, ?_, ?_, ⟨?_, ?_⟩, ?_, ?_, ?_⟩
      · rw [n0]
        exact h.1.mono r1 (fun c i c1 c2 => fN c i (by omega) (by omega) (by omega) (by omega) (by omega) (by omega) (by omega)) n0 (fun c i hc => fB _ _ c i (by omega) (by omega) (by omega) (by omega) (by omega)) (by rw [up_c (by decide), up_c (by decide), up_s])
      · refine ⟨by rw [n16]; exact r2, ?_, fun i i1 i2 => ?_, fun i i1 i2 => ?_⟩
        · rw [n16, up_c (by decide), up_c (by decide), up_c (by decide)]; exact b11
        · rw [up_c (by decide), up_c (by decide), up_c (by decide)]; exact e10 i i1 i2
        · rw [n16] at i2
          rw [n0, n17 i i1 (by omega)]
          exact r3 i i1 i2
      · refine ⟨by rw [n18]; omega, ?_, fun i i1 i2 => ?_, fun r a1 a2 => ?_, fun r a1 a2 => ?_⟩
        · rw [n18, up_c (by decide), up_c (by decide), up_c (by decide)]; exact b38
        · rw [fB _ _ 39 i (by decide) (by decide) (by decide) (by decide) (by decide), fN 19 i (by omega) (by decide) (by decide) (by decide) (by decide) (by decide) (by decide)]; exact ea i i1 i2
        · rw [n18] at a2
          have rr := hp.2.2.2.1 r a1 (by omega)
          have le := pst_le hp (M 18 0 - 1 - r).toNat r (M 18 0 - 1) a1 (by omega) (by omega)
          have g : ∀ i, N 19 i = M 19 i := fun i => fN 19 i (by omega) (by decide) (by decide) (by decide) (by decide) (by decide) (by decide)
          unfold RowJ at rr ⊢
          simp only [g, n0]
          exact ⟨⟨rr.1.1, le⟩, rr.2⟩
        · rw [n18] at a2
          have g : ∀ i, N 19 i = M 19 i := fun i => fN 19 i (by omega) (by decide) (by decide) (by decide) (by decide) (by decide) (by decide)
          rw [g, g]
          exact hp.2.2.2.2 r a1 (by omega)
      · refine drf_un d0 v40 hn.2.2.1 n0 u0 ?_
        rw [up_i (by decide), up_s, f1]
      · refine drf_un d1 v40 hn.2.2.1 n0 u1 ?_
        rw [up_s, f1]
      · exact h.2.2.2.2.1.cg (fB _ _ 23 0 (by decide) (by decide) (by decide) (by decide) (by decide)) (fun i => fB _ _ 24 i (by decide) (by decide) (by decide) (by decide) (by decide)) (fun i => fN 23 i (by omega) (by decide) (by decide) (by decide) (by decide) (by decide) (by decide)) (fN 24 0 (by omega) (by decide) (by decide) (by decide) (by decide) (by decide) (by decide))
      · exact h.2.2.2.2.2.1.cg (fB _ _ 37 0 (by decide) (by decide) (by decide) (by decide) (by decide)) (fun i => fB _ _ 36 i (by decide) (by decide) (by decide) (by decide) (by decide)) (fN 26 0 (by omega) (by decide) (by decide) (by decide) (by decide) (by decide) (by decide)) (fun i => fN 62 i (by omega) (by decide) (by decide) (by decide) (by decide) (by decide) (by decide))
      · exact h.2.2.2.2.2.2.cg (fB _ _ 0 0 (by decide) (by decide) (by decide) (by decide) (by decide)) (fun i => fB _ _ 3 i (by decide) (by decide) (by decide) (by decide) (by decide)) (fN 28 0 (by omega) (by decide) (by decide) (by decide) (by decide) (by decide) (by decide)) (fun i => fN 27 i (by omega) (by decide) (by decide) (by decide) (by decide) (by decide) (by decide))
  · rw [e38] at c
    rintro k' r' N (⟨-, rfl, rfl⟩ | ⟨w, -⟩)
    · exact ⟨rfl, fun q => absurd q (by decide), h.r20⟩
    · exact absurd c w
