/-! ===== draft (class); make ===== -/
theorem thR_i {M : Mem} {s z k : Int} : thR M s z k ↔ ∃ i, 0 ≤ i ∧ i < k ∧ M 22 (4 * s + i) = z := Iff.rfl
theorem x_draft {g : Gs} {ad : Nat → Nat} {sk : (Nat → Nat) × (Nat → Nat)} {A M : Mem} {s z : Int} (h : Jn A M) (hs : R32 s) (hz : R32 z) : SpT (wC g ad sk) yX9_draft cX9_draft 5 (some .int) 2 [.ref (ad 0), vI (s), vI (z)] (A) (fun r B => Res (DrR M s z) 0 r B) (fun e B => (e = eIO ∧ Res (DrR M s z) 1 0 B) ∨ (e = eIA ∧ Res (DrR M s z) 2 0 B) ∨ (e = eIS ∧ Res (DrR M s z) 3 0 B)) := by
  intro l9 hl9
  refine ct_of hl9 mi_X9_draft.2.2.2 (Nat.le_of_ble_eq_true rfl) (fun X _ C Y => ?_)
  show E (wC g ad sk) X 0 0 (A) 0 [(0, .ref (ad 0)), (1, vI (s)), (2, vI (z))] []
  refine e_wf (fun hw => ?_)
  have hn := h.n
  refine B_X9_draft_0 (by omega) (by omega) (Nat.zero_le _) (Nat.zero_le _) C Y ⟨fun c => ⟨fun c1 => ⟨by omega, ?_⟩, fun c1 => ⟨by omega, Or.inr (Or.inl ⟨rfl, ?_⟩)⟩⟩, fun c => ⟨by omega, Or.inl ⟨rfl, ?_⟩⟩⟩
  all_goals rw [hn.1] at c
  · have d : DrfJ A M s := by rcases c1 with rfl | rfl; exact h.2.2.2.1.1; exact h.2.2.2.1.2
    have sz := d.siz hn.2.2.1
    have b := d.2.1
    obtain ⟨o1, o2⟩ := siz_or d.1 c hn.2.2.1
    have wd := wd_or d.1 c hn.2.2.1
    have hth : tb (A 1 s) z = true ↔ thR M s z (M 21 s) := d.2.2.2.2 z c.1 (by omega)
    have sw : 0 ≤ siz (lorL (A 1 s) (lshlL 1 z)) ∧ siz (lorL (A 1 s) (lshlL 1 z)) ≤ 5 := by
      by_cases q : tb (A 1 s) z = true
      · rw [o1 q]; omega
      · have q : tb (A 1 s) z = false := by simpa using q
        rw [o2 q]; omega
    refine ⟨_, (s_bitCount wd.1).toI, fun a A hA => ?_⟩
    obtain ⟨rfl, rfl⟩ := hA
    refine ⟨by show R32 (siz (lorL (A 1 s) (lshlL 1 z))); omega, fun c2 => ⟨_, (s_bitCount wd.1).toI, fun a B hB => ?_⟩, fun c2 => ⟨by omega, Or.inr (Or.inr ⟨rfl, ?_⟩)⟩⟩
    · obtain ⟨rfl, rfl⟩ := hB
      have c2 : siz (lorL (A 1 s) (lshlL 1 z)) ≤ 4 := c2
      refine ⟨by show R32 (siz (lorL (A 1 s) (lshlL 1 z))); omega, _, rfl, ?_⟩
      rintro k' r' N (⟨w, -⟩ | ⟨-, w, -⟩ | ⟨-, -, ⟨t, rfl, rfl, rfl⟩ | ⟨t, t4, -⟩ | ⟨t, t4, rfl, rfl, rfl⟩⟩)
      · exact absurd c w
      · exact absurd c1 w
      · have q := hth.mpr t
        have e : up A 1 s (lorL (A 1 s) (lshlL 1 z)) = A := by
          rw [o1 q]; funext c i
          by_cases w : c = 1 ∧ i = s
          · obtain ⟨rfl, rfl⟩ := w; exact up_s _ _ _ _
          · exact up_n (by omega)
        refine ⟨rfl, fun _ => ?_, ?_⟩
        · show M 21 s = siz (lorL (A 1 s) (lshlL 1 z)); rw [o1 q]; omega
        · rw [e]; exact h.r20
      · have q : tb (A 1 s) z = false := by
          cases e : tb (A 1 s) z with
          | false => rfl
          | true => exact absurd (hth.mp e) t
        have := o2 q; omega
      · have q : tb (A 1 s) z = false := by
          cases e : tb (A 1 s) z with
          | false => rfl
          | true => exact absurd (hth.mp e) t
        have sz2 := o2 q
        refine ⟨rfl, fun _ => ?_, h.drf (fun c i hc => up_c hc) (fun c i h1 h2 h3 => by rw [up_c h2, up_c h3, up_c h1]) ?_⟩
        · show M 21 s + 1 = siz (lorL (A 1 s) (lshlL 1 z)); omega
        · have other : ∀ s', s' ≠ s → (s' = 0 ∨ s' = 1) → DrfJ A M s' → DrfJ (up A 1 s (lorL (A 1 s) (lshlL 1 z))) (up (up (up M 20 0 0) 22 (4 * s + M 21 s) z) 21 s (M 21 s + 1)) s' := by
            intro s' ne hs' d'
            have b' := d'.2.1
            have e22 : ∀ i, 0 ≤ i → i < M 21 s' → up (up (up M 20 0 0) 22 (4 * s + M 21 s) z) 21 s (M 21 s + 1) 22 (4 * s' + i) = M 22 (4 * s' + i) := fun i i1 i2 => by rw [up_c (by decide), up_i (by omega), up_c (by decide)]
            have e0 : up (up (up M 20 0 0) 22 (4 * s + M 21 s) z) 21 s (M 21 s + 1) 0 0 = M 0 0 := by rw [up_c (by decide), up_c (by decide), up_c (by decide)]
            have e21 : up (up (up M 20 0 0) 22 (4 * s + M 21 s) z) 21 s (M 21 s + 1) 21 s' = M 21 s' := by rw [up_i ne, up_c (by decide), up_c (by decide)]
            obtain ⟨p1, p2, p3, p4, p5⟩ := d'
            unfold DrfJ
            rw [e0, e21, up_i ne]
            refine ⟨p1, p2, fun i j i1 i2 i3 => by rw [e22 i i1 (by omega), e22 j (by omega) i3]; exact p3 i j i1 i2 i3, fun i i1 i2 => by rw [e22 i i1 i2]; exact p4 i i1 i2, fun x x1 x2 => ?_⟩
            rw [p5 x x1 x2]
            exact ⟨fun ⟨i, i1, i2, i3⟩ => ⟨i, i1, i2, by rw [e22 i i1 i2]; exact i3⟩, fun ⟨i, i1, i2, i3⟩ => ⟨i, i1, i2, by rw [e22 i i1 i2] at i3; exact i3⟩⟩
          have mine : DrfJ (up A 1 s (lorL (A 1 s) (lshlL 1 z))) (up (up (up M 20 0 0) 22 (4 * s + M 21 s) z) 21 s (M 21 s + 1)) s := by
            have e22 : ∀ i, 0 ≤ i → i < M 21 s → up (up (up M 20 0 0) 22 (4 * s + M 21 s) z) 21 s (M 21 s + 1) 22 (4 * s + i) = M 22 (4 * s + i) := fun i i1 i2 => by rw [up_c (by decide), up_i (by omega), up_c (by decide)]
            have e22n : up (up (up M 20 0 0) 22 (4 * s + M 21 s) z) 21 s (M 21 s + 1) 22 (4 * s + M 21 s) = z := by rw [up_c (by decide), up_s]
            have e0 : up (up (up M 20 0 0) 22 (4 * s + M 21 s) z) 21 s (M 21 s + 1) 0 0 = M 0 0 := by rw [up_c (by decide), up_c (by decide), up_c (by decide)]
            obtain ⟨p1, p2, p3, p4, p5⟩ := d
            unfold DrfJ
            rw [e0, up_s, up_s]
            refine ⟨wd, by omega, fun i j i1 i2 i3 => ?_, fun i i1 i2 => ?_, fun x x1 x2 => ?_⟩
            · rw [e22 i i1 (by omega)]
              by_cases ej : j = M 21 s
              · subst ej; rw [e22n]; exact fun w => t ⟨i, i1, by omega, w⟩
              · rw [e22 j (by omega) (by omega)]; exact p3 i j i1 i2 (by omega)
            · by_cases ei : i = M 21 s
              · subst ei; rw [e22n]; exact c
              · rw [e22 i i1 (by omega)]; exact p4 i i1 (by omega)
            · rw [tb_or, Bool.or_eq_true, tb_bit (by omega) (by omega), decide_eq_true_eq, p5 x x1 x2]
              constructor
              · rintro (⟨i, i1, i2, i3⟩ | rfl)
                · exact ⟨i, i1, by omega, by rw [e22 i i1 i2]; exact i3⟩
                · exact ⟨M 21 s, b.1, by omega, e22n⟩
              · rintro ⟨i, i1, i2, i3⟩
                by_cases ei : i = M 21 s
                · subst ei; rw [e22n] at i3; exact Or.inr i3.symm
                · rw [e22 i i1 (by omega)] at i3; exact Or.inl ⟨i, i1, by omega, i3⟩
          rcases c1 with rfl | rfl
          · exact ⟨mine, other 1 (by decide) (Or.inr rfl) h.2.2.2.1.2⟩
          · exact ⟨other 0 (by decide) (Or.inl rfl) h.2.2.2.1.1, mine⟩
    · have c2 : 4 < siz (lorL (A 1 s) (lshlL 1 z)) := c2
      have q : tb (A 1 s) z = false := by
        cases e : tb (A 1 s) z with
        | false => rfl
        | true => rw [o1 e] at c2; omega
      have sz2 := o2 q
      rintro k' r' N (⟨w, -⟩ | ⟨-, w, -⟩ | ⟨-, -, ⟨t, -⟩ | ⟨t, t4, rfl, rfl⟩ | ⟨t, t4, -⟩⟩)
      · exact absurd c w
      · exact absurd c1 w
      · have := hth.mpr t; rw [q] at this; exact absurd this (by decide)
      · exact ⟨rfl, fun w => absurd w (by decide), h.r20⟩
      · omega
  · rintro k' r' N (⟨w, -⟩ | ⟨-, -, rfl, rfl⟩ | ⟨-, w, -⟩)
    · exact absurd c w
    · exact ⟨rfl, fun w => absurd w (by decide), h.r20⟩
    · exact absurd w c1
  · rintro k' r' N (⟨-, rfl, rfl⟩ | ⟨w, -⟩ | ⟨w, -⟩)
    · exact ⟨rfl, fun w => absurd w (by decide), h.r20⟩
    · exact absurd w c
    · exact absurd w c
/-! the reference's make -/
def MkI (M T : Mem) (k0 k1 : Int) : Prop := (∀ c i, c ≠ 29 → c ≠ 30 → c ≠ 31 → T c i = M c i) ∧ T 29 0 = 0 ∧ Srt T 0 ∧ Srt T 1 ∧ (∀ x, InR T 0 x ↔ thR M 0 x k0) ∧ ∀ x, InR T 1 x ↔ thR M 1 x k1
theorem row_cn {A M T : Mem} {s k : Int} (h : DrfJ A M s) (hn : M 0 0 ≤ 40) (hk : 0 ≤ k ∧ k ≤ M 21 s) (hS : Srt T s) (hi : ∀ x, InR T s x ↔ thR M s x k) : T 30 s = k := by
  classical
  obtain ⟨-, b, c, d, -⟩ := h
  have rng : ∀ i, 0 ≤ i → i < T 30 s → 0 ≤ T 31 (4 * s + i) ∧ T 31 (4 * s + i) < 40 := by
    intro i i1 i2
    obtain ⟨j, j1, j2, j3⟩ := (hi (T 31 (4 * s + i))).mp ⟨i, i1, i2, rfl⟩
    have := d j j1 (by omega)
    omega
  have a1 := dst_cn (f := fun i => T 31 (4 * s + i)) (T 30 s).toNat (fun x => decide (InR T s x)) (fun i j i1 i2 i3 => by have := hS.2 i j i1 i2 (by have := hS.1; omega); exact fun q => by have q' : T 31 (4 * s + i) = T 31 (4 * s + j) := q; omega) (fun i i1 i2 => rng i i1 (by have := hS.1; omega)) (fun x hx => by
    rw [decide_eq_true_iff]
    have := hS.1
    exact ⟨fun ⟨i, i1, i2, i3⟩ => ⟨i, i1, by omega, i3⟩, fun ⟨i, i1, i2, i3⟩ => ⟨i, i1, by omega, i3⟩⟩)
  have a2 := dst_cn (f := fun i => M 22 (4 * s + i)) k.toNat (fun x => decide (InR T s x)) (fun i j i1 i2 i3 => c i j i1 i2 (by omega)) (fun i i1 i2 => by have := d i i1 (by omega); omega) (fun x hx => by
    rw [decide_eq_true_iff, hi]
    exact ⟨fun ⟨i, i1, i2, i3⟩ => ⟨i, i1, by omega, i3⟩, fun ⟨i, i1, i2, i3⟩ => ⟨i, i1, by omega, i3⟩⟩)
  have := hS.1
  omega
