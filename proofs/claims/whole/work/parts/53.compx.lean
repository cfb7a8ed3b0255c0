/-! ===== composing: existence and uniqueness ===== -/
theorem deepW_uq {G : Mem} {l r d e : Int} (a : DeepW G l r d) (b : DeepW G l r e) : d = e := by
  obtain ⟨a0, a1, a2⟩ := a
  obtain ⟨b0, b1, b2⟩ := b
  have h1 : d ≤ e := by
    rcases a2 with q | ⟨x, x1, x2, hx, q⟩
    · omega
    · have := b1 x x1 x2 hx; omega
  have h2 : e ≤ d := by
    rcases b2 with q | ⟨x, x1, x2, hx, q⟩
    · omega
    · have := a1 x x1 x2 hx; omega
  omega
theorem rowW_in {G : Mem} {z s w x : Int} (h : RowW G z s w) (hx : 0 ≤ x ∧ x < 40) (ht : tb w x = true) : ∃ i, 0 ≤ i ∧ i < G 3 (2 * z + s) ∧ opt G z s i = x := by
  obtain ⟨i, i1, i2, i3⟩ := h.2.2.2 x.toNat (by omega) (by show tb w ((x.toNat : Nat) : Int) = true; rw [Int.toNat_of_nonneg hx.1]; exact ht)
  exact ⟨i, i1, i2, by have i4 : opt G z s i = ((x.toNat : Nat) : Int) := i3; omega⟩
theorem samW_no {G : Mem} {n z l r : Int} (hG : Good n G) (hz : 0 ≤ z ∧ z < n) (hl : Wd40 l n) (hr : Wd40 r n) (h : SamW G z l r) : siz l ≤ 4 ∧ siz r ≤ 4 ∧ ¬ DeepW G l r 6 := by
  have hn := hG.2.1
  obtain ⟨h1, h2, h3⟩ := h
  obtain ⟨hD, -⟩ := hG.2.2 z hz.1 hz.2
  have e0 : siz l = G 3 (2 * z + 0) := pop_enu hl hn h2
  have e1 : siz r = G 3 (2 * z + 1) := pop_enu hr hn h3
  have o0 := opS_r hD.1 (s := 0) (by omega)
  have o1 := opS_r hD.1 (s := 1) (by omega)
  refine ⟨by omega, by omega, fun q => ?_⟩
  obtain ⟨k1, k2, -⟩ := hD.2.2.2.2 h1
  have hd := hD.2.2.1
  rcases q.2.2 with q | ⟨x, x1, x2, hx, q⟩
  · exact absurd q (by decide)
  · rcases hx with hx | hx
    · obtain ⟨i, i1, i2, rfl⟩ := rowW_in h2 ⟨x1, x2⟩ hx
      have := k2 0 (by omega) (by omega) i i1 i2; omega
    · obtain ⟨i, i1, i2, rfl⟩ := rowW_in h3 ⟨x1, x2⟩ hx
      have := k2 1 (by omega) (by omega) i i1 i2; omega
theorem rowW_uq {M N : Mem} {z s w : Int} (a : RowW M z s w) (b : RowW N z s w) : N 3 (2 * z + s) = M 3 (2 * z + s) ∧ ∀ i, 0 ≤ i → i < M 3 (2 * z + s) → opt N z s i = opt M z s i := by
  obtain ⟨h1, h2⟩ := enu_uq a b
  exact ⟨h1.symm, fun i i1 i2 => (h2 i i1 i2).symm⟩
theorem mkW_uq {G N N' : Mem} {n l r d : Int} (hn : 0 ≤ n ∧ n < 40) (a : MkW G N n l r d) (b : MkW G N' n l r d) : Ag N N' (n + 1) := by
  obtain ⟨a0, a1, a2, a3, a4, a5, a6⟩ := a
  obtain ⟨b0, b1, b2, b3, b4, b5, b6⟩ := b
  have u0 := rowW_uq a5 b5
  have u1 := rowW_uq a6 b6
  refine gg_uq hn ((a2.symm).trans (Int.le_refl _) b2) (a1.2.2 n hn.1 (by omega)) (b1.2.2 n hn.1 (by omega)) (fun o o1 o2 => (a1.2.2 o o1 (by omega)).1.1) (by omega) (fun q => absurd a4 q) (by omega) (fun s s1 s2 => ?_) (fun s i s1 s2 i1 i2 => ?_)
  · rcases (show s = 0 ∨ s = 1 by omega) with rfl | rfl
    · exact u0.1
    · exact u1.1
  · rcases (show s = 0 ∨ s = 1 by omega) with rfl | rfl
    · exact u0.2 i i1 i2
    · exact u1.2 i i1 i2
theorem cmp_uq {G N N' : Mem} {n l r z z' : Int} (hG : Good n G) (hl : Wd40 l n) (hr : Wd40 r n) (a : CmpR G n l r z N) (b : CmpR G n l r z' N') : z = z' ∧ N 0 0 = N' 0 0 ∧ Ag N N' (N 0 0) := by
  have hn0 := hG.1
  have no12 : ∀ y, 0 ≤ y → y < n → SamW G y l r → ¬ (4 < siz l ∨ 4 < siz r ∨ DeepW G l r 6 ∨ (n = 40 ∧ ∀ y, 0 ≤ y → y < n → ¬ SamW G y l r)) := by
    intro y y1 y2 hy q
    have := samW_no hG ⟨y1, y2⟩ hl hr hy
    rcases q with q | q | q | q
    · omega
    · omega
    · exact this.2.2 q
    · exact q.2 y y1 y2 hy
  have no13 : n < 40 → siz l ≤ 4 → siz r ≤ 4 → ∀ d, d ≤ 5 → DeepW G l r d → ¬ (4 < siz l ∨ 4 < siz r ∨ DeepW G l r 6 ∨ (n = 40 ∧ ∀ y, 0 ≤ y → y < n → ¬ SamW G y l r)) := by
    intro k1 k2 k3 d d5 hd q
    rcases q with q | q | q | q
    · omega
    · omega
    · have := deepW_uq hd q; omega
    · omega
  rcases a with ⟨a1, a2, a3, a4⟩ | ⟨a1, a2, a3, a4, a5, a6⟩ | ⟨a1, a2, a3, a4, a5, d, a6, a7, a8⟩ <;> rcases b with ⟨b1, b2, b3, b4⟩ | ⟨b1, b2, b3, b4, b5, b6⟩ | ⟨b1, b2, b3, b4, b5, e, b6, b7, b8⟩
  · exact ⟨by omega, by omega, by rw [a2]; exact a3.symm.trans (Int.le_refl _) b3⟩
  · exact absurd a4 (no12 z' b1 b2 b5)
  · exact absurd a4 (no13 b2 b3 b4 e b6 b7)
  · exact absurd b4 (no12 z a1 a2 a5)
  · have : z = z' := by
      rcases Int.lt_trichotomy z z' with q | q | q
      · exact absurd a5 (b6 z a1 q)
      · exact q
      · exact absurd b5 (a6 z' b1 q)
    exact ⟨this, by omega, by rw [a3]; exact a4.symm.trans (Int.le_refl _) b4⟩
  · exact absurd a5 (b5 z a1 a2)
  · exact absurd b4 (no13 a2 a3 a4 d a6 a7)
  · exact absurd b5 (a5 z' b1 b2)
  · have := deepW_uq a7 b7
    subst this
    have h8 := a8.1
    have h9 := b8.1
    exact ⟨by omega, by omega, by rw [h8]; exact mkW_uq ⟨hn0, a2⟩ a8 b8⟩
theorem rowW_cg {G M : Mem} {n y s w : Int} (g : Ag G M n) (hy : 0 ≤ y ∧ y < n) (hs : 0 ≤ s ∧ s ≤ 1) : RowW M y s w ↔ RowW G y s w := by
  unfold RowW
  rw [g.ct hy hs]
  exact ⟨fun q => enu_cg (fun i i1 i2 => (g.op hy hs ⟨i1, i2⟩).symm) q, fun q => enu_cg (fun i i1 i2 => g.op hy hs ⟨i1, i2⟩) q⟩
theorem samW_cg {G M : Mem} {n y l r : Int} (g : Ag G M n) (hy : 0 ≤ y ∧ y < n) : SamW M y l r ↔ SamW G y l r := by
  unfold SamW
  rw [g.1 1 y (by omega) hy.1 hy.2, rowW_cg g hy (by omega), rowW_cg g hy (by omega)]
theorem deepW_cg {G M : Mem} {n l r d : Int} (g : Ag G M n) (hl : Wd40 l n) (hr : Wd40 r n) : DeepW M l r d ↔ DeepW G l r d := by
  have e : ∀ x, 0 ≤ x → x < 40 → InW l r x → M 5 x = G 5 x := fun x x1 x2 hx => g.1 5 x (by omega) x1 (by
    rcases hx with q | q
    · exact hl.2 x x1 (by omega) q
    · exact hr.2 x x1 (by omega) q)
  unfold DeepW
  constructor
  · rintro ⟨a, b, c⟩
    refine ⟨a, fun x x1 x2 hx => by rw [← e x x1 x2 hx]; exact b x x1 x2 hx, ?_⟩
    rcases c with c | ⟨x, x1, x2, hx, c⟩
    · exact Or.inl c
    · exact Or.inr ⟨x, x1, x2, hx, by rw [← e x x1 x2 hx]; exact c⟩
  · rintro ⟨a, b, c⟩
    refine ⟨a, fun x x1 x2 hx => by rw [e x x1 x2 hx]; exact b x x1 x2 hx, ?_⟩
    rcases c with c | ⟨x, x1, x2, hx, c⟩
    · exact Or.inl c
    · exact Or.inr ⟨x, x1, x2, hx, by rw [e x x1 x2 hx]; exact c⟩
theorem cmp_cg {G M N : Mem} {n l r z : Int} (g : Ag G M n) (hl : Wd40 l n) (hr : Wd40 r n) (h : CmpR M n l r z N) : CmpR G n l r z N := by
  rcases h with ⟨a1, a2, a3, a4⟩ | ⟨a1, a2, a3, a4, a5, a6⟩ | ⟨a1, a2, a3, a4, a5, d, a6, a7, a8⟩
  · refine Or.inl ⟨a1, a2, g.trans (Int.le_refl _) a3, ?_⟩
    rw [deepW_cg g hl hr] at a4
    rcases a4 with q | q | q | ⟨q, q2⟩
    · exact Or.inl q
    · exact Or.inr (Or.inl q)
    · exact Or.inr (Or.inr (Or.inl q))
    · exact Or.inr (Or.inr (Or.inr ⟨q, fun y y1 y2 k => q2 y y1 y2 ((samW_cg g ⟨y1, y2⟩).mpr k)⟩))
  · exact Or.inr (Or.inl ⟨a1, a2, a3, g.trans (Int.le_refl _) a4, (samW_cg g ⟨a1, a2⟩).mp a5, fun y y1 y2 k => a6 y y1 y2 ((samW_cg g ⟨y1, by omega⟩).mpr k)⟩)
  · obtain ⟨m1, m2, m3, m4⟩ := a8
    exact Or.inr (Or.inr ⟨a1, a2, a3, a4, fun y y1 y2 k => a5 y y1 y2 ((samW_cg g ⟨y1, y2⟩).mpr k), d, a6, (deepW_cg g hl hr).mp a7, m1, m2, g.trans (Int.le_refl _) m3, m4⟩)
