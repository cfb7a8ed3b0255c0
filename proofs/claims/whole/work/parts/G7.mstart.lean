/-! ===== the reference's beginning: pairs, and the last game ===== -/
theorem m_pair1 {g : Gs} {ad : Nat → Nat} {M : Mem} {a b : Int} (hG : Good (M 0 0) M) (ha : 0 ≤ a ∧ a < M 0 0) (hb : 0 ≤ b ∧ b < M 0 0) : SpI (wM g ad) yX10_pair cX10_pair 3 (some .int) 7 [.ref (ad 0), vI (a), vI (b)] (M) (fun r N => CmpR M (M 0 0) (bt a) (bt b) r N ∧ GS M N ∧ (-1 ≤ r ∧ r < 40) ∧ (r ≠ -1 → 0 ≤ r ∧ r < N 0 0)) := by
  have g1 := hG.2.1
  refine (g_pair rfl hG ha hb).mono (fun r N hN => ?_)
  obtain ⟨A, ⟨⟨r1, r2, r3⟩, a29, fr⟩, md⟩ := hN
  exact md_G hG fr r1 (bit_W (by omega) ha.2) (bit_W (by omega) hb.2) a29 (fun x x0 x1 => by rw [r2 x, bt_in (by omega) x x0 x1, List.mem_singleton]) (fun x x0 x1 => by rw [r3 x, bt_in (by omega) x x0 x1, List.mem_singleton]) md
theorem lt_4 {T : Mem} {s v : Int} (hS : Srt T s) (h : ∀ y, InR T s y → y = v ∨ y = 3) : T 30 s < 4 := by
  have h1 := hS.1
  by_cases q : T 30 s < 4
  · exact q
  · exfalso
    have i0 := h _ ⟨0, by omega, by omega, rfl⟩
    have i1 := h _ ⟨1, by omega, by omega, rfl⟩
    have i2 := h _ ⟨2, by omega, by omega, rfl⟩
    have a := hS.2 0 1 (by omega) (by omega) (by omega)
    have b := hS.2 1 2 (by omega) (by omega) (by omega)
    omega
theorem last_rows {M T0 T1 T2 T3 N : Mem} {z : Int} (hG : Good (M 0 0) M) (h4 : 4 ≤ M 0 0) (h0 : Bgn M T0) (h1 : TkP T0 0 0 T1) (h2 : TkP T1 0 3 T2) (h3 : TkP T2 1 0 T3) (hm : NwOk T3 (M 0 0) → MdP T3 (M 0 0) z N) : NwOk T3 (M 0 0) ∧ (CmpR M (M 0 0) (lorL (bt 0) (bt 3)) (bt 0) z N ∧ GS M N ∧ (-1 ≤ z ∧ z < 40) ∧ (z ≠ -1 → 0 ≤ z ∧ z < N 0 0)) := by
  have g1 := hG.2.1
  obtain ⟨a1, a2, a3, a4⟩ := h0
  have srt0 : ∀ s, T0 30 s = 0 → Srt T0 s := fun s q => ⟨by omega, fun i j i1 i2 i3 => by omega⟩
  have e0 : ∀ s, T0 30 s = 0 → ∀ y, ¬ InR T0 s y := fun s q y ⟨i, i1, i2, _⟩ => by omega
  obtain ⟨b1, b2, b3, b4, b5⟩ := tk_in (Or.inl rfl) h1 (by omega) a2 (srt0 0 a3) (srt0 1 a4)
  have i1 : ∀ y, InR T1 0 y ↔ y = 0 := fun y => by rw [b4 y]; exact ⟨fun q => q.resolve_left (e0 0 a3 y), Or.inr⟩
  have j1 : ∀ y, ¬ InR T1 1 y := fun y q => e0 1 a4 y ((b5 y).mp q)
  obtain ⟨c1, c2, c3, c4, c5⟩ := tk_in (Or.inl rfl) h2 (lt_4 (v := 0) b2 (fun y q => Or.inl ((i1 y).mp q))) b1 b2 b3
  have i2 : ∀ y, InR T2 0 y ↔ (y = 0 ∨ y = 3) := fun y => by rw [c4 y, i1 y]
  have j2 : ∀ y, ¬ InR T2 1 y := fun y q => j1 y ((c5 y).mp q)
  obtain ⟨d1, d2, d3, d4, d5⟩ := tk_in (Or.inr rfl) h3 (lt_4 (v := 0) c3 (fun y q => absurd q (j2 y))) c1 c2 c3
  have i3 : ∀ y, InR T3 0 y ↔ (y = 0 ∨ y = 3) := fun y => (d5 y).trans (i2 y)
  have j3 : ∀ y, InR T3 1 y ↔ y = 0 := fun y => by rw [d4 y]; exact ⟨fun q => q.resolve_left (j2 y), Or.inr⟩
  have fr : ∀ c i, c ≠ 29 → c ≠ 30 → c ≠ 31 → T3 c i = M c i := fun c i q1 q2 q3 => by rw [h3.1 c i q1 q2 q3, h2.1 c i q1 q2 q3, h1.1 c i q1 q2 q3, a1 c i q1 q2]
  have ok : NwOk T3 (M 0 0) := by
    refine ⟨hG.cg (Ag.of _ (fun c i c1 c2 => fr c i (by omega) (by omega) (by omega))), fr 0 0 (by decide) (by decide) (by decide), d2, d3, fun s s1 s2 i i1 i2 => ?_⟩
    rcases (show s = 0 ∨ s = 1 by omega) with rfl | rfl
    · have := (i3 _).mp ⟨i, i1, i2, rfl⟩; omega
    · have := (j3 _).mp ⟨i, i1, i2, rfl⟩; omega
  refine ⟨ok, md_G hG fr ok (wd_or (bit_W (by decide) (by omega)) (by omega) g1) (bit_W (by decide) (by omega)) d1 (fun x x0 x1 => ?_) (fun x x0 x1 => by rw [j3 x, bt_in (by decide) x x0 x1, List.mem_singleton]) (hm ok)⟩
  rw [i3 x, tb_or, Bool.or_eq_true, bt_in (by decide) x x0 x1, bt_in (by decide) x x0 x1, List.mem_singleton, List.mem_singleton]
theorem good_0 (M : Mem) : Good 0 M := ⟨by decide, by decide, fun z h0 h1 => by omega⟩
theorem kn_nil {M : Mem} (h : M 0 0 = 0) : Kn M [] := ⟨by rw [h]; exact good_0 M, by rw [h]; rfl, fun i d hd => by simp at hd⟩
