/-! ===== make ===== -/
theorem tk_in {T N : Mem} {s x : Int} (hs : s = 0 ∨ s = 1) (h : TkP T s x N) (h4 : T 30 s < 4) (hb : T 29 0 = 0) (h0 : Srt T 0) (h1 : Srt T 1) : N 29 0 = 0 ∧ Srt N 0 ∧ Srt N 1 ∧ (∀ y, InR N s y ↔ (InR T s y ∨ y = x)) ∧ ∀ y, InR N (1 - s) y ↔ InR T (1 - s) y := by
  obtain ⟨a, b, c, d, e⟩ := h
  have e' : N 29 0 = T 29 0 ∧ ∀ y, InR N s y ↔ (InR T s y ∨ y = x) := by
    rcases e with e | ⟨e, -⟩
    · exact e
    · omega
  have oth : ∀ s', s' = 1 - s → N 30 s' = T 30 s' ∧ ∀ i, 0 ≤ i → i < 4 → N 31 (4 * s' + i) = T 31 (4 * s' + i) := fun s' q => ⟨b s' (by omega), fun i i1 i2 => c _ (by omega)⟩
  have so : ∀ s', s' = 1 - s → Srt T s' → Srt N s' := by
    intro s' q hS
    obtain ⟨o1, o2⟩ := oth s' q
    unfold Srt at hS ⊢
    rw [o1]
    exact ⟨hS.1, fun i j i1 i2 i3 => by rw [o2 i i1 (by omega), o2 j (by omega) (by omega)]; exact hS.2 i j i1 i2 i3⟩
  have s4 : T 30 (1 - s) ≤ 4 := by rcases hs with rfl | rfl; exact h1.1.2; exact h0.1.2
  refine ⟨by rw [e'.1]; exact hb, ?_, ?_, e'.2, fun y => ?_⟩
  · rcases hs with rfl | rfl
    · exact d
    · exact so 0 rfl h0
  · rcases hs with rfl | rfl
    · exact so 1 rfl h1
    · exact d
  · obtain ⟨o1, o2⟩ := oth (1 - s) rfl
    unfold InR
    rw [o1]
    exact ⟨fun ⟨i, i1, i2, i3⟩ => ⟨i, i1, i2, by rw [← o2 i i1 (by omega)]; exact i3⟩, fun ⟨i, i1, i2, i3⟩ => ⟨i, i1, i2, by rw [o2 i i1 (by omega)]; exact i3⟩⟩
theorem thR_s {M : Mem} {s x k : Int} (hk : 0 ≤ k) : thR M s x (k + 1) ↔ (thR M s x k ∨ x = M 22 (4 * s + k)) := by
  constructor
  · rintro ⟨i, i1, i2, i3⟩
    by_cases e : i = k
    · subst e; exact Or.inr i3.symm
    · exact Or.inl ⟨i, i1, by omega, i3⟩
  · rintro (⟨i, i1, i2, i3⟩ | e)
    · exact ⟨i, i1, by omega, i3⟩
    · exact ⟨k, hk, by omega, e.symm⟩
theorem mk_13 {g : Gs} {ad : Nat → Nat} {X : Cx} {PQ : Option Value → Mem → Prop} {PX : String → Mem → Prop} (C : OkB (wM g ad) X cX10_make RX10 3 7 0 0) (Y : OkR (wM g ad) X (some .int) 0 0 PQ PX) {A M : Mem} {s : Int} (h : Jn A M) (hs : s = 0 ∨ s = 1) (kk : ∀ T, MkI M T (M 21 0) (if s = 0 then 0 else M 21 1) → E (wM g ad) X 0 0 (T) 6 [(0, .ref (ad 0)), (1, vI (s + 1))] []) : ∀ (m : Nat) (k : Int), 0 ≤ k → k + m = M 21 s → ∀ T, MkI M T (if s = 0 then k else M 21 0) (if s = 0 then 0 else k) → E (wM g ad) X 0 0 (T) 13 [(0, .ref (ad 0)), (1, vI (s)), (2, vI (k))] [] := by
  have hn := h.n
  have d : DrfJ A M s := by rcases hs with rfl | rfl; exact h.2.2.2.1.1; exact h.2.2.2.1.2
  have hd4 := d.2.1
  intro m
  induction m with
  | zero =>
    intro k k1 k2 T hT
    have e21 : T 21 s = M 21 s := hT.1 21 s (by decide) (by decide) (by decide)
    refine B_X10_make_13 (by omega) (by omega) (Nat.zero_le _) (Nat.zero_le _) C Y ⟨by omega, fun c => ⟨by omega, kk T ?_⟩, fun c => absurd c (by omega)⟩
    rcases hs with rfl | rfl
    · simp only [if_true] at hT ⊢
      rw [show M 21 0 = k by omega]; exact hT
    · simp only [if_false, (show ¬ ((1 : Int) = 0) by decide)] at hT ⊢
      rw [show M 21 1 = k by omega]; exact hT
  | succ m ih =>
    intro k k1 k2 T hT
    obtain ⟨t1, t2, t3, t4, t5, t6⟩ := hT
    have e21 : T 21 s = M 21 s := t1 21 s (by decide) (by decide) (by decide)
    have e22 : T 22 (4 * s + k) = M 22 (4 * s + k) := t1 22 _ (by decide) (by decide) (by decide)
    have rg := d.2.2.2.1 k k1 (by omega)
    have cnt : T 30 s = k := by
      rcases hs with rfl | rfl
      · exact row_cn d hn.2.2.1 ⟨k1, by omega⟩ t3 (by simpa using t5)
      · exact row_cn d hn.2.2.1 ⟨k1, by omega⟩ t4 (by simpa using t6)
    have hsr : Srt T s := by rcases hs with rfl | rfl; exact t3; exact t4
    refine B_X10_make_13 (by omega) (by omega) (Nat.zero_le _) (Nat.zero_le _) C Y ⟨by omega, fun c => absurd c (by omega), fun c => ⟨by omega, ?_⟩⟩
    rw [e22]
    refine ⟨_, g_takes (by omega) (by omega) hsr, fun N hN => ⟨by omega, ih (k + 1) (by omega) (by omega) N ?_⟩⟩
    obtain ⟨q1, q2, q3, q4, q5⟩ := tk_in hs hN (by omega) t2 t3 t4
    refine ⟨fun c i h1 h2 h3 => (hN.1 c i h1 h2 h3).trans (t1 c i h1 h2 h3), q1, q2, q3, fun x => ?_, fun x => ?_⟩
    · rcases hs with rfl | rfl
      · simp only [if_true] at t5 ⊢
        rw [q4, t5, thR_s k1]
      · simp only [if_false, (show ¬ ((1 : Int) = 0) by decide)] at t5 ⊢
        rw [← t5]; exact q5 x
    · rcases hs with rfl | rfl
      · simp only [if_true] at t6 ⊢
        rw [← t6]; exact q5 x
      · simp only [if_false, (show ¬ ((1 : Int) = 0) by decide)] at t6 ⊢
        rw [q4, t6, thR_s k1]
def MkR (M : Mem) : Int → Int → Mem → Prop := fun k r N => ∃ T z S N0, MkI M T (M 21 0) (M 21 1) ∧ MdP T (M 0 0) z S ∧ EndR S (M 0 0) z 1 k r N0 ∧ (k ≠ 0 → N = N0) ∧ (k = 0 → N = up (up N0 21 0 0) 21 1 0)
theorem mkI_ok {A M T : Mem} (h : Jn A M) (hT : MkI M T (M 21 0) (M 21 1)) : NwOk T (M 0 0) := by
  have hn := h.n
  obtain ⟨t1, t2, t3, t4, t5, t6⟩ := hT
  refine ⟨hn.2.2.2.cg (Ag.of _ (fun c i c1 c2 => t1 c i (by omega) (by omega) (by omega))), t1 0 0 (by decide) (by decide) (by decide), t3, t4, fun s s1 s2 i i1 i2 => ?_⟩
  rcases (show s = 0 ∨ s = 1 by omega) with rfl | rfl
  · obtain ⟨j, j1, j2, j3⟩ := (t5 _).mp ⟨i, i1, i2, rfl⟩
    rw [← j3]; exact h.2.2.2.1.1.2.2.2.1 j j1 j2
  · obtain ⟨j, j1, j2, j3⟩ := (t6 _).mp ⟨i, i1, i2, rfl⟩
    rw [← j3]; exact h.2.2.2.1.2.2.2.2.1 j j1 j2
theorem m_make {g : Gs} {ad : Nat → Nat} {A M : Mem} (h : Jn A M) : SpI (wM g ad) yX10_make cX10_make 3 (some .int) 7 [.ref (ad 0)] (M) (fun r N => MkR M (N 20 0) r N) := by
  intro l9 hl9
  refine ct_of hl9 mi_X10_make.2.2.2 (Nat.le_of_ble_eq_true rfl) (fun X _ C Y => ?_)
  show E (wM g ad) X 0 0 (M) 0 [(0, .ref (ad 0))] []
  refine e_wf (fun hw => ?_)
  have hn := h.n
  have d0 := h.2.2.2.1.1.2.1
  have d1 := h.2.2.2.1.2.2.1
  refine B_X10_make_0  (Nat.zero_le _) (Nat.zero_le _) C Y ⟨_, g_begins, fun T hT => ?_⟩
  obtain ⟨b1, b2, b3, b4⟩ := hT
  have srt0 : ∀ s, T 30 s = 0 → Srt T s := fun s q => ⟨by omega, fun i j i1 i2 i3 => by omega⟩
  refine B_X10_make_6 (by omega) (Nat.zero_le _) (Nat.zero_le _) C Y ⟨fun c => absurd c (by decide), fun c => ?_⟩
  refine mk_13 C Y h (s := 0) (Or.inl rfl) (fun T1 h1 => ?_) (M 21 0).toNat 0 (by omega) (by omega) T ⟨fun c i q1 q2 q3 => b1 c i q1 q2, b2, srt0 0 b3, srt0 1 b4, fun x => ⟨fun ⟨i, i1, i2, _⟩ => by omega, fun ⟨i, i1, i2, _⟩ => by simp at i2; omega⟩, fun x => ⟨fun ⟨i, i1, i2, _⟩ => by omega, fun ⟨i, i1, i2, _⟩ => by simp at i2; omega⟩⟩
  refine B_X10_make_6 (by omega) (Nat.zero_le _) (Nat.zero_le _) C Y ⟨fun c => absurd c (by decide), fun c => ?_⟩
  refine mk_13 C Y h (s := 1) (Or.inr rfl) (fun T2 h2 => ?_) (M 21 1).toNat 0 (by omega) (by omega) T1 (by simpa using h1)
  have h2 : MkI M T2 (M 21 0) (M 21 1) := by simpa using h2
  have ok := mkI_ok h h2
  refine B_X10_make_6 (by omega) (Nat.zero_le _) (Nat.zero_le _) C Y ⟨fun c => ⟨_, g_made ok, fun z S hS => ?_⟩, fun c => absurd c (by decide)⟩
  have zr := mdp_r ⟨hn.2.1, hn.2.2.1⟩ hS
  have e18 : S 18 0 = M 18 0 := ((mdp_fr hS) 18 0 (by decide) (by decide)).trans (h2.1 18 0 (by decide) (by decide) (by decide))
  have p18 := h.2.2.1.1
  rw [ok.2.1]
  refine ⟨by omega, _, m_ends (by omega) (by omega) (by decide) (by omega), fun r N hN => ⟨hN.2, fun c1 => ⟨_, rfl, T2, z, S, N, h2, hS, hN.1, fun _ => rfl, fun q => absurd q c1⟩, fun c1 => ⟨_, rfl, T2, z, S, N, h2, hS, ?_, fun q => absurd ?_ q, fun _ => rfl⟩⟩⟩
  · rw [up_c (by decide), up_c (by decide)]; exact hN.1
  · rw [up_c (by decide), up_c (by decide)]; exact c1
theorem x_make {g : Gs} {ad : Nat → Nat} {sk : (Nat → Nat) × (Nat → Nat)} {A M : Mem} (h : Jn A M) : SpT (wC g ad sk) yX9_make cX9_make 3 (some .int) 5 [.ref (ad 0)] (A) (fun r B => Res (MkR M) 0 r B) (fun c B => c = eIS ∧ Res (MkR M) 1 0 B) := by
  intro l9 hl9
  refine ct_of hl9 mi_X9_make.2.2.2 (Nat.le_of_ble_eq_true rfl) (fun X _ C Y => ?_)
  show E (wC g ad sk) X 0 0 (A) 0 [(0, .ref (ad 0))] []
  refine e_wf (fun hw => ?_)
  have hn := h.n
  obtain ⟨d0, d1⟩ := h.2.2.2.1
  refine B_X9_make_0  (Nat.zero_le _) (Nat.zero_le _) C Y ⟨_, x_compose h.1 d0.1 d1.1, fun z A1 hz => ?_⟩
  obtain ⟨G1, hz, hX, hA⟩ := hz
  have le := cmp_le hn.2.1 hz
  have p18 := h.2.2.1
  have h38 : A1 38 0 = M 18 0 := (hA 38 0 (by omega)).trans p18.2.1
  have hzr : -1 ≤ z ∧ z < 40 := by rcases hz with ⟨a, -⟩ | ⟨a, b, -⟩ | ⟨a, b, -⟩ <;> omega
  have key : ∀ {T z' S}, MkI M T (M 21 0) (M 21 1) → MdP T (M 0 0) z' S → z = z' ∧ S 0 0 = G1 0 0 ∧ Ag G1 S (G1 0 0) ∧ FrR M S ∧ Ag M S (M 0 0) := by
    intro T z' S hT hS
    have ok := mkI_ok h hT
    have ag : Ag M T (M 0 0) := Ag.of _ (fun c i c1 c2 => hT.1 c i (by omega) (by omega) (by omega))
    have w1 := mdp_W (l := A 1 0) (r := A 1 1) ok d0.1 d1.1 (fun q => absurd hT.2.1 q) (fun _ => ⟨rwN_of (by omega) ok (fun x x1 x2 => by rw [hT.2.2.2.2.1 x]; exact (d0.2.2.2.2 x x1 x2).symm), rwN_of (by omega) ok (fun x x1 x2 => by rw [hT.2.2.2.2.2 x]; exact (d1.2.2.2.2 x x1 x2).symm)⟩) hS
    have w2 := cmp_cg ag d0.1 d1.1 w1
    obtain ⟨u1, u2, u3⟩ := cmp_uq hn.2.2.2 d0.1 d1.1 hz w2
    have f0 : FrR M T := fun c i h1 h2 => hT.1 c i (by omega) (by omega) (by omega)
    exact ⟨u1, u2.symm, u3, f0.trans (mdp_fr hS), (cmp_le hn.2.1 w2).2.1⟩
  refine ⟨by omega, fun c2 => ⟨_, x_save (by omega) ?_, fun B hB => ⟨_, rfl, ?_⟩⟩, fun c2 => ⟨by omega, rfl, ?_⟩⟩
  · rw [up_c (by decide), up_c (by decide)]; have := p18.1; omega
  · rintro k' r' N ⟨T, z', S, N0, hT, hS, hE, e1, e2⟩
    obtain ⟨rfl, s0, sag, sfr, sag2⟩ := key hT hS
    rcases hE with ⟨w, -⟩ | ⟨-, rfl, rfl, sm⟩
    · exact absurd w c2
    · have hN := e2 rfl
      subst hN
      rw [hn.1] at hB
      refine ⟨rfl, fun _ => rfl, end_ok h hX le.1 hA.j s0 sag sfr (fun c i hc => by rw [up_c hc, up_c hc]) hB ⟨N0, sm, fun c i hc => by rw [up_c hc, up_c hc]⟩ ⟨drf_0 ?_ ?_, drf_0 ?_ ?_⟩⟩
      · rw [hB.1 1 0 (by decide) (by decide), up_i (by decide), up_s]
      · rw [up_i (by decide), up_s]
      · rw [hB.1 1 1 (by decide) (by decide), up_s]
      · rw [up_s]
  · rintro k' r' N ⟨T, z', S, N0, hT, hS, hE, e1, e2⟩
    obtain ⟨rfl, s0, sag, sfr, sag2⟩ := key hT hS
    rcases hE with ⟨-, rfl, rfl⟩ | ⟨w, -⟩
    · have hN := e1 (by decide)
      subst hN
      refine ⟨rfl, fun q => absurd q (by decide), end_no h hX le.1 hA.j sfr sag2 le.2.1 ?_ (fun _ _ _ => rfl) (up_s _ _ _ _) (fun c i h1 h2 => by rw [up_c h1, up_c h2])⟩
      rw [hX.1]; exact le.2.2 c2
    · exact absurd c2 w
