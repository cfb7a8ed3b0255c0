/-! ===== move ===== -/
def MvR (M : Mem) (p s i : Int) : Int → Int → Mem → Prop := fun k r N => (¬ (0 ≤ p ∧ p < M 16 0) ∧ k = 1 ∧ N = up M 20 0 1) ∨ ((0 ≤ p ∧ p < M 16 0) ∧ ¬ ((s = 0 ∨ s = 1) ∧ 0 ≤ i ∧ i < M 3 (2 * M 17 p + s)) ∧ k = 2 ∧ N = up M 20 0 2) ∨ ((0 ≤ p ∧ p < M 16 0) ∧ ((s = 0 ∨ s = 1) ∧ 0 ≤ i ∧ i < M 3 (2 * M 17 p + s)) ∧ ((M 6 (M 17 p) ≠ 0 ∧ k = 3 ∧ N = up M 20 0 3) ∨ (M 6 (M 17 p) = 0 ∧ k = 0 ∧ r = opt M (M 17 p) s i ∧ ∃ S, SvR 18 19 16 17 (up M 20 0 0) (M 0 0) S ∧ N = up S 17 p (opt M (M 17 p) s i))))
theorem m_move {g : Gs} {ad : Nat → Nat} {A M : Mem} {p s i : Int} (h : Jn A M) (hp : R32 p) (hs : R32 s) (hi : R32 i) : SpI (wM g ad) yX10_move cX10_move 6 (some .int) 3 [.ref (ad 0), vI (p), vI (s), vI (i)] (M) (fun r N => MvR M p s i (N 20 0) r N) := by
  intro l9 hl9
  refine ct_of hl9 mi_X10_move.2.2.2 (Nat.le_of_ble_eq_true rfl) (fun X _ C Y => ?_)
  show E (wM g ad) X 0 0 (M) 0 [(0, .ref (ad 0)), (1, vI (p)), (2, vI (s)), (3, vI (i))] []
  refine e_wf (fun hw => ?_)
  have hn := h.n
  have ht := h.2.1
  have ht1 := ht.1
  have p18 := h.2.2.1.1
  have no : ¬ (0 ≤ p ∧ p < M 16 0) → E (wM g ad) X 0 0 (M) 43 [(0, .ref (ad 0)), (1, vI (p)), (2, vI (s)), (3, vI (i))] [vI (0)] := by
    intro c
    refine B_X10_move_43 (by omega) (by omega) (by omega) (by omega) (Nat.zero_le _) (Nat.zero_le _) C Y ⟨by omega, fun c1 => absurd c1 c, fun _ => ?_⟩
    exact B_X10_move_86 (by omega) (by omega) (by omega) (by omega) (Nat.zero_le _) (Nat.zero_le _) C Y ⟨fun q => absurd (by decide) q, fun _ => ⟨_, rfl, Or.inl ⟨c, up_s _ _ _ _, rfl⟩⟩⟩
  have bad : (0 ≤ p ∧ p < M 16 0) → ¬ ((s = 0 ∨ s = 1) ∧ 0 ≤ i ∧ i < M 3 (2 * M 17 p + s)) → E (wM g ad) X 0 0 (M) 43 [(0, .ref (ad 0)), (1, vI (p)), (2, vI (s)), (3, vI (i))] [vI (0)] := by
    intro c q
    refine B_X10_move_43 (by omega) (by omega) (by omega) (by omega) (Nat.zero_le _) (Nat.zero_le _) C Y ⟨by omega, fun _ => ⟨fun w => absurd rfl w, fun _ => ?_⟩, fun w => absurd c w⟩
    exact B_X10_move_86 (by omega) (by omega) (by omega) (by omega) (Nat.zero_le _) (Nat.zero_le _) C Y ⟨fun q => absurd (by decide) q, fun _ => ⟨_, rfl, Or.inr (Or.inl ⟨c, q, up_s _ _ _ _, rfl⟩)⟩⟩
  refine B_X10_move_0 (by omega) (by omega) (by omega) (Nat.zero_le _) (Nat.zero_le _) C Y ⟨by omega, fun c => no c, fun c => ⟨fun c1 => bad c (fun q => c1 (by omega)), fun c1 => ?_⟩⟩
  have rg := ht.2.2.2 p c.1 c.2
  have ct := h.ct (z := M 17 p) (s := s) ⟨rg.1, rg.2⟩ (by omega)
  refine ⟨⟨by omega, by omega, by omega⟩, fun c2 => bad c (fun q => c2 (by omega)), fun c2 => ?_⟩
  have oi := (opS_r (hn.2.2.2.2.2 (M 17 p) rg.1 rg.2).1.1 (s := s) (by omega)).2.2 i c2.1 (by omega)
  have oi' : 0 ≤ M 4 (8 * M 17 p + 4 * s + i) ∧ M 4 (8 * M 17 p + 4 * s + i) < M 17 p := oi
  have h01 := (hn.2.2.2.2.2 (M 17 p) rg.1 rg.2).2.1.2.1.1
  have ok : (s = 0 ∨ s = 1) ∧ 0 ≤ i ∧ i < M 3 (2 * M 17 p + s) := by omega
  refine B_X10_move_43 (by omega) (by omega) (by omega) (by omega) (Nat.zero_le _) (Nat.zero_le _) C Y ⟨by omega, fun _ => ⟨fun _ => ⟨by omega, fun c3 => ?_, fun c3 => ?_⟩, fun q => absurd q (by decide)⟩, fun w => absurd c w⟩
  · refine B_X10_move_86 (by omega) (by omega) (by omega) (by omega) (Nat.zero_le _) (Nat.zero_le _) C Y ⟨fun _ => ⟨⟨by omega, by omega, by omega, by omega⟩, _, m_saves (by omega) (by rw [up_c (by decide)]; exact p18), fun S hS => ⟨_, rfl, Or.inr (Or.inr ⟨c, ok, Or.inr ⟨c3, ?_, rfl, S, hS, rfl⟩⟩)⟩⟩, fun q => absurd q (by decide)⟩
    rw [up_c (by decide), hS.1 20 0 (by decide) (by decide), up_s]
  · exact B_X10_move_86 (by omega) (by omega) (by omega) (by omega) (Nat.zero_le _) (Nat.zero_le _) C Y ⟨fun q => absurd (by decide) q, fun _ => ⟨_, rfl, Or.inr (Or.inr ⟨c, ok, Or.inl ⟨c3, up_s _ _ _ _, rfl⟩⟩)⟩⟩
theorem x_move {g : Gs} {ad : Nat → Nat} {sk : (Nat → Nat) × (Nat → Nat)} {A M : Mem} {p s i : Int} (h : Jn A M) (hp : R32 p) (hs : R32 s) (hi : R32 i) : SpT (wC g ad sk) yX9_move cX9_move 6 (some .int) 2 [.ref (ad 0), vI (p), vI (s), vI (i)] (A) (fun r B => Res (MvR M p s i) 0 r B) (fun e B => (e = eIO ∧ Res (MvR M p s i) 1 0 B) ∨ (e = eIA ∧ Res (MvR M p s i) 2 0 B) ∨ (e = eIS ∧ Res (MvR M p s i) 3 0 B)) := by
  intro l9 hl9
  refine ct_of hl9 mi_X9_move.2.2.2 (Nat.le_of_ble_eq_true rfl) (fun X _ C Y => ?_)
  show E (wC g ad sk) X 0 0 (A) 0 [(0, .ref (ad 0)), (1, vI (p)), (2, vI (s)), (3, vI (i))] []
  refine e_wf (fun hw => ?_)
  have hn := h.n
  have ht := h.2.1
  have ht1 := ht.1
  have p18 := h.2.2.1
  have bad : (0 ≤ p ∧ p < M 16 0) → ¬ ((s = 0 ∨ s = 1) ∧ 0 ≤ i ∧ i < M 3 (2 * M 17 p + s)) → Res (MvR M p s i) 2 0 A := by
    intro c q
    rintro k' r' N (⟨w, -⟩ | ⟨-, -, rfl, rfl⟩ | ⟨-, w, -⟩)
    · exact absurd c w
    · exact ⟨rfl, fun q => absurd q (by decide), h.r20⟩
    · exact absurd w q
  refine B_X9_move_0 (by omega) (by omega) (by omega) (Nat.zero_le _) (Nat.zero_le _) C Y ⟨fun c => ⟨fun c1 => ?_, fun c1 => ⟨by omega, Or.inr (Or.inl ⟨rfl, bad (by rw [← ht.2.1]; exact c) (fun q => c1 q.1)⟩)⟩⟩, fun c => ⟨by omega, Or.inl ⟨rfl, ?_⟩⟩⟩
  · rw [ht.2.1] at c
    have e10 : A 10 p = M 17 p := ht.2.2.1 p c.1 (by omega)
    have rg := ht.2.2.2 p c.1 c.2
    have ct := h.ct (z := M 17 p) (s := s) ⟨rg.1, rg.2⟩ c1
    have eo := h.op (z := M 17 p) (s := s) (i := i) ⟨rg.1, rg.2⟩ c1
    have e49 := (h.g rg.1 rg.2).2.1.2.2.1
    rw [e10]
    refine ⟨⟨by omega, by omega, by omega, by omega⟩, fun c2 => ?_, fun c2 => ⟨by omega, Or.inr (Or.inl ⟨rfl, bad c (fun q => ?_)⟩)⟩⟩
    · rw [eo] at c2 ⊢
      have hi2 : 0 ≤ i ∧ i < M 3 (2 * M 17 p + s) := by
        rcases Classical.em (0 ≤ i ∧ i < M 3 (2 * M 17 p + s)) with q | q
        · exact q
        · rw [optV, if_neg q] at c2; exact absurd rfl c2
      have oi := (opS_r (hn.2.2.2.2.2 (M 17 p) rg.1 rg.2).1.1 (s := s) (by omega)).2.2 i hi2.1 hi2.2
      rw [optV, if_pos hi2]
      refine ⟨fun c3 => ⟨_, x_save (by omega) (by have := p18.1; have := p18.2.1; omega), fun A1 h1 => ⟨_, rfl, ?_⟩⟩, fun c3 => ⟨by omega, Or.inr (Or.inr ⟨rfl, ?_⟩)⟩⟩
      · rw [e49] at c3
        rintro k' r' N (⟨w, -⟩ | ⟨-, w, -⟩ | ⟨-, -, ⟨w, -⟩ | ⟨-, rfl, rfl, S, hS, rfl⟩⟩)
        · exact absurd c w
        · exact absurd ⟨c1, hi2⟩ w
        · exact absurd c3 w
        · obtain ⟨hq, fA, fM⟩ := sav_J h h1 hS
          refine ⟨rfl, fun _ => rfl, h.tab (fun c i q1 q2 q3 q4 => by rw [up_c q1]; exact fA c i q3 q4) (fun c i hc => by rw [up_c (by omega)]; exact fM c i (by omega) (by omega) (by omega)) ⟨?_, ?_, fun j j1 j2 => ?_, fun j j1 j2 => ?_⟩ (hq.cg (up_c (by decide)) (fun i => up_c (by decide)) (up_c (by decide)) (fun i => up_c (by decide)) (by rw [up_c (by decide)]; exact Int.le_refl _))⟩
          · rw [up_c (by decide), fM 16 0 (by decide) (by decide) (by decide)]; exact ht1
          · rw [up_c (by decide), up_c (by decide), fA 11 0 (by decide) (by decide), fM 16 0 (by decide) (by decide) (by decide)]; exact ht.2.1
          · by_cases e : j = p
            · subst e; rw [up_s, up_s]
            · rw [up_i e, up_i e, fA 10 j (by decide) (by decide), fM 17 j (by decide) (by decide) (by decide)]; exact ht.2.2.1 j j1 j2
          · have e0 : up S 17 p (opt M (M 17 p) s i) 0 0 = M 0 0 := (up_c (by decide)).trans (fM 0 0 (by decide) (by decide) (by decide))
            have e16 : up S 17 p (opt M (M 17 p) s i) 16 0 = M 16 0 := (up_c (by decide)).trans (fM 16 0 (by decide) (by decide) (by decide))
            rw [e16] at j2
            rw [e0]
            by_cases e : j = p
            · subst e; rw [up_s]; omega
            · rw [up_i e, fM 17 j (by decide) (by decide) (by decide)]; exact ht.2.2.2 j j1 j2
      · rw [e49] at c3
        rintro k' r' N (⟨w, -⟩ | ⟨-, w, -⟩ | ⟨-, -, ⟨-, rfl, rfl⟩ | ⟨w, -⟩⟩)
        · exact absurd c w
        · exact absurd ⟨c1, hi2⟩ w
        · exact ⟨rfl, fun q => absurd q (by decide), h.r20⟩
        · exact absurd w c3
    · rw [eo, optV, if_pos q.2] at c2
      have := (opS_r (hn.2.2.2.2.2 (M 17 p) rg.1 rg.2).1.1 (s := s) (by omega)).2.2 i q.2.1 q.2.2
      omega
  · rw [ht.2.1] at c
    rintro k' r' N (⟨-, rfl, rfl⟩ | ⟨w, -⟩ | ⟨w, -⟩)
    · exact ⟨rfl, fun q => absurd q (by decide), h.r20⟩
    · exact absurd w c
    · exact absurd w c
/-! ===== undo ===== -/
/-- the draft of a side without the games that are gone -/
def DrU (M N : Mem) (s v : Int) : Prop := (0 ≤ N 21 s ∧ N 21 s ≤ 4) ∧ (∀ i j, 0 ≤ i → i < j → j < N 21 s → N 22 (4 * s + i) ≠ N 22 (4 * s + j)) ∧ ∀ x, thR N s x (N 21 s) ↔ (thR M s x (M 21 s) ∧ x < v)
def UnR (M : Mem) : Int → Int → Mem → Prop := fun k r N => (M 18 0 = 0 ∧ k = 1 ∧ N = up M 20 0 1) ∨ (M 18 0 ≠ 0 ∧ k = 0 ∧ r = M 18 0 - 1 ∧ N 18 0 = M 18 0 - 1 ∧ N 0 0 = M 19 (6 * (M 18 0 - 1)) ∧ N 16 0 = M 19 (6 * (M 18 0 - 1) + 1) ∧ (∀ j, 0 ≤ j → j < 4 → N 17 j = M 19 (6 * (M 18 0 - 1) + 2 + j)) ∧ DrU M N 0 (N 0 0) ∧ DrU M N 1 (N 0 0) ∧ ∀ c i, c ≠ 0 ∨ i ≠ 0 → c ≠ 16 → c ≠ 17 → c ≠ 18 → c ≠ 20 → c ≠ 21 → c ≠ 22 → N c i = M c i)
/-- one side's draft, filtered in place: k are seen, l are kept -/
def FlI (M T N : Mem) (s k l v : Int) : Prop := (∀ c i, ¬ (c = 22 ∧ 4 * s ≤ i ∧ i < 4 * s + 4) → N c i = T c i) ∧ (0 ≤ l ∧ l ≤ k) ∧ (∀ i j, 0 ≤ i → i < j → j < l → N 22 (4 * s + i) ≠ N 22 (4 * s + j)) ∧ (∀ x, thR N s x l ↔ (thR M s x k ∧ x < v)) ∧ ∀ i, k ≤ i → i < 4 → N 22 (4 * s + i) = M 22 (4 * s + i)
theorem mu_111 {g : Gs} {ad : Nat → Nat} {X : Cx} {PQ : Option Value → Mem → Prop} {PX : String → Mem → Prop} (C : OkB (wM g ad) X cX10_undo RX10 4 2 0 0) (Y : OkR (wM g ad) X (some .int) 0 0 PQ PX) {M T : Mem} {s v : Int} (hs : s = 0 ∨ s = 1) (hc : 0 ≤ M 21 s ∧ M 21 s ≤ 4) (hT0 : T 0 0 = v) (hT21 : T 21 s = M 21 s) (hr : ∀ i, 0 ≤ i → i < M 21 s → R32 (M 22 (4 * s + i))) (hdis : ∀ i j, 0 ≤ i → i < j → j < M 21 s → M 22 (4 * s + i) ≠ M 22 (4 * s + j)) (kk : ∀ N l, FlI M T N s (M 21 s) l v → E (wM g ad) X 0 0 ((up N 21 s l)) 102 [(0, .ref (ad 0)), (1, vI (s + 1))] []) : ∀ (m : Nat) (k l : Int), 0 ≤ k → k + m = M 21 s → ∀ N, FlI M T N s k l v → E (wM g ad) X 0 0 (N) 111 [(0, .ref (ad 0)), (1, vI (s)), (2, vI (l)), (3, vI (k))] [] := by
  intro m
  induction m with
  | zero =>
    intro k l k1 k2 N h
    have hk : k = M 21 s := by omega
    have h0 := h.2.1
    have e21 : N 21 s = M 21 s := (h.1 21 s (by omega)).trans hT21
    rw [hk] at h
    exact B_X10_undo_111 (by omega) (by omega) (by omega) (Nat.zero_le _) (Nat.zero_le _) C Y ⟨by omega, fun c => ⟨by omega, kk N l h⟩, fun c => absurd c (by omega)⟩
  | succ m ih =>
    intro k l k1 k2 N h
    obtain ⟨f, hl, hd, hx, hh⟩ := h
    have e21 : N 21 s = M 21 s := (f 21 s (by omega)).trans hT21
    have e0 : N 0 0 = v := (f 0 0 (by omega)).trans hT0
    have ek : N 22 (4 * s + k) = M 22 (4 * s + k) := hh k (Int.le_refl _) (by omega)
    have rk := hr k k1 (by omega)
    refine B_X10_undo_111 (by omega) (by omega) (by omega) (Nat.zero_le _) (Nat.zero_le _) C Y ⟨by omega, fun c => absurd c (by omega), fun c => ⟨by omega, fun c1 => ⟨by omega, ?_⟩, fun c1 => ⟨by omega, ?_⟩⟩⟩
    · refine ih (k + 1) l (by omega) (by omega) N ⟨f, by omega, hd, fun x => ?_, fun i i1 i2 => hh i (by omega) i2⟩
      rw [hx, thR_s k1]
      constructor
      · rintro ⟨q1, q2⟩; exact ⟨Or.inl q1, q2⟩
      · rintro ⟨q1 | q1, q2⟩
        · exact ⟨q1, q2⟩
        · subst q1; omega
    · rw [ek] at c1 ⊢
      have nl : ¬ thR N s (M 22 (4 * s + k)) l := by
        intro q
        obtain ⟨i, i1, i2, i3⟩ := ((hx _).mp q).1
        exact hdis i k i1 i2 (by omega) i3
      have old : ∀ i, 0 ≤ i → i < l → up N 22 (4 * s + l) (M 22 (4 * s + k)) 22 (4 * s + i) = N 22 (4 * s + i) := fun i i1 i2 => up_i (by omega)
      refine ih (k + 1) (l + 1) (by omega) (by omega) _ ⟨fun c i q => ?_, by omega, fun i j i1 i2 i3 => ?_, fun x => ?_, fun i i1 i2 => by rw [up_i (by omega)]; exact hh i (by omega) i2⟩
      · rw [up_n (by omega)]; exact f c i q
      · rw [old i i1 (by omega)]
        by_cases ej : j = l
        · subst ej; rw [up_s]; exact fun q => nl ⟨i, i1, i2, q⟩
        · rw [old j (by omega) (by omega)]; exact hd i j i1 i2 (by omega)
      · rw [thR_s hl.1, up_s, thR_s k1]
        have e : thR (up N 22 (4 * s + l) (M 22 (4 * s + k))) s x l ↔ thR N s x l := ⟨fun ⟨i, i1, i2, i3⟩ => ⟨i, i1, i2, by rw [old i i1 i2] at i3; exact i3⟩, fun ⟨i, i1, i2, i3⟩ => ⟨i, i1, i2, by rw [old i i1 i2]; exact i3⟩⟩
        rw [e, hx]
        constructor
        · rintro (⟨q1, q2⟩ | q)
          · exact ⟨Or.inl q1, q2⟩
          · exact ⟨Or.inr q, by omega⟩
        · rintro ⟨q1 | q1, q2⟩
          · exact Or.inl ⟨q1, q2⟩
          · exact Or.inr q1
