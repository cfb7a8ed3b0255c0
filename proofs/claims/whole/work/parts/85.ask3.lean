/-! ===== dominated, reversible ===== -/
def AskP (M : Mem) (k : Int) (P : Int → Prop) : Int → Int → Mem → Prop := fun k' r' N => k' = k ∧ (k = 0 → P r') ∧ N = up M 20 0 k
theorem res_askP {B M : Mem} {k a : Int} {P : Int → Prop} (h : Jn B M) (u : ∀ x y, P x → P y → x = y) (e : k = 0 → P a) : Res (AskP M k P) k a B := by
  rintro k' r' N ⟨rfl, q, rfl⟩
  exact ⟨rfl, fun k0 => u _ _ (q k0) (e k0), h.r20⟩
theorem askP_i {M : Mem} {k r : Int} {P : Int → Prop} (e : k = 0 → P r) : AskP M k P (up M 20 0 k 20 0) r (up M 20 0 k) := ⟨up_s _ _ _ _, e, rfl⟩
/-- side s likes x at least as well as y -/
def likes (M : Mem) (s x y : Int) : Prop := if s = 0 then M 12 (40 * x + y) = 1 else M 12 (40 * y + x) = 1
def domP (M : Mem) (z s i k : Int) : Prop := k ≠ i ∧ likes M s (opt M z s k) (opt M z s i) ∧ (¬ likes M s (opt M z s i) (opt M z s k) ∨ k < i)
def DomR (M : Mem) (z s i r : Int) : Prop := (¬ (0 ≤ i ∧ i < M 3 (2 * z + s)) ∧ r = -1) ∨ ((0 ≤ i ∧ i < M 3 (2 * z + s)) ∧ ((r = -1 ∧ ∀ k, 0 ≤ k → k < M 3 (2 * z + s) → ¬ domP M z s i k) ∨ ((0 ≤ r ∧ r < M 3 (2 * z + s)) ∧ domP M z s i r ∧ ∀ k, 0 ≤ k → k < r → ¬ domP M z s i k)))
theorem dom_uq {M : Mem} {z s i : Int} : ∀ x y, DomR M z s i x → DomR M z s i y → x = y := by
  intro x y hx hy
  rcases hx with ⟨a, rfl⟩ | ⟨a, b⟩
  · rcases hy with ⟨c, rfl⟩ | ⟨c, d⟩
    · rfl
    · exact absurd c a
  · rcases hy with ⟨c, rfl⟩ | ⟨c, d⟩
    · exact absurd a c
    · rcases b with ⟨rfl, b⟩ | ⟨b1, b2, b3⟩
      · rcases d with ⟨rfl, d⟩ | ⟨d1, d2, d3⟩
        · rfl
        · exact absurd d2 (b y d1.1 d1.2)
      · rcases d with ⟨rfl, d⟩ | ⟨d1, d2, d3⟩
        · exact absurd b2 (d x b1.1 b1.2)
        · rcases Int.lt_trichotomy x y with q | q | q
          · exact absurd b2 (d3 x b1.1 q)
          · exact q
          · exact absurd d2 (b3 y d1.1 q)
theorem likes_up {M : Mem} {v s x y : Int} : likes (up M 20 0 v) s x y ↔ likes M s x y := by unfold likes; rw [up_c (by decide), up_c (by decide)]
theorem md_45 {g : Gs} {ad : Nat → Nat} {X : Cx} {PQ : Option Value → Mem → Prop} {PX : String → Mem → Prop} (C : OkB (wM g ad) X cX10_dominated RX10 9 4 0 0) (Y : OkR (wM g ad) X (some .int) 0 0 PQ PX) {A M : Mem} {z s i : Int} (h : Jn A M) (hz : 0 ≤ z ∧ z < M 0 0) (hs : s = 0 ∨ s = 1) (hi : 0 ≤ i ∧ i < M 3 (2 * z + s)) (kk : ∀ r, DomR M z s i r → PQ (some (vI r)) M) : ∀ (m : Nat) (k : Int), 0 ≤ k → k + m = M 3 (2 * z + s) → (∀ j, 0 ≤ j → j < k → ¬ domP M z s i j) → E (wM g ad) X 0 0 (M) 45 [(0, .ref (ad 0)), (1, vI (z)), (2, vI (s)), (3, vI (i)), (4, vI (opt M z s i)), (5, vI (k))] [] := by
  have hn := h.n
  have ct := h.ct hz hs
  have oo := (opS_r (hn.2.2.2.2.2 z hz.1 hz.2).1.1 (s := s) (by omega)).2.2
  have oi := oo i hi.1 hi.2
  intro m
  induction m with
  | zero =>
    intro k k1 k2 hk
    refine B_X10_dominated_45 (by omega) (by omega) (by omega) (by omega) (by omega) (Nat.zero_le _) (Nat.zero_le _) C Y ⟨by omega, fun c => kk _ (Or.inr ⟨hi, Or.inl ⟨rfl, fun j j1 j2 => hk j j1 (by omega)⟩⟩), fun c => absurd c (by omega)⟩
  | succ m ih =>
    intro k k1 k2 hk
    have ok := oo k k1 (by omega)
    have ok' : 0 ≤ M 4 (8 * z + 4 * s + k) ∧ M 4 (8 * z + 4 * s + k) < z := ok
    have a1 := (h.al (z := opt M z s k) (y := opt M z s i) ⟨ok.1, by omega⟩ ⟨oi.1, by omega⟩).1
    have a2 := (h.al (z := opt M z s i) (y := opt M z s k) ⟨oi.1, by omega⟩ ⟨ok.1, by omega⟩).1
    have nx : ¬ domP M z s i k → E (wM g ad) X 0 0 (M) 45 [(0, .ref (ad 0)), (1, vI (z)), (2, vI (s)), (3, vI (i)), (4, vI (opt M z s i)), (5, vI (k + 1))] [] := fun q => ih (k + 1) (by omega) (by omega) (fun j j1 j2 => by
      by_cases e : j = k
      · subst e; exact q
      · exact hk j j1 (by omega))
    have fin : domP M z s i k → PQ (some (vI k)) M := fun q => kk k (Or.inr ⟨hi, Or.inr ⟨⟨k1, by omega⟩, q, hk⟩⟩)
    have step : ∀ b w : Int, R32 b → R32 w → (b = 0 ∨ b = 1) → (w = 0 ∨ w = 1) → (b = 1 ↔ likes M s (opt M z s k) (opt M z s i)) → (w = 1 ↔ likes M s (opt M z s i) (opt M z s k)) → E (wM g ad) X 0 0 (M) 114 [(0, .ref (ad 0)), (1, vI (z)), (2, vI (s)), (3, vI (i)), (4, vI (opt M z s i)), (5, vI (k)), (7, vI (b))] [vI (w)] := by
      intro b w rb rw b01 w01 hb hw
      refine B_X10_dominated_114 (by omega) (by omega) (by omega) (by omega) (by omega) (by omega) (by omega) (Nat.zero_le _) (Nat.zero_le _) C Y ⟨fun c => ⟨by omega, nx (fun q => q.1 c)⟩, fun c => ⟨fun c1 => ⟨by omega, nx (fun q => ?_)⟩, fun c1 => ⟨fun c2 => fin ⟨c, hb.mp (by omega), Or.inl (fun q => ?_)⟩, fun c2 => ⟨fun c3 => ⟨by omega, nx (fun q => ?_)⟩, fun c3 => fin ⟨c, hb.mp (by omega), Or.inr c3⟩⟩⟩⟩⟩
      · have := hb.mpr q.2.1; omega
      · have := hw.mpr q; omega
      · rcases q.2.2 with q | q
        · exact q (hw.mp (by omega))
        · omega
    refine B_X10_dominated_45 (by omega) (by omega) (by omega) (by omega) (by omega) (Nat.zero_le _) (Nat.zero_le _) C Y ⟨by omega, fun c => absurd c (by omega), fun c => ⟨by omega, fun c1 => ⟨by omega, ?_⟩, fun c1 => ⟨by omega, ?_⟩⟩⟩
    · have r1 : R32 (M 12 (40 * opt M z s i + opt M z s k)) := by omega
      have r2 : R32 (M 12 (40 * opt M z s k + opt M z s i)) := by omega
      refine B_X10_dominated_89 (by omega) (by omega) (by omega) (by omega) (by omega) (by omega) (by omega) (Nat.zero_le _) (Nat.zero_le _) C Y ⟨fun c2 => ⟨by omega, step _ _ r1 r2 a2 a1 ?_ ?_⟩, fun c2 => absurd c2 c1⟩
      · unfold likes; rw [if_neg c1]
      · unfold likes; rw [if_neg c1]
    · have r1 : R32 (M 12 (40 * opt M z s k + opt M z s i)) := by omega
      have r2 : R32 (M 12 (40 * opt M z s i + opt M z s k)) := by omega
      refine B_X10_dominated_89 (by omega) (by omega) (by omega) (by omega) (by omega) (by omega) (by omega) (Nat.zero_le _) (Nat.zero_le _) C Y ⟨fun c2 => absurd c1 c2, fun c2 => ⟨by omega, step _ _ r1 r2 a1 a2 ?_ ?_⟩⟩
      · unfold likes; rw [if_pos c1]
      · unfold likes; rw [if_pos c1]
theorem domP_up {M : Mem} {v z s i k : Int} : domP (up M 20 0 v) z s i k ↔ domP M z s i k := by
  unfold domP; rw [likes_up, likes_up]; simp only [opt, up_c (show (4 : Nat) ≠ 20 by decide)]
theorem domR_up {M : Mem} {v z s i r : Int} (h : DomR (up M 20 0 v) z s i r) : DomR M z s i r := by
  unfold DomR at h ⊢
  simp only [domP_up, up_c (show (3 : Nat) ≠ 20 by decide)] at h
  exact h
theorem m_dominated {g : Gs} {ad : Nat → Nat} {A M : Mem} {z s i : Int} (h : Jn A M) (hz : R32 z) (hs : R32 s) (hi : R32 i) : SpI (wM g ad) yX10_dominated cX10_dominated 9 (some .int) 4 [.ref (ad 0), vI (z), vI (s), vI (i)] (M) (fun r N => AskP M (kGS M z s) (DomR M z s i) (N 20 0) r N) := by
  intro l9 hl9
  refine ct_of hl9 mi_X10_dominated.2.2.2 (Nat.le_of_ble_eq_true rfl) (fun X _ C Y => ?_)
  show E (wM g ad) X 0 0 (M) 0 [(0, .ref (ad 0)), (1, vI (z)), (2, vI (s)), (3, vI (i))] []
  refine e_wf (fun hw => ?_)
  have hn := h.n
  refine B_X10_dominated_0 (by omega) (by omega) (by omega) (Nat.zero_le _) (Nat.zero_le _) C Y ⟨_, m_needSide (v := 0) h hz hs, fun r N hN => ?_⟩
  obtain ⟨rfl, rfl⟩ := hN
  rcases kGS_c (M := N) (z := z) (s := s) with ⟨e, c, d⟩ | ⟨e, c⟩ | ⟨e, c, d⟩
  · have ct := h.ct c d
    rw [e]
    refine ⟨by omega, fun _ => ⟨⟨by omega, by omega⟩, fun q => ⟨by omega, ?_⟩, fun q => ⟨_, rfl, askP_i (fun _ => Or.inl ⟨by omega, rfl⟩)⟩⟩, fun q => absurd q (by decide)⟩
    have := md_45 C Y (h.r20 (v := 0)) (z := z) (s := s) (i := i) (by rw [up_c (by decide)]; exact c) d (by rw [up_c (by decide)]; omega) (fun r hr => ⟨_, rfl, by rw [e]; exact askP_i (fun _ => domR_up hr)⟩) (N 3 (2 * z + s)).toNat 0 (by omega) (by rw [up_c (by decide)]; omega) (fun j j1 j2 => absurd j2 (by omega))
    exact this
  · rw [e]
    exact ⟨by omega, fun q => absurd (by decide) q, fun _ => ⟨_, rfl, askP_i (fun q => absurd q (by decide))⟩⟩
  · rw [e]
    exact ⟨by omega, fun q => absurd (by decide) q, fun _ => ⟨_, rfl, askP_i (fun q => absurd q (by decide))⟩⟩
theorem Jn.gA {A M : Mem} (h : Jn A M) {s x y : Int} (hx : 0 ≤ x ∧ x < M 0 0) (hy : 0 ≤ y ∧ y < M 0 0) : goodA A s x y ↔ likes M s x y := by
  have a1 := (h.al hx hy).2
  have a2 := (h.al hy hx).2
  unfold goodA likes
  split
  · rename_i q
    exact ⟨fun w => a1.mp (w.elim (fun w => w.2) (fun w => absurd q w.1)), fun w => Or.inl ⟨q, a1.mpr w⟩⟩
  · rename_i q
    exact ⟨fun w => a2.mp (w.elim (fun w => absurd w.1 q) (fun w => w.2)), fun w => Or.inr ⟨q, a2.mpr w⟩⟩
theorem xd_19 {g : Gs} {ad : Nat → Nat} {sk : (Nat → Nat) × (Nat → Nat)} {X : Cx} {PQ : Option Value → Mem → Prop} {PX : String → Mem → Prop} (C : OkB (wC g ad sk) X cX5_dominatorOf RX5 8 3 0 0) (Y : OkR (wC g ad sk) X (some .int) 0 0 PQ PX) {A M : Mem} {z s i : Int} (h : Jn A M) (hz : 0 ≤ z ∧ z < M 0 0) (hs : s = 0 ∨ s = 1) (hi : 0 ≤ i ∧ i < M 3 (2 * z + s)) (kk : ∀ r, DomR M z s i r → PQ (some (vI r)) A) : ∀ (m : Nat) (k : Int), 0 ≤ k → k + m = M 3 (2 * z + s) → (∀ j, 0 ≤ j → j < k → ¬ domP M z s i j) → E (wC g ad sk) X 0 0 (A) 19 [(0, .ref (ad 1)), (1, .ref (ad (44 + 6 * (Int.toNat z)))), (2, vI (s)), (3, vI (i)), (4, vI (opt M z s i)), (5, vI (k))] [] := by
  have hn := h.n
  have ct := h.ct hz hs
  have oo := (opS_r (hn.2.2.2.2.2 z hz.1 hz.2).1.1 (s := s) (by omega)).2.2
  have oi := oo i hi.1 hi.2
  intro m
  induction m with
  | zero =>
    intro k k1 k2 hk
    refine B_X5_dominatorOf_19 (by omega) (by omega) (by omega) (by omega) (by omega) (Nat.zero_le _) (Nat.zero_le _) C Y ⟨by omega, fun c => kk _ (Or.inr ⟨hi, Or.inl ⟨rfl, fun j j1 j2 => hk j j1 (by omega)⟩⟩), fun c => absurd c (by omega)⟩
  | succ m ih =>
    intro k k1 k2 hk
    have ok := oo k k1 (by omega)
    have g1 := h.gA (s := s) (x := opt M z s k) (y := opt M z s i) ⟨ok.1, by omega⟩ ⟨oi.1, by omega⟩
    have g2 := h.gA (s := s) (x := opt M z s i) (y := opt M z s k) ⟨oi.1, by omega⟩ ⟨ok.1, by omega⟩
    have nx : ¬ domP M z s i k → E (wC g ad sk) X 0 0 (A) 19 [(0, .ref (ad 1)), (1, .ref (ad (44 + 6 * (Int.toNat z)))), (2, vI (s)), (3, vI (i)), (4, vI (opt M z s i)), (5, vI (k + 1))] [] := fun q => ih (k + 1) (by omega) (by omega) (fun j j1 j2 => by
      by_cases e : j = k
      · subst e; exact q
      · exact hk j j1 (by omega))
    have fin : domP M z s i k → PQ (some (vI k)) A := fun q => kk k (Or.inr ⟨hi, Or.inr ⟨⟨k1, by omega⟩, q, hk⟩⟩)
    have eo : optAt A z s k = opt M z s k := by rw [h.op hz hs, optV, if_pos (by omega)]
    have step : ∀ t : Int, R32 t → (t = 0 ∨ t = 1) → (t = 0 ↔ k ≤ i) → E (wC g ad sk) X 0 0 (A) 50 [(0, .ref (ad 1)), (1, .ref (ad (44 + 6 * (Int.toNat z)))), (2, vI (s)), (3, vI (i)), (4, vI (opt M z s i)), (5, vI (k)), (6, vI (opt M z s k))] [vI (t)] := by
      intro t rt t01 ht
      refine B_X5_dominatorOf_50 (by omega) (by omega) (by omega) (by omega) (by omega) (by omega) (by omega) (Nat.zero_le _) (Nat.zero_le _) C Y ⟨fun c => ⟨by omega, nx (fun q => q.1 c)⟩, fun c => ⟨by omega, fun c1 => ⟨by omega, nx (fun q => c1 (g1.mpr q.2.1))⟩, fun c1 => ⟨fun c2 => fin ⟨c, g1.mp c1, Or.inr (by omega)⟩, fun c2 => ⟨by omega, fun c3 => ⟨by omega, nx (fun q => ?_)⟩, fun c3 => fin ⟨c, g1.mp c1, Or.inl (fun q => c3 (g2.mpr q))⟩⟩⟩⟩⟩
      rcases q.2.2 with q | q
      · exact q (g2.mp c3)
      · omega
    refine B_X5_dominatorOf_19 (by omega) (by omega) (by omega) (by omega) (by omega) (Nat.zero_le _) (Nat.zero_le _) C Y ⟨by omega, fun c => absurd c (by omega), fun c => ⟨by omega, fun c1 => ?_, fun c1 => ?_⟩⟩
    · rw [eo]; exact step 0 (by decide) (by omega) (by omega)
    · rw [eo]; exact step 1 (by decide) (by omega) (by omega)
theorem x_dominatorOf {g : Gs} {ad : Nat → Nat} {sk : (Nat → Nat) × (Nat → Nat)} {A M : Mem} {z s i : Int} (h : Jn A M) (hz : 0 ≤ z ∧ z < M 0 0) (hs : s = 0 ∨ s = 1) (hi : R32 i) : SpI (wC g ad sk) yX5_dominatorOf cX5_dominatorOf 8 (some .int) 3 [.ref (ad 1), .ref (ad (44 + 6 * (Int.toNat z))), vI (s), vI (i)] (A) (fun r B => DomR M z s i r ∧ B = A) := by
  intro l9 hl9
  refine ct_of hl9 mi_X5_dominatorOf.2.2.2 (Nat.le_of_ble_eq_true rfl) (fun X _ C Y => ?_)
  show E (wC g ad sk) X 0 0 (A) 0 [(0, .ref (ad 1)), (1, .ref (ad (44 + 6 * (Int.toNat z)))), (2, vI (s)), (3, vI (i))] []
  refine e_wf (fun hw => ?_)
  have hn := h.n
  have ct := h.ct hz hs
  have oo := (opS_r (hn.2.2.2.2.2 z hz.1 hz.2).1.1 (s := s) (by omega)).2.2
  have eo := h.op (i := i) hz hs
  refine B_X5_dominatorOf_0 (by omega) (by omega) (by omega) (Nat.zero_le _) (Nat.zero_le _) C Y ⟨by omega, fun c => ?_, fun c => ⟨_, rfl, Or.inl ⟨fun q => ?_, rfl⟩, rfl⟩⟩
  · rw [eo] at c ⊢
    have hi2 : 0 ≤ i ∧ i < M 3 (2 * z + s) := by
      rcases Classical.em (0 ≤ i ∧ i < M 3 (2 * z + s)) with q | q
      · exact q
      · rw [optV, if_neg q] at c; exact absurd rfl c
    rw [optV, if_pos hi2]
    exact xd_19 C Y h hz hs hi2 (fun r hr => ⟨_, rfl, hr, rfl⟩) (M 3 (2 * z + s)).toNat 0 (by omega) (by omega) (fun j j1 j2 => absurd j2 (by omega))
  · rw [eo, optV, if_pos q] at c
    have := oo i q.1 q.2
    omega
theorem domR_r {M : Mem} {z s i r : Int} (h : DomR M z s i r) (hc : M 3 (2 * z + s) ≤ 4) : -1 ≤ r ∧ r < 4 := by
  rcases h with ⟨-, rfl⟩ | ⟨-, ⟨rfl, -⟩ | ⟨a, -⟩⟩ <;> omega
theorem x_dominated {g : Gs} {ad : Nat → Nat} {sk : (Nat → Nat) × (Nat → Nat)} {A M : Mem} {z s i : Int} (h : Jn A M) (hz : R32 z) (hs : R32 s) (hi : R32 i) : SpT (wC g ad sk) yX9_dominated cX9_dominated 4 (some .int) 4 [.ref (ad 0), vI (z), vI (s), vI (i)] (A) (fun r B => Res (AskP M (kGS M z s) (DomR M z s i)) 0 r B) (fun e B => (e = eIO ∧ Res (AskP M (kGS M z s) (DomR M z s i)) 1 0 B) ∨ (e = eIA ∧ Res (AskP M (kGS M z s) (DomR M z s i)) 2 0 B)) := by
  intro l9 hl9
  refine ct_of hl9 mi_X9_dominated.2.2.2 (Nat.le_of_ble_eq_true rfl) (fun X _ C Y => ?_)
  show E (wC g ad sk) X 0 0 (A) 0 [(0, .ref (ad 0)), (1, vI (z)), (2, vI (s)), (3, vI (i))] []
  refine e_wf (fun hw => ?_)
  have hn := h.n
  refine B_X9_dominated_0 (by omega) (by omega) (by omega) (Nat.zero_le _) (Nat.zero_le _) C Y ⟨fun c => ⟨fun c1 => ⟨by omega, _, x_dominatorOf h (by rw [← hn.1]; exact c) c1 hi, fun r B hB => ⟨?_, _, rfl, ?_⟩⟩, fun c1 => ⟨by omega, Or.inr ⟨rfl, ?_⟩⟩⟩, fun c => ⟨by omega, Or.inl ⟨rfl, ?_⟩⟩⟩
  all_goals rw [hn.1] at c
  · have := domR_r hB.1 (h.ct c c1).2.2; omega
  · obtain ⟨hd, rfl⟩ := hB
    rw [kGS, if_pos c, if_pos c1]; exact res_askP h dom_uq (fun _ => hd)
  · rw [kGS, if_pos c, if_neg c1]; exact res_askP h dom_uq (fun q => absurd q (by decide))
  · rw [kGS, if_neg c]; exact res_askP h dom_uq (fun q => absurd q (by decide))
