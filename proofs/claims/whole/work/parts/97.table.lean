/-! ===== add, remove, move ===== -/
/-- only table and past change -/
theorem Jn.tab {A B M N : Mem} (h : Jn A M) (ea : ∀ c i, c ≠ 10 → c ≠ 11 → c ≠ 38 → c ≠ 39 → B c i = A c i) (em : ∀ c i, (c < 16 ∨ 20 < c) → N c i = M c i) (ht : TabJ B N) (hp : PstJ B N) : Jn B N := by
  have e0 := em 0 0 (by decide)
  obtain ⟨a, -, -, ⟨d0, d1⟩, f, w, l⟩ := h
  refine ⟨?_, ht, hp, ⟨d0.cg (ea 1 0 (by decide) (by decide) (by decide) (by decide)) (em 21 0 (by decide)) (fun i => em 22 i (by decide)) (by omega), d1.cg (ea 1 1 (by decide) (by decide) (by decide) (by decide)) (em 21 1 (by decide)) (fun i => em 22 i (by decide)) (by omega)⟩, f.cg (ea 23 0 (by decide) (by decide) (by decide) (by decide)) (fun i => ea 24 i (by decide) (by decide) (by decide) (by decide)) (fun i => em 23 i (by decide)) (em 24 0 (by decide)), w.cg (ea 37 0 (by decide) (by decide) (by decide) (by decide)) (fun i => ea 36 i (by decide) (by decide) (by decide) (by decide)) (em 26 0 (by decide)) (fun i => em 62 i (by decide)), l.cg (ea 0 0 (by decide) (by decide) (by decide) (by decide)) (fun i => ea 3 i (by decide) (by decide) (by decide) (by decide)) (em 28 0 (by decide)) (fun i => em 27 i (by decide))⟩
  rw [e0]
  exact (a.cg (Ag.of _ (fun c i c1 c2 => em c i (by omega))) e0).cx (fun c i hc => ea c i (by omega) (by omega) (by omega) (by omega))
/-- a saved state with the table as it was -/
theorem sav_J {A M A1 S : Mem} (h : Jn A M) (sx : SvR 38 39 11 10 A (A 4 0) A1) (sm : SvR 18 19 16 17 (up M 20 0 0) (M 0 0) S) : PstJ A1 S ∧ (∀ c i, c ≠ 38 → c ≠ 39 → A1 c i = A c i) ∧ ∀ c i, c ≠ 18 → c ≠ 19 → c ≠ 20 → S c i = M c i := by
  have hn := h.n
  rw [hn.1] at sx
  refine ⟨pst_sv h.2.2.1 h.2.1 (fun i => ⟨rfl, rfl, rfl, rfl⟩) (fun i => ⟨up_c (by decide), up_c (by decide), up_c (by decide), up_c (by decide)⟩) sx sm ?_ hn.2.1, sx.1, fun c i h1 h2 h3 => by rw [sm.1 c i h1 h2, up_c h3]⟩
  rw [sm.1 0 0 (by decide) (by decide), up_c (by decide)]
  exact Int.le_refl _
def AdR (M : Mem) (z : Int) : Int → Int → Mem → Prop := fun k r N => (¬ (0 ≤ z ∧ z < M 0 0) ∧ k = 1 ∧ N = up M 20 0 1) ∨ ((0 ≤ z ∧ z < M 0 0) ∧ M 16 0 = 4 ∧ k = 2 ∧ N = up M 20 0 2) ∨ ((0 ≤ z ∧ z < M 0 0) ∧ M 16 0 ≠ 4 ∧ k = 0 ∧ r = M 16 0 + 1 ∧ ∃ S, SvR 18 19 16 17 (up M 20 0 0) (M 0 0) S ∧ N = up (up S 17 (M 16 0) z) 16 0 (M 16 0 + 1))
theorem m_add {g : Gs} {ad : Nat → Nat} {A M : Mem} {z : Int} (h : Jn A M) (hz : R32 z) : SpI (wM g ad) yX10_add cX10_add 2 (some .int) 3 [.ref (ad 0), vI (z)] (M) (fun r N => AdR M z (N 20 0) r N) := by
  intro l9 hl9
  refine ct_of hl9 mi_X10_add.2.2.2 (Nat.le_of_ble_eq_true rfl) (fun X _ C Y => ?_)
  show E (wM g ad) X 0 0 (M) 0 [(0, .ref (ad 0)), (1, vI (z))] []
  refine e_wf (fun hw => ?_)
  have hn := h.n
  have ht := h.2.1.1
  have p18 := h.2.2.1.1
  refine B_X10_add_0 (by omega) (Nat.zero_le _) (Nat.zero_le _) C Y ⟨by omega, fun c => ⟨fun c1 => ?_, fun c1 => ?_⟩, fun c => ?_⟩
  · refine B_X10_add_26 (by omega) (by omega) (Nat.zero_le _) (Nat.zero_le _) C Y ⟨fun _ => ⟨_, m_saves (by omega) (by rw [up_c (by decide)]; exact p18), fun S hS => ?_⟩, fun q => absurd q (by decide)⟩
    have e16 : S 16 0 = M 16 0 := (hS.1 16 0 (by decide) (by decide)).trans (up_c (by decide))
    rw [e16]
    refine ⟨⟨by omega, by omega⟩, _, rfl, Or.inr (Or.inr ⟨c, c1, ?_, rfl, S, hS, rfl⟩)⟩
    rw [up_c (by decide), up_c (by decide), hS.1 20 0 (by decide) (by decide), up_s]
  · exact B_X10_add_26 (by omega) (by omega) (Nat.zero_le _) (Nat.zero_le _) C Y ⟨fun q => absurd (by decide) q, fun _ => ⟨_, rfl, Or.inr (Or.inl ⟨c, c1, up_s _ _ _ _, rfl⟩)⟩⟩
  · exact B_X10_add_26 (by omega) (by omega) (Nat.zero_le _) (Nat.zero_le _) C Y ⟨fun q => absurd (by decide) q, fun _ => ⟨_, rfl, Or.inl ⟨c, up_s _ _ _ _, rfl⟩⟩⟩
theorem x_append7 {g : Gs} {ad : Nat → Nat} {sk : (Nat → Nat) × (Nat → Nat)} {A : Mem} {z : Int} (hz : R32 z) (h : 0 ≤ A 11 0 ∧ A 11 0 < 4) : SpV (wC g ad sk) yX7_append cX7_append 2 none 1 [.ref (ad 2), vI (z)] (A) (fun B => B = up (up A 10 (A 11 0) z) 11 0 (A 11 0 + 1)) := by
  intro l9 hl9
  refine ct_of hl9 mi_X7_append.2.2.2 (Nat.le_of_ble_eq_true rfl) (fun X _ C Y => ?_)
  show E (wC g ad sk) X 0 0 (A) 0 [(0, .ref (ad 2)), (1, vI (z))] []
  refine e_wf (fun hw => ?_)
  exact B_X7_append_0 (by omega) (Nat.zero_le _) (Nat.zero_le _) C Y ⟨fun c => absurd c (by omega), fun c => ⟨⟨h, by omega⟩, rfl, rfl⟩⟩
theorem x_add {g : Gs} {ad : Nat → Nat} {sk : (Nat → Nat) × (Nat → Nat)} {A M : Mem} {z : Int} (h : Jn A M) (hz : R32 z) : SpT (wC g ad sk) yX9_add cX9_add 2 (some .int) 2 [.ref (ad 0), vI (z)] (A) (fun r B => Res (AdR M z) 0 r B) (fun e B => (e = eIO ∧ Res (AdR M z) 1 0 B) ∨ (e = eIS ∧ Res (AdR M z) 2 0 B)) := by
  intro l9 hl9
  refine ct_of hl9 mi_X9_add.2.2.2 (Nat.le_of_ble_eq_true rfl) (fun X _ C Y => ?_)
  show E (wC g ad sk) X 0 0 (A) 0 [(0, .ref (ad 0)), (1, vI (z))] []
  refine e_wf (fun hw => ?_)
  have hn := h.n
  have ht := h.2.1
  have ht1 := ht.1
  have p18 := h.2.2.1
  refine B_X9_add_0 (by omega) (Nat.zero_le _) (Nat.zero_le _) C Y ⟨fun c => ⟨fun c1 => ⟨_, x_save (by omega) (by have := p18.1; have := p18.2.1; omega), fun A1 h1 => ?_⟩, fun c1 => ⟨by omega, Or.inr ⟨rfl, ?_⟩⟩⟩, fun c => ⟨by omega, Or.inl ⟨rfl, ?_⟩⟩⟩
  all_goals rw [hn.1] at c
  · have e11 : A1 11 0 = M 16 0 := (h1.1 11 0 (by decide) (by decide)).trans ht.2.1
    rw [ht.2.1] at c1
    refine ⟨_, x_append7 hz (by omega), fun B hB => ⟨_, rfl, ?_⟩⟩
    subst hB
    rw [e11]
    rintro k' r' N (⟨w, -⟩ | ⟨-, w, -⟩ | ⟨-, w, rfl, rfl, S, hS, rfl⟩)
    · exact absurd c w
    · omega
    · obtain ⟨hp, fA, fM⟩ := sav_J h h1 hS
      refine ⟨rfl, fun _ => (up_s _ _ _ _).symm, h.tab (fun c i q1 q2 q3 q4 => by rw [up_c q2, up_c q1]; exact fA c i q3 q4) (fun c i hc => by rw [up_c (by omega), up_c (by omega)]; exact fM c i (by omega) (by omega) (by omega)) ⟨?_, ?_, fun i i1 i2 => ?_, fun i i1 i2 => ?_⟩ (hp.cg (by rw [up_c (by decide), up_c (by decide)]) (fun i => by rw [up_c (by decide), up_c (by decide)]) (by rw [up_c (by decide), up_c (by decide)]) (fun i => by rw [up_c (by decide), up_c (by decide)]) (by rw [up_c (by decide), up_c (by decide)]; exact Int.le_refl _))⟩
      · rw [up_s]; omega
      · rw [up_s, up_s]
      · have ea : up (up A1 10 (M 16 0) z) 11 0 (M 16 0 + 1) 10 i = up A1 10 (M 16 0) z 10 i := up_c (by decide)
        have em : up (up S 17 (M 16 0) z) 16 0 (M 16 0 + 1) 17 i = up S 17 (M 16 0) z 17 i := up_c (by decide)
        rw [ea, em]
        by_cases e : i = M 16 0
        · subst e; rw [up_s, up_s]
        · rw [up_i e, up_i e, fA 10 i (by decide) (by decide), fM 17 i (by decide) (by decide) (by decide)]; exact ht.2.2.1 i i1 i2
      · rw [up_s] at i2
        have e0 : up (up S 17 (M 16 0) z) 16 0 (M 16 0 + 1) 0 0 = M 0 0 := by rw [up_c (by decide), up_c (by decide)]; exact fM 0 0 (by decide) (by decide) (by decide)
        have e17 : up (up S 17 (M 16 0) z) 16 0 (M 16 0 + 1) 17 i = up S 17 (M 16 0) z 17 i := up_c (by decide)
        rw [e0, e17]
        by_cases e : i = M 16 0
        · subst e; rw [up_s]; exact c
        · rw [up_i e, fM 17 i (by decide) (by decide) (by decide)]; exact ht.2.2.2 i i1 (by omega)
  · rw [ht.2.1] at c1
    rintro k' r' N (⟨w, -⟩ | ⟨-, -, rfl, rfl⟩ | ⟨-, w, -⟩)
    · exact absurd c w
    · exact ⟨rfl, fun q => absurd q (by decide), h.r20⟩
    · omega
  · rintro k' r' N (⟨-, rfl, rfl⟩ | ⟨w, -⟩ | ⟨w, -⟩)
    · exact ⟨rfl, fun q => absurd q (by decide), h.r20⟩
    · exact absurd w c
    · exact absurd w c
/-- entries behind p move down -/
def ShR (ct cg : Nat) (S : Mem) (p : Int) (N : Mem) : Prop := (∀ c i, c ≠ ct → c ≠ cg → N c i = S c i) ∧ N ct 0 = S ct 0 - 1 ∧ ∀ i, 0 ≤ i → i < 4 → N cg i = if p ≤ i ∧ i < S ct 0 - 1 then S cg (i + 1) else S cg i
def RmR (M : Mem) (p : Int) : Int → Int → Mem → Prop := fun k r N => (¬ (0 ≤ p ∧ p < M 16 0) ∧ k = 1 ∧ N = up M 20 0 1) ∨ ((0 ≤ p ∧ p < M 16 0) ∧ k = 0 ∧ r = M 17 p ∧ ∃ S, SvR 18 19 16 17 (up M 20 0 0) (M 0 0) S ∧ ShR 16 17 S p N)
theorem mr_39 {g : Gs} {ad : Nat → Nat} {X : Cx} {PQ : Option Value → Mem → Prop} {PX : String → Mem → Prop} (C : OkB (wM g ad) X cX10_remove RX10 4 3 0 0) (Y : OkR (wM g ad) X (some .int) 0 0 PQ PX) {S : Mem} {p v : Int} (hv : R32 v) (hc : 0 ≤ p ∧ p < S 16 0 ∧ S 16 0 ≤ 4) (kk : ∀ N, ShR 16 17 S p N → PQ (some (vI v)) N) : ∀ (m : Nat) (j : Int), p ≤ j → j + m = S 16 0 - 1 → ∀ N, (∀ c i, c ≠ 17 → N c i = S c i) → (∀ i, 0 ≤ i → i < 4 → N 17 i = if p ≤ i ∧ i < j then S 17 (i + 1) else S 17 i) → E (wM g ad) X 0 0 (N) 39 [(0, .ref (ad 0)), (2, vI (v)), (3, vI (j))] [] := by
  intro m
  induction m with
  | zero =>
    intro j j1 j2 N f h1
    have e := f 16 0 (by decide)
    refine B_X10_remove_39 (by omega) (by omega) (Nat.zero_le _) (Nat.zero_le _) C Y ⟨by omega, fun c => kk _ ⟨fun c i q1 q2 => by rw [up_c q1]; exact f c i q2, by rw [up_s, e], fun i i1 i2 => ?_⟩, fun c => absurd c (by omega)⟩
    rw [up_c (by decide), h1 i i1 i2, show j = S 16 0 - 1 by omega]
  | succ m ih =>
    intro j j1 j2 N f h1
    have e := f 16 0 (by decide)
    refine B_X10_remove_39 (by omega) (by omega) (Nat.zero_le _) (Nat.zero_le _) C Y ⟨by omega, fun c => absurd c (by omega), fun c => ⟨by omega, ih (j + 1) (by omega) (by omega) _ (fun c i q => by rw [up_c q]; exact f c i q) (fun i i1 i2 => ?_)⟩⟩
    by_cases ei : i = j
    · subst ei; rw [up_s, h1 (i + 1) (by omega) (by omega), if_neg (by omega), if_pos (by omega)]
    · rw [up_i ei, h1 i i1 i2]
      by_cases q : p ≤ i ∧ i < j
      · rw [if_pos q, if_pos (by omega)]
      · rw [if_neg q, if_neg (by omega)]
theorem m_remove {g : Gs} {ad : Nat → Nat} {A M : Mem} {p : Int} (h : Jn A M) (hp : R32 p) : SpI (wM g ad) yX10_remove cX10_remove 4 (some .int) 3 [.ref (ad 0), vI (p)] (M) (fun r N => RmR M p (N 20 0) r N) := by
  intro l9 hl9
  refine ct_of hl9 mi_X10_remove.2.2.2 (Nat.le_of_ble_eq_true rfl) (fun X _ C Y => ?_)
  show E (wM g ad) X 0 0 (M) 0 [(0, .ref (ad 0)), (1, vI (p))] []
  refine e_wf (fun hw => ?_)
  have hn := h.n
  have ht := h.2.1
  have ht1 := ht.1
  have p18 := h.2.2.1.1
  refine B_X10_remove_0 (by omega) (Nat.zero_le _) (Nat.zero_le _) C Y ⟨by omega, fun c => ?_, fun c => ?_⟩
  · exact B_X10_remove_14 (by omega) (by omega) (Nat.zero_le _) (Nat.zero_le _) C Y ⟨fun q => absurd (by decide) q, fun _ => ⟨_, rfl, Or.inl ⟨c, up_s _ _ _ _, rfl⟩⟩⟩
  · have rg := ht.2.2.2 p c.1 c.2
    refine B_X10_remove_14 (by omega) (by omega) (Nat.zero_le _) (Nat.zero_le _) C Y ⟨fun _ => ⟨by omega, _, m_saves (by omega) (by rw [up_c (by decide)]; exact p18), fun S hS => ?_⟩, fun q => absurd q (by decide)⟩
    have e16 : S 16 0 = M 16 0 := (hS.1 16 0 (by decide) (by decide)).trans (up_c (by decide))
    refine mr_39 C Y (by omega) ⟨c.1, by omega, by omega⟩ (fun N hN => ⟨_, rfl, Or.inr ⟨c, ?_, rfl, S, hS, hN⟩⟩) (S 16 0 - 1 - p).toNat p (by omega) (by omega) S (fun _ _ _ => rfl) (fun i i1 i2 => by rw [if_neg (by omega)])
    rw [hN.1 20 0 (by decide) (by decide), hS.1 20 0 (by decide) (by decide), up_s]
theorem xt_11 {g : Gs} {ad : Nat → Nat} {sk : (Nat → Nat) × (Nat → Nat)} {X : Cx} {PQ : Option Value → Mem → Prop} {PX : String → Mem → Prop} (C : OkB (wC g ad sk) X cX7_takeOut RX7 4 1 0 0) (Y : OkR (wC g ad sk) X (some .int) 0 0 PQ PX) {S : Mem} {p v : Int} (hv : R32 v) (hc : 0 ≤ p ∧ p < S 11 0 ∧ S 11 0 ≤ 4) (kk : ∀ N, ShR 11 10 S p N → PQ (some (vI v)) N) : ∀ (m : Nat) (j : Int), p ≤ j → j + m = S 11 0 - 1 → ∀ N, (∀ c i, c ≠ 10 → N c i = S c i) → (∀ i, 0 ≤ i → i < 4 → N 10 i = if p ≤ i ∧ i < j then S 10 (i + 1) else S 10 i) → E (wC g ad sk) X 0 0 (N) 11 [(0, .ref (ad 2)), (2, vI (v)), (3, vI (j + 1))] [] := by
  intro m
  induction m with
  | zero =>
    intro j j1 j2 N f h1
    have e := f 11 0 (by decide)
    refine B_X7_takeOut_11 (by omega) (by omega) (Nat.zero_le _) (Nat.zero_le _) C Y ⟨fun c => ⟨by omega, kk _ ⟨fun c i q1 q2 => by rw [up_c q1]; exact f c i q2, by rw [up_s, e], fun i i1 i2 => ?_⟩⟩, fun c => absurd c (by omega)⟩
    rw [up_c (by decide), h1 i i1 i2, show j = S 11 0 - 1 by omega]
  | succ m ih =>
    intro j j1 j2 N f h1
    have e := f 11 0 (by decide)
    refine B_X7_takeOut_11 (by omega) (by omega) (Nat.zero_le _) (Nat.zero_le _) C Y ⟨fun c => absurd c (by omega), fun c => ⟨by omega, ?_⟩⟩
    rw [show j + 1 - 1 = j by omega]
    refine ih (j + 1) (by omega) (by omega) _ (fun c i q => by rw [up_c q]; exact f c i q) (fun i i1 i2 => ?_)
    by_cases ei : i = j
    · subst ei; rw [up_s, h1 (i + 1) (by omega) (by omega), if_neg (by omega), if_pos (by omega)]
    · rw [up_i ei, h1 i i1 i2]
      by_cases q : p ≤ i ∧ i < j
      · rw [if_pos q, if_pos (by omega)]
      · rw [if_neg q, if_neg (by omega)]
theorem x_takeOut {g : Gs} {ad : Nat → Nat} {sk : (Nat → Nat) × (Nat → Nat)} {S : Mem} {p : Int} (hc : 0 ≤ p ∧ p < S 11 0 ∧ S 11 0 ≤ 4) (hv : R32 (S 10 p)) : SpI (wC g ad sk) yX7_takeOut cX7_takeOut 4 (some .int) 1 [.ref (ad 2), vI (p)] (S) (fun r N => r = S 10 p ∧ ShR 11 10 S p N) := by
  intro l9 hl9
  refine ct_of hl9 mi_X7_takeOut.2.2.2 (Nat.le_of_ble_eq_true rfl) (fun X _ C Y => ?_)
  show E (wC g ad sk) X 0 0 (S) 0 [(0, .ref (ad 2)), (1, vI (p))] []
  refine e_wf (fun hw => ?_)
  refine B_X7_takeOut_0 (by omega) (Nat.zero_le _) (Nat.zero_le _) C Y ⟨by omega, ?_⟩
  exact xt_11 C Y hv hc (fun N hN => ⟨_, rfl, rfl, hN⟩) (S 11 0 - 1 - p).toNat p (by omega) (by omega) S (fun _ _ _ => rfl) (fun i i1 i2 => by rw [if_neg (by omega)])
theorem x_remove {g : Gs} {ad : Nat → Nat} {sk : (Nat → Nat) × (Nat → Nat)} {A M : Mem} {p : Int} (h : Jn A M) (hp : R32 p) : SpT (wC g ad sk) yX9_remove cX9_remove 2 (some .int) 2 [.ref (ad 0), vI (p)] (A) (fun r B => Res (RmR M p) 0 r B) (fun e B => e = eIO ∧ Res (RmR M p) 1 0 B) := by
  intro l9 hl9
  refine ct_of hl9 mi_X9_remove.2.2.2 (Nat.le_of_ble_eq_true rfl) (fun X _ C Y => ?_)
  show E (wC g ad sk) X 0 0 (A) 0 [(0, .ref (ad 0)), (1, vI (p))] []
  refine e_wf (fun hw => ?_)
  have hn := h.n
  have ht := h.2.1
  have ht1 := ht.1
  have p18 := h.2.2.1
  refine B_X9_remove_0 (by omega) (Nat.zero_le _) (Nat.zero_le _) C Y ⟨fun c => ⟨_, x_save (by omega) (by have := p18.1; have := p18.2.1; omega), fun A1 h1 => ?_⟩, fun c => ⟨by omega, rfl, ?_⟩⟩
  all_goals rw [ht.2.1] at c
  · have e11 : A1 11 0 = M 16 0 := (h1.1 11 0 (by decide) (by decide)).trans ht.2.1
    have e10 : ∀ i, 0 ≤ i → i < 4 → A1 10 i = M 17 i := fun i i1 i2 => (h1.1 10 i (by decide) (by decide)).trans (ht.2.2.1 i i1 i2)
    have rg := ht.2.2.2 p c.1 c.2
    have e10p := e10 p c.1 (by omega)
    refine ⟨_, x_takeOut (by omega) (by omega), fun r B hB => ⟨by omega, _, rfl, ?_⟩⟩
    obtain ⟨rfl, hB⟩ := hB
    rintro k' r' N (⟨w, -⟩ | ⟨-, rfl, rfl, S, hS, hN⟩)
    · exact absurd c w
    · obtain ⟨hq, fA, fM⟩ := sav_J h h1 hS
      have s16 : S 16 0 = M 16 0 := fM 16 0 (by decide) (by decide) (by decide)
      refine ⟨rfl, fun _ => e10p.symm, h.tab (fun c i q1 q2 q3 q4 => by rw [hB.1 c i q2 q1]; exact fA c i q3 q4) (fun c i hc => by rw [hN.1 c i (by omega) (by omega)]; exact fM c i (by omega) (by omega) (by omega)) ⟨?_, ?_, fun i i1 i2 => ?_, fun i i1 i2 => ?_⟩ (hq.cg (hB.1 38 0 (by decide) (by decide)) (fun i => hB.1 39 i (by decide) (by decide)) (hN.1 18 0 (by decide) (by decide)) (fun i => hN.1 19 i (by decide) (by decide)) (by rw [hN.1 0 0 (by decide) (by decide)]; exact Int.le_refl _))⟩
      · rw [hN.2.1]; omega
      · rw [hN.2.1, hB.2.1]; omega
      · rw [hN.2.2 i i1 i2, hB.2.2 i i1 i2, e11, s16]
        split
        · rw [e10 (i + 1) (by omega) (by omega), fM 17 _ (by decide) (by decide) (by decide)]
        · rw [e10 i i1 i2, fM 17 _ (by decide) (by decide) (by decide)]
      · rw [hN.2.1, s16] at i2
        rw [hN.2.2 i i1 (by omega), hN.1 0 0 (by decide) (by decide), fM 0 0 (by decide) (by decide) (by decide)]
        split
        · rw [fM 17 _ (by decide) (by decide) (by decide)]; exact ht.2.2.2 (i + 1) (by omega) (by omega)
        · rw [fM 17 _ (by decide) (by decide) (by decide)]; exact ht.2.2.2 i i1 (by omega)
  · rintro k' r' N (⟨-, rfl, rfl⟩ | ⟨w, -⟩)
    · exact ⟨rfl, fun q => absurd q (by decide), h.r20⟩
    · exact absurd w c
