/-! ===== draft, clearDraft ===== -/
theorem dst_cn {f : Int → Int} : ∀ (c : Nat) (p : Nat → Bool), (∀ i j, 0 ≤ i → i < j → j < (c : Int) → f i ≠ f j) → (∀ i, 0 ≤ i → i < (c : Int) → 0 ≤ f i ∧ f i < 40) → (∀ x : Nat, x < 40 → (p x = true ↔ ∃ i, 0 ≤ i ∧ i < (c : Int) ∧ f i = x)) → cnB p 40 = c := by
  intro c
  induction c with
  | zero =>
    intro p _ _ h
    rw [cnB_cg (q := fun _ => false) 40 (fun x hx => ?_), cnB_0]
    cases e : p x with
    | false => rfl
    | true => obtain ⟨i, i1, i2, -⟩ := (h x hx).mp e; omega
  | succ c ih =>
    intro p h1 h2 h3
    have fy := h2 c (by omega) (by omega)
    obtain ⟨y, hy⟩ : ∃ y : Nat, f c = y := ⟨(f c).toNat, by omega⟩
    have py : p y = true := (h3 y (by omega)).mpr ⟨c, by omega, by omega, hy⟩
    have e := cnB_add (p := fun x => p x && decide (x ≠ y)) (q := p) (y := y) (by simp) (fun x => ?_) 40
    · rw [e, ih (fun x => p x && decide (x ≠ y)) (fun i j i1 i2 i3 => h1 i j i1 i2 (by omega)) (fun i i1 i2 => h2 i i1 (by omega)) (fun x hx => ?_), if_pos (by omega)]
      simp only [Bool.and_eq_true, decide_eq_true_eq, h3 x hx]
      constructor
      · rintro ⟨⟨i, i1, i2, i3⟩, q⟩
        refine ⟨i, i1, ?_, i3⟩
        rcases Classical.em (i = c) with w | w
        · subst w; omega
        · omega
      · rintro ⟨i, i1, i2, i3⟩
        refine ⟨⟨i, i1, by omega, i3⟩, fun q => ?_⟩
        subst q
        exact h1 i c i1 i2 (by omega) (i3.trans hy.symm)
    · by_cases q : x = y
      · subst q; simp [py]
      · simp [q]
theorem DrfJ.siz {A M : Mem} {s : Int} (h : DrfJ A M s) (hn : M 0 0 ≤ 40) : siz (A 1 s) = M 21 s := by
  obtain ⟨a, b, c, d, f⟩ := h
  rw [siz_cn a hn, dst_cn (f := fun i => M 22 (4 * s + i)) (M 21 s).toNat (tbN (A 1 s)) (fun i j i1 i2 i3 => c i j i1 i2 (by omega)) (fun i i1 i2 => by have := d i i1 (by omega); omega) (fun x hx => ?_)]
  · omega
  · rw [show (tbN (A 1 s) x = true ↔ tb (A 1 s) (x : Int) = true) from Iff.rfl, f x (by omega) (by omega)]
    exact ⟨fun ⟨i, i1, i2, i3⟩ => ⟨i, i1, by omega, i3⟩, fun ⟨i, i1, i2, i3⟩ => ⟨i, i1, by omega, i3⟩⟩
theorem lor_r (a b : Int) : R64 (lorL a b) := r64_toInt _
theorem wd_or {w n z : Int} (h : Wd40 w n) (hz : 0 ≤ z ∧ z < n) (hn : n ≤ 40) : Wd40 (lorL w (lshlL 1 z)) n := ⟨lor_r _ _, fun x x1 x2 q => by
  rw [tb_or, Bool.or_eq_true, tb_bit (by omega) ⟨x1, x2⟩, decide_eq_true_eq] at q
  rcases q with q | q
  · exact h.2 x x1 x2 q
  · omega⟩
theorem siz_or {w n z : Int} (h : Wd40 w n) (hz : 0 ≤ z ∧ z < n) (hn : n ≤ 40) : (tb w z = true → lorL w (lshlL 1 z) = w) ∧ (tb w z = false → siz (lorL w (lshlL 1 z)) = siz w + 1) := by
  constructor
  · intro q
    refine tb_ext (lor_r _ _) h.1 (fun x x1 x2 => ?_)
    rw [tb_or, tb_bit (by omega) ⟨x1, x2⟩]
    by_cases e : x = z
    · subst e; simp [q]
    · simp [e]
  · intro q
    rw [siz_cn (wd_or h hz hn) hn, siz_cn h hn, cnB_add (p := tbN w) (q := tbN (lorL w (lshlL 1 z))) (y := z.toNat) ?_ ?_ 40, if_pos (by omega)]
    · omega
    · show tb w ((z.toNat : Nat) : Int) = false
      rw [Int.toNat_of_nonneg hz.1]; exact q
    · intro x
      show tb (lorL w (lshlL 1 z)) (x : Int) = (tb w (x : Int) || decide (x = z.toNat))
      rw [tb_or]
      congr 1
      by_cases hx : x < 64
      · rw [tb_bit (by omega) (by omega)]
        by_cases e : (x : Int) = z
        · rw [decide_eq_true e, decide_eq_true (by omega)]
        · rw [decide_eq_false e, decide_eq_false (by omega)]
      · rw [decide_eq_false (by omega)]
        unfold tb
        exact BitVec.getLsbD_of_ge _ _ (by omega)
def thR (M : Mem) (s z k : Int) : Prop := ∃ i, 0 ≤ i ∧ i < k ∧ M 22 (4 * s + i) = z
def DrR (M : Mem) (s z : Int) : Int → Int → Mem → Prop := fun k r N =>
  (¬ (0 ≤ z ∧ z < M 0 0) ∧ k = 1 ∧ N = up M 20 0 1) ∨ ((0 ≤ z ∧ z < M 0 0) ∧ ¬ (s = 0 ∨ s = 1) ∧ k = 2 ∧ N = up M 20 0 2) ∨
  ((0 ≤ z ∧ z < M 0 0) ∧ (s = 0 ∨ s = 1) ∧ ((thR M s z (M 21 s) ∧ k = 0 ∧ r = M 21 s ∧ N = up M 20 0 0) ∨ (¬ thR M s z (M 21 s) ∧ M 21 s = 4 ∧ k = 3 ∧ N = up M 20 0 3) ∨ (¬ thR M s z (M 21 s) ∧ M 21 s ≠ 4 ∧ k = 0 ∧ r = M 21 s + 1 ∧ N = up (up (up M 20 0 0) 22 (4 * s + M 21 s) z) 21 s (M 21 s + 1))))
theorem md_13 {g : Gs} {ad : Nat → Nat} {X : Cx} {PQ : Option Value → Mem → Prop} {PX : String → Mem → Prop} (C : OkB (wM g ad) X cX10_draft RX10 6 3 0 0) (Y : OkR (wM g ad) X (some .int) 0 0 PQ PX) {A M : Mem} {s z : Int} (hs : s = 0 ∨ s = 1) (hz : R32 z) (hc : 0 ≤ M 21 s ∧ M 21 s ≤ 4) (kk : ∀ b, (b = 0 ∨ b = 1) → (b = 1 ↔ thR M s z (M 21 s)) → E (wM g ad) X 0 0 (M) 61 [(0, .ref (ad 0)), (1, vI (s)), (2, vI (z)), (3, vI (1)), (4, vI (b))] []) : ∀ (m : Nat) (j b : Int), 0 ≤ j → j + m = M 21 s → (b = 0 ∨ b = 1) → (b = 1 ↔ thR M s z j) → E (wM g ad) X 0 0 (M) 13 [(0, .ref (ad 0)), (1, vI (s)), (2, vI (z)), (3, vI (1)), (4, vI (b)), (5, vI (j))] [] := by
  intro m
  induction m with
  | zero =>
    intro j b j1 j2 b01 hb
    have : j = M 21 s := by omega
    subst this
    exact B_X10_draft_13 (by omega) (by omega) (by omega) (by omega) (by omega) (Nat.zero_le _) (Nat.zero_le _) C Y ⟨fun q => absurd q (by decide), fun _ => ⟨by omega, fun _ => kk b b01 hb, fun c => absurd c (by omega)⟩⟩
  | succ m ih =>
    intro j b j1 j2 b01 hb
    refine B_X10_draft_13 (by omega) (by omega) (by omega) (by omega) (by omega) (Nat.zero_le _) (Nat.zero_le _) C Y ⟨fun q => absurd q (by decide), fun _ => ⟨by omega, fun c => absurd c (by omega), fun c => ⟨fun c1 => ⟨by omega, ?_⟩, fun c1 => ⟨by omega, fun c2 => ⟨by omega, ?_⟩, fun c2 => ⟨by omega, ?_⟩⟩⟩⟩⟩
    · refine ih (j + 1) 1 (by omega) (by omega) (Or.inr rfl) ⟨fun _ => ?_, fun _ => rfl⟩
      obtain ⟨i, i1, i2, i3⟩ := hb.mp (by omega)
      exact ⟨i, i1, by omega, i3⟩
    · refine ih (j + 1) 0 (by omega) (by omega) (Or.inl rfl) ⟨fun q => absurd q (by decide), fun ⟨i, i1, i2, i3⟩ => ?_⟩
      exfalso
      rcases Classical.em (i = j) with w | w
      · subst w; exact c2 i3
      · have := hb.mpr ⟨i, i1, by omega, i3⟩; omega
    · exact ih (j + 1) 1 (by omega) (by omega) (Or.inr rfl) ⟨fun _ => ⟨j, j1, by omega, c2⟩, fun _ => rfl⟩
theorem m_draft {g : Gs} {ad : Nat → Nat} {A M : Mem} {s z : Int} (h : Jn A M) (hs : R32 s) (hz : R32 z) : SpI (wM g ad) yX10_draft cX10_draft 6 (some .int) 3 [.ref (ad 0), vI (s), vI (z)] (M) (fun r N => DrR M s z (N 20 0) r N) := by
  intro l9 hl9
  refine ct_of hl9 mi_X10_draft.2.2.2 (Nat.le_of_ble_eq_true rfl) (fun X _ C Y => ?_)
  show E (wM g ad) X 0 0 (M) 0 [(0, .ref (ad 0)), (1, vI (s)), (2, vI (z))] []
  refine e_wf (fun hw => ?_)
  have hn := h.n
  refine B_X10_draft_0 (by omega) (by omega) (Nat.zero_le _) (Nat.zero_le _) C Y ?_
  by_cases hS : s = 0 ∨ s = 1
  · have e1 : b2i (0 ≤ s ∧ s ≤ 1) = 1 := b2i_1.mpr (by omega)
    rw [e1]
    have d : DrfJ A M s := by rcases hS with rfl | rfl; exact h.2.2.2.1.1; exact h.2.2.2.1.2
    have hc := d.2.1
    refine md_13 (A := A) C Y hS hz hc (fun b b01 hb => ?_) (M 21 s).toNat 0 0 (by omega) (by omega) (Or.inl rfl) ⟨fun q => absurd q (by decide), fun ⟨i, i1, i2, _⟩ => by omega⟩
    refine B_X10_draft_61 (by omega) (by omega) (by omega) (by omega) (Nat.zero_le _) (Nat.zero_le _) C Y ⟨by omega, fun c => ⟨fun _ => ⟨by omega, fun c1 => ?_, fun c1 => ⟨fun c2 => ?_, fun c2 => ?_⟩⟩, fun q => absurd q (by decide)⟩, fun c => ?_⟩
    · refine B_X10_draft_102 (by omega) (by omega) (by omega) (by omega) (Nat.zero_le _) (Nat.zero_le _) C Y ⟨fun _ => ⟨fun c2 => ⟨by omega, _, rfl, Or.inr (Or.inr ⟨c, hS, Or.inl ⟨hb.mp (by omega), up_s _ _ _ _, rfl, rfl⟩⟩)⟩, fun c2 => ⟨⟨by omega, by omega, by omega, by omega, by omega⟩, _, rfl, Or.inr (Or.inr ⟨c, hS, Or.inr (Or.inr ⟨fun q => ?_, c1, ?_, up_s _ _ _ _, rfl⟩)⟩)⟩⟩, fun q => absurd q (by decide)⟩
      · have := hb.mpr q; omega
      · rw [up_c (by decide), up_c (by decide), up_s]
    · refine B_X10_draft_102 (by omega) (by omega) (by omega) (by omega) (Nat.zero_le _) (Nat.zero_le _) C Y ⟨fun _ => ⟨fun c3 => ⟨by omega, _, rfl, Or.inr (Or.inr ⟨c, hS, Or.inl ⟨hb.mp (by omega), up_s _ _ _ _, rfl, rfl⟩⟩)⟩, fun c3 => absurd c3 c2⟩, fun q => absurd q (by decide)⟩
    · refine B_X10_draft_102 (by omega) (by omega) (by omega) (by omega) (Nat.zero_le _) (Nat.zero_le _) C Y ⟨fun q => absurd (by decide) q, fun _ => ⟨_, rfl, Or.inr (Or.inr ⟨c, hS, Or.inr (Or.inl ⟨fun q => ?_, c1, up_s _ _ _ _, rfl⟩)⟩)⟩⟩
      have := hb.mpr q; omega
    · exact B_X10_draft_102 (by omega) (by omega) (by omega) (by omega) (Nat.zero_le _) (Nat.zero_le _) C Y ⟨fun q => absurd (by decide) q, fun _ => ⟨_, rfl, Or.inl ⟨c, up_s _ _ _ _, rfl⟩⟩⟩
  · have e1 : b2i (0 ≤ s ∧ s ≤ 1) = 0 := b2i_0.mpr (by omega)
    rw [e1]
    refine B_X10_draft_13 (by omega) (by omega) (by omega) (by omega) (by omega) (Nat.zero_le _) (Nat.zero_le _) C Y ⟨fun _ => ?_, fun q => absurd rfl q⟩
    refine B_X10_draft_61 (by omega) (by omega) (by omega) (by omega) (Nat.zero_le _) (Nat.zero_le _) C Y ⟨by omega, fun c => ⟨fun q => absurd rfl q, fun _ => ?_⟩, fun c => ?_⟩
    · exact B_X10_draft_102 (by omega) (by omega) (by omega) (by omega) (Nat.zero_le _) (Nat.zero_le _) C Y ⟨fun q => absurd (by decide) q, fun _ => ⟨_, rfl, Or.inr (Or.inl ⟨c, hS, up_s _ _ _ _, rfl⟩)⟩⟩
    · exact B_X10_draft_102 (by omega) (by omega) (by omega) (by omega) (Nat.zero_le _) (Nat.zero_le _) C Y ⟨fun q => absurd (by decide) q, fun _ => ⟨_, rfl, Or.inl ⟨c, up_s _ _ _ _, rfl⟩⟩⟩
/-- only drafts change -/
theorem Jn.drf {A B M N : Mem} (h : Jn A M) (ea : ∀ c i, c ≠ 1 → B c i = A c i) (em : ∀ c i, c ≠ 20 → c ≠ 21 → c ≠ 22 → N c i = M c i) (hd : DrfJ B N 0 ∧ DrfJ B N 1) : Jn B N := by
  have e0 := em 0 0 (by decide) (by decide) (by decide)
  obtain ⟨a, b, c, -, f, w, l⟩ := h
  refine ⟨?_, b.cg (fun i => ea 10 i (by decide)) (ea 11 0 (by decide)) (em 16 0 (by decide) (by decide) (by decide)) (fun i => em 17 i (by decide) (by decide) (by decide)) (by omega), c.cg (ea 38 0 (by decide)) (fun i => ea 39 i (by decide)) (em 18 0 (by decide) (by decide) (by decide)) (fun i => em 19 i (by decide) (by decide) (by decide)) (by omega), hd, f.cg (ea 23 0 (by decide)) (fun i => ea 24 i (by decide)) (fun i => em 23 i (by decide) (by decide) (by decide)) (em 24 0 (by decide) (by decide) (by decide)), w.cg (ea 37 0 (by decide)) (fun i => ea 36 i (by decide)) (em 26 0 (by decide) (by decide) (by decide)) (fun i => em 62 i (by decide) (by decide) (by decide)), l.cg (ea 0 0 (by decide)) (fun i => ea 3 i (by decide)) (em 28 0 (by decide) (by decide) (by decide)) (fun i => em 27 i (by decide) (by decide) (by decide))⟩
  rw [e0]
  exact (a.cg (Ag.of _ (fun c i c1 c2 => em c i (by omega) (by omega) (by omega))) e0).cx (fun c i hc => ea c i (by omega))
theorem drf_0 {B N : Mem} {s : Int} (h1 : B 1 s = 0) (h21 : N 21 s = 0) : DrfJ B N s := by
  unfold DrfJ
  rw [h1, h21]
  exact ⟨⟨by decide, fun x x1 x2 q => by rw [tb_0 ⟨x1, x2⟩] at q; exact absurd q (by decide)⟩, by omega, fun i j i1 i2 i3 => absurd i3 (by omega), fun i i1 i2 => absurd i2 (by omega), fun x x1 x2 => by rw [tb_0 (by omega)]; exact ⟨fun q => absurd q (by decide), fun ⟨i, i1, i2, _⟩ => by omega⟩⟩
def ClD (M : Mem) : Int → Int → Mem → Prop := fun k r N => k = 0 ∧ r = M 21 0 + M 21 1 ∧ N = up (up (up M 20 0 0) 21 0 0) 21 1 0
theorem m_clearDraft {g : Gs} {ad : Nat → Nat} {A M : Mem} (h : Jn A M) : SpI (wM g ad) yX10_clearDraft cX10_clearDraft 2 (some .int) 1 [.ref (ad 0)] (M) (fun r N => ClD M (N 20 0) r N) := by
  intro l9 hl9
  refine ct_of hl9 mi_X10_clearDraft.2.2.2 (Nat.le_of_ble_eq_true rfl) (fun X _ C Y => ?_)
  show E (wM g ad) X 0 0 (M) 0 [(0, .ref (ad 0))] []
  refine e_wf (fun hw => ?_)
  have d0 := h.2.2.2.1.1.2.1
  have d1 := h.2.2.2.1.2.2.1
  exact B_X10_clearDraft_0  (Nat.zero_le _) (Nat.zero_le _) C Y ⟨by omega, _, rfl, by rw [up_c (by decide), up_c (by decide), up_s], rfl, rfl⟩
theorem x_clearDraft {g : Gs} {ad : Nat → Nat} {sk : (Nat → Nat) × (Nat → Nat)} {A M : Mem} (h : Jn A M) : SpI (wC g ad sk) yX9_clearDraft cX9_clearDraft 2 (some .int) 2 [.ref (ad 0)] (A) (fun r B => Res (ClD M) 0 r B) := by
  intro l9 hl9
  refine ct_of hl9 mi_X9_clearDraft.2.2.2 (Nat.le_of_ble_eq_true rfl) (fun X _ C Y => ?_)
  show E (wC g ad sk) X 0 0 (A) 0 [(0, .ref (ad 0))] []
  refine e_wf (fun hw => ?_)
  have hn := h.n
  have d0 := h.2.2.2.1.1
  have d1 := h.2.2.2.1.2
  have s0 := d0.siz hn.2.2.1
  have s1 := d1.siz hn.2.2.1
  have b0 := d0.2.1
  have b1 := d1.2.1
  refine B_X9_clearDraft_0  (Nat.zero_le _) (Nat.zero_le _) C Y ⟨_, (s_bitCount d0.1.1).toI, fun a A hA => ?_⟩
  obtain ⟨rfl, rfl⟩ := hA
  refine ⟨by show R32 (siz (A 1 0)); omega, _, (s_bitCount d1.1.1).toI, fun a A hA => ?_⟩
  obtain ⟨rfl, rfl⟩ := hA
  refine ⟨by show R32 (siz (A 1 1)); omega, by show R32 (siz (A 1 0) + siz (A 1 1)); omega, _, rfl, ?_⟩
  rintro k' r' N ⟨rfl, rfl, rfl⟩
  refine ⟨rfl, fun _ => ?_, h.drf (fun c i hc => by rw [up_c hc, up_c hc]) (fun c i h1 h2 h3 => by rw [up_c h2, up_c h2, up_c h1]) ⟨drf_0 ?_ ?_, drf_0 ?_ ?_⟩⟩
  · show M 21 0 + M 21 1 = siz (A 1 0) + siz (A 1 1); omega
  · rw [up_i (by decide), up_s]
  · rw [up_i (by decide), up_s]
  · rw [up_s]
  · rw [up_s]
