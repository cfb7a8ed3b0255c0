/-! ===== the class: compose ===== -/
theorem xcm_3 {g : Gs} {ad : Nat → Nat} {sk : (Nat → Nat) × (Nat → Nat)} {X : Cx} {PQ : Option Value → Mem → Prop} {PX : String → Mem → Prop} (C : OkB (wC g ad sk) X cX5_compose RX5 7 4 0 0) (Y : OkR (wC g ad sk) X (some .int) 0 0 PQ PX) {G M : Mem} {n l r : Int} (hX : RepX G M n) (hl : Wd40 l n) (hr : Wd40 r n) (k1 : ∀ z, 0 ≤ z → z < n → SamW G z l r → (∀ y, 0 ≤ y → y < z → ¬ SamW G y l r) → PQ (some (vI z)) M) (k0 : (∀ y, 0 ≤ y → y < n → ¬ SamW G y l r) → E (wC g ad sk) X 0 0 (M) 3 [(0, .ref (ad 1)), (1, vL (l)), (3, vL (r)), (5, vI (n))] []) : ∀ (m : Nat) (x : Int), 0 ≤ x → x + m = n → (∀ y, 0 ≤ y → y < x → ¬ SamW G y l r) → E (wC g ad sk) X 0 0 (M) 3 [(0, .ref (ad 1)), (1, vL (l)), (3, vL (r)), (5, vI (x))] [] := by
  obtain ⟨x4, g0, hG, hrp, hb⟩ := hX
  have h40 := hG.2.1
  have rl := hl.1
  have rr := hr.1
  intro m
  induction m with
  | zero => intro x x1 x2 h; have : x = n := by omega
            subst this; exact k0 h
  | succ m ih =>
    intro x x1 x2 h
    have sx := samW_X h40 ⟨x1, by omega⟩ hl hr (hrp x x1 (by omega))
    have nx : ¬ SamW G x l r → E (wC g ad sk) X 0 0 (M) 3 [(0, .ref (ad 1)), (1, vL (l)), (3, vL (r)), (5, vI (x + 1))] [] := fun q => ih (x + 1) (by omega) (by omega) (fun y y1 y2 => by
      by_cases ey : y = x
      · subst ey; exact q
      · exact h y y1 (by omega))
    refine B_X5_compose_3 (by omega) (by omega) (by omega) (Nat.le_refl _) (Nat.le_refl _) C Y ⟨fun c => absurd c (by omega), fun c => ⟨by omega, fun c1 => ⟨by omega, nx (fun q => (sx.mp q).1 c1)⟩, fun c1 => ⟨fun c2 => ⟨by omega, nx (fun q => ?_)⟩, fun c2 => ⟨fun c3 => ⟨by omega, nx (fun q => ?_)⟩, fun c3 => ?_⟩⟩⟩⟩
    · exact c2 (cmpL_0.mpr (sx.mp q).2.1)
    · exact c3 (cmpL_0.mpr (sx.mp q).2.2)
    · exact k1 x x1 (by omega) (sx.mpr ⟨c1, cmpL_0.mp c2, cmpL_0.mp c3⟩) h
/-- what is written of a new game before its edges are known -/
def NgX (N P : Mem) (n : Int) : Prop := P 45 n = 1 ∧ P 47 n = N 5 n ∧ ∀ s, 0 ≤ s → s ≤ 1 → P 41 (40 * s + n) = N 3 (2 * n + s) ∧ (∀ i, 0 ≤ i → i < N 3 (2 * n + s) → P 42 (40 * (4 * s + i) + n) = opt N n s i) ∧ Wd40 (P 40 (40 * s + n)) n ∧ RowW N n s (P 40 (40 * s + n))
theorem NgX.cg {N P Q : Mem} {n : Int} (h : NgX N P n) (e : ∀ c i, (c = 40 ∨ c = 41 ∨ c = 42 ∨ c = 45 ∨ c = 47) → Q c i = P c i) : NgX N Q n := by
  obtain ⟨a, b, c⟩ := h
  refine ⟨(e 45 _ (by omega)).trans a, (e 47 _ (by omega)).trans b, fun s s1 s2 => ?_⟩
  rw [e 41 _ (by omega), e 40 _ (by omega)]
  obtain ⟨c1, c2, c3⟩ := c s s1 s2
  exact ⟨c1, fun i i1 i2 => (e 42 _ (by omega)).trans (c2 i i1 i2), c3⟩
theorem NgX.rw {N P : Mem} {n : Int} (h : NgX N P n) (ho : OpS N n) : RwX N P n := ⟨ho, fun s s1 s2 => ⟨(h.2.2 s s1 s2).1, (h.2.2 s s1 s2).2.1⟩⟩
/-- nothing of older games is touched -/
def KpX (M P : Mem) (n : Int) : Prop := ∀ c i, ¬ OwnX n c i → c ≠ 6 → c ≠ 8 → c ≠ 9 → P c i = M c i
theorem KpX.trans {M P Q : Mem} {n : Int} (a : KpX M P n) (b : KpX P Q n) : KpX M Q n := fun c i h1 h2 h3 h4 => (b c i h1 h2 h3 h4).trans (a c i h1 h2 h3 h4)
theorem KpX.rep {N M P : Mem} {n : Int} (k : KpX M P n) (hN : Good (n + 1) N) (hn : 0 ≤ n ∧ n < 40) (hr : ∀ z, 0 ≤ z → z < n → RepG N M z) : ∀ z, 0 ≤ z → z < n → RepG N P z :=
  rep_kp hN hn hr (fun c i hc q => k c i q (by omega) (by omega) (by omega))
theorem tk_row {N M P : Mem} {n s w : Int} (h : TkO M P n s w) (hr : RowW N n s w) : P 41 (40 * s + n) = N 3 (2 * n + s) ∧ ∀ i, 0 ≤ i → i < N 3 (2 * n + s) → P 42 (40 * (4 * s + i) + n) = opt N n s i := by
  obtain ⟨e1, e2⟩ := enu_uq h.2.2 hr
  refine ⟨e1, fun i i1 i2 => ?_⟩
  have := e2 i i1 (by omega)
  rw [show 4 * s + i = s * 4 + i by omega]
  exact this
theorem tk_kp {M P : Mem} {n s w : Int} (hs : 0 ≤ s ∧ s ≤ 1) (h : TkF M P n s) : KpX M P n := fun c i q _ _ _ => by
  refine h c i (fun k => q (Or.inr (Or.inl ⟨by omega, by omega⟩))) (fun k => q (Or.inr (Or.inl ⟨by omega, by omega⟩))) (fun k => ?_)
  obtain ⟨k1, j, j1, j2, j3⟩ := k
  exact q (Or.inr (Or.inr ⟨k1, s * 4 + j, by omega, by omega, j3⟩))
/-- all of the new game -/
theorem repG_new {N P : Mem} {n : Int} (hN : Good (n + 1) N) (hn : 0 ≤ n ∧ n < 40) (h1 : N 1 n = 0) (hg : NgX N P n) (h48 : P 48 n = Ln N n) (h49 : P 49 n = N 6 n) (h50 : P 50 n = N 13 n) (h51 : P 51 n = N 14 n) (hst : P 43 (40 * 0 + n) = N 10 n ∧ P 43 (40 * 1 + n) = N 8 n ∧ P 44 (40 * 0 + n) = N 11 n ∧ P 44 (40 * 1 + n) = N 9 n) (hp : Wd40 (P 52 n) (n + 1) ∧ ∀ x, 0 ≤ x → x < 40 → (tb (P 52 n) x = true ↔ Pt N AllG n x)) (hq : Wd40 (P 53 n) (n + 1) ∧ ∀ x, 0 ≤ x → x < 40 → (tb (P 53 n) x = true ↔ Pt N (HotG N) n x)) : RepG N P n :=
  ⟨⟨Or.inr hg.1, ⟨fun _ => h1, fun _ => hg.1⟩, fun q => absurd h1 q⟩, ⟨hg.2.1, h48, h49, h50, h51⟩, fun s s1 s2 => ⟨(hg.2.2 s s1 s2).1, (hg.2.2 s s1 s2).2.1, fun _ => (hg.2.2 s s1 s2).2.2⟩, hst, hp, hq⟩
theorem gd_bd {N : Mem} {n z : Int} (hN : Good n N) (hz : 0 ≤ z ∧ z < n) : (-14336 ≤ N 8 z ∧ N 8 z ≤ 14336) ∧ (-14336 ≤ N 10 z ∧ N 10 z ≤ 14336) := by
  obtain ⟨hD, hO, hc, hh, hI⟩ := hN.2.2 z hz.1 hz.2
  have := hI.2.2.2.1
  have hd := hD.2.2.1
  unfold Bd at this
  omega
theorem ng_ed {N P : Mem} {n : Int} (hN : Good (n + 1) N) (hn : 0 ≤ n ∧ n < 40) (hg : NgX N P n) (hr : ∀ z, 0 ≤ z → z < n → RepG N P z) : EdP N P n := by
  have ho := (hN.2.2 n hn.1 (by omega)).1.1
  refine ⟨ho, fun s s1 s2 => ⟨(hg.2.2 s s1 s2).1, (hg.2.2 s s1 s2).2.1⟩, fun s s1 s2 i i1 i2 => ?_⟩
  have o := (opS_r ho ⟨s1, s2⟩).2.2 i i1 i2
  have rg := (hr _ o.1 o.2).2.2.2.1
  have b := gd_bd hN (z := opt N n s i) ⟨o.1, by omega⟩
  exact ⟨rg, by omega, by omega⟩
/-- the edges are no farther than a wall -/
theorem ed_rg {N P : Mem} {n : Int} (hN : Good (n + 1) N) (hn : 0 ≤ n ∧ n < 40) (h1 : N 1 n = 0) (h0 : EdX N P n 0) (h2 : EdX N P n 1) : (-16777216 ≤ P 8 0 ∧ P 8 0 ≤ 16384) ∧ (-16384 ≤ P 8 1 ∧ P 8 1 ≤ 16777216) := by
  obtain ⟨hD, hO, -⟩ := hN.2.2 n hn.1 (by omega)
  have hd := hD.2.2.1
  have d1 := (hD.2.2.2.2 h1).1
  have oi := opI_of hD h1 (fun o o1 o2 => ⟨((hN.2.2 o o1 (by omega)).1.2.2.1).1, (hN.2.2 o o1 (by omega)).2.2.2.2⟩)
  have c0 := opS_r hD.1 (s := 0) (by omega)
  have c1 := opS_r hD.1 (s := 1) (by omega)
  have lo := lo_E ⟨d1, hd.2⟩ oi c0.1
  have up := up_E ⟨d1, hd.2⟩ oi c1.1
  have e0 := h0.2.1 rfl
  have e1 := h2.2.2 rfl
  constructor
  · rcases e0 with ⟨a, b, -⟩ | ⟨a, b, -, c⟩
    · omega
    · rcases lo with ⟨l, -⟩ | ⟨-, l, -⟩
      · omega
      · unfold Bd at l; omega
  · rcases e1 with ⟨a, b, -⟩ | ⟨a, b, -, c⟩
    · omega
    · rcases up with ⟨l, -⟩ | ⟨-, l, -⟩
      · omega
      · unfold Bd at l; omega
