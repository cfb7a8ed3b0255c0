/-! ===== the class: ranks, and the best of one state ===== -/
noncomputable abbrev wdM (M : Mem) (z : Int → Int) : Int → Int := fun c => posN M (z c)
theorem prN_wt {M : Mem} {z : Int → Int} : ∀ k : Nat, prN M z k = wtR (wdM M z) k := by
  intro k
  induction k with
  | zero => rfl
  | succ k ih => rw [prN, wtR, ih]
/-- component c of B ranks the positions of its game -/
def RnkC (M B : Mem) (z : Int → Int) (c : Int) : Prop := Enu (fun j => B 13 (4 * j + c)) (B 14 c) (posB M (z c)) 40 ∧ (∀ j, 0 ≤ j → j < B 14 c → B 12 (4 * B 13 (4 * j + c) + c) = j) ∧ B 15 c = wtR (wdM M z) c.toNat
def RnkA (M B : Mem) (z : Int → Int) (p : Nat) : Prop := ∀ c, 0 ≤ c → c < (p : Int) → RnkC M B z c
def InP (M : Mem) (z : Int → Int) (p : Nat) (l : Int → Int) : Prop := ∀ c, 0 ≤ c → c < (p : Int) → Pt M (HotG M) (z c) (l c)
abbrev rkL (B : Mem) (l : Int → Int) : Int → Int := fun c => B 12 (4 * l c + c)
noncomputable def stL (M B : Mem) (z : Int → Int) (p : Nat) (l : Int → Int) : Int := stV (wdM M z) (rkL B l) p
theorem rnk_n {M B : Mem} {z : Int → Int} {c : Int} (h : RnkC M B z c) : B 14 c = posN M (z c) := (enu_cn 40 _ h.1).symm
/-- the rank of a position -/
theorem rnk_of {M B : Mem} {n : Int} {z : Int → Int} {c x : Int} (hG : Good n M) (hz : 0 ≤ z c ∧ z c < n) (h : RnkC M B z c) (hx : Pt M (HotG M) (z c) x) : 0 ≤ B 12 (4 * x + c) ∧ B 12 (4 * x + c) < posN M (z c) ∧ B 13 (4 * B 12 (4 * x + c) + c) = x := by
  have xr := pt_le hG 6 _ x hz.1 hz.2 hx
  have h40 := hG.2.1
  obtain ⟨j, j1, j2, j3⟩ := h.1.2.2.2 x.toNat (by omega) (posB_i.mpr (by rw [Int.toNat_of_nonneg xr.1]; exact hx))
  rw [Int.toNat_of_nonneg xr.1] at j3
  have j3' : B 13 (4 * j + c) = x := j3
  have e := h.2.1 j j1 j2
  rw [j3'] at e
  rw [e, ← rnk_n h]
  exact ⟨j1, j2, j3'⟩
theorem rnk_lt {M B : Mem} {n : Int} {z : Int → Int} {c x y : Int} (hG : Good n M) (hz : 0 ≤ z c ∧ z c < n) (h : RnkC M B z c) (hx : Pt M (HotG M) (z c) x) (hy : Pt M (HotG M) (z c) y) (lt : x < y) : B 12 (4 * x + c) < B 12 (4 * y + c) := by
  have a := rnk_of hG hz h hx
  have b := rnk_of hG hz h hy
  rcases Int.lt_trichotomy (B 12 (4 * x + c)) (B 12 (4 * y + c)) with q | q | q
  · exact q
  · rw [q, b.2.2] at a; omega
  · have := h.1.2.1 _ _ b.1 q (by rw [rnk_n h]; exact a.2.1)
    have this : B 13 (4 * B 12 (4 * y + c) + c) < B 13 (4 * B 12 (4 * x + c) + c) := this
    rw [b.2.2, a.2.2] at this; omega
theorem rnk_dg {M B : Mem} {n : Int} {z : Int → Int} {p : Nat} {l : Int → Int} (hG : Good n M) (hz : LnO n p z) (h : RnkA M B z p) (hl : InP M z p l) : DgO (wdM M z) (rkL B l) p := fun c c1 c2 => by
  have := rnk_of hG (hz c c1 c2) (h c c1 c2) (hl c c1 c2)
  exact ⟨this.1, this.2.1⟩
theorem inP_ln {M : Mem} {n : Int} {z : Int → Int} {p : Nat} {l : Int → Int} (hG : Good n M) (hz : LnO n p z) (hl : InP M z p l) : LnO n p l := fun c c1 c2 => by
  have zr := hz c c1 c2
  have := pt_le hG 6 _ _ zr.1 zr.2 (hl c c1 c2)
  omega
theorem inP_mv {M : Mem} {n : Int} {z : Int → Int} {p : Nat} {l : Int → Int} {s c i : Int} (hG : Good n M) (hz : LnO n p z) (hl : InP M z p l) (hs : s = 0 ∨ s = 1) (h : Mv M p l s c i) : InP M z p (updL l c (opt M (l c) s i)) := by
  intro x x1 x2
  unfold updL
  split
  · rename_i e
    subst e
    exact pt_tr hG (hz x x1 x2) (hl x x1 x2) h.2.1 (by omega) ⟨h.2.2.1, h.2.2.2⟩
  · exact hl x x1 x2
/-- a move lowers the place -/
theorem stL_mv {M B : Mem} {n : Int} {z : Int → Int} {p : Nat} {l : Int → Int} {s c i : Int} (hG : Good n M) (hz : LnO n p z) (hR : RnkA M B z p) (hl : InP M z p l) (hs : s = 0 ∨ s = 1) (h : Mv M p l s c i) : stL M B z p (updL l c (opt M (l c) s i)) = stL M B z p l - (B 12 (4 * l c + c) - B 12 (4 * opt M (l c) s i + c)) * B 15 c ∧ 0 ≤ stL M B z p (updL l c (opt M (l c) s i)) ∧ stL M B z p (updL l c (opt M (l c) s i)) < stL M B z p l ∧ 1 ≤ B 12 (4 * l c + c) - B 12 (4 * opt M (l c) s i + c) := by
  have hl' := inP_mv hG hz hl hs h
  have mv := mv_ok hG (inP_ln hG hz hl) hs h
  have hc := h.1
  have rc := hR c hc.1 hc.2
  have lt := rnk_lt hG (hz c hc.1 hc.2) rc (show Pt M (HotG M) (z c) (opt M (l c) s i) by have := hl' c hc.1 hc.2; unfold updL at this; rwa [if_pos rfl] at this) (hl c hc.1 hc.2) mv.2.2.2
  have wp : 1 ≤ wtR (wdM M z) c.toNat := wtR_p _ (fun x x1 x2 => (posN_r hG (hz x x1 (by omega))).1)
  have e : stL M B z p (updL l c (opt M (l c) s i)) = stV (wdM M z) (updL (rkL B l) c (B 12 (4 * opt M (l c) s i + c))) p := by
    unfold stL
    refine stV_cg p (fun x x1 x2 => ?_)
    unfold updL
    by_cases q : x = c
    · rw [if_pos q]; subst q; simp [rkL]
    · rw [if_neg q]; simp [rkL, q]
  have e2 : stL M B z p (updL l c (opt M (l c) s i)) = stL M B z p l - (B 12 (4 * l c + c) - B 12 (4 * opt M (l c) s i + c)) * B 15 c := by
    rw [e, (stV_up p hc.1).1 hc.2, rc.2.2]
    show stL M B z p l + (B 12 (4 * opt M (l c) s i + c) - B 12 (4 * l c + c)) * _ = _
    rw [Int.sub_mul, Int.sub_mul]; omega
  have pos : 1 ≤ (B 12 (4 * l c + c) - B 12 (4 * opt M (l c) s i + c)) * B 15 c := by
    have := Int.mul_le_mul (a := 1) (b := 1) (c := B 12 (4 * l c + c) - B 12 (4 * opt M (l c) s i + c)) (d := B 15 c) (by omega) (by rw [rc.2.2]; exact wp) (by omega) (by omega)
    omega
  have r := (stV_r p (rnk_dg hG hz hR hl')).1
  exact ⟨e2, r, by omega, by omega⟩
/-- all scores below place K stand -/
def ScT (M B : Mem) (z : Int → Int) (p : Nat) (K : Int) : Prop := ∀ l, InP M z p l → stL M B z p l < K → Sc M p l 0 (B 17 (stL M B z p l)) ∧ Sc M p l 1 (B 18 (stL M B z p l))
def BsP (M : Mem) (p : Nat) (l : Int → Int) (s c i c' i' : Int) : Prop := Mv M p l s c' i' ∧ (c' < c ∨ (c' = c ∧ i' < i))
/-- the best so far: FAR, or a move's worth -/
def BsI (M : Mem) (p : Nat) (l : Int → Int) (s c i b : Int) : Prop := ((b = -16777216 ∧ ∀ c' i', ¬ BsP M p l s c i c' i') ∨ (-57344 ≤ b ∧ b ≤ 57344 ∧ ∃ c' i' v, BsP M p l s c i c' i' ∧ Sc M p (updL l c' (opt M (l c') s i')) (1 - s) v ∧ b = sgnS s * v)) ∧ ∀ c' i' w, BsP M p l s c i c' i' → Sc M p (updL l c' (opt M (l c') s i')) (1 - s) w → sgnS s * w ≤ b
theorem bsI_cg {M : Mem} {p : Nat} {l : Int → Int} {s c i d j b : Int} (e : ∀ c' i', BsP M p l s c i c' i' ↔ BsP M p l s d j c' i') (h : BsI M p l s c i b) : BsI M p l s d j b := by
  obtain ⟨a, q⟩ := h
  refine ⟨?_, fun c' i' w h1 h2 => q c' i' w ((e c' i').mpr h1) h2⟩
  rcases a with ⟨a1, a2⟩ | ⟨a1, a2, c', i', v, a3, a4⟩
  · exact Or.inl ⟨a1, fun c' i' h => a2 c' i' ((e c' i').mpr h)⟩
  · exact Or.inr ⟨a1, a2, c', i', v, (e c' i').mp a3, a4⟩
theorem bsI_s {M : Mem} {n : Int} {p : Nat} {l : Int → Int} {s c i b v : Int} (hG : Good n M) (hp : p ≤ 4) (hl : LnO n p l) (hs : s = 0 ∨ s = 1) (hm : Mv M p l s c i) (h : BsI M p l s c i b) (hv : Sc M p (updL l c (opt M (l c) s i)) (1 - s) v) : BsI M p l s c (i + 1) (max b (sgnS s * v)) := by
  have vr := sc_r hG hp (mv_ok hG hl hs hm).1 (by omega) hv
  have sg : sgnS s = 1 ∨ sgnS s = -1 := by unfold sgnS; split <;> omega
  have sv : -57344 ≤ sgnS s * v ∧ sgnS s * v ≤ 57344 := by rcases sg with q | q <;> rw [q] <;> omega
  have key : ∀ c' i', BsP M p l s c (i + 1) c' i' ↔ (BsP M p l s c i c' i' ∨ (c' = c ∧ i' = i)) := by
    intro c' i'
    unfold BsP
    constructor
    · rintro ⟨a, b⟩
      by_cases e : c' = c ∧ i' = i
      · exact Or.inr e
      · exact Or.inl ⟨a, by omega⟩
    · rintro (⟨a, b⟩ | ⟨rfl, rfl⟩)
      · exact ⟨a, by omega⟩
      · exact ⟨hm, by omega⟩
  obtain ⟨a, q⟩ := h
  have b0 : b = -16777216 ∨ (-57344 ≤ b ∧ b ≤ 57344) := by
    rcases a with ⟨a1, -⟩ | ⟨a1, a2, -⟩ <;> omega
  refine ⟨Or.inr ?_, fun c' i' w h1 h2 => ?_⟩
  · by_cases lt : b ≤ sgnS s * v
    · rw [show max b (sgnS s * v) = sgnS s * v by omega]
      exact ⟨sv.1, sv.2, c, i, v, (key c i).mpr (Or.inr ⟨rfl, rfl⟩), hv, rfl⟩
    · rw [show max b (sgnS s * v) = b by omega]
      rcases a with ⟨a1, -⟩ | ⟨a1, a2, c', i', v', a3, a4⟩
      · omega
      · exact ⟨a1, a2, c', i', v', (key c' i').mpr (Or.inl a3), a4⟩
  · rcases (key c' i').mp h1 with h3 | ⟨rfl, rfl⟩
    · have := q c' i' w h3 h2; omega
    · have := sc_uq 24 _ _ _ _ h2 hv; subst this; omega
/-- what comes out -/
theorem bsI_end {M : Mem} {n : Int} {p : Nat} {l : Int → Int} {s b : Int} (hG : Good n M) (hp : p ≤ 4) (hl : LnO n p l) (hs : s = 0 ∨ s = 1) (h : BsI M p l s p 0 b) : (b = -16777216 → Sc M p l s (sumV M l p)) ∧ (b ≠ -16777216 → Sc M p l s (sgnS s * b)) := by
  obtain ⟨a, q⟩ := h
  have all : ∀ c i, Mv M p l s c i → BsP M p l s p 0 c i := fun c i hm => ⟨hm, Or.inl hm.1.2⟩
  constructor
  · intro hb
    rcases a with ⟨-, a2⟩ | ⟨a1, -⟩
    · refine (scL_eq hG hp hl hs).mpr (Or.inl ⟨fun c c1 c2 h6 => ?_, rfl⟩)
      have lc := hl c c1 c2
      obtain ⟨g0, g1, -⟩ := (hG.2.2 (l c) lc.1 lc.2).2.2.2.1 h6
      refine a2 c 0 (all c 0 ⟨⟨c1, c2⟩, h6, by omega, ?_⟩)
      rcases hs with rfl | rfl <;> omega
    · omega
  · intro hb
    rcases a with ⟨a1, -⟩ | ⟨-, -, c, i, v, a3, a4, rfl⟩
    · exact absurd a1 hb
    · have ev : sgnS s * (sgnS s * v) = v := by unfold sgnS; split <;> omega
      rw [ev]
      refine (scL_eq hG hp hl hs).mpr (Or.inr ⟨fun w => w c a3.1.1.1 a3.1.1.2 a3.1.2.1, ⟨c, i, a3.1, a4⟩, fun c' i' w h1 h2 => ?_⟩)
      have := q c' i' w (all c' i' h1) h2
      unfold sgnS at this
      refine ⟨fun s0 => ?_, fun s0 => ?_⟩
      · rw [if_pos s0] at this; omega
      · rw [if_neg s0] at this; omega
theorem xb_77 {g : Gs} {ad : Nat → Nat} {sk : (Nat → Nat) × (Nat → Nat)} {X : Cx} {PQ : Option Value → Mem → Prop} {PX : String → Mem → Prop} (C : OkB (wC g ad sk) X cX6_bestFrom RX6 12 2 0 0) (Y : OkR (wC g ad sk) X (some .int) 0 0 PQ PX) {A B M : Mem} {n : Int} {z l : Int → Int} {p : Nat} {s K c b sm : Int} (hX : RepX M B n) (hp : p ≤ 4) (hz : LnO n p z) (hR : RnkA M B z p) (hl : InP M z p l) (hat : ∀ c, 0 ≤ c → c < (p : Int) → B 16 c = B 12 (4 * l c + c)) (hK : K = stL M B z p l) (hK4 : K < 4000) (h20 : B 20 0 = 4000) (hT : ScT M B z p K) (hs : s = 0 ∨ s = 1) (hc : 0 ≤ c ∧ c < (p : Int)) (hsm : R32 sm)
    (kk : ∀ b, BsI M p l s (c + 1) 0 b → E (wC g ad sk) X 0 0 (B) 33 [(0, .ref (ad 3)), (1, vI (K)), (2, vI (p)), (3, vI (s)), (4, vI (sgnS s)), (5, .ref (Int.toNat (B 19 (if s = 0 then 1 else 0)))), (6, vI (b)), (7, vI (sm)), (8, vI (c + 1))] []) : ∀ (m i : Nat) (b : Int), (i : Int) + m = M 3 (2 * l c + s) → BsI M p l s c i b → E (wC g ad sk) X 0 0 (B) 77 [(0, .ref (ad 3)), (1, vI (K)), (2, vI (p)), (3, vI (s)), (4, vI (sgnS s)), (5, .ref (Int.toNat (B 19 (if s = 0 then 1 else 0)))), (6, vI (b)), (7, vI (sm)), (8, vI (c)), (9, .ref (ad (44 + 6 * (Int.toNat (l c))))), (10, vI (i))] [] := by
  have hG := hX.2.2.1
  have h40 := hG.2.1
  have lo := inP_ln hG hz hl
  have lc := lo c hc.1 hc.2
  have hD := (hG.2.2 (l c) lc.1 lc.2)
  have ob := opS_r hD.1.1 (s := s) (by omega)
  have rg := hX.2.2.2.1 (l c) lc.1 lc.2
  have c41 := (rg.2.2.1 s (by omega) (by omega)).1
  have hrw := repG_rw hD.1.1 rg
  have K0 : 0 ≤ K := by rw [hK]; exact (stV_r p (rnk_dg hG hz hR hl)).1
  have br : ∀ (i b : Int), BsI M p l s c i b → R32 b := fun i b h => by rcases h.1 with ⟨a, -⟩ | ⟨a1, a2, -⟩ <;> omega
  have sg : sgnS s = 1 ∨ sgnS s = -1 := by unfold sgnS; split <;> omega
  have x5r : 0 ≤ (if s = 0 then (1 : Int) else 0) ∧ (if s = 0 then (1 : Int) else 0) < 2 := by split <;> omega
  intro m
  induction m with
  | zero =>
    intro i b hi h
    have rb := br _ _ h
    refine B_X6_bestFrom_77 (by omega) (by omega) (by omega) (by omega) (by omega) (by omega) (by omega) (by omega) (by omega) (by omega) (Nat.zero_le _) (Nat.zero_le _) C Y ⟨by omega, fun q => ⟨by omega, kk b (bsI_cg (fun c' i' => ?_) h)⟩, fun q => absurd q (by omega)⟩
    unfold BsP
    constructor
    · rintro ⟨a, b⟩; exact ⟨a, Or.inl (by omega)⟩
    · rintro ⟨a, b⟩
      refine ⟨a, ?_⟩
      rcases b with b | b
      · by_cases e : c' = c
        · subst e; exact Or.inr ⟨rfl, by have := a.2.2.2; omega⟩
        · exact Or.inl (by omega)
      · have := a.2.2.1; omega
  | succ m ih =>
    intro i b hi h
    have rb := br _ _ h
    have e49 := rg.2.1.2.2.1
    refine B_X6_bestFrom_77 (by omega) (by omega) (by omega) (by omega) (by omega) (by omega) (by omega) (by omega) (by omega) (by omega) (Nat.zero_le _) (Nat.zero_le _) C Y ⟨by omega, fun q => absurd q (by omega), fun q => ⟨fun q1 => ⟨by omega, kk b (bsI_cg (fun c' i' => ?_) h)⟩, fun q1 => ?_⟩⟩
    · unfold BsP
      constructor
      · rintro ⟨a, b⟩; exact ⟨a, Or.inl (by omega)⟩
      · rintro ⟨a, b⟩
        refine ⟨a, ?_⟩
        rcases b with b | b
        · by_cases e : c' = c
          · subst e; have := a.2.1; omega
          · exact Or.inl (by omega)
        · have := a.2.2.1; omega
    · rw [e49] at q1
      have hm : Mv M p l s c i := ⟨hc, q1, by omega, by omega⟩
      have eo := rw_opt hrw (s := s) (i := i) (by omega) (by omega)
      obtain ⟨m1, m2, m3, m4⟩ := stL_mv hG hz hR hl hs hm
      have oi := ob.2.2 i (by omega) (by omega)
      have rko := rnk_of hG (hz c hc.1 hc.2) (hR c hc.1 hc.2) (hl c hc.1 hc.2)
      have pn := posN_r hG (hz c hc.1 hc.2)
      have hl' := inP_mv hG hz hl hs hm
      have rkc := rnk_of hG (hz c hc.1 hc.2) (hR c hc.1 hc.2) (show Pt M (HotG M) (z c) (opt M (l c) s i) by have := hl' c hc.1 hc.2; unfold updL at this; rwa [if_pos rfl] at this)
      rw [eo, hat c hc.1 hc.2]
      have eK : K - (B 12 (4 * l c + c) - B 12 (4 * opt M (l c) s i + c)) * B 15 c = stL M B z p (updL l c (opt M (l c) s i)) := by rw [m1, hK]
      have tt := hT _ hl' (by omega)
      have val : ∃ v, Sc M p (updL l c (opt M (l c) s i)) (1 - s) v ∧ B (scC (if s = 0 then 1 else 0)) (stL M B z p (updL l c (opt M (l c) s i))) = v := by
        rcases hs with rfl | rfl
        · exact ⟨_, tt.2, rfl⟩
        · exact ⟨_, tt.1, rfl⟩
      obtain ⟨v, v1, v2⟩ := val
      have vr := sc_r hG hp (mv_ok hG lo hs hm).1 (by omega) v1
      rw [eK, v2]
      have sv : -57344 ≤ sgnS s * v ∧ sgnS s * v ≤ 57344 := by rcases sg with q | q <;> rw [q] <;> omega
      refine ⟨⟨by omega, by omega, by omega, by omega, by omega, by omega, by omega, by omega, by omega⟩, ?_⟩
      exact ih (i + 1) _ (by omega) (bsI_s hG hp lo hs hm h v1)
