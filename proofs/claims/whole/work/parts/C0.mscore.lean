/-! ===== the reference: the scores of all states ===== -/
/-- the reference's tables of places, laid as the class lays them -/
noncomputable def vB (M N : Mem) (z : Int → Int) : Mem := fun c i => if c = 13 then N 40 (40 * (i % 4) + i / 4) else if c = 12 then N 41 (40 * (i % 4) + i / 4) else if c = 14 then N 39 i else if c = 15 then wtR (wdM M z) i.toNat else if c = 17 then N 42 (2 * i) else if c = 18 then N 42 (2 * i + 1) else 0
theorem vB_13 {M N : Mem} {z : Int → Int} {j c : Int} (hc : 0 ≤ c ∧ c < 4) : vB M N z 13 (4 * j + c) = N 40 (40 * c + j) := by
  show N 40 (40 * ((4 * j + c) % 4) + (4 * j + c) / 4) = _
  rw [show (4 * j + c) % 4 = c by omega, show (4 * j + c) / 4 = j by omega]
theorem vB_12 {M N : Mem} {z : Int → Int} {j c : Int} (hc : 0 ≤ c ∧ c < 4) : vB M N z 12 (4 * j + c) = N 41 (40 * c + j) := by
  show N 41 (40 * ((4 * j + c) % 4) + (4 * j + c) / 4) = _
  rw [show (4 * j + c) % 4 = c by omega, show (4 * j + c) / 4 = j by omega]
def RfS (M N : Mem) (z : Int → Int) (p : Nat) : Prop := (∀ k i, k ≤ 15 → N k i = M k i) ∧ N 16 0 = (p : Int) ∧ ∀ c, 0 ≤ c → c < (p : Int) → PosC M N c (z c)
theorem RfS.rnk {M N : Mem} {z : Int → Int} {p : Nat} (h : RfS M N z p) (hp : p ≤ 4) : RnkA M (vB M N z) z p := fun c c1 c2 => by
  have q := h.2.2 c c1 c2
  have hc : 0 ≤ c ∧ c < 4 := by omega
  refine ⟨?_, fun j j1 j2 => ?_, rfl⟩
  · have e : (fun j => vB M N z 13 (4 * j + c)) = fun j => N 40 (40 * c + j) := funext (fun j => vB_13 hc)
    rw [e]; exact q.1
  · rw [vB_13 hc, vB_12 hc]; exact q.2 j j1 j2
theorem wt_40 {M : Mem} {n : Int} {z : Int → Int} {p : Nat} (hG : Good n M) (hp : p ≤ 4) (hz : LnO n p z) {k : Nat} (hk : k ≤ p) : 1 ≤ wtR (wdM M z) k ∧ wtR (wdM M z) k ≤ 2560000 := by
  have := prN_40 (M := M) (l := z) hG (k := k) (by omega) (fun c c1 c2 => hz c c1 (by omega))
  rw [prN_wt] at this; exact this
theorem wg_4 {g : Gs} {ad : Nat → Nat} {X : Cx} {PQ : Option Value → Mem → Prop} {PX : String → Mem → Prop} (C : OkB (wM g ad) X cX10_weight RX10 4 1 0 0) (Y : OkR (wM g ad) X (some .int) 0 0 PQ PX) {M N : Mem} {n : Int} {z : Int → Int} {p c : Nat} (hG : Good n M) (hp : p ≤ 4) (hz : LnO n p z) (h : RfS M N z p) (hc : c ≤ p) (kk : PQ (some (vI (wtR (wdM M z) c))) N) : ∀ (m j : Nat), j + m = c → E (wM g ad) X 0 0 (N) 4 [(0, .ref (ad 0)), (1, vI (c)), (2, vI (wtR (wdM M z) j)), (3, vI (j))] [] := by
  intro m
  induction m with
  | zero =>
    intro j hj
    have b := wt_40 hG hp hz (k := j) (by omega)
    have e : j = c := by omega
    subst e
    exact B_X10_weight_4 (by omega) (by omega) (by omega) (Nat.zero_le _) (Nat.zero_le _) C Y ⟨fun _ => kk, fun q => absurd q (by omega)⟩
  | succ m ih =>
    intro j hj
    have b := wt_40 hG hp hz (k := j) (by omega)
    have b2 : 1 ≤ wtR (wdM M z) j * posN M (z j) ∧ wtR (wdM M z) j * posN M (z j) ≤ 2560000 := wt_40 hG hp hz (k := j + 1) (by omega)
    have e39 : N 39 j = posN M (z j) := posC_n (h.2.2 j (by omega) (by omega))
    refine B_X10_weight_4 (by omega) (by omega) (by omega) (Nat.zero_le _) (Nat.zero_le _) C Y ⟨fun q => absurd q (by omega), fun _ => ?_⟩
    rw [e39]
    exact ⟨⟨by omega, by omega, by omega⟩, ih (j + 1) (by omega)⟩
theorem m_weight {g : Gs} {ad : Nat → Nat} {M N : Mem} {n : Int} {z : Int → Int} {p c : Nat} (hG : Good n M) (hp : p ≤ 4) (hz : LnO n p z) (h : RfS M N z p) (hc : c ≤ p) : SpI (wM g ad) yX10_weight cX10_weight 4 (some .int) 1 [.ref (ad 0), vI (c)] (N) (fun r P => r = wtR (wdM M z) c ∧ P = N) := by
  intro l9 hl9
  refine ct_of hl9 mi_X10_weight.2.2.2 (Nat.le_of_ble_eq_true rfl) (fun X _ C Y => ?_)
  show E (wM g ad) X 0 0 (N) 0 [(0, .ref (ad 0)), (1, vI (c))] []
  refine e_wf (fun hw => ?_)
  refine B_X10_weight_0 (by omega) (Nat.zero_le _) (Nat.zero_le _) C Y ?_
  exact wg_4 C Y hG hp hz h hc ⟨_, rfl, rfl, rfl⟩ c 0 (by omega)
theorem m_gameAt {g : Gs} {ad : Nat → Nat} {M N : Mem} {n K : Int} {z l : Int → Int} {p c : Nat} (hG : Good n M) (hp : p ≤ 4) (hz : LnO n p z) (h : RfS M N z p) (hl : InP M z p l) (hK : K = stL M (vB M N z) z p l) (hK4 : K < 4000) (hc : c < p) : SpI (wM g ad) yX10_gameAt cX10_gameAt 3 (some .int) 2 [.ref (ad 0), vI (K), vI (c)] (N) (fun r P => r = l c ∧ P = N) := by
  have h40 := hG.2.1
  have dg := rnk_dg hG hz (h.rnk hp) hl
  have K0 : 0 ≤ K := by rw [hK]; exact (stV_r p dg).1
  have b := wt_40 hG hp hz (k := c) (by omega)
  have e := stV_dg dg hc
  have zc := hz c (by omega) (by omega)
  have rk := rnk_of hG zc (h.rnk hp c (by omega) (by omega)) (hl c (by omega) (by omega))
  have lr := pt_le hG 6 _ _ zc.1 zc.2 (hl c (by omega) (by omega))
  have pn := posN_r hG zc
  have e39 : N 39 c = posN M (z c) := posC_n (h.2.2 c (by omega) (by omega))
  rw [vB_12 (by omega), vB_13 (by omega)] at rk
  intro l9 hl9
  refine ct_of hl9 mi_X10_gameAt.2.2.2 (Nat.le_of_ble_eq_true rfl) (fun X _ C Y => ?_)
  show E (wM g ad) X 0 0 (N) 0 [(0, .ref (ad 0)), (1, vI (K)), (2, vI (c))] []
  refine e_wf (fun hw => ?_)
  refine B_X10_gameAt_0 (by omega) (by omega) (Nat.zero_le _) (Nat.zero_le _) C Y ⟨by omega, _, m_weight hG hp hz h (Nat.le_of_lt hc), fun w P hP => ?_⟩
  obtain ⟨e1, e2⟩ := hP
  rw [e1, e2]
  have t1 : Int.tmod (Int.tdiv K (wtR (wdM M z) c)) (N 39 c) = N 41 (40 * c + l c) := by
    rw [Int.tdiv_eq_ediv_of_nonneg K0, Int.tmod_eq_emod_of_nonneg (Int.ediv_nonneg K0 (by omega)), e39, hK]
    exact e.trans (vB_12 (by omega))
  rw [t1]
  exact ⟨by omega, ⟨by omega, by omega, by omega, by omega, by omega, by omega, by omega⟩, _, rfl, rk.2.2, rfl⟩
def mst (s b : Int) : Int := sgnS s * (if b = -16777216 then -1000000 else b)
theorem mst_r {s b : Int} (h : b = -16777216 ∨ (-57344 ≤ b ∧ b ≤ 57344)) : -1000000 ≤ mst s b ∧ mst s b ≤ 1000000 := by
  unfold mst sgnS
  split <;> split <;> omega
theorem bsI_b {M : Mem} {p : Nat} {l : Int → Int} {s c i b : Int} (h : BsI M p l s c i b) : b = -16777216 ∨ (-57344 ≤ b ∧ b ≤ 57344) := by
  rcases h.1 with ⟨a, -⟩ | ⟨a1, a2, -⟩ <;> omega
theorem mst_0 {b v : Int} (hv : -57344 ≤ v ∧ v ≤ 57344) (hb : b = -16777216 ∨ (-57344 ≤ b ∧ b ≤ 57344)) : (v ≤ mst 0 b → mst 0 (max b (sgnS 0 * v)) = mst 0 b) ∧ (mst 0 b < v → mst 0 (max b (sgnS 0 * v)) = v) := by
  have e : sgnS 0 = 1 := rfl
  unfold mst
  rw [e]
  constructor <;> intro h
  · split at h
    · omega
    · rw [show max b (1 * v) = b by omega]
  · rw [show max b (1 * v) = v by split at h <;> omega, if_neg (by omega), Int.one_mul]
theorem mst_1 {b v : Int} (hv : -57344 ≤ v ∧ v ≤ 57344) (hb : b = -16777216 ∨ (-57344 ≤ b ∧ b ≤ 57344)) : (mst 1 b ≤ v → mst 1 (max b (sgnS 1 * v)) = mst 1 b) ∧ (v < mst 1 b → mst 1 (max b (sgnS 1 * v)) = v) := by
  have e : sgnS 1 = -1 := rfl
  unfold mst
  rw [e]
  constructor <;> intro h
  · split at h
    · omega
    · rw [show max b (-1 * v) = b by omega]
  · rw [show max b (-1 * v) = -v by split at h <;> omega, if_neg (by omega)]; omega
theorem bsI_n {M : Mem} {p : Nat} {l : Int → Int} {s b : Int} {c i : Int} (hi : M 6 (l c) ≠ 0 ∨ M 3 (2 * l c + s) ≤ i) (h : BsI M p l s c i b) : BsI M p l s (c + 1) 0 b := by
  refine bsI_cg (fun c' i' => ?_) h
  unfold BsP
  constructor
  · rintro ⟨a, b⟩; exact ⟨a, Or.inl (by omega)⟩
  · rintro ⟨a, b⟩
    refine ⟨a, ?_⟩
    rcases b with b | b
    · by_cases e : c' = c
      · subst e
        have a1 := a.2.1
        have a2 := a.2.2.2
        exact Or.inr ⟨rfl, by omega⟩
      · exact Or.inl (by omega)
    · have := a.2.2.1; omega
theorem so_69 {g : Gs} {ad : Nat → Nat} {X : Cx} {PQ : Option Value → Mem → Prop} {PX : String → Mem → Prop} (C : OkB (wM g ad) X cX10_scoreOf RX10 11 3 0 0) (Y : OkR (wM g ad) X (some .int) 0 0 PQ PX) {M N : Mem} {n : Int} {z l : Int → Int} {p c : Nat} {s K sm : Int} (hG : Good n M) (hp : p ≤ 4) (hz : LnO n p z) (h : RfS M N z p) (hl : InP M z p l) (hK : K = stL M (vB M N z) z p l) (hK4 : K < 4000) (hT : ScT M (vB M N z) z p K) (hs : s = 0 ∨ s = 1) (hc : c < p) (h6 : M 6 (l c) = 0) (hsm : R32 sm) (kk : ∀ b, BsI M p l s ((c : Int) + 1) 0 b → E (wM g ad) X 0 0 (N) 21 [(0, .ref (ad 0)), (1, vI (K)), (2, vI (s)), (3, vI (0)), (4, vI (sm)), (5, vI (mst s b)), (6, vI ((c : Int) + 1))] []) : ∀ (m i : Nat) (b : Int), (i : Int) + m = M 3 (2 * l c + s) → BsI M p l s c i b → E (wM g ad) X 0 0 (N) 69 [(0, .ref (ad 0)), (1, vI (K)), (2, vI (s)), (3, vI (0)), (4, vI (sm)), (5, vI (mst s b)), (6, vI (c)), (7, vI (l c)), (8, vI (i))] [] := by
  have h40 := hG.2.1
  have lo := inP_ln hG hz hl
  have lc := lo c (by omega) (by omega)
  have hD := (hG.2.2 (l c) lc.1 lc.2)
  have ob := opS_r hD.1.1 (s := s) (by omega)
  have K0 : 0 ≤ K := by rw [hK]; exact (stV_r p (rnk_dg hG hz (h.rnk hp) hl)).1
  have wb := wt_40 hG hp hz (k := c) (by omega)
  have e3 : N 3 (2 * l c + s) = M 3 (2 * l c + s) := h.1 3 _ (by decide)
  intro m
  induction m with
  | zero =>
    intro i b hi hb
    have rb := mst_r (s := s) (bsI_b hb)
    exact B_X10_scoreOf_69 (by omega) (by omega) (by omega) (by omega) (by omega) (by omega) (by omega) (by omega) (Nat.zero_le _) (Nat.zero_le _) C Y ⟨by omega, fun q => ⟨by omega, kk b (bsI_n (Or.inr (by omega)) hb)⟩, fun q => absurd q (by omega)⟩
  | succ m ih =>
    intro i b hi hb
    have bb := bsI_b hb
    have rb := mst_r (s := s) bb
    have hm : Mv M p l s c i := ⟨⟨by omega, by omega⟩, h6, by omega, by omega⟩
    obtain ⟨m1, m2, m3, m4⟩ := stL_mv hG hz (h.rnk hp) hl hs hm
    have oi := ob.2.2 i (by omega) (by omega)
    have hl' := inP_mv hG hz hl hs hm
    have zc := hz c (by omega) (by omega)
    have pn := posN_r hG zc
    have rkl := rnk_of hG zc (h.rnk hp c (by omega) (by omega)) (hl c (by omega) (by omega))
    have rkc := rnk_of hG zc (h.rnk hp c (by omega) (by omega)) (show Pt M (HotG M) (z c) (opt M (l c) s i) by have := hl' c (by omega) (by omega); unfold updL at this; rwa [if_pos rfl] at this)
    rw [vB_12 (by omega)] at rkl rkc m1 m4
    rw [vB_12 (by omega)] at m1 m4
    have tt := hT _ hl' (by omega)
    refine B_X10_scoreOf_69 (by omega) (by omega) (by omega) (by omega) (by omega) (by omega) (by omega) (by omega) (Nat.zero_le _) (Nat.zero_le _) C Y ⟨by omega, fun q => absurd q (by omega), fun q => ⟨_, m_weight hG hp hz h (Nat.le_of_lt hc), fun w P hP => ?_⟩⟩
    obtain ⟨e1, e2⟩ := hP
    rw [e1, e2]
    have e4 : N 4 (8 * l c + 4 * s + i) = opt M (l c) s i := h.1 4 _ (by decide)
    rw [e4]
    have eD : wtR (wdM M z) c * (N 41 (40 * c + opt M (l c) s i) - N 41 (40 * c + l c)) = stL M (vB M N z) z p (updL l c (opt M (l c) s i)) - K := by
      rw [m1, hK, show vB M N z 15 c = wtR (wdM M z) c from rfl, Int.sub_mul, Int.mul_sub, Int.mul_comm (wtR (wdM M z) c), Int.mul_comm (wtR (wdM M z) c)]
      omega
    rw [eD, show K + (stL M (vB M N z) z p (updL l c (opt M (l c) s i)) - K) = stL M (vB M N z) z p (updL l c (opt M (l c) s i)) by omega]
    have val : ∃ v, Sc M p (updL l c (opt M (l c) s i)) (1 - s) v ∧ N 42 (2 * stL M (vB M N z) z p (updL l c (opt M (l c) s i)) + 1 - s) = v := by
      rcases hs with rfl | rfl
      · exact ⟨_, tt.2, by rw [show 2 * stL M (vB M N z) z p (updL l c (opt M (l c) 0 i)) + 1 - 0 = 2 * stL M (vB M N z) z p (updL l c (opt M (l c) 0 i)) + 1 by omega]; rfl⟩
      · exact ⟨_, tt.1, by rw [show 2 * stL M (vB M N z) z p (updL l c (opt M (l c) 1 i)) + 1 - 1 = 2 * stL M (vB M N z) z p (updL l c (opt M (l c) 1 i)) by omega]; rfl⟩
    obtain ⟨v, v1, v2⟩ := val
    have vr := sc_r hG hp (mv_ok hG lo hs hm).1 (by omega) v1
    rw [v2]
    have nx := ih (i + 1) _ (by omega) (bsI_s hG hp lo hs hm hb v1)
    refine ⟨by omega, ⟨by omega, by omega, by omega, by omega, by omega, by omega, by omega, by omega, by omega, by omega, by omega, by omega, by omega⟩, fun q1 => ⟨fun q2 => ⟨by omega, ?_⟩, fun q2 => ⟨by omega, ?_⟩⟩, fun q1 => ⟨fun q2 => ⟨by omega, ?_⟩, fun q2 => ⟨by omega, ?_⟩⟩⟩
    · have s1 : s = 1 := by omega
      subst s1
      rw [(mst_1 vr bb).1 q2] at nx; exact nx
    · have s1 : s = 1 := by omega
      subst s1
      rw [(mst_1 vr bb).2 q2] at nx; exact nx
    · subst q1
      rw [(mst_0 vr bb).1 q2] at nx; exact nx
    · subst q1
      rw [(mst_0 vr bb).2 q2] at nx; exact nx
/-- what stands of the sum and of the end -/
def OvI (M : Mem) (l : Int → Int) (c : Nat) (o sm : Int) : Prop := (o = 1 ∧ AllC M l c ∧ sm = sumV M l c) ∨ (o = 0 ∧ (∃ x, (0 ≤ x ∧ x < (c : Int)) ∧ M 6 (l x) = 0) ∧ -(14336 * c) ≤ sm ∧ sm ≤ 14336 * c)
theorem so_21 {g : Gs} {ad : Nat → Nat} {X : Cx} {PQ : Option Value → Mem → Prop} {PX : String → Mem → Prop} (C : OkB (wM g ad) X cX10_scoreOf RX10 11 3 0 0) (Y : OkR (wM g ad) X (some .int) 0 0 PQ PX) {M N : Mem} {n : Int} {z l : Int → Int} {p : Nat} {s K : Int} (hG : Good n M) (hp : p ≤ 4) (hz : LnO n p z) (h : RfS M N z p) (hl : InP M z p l) (hK : K = stL M (vB M N z) z p l) (hK4 : K < 4000) (hT : ScT M (vB M N z) z p K) (hs : s = 0 ∨ s = 1) (kk : ∀ v, Sc M p l s v → PQ (some (vI v)) N) : ∀ (m c : Nat) (o sm b : Int), c + m = p → OvI M l c o sm → BsI M p l s c 0 b → E (wM g ad) X 0 0 (N) 21 [(0, .ref (ad 0)), (1, vI (K)), (2, vI (s)), (3, vI (o)), (4, vI (sm)), (5, vI (mst s b)), (6, vI (c))] [] := by
  have h40 := hG.2.1
  have lo := inP_ln hG hz hl
  have K0 : 0 ≤ K := by rw [hK]; exact (stV_r p (rnk_dg hG hz (h.rnk hp) hl)).1
  have smr : ∀ (c : Nat) (o sm : Int), c ≤ p → OvI M l c o sm → -(14336 * c) ≤ sm ∧ sm ≤ 14336 * c ∧ (o = 0 ∨ o = 1) := fun c o sm hc q => by
    rcases q with ⟨q1, -, q3⟩ | ⟨q1, -, q3, q4⟩
    · have := sumV_r (l := l) hG c (fun x x1 x2 => lo x x1 (by omega))
      omega
    · omega
  intro m
  induction m with
  | zero =>
    intro c o sm b hc q hb
    have rb := mst_r (s := s) (bsI_b hb)
    have sr := smr c o sm (by omega) q
    have e16 := h.2.1
    have e : c = p := by omega
    subst e
    have en := bsI_end hG hp lo hs hb
    refine B_X10_scoreOf_21 (by omega) (by omega) (by omega) (by omega) (by omega) (by omega) (Nat.zero_le _) (Nat.zero_le _) C Y ⟨fun _ => ⟨fun o0 => ?_, fun o1 => ?_⟩, fun w => absurd w (by omega)⟩
    · refine kk _ ?_
      by_cases bf : b = -16777216
      · exfalso
        rcases q with ⟨q1, -⟩ | ⟨-, ⟨x, x1, x2⟩, -⟩
        · omega
        · have lx := lo x x1.1 x1.2
          obtain ⟨g0, g1, -⟩ := (hG.2.2 (l x) lx.1 lx.2).2.2.2.1 x2
          rcases hb.1 with ⟨-, a2⟩ | ⟨a1, -⟩
          · refine a2 x 0 ⟨⟨x1, x2, by omega, ?_⟩, Or.inl x1.2⟩
            rcases hs with rfl | rfl <;> omega
          · omega
      · have := en.2 bf
        unfold mst
        rw [if_neg bf]; exact this
    · rcases q with ⟨-, q2, q3⟩ | ⟨q1, -⟩
      · subst q3
        exact kk _ ((scL_eq hG hp lo hs).mpr (Or.inl ⟨q2, rfl⟩))
      · exact absurd q1 o1
  | succ m ih =>
    intro c o sm b hc q hb
    have rb := mst_r (s := s) (bsI_b hb)
    have sr := smr c o sm (by omega) q
    have e16 := h.2.1
    have lc := lo c (by omega) (by omega)
    have hD := (hG.2.2 (l c) lc.1 lc.2)
    have ob := opS_r hD.1.1 (s := s) (by omega)
    refine B_X10_scoreOf_21 (by omega) (by omega) (by omega) (by omega) (by omega) (by omega) (Nat.zero_le _) (Nat.zero_le _) C Y ⟨fun w => absurd w (by omega), fun _ => ⟨_, m_gameAt hG hp hz h hl hK hK4 (c := c) (by omega), fun r P hP => ?_⟩⟩
    obtain ⟨e1, e2⟩ := hP
    rw [e1, e2]
    have e6 : N 6 (l c) = M 6 (l c) := h.1 6 _ (by decide)
    have e7 : N 7 (l c) = M 7 (l c) := h.1 7 _ (by decide)
    rw [e6, e7]
    refine ⟨by omega, by omega, fun q6 => ?_, fun q6 => ?_⟩
    · exact so_69 C Y hG hp hz h hl hK hK4 hT hs (by omega) q6 (by omega) (fun b2 hb2 => ih (c + 1) 0 sm b2 (by omega) (Or.inr ⟨rfl, ⟨c, ⟨by omega, by omega⟩, q6⟩, by omega, by omega⟩) hb2) (M 3 (2 * l c + s)).toNat 0 b (by omega) hb
    · have c6 : M 6 (l c) = 1 := by have := hD.2.1.2.1.1; omega
      have cw := (hD.2.2.1 c6).1
      have bd := hD.2.2.2.2.2.2.2.1.1
      have hd := hD.1.2.2.1
      unfold Bd at bd
      refine ⟨⟨by omega, by omega⟩, ih (c + 1) o (sm + M 7 (l c)) b (by omega) ?_ (bsI_n (Or.inl q6) hb)⟩
      rcases q with ⟨q1, q2, q3⟩ | ⟨q1, ⟨x, x1, x2⟩, q3, q4⟩
      · refine Or.inl ⟨q1, fun x x1 x2 => ?_, by rw [sumV, q3, cw]⟩
        by_cases e : x = (c : Int)
        · subst e; exact q6
        · exact q2 x x1 (by omega)
      · exact Or.inr ⟨q1, ⟨x, ⟨x1.1, by omega⟩, x2⟩, by omega, by omega⟩
theorem m_scoreOf {g : Gs} {ad : Nat → Nat} {M N : Mem} {n K s : Int} {z l : Int → Int} {p : Nat} (hG : Good n M) (hp : p ≤ 4) (hz : LnO n p z) (h : RfS M N z p) (hl : InP M z p l) (hK : K = stL M (vB M N z) z p l) (hK4 : K < 4000) (hT : ScT M (vB M N z) z p K) (hs : s = 0 ∨ s = 1) : SpI (wM g ad) yX10_scoreOf cX10_scoreOf 11 (some .int) 3 [.ref (ad 0), vI (K), vI (s)] (N) (fun r P => Sc M p l s r ∧ P = N) := by
  have K0 : 0 ≤ K := by rw [hK]; exact (stV_r p (rnk_dg hG hz (h.rnk hp) hl)).1
  intro l9 hl9
  refine ct_of hl9 mi_X10_scoreOf.2.2.2 (Nat.le_of_ble_eq_true rfl) (fun X _ C Y => ?_)
  show E (wM g ad) X 0 0 (N) 0 [(0, .ref (ad 0)), (1, vI (K)), (2, vI (s))] []
  refine e_wf (fun hw => ?_)
  have go := so_21 C Y hG hp hz h hl hK hK4 hT hs (fun v hv => ⟨v, rfl, hv, rfl⟩) p 0 1 0 (-16777216) (by omega) (Or.inl ⟨rfl, fun c c1 c2 => absurd c2 (by omega), rfl⟩) ⟨Or.inl ⟨rfl, fun c' i' q => by have := q.1.1.1; have := q.1.2.2.1; have := q.2; omega⟩, fun c' i' w q _ => by have := q.1.1.1; have := q.1.2.2.1; have := q.2; omega⟩
  refine B_X10_scoreOf_0 (by omega) (by omega) (Nat.zero_le _) (Nat.zero_le _) C Y ⟨fun q => ?_, fun q => ?_⟩
  · have s1 : s = 1 := by omega
    subst s1
    exact go
  · subst q
    exact go
