/-! ===== the class: bestFrom, turn, rank, scoreOf ===== -/
theorem xb_33 {g : Gs} {ad : Nat → Nat} {sk : (Nat → Nat) × (Nat → Nat)} {X : Cx} {PQ : Option Value → Mem → Prop} {PX : String → Mem → Prop} (C : OkB (wC g ad sk) X cX6_bestFrom RX6 12 2 0 0) (Y : OkR (wC g ad sk) X (some .int) 0 0 PQ PX) {B M : Mem} {n : Int} {z l : Int → Int} {p : Nat} {s K : Int} (hX : RepX M B n) (hp : p ≤ 4) (hz : LnO n p z) (hR : RnkA M B z p) (hl : InP M z p l) (hat : ∀ c, 0 ≤ c → c < (p : Int) → B 16 c = B 12 (4 * l c + c)) (hK : K = stL M B z p l) (hK4 : K < 4000) (h20 : B 20 0 = 4000) (hT : ScT M B z p K) (hs : s = 0 ∨ s = 1) (kk : ∀ v, Sc M p l s v → PQ (some (vI v)) B) : ∀ (m c : Nat) (b : Int), c + m = p → BsI M p l s c 0 b → E (wC g ad sk) X 0 0 (B) 33 [(0, .ref (ad 3)), (1, vI (K)), (2, vI (p)), (3, vI (s)), (4, vI (sgnS s)), (5, .ref (Int.toNat (B 19 (if s = 0 then 1 else 0)))), (6, vI (b)), (7, vI (sumV M l c)), (8, vI (c))] [] := by
  have hG := hX.2.2.1
  have h40 := hG.2.1
  have lo := inP_ln hG hz hl
  have K0 : 0 ≤ K := by rw [hK]; exact (stV_r p (rnk_dg hG hz hR hl)).1
  have sg : sgnS s = 1 ∨ sgnS s = -1 := by unfold sgnS; split <;> omega
  have x5r : 0 ≤ (if s = 0 then (1 : Int) else 0) ∧ (if s = 0 then (1 : Int) else 0) < 2 := by split <;> omega
  have sr : ∀ c : Nat, c ≤ p → -57344 ≤ sumV M l c ∧ sumV M l c ≤ 57344 := fun c hc => by have := sumV_r hG c (fun x x1 x2 => lo x x1 (by omega)); omega
  intro m
  induction m with
  | zero =>
    intro c b hc h
    have : c = p := by omega
    subst this
    have rb : -16777216 ≤ b ∧ b ≤ 57344 := by rcases h.1 with ⟨a, -⟩ | ⟨a1, a2, -⟩ <;> omega
    have s9 := sr c (Nat.le_refl _)
    have e := bsI_end hG hp lo hs h
    exact B_X6_bestFrom_33 (by omega) (by omega) (by omega) (by omega) (by omega) (by omega) (by omega) (by omega) (Nat.zero_le _) (Nat.zero_le _) C Y ⟨fun _ => ⟨fun q => ⟨by rcases sg with w | w <;> rw [w] <;> omega, kk _ (e.2 q)⟩, fun q => kk _ (e.1 q)⟩, fun q => absurd q (by omega)⟩
  | succ m ih =>
    intro c b hc h
    have rb : -16777216 ≤ b ∧ b ≤ 57344 := by rcases h.1 with ⟨a, -⟩ | ⟨a1, a2, -⟩ <;> omega
    have s9 := sr c (by omega)
    have s10 := sr (c + 1) (by omega)
    have rc := hR c (by omega) (by omega)
    have rk := rnk_of hG (hz c (by omega) (by omega)) rc (hl c (by omega) (by omega))
    have lc := lo c (by omega) (by omega)
    have pn := posN_r hG (hz c (by omega) (by omega))
    have a16 := hat c (by omega) (by omega)
    have e13 : B 13 (4 * B 16 (c : Int) + c) = l c := by rw [a16]; exact rk.2.2
    have e50 : B 50 (l c) = M 13 (l c) := (hX.2.2.2.1 (l c) lc.1 lc.2).2.1.2.2.2.1
    have ob := opS_r (hG.2.2 (l c) lc.1 lc.2).1.1 (s := s) (by omega)
    refine B_X6_bestFrom_33 (by omega) (by omega) (by omega) (by omega) (by omega) (by omega) (by omega) (by omega) (Nat.zero_le _) (Nat.zero_le _) C Y ⟨fun q => absurd q (by omega), fun _ => ?_⟩
    rw [e13, e50]
    have es : sumV M l c + M 13 (l c) = sumV M l (c + 1) := rfl
    rw [es]
    refine ⟨⟨by omega, by omega, by omega, by omega⟩, ?_⟩
    exact xb_77 (A := B) C Y hX hp hz hR hl hat hK hK4 h20 hT hs (c := c) (b := b) (by omega) (by omega) (fun b' hb => ih (c + 1) b' (by omega) hb) (M 3 (2 * l c + s)).toNat 0 b (by omega) h
theorem x_bestFrom {g : Gs} {ad : Nat → Nat} {sk : (Nat → Nat) × (Nat → Nat)} {B M : Mem} {n : Int} {z l : Int → Int} {p : Nat} {s K : Int} (hX : RepX M B n) (hp : p ≤ 4) (hz : LnO n p z) (hR : RnkA M B z p) (hl : InP M z p l) (hat : ∀ c, 0 ≤ c → c < (p : Int) → B 16 c = B 12 (4 * l c + c)) (hK : K = stL M B z p l) (hK4 : K < 4000) (h20 : B 20 0 = 4000) (hT : ScT M B z p K) (hs : s = 0 ∨ s = 1) : SpI (wC g ad sk) yX6_bestFrom cX6_bestFrom 12 (some .int) 2 [.ref (ad 3), vI (K), vI (p), vI (s)] (B) (fun v P => Sc M p l s v ∧ P = B) := by
  have hG := hX.2.2.1
  have K0 : 0 ≤ K := by rw [hK]; exact (stV_r p (rnk_dg hG hz hR hl)).1
  intro l9 hl9
  refine ct_of hl9 mi_X6_bestFrom.2.2.2 (Nat.le_of_ble_eq_true rfl) (fun X _ C Y => ?_)
  show E (wC g ad sk) X 0 0 (B) 0 [(0, .ref (ad 3)), (1, vI (K)), (2, vI (p)), (3, vI (s))] []
  refine e_wf (fun hw => ?_)
  have st : BsI M p l s ((0 : Nat) : Int) 0 (-16777216) := by
    have no : ∀ c' i', ¬ BsP M p l s ((0 : Nat) : Int) 0 c' i' := fun c' i' q => by
      have := q.1.1.1; have := q.1.2.2.1; have := q.2; omega
    exact ⟨Or.inl ⟨rfl, no⟩, fun c' i' w q => absurd q (no c' i')⟩
  have go := xb_33 C Y hX hp hz hR hl hat hK hK4 h20 hT hs (fun v hv => ⟨_, rfl, hv, rfl⟩) p 0 (-16777216) (by omega) st
  refine B_X6_bestFrom_0 (by omega) (by omega) (by omega) (Nat.zero_le _) (Nat.zero_le _) C Y ⟨fun q => ?_, fun q => ?_⟩
  · rw [if_neg q] at go; exact go
  · rw [if_pos q] at go; exact go
/-! turn -/
theorem trn_st {w d d' : Int → Int} {c : Nat} (h0 : ∀ x, 0 ≤ x → x < (c : Int) → d' x = 0) (h1 : d' c = d c + 1) (h2 : ∀ x, (c : Int) < x → d' x = d x) (hc : stV w d c = wtR w c - 1) : ∀ m : Nat, stV w d' (c + 1 + m) = stV w d (c + 1 + m) + 1 := by
  have z0 : stV w d' c = 0 := by
    have : ∀ k : Nat, k ≤ c → stV w d' k = 0 := by
      intro k
      induction k with
      | zero => intro _; rfl
      | succ k ih => intro hk; rw [stV, ih (by omega), h0 k (by omega) (by omega)]; simp
    exact this c (Nat.le_refl _)
  intro m
  induction m with
  | zero =>
    rw [Nat.add_zero, stV, stV, z0, h1, hc, Int.add_mul]; omega
  | succ m ih =>
    rw [show c + 1 + (m + 1) = (c + 1 + m) + 1 by omega, stV, stV, ih, h2 _ (by omega)]; omega
theorem xt_2 {g : Gs} {ad : Nat → Nat} {sk : (Nat → Nat) × (Nat → Nat)} {X : Cx} {PQ : Option Value → Mem → Prop} {PX : String → Mem → Prop} (C : OkB (wC g ad sk) X cX6_turn RX6 3 1 0 0) (Y : OkR (wC g ad sk) X none 0 0 PQ PX) {S : Mem} {p : Nat} {w : Int → Int} (hp : p ≤ 4) (hw9 : ∀ c, 0 ≤ c → c < (p : Int) → S 14 c = w c ∧ 1 ≤ w c ∧ w c ≤ 40) (hd : DgO w (fun c => S 16 c) p) (kk : ∀ N, (∀ c i, c ≠ 16 → N c i = S c i) → (stV w (fun c => S 16 c) p + 1 < wtR w p → DgO w (fun c => N 16 c) p ∧ stV w (fun c => N 16 c) p = stV w (fun c => S 16 c) p + 1) → PQ none N) : ∀ (m c : Nat), c + m = p → ∀ N, (∀ k i, k ≠ 16 → N k i = S k i) → (∀ x, 0 ≤ x → x < (c : Int) → N 16 x = 0) → (∀ x, (c : Int) ≤ x → N 16 x = S 16 x) → stV w (fun c => S 16 c) c = wtR w c - 1 → E (wC g ad sk) X 0 0 (N) 2 [(0, .ref (ad 3)), (1, vI (p)), (2, vI (c))] [] := by
  intro m
  induction m with
  | zero =>
    intro c hc N f h0 h1 h2
    have : c = p := by omega
    subst this
    exact B_X6_turn_2 (by omega) (by omega) (Nat.zero_le _) (Nat.zero_le _) C Y ⟨fun _ => kk N f (fun q => by omega), fun q => absurd q (by omega)⟩
  | succ m ih =>
    intro c hc N f h0 h1 h2
    have wc := hw9 c (by omega) (by omega)
    have dc : 0 ≤ S 16 c ∧ S 16 c < w c := hd c (by omega) (by omega)
    have e16 : N 16 c = S 16 c := h1 c (Int.le_refl _)
    have e14 : N 14 c = w c := (f 14 c (by decide)).trans wc.1
    have u : up N 16 c (N 16 c + 1) 16 c = N 16 c + 1 := up_s _ _ _ _
    refine B_X6_turn_2 (by omega) (by omega) (Nat.zero_le _) (Nat.zero_le _) C Y ⟨fun q => absurd q (by omega), fun _ => ?_⟩
    rw [u]
    refine ⟨⟨by omega, by omega⟩, fun q => ⟨by omega, ?_⟩, fun q => kk _ (fun k i hk => by rw [up_c hk]; exact f k i hk) (fun _ => ?_)⟩
    · refine ih (c + 1) (by omega) _ (fun k i hk => by rw [up_c hk, up_c hk]; exact f k i hk) (fun x x1 x2 => ?_) (fun x x1 => by rw [up_i (by omega), up_i (by omega)]; exact h1 x (by omega)) ?_
      · by_cases e : x = (c : Int)
        · rw [e, up_s]
        · rw [up_i e, up_i e]; exact h0 x x1 (by omega)
      · rw [stV, wtR, h2]
        show wtR w c - 1 + S 16 c * wtR w c = _
        rw [show S 16 (c : Int) = w c - 1 by omega, Int.sub_mul, Int.mul_comm (wtR w c)]; omega
    · have n16 : ∀ x, up N 16 (c : Int) (N 16 c + 1) 16 x = if x = (c : Int) then S 16 c + 1 else N 16 x := fun x => by
        split
        · rename_i e; rw [e, up_s, e16]
        · rename_i e; exact up_i e
      have ts := trn_st (w := w) (d := fun c => S 16 c) (d' := fun x => up N 16 (c : Int) (N 16 c + 1) 16 x) (c := c) (fun x x1 x2 => by show up N 16 (c : Int) (N 16 c + 1) 16 x = 0; rw [n16, if_neg (by omega)]; exact h0 x x1 x2) (by show up N 16 (c : Int) (N 16 c + 1) 16 c = _; rw [n16, if_pos rfl]) (fun x x1 => by show up N 16 (c : Int) (N 16 c + 1) 16 x = _; rw [n16, if_neg (by omega)]; exact h1 x (by omega)) h2 (p - (c + 1))
      rw [show c + 1 + (p - (c + 1)) = p by omega] at ts
      refine ⟨fun x x1 x2 => ?_, ts⟩
      show 0 ≤ up N 16 (c : Int) (N 16 c + 1) 16 x ∧ up N 16 (c : Int) (N 16 c + 1) 16 x < w x
      rw [n16]
      split
      · rename_i e; rw [e]; omega
      · rename_i e
        by_cases lt : x < (c : Int)
        · rw [h0 x x1 lt]; have := hw9 x x1 x2; omega
        · rw [h1 x (by omega)]; exact hd x x1 x2
theorem x_turn {g : Gs} {ad : Nat → Nat} {sk : (Nat → Nat) × (Nat → Nat)} {S : Mem} {p : Nat} {w : Int → Int} (hp : p ≤ 4) (hw9 : ∀ c, 0 ≤ c → c < (p : Int) → S 14 c = w c ∧ 1 ≤ w c ∧ w c ≤ 40) (hd : DgO w (fun c => S 16 c) p) : SpV (wC g ad sk) yX6_turn cX6_turn 3 none 1 [.ref (ad 3), vI (p)] (S) (fun N => (∀ c i, c ≠ 16 → N c i = S c i) ∧ (stV w (fun c => S 16 c) p + 1 < wtR w p → DgO w (fun c => N 16 c) p ∧ stV w (fun c => N 16 c) p = stV w (fun c => S 16 c) p + 1)) := by
  intro l9 hl9
  refine ct_of hl9 mi_X6_turn.2.2.2 (Nat.le_of_ble_eq_true rfl) (fun X _ C Y => ?_)
  show E (wC g ad sk) X 0 0 (S) 0 [(0, .ref (ad 3)), (1, vI (p))] []
  refine e_wf (fun hw => ?_)
  refine B_X6_turn_0 (by omega) (Nat.zero_le _) (Nat.zero_le _) C Y ?_
  exact xt_2 C Y hp hw9 hd (fun N h1 h2 => ⟨rfl, h1, h2⟩) p 0 (by omega) S (fun _ _ _ => rfl) (fun x x1 x2 => absurd x2 (by omega)) (fun _ _ => rfl) (by simp [stV, wtR])
/-! rank -/
def RkF (S N : Mem) : Prop := ∀ c i, c ≠ 12 → c ≠ 13 → c ≠ 14 → c ≠ 15 → c ≠ 16 → N c i = S c i
theorem xr_34 {g : Gs} {ad : Nat → Nat} {sk : (Nat → Nat) × (Nat → Nat)} {X : Cx} {PQ : Option Value → Mem → Prop} {PX : String → Mem → Prop} (C : OkB (wC g ad sk) X cX6_rank RX6 9 2 0 0) (Y : OkR (wC g ad sk) X (some .int) 0 0 PQ PX) {S M : Mem} {n c w pr z : Int} {p : Nat} (hG : Good n M) (hz : 0 ≤ z ∧ z < n) (hc : 0 ≤ c ∧ c < 4) (h10 : S 10 c = z) (hwd : R64 w) (hw9 : ∀ x, 0 ≤ x → x < 40 → (tb w x = true ↔ Pt M (HotG M) z x)) (hpr : 1 ≤ pr ∧ pr ≤ 2560000) (hpr2 : pr * posN M z ≤ 2560000) (hpp : R32 (p : Int))
    (kk : ∀ N, (∀ k i, k ≠ 12 → k ≠ 13 → N k i = S k i) → (∀ x d, 0 ≤ d → d < 4 → d ≠ c → N 12 (4 * x + d) = S 12 (4 * x + d) ∧ N 13 (4 * x + d) = S 13 (4 * x + d)) → Enu (fun j => N 13 (4 * j + c)) (posN M z) (posB M z) 40 → (∀ j, 0 ≤ j → j < posN M z → N 12 (4 * N 13 (4 * j + c) + c) = j) → E (wC g ad sk) X 0 0 ((up (up (up N 16 c 0) 14 c (posN M z)) 15 c pr)) 5 [(0, .ref (ad 3)), (1, .ref (ad 19)), (2, vI (p)), (3, vI (pr * posN M z)), (4, vI (c + 1))] []) : ∀ (m : Nat) (x f : Int), 0 ≤ x → x + m = z + 1 → ∀ N, (∀ k i, k ≠ 12 → k ≠ 13 → N k i = S k i) → (∀ x d, 0 ≤ d → d < 4 → d ≠ c → N 12 (4 * x + d) = S 12 (4 * x + d) ∧ N 13 (4 * x + d) = S 13 (4 * x + d)) → Enu (fun j => N 13 (4 * j + c)) f (posB M z) x.toNat → (∀ j, 0 ≤ j → j < f → N 12 (4 * N 13 (4 * j + c) + c) = j) → E (wC g ad sk) X 0 0 (N) 34 [(0, .ref (ad 3)), (1, .ref (ad 19)), (2, vI (p)), (3, vI (pr)), (4, vI (c)), (5, vL (w)), (7, vI (f)), (8, vI (x))] [] := by
  have h40 := hG.2.1
  intro m
  induction m with
  | zero =>
    intro x f x1 x2 N g1 g2 he h12
    have e10 : N 10 c = z := (g1 10 c (by decide) (by decide)).trans h10
    have cnt := enu_cn _ _ he
    have he' : Enu (fun j => N 13 (4 * j + c)) f (posB M z) 40 := by
      obtain ⟨a0, a1, a2, a3⟩ := he
      refine ⟨a0, a1, fun i i1 i2 => ⟨(a2 i i1 i2).1, by have := (a2 i i1 i2).2.1; omega, (a2 i i1 i2).2.2⟩, fun y hy hp => ?_⟩
      have := pt_le hG 6 z y hz.1 hz.2 (posB_i.mp hp)
      exact a3 y (by omega) hp
    have fn : f = posN M z := (enu_cn 40 _ he').symm
    have pn := posN_r hG hz
    subst fn
    have pp : 0 ≤ pr * posN M z := Int.mul_nonneg (by omega) (by omega)
    exact B_X6_rank_34 (by omega) (by omega) (by omega) (hwd) (by omega) (by omega) (Nat.zero_le _) (Nat.zero_le _) C Y ⟨hc, fun _ => ⟨⟨by omega, by omega⟩, kk N g1 g2 he' h12⟩, fun q => absurd q (by omega)⟩
  | succ m ih =>
    intro x f x1 x2 N g1 g2 he h12
    have e10 : N 10 c = z := (g1 10 c (by decide) (by decide)).trans h10
    have cnt := enu_cn _ _ he
    have cb : (cnB (posB M z) x.toNat : Int) ≤ x := by have := cnB_le64 (posB M z) x.toNat; omega
    obtain ⟨a0, a1, a2, a3⟩ := he
    refine B_X6_rank_34 (by omega) (by omega) (by omega) (hwd) (by omega) (by omega) (Nat.zero_le _) (Nat.zero_le _) C Y ⟨hc, fun q => absurd q (by omega), fun _ => ⟨fun q => ⟨by omega, ?_⟩, fun q => ⟨⟨by omega, by omega, by omega, by omega⟩, ?_⟩⟩⟩
    · rw [has_tb (by omega), hw9 x x1 (by omega)] at q
      have np : ¬ (posB M z x.toNat = true) := by rw [posB_i, Int.toNat_of_nonneg x1]; exact q
      refine ih (x + 1) f (by omega) (by omega) N g1 g2 ⟨a0, a1, fun i i1 i2 => ⟨(a2 i i1 i2).1, by have := (a2 i i1 i2).2.1; omega, (a2 i i1 i2).2.2⟩, fun y hy hp => ?_⟩ h12
      by_cases e : y = x.toNat
      · subst e; exact absurd hp np
      · exact a3 y (by omega) hp
    · rw [has_tb (by omega), hw9 x x1 (by omega)] at q
      have yp : posB M z x.toNat = true := by rw [posB_i, Int.toNat_of_nonneg x1]; exact q
      have q13 : ∀ i, up (up N 12 (4 * x + c) f) 13 (4 * f + c) x 13 i = if i = 4 * f + c then x else N 13 i := fun i => by
        split
        · rename_i e; rw [e, up_s]
        · rename_i e; rw [up_i e, up_c (by decide)]
      have q12 : ∀ i, up (up N 12 (4 * x + c) f) 13 (4 * f + c) x 12 i = if i = 4 * x + c then f else N 12 i := fun i => by
        rw [up_c (by decide)]
        split
        · rename_i e; rw [e, up_s]
        · rename_i e; rw [up_i e]
      refine ih (x + 1) (f + 1) (by omega) (by omega) _ (fun k i k1 k2 => by rw [up_c k2, up_c k1]; exact g1 k i k1 k2) (fun y d d1 d2 d3 => ?_) ?_ ?_
      · rw [q12, q13, if_neg (by omega), if_neg (by omega)]; exact g2 y d d1 d2 d3
      · refine ⟨by omega, fun i j i1 i2 i3 => ?_, fun i i1 i2 => ?_, fun y hy hp => ?_⟩
        · show up (up N 12 (4 * x + c) f) 13 (4 * f + c) x 13 (4 * i + c) < up (up N 12 (4 * x + c) f) 13 (4 * f + c) x 13 (4 * j + c)
          rw [q13, q13, if_neg (by omega)]
          by_cases e : j = f
          · rw [if_pos (by omega)]; have : N 13 (4 * i + c) < ((x.toNat : Nat) : Int) := (a2 i i1 (by omega)).2.1; omega
          · rw [if_neg (by omega)]; exact a1 i j i1 i2 (by omega)
        · show 0 ≤ up (up N 12 (4 * x + c) f) 13 (4 * f + c) x 13 (4 * i + c) ∧ up (up N 12 (4 * x + c) f) 13 (4 * f + c) x 13 (4 * i + c) < _ ∧ posB M z (up (up N 12 (4 * x + c) f) 13 (4 * f + c) x 13 (4 * i + c)).toNat = true
          rw [q13]
          by_cases e : i = f
          · rw [if_pos (by omega)]; exact ⟨x1, by omega, yp⟩
          · rw [if_neg (by omega)]
            have := a2 i i1 (by omega)
            exact ⟨this.1, by have t : N 13 (4 * i + c) < ((x.toNat : Nat) : Int) := this.2.1; omega, this.2.2⟩
        · by_cases e : y = x.toNat
          · exact ⟨f, a0, by omega, by show up (up N 12 (4 * x + c) f) 13 (4 * f + c) x 13 (4 * f + c) = _; rw [q13, if_pos rfl]; omega⟩
          · obtain ⟨i, i1, i2, i3⟩ := a3 y (by omega) hp
            exact ⟨i, i1, by omega, by show up (up N 12 (4 * x + c) f) 13 (4 * f + c) x 13 (4 * i + c) = _; rw [q13, if_neg (by omega)]; exact i3⟩
      · intro j j1 j2
        rw [q13]
        by_cases e : j = f
        · rw [if_pos (by omega), q12, if_pos rfl]; exact e.symm
        · rw [if_neg (by omega), q12]
          have : N 13 (4 * j + c) < ((x.toNat : Nat) : Int) := (a2 j j1 (by omega)).2.1
          rw [if_neg (by omega)]
          exact h12 j j1 (by omega)
