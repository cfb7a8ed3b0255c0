/-! ===== the class: rank whole, the loop of solve, scoreOf ===== -/
theorem xr_5 {g : Gs} {ad : Nat → Nat} {sk : (Nat → Nat) × (Nat → Nat)} {X : Cx} {PQ : Option Value → Mem → Prop} {PX : String → Mem → Prop} (C : OkB (wC g ad sk) X cX6_rank RX6 9 2 0 0) (Y : OkR (wC g ad sk) X (some .int) 0 0 PQ PX) {A M : Mem} (h : Jn A M) (kk : ∀ N, RkF A N → RnkA M N (fun c => M 17 c) (M 16 0).toNat → (∀ c, 0 ≤ c → c < M 16 0 → N 16 c = 0) → PQ (some (vI (prN M (fun c => M 17 c) (M 16 0).toNat))) N) : ∀ (m c : Nat), (c : Int) + m = M 16 0 → ∀ N, RkF A N → RnkA M N (fun c => M 17 c) c → (∀ x, 0 ≤ x → x < (c : Int) → N 16 x = 0) → E (wC g ad sk) X 0 0 (N) 5 [(0, .ref (ad 3)), (1, .ref (ad 19)), (2, vI (M 16 0)), (3, vI (prN M (fun c => M 17 c) c)), (4, vI (c))] [] := by
  have hn := h.n
  have ht := h.2.1
  have ht1 := ht.1
  have pr : ∀ j : Nat, (j : Int) ≤ M 16 0 → 1 ≤ prN M (fun c => M 17 c) j ∧ prN M (fun c => M 17 c) j ≤ 2560000 := fun j hj => prN_40 hn.2.2.2 (by omega) (fun c c1 c2 => ht.2.2.2 c c1 (by omega))
  intro m
  induction m with
  | zero =>
    intro c hc N f hR h16
    have b := pr c (by omega)
    have e : c = (M 16 0).toNat := by omega
    rw [e] at b hR ⊢
    exact B_X6_rank_5 (by omega) (by omega) (by omega) (Nat.zero_le _) (Nat.zero_le _) C Y ⟨fun _ => kk N f hR (fun x x1 x2 => h16 x x1 (by omega)), fun q => absurd q (by omega)⟩
  | succ m ih =>
    intro c hc N f hR h16
    have b := pr c (by omega)
    have b2 := pr (c + 1) (by omega)
    rw [prN] at b2
    have e10 : N 10 c = M 17 c := (f 10 c (by decide) (by decide) (by decide) (by decide) (by decide)).trans (ht.2.2.1 c (by omega) (by omega))
    have rg := ht.2.2.2 c (by omega) (by omega)
    have e53 : N 53 (M 17 c) = A 53 (M 17 c) := f 53 _ (by decide) (by decide) (by decide) (by decide) (by decide)
    have w := (h.g rg.1 rg.2).2.2.2.2.2
    refine B_X6_rank_5 (by omega) (by omega) (by omega) (Nat.zero_le _) (Nat.zero_le _) C Y ⟨fun q => absurd q (by omega), fun _ => ?_⟩
    rw [e10, e53]
    refine ⟨by omega, ?_⟩
    have hc2 : (((c : Nat) : Int)).toNat = c := Int.toNat_natCast c
    refine (show _ → _ from ?_) (xr_34 (p := (M 16 0).toNat) (S := N) (M := M) (n := M 0 0) (c := c) (w := A 53 (M 17 c)) (pr := prN M (fun c => M 17 c) c) (z := M 17 c) C Y hn.2.2.2 rg (by omega) e10 w.1.1 w.2 b b2.2 (by omega) (fun P g1 g2 g3 g4 => ?_) (M 17 c + 1).toNat 0 0 (by omega) (by omega) N (fun _ _ _ _ => rfl) (fun _ _ _ _ _ => ⟨rfl, rfl⟩) ⟨by omega, fun i j i1 i2 i3 => absurd i3 (by omega), fun i i1 i2 => absurd i2 (by omega), fun y hy => absurd hy (by simp)⟩ (fun j j1 j2 => absurd j2 (by omega)))
    · intro q
      rw [show (((M 16 0).toNat : Nat) : Int) = M 16 0 by omega] at q
      exact q
    · rw [show (((M 16 0).toNat : Nat) : Int) = M 16 0 by omega]
      have q12 : ∀ i, up (up (up P 16 (c : Int) 0) 14 c (posN M (M 17 c))) 15 c (prN M (fun c => M 17 c) c) 12 i = P 12 i := fun i => by rw [up_c (by decide), up_c (by decide), up_c (by decide)]
      have q13 : ∀ i, up (up (up P 16 (c : Int) 0) 14 c (posN M (M 17 c))) 15 c (prN M (fun c => M 17 c) c) 13 i = P 13 i := fun i => by rw [up_c (by decide), up_c (by decide), up_c (by decide)]
      have q14 : ∀ i, up (up (up P 16 (c : Int) 0) 14 c (posN M (M 17 c))) 15 c (prN M (fun c => M 17 c) c) 14 i = if i = (c : Int) then posN M (M 17 c) else N 14 i := fun i => by
        rw [up_c (by decide)]
        split
        · rename_i e; rw [e, up_s]
        · rename_i e; rw [up_i e, up_c (by decide)]; exact g1 14 i (by decide) (by decide)
      have q15 : ∀ i, up (up (up P 16 (c : Int) 0) 14 c (posN M (M 17 c))) 15 c (prN M (fun c => M 17 c) c) 15 i = if i = (c : Int) then prN M (fun c => M 17 c) c else N 15 i := fun i => by
        split
        · rename_i e; rw [e, up_s]
        · rename_i e; rw [up_i e, up_c (by decide), up_c (by decide)]; exact g1 15 i (by decide) (by decide)
      have q16 : ∀ i, up (up (up P 16 (c : Int) 0) 14 c (posN M (M 17 c))) 15 c (prN M (fun c => M 17 c) c) 16 i = if i = (c : Int) then 0 else N 16 i := fun i => by
        rw [up_c (by decide), up_c (by decide)]
        split
        · rename_i e; rw [e, up_s]
        · rename_i e; rw [up_i e]; exact g1 16 i (by decide) (by decide)
      refine ih (c + 1) (by omega) _ (fun k i k1 k2 k3 k4 k5 => by rw [up_c k4, up_c k3, up_c k5, g1 k i k1 k2]; exact f k i k1 k2 k3 k4 k5) (fun x x1 x2 => ?_) (fun x x1 x2 => ?_)
      · unfold RnkC
        simp only [q12, q13, q14, q15]
        by_cases e : x = (c : Int)
        · rw [if_pos e, if_pos e, e]
          exact ⟨g3, g4, by rw [hc2, prN_wt]⟩
        · rw [if_neg e, if_neg e]
          have old := hR x x1 (by omega)
          have n14 : N 14 x ≤ 40 := by rw [rnk_n old]; exact (posN_r hn.2.2.2 (ht.2.2.2 x x1 (by omega))).2
          have e13 : ∀ j, P 13 (4 * j + x) = N 13 (4 * j + x) := fun j => (g2 j x x1 (by omega) e).2
          have e12 : ∀ j, P 12 (4 * j + x) = N 12 (4 * j + x) := fun j => (g2 j x x1 (by omega) e).1
          simp only [e13, e12]
          exact old
      · rw [q16]
        split
        · rfl
        · exact h16 x x1 (by omega)
theorem x_rank {g : Gs} {ad : Nat → Nat} {sk : (Nat → Nat) × (Nat → Nat)} {A M : Mem} (h : Jn A M) : SpI (wC g ad sk) yX6_rank cX6_rank 9 (some .int) 2 [.ref (ad 3), .ref (ad 19), vI (M 16 0)] (A) (fun r N => r = prN M (fun c => M 17 c) (M 16 0).toNat ∧ RkF A N ∧ RnkA M N (fun c => M 17 c) (M 16 0).toNat ∧ ∀ c, 0 ≤ c → c < M 16 0 → N 16 c = 0) := by
  have ht1 := h.2.1.1
  intro l9 hl9
  refine ct_of hl9 mi_X6_rank.2.2.2 (Nat.le_of_ble_eq_true rfl) (fun X _ C Y => ?_)
  show E (wC g ad sk) X 0 0 (A) 0 [(0, .ref (ad 3)), (1, .ref (ad 19)), (2, vI (M 16 0))] []
  refine e_wf (fun hw => ?_)
  refine B_X6_rank_0 (by omega) (Nat.zero_le _) (Nat.zero_le _) C Y ?_
  exact xr_5 C Y h (fun N h1 h2 h3 => ⟨_, rfl, rfl, h1, h2, h3⟩) (M 16 0).toNat 0 (by omega) A (fun _ _ _ _ _ _ _ => rfl) (fun c c1 c2 => absurd c2 (by omega)) (fun x x1 x2 => absurd x2 (by omega))
/-- what solve leaves: ranks and all scores of the table -/
def SvF (A B : Mem) : Prop := ∀ c i, (c < 12 ∨ 20 < c) → B c i = A c i
def Slvd (M B : Mem) : Prop := RnkA M B (fun c => M 17 c) (M 16 0).toNat ∧ B 20 0 = 4000 ∧ ScT M B (fun c => M 17 c) (M 16 0).toNat (prN M (fun c => M 17 c) (M 16 0).toNat)
theorem stL_cg {M B D : Mem} {z : Int → Int} {p : Nat} {l : Int → Int} (e : ∀ i, D 12 i = B 12 i) : stL M D z p l = stL M B z p l := by
  unfold stL
  exact stV_cg p (fun c c1 c2 => e _)
theorem rnkA_cg {M B D : Mem} {z : Int → Int} {p : Nat} (h : RnkA M B z p) (e : ∀ c i, (12 ≤ c ∧ c ≤ 15) → D c i = B c i) : RnkA M D z p := fun c c1 c2 => by
  have := h c c1 c2
  unfold RnkC at this ⊢
  simp only [e 12 _ (by omega), e 13 _ (by omega), e 14 _ (by omega), e 15 _ (by omega)]
  exact this
theorem Jn.svf {A B M : Mem} (h : Jn A M) (f : SvF A B) : Jn B M := h.cgA (fun c i hc => f c i (by omega))
theorem xv_36 {ma na : Nat} {g : Gs} {ad : Nat → Nat} {sk : (Nat → Nat) × (Nat → Nat)} {X : Cx} {PQ : Option Value → Mem → Prop} {PX : String → Mem → Prop} (C : OkB (wC g ad sk) X cX6_solve RX6 5 3 ma na) (Y : OkR (wC g ad sk) X none ma na PQ PX) {A M : Mem} (h : Jn A M) (h4 : prN M (fun c => M 17 c) (M 16 0).toNat ≤ 4000) (kk : ∀ N, SvF A N → Slvd M N → PQ none N) {kc ks : Nat} (hkc : kc ≤ ma) (hks : ks ≤ na) : ∀ (m : Nat) (K : Int), 0 ≤ K → K + m = prN M (fun c => M 17 c) (M 16 0).toNat → ∀ N, SvF A N → RnkA M N (fun c => M 17 c) (M 16 0).toNat → N 20 0 = 4000 → (1 ≤ m → DgO (wdM M (fun c => M 17 c)) (fun c => N 16 c) (M 16 0).toNat ∧ stV (wdM M (fun c => M 17 c)) (fun c => N 16 c) (M 16 0).toNat = K) → ScT M N (fun c => M 17 c) (M 16 0).toNat K → E (wC g ad sk) X kc ks N 36 [(0, .ref (ad 3)), (2, vI (M 16 0)), (3, vI (prN M (fun c => M 17 c) (M 16 0).toNat)), (4, vI K)] [] := by
  have hn := h.n
  have hG := hn.2.2.2
  have ht := h.2.1
  have ht1 := ht.1
  have hz : LnO (M 0 0) (M 16 0).toNat (fun c => M 17 c) := fun c c1 c2 => ht.2.2.2 c c1 (by omega)
  have ep : (((M 16 0).toNat : Nat) : Int) = M 16 0 := by omega
  intro m
  induction m with
  | zero =>
    intro K K0 hK N f hR h20 hd hT
    have : K = prN M (fun c => M 17 c) (M 16 0).toNat := by omega
    subst this
    exact B_X6_solve_36 (by omega) (by omega) (by omega) hkc hks C Y ⟨fun _ => kk N f ⟨hR, h20, hT⟩, fun q => absurd q (by omega)⟩
  | succ m ih =>
    intro K K0 hK N f hR h20 hd hT
    obtain ⟨d1, d2⟩ := hd (by omega)
    have hX := (h.svf f).1
    -- the line of this state
    have hl : InP M (fun c => M 17 c) (M 16 0).toNat (fun c => N 13 (4 * N 16 c + c)) := by
      intro c c1 c2
      have rc := hR c c1 c2
      have dc : 0 ≤ N 16 c ∧ N 16 c < posN M (M 17 c) := d1 c c1 c2
      have q := rc.1.2.2.1 (N 16 c) dc.1 (by rw [rnk_n rc]; exact dc.2)
      have q2 := posB_i.mp q.2.2
      have q1 : 0 ≤ N 13 (4 * N 16 c + c) := q.1
      rw [show (((fun j => N 13 (4 * j + c)) (N 16 c)).toNat : Int) = N 13 (4 * N 16 c + c) from Int.toNat_of_nonneg q1] at q2
      exact q2
    have hat : ∀ c, 0 ≤ c → c < (((M 16 0).toNat : Nat) : Int) → N 16 c = N 12 (4 * N 13 (4 * N 16 c + c) + c) := fun c c1 c2 => by
      have rc := hR c c1 c2
      have dc : 0 ≤ N 16 c ∧ N 16 c < posN M (M 17 c) := d1 c c1 c2
      exact (rc.2.1 (N 16 c) dc.1 (by rw [rnk_n rc]; exact dc.2)).symm
    have hKs : K = stL M N (fun c => M 17 c) (M 16 0).toNat (fun c => N 13 (4 * N 16 c + c)) := by
      rw [← d2]
      unfold stL
      exact (stV_cg _ (fun c c1 c2 => (hat c c1 c2).symm)).symm
    have lo := inP_ln hG hz hl
    have uqL : ∀ D : Mem, (∀ i, D 12 i = N 12 i) → ∀ l, InP M (fun c => M 17 c) (M 16 0).toNat l → stL M D (fun c => M 17 c) (M 16 0).toNat l = K → ∀ s v, Sc M (M 16 0).toNat (fun c => N 13 (4 * N 16 c + c)) s v → Sc M (M 16 0).toNat l s v := by
      intro D e l hl' e2 s v hv
      have e3 := stV_inj (rnk_dg hG hz hR hl') (rnk_dg hG hz hR hl) (by have := stL_cg (M := M) (B := N) (D := D) (z := fun c => M 17 c) (p := (M 16 0).toNat) (l := l) e; unfold stL at this e2 hKs; rw [← this, e2, hKs])
      refine (ScR.cg 24 _ _ s v (fun c c1 c2 => ?_)).mp hv
      have a := rnk_of hG (hz c c1 c2) (hR c c1 c2) (hl' c c1 c2)
      have b := rnk_of hG (hz c c1 c2) (hR c c1 c2) (hl c c1 c2)
      have q : N 12 (4 * l c + c) = N 12 (4 * N 13 (4 * N 16 c + c) + c) := e3 c c1 c2
      have b2 : N 13 (4 * N 12 (4 * N 13 (4 * N 16 c + c) + c) + c) = N 13 (4 * N 16 c + c) := b.2.2
      show N 13 (4 * N 16 c + c) = l c
      rw [← b2, ← q]; exact a.2.2
    have K4 : K < 4000 := by omega
    have sp0 := x_bestFrom (g := g) (ad := ad) (sk := sk) (K := K) (s := 0) hX (by omega) hz hR hl (fun c c1 c2 => hat c c1 c2) hKs K4 h20 hT (Or.inl rfl)
    rw [ep] at sp0
    refine B_X6_solve_36 (by omega) (by omega) (by omega) hkc hks C Y ⟨fun q => absurd q (by omega), fun _ => ⟨fun q => absurd q (by omega), fun _ => ⟨_, sp0, fun v0 hv0 => ?_⟩⟩⟩
    have v0r := sc_r hG (by omega) lo (Or.inl rfl) hv0
    have hX1 : RepX M (up N 17 K v0) (M 0 0) := hX.cx (fun c i hc => up_c (by omega))
    have hR1 : RnkA M (up N 17 K v0) (fun c => M 17 c) (M 16 0).toNat := rnkA_cg hR (fun c i hc => up_c (by omega))
    have e12 : ∀ i, up N 17 K v0 12 i = N 12 i := fun i => up_c (by decide)
    have hT1 : ScT M (up N 17 K v0) (fun c => M 17 c) (M 16 0).toNat K := by
      intro l hl' lt
      rw [stL_cg e12] at lt ⊢
      rw [up_i (by omega), up_c (by decide)]
      exact hT l hl' lt
    have sp1 := x_bestFrom (g := g) (ad := ad) (sk := sk) (B := up N 17 K v0) (K := K) (s := 1) hX1 (by omega) hz hR1 hl (fun c c1 c2 => by rw [up_c (by decide), up_c (by decide)]; exact hat c c1 c2) (by rw [stL_cg e12]; exact hKs) K4 (by rw [up_c (by decide)]; exact h20) hT1 (Or.inr rfl)
    rw [ep] at sp1
    refine ⟨by omega, by omega, _, sp1, fun v1 hv1 => ?_⟩
    have v1r := sc_r hG (by omega) lo (Or.inr rfl) hv1
    have q16 : ∀ i, up (up N 17 K v0) 18 K v1 16 i = N 16 i := fun i => by rw [up_c (by decide), up_c (by decide)]
    have q14 : ∀ i, up (up N 17 K v0) 18 K v1 14 i = N 14 i := fun i => by rw [up_c (by decide), up_c (by decide)]
    have sp2 := x_turn (g := g) (ad := ad) (sk := sk) (S := up (up N 17 K v0) 18 K v1) (p := (M 16 0).toNat) (w := wdM M (fun c => M 17 c)) (by omega) (fun c c1 c2 => ⟨by rw [q14]; exact rnk_n (hR c c1 c2), (posN_r hG (hz c c1 c2)).1, (posN_r hG (hz c c1 c2)).2⟩) (by simp only [q16]; exact d1)
    rw [ep] at sp2
    refine ⟨by omega, by omega, _, sp2, fun P hP => ⟨by omega, ?_⟩⟩
    obtain ⟨g1, g2⟩ := hP
    simp only [q16] at g2
    have p12 : ∀ i, P 12 i = N 12 i := fun i => by rw [g1 12 i (by decide), up_c (by decide), up_c (by decide)]
    refine ih (K + 1) (by omega) (by omega) P (fun c i hc => by rw [g1 c i (by omega), up_c (by omega), up_c (by omega)]; exact f c i hc) (rnkA_cg hR (fun c i hc => by rw [g1 c i (by omega), up_c (by omega), up_c (by omega)])) (by rw [g1 20 0 (by decide), up_c (by decide), up_c (by decide)]; exact h20) (fun m1 => ?_) (fun l hl' lt => ?_)
    · have := g2 (by rw [d2, ← prN_wt]; omega)
      rw [d2] at this
      exact this
    · have es := stL_cg (M := M) (B := N) (D := P) (z := fun c => M 17 c) (p := (M 16 0).toNat) (l := l) p12
      rw [g1 17 _ (by decide), g1 18 _ (by decide), up_c (show (17 : Nat) ≠ 18 by decide)]
      by_cases e : stL M P (fun c => M 17 c) (M 16 0).toNat l = K
      · rw [e, up_s, up_s]
        exact ⟨uqL P p12 l hl' e 0 v0 hv0, uqL P p12 l hl' e 1 v1 hv1⟩
      · rw [up_i e, up_i e, up_c (by decide)]
        rw [es] at e lt ⊢
        exact hT l hl' (by omega)
/-! scoreOf -/
theorem xo_6 {g : Gs} {ad : Nat → Nat} {sk : (Nat → Nat) × (Nat → Nat)} {X : Cx} {PQ : Option Value → Mem → Prop} {PX : String → Mem → Prop} (C : OkB (wC g ad sk) X cX6_scoreOf RX6 6 1 0 0) (Y : OkR (wC g ad sk) X (some .int) 0 0 PQ PX) {B M : Mem} {n : Int} {z : Int → Int} {p : Nat} {b f : Int} (hb : b = 0 ∨ b = 1) (hG : Good n M) (hp : p ≤ 4) (hz : LnO n p z) (hR : RnkA M B z p) (hl : InP M z p (fun c => B (lnC b) c)) (h4 : wtR (wdM M z) p ≤ 4000) (h20 : B 20 0 = 4000) (hf : R32 f) (kk : PQ (some (vI (if f = 0 then B 17 (stL M B z p (fun c => B (lnC b) c)) else B 18 (stL M B z p (fun c => B (lnC b) c))))) B) : ∀ (m c : Nat), c + m = p → E (wC g ad sk) X 0 0 (B) 6 [(0, .ref (ad 3)), (1, .ref (ad (lnA b))), (2, vI (p)), (3, vI (f)), (4, vI (stV (wdM M z) (rkL B (fun c => B (lnC b) c)) c)), (5, vI (c))] [] := by
  have h40 := hG.2.1
  have dg := rnk_dg hG hz hR hl
  have lo := inP_ln hG hz hl
  have wle : ∀ c : Nat, c ≤ p → wtR (wdM M z) c ≤ 4000 := fun c hc => by
    obtain ⟨q, q1, q2⟩ := wtR_mul (w := wdM M z) (p - c) c (fun x x1 x2 => (posN_r hG (hz x x1 (by omega))).1)
    rw [show c + (p - c) = p by omega] at q2
    have wp := wtR_p (w := wdM M z) c (fun x x1 x2 => (posN_r hG (hz x x1 (by omega))).1)
    have := Int.mul_le_mul_of_nonneg_left q1 (show 0 ≤ wtR (wdM M z) c by omega)
    omega
  have sr : ∀ c : Nat, c ≤ p → 0 ≤ stV (wdM M z) (rkL B (fun c => B (lnC b) c)) c ∧ stV (wdM M z) (rkL B (fun c => B (lnC b) c)) c < 4000 := fun c hc => by
    have := stV_r c (fun x x1 x2 => dg x x1 (by omega))
    have := wle c hc
    omega
  intro m
  induction m with
  | zero =>
    intro c hc
    have : c = p := by omega
    subst this
    have s9 := sr c (Nat.le_refl _)
    unfold stL at kk
    refine B_X6_scoreOf_6 (by omega) (by omega) (by omega) (by omega) (by omega) (Nat.zero_le _) (Nat.zero_le _) C Y ⟨fun _ => ⟨fun q => ⟨by omega, ?_⟩, fun q => ⟨by omega, ?_⟩⟩, fun q => absurd q (by omega)⟩
    · rw [if_neg q] at kk; exact kk
    · rw [if_pos q] at kk; exact kk
  | succ m ih =>
    intro c hc
    have s9 := sr c (by omega)
    have s10 := sr (c + 1) (by omega)
    have lc := lo c (by omega) (by omega)
    have e15 := (hR c (by omega) (by omega)).2.2
    rw [Int.toNat_natCast] at e15
    have dc := dg c (by omega) (by omega)
    have nn : 0 ≤ rkL B (fun c => B (lnC b) c) c * wtR (wdM M z) c := Int.mul_nonneg dc.1 (by have := wtR_p (w := wdM M z) c (fun x x1 x2 => (posN_r hG (hz x x1 (by omega))).1); omega)
    rw [stV] at s10
    refine B_X6_scoreOf_6 (by omega) (by omega) (by omega) (by omega) (by omega) (Nat.zero_le _) (Nat.zero_le _) C Y ⟨fun q => absurd q (by omega), fun _ => ?_⟩
    rw [e15]
    have lc' : 0 ≤ B (lnC b) (c : Int) ∧ B (lnC b) (c : Int) < n := lc
    have nn' : 0 ≤ B 12 (4 * B (lnC b) (c : Int) + c) * wtR (wdM M z) c := nn
    have s10' : 0 ≤ stV (wdM M z) (rkL B (fun c => B (lnC b) c)) c + B 12 (4 * B (lnC b) (c : Int) + c) * wtR (wdM M z) c ∧ stV (wdM M z) (rkL B (fun c => B (lnC b) c)) c + B 12 (4 * B (lnC b) (c : Int) + c) * wtR (wdM M z) c < 4000 := s10
    exact ⟨⟨by omega, by omega, by omega, by omega, by omega⟩, ih (c + 1) (by omega)⟩
theorem x_scoreOf {g : Gs} {ad : Nat → Nat} {sk : (Nat → Nat) × (Nat → Nat)} {B M : Mem} {n : Int} {z : Int → Int} {p : Nat} {b f : Int} (hb : b = 0 ∨ b = 1) (hG : Good n M) (hp : p ≤ 4) (hz : LnO n p z) (hR : RnkA M B z p) (hl : InP M z p (fun c => B (lnC b) c)) (h4 : wtR (wdM M z) p ≤ 4000) (h20 : B 20 0 = 4000) (hf : f = 0 ∨ f = 1) (hT : ScT M B z p (wtR (wdM M z) p)) : SpI (wC g ad sk) yX6_scoreOf cX6_scoreOf 6 (some .int) 1 [.ref (ad 3), .ref (ad (lnA b)), vI (p), vI (f)] (B) (fun v P => Sc M p (fun c => B (lnC b) c) f v ∧ P = B) := by
  intro l9 hl9
  refine ct_of hl9 mi_X6_scoreOf.2.2.2 (Nat.le_of_ble_eq_true rfl) (fun X _ C Y => ?_)
  show E (wC g ad sk) X 0 0 (B) 0 [(0, .ref (ad 3)), (1, .ref (ad (lnA b))), (2, vI (p)), (3, vI (f))] []
  refine e_wf (fun hw => ?_)
  have t := hT _ hl (stV_r p (rnk_dg hG hz hR hl)).2
  refine B_X6_scoreOf_0 (by omega) (by omega) (by omega) (Nat.zero_le _) (Nat.zero_le _) C Y ?_
  refine xo_6 C Y hb hG hp hz hR hl h4 h20 (by omega) ⟨_, rfl, ?_, rfl⟩ p 0 (by omega)
  rcases hf with rfl | rfl
  · exact t.1
  · exact t.2
