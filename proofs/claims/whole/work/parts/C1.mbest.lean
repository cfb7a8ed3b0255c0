/-! ===== the reference: all scores; best ===== -/
theorem ln_of {M B : Mem} {n K : Int} {z : Int → Int} {p : Nat} (hG : Good n M) (hz : LnO n p z) (hR : RnkA M B z p) (K0 : 0 ≤ K) (hK : K < wtR (wdM M z) p) : ∃ l, InP M z p l ∧ stL M B z p l = K := by
  obtain ⟨e, d⟩ := stV_ex (w := wdM M z) K0 p (fun c c1 c2 => (posN_r hG (hz c c1 c2)).1)
  rw [Int.emod_eq_of_lt K0 hK] at e
  refine ⟨fun c => B 13 (4 * (K / wtR (wdM M z) c.toNat % wdM M z c) + c), fun c c1 c2 => ?_, ?_⟩
  · have rc := hR c c1 c2
    have dc := d c c1 c2
    have q := rc.1.2.2.1 _ dc.1 (by rw [rnk_n rc]; exact dc.2)
    have q2 := posB_i.mp q.2.2
    rw [Int.toNat_of_nonneg q.1] at q2
    exact q2
  · refine Eq.trans ?_ e
    unfold stL
    refine stV_cg p (fun c c1 c2 => ?_)
    have rc := hR c c1 c2
    have dc := d c c1 c2
    exact rc.2.1 _ dc.1 (by rw [rnk_n rc]; exact dc.2)
theorem scT_k {M B D : Mem} {K : Int} {z : Int → Int} {p : Nat} (e12 : ∀ i, D 12 i = B 12 i) (o : ∀ i, i < K → D 17 i = B 17 i ∧ D 18 i = B 18 i) (hT : ScT M B z p K) : ScT M D z p K := fun l hl lt => by
  have e := stL_cg (M := M) (B := B) (D := D) (z := z) (p := p) (l := l) e12
  rw [e] at lt ⊢
  rw [(o _ lt).1, (o _ lt).2]
  exact hT l hl lt
theorem scT_s {M B D : Mem} {n K : Int} {z l : Int → Int} {p : Nat} (hG : Good n M) (hz : LnO n p z) (hR : RnkA M B z p) (hl : InP M z p l) (hK : stL M B z p l = K) (e12 : ∀ i, D 12 i = B 12 i) (o : ∀ i, i < K → D 17 i = B 17 i ∧ D 18 i = B 18 i) (hT : ScT M B z p K) (v0 : Sc M p l 0 (D 17 K)) (v1 : Sc M p l 1 (D 18 K)) : ScT M D z p (K + 1) := fun l' hl' lt => by
  have e := stL_cg (M := M) (B := B) (D := D) (z := z) (p := p) (l := l') e12
  by_cases q : stL M D z p l' = K
  · rw [q]
    have e3 := stV_inj (rnk_dg hG hz hR hl') (rnk_dg hG hz hR hl) (by have := e.symm.trans (q.trans hK.symm); exact this)
    have cg : ∀ c, 0 ≤ c → c < (p : Int) → l' c = l c := fun c c1 c2 => by
      have a := (rnk_of hG (hz c c1 c2) (hR c c1 c2) (hl' c c1 c2)).2.2
      have b := (rnk_of hG (hz c c1 c2) (hR c c1 c2) (hl c c1 c2)).2.2
      have w : B 12 (4 * l' c + c) = B 12 (4 * l c + c) := e3 c c1 c2
      rw [← a, ← b, w]
    exact ⟨(ScR.cg 24 _ _ 0 _ cg).mpr v0, (ScR.cg 24 _ _ 1 _ cg).mpr v1⟩
  · have := scT_k e12 o hT l' hl' (by omega)
    exact this
/-- the last place is the line itself -/
theorem stV_top {w : Int → Int} : ∀ p : Nat, stV w (fun c => w c - 1) p = wtR w p - 1 := by
  intro p
  induction p with
  | zero => rfl
  | succ p ih =>
    rw [stV, wtR, ih, Int.sub_mul, Int.mul_comm (w p)]
    omega
theorem rnk_top {M B : Mem} {n : Int} {z : Int → Int} {c : Int} (hG : Good n M) (hz : 0 ≤ z c ∧ z c < n) (h : RnkC M B z c) : B 12 (4 * z c + c) = posN M (z c) - 1 := by
  have s : Pt M (HotG M) (z c) (z c) := (pt_eq hG hz).mpr (Or.inl rfl)
  have a := rnk_of hG hz h s
  by_cases e : B 12 (4 * z c + c) + 1 < posN M (z c)
  · exfalso
    have lt : B 13 (4 * B 12 (4 * z c + c) + c) < B 13 (4 * (B 12 (4 * z c + c) + 1) + c) := h.1.2.1 _ _ a.1 (by omega) (by rw [rnk_n h]; exact e)
    have q := h.1.2.2.1 (B 12 (4 * z c + c) + 1) (by omega) (by rw [rnk_n h]; exact e)
    have q2 := posB_i.mp q.2.2
    rw [Int.toNat_of_nonneg q.1] at q2
    have q3 := (pt_le hG 6 _ _ hz.1 hz.2 q2).2
    have q3' : B 13 (4 * (B 12 (4 * z c + c) + 1) + c) ≤ z c := q3
    rw [a.2.2] at lt
    omega
  · omega
theorem stL_top {M B : Mem} {n : Int} {z : Int → Int} {p : Nat} (hG : Good n M) (hz : LnO n p z) (hR : RnkA M B z p) : stL M B z p z = wtR (wdM M z) p - 1 := by
  rw [← stV_top]
  unfold stL
  exact stV_cg p (fun c c1 c2 => rnk_top hG (hz c c1 c2) (hR c c1 c2))
theorem inP_z {M : Mem} {n : Int} {z : Int → Int} {p : Nat} (hG : Good n M) (hz : LnO n p z) : InP M z p z := fun c c1 c2 => (pt_eq hG (hz c c1 c2)).mpr (Or.inl rfl)
def LsF (M N : Mem) : Prop := ∀ c i, c ≠ 36 → c ≠ 39 → c ≠ 40 → c ≠ 41 → c ≠ 42 → N c i = M c i
theorem RfS.w2 {M N : Mem} {z : Int → Int} {p : Nat} {i v : Int} (h : RfS M N z p) : RfS M (up N 42 i v) z p := by
  refine ⟨fun k j hk => by rw [up_c (by omega)]; exact h.1 k j hk, by rw [up_c (by decide)]; exact h.2.1, fun c c1 c2 => ?_⟩
  have e40 : ∀ j, up N 42 i v 40 j = N 40 j := fun j => up_c (by decide)
  have e41 : ∀ j, up N 42 i v 41 j = N 41 j := fun j => up_c (by decide)
  have e39 : ∀ j, up N 42 i v 39 j = N 39 j := fun j => up_c (by decide)
  unfold PosC
  simp only [e40, e41, e39]
  exact h.2.2 c c1 c2
theorem ls_7 {g : Gs} {ad : Nat → Nat} {X : Cx} {PQ : Option Value → Mem → Prop} {PX : String → Mem → Prop} (C : OkB (wM g ad) X cX10_laysScores RX10 3 5 0 0) (Y : OkR (wM g ad) X (some .int) 0 0 PQ PX) {M : Mem} {n : Int} {z : Int → Int} {p : Nat} (hG : Good n M) (hp : p ≤ 4) (hz : LnO n p z) (h4 : wtR (wdM M z) p ≤ 4000) (kk : ∀ N, LsF M N → RfS M N z p → ScT M (vB M N z) z p (wtR (wdM M z) p) → PQ (some (vI (wtR (wdM M z) p - 1))) N) : ∀ (m : Nat) (K : Int), 0 ≤ K → K + m = wtR (wdM M z) p → ∀ N, LsF M N → RfS M N z p → ScT M (vB M N z) z p K → E (wM g ad) X 0 0 (N) 7 [(0, .ref (ad 0)), (1, vI (wtR (wdM M z) p)), (2, vI (K))] [] := by
  have wb := wt_40 hG hp hz (k := p) (Nat.le_refl _)
  intro m
  induction m with
  | zero =>
    intro K K0 hK N f h hT
    have e : K = wtR (wdM M z) p := by omega
    subst e
    exact B_X10_laysScores_7 (by omega) (by omega) (Nat.zero_le _) (Nat.zero_le _) C Y ⟨fun _ => ⟨by omega, kk N f h hT⟩, fun q => absurd q (by omega)⟩
  | succ m ih =>
    intro K K0 hK N f h hT
    obtain ⟨l, hl, hs⟩ := ln_of hG hz (h.rnk hp) K0 (by omega)
    have lo := inP_ln hG hz hl
    refine B_X10_laysScores_7 (by omega) (by omega) (Nat.zero_le _) (Nat.zero_le _) C Y ⟨fun q => absurd q (by omega), fun _ => ⟨by omega, _, m_scoreOf hG hp hz h hl hs.symm (by omega) hT (Or.inl rfl), fun v0 P hP => ?_⟩⟩
    obtain ⟨s0, e2⟩ := hP
    rw [e2]
    have r0 := sc_r hG hp lo (Or.inl rfl) s0
    have e12 : ∀ i, vB M (up N 42 (2 * K) v0) z 12 i = vB M N z 12 i := fun i => rfl
    have hT1 : ScT M (vB M (up N 42 (2 * K) v0) z) z p K := scT_k e12 (fun i hi => ⟨(show up N 42 (2 * K) v0 42 (2 * i) = N 42 (2 * i) from up_i (by omega)), (show up N 42 (2 * K) v0 42 (2 * i + 1) = N 42 (2 * i + 1) from up_i (by omega))⟩) hT
    have hs1 : stL M (vB M (up N 42 (2 * K) v0) z) z p l = K := (stL_cg e12).trans hs
    refine ⟨by omega, ⟨by omega, by omega⟩, _, m_scoreOf hG hp hz h.w2 hl hs1.symm (by omega) hT1 (Or.inr rfl), fun v1 P1 hP1 => ?_⟩
    obtain ⟨s1, e3⟩ := hP1
    rw [e3]
    have r1 := sc_r hG hp lo (Or.inr rfl) s1
    refine ⟨by omega, ⟨by omega, by omega⟩, ih (K + 1) (by omega) (by omega) _ (fun c i h1 h2 h3 h4 h5 => by rw [up_c h5, up_c h5]; exact f c i h1 h2 h3 h4 h5) h.w2.w2 ?_⟩
    refine scT_s (B := vB M (up N 42 (2 * K) v0) z) hG hz (h.w2.rnk hp) hl hs1 (fun i => rfl) (fun i hi => ⟨?_, ?_⟩) hT1 ?_ ?_
    · show up (up N 42 (2 * K) v0) 42 (2 * K + 1) v1 42 (2 * i) = up N 42 (2 * K) v0 42 (2 * i)
      exact up_i (by omega)
    · show up (up N 42 (2 * K) v0) 42 (2 * K + 1) v1 42 (2 * i + 1) = up N 42 (2 * K) v0 42 (2 * i + 1)
      exact up_i (by omega)
    · show Sc M p l 0 (up (up N 42 (2 * K) v0) 42 (2 * K + 1) v1 42 (2 * K))
      rw [up_i (by omega), up_s]; exact s0
    · show Sc M p l 1 (up (up N 42 (2 * K) v0) 42 (2 * K + 1) v1 42 (2 * K + 1))
      rw [up_s]; exact s1
theorem m_laysScores {g : Gs} {ad : Nat → Nat} {M : Mem} {n : Int} (hG : Good n M) (hp : 0 ≤ M 16 0 ∧ M 16 0 ≤ 4) (hl : ∀ c, 0 ≤ c → c < M 16 0 → 0 ≤ M 38 c ∧ M 38 c < n) (h4 : prN M (fun c => M 38 c) (M 16 0).toNat ≤ 4000) : SpI (wM g ad) yX10_laysScores cX10_laysScores 3 (some .int) 5 [.ref (ad 0)] (M) (fun r N => r = wtR (wdM M (fun c => M 38 c)) (M 16 0).toNat - 1 ∧ LsF M N ∧ RfS M N (fun c => M 38 c) (M 16 0).toNat ∧ ScT M (vB M N (fun c => M 38 c)) (fun c => M 38 c) (M 16 0).toNat (wtR (wdM M (fun c => M 38 c)) (M 16 0).toNat)) := by
  have hz : LnO n (M 16 0).toNat (fun c => M 38 c) := fun c c1 c2 => hl c c1 (by omega)
  rw [prN_wt] at h4
  have wb := wt_40 hG (by omega) hz (k := (M 16 0).toNat) (Nat.le_refl _)
  intro l9 hl9
  refine ct_of hl9 mi_X10_laysScores.2.2.2 (Nat.le_of_ble_eq_true rfl) (fun X _ C Y => ?_)
  show E (wM g ad) X 0 0 (M) 0 [(0, .ref (ad 0))] []
  refine e_wf (fun hw => ?_)
  refine B_X10_laysScores_0  (Nat.zero_le _) (Nat.zero_le _) C Y ⟨_, m_sizeNow hG hp hl, fun r N hN => ?_⟩
  obtain ⟨rfl, q⟩ := hN
  rw [prN_wt]
  refine ⟨by omega, ls_7 C Y hG (by omega) hz h4 (fun N f h t => ⟨_, rfl, rfl, f, h, t⟩) (wtR (wdM M (fun c => M 38 c)) (M 16 0).toNat).toNat 0 (by omega) (by omega) N (fun c i h1 h2 h3 h4 _ => q.1 c i h1 h2 h3 h4) ⟨fun k i hk => q.1 k i (by omega) (by omega) (by omega) (by omega), ?_, fun c c1 c2 => q.2 c c1 (by omega)⟩ (fun l hl' lt => absurd lt ?_)⟩
  · rw [q.1 16 0 (by decide) (by decide) (by decide) (by decide)]; omega
  · have := (stV_r (M 16 0).toNat (rnk_dg (B := vB M N (fun c => M 38 c)) hG hz (RfS.rnk ⟨fun k i hk => q.1 k i (by omega) (by omega) (by omega) (by omega), by rw [q.1 16 0 (by decide) (by decide) (by decide) (by decide)]; omega, fun c c1 c2 => q.2 c c1 (by omega)⟩ (by omega)) hl')).1
    unfold stL at *
    omega
