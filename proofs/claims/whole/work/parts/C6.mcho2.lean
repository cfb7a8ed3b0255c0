/-! ===== the reference: chosen whole; advice ===== -/
theorem chw_r {M : Mem} {n : Int} {p : Nat} {l : Int → Int} {s t c i mv mo : Int} (hG : Good n M) (hp : p ≤ 4) (hl : LnO n p l) (hs : s = 0 ∨ s = 1) (h : ChW M p l s t c i mv mo) : -1 ≤ mv ∧ mv ≤ 400 := by
  rcases h with ⟨a, -⟩ | ⟨d, j, a, b, -⟩
  · omega
  · have a1 := a.1.1
    have lc := hl d a1.1.1 a1.1.2
    have ob := opS_r (hG.2.2 (l d) lc.1 lc.2).1.1 (s := s) (by omega)
    have a2 := a1.1
    have a3 := a1.2.2
    omega
theorem ch_57 {g : Gs} {ad : Nat → Nat} {X : Cx} {PQ : Option Value → Mem → Prop} {PX : String → Mem → Prop} (C : OkB (wM g ad) X cX10_chosen RX10 9 6 0 0) (Y : OkR (wM g ad) X (some .int) 0 0 PQ PX) {M N : Mem} {n : Int} {l : Int → Int} {p c : Nat} {s t on : Int} (hG : Good n M) (hp : p ≤ 4) (hl : LnO n p l) (h : PlS M N l p) (hs : s = 0 ∨ s = 1) (ht : 0 ≤ t ∧ t ≤ 3) (h3 : t = 3 → ScS M N l p) (hc : c < p) (hon : (on = -1 ∧ t ≠ 1) ∨ (t = 1 ∧ HotC M p l on)) (kk : ∀ mv mo, ChW M p l s t ((c : Int) + 1) 0 mv mo → (-200000 ≤ mo ∧ mo ≤ 200000) → E (wM g ad) X 0 0 (N) 45 [(0, .ref (ad 0)), (1, vI (s)), (2, vI (t)), (3, vI (on)), (4, vI (mv)), (5, vI (mo)), (6, vI ((c : Int) + 1))] []) : ∀ (m i : Nat) (mv mo : Int), (i : Int) + m = M 3 (2 * l c + s) → ChW M p l s t c i mv mo → (-200000 ≤ mo ∧ mo ≤ 200000) → E (wM g ad) X 0 0 (N) 57 [(0, .ref (ad 0)), (1, vI (s)), (2, vI (t)), (3, vI (on)), (4, vI (mv)), (5, vI (mo)), (6, vI (c)), (7, vI (i))] [] := by
  have h40 := hG.2.1
  have lc := hl c (by omega) (by omega)
  have ob := opS_r (hG.2.2 (l c) lc.1 lc.2).1.1 (s := s) (by omega)
  have e38 := h.2.2 c (by omega) (by omega)
  have e3 : N 3 (2 * l c + s) = M 3 (2 * l c + s) := h.1 3 _ (by decide)
  have e6 : N 6 (l c) = M 6 (l c) := h.1 6 _ (by decide)
  have onr : -1 ≤ on ∧ on < 4 := by
    rcases hon with ⟨q, -⟩ | ⟨-, q⟩
    · omega
    · have := q.1; omega
  intro m
  induction m with
  | zero =>
    intro i mv mo hi hw hmo
    have mr := chw_r hG hp hl hs hw
    have X83 : E (wM g ad) X 0 0 (N) 83 [(0, .ref (ad 0)), (1, vI (s)), (2, vI (t)), (3, vI (on)), (4, vI (mv)), (5, vI (mo)), (6, vI (c)), (7, vI (i))] [] := by
      refine B_X10_chosen_83 (by omega) (by omega) (by omega) (by omega) (by omega) (by omega) (by omega) (Nat.zero_le _) (Nat.zero_le _) C Y ?_
      rw [e38, e3]
      exact ⟨⟨by omega, by omega, by omega⟩, fun q => ⟨by omega, kk mv mo (chi_n (Or.inr (Or.inr (by omega))) hw) hmo⟩, fun q => absurd q (by omega)⟩
    refine B_X10_chosen_57 (by omega) (by omega) (by omega) (by omega) (by omega) (by omega) (by omega) (Nat.zero_le _) (Nat.zero_le _) C Y ?_
    rw [e38, e6]
    exact ⟨⟨by omega, by omega⟩, fun q => ⟨by omega, kk mv mo (chi_n (Or.inl q) hw) hmo⟩, fun q => ⟨fun _ => X83, fun q1 => ⟨fun q2 => ⟨by omega, kk mv mo (chi_n (Or.inr (Or.inr (by omega))) hw) hmo⟩, fun _ => X83⟩⟩⟩
  | succ m ih =>
    intro i mv mo hi hw hmo
    have mr := chw_r hG hp hl hs hw
    have X83 : M 6 (l c) = 0 → (t = 1 → HotC M p l c) → E (wM g ad) X 0 0 (N) 83 [(0, .ref (ad 0)), (1, vI (s)), (2, vI (t)), (3, vI (on)), (4, vI (mv)), (5, vI (mo)), (6, vI (c)), (7, vI (i))] [] := by
      intro q6 qh
      have hm : Mv M p l s c i := ⟨⟨by omega, by omega⟩, q6, by omega, by omega⟩
      refine B_X10_chosen_83 (by omega) (by omega) (by omega) (by omega) (by omega) (by omega) (by omega) (Nat.zero_le _) (Nat.zero_le _) C Y ?_
      rw [e38, e3]
      refine ⟨⟨by omega, by omega, by omega⟩, fun q => absurd q (by omega), fun q => ⟨_, m_worth hG hp hl h hs ht h3 hm, fun w P hP => ?_⟩⟩
      obtain ⟨e1, e2⟩ := hP
      rw [e2]
      have wr := wo_r hG hp hl hs hm e1
      have st := chi_s ⟨hm, qh⟩ e1 hw
      refine ⟨by omega, fun q1 => ⟨⟨by omega, by omega, by omega⟩, ih (i + 1) _ _ (by omega) (st.1 (Or.inl q1)) wr⟩, fun q1 => ⟨fun q2 => ⟨by omega, ih (i + 1) _ _ (by omega) (st.2 q1 q2) hmo⟩, fun q2 => ⟨⟨by omega, by omega, by omega⟩, ih (i + 1) _ _ (by omega) (st.1 (Or.inr q2)) wr⟩⟩⟩
    refine B_X10_chosen_57 (by omega) (by omega) (by omega) (by omega) (by omega) (by omega) (by omega) (Nat.zero_le _) (Nat.zero_le _) C Y ?_
    rw [e38, e6]
    refine ⟨⟨by omega, by omega⟩, fun q => ⟨by omega, kk mv mo (chi_n (Or.inl q) hw) hmo⟩, fun q => ⟨fun q1 => X83 q (fun t1 => ?_), fun q1 => ⟨fun q2 => ⟨by omega, kk mv mo (chi_n (Or.inr (Or.inl ?_)) hw) hmo⟩, fun q2 => X83 q (fun t1 => ?_)⟩⟩⟩
    · rcases hon with ⟨-, w⟩ | ⟨-, w⟩
      · exact absurd t1 w
      · have := w.1; omega
    · rcases hon with ⟨w, -⟩ | ⟨w1, w2⟩
      · exact absurd w q1
      · exact ⟨w1, fun w3 => q2 (hot_uq w3 w2)⟩
    · rcases hon with ⟨w, -⟩ | ⟨w1, w2⟩
      · exact absurd w q1
      · rw [q2]; exact w2
theorem ch_45 {g : Gs} {ad : Nat → Nat} {X : Cx} {PQ : Option Value → Mem → Prop} {PX : String → Mem → Prop} (C : OkB (wM g ad) X cX10_chosen RX10 9 6 0 0) (Y : OkR (wM g ad) X (some .int) 0 0 PQ PX) {M N : Mem} {n : Int} {l : Int → Int} {p : Nat} {s t on : Int} (hG : Good n M) (hp : p ≤ 4) (hl : LnO n p l) (h : PlS M N l p) (hs : s = 0 ∨ s = 1) (ht : 0 ≤ t ∧ t ≤ 3) (h3 : t = 3 → ScS M N l p) (hon : (on = -1 ∧ t ≠ 1) ∨ (t = 1 ∧ HotC M p l on)) (hn : ¬ AllC M l p) (kk : ∀ r, (-1 ≤ r ∧ r ≤ 400) → Cho M p l s t r → PQ (some (vI r)) N) : ∀ (m c : Nat) (mv mo : Int), c + m = p → ChW M p l s t c 0 mv mo → (-200000 ≤ mo ∧ mo ≤ 200000) → E (wM g ad) X 0 0 (N) 45 [(0, .ref (ad 0)), (1, vI (s)), (2, vI (t)), (3, vI (on)), (4, vI (mv)), (5, vI (mo)), (6, vI (c))] [] := by
  have h40 := hG.2.1
  have e16 := h.2.1
  have onr : -1 ≤ on ∧ on < 4 := by
    rcases hon with ⟨q, -⟩ | ⟨-, q⟩
    · omega
    · have := q.1; omega
  intro m
  induction m with
  | zero =>
    intro c mv mo hc hw hmo
    have mr := chw_r hG hp hl hs hw
    have e : c = p := by omega
    subst e
    refine B_X10_chosen_45 (by omega) (by omega) (by omega) (by omega) (by omega) (by omega) (Nat.zero_le _) (Nat.zero_le _) C Y ⟨fun _ => kk mv mr (chi_end hG hl hs hn (fun t1 => ?_) hw), fun q => absurd q (by omega)⟩
    rcases hon with ⟨-, w⟩ | ⟨-, w⟩
    · exact absurd t1 w
    · exact ⟨on, w⟩
  | succ m ih =>
    intro c mv mo hc hw hmo
    have mr := chw_r hG hp hl hs hw
    have lc := hl c (by omega) (by omega)
    have ob := opS_r (hG.2.2 (l c) lc.1 lc.2).1.1 (s := s) (by omega)
    exact B_X10_chosen_45 (by omega) (by omega) (by omega) (by omega) (by omega) (by omega) (Nat.zero_le _) (Nat.zero_le _) C Y ⟨fun q => absurd q (by omega), fun _ => ch_57 C Y hG hp hl h hs ht h3 (by omega) hon (fun mv2 mo2 w1 w2 => ih (c + 1) mv2 mo2 (by omega) w1 w2) (M 3 (2 * l c + s)).toNat 0 mv mo (by omega) hw hmo⟩
def ChF (M N : Mem) : Prop := ∀ c i, c ≠ 36 → (c < 39 ∨ 43 < c) → N c i = M c i
theorem m_chosen {g : Gs} {ad : Nat → Nat} {M : Mem} {n s t : Int} (hG : Good n M) (hp : 0 ≤ M 16 0 ∧ M 16 0 ≤ 4) (hl : ∀ c, 0 ≤ c → c < M 16 0 → 0 ≤ M 38 c ∧ M 38 c < n) (hs : s = 0 ∨ s = 1) (ht : 0 ≤ t ∧ t ≤ 3) (h4 : t = 3 → prN M (fun c => M 38 c) (M 16 0).toNat ≤ 4000) : SpI (wM g ad) yX10_chosen cX10_chosen 9 (some .int) 6 [.ref (ad 0), vI (s), vI (t)] (M) (fun r N => (-1 ≤ r ∧ r ≤ 400) ∧ Cho M (M 16 0).toNat (fun c => M 38 c) s t r ∧ ChF M N) := by
  have hz : LnO n (M 16 0).toNat (fun c => M 38 c) := fun c c1 c2 => hl c c1 (by omega)
  have p4 : (M 16 0).toNat ≤ 4 := by omega
  have s0 : PlS M M (fun c => M 38 c) (M 16 0).toNat := ⟨fun _ _ _ => rfl, by omega, fun _ _ _ => rfl⟩
  intro l9 hl9
  refine ct_of hl9 mi_X10_chosen.2.2.2 (Nat.le_of_ble_eq_true rfl) (fun X _ C Y => ?_)
  show E (wM g ad) X 0 0 (M) 0 [(0, .ref (ad 0)), (1, vI (s)), (2, vI (t))] []
  refine e_wf (fun hw => ?_)
  have go45 : ∀ (N : Mem) (on : Int), ChF M N → PlS M N (fun c => M 38 c) (M 16 0).toNat → (t = 3 → ScS M N (fun c => M 38 c) (M 16 0).toNat) → ¬ AllC M (fun c => M 38 c) (M 16 0).toNat → ((on = -1 ∧ t ≠ 1) ∨ (t = 1 ∧ HotC M (M 16 0).toNat (fun c => M 38 c) on)) → E (wM g ad) X 0 0 (N) 45 [(0, .ref (ad 0)), (1, vI (s)), (2, vI (t)), (3, vI (on)), (4, vI (-1)), (5, vI (0)), (6, vI (0))] [] := fun N on f h h3 hn hon => ch_45 C Y hG p4 hz h hs ht h3 hon hn (fun r r1 r2 => ⟨r, rfl, r1, r2, f⟩) (M 16 0).toNat 0 (-1) 0 (by omega) chi_0 (by omega)
  have go22 : ∀ (N : Mem), ChF M N → PlS M N (fun c => M 38 c) (M 16 0).toNat → (t = 3 → ScS M N (fun c => M 38 c) (M 16 0).toNat) → ¬ AllC M (fun c => M 38 c) (M 16 0).toNat → E (wM g ad) X 0 0 (N) 22 [(0, .ref (ad 0)), (1, vI (s)), (2, vI (t))] [] := by
    intro N f h h3 hn
    refine B_X10_chosen_22 (by omega) (by omega) (Nat.zero_le _) (Nat.zero_le _) C Y ⟨fun q => go45 N (-1) f h h3 hn (Or.inl ⟨rfl, q⟩), fun q => ⟨_, m_hottest hG p4 hz h, fun r P hP => ?_⟩⟩
    obtain ⟨e1, e2⟩ := hP
    rw [e2]
    rcases e1 with ⟨-, e1⟩ | e1
    · exact absurd e1 hn
    · have := e1.1
      exact ⟨by omega, go45 N r f h h3 hn (Or.inr ⟨q, e1⟩)⟩
  refine B_X10_chosen_0 (by omega) (by omega) (Nat.zero_le _) (Nat.zero_le _) C Y ⟨_, m_isOver hG p4 hz s0, fun r P hP => ?_⟩
  obtain ⟨h01, hA, e2⟩ := hP
  rw [e2]
  refine ⟨h01, fun q => ⟨fun q3 => go22 M (fun _ _ _ _ => rfl) s0 (fun w => absurd w q3) (fun w => ?_), fun q3 => ⟨_, m_laysScores hG hp hl (h4 q3), fun r2 N hN => ?_⟩⟩, fun q => ⟨-1, rfl, by omega, Or.inl ⟨hA.mp (by omega), rfl⟩, fun _ _ _ _ => rfl⟩⟩
  · have := hA.mpr w; omega
  · obtain ⟨e1, f, hR, hT⟩ := hN
    have h4' := h4 q3
    rw [prN_wt] at h4'
    have wb := wt_40 hG p4 hz (k := (M 16 0).toNat) (Nat.le_refl _)
    have eV : vB M (up N 43 0 r2) (fun c => M 38 c) = vB M N (fun c => M 38 c) := rfl
    refine ⟨by omega, go22 (up N 43 0 r2) (fun c i h1 h2 => ?_) ⟨fun k i hk => ?_, ?_, fun c c1 c2 => ?_⟩ (fun _ => ⟨⟨fun k i hk => ?_, ?_, fun c c1 c2 => ?_⟩, ?_, ?_, h4'⟩) (fun w => ?_)⟩
    · rw [up_c (by omega)]; exact f c i h1 (by omega) (by omega) (by omega) (by omega)
    · rw [up_c (by omega)]; exact hR.1 k i hk
    · rw [up_c (by decide)]; exact hR.2.1
    · rw [up_c (by decide)]; exact f 38 c (by decide) (by decide) (by decide) (by decide) (by decide)
    · rw [up_c (by omega)]; exact hR.1 k i hk
    · rw [up_c (by decide)]; exact hR.2.1
    · have e40 : ∀ j, up N 43 0 r2 40 j = N 40 j := fun j => up_c (by decide)
      have e41 : ∀ j, up N 43 0 r2 41 j = N 41 j := fun j => up_c (by decide)
      have e39 : ∀ j, up N 43 0 r2 39 j = N 39 j := fun j => up_c (by decide)
      unfold PosC
      simp only [e40, e41, e39]
      exact hR.2.2 c c1 c2
    · rw [eV]; exact hT
    · rw [up_s]; exact e1
    · have := hA.mpr w; omega
noncomputable def kA (M : Mem) (s t : Int) : Int := if (s = 0 ∨ s = 1) ∧ 0 ≤ t ∧ t ≤ 3 then (if t = 3 ∧ 4000 < prN M (fun c => M 17 c) (M 16 0).toNat then 2 else 0) else 1
def AdvR (M : Mem) (s t : Int) : Int → Int → Mem → Prop := fun k r N => k = kA M s t ∧ (k = 0 → Cho M (M 16 0).toNat (fun c => M 17 c) s t r) ∧ FrP M N
theorem ma_47 {g : Gs} {ad : Nat → Nat} {X : Cx} {PQ : Option Value → Mem → Prop} {PX : String → Mem → Prop} (C : OkB (wM g ad) X cX10_advice RX10 3 7 0 0) (Y : OkR (wM g ad) X (some .int) 0 0 PQ PX) {A M N : Mem} {s t : Int} (h : Jn A M) (hs : s = 0 ∨ s = 1) (ht : 0 ≤ t ∧ t ≤ 3) (h4 : t = 3 → prN M (fun c => M 17 c) (M 16 0).toNat ≤ 4000) (q1 : PlyI M N) (kk : ∀ r S, AdvR M s t (S 20 0) r S → PQ (some (vI r)) S) : E (wM g ad) X 0 0 (N) 47 [(0, .ref (ad 0)), (1, vI (s)), (2, vI (t))] [vI (0), .ref (ad 0)] := by
  have ht1 := h.2.1.1
  have q2 : PlyI M (up N 20 0 0) := ⟨fun c i h1 h2 h3 => by rw [up_c h1]; exact q1.1 c i h1 h2 h3, fun c c1 c2 => by rw [up_c (by decide)]; exact q1.2 c c1 c2⟩
  obtain ⟨w15, wG, w16, wl, wp⟩ := ply_pr h q2
  refine B_X10_advice_47 (by omega) (by omega) (by omega) (Nat.zero_le _) (Nat.zero_le _) C Y ⟨fun _ => ⟨_, m_chosen wG (by omega) wl hs ht (fun q => by rw [wp]; exact h4 q), fun r S hS => ?_⟩, fun w => absurd w (by decide)⟩
  obtain ⟨rr, hC, f⟩ := hS
  have e20 : S 20 0 = 0 := by rw [f 20 0 (by decide) (by decide), up_s]
  refine ⟨by omega, kk r S ⟨?_, fun _ => ?_, fun c i h1 h2 h3 => ?_⟩⟩
  · rw [e20, kA, if_pos ⟨hs, ht⟩, if_neg (fun w => by have := h4 w.1; omega)]
  · rw [w16] at hC
    exact cho_cg (l' := fun c => up N 20 0 0 38 c) (fun c c1 c2 => q2.2 c c1 (by omega)) ((cho_mg w15).mp hC)
  · rw [f c i h2 (by omega)]; exact q2.1 c i h1 h2 h3
theorem m_advice {g : Gs} {ad : Nat → Nat} {A M : Mem} {s t : Int} (h : Jn A M) (hs : R32 s) (ht : R32 t) : SpI (wM g ad) yX10_advice cX10_advice 3 (some .int) 7 [.ref (ad 0), vI (s), vI (t)] (M) (fun r N => AdvR M s t (N 20 0) r N) := by
  have hn := h.n
  have htt := h.2.1
  have ht1 := htt.1
  have pr := prN_40 (M := M) (l := fun c => M 17 c) hn.2.2.2 (k := (M 16 0).toNat) (by omega) (fun c c1 c2 => htt.2.2.2 c c1 (by omega))
  intro l9 hl9
  refine ct_of hl9 mi_X10_advice.2.2.2 (Nat.le_of_ble_eq_true rfl) (fun X _ C Y => ?_)
  show E (wM g ad) X 0 0 (M) 0 [(0, .ref (ad 0)), (1, vI (s)), (2, vI (t))] []
  refine e_wf (fun hw => ?_)
  refine B_X10_advice_0 (by omega) (by omega) (Nat.zero_le _) (Nat.zero_le _) C Y ⟨_, m_plays ht1, fun P hP => ?_⟩
  obtain ⟨f1, f2⟩ := hP
  have q0 : PlyI M P := ⟨fun c i h1 h2 h3 => f1 c i (by omega), f2⟩
  have bad : ∀ (N : Mem) (k : Int), PlyI M N → (k = 1 ∨ k = 2) → k = kA M s t → E (wM g ad) X 0 0 (N) 47 [(0, .ref (ad 0)), (1, vI (s)), (2, vI (t))] [vI (k), .ref (ad 0)] := by
    intro N k q hk e
    refine B_X10_advice_47 (by omega) (by omega) (by omega) (Nat.zero_le _) (Nat.zero_le _) C Y ⟨fun w => absurd (by omega) w, fun _ => ⟨_, rfl, ?_, fun w => ?_, fun c i h1 h2 h3 => ?_⟩⟩
    · rw [up_s]; exact e
    · rw [up_s] at w; omega
    · rw [up_c h1]; exact q.1 c i h1 h2 h3
  refine ⟨fun c => bad P 1 q0 (Or.inl rfl) (by rw [kA, if_neg (fun w => c (by omega))]), fun c => ⟨fun c1 => ⟨fun c2 => ?_, fun c2 => ?_⟩, fun c1 => bad P 1 q0 (Or.inl rfl) (by rw [kA, if_neg (fun w => c1 w.2)])⟩⟩
  · exact ma_47 C Y h (by omega) c1 (fun w => absurd w c2) q0 (fun r S hS => ⟨r, rfl, hS⟩)
  · obtain ⟨p15, pG, p16, pl, pp⟩ := ply_pr h q0
    refine ⟨_, m_sizeNow pG (by omega) pl, fun r N hN => ?_⟩
    obtain ⟨e1, qN, -⟩ := hN
    rw [e1, pp]
    have q1 : PlyI M N := ⟨fun c i h1 h2 h3 => (qN c i (by omega) (by omega) (by omega) (by omega)).trans (q0.1 c i h1 h2 h3), fun c c1 c2 => (qN 38 c (by decide) (by decide) (by decide) (by decide)).trans (q0.2 c c1 c2)⟩
    refine ⟨by omega, fun s4 => ma_47 C Y h (by omega) c1 (fun _ => s4) q1 (fun r S hS => ⟨r, rfl, hS⟩), fun s4 => bad N 2 q1 (Or.inr rfl) ?_⟩
    rw [kA, if_pos ⟨by omega, c1⟩, if_pos ⟨c2, s4⟩]
