/-! ===== fault ===== -/
theorem kdA_cg {u u' : Int → Int} {L x : Int} (h : ∀ i, 0 ≤ i → i < L → u i = u' i) (hx : 0 ≤ x) : kdA u' L x = kdA u L x := by
  unfold kdA
  split
  · rw [h x hx (by assumption)]
  · rfl
theorem tok_cg {u u' : Int → Int} {L e : Int} (h : ∀ i, 0 ≤ i → i < L → u i = u' i) (he : 0 ≤ e ∧ e ≤ L) : stF u' L e = stF u L e ∧ kdF u' L e = kdF u L e ∧ enF u' L e = enF u L e := by
  have t := tok_ex (u := u) he.2
  have r := atT_r (u := u) he
  obtain ⟨a1, a2, a3, a4, a5, a6, a7, a8⟩ := t
  have t' : Tok u' L e (stF u L e) (kdF u L e) (enF u L e) := ⟨a1, fun x x0 x1 => by rw [← h x (by omega) (by omega)]; exact a2 x x0 x1, fun q => by rw [← h _ (by omega) q]; exact a3 q, by rw [kdA_cg h (by omega)]; exact a4, a5, a6, fun q => ⟨fun x x0 x1 => by rw [kdA_cg h (by omega)]; exact (a7 q).1 x x0 x1, by rw [kdA_cg h (by omega)]; exact (a7 q).2⟩, a8⟩
  obtain ⟨b1, b2, b3⟩ := tok_eq t'
  exact ⟨b1.symm, b2.symm, b3.symm⟩
theorem nm_cg {u u' : Int → Int} {L e : Int} (h : ∀ i, 0 ≤ i → i < L → u i = u' i) (he : 0 ≤ e ∧ e ≤ L) : nmK u' L e = nmK u L e ∧ dgF u' L e = dgF u L e := by
  have t := tok_cg h he
  have r := atT_r (u := u) he
  have hs : ∀ k, 0 ≤ k → k < enF u L e - stF u L e → u' (stF u L e + k) = u (stF u L e + k) := fun k k0 k1 => (h _ (by omega) (by omega)).symm
  have h0 : 0 < enF u L e - stF u L e → u' (stF u L e) = u (stF u L e) := fun q => by have := hs 0 (by omega) q; rwa [Int.add_zero] at this
  constructor
  · unfold nmK
    rw [t.1, t.2.2]
    have c0 : (enF u L e - stF u L e = 4 ∧ u' (stF u L e) = 115 ∧ u' (stF u L e + 1) = 116 ∧ u' (stF u L e + 2) = 97 ∧ u' (stF u L e + 3) = 114) ↔ (enF u L e - stF u L e = 4 ∧ u (stF u L e) = 115 ∧ u (stF u L e + 1) = 116 ∧ u (stF u L e + 2) = 97 ∧ u (stF u L e + 3) = 114) := by
      constructor
      · intro q; have l := q.1; rw [h0 (by omega), hs 1 (by omega) (by omega), hs 2 (by omega) (by omega), hs 3 (by omega) (by omega)] at q; exact q
      · intro q; have l := q.1; rw [h0 (by omega), hs 1 (by omega) (by omega), hs 2 (by omega) (by omega), hs 3 (by omega) (by omega)]; exact q
    have c1 : (enF u L e - stF u L e = 2 ∧ u' (stF u L e) = 117 ∧ u' (stF u L e + 1) = 112) ↔ (enF u L e - stF u L e = 2 ∧ u (stF u L e) = 117 ∧ u (stF u L e + 1) = 112) := by
      constructor
      · intro q; have l := q.1; rw [h0 (by omega), hs 1 (by omega) (by omega)] at q; exact q
      · intro q; have l := q.1; rw [h0 (by omega), hs 1 (by omega) (by omega)]; exact q
    have c2 : (enF u L e - stF u L e = 4 ∧ u' (stF u L e) = 100 ∧ u' (stF u L e + 1) = 111 ∧ u' (stF u L e + 2) = 119 ∧ u' (stF u L e + 3) = 110) ↔ (enF u L e - stF u L e = 4 ∧ u (stF u L e) = 100 ∧ u (stF u L e + 1) = 111 ∧ u (stF u L e + 2) = 119 ∧ u (stF u L e + 3) = 110) := by
      constructor
      · intro q; have l := q.1; rw [h0 (by omega), hs 1 (by omega) (by omega), hs 2 (by omega) (by omega), hs 3 (by omega) (by omega)] at q; exact q
      · intro q; have l := q.1; rw [h0 (by omega), hs 1 (by omega) (by omega), hs 2 (by omega) (by omega), hs 3 (by omega) (by omega)]; exact q
    exact ite_congr (propext c0) (fun _ => rfl) (fun _ => ite_congr (propext c1) (fun _ => rfl) (fun _ => ite_congr (propext c2) (fun _ => rfl) (fun _ => rfl)))
  · unfold dgF
    rw [t.1, t.2.1, t.2.2]
    by_cases k3 : kdF u L e = 3
    · have lt := r.2.2.2 (by omega)
      rw [h0 (by omega)]
      by_cases l2 : enF u L e - stF u L e = 2
      · rw [hs 1 (by omega) (by omega)]
      · rw [if_neg l2, if_neg l2]
    · rw [if_neg (fun q => k3 q.1), if_neg (fun q => k3 q.1)]
theorem pos_cg {u u' : Int → Int} {L e : Int} (h : ∀ i, 0 ≤ i → i < L → u i = u' i) (he : 0 ≤ e ∧ e ≤ L) : posF u' L e = posF u L e := by
  have r1 := atT_r (u := u) he
  have r2 := atT_r (u := u) (L := L) (e := enF u L e) (by omega)
  have t1 := tok_cg h he
  have t2 := tok_cg h (e := enF u L e) (by omega)
  have t3 := tok_cg h (e := enF u L (enF u L e)) (by omega)
  have n1 := nm_cg h he
  have n3 := nm_cg h (e := enF u L (enF u L e)) (by omega)
  unfold posF
  rw [n1.2, t1.1, t1.2.2, t2.2.1, t2.2.2, n3.2, t3.1, t3.2.2]
theorem rd_tx {u u' : Int → Int} {L w o : Int} {b : Int → Int} {e : Int} (h : ∀ i, 0 ≤ i → i < L → u i = u' i) (he : 0 ≤ e ∧ e ≤ L) : rdF u' L w o b e = rdF u L w o b e := by
  have r1 := atT_r (u := u) he
  have r2 := atT_r (u := u) (L := L) (e := enF u L e) (by omega)
  have t1 := tok_cg h he
  have t2 := tok_cg h (e := enF u L e) (by omega)
  have n1 := nm_cg h he
  have p1 := pos_cg h he
  have p2 := pos_cg h (e := enF u L e) (by omega)
  have p3 := pos_cg h (e := enF u L (enF u L e)) (by omega)
  have ka := kdA_cg h (x := enF u L e) (by omega)
  unfold rdF bhF gmF
  rw [t1.1, t1.2.1, t1.2.2, n1.1, t2.2.2, p1, p2, p3, ka]
theorem rn_tx {u u' : Int → Int} {L w o : Int} {b : Int → Int} {e f : Int} {xs : List Int} (h : ∀ i, 0 ≤ i → i < L → u i = u' i) (ms : Ms L w o e) (k : Rn u L w o b e f xs) : Rn u' L w o b e f xs := by
  obtain ⟨n, k⟩ := k
  induction n generalizing w o b e xs with
  | zero => exact ⟨0, k⟩
  | succ n ih =>
    rcases k.cs with ⟨h1, h2, h3⟩ | ⟨h1, h2, h3⟩ | ⟨h1, w1, o1, b1, e1, ys, zs, k1, hk1, h2, h3, h4⟩
    · exact ⟨0, h1, h2, h3⟩
    · rw [h3]; exact Rn.ft h1 (by rw [rd_tx h ms.2.2.2]; exact h2)
    · have ek : k1 = n := by omega
      subst ek
      rw [h4]
      exact Rn.nx h1 (by rw [rd_tx h ms.2.2.2]; exact h2) (ih ((rd_ms ms h1).2 _ _ _ _ _ h2).1 h3)
theorem ms_0 {L : Int} (h : 0 ≤ L) : Ms L 0 0 0 := ⟨by decide, by decide, by decide, by omega⟩
/-- both parsers say the same -/
theorem rn_joint {A M : Mem} {b : Int → Int} {f f' : Int} {xs xs' : List Int} (t : TxtJ A M) (h : Rn (fun i => A 24 i) (A 23 0) 0 0 b 0 f xs) (k : Rn (fun i => M 23 i) (M 24 0) 0 0 (fun _ => 0) 0 f' xs') : f = f' ∧ xs = xs' := by
  obtain ⟨t1, t2, t3⟩ := t
  rw [t2] at h
  exact rn_uq (rn_tx (u' := fun i => M 23 i) (fun i i0 i1 => (t3 i i0 i1).1) (ms_0 t1.1) h) (ms_0 t1.1) (fun i i0 i1 => absurd i1 (by omega)) k
/-- nothing is made -/
def J0 (M0 : Mem) (M : Mem) (_ : Int) (_ : Int → Int) (_ : List Int) : Prop := (∀ c i, (c < 44 ∨ 58 < c) → M c i = M0 c i) ∧ M 52 0 = 0
theorem hk_0 {g : Gs} {ad : Nat → Nat} {u : Int → Int} {L : Int} {M0 : Mem} : HK g ad u L (J0 M0) := by
  refine ⟨fun M N o b ys h f => ⟨fun c i hc => (f c i (by omega) (by omega) (by omega) (by omega) (by omega) (by omega) (by omega) (by omega)).trans (h.1 c i hc), (f 52 0 (by decide) (by decide) (by decide) (by decide) (by decide) (by decide) (by decide) (by decide)).trans h.2⟩, fun M o b ys co ho h => ⟨fun c i hc => ?_, ?_⟩, fun M o b ys co ho h => ⟨fun c i hc => ?_, ?_⟩, fun M o b ys co ho h => ?_, fun M o b ys x f co ho h hx sg => ?_, fun M o b ys k co ho h hx => ?_⟩
  · unfold opM; rw [up_c (by omega), up_c (by omega), up_c (by omega), up_c (by omega)]; exact h.1 c i hc
  · unfold opM; rw [up_c (by decide), up_c (by decide), up_c (by decide), up_c (by decide)]; exact h.2
  · rw [up_c (by omega)]; exact h.1 c i hc
  · rw [up_c (by decide)]; exact h.2
  · have a3 := co.2.1
    intro l9 hl9
    refine ct_of hl9 mi_X10_closes.2.2.2 (Nat.le_of_ble_eq_true rfl) (fun X _ C Y => ?_)
    show E (wM g ad) X 0 0 (M) 0 [(0, .ref (ad 0))] []
    refine e_wf (fun hw => ?_)
    refine B_X10_closes_0  (Nat.zero_le _) (Nat.zero_le _) C Y ⟨by omega, fun _ => ⟨3, rfl, rfl, ⟨fun c i hc => by rw [up_c (by omega)]; exact h.1 c i hc, by rw [up_c (by decide)]; exact h.2⟩, ?_, fun c i hc => up_c (by omega)⟩, fun q => absurd h.2 q⟩
    obtain ⟨⟨a1, a2⟩, a3, a4, a5⟩ := co
    exact ⟨⟨fun i => by rw [up_c (by decide)]; exact a1 i, by rw [up_c (by decide)]; exact a2⟩, by rw [up_s, a3], fun i i0 i1 => by rw [up_c (by decide)]; exact a4 i i0 (by omega), fun i i0 i1 => a5 i i0 (by omega)⟩
  · intro l9 hl9
    refine ct_of hl9 mi_X10_numberIs.2.2.2 (Nat.le_of_ble_eq_true rfl) (fun X _ C Y => ?_)
    show E (wM g ad) X 0 0 (M) 0 [(0, .ref (ad 0)), (1, vI (x))] []
    refine e_wf (fun hw => ?_)
    exact B_X10_numberIs_0 (by omega) (Nat.zero_le _) (Nat.zero_le _) C Y ⟨fun _ => ⟨rfl, h, co, fun _ _ _ => rfl⟩, fun q => absurd h.2 q⟩
  · intro l9 hl9
    refine ct_of hl9 mi_X10_nameIs.2.2.2 (Nat.le_of_ble_eq_true rfl) (fun X _ C Y => ?_)
    show E (wM g ad) X 0 0 (M) 0 [(0, .ref (ad 0)), (1, vI (k))] []
    refine e_wf (fun hw => ?_)
    exact B_X10_nameIs_0 (by omega) (Nat.zero_le _) (Nat.zero_le _) C Y ⟨fun _ => ⟨rfl, h, co, fun _ _ _ => rfl⟩, fun q => absurd h.2 q⟩
theorem m_goes0 {g : Gs} {ad : Nat → Nat} {M : Mem} (hL : 0 ≤ M 24 0 ∧ M 24 0 ≤ 80) : SpI (wM g ad) yX10_goes cX10_goes 4 (some .int) 12 [.ref (ad 0), vI (0)] (M) (fun r N => R32 r ∧ (∃ xs, Rn (fun i => M 23 i) (M 24 0) 0 0 (fun _ => 0) 0 r xs) ∧ (∀ c i, (c < 44 ∨ 58 < c) → N c i = M c i)) := by
  refine (m_goes (hk_0 (M0 := M)) hL (Or.inl rfl) (fun i => rfl) rfl ⟨fun c i hc => ?_, ?_⟩).mono (fun r N hN => ?_)
  · rw [up_c (by omega), up_c (by omega), up_c (by omega), up_c (by omega)]
  · rw [up_c (by decide), up_c (by decide), up_c (by decide), up_s]
  · obtain ⟨h1, xs, o, b, h2, h3, -⟩ := hN
    exact ⟨h1, ⟨xs, h2⟩, h3.1⟩
def FauR (M : Mem) : Int → Int → Mem → Prop := fun k r N => k = 0 ∧ (∃ xs, Rn (fun i => M 23 i) (M 24 0) 0 0 (fun _ => 0) 0 r xs) ∧ ∀ c i, (c < 44 ∨ 58 < c) → c ≠ 20 → N c i = M c i
theorem m_fault {g : Gs} {ad : Nat → Nat} {A M : Mem} (h : Jn A M) : SpI (wM g ad) yX10_fault cX10_fault 1 (some .int) 13 [.ref (ad 0)] (M) (fun r N => FauR M (N 20 0) r N) := by
  have t := h.2.2.2.2.1
  intro l9 hl9
  refine ct_of hl9 mi_X10_fault.2.2.2 (Nat.le_of_ble_eq_true rfl) (fun X _ C Y => ?_)
  show E (wM g ad) X 0 0 (M) 0 [(0, .ref (ad 0))] []
  refine e_wf (fun hw => ?_)
  have e24 : (up M 20 0 0) 24 0 = M 24 0 := up_c (by decide)
  have e23 : (fun i => (up M 20 0 0) 23 i) = fun i => M 23 i := funext (fun i => up_c (by decide))
  refine B_X10_fault_0  (Nat.zero_le _) (Nat.zero_le _) C Y ⟨_, m_goes0 (by rw [e24]; exact t.1), fun z N hN => ?_⟩
  rw [e24, e23] at hN
  exact ⟨hN.1, z, rfl, by rw [hN.2.2 20 0 (by omega), up_s], hN.2.1, fun c i hc c20 => by rw [hN.2.2 c i hc, up_c c20]⟩
theorem x_fault {g : Gs} {ad : Nat → Nat} {sk : (Nat → Nat) × (Nat → Nat)} {A M : Mem} (h : Jn A M) : SpI (wC g ad sk) yX9_fault cX9_fault 1 (some .int) 10 [.ref (ad 0)] (A) (fun r B => Res (FauR M) 0 r B) := by
  have t := h.2.2.2.2.1
  intro l9 hl9
  refine ct_of hl9 mi_X9_fault.2.2.2 (Nat.le_of_ble_eq_true rfl) (fun X _ C Y => ?_)
  show E (wC g ad sk) X 0 0 (A) 0 [(0, .ref (ad 0))] []
  refine e_wf (fun hw => ?_)
  refine B_X9_fault_0  (Nat.zero_le _) (Nat.zero_le _) C Y ⟨_, x_parse (by rw [t.2.1]; exact t.1), fun r B hB => ?_⟩
  obtain ⟨xs, h1, h2, -⟩ := hB
  have rr := rn_r h1 (ms_0 (by rw [t.2.1]; exact t.1.1))
  rw [t.2.1] at rr
  refine ⟨by have := t.1; omega, r, rfl, fun k' r' N hN => ?_⟩
  obtain ⟨k0, ⟨ys, k1⟩, k2⟩ := hN
  exact ⟨k0, fun _ => (rn_joint t h1 k1).1.symm, (h.cgA (fun c i hc => h2 c i (by omega) (by omega) (by omega))).cgM (fun c i hc c20 => k2 c i (by omega) c20)⟩
