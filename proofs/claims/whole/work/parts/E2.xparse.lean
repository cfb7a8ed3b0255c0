/-! ===== the class: rounds and parse ===== -/
def PI (u : Int → Int) (L : Int) (A : Mem) (w o : Int) (b : Int → Int) (e : Int) : Prop := AtT u L A e ∧ Ms L w o e ∧ A 27 0 = w ∧ A 26 0 = o ∧ (∀ i, A 25 i = b i) ∧ A 31 0 = -1 ∧ (0 ≤ A 22 0 ∧ A 22 0 ≤ 5 * e)
/-- N stands where the round's outcome says -/
def RQ (u : Int → Int) (L : Int) (A N : Mem) (out : Int ⊕ (MSt × List Int)) : Prop := FX A N ∧ ((∃ f, out = .inl f ∧ N 31 0 = f) ∨ (∃ w o b e xs, out = .inr ((w, o, b, e), xs) ∧ Em A N xs ∧ PI u L N w o b e))
theorem em_22 {A N : Mem} {xs : List Int} {e e' : Int} (h : Em A N xs) (h2 : 0 ≤ A 22 0 ∧ A 22 0 ≤ 5 * e) (hl : (xs.length : Int) ≤ 5 * (e' - e)) : 0 ≤ N 22 0 ∧ N 22 0 ≤ 5 * e' := by
  have := h.1
  omega
theorem nu_fin {u : Int → Int} {L : Int} {A N P : Mem} {w o : Int} {b : Int → Int} {e e2 z : Int} {f : Int → List Int} (h : PI u L A w o b e) (hf : FT A N) (hq : PosQ u L e2 z N) (he : e ≤ e2 ∧ e2 ≤ L) (hn : FN N P) (em : Em N P (f z)) (hl : (f z).length ≤ 5) : RQ u L A (up P 27 0 3) (nuF (posF u L e2) o b f) := by
  obtain ⟨a1, a2, a3, a4, a5, a6, a7⟩ := h
  have hm := a2.2.2.2
  have em2 : Em A (up P 27 0 3) (f z) := by
    have e0 : Em A N [] := em_0 (fun i => hf 21 i (by decide) (by decide) (by decide) (by decide)) (hf 22 0 (by decide) (by decide) (by decide) (by decide))
    have e1 := em_app e0 em
    rw [List.nil_append] at e1
    exact em_fn e1 (fun i => up_c (by decide)) (up_c (by decide))
  refine ⟨fun c i h1 h2 h3 => ?_, ?_⟩
  · rw [up_c (by omega), hn c i h1 h2, hf c i (by omega) (by omega) (by omega) (by omega)]
  · rcases hq with ⟨f1, q1, q2, q3⟩ | ⟨e', q1, q2, q3⟩
    · refine Or.inl ⟨f1, by rw [q1]; rfl, ?_⟩
      rw [up_c (by decide), hn 31 0 (by decide) (by decide)]; exact q3
    · have pr := (posF_r (u := u) (L := L) (e := e2) (by omega)).2 _ _ q1
      obtain ⟨m1, m2, m3, m4⟩ := a2
      refine Or.inr ⟨3, o, b, e', f z, by rw [q1]; rfl, em2, q3.fa (fun c i h1 h2 h3 h4 h5 h6 => by rw [up_c h5]; exact hn c i h1 h2), ⟨by omega, by omega, by omega, by omega⟩, up_s _ _ _ _, ?_, fun i => ?_, ?_, em_22 em2 a7 (by omega)⟩
      · rw [up_c (by decide), hn 26 0 (by decide) (by decide), hf 26 0 (by decide) (by decide) (by decide) (by decide)]; exact a4
      · rw [up_c (by decide), hn 25 i (by decide) (by decide), hf 25 i (by decide) (by decide) (by decide) (by decide)]; exact a5 i
      · rw [up_c (by decide), hn 31 0 (by decide) (by decide)]; exact q2
theorem x_takePlusMinus {g : Gs} {ad : Nat → Nat} {sk : (Nat → Nat) × (Nat → Nat)} {u : Int → Int} {L w o : Int} {b : Int → Int} {e : Int} {A : Mem} (h : PI u L A w o b e) (hk : kdF u L e = 43) : SpV (wC g ad sk) yX8_takePlusMinus cX8_takePlusMinus 2 none 4 [.ref (ad 5)] (A) (fun N => RQ u L A N (if kdA u L (enF u L e) = 45 then nuF (posF u L (enF u L (enF u L e))) o b (fun x => [100, x, 101, -x, 102]) else .inl (enF u L e))) := by
  have at1 := h.1
  have r := atT_r (u := u) at1.2.1
  have lt := r.2.2.2 (by omega)
  have aL := at1.1.2
  have ae := at1.2.1
  have a7 := at1.2.2.2.2
  have h22 := h.2.2.2.2.2.2
  have h31 := h.2.2.2.2.2.1
  have eu : (fun i => A 24 i) = u := funext at1.1.1
  intro l9 hl9
  refine ct_of hl9 mi_X8_takePlusMinus.2.2.2 (Nat.le_of_ble_eq_true rfl) (fun X _ C Y => ?_)
  show E (wC g ad sk) X 0 0 (A) 0 [(0, .ref (ad 5))] []
  refine e_wf (fun hw => ?_)
  refine B_X8_takePlusMinus_0  (Nat.zero_le _) (Nat.zero_le _) C Y ⟨_, x_kindAt (k := A 30 0) (by omega) (by omega), fun z P hP => ?_⟩
  obtain ⟨e1, e2⟩ := hP
  rw [eu, aL.1, a7] at e1
  have kr := kdA_r (u := u) (L := L) (k := enF u L e)
  rw [e2]
  refine ⟨by omega, fun q => ⟨_, x_advT at1, fun N1 h1 => ⟨_, x_advT h1.2, fun N2 h2 => ?_⟩⟩, fun q => ⟨rfl, fun c i h1 h2 h3 => up_c (by omega), Or.inl ⟨enF u L e, ?_, by rw [up_s]; exact a7⟩⟩⟩
  · have f2 : FT A N2 := fun c i q1 q2 q3 q4 => (h2.1 c i q1 q2 q3).trans (h1.1 c i q1 q2 q3)
    have r2 := atT_r (u := u) h1.2.2.1
    have n31 : N2 31 0 = -1 := by rw [h2.1 31 0 (by decide) (by decide) (by decide), h1.1 31 0 (by decide) (by decide) (by decide)]; exact h31
    refine ⟨_, x_takePositive h2.2 n31, fun x N3 h3 => ⟨by omega, by omega, ?_⟩⟩
    obtain ⟨h3r, h3f, h3q⟩ := h3
    have f3 : FT A N3 := fun c i q1 q2 q3 q4 => (h3f c i q1 q2 q3 q4).trans (f2 c i q1 q2 q3 q4)
    have n22 : N3 22 0 = A 22 0 := f3 22 0 (by decide) (by decide) (by decide) (by decide)
    refine ⟨_, x_notePair (by omega) (by omega) (by omega), fun N4 h4 => ⟨rfl, ?_⟩⟩
    rw [if_pos (by omega)]
    exact nu_fin h f3 h3q ⟨by omega, by omega⟩ h4.1 (f := fun x => [100, x, 101, -x, 102]) h4.2 (by simp)
  · rw [if_neg (by omega)]
theorem pi_open {u : Int → Int} {L : Int} {A N : Mem} {w o : Int} {b : Int → Int} {e w' o' : Int} {b' : Int → Int} {e' : Int} {xs : List Int} (h : PI u L A w o b e) (hw : w ≠ 4) (hr : rdF u L w o b e = .inr ((w', o', b', e'), xs)) (t : AtT u L N e') (em : Em A N xs) (n26 : N 26 0 = o') (n25 : ∀ i, N 25 i = b' i) (n27 : N 27 0 = w') (n31 : N 31 0 = A 31 0) (fx : FX A N) : RQ u L A N (rdF u L w o b e) := by
  obtain ⟨a1, a2, a3, a4, a5, a6, a7⟩ := h
  have m := (rd_ms a2 hw).2 _ _ _ _ _ hr
  exact ⟨fx, Or.inr ⟨w', o', b', e', xs, hr, em, t, m.1, n27, n26, n25, n31.trans a6, em_22 em a7 m.2.2.2.1⟩⟩
theorem x_takeGame {g : Gs} {ad : Nat → Nat} {sk : (Nat → Nat) × (Nat → Nat)} {u : Int → Int} {L w o : Int} {b : Int → Int} {e : Int} {A : Mem} (h : PI u L A w o b e) (hw4 : w ≠ 4) (hw3 : w ≠ 3) : SpV (wC g ad sk) yX8_takeGame cX8_takeGame 1 none 8 [.ref (ad 5)] (A) (fun N => RQ u L A N (rdF u L w o b e)) := by
  have h0 := h
  obtain ⟨a1, ⟨m1, m2, m3, m4⟩, a3, a4, a5, a6, a7⟩ := h
  have r := atT_r (u := u) a1.2.1
  have a29 := a1.2.2.1
  have a28 := a1.2.2.2.1
  have aL := a1.1.2
  have er : rdF u L w o b e = gmF u L w o b e := by rw [rdF, if_neg hw3]
  have ft : ∀ f, rdF u L w o b e = .inl f → A 29 0 = f → RQ u L A (up A 31 0 (A 29 0)) (rdF u L w o b e) := fun f q q2 => ⟨fun c i h1 h2 h3 => up_c (by omega), Or.inl ⟨f, q, by rw [up_s]; exact q2⟩⟩
  intro l9 hl9
  refine ct_of hl9 mi_X8_takeGame.2.2.2 (Nat.le_of_ble_eq_true rfl) (fun X _ C Y => ?_)
  show E (wC g ad sk) X 0 0 (A) 0 [(0, .ref (ad 5))] []
  refine e_wf (fun hw => ?_)
  have b125 : kdF u L e ≠ 2 → kdF u L e ≠ 43 → kdF u L e ≠ 45 → kdF u L e ≠ 3 → kdF u L e ≠ 123 → ¬ (kdF u L e = 124 ∧ w = 1) → E (wC g ad sk) X 0 0 (A) 125 [(0, .ref (ad 5))] [] := by
    intro q1 q2 q3 q4 q5 q6
    have eg : ¬ (kdF u L e = 125 ∧ w = 2) → rdF u L w o b e = .inl (stF u L e) := fun q7 => by rw [er, gmF, if_neg q1, if_neg q2, if_neg q3, if_neg q4, if_neg q5, if_neg q6, if_neg q7]
    refine B_X8_takeGame_125  (Nat.zero_le _) (Nat.zero_le _) C Y ⟨fun q => ⟨rfl, ft _ (eg (by omega)) a29⟩, fun q => ⟨fun q7 => ⟨rfl, ft _ (eg (by omega)) a29⟩, fun q7 => ⟨_, x_takeClose a1 (by omega) ?_, fun N hN => ⟨rfl, ?_⟩⟩⟩⟩
    · have := r.2.2.2 (by omega); omega
    · obtain ⟨n1, n2, n3, n4, n5, n6, n7⟩ := hN
      exact pi_open h0 hw4 (by rw [er, gmF, if_neg q1, if_neg q2, if_neg q3, if_neg q4, if_neg q5, if_neg q6, if_pos (by omega)]) n1 n2 (by rw [n3, a4]) (fun i => (n4 i).trans (a5 i)) n5 n6 n7
  refine B_X8_takeGame_0  (Nat.zero_le _) (Nat.zero_le _) C Y ⟨fun q1 => ⟨fun q2 => ⟨fun q3 => ⟨fun q4 => ⟨fun q5 => ⟨fun q6 => b125 (by omega) (by omega) (by omega) (by omega) (by omega) (by omega), fun q6 => ⟨fun q7 => b125 (by omega) (by omega) (by omega) (by omega) (by omega) (by omega), fun q7 => ⟨_, x_takeBar a1 (by omega) ?_, fun N hN => ⟨rfl, ?_⟩⟩⟩⟩, fun q5 => ⟨_, x_takeOpen a1 ?_ ?_, fun N hN => ⟨rfl, ?_⟩⟩⟩, fun q4 => ⟨_, x_takePositive a1 a6, fun z N hN => ⟨by omega, _, x_note (by omega) ?_, fun P hP => ⟨rfl, ?_⟩⟩⟩⟩, fun q3 => ⟨_, x_advT a1, fun S hS => ⟨_, x_takePositive hS.2 ?_, fun z N hN => ⟨by omega, by omega, _, x_note (by omega) ?_, fun P hP => ⟨rfl, ?_⟩⟩⟩⟩⟩, fun q2 => ⟨_, x_takePlusMinus h0 (by omega), fun N hN => ⟨rfl, ?_⟩⟩⟩, fun q1 => ⟨_, x_takeName a1 (by omega) a7, fun N hN => ⟨rfl, ?_⟩⟩⟩
  · have := r.2.2.2 (by omega); omega
  · obtain ⟨n1, n2, n3, n4, n5, n6, n7⟩ := hN
    exact pi_open h0 hw4 (by rw [er, gmF, if_neg (by omega), if_neg (by omega), if_neg (by omega), if_neg (by omega), if_neg (by omega), if_pos (by omega)]) n1 n2 (n3.trans a4) (fun i => by rw [n4 i, a4, a5 i]) n5 n6 n7
  · have := r.2.2.2 (by omega); omega
  · have := r.2.2.2 (by omega); omega
  · obtain ⟨n1, n2, n3, n4, n5, n6, n7⟩ := hN
    exact pi_open h0 hw4 (by rw [er, gmF, if_neg (by omega), if_neg (by omega), if_neg (by omega), if_neg (by omega), if_pos (by omega)]) n1 n2 (by rw [n3, a4]) (fun i => by rw [n4 i, a4, a5 i]) n5 n6 n7
  · have := r.2.2.2 (by omega)
    have := hN.2.1 22 0 (by decide) (by decide) (by decide) (by decide)
    omega
  · rw [er, gmF, if_neg (by omega), if_neg (by omega), if_neg (by omega), if_pos (by omega)]
    exact nu_fin h0 hN.2.1 hN.2.2 (by omega) hP.1 (f := fun x => [x]) hP.2 (by simp)
  · rw [hS.1 31 0 (by decide) (by decide) (by decide)]; exact a6
  · have := r.2.2.2 (by omega)
    have e1 := hN.2.1 22 0 (by decide) (by decide) (by decide) (by decide)
    have e2 := hS.1 22 0 (by decide) (by decide) (by decide)
    omega
  · rw [er, gmF, if_neg (by omega), if_neg (by omega), if_pos (by omega)]
    exact nu_fin h0 (fun c i p1 p2 p3 p4 => (hN.2.1 c i p1 p2 p3 p4).trans (hS.1 c i p1 p2 p3)) hN.2.2 (by omega) hP.1 (f := fun x => [-x]) hP.2 (by simp)
  · rw [er, gmF, if_neg (by omega), if_pos (by omega)]
    exact hN
  · have eg : gmF u L w o b e = (if nmK u L e = 6 then .inl (stF u L e) else .inr ((3, o, b, enF u L e), nmX (nmK u L e))) := by rw [gmF, if_pos (by omega)]
    rcases hN.2 with ⟨k6, n31⟩ | ⟨k6, n1, n2, n3, n4, n5, n6⟩
    · rw [er, eg, if_pos k6]
      exact ⟨hN.1, Or.inl ⟨_, rfl, n31⟩⟩
    · exact pi_open h0 hw4 (by rw [er, eg, if_neg k6]) n2 n1 (n3.trans a4) (fun i => (n4 i).trans (a5 i)) n5 n6 hN.1
theorem x_takeBehindGame {g : Gs} {ad : Nat → Nat} {sk : (Nat → Nat) × (Nat → Nat)} {u : Int → Int} {L o : Int} {b : Int → Int} {e : Int} {A : Mem} (h : PI u L A 3 o b e) : SpV (wC g ad sk) yX8_takeBehindGame cX8_takeBehindGame 1 none 4 [.ref (ad 5)] (A) (fun N => RQ u L A N (rdF u L 3 o b e)) := by
  have h0 := h
  obtain ⟨a1, ⟨m1, m2, m3, m4⟩, a3, a4, a5, a6, a7⟩ := h
  have r := atT_r (u := u) a1.2.1
  have a29 := a1.2.2.1
  have a28 := a1.2.2.2.1
  have aL := a1.1.2
  have w4 : (3 : Int) ≠ 4 := by decide
  have er : rdF u L 3 o b e = bhF u L o b e := by rw [rdF, if_pos rfl]
  have ft : ∀ f, rdF u L 3 o b e = .inl f → A 29 0 = f → RQ u L A (up A 31 0 (A 29 0)) (rdF u L 3 o b e) := fun f q q2 => ⟨fun c i h1 h2 h3 => up_c (by omega), Or.inl ⟨f, q, by rw [up_s]; exact q2⟩⟩
  have eb : A 25 (A 26 0 - 1) = b (o - 1) := by rw [a4]; exact a5 _
  intro l9 hl9
  refine ct_of hl9 mi_X8_takeBehindGame.2.2.2 (Nat.le_of_ble_eq_true rfl) (fun X _ C Y => ?_)
  show E (wC g ad sk) X 0 0 (A) 0 [(0, .ref (ad 5))] []
  refine e_wf (fun hw => ?_)
  have b85 : o ≠ 0 → kdF u L e ≠ 44 → ¬ (kdF u L e = 124 ∧ b (o - 1) = 0) → E (wC g ad sk) X 0 0 (A) 85 [(0, .ref (ad 5))] [] := by
    intro q1 q2 q3
    have eg : ¬ (kdF u L e = 125 ∧ b (o - 1) ≠ 0) → rdF u L 3 o b e = .inl (stF u L e) := fun q4 => by rw [er, bhF, if_neg q1, if_neg q2, if_neg q3, if_neg q4]
    refine B_X8_takeBehindGame_85  (Nat.zero_le _) (Nat.zero_le _) C Y ⟨fun q => ⟨rfl, ft _ (eg (by omega)) a29⟩, fun q => ⟨by omega, fun q4 => ⟨rfl, ft _ (eg (by omega)) a29⟩, fun q4 => ⟨_, x_takeClose a1 (by omega) ?_, fun N hN => ⟨rfl, ?_⟩⟩⟩⟩
    · have := r.2.2.2 (by omega); omega
    · obtain ⟨n1, n2, n3, n4, n5, n6, n7⟩ := hN
      exact pi_open h0 w4 (by rw [er, bhF, if_neg q1, if_neg q2, if_neg q3, if_pos (by omega)]) n1 n2 (by rw [n3, a4]) (fun i => (n4 i).trans (a5 i)) n5 n6 n7
  refine B_X8_takeBehindGame_0  (Nat.zero_le _) (Nat.zero_le _) C Y ⟨fun q1 => ⟨fun q2 => ⟨fun q3 => b85 (by omega) (by omega) (by omega), fun q3 => ⟨by omega, fun q4 => b85 (by omega) (by omega) (by omega), fun q4 => ⟨_, x_takeBar a1 (by omega) ?_, fun N hN => ⟨rfl, ?_⟩⟩⟩⟩, fun q2 => ⟨_, x_advT (a1.fa (N := up A 27 0 0) (fun c i h1 h2 h3 h4 h5 h6 => up_c h5)), fun N hN => ⟨rfl, ?_⟩⟩⟩, fun q1 => ⟨fun q2 => ⟨rfl, fun c i h1 h2 h3 => by rw [up_c (by omega), up_c (by omega)], Or.inl ⟨stF u L e, ?_, by rw [up_s]; exact a29⟩⟩, fun q2 => ⟨rfl, pi_open h0 w4 (w' := 4) (o' := o) (b' := b) (e' := e) (xs := []) ?_ (a1.fa (fun c i h1 h2 h3 h4 h5 h6 => by rw [up_c h6, up_c h5])) (em_0 (fun i => by rw [up_c (by decide), up_c (by decide)]) (by rw [up_c (by decide), up_c (by decide)])) (by rw [up_c (by decide), up_c (by decide)]; exact a4) (fun i => by rw [up_c (by decide), up_c (by decide)]; exact a5 i) (by rw [up_c (by decide), up_s]) (by rw [up_s, a6]) (fun c i h1 h2 h3 => by rw [up_c (by omega), up_c (by omega)])⟩⟩⟩
  · have := r.2.2.2 (by omega); omega
  · obtain ⟨n1, n2, n3, n4, n5, n6, n7⟩ := hN
    exact pi_open h0 w4 (by rw [er, bhF, if_neg (by omega), if_neg (by omega), if_pos (by omega)]) n1 n2 (n3.trans a4) (fun i => by rw [n4 i, a4, a5 i]) n5 n6 n7
  · obtain ⟨f, t⟩ := hN
    refine pi_open h0 w4 (w' := 0) (o' := o) (b' := b) (e' := enF u L e) (xs := []) (by rw [er, bhF, if_neg (by omega), if_pos (by omega)]) t (em_0 (fun i => ?_) ?_) ?_ (fun i => ?_) ?_ ?_ (fun c i h1 h2 h3 => ?_)
    · rw [f 21 i (by decide) (by decide) (by decide), up_c (by decide)]
    · rw [f 22 0 (by decide) (by decide) (by decide), up_c (by decide)]
    · rw [f 26 0 (by decide) (by decide) (by decide), up_c (by decide)]; exact a4
    · rw [f 25 i (by decide) (by decide) (by decide), up_c (by decide)]; exact a5 i
    · rw [f 27 0 (by decide) (by decide) (by decide), up_s]
    · rw [f 31 0 (by decide) (by decide) (by decide), up_c (by decide)]
    · rw [f c i (by omega) (by omega) (by omega), up_c (by omega)]
  · rw [er, bhF, if_pos (by omega), if_neg (by omega)]
  · rw [er, bhF, if_pos (by omega), if_pos (by omega)]
theorem fx_tr {A N P : Mem} (f : FX A N) (k : FX N P) : FX A P := fun c i h1 h2 h3 => (k c i h1 h2 h3).trans (f c i h1 h2 h3)
theorem xp_31 {g : Gs} {ad : Nat → Nat} {sk : (Nat → Nat) × (Nat → Nat)} {X : Cx} {PQ : Option Value → Mem → Prop} {PX : String → Mem → Prop} (C : OkB (wC g ad sk) X cX8_parse RX8 2 9 0 0) (Y : OkR (wC g ad sk) X (some .int) 0 0 PQ PX) {u : Int → Int} {L : Int} : ∀ (m : Nat) (A : Mem) (w o : Int) (b : Int → Int) (e x1 : Int), PI u L A w o b e → w ≠ 4 → L - e < m → 0 ≤ x1 → x1 ≤ e → (∀ N f xs, Rn u L w o b e f xs → FX A N → N 31 0 = f → (f = -1 → Em A N xs) → PQ (some (vI f)) N) → E (wC g ad sk) X 0 0 (A) 31 [(0, .ref (ad 5)), (1, vI (x1))] [] := by
  intro m
  induction m with
  | zero =>
    intro A w o b e x1 h hw hm
    have := h.2.1.2.2.2
    omega
  | succ m ih =>
    intro A w o b e x1 h hw hm x0 x2 kk
    have h0 := h
    obtain ⟨a1, a2, a3, a4, a5, a6, a7⟩ := h
    have aL := a1.1.2
    have me := a2.2.2.2
    have go : ∀ N, RQ u L A N (rdF u L w o b e) → R32 (x1 + 1) ∧ E (wC g ad sk) X 0 0 (N) 31 [(0, .ref (ad 5)), (1, vI (x1 + 1))] [] := by
      intro N hN
      refine ⟨by omega, ?_⟩
      obtain ⟨fx, ⟨f, q1, q2⟩ | ⟨w', o', b', e', xs, q1, q2, q3⟩⟩ := hN
      · have fr := (rd_ms a2 hw).1 _ q1
        have fin : PQ (some (vI (N 31 0))) N := by
          rw [q2]
          exact kk N f [] (Rn.ft hw q1) fx q2 (fun w => by omega)
        exact B_X8_parse_31 (by omega) (Nat.zero_le _) (Nat.zero_le _) C Y ⟨fun _ => fin, fun _ => ⟨fun _ => fin, fun q => absurd q (by omega)⟩⟩
      · have ms := (rd_ms a2 hw).2 _ _ _ _ _ q1
        by_cases w4 : w' = 4
        · subst w4
          have fin : PQ (some (vI (N 31 0))) N := by
            rw [q3.2.2.2.2.2.1]
            exact kk N (-1) (xs ++ []) (Rn.nx hw q1 Rn.dn) fx q3.2.2.2.2.2.1 (fun _ => by rw [List.append_nil]; exact q2)
          exact B_X8_parse_31 (by omega) (Nat.zero_le _) (Nat.zero_le _) C Y ⟨fun _ => fin, fun _ => ⟨fun _ => fin, fun _ => ⟨fun _ => fin, fun q => absurd q3.2.2.1 q⟩⟩⟩
        · refine ih N w' o' b' e' (x1 + 1) q3 w4 (by omega) (by omega) (by omega) (fun P f ys r fP p31 em => kk P f (xs ++ ys) (Rn.nx hw q1 r) (fx_tr fx fP) p31 (fun w => em_app q2 (em w)))
    refine B_X8_parse_31 (by omega) (Nat.zero_le _) (Nat.zero_le _) C Y ⟨fun q => absurd q (by omega), fun _ => ⟨fun q => absurd a6 q, fun _ => ⟨fun q => absurd q (by omega), fun _ => ⟨fun q => ⟨_, x_takeGame h0 hw (by omega), go⟩, fun q => ?_⟩⟩⟩⟩
    have w3 : w = 3 := by omega
    subst w3
    exact ⟨_, x_takeBehindGame h0, go⟩
theorem x_parse {g : Gs} {ad : Nat → Nat} {sk : (Nat → Nat) × (Nat → Nat)} {A : Mem} (hL : 0 ≤ A 23 0 ∧ A 23 0 ≤ 80) : SpI (wC g ad sk) yX8_parse cX8_parse 2 (some .int) 9 [.ref (ad 5)] (A) (fun r N => ∃ xs, Rn (fun i => A 24 i) (A 23 0) 0 0 (fun i => A 25 i) 0 r xs ∧ FX A N ∧ (r = -1 → N 22 0 = (xs.length : Int) ∧ ∀ (j : Nat) (v : Int), xs[j]? = some v → N 21 j = v)) := by
  intro l9 hl9
  refine ct_of hl9 mi_X8_parse.2.2.2 (Nat.le_of_ble_eq_true rfl) (fun X _ C Y => ?_)
  show E (wC g ad sk) X 0 0 (A) 0 [(0, .ref (ad 5))] []
  refine e_wf (fun hw => ?_)
  have q30 : (up (up (up (up (up A 22 0 0) 26 0 0) 30 0 0) 31 0 (-1)) 27 0 0) 30 0 = 0 := by rw [up_c (by decide), up_c (by decide), up_s]
  have q23 : (up (up (up (up (up A 22 0 0) 26 0 0) 30 0 0) 31 0 (-1)) 27 0 0) 23 0 = A 23 0 := by rw [up_c (by decide), up_c (by decide), up_c (by decide), up_c (by decide), up_c (by decide)]
  have q24 : (fun i => (up (up (up (up (up A 22 0 0) 26 0 0) 30 0 0) 31 0 (-1)) 27 0 0) 24 i) = fun i => A 24 i := funext (fun i => by rw [up_c (by decide), up_c (by decide), up_c (by decide), up_c (by decide), up_c (by decide)])
  refine B_X8_parse_0  (Nat.zero_le _) (Nat.zero_le _) C Y ⟨_, x_advance (by rw [q23]; exact hL) (by rw [q23, q30]; omega), fun N hN => ?_⟩
  rw [q24, q23, q30] at hN
  obtain ⟨st, kd, en, t, f, n1, n2, n3⟩ := hN
  obtain ⟨t1, t2, t3⟩ := tok_eq t
  have n22 : N 22 0 = 0 := by rw [f 22 0 (by decide) (by decide) (by decide), up_c (by decide), up_c (by decide), up_c (by decide), up_c (by decide), up_s]
  have hPI : PI (fun i => A 24 i) (A 23 0) N 0 0 (fun i => A 25 i) 0 := by
    refine ⟨⟨⟨fun i => ?_, ?_, hL⟩, ⟨by omega, by omega⟩, n1.trans t1, n2.trans t2, n3.trans t3⟩, ⟨by omega, by omega, by omega, by omega⟩, ?_, ?_, fun i => ?_, ?_, by omega⟩
    · rw [f 24 i (by decide) (by decide) (by decide)]; exact congrFun q24 i
    · rw [f 23 0 (by decide) (by decide) (by decide)]; exact q23
    · rw [f 27 0 (by decide) (by decide) (by decide), up_s]
    · rw [f 26 0 (by decide) (by decide) (by decide), up_c (by decide), up_c (by decide), up_c (by decide), up_s]
    · rw [f 25 i (by decide) (by decide) (by decide), up_c (by decide), up_c (by decide), up_c (by decide), up_c (by decide), up_c (by decide)]
    · rw [f 31 0 (by decide) (by decide) (by decide), up_c (by decide), up_s]
  refine xp_31 C Y ((A 23 0).toNat + 1) N 0 0 (fun i => A 25 i) 0 0 hPI (by decide) (by omega) (by omega) (by omega) (fun P r xs hr fx p31 em => ⟨r, rfl, xs, hr, fun c i h1 h2 h3 => ?_, fun w => ?_⟩)
  · rw [fx c i h1 h2 h3, f c i (by omega) (by omega) (by omega), up_c (by omega), up_c (by omega), up_c (by omega), up_c (by omega), up_c (by omega)]
  · obtain ⟨m1, m2, m3⟩ := em w
    rw [n22] at m1 m3
    exact ⟨by omega, fun j v q => by have := m3 j v q; rwa [Int.zero_add] at this⟩
