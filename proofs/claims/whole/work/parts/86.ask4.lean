/-! ===== reversible ===== -/
def byH (e : Int) : Int := if e % 8 = 0 then 1024 else if e % 4 = 0 then 512 else if e % 2 = 0 then 256 else 128
def backP (M : Mem) (z s e : Int) : Prop := if s = 0 then (byH e < 1024 ∨ e < 0) ∧ geM M z (128 * e + byH e) else (byH e < 1024 ∨ 0 < e) ∧ leM M z (128 * e - byH e)
/-- a reply among the first k that side s likes z as well as -/
def likB (M : Mem) (s z o k : Int) : Prop := ∃ j, 0 ≤ j ∧ j < k ∧ likes M s z (opt M o (1 - s) j)
def RevR (M : Mem) (z s i r : Int) : Prop := (¬ (0 ≤ i ∧ i < M 3 (2 * z + s)) ∧ r = -1) ∨ ((0 ≤ i ∧ i < M 3 (2 * z + s)) ∧ (r = 0 ∨ r = 1) ∧ (M 1 (opt M z s i) ≠ 0 → (r = 1 ↔ backP M z s (M 2 (opt M z s i) / 128))) ∧ (M 1 (opt M z s i) = 0 → (r = 1 ↔ likB M s z (opt M z s i) (M 3 (2 * opt M z s i + (1 - s))))))
theorem rev_uq {M : Mem} {z s i : Int} : ∀ x y, RevR M z s i x → RevR M z s i y → x = y := by
  intro x y hx hy
  rcases hx with ⟨a, rfl⟩ | ⟨a, a1, a2, a3⟩
  · rcases hy with ⟨c, rfl⟩ | ⟨c, -⟩
    · rfl
    · exact absurd c a
  · rcases hy with ⟨c, rfl⟩ | ⟨c, b1, b2, b3⟩
    · exact absurd a c
    · by_cases h : M 1 (opt M z s i) = 0
      · have p := a3 h; have q := b3 h
        have : x = 1 ↔ y = 1 := p.trans q.symm
        omega
      · have p := a2 h; have q := b2 h
        have : x = 1 ↔ y = 1 := p.trans q.symm
        omega
theorem tm_d {a b : Int} : Int.tmod a b = 0 ↔ b ∣ a := ⟨Int.dvd_of_tmod_eq_zero, Int.tmod_eq_zero_of_dvd⟩
theorem ib_5 {g : Gs} {ad : Nat → Nat} {X : Cx} {PQ : Option Value → Mem → Prop} {PX : String → Mem → Prop} (C : OkB (wM g ad) X cX10_isBack RX10 5 2 0 0) (Y : OkR (wM g ad) X (some .boolean) 0 0 PQ PX) {M : Mem} {z s e : Int} (hz : 0 ≤ z ∧ z < 40) (hs : s = 0 ∨ s = 1) (he : -64 ≤ e ∧ e ≤ 64) (kk : ∀ r, (r = 0 ∨ r = 1) → (r = 1 ↔ backP M z s e) → PQ (some (vI r)) M) : E (wM g ad) X 0 0 (M) 5 [(0, .ref (ad 0)), (1, vI (z)), (2, vI (s)), (3, vI (128 * e)), (4, vI (1024))] [] := by
  have fin : ∀ b, b = byH e → E (wM g ad) X 0 0 (M) 5 [(0, .ref (ad 0)), (1, vI (z)), (2, vI (s)), (3, vI (128 * e)), (4, vI (b))] [] := by
    intro b hb
    have bb : b = 1024 ∨ b = 512 ∨ b = 256 ∨ b = 128 := by rw [hb]; unfold byH; repeat (first | omega | split)
    have dv : b ∣ 128 * e := by
      rw [hb]; unfold byH
      split
      · omega
      · split
        · omega
        · split <;> omega
    refine B_X10_isBack_5 (by omega) (by omega) (by omega) (by omega) (Nat.zero_le _) (Nat.zero_le _) C Y ⟨by omega, fun c => ⟨fun c1 => ?_, fun c1 => ?_⟩, fun c => absurd (tm_d.mpr dv) c⟩
    · have e0 : (backP M z s e ↔ (byH e < 1024 ∨ 0 < e) ∧ leM M z (128 * e - byH e)) := by unfold backP; rw [if_neg c1]
      have go : (byH e < 1024 ∨ 0 < e) → E (wM g ad) X 0 0 (M) 67 [(0, .ref (ad 0)), (1, vI (z)), (3, vI (128 * e)), (4, vI (b))] [] := by
        intro w
        refine B_X10_isBack_67 (by omega) (by omega) (by omega) (Nat.zero_le _) (Nat.zero_le _) C Y ⟨⟨by omega, hz⟩, fun c2 => kk 0 (Or.inl rfl) ?_, fun c2 => kk 1 (Or.inr rfl) ?_⟩
        · rw [e0, ← hb]; exact ⟨fun q => absurd q (by decide), fun q => absurd q.2 c2⟩
        · rw [e0, ← hb]; exact ⟨fun _ => ⟨by rw [hb]; exact w, c2⟩, fun _ => rfl⟩
      refine ⟨fun c2 => go (Or.inl (by omega)), fun c2 => ⟨fun c3 => kk 0 (Or.inl rfl) ?_, fun c3 => go (Or.inr (by omega))⟩⟩
      rw [e0]; exact ⟨fun q => absurd q (by decide), fun q => by have := q.1; omega⟩
    · have e0 : (backP M z s e ↔ (byH e < 1024 ∨ e < 0) ∧ geM M z (128 * e + byH e)) := by unfold backP; rw [if_pos c1]
      have go : (byH e < 1024 ∨ e < 0) → E (wM g ad) X 0 0 (M) 37 [(0, .ref (ad 0)), (1, vI (z)), (3, vI (128 * e)), (4, vI (b))] [] := by
        intro w
        refine B_X10_isBack_37 (by omega) (by omega) (by omega) (Nat.zero_le _) (Nat.zero_le _) C Y ⟨⟨by omega, hz⟩, fun c2 => kk 0 (Or.inl rfl) ?_, fun c2 => kk 1 (Or.inr rfl) ?_⟩
        · rw [e0, ← hb]; exact ⟨fun q => absurd q (by decide), fun q => absurd q.2 c2⟩
        · rw [e0, ← hb]; exact ⟨fun _ => ⟨by rw [hb]; exact w, c2⟩, fun _ => rfl⟩
      refine ⟨fun c2 => go (Or.inl (by omega)), fun c2 => ⟨fun c3 => kk 0 (Or.inl rfl) ?_, fun c3 => go (Or.inr (by omega))⟩⟩
      rw [e0]; exact ⟨fun q => absurd q (by decide), fun q => by have := q.1; omega⟩
  by_cases h8 : e % 8 = 0
  · exact fin 1024 (by unfold byH; rw [if_pos h8])
  · have skip : ∀ b, (b = 1024 ∨ b = 512 ∨ b = 256) → ¬ (b ∣ 128 * e) → E (wM g ad) X 0 0 (M) 5 [(0, .ref (ad 0)), (1, vI (z)), (2, vI (s)), (3, vI (128 * e)), (4, vI (Int.tdiv b 2))] [] → E (wM g ad) X 0 0 (M) 5 [(0, .ref (ad 0)), (1, vI (z)), (2, vI (s)), (3, vI (128 * e)), (4, vI (b))] [] := fun b hb nd nx => B_X10_isBack_5 (by omega) (by omega) (by omega) (by omega) (Nat.zero_le _) (Nat.zero_le _) C Y ⟨by omega, fun c => absurd (tm_d.mp c) nd, fun c => nx⟩
    refine skip 1024 (by omega) (by omega) ?_
    by_cases h4 : e % 4 = 0
    · exact fin 512 (by unfold byH; rw [if_neg h8, if_pos h4])
    · refine skip 512 (by omega) (by omega) ?_
      by_cases h2 : e % 2 = 0
      · exact fin 256 (by unfold byH; rw [if_neg h8, if_neg h4, if_pos h2])
      · refine skip 256 (by omega) (by omega) ?_
        exact fin 128 (by unfold byH; rw [if_neg h8, if_neg h4, if_neg h2])
theorem m_isBack {g : Gs} {ad : Nat → Nat} {M : Mem} {z s e : Int} (hz : 0 ≤ z ∧ z < 40) (hs : s = 0 ∨ s = 1) (he : -64 ≤ e ∧ e ≤ 64) : SpI (wM g ad) yX10_isBack cX10_isBack 5 (some .boolean) 2 [.ref (ad 0), vI (z), vI (s), vI (128 * e)] (M) (fun r N => (r = 0 ∨ r = 1) ∧ (r = 1 ↔ backP M z s e) ∧ N = M) := by
  intro l9 hl9
  refine ct_of hl9 mi_X10_isBack.2.2.2 (Nat.le_of_ble_eq_true rfl) (fun X _ C Y => ?_)
  show E (wM g ad) X 0 0 (M) 0 [(0, .ref (ad 0)), (1, vI (z)), (2, vI (s)), (3, vI (128 * e))] []
  refine e_wf (fun hw => ?_)
  refine B_X10_isBack_0 (by omega) (by omega) (by omega) (Nat.zero_le _) (Nat.zero_le _) C Y ?_
  exact ib_5 C Y hz hs he (fun r h1 h2 => ⟨_, rfl, h1, h2, rfl⟩)
theorem mrv_80 {g : Gs} {ad : Nat → Nat} {X : Cx} {PQ : Option Value → Mem → Prop} {PX : String → Mem → Prop} (C : OkB (wM g ad) X cX10_reversible RX10 8 4 0 0) (Y : OkR (wM g ad) X (some .int) 0 0 PQ PX) {A M : Mem} {z s o : Int} (h : Jn A M) (hz : 0 ≤ z ∧ z < M 0 0) (hs : s = 0 ∨ s = 1) (ho : 0 ≤ o ∧ o < M 0 0) (kk : ∀ r, (r = 0 ∨ r = 1) → (r = 1 ↔ likB M s z o (M 3 (2 * o + (1 - s)))) → PQ (some (vI r)) M) : ∀ (m : Nat) (k r : Int), 0 ≤ k → k + m = M 3 (2 * o + (1 - s)) → (r = 0 ∨ r = 1) → (r = 1 ↔ likB M s z o k) → E (wM g ad) X 0 0 (M) 80 [(0, .ref (ad 0)), (1, vI (z)), (2, vI (s)), (4, vI (o)), (5, vI (r)), (6, vI (k))] [] := by
  have hn := h.n
  have ct := h.ct ho (s := 1 - s) (by omega)
  have oo := (opS_r (hn.2.2.2.2.2 o ho.1 ho.2).1.1 (s := 1 - s) (by omega)).2.2
  intro m
  induction m with
  | zero =>
    intro k r k1 k2 r01 hr
    have : k = M 3 (2 * o + (1 - s)) := by omega
    subst this
    exact B_X10_reversible_80 (by omega) (by omega) (by omega) (by omega) (by omega) (Nat.zero_le _) (Nat.zero_le _) C Y ⟨by omega, fun c => kk r r01 hr, fun c => absurd c (by omega)⟩
  | succ m ih =>
    intro k r k1 k2 r01 hr
    have ok := oo k k1 (by omega)
    have ok' : 0 ≤ M 4 (8 * o + 4 * (1 - s) + k) ∧ M 4 (8 * o + 4 * (1 - s) + k) < o := ok
    have a1 := (h.al (z := z) (y := opt M o (1 - s) k) hz ⟨ok.1, by omega⟩).1
    have a2 := (h.al (z := opt M o (1 - s) k) (y := z) ⟨ok.1, by omega⟩ hz).1
    have no : ¬ likes M s z (opt M o (1 - s) k) → E (wM g ad) X 0 0 (M) 80 [(0, .ref (ad 0)), (1, vI (z)), (2, vI (s)), (4, vI (o)), (5, vI (iorI r 0)), (6, vI (k + 1))] [] := by
      intro q
      have e : iorI r 0 = r := by rcases r01 with rfl | rfl <;> decide
      rw [e]
      refine ih (k + 1) r (by omega) (by omega) r01 (hr.trans ⟨fun ⟨j, j1, j2, j3⟩ => ⟨j, j1, by omega, j3⟩, fun ⟨j, j1, j2, j3⟩ => ⟨j, j1, ?_, j3⟩⟩)
      rcases Classical.em (j = k) with w | w
      · subst w; exact absurd j3 q
      · omega
    have yes : likes M s z (opt M o (1 - s) k) → E (wM g ad) X 0 0 (M) 80 [(0, .ref (ad 0)), (1, vI (z)), (2, vI (s)), (4, vI (o)), (5, vI (iorI r 1)), (6, vI (k + 1))] [] := by
      intro q
      have e : iorI r 1 = 1 := by rcases r01 with rfl | rfl <;> decide
      rw [e]
      exact ih (k + 1) 1 (by omega) (by omega) (Or.inr rfl) ⟨fun _ => ⟨k, k1, by omega, q⟩, fun _ => rfl⟩
    refine B_X10_reversible_80 (by omega) (by omega) (by omega) (by omega) (by omega) (Nat.zero_le _) (Nat.zero_le _) C Y ⟨by omega, fun c => absurd c (by omega), fun c => ⟨by omega, fun c1 => ⟨by omega, fun c2 => ⟨by omega, no (fun q => ?_)⟩, fun c2 => ⟨by omega, yes ?_⟩⟩, fun c1 => ⟨by omega, fun c2 => ⟨by omega, no (fun q => ?_)⟩, fun c2 => ⟨by omega, yes ?_⟩⟩⟩⟩
    · unfold likes at q; rw [if_neg c1] at q; rw [show M 12 (40 * M 4 (8 * o + 4 * (1 - s) + k) + z) = M 12 (40 * opt M o (1 - s) k + z) from rfl] at c2; omega
    · unfold likes; rw [if_neg c1]; rw [show M 12 (40 * M 4 (8 * o + 4 * (1 - s) + k) + z) = M 12 (40 * opt M o (1 - s) k + z) from rfl] at c2; omega
    · unfold likes at q; rw [if_pos c1] at q; rw [show M 12 (40 * z + M 4 (8 * o + 4 * (1 - s) + k)) = M 12 (40 * z + opt M o (1 - s) k) from rfl] at c2; omega
    · unfold likes; rw [if_pos c1]; rw [show M 12 (40 * z + M 4 (8 * o + 4 * (1 - s) + k)) = M 12 (40 * z + opt M o (1 - s) k) from rfl] at c2; omega
theorem revR_up {M : Mem} {v z s i r : Int} (h : RevR (up M 20 0 v) z s i r) : RevR M z s i r := by
  unfold RevR backP geM leM likB at h
  simp only [likes_up, opt, up_c (show (1 : Nat) ≠ 20 by decide), up_c (show (2 : Nat) ≠ 20 by decide), up_c (show (3 : Nat) ≠ 20 by decide), up_c (show (4 : Nat) ≠ 20 by decide), up_c (show (8 : Nat) ≠ 20 by decide), up_c (show (9 : Nat) ≠ 20 by decide), up_c (show (10 : Nat) ≠ 20 by decide), up_c (show (11 : Nat) ≠ 20 by decide)] at h
  unfold RevR likB
  exact h
theorem m_reversible {g : Gs} {ad : Nat → Nat} {A M : Mem} {z s i : Int} (h : Jn A M) (hz : R32 z) (hs : R32 s) (hi : R32 i) : SpI (wM g ad) yX10_reversible cX10_reversible 8 (some .int) 4 [.ref (ad 0), vI (z), vI (s), vI (i)] (M) (fun r N => AskP M (kGS M z s) (RevR M z s i) (N 20 0) r N) := by
  intro l9 hl9
  refine ct_of hl9 mi_X10_reversible.2.2.2 (Nat.le_of_ble_eq_true rfl) (fun X _ C Y => ?_)
  show E (wM g ad) X 0 0 (M) 0 [(0, .ref (ad 0)), (1, vI (z)), (2, vI (s)), (3, vI (i))] []
  refine e_wf (fun hw => ?_)
  have hn := h.n
  refine B_X10_reversible_0 (by omega) (by omega) (by omega) (Nat.zero_le _) (Nat.zero_le _) C Y ⟨_, m_needSide (v := 0) h hz hs, fun r N hN => ?_⟩
  obtain ⟨rfl, rfl⟩ := hN
  rcases kGS_c (M := N) (z := z) (s := s) with ⟨e, c, d⟩ | ⟨e, c⟩ | ⟨e, c, d⟩
  · have ct := h.ct c d
    have oo := (opS_r (hn.2.2.2.2.2 z c.1 c.2).1.1 (s := s) (by omega)).2.2
    rw [e]
    refine ⟨by omega, fun _ => ⟨⟨by omega, by omega⟩, fun q => ?_, fun q => ⟨_, rfl, askP_i (fun _ => Or.inl ⟨by omega, rfl⟩)⟩⟩, fun q => absurd q (by decide)⟩
    have oi := oo i q.1 (by omega)
    have oi' : 0 ≤ N 4 (8 * z + 4 * s + i) ∧ N 4 (8 * z + 4 * s + i) < z := oi
    have h' := h.r20 (v := 0)
    refine ⟨⟨by omega, by omega⟩, fun q1 => ?_, fun q1 => ?_⟩
    · have ct2 := h.ct (z := opt N z s i) (s := 1 - s) ⟨oi.1, by omega⟩ (by omega)
      have := mrv_80 C Y h' (z := z) (s := s) (o := opt N z s i) (by rw [up_c (by decide)]; exact c) d (by rw [up_c (by decide)]; omega) (fun r r01 hr => ⟨_, rfl, by rw [e]; exact askP_i (fun _ => Or.inr ⟨⟨q.1, by omega⟩, r01, fun w => absurd q1 w, fun _ => by unfold likB at hr ⊢; simpa only [likes_up, opt, up_c (show (3 : Nat) ≠ 20 by decide), up_c (show (4 : Nat) ≠ 20 by decide)] using hr⟩)⟩) (N 3 (2 * opt N z s i + (1 - s))).toNat 0 0 (by omega) (by rw [up_c (by decide)]; omega) (Or.inl rfl) ⟨fun w => absurd w (by decide), fun ⟨j, j1, j2, _⟩ => by omega⟩
      exact this
    · obtain ⟨-, -, -, x, x1, x2, x3⟩ := (hn.2.2.2.2.2 (opt N z s i) oi.1 (by omega)).1.2.2.2.1 q1
      have x3' : N 2 (N 4 (8 * z + 4 * s + i)) = 128 * x := x3
      rw [x3']
      refine ⟨_, m_isBack (M := up N 20 0 0) ⟨c.1, by omega⟩ d ⟨x1, x2⟩, fun r N2 h2 => ?_⟩
      obtain ⟨r01, hr, rfl⟩ := h2
      have key : ∀ v, (v = 0 ∨ v = 1) → (v = 1 ↔ r = 1) → RevR N z s i v := fun v v01 hv => Or.inr ⟨⟨q.1, by omega⟩, v01, fun _ => by
        have e5 : N 2 (opt N z s i) / 128 = x := by rw [x3]; omega
        rw [e5, hv, hr]
        unfold backP geM leM
        simp only [up_c (show (8 : Nat) ≠ 20 by decide), up_c (show (9 : Nat) ≠ 20 by decide), up_c (show (10 : Nat) ≠ 20 by decide), up_c (show (11 : Nat) ≠ 20 by decide)], fun w => absurd w q1⟩
      refine ⟨r01, fun w => ⟨_, rfl, ?_⟩, fun w => ⟨_, rfl, ?_⟩⟩
      · exact askP_i (fun _ => key 0 (Or.inl rfl) (by omega))
      · exact askP_i (fun _ => key 1 (Or.inr rfl) (by omega))
  · rw [e]
    exact ⟨by omega, fun q => absurd (by decide) q, fun _ => ⟨_, rfl, askP_i (fun q => absurd q (by decide))⟩⟩
  · rw [e]
    exact ⟨by omega, fun q => absurd (by decide) q, fun _ => ⟨_, rfl, askP_i (fun q => absurd q (by decide))⟩⟩
