/-! ===== the class: reversible ===== -/
theorem hv_by (e : Int) : (halvI e = 3 ∧ byH e = 1024 ∧ ishlI 1 (halvI e) = 8) ∨ (halvI e = 2 ∧ byH e = 512 ∧ ishlI 1 (halvI e) = 4) ∨ (halvI e = 1 ∧ byH e = 256 ∧ ishlI 1 (halvI e) = 2) ∨ (halvI e = 0 ∧ byH e = 128 ∧ ishlI 1 (halvI e) = 1) := by
  unfold halvI byH
  split
  · exact Or.inl ⟨rfl, rfl, by decide⟩
  · split
    · exact Or.inr (Or.inl ⟨rfl, rfl, by decide⟩)
    · split
      · exact Or.inr (Or.inr (Or.inl ⟨rfl, rfl, by decide⟩))
      · exact Or.inr (Or.inr (Or.inr ⟨rfl, rfl, by decide⟩))
theorem rg_ge {G X : Mem} {z x : Int} (h : RepG G X z) : (geN X z x ↔ geM G z x) ∧ (leN X z x ↔ leM G z x) := by
  obtain ⟨s1, s2, s3, s4⟩ := h.2.2.2.1
  rw [show (40 * 0 + z : Int) = z by omega] at s1 s3
  rw [show (40 * 1 + z : Int) = 40 + z by omega] at s2 s4
  unfold geN geM leN leM
  rw [s1, s2, s3, s4]
  exact ⟨Iff.rfl, Iff.rfl⟩
theorem x_isReversibleNumber {g : Gs} {ad : Nat → Nat} {sk : (Nat → Nat) × (Nat → Nat)} {A M : Mem} {z s e : Int} (h : Jn A M) (hz : 0 ≤ z ∧ z < M 0 0) (hs : s = 0 ∨ s = 1) (he : -64 ≤ e ∧ e ≤ 64) : SpI (wC g ad sk) yX5_isReversibleNumber cX5_isReversibleNumber 5 (some .boolean) 2 [.ref (ad (44 + 6 * (Int.toNat z))), vI (s), vI (e)] (A) (fun r B => (r = 0 ∨ r = 1) ∧ (r = 1 ↔ backP M z s e) ∧ B = A) := by
  intro l9 hl9
  refine ct_of hl9 mi_X5_isReversibleNumber.2.2.2 (Nat.le_of_ble_eq_true rfl) (fun X _ C Y => ?_)
  show E (wC g ad sk) X 0 0 (A) 0 [(0, .ref (ad (44 + 6 * (Int.toNat z)))), (1, vI (s)), (2, vI (e))] []
  refine e_wf (fun hw => ?_)
  have hn := h.n
  have hb := hv_by e
  have rg := h.g hz.1 hz.2
  have sg : sgnS s = 1 ∧ s = 0 ∨ sgnS s = -1 ∧ s = 1 := by unfold sgnS; rcases hs with rfl | rfl <;> simp
  have go : (byH e < 1024 ∨ sgnS s * e < 0) → E (wC g ad sk) X 0 0 (A) 21 [(0, .ref (ad (44 + 6 * (Int.toNat z)))), (1, vI (s)), (2, vI (e)), (3, vI (halvI e))] [] := by
    intro w
    rcases sg with ⟨s1, rfl⟩ | ⟨s1, rfl⟩
    · rw [s1] at w
      have ev : (e + sgnS 0 * ishlI 1 (halvI e)) * 128 = 128 * e + byH e := by rw [s1]; omega
      refine B_X5_isReversibleNumber_21 (by omega) (by omega) (by omega) (by omega) (Nat.zero_le _) (Nat.zero_le _) C Y ⟨⟨by rw [s1]; omega, by rw [s1]; omega, by rw [ev]; omega⟩, fun c => absurd rfl c, fun c => ⟨_, rfl, b2i_01 _, ?_, rfl⟩⟩
      rw [b2i_1, ev, (rg_ge rg).1]
      unfold backP
      rw [if_pos rfl]
      exact ⟨fun q => ⟨by omega, q⟩, fun q => q.2⟩
    · rw [s1] at w
      have ev : (e + sgnS 1 * ishlI 1 (halvI e)) * 128 = 128 * e - byH e := by rw [s1]; omega
      refine B_X5_isReversibleNumber_21 (by omega) (by omega) (by omega) (by omega) (Nat.zero_le _) (Nat.zero_le _) C Y ⟨⟨by rw [s1]; omega, by rw [s1]; omega, by rw [ev]; omega⟩, fun c => ⟨_, rfl, b2i_01 _, ?_, rfl⟩, fun c => absurd c (by decide)⟩
      rw [b2i_1, ev, (rg_ge rg).2]
      unfold backP
      rw [if_neg (by decide)]
      exact ⟨fun q => ⟨by omega, q⟩, fun q => q.2⟩
  refine B_X5_isReversibleNumber_0 (by omega) (by omega) (by omega) (Nat.zero_le _) (Nat.zero_le _) C Y ⟨fun c => go (Or.inl (by omega)), fun c => ⟨?_, fun c1 => go (Or.inr c1), fun c1 => ⟨_, rfl, Or.inl rfl, ⟨fun q => absurd q (by decide), fun q => ?_⟩, rfl⟩⟩⟩
  · rcases sg with ⟨s1, -⟩ | ⟨s1, -⟩ <;> rw [s1] <;> omega
  · exfalso
    unfold backP at q
    rcases sg with ⟨s1, rfl⟩ | ⟨s1, rfl⟩
    · rw [s1] at c1; rw [if_pos rfl] at q; have := q.1; omega
    · rw [s1] at c1; rw [if_neg (by decide)] at q; have := q.1; omega
theorem xrv_35 {g : Gs} {ad : Nat → Nat} {sk : (Nat → Nat) × (Nat → Nat)} {X : Cx} {PQ : Option Value → Mem → Prop} {PX : String → Mem → Prop} (C : OkB (wC g ad sk) X cX5_isReversible RX5 6 3 0 0) (Y : OkR (wC g ad sk) X (some .boolean) 0 0 PQ PX) {A M : Mem} {z s o : Int} (h : Jn A M) (hz : 0 ≤ z ∧ z < M 0 0) (hs : s = 0 ∨ s = 1) (ho : 0 ≤ o ∧ o < M 0 0) (kk : ∀ r, (r = 0 ∨ r = 1) → (r = 1 ↔ likB M s z o (M 3 (2 * o + (1 - s)))) → PQ (some (vI r)) A) : ∀ (m : Nat) (k : Int), 0 ≤ k → k + m = M 3 (2 * o + (1 - s)) → ¬ likB M s z o k → E (wC g ad sk) X 0 0 (A) 35 [(0, .ref (ad 1)), (1, vI (z)), (2, vI (s)), (4, .ref (ad (44 + 6 * (Int.toNat o)))), (5, vI (k))] [] := by
  have hn := h.n
  have ct := h.ct ho (s := 1 - s) (by omega)
  have oo := (opS_r (hn.2.2.2.2.2 o ho.1 ho.2).1.1 (s := 1 - s) (by omega)).2.2
  intro m
  induction m with
  | zero =>
    intro k k1 k2 hk
    have : k = M 3 (2 * o + (1 - s)) := by omega
    subst this
    exact B_X5_isReversible_35 (by omega) (by omega) (by omega) (by omega) (Nat.zero_le _) (Nat.zero_le _) C Y ⟨by omega, fun c => kk 0 (Or.inl rfl) ⟨fun q => absurd q (by decide), fun q => absurd q hk⟩, fun c => absurd c (by omega)⟩
  | succ m ih =>
    intro k k1 k2 hk
    have ok := oo k k1 (by omega)
    have eo : optAt A o (1 - s) k = opt M o (1 - s) k := by rw [h.op ho (by omega), optV, if_pos (by omega)]
    have g1 := h.gA (s := s) (x := z) (y := opt M o (1 - s) k) hz ⟨ok.1, by omega⟩
    refine B_X5_isReversible_35 (by omega) (by omega) (by omega) (by omega) (Nat.zero_le _) (Nat.zero_le _) C Y ⟨by omega, fun c => absurd c (by omega), fun c => ⟨by rw [eo]; omega, ?_⟩⟩
    rw [eo]
    refine ⟨fun c1 => ⟨by omega, ih (k + 1) (by omega) (by omega) ?_⟩, fun c1 => kk 1 (Or.inr rfl) ⟨fun _ => ⟨k, k1, by omega, g1.mp c1⟩, fun _ => rfl⟩⟩
    rintro ⟨j, j1, j2, j3⟩
    by_cases e : j = k
    · subst e; exact c1 (g1.mpr j3)
    · exact hk ⟨j, j1, by omega, j3⟩
theorem x_isReversible {g : Gs} {ad : Nat → Nat} {sk : (Nat → Nat) × (Nat → Nat)} {A M : Mem} {z s i : Int} (h : Jn A M) (hz : 0 ≤ z ∧ z < M 0 0) (hs : s = 0 ∨ s = 1) (hi : 0 ≤ i ∧ i < M 3 (2 * z + s)) : SpI (wC g ad sk) yX5_isReversible cX5_isReversible 6 (some .boolean) 3 [.ref (ad 1), vI (z), vI (s), vI (opt M z s i)] (A) (fun r B => (r = 0 ∨ r = 1) ∧ RevR M z s i r ∧ B = A) := by
  have hn := h.n
  have ct := h.ct hz hs
  have oi := (opS_r (hn.2.2.2.2.2 z hz.1 hz.2).1.1 (s := s) (by omega)).2.2 i hi.1 hi.2
  intro l9 hl9
  refine ct_of hl9 mi_X5_isReversible.2.2.2 (Nat.le_of_ble_eq_true rfl) (fun X _ C Y => ?_)
  show E (wC g ad sk) X 0 0 (A) 0 [(0, .ref (ad 1)), (1, vI (z)), (2, vI (s)), (3, vI (opt M z s i))] []
  refine e_wf (fun hw => ?_)
  have ro := h.g oi.1 (by omega)
  obtain ⟨a1, a2, a3⟩ := ro.1
  refine B_X5_isReversible_0 (by omega) (by omega) (by omega) (Nat.zero_le _) (Nat.zero_le _) C Y ⟨by omega, fun c => ?_, fun c => ⟨by omega, ?_⟩⟩
  · have n1 : M 1 (opt M z s i) = 0 := a2.mp (by omega)
    have ct2 := h.ct (z := opt M z s i) (s := 1 - s) ⟨oi.1, by omega⟩ (by omega)
    refine xrv_35 C Y h hz hs ⟨oi.1, by omega⟩ (fun r r01 hr => ⟨_, rfl, r01, Or.inr ⟨hi, r01, fun w => absurd n1 w, fun _ => hr⟩, rfl⟩) (M 3 (2 * opt M z s i + (1 - s))).toNat 0 (by omega) (by omega) (fun ⟨j, j1, j2, _⟩ => by omega)
  · have n1 : M 1 (opt M z s i) ≠ 0 := fun q => by have := a2.mpr q; omega
    obtain ⟨-, -, -, x, x1, x2, x3⟩ := (hn.2.2.2.2.2 (opt M z s i) oi.1 (by omega)).1.2.2.2.1 n1
    have x4 := a3 n1
    have e46 : A 46 (opt M z s i) = x := by omega
    rw [e46]
    refine ⟨_, x_isReversibleNumber h hz hs ⟨x1, x2⟩, fun r B hB => ?_⟩
    obtain ⟨r01, hr, rfl⟩ := hB
    refine ⟨r01, _, rfl, r01, Or.inr ⟨hi, r01, fun _ => ?_, fun w => absurd w n1⟩, rfl⟩
    rw [show M 2 (opt M z s i) / 128 = x by omega]
    exact hr
theorem x_reversible {g : Gs} {ad : Nat → Nat} {sk : (Nat → Nat) × (Nat → Nat)} {A M : Mem} {z s i : Int} (h : Jn A M) (hz : R32 z) (hs : R32 s) (hi : R32 i) : SpT (wC g ad sk) yX9_reversible cX9_reversible 5 (some .int) 4 [.ref (ad 0), vI (z), vI (s), vI (i)] (A) (fun r B => Res (AskP M (kGS M z s) (RevR M z s i)) 0 r B) (fun e B => (e = eIO ∧ Res (AskP M (kGS M z s) (RevR M z s i)) 1 0 B) ∨ (e = eIA ∧ Res (AskP M (kGS M z s) (RevR M z s i)) 2 0 B)) := by
  intro l9 hl9
  refine ct_of hl9 mi_X9_reversible.2.2.2 (Nat.le_of_ble_eq_true rfl) (fun X _ C Y => ?_)
  show E (wC g ad sk) X 0 0 (A) 0 [(0, .ref (ad 0)), (1, vI (z)), (2, vI (s)), (3, vI (i))] []
  refine e_wf (fun hw => ?_)
  have hn := h.n
  refine B_X9_reversible_0 (by omega) (by omega) (by omega) (Nat.zero_le _) (Nat.zero_le _) C Y ⟨fun c => ⟨fun c1 => ?_, fun c1 => ⟨by omega, Or.inr ⟨rfl, ?_⟩⟩⟩, fun c => ⟨by omega, Or.inl ⟨rfl, ?_⟩⟩⟩
  all_goals rw [hn.1] at c
  · have ct := h.ct c c1
    have eo := h.op (i := i) c c1
    have oo := (opS_r (hn.2.2.2.2.2 z c.1 c.2).1.1 (s := s) (by omega)).2.2
    refine ⟨⟨by omega, by omega, by omega⟩, ?_⟩
    rw [eo, kGS, if_pos c, if_pos c1]
    by_cases hi2 : 0 ≤ i ∧ i < M 3 (2 * z + s)
    · have oi := oo i hi2.1 hi2.2
      rw [optV, if_pos hi2]
      refine ⟨fun _ => ⟨_, x_isReversible h c c1 hi2, fun r B hB => ?_⟩, fun q => absurd q (by omega)⟩
      obtain ⟨r01, hr, rfl⟩ := hB
      refine ⟨r01, fun q => ⟨_, rfl, ?_⟩, fun q => ⟨_, rfl, ?_⟩⟩
      · subst q; exact res_askP h rev_uq (fun _ => hr)
      · have : r = 1 := by omega
        subst this; exact res_askP h rev_uq (fun _ => hr)
    · rw [optV, if_neg hi2]
      exact ⟨fun q => absurd rfl q, fun _ => ⟨_, rfl, res_askP h rev_uq (fun _ => Or.inl ⟨hi2, rfl⟩)⟩⟩
  · rw [kGS, if_pos c, if_neg c1]; exact res_askP h rev_uq (fun q => absurd q (by decide))
  · rw [kGS, if_neg c]; exact res_askP h rev_uq (fun q => absurd q (by decide))
