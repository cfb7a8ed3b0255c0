/-! ===== the class: names ===== -/
def isN (i : Nat) (u : Int → Int) (L e : Int) : Prop := enF u L e - stF u L e = lnN i ∧ ∀ x, 0 ≤ x → x < lnN i → u (stF u L e + x) = chN i x
theorem xn_20 {g : Gs} {ad : Nat → Nat} {sk : (Nat → Nat) × (Nat → Nat)} {X : Cx} {PQ : Option Value → Mem → Prop} {PX : String → Mem → Prop} (C : OkB (wC g ad sk) X cX8_isName RX8 3 6 0 0) (Y : OkR (wC g ad sk) X (some .boolean) 0 0 PQ PX) {u : Int → Int} {L e : Int} {A : Mem} {i : Nat} (hi : i < 3) (h : AtT u L A e) (hl : enF u L e - stF u L e = lnN i) (k1 : (∀ x, 0 ≤ x → x < lnN i → u (stF u L e + x) = chN i x) → PQ (some (vI 1)) A) (k0 : (∃ x, 0 ≤ x ∧ x < lnN i ∧ u (stF u L e + x) ≠ chN i x) → PQ (some (vI 0)) A) : ∀ (m : Nat) (j : Int), 0 ≤ j → j + m = lnN i → (∀ x, 0 ≤ x → x < j → u (stF u L e + x) = chN i x) → E (wC g ad sk) X 0 0 A 20 [(2, vI j), (0, .ref (ad 5)), (1, .ref (sk.1 i))] [] := by
  have ln := lnN_e i hi
  have r := atT_r (u := u) h.2.1
  have a5 := h.2.2.1
  have a1 := h.1.1
  have ae := h.2.1
  have aL := h.1.2
  have head : ∀ j : Int, 0 ≤ j → j ≤ 4 → (lnN i ≤ j → E (wC g ad sk) X 0 0 A 55 [(2, vI j), (0, .ref (ad 5)), (1, .ref (sk.1 i))] []) → (j < lnN i → E (wC g ad sk) X 0 0 A 28 [(2, vI j), (0, .ref (ad 5)), (1, .ref (sk.1 i))] []) → E (wC g ad sk) X 0 0 A 20 [(2, vI j), (0, .ref (ad 5)), (1, .ref (sk.1 i))] [] := by
    intro j j0 j4 q1 q2
    refine e_iload_n C 0 dX8_isName_20 rfl ?_
    refine e_aload_n C 2 dX8_isName_21 rfl ?_
    refine e_callKD (As := []) (rest := [vI j]) hi C Y mi_J0_length (tg3 55 rfl rfl) (tg3 56 rfl rfl) ml_X8_101 (s_length hi) (by decide) (Nat.le_of_ble_eq_true rfl) (Nat.zero_le _) (Nat.zero_le _) dX8_isName_22 rfl ?_
    exact e_icmp_ge C 55 (by omega) (by omega) dX8_isName_25 (by decide) q1 q2
  intro m
  induction m with
  | zero =>
    intro j j0 hm hx
    refine head j j0 (by omega) (fun _ => ?_) (fun q => absurd q (by omega))
    refine e_iconst C dX8_isName_55 ?_
    exact e_zret C Y (Nat.zero_le _) (Nat.zero_le _) (Or.inr rfl) dX8_isName_56 (k1 (fun x x0 x1 => hx x x0 (by omega)))
  | succ m ih =>
    intro j j0 hm hx
    refine e_wf (fun hw => ?_)
    refine head j j0 (by omega) (fun q => absurd q (by omega)) (fun _ => ?_)
    have cj := chN_i hi (j := j) (by omega)
    have cr := hw.2.1 24 (stF u L e + j) rfl
    have ea := a1 (stF u L e + j)
    refine e_aload_n C 1 dX8_isName_28 rfl ?_
    refine gX_8_19 C dX8_isName_29 ?_
    refine e_aload_n C 1 dX8_isName_32 rfl ?_
    refine gX_8_51 C dX8_isName_33 ?_
    refine e_iload_n C 0 dX8_isName_36 rfl ?_
    refine e_iadd C dX8_isName_37 ?_
    rw [a5]
    refine aX_36 C (by omega) dX8_isName_38 ?_
    refine e_aload_n C 2 dX8_isName_39 rfl ?_
    refine e_iload_n C 0 dX8_isName_40 rfl ?_
    refine e_callKD (As := [vI j]) (rest := [vI (A 24 (stF u L e + j))]) hi C Y mi_J0_charAt (tg3 65 rfl rfl) (tg3 66 rfl rfl) ml_X8_105 (s_charAt0 hi (by omega)) (by decide) (Nat.le_of_ble_eq_true rfl) (Nat.zero_le _) (Nat.zero_le _) dX8_isName_41 rfl ?_
    refine e_icmp_eq C 49 cr (by omega) dX8_isName_44 (by decide) (fun q => ?_) (fun q => ?_)
    · refine e_iinc C 0 dX8_isName_49 rfl (by decide) rfl ?_
      refine e_goto C 20 dX8_isName_52 (by decide) ?_
      refine ih (j + 1) (by omega) (by omega) (fun x x0 x1 => ?_)
      by_cases ex : x = j
      · rw [ex]; exact ea.symm.trans q
      · exact hx x x0 (by omega)
    · refine e_iconst C dX8_isName_47 ?_
      exact e_zret C Y (Nat.zero_le _) (Nat.zero_le _) (Or.inl rfl) dX8_isName_48 (k0 ⟨j, j0, by omega, fun w => q (ea.trans w)⟩)
theorem x_isName {g : Gs} {ad : Nat → Nat} {sk : (Nat → Nat) × (Nat → Nat)} {u : Int → Int} {L e : Int} {A : Mem} {i : Nat} (hi : i < 3) (h : AtT u L A e) : SpI (wC g ad sk) yX8_isName cX8_isName 3 (some .boolean) 6 [.ref (ad 5), .ref (sk.1 i)] A (fun r P => ((r = 1 ∧ isN i u L e) ∨ (r = 0 ∧ ¬ isN i u L e)) ∧ P = A) := by
  have ln := lnN_e i hi
  have r := atT_r (u := u) h.2.1
  have a5 := h.2.2.1
  have a7 := h.2.2.2.2
  have aL := h.1.2
  have ae := h.2.1
  intro l9 hl9
  refine ct_of hl9 mi_X8_isName.2.2.2 (Nat.le_of_ble_eq_true rfl) (fun X _ C Y => ?_)
  show E (wC g ad sk) X 0 0 A 0 [(0, .ref (ad 5)), (1, .ref (sk.1 i))] []
  refine e_aload_n C 0 dX8_isName_0 rfl ?_
  refine gX_8_33 C dX8_isName_1 ?_
  refine e_aload_n C 0 dX8_isName_4 rfl ?_
  refine gX_8_51 C dX8_isName_5 ?_
  refine e_isub C dX8_isName_8 ?_
  refine e_aload_n C 1 dX8_isName_9 rfl ?_
  refine e_callKD (As := []) (rest := [vI (A 30 0 - A 29 0)]) hi C Y mi_J0_length (tg3 55 rfl rfl) (tg3 56 rfl rfl) ml_X8_101 (s_length hi) (by decide) (Nat.le_of_ble_eq_true rfl) (Nat.zero_le _) (Nat.zero_le _) dX8_isName_10 rfl ?_
  refine e_icmp_eq C 18 (by omega) (by omega) dX8_isName_13 (by decide) (fun q => ?_) (fun q => ?_)
  · refine e_iconst C dX8_isName_18 ?_
    refine e_istore_n C dX8_isName_19 (by decide) rfl ?_
    refine xn_20 C Y hi h (by omega) (fun w => ⟨1, rfl, Or.inl ⟨rfl, by omega, w⟩, rfl⟩) (fun w => ⟨0, rfl, Or.inr ⟨rfl, fun w2 => ?_⟩, rfl⟩) (lnN i).toNat 0 (by omega) (by omega) (fun x x0 x1 => absurd x1 (by omega))
    obtain ⟨x, x0, x1, x2⟩ := w
    exact x2 (w2.2 x x0 x1)
  · refine e_iconst C dX8_isName_16 ?_
    refine e_zret C Y (Nat.zero_le _) (Nat.zero_le _) (Or.inl rfl) dX8_isName_17 ⟨0, rfl, Or.inr ⟨rfl, fun w2 => q ?_⟩, rfl⟩
    have := w2.1
    omega
/-- the name of the token: 1 star, 2 up, 3 down, 6 none -/
def nmK (u : Int → Int) (L e : Int) : Int :=
  if enF u L e - stF u L e = 4 ∧ u (stF u L e) = 115 ∧ u (stF u L e + 1) = 116 ∧ u (stF u L e + 2) = 97 ∧ u (stF u L e + 3) = 114 then 1 else
  if enF u L e - stF u L e = 2 ∧ u (stF u L e) = 117 ∧ u (stF u L e + 1) = 112 then 2 else
  if enF u L e - stF u L e = 4 ∧ u (stF u L e) = 100 ∧ u (stF u L e + 1) = 111 ∧ u (stF u L e + 2) = 119 ∧ u (stF u L e + 3) = 110 then 3 else 6
def nmX (k : Int) : List Int := if k = 1 then [100, 0, 101, 0, 102] else if k = 2 then [100, 0, 101, 100, 0, 101, 0, 102, 102] else [100, 100, 0, 101, 0, 102, 101, 0, 102]
theorem isN_0 {u : Int → Int} {L e : Int} : isN 0 u L e ↔ (enF u L e - stF u L e = 4 ∧ u (stF u L e) = 115 ∧ u (stF u L e + 1) = 116 ∧ u (stF u L e + 2) = 97 ∧ u (stF u L e + 3) = 114) := by
  constructor
  · intro h
    have h0 := h.2 0 (by decide) (by decide)
    rw [Int.add_zero] at h0
    exact ⟨h.1, h0, h.2 1 (by decide) (by decide), h.2 2 (by decide) (by decide), h.2 3 (by decide) (by decide)⟩
  · intro h
    refine ⟨h.1, fun x x0 x1 => ?_⟩
    have x4 : x < 4 := x1
    rcases (show x = 0 ∨ x = 1 ∨ x = 2 ∨ x = 3 by omega) with w | w | w | w <;> rw [w]
    · rw [Int.add_zero]; exact h.2.1
    · exact h.2.2.1
    · exact h.2.2.2.1
    · exact h.2.2.2.2
theorem isN_1 {u : Int → Int} {L e : Int} : isN 1 u L e ↔ (enF u L e - stF u L e = 2 ∧ u (stF u L e) = 117 ∧ u (stF u L e + 1) = 112) := by
  constructor
  · intro h
    have h0 := h.2 0 (by decide) (by decide)
    rw [Int.add_zero] at h0
    exact ⟨h.1, h0, h.2 1 (by decide) (by decide)⟩
  · intro h
    refine ⟨h.1, fun x x0 x1 => ?_⟩
    have x4 : x < 2 := x1
    rcases (show x = 0 ∨ x = 1 by omega) with w | w <;> rw [w]
    · rw [Int.add_zero]; exact h.2.1
    · exact h.2.2
theorem isN_2 {u : Int → Int} {L e : Int} : isN 2 u L e ↔ (enF u L e - stF u L e = 4 ∧ u (stF u L e) = 100 ∧ u (stF u L e + 1) = 111 ∧ u (stF u L e + 2) = 119 ∧ u (stF u L e + 3) = 110) := by
  constructor
  · intro h
    have h0 := h.2 0 (by decide) (by decide)
    rw [Int.add_zero] at h0
    exact ⟨h.1, h0, h.2 1 (by decide) (by decide), h.2 2 (by decide) (by decide), h.2 3 (by decide) (by decide)⟩
  · intro h
    refine ⟨h.1, fun x x0 x1 => ?_⟩
    have x4 : x < 4 := x1
    rcases (show x = 0 ∨ x = 1 ∨ x = 2 ∨ x = 3 by omega) with w | w | w | w <;> rw [w]
    · rw [Int.add_zero]; exact h.2.1
    · exact h.2.2.1
    · exact h.2.2.2.1
    · exact h.2.2.2.2
theorem nmK_r {u : Int → Int} {L e : Int} : nmK u L e = 1 ∨ nmK u L e = 2 ∨ nmK u L e = 3 ∨ nmK u L e = 6 := by
  unfold nmK
  split
  · omega
  · split
    · omega
    · split <;> omega
theorem x_takeName {g : Gs} {ad : Nat → Nat} {sk : (Nat → Nat) × (Nat → Nat)} {u : Int → Int} {L e : Int} {A : Mem} (h : AtT u L A e) (hk2 : kdF u L e = 2) (h22 : 0 ≤ A 22 0 ∧ A 22 0 ≤ 5 * e) : SpV (wC g ad sk) yX8_takeName cX8_takeName 1 none 7 [.ref (ad 5)] (A) (fun N => FX A N ∧ ((nmK u L e = 6 ∧ N 31 0 = stF u L e) ∨ (nmK u L e ≠ 6 ∧ Em A N (nmX (nmK u L e)) ∧ AtT u L N (enF u L e) ∧ N 26 0 = A 26 0 ∧ (∀ i, N 25 i = A 25 i) ∧ N 27 0 = 3 ∧ N 31 0 = A 31 0))) := by
  have r := atT_r (u := u) h.2.1
  have lt := r.2.2.2 (by omega)
  have a5 := h.2.2.1
  have aL := h.1.2
  have ae := h.2.1
  intro l9 hl9
  refine ct_of hl9 mi_X8_takeName.2.2.2 (Nat.le_of_ble_eq_true rfl) (fun X _ C Y => ?_)
  show E (wC g ad sk) X 0 0 A 0 [(0, .ref (ad 5))] []
  have b102 : ∀ N, AtT u L N e → (∀ P, FA (up N 27 0 3) P → AtT u L P (enF u L e) → (FX A P ∧ ((nmK u L e = 6 ∧ P 31 0 = stF u L e) ∨ (nmK u L e ≠ 6 ∧ Em A P (nmX (nmK u L e)) ∧ AtT u L P (enF u L e) ∧ P 26 0 = A 26 0 ∧ (∀ i, P 25 i = A 25 i) ∧ P 27 0 = 3 ∧ P 31 0 = A 31 0)))) → E (wC g ad sk) X 0 0 N 102 [(0, .ref (ad 5))] [] := by
    intro N t kp
    refine e_aload_n C 0 dX8_takeName_102 rfl ?_
    refine e_iconst C dX8_takeName_103 ?_
    refine pX_8_39 C (by decide) dX8_takeName_104 ?_
    refine e_aload_n C 0 dX8_takeName_107 rfl ?_
    refine e_callVV (As := []) (rest := []) (q0 := 5) (ci := 8) C Y mi_X8_advance ms_X8_advance mv_X8_advance ml_X8_42 (x_advT (t.fa (N := up N 27 0 3) (fun c i h1 h2 h3 h4 h5 h6 => up_c h5))) (wlX_st rfl) rfl (by decide) (Nat.le_of_ble_eq_true rfl) (Nat.zero_le _) (Nat.zero_le _) dX8_takeName_108 rfl (fun P hP => ?_)
    exact e_vret C Y (Nat.zero_le _) (Nat.zero_le _) dX8_takeName_111 ⟨rfl, kp P hP.1 hP.2⟩
  have good : ∀ N, FN A N → nmK u L e ≠ 6 → Em A N (nmX (nmK u L e)) → E (wC g ad sk) X 0 0 N 102 [(0, .ref (ad 5))] [] := by
    intro N f nk em
    refine b102 N (h.fa (fun c i h1 h2 h3 h4 h5 h6 => f c i h1 h2)) (fun P fP tP => ⟨fun c i h1 h2 h3 => ?_, Or.inr ⟨nk, em_fn em (fun i => ?_) ?_, tP, ?_, fun i => ?_, ?_, ?_⟩⟩)
    · rw [fP c i (by omega) (by omega) (by omega), up_c (by omega)]; exact f c i h1 h2
    · rw [fP 21 i (by decide) (by decide) (by decide), up_c (by decide)]
    · rw [fP 22 0 (by decide) (by decide) (by decide), up_c (by decide)]
    · rw [fP 26 0 (by decide) (by decide) (by decide), up_c (by decide)]; exact f 26 0 (by decide) (by decide)
    · rw [fP 25 i (by decide) (by decide) (by decide), up_c (by decide)]; exact f 25 i (by decide) (by decide)
    · rw [fP 27 0 (by decide) (by decide) (by decide), up_s]
    · rw [fP 31 0 (by decide) (by decide) (by decide), up_c (by decide)]; exact f 31 0 (by decide) (by decide)
  have fn : ∀ {N1 N2 N3 : Mem}, FN N1 N2 → FN N2 N3 → FN N1 N3 := fun f1 f2 c i h1 h2 => (f2 c i h1 h2).trans (f1 c i h1 h2)
  have nt : ∀ {N : Mem} {x : Int} {pc : Nat}, R32 x → 0 ≤ N 22 0 ∧ N 22 0 < 400 → decode cX8_takeName pc = .ok (.invokevirtual 71, 3) → (∀ P, FN N P → Em N P [x] → E (wC g ad sk) X 0 0 P (pc + 3) [(0, .ref (ad 5))] []) → E (wC g ad sk) X 0 0 N pc [(0, .ref (ad 5))] [vI x, .ref (ad 5)] := by
    intro N x pc hx h2 hd kk
    exact e_callVV (As := [vI x]) (rest := []) (q0 := 5) (ci := 8) C Y mi_X8_note ms_X8_note mv_X8_note ml_X8_71 (x_note hx h2) (wlX_st rfl) rfl (by decide) (Nat.le_of_ble_eq_true rfl) (Nat.zero_le _) (Nat.zero_le _) hd rfl (fun P hP => kk P hP.1 hP.2)
  have ns : ∀ {N : Mem} {pc : Nat}, 0 ≤ N 22 0 ∧ N 22 0 + 5 ≤ 400 → decode cX8_takeName pc = .ok (.invokevirtual 90, 3) → (∀ P, FN N P → Em N P [100, 0, 101, 0, 102] → E (wC g ad sk) X 0 0 P (pc + 3) [(0, .ref (ad 5))] []) → E (wC g ad sk) X 0 0 N pc [(0, .ref (ad 5))] [.ref (ad 5)] := by
    intro N pc h2 hd kk
    exact e_callVV (As := []) (rest := []) (q0 := 5) (ci := 8) C Y mi_X8_noteStar ms_X8_noteStar mv_X8_noteStar ml_X8_90 (x_noteStar h2) (wlX_st rfl) rfl (by decide) (Nat.le_of_ble_eq_true rfl) (Nat.zero_le _) (Nat.zero_le _) hd rfl (fun P hP => kk P hP.1 hP.2)
  have nm : ∀ {i : Nat} {pc : Nat}, i < 3 → decode cX8_takeName pc = .ok (.invokevirtual 86, 3) → (∀ r : Int, ((r = 1 ∧ isN i u L e) ∨ (r = 0 ∧ ¬ isN i u L e)) → E (wC g ad sk) X 0 0 A (pc + 3) [(0, .ref (ad 5))] [vI r]) → E (wC g ad sk) X 0 0 A pc [(0, .ref (ad 5))] [.ref (sk.1 i), .ref (ad 5)] := by
    intro i pc hi hd kk
    refine e_callVI (As := [.ref (sk.1 i)]) (rest := []) (q0 := 5) (ci := 8) C Y mi_X8_isName (tg3 52 rfl rfl) mv_X8_isName ml_X8_86 (x_isName hi h) (wlX_st rfl) rfl (by decide) (Nat.le_of_ble_eq_true rfl) (Nat.zero_le _) (Nat.zero_le _) hd rfl (fun r P hP => ?_)
    rw [hP.2]
    exact kk r hP.1
  refine e_aload_n C 0 dX8_takeName_0 rfl ?_
  refine e_ldcS C (q := sk.1 0) (fun A s h => h.2.2.2.2.2.2.2.1.1) dX8_takeName_1 ?_
  refine nm (by decide) dX8_takeName_3 (fun r0 hr0 => ?_)
  refine e_if_eq C 16 (by omega) dX8_takeName_6 (by decide) (fun q0 => ?_) (fun q0 => ?_)
  rotate_left
  · have i0 : isN 0 u L e := by
      rcases hr0 with w | w
      · exact w.2
      · omega
    have k1 : nmK u L e = 1 := by rw [nmK, if_pos (isN_0.mp i0)]
    have l4 : enF u L e - stF u L e = 4 := (isN_0.mp i0).1
    refine e_aload_n C 0 dX8_takeName_9 rfl ?_
    refine ns (by omega) dX8_takeName_10 (fun P f em => ?_)
    refine e_goto C 102 dX8_takeName_13 (by decide) ?_
    exact good P f (by omega) (by rw [k1]; exact em)
  have i0 : ¬ isN 0 u L e := by
    rcases hr0 with w | w
    · omega
    · exact w.2
  refine e_aload_n C 0 dX8_takeName_16 rfl ?_
  refine e_ldcS C (q := sk.1 1) (fun A s h => h.2.2.2.2.2.2.2.1.2.1) dX8_takeName_17 ?_
  refine nm (by decide) dX8_takeName_19 (fun r1 hr1 => ?_)
  refine e_if_eq C 55 (by omega) dX8_takeName_22 (by decide) (fun q1 => ?_) (fun q1 => ?_)
  rotate_left
  · have i1 : isN 1 u L e := by
      rcases hr1 with w | w
      · exact w.2
      · omega
    have k1 : nmK u L e = 2 := by rw [nmK, if_neg (fun w => i0 (isN_0.mpr w)), if_pos (isN_1.mp i1)]
    have l4 : enF u L e - stF u L e = 2 := (isN_1.mp i1).1
    refine e_aload_n C 0 dX8_takeName_25 rfl ?_
    refine e_bipush C dX8_takeName_26 (by decide) ?_
    refine nt (by decide) (by omega) dX8_takeName_28 (fun P1 f1 m1 => ?_)
    have c1 : P1 22 0 = A 22 0 + 1 := m1.1
    refine e_aload_n C 0 dX8_takeName_31 rfl ?_
    refine e_iconst C dX8_takeName_32 ?_
    refine nt (by decide) (by omega) dX8_takeName_33 (fun P2 f2 m2 => ?_)
    have c2 : P2 22 0 = P1 22 0 + 1 := m2.1
    refine e_aload_n C 0 dX8_takeName_36 rfl ?_
    refine e_bipush C dX8_takeName_37 (by decide) ?_
    refine nt (by decide) (by omega) dX8_takeName_39 (fun P3 f3 m3 => ?_)
    have c3 : P3 22 0 = P2 22 0 + 1 := m3.1
    refine e_aload_n C 0 dX8_takeName_42 rfl ?_
    refine ns (by omega) dX8_takeName_43 (fun P4 f4 m4 => ?_)
    have c4 : P4 22 0 = P3 22 0 + 5 := m4.1
    refine e_aload_n C 0 dX8_takeName_46 rfl ?_
    refine e_bipush C dX8_takeName_47 (by decide) ?_
    refine nt (by decide) (by omega) dX8_takeName_49 (fun P5 f5 m5 => ?_)
    refine e_goto C 102 dX8_takeName_52 (by decide) ?_
    exact good P5 (fn f1 (fn f2 (fn f3 (fn f4 f5)))) (by omega) (by rw [k1]; exact em_app (em_app (em_app (em_app m1 m2) m3) m4) m5)
  have i1 : ¬ isN 1 u L e := by
    rcases hr1 with w | w
    · omega
    · exact w.2
  refine e_aload_n C 0 dX8_takeName_55 rfl ?_
  refine e_ldcS C (q := sk.1 2) (fun A s h => h.2.2.2.2.2.2.2.1.2.2) dX8_takeName_56 ?_
  refine nm (by decide) dX8_takeName_58 (fun r2 hr2 => ?_)
  refine e_if_eq C 94 (by omega) dX8_takeName_61 (by decide) (fun q2 => ?_) (fun q2 => ?_)
  rotate_left
  · have i2 : isN 2 u L e := by
      rcases hr2 with w | w
      · exact w.2
      · omega
    have k1 : nmK u L e = 3 := by rw [nmK, if_neg (fun w => i0 (isN_0.mpr w)), if_neg (fun w => i1 (isN_1.mpr w)), if_pos (isN_2.mp i2)]
    have l4 : enF u L e - stF u L e = 4 := (isN_2.mp i2).1
    refine e_aload_n C 0 dX8_takeName_64 rfl ?_
    refine e_bipush C dX8_takeName_65 (by decide) ?_
    refine nt (by decide) (by omega) dX8_takeName_67 (fun P1 f1 m1 => ?_)
    have c1 : P1 22 0 = A 22 0 + 1 := m1.1
    refine e_aload_n C 0 dX8_takeName_70 rfl ?_
    refine ns (by omega) dX8_takeName_71 (fun P2 f2 m2 => ?_)
    have c2 : P2 22 0 = P1 22 0 + 5 := m2.1
    refine e_aload_n C 0 dX8_takeName_74 rfl ?_
    refine e_bipush C dX8_takeName_75 (by decide) ?_
    refine nt (by decide) (by omega) dX8_takeName_77 (fun P3 f3 m3 => ?_)
    have c3 : P3 22 0 = P2 22 0 + 1 := m3.1
    refine e_aload_n C 0 dX8_takeName_80 rfl ?_
    refine e_iconst C dX8_takeName_81 ?_
    refine nt (by decide) (by omega) dX8_takeName_82 (fun P4 f4 m4 => ?_)
    have c4 : P4 22 0 = P3 22 0 + 1 := m4.1
    refine e_aload_n C 0 dX8_takeName_85 rfl ?_
    refine e_bipush C dX8_takeName_86 (by decide) ?_
    refine nt (by decide) (by omega) dX8_takeName_88 (fun P5 f5 m5 => ?_)
    refine e_goto C 102 dX8_takeName_91 (by decide) ?_
    exact good P5 (fn f1 (fn f2 (fn f3 (fn f4 f5)))) (by omega) (by rw [k1]; exact em_app (em_app (em_app (em_app m1 m2) m3) m4) m5)
  have i2 : ¬ isN 2 u L e := by
    rcases hr2 with w | w
    · omega
    · exact w.2
  have k1 : nmK u L e = 6 := by rw [nmK, if_neg (fun w => i0 (isN_0.mpr w)), if_neg (fun w => i1 (isN_1.mpr w)), if_neg (fun w => i2 (isN_2.mpr w))]
  refine e_aload_n C 0 dX8_takeName_94 rfl ?_
  refine e_aload_n C 0 dX8_takeName_95 rfl ?_
  refine gX_8_51 C dX8_takeName_96 ?_
  refine pX_8_36 C (by omega) dX8_takeName_99 ?_
  refine b102 _ (h.fa (fun c i h1 h2 h3 h4 h5 h6 => up_c h6)) (fun P fP tP => ⟨fun c i h1 h2 h3 => ?_, Or.inl ⟨k1, ?_⟩⟩)
  · rw [fP c i (by omega) (by omega) (by omega), up_c (by omega), up_c (by omega)]
  · rw [fP 31 0 (by decide) (by decide) (by decide), up_c (by decide), up_s]; exact a5
