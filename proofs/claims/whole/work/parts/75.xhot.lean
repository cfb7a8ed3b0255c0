/-! ===== the class: becomeHot ===== -/
theorem up_n {M : Mem} {c a : Nat} {i v b : Int} (h : a ≠ c ∨ b ≠ i) : up M c i v a b = M a b := by
  rcases h with h | h <;> simp [up, h]
theorem landL_r (a b : Int) : R64 (landL a b) := ⟨Int64.le_toInt _, by have := Int64.toInt_lt (i64 a &&& i64 b); unfold landL; omega⟩
theorem td2 {p : Int} : Int.tdiv (2 * p) 2 = p := Int.mul_tdiv_cancel_left p (by decide)
/-- what becomeHot may touch -/
def HpF (M P : Mem) (z : Int) : Prop := ∀ c i, ¬ ((c = 49 ∨ c = 53) ∧ i = z) → ¬ ((c = 43 ∨ c = 44) ∧ (i = z ∨ i = 40 + z)) → P c i = M c i
def HpI (G M P : Mem) (z s : Int) (j : Nat) : Prop := HpF M P z ∧ P 49 z = 0 ∧ (∀ s', 0 ≤ s' → s' ≤ s → P 43 (40 * s' + z) = M 8 s' ∧ P 44 (40 * s' + z) = M 9 s') ∧ ∀ x, 0 ≤ x → x < 64 → (tb (P 53 z) x = true ↔ (x = z ∨ ∃ s' i, 0 ≤ s' ∧ s' ≤ 1 ∧ 0 ≤ i ∧ i < G 3 (2 * z + s') ∧ (s' < s ∨ (s' = s ∧ i < (j : Int))) ∧ tb (M 53 (opt G z s' i)) x = true))
theorem bh_49 {g : Gs} {ad : Nat → Nat} {sk : (Nat → Nat) × (Nat → Nat)} {X : Cx} {PQ : Option Value → Mem → Prop} {PX : String → Mem → Prop} (C : OkB (wC g ad sk) X cX5_becomeHot RX5 6 3 0 0) (Y : OkR (wC g ad sk) X none 0 0 PQ PX) {G M : Mem} {z s : Int} (hz : 0 ≤ z ∧ z < 40) (hs : 0 ≤ s ∧ s ≤ 1) (hr : RwX G M z) (kk : ∀ P, HpI G M P z s (G 3 (2 * z + s)).toNat → E (wC g ad sk) X 0 0 (P) 18 [(0, .ref (ad 1)), (1, .ref (ad (44 + 6 * (Int.toNat z)))), (2, vI (s + 1))] []) : ∀ (m j : Nat), (j : Int) + m = G 3 (2 * z + s) → ∀ P, HpI G M P z s j → E (wC g ad sk) X 0 0 (P) 49 [(0, .ref (ad 1)), (1, .ref (ad (44 + 6 * (Int.toNat z)))), (2, vI (s)), (3, vI (j))] [] := by
  have hb := opS_r hr.1 hs
  intro m
  induction m with
  | zero =>
    intro j hj P hP
    have c41 : P 41 (40 * s + z) = G 3 (2 * z + s) := (hP.1 41 _ (by omega) (by omega)).trans (hr.2 s hs.1 hs.2).1
    have ej : (G 3 (2 * z + s)).toNat = j := by omega
    rw [ej] at kk
    exact B_X5_becomeHot_49 (by omega) (by omega) (by omega) (Nat.le_refl _) (Nat.le_refl _) C Y ⟨by omega, fun c => ⟨by omega, kk P hP⟩, fun c => absurd c (by omega)⟩
  | succ m ih =>
    intro j hj P hP
    have c41 : P 41 (40 * s + z) = G 3 (2 * z + s) := (hP.1 41 _ (by omega) (by omega)).trans (hr.2 s hs.1 hs.2).1
    have hrP : RwX G P z := ⟨hr.1, fun t t1 t2 => ⟨(hP.1 41 _ (by omega) (by omega)).trans (hr.2 t t1 t2).1, fun i i1 i2 => (hP.1 42 _ (by omega) (by omega)).trans ((hr.2 t t1 t2).2 i i1 i2)⟩⟩
    have eo := rw_opt hrP hs (i := j) (by omega)
    have ob := hb.2.2 j (by omega) (by omega)
    have n53 : P 53 (opt G z s j) = M 53 (opt G z s j) := hP.1 53 _ (by omega) (by omega)
    refine B_X5_becomeHot_49 (by omega) (by omega) (by omega) (Nat.le_refl _) (Nat.le_refl _) C Y ⟨by omega, fun c => absurd c (by omega), fun c => ⟨by rw [eo]; omega, ?_⟩⟩
    rw [eo, n53]
    refine ih (j + 1) (by omega) _ ⟨fun c i q1 q2 => ?_, ?_, fun s' s1 s2 => ?_, fun x x1 x2 => ?_⟩
    · by_cases h : c = 53
      · subst h; rw [up_i (fun e => q1 ⟨Or.inr rfl, e⟩)]; exact hP.1 53 i q1 q2
      · rw [up_c h]; exact hP.1 c i q1 q2
    · rw [up_c (by decide)]; exact hP.2.1
    · rw [up_c (by decide), up_c (by decide)]; exact hP.2.2.1 s' s1 s2
    · rw [up_s, tb_or, Bool.or_eq_true, hP.2.2.2 x x1 x2]
      constructor
      · rintro ((q | ⟨s', i, a1, a2, a3, a4, a5, a6⟩) | q)
        · exact Or.inl q
        · exact Or.inr ⟨s', i, a1, a2, a3, a4, by omega, a6⟩
        · exact Or.inr ⟨s, j, hs.1, hs.2, by omega, by omega, by omega, q⟩
      · rintro (q | ⟨s', i, a1, a2, a3, a4, a5, a6⟩)
        · exact Or.inl (Or.inl q)
        · by_cases e : s' = s ∧ i = j
          · obtain ⟨rfl, rfl⟩ := e; exact Or.inr a6
          · exact Or.inl (Or.inr ⟨s', i, a1, a2, a3, a4, by omega, a6⟩)
theorem bh_119 {g : Gs} {ad : Nat → Nat} {sk : (Nat → Nat) × (Nat → Nat)} {X : Cx} {PQ : Option Value → Mem → Prop} {PX : String → Mem → Prop} (C : OkB (wC g ad sk) X cX5_becomeHot RX5 6 3 0 0) (Y : OkR (wC g ad sk) X none 0 0 PQ PX) {N M : Mem} {n w : Int} (hn : 0 ≤ n ∧ n < 40) (hN : Good (n + 1) N) (h6 : N 6 n = 0) (h4 : M 4 0 = n) (hx : ∀ z, 0 ≤ z → z < n → RepG N M z) (hr : RwX N M n) (hwd : R64 w) (hcl : ClW N n w) (hop : ∀ s i, 0 ≤ s → s ≤ 1 → 0 ≤ i → i < N 3 (2 * n + s) → tb w (opt N n s i) = true)
    (kk : ∀ P, WlK M P → PQ none (up (up P 51 n (N 14 n)) 50 n (N 13 n))) : ∀ (m : Nat) (p h : Int), m ≤ 14 → (m = 0 → p = 0 ∧ N 14 n = h + 1) → (1 ≤ m → p = 2 ^ (m - 1) ∧ N 14 n ≤ h + 2 * p) → -1 ≤ h → h < N 14 n → ∀ P, WlK M P → E (wC g ad sk) X 0 0 (P) 119 [(0, .ref (ad 1)), (1, .ref (ad (44 + 6 * (Int.toNat n)))), (2, vL (w)), (4, vI (h)), (5, vI (p))] [] := by
  have hT : 0 ≤ N 14 n ∧ N 14 n ≤ 13312 ∧ scF (wAt N (N 14 n)) N n 0 (N 14 n) = N 13 n := by
    obtain ⟨hD, hO, hc, hh, hI⟩ := hN.2.2 n hn.1 (by omega)
    have hd := hD.2.2.1
    obtain ⟨g0, g1, kt, a1, a2, a3, a4, a5, a6, a7, c⟩ := hh h6
    refine ⟨by omega, by omega, ?_⟩
    rw [a4, scF_ev hN ⟨hn.1, by omega⟩ (by omega) (by omega) g0, a5]
  have hD := (hN.2.2 n hn.1 (by omega)).1
  have hxf : ∀ P, WlK M P → ∀ z, 0 ≤ z → z < n → RepG N P z := fun P f z z1 z2 => (hx z z1 z2).cx (fun c i ow => f c i (by rintro rfl; rcases ow with ⟨a, -⟩ | ⟨a, -⟩ | ⟨a, -⟩ <;> omega)) (fun s s1 s2 => (opS_r (hN.2.2 z z1 (by omega)).1.1 ⟨s1, s2⟩).2.1)
  have opw : ∀ s, 0 ≤ s → s ≤ 1 → ∀ i, 0 ≤ i → i < N 3 (2 * n + s) → ∀ P t, SwX N P w t n → P 6 (2 * opt N n s i + (1 - s)) = WA N (opt N n s i) (1 - s) t := by
    intro s s1 s2 i i1 i2 P t hp
    have o := (opS_r hD.1 ⟨s1, s2⟩).2.2 i i1 i2
    exact hp _ (1 - s) o.1 o.2 (hop s i s1 s2 i1 i2) (by omega) (by omega)
  have opb : ∀ s, 0 ≤ s → s ≤ 1 → ∀ t, 0 ≤ t → ∀ i, 0 ≤ i → i < N 3 (2 * n + s) → ∀ P, SwX N P w t n → -14336 ≤ P 6 (2 * opt N n s i + (1 - s)) ∧ P 6 (2 * opt N n s i + (1 - s)) ≤ 14336 := by
    intro s s1 s2 t ht i i1 i2 P hp
    have o := (opS_r hD.1 ⟨s1, s2⟩).2.2 i i1 i2
    rw [opw s s1 s2 i i1 i2 P t hp]
    exact wa_bd hN ⟨o.1, by omega⟩ (by omega) ht
  have val : ∀ s, 0 ≤ s → s ≤ 1 → ∀ P t, SwX N P w t n → scF (wCl P) N n s t = scF (wAt N t) N n s t := fun s s1 s2 P t hp => scF_cg (fun i i1 i2 => opw s s1 s2 i i1 i2 P t hp)
  have bds : ∀ s, 0 ≤ s → s ≤ 1 → ∀ t, 0 ≤ t → t ≤ 100000 → R32 (scF (wAt N t) N n s t) := by
    intro s s1 s2 t t1 t2
    have o := opS_r hD.1 ⟨s1, s2⟩
    have := scB_r (f := wAt N t) (G := N) (z := n) (s := s) (N 3 (2 * n + s)).toNat (fun i i1 i2 => wa_bd hN ⟨(o.2.2 i i1 (by omega)).1, by have := (o.2.2 i i1 (by omega)).2; omega⟩ (by omega) t1)
    unfold scF sgS
    split <;> omega
  intro m
  induction m with
  | zero =>
    intro p h _ h0 _ h1 h2 P f
    obtain ⟨rfl, e⟩ := h0 rfl
    have e' : h + 1 = N 14 n := by omega
    refine B_X5_becomeHot_119 (by omega) (by omega) (by omega) (by omega) (Nat.le_refl _) (Nat.le_refl _) C Y ⟨fun c => ⟨by omega, ?_⟩, fun c => absurd c (by omega)⟩
    rw [e']
    refine ⟨_, x_sweep hN ⟨hn.1, by omega⟩ ((f 4 0 (by decide)).trans h4) (hxf P f) hwd (by omega) hcl, fun P2 hP2 => ?_⟩
    have f2 : WlK M P2 := fun c i hc => (hP2.1 c i hc).trans (f c i hc)
    have sw3 : SwX N (up P2 51 n (N 14 n)) w (N 14 n) n := fun y s y1 y2 q s1 s2 => by rw [up_c (by decide)]; exact hP2.2 y s y1 y2 q s1 s2
    have rw3 : RwX N (up P2 51 n (N 14 n)) n := ⟨hr.1, fun t t1 t2 => ⟨(up_c (by decide)).trans ((f2 41 _ (by decide)).trans (hr.2 t t1 t2).1), fun i i1 i2 => (up_c (by decide)).trans ((f2 42 _ (by decide)).trans ((hr.2 t t1 t2).2 i i1 i2))⟩⟩
    refine ⟨_, x_scaffold (G := N) hn (by omega) rw3 (by omega) (fun i i1 i2 => opb 0 (by omega) (by omega) _ hT.1 i i1 i2 _ sw3), fun r P3 hr3 => ?_⟩
    obtain ⟨rfl, rfl⟩ := hr3
    rw [val 0 (by omega) (by omega) _ _ sw3, hT.2.2]
    refine ⟨?_, kk P2 f2⟩
    have := bds 0 (by omega) (by omega) _ hT.1 (by omega)
    rw [hT.2.2] at this; exact this
  | succ m ih =>
    intro p h hm _ h0 h1 h2 P f
    obtain ⟨hp, h3⟩ := h0 (by omega)
    rw [Nat.add_sub_cancel] at hp
    have pb : 1 ≤ p ∧ p ≤ 8192 := by
      rw [hp]
      have e : (2 : Int) ^ m ≤ 2 ^ 13 := by
        have := Nat.pow_le_pow_right (n := 2) (by decide) (show m ≤ 13 by omega)
        exact_mod_cast this
      have e0 : (0 : Int) < 2 ^ m := Int.pow_pos (by decide)
      have e2 : (2 : Int) ^ 13 = 8192 := by decide
      omega
    have nxt : ∀ h', -1 ≤ h' → h' < N 14 n → N 14 n ≤ h' + p → ∀ P, WlK M P → E (wC g ad sk) X 0 0 (P) 119 [(0, .ref (ad 1)), (1, .ref (ad (44 + 6 * (Int.toNat n)))), (2, vL (w)), (4, vI (h')), (5, vI (Int.tdiv p 2))] [] := by
      intro h' q1 q2 q3 P f
      rcases Nat.eq_zero_or_pos m with rfl | mp
      · have : p = 1 := by rw [hp]; rfl
        subst this
        exact ih _ h' (by omega) (fun _ => ⟨rfl, by omega⟩) (fun q => absurd q (by omega)) q1 q2 P f
      · have e : p = 2 * 2 ^ (m - 1) := by
          rw [hp]
          conv => lhs; rw [show m = (m - 1) + 1 by omega, Int.pow_succ, Int.mul_comm]
        have e2 : Int.tdiv p 2 = 2 ^ (m - 1) := by rw [e, td2]
        exact ih _ h' (by omega) (fun q => absurd q (by omega)) (fun _ => ⟨e2, by rw [e2, ← e]; exact q3⟩) q1 q2 P f
    refine B_X5_becomeHot_119 (by omega) (by omega) (by omega) (by omega) (Nat.le_refl _) (Nat.le_refl _) C Y ⟨fun c => absurd c (by omega), fun c => ⟨by omega, _, x_sweep hN ⟨hn.1, by omega⟩ ((f 4 0 (by decide)).trans h4) (hxf P f) hwd (t := h + p) (by omega) hcl, fun P2 hP2 => ?_⟩⟩
    have f2 : WlK M P2 := fun c i hc => (hP2.1 c i hc).trans (f c i hc)
    have rw2 := rwX_f hr f2
    refine ⟨_, x_scaffold (G := N) hn (s := 0) (by omega) rw2 (by omega) (fun i i1 i2 => opb 0 (by omega) (by omega) _ (by omega) i i1 i2 _ hP2.2), fun r P3 hr3 => ?_⟩
    obtain ⟨rfl, rfl⟩ := hr3
    rw [val 0 (by omega) (by omega) _ _ hP2.2]
    refine ⟨bds 0 (by omega) (by omega) _ (by omega) (by omega), _, x_scaffold (G := N) hn (s := 1) (by omega) rw2 (by omega) (fun i i1 i2 => opb 1 (by omega) (by omega) _ (by omega) i i1 i2 _ hP2.2), fun r P4 hr4 => ?_⟩
    obtain ⟨rfl, rfl⟩ := hr4
    rw [val 1 (by omega) (by omega) _ _ hP2.2]
    have key := sc_hot hN (z := n) (t := h + p) ⟨hn.1, by omega⟩ h6 (by omega)
    refine ⟨bds 1 (by omega) (by omega) _ (by omega) (by omega), fun c1 => ?_, fun c1 => ?_⟩
    · have : ¬ (h + p < N 14 n) := fun q => by have := key.mpr q; omega
      exact nxt h h1 h2 (by omega) _ f2
    · have := key.mp c1
      exact nxt (h + p) (by omega) this (by omega) _ f2
/-- what becomeHot leaves of the new game n of N -/
def HotX (N M Z : Mem) (n : Int) : Prop := (∀ c i, c ≠ 6 → ¬ ((c = 49 ∨ c = 50 ∨ c = 51 ∨ c = 53) ∧ i = n) → ¬ ((c = 43 ∨ c = 44) ∧ (i = n ∨ i = 40 + n)) → Z c i = M c i) ∧ Z 49 n = 0 ∧ Z 50 n = N 13 n ∧ Z 51 n = N 14 n ∧ (∀ s, 0 ≤ s → s ≤ 1 → Z 43 (40 * s + n) = M 8 s ∧ Z 44 (40 * s + n) = M 9 s) ∧ Wd40 (Z 53 n) (n + 1) ∧ ∀ x, 0 ≤ x → x < 40 → (tb (Z 53 n) x = true ↔ Pt N (HotG N) n x)
theorem x_becomeHot {g : Gs} {ad : Nat → Nat} {sk : (Nat → Nat) × (Nat → Nat)} {N M : Mem} {n : Int} (hn : 0 ≤ n ∧ n < 40) (hN : Good (n + 1) N) (h6 : N 6 n = 0) (h4 : M 4 0 = n) (hx : ∀ z, 0 ≤ z → z < n → RepG N M z) (hr : RwX N M n) (hp1 : Wd40 (M 52 n) (n + 1)) (hp2 : ∀ x, 0 ≤ x → x < 40 → (tb (M 52 n) x = true ↔ Pt N AllG n x)) : SpV (wC g ad sk) yX5_becomeHot cX5_becomeHot 6 none 3 [.ref (ad 1), .ref (ad (44 + 6 * (Int.toNat n)))] (M) (fun Z => HotX N M Z n) := by
  intro l9 hl9
  refine ct_of hl9 mi_X5_becomeHot.2.2.2 (Nat.le_of_ble_eq_true rfl) (fun X _ C Y => ?_)
  show E (wC g ad sk) X 0 0 (M) 0 [(0, .ref (ad 1)), (1, .ref (ad (44 + 6 * (Int.toNat n))))] []
  refine e_wf (fun hw => ?_)
  have hb0 := opS_r hr.1 (s := 0) (by omega)
  have hb1 := opS_r hr.1 (s := 1) (by omega)
  have hT : 0 ≤ N 14 n ∧ N 14 n ≤ 13312 := by
    obtain ⟨hD, hO, hc, hh, hI⟩ := hN.2.2 n hn.1 (by omega)
    have hd := hD.2.2.1
    obtain ⟨g0, g1, kt, a1, a2, a3, a4, a5, a6, a7, c⟩ := hh h6
    omega
  refine B_X5_becomeHot_0 (by omega) (Nat.le_refl _) (Nat.le_refl _) C Y ?_
  rw [h4]
  refine B_X5_becomeHot_18 (by omega) (by omega) (Nat.le_refl _) (Nat.le_refl _) C Y ⟨fun c => absurd c (by omega), fun c => ⟨by omega, ?_⟩⟩
  refine bh_49 C Y (G := N) (M := M) (s := 0) hn (by omega) hr (fun P1 h1 => ?_) (N 3 (2 * n + 0)).toNat 0 (by omega) _ ⟨fun c i q1 q2 => ?_, ?_, fun s' s1 s2 => ?_, fun x x1 x2 => ?_⟩
  · refine B_X5_becomeHot_18 (by omega) (by omega) (Nat.le_refl _) (Nat.le_refl _) C Y ⟨fun c => absurd c (by omega), fun c => ⟨by omega, ?_⟩⟩
    refine bh_49 C Y (G := N) (M := M) (s := 1) hn (by omega) hr (fun P2 h2 => ?_) (N 3 (2 * n + 1)).toNat 0 (by omega) _ ⟨fun c i q1 q2 => ?_, ?_, fun s' s1 s2 => ?_, fun x x1 x2 => ?_⟩
    · refine e_wf (fun hw9 => B_X5_becomeHot_18 (by omega) (by omega) (Nat.le_refl _) (Nat.le_refl _) C Y ⟨fun c => ?_, fun c => absurd c (by omega)⟩)
      have e52 : P2 52 n = M 52 n := h2.1 52 n (by omega) (by omega)
      have e4 : P2 4 0 = n := (h2.1 4 0 (by omega) (by omega)).trans h4
      rw [e52, e4]
      have rP : RwX N P2 n := ⟨hr.1, fun t t1 t2 => ⟨(h2.1 41 _ (by omega) (by omega)).trans (hr.2 t t1 t2).1, fun i i1 i2 => (h2.1 42 _ (by omega) (by omega)).trans ((hr.2 t t1 t2).2 i i1 i2)⟩⟩
      have tw : ∀ x, 0 ≤ x → x < n → tb (landL (M 52 n) (lxorL (lshlL 1 n) (-1))) x = tb (M 52 n) x := by
        intro x x1 x2
        rw [tb_and, tb_xor, tb_bit (by omega) (by omega), tb_m1 (by omega), decide_eq_false (by omega)]
        simp
      have hxP : ∀ z, 0 ≤ z → z < n → RepG N P2 z := fun z z1 z2 => (hx z z1 z2).cx (fun c i ow => h2.1 c i (by rintro ⟨a, b⟩; rcases ow with ⟨_, a'⟩ | ⟨a', _⟩ | ⟨a', _⟩ <;> omega) (by rintro ⟨a, b⟩; rcases ow with ⟨a', _⟩ | ⟨_, a'⟩ | ⟨a', _⟩ <;> omega)) (fun s s1 s2 => (opS_r (hN.2.2 z z1 (by omega)).1.1 ⟨s1, s2⟩).2.1)
      refine bh_119 C Y (M := P2) hn hN h6 e4 hxP rP (landL_r _ _) (fun x x1 x2 q q2 s i s1 s2 i1 i2 => ?_) (fun s i s1 s2 i1 i2 => ?_) (fun P f => ?_) 14 8192 (-1) (by omega) (fun q => absurd q (by omega)) (fun _ => ⟨by decide, by omega⟩) (by omega) (by omega) P2 (fun _ _ _ => rfl)
      · have o := (opS_r (hN.2.2 x x1 (by omega)).1.1 ⟨s1, s2⟩).2.2 i i1 i2
        rw [tw x x1 x2] at q
        rw [tw _ o.1 (by omega)]
        exact (hp2 _ o.1 (by omega)).mpr (pt_tr hN ⟨hn.1, by omega⟩ ((hp2 x x1 (by omega)).mp q) trivial ⟨s1, s2⟩ ⟨i1, i2⟩)
      · have o := (opS_r hr.1 ⟨s1, s2⟩).2.2 i i1 i2
        rw [tw _ o.1 (by omega)]
        exact (hp2 _ o.1 (by omega)).mpr (pt_tr hN ⟨hn.1, by omega⟩ ((hp2 n hn.1 (by omega)).mp ((hp2 n hn.1 (by omega)).mpr ((pt_eq hN ⟨hn.1, by omega⟩).mpr (Or.inl rfl)))) trivial ⟨s1, s2⟩ ⟨i1, i2⟩)
      · have t53 : ∀ x, 0 ≤ x → x < 64 → (tb (P2 53 n) x = true ↔ Pt N (HotG N) n x) := by
          intro x x1 x2
          rw [h2.2.2.2 x x1 x2, pt_eq hN ⟨hn.1, by omega⟩]
          constructor
          · rintro (q | ⟨s, i, s1, s2, i1, i2, -, q⟩)
            · exact Or.inl q
            · have o := (opS_r hr.1 ⟨s1, s2⟩).2.2 i i1 i2
              have rg := (hx _ o.1 o.2).2.2.2.2.2
              have hx : x < 40 := by have := rg.1.2 x x1 x2 q; omega
              exact Or.inr ⟨h6, s, i, s1, s2, i1, i2, (rg.2 x x1 hx).mp q⟩
          · rintro (q | ⟨-, s, i, s1, s2, i1, i2, q⟩)
            · exact Or.inl q
            · have o := (opS_r hr.1 ⟨s1, s2⟩).2.2 i i1 i2
              have rg := (hx _ o.1 o.2).2.2.2.2.2
              have := pt_le hN 6 _ x o.1 (by omega) q
              refine Or.inr ⟨s, i, s1, s2, i1, i2, ?_, (rg.2 x x1 (by omega)).mpr q⟩
              rcases (show s = 0 ∨ s = 1 by omega) with rfl | rfl
              · exact Or.inl (by omega)
              · exact Or.inr ⟨rfl, by omega⟩
        have keep : ∀ c i, c ≠ 6 → c ≠ 50 → c ≠ 51 → up (up P 51 n (N 14 n)) 50 n (N 13 n) c i = P2 c i := fun c i k6 k50 k51 => by rw [up_c k50, up_c k51]; exact f c i k6
        refine ⟨rfl, fun c i k6 q1 q2 => ?_, by rw [keep 49 _ (by decide) (by decide) (by decide)]; exact h2.2.1, up_s _ _ _ _, by rw [up_c (by decide), up_s], fun s s1 s2 => ?_, ?_, fun x x1 x2 => ?_⟩
        · by_cases h50 : c = 50
          · subst h50
            rw [up_i (fun e => q1 ⟨by omega, e⟩), up_c (by decide)]
            exact (f 50 i k6).trans (h2.1 50 i (by omega) (by omega))
          · by_cases h51 : c = 51
            · subst h51
              rw [up_c (by decide), up_i (fun e => q1 ⟨by omega, e⟩)]
              exact (f 51 i k6).trans (h2.1 51 i (by omega) (by omega))
            · rw [keep c i k6 h50 h51]
              exact h2.1 c i (by omega) q2
        · rw [keep 43 _ (by decide) (by decide) (by decide), keep 44 _ (by decide) (by decide) (by decide)]
          exact h2.2.2.1 s s1 s2
        · rw [keep 53 _ (by decide) (by decide) (by decide)]
          refine ⟨hw9.1 53 n rfl, fun x x1 x2 q => ?_⟩
          have := pt_le hN 6 n x hn.1 (by omega) ((t53 x x1 x2).mp q)
          omega
        · rw [keep 53 _ (by decide) (by decide) (by decide)]
          exact t53 x x1 (by omega)
    · have a : c ≠ 44 ∨ i ≠ 40 * (0 + 1) + n := by omega
      have b : c ≠ 43 ∨ i ≠ 40 * (0 + 1) + n := by omega
      rw [up_n a, up_n b]; exact h1.1 c i q1 q2
    · rw [up_c (by decide), up_c (by decide)]; exact h1.2.1
    · rcases (show s' = 0 ∨ s' = 1 by omega) with rfl | rfl
      · rw [up_c (by decide), up_i (by omega), up_i (by omega), up_c (by decide)]
        exact h1.2.2.1 0 (by omega) (by omega)
      · refine ⟨?_, ?_⟩
        · rw [up_c (by decide)]
          exact (up_s _ _ _ _).trans (h1.1 8 1 (by omega) (by omega))
        · exact (up_s _ _ _ _).trans (h1.1 9 1 (by omega) (by omega))
    · rw [up_c (by decide), up_c (by decide), h1.2.2.2 x x1 x2]
      constructor
      · rintro (q | ⟨s', i, a1, a2, a3, a4, a5, a6⟩)
        · exact Or.inl q
        · exact Or.inr ⟨s', i, a1, a2, a3, a4, by omega, a6⟩
      · rintro (q | ⟨s', i, a1, a2, a3, a4, a5, a6⟩)
        · exact Or.inl q
        · refine Or.inr ⟨s', i, a1, a2, a3, a4, ?_, a6⟩
          have : s' = 0 := by omega
          subst this
          exact Or.inr ⟨rfl, by omega⟩
  · have a : c ≠ 44 ∨ i ≠ 40 * 0 + n := by omega
    have b : c ≠ 43 ∨ i ≠ 40 * 0 + n := by omega
    have d : c ≠ 53 ∨ i ≠ n := by omega
    have e : c ≠ 49 ∨ i ≠ n := by omega
    rw [up_n a, up_n b, up_n d, up_n e]
  · rw [up_c (by decide), up_c (by decide), up_c (by decide), up_s]
  · have : s' = 0 := by omega
    subst this
    refine ⟨?_, ?_⟩
    · rw [up_c (by decide), up_s, up_c (by decide), up_c (by decide)]
    · rw [up_s, up_c (by decide), up_c (by decide)]
  · rw [up_c (by decide), up_c (by decide), up_s, tb_bit (by omega) ⟨x1, x2⟩]
    simp only [decide_eq_true_eq]
    refine ⟨Or.inl, fun q => ?_⟩
    rcases q with q | ⟨s', i, a1, a2, a3, a4, a5, a6⟩
    · exact q
    · omega
