/-! ===== the class: compose, whole ===== -/
theorem cnB_le64 (p : Nat → Bool) : ∀ k, (cnB p k : Int) ≤ k := by
  intro k
  induction k with
  | zero => simp [cnB]
  | succ k ih => rw [cnB]; split <;> omega
theorem ent_done {G N M P Q : Mem} {n l r d : Int} (hn : 0 ≤ n ∧ n < 40) (hR : CmpR G n l r n N) (hm : MkW G N n l r d) (hr : ∀ z, 0 ≤ z → z < n → RepG N P z) (rn : RepG N P n) (hk : KpX M P n) (hE : EntX N P Q n) : ∃ N, CmpR G n l r n N ∧ RepX N Q (N 0 0) ∧ FrG M Q := by
  obtain ⟨q4, qf, qb⟩ := hE
  refine ⟨N, hR, ?_, fun c i hc => ?_⟩
  · rw [hm.1]
    refine ⟨q4, hm.1, hm.2.1, fun z z1 z2 => ?_, qb⟩
    have rz : RepG N P z := by
      by_cases ez : z = n
      · subst ez; exact rn
      · exact hr z z1 (by omega)
    exact rz.cx (fun c i ow => qf c i (by have := own_c ow; omega) (by have := own_c ow; omega)) (fun s s1 s2 => (opS_r (hm.2.1.2.2 z z1 (by omega)).1.1 ⟨s1, s2⟩).2.1)
  · rw [qf c i (by omega) (by omega)]
    exact hk c i (fun q => by have := own_c q; omega) (by omega) (by omega) (by omega)
theorem x_compose {g : Gs} {ad : Nat → Nat} {sk : (Nat → Nat) × (Nat → Nat)} {G M : Mem} {n l r : Int} (hX : RepX G M n) (hl : Wd40 l n) (hr : Wd40 r n) : SpI (wC g ad sk) yX5_compose cX5_compose 7 (some .int) 4 [.ref (ad 1), vL (l), vL (r)] (M) (fun a P => ∃ N, CmpR G n l r a N ∧ RepX N P (N 0 0) ∧ FrG M P) := by
  have rl := hl.1
  have rr := hr.1
  intro l9 hl9
  refine ct_of hl9 mi_X5_compose.2.2.2 (Nat.le_of_ble_eq_true rfl) (fun X _ C Y => ?_)
  show E (wC g ad sk) X 0 0 (M) 0 [(0, .ref (ad 1)), (1, vL (l)), (3, vL (r))] []
  refine e_wf (fun hw => ?_)
  obtain ⟨x4, g0, hG, hrp, hb⟩ := hX
  have h40 := hG.2.1
  have hn0 := hG.1
  have same : ∃ N, N = G ∧ RepX N M (N 0 0) ∧ FrG M M := ⟨G, rfl, by rw [g0]; exact ⟨x4, g0, hG, hrp, hb⟩, FrG.refl M⟩
  refine B_X5_compose_0 (by omega) (by omega) (Nat.le_refl _) (Nat.le_refl _) C Y ?_
  refine xcm_3 C Y (G := G) (n := n) ⟨x4, g0, hG, hrp, hb⟩ hl hr (fun z z1 z2 q1 q2 => ?_) (fun hno => ?_) n.toNat 0 (by omega) (by omega) (fun y y1 y2 => absurd y2 (by omega))
  · obtain ⟨N, rfl, k⟩ := same
    exact ⟨_, rfl, N, Or.inr (Or.inl ⟨z1, z2, g0, Ag.refl _ _, q1, q2⟩), k⟩
  have wide : (4 < siz l ∨ 4 < siz r) → ∀ t0 : Int, t0 ≠ 0 → R32 t0 → E (wC g ad sk) X 0 0 (M) 83 [(0, .ref (ad 1)), (1, vL (l)), (3, vL (r))] [vI (t0)] := by
    intro q t0 ht hR
    refine B_X5_compose_83 (by omega) (by omega) (by omega) (Nat.le_refl _) (Nat.le_refl _) C Y ⟨fun c => ?_, fun c => absurd c ht⟩
    obtain ⟨N, rfl, k⟩ := same
    refine ⟨_, rfl, N, Or.inl ⟨rfl, g0, Ag.refl _ _, ?_⟩, k⟩
    rcases q with q | q
    · exact Or.inl q
    · exact Or.inr (Or.inl q)
  have sl0 : 0 ≤ siz l := Int.natCast_nonneg _
  have sr0 : 0 ≤ siz r := Int.natCast_nonneg _
  have sl1 : siz l ≤ 64 := by have := siz_cn hl h40; have := cnB_le64 (tbN l) 40; omega
  have sr1 : siz r ≤ 64 := by have := siz_cn hr h40; have := cnB_le64 (tbN r) 40; omega
  refine B_X5_compose_3 (by omega) (by omega) (by omega) (Nat.le_refl _) (Nat.le_refl _) C Y ⟨fun c => ⟨_, (s_bitCount rl).toI, fun a M hP => ?_⟩, fun c => absurd c (by omega)⟩
  obtain ⟨rfl, rfl⟩ := hP
  refine ⟨by show R32 (siz l); omega, fun c1 => wide (Or.inl c1) 1 (by decide) (by decide), fun c1 => ⟨_, (s_bitCount rr).toI, fun a M hP => ?_⟩⟩
  obtain ⟨rfl, rfl⟩ := hP
  refine ⟨by show R32 (siz r); omega, fun c2 => ?_, fun c2 => wide (Or.inr c2) 1 (by decide) (by decide)⟩
  have sl4 : siz l ≤ 4 := c1
  have sr4 : siz r ≤ 4 := c2
  obtain ⟨z, N, hz⟩ := cmp_ex hG g0 hl hr
  obtain ⟨d, hd⟩ := deepW_ex hG hl hr
  refine B_X5_compose_83 (by omega) (by omega) (by omega) (Nat.le_refl _) (Nat.le_refl _) C Y ⟨fun c => absurd rfl c, fun c => ⟨fun c3 => ?_, fun c3 => ⟨_, x_depthAbove hG x4 (fun x x1 x2 => (hrp x x1 x2).2.1.1) hl hr hd, fun a M hP => ?_⟩⟩⟩
  · obtain ⟨N, rfl, k⟩ := same
    exact ⟨_, rfl, N, Or.inl ⟨rfl, g0, Ag.refl _ _, Or.inr (Or.inr (Or.inr ⟨by omega, hno⟩))⟩, k⟩
  obtain ⟨rfl, rfl⟩ := hP
  have hd6 := hd.1
  refine ⟨by omega, fun c4 => ⟨by omega, ?_⟩, fun c4 => ?_⟩
  · rw [x4]
    rw [x4] at c3
    have hn : 0 ≤ n ∧ n < 40 := ⟨hn0, c3⟩
    have hN : CmpR G n l r n N ∧ MkW G N n l r d := by
      rcases hz with ⟨-, -, -, k | k | k | k⟩ | ⟨k1, k2, -, -, k, -⟩ | ⟨k0, k1, k2, k3, k4, d', k5, k6, k7⟩
      · omega
      · omega
      · have := deepW_uq k hd; omega
      · omega
      · exact absurd k (hno z k1 k2)
      · have := deepW_uq k6 hd
        subst this
        exact ⟨Or.inr (Or.inr ⟨rfl, k1, k2, k3, k4, d', k5, k6, k7⟩), k7⟩
    obtain ⟨hR, hm⟩ := hN
    obtain ⟨m0, m1, m2, m5, s1, s2, s3⟩ := hm
    have hN1 := m1.2.2 n hn.1 (by omega)
    have ho := hN1.1.1
    have hrN : ∀ z, 0 ≤ z → z < n → RepG N M z := fun z z1 z2 => (hrp z z1 z2).cg m2 hG ⟨z1, z2⟩
    have hbN : RepB N M n := fun x y x1 x2 y1 y2 => by rw [m2.2.2.2.2.1 x y x1 x2 y1 y2]; exact hb x y x1 x2 y1 y2
    have own : ∀ (c : Nat), 45 ≤ c → c ≤ 53 → OwnX n c n := fun c k1 k2 => Or.inl ⟨⟨k1, k2⟩, rfl⟩
    have up_kp : ∀ (K : Mem) (c : Nat) (v : Int), 45 ≤ c → c ≤ 53 → KpX K (up K c n v) n := fun K c v k1 k2 c' i q _ _ _ => by
      refine up_n ?_
      rcases Classical.em (c' = c ∧ i = n) with ⟨rfl, rfl⟩ | w
      · exact absurd (own c' k1 k2) q
      · omega
    refine ⟨_, x_depthAbove (M := up M 45 n 1) hG (by rw [up_c (by decide)]; exact x4) (fun x x1 x2 => by rw [up_c (by decide)]; exact (hrp x x1 x2).2.1.1) hl hr hd, fun a P hP => ?_⟩
    obtain ⟨rfl, rfl⟩ := hP
    have cl4 : cnB (tbN l) 40 ≤ 4 := by have := siz_cn hl h40; omega
    have cr4 : cnB (tbN r) 40 ≤ 4 := by have := siz_cn hr h40; omega
    refine ⟨by omega, _, x_takeOptions hn (by omega) rl cl4, fun P1 h1 => ⟨_, x_takeOptions hn (by omega) rr cr4, fun P2 h2 => ?_⟩⟩
    have k2 : KpX M P2 n := (((up_kp M 45 1 (by omega) (by omega)).trans (up_kp _ 47 (d + 1) (by omega) (by omega))).trans (tk_kp (w := l) (by omega) h1.1)).trans (tk_kp (w := r) (by omega) h2.1)
    have g2 : NgX N P2 n := by
      have t1 := tk_row h1 s2
      have t2 := tk_row h2 s3
      refine ⟨?_, ?_, fun s q1 q2 => ?_⟩
      · rw [h2.1 45 _ (by omega) (by omega) (by omega), h1.1 45 _ (by omega) (by omega) (by omega), up_c (by decide), up_s]
      · rw [h2.1 47 _ (by omega) (by omega) (by omega), h1.1 47 _ (by omega) (by omega) (by omega), up_s, m5]
      · rcases (show s = 0 ∨ s = 1 by omega) with rfl | rfl
        · have e40 : P2 40 (40 * 0 + n) = l := (h2.1 40 _ (by omega) (by omega) (by omega)).trans h1.2.1
          refine ⟨(h2.1 41 _ (by omega) (by omega) (by omega)).trans t1.1, fun i i1 i2 => ?_, by rw [e40]; exact hl, by rw [e40]; exact s2⟩
          have b4 := (opS_r ho (s := 0) (by omega)).2.1
          refine (h2.1 42 _ (by omega) (by omega) (fun k => ?_)).trans (t1.2 i i1 i2)
          obtain ⟨-, j, j1, j2, j3⟩ := k
          omega
        · have e40 : P2 40 (40 * 1 + n) = r := h2.2.1
          exact ⟨t2.1, t2.2, by rw [e40]; exact hr, by rw [e40]; exact s3⟩
    have p4 : P2 4 0 = n := (k2 4 0 (fun q => by have := own_c q; omega) (by decide) (by decide) (by decide)).trans x4
    refine ⟨_, x_gatherN hn p4 m1 s1 (g2.rw ho) (k2.rep m1 hn hrN), fun P3 h3 => ?_⟩
    obtain ⟨f3, l3, pa3, pb3⟩ := h3
    have k3 : KpX M P3 n := k2.trans (fun c i q _ _ _ => f3 c i (fun w => q (Or.inl ⟨by omega, w.2⟩)))
    have g3 : NgX N P3 n := g2.cg (fun c i hc => f3 c i (by omega))
    refine ⟨_, x_findEdge hn (Or.inl rfl) (ng_ed m1 hn g3 (k3.rep m1 hn hrN)), fun P4 h4 => ?_⟩
    obtain ⟨e4, f4⟩ := h4
    have k4 : KpX M P4 n := k3.trans (fun c i _ _ q8 q9 => f4 c i (by omega))
    have g4 : NgX N P4 n := g3.cg (fun c i hc => f4 c i (by omega))
    refine ⟨_, x_findEdge hn (Or.inr rfl) (ng_ed m1 hn g4 (k4.rep m1 hn hrN)), fun P5 h5 => ?_⟩
    obtain ⟨e5, f5⟩ := h5
    have k5 : KpX M P5 n := k4.trans (fun c i _ _ q8 q9 => f5 c i (by omega))
    have g5 : NgX N P5 n := g4.cg (fun c i hc => f5 c i (by omega))
    have e5' : EdX N P5 n 0 := by
      obtain ⟨a1, a2, a3⟩ := e4
      have w8 : P5 8 0 = P4 8 0 := f5 8 0 (by omega)
      have w9 : P5 9 0 = P4 9 0 := f5 9 0 (by omega)
      refine ⟨by rw [w9]; exact a1, fun _ => by rw [w8, w9]; exact a2 rfl, fun q => absurd q (by decide)⟩
    have l5 : P5 48 n = Ln N n := (f5 48 n (by omega)).trans ((f4 48 n (by omega)).trans l3)
    have q5 : P5 52 n = P3 52 n := (f5 52 n (by omega)).trans (f4 52 n (by omega))
    have hp5 : Wd40 (P5 52 n) (n + 1) ∧ ∀ x, 0 ≤ x → x < 40 → (tb (P5 52 n) x = true ↔ Pt N AllG n x) := by rw [q5]; exact ⟨pa3, pb3⟩
    have p54 : P5 4 0 = n := (k5 4 0 (fun q => by have := own_c q; omega) (by decide) (by decide) (by decide)).trans x4
    have V := hN1.2.1.2.1
    have hroom : RoomX P5 ↔ N 6 n = 1 := by rw [room_X e5' e5]; exact (V.2.2.1 s1).1.symm
    refine ⟨_, x_edgesLeaveRoom, fun a P6 h6 => ?_⟩
    obtain ⟨rfl, a01, aR⟩ := h6
    refine ⟨a01, fun c5 => ?_, fun c5 => ?_⟩
    · have h60 : N 6 n = 0 := by
        have := V.1
        have : ¬ (N 6 n = 1) := fun q => by have := aR.mpr (hroom.mpr q); omega
        omega
      refine ⟨_, x_becomeHot hn m1 h60 p54 (k5.rep m1 hn hrN) (g5.rw ho) hp5.1 hp5.2, fun P7 h7 => ?_⟩
      obtain ⟨f7, a49, a50, a51, ast, apq⟩ := h7
      have k7 : KpX M P7 n := k5.trans (fun c i q q6 _ _ => f7 c i q6 (fun w => q (Or.inl ⟨by omega, w.2⟩)) (fun w => q (Or.inr (Or.inl ⟨by omega, w.2⟩))))
      have g7 : NgX N P7 n := g5.cg (fun c i hc => f7 c i (by omega) (by omega) (by omega))
      have H0 := V.2.2.2.2 h60
      have hw1 := hN1.2.2.2.1 h60
      have x8 := e5'.2.1 rfl
      have y8 := e5.2.2 rfl
      have rn : RepG N P7 n := by
        refine repG_new m1 hn s1 g7 ((f7 48 n (by omega) (by omega) (by omega)).trans l5) (by omega) a50 a51 ?_ ?_ apq
        · have b0 := ast 0 (by omega) (by omega)
          have b1 := ast 1 (by omega) (by omega)
          rcases x8 with ⟨x8, -⟩ | ⟨-, x8, x9, -⟩
          · have := hw1.1; omega
          · rcases y8 with ⟨y8, -⟩ | ⟨-, y8, y9, -⟩
            · have := hw1.2.1; omega
            · obtain ⟨-, H1, H2, H3, H4⟩ := H0
              exact ⟨by omega, by omega, by omega, by omega⟩
        · rw [f7 52 n (by omega) (by omega) (by omega)]; exact hp5
      have rB : RepB N P7 n := fun x y x1 x2 y1 y2 => by rw [k7 5 x (fun q => by have := own_c q; omega) (by decide) (by decide) (by decide)]; exact hbN x y x1 x2 y1 y2
      have p74 : P7 4 0 = n := (k7 4 0 (fun q => by have := own_c q; omega) (by decide) (by decide) (by decide)).trans x4
      have r7 := k7.rep m1 hn hrN
      refine ⟨_, x_enter m1 hn p74 (fun z z1 z2 => ?_) rB, fun a Q hE => ⟨by omega, a, rfl, ?_⟩⟩
      · by_cases ez : z = n
        · subst ez; exact rn
        · exact r7 z z1 (by omega)
      · obtain ⟨rfl, hE⟩ := hE
        exact ent_done hn hR ⟨m0, m1, m2, m5, s1, s2, s3⟩ r7 rn k7 hE
    · have h61 : N 6 n = 1 := hroom.mp (aR.mp (by omega))
      have rg := ed_rg m1 hn s1 e5' e5
      have hS : Smp (betE (loF N n) (upF N n)) (N 7 n) := (V.2.2.1 s1).2 h61
      have hS' : Smp (BtV (P6 8 0) (P6 9 0) (P6 8 1) (P6 9 1)) (N 7 n) := Smp.cgR (fun x x1 x2 => (bet_X e5' e5 (by omega)).symm) hS
      have b9 : R32 (P6 9 0) ∧ R32 (P6 9 1) := by have := e5'.1; have := e5.1; omega
      rw [p54]
      refine ⟨_, x_simplest rg.1 rg.2 b9.1 b9.2 ⟨_, hS'.1⟩, fun v P7 h7 => ?_⟩
      obtain ⟨rfl, hv⟩ := h7
      have ev : v = N 7 n := smp_uq hv hS'
      have b7 := hN1.2.1.2.2.1
      refine ⟨by omega, _, x_becomeCold hn (by omega), fun P8 h8 => ?_⟩
      obtain ⟨a49, a50, a51, ast, f8⟩ := h8
      have cw := hN1.2.2.1 h61
      have ce := V.2.2.2.1 h61
      have k8 : KpX M P8 n := (k5.trans (up_kp P6 53 (lshlL 1 n) (by omega) (by omega))).trans (fun c i q _ _ _ => f8 c i (fun w => q (Or.inl ⟨by omega, w.2⟩)) (fun w => q (Or.inr (Or.inl ⟨by omega, w.2⟩))))
      have g8 : NgX N P8 n := (g5.cg (Q := up P6 53 n (lshlL 1 n)) (fun c i hc => up_c (by omega))).cg (fun c i hc => f8 c i (by omega) (by omega))
      have rn : RepG N P8 n := by
        refine repG_new m1 hn s1 g8 ?_ (by omega) (by have := cw.1; omega) (by have := cw.2.1; omega) ?_ ?_ ?_
        · rw [f8 48 n (by omega) (by omega), up_c (by decide)]; exact l5
        · have b0 := ast 0 (by omega) (by omega)
          have b1 := ast 1 (by omega) (by omega)
          omega
        · rw [f8 52 n (by omega) (by omega), up_c (by decide)]; exact hp5
        · rw [f8 53 n (by omega) (by omega), up_s]
          refine ⟨bit_W (by omega) (by omega), fun x x1 x2 => ?_⟩
          rw [tb_bit (by omega) (by omega), decide_eq_true_eq, pt_1 m1 ⟨hn.1, by omega⟩ (Or.inl (fun q => by have : N 6 n = 0 := q; omega))]
      have rB : RepB N P8 n := fun x y x1 x2 y1 y2 => by rw [k8 5 x (fun q => by have := own_c q; omega) (by decide) (by decide) (by decide)]; exact hbN x y x1 x2 y1 y2
      have p84 : P8 4 0 = n := (k8 4 0 (fun q => by have := own_c q; omega) (by decide) (by decide) (by decide)).trans x4
      have r8 := k8.rep m1 hn hrN
      refine ⟨_, x_enter m1 hn p84 (fun z z1 z2 => ?_) rB, fun a Q hE => ⟨by omega, a, rfl, ?_⟩⟩
      · by_cases ez : z = n
        · subst ez; exact rn
        · exact r8 z z1 (by omega)
      · obtain ⟨rfl, hE⟩ := hE
        exact ent_done hn hR ⟨m0, m1, m2, m5, s1, s2, s3⟩ r8 rn k8 hE
  · obtain ⟨N, rfl, k⟩ := same
    refine ⟨_, rfl, N, Or.inl ⟨rfl, g0, Ag.refl _ _, Or.inr (Or.inr (Or.inl ?_))⟩, k⟩
    have : d = 6 := by omega
    subst this; exact hd
