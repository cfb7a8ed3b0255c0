/-! ===== the class: makeNumber ===== -/
theorem lshl_r (a b : Int) : R64 (lshlL a b) := r64_toInt _
theorem bit_W {k n : Int} (hk : 0 ≤ k ∧ k < 64) (h : k < n) : Wd40 (lshlL 1 k) n := ⟨lshl_r _ _, fun x x1 x2 q => by rw [tb_bit hk ⟨x1, x2⟩, decide_eq_true_eq] at q; omega⟩
theorem gd_num {N : Mem} {n z e : Int} (hN : Good n N) (hz : 0 ≤ z ∧ z < n) (h1 : N 1 z ≠ 0) (h2 : N 2 z = 128 * e) : N 3 (2 * z + 0) = 0 ∧ N 3 (2 * z + 1) = 0 ∧ N 5 z = 0 ∧ N 6 z = 1 ∧ N 7 z = 128 * e ∧ N 8 z = 128 * e ∧ N 10 z = 128 * e ∧ N 9 z = 1 ∧ N 11 z = 1 ∧ N 13 z = 128 * e ∧ N 14 z = -1 := by
  obtain ⟨hD, hO, hc, hh, hI⟩ := hN.2.2 z hz.1 hz.2
  have a := hD.2.2.2.1 h1
  have b := hO.2.1.2.1 h1
  have c := hO.2.1.2.2.2.1 b.1
  have d := hc b.1
  have e1 := b.2
  refine ⟨a.1, a.2.1, a.2.2.1, b.1, by omega, by omega, by omega, c.2.2.1, c.2.2.2, by have := d.1; omega, d.2.1⟩
theorem pt_1 {N : Mem} {H : Int → Prop} {n z x : Int} (hN : Good n N) (hz : 0 ≤ z ∧ z < n) (h : ¬ H z ∨ (N 3 (2 * z + 0) = 0 ∧ N 3 (2 * z + 1) = 0)) : Pt N H z x ↔ x = z := by
  rw [pt_eq hN hz]
  refine ⟨fun q => ?_, Or.inl⟩
  rcases q with q | ⟨q, s, i, s1, s2, i1, i2, -⟩
  · exact q
  · rcases h with h | ⟨h0, h1⟩
    · exact absurd q h
    · rcases (show s = 0 ∨ s = 1 by omega) with rfl | rfl <;> omega
/-- the columns that are no games' -/
def FrG (M P : Mem) : Prop := ∀ c i, (c < 4 ∨ (9 < c ∧ c < 40) ∨ 53 < c) → P c i = M c i
theorem FrG.refl (M : Mem) : FrG M M := fun _ _ _ => rfl
theorem FrG.trans {M P Q : Mem} (a : FrG M P) (b : FrG P Q) : FrG M Q := fun c i h => (b c i h).trans (a c i h)
theorem repG_num {N M P : Mem} {n e : Int} (hN : Good (n + 1) N) (hn : 0 ≤ n ∧ n < 40) (h1 : N 1 n = 1) (h2 : N 2 n = 128 * e) (hX : NumX M P n e) (h52 : P 52 n = lshlL 1 n) (h53 : P 53 n = lshlL 1 n) : RepG N P n := by
  obtain ⟨g0, g1, g5, g6, g7, g8, g10, g9, g11, g13, g14⟩ := gd_num hN (z := n) ⟨hn.1, by omega⟩ (by omega) h2
  obtain ⟨x45, x46, x47, x48, x49, x50, x51, xs, -⟩ := hX
  have a0 := xs 0 (by omega) (by omega)
  have a1 := xs 1 (by omega) (by omega)
  refine ⟨⟨by omega, by omega, fun _ => by omega⟩, ⟨by omega, ?_, by omega, by omega, by omega⟩, fun s s1 s2 => ?_, ⟨by omega, by omega, by omega, by omega⟩, ⟨by rw [h52]; exact bit_W (by omega) (by omega), fun x x1 x2 => ?_⟩, by rw [h53]; exact bit_W (by omega) (by omega), fun x x1 x2 => ?_⟩
  · rw [x48, ln_eq hN ⟨hn.1, by omega⟩, if_neg (by omega), h2, show 128 * e / 128 = e by omega]
  · have z0 : N 3 (2 * n + s) = 0 := by rcases (show s = 0 ∨ s = 1 by omega) with rfl | rfl <;> assumption
    exact ⟨by rw [z0]; exact (xs s s1 s2).1, fun i i1 i2 => absurd i2 (by omega), fun q => absurd q (by omega)⟩
  · rw [h52, tb_bit (by omega) (by omega), decide_eq_true_eq, pt_1 hN ⟨hn.1, by omega⟩ (Or.inr ⟨g0, g1⟩)]
  · rw [h53, tb_bit (by omega) (by omega), decide_eq_true_eq, pt_1 hN ⟨hn.1, by omega⟩ (Or.inr ⟨g0, g1⟩)]
theorem own_ne {z y : Int} {c : Nat} {i : Int} (h : OwnX z c i) (hz : 0 ≤ z ∧ z < 40) (hy : 0 ≤ y ∧ y < 40) (e : z ≠ y) : ¬ OwnX y c i := by
  intro q
  rcases h with ⟨h1, h2⟩ | ⟨h1, h2⟩ | ⟨h1, j, j1, j2, h2⟩ <;> rcases q with ⟨q1, q2⟩ | ⟨q1, q2⟩ | ⟨q1, k, k1, k2, q2⟩ <;> omega
theorem own_c {z : Int} {c : Nat} {i : Int} (h : OwnX z c i) : 40 ≤ c ∧ c ≤ 53 := by
  rcases h with ⟨h1, h2⟩ | ⟨h1, h2⟩ | ⟨h1, j, j1, j2, h2⟩ <;> omega
/-- games below n are held over a change elsewhere -/
theorem rep_kp {N M P : Mem} {n : Int} (hN : Good (n + 1) N) (hn : 0 ≤ n ∧ n < 40) (hr : ∀ z, 0 ≤ z → z < n → RepG N M z) (e : ∀ c i, 40 ≤ c → ¬ OwnX n c i → P c i = M c i) : ∀ z, 0 ≤ z → z < n → RepG N P z :=
  fun z z1 z2 => (hr z z1 z2).cx (fun c i ow => e c i (own_c ow).1 (own_ne ow ⟨z1, by omega⟩ hn (by omega))) (fun s s1 s2 => (opS_r (hN.2.2 z z1 (by omega)).1.1 ⟨s1, s2⟩).2.1)
theorem xmn_2 {g : Gs} {ad : Nat → Nat} {sk : (Nat → Nat) × (Nat → Nat)} {X : Cx} {PQ : Option Value → Mem → Prop} {PX : String → Mem → Prop} (C : OkB (wC g ad sk) X cX5_makeNumber RX5 3 4 0 0) (Y : OkR (wC g ad sk) X (some .int) 0 0 PQ PX) {G M : Mem} {n e : Int} (hX : RepX G M n) (he : -64 ≤ e ∧ e ≤ 64) (k1 : ∀ z, 0 ≤ z → z < n → IsN G z e → (∀ y, 0 ≤ y → y < z → ¬ IsN G y e) → PQ (some (vI z)) M) (k0 : (∀ y, 0 ≤ y → y < n → ¬ IsN G y e) → E (wC g ad sk) X 0 0 (M) 2 [(0, .ref (ad 1)), (1, vI (e)), (2, vI (n))] []) : ∀ (m : Nat) (x : Int), 0 ≤ x → x + m = n → (∀ y, 0 ≤ y → y < x → ¬ IsN G y e) → E (wC g ad sk) X 0 0 (M) 2 [(0, .ref (ad 1)), (1, vI (e)), (2, vI (x))] [] := by
  obtain ⟨x4, g0, hG, hr, hb⟩ := hX
  have h40 := hG.2.1
  intro m
  induction m with
  | zero => intro x x1 x2 h; have : x = n := by omega
            subst this; exact k0 h
  | succ m ih =>
    intro x x1 x2 h
    obtain ⟨⟨a1, a2, a3⟩, -⟩ := hr x x1 (by omega)
    have nx : ¬ IsN G x e → E (wC g ad sk) X 0 0 (M) 2 [(0, .ref (ad 1)), (1, vI (e)), (2, vI (x + 1))] [] := fun q => ih (x + 1) (by omega) (by omega) (fun y y1 y2 => by
      by_cases ey : y = x
      · subst ey; exact q
      · exact h y y1 (by omega))
    refine B_X5_makeNumber_2 (by omega) (by omega) (Nat.le_refl _) (Nat.le_refl _) C Y ⟨fun c => absurd c (by omega), fun c => ⟨by omega, fun c1 => ⟨by omega, nx (fun q => q.1 (a2.mp (by omega)))⟩, fun c1 => ⟨fun c2 => ⟨by omega, nx (fun q => ?_)⟩, fun c2 => ?_⟩⟩⟩
    · have := a3 q.1; have := q.2; omega
    · have n1 : G 1 x ≠ 0 := fun q => by have := a2.mpr q; omega
      exact k1 x x1 (by omega) ⟨n1, by have := a3 n1; omega⟩ h
theorem x_makeNumber {g : Gs} {ad : Nat → Nat} {sk : (Nat → Nat) × (Nat → Nat)} {G M : Mem} {n e : Int} (hX : RepX G M n) (he : -64 ≤ e ∧ e ≤ 64) : SpI (wC g ad sk) yX5_makeNumber cX5_makeNumber 3 (some .int) 4 [.ref (ad 1), vI (e)] (M) (fun r P => ∃ N, NumR G n e r N ∧ RepX N P (N 0 0) ∧ FrG M P) := by
  intro l9 hl9
  refine ct_of hl9 mi_X5_makeNumber.2.2.2 (Nat.le_of_ble_eq_true rfl) (fun X _ C Y => ?_)
  show E (wC g ad sk) X 0 0 (M) 0 [(0, .ref (ad 1)), (1, vI (e))] []
  refine e_wf (fun hw => ?_)
  obtain ⟨x4, g0, hG, hr, hb⟩ := hX
  have h40 := hG.2.1
  have hn0 := hG.1
  refine B_X5_makeNumber_0 (by omega) (Nat.le_refl _) (Nat.le_refl _) C Y ?_
  refine xmn_2 C Y (G := G) (n := n) (e := e) ⟨x4, g0, hG, hr, hb⟩ he (fun z z1 z2 q1 q2 => ⟨_, rfl, G, Or.inl ⟨z1, z2, g0, Ag.refl _ _, q1, q2⟩, by rw [g0]; exact ⟨x4, g0, hG, hr, hb⟩, FrG.refl M⟩) (fun hno => ?_) n.toNat 0 (by omega) (by omega) (fun y y1 y2 => absurd y2 (by omega))
  refine B_X5_makeNumber_2 (by omega) (by omega) (Nat.le_refl _) (Nat.le_refl _) C Y ⟨fun c => ⟨fun c1 => ⟨by omega, ?_⟩, fun c1 => ?_⟩, fun c => absurd c (by omega)⟩
  · rw [x4]
    rw [x4] at c1
    have hn : 0 ≤ n ∧ n < 40 := by omega
    obtain ⟨z, N, hz⟩ := num_ex hG g0 he
    have hN : NumR G n e n N ∧ MkE G N n e := by
      rcases hz with ⟨a1, a2, -, -, a5, -⟩ | ⟨-, -, -, a4, -⟩ | ⟨a1, a2, a3, a4⟩
      · exact absurd a5 (hno z a1 a2)
      · omega
      · exact ⟨Or.inr (Or.inr ⟨rfl, a2, a3, a4⟩), a4⟩
    obtain ⟨hR, m0, m1, m2, m3, m4⟩ := hN
    refine ⟨_, x_becomeNumber hn he, fun P hP => ?_⟩
    have p4 : P 4 0 = n := by rw [hP.2.2.2.2.2.2.2.2 4 0 (fun q => by have := own_c q; omega)]; exact x4
    rw [p4]
    obtain ⟨p45, p46, p47, p48, p49, p50, p51, ps, pf⟩ := hP
    have hQ : NumX M (up (up P 52 n (lshlL 1 n)) 53 n (lshlL 1 n)) n e := by
      refine ⟨?_, ?_, ?_, ?_, ?_, ?_, ?_, fun s s1 s2 => ?_, fun c i q => ?_⟩
      all_goals first
        | (rw [up_c (by decide), up_c (by decide)]; assumption)
        | skip
      · rw [up_c (by decide), up_c (by decide), up_c (by decide), up_c (by decide), up_c (by decide), up_c (by decide)]; exact ps s s1 s2
      · have a : c ≠ 53 ∨ i ≠ n := by
          rcases Classical.em (c = 53 ∧ i = n) with ⟨w1, w2⟩ | w
          · exact absurd (Or.inl ⟨by omega, w2⟩) q
          · omega
        have b : c ≠ 52 ∨ i ≠ n := by
          rcases Classical.em (c = 52 ∧ i = n) with ⟨w1, w2⟩ | w
          · exact absurd (Or.inl ⟨by omega, w2⟩) q
          · omega
        rw [up_n a, up_n b]; exact pf c i q
    have rn := repG_num m1 hn m3 m4 hQ (by rw [up_c (by decide), up_s]) (up_s _ _ _ _)
    have ro := rep_kp m1 hn (fun z z1 z2 => (hr z z1 z2).cg m2 hG ⟨z1, z2⟩) (fun c i _ q => hQ.2.2.2.2.2.2.2.2 c i q)
    have rb : RepB N (up (up P 52 n (lshlL 1 n)) 53 n (lshlL 1 n)) n := fun x y x1 x2 y1 y2 => by
      rw [hQ.2.2.2.2.2.2.2.2 5 x (fun q => by have := own_c q; omega), m2.2.2.2.2.1 x y x1 x2 y1 y2]; exact hb x y x1 x2 y1 y2
    refine ⟨_, x_enter m1 hn (by rw [up_c (by decide), up_c (by decide)]; exact p4) (fun z z1 z2 => ?_) rb, fun r Q hE => ⟨by omega, _, rfl, N, ?_⟩⟩
    · by_cases ez : z = n
      · subst ez; exact rn
      · exact ro z z1 (by omega)
    · obtain ⟨rfl, q4, qf, qb⟩ := hE
      refine ⟨hR, ?_, fun c i hc => ?_⟩
      · rw [m0]
        refine ⟨q4, m0, m1, fun z z1 z2 => ?_, qb⟩
        have rz : RepG N (up (up P 52 r (lshlL 1 r)) 53 r (lshlL 1 r)) z := by
          by_cases ez : z = r
          · subst ez; exact rn
          · exact ro z z1 (by omega)
        exact rz.cx (fun c i ow => qf c i (by have := own_c ow; omega) (by have := own_c ow; omega)) (fun s s1 s2 => (opS_r (m1.2.2 z z1 (by omega)).1.1 ⟨s1, s2⟩).2.1)
      · rw [qf c i (by omega) (by omega)]
        exact hQ.2.2.2.2.2.2.2.2 c i (fun q => by have := own_c q; omega)
  · refine ⟨_, rfl, G, Or.inr (Or.inl ⟨rfl, g0, Ag.refl _ _, by omega, hno⟩), by rw [g0]; exact ⟨x4, g0, hG, hr, hb⟩, FrG.refl M⟩
