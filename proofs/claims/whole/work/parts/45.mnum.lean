/-! ===== the reference: madeNumber, pair ===== -/
def IsN (M : Mem) (z e : Int) : Prop := M 1 z ≠ 0 ∧ M 2 z = 128 * e
def MkM (M N : Mem) (n e : Int) : Prop := N 0 0 = n + 1 ∧ Good (n + 1) N ∧ Ag M N n ∧ N 1 n = 1 ∧ N 2 n = 128 * e ∧ ∀ c i, 15 < c → (c < 32 ∨ 35 < c) → N c i = M c i
def MnP (M : Mem) (n e r : Int) (N : Mem) : Prop :=
  (0 ≤ r ∧ r < n ∧ N = M ∧ IsN M r e ∧ ∀ z, 0 ≤ z → z < r → ¬ IsN M z e) ∨
  (r = -1 ∧ N = M ∧ n = 40 ∧ ∀ z, 0 ≤ z → z < n → ¬ IsN M z e) ∨
  (r = n ∧ n < 40 ∧ (∀ z, 0 ≤ z → z < n → ¬ IsN M z e) ∧ MkM M N n e)
theorem mn_2 {g : Gs} {ad : Nat → Nat} {X : Cx} {PQ : Option Value → Mem → Prop} {PX : String → Mem → Prop} (C : OkB (wM g ad) X cX10_madeNumber RX10 3 6 0 0) (Y : OkR (wM g ad) X (some .int) 0 0 PQ PX) {M : Mem} {n e : Int} (h0 : M 0 0 = n) (hG : Good n M) (he : -64 ≤ e ∧ e ≤ 64) (kk : ∀ r N, MnP M n e r N → PQ (some (vI r)) N) : ∀ (m : Nat) (j : Int), 0 ≤ j → j ≤ n → n - j = m → (∀ z, 0 ≤ z → z < j → ¬ IsN M z e) → E (wM g ad) X 0 0 (M) 2 [(0, .ref (ad 0)), (1, vI (e)), (2, vI (j))] [] := by
  have hn := hG.2.1
  have hn0 := hG.1
  intro m
  induction m with
  | zero =>
    intro j h1 h2 h3 hj
    have hj2 : j = n := by omega
    subst hj2
    refine B_X10_madeNumber_2 (by omega) (by omega) (Nat.le_refl _) (Nat.le_refl _) C Y ⟨fun c => ⟨fun c1 => ⟨by omega, ?_⟩, fun c1 => kk _ _ (Or.inr (Or.inl ⟨rfl, rfl, by omega, hj⟩))⟩, fun c => absurd c (by omega)⟩
    rw [h0] at c1 ⊢
    obtain ⟨K, hK⟩ : ∃ K, K = up (up (up (up (up M 1 j 1) 2 j (128 * e)) 5 j 0) 3 (2 * j) 0) 3 (2 * j + 1) 0 := ⟨_, rfl⟩
    rw [← hK]
    have fr : ∀ c i, c ≠ 1 → c ≠ 2 → c ≠ 3 → c ≠ 5 → K c i = M c i := fun c i q1 q2 q3 q4 => by rw [hK, up_c q3, up_c q3, up_c q4, up_c q2, up_c q1]
    have g : Ag M K j := by
      refine ⟨fun c i q i1 i2 => ?_, fun i i1 i2 => ?_, fun z s i _ _ _ _ _ _ => fr 4 _ (by decide) (by decide) (by decide) (by decide), fun i i1 i2 => fr 15 i (by decide) (by decide) (by decide) (by decide), fun x y _ _ _ _ => fr 12 _ (by decide) (by decide) (by decide) (by decide), fun z z1 z2 _ => ?_⟩
      · rw [hK, up_c (by omega), up_c (by omega)]
        simp only [up, show ¬ i = j by omega, if_false]
        repeat (first | rfl | split)
      · rw [hK, up_i (by omega), up_i (by omega), up_c (by decide), up_c (by decide), up_c (by decide)]
      · rw [hK, up_c (by decide), up_c (by decide), up_c (by decide), up_i (by omega), up_c (by decide)]
    have k0 : K 0 0 = j := by rw [fr 0 0 (by decide) (by decide) (by decide) (by decide)]; exact h0
    have k1 : K 1 j = 1 := by rw [hK, up_c (by decide), up_c (by decide), up_c (by decide), up_c (by decide), up_s]
    have k2 : K 2 j = 128 * e := by rw [hK, up_c (by decide), up_c (by decide), up_c (by decide), up_s]
    have k5 : K 5 j = 0 := by rw [hK, up_c (by decide), up_c (by decide), up_s]
    have k3 : ∀ s, 0 ≤ s → s ≤ 1 → K 3 (2 * j + s) = 0 := fun s s1 s2 => by
      rcases (show s = 0 ∨ s = 1 by omega) with rfl | rfl
      · rw [hK, up_i (by omega), Int.add_zero, up_s]
      · rw [hK, up_s]
    have hD : Dat K j := by
      refine ⟨⟨fun s s1 s2 => ?_, fun s s1 s2 i i1 i2 => ?_⟩, fun s s1 s2 i l i1 i2 i3 => ?_, by omega, fun _ => ⟨k3 0 (by omega) (by omega), k3 1 (by omega) (by omega), k5, e, he.1, he.2, k2⟩, fun q => by omega⟩
      · rw [k3 s s1 s2]; exact ⟨by omega, fun i i1 i2 => absurd i2 (by omega)⟩
      · rw [k3 s s1 s2] at i2; omega
      · rw [k3 s s1 s2] at i3; omega
    refine ⟨_, g_lays k0 (by omega) (hG.cg g) hD (Or.inr k1), fun r N hN => ?_⟩
    obtain ⟨rfl, n0, nG, nA, nF⟩ := hN
    refine ⟨by omega, kk _ _ (Or.inr (Or.inr ⟨rfl, by omega, hj, n0, nG, g.trans (Int.le_refl _) nA, ?_, ?_, fun c i q1 q2 => ?_⟩))⟩
    · rw [nF 1 j (by decide) (by decide) (by decide)]; exact k1
    · rw [nF 2 j (by decide) (by decide) (by decide)]; exact k2
    · rw [nF c i (by omega) (by omega) q2, fr c i (by omega) (by omega) (by omega) (by omega)]
  | succ m ih =>
    intro j h1 h2 h3 hj
    have nx : ¬ IsN M j e → E (wM g ad) X 0 0 (M) 2 [(0, .ref (ad 0)), (1, vI (e)), (2, vI (j + 1))] [] := fun q => ih (j + 1) (by omega) (by omega) (by omega) (fun z z1 z2 => by
      by_cases hz : z = j
      · subst hz; exact q
      · exact hj z z1 (by omega))
    refine B_X10_madeNumber_2 (by omega) (by omega) (Nat.le_refl _) (Nat.le_refl _) C Y ⟨fun c => absurd c (by omega), fun c => ⟨by omega, fun c1 => ⟨by omega, nx (fun q => q.1 c1)⟩, fun c1 => ⟨by omega, fun c2 => ⟨by omega, nx (fun q => c2 q.2)⟩, fun c2 => ?_⟩⟩⟩
    exact kk _ _ (Or.inl ⟨h1, by omega, rfl, ⟨c1, c2⟩, hj⟩)
theorem g_madeNumber {g : Gs} {ad : Nat → Nat} {M : Mem} {n e : Int} (h0 : M 0 0 = n) (hG : Good n M) (he : -64 ≤ e ∧ e ≤ 64) : SpI (wM g ad) yX10_madeNumber cX10_madeNumber 3 (some .int) 6 [.ref (ad 0), vI (e)] (M) (fun r N => MnP M n e r N) := by
  intro l9 hl9
  refine ct_of hl9 mi_X10_madeNumber.2.2.2 (Nat.le_of_ble_eq_true rfl) (fun X _ C Y => ?_)
  show E (wM g ad) X 0 0 (M) 0 [(0, .ref (ad 0)), (1, vI (e))] []
  refine e_wf (fun hw => ?_)
  exact B_X10_madeNumber_0 (by omega) (Nat.le_refl _) (Nat.le_refl _) C Y (mn_2 C Y h0 hG he (fun r N q => ⟨r, rfl, q⟩) n.toNat 0 (by omega) (by have := hG.1; omega) (by have := hG.1; omega) (fun z z1 z2 => absurd z2 (by omega)))
/-- the rows are empty -/
def Bgn (M N : Mem) : Prop := (∀ c i, c ≠ 29 → c ≠ 30 → N c i = M c i) ∧ N 29 0 = 0 ∧ N 30 0 = 0 ∧ N 30 1 = 0
theorem g_begins {g : Gs} {ad : Nat → Nat} {M : Mem} : SpV (wM g ad) yX10_begins cX10_begins 1 none 1 [.ref (ad 0)] (M) (fun N => Bgn M N) :=
  s_X10_begins.toV.mono (fun N e => by
    subst e
    exact ⟨fun c i q1 q2 => by rw [up_c q1, up_c q2, up_c q2], up_s _ _ _ _, by rw [up_c (by decide), up_i (by decide), up_s], by rw [up_c (by decide), up_s]⟩)
/-- the rows hold these sets: none too many -/
def Rows (M : Mem) (n : Int) (L R : Int → Prop) : Prop := NwOk M n ∧ (∀ x, InR M 0 x ↔ L x) ∧ ∀ x, InR M 1 x ↔ R x
theorem pair_rows {M A B N : Mem} {n a b : Int} (h0 : M 0 0 = n) (hG : Good n M) (ha : 0 ≤ a ∧ a < n) (hb : 0 ≤ b ∧ b < n) (h1 : Bgn M A) (h2 : TkP A 0 a B) (h3 : TkP B 1 b N) : Rows N n (fun x => x = a) (fun x => x = b) ∧ N 29 0 = 0 ∧ ∀ c i, c ≠ 29 → c ≠ 30 → c ≠ 31 → N c i = M c i := by
  obtain ⟨a1, a2, a3, a4⟩ := h1
  obtain ⟨b1, b2, b3, b4, b5⟩ := h2
  obtain ⟨n1, n2, n3, n4, n5⟩ := h3
  have fr : ∀ c i, c ≠ 29 → c ≠ 30 → c ≠ 31 → N c i = M c i := fun c i q1 q2 q3 => by rw [n1 c i q1 q2 q3, b1 c i q1 q2 q3, a1 c i q1 q2]
  have eA : ∀ s, (s = 0 ∨ s = 1) → ∀ x, ¬ InR A s x := by
    rintro s (rfl | rfl) x ⟨i, i1, i2, -⟩ <;> omega
  obtain ⟨b6, b7⟩ := b5.resolve_right (fun q => by have := q.1; omega)
  have eB1 : B 30 1 = 0 := by rw [b2 1 (by decide)]; exact a4
  obtain ⟨n6, n7⟩ := n5.resolve_right (fun q => by have := q.1; omega)
  have e0 : N 30 0 = B 30 0 := n2 0 (by decide)
  have e00 : ∀ i, i < 4 → N 31 i = B 31 i := fun i hi => n3 i (by omega)
  have in0 : ∀ x, InR N 0 x ↔ x = a := fun x => by
    have : InR N 0 x ↔ InR B 0 x := by
      have hc := b4.1
      constructor
      · rintro ⟨i, i1, i2, i3⟩; exact ⟨i, i1, by omega, by rw [← e00 _ (by omega)]; exact i3⟩
      · rintro ⟨i, i1, i2, i3⟩; exact ⟨i, i1, by omega, by rw [e00 _ (by omega)]; exact i3⟩
    rw [this, b7]
    exact ⟨fun q => q.resolve_left (eA 0 (Or.inl rfl) x), Or.inr⟩
  have in1 : ∀ x, InR N 1 x ↔ x = b := fun x => by
    rw [n7]
    refine ⟨fun q => q.resolve_left ?_, Or.inr⟩
    rintro ⟨i, i1, i2, -⟩; omega
  have s0 : Srt N 0 := ⟨by rw [e0]; exact b4.1, fun i j i1 i2 i3 => by
    have hc := b4.1
    rw [e0] at i3
    rw [e00 _ (by omega), e00 _ (by omega)]; exact b4.2 i j i1 i2 i3⟩
  refine ⟨⟨⟨hG.cg (Ag.of n (fun c i q1 q2 => fr c i (by omega) (by omega) (by omega))), by rw [fr 0 0 (by decide) (by decide) (by decide)]; exact h0, s0, n4, fun s s1 s2 i i1 i2 => ?_⟩, in0, in1⟩, by rw [n6, b6]; exact a2, fr⟩
  rcases (show s = 0 ∨ s = 1 by omega) with rfl | rfl
  · have := (in0 _).mp ⟨i, i1, i2, rfl⟩; omega
  · have := (in1 _).mp ⟨i, i1, i2, rfl⟩; omega
/-- what pair does: A holds the rows, then made -/
def PrP (M : Mem) (n a b r : Int) (N : Mem) : Prop := ∃ A, (Rows A n (fun x => x = a) (fun x => x = b) ∧ A 29 0 = 0 ∧ ∀ c i, c ≠ 29 → c ≠ 30 → c ≠ 31 → A c i = M c i) ∧ MdP A n r N
theorem mdp_r {M N : Mem} {n r : Int} (hn : 0 ≤ n ∧ n ≤ 40) (h : MdP M n r N) : -1 ≤ r ∧ r < 40 := by
  rcases h with ⟨a, -⟩ | ⟨a, b, -⟩ | ⟨a, b, -⟩ <;> omega
theorem g_pair {g : Gs} {ad : Nat → Nat} {M : Mem} {n a b : Int} (h0 : M 0 0 = n) (hG : Good n M) (ha : 0 ≤ a ∧ a < n) (hb : 0 ≤ b ∧ b < n) : SpI (wM g ad) yX10_pair cX10_pair 3 (some .int) 7 [.ref (ad 0), vI (a), vI (b)] (M) (fun r N => PrP M n a b r N) := by
  intro l9 hl9
  refine ct_of hl9 mi_X10_pair.2.2.2 (Nat.le_of_ble_eq_true rfl) (fun X _ C Y => ?_)
  show E (wM g ad) X 0 0 (M) 0 [(0, .ref (ad 0)), (1, vI (a)), (2, vI (b))] []
  refine e_wf (fun hw => ?_)
  have hn := hG.2.1
  refine B_X10_pair_0 (by omega) (by omega) (Nat.le_refl _) (Nat.le_refl _) C Y ⟨_, g_begins, fun A hA => ⟨_, g_takes (by omega) (by omega) ⟨by have := hA.2.2.1; omega, fun i j i1 i2 i3 => by have := hA.2.2.1; omega⟩, fun B hB => ⟨_, g_takes (by omega) (by omega) ?_, fun D hD => ?_⟩⟩⟩
  · have e : B 30 1 = 0 := by rw [hB.2.1 1 (by decide)]; exact hA.2.2.2
    exact ⟨by omega, fun i j i1 i2 i3 => by omega⟩
  · have hr := pair_rows h0 hG ha hb hA hB hD
    refine ⟨_, g_made hr.1.1, fun r N hN => ?_⟩
    have := mdp_r ⟨hG.1, hG.2.1⟩ hN
    exact ⟨by omega, r, rfl, D, hr, hN⟩
