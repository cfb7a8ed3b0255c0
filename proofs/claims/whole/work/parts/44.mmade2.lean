/-! ===== the reference: made, madeNumber, pair ===== -/
/-- the new game's rows are in order -/
def NwOk (M : Mem) (n : Int) : Prop := Good n M ∧ M 0 0 = n ∧ Srt M 0 ∧ Srt M 1 ∧ ∀ s, 0 ≤ s → s ≤ 1 → ∀ i, 0 ≤ i → i < M 30 s → 0 ≤ M 31 (4 * s + i) ∧ M 31 (4 * s + i) < n
theorem NwOk.srt {M : Mem} {n s : Int} (h : NwOk M n) (hs : 0 ≤ s ∧ s ≤ 1) : Srt M s := by
  rcases (show s = 0 ∨ s = 1 by omega) with rfl | rfl
  · exact h.2.2.1
  · exact h.2.2.2.1
def DeepTo (M : Mem) (s j d : Int) : Prop := (0 ≤ d ∧ d ≤ 6) ∧ (∀ s' i, 0 ≤ s' → s' ≤ 1 → 0 ≤ i → i < M 30 s' → (s' < s ∨ (s' = s ∧ i < j)) → M 5 (M 31 (4 * s' + i)) ≤ d) ∧ (d = 0 ∨ ∃ s' i, 0 ≤ s' ∧ s' ≤ 1 ∧ 0 ≤ i ∧ i < M 30 s' ∧ M 5 (M 31 (4 * s' + i)) = d)
/-- the greatest depth in the rows -/
abbrev Deep (M : Mem) (d : Int) : Prop := DeepTo M 2 0 d
def MkN (M N : Mem) (n d : Int) : Prop := N 0 0 = n + 1 ∧ Good (n + 1) N ∧ Ag M N n ∧ N 1 n = 0 ∧ N 5 n = d + 1 ∧ (∀ s, 0 ≤ s → s ≤ 1 → N 3 (2 * n + s) = M 30 s ∧ ∀ i, 0 ≤ i → i < M 30 s → opt N n s i = M 31 (4 * s + i)) ∧ ∀ c i, 15 < c → (c < 32 ∨ 35 < c) → N c i = M c i
def MdP (M : Mem) (n r : Int) (N : Mem) : Prop :=
  (r = -1 ∧ N = M ∧ (M 29 0 ≠ 0 ∨ Deep M 6 ∨ (n = 40 ∧ ∀ z, 0 ≤ z → z < n → ¬ SamN M z))) ∨
  (0 ≤ r ∧ r < n ∧ N = M ∧ M 29 0 = 0 ∧ SamN M r ∧ ∀ z, 0 ≤ z → z < r → ¬ SamN M z) ∨
  (r = n ∧ n < 40 ∧ M 29 0 = 0 ∧ (∀ z, 0 ≤ z → z < n → ¬ SamN M z) ∧ ∃ d, d ≤ 5 ∧ Deep M d ∧ MkN M N n d)
theorem md_20 {g : Gs} {ad : Nat → Nat} {X : Cx} {PQ : Option Value → Mem → Prop} {PX : String → Mem → Prop} (C : OkB (wM g ad) X cX10_made RX10 5 6 0 0) (Y : OkR (wM g ad) X (some .int) 0 0 PQ PX) {M : Mem} {n s : Int} (h : NwOk M n) (hs : 0 ≤ s ∧ s ≤ 1) (kk : ∀ d, DeepTo M (s + 1) 0 d → E (wM g ad) X 0 0 (M) 13 [(0, .ref (ad 0)), (1, vI (d)), (2, vI (s + 1))] []) : ∀ (m : Nat) (j d : Int), 0 ≤ j → j ≤ M 30 s → M 30 s - j = m → DeepTo M s j d → E (wM g ad) X 0 0 (M) 20 [(0, .ref (ad 0)), (1, vI (d)), (2, vI (s)), (3, vI (j))] [] := by
  have hS := h.srt hs
  intro m
  induction m with
  | zero =>
    intro j d h1 h2 h3 hd
    have hdr := hd.1
    have hj : j = M 30 s := by omega
    subst hj
    have hh := hS.1
    refine B_X10_made_20 (by omega) (by omega) (by omega) (Nat.le_refl _) (Nat.le_refl _) C Y ⟨by omega, fun c => ⟨by omega, ?_⟩, fun c => absurd c (by omega)⟩
    refine kk d ⟨hd.1, fun s' i a1 a2 a3 a4 a5 => hd.2.1 s' i a1 a2 a3 a4 ?_, hd.2.2⟩
    rcases a5 with q | q
    · by_cases hq : s' = s
      · subst hq; exact Or.inr ⟨rfl, a4⟩
      · exact Or.inl (by omega)
    · omega
  | succ m ih =>
    intro j d h1 h2 h3 hd
    have hdr := hd.1
    have hh := hS.1
    have ho := h.2.2.2.2 s hs.1 hs.2 j h1 (by omega)
    have hn := h.1.2.1
    have h5 := (h.1.2.2 _ ho.1 ho.2).1.2.2.1
    refine B_X10_made_20 (by omega) (by omega) (by omega) (Nat.le_refl _) (Nat.le_refl _) C Y ⟨by omega, fun c => absurd c (by omega), fun c => ⟨by omega, fun c1 => ⟨by omega, ?_⟩, fun c1 => ⟨by omega, ?_⟩⟩⟩
    · refine ih (j + 1) d (by omega) (by omega) (by omega) ⟨hd.1, fun s' i a1 a2 a3 a4 a5 => ?_, hd.2.2⟩
      by_cases hq : s' = s ∧ i = j
      · obtain ⟨rfl, rfl⟩ := hq; exact c1
      · exact hd.2.1 s' i a1 a2 a3 a4 (by omega)
    · refine ih (j + 1) _ (by omega) (by omega) (by omega) ⟨h5, fun s' i a1 a2 a3 a4 a5 => ?_, Or.inr ⟨s, j, hs.1, hs.2, h1, c, rfl⟩⟩
      by_cases hq : s' = s ∧ i = j
      · obtain ⟨rfl, rfl⟩ := hq; exact Int.le_refl _
      · have := hd.2.1 s' i a1 a2 a3 a4 (by omega)
        omega
/-- the rows are copied to game n -/
def CpA (M K : Mem) (n s : Int) : Prop := (∀ c i, ¬ (c = 3 ∧ 2 * n ≤ i) → ¬ (c = 4 ∧ 8 * n ≤ i) → K c i = M c i) ∧ ∀ s', 0 ≤ s' → s' < s → K 3 (2 * n + s') = M 30 s' ∧ ∀ i, 0 ≤ i → i < 4 → K 4 (8 * n + 4 * s' + i) = M 31 (4 * s' + i)
theorem md_167 {g : Gs} {ad : Nat → Nat} {X : Cx} {PQ : Option Value → Mem → Prop} {PX : String → Mem → Prop} (C : OkB (wM g ad) X cX10_made RX10 5 6 0 0) (Y : OkR (wM g ad) X (some .int) 0 0 PQ PX) {M : Mem} {n s : Int} (h0 : M 0 0 = n) (hn : 0 ≤ n ∧ n < 40) (hs : 0 ≤ s ∧ s ≤ 1) (kk : ∀ K, CpA M K n (s + 1) → E (wM g ad) X 0 0 (K) 141 [(0, .ref (ad 0)), (2, vI (s + 1))] []) : ∀ (m : Nat) (j : Int), 0 ≤ j → j ≤ 4 → 4 - j = m → ∀ K, CpA M K n s → K 3 (2 * n + s) = M 30 s → (∀ i, 0 ≤ i → i < j → K 4 (8 * n + 4 * s + i) = M 31 (4 * s + i)) → E (wM g ad) X 0 0 (K) 167 [(0, .ref (ad 0)), (2, vI (s)), (3, vI (j))] [] := by
  intro m
  induction m with
  | zero =>
    intro j h1 h2 h3 K hK k3 k4
    have hj : j = 4 := by omega
    subst hj
    refine B_X10_made_167 (by omega) (by omega) (Nat.le_refl _) (Nat.le_refl _) C Y ⟨fun c => ⟨by omega, kk K ⟨hK.1, fun s' a1 a2 => ?_⟩⟩, fun c => absurd c (by omega)⟩
    by_cases hq : s' = s
    · subst hq; exact ⟨k3, k4⟩
    · exact hK.2 s' a1 (by omega)
  | succ m ih =>
    intro j h1 h2 h3 K hK k3 k4
    have e0 : K 0 0 = n := (hK.1 0 0 (by omega) (by omega)).trans h0
    have e31 : ∀ i, K 31 i = M 31 i := fun i => hK.1 31 i (by omega) (by omega)
    refine B_X10_made_167 (by omega) (by omega) (Nat.le_refl _) (Nat.le_refl _) C Y ⟨fun c => absurd c (by omega), fun c => ⟨by rw [e0]; omega, ?_⟩⟩
    rw [e0, e31]
    refine ih (j + 1) (by omega) (by omega) (by omega) _ ⟨fun c i q1 q2 => ?_, fun s' a1 a2 => ⟨?_, fun i i1 i2 => ?_⟩⟩ ?_ (fun i i1 i2 => ?_)
    · by_cases hc : c = 4
      · subst hc
        rw [up_i (by omega)]; exact hK.1 4 i q1 q2
      · rw [up_c hc]; exact hK.1 c i q1 q2
    · rw [up_c (by decide)]; exact (hK.2 s' a1 a2).1
    · rw [up_i (by omega)]; exact (hK.2 s' a1 a2).2 i i1 i2
    · rw [up_c (by decide)]; exact k3
    · by_cases hi : i = j
      · subst hi; rw [up_s]
      · rw [up_i (by omega)]; exact k4 i i1 (by omega)
theorem md_141 {g : Gs} {ad : Nat → Nat} {X : Cx} {PQ : Option Value → Mem → Prop} {PX : String → Mem → Prop} (C : OkB (wM g ad) X cX10_made RX10 5 6 0 0) (Y : OkR (wM g ad) X (some .int) 0 0 PQ PX) {M : Mem} {n s : Int} (h0 : M 0 0 = n) (hn : 0 ≤ n ∧ n < 40) (hs : 0 ≤ s ∧ s ≤ 1) (kk : ∀ K, CpA M K n (s + 1) → E (wM g ad) X 0 0 (K) 141 [(0, .ref (ad 0)), (2, vI (s + 1))] []) {K : Mem} (hK : CpA M K n s) : E (wM g ad) X 0 0 (K) 141 [(0, .ref (ad 0)), (2, vI (s))] [] := by
  have e0 : K 0 0 = n := (hK.1 0 0 (by omega) (by omega)).trans h0
  have e30 : ∀ i, K 30 i = M 30 i := fun i => hK.1 30 i (by omega) (by omega)
  refine B_X10_made_141 (by omega) (Nat.le_refl _) (Nat.le_refl _) C Y ⟨fun c => absurd c (by omega), fun c => ⟨by rw [e0]; omega, ?_⟩⟩
  rw [e0, e30]
  refine md_167 C Y h0 hn hs kk 4 0 (by omega) (by omega) (by omega) _ ⟨fun c i q1 q2 => ?_, fun s' a1 a2 => ⟨?_, fun i i1 i2 => ?_⟩⟩ (up_s _ _ _ _) (fun i i1 i2 => absurd i2 (by omega))
  · by_cases hc : c = 3
    · subst hc
      rw [up_i (by omega)]; exact hK.1 3 i q1 q2
    · rw [up_c hc]; exact hK.1 c i q1 q2
  · rw [up_i (by omega)]; exact (hK.2 s' a1 a2).1
  · rw [up_c (by decide)]; exact (hK.2 s' a1 a2).2 i i1 i2
/-- the copied game has good data -/
theorem cp_dat {M M1 K : Mem} {n d : Int} (h : NwOk M n) (hn : n < 40) (hd : d ≤ 5) (hD : Deep M d) (h1 : M1 = up (up M 1 n 0) 5 n (d + 1)) (hK : CpA M1 K n 2) : Ag M K n ∧ Dat K n ∧ K 0 0 = n ∧ K 1 n = 0 ∧ K 5 n = d + 1 ∧ (∀ s, 0 ≤ s → s ≤ 1 → K 3 (2 * n + s) = M 30 s ∧ ∀ i, 0 ≤ i → i < M 30 s → opt K n s i = M 31 (4 * s + i)) ∧ ∀ c i, c ≠ 1 → c ≠ 3 → c ≠ 4 → c ≠ 5 → K c i = M c i := by
  subst h1
  have hn0 := h.1.1
  have fr : ∀ c i, c ≠ 1 → c ≠ 3 → c ≠ 4 → c ≠ 5 → K c i = M c i := fun c i q1 q2 q3 q4 => by rw [hK.1 c i (by omega) (by omega), up_c q4, up_c q1]
  have g : Ag M K n := by
    refine ⟨fun c i q i1 i2 => ?_, fun i i1 i2 => ?_, fun z s i z1 z2 s1 s2 i1 i2 => ?_, fun i i1 i2 => fr 15 i (by decide) (by decide) (by decide) (by decide), fun x y _ _ _ _ => fr 12 _ (by decide) (by decide) (by decide) (by decide), fun z _ _ _ => fr 2 z (by decide) (by decide) (by decide) (by decide)⟩
    · rw [hK.1 c i (by omega) (by omega)]
      simp only [up, show ¬ i = n by omega, if_false]
      split <;> split <;> rfl
    · rw [hK.1 3 i (by omega) (by omega), up_c (by decide), up_c (by decide)]
    · have := ((h.1.2.2 z z1 z2).1.1.1 s s1 s2).1
      rw [show opt K z s i = K 4 (8 * z + 4 * s + i) from rfl, hK.1 4 _ (by omega) (by omega), up_c (by decide), up_c (by decide)]
  have row : ∀ s, 0 ≤ s → s ≤ 1 → K 3 (2 * n + s) = M 30 s ∧ ∀ i, 0 ≤ i → i < M 30 s → opt K n s i = M 31 (4 * s + i) := by
    intro s s1 s2
    obtain ⟨a, b⟩ := hK.2 s s1 (by omega)
    have hr := (h.srt ⟨s1, s2⟩).1
    refine ⟨by rw [a, up_c (by decide), up_c (by decide)], fun i i1 i2 => ?_⟩
    rw [show opt K n s i = K 4 (8 * n + 4 * s + i) from rfl, b i i1 (by omega), up_c (by decide), up_c (by decide)]
  have k1 : K 1 n = 0 := by rw [hK.1 1 n (by omega) (by omega), up_c (by decide), up_s]
  have k5 : K 5 n = d + 1 := by rw [hK.1 5 n (by omega) (by omega), up_s]
  have k0 : K 0 0 = n := by rw [fr 0 0 (by decide) (by decide) (by decide) (by decide)]; exact h.2.1
  have o5 : ∀ s, 0 ≤ s → s ≤ 1 → ∀ i, 0 ≤ i → i < M 30 s → K 5 (opt K n s i) = M 5 (M 31 (4 * s + i)) := fun s s1 s2 i i1 i2 => by
    rw [(row s s1 s2).2 i i1 i2]
    have := h.2.2.2.2 s s1 s2 i i1 i2
    exact g.1 5 _ (by omega) this.1 this.2
  have hdd := hD.1
  refine ⟨g, ⟨⟨fun s s1 s2 => ?_, fun s s1 s2 i i1 i2 => ?_⟩, fun s s1 s2 i j i1 i2 i3 => ?_, by rw [k5]; omega, fun q => absurd k1 q, fun _ => ⟨by rw [k5]; omega, fun s s1 s2 i i1 i2 => ?_, ?_⟩⟩, k0, k1, k5, row, fr⟩
  · obtain ⟨a, b⟩ := row s s1 s2
    rw [a]
    refine ⟨(h.srt ⟨s1, s2⟩).1, fun i i1 i2 => ?_⟩
    have := h.2.2.2.2 s s1 s2 i i1 i2
    have e := b i i1 i2
    simp only [opt] at e
    rw [e]
    omega
  · obtain ⟨a, b⟩ := row s s1 s2
    rw [a] at i2
    have e := b i i1 i2
    simp only [opt] at e
    rw [e]
    exact (h.2.2.2.2 s s1 s2 i i1 i2).2
  · obtain ⟨a, b⟩ := row s s1 s2
    rw [a] at i3
    rw [b i i1 (by omega), b j (by omega) i3]
    exact (h.srt ⟨s1, s2⟩).2 i j i1 i2 i3
  · rw [(row s s1 s2).1] at i2
    rw [o5 s s1 s2 i i1 i2, k5]
    have := hD.2.1 s i s1 s2 i1 i2 (by omega)
    omega
  · rw [k5]
    rcases hD.2.2 with q | ⟨s, i, s1, s2, i1, i2, q⟩
    · exact Or.inl (by omega)
    · exact Or.inr ⟨s, i, s1, s2, i1, by rw [(row s s1 s2).1]; exact i2, by rw [o5 s s1 s2 i i1 i2]; omega⟩
theorem md_82 {g : Gs} {ad : Nat → Nat} {X : Cx} {PQ : Option Value → Mem → Prop} {PX : String → Mem → Prop} (C : OkB (wM g ad) X cX10_made RX10 5 6 0 0) (Y : OkR (wM g ad) X (some .int) 0 0 PQ PX) {M : Mem} {n d : Int} (h : NwOk M n) (hf : M 29 0 = 0) (hD : Deep M d) (hd : d ≤ 5) (kk : ∀ r N, MdP M n r N → PQ (some (vI r)) N) : ∀ (m : Nat) (j : Int), 0 ≤ j → j ≤ n → n - j = m → (∀ z, 0 ≤ z → z < j → ¬ SamN M z) → E (wM g ad) X 0 0 (M) 82 [(0, .ref (ad 0)), (1, vI (d)), (2, vI (j))] [] := by
  have hn := h.1.2.1
  have hn0 := h.1.1
  have h0 := h.2.1
  have hdr := hD.1
  intro m
  induction m with
  | zero =>
    intro j h1 h2 h3 hj
    have hj2 : j = n := by omega
    subst hj2
    refine B_X10_made_82 (by omega) (by omega) (Nat.le_refl _) (Nat.le_refl _) C Y ⟨fun c => ⟨fun c1 => ⟨by omega, ?_⟩, fun c1 => ?_⟩, fun c => absurd c (by omega)⟩
    · rw [h0] at c1
      rw [h0]
      have hM1 : up (up M 1 j 0) 5 j (d + 1) 0 0 = j := by rw [up_c (by decide), up_c (by decide)]; exact h0
      refine md_141 C Y (M := up (up M 1 j 0) 5 j (d + 1)) hM1 (by omega) (show (0 : Int) ≤ 0 ∧ (0 : Int) ≤ 1 by omega) (fun K1 hK1 => ?_) ⟨fun _ _ _ _ => rfl, fun s' a1 a2 => absurd a2 (by omega)⟩
      refine md_141 C Y (M := up (up M 1 j 0) 5 j (d + 1)) hM1 (by omega) (show (0 : Int) ≤ 0 + 1 ∧ (0 : Int) + 1 ≤ 1 by omega) (fun K hK => ?_) hK1
      obtain ⟨g, hDK, k0, k1, k5, row, fr⟩ := cp_dat h (by omega) hd hD rfl hK
      refine B_X10_made_141 (by omega) (Nat.le_refl _) (Nat.le_refl _) C Y ⟨fun c => ⟨_, g_lays k0 (by omega) (h.1.cg g) hDK (Or.inl k1), fun r N hN => ?_⟩, fun c => absurd c (by omega)⟩
      obtain ⟨rfl, n0, nG, nA, nF⟩ := hN
      refine ⟨by omega, kk _ _ (Or.inr (Or.inr ⟨rfl, by omega, hf, hj, d, hd, hD, n0, nG, g.trans (Int.le_refl _) nA, ?_, ?_, fun s s1 s2 => ?_, fun c i q1 q2 => ?_⟩))⟩
      · rw [nF 1 j (by decide) (by decide) (by decide)]; exact k1
      · rw [nF 5 j (by decide) (by decide) (by decide)]; exact k5
      · obtain ⟨a, b⟩ := row s s1 s2
        refine ⟨by rw [nF 3 _ (by decide) (by decide) (by decide)]; exact a, fun i i1 i2 => ?_⟩
        rw [show opt N j s i = opt K j s i from nF 4 _ (by decide) (by decide) (by decide)]
        exact b i i1 i2
      · rw [nF c i (by omega) (by omega) q2, fr c i (by omega) (by omega) (by omega) (by omega)]
    · rw [h0] at c1
      exact kk _ _ (Or.inl ⟨rfl, rfl, Or.inr (Or.inr ⟨c1, hj⟩)⟩)
  | succ m ih =>
    intro j h1 h2 h3 hj
    refine B_X10_made_82 (by omega) (by omega) (Nat.le_refl _) (Nat.le_refl _) C Y ⟨fun c => absurd c (by omega), fun c => ⟨_, g_isNew (by omega) h.2.2.1.1 h.2.2.2.1.1, fun r N hN => ?_⟩⟩
    obtain ⟨rfl, r01, r1⟩ := hN
    refine ⟨r01, fun c1 => ⟨by omega, ?_⟩, fun c1 => ?_⟩
    · refine ih (j + 1) (by omega) (by omega) (by omega) (fun z z1 z2 => ?_)
      by_cases hz : z = j
      · subst hz; intro q; have := r1.mpr q; omega
      · exact hj z z1 (by omega)
    · exact kk _ _ (Or.inr (Or.inl ⟨h1, by omega, rfl, hf, r1.mp (by omega), hj⟩))
theorem g_made {g : Gs} {ad : Nat → Nat} {M : Mem} {n : Int} (h : NwOk M n) : SpI (wM g ad) yX10_made cX10_made 5 (some .int) 6 [.ref (ad 0)] (M) (fun r N => MdP M n r N) := by
  intro l9 hl9
  refine ct_of hl9 mi_X10_made.2.2.2 (Nat.le_of_ble_eq_true rfl) (fun X _ C Y => ?_)
  show E (wM g ad) X 0 0 (M) 0 [(0, .ref (ad 0))] []
  refine e_wf (fun hw => ?_)
  have kk : ∀ r N, MdP M n r N → (fun (v : Option Value) (M1 : Mem) => ∃ z : Int, v = some (vI z) ∧ MdP M n z M1) (some (vI r)) N := fun r N q => ⟨r, rfl, q⟩
  refine B_X10_made_0  (Nat.le_refl _) (Nat.le_refl _) C Y ⟨fun c => ?_, fun c => ⟨-1, rfl, Or.inl ⟨rfl, rfl, Or.inl c⟩⟩⟩
  have e2 : ∀ d, DeepTo M 2 0 d → E (wM g ad) X 0 0 (M) 13 [(0, .ref (ad 0)), (1, vI (d)), (2, vI (2))] [] := by
    intro d hd
    have hdr := hd.1
    refine B_X10_made_13 (by omega) (by omega) (Nat.le_refl _) (Nat.le_refl _) C Y ⟨fun c1 => ⟨fun c2 => ?_, fun c2 => ?_⟩, fun c1 => absurd c1 (by omega)⟩
    · exact md_82 C Y h c hd (by omega) kk n.toNat 0 (by omega) (by have := h.1.1; omega) (by have := h.1.1; omega) (fun z z1 z2 => absurd z2 (by omega))
    · subst c2; exact ⟨-1, rfl, Or.inl ⟨rfl, rfl, Or.inr (Or.inl hd)⟩⟩
  have e1 : ∀ d, DeepTo M 1 0 d → E (wM g ad) X 0 0 (M) 13 [(0, .ref (ad 0)), (1, vI (d)), (2, vI (1))] [] := by
    intro d hd
    have hdr := hd.1
    refine B_X10_made_13 (by omega) (by omega) (Nat.le_refl _) (Nat.le_refl _) C Y ⟨fun c1 => absurd c1 (by omega), fun c1 => ?_⟩
    exact md_20 C Y h (s := 1) (by omega) e2 (M 30 1).toNat 0 d (by omega) (by have := h.2.2.2.1.1; omega) (by have := h.2.2.2.1.1; omega) hd
  refine B_X10_made_13 (by omega) (by omega) (Nat.le_refl _) (Nat.le_refl _) C Y ⟨fun c1 => absurd c1 (by omega), fun c1 => ?_⟩
  refine md_20 C Y h (s := 0) (by omega) e1 (M 30 0).toNat 0 0 (by omega) (by have := h.2.2.1.1; omega) (by have := h.2.2.1.1; omega) ⟨by omega, fun s' i a1 a2 a3 a4 a5 => absurd a5 (by omega), Or.inl rfl⟩
