/-! ===== the reference: a new game is compared with all others ===== -/
/-- two memories that ALf of (n,h) and (h,n) can't tell apart -/
def AgL (P N : Mem) (n h : Int) : Prop := (∀ c i, c ≠ 12 → N c i = P c i) ∧ ∀ x y, 0 ≤ x → x < 40 → 0 ≤ y → y < 40 → ((x < n ∧ y < n) ∨ (y = n ∧ x < h) ∨ (x = n ∧ y < h)) → N 12 (40 * x + y) = P 12 (40 * x + y)
/-- options of a game below it, below 40 -/
def OpS (M : Mem) (z : Int) : Prop := OpB M z ∧ OpL M z
theorem al_cg1 {P N : Mem} {n h : Int} (hn : 0 ≤ n ∧ n < 40) (hh : 0 ≤ h ∧ h ≤ n) (on : OpS P n) (oh : OpS P h) (g : AgL P N n h) : ALf N n h ↔ ALf P n h := by
  have e : ∀ c i, c ≠ 12 → N c i = P c i := g.1
  unfold ALf geM leM
  rw [e 1 h (by decide), e 1 n (by decide), e 2 h (by decide), e 2 n (by decide), e 8 n (by decide), e 9 n (by decide), e 10 h (by decide), e 11 h (by decide), e 3 (2 * n + 1) (by decide), e 3 (2 * h + 0) (by decide)]
  have q1 : ∀ i, 0 ≤ i → i < P 3 (2 * n + 1) → N 12 (40 * h + N 4 (8 * n + 4 * 1 + i)) = P 12 (40 * h + P 4 (8 * n + 4 * 1 + i)) := by
    intro i hi hi2
    rw [e 4 _ (by decide)]
    have o1 := (on.1 1 (by omega) (by omega)).2 i hi hi2
    have o2 := on.2 1 (by omega) (by omega) i hi hi2
    exact g.2 h _ (by omega) (by omega) o1.1 o1.2 (by omega)
  have q2 : ∀ i, 0 ≤ i → i < P 3 (2 * h + 0) → N 12 (40 * N 4 (8 * h + 4 * 0 + i) + n) = P 12 (40 * P 4 (8 * h + 4 * 0 + i) + n) := by
    intro i hi hi2
    rw [e 4 _ (by decide)]
    have o1 := (oh.1 0 (by omega) (by omega)).2 i hi hi2
    have o2 := oh.2 0 (by omega) (by omega) i hi hi2
    exact g.2 _ n o1.1 o1.2 (by omega) (by omega) (by omega)
  constructor
  · rintro (k | k | ⟨k1, k2, k3, k4⟩)
    · exact Or.inl k
    · exact Or.inr (Or.inl k)
    · exact Or.inr (Or.inr ⟨k1, k2, fun i hi hi2 => by rw [← q1 i hi hi2]; exact k3 i hi hi2, fun i hi hi2 => by rw [← q2 i hi hi2]; exact k4 i hi hi2⟩)
  · rintro (k | k | ⟨k1, k2, k3, k4⟩)
    · exact Or.inl k
    · exact Or.inr (Or.inl k)
    · exact Or.inr (Or.inr ⟨k1, k2, fun i hi hi2 => by rw [q1 i hi hi2]; exact k3 i hi hi2, fun i hi hi2 => by rw [q2 i hi hi2]; exact k4 i hi hi2⟩)
theorem al_cg2 {P N : Mem} {n h : Int} (hn : 0 ≤ n ∧ n < 40) (hh : 0 ≤ h ∧ h ≤ n) (on : OpS P n) (oh : OpS P h) (g : AgL P N n h) : ALf N h n ↔ ALf P h n := by
  have e : ∀ c i, c ≠ 12 → N c i = P c i := g.1
  unfold ALf geM leM
  rw [e 1 h (by decide), e 1 n (by decide), e 2 h (by decide), e 2 n (by decide), e 8 h (by decide), e 9 h (by decide), e 10 n (by decide), e 11 n (by decide), e 3 (2 * h + 1) (by decide), e 3 (2 * n + 0) (by decide)]
  have q1 : ∀ i, 0 ≤ i → i < P 3 (2 * h + 1) → N 12 (40 * n + N 4 (8 * h + 4 * 1 + i)) = P 12 (40 * n + P 4 (8 * h + 4 * 1 + i)) := by
    intro i hi hi2
    rw [e 4 _ (by decide)]
    have o1 := (oh.1 1 (by omega) (by omega)).2 i hi hi2
    have o2 := oh.2 1 (by omega) (by omega) i hi hi2
    exact g.2 n _ (by omega) (by omega) o1.1 o1.2 (by omega)
  have q2 : ∀ i, 0 ≤ i → i < P 3 (2 * n + 0) → N 12 (40 * N 4 (8 * n + 4 * 0 + i) + h) = P 12 (40 * P 4 (8 * n + 4 * 0 + i) + h) := by
    intro i hi hi2
    rw [e 4 _ (by decide)]
    have o1 := (on.1 0 (by omega) (by omega)).2 i hi hi2
    have o2 := on.2 0 (by omega) (by omega) i hi hi2
    exact g.2 _ h o1.1 o1.2 (by omega) (by omega) (by omega)
  constructor
  · rintro (k | k | ⟨k1, k2, k3, k4⟩)
    · exact Or.inl k
    · exact Or.inr (Or.inl k)
    · exact Or.inr (Or.inr ⟨k1, k2, fun i hi hi2 => by rw [← q1 i hi hi2]; exact k3 i hi hi2, fun i hi hi2 => by rw [← q2 i hi hi2]; exact k4 i hi hi2⟩)
  · rintro (k | k | ⟨k1, k2, k3, k4⟩)
    · exact Or.inl k
    · exact Or.inr (Or.inl k)
    · exact Or.inr (Or.inr ⟨k1, k2, fun i hi hi2 => by rw [q1 i hi hi2]; exact k3 i hi hi2, fun i hi hi2 => by rw [q2 i hi hi2]; exact k4 i hi hi2⟩)
/-- N is P but for the comparisons of n with the games below h, which are right -/
def AlI (P N : Mem) (n h : Int) : Prop := (∀ c i, c ≠ 12 → N c i = P c i) ∧ (∀ x y, 0 ≤ x → x < 40 → 0 ≤ y → y < 40 → ¬ ((x = n ∧ y < h) ∨ (y = n ∧ x < h)) → N 12 (40 * x + y) = P 12 (40 * x + y)) ∧ ∀ x, 0 ≤ x → x < h → (N 12 (40 * n + x) = 1 ↔ ALf N n x) ∧ (N 12 (40 * x + n) = 1 ↔ ALf N x n)
theorem ly_176 {g : Gs} {ad : Nat → Nat} {X : Cx} {PQ : Option Value → Mem → Prop} {PX : String → Mem → Prop} (C : OkB (wM g ad) X cX10_lays RX10 3 5 0 0) (Y : OkR (wM g ad) X (some .int) 0 0 PQ PX) {P : Mem} {n : Int} (hn : 0 ≤ n ∧ n < 40) (ho : ∀ h, 0 ≤ h → h ≤ n → OpS P h) (kk : ∀ N, AlI P N n (n + 1) → E (wM g ad) X 0 0 (N) 176 [(0, .ref (ad 0)), (1, vI (n)), (2, vI (n + 1))] []) : ∀ (m : Nat) (h : Int), 0 ≤ h → h ≤ n + 1 → n + 1 - h = m → ∀ N, AlI P N n h → E (wM g ad) X 0 0 (N) 176 [(0, .ref (ad 0)), (1, vI (n)), (2, vI (h))] [] := by
  intro m
  induction m with
  | zero =>
    intro h h1 h2 h3 N hN
    have : h = n + 1 := by omega
    subst this
    exact kk N hN
  | succ m ih =>
    intro h h1 h2 h3 N hN
    obtain ⟨f1, f2, f3⟩ := hN
    have hoN : ∀ h, 0 ≤ h → h ≤ n → OpS N h := fun x q1 q2 => by
      obtain ⟨a, b⟩ := ho x q1 q2
      refine ⟨a.cg (fun i => f1 3 i (by decide)) (fun i => f1 4 i (by decide)), fun s s1 s2 i i1 i2 => ?_⟩
      rw [f1 3 _ (by decide)] at i2
      rw [f1 4 _ (by decide)]
      exact b s s1 s2 i i1 i2
    have on := hoN n (by omega) (by omega)
    have oh := hoN h (by omega) (by omega)
    refine B_X10_lays_176 (by omega) (by omega) (Nat.le_refl _) (Nat.le_refl _) C Y ⟨fun c => absurd c (by omega), fun c => ⟨by omega, _, s_X10_isAtLeast hn (by omega) on.1 oh.1, fun r N1 q => ?_⟩⟩
    obtain ⟨rfl, r01, r1⟩ := q
    refine ⟨r01, by omega, ?_⟩
    have on1 : OpS (up N 12 (40 * n + h) r) n := ⟨on.1.cg (fun i => rfl) (fun i => rfl), on.2⟩
    have oh1 : OpS (up N 12 (40 * n + h) r) h := ⟨oh.1.cg (fun i => rfl) (fun i => rfl), oh.2⟩
    refine ⟨_, s_X10_isAtLeast (by omega) hn oh1.1 on1.1, fun r' N2 q => ?_⟩
    obtain ⟨rfl, r01', r1'⟩ := q
    refine ⟨r01', by omega, ?_⟩
    have g1 : ∀ x, 0 ≤ x → x ≤ h → AgL N (up (up N 12 (40 * n + h) r) 12 (40 * h + n) r') n x := fun x q1 q2 =>
      ⟨fun c i hc => by rw [up_c hc, up_c hc], fun a b a1 a2 b1 b2 hab => by rw [up_i (by omega), up_i (by omega)]⟩
    have g2 : ∀ x, 0 ≤ x → x ≤ h → AgL (up N 12 (40 * n + h) r) (up (up N 12 (40 * n + h) r) 12 (40 * h + n) r') n x := fun x q1 q2 =>
      ⟨fun c i hc => by rw [up_c hc], fun a b a1 a2 b1 b2 hab => by rw [up_i (by omega)]⟩
    refine ih (h + 1) (by omega) (by omega) (by omega) _ ⟨fun c i hc => by rw [up_c hc, up_c hc]; exact f1 c i hc, fun x y a1 a2 b1 b2 hab => ?_, fun x q1 q2 => ?_⟩
    · rw [up_i (by omega), up_i (by omega)]
      exact f2 x y a1 a2 b1 b2 (by omega)
    · by_cases hx : x = h
      · subst hx
        constructor
        · rw [al_cg1 hn (by omega) on oh (g1 x q1 (by omega))]
          by_cases hxn : x = n
          · subst hxn
            rw [up_s, r1', al_cg1 hn (by omega) on oh (⟨fun c i hc => by rw [up_c hc], fun a b a1 a2 b1 b2 hab => by rw [up_i (by omega)]⟩ : AgL N (up N 12 (40 * x + x) r) x x)]
          · rw [up_i (by omega), up_s]
            exact r1
        · rw [al_cg2 hn (by omega) on1 oh1 (g2 x q1 (by omega)), up_s]
          exact r1'
      · obtain ⟨z1, z2⟩ := f3 x q1 (by omega)
        have ox := hoN x (by omega) (by omega)
        rw [al_cg1 hn (by omega) on ox (g1 x q1 (by omega)), al_cg2 hn (by omega) on ox (g1 x q1 (by omega)), up_i (by omega), up_i (by omega), up_i (by omega), up_i (by omega)]
        exact ⟨z1, z2⟩
/-- N is M with game n laid: value and stops, comparisons, walls -/
def LyN (M N : Mem) (n : Int) : Prop := ∃ P A : Mem, LyB M P n ∧ AlI P A n (n + 1) ∧ (∀ x, 0 ≤ x → x ≤ n → (A 12 (40 * n + x) = 0 ∨ A 12 (40 * n + x) = 1) ∧ (A 12 (40 * x + n) = 0 ∨ A 12 (40 * x + n) = 1)) ∧ ∃ r, WlI A N n 7200 r
theorem s_X10_lays {g : Gs} {ad : Nat → Nat} {M : Mem} {n : Int} (hM : M 0 0 = n) (hn : 0 ≤ n ∧ n < 40) (ho : ∀ h, 0 ≤ h → h ≤ n → OpS M h) (hwb : WlB M n) (hS : M 1 n = 0 → roomE (loF M n) (upF M n) → ∃ v, Smp (betE (loF M n) (upF M n)) v) : SpI (wM g ad) yX10_lays cX10_lays 3 (some .int) 5 [.ref (ad 0)] (M) (fun r N => n = r ∧ LyN M N n) := by
  intro l9 hl9
  refine ct_of hl9 mi_X10_lays.2.2.2 (Nat.le_of_ble_eq_true rfl) (fun X _ C Y => ?_)
  show E (wM g ad) X 0 0 (M) 0 [(0, .ref (ad 0))] []
  refine e_wf (fun hw => ?_)
  obtain ⟨hb, hl⟩ := ho n (by omega) (by omega)
  refine ly_0 C Y hM hn (hw.2.1 2 n (by decide)) hb hl hS (fun P hP => ?_)
  have p3 : ∀ i, P 3 i = M 3 i := fun i => hP.2.1 3 i (by decide) (by decide) (by decide)
  have p4 : ∀ i, P 4 i = M 4 i := fun i => hP.2.1 4 i (by decide) (by decide) (by decide)
  have hoP : ∀ h, 0 ≤ h → h ≤ n → OpS P h := fun h q1 q2 => by
    obtain ⟨a, b⟩ := ho h q1 q2
    refine ⟨a.cg p3 p4, fun s s1 s2 i i1 i2 => ?_⟩
    rw [p3] at i2
    rw [p4]
    exact b s s1 s2 i i1 i2
  refine ly_176 C Y hn hoP (fun A hA => ?_) (n + 1).toNat 0 (by omega) (by omega) (by omega) P ⟨fun c i _ => rfl, fun x y _ _ _ _ _ => rfl, fun x q1 q2 => absurd q2 (by omega)⟩
  have a3 : ∀ i, A 3 i = M 3 i := fun i => (hA.1 3 i (by decide)).trans (p3 i)
  have a4 : ∀ i, A 4 i = M 4 i := fun i => (hA.1 4 i (by decide)).trans (p4 i)
  have a15 : ∀ i, A 15 i = M 15 i := fun i => (hA.1 15 i (by decide)).trans (hP.2.1 15 i (by decide) (by decide) (by decide))
  have hlA : OpL A n := fun s s1 s2 i i1 i2 => by rw [a3] at i2; rw [a4]; exact hl s s1 s2 i i1 i2
  have hwA : WlB A n := fun s s1 s2 i i1 i2 k k1 k2 => by
    rw [a3] at i2
    simp only [smpl, a4, a15]
    exact hwb s s1 s2 i i1 i2 k k1 k2
  refine e_wf (fun hw9 => ?_)
  refine B_X10_lays_176 (by omega) (by omega) (Nat.le_refl _) (Nat.le_refl _) C Y ⟨fun c => ⟨_, s_X10_laysWalls hn (hb.cg a3 a4) hlA hwA, fun N hN => ?_⟩, fun c => absurd c (by omega)⟩
  exact ⟨n, rfl, rfl, P, A, hP, hA, fun x _ _ => ⟨hw9.2.2 12 _ rfl, hw9.2.2 12 _ rfl⟩, hN⟩
