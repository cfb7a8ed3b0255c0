/-! ===== marking what a game comes to ===== -/
theorem cl_last {G : Mem} {H : Int → Prop} : ∀ (k : Nat) (z x : Int), Cl G H k z x → x = z ∨ ∃ y s i, Cl G H k z y ∧ H y ∧ 0 ≤ s ∧ s ≤ 1 ∧ 0 ≤ i ∧ i < G 3 (2 * y + s) ∧ opt G y s i = x := by
  intro k
  induction k with
  | zero => intro z x q; exact Or.inl q
  | succ k ih =>
    intro z x q
    rw [Cl] at q
    rcases q with q | ⟨h, s, i, s1, s2, i1, i2, q⟩
    · exact Or.inl q
    · right
      rcases ih _ x q with e | ⟨y, s', i', c, hy, a1, a2, a3, a4, a5⟩
      · exact ⟨z, s, i, by rw [Cl]; exact Or.inl rfl, h, s1, s2, i1, i2, e.symm⟩
      · exact ⟨y, s', i', by rw [Cl]; exact Or.inr ⟨h, s, i, s1, s2, i1, i2, c⟩, hy, a1, a2, a3, a4, a5⟩
theorem pt_last {G : Mem} {H : Int → Prop} {n z x : Int} (hG : Good n G) (hz : 0 ≤ z ∧ z < n) : Pt G H z x ↔ (x = z ∨ ∃ y s i, Pt G H z y ∧ H y ∧ 0 ≤ s ∧ s ≤ 1 ∧ 0 ≤ i ∧ i < G 3 (2 * y + s) ∧ opt G y s i = x) := by
  constructor
  · exact cl_last 6 z x
  · rintro (q | ⟨y, s, i, c, hy, s1, s2, i1, i2, rfl⟩)
    · exact (pt_eq hG hz).mpr (Or.inl q)
    · exact pt_tr hG hz c hy ⟨s1, s2⟩ ⟨i1, i2⟩
/-- the games above b have marked their options -/
def MrkP (M : Mem) (H : Int → Prop) (z b x : Int) : Prop := x = z ∨ ∃ y s i, b < y ∧ Pt M H z y ∧ H y ∧ 0 ≤ s ∧ s ≤ 1 ∧ 0 ≤ i ∧ i < M 3 (2 * y + s) ∧ opt M y s i = x
/-- game b marks: sides below s, options below k of side s -/
def MrkQ (M : Mem) (H : Int → Prop) (z b s k x : Int) : Prop := MrkP M H z b x ∨ (Pt M H z b ∧ H b ∧ ∃ s' i, 0 ≤ s' ∧ s' ≤ 1 ∧ 0 ≤ i ∧ i < M 3 (2 * b + s') ∧ (s' < s ∨ (s' = s ∧ i < k)) ∧ opt M b s' i = x)
def MrkI (M N : Mem) (P : Int → Prop) : Prop := (∀ c i, c ≠ 36 → N c i = M c i) ∧ ∀ x, 0 ≤ x → x < 40 → (N 36 x = 0 ∨ N 36 x = 1) ∧ (N 36 x = 1 ↔ P x)
theorem MrkI.cg {M N : Mem} {P Q : Int → Prop} (h : MrkI M N P) (e : ∀ x, P x ↔ Q x) : MrkI M N Q := ⟨h.1, fun x x1 x2 => ⟨(h.2 x x1 x2).1, (h.2 x x1 x2).2.trans (e x)⟩⟩
theorem mrk_self {M : Mem} {H : Int → Prop} {n z b : Int} (hG : Good n M) (hz : 0 ≤ z ∧ z < n) (hb : 0 ≤ b ∧ b ≤ z) : MrkP M H z b b ↔ Pt M H z b := by
  rw [pt_last hG hz]
  constructor
  · rintro (q | ⟨y, s, i, -, c⟩)
    · exact Or.inl q
    · exact Or.inr ⟨y, s, i, c⟩
  · rintro (q | ⟨y, s, i, c, hy, s1, s2, i1, i2, e⟩)
    · exact Or.inl q
    · have yr := pt_le hG 6 z y hz.1 hz.2 c
      have o := (opS_r (hG.2.2 y yr.1 (by omega)).1.1 ⟨s1, s2⟩).2.2 i i1 i2
      exact Or.inr ⟨y, s, i, by omega, c, hy, s1, s2, i1, i2, e⟩
theorem mrk_end {M : Mem} {H : Int → Prop} {n z x : Int} (hG : Good n M) (hz : 0 ≤ z ∧ z < n) : MrkP M H z (-1) x ↔ Pt M H z x := by
  rw [pt_last hG hz]
  constructor
  · rintro (q | ⟨y, s, i, -, c⟩)
    · exact Or.inl q
    · exact Or.inr ⟨y, s, i, c⟩
  · rintro (q | ⟨y, s, i, c, r⟩)
    · exact Or.inl q
    · have yr := pt_le hG 6 z y hz.1 hz.2 c
      exact Or.inr ⟨y, s, i, by omega, c, r⟩
theorem mrk_skip {M : Mem} {H : Int → Prop} {z b : Int} (h : ¬ (Pt M H z b ∧ H b)) (x : Int) : MrkP M H z b x ↔ MrkP M H z (b - 1) x := by
  constructor
  · rintro (q | ⟨y, s, i, y1, r⟩)
    · exact Or.inl q
    · exact Or.inr ⟨y, s, i, by omega, r⟩
  · rintro (q | ⟨y, s, i, y1, c, hy, r⟩)
    · exact Or.inl q
    · by_cases e : y = b
      · subst e; exact absurd ⟨c, hy⟩ h
      · exact Or.inr ⟨y, s, i, by omega, c, hy, r⟩
theorem mrk_0 {M : Mem} {H : Int → Prop} {z b : Int} (x : Int) : MrkQ M H z b 0 0 x ↔ MrkP M H z b x := ⟨fun q => q.elim id (fun ⟨_, _, s, i, s1, _, i1, _, q, _⟩ => by omega), Or.inl⟩
theorem mrk_2 {M : Mem} {H : Int → Prop} {z b : Int} (h1 : Pt M H z b) (h2 : H b) (x : Int) : MrkQ M H z b 2 0 x ↔ MrkP M H z (b - 1) x := by
  constructor
  · rintro ((q | ⟨y, s, i, y1, r⟩) | ⟨-, -, s, i, s1, s2, i1, i2, -, e⟩)
    · exact Or.inl q
    · exact Or.inr ⟨y, s, i, by omega, r⟩
    · exact Or.inr ⟨b, s, i, by omega, h1, h2, s1, s2, i1, i2, e⟩
  · rintro (q | ⟨y, s, i, y1, c, hy, s1, s2, i1, i2, e⟩)
    · exact Or.inl (Or.inl q)
    · by_cases w : y = b
      · subst w; exact Or.inr ⟨h1, h2, s, i, s1, s2, i1, i2, by omega, e⟩
      · exact Or.inl (Or.inr ⟨y, s, i, by omega, c, hy, s1, s2, i1, i2, e⟩)
theorem mrk_s {M : Mem} {H : Int → Prop} {z b s : Int} (hs : 0 ≤ s) (x : Int) : MrkQ M H z b s (M 3 (2 * b + s)) x ↔ MrkQ M H z b (s + 1) 0 x := by
  unfold MrkQ
  constructor
  · rintro (q | ⟨a, h, s', i, s1, s2, i1, i2, r, e⟩)
    · exact Or.inl q
    · exact Or.inr ⟨a, h, s', i, s1, s2, i1, i2, by omega, e⟩
  · rintro (q | ⟨a, h, s', i, s1, s2, i1, i2, r, e⟩)
    · exact Or.inl q
    · refine Or.inr ⟨a, h, s', i, s1, s2, i1, i2, ?_, e⟩
      by_cases w : s' = s
      · subst w; exact Or.inr ⟨rfl, i2⟩
      · exact Or.inl (by omega)
theorem mrk_k {M N : Mem} {H : Int → Prop} {z b s k : Int} (hs : 0 ≤ s ∧ s ≤ 1) (hk : 0 ≤ k ∧ k < M 3 (2 * b + s)) (h1 : Pt M H z b) (h2 : H b) (h : MrkI M N (MrkQ M H z b s k)) : MrkI M (up N 36 (opt M b s k) 1) (MrkQ M H z b s (k + 1)) := by
  refine ⟨fun c i hc => by rw [up_c hc]; exact h.1 c i hc, fun x x1 x2 => ?_⟩
  have hx := h.2 x x1 x2
  have key : MrkQ M H z b s (k + 1) x ↔ (MrkQ M H z b s k x ∨ x = opt M b s k) := by
    unfold MrkQ
    constructor
    · rintro (q | ⟨a, hh, s', i, s1, s2, i1, i2, r, e⟩)
      · exact Or.inl (Or.inl q)
      · by_cases w : s' = s ∧ i = k
        · obtain ⟨rfl, rfl⟩ := w; exact Or.inr e.symm
        · exact Or.inl (Or.inr ⟨a, hh, s', i, s1, s2, i1, i2, by omega, e⟩)
    · rintro ((q | ⟨a, hh, s', i, s1, s2, i1, i2, r, e⟩) | q)
      · exact Or.inl q
      · exact Or.inr ⟨a, hh, s', i, s1, s2, i1, i2, by omega, e⟩
      · exact Or.inr ⟨h1, h2, s, k, hs.1, hs.2, hk.1, hk.2, by omega, q.symm⟩
  by_cases e : x = opt M b s k
  · rw [e, up_s]
    exact ⟨Or.inr rfl, fun _ => by rw [← e]; exact key.mpr (Or.inr e), fun _ => rfl⟩
  · rw [up_i e, key]
    exact ⟨hx.1, hx.2.trans ⟨Or.inl, fun q => q.elim id (fun q => absurd q e)⟩⟩
/-! in negative -/
theorem ng_84 {g : Gs} {ad : Nat → Nat} {X : Cx} {PQ : Option Value → Mem → Prop} {PX : String → Mem → Prop} (C : OkB (wM g ad) X cX10_negative RX10 6 8 0 0) (Y : OkR (wM g ad) X (some .int) 0 0 PQ PX) {M : Mem} {n z v b s : Int} (hG : Good n M) (hz : 0 ≤ z ∧ z < n) (hv : R32 v) (hb : 0 ≤ b ∧ b ≤ z) (hs : s = 0 ∨ s = 1) (h1 : Pt M AllG z b) (kk : ∀ N, MrkI M N (MrkQ M AllG z b (s + 1) 0) → E (wM g ad) X 0 0 (N) 66 [(0, .ref (ad 0)), (1, vI (z)), (2, vI (v)), (3, vI (b)), (4, vI (s + 1))] []) : ∀ (m : Nat) (k : Int), 0 ≤ k → k + m = M 3 (2 * b + s) → ∀ N, MrkI M N (MrkQ M AllG z b s k) → E (wM g ad) X 0 0 (N) 84 [(0, .ref (ad 0)), (1, vI (z)), (2, vI (v)), (3, vI (b)), (4, vI (s)), (5, vI (k))] [] := by
  have h40 := hG.2.1
  have hb' := opS_r (hG.2.2 b hb.1 (by omega)).1.1 (s := s) (by omega)
  intro m
  induction m with
  | zero =>
    intro k k1 k2 N q
    have e3 := q.1 3 (2 * b + s) (by decide)
    have : k = M 3 (2 * b + s) := by omega
    subst this
    exact B_X10_negative_84 (by omega) (by omega) (by omega) (by omega) (by omega) (Nat.zero_le _) (Nat.zero_le _) C Y ⟨by omega, fun c => ⟨by omega, kk N (q.cg (mrk_s (by omega)))⟩, fun c => absurd c (by omega)⟩
  | succ m ih =>
    intro k k1 k2 N q
    have e3 := q.1 3 (2 * b + s) (by decide)
    have e4 : N 4 (8 * b + 4 * s + k) = opt M b s k := q.1 4 _ (by decide)
    have o := hb'.2.2 k k1 (by omega)
    refine B_X10_negative_84 (by omega) (by omega) (by omega) (by omega) (by omega) (Nat.zero_le _) (Nat.zero_le _) C Y ⟨by omega, fun c => absurd c (by omega), fun c => ⟨⟨by omega, by rw [e4]; omega, by omega⟩, ?_⟩⟩
    rw [e4]
    exact ih (k + 1) (by omega) (by omega) _ (mrk_k (by omega) ⟨k1, by omega⟩ h1 trivial q)
theorem ng_59 {g : Gs} {ad : Nat → Nat} {X : Cx} {PQ : Option Value → Mem → Prop} {PX : String → Mem → Prop} (C : OkB (wM g ad) X cX10_negative RX10 6 8 0 0) (Y : OkR (wM g ad) X (some .int) 0 0 PQ PX) {M : Mem} {n z v : Int} (hG : Good n M) (hz : 0 ≤ z ∧ z < n) (hv : R32 v) (kk : ∀ N, MrkI M N (Pt M AllG z) → E (wM g ad) X 0 0 (N) 134 [(0, .ref (ad 0)), (1, vI (z)), (2, vI (v)), (3, vI (0)), (4, vI (0))] []) : ∀ (m : Nat) (b : Int), b ≤ z → b + 1 = m → ∀ N, MrkI M N (MrkP M AllG z b) → E (wM g ad) X 0 0 (N) 59 [(0, .ref (ad 0)), (1, vI (z)), (2, vI (v)), (3, vI (b))] [] := by
  have h40 := hG.2.1
  intro m
  induction m with
  | zero =>
    intro b b1 b2 N q
    have : b = -1 := by omega
    subst this
    exact B_X10_negative_59 (by omega) (by omega) (by omega) (Nat.zero_le _) (Nat.zero_le _) C Y ⟨fun c => kk N (q.cg (fun x => mrk_end hG hz)), fun c => absurd c (by omega)⟩
  | succ m ih =>
    intro b b1 b2 N q
    have hb : 0 ≤ b ∧ b ≤ z := by omega
    have q36 := q.2 b hb.1 (by omega)
    refine B_X10_negative_59 (by omega) (by omega) (by omega) (Nat.zero_le _) (Nat.zero_le _) C Y ⟨fun c => absurd c (by omega), fun c => ?_⟩
    by_cases hp : Pt M AllG z b
    · have m1 : N 36 b = 1 := q36.2.mpr ((mrk_self hG hz hb).mpr hp)
      have nx : ∀ N, MrkI M N (MrkQ M AllG z b 2 0) → E (wM g ad) X 0 0 (N) 66 [(0, .ref (ad 0)), (1, vI (z)), (2, vI (v)), (3, vI (b)), (4, vI (2))] [] := fun N h => B_X10_negative_66 (by omega) (by omega) (by omega) (by omega) (Nat.zero_le _) (Nat.zero_le _) C Y ⟨fun _ => ⟨by omega, ih (b + -1) (by omega) (by omega) N (h.cg (fun x => by rw [show b + -1 = b - 1 by omega]; exact mrk_2 hp trivial x))⟩, fun c => absurd c (by decide)⟩
      have o0 := (opS_r (hG.2.2 b hb.1 (by omega)).1.1 (s := 0) (by omega)).1
      have o1 := (opS_r (hG.2.2 b hb.1 (by omega)).1.1 (s := 1) (by omega)).1
      refine B_X10_negative_66 (by omega) (by omega) (by omega) (by omega) (Nat.zero_le _) (Nat.zero_le _) C Y ⟨fun c => absurd c (by decide), fun _ => ⟨by omega, fun w => absurd w (by omega), fun _ => ?_⟩⟩
      refine ng_84 C Y hG hz hv hb (s := 0) (Or.inl rfl) hp (fun N1 q1 => ?_) (M 3 (2 * b + 0)).toNat 0 (by omega) (by omega) N (q.cg (fun x => (mrk_0 x).symm))
      have m2 : N1 36 b = 1 := (q1.2 b hb.1 (by omega)).2.mpr (Or.inl ((mrk_self hG hz hb).mpr hp))
      refine B_X10_negative_66 (by omega) (by omega) (by omega) (by omega) (Nat.zero_le _) (Nat.zero_le _) C Y ⟨fun c => absurd c (by decide), fun _ => ⟨by omega, fun w => absurd w (by omega), fun _ => ?_⟩⟩
      exact ng_84 C Y hG hz hv hb (s := 1) (Or.inr rfl) hp (fun N2 q2 => nx N2 q2) (M 3 (2 * b + 1)).toNat 0 (by omega) (by omega) N1 q1
    · have m0 : N 36 b = 0 := by
        rcases q36.1 with w | w
        · exact w
        · exact absurd ((mrk_self hG hz hb).mp (q36.2.mp w)) hp
      refine B_X10_negative_66 (by omega) (by omega) (by omega) (by omega) (Nat.zero_le _) (Nat.zero_le _) C Y ⟨fun c => absurd c (by decide), fun _ => ⟨by omega, fun _ => ⟨by omega, ?_⟩, fun w => absurd m0 w⟩⟩
      exact ih (b + -1) (by omega) (by omega) N (q.cg (fun x => by rw [show b + -1 = b - 1 by omega]; exact mrk_skip (fun w => hp w.1) x))
theorem ng_29 {g : Gs} {ad : Nat → Nat} {X : Cx} {PQ : Option Value → Mem → Prop} {PX : String → Mem → Prop} (C : OkB (wM g ad) X cX10_negative RX10 6 8 0 0) (Y : OkR (wM g ad) X (some .int) 0 0 PQ PX) {M : Mem} {z v : Int} (hz : 0 ≤ z ∧ z < 40) (hv : R32 v) (kk : ∀ N, MrkI M N (fun x => x = z) → E (wM g ad) X 0 0 (N) 59 [(0, .ref (ad 0)), (1, vI (z)), (2, vI (v)), (3, vI (z))] []) : ∀ (m : Nat) (j : Int), 0 ≤ j → j + m = 40 → ∀ N, (∀ c i, c ≠ 36 → N c i = M c i) → (∀ x, 0 ≤ x → x < j → (N 36 x = 0 ∨ N 36 x = 1) ∧ (N 36 x = 1 ↔ x = z)) → E (wM g ad) X 0 0 (N) 29 [(0, .ref (ad 0)), (1, vI (z)), (2, vI (v)), (3, vI (j))] [] := by
  intro m
  induction m with
  | zero =>
    intro j j1 j2 N f h
    exact B_X10_negative_29 (by omega) (by omega) (by omega) (Nat.zero_le _) (Nat.zero_le _) C Y ⟨fun c => kk N ⟨f, fun x x1 x2 => h x x1 (by omega)⟩, fun c => absurd c (by omega)⟩
  | succ m ih =>
    intro j j1 j2 N f h
    refine B_X10_negative_29 (by omega) (by omega) (by omega) (Nat.zero_le _) (Nat.zero_le _) C Y ⟨fun c => absurd c (by omega), fun c => ⟨fun c1 => ⟨by omega, ?_⟩, fun c1 => ⟨by omega, ?_⟩⟩⟩
    · refine ih (j + 1) (by omega) (by omega) _ (fun c i q => by rw [up_c q]; exact f c i q) (fun x x1 x2 => ?_)
      by_cases e : x = j
      · subst e; rw [up_s]; exact ⟨Or.inl rfl, fun q => absurd q (by decide), fun q => absurd q c1⟩
      · rw [up_i e]; exact h x x1 (by omega)
    · refine ih (j + 1) (by omega) (by omega) _ (fun c i q => by rw [up_c q]; exact f c i q) (fun x x1 x2 => ?_)
      by_cases e : x = j
      · subst e; rw [up_s]; exact ⟨Or.inr rfl, fun _ => c1, fun _ => rfl⟩
      · rw [up_i e]; exact h x x1 (by omega)
