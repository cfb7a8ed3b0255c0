/-! ===== the reference: negative ===== -/
theorem cn_le {f : Int → Int} : ∀ (c : Nat) (p : Nat → Bool), (∀ x : Nat, x < 40 → p x = true → ∃ i, 0 ≤ i ∧ i < (c : Int) ∧ f i = x) → cnB p 40 ≤ c := by
  intro c
  induction c with
  | zero =>
    intro p h
    rw [cnB_cg (q := fun _ => false) 40 (fun x hx => ?_), cnB_0]
    · exact Nat.le_refl _
    · cases e : p x with
      | false => rfl
      | true => obtain ⟨i, i1, i2, -⟩ := h x hx e; omega
  | succ c ih =>
    intro p h
    have i1 := ih (fun x => p x && decide ((x : Int) ≠ f c)) (fun x hx q => by
      simp only [Bool.and_eq_true, decide_eq_true_eq] at q
      obtain ⟨i, i1, i2, i3⟩ := h x hx q.1
      refine ⟨i, i1, ?_, i3⟩
      rcases Classical.em (i = c) with w | w
      · subst w; exact absurd i3.symm q.2
      · omega)
    by_cases hy : ∃ y : Nat, f c = y ∧ p y = true
    · obtain ⟨y, e, py⟩ := hy
      have := cnB_add (p := fun x => p x && decide ((x : Int) ≠ f c)) (q := p) (y := y) (by simp [e]) (fun x => by
        by_cases q : x = y
        · subst q; simp [py]
        · have : (x : Int) ≠ f c := by rw [e]; omega
          simp [q, this]) 40
      rw [this]
      split <;> omega
    · have := cnB_cg (p := p) (q := fun x => p x && decide ((x : Int) ≠ f c)) 40 (fun x hx => by
        by_cases q : (x : Int) = f c
        · cases e : p x with
          | false => simp
          | true => exact absurd ⟨x, q.symm, e⟩ hy
        · simp [q])
      omega
theorem srt_le_n {T : Mem} {t : Int} {k : Nat} {f : Int → Int} (h : Srt T t) (hr : ∀ x, InR T t x → 0 ≤ x ∧ x < 40) (hi : ∀ x, InR T t x → ∃ i, 0 ≤ i ∧ i < (k : Int) ∧ f i = x) : T 30 t ≤ k := by
  classical
  have a1 := dst_cn (f := fun i => T 31 (4 * t + i)) (T 30 t).toNat (fun x => decide (InR T t x)) (fun i j i1 i2 i3 => by have := h.2 i j i1 i2 (by have := h.1; omega); exact fun q => by have q' : T 31 (4 * t + i) = T 31 (4 * t + j) := q; omega) (fun i i1 i2 => hr _ ⟨i, i1, by have := h.1; omega, rfl⟩) (fun x hx => by
    rw [decide_eq_true_iff]
    have := h.1
    exact ⟨fun ⟨i, i1, i2, i3⟩ => ⟨i, i1, by omega, i3⟩, fun ⟨i, i1, i2, i3⟩ => ⟨i, i1, by omega, i3⟩⟩)
  have a2 := cn_le (f := f) k (fun x => decide (InR T t x)) (fun x hx q => hi x (by simpa using q))
  have := h.1
  omega
/-- some word holds a list of games -/
theorem ex_word {f : Int → Int} {n : Int} (hn : n ≤ 40) : ∀ k : Nat, (∀ i, 0 ≤ i → i < (k : Int) → 0 ≤ f i ∧ f i < n) → ∃ w, Wd40 w n ∧ ∀ x, 0 ≤ x → x < 40 → (tb w x = true ↔ ∃ i, 0 ≤ i ∧ i < (k : Int) ∧ f i = x) := by
  intro k
  induction k with
  | zero => intro _; exact ⟨0, ⟨by decide, fun x x1 x2 q => by rw [tb_0 ⟨x1, x2⟩] at q; exact absurd q (by decide)⟩, fun x x1 x2 => by rw [tb_0 (by omega)]; exact ⟨fun q => absurd q (by decide), fun ⟨i, i1, i2, _⟩ => by omega⟩⟩
  | succ k ih =>
    intro h
    obtain ⟨w, h1, h2⟩ := ih (fun i i1 i2 => h i i1 (by omega))
    have hk := h k (by omega) (by omega)
    refine ⟨lorL w (lshlL 1 (f k)), wd_or h1 hk hn, fun x x1 x2 => ?_⟩
    rw [tb_or, Bool.or_eq_true, tb_bit (by omega) (by omega), decide_eq_true_eq, h2 x x1 x2]
    constructor
    · rintro (⟨i, i1, i2, i3⟩ | e)
      · exact ⟨i, i1, by omega, i3⟩
      · exact ⟨k, by omega, by omega, e.symm⟩
    · rintro ⟨i, i1, i2, i3⟩
      by_cases e : i = (k : Int)
      · subst e; exact Or.inr i3.symm
      · exact Or.inl ⟨i, i1, by omega, i3⟩
/-- rows are built and games made; the rest stays -/
def FrW (S T : Mem) : Prop := ∀ c i, 15 < c → (c < 29 ∨ 35 < c) → T c i = S c i
theorem mnp_fw {M N : Mem} {n e z : Int} (h : MnP M n e z N) : FrW M N := by
  rcases h with ⟨-, -, rfl, -⟩ | ⟨-, rfl, -⟩ | ⟨-, -, -, m⟩
  · exact fun _ _ _ _ => rfl
  · exact fun _ _ _ _ => rfl
  · exact fun c i h1 h2 => m.2.2.2.2.2 c i h1 (by omega)
theorem mdp_fw {M N : Mem} {n z : Int} (h : MdP M n z N) : FrW M N := by
  rcases h with ⟨-, rfl, -⟩ | ⟨-, -, rfl, -⟩ | ⟨-, -, -, -, d, -, -, m⟩
  · exact fun _ _ _ _ => rfl
  · exact fun _ _ _ _ => rfl
  · exact fun c i h1 h2 => m.2.2.2.2.2.2 c i h1 (by omega)
def orR (S : Mem) (y s k x : Int) : Prop := ∃ i, 0 ≤ i ∧ i < k ∧ S 37 (opt S y s i) = x
def OpI2 (S T : Mem) (y k0 k1 : Int) : Prop := (∀ c i, c ≠ 29 → c ≠ 30 → c ≠ 31 → T c i = S c i) ∧ T 29 0 = 0 ∧ Srt T 0 ∧ Srt T 1 ∧ (∀ x, InR T 1 x ↔ orR S y 0 k0 x) ∧ ∀ x, InR T 0 x ↔ orR S y 1 k1 x
theorem orR_s {S : Mem} {y s k x : Int} (hk : 0 ≤ k) : orR S y s (k + 1) x ↔ (orR S y s k x ∨ x = S 37 (opt S y s k)) := by
  constructor
  · rintro ⟨i, i1, i2, i3⟩
    by_cases e : i = k
    · subst e; exact Or.inr i3.symm
    · exact Or.inl ⟨i, i1, by omega, i3⟩
  · rintro (⟨i, i1, i2, i3⟩ | e)
    · exact ⟨i, i1, by omega, i3⟩
    · exact ⟨k, hk, by omega, e.symm⟩
theorem mo_38 {g : Gs} {ad : Nat → Nat} {X : Cx} {PQ : Option Value → Mem → Prop} {PX : String → Mem → Prop} (C : OkB (wM g ad) X cX10_opposite RX10 4 7 0 0) (Y : OkR (wM g ad) X (some .int) 0 0 PQ PX) {S : Mem} {n y s : Int} (hG : Good n S) (hy : 0 ≤ y ∧ y < n) (hs : s = 0 ∨ s = 1) (ho : ∀ s i, 0 ≤ s → s ≤ 1 → 0 ≤ i → i < S 3 (2 * y + s) → 0 ≤ S 37 (opt S y s i) ∧ S 37 (opt S y s i) < n) (kk : ∀ T, OpI2 S T y (S 3 (2 * y + 0)) (if s = 0 then 0 else S 3 (2 * y + 1)) → E (wM g ad) X 0 0 (T) 31 [(0, .ref (ad 0)), (1, vI (y)), (2, vI (s + 1))] []) : ∀ (m k : Nat), (k : Int) + m = S 3 (2 * y + s) → ∀ T, OpI2 S T y (if s = 0 then (k : Int) else S 3 (2 * y + 0)) (if s = 0 then 0 else (k : Int)) → E (wM g ad) X 0 0 (T) 38 [(0, .ref (ad 0)), (1, vI (y)), (2, vI (s)), (3, vI (k))] [] := by
  have h40 := hG.2.1
  have ob := opS_r (hG.2.2 y hy.1 hy.2).1.1 (s := s) (by omega)
  intro m
  induction m with
  | zero =>
    intro k hk T hT
    have e3 := hT.1 3 (2 * y + s) (by decide) (by decide) (by decide)
    refine B_X10_opposite_38 (by omega) (by omega) (by omega) (Nat.zero_le _) (Nat.zero_le _) C Y ⟨by omega, fun c => ⟨by omega, kk T ?_⟩, fun c => absurd c (by omega)⟩
    rcases hs with rfl | rfl
    · simp only [if_true] at hT ⊢
      rw [show S 3 (2 * y + 0) = k by omega]; exact hT
    · simp only [if_false, (show ¬ ((1 : Int) = 0) by decide)] at hT ⊢
      rw [show S 3 (2 * y + 1) = k by omega]; exact hT
  | succ m ih =>
    intro k hk T hT
    obtain ⟨t1, t2, t3, t4, t5, t6⟩ := hT
    have e3 := t1 3 (2 * y + s) (by decide) (by decide) (by decide)
    have e4 : T 4 (8 * y + 4 * s + k) = opt S y s k := t1 4 _ (by decide) (by decide) (by decide)
    have o := ob.2.2 k (by omega) (by omega)
    have e37 : T 37 (opt S y s k) = S 37 (opt S y s k) := t1 37 _ (by decide) (by decide) (by decide)
    have rg := ho s k (by omega) (by omega) (by omega) (by omega)
    have hsr : Srt T (1 - s) := by rcases hs with rfl | rfl; exact t4; exact t3
    have hin : ∀ x, InR T (1 - s) x ↔ orR S y s k x := by
      rcases hs with rfl | rfl
      · simpa using t5
      · simpa using t6
    have cnt : T 30 (1 - s) ≤ k := srt_le_n (f := fun i => S 37 (opt S y s i)) hsr (fun x q => by
      obtain ⟨i, i1, i2, i3⟩ := (hin x).mp q
      have := ho s i (by omega) (by omega) i1 (by omega)
      omega) (fun x q => (hin x).mp q)
    refine B_X10_opposite_38 (by omega) (by omega) (by omega) (Nat.zero_le _) (Nat.zero_le _) C Y ⟨by omega, fun c => absurd c (by omega), fun c => ⟨⟨by omega, by omega, by rw [e4]; omega⟩, ?_⟩⟩
    rw [e4, e37]
    refine ⟨_, g_takes (by omega) (by omega) hsr, fun N hN => ⟨by omega, ih (k + 1) (by omega) N ?_⟩⟩
    obtain ⟨q1, q2, q3, q4, q5⟩ := tk_in (s := 1 - s) (by omega) hN (by omega) t2 t3 t4
    refine ⟨fun c i h1 h2 h3 => (hN.1 c i h1 h2 h3).trans (t1 c i h1 h2 h3), q1, q2, q3, fun x => ?_, fun x => ?_⟩
    · rcases hs with rfl | rfl
      · simp only [if_true] at t5 ⊢
        rw [show ((k + 1 : Nat) : Int) = (k : Int) + 1 from rfl, orR_s (by omega), ← t5]
        exact q4 x
      · simp only [if_false, (show ¬ ((1 : Int) = 0) by decide)] at t5 ⊢
        rw [← t5]; exact q5 x
    · rcases hs with rfl | rfl
      · simp only [if_true] at t6 ⊢
        rw [← t6]; exact q5 x
      · simp only [if_false, (show ¬ ((1 : Int) = 0) by decide)] at t6 ⊢
        rw [show ((k + 1 : Nat) : Int) = (k : Int) + 1 from rfl, orR_s (by omega), ← t6]
        exact q4 x
theorem m_opposite {g : Gs} {ad : Nat → Nat} {S : Mem} {n y : Int} (hG : Good n S) (hn0 : S 0 0 = n) (hy : 0 ≤ y ∧ y < n) (ho : ∀ s i, 0 ≤ s → s ≤ 1 → 0 ≤ i → i < S 3 (2 * y + s) → 0 ≤ S 37 (opt S y s i) ∧ S 37 (opt S y s i) < n) : SpI (wM g ad) yX10_opposite cX10_opposite 4 (some .int) 7 [.ref (ad 0), vI (y)] (S) (fun r N => (-1 ≤ r ∧ r < 40) ∧ NgS S (fun x => S 37 x) y r N ∧ FrW S N) := by
  have h40 := hG.2.1
  have hn1 := hG.1
  intro l9 hl9
  refine ct_of hl9 mi_X10_opposite.2.2.2 (Nat.le_of_ble_eq_true rfl) (fun X _ C Y => ?_)
  show E (wM g ad) X 0 0 (S) 0 [(0, .ref (ad 0)), (1, vI (y))] []
  refine e_wf (fun hw => ?_)
  refine B_X10_opposite_0 (by omega) (Nat.zero_le _) (Nat.zero_le _) C Y ⟨by omega, fun c => ⟨_, g_begins, fun T hT => ?_⟩, fun c => ?_⟩
  · obtain ⟨b1, b2, b3, b4⟩ := hT
    have srt0 : ∀ s, T 30 s = 0 → Srt T s := fun s q => ⟨by omega, fun i j i1 i2 i3 => by omega⟩
    have o0 := (opS_r (hG.2.2 y hy.1 hy.2).1.1 (s := 0) (by omega)).1
    have o1 := (opS_r (hG.2.2 y hy.1 hy.2).1.1 (s := 1) (by omega)).1
    refine B_X10_opposite_31 (by omega) (by omega) (Nat.zero_le _) (Nat.zero_le _) C Y ⟨fun c => absurd c (by decide), fun _ => ?_⟩
    refine mo_38 C Y hG hy (s := 0) (Or.inl rfl) ho (fun T1 h1 => ?_) (S 3 (2 * y + 0)).toNat 0 (by omega) T ⟨fun c i q1 q2 q3 => b1 c i q1 q2, b2, srt0 0 b3, srt0 1 b4, fun x => ⟨fun ⟨i, i1, i2, _⟩ => by omega, fun ⟨i, i1, i2, _⟩ => by simp at i2; omega⟩, fun x => ⟨fun ⟨i, i1, i2, _⟩ => by omega, fun ⟨i, i1, i2, _⟩ => by simp at i2; omega⟩⟩
    refine B_X10_opposite_31 (by omega) (by omega) (Nat.zero_le _) (Nat.zero_le _) C Y ⟨fun c => absurd c (by decide), fun _ => ?_⟩
    refine mo_38 C Y hG hy (s := 1) (Or.inr rfl) ho (fun T2 h2 => ?_) (S 3 (2 * y + 1)).toNat 0 (by omega) T1 (by simpa using h1)
    have h2 : OpI2 S T2 y (S 3 (2 * y + 0)) (S 3 (2 * y + 1)) := by simpa using h2
    obtain ⟨t1, t2, t3, t4, t5, t6⟩ := h2
    have ag : Ag S T2 n := Ag.of _ (fun c i c1 c2 => t1 c i (by omega) (by omega) (by omega))
    have ok : NwOk T2 n := by
      refine ⟨hG.cg ag, (t1 0 0 (by decide) (by decide) (by decide)).trans hn0, t3, t4, fun s s1 s2 i i1 i2 => ?_⟩
      rcases (show s = 0 ∨ s = 1 by omega) with rfl | rfl
      · obtain ⟨j, j1, j2, j3⟩ := (t6 _).mp ⟨i, i1, i2, rfl⟩
        rw [← j3]; exact ho 1 j (by omega) (by omega) j1 j2
      · obtain ⟨j, j1, j2, j3⟩ := (t5 _).mp ⟨i, i1, i2, rfl⟩
        rw [← j3]; exact ho 0 j (by omega) (by omega) j1 j2
    obtain ⟨l, l1, l2⟩ := ex_word (f := fun i => S 37 (opt S y 1 i)) h40 (S 3 (2 * y + 1)).toNat (fun i i1 i2 => ho 1 i (by omega) (by omega) i1 (by omega))
    obtain ⟨q, q1, q2⟩ := ex_word (f := fun i => S 37 (opt S y 0 i)) h40 (S 3 (2 * y + 0)).toNat (fun i i1 i2 => ho 0 i (by omega) (by omega) i1 (by omega))
    have el : ((S 3 (2 * y + 1)).toNat : Int) = S 3 (2 * y + 1) := by omega
    have eq : ((S 3 (2 * y + 0)).toNat : Int) = S 3 (2 * y + 0) := by omega
    rw [el] at l2
    rw [eq] at q2
    refine B_X10_opposite_31 (by omega) (by omega) (Nat.zero_le _) (Nat.zero_le _) C Y ⟨fun _ => ⟨_, g_made ok, fun r N hN => ?_⟩, fun c => absurd c (by decide)⟩
    have zr := mdp_r ⟨hn1, h40⟩ hN
    have w1 := mdp_W (l := l) (r := q) ok l1 q1 (fun w => absurd t2 w) (fun _ => ⟨rwN_of (by omega) ok (fun x x1 x2 => by rw [t6 x]; exact (l2 x x1 x2).symm), rwN_of (by omega) ok (fun x x1 x2 => by rw [t5 x]; exact (q2 x x1 x2).symm)⟩) hN
    have w2 := cmp_cg ag l1 q1 w1
    have f0 : FrW S T2 := fun c i h1 h2 => t1 c i (by omega) (by omega) (by omega)
    refine ⟨by omega, _, rfl, zr, Or.inr ⟨c, l, q, ⟨by rw [hn0]; exact l1, l2⟩, ⟨by rw [hn0]; exact q1, q2⟩, by rw [hn0]; exact w2⟩, fun c i h1 h2 => (mdp_fw hN c i h1 h2).trans (f0 c i h1 h2)⟩
  · obtain ⟨-, -, -, x, x1, x2, x3⟩ := (hG.2.2 y hy.1 hy.2).1.2.2.2.1 c
    have e : Int.tdiv (-(S 2 y)) 128 = -(S 2 y / 128) := by
      rw [x3, show -(128 * x) = 128 * (-x) by omega, Int.mul_tdiv_cancel_left _ (by decide)]; omega
    refine ⟨by omega, ?_⟩
    rw [e]
    refine ⟨_, g_madeNumber hn0 hG (by omega), fun r N hN => ?_⟩
    have zr := mnp_r ⟨hn1, h40⟩ hN
    exact ⟨by omega, _, rfl, zr, Or.inl ⟨c, by rw [hn0]; exact mnp_W hn0 hN⟩, mnp_fw hN⟩
theorem mg_134 {g : Gs} {ad : Nat → Nat} {X : Cx} {PQ : Option Value → Mem → Prop} {PX : String → Mem → Prop} (C : OkB (wM g ad) X cX10_negative RX10 6 8 0 0) (Y : OkR (wM g ad) X (some .int) 0 0 PQ PX) {M : Mem} {z : Int} (hM : Good (M 0 0) M) (hz : 0 ≤ z ∧ z < M 0 0) (h18 : 0 ≤ M 18 0 ∧ M 18 0 ≤ 6) (kk : ∀ v S r N, NgR M z v S → FrR M S → EndR S (M 0 0) v 2 (N 20 0) r N → PQ (some (vI r)) N) : ∀ (m k : Nat) (r0 : Int), (k : Int) + m = z + 1 → ∀ S, NgC M z k S (fun x => S 37 x) → FrR M S → (∀ x, 0 ≤ x → x < 40 → (S 36 x = 0 ∨ S 36 x = 1) ∧ (S 36 x = 1 ↔ Pt M AllG z x)) → (-1 ≤ r0 ∧ r0 < 40) → r0 ≠ -1 → (m = 0 → r0 = S 37 z) → E (wM g ad) X 0 0 (S) 134 [(0, .ref (ad 0)), (1, vI (z)), (2, vI (M 0 0)), (3, vI (r0)), (4, vI (k))] [] := by
  have h40 := hM.2.1
  have hn1 := hM.1
  have pz : Pt M AllG z z := (pt_eq hM hz).mpr (Or.inl rfl)
  intro m
  induction m with
  | zero =>
    intro k r0 hk S c f hp hr hr0 he
    have e18 : S 18 0 = M 18 0 := f 18 0 (by decide) (by decide)
    refine B_X10_negative_134 (by omega) (by omega) (by omega) (by omega) (Nat.zero_le _) (Nat.zero_le _) C Y ⟨fun _ => ⟨_, m_ends (by omega) (by omega) (by decide) (by omega), fun r N hN => ⟨hN.2, kk r0 S r N (Or.inl ⟨hr0, _, by rw [show z.toNat + 1 = k by omega]; exact c, he rfl⟩) f hN.1⟩⟩, fun q => absurd q (by omega)⟩
  | succ m ih =>
    intro k r0 hk S c f hp hr hr0 he
    have ok := ngC_ok hM hz k S _ (by omega) c
    have hkz : (k : Int) ≤ z := by omega
    have pk := hp k (by omega) (by omega)
    refine B_X10_negative_134 (by omega) (by omega) (by omega) (by omega) (Nat.zero_le _) (Nat.zero_le _) C Y ⟨fun q => absurd q (by omega), fun _ => ⟨fun q => absurd q hr0, fun _ => ⟨by omega, fun c1 => ⟨by omega, ?_⟩, fun c1 => ?_⟩⟩⟩
    · have np : ¬ Pt M AllG z k := fun q => by have := pk.2.mpr q; omega
      refine ih (k + 1) r0 (by omega) S (Or.inl ⟨np, c⟩) f hp hr hr0 (fun m0 => ?_)
      exfalso
      apply np
      rw [show (k : Int) = z by omega]; exact pz
    · have hpk : Pt M AllG z k := pk.2.mp (by omega)
      have od : ∀ s i, 0 ≤ s → s ≤ 1 → 0 ≤ i → i < S 3 (2 * (k : Int) + s) → 0 ≤ S 37 (opt S k s i) ∧ S 37 (opt S k s i) < S 0 0 := by
        intro s i s1 s2 i1 i2
        have e3 : S 3 (2 * (k : Int) + s) = M 3 (2 * k + s) := ok.2.2.1.ct ⟨by omega, by omega⟩ ⟨s1, s2⟩
        have e4 : opt S k s i = opt M k s i := ok.2.2.1.op ⟨by omega, by omega⟩ ⟨s1, s2⟩ ⟨i1, by omega⟩
        have o := (opS_r (hM.2.2 k (by omega) (by omega)).1.1 ⟨s1, s2⟩).2.2 i i1 (by omega)
        rw [e4]
        exact ok.2.2.2 _ o.1 (by omega) (pt_tr hM hz hpk trivial ⟨s1, s2⟩ ⟨i1, by omega⟩)
      refine ⟨_, m_opposite ok.1 rfl (y := k) ⟨by omega, by omega⟩ od, fun r N hN => ?_⟩
      obtain ⟨rr, hs, hf⟩ := hN
      have fN : FrR M (up N 37 k r) := fun c i h1 h2 => by rw [up_c (by omega), hf c i h1 (by omega)]; exact f c i h1 h2
      have hp2 : ∀ x, 0 ≤ x → x < 40 → (up N 37 (k : Int) r 36 x = 0 ∨ up N 37 (k : Int) r 36 x = 1) ∧ (up N 37 (k : Int) r 36 x = 1 ↔ Pt M AllG z x) := fun x x1 x2 => by rw [up_c (by decide), hf 36 x (by decide) (by decide)]; exact hp x x1 x2
      have nsto : ∀ {o v}, NgS S o k v N → NgS S o k v (up N 37 k r) := by
        intro o v h
        rcases h with ⟨h1, h2⟩ | ⟨h1, l, q, h2, h3, h4⟩
        · exact Or.inl ⟨h1, num_to h2 (fun c i hc => up_c (by omega))⟩
        · exact Or.inr ⟨h1, l, q, h2, h3, cmp_to ok.1.1 h4 (fun c i hc => up_c (by omega))⟩
      refine ⟨by omega, by omega, ?_⟩
      by_cases r1 : r = -1
      · subst r1
        have e18 : up N 37 (k : Int) (-1) 18 0 = M 18 0 := fN 18 0 (by decide) (by decide)
        have res : NgR M z (-1) (up N 37 k (-1)) := Or.inr ⟨rfl, k, S, _, hkz, hpk, c, nsto hs⟩
        by_cases q : z < (k : Int) + 1
        · exact B_X10_negative_134 (by omega) (by omega) (by omega) (by omega) (Nat.zero_le _) (Nat.zero_le _) C Y ⟨fun _ => ⟨_, m_ends (by omega) (by decide) (by decide) (by omega), fun r N hN => ⟨hN.2, kk _ _ r N res fN hN.1⟩⟩, fun w => absurd w (by omega)⟩
        · exact B_X10_negative_134 (by omega) (by omega) (by omega) (by omega) (Nat.zero_le _) (Nat.zero_le _) C Y ⟨fun w => absurd w q, fun _ => ⟨fun _ => ⟨_, m_ends (by omega) (by decide) (by decide) (by omega), fun r N hN => ⟨hN.2, kk _ _ r N res fN hN.1⟩⟩, fun w => absurd rfl w⟩⟩
      · refine ih (k + 1) r (by omega) _ (Or.inr ⟨hpk, S, _, r, c, r1, nsto hs, fun x => ?_⟩) fN hp2 rr r1 (fun m0 => ?_)
        · split
          · rename_i q; rw [q]; exact up_s _ _ _ _
          · rename_i q; exact (up_i q).trans (hf 37 x (by decide) (by decide))
        · rw [show z = (k : Int) by omega, up_s]
theorem m_negative {g : Gs} {ad : Nat → Nat} {A M : Mem} {z : Int} (h : Jn A M) (hz : R32 z) : SpI (wM g ad) yX10_negative cX10_negative 6 (some .int) 8 [.ref (ad 0), vI (z)] (M) (fun r N => NeR M z (N 20 0) r N) := by
  intro l9 hl9
  refine ct_of hl9 mi_X10_negative.2.2.2 (Nat.le_of_ble_eq_true rfl) (fun X _ C Y => ?_)
  show E (wM g ad) X 0 0 (M) 0 [(0, .ref (ad 0)), (1, vI (z))] []
  refine e_wf (fun hw => ?_)
  have hn := h.n
  have p18 := h.2.2.1.1
  refine B_X10_negative_0 (by omega) (Nat.zero_le _) (Nat.zero_le _) C Y ⟨by omega, fun c => ?_, fun c => ?_⟩
  · exact B_X10_negative_14 (by omega) (by omega) (Nat.zero_le _) (Nat.zero_le _) C Y ⟨fun q => absurd (by decide) q, fun _ => ⟨_, rfl, Or.inl ⟨c, up_s _ _ _ _, rfl⟩⟩⟩
  · refine B_X10_negative_14 (by omega) (by omega) (Nat.zero_le _) (Nat.zero_le _) C Y ⟨fun _ => ?_, fun q => absurd q (by decide)⟩
    have h' := h.r20 (v := 0)
    have n0 : up M 20 0 0 0 0 = M 0 0 := up_c (by decide)
    have hG' : Good (M 0 0) (up M 20 0 0) := by have := h'.n.2.2.2; rw [n0] at this; exact this
    have agu : Ag M (up M 20 0 0) (M 0 0) := Ag.of _ (fun c i c1 c2 => up_c (by omega))
    have ptu : ∀ x, Pt (up M 20 0 0) AllG z x ↔ Pt M AllG z x := fun x => cl_cg agu hn.2.2.2 (fun _ _ _ => Iff.rfl) 6 z x c.1 c.2
    refine ng_29 C Y (M := up M 20 0 0) (z := z) (v := M 0 0) (by omega) (by omega) (fun N1 q1 => ?_) 40 0 (by omega) (by omega) (up M 20 0 0) (fun _ _ _ => rfl) (fun x x1 x2 => absurd x2 (by omega))
    refine ng_59 C Y (M := up M 20 0 0) hG' c (by omega) (fun N2 q2 => ?_) (z + 1).toNat z (by omega) (by omega) N1 (q1.cg (fun x => ⟨Or.inl, fun w => ?_⟩))
    · have f2 : FrR M N2 := fun c i h1 h2 => (q2.1 c i (by omega)).trans (up_c h2.1)
      refine mg_134 C Y hn.2.2.2 c p18 (fun v S r N h1 h2 h3 => ⟨_, rfl, Or.inr ⟨c, v, S, h1, h2, h3⟩⟩) (z + 1).toNat 0 0 (by omega) N2 ⟨(q2.1 0 0 (by decide)).trans n0, Ag.of _ (fun c i c1 c2 => (q2.1 c i (by omega)).trans (up_c (by omega)))⟩ f2 (fun x x1 x2 => ⟨(q2.2 x x1 x2).1, (q2.2 x x1 x2).2.trans (ptu x)⟩) (by omega) (by decide) (fun m0 => by omega)
    · rcases w with w | ⟨y, s, i, y1, cy, -⟩
      · exact w
      · have := pt_le hG' 6 z y c.1 c.2 cy; omega
