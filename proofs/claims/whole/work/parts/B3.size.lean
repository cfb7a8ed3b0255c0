/-! ===== the reference: laysPositions, sizeNow, size ===== -/
theorem lp_81 {g : Gs} {ad : Nat → Nat} {X : Cx} {PQ : Option Value → Mem → Prop} {PX : String → Mem → Prop} (C : OkB (wM g ad) X cX10_laysPositions RX10 5 3 0 0) (Y : OkR (wM g ad) X none 0 0 PQ PX) {M : Mem} {n z v b s : Int} (hG : Good n M) (hz : 0 ≤ z ∧ z < n) (hv : R32 v) (hb : 0 ≤ b ∧ b ≤ z) (hs : s = 0 ∨ s = 1) (h1 : Pt M (HotG M) z b) (h2 : HotG M b) (kk : ∀ N, MrkI M N (MrkQ M (HotG M) z b (s + 1) 0) → E (wM g ad) X 0 0 (N) 55 [(0, .ref (ad 0)), (1, vI (v)), (2, vI (b)), (3, vI (s + 1))] []) : ∀ (m : Nat) (k : Int), 0 ≤ k → k + m = M 3 (2 * b + s) → ∀ N, MrkI M N (MrkQ M (HotG M) z b s k) → E (wM g ad) X 0 0 (N) 81 [(0, .ref (ad 0)), (1, vI (v)), (2, vI (b)), (3, vI (s)), (4, vI (k))] [] := by
  have h40 := hG.2.1
  have hb' := opS_r (hG.2.2 b hb.1 (by omega)).1.1 (s := s) (by omega)
  intro m
  induction m with
  | zero =>
    intro k k1 k2 N q
    have e3 := q.1 3 (2 * b + s) (by decide)
    have : k = M 3 (2 * b + s) := by omega
    subst this
    exact B_X10_laysPositions_81 (by omega) (by omega) (by omega) (by omega) (Nat.zero_le _) (Nat.zero_le _) C Y ⟨by omega, fun c => ⟨by omega, kk N (q.cg (mrk_s (by omega)))⟩, fun c => absurd c (by omega)⟩
  | succ m ih =>
    intro k k1 k2 N q
    have e3 := q.1 3 (2 * b + s) (by decide)
    have e4 : N 4 (8 * b + 4 * s + k) = opt M b s k := q.1 4 _ (by decide)
    have o := hb'.2.2 k k1 (by omega)
    refine B_X10_laysPositions_81 (by omega) (by omega) (by omega) (by omega) (Nat.zero_le _) (Nat.zero_le _) C Y ⟨by omega, fun c => absurd c (by omega), fun c => ⟨⟨by omega, by rw [e4]; omega, by omega⟩, ?_⟩⟩
    rw [e4]
    exact ih (k + 1) (by omega) (by omega) _ (mrk_k (by omega) ⟨k1, by omega⟩ h1 h2 q)
theorem lp_49 {g : Gs} {ad : Nat → Nat} {X : Cx} {PQ : Option Value → Mem → Prop} {PX : String → Mem → Prop} (C : OkB (wM g ad) X cX10_laysPositions RX10 5 3 0 0) (Y : OkR (wM g ad) X none 0 0 PQ PX) {M : Mem} {n z v : Int} (hG : Good n M) (hz : 0 ≤ z ∧ z < n) (hv : R32 v) (kk : ∀ N, MrkI M N (Pt M (HotG M) z) → E (wM g ad) X 0 0 (N) 126 [(0, .ref (ad 0)), (1, vI (v)), (2, vI (0))] []) : ∀ (m : Nat) (b : Int), b ≤ z → b + 1 = m → ∀ N, MrkI M N (MrkP M (HotG M) z b) → E (wM g ad) X 0 0 (N) 49 [(0, .ref (ad 0)), (1, vI (v)), (2, vI (b))] [] := by
  have h40 := hG.2.1
  intro m
  induction m with
  | zero =>
    intro b b1 b2 N q
    have : b = -1 := by omega
    subst this
    exact B_X10_laysPositions_49 (by omega) (by omega) (Nat.zero_le _) (Nat.zero_le _) C Y ⟨fun c => kk N (q.cg (fun x => mrk_end hG hz)), fun c => absurd c (by omega)⟩
  | succ m ih =>
    intro b b1 b2 N q
    have hb : 0 ≤ b ∧ b ≤ z := by omega
    have q36 := q.2 b hb.1 (by omega)
    have e6 : N 6 b = M 6 b := q.1 6 b (by decide)
    refine B_X10_laysPositions_49 (by omega) (by omega) (Nat.zero_le _) (Nat.zero_le _) C Y ⟨fun c => absurd c (by omega), fun c => ?_⟩
    have skip : ¬ (Pt M (HotG M) z b ∧ HotG M b) → E (wM g ad) X 0 0 (N) 49 [(0, .ref (ad 0)), (1, vI (v)), (2, vI (b + -1))] [] := fun w => ih (b + -1) (by omega) (by omega) N (q.cg (fun x => by rw [show b + -1 = b - 1 by omega]; exact mrk_skip w x))
    refine B_X10_laysPositions_55 (by omega) (by omega) (by omega) (Nat.zero_le _) (Nat.zero_le _) C Y ⟨fun c => absurd c (by decide), fun _ => ⟨by omega, fun w => ⟨by omega, skip (fun u => ?_)⟩, fun w => ⟨fun w2 => ⟨by omega, skip (fun u => ?_)⟩, fun w2 => ?_⟩⟩⟩
    · have := q36.2.mpr ((mrk_self hG hz hb).mpr u.1); omega
    · have : M 6 b = 0 := u.2; omega
    · have hp : Pt M (HotG M) z b := (mrk_self hG hz hb).mp (q36.2.mp (by omega))
      have hh : HotG M b := by show M 6 b = 0; omega
      have nx : ∀ N, MrkI M N (MrkQ M (HotG M) z b 2 0) → E (wM g ad) X 0 0 (N) 55 [(0, .ref (ad 0)), (1, vI (v)), (2, vI (b)), (3, vI (2))] [] := fun N h => B_X10_laysPositions_55 (by omega) (by omega) (by omega) (Nat.zero_le _) (Nat.zero_le _) C Y ⟨fun _ => ⟨by omega, ih (b + -1) (by omega) (by omega) N (h.cg (fun x => by rw [show b + -1 = b - 1 by omega]; exact mrk_2 hp hh x))⟩, fun c => absurd c (by decide)⟩
      have o0 := (opS_r (hG.2.2 b hb.1 (by omega)).1.1 (s := 0) (by omega)).1
      have o1 := (opS_r (hG.2.2 b hb.1 (by omega)).1.1 (s := 1) (by omega)).1
      refine lp_81 C Y hG hz hv hb (s := 0) (Or.inl rfl) hp hh (fun N1 q1 => ?_) (M 3 (2 * b + 0)).toNat 0 (by omega) (by omega) N (q.cg (fun x => (mrk_0 x).symm))
      have m2 : N1 36 b = 1 := (q1.2 b hb.1 (by omega)).2.mpr (Or.inl ((mrk_self hG hz hb).mpr hp))
      have e6' : N1 6 b = 0 := (q1.1 6 b (by decide)).trans hh
      refine B_X10_laysPositions_55 (by omega) (by omega) (by omega) (Nat.zero_le _) (Nat.zero_le _) C Y ⟨fun c => absurd c (by decide), fun _ => ⟨by omega, fun w => absurd w (by omega), fun _ => ⟨fun w => absurd e6' w, fun _ => ?_⟩⟩⟩
      exact lp_81 C Y hG hz hv hb (s := 1) (Or.inr rfl) hp hh (fun N2 q2 => nx N2 q2) (M 3 (2 * b + 1)).toNat 0 (by omega) (by omega) N1 q1
theorem lp_2 {g : Gs} {ad : Nat → Nat} {X : Cx} {PQ : Option Value → Mem → Prop} {PX : String → Mem → Prop} (C : OkB (wM g ad) X cX10_laysPositions RX10 5 3 0 0) (Y : OkR (wM g ad) X none 0 0 PQ PX) {M : Mem} {z v : Int} (hz : 0 ≤ z ∧ z < 40) (hv : 0 ≤ v ∧ v < 4) (h38 : M 38 v = z) (kk : ∀ N, MrkI M N (fun x => x = z) → E (wM g ad) X 0 0 ((up N 39 v 0)) 49 [(0, .ref (ad 0)), (1, vI (v)), (2, vI (z))] []) : ∀ (m : Nat) (j : Int), 0 ≤ j → j + m = 40 → ∀ N, (∀ c i, c ≠ 36 → N c i = M c i) → (∀ x, 0 ≤ x → x < j → (N 36 x = 0 ∨ N 36 x = 1) ∧ (N 36 x = 1 ↔ x = z)) → E (wM g ad) X 0 0 (N) 2 [(0, .ref (ad 0)), (1, vI (v)), (2, vI (j))] [] := by
  intro m
  induction m with
  | zero =>
    intro j j1 j2 N f h
    have e38 : N 38 v = z := (f 38 v (by decide)).trans h38
    refine B_X10_laysPositions_2 (by omega) (by omega) (Nat.zero_le _) (Nat.zero_le _) C Y ⟨fun c => ⟨hv, ?_⟩, fun c => absurd c (by omega)⟩
    rw [e38]
    exact kk N ⟨f, fun x x1 x2 => h x x1 (by omega)⟩
  | succ m ih =>
    intro j j1 j2 N f h
    have e38 : N 38 v = z := (f 38 v (by decide)).trans h38
    refine B_X10_laysPositions_2 (by omega) (by omega) (Nat.zero_le _) (Nat.zero_le _) C Y ⟨fun c => absurd c (by omega), fun c => ⟨hv, fun c1 => ⟨by omega, ?_⟩, fun c1 => ⟨by omega, ?_⟩⟩⟩
    · rw [e38] at c1
      refine ih (j + 1) (by omega) (by omega) _ (fun c i q => by rw [up_c q]; exact f c i q) (fun x x1 x2 => ?_)
      by_cases e : x = j
      · subst e; rw [up_s]; exact ⟨Or.inl rfl, fun q => absurd q (by decide), fun q => absurd q c1⟩
      · rw [up_i e]; exact h x x1 (by omega)
    · rw [e38] at c1
      refine ih (j + 1) (by omega) (by omega) _ (fun c i q => by rw [up_c q]; exact f c i q) (fun x x1 x2 => ?_)
      by_cases e : x = j
      · subst e; rw [up_s]; exact ⟨Or.inr rfl, fun _ => c1, fun _ => rfl⟩
      · rw [up_i e]; exact h x x1 (by omega)
theorem posB_cg {M N : Mem} {n z : Int} (g : Ag M N n) (hG : Good n M) (hz : 0 ≤ z ∧ z < n) : posB N z = posB M z := by
  funext x
  have e : Pt N (HotG N) z x ↔ Pt M (HotG M) z x := cl_cg g hG (fun y y1 y2 => by show N 6 y = 0 ↔ M 6 y = 0; rw [g.1 6 y (by omega) y1 y2]) 6 z x hz.1 hz.2
  cases ea : posB M z x with
  | true => exact posB_i.mpr (e.mpr (posB_i.mp ea))
  | false =>
    cases eb : posB N z x with
    | false => rfl
    | true => rw [posB_i.mpr (e.mp (posB_i.mp eb))] at ea; exact absurd ea (by decide)
theorem m_laysPositions {g : Gs} {ad : Nat → Nat} {M : Mem} {n c : Int} (hG : Good n M) (hc : 0 ≤ c ∧ c < 4) (hz : 0 ≤ M 38 c ∧ M 38 c < n) : SpV (wM g ad) yX10_laysPositions cX10_laysPositions 5 none 3 [.ref (ad 0), vI (c)] (M) (fun N => LpF M N ∧ (∀ i, i ≠ c → N 39 i = M 39 i) ∧ (∀ i, (i < 40 * c ∨ 40 * c + 40 ≤ i) → N 40 i = M 40 i ∧ N 41 i = M 41 i) ∧ PosC M N c (M 38 c)) := by
  have h40 := hG.2.1
  intro l9 hl9
  refine ct_of hl9 mi_X10_laysPositions.2.2.2 (Nat.le_of_ble_eq_true rfl) (fun X _ C Y => ?_)
  show E (wM g ad) X 0 0 (M) 0 [(0, .ref (ad 0)), (1, vI (c))] []
  refine e_wf (fun hw => ?_)
  refine B_X10_laysPositions_0 (by omega) (Nat.zero_le _) (Nat.zero_le _) C Y ?_
  refine lp_2 C Y (z := M 38 c) (by omega) hc rfl (fun N1 q1 => ?_) 40 0 (by omega) (by omega) M (fun _ _ _ => rfl) (fun x x1 x2 => absurd x2 (by omega))
  have hG' : Good n (up M 39 c 0) := hG.cg (Ag.of _ (fun k i k1 k2 => up_c (by omega)))
  have agu : Ag M (up M 39 c 0) n := Ag.of _ (fun k i k1 k2 => up_c (by omega))
  have ptu : ∀ x, Pt (up M 39 c 0) (HotG (up M 39 c 0)) (M 38 c) x ↔ Pt M (HotG M) (M 38 c) x := fun x => cl_cg agu hG (fun y _ _ => by show up M 39 c 0 6 y = 0 ↔ M 6 y = 0; rw [up_c (by decide)]) 6 _ x hz.1 hz.2
  have q1' : MrkI (up M 39 c 0) (up N1 39 c 0) (MrkP (up M 39 c 0) (HotG (up M 39 c 0)) (M 38 c) (M 38 c)) := by
    refine ⟨fun k i hk => ?_, fun x x1 x2 => ?_⟩
    · by_cases e : k = 39 ∧ i = c
      · obtain ⟨rfl, rfl⟩ := e; rw [up_s, up_s]
      · rw [up_n (by omega), up_n (by omega)]; exact q1.1 k i hk
    · rw [up_c (by decide)]
      refine ⟨(q1.2 x x1 x2).1, (q1.2 x x1 x2).2.trans ⟨Or.inl, fun w => ?_⟩⟩
      rcases w with w | ⟨y, s, i, y1, cy, -⟩
      · exact w
      · have := pt_le hG' 6 _ y hz.1 hz.2 cy; omega
  refine lp_49 C Y hG' hz (by omega) (fun N2 q2 => ?_) (M 38 c + 1).toNat (M 38 c) (by omega) (by omega) _ q1'
  have z38 : N2 38 c = M 38 c := (q2.1 38 c (by decide)).trans (up_c (by decide))
  have z39 : N2 39 c = 0 := (q2.1 39 c (by decide)).trans (up_s _ _ _ _)
  refine lp_126 C Y (S := N2) hG hz hc z38 (fun x x1 x2 => ⟨(q2.2 x x1 x2).1, (q2.2 x x1 x2).2.trans (ptu x)⟩) (fun N f f39 f40 hp => ⟨rfl, fun k i k1 k2 k3 k4 => ?_, fun i hi => ?_, fun i hi => ⟨?_, ?_⟩, hp⟩) (M 38 c + 1).toNat 0 (by omega) (by omega) N2 (fun _ _ _ _ _ => rfl) (fun _ _ => rfl) (fun _ _ => ⟨rfl, rfl⟩) (by rw [z39]; exact ⟨by omega, fun i j i1 i2 i3 => absurd i3 (by omega), fun i i1 i2 => absurd i2 (by omega), fun y hy => absurd hy (by simp)⟩) (fun j j1 j2 => by rw [z39] at j2; omega)
  · rw [f k i k2 k3 k4, q2.1 k i k1, up_c k2]
  · rw [f39 i hi, q2.1 39 i (by decide), up_i hi]
  · rw [(f40 i hi).1, q2.1 40 i (by decide), up_c (by decide)]
  · rw [(f40 i hi).2, q2.1 41 i (by decide), up_c (by decide)]
/-- all positions of the first k components are laid -/
def PosA (M N : Mem) (k : Int) : Prop := LpF M N ∧ ∀ c, 0 ≤ c → c < k → PosC M N c (M 38 c)
theorem posC_n {M N : Mem} {c z : Int} (h : PosC M N c z) : N 39 c = posN M z := (enu_cn 40 _ h.1).symm
theorem sz_4 {g : Gs} {ad : Nat → Nat} {X : Cx} {PQ : Option Value → Mem → Prop} {PX : String → Mem → Prop} (C : OkB (wM g ad) X cX10_sizeNow RX10 3 4 0 0) (Y : OkR (wM g ad) X (some .int) 0 0 PQ PX) {M : Mem} {n : Int} (hG : Good n M) (hp : 0 ≤ M 16 0 ∧ M 16 0 ≤ 4) (hl : ∀ c, 0 ≤ c → c < M 16 0 → 0 ≤ M 38 c ∧ M 38 c < n) (kk : ∀ N, PosA M N (M 16 0) → PQ (some (vI (prN M (fun c => M 38 c) (M 16 0).toNat))) N) : ∀ (m j : Nat), (j : Int) + m = M 16 0 → ∀ N, PosA M N j → E (wM g ad) X 0 0 (N) 4 [(0, .ref (ad 0)), (1, vI (prN M (fun c => M 38 c) j)), (2, vI (j))] [] := by
  have pr : ∀ j : Nat, (j : Int) ≤ M 16 0 → 1 ≤ prN M (fun c => M 38 c) j ∧ prN M (fun c => M 38 c) j ≤ 2560000 := fun j hj => prN_40 hG (by omega) (fun c c1 c2 => hl c c1 (by omega))
  intro m
  induction m with
  | zero =>
    intro j hj N q
    have b := pr j (by omega)
    have e16 : N 16 0 = M 16 0 := q.1 16 0 (by decide) (by decide) (by decide) (by decide)
    have e : j = (M 16 0).toNat := by omega
    rw [e] at b ⊢
    refine B_X10_sizeNow_4 (by omega) (by omega) (Nat.zero_le _) (Nat.zero_le _) C Y ⟨fun _ => kk N ?_, fun c => absurd c (by omega)⟩
    rw [show M 16 0 = (j : Int) by omega]; exact q
  | succ m ih =>
    intro j hj N q
    have b := pr j (by omega)
    have b2 := pr (j + 1) (by omega)
    have e16 : N 16 0 = M 16 0 := q.1 16 0 (by decide) (by decide) (by decide) (by decide)
    have e38 : ∀ i, N 38 i = M 38 i := fun i => q.1 38 i (by decide) (by decide) (by decide) (by decide)
    have rg := hl j (by omega) (by omega)
    have agN : Ag M N n := Ag.of _ (fun k i k1 k2 => q.1 k i (by omega) (by omega) (by omega) (by omega))
    refine B_X10_sizeNow_4 (by omega) (by omega) (Nat.zero_le _) (Nat.zero_le _) C Y ⟨fun c => absurd c (by omega), fun c => ⟨_, m_laysPositions (hG.cg agN) (c := j) (by omega) (by rw [e38]; exact rg), fun P hP => ?_⟩⟩
    obtain ⟨f1, f2, f3, f4⟩ := hP
    rw [e38] at f4
    have pb := posB_cg agN hG rg
    have f4' : PosC M P j (M 38 j) := by unfold PosC at f4 ⊢; rw [pb] at f4; exact f4
    have pn : P 39 j = posN M (M 38 j) := posC_n f4'
    have pr2 := posN_r hG rg
    rw [prN] at b2
    rw [pn]
    refine ⟨⟨by omega, by omega, by omega⟩, ih (j + 1) (by omega) P ⟨fun k i k1 k2 k3 k4 => (f1 k i k1 k2 k3 k4).trans (q.1 k i k1 k2 k3 k4), fun c c1 c2 => ?_⟩⟩
    by_cases e : c = (j : Int)
    · subst e; exact f4'
    · have old := q.2 c c1 (by omega)
      have c39 : P 39 c = N 39 c := f2 c e
      unfold PosC at old ⊢
      rw [c39]
      have on : N 39 c ≤ 40 := by rw [posC_n (show PosC M N c (M 38 c) from old)]; exact (posN_r hG (hl c c1 (by omega))).2
      have r40 : ∀ i, 0 ≤ i → i < N 39 c → P 40 (40 * c + i) = N 40 (40 * c + i) := fun i i1 i2 => (f3 _ (by omega)).1
      refine ⟨enu_cg (fun i i1 i2 => r40 i i1 i2) old.1, fun i i1 i2 => ?_⟩
      have ob := old.1.2.2.1 i i1 i2
      have ob1 : 0 ≤ N 40 (40 * c + i) ∧ N 40 (40 * c + i) < 40 := ⟨ob.1, ob.2.1⟩
      rw [r40 i i1 i2, (f3 _ (by omega)).2]
      exact old.2 i i1 i2
theorem m_sizeNow {g : Gs} {ad : Nat → Nat} {M : Mem} {n : Int} (hG : Good n M) (hp : 0 ≤ M 16 0 ∧ M 16 0 ≤ 4) (hl : ∀ c, 0 ≤ c → c < M 16 0 → 0 ≤ M 38 c ∧ M 38 c < n) : SpI (wM g ad) yX10_sizeNow cX10_sizeNow 3 (some .int) 4 [.ref (ad 0)] (M) (fun r N => r = prN M (fun c => M 38 c) (M 16 0).toNat ∧ PosA M N (M 16 0)) := by
  intro l9 hl9
  refine ct_of hl9 mi_X10_sizeNow.2.2.2 (Nat.le_of_ble_eq_true rfl) (fun X _ C Y => ?_)
  show E (wM g ad) X 0 0 (M) 0 [(0, .ref (ad 0))] []
  refine e_wf (fun hw => ?_)
  refine B_X10_sizeNow_0  (Nat.zero_le _) (Nat.zero_le _) C Y ?_
  exact sz_4 C Y hG hp hl (fun N h => ⟨_, rfl, rfl, h⟩) (M 16 0).toNat 0 (by omega) M ⟨fun _ _ _ _ _ _ => rfl, fun c c1 c2 => absurd c2 (by omega)⟩
theorem pl_2 {g : Gs} {ad : Nat → Nat} {X : Cx} {PQ : Option Value → Mem → Prop} {PX : String → Mem → Prop} (C : OkB (wM g ad) X cX10_plays RX10 2 1 0 0) (Y : OkR (wM g ad) X none 0 0 PQ PX) {M : Mem} (hp : 0 ≤ M 16 0 ∧ M 16 0 ≤ 4) (kk : ∀ N, (∀ c i, c ≠ 38 → N c i = M c i) → (∀ c, 0 ≤ c → c < M 16 0 → N 38 c = M 17 c) → PQ none N) : ∀ (m : Nat) (j : Int), 0 ≤ j → j + m = M 16 0 → ∀ N, (∀ c i, c ≠ 38 → N c i = M c i) → (∀ c, 0 ≤ c → c < j → N 38 c = M 17 c) → E (wM g ad) X 0 0 (N) 2 [(0, .ref (ad 0)), (1, vI (j))] [] := by
  intro m
  induction m with
  | zero =>
    intro j j1 j2 N f h
    have e := f 16 0 (by decide)
    exact B_X10_plays_2 (by omega) (Nat.zero_le _) (Nat.zero_le _) C Y ⟨fun _ => kk N f (fun c c1 c2 => h c c1 (by omega)), fun c => absurd c (by omega)⟩
  | succ m ih =>
    intro j j1 j2 N f h
    have e := f 16 0 (by decide)
    refine B_X10_plays_2 (by omega) (Nat.zero_le _) (Nat.zero_le _) C Y ⟨fun c => absurd c (by omega), fun c => ⟨by omega, ih (j + 1) (by omega) (by omega) _ (fun c i q => by rw [up_c q]; exact f c i q) (fun c c1 c2 => ?_)⟩⟩
    by_cases q : c = j
    · rw [q, up_s]; exact f 17 j (by decide)
    · rw [up_i q]; exact h c c1 (by omega)
theorem m_plays {g : Gs} {ad : Nat → Nat} {M : Mem} (hp : 0 ≤ M 16 0 ∧ M 16 0 ≤ 4) : SpV (wM g ad) yX10_plays cX10_plays 2 none 1 [.ref (ad 0)] (M) (fun N => (∀ c i, c ≠ 38 → N c i = M c i) ∧ ∀ c, 0 ≤ c → c < M 16 0 → N 38 c = M 17 c) := by
  intro l9 hl9
  refine ct_of hl9 mi_X10_plays.2.2.2 (Nat.le_of_ble_eq_true rfl) (fun X _ C Y => ?_)
  show E (wM g ad) X 0 0 (M) 0 [(0, .ref (ad 0))] []
  refine e_wf (fun hw => ?_)
  refine B_X10_plays_0  (Nat.zero_le _) (Nat.zero_le _) C Y ?_
  exact pl_2 C Y hp (fun N h1 h2 => ⟨rfl, h1, h2⟩) (M 16 0).toNat 0 (by omega) (by omega) M (fun _ _ _ => rfl) (fun c c1 c2 => absurd c2 (by omega))
def SzR (M : Mem) : Int → Int → Mem → Prop := fun k r N => k = 0 ∧ r = prN M (fun c => M 17 c) (M 16 0).toNat ∧ ∀ c i, c ≠ 20 → c ≠ 36 → c ≠ 38 → c ≠ 39 → c ≠ 40 → c ≠ 41 → N c i = M c i
theorem posN_cg {M N : Mem} {n z : Int} (g : Ag M N n) (hG : Good n M) (hz : 0 ≤ z ∧ z < n) : posN N z = posN M z := by unfold posN; rw [posB_cg g hG hz]
theorem prN_ag {M N : Mem} {n : Int} {l : Int → Int} (g : Ag M N n) (hG : Good n M) : ∀ k : Nat, (∀ c, 0 ≤ c → c < (k : Int) → 0 ≤ l c ∧ l c < n) → prN N l k = prN M l k := by
  intro k
  induction k with
  | zero => intro _; rfl
  | succ k ih => intro h; rw [prN, prN, ih (fun c c1 c2 => h c c1 (by omega)), posN_cg g hG (h k (by omega) (by omega))]
theorem m_size {g : Gs} {ad : Nat → Nat} {A M : Mem} (h : Jn A M) : SpI (wM g ad) yX10_size cX10_size 1 (some .int) 5 [.ref (ad 0)] (M) (fun r N => SzR M (N 20 0) r N) := by
  intro l9 hl9
  refine ct_of hl9 mi_X10_size.2.2.2 (Nat.le_of_ble_eq_true rfl) (fun X _ C Y => ?_)
  show E (wM g ad) X 0 0 (M) 0 [(0, .ref (ad 0))] []
  refine e_wf (fun hw => ?_)
  have hn := h.n
  have ht := h.2.1
  refine B_X10_size_0  (Nat.zero_le _) (Nat.zero_le _) C Y ⟨_, m_plays (by rw [up_c (by decide)]; exact ht.1), fun P hP => ?_⟩
  obtain ⟨f1, f2⟩ := hP
  have e16 : P 16 0 = M 16 0 := (f1 16 0 (by decide)).trans (up_c (by decide))
  have e38 : ∀ c, 0 ≤ c → c < M 16 0 → P 38 c = M 17 c := fun c c1 c2 => (f2 c c1 (by rw [up_c (by decide)]; exact c2)).trans (up_c (by decide))
  have ag : Ag M P (M 0 0) := Ag.of _ (fun k i k1 k2 => (f1 k i (by omega)).trans (up_c (by omega)))
  have hl : ∀ c, 0 ≤ c → c < P 16 0 → 0 ≤ P 38 c ∧ P 38 c < M 0 0 := fun c c1 c2 => by rw [e38 c c1 (by omega)]; exact ht.2.2.2 c c1 (by omega)
  have pv : prN P (fun c => P 38 c) (P 16 0).toNat = prN M (fun c => M 17 c) (M 16 0).toNat := by
    rw [e16, prN_ag ag hn.2.2.2 _ (fun c c1 c2 => hl c c1 (by have := ht.1; omega))]
    exact prN_cg _ (fun c c1 c2 => e38 c c1 (by have := ht.1; omega))
  have pr := prN_40 (k := (M 16 0).toNat) (l := fun c => M 17 c) hn.2.2.2 (by have := ht.1; omega) (fun c c1 c2 => ht.2.2.2 c c1 (by have := ht.1; omega))
  refine ⟨_, m_sizeNow (hn.2.2.2.cg ag) (by rw [e16]; exact ht.1) hl, fun r N hN => ?_⟩
  obtain ⟨rfl, q, -⟩ := hN
  rw [pv]
  refine ⟨by omega, _, rfl, ?_, rfl, fun c i h1 h2 h3 h4 h5 h6 => ?_⟩
  · rw [q 20 0 (by decide) (by decide) (by decide) (by decide), f1 20 0 (by decide), up_s]
  · rw [q c i h2 h4 h5 h6, f1 c i h3, up_c h1]
theorem x_size {g : Gs} {ad : Nat → Nat} {sk : (Nat → Nat) × (Nat → Nat)} {A M : Mem} (h : Jn A M) : SpI (wC g ad sk) yX9_size cX9_size 3 (some .int) 2 [.ref (ad 0)] (A) (fun r B => Res (SzR M) 0 r B) := by
  refine (x_sizeN h).mono (fun r B hB => ?_)
  obtain ⟨rfl, rfl⟩ := hB
  rintro k' r' N ⟨rfl, rfl, f⟩
  exact ⟨rfl, fun _ => rfl, h.cgM (fun c i h1 h2 => f c i h2 (by omega) (by omega) (by omega) (by omega) (by omega))⟩
