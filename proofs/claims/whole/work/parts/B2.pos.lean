/-! ===== positions ===== -/
noncomputable def posB (M : Mem) (z : Int) : Nat → Bool := fun x => @decide (Pt M (HotG M) z x) (Classical.propDecidable _)
theorem posB_i {M : Mem} {z : Int} {x : Nat} : posB M z x = true ↔ Pt M (HotG M) z x := by
  unfold posB
  exact @decide_eq_true_iff _ (Classical.propDecidable _)
/-- how many positions -/
noncomputable def posN (M : Mem) (z : Int) : Int := (cnB (posB M z) 40 : Int)
theorem posN_r {M : Mem} {n z : Int} (hG : Good n M) (hz : 0 ≤ z ∧ z < n) : 1 ≤ posN M z ∧ posN M z ≤ 40 := by
  have h40 := hG.2.1
  have a := cnB_le64 (posB M z) 40
  have b := cnB_more (p := posB M z) (a := 0) (x := z.toNat) (K := 40) (by omega) (by omega) (posB_i.mpr (by rw [Int.toNat_of_nonneg hz.1]; exact (pt_eq hG hz).mpr (Or.inl rfl)))
  unfold posN
  omega
noncomputable def prN (M : Mem) (l : Int → Int) : Nat → Int
  | 0 => 1
  | k + 1 => prN M l k * posN M (l k)
theorem prN_r {M : Mem} {n : Int} {l : Int → Int} (hG : Good n M) : ∀ k : Nat, k ≤ 4 → (∀ c, 0 ≤ c → c < (k : Int) → 0 ≤ l c ∧ l c < n) → 1 ≤ prN M l k ∧ prN M l k ≤ 40 ^ k := by
  intro k
  induction k with
  | zero => intro _ _; simp [prN]
  | succ k ih =>
    intro hk hl
    have a := ih (by omega) (fun c c1 c2 => hl c c1 (by omega))
    have b := posN_r hG (hl k (by omega) (by omega))
    rw [prN]
    constructor
    · have := Int.mul_le_mul (a := 1) (b := 1) (c := prN M l k) (d := posN M (l k)) a.1 b.1 (by omega) (by omega)
      omega
    · rw [Int.pow_succ]
      exact Int.mul_le_mul a.2 b.2 (by omega) (by omega)
theorem prN_40 {M : Mem} {n : Int} {l : Int → Int} (hG : Good n M) {k : Nat} (hk : k ≤ 4) (hl : ∀ c, 0 ≤ c → c < (k : Int) → 0 ≤ l c ∧ l c < n) : 1 ≤ prN M l k ∧ prN M l k ≤ 2560000 := by
  have := prN_r hG k hk hl
  have e : (40 : Int) ^ k ≤ 2560000 := by
    rcases (show k = 0 ∨ k = 1 ∨ k = 2 ∨ k = 3 ∨ k = 4 by omega) with rfl | rfl | rfl | rfl | rfl <;> decide
  omega
theorem prN_cg {M : Mem} {l l' : Int → Int} : ∀ k : Nat, (∀ c, 0 ≤ c → c < (k : Int) → l' c = l c) → prN M l' k = prN M l k := by
  intro k
  induction k with
  | zero => intro _; rfl
  | succ k ih => intro e; rw [prN, prN, ih (fun c c1 c2 => e c c1 (by omega)), e k (by omega) (by omega)]
/-! the class: size -/
theorem siz_pos {A M : Mem} (h : Jn A M) {z : Int} (hz : 0 ≤ z ∧ z < M 0 0) : siz (A 53 z) = posN M z := by
  have hn := h.n
  have p := (h.g hz.1 hz.2).2.2.2.2.2
  rw [siz_cn (p.1.mono (show z + 1 ≤ 40 by omega)) (by omega)]
  unfold posN
  congr 1
  refine cnB_cg 40 (fun x hx => ?_)
  have e := p.2 x (by omega) (by omega)
  cases ea : posB M z x with
  | true => exact e.mpr (posB_i.mp ea)
  | false =>
    cases eb : tbN (A 53 z) x with
    | false => rfl
    | true => rw [posB_i.mpr (e.mp eb)] at ea; exact absurd ea (by decide)
theorem xz_4 {g : Gs} {ad : Nat → Nat} {sk : (Nat → Nat) × (Nat → Nat)} {X : Cx} {PQ : Option Value → Mem → Prop} {PX : String → Mem → Prop} (C : OkB (wC g ad sk) X cX9_size RX9 3 2 0 0) (Y : OkR (wC g ad sk) X (some .int) 0 0 PQ PX) {A M : Mem} (h : Jn A M) (kk : PQ (some (vI (prN M (fun c => M 17 c) (M 16 0).toNat))) A) : ∀ (m j : Nat), (j : Int) + m = M 16 0 → E (wC g ad sk) X 0 0 (A) 4 [(0, .ref (ad 0)), (1, vI (prN M (fun c => M 17 c) j)), (2, vI (j))] [] := by
  have hn := h.n
  have ht := h.2.1
  have ht1 := ht.1
  have ht2 := ht.2.1
  have pr : ∀ j : Nat, (j : Int) ≤ M 16 0 → 1 ≤ prN M (fun c => M 17 c) j ∧ prN M (fun c => M 17 c) j ≤ 2560000 := fun j hj => prN_40 hn.2.2.2 (by omega) (fun c c1 c2 => ht.2.2.2 c c1 (by omega))
  intro m
  induction m with
  | zero =>
    intro j hj
    have b := pr j (by omega)
    rw [show j = (M 16 0).toNat by omega] at b ⊢
    exact B_X9_size_4 (by omega) (by omega) (Nat.zero_le _) (Nat.zero_le _) C Y ⟨fun _ => kk, fun c => absurd c (by omega)⟩
  | succ m ih =>
    intro j hj
    have b := pr j (by omega)
    have b2 := pr (j + 1) (by omega)
    have e10 := ht.2.2.1 j (by omega) (by omega)
    have rg := ht.2.2.2 j (by omega) (by omega)
    have w := (h.g rg.1 rg.2).2.2.2.2.2.1.1
    have s := siz_pos h rg
    have pn := posN_r hn.2.2.2 rg
    refine B_X9_size_4 (by omega) (by omega) (Nat.zero_le _) (Nat.zero_le _) C Y ⟨fun c => absurd c (by omega), fun c => ?_⟩
    rw [e10]
    refine ⟨by omega, _, (s_bitCount w).toI, fun a B hB => ?_⟩
    obtain ⟨rfl, rfl⟩ := hB
    have s' : (cn (nv (A 53 (M 17 (j : Int)))) 64 : Int) = posN M (M 17 (j : Int)) := s
    rw [s']
    rw [prN] at b2
    exact ⟨by omega, ⟨by omega, by omega⟩, ih (j + 1) (by omega)⟩
theorem x_sizeN {g : Gs} {ad : Nat → Nat} {sk : (Nat → Nat) × (Nat → Nat)} {A M : Mem} (h : Jn A M) : SpI (wC g ad sk) yX9_size cX9_size 3 (some .int) 2 [.ref (ad 0)] (A) (fun r B => r = prN M (fun c => M 17 c) (M 16 0).toNat ∧ B = A) := by
  intro l9 hl9
  refine ct_of hl9 mi_X9_size.2.2.2 (Nat.le_of_ble_eq_true rfl) (fun X _ C Y => ?_)
  show E (wC g ad sk) X 0 0 (A) 0 [(0, .ref (ad 0))] []
  refine e_wf (fun hw => ?_)
  have ht1 := h.2.1.1
  refine B_X9_size_0  (Nat.zero_le _) (Nat.zero_le _) C Y ?_
  exact xz_4 C Y h ⟨_, rfl, rfl, rfl⟩ (M 16 0).toNat 0 (by omega)
/-! the reference: positions of one component -/
def LpF (M N : Mem) : Prop := ∀ c i, c ≠ 36 → c ≠ 39 → c ≠ 40 → c ≠ 41 → N c i = M c i
/-- component c of N lists the positions of z -/
def PosC (M N : Mem) (c z : Int) : Prop := Enu (fun j => N 40 (40 * c + j)) (N 39 c) (posB M z) 40 ∧ ∀ j, 0 ≤ j → j < N 39 c → N 41 (40 * c + N 40 (40 * c + j)) = j
theorem lp_126 {g : Gs} {ad : Nat → Nat} {X : Cx} {PQ : Option Value → Mem → Prop} {PX : String → Mem → Prop} (C : OkB (wM g ad) X cX10_laysPositions RX10 5 3 0 0) (Y : OkR (wM g ad) X none 0 0 PQ PX) {M S : Mem} {n c z : Int} (hG : Good n M) (hz : 0 ≤ z ∧ z < n) (hc : 0 ≤ c ∧ c < 4) (h38 : S 38 c = z) (h36 : ∀ x, 0 ≤ x → x < 40 → (S 36 x = 0 ∨ S 36 x = 1) ∧ (S 36 x = 1 ↔ Pt M (HotG M) z x)) (kk : ∀ N, (∀ k i, k ≠ 39 → k ≠ 40 → k ≠ 41 → N k i = S k i) → (∀ i, i ≠ c → N 39 i = S 39 i) → (∀ i, (i < 40 * c ∨ 40 * c + 40 ≤ i) → N 40 i = S 40 i ∧ N 41 i = S 41 i) → PosC M N c z → PQ none N) : ∀ (m : Nat) (x : Int), 0 ≤ x → x + m = z + 1 → ∀ N, (∀ k i, k ≠ 39 → k ≠ 40 → k ≠ 41 → N k i = S k i) → (∀ i, i ≠ c → N 39 i = S 39 i) → (∀ i, (i < 40 * c ∨ 40 * c + 40 ≤ i) → N 40 i = S 40 i ∧ N 41 i = S 41 i) → Enu (fun j => N 40 (40 * c + j)) (N 39 c) (posB M z) x.toNat → (∀ j, 0 ≤ j → j < N 39 c → N 41 (40 * c + N 40 (40 * c + j)) = j) → E (wM g ad) X 0 0 (N) 126 [(0, .ref (ad 0)), (1, vI (c)), (2, vI (x))] [] := by
  have h40 := hG.2.1
  intro m
  induction m with
  | zero =>
    intro x x1 x2 N f f39 f40 he h41
    have e38 : N 38 c = z := (f 38 c (by decide) (by decide) (by decide)).trans h38
    have ex : x.toNat = (z + 1).toNat := by omega
    refine B_X10_laysPositions_126 (by omega) (by omega) (Nat.zero_le _) (Nat.zero_le _) C Y ⟨hc, fun _ => kk N f f39 f40 ⟨?_, h41⟩, fun q => absurd q (by omega)⟩
    obtain ⟨a0, a1, a2, a3⟩ := he
    refine ⟨a0, a1, fun i i1 i2 => ⟨(a2 i i1 i2).1, by have := (a2 i i1 i2).2.1; omega, (a2 i i1 i2).2.2⟩, fun y hy hp => ?_⟩
    have := pt_le hG 6 z y hz.1 hz.2 (posB_i.mp hp)
    exact a3 y (by omega) hp
  | succ m ih =>
    intro x x1 x2 N f f39 f40 he h41
    have e38 : N 38 c = z := (f 38 c (by decide) (by decide) (by decide)).trans h38
    have e36 : N 36 x = S 36 x := f 36 x (by decide) (by decide) (by decide)
    have hx := h36 x x1 (by omega)
    have cnt := enu_cn _ _ he
    have cb : (cnB (posB M z) x.toNat : Int) ≤ x := by have := cnB_le64 (posB M z) x.toNat; omega
    have c0 := he.1
    obtain ⟨a0, a1, a2, a3⟩ := he
    refine B_X10_laysPositions_126 (by omega) (by omega) (Nat.zero_le _) (Nat.zero_le _) C Y ⟨hc, fun q => absurd q (by omega), fun _ => ⟨by omega, fun q => ⟨by omega, ?_⟩, fun q => ⟨⟨by omega, by omega, by omega, by omega, by omega, by omega, by omega⟩, ?_⟩⟩⟩
    · have np : ¬ (posB M z x.toNat = true) := by
        rw [posB_i, Int.toNat_of_nonneg x1]
        intro w; have := hx.2.mpr w; omega
      refine ih (x + 1) (by omega) (by omega) N f f39 f40 ⟨a0, a1, fun i i1 i2 => ⟨(a2 i i1 i2).1, by have := (a2 i i1 i2).2.1; omega, (a2 i i1 i2).2.2⟩, fun y hy hp => ?_⟩ h41
      by_cases e : y = x.toNat
      · subst e; exact absurd hp np
      · exact a3 y (by omega) hp
    · have yp : posB M z x.toNat = true := by
        rw [posB_i, Int.toNat_of_nonneg x1]
        exact hx.2.mp (by omega)
      have n39 : ∀ P : Mem, up (up P 40 (40 * c + N 39 c) x) 39 c (N 39 c + 1) 39 c = N 39 c + 1 := fun P => up_s _ _ _ _
      have q39 : up (up (up N 41 (40 * c + x) (N 39 c)) 40 (40 * c + N 39 c) x) 39 c (N 39 c + 1) 39 c = N 39 c + 1 := up_s _ _ _ _
      have q40 : ∀ i, up (up (up N 41 (40 * c + x) (N 39 c)) 40 (40 * c + N 39 c) x) 39 c (N 39 c + 1) 40 i = up (up N 41 (40 * c + x) (N 39 c)) 40 (40 * c + N 39 c) x 40 i := fun i => up_c (by decide)
      have old : ∀ j, 0 ≤ j → j < N 39 c → up (up N 41 (40 * c + x) (N 39 c)) 40 (40 * c + N 39 c) x 40 (40 * c + j) = N 40 (40 * c + j) := fun j j1 j2 => by rw [up_i (by omega), up_c (by decide)]
      have new : up (up N 41 (40 * c + x) (N 39 c)) 40 (40 * c + N 39 c) x 40 (40 * c + N 39 c) = x := up_s _ _ _ _
      have q41 : ∀ i, up (up (up N 41 (40 * c + x) (N 39 c)) 40 (40 * c + N 39 c) x) 39 c (N 39 c + 1) 41 i = up N 41 (40 * c + x) (N 39 c) 41 i := fun i => by rw [up_c (by decide), up_c (by decide)]
      refine ih (x + 1) (by omega) (by omega) _ (fun k i k1 k2 k3 => by rw [up_c k1, up_c k2, up_c k3]; exact f k i k1 k2 k3) (fun i hi => by rw [up_i hi, up_c (by decide), up_c (by decide)]; exact f39 i hi) (fun i hi => ⟨by rw [q40, up_i (by omega), up_c (by decide)]; exact (f40 i hi).1, by rw [q41, up_i (by omega)]; exact (f40 i hi).2⟩) ?_ ?_
      · rw [q39]
        refine ⟨by omega, fun i j i1 i2 i3 => ?_, fun i i1 i2 => ?_, fun y hy hp => ?_⟩
        · show up _ 39 c _ 40 (40 * c + i) < up _ 39 c _ 40 (40 * c + j)
          rw [q40, q40, old i i1 (by omega)]
          by_cases e : j = N 39 c
          · subst e; rw [new]; have : N 40 (40 * c + i) < ((x.toNat : Nat) : Int) := (a2 i i1 (by omega)).2.1; omega
          · rw [old j (by omega) (by omega)]; exact a1 i j i1 i2 (by omega)
        · show 0 ≤ up _ 39 c _ 40 (40 * c + i) ∧ up _ 39 c _ 40 (40 * c + i) < _ ∧ posB M z (up _ 39 c _ 40 (40 * c + i)).toNat = true
          rw [q40]
          by_cases e : i = N 39 c
          · subst e; rw [new]; exact ⟨x1, by omega, yp⟩
          · rw [old i i1 (by omega)]
            have := a2 i i1 (by omega)
            exact ⟨this.1, by have t : N 40 (40 * c + i) < ((x.toNat : Nat) : Int) := this.2.1; omega, this.2.2⟩
        · by_cases e : y = x.toNat
          · exact ⟨N 39 c, a0, by omega, by show up _ 39 c _ 40 (40 * c + N 39 c) = _; rw [q40, new]; omega⟩
          · obtain ⟨i, i1, i2, i3⟩ := a3 y (by omega) hp
            exact ⟨i, i1, by omega, by show up _ 39 c _ 40 (40 * c + i) = _; rw [q40, old i i1 i2]; exact i3⟩
      · intro j j1 j2
        rw [q39] at j2
        rw [q40, q41]
        by_cases e : j = N 39 c
        · subst e; rw [new, up_s]
        · rw [old j j1 (by omega)]
          have : N 40 (40 * c + j) < ((x.toNat : Nat) : Int) := (a2 j j1 (by omega)).2.1
          rw [up_i (by omega)]
          exact h41 j j1 (by omega)
