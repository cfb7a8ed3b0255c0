/-! ===== good games ===== -/
/-- the grid of a depth -/
def un (d : Int) : Int := 2 ^ (6 - d).toNat
theorem d7 {d : Int} (h : 0 ≤ d ∧ d ≤ 6) : d = 0 ∨ d = 1 ∨ d = 2 ∨ d = 3 ∨ d = 4 ∨ d = 5 ∨ d = 6 := by omega
theorem un_r {d : Int} (h : 0 ≤ d ∧ d ≤ 6) : 0 < un d ∧ un d ≤ 64 := by
  rcases d7 h with rfl | rfl | rfl | rfl | rfl | rfl | rfl <;> decide
theorem un_s {d : Int} (h : 1 ≤ d ∧ d ≤ 6) : un (d - 1) = 2 * un d := by
  rcases d7 ⟨by omega, h.2⟩ with rfl | rfl | rfl | rfl | rfl | rfl | rfl
  · omega
  all_goals decide
theorem un_d {d : Int} (h : 0 ≤ d ∧ d ≤ 6) : 2 * un d ∣ 7168 := by
  rcases d7 h with rfl | rfl | rfl | rfl | rfl | rfl | rfl <;> decide
theorem un_e {d : Int} (h : 0 ≤ d ∧ d ≤ 6) : 2 * un d = 2 ^ (7 - d).toNat := by
  rcases d7 h with rfl | rfl | rfl | rfl | rfl | rfl | rfl <;> decide
theorem CL.mono {f : Int → Int} : ∀ (n : Nat) (a b : Int), 0 ≤ a → b ≤ 6 → b - a = n → CL f (un a) → CL f (un b) := by
  intro n
  induction n with
  | zero => intro a b _ _ h hc; rw [show b = a by omega]; exact hc
  | succ n ih =>
    intro a b h1 h2 h3 hc
    have h := ih a (b - 1) h1 (by omega) (by omega) hc
    rw [un_s (by omega)] at h
    exact h.fine (un_r (by omega)).1 (un_d (by omega))
theorem CR.mono {f : Int → Int} (n : Nat) (a b : Int) (h1 : 0 ≤ a) (h2 : b ≤ 6) (h3 : b - a = n) (h : CR f (un a)) : CR f (un b) := by
  have := (CL.mono n a b h1 h2 h3 h.neg).neg
  refine this.cg (un_r (by omega)).1 (fun k _ _ => ?_)
  omega
abbrev opt (G : Mem) (z s i : Int) : Int := G 4 (8 * z + 4 * s + i)
/-- how a game is made -/
def Dat (G : Mem) (z : Int) : Prop := OpS G z ∧ (∀ s, 0 ≤ s → s ≤ 1 → ∀ i j, 0 ≤ i → i < j → j < G 3 (2 * z + s) → opt G z s i < opt G z s j) ∧ (0 ≤ G 5 z ∧ G 5 z ≤ 6) ∧
  (G 1 z ≠ 0 → G 3 (2 * z + 0) = 0 ∧ G 3 (2 * z + 1) = 0 ∧ G 5 z = 0 ∧ ∃ e, -64 ≤ e ∧ e ≤ 64 ∧ G 2 z = 128 * e) ∧
  (G 1 z = 0 → 1 ≤ G 5 z ∧ (∀ s, 0 ≤ s → s ≤ 1 → ∀ i, 0 ≤ i → i < G 3 (2 * z + s) → G 5 (opt G z s i) < G 5 z) ∧ (G 5 z = 1 ∨ ∃ s i, 0 ≤ s ∧ s ≤ 1 ∧ 0 ≤ i ∧ i < G 3 (2 * z + s) ∧ G 5 (opt G z s i) = G 5 z - 1))
/-- the walls of a cold game, of a hot one -/
def ColdW (G : Mem) (z : Int) : Prop := G 13 z = G 7 z ∧ G 14 z = -1 ∧ ∀ s j, 0 ≤ s → s ≤ 1 → 0 ≤ j → j < 7200 → smpl G z s j = G 7 z
def HotW (G : Mem) (z : Int) : Prop := 1 ≤ G 3 (2 * z + 0) ∧ 1 ≤ G 3 (2 * z + 1) ∧ ∃ kt, 0 ≤ kt ∧ kt ≤ 512 * (7 + G 5 z) ∧ un (G 5 z) ∣ kt ∧ G 14 z = 2 * kt ∧ txF G z 0 kt = G 13 z ∧ txF G z 1 kt = G 13 z ∧ (∀ j, 0 ≤ j → j < kt → txF G z 1 j < txF G z 0 j) ∧ ∀ s j, 0 ≤ s → s ≤ 1 → 0 ≤ j → j < 7200 → smpl G z s j = if j < kt then txF G z s j else G 13 z
def Bd (d x : Int) : Prop := -(1024 * (8 + d)) ≤ x ∧ x ≤ 1024 * (8 + d)
def Inv (G : Mem) (z : Int) : Prop := CL (smpl G z 0) (un (G 5 z)) ∧ CR (smpl G z 1) (un (G 5 z)) ∧ (∀ s j, 0 ≤ s → s ≤ 1 → 0 ≤ j → j < 7200 → Bd (G 5 z) (smpl G z s j)) ∧
  (Bd (G 5 z) (G 7 z) ∧ Bd (G 5 z) (G 8 z) ∧ Bd (G 5 z) (G 10 z) ∧ Bd (G 5 z) (G 13 z)) ∧ smpl G z 0 0 = G 10 z ∧ smpl G z 1 0 = G 8 z
def GG (G : Mem) (z : Int) : Prop := Dat G z ∧ Ord G z ∧ (G 6 z = 1 → ColdW G z) ∧ (G 6 z = 0 → HotW G z) ∧ Inv G z
/-- what the options of a composed game give -/
def OpI (G : Mem) (z d : Int) : Prop := ∀ s, 0 ≤ s → s ≤ 1 → ∀ i, 0 ≤ i → i < G 3 (2 * z + s) → (CL (smpl G (opt G z s i) 0) (2 * un d) ∧ CR (smpl G (opt G z s i) 1) (2 * un d) ∧ (∀ r j, 0 ≤ r → r ≤ 1 → 0 ≤ j → j < 7200 → Bd (d - 1) (smpl G (opt G z s i) r j)) ∧ smpl G (opt G z s i) 0 0 = G 10 (opt G z s i) ∧ smpl G (opt G z s i) 1 0 = G 8 (opt G z s i))
theorem tx0 {G : Mem} {z d : Int} (hd : 1 ≤ d ∧ d ≤ 6) (h : OpI G z d) : ∀ n : Nat, ((n + 1 : Nat) : Int) ≤ G 3 (2 * z + 0) → CR (fun k => txS G z 0 k (n + 1)) (2 * un d) ∧ (∀ k, 0 ≤ k → k < 7200 → Bd (d - 1) (txS G z 0 k (n + 1))) ∧ (loS G z (n + 1)).1 = txS G z 0 0 (n + 1) := by
  have hu := (un_r (d := d) (by omega)).1
  intro n
  induction n with
  | zero =>
    intro hn
    obtain ⟨-, h2, h3, -, h5⟩ := h 0 (by omega) (by omega) 0 (by omega) (by omega)
    have e : ∀ k, 0 ≤ k → k < 7200 → txS G z 0 k (0 + 1) = smpl G (opt G z 0 0) 1 k := by
      intro k k1 k2
      have b := h3 1 k (by omega) (by omega) k1 k2
      unfold Bd at b
      simp only [txS, smpl, if_true] at b ⊢
      rw [if_pos (by show _ < G 15 (7200 * (2 * opt G z 0 0 + 1) + k); omega)]
      rfl
    refine ⟨h2.cg (by omega) (fun k k1 k2 => e k k1 (by omega)), fun k k1 k2 => by rw [e k k1 k2]; exact h3 1 k (by omega) (by omega) k1 k2, ?_⟩
    rw [e 0 (by omega) (by omega), h5]
    have b := h3 1 0 (by omega) (by omega) (by omega) (by omega)
    rw [h5] at b
    unfold Bd at b
    have b2 : (-1000000 : Int) < G 8 (opt G z 0 0) := by omega
    rw [loS]
    exact congrArg Prod.fst (if_pos b2)
  | succ n ih =>
    intro hn
    obtain ⟨i1, i2, i3⟩ := ih (by omega)
    obtain ⟨-, h2, h3, -, h5⟩ := h 0 (by omega) (by omega) ((n + 1 : Nat) : Int) (by omega) (by omega)
    have e : ∀ k, txS G z 0 k (n + 1 + 1) = if txS G z 0 k (n + 1) < smpl G (opt G z 0 ((n + 1 : Nat) : Int)) 1 k then smpl G (opt G z 0 ((n + 1 : Nat) : Int)) 1 k else txS G z 0 k (n + 1) := by
      intro k
      rw [txS, if_pos rfl]
      rfl
    refine ⟨(CR.max (by omega) i1 h2).cg (by omega) (fun k k1 k2 => e k), fun k k1 k2 => ?_, ?_⟩
    · rw [e k]
      split
      · exact h3 1 k (by omega) (by omega) k1 k2
      · exact i2 k k1 k2
    · rw [e 0, h5, ← i3, loS]
      show (if _ then _ else _ : Int × Int).1 = _
      rw [show G 8 (G 4 (8 * z + 4 * 0 + ((n + 1 : Nat) : Int))) = G 8 (opt G z 0 ((n + 1 : Nat) : Int)) from rfl]
      by_cases q : (loS G z (n + 1)).1 < G 8 (opt G z 0 ((n + 1 : Nat) : Int))
      · rw [if_pos q, if_pos q]
      · rw [if_neg q, if_neg q]
        split <;> first | rfl | assumption
theorem tx1 {G : Mem} {z d : Int} (hd : 1 ≤ d ∧ d ≤ 6) (h : OpI G z d) : ∀ n : Nat, ((n + 1 : Nat) : Int) ≤ G 3 (2 * z + 1) → CL (fun k => txS G z 1 k (n + 1)) (2 * un d) ∧ (∀ k, 0 ≤ k → k < 7200 → Bd (d - 1) (txS G z 1 k (n + 1))) ∧ (upS G z (n + 1)).1 = txS G z 1 0 (n + 1) := by
  have hu := (un_r (d := d) (by omega)).1
  intro n
  induction n with
  | zero =>
    intro hn
    obtain ⟨h2, -, h3, h5, -⟩ := h 1 (by omega) (by omega) 0 (by omega) (by omega)
    have e : ∀ k, 0 ≤ k → k < 7200 → txS G z 1 k (0 + 1) = smpl G (opt G z 1 0) 0 k := by
      intro k k1 k2
      have b := h3 0 k (by omega) (by omega) k1 k2
      unfold Bd at b
      simp only [txS, smpl, if_false, (show ¬ ((1 : Int) = 0) by decide)] at b ⊢
      rw [if_pos (by show G 15 (7200 * (2 * opt G z 1 0 + 0) + k) < _; omega)]
      rfl
    refine ⟨h2.cg (by omega) (fun k k1 k2 => e k k1 (by omega)), fun k k1 k2 => by rw [e k k1 k2]; exact h3 0 k (by omega) (by omega) k1 k2, ?_⟩
    rw [e 0 (by omega) (by omega), h5]
    have b := h3 0 0 (by omega) (by omega) (by omega) (by omega)
    rw [h5] at b
    unfold Bd at b
    have b2 : G 10 (opt G z 1 0) < (1000000 : Int) := by omega
    rw [upS]
    exact congrArg Prod.fst (if_pos b2)
  | succ n ih =>
    intro hn
    obtain ⟨i1, i2, i3⟩ := ih (by omega)
    obtain ⟨h2, -, h3, h5, -⟩ := h 1 (by omega) (by omega) ((n + 1 : Nat) : Int) (by omega) (by omega)
    have e : ∀ k, txS G z 1 k (n + 1 + 1) = if smpl G (opt G z 1 ((n + 1 : Nat) : Int)) 0 k < txS G z 1 k (n + 1) then smpl G (opt G z 1 ((n + 1 : Nat) : Int)) 0 k else txS G z 1 k (n + 1) := by
      intro k
      rw [txS, if_neg (by decide)]
      rfl
    refine ⟨(CL.min (by omega) i1 h2).cg (by omega) (fun k k1 k2 => e k), fun k k1 k2 => ?_, ?_⟩
    · rw [e k]
      split
      · exact h3 0 k (by omega) (by omega) k1 k2
      · exact i2 k k1 k2
    · rw [e 0, h5, ← i3, upS]
      show (if _ then _ else _ : Int × Int).1 = _
      rw [show G 10 (G 4 (8 * z + 4 * 1 + ((n + 1 : Nat) : Int))) = G 10 (opt G z 1 ((n + 1 : Nat) : Int)) from rfl]
      by_cases q : G 10 (opt G z 1 ((n + 1 : Nat) : Int)) < (upS G z (n + 1)).1
      · rw [if_pos q, if_pos q]
      · rw [if_neg q, if_neg q]
        split <;> first | rfl | assumption
/-- the edges of a composed game: far, or a multiple of the coarser grid -/
theorem lo_E {G : Mem} {z d : Int} (hd : 1 ≤ d ∧ d ≤ 6) (h : OpI G z d) (hc : 0 ≤ G 3 (2 * z + 0)) : (G 3 (2 * z + 0) = 0 ∧ loF G z = (-1000000, 0)) ∨ (1 ≤ G 3 (2 * z + 0) ∧ Bd (d - 1) (loF G z).1 ∧ 2 * (2 * un d) ∣ (loF G z).1 ∧ (loF G z).1 = txF G z 0 0 ∧ CL (txF G z 0) (2 * un d) ∧ ∀ k, 0 ≤ k → k < 7200 → Bd (d - 1) (txF G z 0 k + 2 * k)) := by
  have hu := (un_r (d := d) (by omega))
  rcases Int.lt_or_le 0 (G 3 (2 * z + 0)) with q | q
  · right
    obtain ⟨n, hn⟩ : ∃ n : Nat, (G 3 (2 * z + 0)).toNat = n + 1 := ⟨(G 3 (2 * z + 0)).toNat - 1, by omega⟩
    obtain ⟨a, b, c⟩ := tx0 hd h n (by omega)
    have e : ∀ k, txF G z 0 k = txS G z 0 k (n + 1) - 2 * k := fun k => by rw [txF, if_pos rfl, hn]
    have e0 : (loF G z).1 = txS G z 0 0 (n + 1) := by rw [loF, hn]; exact c
    refine ⟨by omega, by rw [e0]; exact b 0 (by omega) (by omega), ?_, by rw [e0, e 0]; omega, a.tax.cg (by omega) (fun k _ _ => e k), fun k k1 k2 => by rw [e k, show txS G z 0 k (n + 1) - 2 * k + 2 * k = txS G z 0 k (n + 1) by omega]; exact b k k1 k2⟩
    rw [e0]
    exact (a 0 (by omega) (Int.dvd_zero _) (by omega)).1
  · left
    have : G 3 (2 * z + 0) = 0 := by omega
    exact ⟨this, by rw [loF, this]; rfl⟩
theorem up_E {G : Mem} {z d : Int} (hd : 1 ≤ d ∧ d ≤ 6) (h : OpI G z d) (hc : 0 ≤ G 3 (2 * z + 1)) : (G 3 (2 * z + 1) = 0 ∧ upF G z = (1000000, 0)) ∨ (1 ≤ G 3 (2 * z + 1) ∧ Bd (d - 1) (upF G z).1 ∧ 2 * (2 * un d) ∣ (upF G z).1 ∧ (upF G z).1 = txF G z 1 0 ∧ CR (txF G z 1) (2 * un d) ∧ ∀ k, 0 ≤ k → k < 7200 → Bd (d - 1) (txF G z 1 k - 2 * k)) := by
  have hu := (un_r (d := d) (by omega))
  rcases Int.lt_or_le 0 (G 3 (2 * z + 1)) with q | q
  · right
    obtain ⟨n, hn⟩ : ∃ n : Nat, (G 3 (2 * z + 1)).toNat = n + 1 := ⟨(G 3 (2 * z + 1)).toNat - 1, by omega⟩
    obtain ⟨a, b, c⟩ := tx1 hd h n (by omega)
    have e : ∀ k, txF G z 1 k = txS G z 1 k (n + 1) + 2 * k := fun k => by rw [txF, if_neg (by decide), hn]
    have e0 : (upF G z).1 = txS G z 1 0 (n + 1) := by rw [upF, hn]; exact c
    refine ⟨by omega, by rw [e0]; exact b 0 (by omega) (by omega), ?_, by rw [e0, e 0]; omega, a.tax.cg (by omega) (fun k _ _ => e k), fun k k1 k2 => by rw [e k, show txS G z 1 k (n + 1) + 2 * k - 2 * k = txS G z 1 k (n + 1) by omega]; exact b k k1 k2⟩
    rw [e0]
    exact (a 0 (by omega) (Int.dvd_zero _) (by omega)).1
  · left
    have : G 3 (2 * z + 1) = 0 := by omega
    exact ⟨this, by rw [upF, this]; rfl⟩
