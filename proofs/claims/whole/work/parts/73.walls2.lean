/-! ===== theory: a wall is its scaffold, below the temperature ===== -/
abbrev wAt (G : Mem) (t : Int) : Int → Int → Int := fun o r => WA G o r t
theorem sc_ev {G : Mem} {n z s k : Int} (hG : Good n G) (hz : 0 ≤ z ∧ z < n) (hs : 0 ≤ s ∧ s ≤ 1) (hk : 0 ≤ k ∧ k < 7200) : ∀ m : Nat, ((m + 1 : Nat) : Int) ≤ G 3 (2 * z + s) → scB (wAt G (2 * k)) G z s (m + 1) = sgS s * txS G z s k (m + 1) := by
  have o := (opS_r (hG.2.2 z hz.1 hz.2).1.1 hs).2.2
  intro m
  induction m with
  | zero =>
    intro hm
    have oi := o 0 (by omega) (by omega)
    have hw := wa_ev hG (z := opt G z s 0) (s := 1 - s) ⟨oi.1, by omega⟩ (by omega) hk
    have hb := wa_bd hG (z := opt G z s 0) (s := 1 - s) (t := 2 * k) ⟨oi.1, by omega⟩ (by omega) (by omega)
    rw [hw] at hb
    rw [scB, scB, txS, txS]
    show (if sgS s * WA G (opt G z s 0) (1 - s) (2 * k) ≤ -16777216 then _ else sgS s * WA G (opt G z s 0) (1 - s) (2 * k)) = _
    rw [hw]
    show _ = sgS s * (if s = 0 then if (if s = 0 then (-1000000 : Int) else 1000000) < smpl G (opt G z s 0) (1 - s) k then smpl G (opt G z s 0) (1 - s) k else _ else if smpl G (opt G z s 0) (1 - s) k < (if s = 0 then (-1000000 : Int) else 1000000) then smpl G (opt G z s 0) (1 - s) k else _)
    rcases (show s = 0 ∨ s = 1 by omega) with rfl | rfl
    · simp only [sgS, if_true, (show (1 : Int) - 0 = 1 from rfl)] at hb ⊢
      rw [if_neg (by omega), if_pos (by omega)]
    · simp only [sgS, if_true, if_false, (show ¬ ((1 : Int) = 0) by decide), (show (1 : Int) - 1 = 0 from rfl)] at hb ⊢
      rw [if_neg (by omega), if_pos (by omega)]
  | succ m ih =>
    intro hm
    have i1 := ih (by omega)
    have oi := o ((m + 1 : Nat) : Int) (by omega) (by omega)
    have hw := wa_ev hG (z := opt G z s ((m + 1 : Nat) : Int)) (s := 1 - s) ⟨oi.1, by omega⟩ (by omega) hk
    rw [scB, txS, i1]
    show (if sgS s * WA G (opt G z s ((m + 1 : Nat) : Int)) (1 - s) (2 * k) ≤ _ then _ else sgS s * WA G (opt G z s ((m + 1 : Nat) : Int)) (1 - s) (2 * k)) = _
    rw [hw]
    show _ = sgS s * (if s = 0 then if txS G z s k (m + 1) < smpl G (opt G z s ((m + 1 : Nat) : Int)) (1 - s) k then smpl G (opt G z s ((m + 1 : Nat) : Int)) (1 - s) k else _ else if smpl G (opt G z s ((m + 1 : Nat) : Int)) (1 - s) k < txS G z s k (m + 1) then smpl G (opt G z s ((m + 1 : Nat) : Int)) (1 - s) k else _)
    generalize smpl G (opt G z s ((m + 1 : Nat) : Int)) (1 - s) k = a
    generalize txS G z s k (m + 1) = b
    rcases (show s = 0 ∨ s = 1 by omega) with rfl | rfl
    · simp only [sgS, if_true]
      split <;> split <;> omega
    · simp only [sgS, if_false, (show ¬ ((1 : Int) = 0) by decide)]
      split <;> split <;> omega
theorem sc_od {G : Mem} {n z s k : Int} (hG : Good n G) (hz : 0 ≤ z ∧ z < n) (hs : 0 ≤ s ∧ s ≤ 1) (hk : 0 ≤ k ∧ k < 7199) : ∀ m : Nat, ((m + 1 : Nat) : Int) ≤ G 3 (2 * z + s) → 2 * scB (wAt G (2 * k + 1)) G z s (m + 1) = sgS s * (txS G z s k (m + 1) + txS G z s (k + 1) (m + 1)) ∧ 2 ∣ txS G z s k (m + 1) ∧ (txS G z s (k + 1) (m + 1) = txS G z s k (m + 1) ∨ txS G z s (k + 1) (m + 1) = txS G z s k (m + 1) + 2 * sgS s) := by
  have o := (opS_r (hG.2.2 z hz.1 hz.2).1.1 hs).2.2
  have key : ∀ i, 0 ≤ i → i < G 3 (2 * z + s) → ∃ a b w, smpl G (opt G z s i) (1 - s) k = a ∧ smpl G (opt G z s i) (1 - s) (k + 1) = b ∧ WA G (opt G z s i) (1 - s) (2 * k + 1) = w ∧ 2 ∣ a ∧ (b = a ∨ b = a + 2 * sgS s) ∧ 2 * w = a + b ∧ -14336 ≤ w ∧ w ≤ 14336 := by
    intro i i1 i2
    have oi := o i i1 i2
    have hw := wa_od hG (z := opt G z s i) (s := 1 - s) ⟨oi.1, by omega⟩ (by omega) hk
    have hb := wa_bd hG (z := opt G z s i) (s := 1 - s) (t := 2 * k + 1) ⟨oi.1, by omega⟩ (by omega) (by omega)
    have st := sm_step hG (z := opt G z s i) ⟨oi.1, by omega⟩ hk
    refine ⟨_, _, _, rfl, rfl, rfl, ?_, ?_, hw, hb⟩
    · rcases (show s = 0 ∨ s = 1 by omega) with rfl | rfl
      · exact st.2.1
      · exact st.1.1
    · rcases (show s = 0 ∨ s = 1 by omega) with rfl | rfl
      · exact st.2.2
      · have := st.1.2; simp only [sgS, if_false, (show ¬ ((1 : Int) = 0) by decide)]; exact this
  intro m
  induction m with
  | zero =>
    intro hm
    obtain ⟨a, b, w, ha, hb, hw, q1, q2, q3, q4⟩ := key 0 (by omega) (by omega)
    rw [scB, scB, txS, txS, txS, txS]
    show 2 * (if sgS s * WA G (opt G z s 0) (1 - s) (2 * k + 1) ≤ -16777216 then (-16777216 : Int) else sgS s * WA G (opt G z s 0) (1 - s) (2 * k + 1)) = sgS s * ((if s = 0 then if (if s = 0 then (-1000000 : Int) else 1000000) < smpl G (opt G z s 0) (1 - s) k then smpl G (opt G z s 0) (1 - s) k else (if s = 0 then (-1000000 : Int) else 1000000) else if smpl G (opt G z s 0) (1 - s) k < (if s = 0 then (-1000000 : Int) else 1000000) then smpl G (opt G z s 0) (1 - s) k else (if s = 0 then (-1000000 : Int) else 1000000)) + (if s = 0 then if (if s = 0 then (-1000000 : Int) else 1000000) < smpl G (opt G z s 0) (1 - s) (k + 1) then smpl G (opt G z s 0) (1 - s) (k + 1) else (if s = 0 then (-1000000 : Int) else 1000000) else if smpl G (opt G z s 0) (1 - s) (k + 1) < (if s = 0 then (-1000000 : Int) else 1000000) then smpl G (opt G z s 0) (1 - s) (k + 1) else (if s = 0 then (-1000000 : Int) else 1000000)))
      ∧ (2 : Int) ∣ (if s = 0 then if (if s = 0 then (-1000000 : Int) else 1000000) < smpl G (opt G z s 0) (1 - s) k then smpl G (opt G z s 0) (1 - s) k else (if s = 0 then (-1000000 : Int) else 1000000) else if smpl G (opt G z s 0) (1 - s) k < (if s = 0 then (-1000000 : Int) else 1000000) then smpl G (opt G z s 0) (1 - s) k else (if s = 0 then (-1000000 : Int) else 1000000)) ∧ _
    rw [hw]
    rw [show G 4 (8 * z + 4 * s + ((0 : Nat) : Int)) = opt G z s 0 from rfl, ha, hb]
    clear ha hb hw
    rcases (show s = 0 ∨ s = 1 by omega) with rfl | rfl
    · simp only [sgS, if_true] at q2 ⊢
      rw [if_neg (by omega), if_pos (by omega), if_pos (by omega)]
      omega
    · simp only [sgS, if_true, if_false, (show ¬ ((1 : Int) = 0) by decide)] at q2 ⊢
      rw [if_neg (by omega), if_pos (by omega), if_pos (by omega)]
      omega
  | succ m ih =>
    intro hm
    have i1 := ih (by omega)
    obtain ⟨a, b, w, ha, hb, hw, q1, q2, q3, q4⟩ := key ((m + 1 : Nat) : Int) (by omega) (by omega)
    have ex : ∀ k', txS G z s k' (m + 1 + 1) = if s = 0 then (if txS G z s k' (m + 1) < smpl G (opt G z s ((m + 1 : Nat) : Int)) (1 - s) k' then smpl G (opt G z s ((m + 1 : Nat) : Int)) (1 - s) k' else txS G z s k' (m + 1)) else (if smpl G (opt G z s ((m + 1 : Nat) : Int)) (1 - s) k' < txS G z s k' (m + 1) then smpl G (opt G z s ((m + 1 : Nat) : Int)) (1 - s) k' else txS G z s k' (m + 1)) := fun k' => rfl
    rw [scB, ex k, ex (k + 1)]
    rw [show wAt G (2 * k + 1) (opt G z s ((m + 1 : Nat) : Int)) (1 - s) = WA G (opt G z s ((m + 1 : Nat) : Int)) (1 - s) (2 * k + 1) from rfl, hw]
    rw [ha, hb]
    clear ha hb hw
    revert i1
    generalize txS G z s k (m + 1) = A
    generalize txS G z s (k + 1) (m + 1) = B
    generalize scB (wAt G (2 * k + 1)) G z s (m + 1) = W
    intro i1
    rcases (show s = 0 ∨ s = 1 by omega) with rfl | rfl
    · simp only [sgS, if_true] at i1 q2 ⊢
      split <;> split <;> split <;> omega
    · simp only [sgS, if_false, (show ¬ ((1 : Int) = 0) by decide)] at i1 q2 ⊢
      split <;> split <;> split <;> omega
/-- the scaffold at t by the reference's taxed walls -/
theorem scF_ev {G : Mem} {n z s k : Int} (hG : Good n G) (hz : 0 ≤ z ∧ z < n) (hs : 0 ≤ s ∧ s ≤ 1) (hk : 0 ≤ k ∧ k < 7200) (h1 : 1 ≤ G 3 (2 * z + s)) : scF (wAt G (2 * k)) G z s (2 * k) = txF G z s k := by
  obtain ⟨m, hm⟩ : ∃ m : Nat, (G 3 (2 * z + s)).toNat = m + 1 := ⟨(G 3 (2 * z + s)).toNat - 1, by omega⟩
  have h := sc_ev hG hz hs hk m (by omega)
  rw [scF, txF, hm, h]
  rcases (show s = 0 ∨ s = 1 by omega) with rfl | rfl
  · simp only [sgS, if_true]; omega
  · simp only [sgS, if_false, (show ¬ ((1 : Int) = 0) by decide)]; omega
theorem scF_od {G : Mem} {n z s k : Int} (hG : Good n G) (hz : 0 ≤ z ∧ z < n) (hs : 0 ≤ s ∧ s ≤ 1) (hk : 0 ≤ k ∧ k < 7199) (h1 : 1 ≤ G 3 (2 * z + s)) : 2 * scF (wAt G (2 * k + 1)) G z s (2 * k + 1) = txF G z s k + txF G z s (k + 1) ∧ 2 ∣ txF G z s k ∧ 2 ∣ txF G z s (k + 1) := by
  obtain ⟨m, hm⟩ : ∃ m : Nat, (G 3 (2 * z + s)).toNat = m + 1 := ⟨(G 3 (2 * z + s)).toNat - 1, by omega⟩
  have h := sc_od hG hz hs hk m (by omega)
  rw [scF, txF, txF, hm]
  rcases (show s = 0 ∨ s = 1 by omega) with rfl | rfl
  · simp only [sgS, if_true] at h ⊢; omega
  · simp only [sgS, if_false, (show ¬ ((1 : Int) = 0) by decide)] at h ⊢; omega
theorem wa_eq {G : Mem} {n z s t : Int} (hG : Good n G) (hz : 0 ≤ z ∧ z < n) (hs : 0 ≤ s ∧ s ≤ 1) (ht : 0 ≤ t) : (G 14 z ≤ t → WA G z s t = G 13 z) ∧ (t < G 14 z → G 6 z = 0 ∧ WA G z s t = scF (wAt G t) G z s t) := by
  obtain ⟨hD, hO, hc, hh, hI⟩ := hG.2.2 z hz.1 hz.2
  have hd := hD.2.2.1
  obtain ⟨k, hk⟩ : ∃ k, k = t / 2 := ⟨_, rfl⟩
  rcases (show G 6 z = 1 ∨ G 6 z = 0 by have := hO.2.1.1; omega) with q | q
  · obtain ⟨a, b, c⟩ := hc q
    refine ⟨fun _ => ?_, fun q => absurd q (by omega)⟩
    rcases Int.lt_or_le t 14398 with r | r
    · have c1 := c s k hs.1 hs.2 (by omega) (by omega)
      have c2 := c s (k + 1) hs.1 hs.2 (by omega) (by omega)
      rcases (show t = 2 * k ∨ t = 2 * k + 1 by omega) with rfl | rfl
      · rw [wa_ev hG hz hs (by omega), c1, a]
      · have := wa_od hG hz hs (k := k) (by omega); omega
    · exact wa_far r
  · obtain ⟨g0, g1, kt, a1, a2, a3, a4, a5, a6, a7, c⟩ := hh q
    have gs : 1 ≤ G 3 (2 * z + s) := by rcases (show s = 0 ∨ s = 1 by omega) with rfl | rfl <;> assumption
    have as : txF G z s kt = G 13 z := by rcases (show s = 0 ∨ s = 1 by omega) with rfl | rfl <;> assumption
    refine ⟨fun r0 => ?_, fun r0 => ⟨q, ?_⟩⟩
    · rcases Int.lt_or_le t 14398 with r | r
      · have c1 := c s k hs.1 hs.2 (by omega) (by omega)
        have c2 := c s (k + 1) hs.1 hs.2 (by omega) (by omega)
        rw [if_neg (by omega)] at c1 c2
        rcases (show t = 2 * k ∨ t = 2 * k + 1 by omega) with rfl | rfl
        · rw [wa_ev hG hz hs (by omega), c1]
        · have := wa_od hG hz hs (k := k) (by omega); omega
      · exact wa_far r
    · have c1 := c s k hs.1 hs.2 (by omega) (by omega)
      have c2 := c s (k + 1) hs.1 hs.2 (by omega) (by omega)
      rw [if_pos (by omega)] at c1
      have c2' : smpl G z s (k + 1) = txF G z s (k + 1) := by
        rw [c2]; split
        · rfl
        · rw [show k + 1 = kt by omega]; exact as.symm
      rcases (show t = 2 * k ∨ t = 2 * k + 1 by omega) with rfl | rfl
      · rw [wa_ev hG hz hs (by omega), c1, scF_ev hG hz hs (by omega) gs]
      · have := wa_od hG hz hs (k := k) (by omega)
        have := scF_od hG hz hs (k := k) (by omega) gs
        omega
/-- scaffolds draw nearer -/
theorem scB_st {G : Mem} {n z s t : Int} (hG : Good n G) (hz : 0 ≤ z ∧ z < n) (hs : 0 ≤ s ∧ s ≤ 1) (ht : 0 ≤ t) : ∀ m : Nat, (m : Int) ≤ G 3 (2 * z + s) → scB (wAt G t) G z s m ≤ scB (wAt G (t + 1)) G z s m ∧ scB (wAt G (t + 1)) G z s m ≤ scB (wAt G t) G z s m + 1 := by
  have o := (opS_r (hG.2.2 z hz.1 hz.2).1.1 hs).2.2
  intro m
  induction m with
  | zero => intro _; simp only [scB]; omega
  | succ m ih =>
    intro hm
    have i1 := ih (by omega)
    have oi := o m (by omega) (by omega)
    have st := wa_step hG (z := opt G z s m) (t := t) ⟨oi.1, by omega⟩ ht
    rw [scB, scB]
    show (if sgS s * WA G (opt G z s m) (1 - s) t ≤ _ then _ else sgS s * WA G (opt G z s m) (1 - s) t) ≤ (if sgS s * WA G (opt G z s m) (1 - s) (t + 1) ≤ _ then _ else sgS s * WA G (opt G z s m) (1 - s) (t + 1)) ∧ (if sgS s * WA G (opt G z s m) (1 - s) (t + 1) ≤ _ then _ else sgS s * WA G (opt G z s m) (1 - s) (t + 1)) ≤ (if sgS s * WA G (opt G z s m) (1 - s) t ≤ _ then _ else sgS s * WA G (opt G z s m) (1 - s) t) + 1
    have h : sgS s * WA G (opt G z s m) (1 - s) t ≤ sgS s * WA G (opt G z s m) (1 - s) (t + 1) ∧ sgS s * WA G (opt G z s m) (1 - s) (t + 1) ≤ sgS s * WA G (opt G z s m) (1 - s) t + 1 := by
      rcases (show s = 0 ∨ s = 1 by omega) with rfl | rfl
      · simp only [sgS, if_true, (show (1 : Int) - 0 = 1 from rfl)]; omega
      · simp only [sgS, if_false, (show ¬ ((1 : Int) = 0) by decide), (show (1 : Int) - 1 = 0 from rfl)]; omega
    revert h i1
    generalize sgS s * WA G (opt G z s m) (1 - s) t = a
    generalize sgS s * WA G (opt G z s m) (1 - s) (t + 1) = b
    generalize scB (wAt G t) G z s m = c
    generalize scB (wAt G (t + 1)) G z s m = d
    intro i1 h
    split <;> split <;> omega
/-- the left scaffold lies above the right one just below the temperature -/
theorem sc_hot {G : Mem} {n z t : Int} (hG : Good n G) (hz : 0 ≤ z ∧ z < n) (hq : G 6 z = 0) (ht : 0 ≤ t) : scF (wAt G t) G z 1 t < scF (wAt G t) G z 0 t ↔ t < G 14 z := by
  obtain ⟨hD, hO, hc, hh, hI⟩ := hG.2.2 z hz.1 hz.2
  have hd := hD.2.2.1
  obtain ⟨g0, g1, kt, a1, a2, a3, a4, a5, a6, a7, c⟩ := hh hq
  have far : ∀ j : Nat, scF (wAt G (2 * kt + j)) G z 0 (2 * kt + j) ≤ scF (wAt G (2 * kt + j)) G z 1 (2 * kt + j) := by
    intro j
    induction j with
    | zero =>
      rw [show (2 * kt + ((0 : Nat) : Int)) = 2 * kt by omega, scF_ev hG hz (by omega) (by omega) g0, scF_ev hG hz (by omega) (by omega) g1]
      omega
    | succ j ih =>
      have s0 := scB_st hG hz (s := 0) (t := 2 * kt + j) (by omega) (by omega) (G 3 (2 * z + 0)).toNat (by omega)
      have s1 := scB_st hG hz (s := 1) (t := 2 * kt + j) (by omega) (by omega) (G 3 (2 * z + 1)).toNat (by omega)
      rw [show (2 * kt + ((j + 1 : Nat) : Int)) = 2 * kt + j + 1 by omega]
      simp only [scF, sgS, if_true, if_false, (show ¬ ((1 : Int) = 0) by decide)] at ih ⊢
      omega
  constructor
  · intro q
    rcases Int.lt_or_le t (G 14 z) with r | r
    · exact r
    · have := far (t - 2 * kt).toNat
      rw [show 2 * kt + ((t - 2 * kt).toNat : Int) = t by omega] at this
      omega
  · intro q
    obtain ⟨k, hk⟩ : ∃ k, k = t / 2 := ⟨_, rfl⟩
    have l1 := a7 k (by omega) (by omega)
    rcases (show t = 2 * k ∨ t = 2 * k + 1 by omega) with rfl | rfl
    · rw [scF_ev hG hz (by omega) (by omega) g0, scF_ev hG hz (by omega) (by omega) g1]
      exact l1
    · have x0 := scF_od hG hz (s := 0) (k := k) (by omega) (by omega) g0
      have x1 := scF_od hG hz (s := 1) (k := k) (by omega) (by omega) g1
      have l2 : txF G z 1 (k + 1) ≤ txF G z 0 (k + 1) := by
        rcases Int.lt_or_le (k + 1) kt with r | r
        · exact Int.le_of_lt (a7 _ (by omega) r)
        · rw [show k + 1 = kt by omega, a5, a6]; exact Int.le_refl _
      omega
