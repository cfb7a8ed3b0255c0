/-! ===== theory: walls at every t ===== -/
theorem CL.even {f : Int → Int} {u : Int} (hu : 0 < u) (h7 : u ∣ 7168) (h : CL f u) {k : Int} (hk : 0 ≤ k) (hb : k < 7168) : 2 ∣ f k := by
  obtain ⟨K, j, h1, h2, h3, h4, h5, rfl⟩ := in_cell hu h7 hk hb
  obtain ⟨d, l⟩ := h K h1 h2 h3
  have d2 : (2 : Int) ∣ f K := Int.dvd_trans (Int.dvd_mul_right 2 u) d
  rcases l with l | l
  · rw [l j h4 (by omega)]; exact d2
  · rw [l j h4 (by omega)]; omega
theorem CR.even {f : Int → Int} {u : Int} (hu : 0 < u) (h7 : u ∣ 7168) (h : CR f u) {k : Int} (hk : 0 ≤ k) (hb : k < 7168) : 2 ∣ f k := by
  have := h.neg.even hu h7 hk hb
  omega
theorem un_7 {d : Int} (h : 0 ≤ d ∧ d ≤ 6) : un d ∣ 7168 := Int.dvd_trans (Int.dvd_mul_left 2 _) (un_d h)
/-- the samples of a good game far out are its mean -/
theorem sm_far {G : Mem} {n z s k : Int} (hG : Good n G) (hz : 0 ≤ z ∧ z < n) (hs : 0 ≤ s ∧ s ≤ 1) (hk : 6656 ≤ k ∧ k < 7200) : smpl G z s k = G 13 z := by
  obtain ⟨hD, hO, hc, hh, hI⟩ := hG.2.2 z hz.1 hz.2
  have hd := hD.2.2.1
  rcases (show G 6 z = 1 ∨ G 6 z = 0 by have := hO.2.1.1; omega) with q | q
  · obtain ⟨a, b, c⟩ := hc q
    rw [c s k hs.1 hs.2 (by omega) hk.2, a]
  · obtain ⟨-, -, kt, a, b, -, -, -, -, -, c⟩ := hh q
    rw [c s k hs.1 hs.2 (by omega) hk.2, if_neg (by omega)]
theorem sm_step {G : Mem} {n z k : Int} (hG : Good n G) (hz : 0 ≤ z ∧ z < n) (hk : 0 ≤ k ∧ k < 7199) : (2 ∣ smpl G z 0 k ∧ (smpl G z 0 (k + 1) = smpl G z 0 k ∨ smpl G z 0 (k + 1) = smpl G z 0 k - 2)) ∧ 2 ∣ smpl G z 1 k ∧ (smpl G z 1 (k + 1) = smpl G z 1 k ∨ smpl G z 1 (k + 1) = smpl G z 1 k + 2) := by
  obtain ⟨hD, hO, hc, hh, hI⟩ := hG.2.2 z hz.1 hz.2
  have hd := hD.2.2.1
  have hu := (un_r hd).1
  have h7 := un_7 hd
  rcases Int.lt_or_le k 7168 with q | q
  · exact ⟨⟨hI.1.even hu h7 hk.1 q, hI.1.step hu h7 hk.1 q⟩, hI.2.1.even hu h7 hk.1 q, hI.2.1.step hu h7 hk.1 q⟩
  · have e : ∀ s, 0 ≤ s → s ≤ 1 → ∀ j, 6656 ≤ j → j < 7200 → smpl G z s j = G 13 z := fun s s1 s2 j j1 j2 => sm_far hG hz ⟨s1, s2⟩ ⟨j1, j2⟩
    have v0 := hI.1.even hu h7 (k := 7000) (by omega) (by omega)
    have v1 := hI.2.1.even hu h7 (k := 7000) (by omega) (by omega)
    rw [e 0 (by omega) (by omega) 7000 (by omega) (by omega)] at v0
    rw [e 0 (by omega) (by omega) k (by omega) (by omega), e 0 (by omega) (by omega) (k + 1) (by omega) (by omega), e 1 (by omega) (by omega) k (by omega) (by omega), e 1 (by omega) (by omega) (k + 1) (by omega) (by omega)]
    exact ⟨⟨v0, Or.inl rfl⟩, v0, Or.inl rfl⟩
/-- the wall at t -/
def WA (G : Mem) (z s t : Int) : Int := if 14398 ≤ t then G 13 z else if t % 2 = 0 then smpl G z s (t / 2) else (smpl G z s (t / 2) + smpl G z s (t / 2 + 1)) / 2
theorem wa_ev {G : Mem} {n z s k : Int} (hG : Good n G) (hz : 0 ≤ z ∧ z < n) (hs : 0 ≤ s ∧ s ≤ 1) (hk : 0 ≤ k ∧ k < 7200) : WA G z s (2 * k) = smpl G z s k := by
  unfold WA
  split
  · exact (sm_far hG hz hs (by omega)).symm
  · rw [if_pos (by omega), show 2 * k / 2 = k by omega]
theorem wa_od {G : Mem} {n z s k : Int} (hG : Good n G) (hz : 0 ≤ z ∧ z < n) (hs : 0 ≤ s ∧ s ≤ 1) (hk : 0 ≤ k ∧ k < 7199) : 2 * WA G z s (2 * k + 1) = smpl G z s k + smpl G z s (k + 1) := by
  have st := sm_step hG hz hk
  unfold WA
  rw [if_neg (by omega), if_neg (by omega), show (2 * k + 1) / 2 = k by omega]
  rcases (show s = 0 ∨ s = 1 by omega) with rfl | rfl <;> omega
theorem wa_far {G : Mem} {z s t : Int} (ht : 14398 ≤ t) : WA G z s t = G 13 z := by
  unfold WA
  rw [if_pos ht]
theorem wa_step {G : Mem} {n z t : Int} (hG : Good n G) (hz : 0 ≤ z ∧ z < n) (ht : 0 ≤ t) : (WA G z 0 (t + 1) = WA G z 0 t ∨ WA G z 0 (t + 1) = WA G z 0 t - 1) ∧ (WA G z 1 (t + 1) = WA G z 1 t ∨ WA G z 1 (t + 1) = WA G z 1 t + 1) := by
  rcases Int.lt_or_le t 14398 with q | q
  · obtain ⟨k, hk⟩ : ∃ k, k = t / 2 := ⟨_, rfl⟩
    have st := sm_step hG hz (k := k) (by omega)
    have o0 := wa_od hG hz (s := 0) (k := k) (by omega) (by omega)
    have o1 := wa_od hG hz (s := 1) (k := k) (by omega) (by omega)
    rcases (show t = 2 * k ∨ t = 2 * k + 1 by omega) with rfl | rfl
    · rw [wa_ev hG hz (s := 0) (by omega) (by omega), wa_ev hG hz (s := 1) (by omega) (by omega)]
      omega
    · rw [show 2 * k + 1 + 1 = 2 * (k + 1) by omega, wa_ev hG hz (s := 0) (by omega) (by omega), wa_ev hG hz (s := 1) (by omega) (by omega)]
      omega
  · rw [wa_far (by omega), wa_far (by omega), wa_far (by omega), wa_far (by omega)]
    omega
theorem wa_bd {G : Mem} {n z s t : Int} (hG : Good n G) (hz : 0 ≤ z ∧ z < n) (hs : 0 ≤ s ∧ s ≤ 1) (ht : 0 ≤ t) : -14336 ≤ WA G z s t ∧ WA G z s t ≤ 14336 := by
  obtain ⟨hD, hO, hc, hh, hI⟩ := hG.2.2 z hz.1 hz.2
  have hd := hD.2.2.1
  have b := hI.2.2.1
  have b2 := hI.2.2.2.1.2.2.2
  unfold Bd at b b2
  rcases Int.lt_or_le t 14398 with q | q
  · obtain ⟨k, hk⟩ : ∃ k, k = t / 2 := ⟨_, rfl⟩
    have x1 := b s k hs.1 hs.2 (by omega) (by omega)
    have x2 := b s (k + 1) hs.1 hs.2 (by omega) (by omega)
    rcases (show t = 2 * k ∨ t = 2 * k + 1 by omega) with rfl | rfl
    · rw [wa_ev hG hz hs (by omega)]; omega
    · have := wa_od hG hz hs (k := k) (by omega); omega
  · rw [wa_far q]; omega
/-- a side's sign -/
def sgS (s : Int) : Int := if s = 0 then 1 else -1
/-- the best opposite wall of the first options, as the class looks for it -/
def scB (f : Int → Int → Int) (G : Mem) (z s : Int) : Nat → Int
  | 0 => -16777216
  | n + 1 => if sgS s * f (opt G z s (n : Int)) (1 - s) ≤ scB f G z s n then scB f G z s n else sgS s * f (opt G z s (n : Int)) (1 - s)
def scF (f : Int → Int → Int) (G : Mem) (z s t : Int) : Int := sgS s * (scB f G z s (G 3 (2 * z + s)).toNat - t)
theorem scB_cg {f h : Int → Int → Int} {G : Mem} {z s : Int} : ∀ n : Nat, (∀ i, 0 ≤ i → i < (n : Int) → f (opt G z s i) (1 - s) = h (opt G z s i) (1 - s)) → scB f G z s n = scB h G z s n := by
  intro n
  induction n with
  | zero => intro _; rfl
  | succ n ih => intro e; rw [scB, scB, ih (fun i i1 i2 => e i i1 (by omega)), e n (by omega) (by omega)]
theorem scB_r {f : Int → Int → Int} {G : Mem} {z s : Int} : ∀ n : Nat, (∀ i, 0 ≤ i → i < (n : Int) → -14336 ≤ f (opt G z s i) (1 - s) ∧ f (opt G z s i) (1 - s) ≤ 14336) → (n = 0 ∧ scB f G z s n = -16777216) ∨ (1 ≤ n ∧ -14336 ≤ scB f G z s n ∧ scB f G z s n ≤ 14336) := by
  intro n
  induction n with
  | zero => intro _; exact Or.inl ⟨rfl, rfl⟩
  | succ n ih =>
    intro e
    have h1 := ih (fun i i1 i2 => e i i1 (by omega))
    have h2 := e n (by omega) (by omega)
    right
    have h3 : -14336 ≤ sgS s * f (opt G z s (n : Int)) (1 - s) ∧ sgS s * f (opt G z s (n : Int)) (1 - s) ≤ 14336 := by
      unfold sgS; split <;> omega
    rw [scB]
    refine ⟨by omega, ?_⟩
    split <;> omega
