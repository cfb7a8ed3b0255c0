/-! ===== corners ===== -/
def dS (M : Mem) (z s k : Int) : Int := smpl M z s (k + 1) - smpl M z s k
def chB (M : Mem) (z s : Int) : Nat → Bool := fun k => decide (1 ≤ k ∧ dS M z s k ≠ dS M z s ((k : Int) - 1))
def CorR (M : Mem) (z s i r : Int) : Prop := (i < 0 ∧ r = -1) ∨ (i = 0 ∧ r = 0) ∨ (1 ≤ i ∧ ((∃ k : Nat, k < 7199 ∧ chB M z s k = true ∧ (cnB (chB M z s) k : Int) = i - 1 ∧ r = 2 * k) ∨ (r = -1 ∧ (cnB (chB M z s) 7199 : Int) < i)))
theorem cor_uq {M : Mem} {z s i : Int} : ∀ x y, CorR M z s i x → CorR M z s i y → x = y := by
  intro x y hx hy
  have key : ∀ (k : Nat), k < 7199 → chB M z s k = true → (cnB (chB M z s) k : Int) = i - 1 → ∀ k' : Nat, k < k' → k' ≤ 7199 → (i : Int) ≤ cnB (chB M z s) k' := by
    intro k a b c k' d e
    have := cnB_more (Nat.le_refl k) d b
    omega
  rcases hx with ⟨a, rfl⟩ | ⟨a, rfl⟩ | ⟨a, b⟩
  · rcases hy with ⟨c, rfl⟩ | ⟨c, rfl⟩ | ⟨c, d⟩ <;> omega
  · rcases hy with ⟨c, rfl⟩ | ⟨c, rfl⟩ | ⟨c, d⟩ <;> omega
  · rcases hy with ⟨c, rfl⟩ | ⟨c, rfl⟩ | ⟨c, d⟩
    · omega
    · omega
    · rcases b with ⟨k, b1, b2, b3, rfl⟩ | ⟨rfl, b⟩
      · rcases d with ⟨k', d1, d2, d3, rfl⟩ | ⟨rfl, d⟩
        · rcases Nat.lt_trichotomy k k' with q | q | q
          · have := key k b1 b2 b3 k' q (by omega); omega
          · rw [q]
          · have := key k' d1 d2 d3 k q (by omega); omega
        · have := key k b1 b2 b3 7199 b1 (Nat.le_refl _); omega
      · rcases d with ⟨k', d1, d2, d3, rfl⟩ | ⟨rfl, d⟩
        · have := key k' d1 d2 d3 7199 d1 (Nat.le_refl _); omega
        · rfl
theorem mc_21 {g : Gs} {ad : Nat → Nat} {X : Cx} {PQ : Option Value → Mem → Prop} {PX : String → Mem → Prop} (C : OkB (wM g ad) X cX10_corner RX10 7 4 0 0) (Y : OkR (wM g ad) X (some .int) 0 0 PQ PX) {A M : Mem} {z s i : Int} (h : Jn A M) (hz : 0 ≤ z ∧ z < M 0 0) (hs : s = 0 ∨ s = 1) (hi : R32 i) (kk : ∀ r, CorR M z s i r → PQ (some (vI r)) M) : ∀ (m k : Nat), 1 ≤ k → k + m = 7199 → (1 ≤ i → (cnB (chB M z s) k : Int) < i) → E (wM g ad) X 0 0 (M) 21 [(0, .ref (ad 0)), (1, vI (z)), (2, vI (s)), (3, vI (i)), (4, vI (1 + (cnB (chB M z s) k : Int))), (5, vI ((k : Int)))] [] := by
  have hn := h.n
  have bd : ∀ j : Int, 0 ≤ j → j < 7200 → -14336 ≤ smpl M z s j ∧ smpl M z s j ≤ 14336 := by
    intro j j1 j2
    have := wa_bd hn.2.2.2 (z := z) (s := s) (t := 2 * j) hz (by omega) (by omega)
    rwa [wa_ev hn.2.2.2 hz (by omega) ⟨j1, j2⟩] at this
  intro m
  induction m with
  | zero =>
    intro k k1 k2 hk
    have ek : k = 7199 := by omega
    subst ek
    have cb := cnB_le64 (chB M z s) 7199
    refine B_X10_corner_21 (by omega) (by omega) (by omega) (by omega) (by omega) (Nat.zero_le _) (Nat.zero_le _) C Y ⟨fun c => ⟨fun c1 => kk _ ?_, fun c1 => kk _ ?_⟩, fun c => absurd c (by omega)⟩
    · rcases Int.lt_or_le i 0 with q | q
      · exact Or.inl ⟨q, rfl⟩
      · exact Or.inr (Or.inr ⟨by omega, Or.inr ⟨rfl, hk (by omega)⟩⟩)
    · exact Or.inr (Or.inl ⟨c1, rfl⟩)
  | succ m ih =>
    intro k k1 k2 hk
    have cb := cnB_le64 (chB M z s) k
    have b0 := bd k (by omega) (by omega)
    have b1 := bd ((k : Int) + 1) (by omega) (by omega)
    have b2 := bd ((k : Int) - 1) (by omega) (by omega)
    have nx := ih (k + 1) (by omega) (by omega)
    rw [cnB] at nx
    have e1 : ((k + 1 : Nat) : Int) = (k : Int) + 1 := rfl
    rw [e1] at nx
    refine B_X10_corner_21 (by omega) (by omega) (by omega) (by omega) (by omega) (Nat.zero_le _) (Nat.zero_le _) C Y ⟨fun c => absurd c (by omega), fun c => ⟨⟨by omega, by omega, by omega, by show R32 (smpl M z s ((k : Int) + 1) - smpl M z s k); omega, by omega, by omega, by show R32 (smpl M z s k - smpl M z s ((k : Int) - 1)); omega⟩, fun c1 => ?_, fun c1 => ?_⟩⟩
    · have e : chB M z s k = false := by
        unfold chB dS
        rw [decide_eq_false_iff_not]
        rintro ⟨-, q⟩
        apply q
        rw [show (k : Int) - 1 + 1 = k by omega]
        exact c1
      rw [e] at nx
      refine B_X10_corner_75 (by omega) (by omega) (by omega) (by omega) (by omega) (by omega) (Nat.zero_le _) (Nat.zero_le _) C Y ⟨fun _ => ?_, fun q => absurd rfl q⟩
      refine B_X10_corner_93 (by omega) (by omega) (by omega) (by omega) (by omega) (by omega) (Nat.zero_le _) (Nat.zero_le _) C Y ⟨fun _ => ⟨⟨by omega, by omega⟩, ?_⟩, fun q => absurd rfl q⟩
      rw [Int.add_zero]
      exact nx (fun q => by simpa using hk q)
    · have e : chB M z s k = true := by
        unfold chB dS
        rw [decide_eq_true_iff]
        refine ⟨k1, fun q => c1 ?_⟩
        rw [show (k : Int) - 1 + 1 = k by omega] at q
        exact q
      rw [e] at nx
      refine B_X10_corner_75 (by omega) (by omega) (by omega) (by omega) (by omega) (by omega) (Nat.zero_le _) (Nat.zero_le _) C Y ⟨fun q => absurd q (by decide), fun _ => ⟨fun c2 => ?_, fun c2 => ⟨by omega, kk _ (Or.inr (Or.inr ⟨by omega, Or.inl ⟨k, by omega, e, by omega, rfl⟩⟩))⟩⟩⟩
      refine B_X10_corner_93 (by omega) (by omega) (by omega) (by omega) (by omega) (by omega) (Nat.zero_le _) (Nat.zero_le _) C Y ⟨fun q => absurd q (by decide), fun _ => ⟨⟨by omega, by omega⟩, ?_⟩⟩
      have nx' := nx (fun q => by have := hk q; simp; omega)
      have e2 : (1 : Int) + ((cnB (chB M z s) k + (if true = true then 1 else 0) : Nat) : Int) = 1 + (cnB (chB M z s) k : Int) + 1 := by simp; omega
      rw [e2] at nx'
      exact nx'
theorem corR_up {M : Mem} {v z s i r : Int} (h : CorR (up M 20 0 v) z s i r) : CorR M z s i r := by
  have e : chB (up M 20 0 v) z s = chB M z s := by
    funext k
    unfold chB dS smpl
    simp only [up_c (show (15 : Nat) ≠ 20 by decide)]
  unfold CorR at h ⊢
  rw [e] at h
  exact h
theorem m_corner {g : Gs} {ad : Nat → Nat} {A M : Mem} {z s i : Int} (h : Jn A M) (hz : R32 z) (hs : R32 s) (hi : R32 i) : SpI (wM g ad) yX10_corner cX10_corner 7 (some .int) 4 [.ref (ad 0), vI (z), vI (s), vI (i)] (M) (fun r N => AskP M (kGS M z s) (CorR M z s i) (N 20 0) r N) := by
  intro l9 hl9
  refine ct_of hl9 mi_X10_corner.2.2.2 (Nat.le_of_ble_eq_true rfl) (fun X _ C Y => ?_)
  show E (wM g ad) X 0 0 (M) 0 [(0, .ref (ad 0)), (1, vI (z)), (2, vI (s)), (3, vI (i))] []
  refine e_wf (fun hw => ?_)
  have hn := h.n
  refine B_X10_corner_0 (by omega) (by omega) (by omega) (Nat.zero_le _) (Nat.zero_le _) C Y ⟨_, m_needSide (v := 0) h hz hs, fun r N hN => ?_⟩
  obtain ⟨rfl, rfl⟩ := hN
  rcases kGS_c (M := N) (z := z) (s := s) with ⟨e, c, d⟩ | ⟨e, c⟩ | ⟨e, c, d⟩
  · rw [e]
    refine ⟨by omega, fun _ => ?_, fun q => absurd q (by decide)⟩
    have c1 : cnB (chB (up N 20 0 0) z s) 1 = 0 := by simp [cnB, chB]
    have := mc_21 C Y (h.r20 (v := 0)) (z := z) (s := s) (i := i) (by rw [up_c (by decide)]; exact c) d hi (fun r hr => ⟨_, rfl, by rw [e]; exact askP_i (fun _ => corR_up hr)⟩) 7198 1 (by omega) (by omega) (fun q => by rw [c1]; omega)
    rw [c1] at this
    exact this
  · rw [e]
    exact ⟨by omega, fun q => absurd (by decide) q, fun _ => ⟨_, rfl, askP_i (fun q => absurd q (by decide))⟩⟩
  · rw [e]
    exact ⟨by omega, fun q => absurd (by decide) q, fun _ => ⟨_, rfl, askP_i (fun q => absurd q (by decide))⟩⟩
/-! the class: halving finds where a wall leaves its line -/
def stW (M : Mem) (z s u : Int) : Int := WA M z s (u + 1) - WA M z s u
theorem stW_c {M : Mem} {n z s u : Int} (hG : Good n M) (hz : 0 ≤ z ∧ z < n) (hs : s = 0 ∨ s = 1) (hu : 0 ≤ u) : (s = 0 → stW M z s u = 0 ∨ stW M z s u = -1) ∧ (s = 1 → stW M z s u = 0 ∨ stW M z s u = 1) := by
  have := wa_step hG hz hu
  unfold stW
  rcases hs with rfl | rfl <;> omega
theorem stW_d {M : Mem} {n z s k : Int} (hG : Good n M) (hz : 0 ≤ z ∧ z < n) (hs : 0 ≤ s ∧ s ≤ 1) (hk : 0 ≤ k ∧ k < 7199) : 2 * stW M z s (2 * k) = dS M z s k ∧ 2 * stW M z s (2 * k + 1) = dS M z s k := by
  have o := wa_od hG hz hs hk
  have e0 := wa_ev hG hz hs (k := k) (by omega)
  have e1 := wa_ev hG hz hs (k := k + 1) (by omega)
  rw [show 2 * (k + 1) = 2 * k + 1 + 1 by omega] at e1
  unfold stW dS
  omega
theorem stW_far {M : Mem} {n z s u : Int} (hG : Good n M) (hz : 0 ≤ z ∧ z < n) (hs : 0 ≤ s ∧ s ≤ 1) (hu : 13312 ≤ u) : stW M z s u = 0 := by
  have hc : ∀ v, 13312 ≤ v → WA M z s v = M 13 z := by
    intro v hv
    refine (wa_eq hG hz hs (by omega)).1 ?_
    obtain ⟨hD, hO, hc, hh, hI⟩ := hG.2.2 z hz.1 hz.2
    have hd := hD.2.2.1
    rcases (show M 6 z = 1 ∨ M 6 z = 0 by have := hO.2.1.1; omega) with q | q
    · have := (hc q).2.1; omega
    · obtain ⟨-, -, kt, a1, a2, -, a4, -⟩ := hh q
      omega
  unfold stW
  rw [hc u hu, hc (u + 1) (by omega)]
  omega
/-- on the line at w: no turn before -/
theorem on_line {M : Mem} {n z s t : Int} (hG : Good n M) (hz : 0 ≤ z ∧ z < n) (hs : s = 0 ∨ s = 1) (ht : 0 ≤ t) : ∀ w : Nat, (WA M z s (t + w) = WA M z s t + stW M z s t * w) ↔ ∀ u, t ≤ u → u < t + w → stW M z s u = stW M z s t := by
  have c := fun u hu => stW_c hG hz hs (u := u) hu
  have sgn : ∃ σ : Int, (σ = 1 ∨ σ = -1) ∧ ∀ u, 0 ≤ u → 0 ≤ σ * (stW M z s u - stW M z s t) := by
    have c0 := c t ht
    rcases hs with rfl | rfl
    · rcases c0.1 rfl with q | q
      · exact ⟨-1, Or.inr rfl, fun u hu => by have := (c u hu).1 rfl; omega⟩
      · exact ⟨1, Or.inl rfl, fun u hu => by have := (c u hu).1 rfl; omega⟩
    · rcases c0.2 rfl with q | q
      · exact ⟨1, Or.inl rfl, fun u hu => by have := (c u hu).2 rfl; omega⟩
      · exact ⟨-1, Or.inr rfl, fun u hu => by have := (c u hu).2 rfl; omega⟩
  obtain ⟨σ, hσ, hp⟩ := sgn
  have sl : stW M z s t = 0 ∨ stW M z s t = 1 ∨ stW M z s t = -1 := by have := c t ht; rcases hs with rfl | rfl <;> omega
  have mul : ∀ w : Nat, stW M z s t * ((w + 1 : Nat) : Int) = stW M z s t * w + stW M z s t := by
    intro w
    rcases sl with q | q | q <;> rw [q] <;> omega
  have mono : ∀ w : Nat, 0 ≤ σ * (WA M z s (t + w) - WA M z s t - stW M z s t * w) := by
    intro w
    induction w with
    | zero => rw [show t + ((0 : Nat) : Int) = t by omega]; rcases sl with q | q | q <;> rw [q] <;> simp
    | succ w ih =>
      have p := hp (t + w) (by omega)
      unfold stW at p
      rw [mul, show t + ((w + 1 : Nat) : Int) = t + w + 1 by omega]
      have e : stW M z s t = WA M z s (t + 1) - WA M z s t := rfl
      rcases hσ with rfl | rfl <;> omega
  intro w
  induction w with
  | zero =>
    refine ⟨fun _ u u1 u2 => absurd u2 (by omega), fun _ => ?_⟩
    rw [show t + ((0 : Nat) : Int) = t by omega]; rcases sl with q | q | q <;> rw [q] <;> simp
  | succ w ih =>
    have p := hp (t + w) (by omega)
    have mo := mono w
    have es : stW M z s (t + w) = WA M z s (t + w + 1) - WA M z s (t + w) := rfl
    rw [mul, show t + ((w + 1 : Nat) : Int) = t + w + 1 by omega]
    constructor
    · intro q u u1 u2
      have z0 : WA M z s (t + w) = WA M z s t + stW M z s t * w := by rcases hσ with rfl | rfl <;> omega
      by_cases e : u = t + w
      · subst e; omega
      · exact ih.mp z0 u u1 (by omega)
    · intro q
      have a := ih.mpr (fun u u1 u2 => q u u1 (by omega))
      have b := q (t + w) (by omega) (by omega)
      omega
