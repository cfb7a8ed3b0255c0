/-! ===== the class: corner ===== -/
def NextC (M : Mem) (z s : Int) (k : Nat) (r : Int) : Prop := (∃ k' : Nat, k < k' ∧ k' < 7199 ∧ chB M z s k' = true ∧ (∀ x, k < x → x < k' → chB M z s x = false) ∧ r = 2 * k') ∨ (r = -1 ∧ ∀ x, k < x → x < 7199 → chB M z s x = false)
/-- the reach of the line from t: w is on it just when w ≤ E (or always) -/
def Reach (M : Mem) (z s t : Int) (E : Option Int) : Prop := match E with
  | some e => 1 ≤ e ∧ e ≤ 32767 ∧ ∀ w : Nat, (WA M z s (t + w) = WA M z s t + stW M z s t * w) ↔ (w : Int) ≤ e
  | none => ∀ w : Nat, WA M z s (t + w) = WA M z s t + stW M z s t * w
theorem ch_f {M : Mem} {n z s : Int} {k x : Nat} (hG : Good n M) (hz : 0 ≤ z ∧ z < n) (hs : 0 ≤ s ∧ s ≤ 1) (h1 : k < x) (h2 : x < 7199) (h : stW M z s (2 * x) = stW M z s (2 * ((x : Int) - 1))) : chB M z s x = false := by
  have a := (stW_d hG hz hs (k := x) (by omega)).1
  have b := (stW_d hG hz hs (k := (x : Int) - 1) (by omega)).1
  unfold chB
  rw [decide_eq_false_iff_not]
  rintro ⟨-, q⟩
  exact q (by omega)
theorem reach {M : Mem} {n z s : Int} {k : Nat} (hG : Good n M) (hz : 0 ≤ z ∧ z < n) (hs : s = 0 ∨ s = 1) (hk : k < 7199) : (∃ e, Reach M z s (2 * k) (some e) ∧ 2 * (k : Int) + e ≤ 16384 ∧ NextC M z s k (2 * k + e)) ∨ (Reach M z s (2 * k) none ∧ NextC M z s k (-1)) := by
  have hs' : 0 ≤ s ∧ s ≤ 1 := by omega
  have ol := on_line hG hz hs (t := 2 * (k : Int)) (by omega)
  by_cases ex : ∃ j : Nat, stW M z s (2 * (k : Int) + 1 + j) ≠ stW M z s (2 * k)
  · obtain ⟨j, hj, hmin⟩ := least_nat _ ex
    left
    have hmin' : ∀ u, 2 * (k : Int) ≤ u → u < 2 * k + 1 + j → stW M z s u = stW M z s (2 * k) := by
      intro u u1 u2
      by_cases e : u = 2 * k
      · rw [e]
      · have := hmin (u - 2 * k - 1).toNat (by omega)
        rw [show 2 * (k : Int) + 1 + ((u - 2 * k - 1).toNat : Int) = u by omega] at this
        exact Classical.not_not.mp this
    have jb : 2 * (k : Int) + 1 + j ≤ 14398 := by
      rcases Int.lt_or_le (2 * (k : Int) + 1 + j) 14398 with q | q
      · omega
      · rcases Int.lt_or_le (2 * (k : Int) + j) 13312 with q2 | q2
        · omega
        · have a := hmin' (2 * (k : Int) + j) (by omega) (by omega)
          have b := stW_far hG hz hs' (u := 2 * (k : Int) + j) (by omega)
          have c := stW_far hG hz hs' (u := 2 * (k : Int) + 1 + j) (by omega)
          exact absurd (c.trans (b.symm.trans a)) hj
    have jb2 : 2 * (k : Int) + 1 + j ≤ 13312 := by
      rcases Int.lt_or_le 13312 (2 * (k : Int) + 1 + j) with q | q
      · have a := hmin' (2 * (k : Int) + j) (by omega) (by omega)
        have b := stW_far hG hz hs' (u := 2 * (k : Int) + j) (by omega)
        have c := stW_far hG hz hs' (u := 2 * (k : Int) + 1 + j) (by omega)
        exact absurd (c.trans (b.symm.trans a)) hj
      · exact q
    refine ⟨1 + j, ⟨by omega, by omega, fun w => ?_⟩, by omega, ?_⟩
    · rw [ol w]
      constructor
      · intro q
        rcases Int.lt_or_le ((1 : Int) + j) w with r | r
        · exact absurd (q (2 * (k : Int) + 1 + j) (by omega) (by omega)) hj
        · omega
      · intro q u u1 u2
        exact hmin' u u1 (by omega)
    · have even : j % 2 = 1 := by
        rcases Nat.mod_two_eq_zero_or_one j with q | q
        · exfalso
          obtain ⟨i, hi⟩ : ∃ i : Nat, j = 2 * i := ⟨j / 2, by omega⟩
          subst hi
          have d := stW_d hG hz hs' (k := (k : Int) + i) (by omega)
          rw [show 2 * ((k : Int) + i) + 1 = 2 * (k : Int) + 1 + ((2 * i : Nat) : Int) by omega] at d
          have a := hmin' (2 * ((k : Int) + i)) (by omega) (by omega)
          apply hj
          omega
        · exact q
      obtain ⟨i, hi⟩ : ∃ i : Nat, j = 2 * i + 1 := ⟨j / 2, by omega⟩
      subst hi
      refine Or.inl ⟨k + i + 1, by omega, by omega, ?_, fun x x1 x2 => ?_, by omega⟩
      · have a := (stW_d hG hz hs' (k := (k : Int) + i + 1) (by omega)).1
        have b := (stW_d hG hz hs' (k := (k : Int) + i) (by omega)).1
        have c := hmin' (2 * ((k : Int) + i)) (by omega) (by omega)
        rw [show 2 * ((k : Int) + i + 1) = 2 * (k : Int) + 1 + ((2 * i + 1 : Nat) : Int) by omega] at a
        unfold chB
        rw [decide_eq_true_iff]
        refine ⟨by omega, fun q => hj ?_⟩
        rw [show ((k + i + 1 : Nat) : Int) = (k : Int) + i + 1 by omega, show (k : Int) + i + 1 - 1 = (k : Int) + i by omega] at q
        omega
      · refine ch_f hG hz hs' (k := k) x1 (by omega) ?_
        rw [hmin' (2 * (x : Int)) (by omega) (by omega), hmin' (2 * ((x : Int) - 1)) (by omega) (by omega)]
  · right
    have all : ∀ u, 2 * (k : Int) ≤ u → stW M z s u = stW M z s (2 * k) := by
      intro u u1
      by_cases e : u = 2 * k
      · rw [e]
      · have := fun q => ex ⟨(u - 2 * k - 1).toNat, q⟩
        rw [show 2 * (k : Int) + 1 + ((u - 2 * k - 1).toNat : Int) = u by omega] at this
        exact Classical.not_not.mp this
    refine ⟨fun w => (ol w).mpr (fun u u1 _ => all u u1), Or.inr ⟨rfl, fun x x1 x2 => ?_⟩⟩
    refine ch_f hG hz hs' (k := k) x1 x2 ?_
    rw [all (2 * (x : Int)) (by omega), all (2 * ((x : Int) - 1)) (by omega)]
theorem RepX.wl {G A B : Mem} {n : Int} (h : RepX G A n) (f : WlK A B) : RepX G B n := h.cx (fun c i hc => f c i (by omega))
theorem WlK.trans {A B D : Mem} (a : WlK A B) (b : WlK B D) : WlK A D := fun c i h => (b c i h).trans (a c i h)
theorem xcb_31 {g : Gs} {ad : Nat → Nat} {sk : (Nat → Nat) × (Nat → Nat)} {X : Cx} {PQ : Option Value → Mem → Prop} {PX : String → Mem → Prop} (C : OkB (wC g ad sk) X cX5_cornerBehind RX5 8 4 0 0) (Y : OkR (wC g ad sk) X (some .int) 0 0 PQ PX) {A M : Mem} {n z s t : Int} (hX : RepX M A n) (hz : 0 ≤ z ∧ z < n) (hs : s = 0 ∨ s = 1) (ht : 0 ≤ t ∧ t ≤ 14396) (o : Option Int) (hR : Reach M z s t o) (kk : ∀ B r, WlK A B → (∀ e, o = some e → r = if t + e ≤ 16384 then t + e else -1) → (o = none → r = -1) → PQ (some (vI r)) B) :
    ∀ (m : Nat) (p way : Int), m ≤ 15 → (m = 0 → p = 0) → (1 ≤ m → p = 2 ^ (m - 1)) → 1 ≤ way → (∀ e, o = some e → way ≤ e ∧ e < way + (if m = 0 then 1 else 2 * p)) → (o = none → way + (if m = 0 then 0 else 2 * p) = 32769 - (if m = 0 then 1 else 0)) → ∀ B, WlK A B → E (wC g ad sk) X 0 0 (B) 31 [(0, .ref (ad 1)), (1, vI (z)), (2, vI (s)), (3, vI (t)), (4, vI (WA M z s t)), (5, vI (stW M z s t)), (6, vI (way)), (7, vI (p))] [] := by
  have hG := hX.2.2.1
  have h40 := hG.2.1
  have sl : stW M z s t = 0 ∨ stW M z s t = 1 ∨ stW M z s t = -1 := by have := stW_c hG hz hs ht.1; rcases hs with rfl | rfl <;> omega
  have rst : R32 (stW M z s t) := by omega
  have wb := wa_bd hG (z := z) (s := s) (t := t) hz (by omega) ht.1
  intro m
  induction m with
  | zero =>
    intro p way _ hp0 _ hw hw1 hw2 B f
    have := hp0 rfl
    subst this
    have wb2 : way ≤ 32768 := by
      cases o with
      | none => have := hw2 rfl; simp at this; omega
      | some e => have := hw1 e rfl; have := hR.2.1; simp at *; omega
    refine B_X5_cornerBehind_31 (by omega) (by omega) (by omega) (by omega) (by omega) (by omega) (by omega) (Nat.zero_le _) (Nat.zero_le _) C Y ⟨fun c => ⟨by omega, fun c1 => kk B _ f (fun e he => ?_) (fun ho => ?_), fun c1 => kk B _ f (fun e he => ?_) (fun _ => rfl)⟩, fun c => absurd c (by omega)⟩
    · have := hw1 e he; simp at this; rw [show e = way by omega, if_pos c1]
    · have := hw2 ho; simp at this; omega
    · have := hw1 e he; simp at this; rw [show e = way by omega, if_neg (by omega)]
  | succ m ih =>
    intro p way hm _ hp hw hw1 hw2 B f
    have hp := hp (by omega)
    rw [Nat.add_sub_cancel] at hp
    rw [if_neg (by omega)] at hw1 hw2
    have pb : 1 ≤ p ∧ p ≤ 16384 := by
      rw [hp]
      have e : (2 : Int) ^ m ≤ 2 ^ 14 := by
        have := Nat.pow_le_pow_right (n := 2) (by decide) (show m ≤ 14 by omega)
        exact_mod_cast this
      have e0 : (0 : Int) < 2 ^ m := Int.pow_pos (by decide)
      have e2 : (2 : Int) ^ 14 = 16384 := by decide
      omega
    have wb2 : way + p ≤ 49152 := by
      cases o with
      | none => have := hw2 rfl; omega
      | some e => have := hw1 e rfl; have := hR.2.1; omega
    have nxt : ∀ way', 1 ≤ way' → (∀ e, o = some e → way' ≤ e ∧ e < way' + p) → (o = none → way' + p = 32769) → ∀ B, WlK A B → E (wC g ad sk) X 0 0 (B) 31 [(0, .ref (ad 1)), (1, vI (z)), (2, vI (s)), (3, vI (t)), (4, vI (WA M z s t)), (5, vI (stW M z s t)), (6, vI (way')), (7, vI (Int.tdiv p 2))] [] := by
      intro way' q0 q1 q2 B f
      rcases Nat.eq_zero_or_pos m with rfl | mp
      · have : p = 1 := by rw [hp]; rfl
        subst this
        exact ih _ way' (by omega) (fun _ => rfl) (fun q => absurd q (by omega)) q0 (fun e he => by have := q1 e he; simp; omega) (fun ho => by have := q2 ho; simp; omega) B f
      · have e : p = 2 * 2 ^ (m - 1) := by
          rw [hp]
          conv => lhs; rw [show m = (m - 1) + 1 by omega, Int.pow_succ, Int.mul_comm]
        have e2 : Int.tdiv p 2 = 2 ^ (m - 1) := by rw [e, td2]
        exact ih _ way' (by omega) (fun q => absurd q (by omega)) (fun _ => e2) q0 (fun x hx => by rw [if_neg (by omega), e2, ← e]; exact q1 x hx) (fun ho => by rw [if_neg (by omega), if_neg (by omega), e2, ← e]; have := q2 ho; omega) B f
    have wc := wa_bd hG (z := z) (s := s) (t := t + way + p) hz (by omega) (by omega)
    have sm : R32 (stW M z s t * (way + p)) ∧ R32 (WA M z s t + stW M z s t * (way + p)) := by rcases sl with q | q | q <;> rw [q] <;> omega
    refine B_X5_cornerBehind_31 (by omega) (by omega) (by omega) (by omega) (by omega) (by omega) (by omega) (Nat.zero_le _) (Nat.zero_le _) C Y ⟨fun c => absurd c (by omega), fun c => ⟨⟨by omega, by omega⟩, _, x_wallAt (hX.wl f) hz (by omega) (by omega), fun r B2 hB => ?_⟩⟩
    obtain ⟨f2, rfl⟩ := hB
    have f3 := f.trans f2
    have en : (t + way + p : Int) = t + ((way + p).toNat : Int) := by omega
    have ew : (way + p : Int) = ((way + p).toNat : Int) := by omega
    refine ⟨by omega, ⟨by omega, sm.1, sm.2⟩, fun c1 => ?_, fun c1 => ?_⟩
    · rw [en, ew] at c1
      refine nxt way hw (fun e he => ?_) (fun ho => ?_) B2 f3
      · subst he
        have := (hR.2.2 (way + p).toNat)
        have h1 := (hw1 e rfl).1
        refine ⟨h1, ?_⟩
        rcases Int.lt_or_le e (way + p) with q | q
        · exact q
        · exact absurd (this.mpr (by omega)) c1
      · subst ho
        exact absurd (hR (way + p).toNat) c1
    · rw [en, ew] at c1
      refine nxt (way + p) (by omega) (fun e he => ?_) (fun ho => ?_) B2 f3
      · subst he
        have := (hR.2.2 (way + p).toNat).mp c1
        have h1 := (hw1 e rfl).2
        omega
      · have := hw2 ho; omega
theorem x_cornerBehind {g : Gs} {ad : Nat → Nat} {sk : (Nat → Nat) × (Nat → Nat)} {A M : Mem} {n z s : Int} {k : Nat} (hX : RepX M A n) (hz : 0 ≤ z ∧ z < n) (hs : s = 0 ∨ s = 1) (hk : k < 7199) : SpI (wC g ad sk) yX5_cornerBehind cX5_cornerBehind 8 (some .int) 4 [.ref (ad 1), vI (z), vI (s), vI (2 * (k : Int))] (A) (fun r B => WlK A B ∧ NextC M z s k r) := by
  have hG := hX.2.2.1
  have h40 := hG.2.1
  intro l9 hl9
  refine ct_of hl9 mi_X5_cornerBehind.2.2.2 (Nat.le_of_ble_eq_true rfl) (fun X _ C Y => ?_)
  show E (wC g ad sk) X 0 0 (A) 0 [(0, .ref (ad 1)), (1, vI (z)), (2, vI (s)), (3, vI (2 * (k : Int)))] []
  refine e_wf (fun hw => ?_)
  have w0 := wa_bd hG (z := z) (s := s) (t := 2 * (k : Int)) hz (by omega) (by omega)
  have w1 := wa_bd hG (z := z) (s := s) (t := 2 * (k : Int) + 1) hz (by omega) (by omega)
  refine B_X5_cornerBehind_0 (by omega) (by omega) (by omega) (Nat.zero_le _) (Nat.zero_le _) C Y ⟨_, x_wallAt hX hz (by omega) (t := 2 * (k : Int)) (by omega), fun r B hB => ?_⟩
  obtain ⟨f1, rfl⟩ := hB
  refine ⟨by omega, by omega, _, x_wallAt (hX.wl f1) hz (by omega) (t := 2 * (k : Int) + 1) (by omega), fun r B2 hB => ?_⟩
  obtain ⟨f2, rfl⟩ := hB
  refine ⟨by omega, by omega, ?_⟩
  show E (wC g ad sk) X 0 0 (B2) 31 [(0, .ref (ad 1)), (1, vI (z)), (2, vI (s)), (3, vI (2 * (k : Int))), (4, vI (WA M z s (2 * (k : Int)))), (5, vI (stW M z s (2 * (k : Int)))), (6, vI (1)), (7, vI (16384))] []
  rcases reach hG hz hs hk with ⟨e, hR, hb, hN⟩ | ⟨hR, hN⟩
  · refine xcb_31 C Y hX hz hs (by omega) (some e) hR (fun B r f hr _ => ⟨_, rfl, f, ?_⟩) 15 16384 1 (by omega) (fun q => absurd q (by omega)) (fun _ => by decide) (by omega) (fun x hx => by cases hx; have := hR.1; have := hR.2.1; simp; omega) (fun q => by cases q) B2 (f1.trans f2)
    rw [hr e rfl, if_pos hb]; exact hN
  · refine xcb_31 C Y hX hz hs (by omega) none hR (fun B r f _ hr => ⟨_, rfl, f, ?_⟩) 15 16384 1 (by omega) (fun q => absurd q (by omega)) (fun _ => by decide) (by omega) (fun x hx => by cases hx) (fun q => by simp) B2 (f1.trans f2)
    rw [hr rfl]; exact hN
theorem xc_23 {g : Gs} {ad : Nat → Nat} {sk : (Nat → Nat) × (Nat → Nat)} {X : Cx} {PQ : Option Value → Mem → Prop} {PX : String → Mem → Prop} (C : OkB (wC g ad sk) X cX9_corner RX9 6 5 1 6) (Y : OkR (wC g ad sk) X (some .int) 1 6 PQ PX) {A M : Mem} {n z s i : Int} (hX : RepX M A n) (hz : 0 ≤ z ∧ z < n) (hs : s = 0 ∨ s = 1) (hi : R32 i) (hi0 : 0 ≤ i) (kk : ∀ B r, WlK A B → CorR M z s i r → PQ (some (vI r)) B) : ∀ (m : Nat) (j t : Int), 0 ≤ j → j + m = i → CorR M z s j t → ∀ B, WlK A B → E (wC g ad sk) X 0 0 (B) 23 [(0, .ref (ad 0)), (1, vI (z)), (2, vI (s)), (3, vI (i)), (4, vI (t)), (5, vI (j))] [] := by
  have h40 := hX.2.2.1.2.1
  have rg : ∀ j t, CorR M z s j t → R32 t ∧ (t = -1 ∨ 0 ≤ t) := by
    intro j t h
    rcases h with ⟨-, rfl⟩ | ⟨-, rfl⟩ | ⟨-, ⟨k, k1, -, -, rfl⟩ | ⟨rfl, -⟩⟩ <;> omega
  intro m
  induction m with
  | zero =>
    intro j t j0 j1 h B f
    have rt := rg j t h
    have : j = i := by omega
    subst this
    exact B_X9_corner_23 (by omega) (by omega) (by omega) (by omega) (by omega) (Nat.zero_le _) (Nat.zero_le _) C Y ⟨fun c => kk B t f h, fun c => absurd c (by omega)⟩
  | succ m ih =>
    intro j t j0 j1 h B f
    have rt := rg j t h
    refine B_X9_corner_23 (by omega) (by omega) (by omega) (by omega) (by omega) (Nat.zero_le _) (Nat.zero_le _) C Y ⟨fun c => absurd c (by omega), fun c => ⟨fun c1 => kk B t f ?_, fun c1 => ?_⟩⟩
    · subst c1
      rcases h with ⟨q, -⟩ | ⟨-, q⟩ | ⟨q, ⟨k, k1, -, -, k2⟩ | ⟨-, k1⟩⟩
      · omega
      · omega
      · omega
      · exact Or.inr (Or.inr ⟨by omega, Or.inr ⟨rfl, by omega⟩⟩)
    · have hk : ∃ k : Nat, k < 7199 ∧ t = 2 * k ∧ (cnB (chB M z s) (k + 1) : Int) = j := by
        rcases h with ⟨q, -⟩ | ⟨q, rfl⟩ | ⟨q, ⟨k, k1, k2, k3, k4⟩ | ⟨k1, -⟩⟩
        · omega
        · exact ⟨0, by omega, rfl, by subst q; simp [cnB, chB]⟩
        · exact ⟨k, k1, k4, by rw [cnB, k2]; simp; omega⟩
        · exact absurd k1 c1
      obtain ⟨k, k1, rfl, k3⟩ := hk
      refine ⟨_, x_cornerBehind (hX.wl f) hz hs k1, fun r B2 hB => ?_⟩
      obtain ⟨f2, hN⟩ := hB
      have hC : CorR M z s (j + 1) r := by
        refine Or.inr (Or.inr ⟨by omega, ?_⟩)
        rcases hN with ⟨k', a1, a2, a3, a4, rfl⟩ | ⟨rfl, a1⟩
        · refine Or.inl ⟨k', a2, a3, ?_, rfl⟩
          have := cnB_hi (p := chB M z s) (k := k + 1) (k' - (k + 1)) (fun x x1 x2 => a4 x (by omega) (by omega))
          rw [show k + 1 + (k' - (k + 1)) = k' by omega] at this
          omega
        · refine Or.inr ⟨rfl, ?_⟩
          have := cnB_hi (p := chB M z s) (k := k + 1) (7199 - (k + 1)) (fun x x1 x2 => a1 x (by omega) (by omega))
          rw [show k + 1 + (7199 - (k + 1)) = 7199 by omega] at this
          omega
      exact ⟨(rg _ _ hC).1, by omega, ih (j + 1) r (by omega) (by omega) hC B2 (f.trans f2)⟩
theorem x_corner {g : Gs} {ad : Nat → Nat} {sk : (Nat → Nat) × (Nat → Nat)} {A M : Mem} {z s i : Int} (h : Jn A M) (hz : R32 z) (hs : R32 s) (hi : R32 i) : SpT (wC g ad sk) yX9_corner cX9_corner 6 (some .int) 5 [.ref (ad 0), vI (z), vI (s), vI (i)] (A) (fun r B => Res (AskP M (kGS M z s) (CorR M z s i)) 0 r B) (fun e B => (e = eIO ∧ Res (AskP M (kGS M z s) (CorR M z s i)) 1 0 B) ∨ (e = eIA ∧ Res (AskP M (kGS M z s) (CorR M z s i)) 2 0 B)) := by
  intro l9 hl9
  refine ct_of hl9 mi_X9_corner.2.2.2 (Nat.le_of_ble_eq_true rfl) (fun X _ C Y => ?_)
  show E (wC g ad sk) X 0 0 (A) 0 [(0, .ref (ad 0)), (1, vI (z)), (2, vI (s)), (3, vI (i))] []
  refine e_wf (fun hw => ?_)
  have hn := h.n
  refine B_X9_corner_0 (by omega) (by omega) (by omega) (Nat.zero_le _) (Nat.zero_le _) C Y ⟨fun c => ⟨fun c1 => ⟨fun c2 => ?_, fun c2 => ?_⟩, fun c1 => ⟨by omega, Or.inr ⟨rfl, ?_⟩⟩⟩, fun c => ⟨by omega, Or.inl ⟨rfl, ?_⟩⟩⟩
  all_goals rw [hn.1] at c
  · refine xc_23 C Y h.1 c c1 hi c2 (fun B r f hr => ⟨_, rfl, ?_⟩) i.toNat 0 0 (by omega) (by omega) (Or.inr (Or.inl ⟨rfl, rfl⟩)) A (fun _ _ _ => rfl)
    rw [kGS, if_pos c, if_pos c1]; exact res_askP (h.kW f) cor_uq (fun _ => hr)
  · refine B_X9_corner_23 (by omega) (by omega) (by omega) (by omega) (by omega) (Nat.zero_le _) (Nat.zero_le _) C Y ⟨fun _ => ⟨_, rfl, ?_⟩, fun q => absurd q (by omega)⟩
    rw [kGS, if_pos c, if_pos c1]; exact res_askP h cor_uq (fun _ => Or.inl ⟨c2, rfl⟩)
  · rw [kGS, if_pos c, if_neg c1]; exact res_askP h cor_uq (fun q => absurd q (by decide))
  · rw [kGS, if_neg c]; exact res_askP h cor_uq (fun q => absurd q (by decide))
