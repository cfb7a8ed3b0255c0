/-! ===== the class: enter ===== -/
theorem al_refl {G : Mem} {n : Int} (hO : ∀ z, 0 ≤ z → z < n → Ord G z) : ∀ (m : Nat) (z : Int), 0 ≤ z → z < n → z < m → AL G z z := by
  intro m
  induction m with
  | zero => intro z z1 z2 z3; omega
  | succ m ih =>
    intro z z1 z2 z3
    have oz := hO z z1 z2
    rcases (show G 6 z = 1 ∨ G 6 z = 0 by have := oz.2.1.1; omega) with q | q
    · rw [al_cold hO ⟨z1, z2⟩ ⟨z1, z2⟩ q]
      exact ((or_cold oz q _).1).mpr (Int.le_refl _)
    · have nz : G 1 z = 0 := by
        rcases Classical.em (G 1 z = 0) with k | k
        · exact k
        · have := (oz.2.1.2.1 k).1; omega
      have o0 := (opS_r oz.1 (s := 0) (by omega)).2.2
      have o1 := (opS_r oz.1 (s := 1) (by omega)).2.2
      refine (or_al hO ⟨z1, z2⟩ ⟨z1, z2⟩).2.mpr (Or.inr (Or.inr ⟨nz, nz, fun i i1 i2 => ?_, fun i i1 i2 => ?_⟩))
      · have o := o1 i i1 i2
        have h01 := (or_al hO (a := z) (b := opt G z 1 i) ⟨z1, z2⟩ ⟨o.1, by omega⟩)
        rcases h01.1 with k | k
        · exact k
        · exfalso
          have oo := hO _ o.1 (by omega : opt G z 1 i < n)
          rcases (show G 6 (opt G z 1 i) = 1 ∨ G 6 (opt G z 1 i) = 0 by have := oo.2.1.1; omega) with w | w
          · have := (al_cold hO ⟨z1, z2⟩ ⟨o.1, by omega⟩ w).mp k
            have h2 := ((or_hot oz q (by have := oo.2.2.1; omega)).1.mp this) i i1 i2
            exact h2 (((or_cold oo w _).2).mpr (Int.le_refl _))
          · have no : G 1 (opt G z 1 i) = 0 := by
              rcases Classical.em (G 1 (opt G z 1 i) = 0) with k | k
              · exact k
              · have := (oo.2.1.2.1 k).1; omega
            rcases h01.2.mp k with ⟨p, -⟩ | ⟨-, p, -⟩ | ⟨-, -, p, -⟩
            · exact p no
            · exact p nz
            · have a := p i i1 i2
              have b := ih _ o.1 (by omega) (by omega)
              have b' : G 12 (40 * opt G z 1 i + opt G z 1 i) = 1 := b
              have a' : G 12 (40 * opt G z 1 i + opt G z 1 i) = 0 := a
              omega
      · have o := o0 i i1 i2
        have h01 := (or_al hO (a := opt G z 0 i) (b := z) ⟨o.1, by omega⟩ ⟨z1, z2⟩)
        rcases h01.1 with k | k
        · exact k
        · exfalso
          have oo := hO _ o.1 (by omega : opt G z 0 i < n)
          rcases (show G 6 (opt G z 0 i) = 1 ∨ G 6 (opt G z 0 i) = 0 by have := oo.2.1.1; omega) with w | w
          · have := (al_cold2 hO ⟨o.1, by omega⟩ ⟨z1, z2⟩ w).mp k
            have h2 := ((or_hot oz q (by have := oo.2.2.1; omega)).2.mp this) i i1 i2
            exact h2 (((or_cold oo w _).1).mpr (Int.le_refl _))
          · have no : G 1 (opt G z 0 i) = 0 := by
              rcases Classical.em (G 1 (opt G z 0 i) = 0) with k | k
              · exact k
              · have := (oo.2.1.2.1 k).1; omega
            rcases h01.2.mp k with ⟨p, -⟩ | ⟨-, p, -⟩ | ⟨-, -, -, p⟩
            · exact p nz
            · exact p no
            · have a := p i i1 i2
              have b := ih _ o.1 (by omega) (by omega)
              have b' : G 12 (40 * opt G z 0 i + opt G z 0 i) = 1 := b
              have a' : G 12 (40 * opt G z 0 i + opt G z 0 i) = 0 := a
              omega
def EnI (N M P : Mem) (n a b : Int) : Prop := (∀ c i, c ≠ 5 → P c i = M c i) ∧ (∀ x y, 0 ≤ x → x < n → 0 ≤ y → y < n → BlX N P x y) ∧ (∀ y, 0 ≤ y → y < a → BlX N P n y) ∧ (∀ y, 0 ≤ y → y < b → BlX N P y n) ∧ BlX N P n n ∧ ∀ y, a ≤ y → y < n → tb (P 5 n) y = false
theorem en_17 {g : Gs} {ad : Nat → Nat} {sk : (Nat → Nat) × (Nat → Nat)} {X : Cx} {PQ : Option Value → Mem → Prop} {PX : String → Mem → Prop} (C : OkB (wC g ad sk) X cX5_enter RX5 3 3 0 0) (Y : OkR (wC g ad sk) X (some .int) 0 0 PQ PX) {N M : Mem} {n : Int} (hN : Good (n + 1) N) (hn : 0 ≤ n ∧ n < 40) (hr : ∀ z, 0 ≤ z → z ≤ n → RepG N M z) (kk : ∀ P, EnI N M P n n n → PQ (some (vI n)) (up P 4 0 (n + 1))) : ∀ (m : Nat) (y : Int), 0 ≤ y → y + m = n → ∀ P, EnI N M P n y y → E (wC g ad sk) X 0 0 (P) 17 [(0, .ref (ad 1)), (1, vI (n)), (2, vI (y))] [] := by
  have hO := gd_ord hN
  have hrP : ∀ P a b, EnI N M P n a b → ∀ z, 0 ≤ z → z ≤ n → RepG N P z := fun P a b h z z1 z2 => (hr z z1 z2).cx (fun c i ow => h.1 c i (by rintro rfl; rcases ow with ⟨k, -⟩ | ⟨k, -⟩ | ⟨k, -⟩ <;> omega)) (fun s s1 s2 => (opS_r (hN.2.2 z z1 (by omega)).1.1 ⟨s1, s2⟩).2.1)
  intro m
  induction m with
  | zero =>
    intro y y1 y2 P hP
    have : y = n := by omega
    subst this
    exact B_X5_enter_17 (by omega) (by omega) (Nat.le_refl _) (Nat.le_refl _) C Y ⟨fun c => ⟨by omega, kk P hP⟩, fun c => absurd c (by omega)⟩
  | succ m ih =>
    intro y y1 y2 P hP
    have oy := (hN.2.2 y y1 (by omega)).1.1
    have on := (hN.2.2 n hn.1 (by omega)).1.1
    have mid : ∀ P, EnI N M P n (y + 1) y → E (wC g ad sk) X 0 0 (P) 44 [(0, .ref (ad 1)), (1, vI (n)), (2, vI (y))] [] := by
      intro P hP
      refine B_X5_enter_44 (by omega) (by omega) (Nat.le_refl _) (Nat.le_refl _) C Y ⟨_, x_isReached hN (a := y) (b := n) ⟨y1, by omega⟩ ⟨hn.1, by omega⟩ (hrP P _ _ hP y y1 (by omega)) (hrP P _ _ hP n hn.1 (by omega)) (fun i i1 i2 => ?_) (fun i i1 i2 => ?_), fun r Q hQ => ?_⟩
      · have o := (opS_r oy (s := 1) (by omega)).2.2 i i1 i2
        exact hP.2.2.1 _ o.1 (by omega)
      · have o := (opS_r on (s := 0) (by omega)).2.2 i i1 i2
        exact hP.2.1 _ y o.1 o.2 y1 (by omega)
      · obtain ⟨rfl, q01, q1⟩ := hQ
        have keep : ∀ v, (∀ x, 0 ≤ x → x < 64 → x ≠ n → tb v x = tb (Q 5 y) x) → (tb v n = true ↔ N 12 (40 * y + n) = 1) → EnI N M (up Q 5 y v) n (y + 1) (y + 1) := by
          intro v hv hv2
          refine ⟨fun c i hc => by rw [up_c hc]; exact hP.1 c i hc, fun x x' a1 a2 b1 b2 => ?_, fun x a1 a2 => ?_, fun x a1 a2 => ?_, ?_, fun x a1 a2 => ?_⟩
          · by_cases e : x = y
            · subst e; unfold BlX; rw [up_s, hv x' b1 (by omega) (by omega)]; exact hP.2.1 x x' a1 a2 b1 b2
            · unfold BlX; rw [up_i e]; exact hP.2.1 x x' a1 a2 b1 b2
          · unfold BlX; rw [up_i (by omega)]; exact hP.2.2.1 x a1 a2
          · by_cases e : x = y
            · subst e; unfold BlX; rw [up_s]; exact hv2
            · unfold BlX; rw [up_i e]; exact hP.2.2.2.1 x a1 (by omega)
          · unfold BlX; rw [up_i (by omega)]; exact hP.2.2.2.2.1
          · rw [up_i (by omega)]; exact hP.2.2.2.2.2 x a1 a2
        refine ⟨q01, fun c => ⟨by omega, ?_⟩, fun c => ⟨by omega, ?_⟩⟩
        · refine ih (y + 1) (by omega) (by omega) _ (keep _ (fun x x1 x2 x3 => ?_) ?_)
          · rw [tb_and, tb_xor, tb_bit (by omega) ⟨x1, x2⟩, tb_m1 ⟨x1, x2⟩, decide_eq_false x3]; simp
          · rw [tb_and, tb_xor, tb_bit (by omega) (by omega), tb_m1 (by omega), decide_eq_true rfl]
            simp only [Bool.xor_self, Bool.and_false, Bool.false_eq_true, false_iff]
            omega
        · refine ih (y + 1) (by omega) (by omega) _ (keep _ (fun x x1 x2 x3 => ?_) ?_)
          · rw [tb_or, tb_bit (by omega) ⟨x1, x2⟩, decide_eq_false x3]; simp
          · rw [tb_or, tb_bit (by omega) (by omega), decide_eq_true rfl]
            simp only [Bool.or_true, true_iff]
            omega
    refine B_X5_enter_17 (by omega) (by omega) (Nat.le_refl _) (Nat.le_refl _) C Y ⟨fun c => absurd c (by omega), fun c => ⟨_, x_isReached hN (a := n) (b := y) ⟨hn.1, by omega⟩ ⟨y1, by omega⟩ (hrP P _ _ hP n hn.1 (by omega)) (hrP P _ _ hP y y1 (by omega)) (fun i i1 i2 => ?_) (fun i i1 i2 => ?_), fun r Q hQ => ?_⟩⟩
    · have o := (opS_r on (s := 1) (by omega)).2.2 i i1 i2
      exact hP.2.1 y _ y1 (by omega) o.1 o.2
    · have o := (opS_r oy (s := 0) (by omega)).2.2 i i1 i2
      exact hP.2.2.2.1 _ o.1 (by omega)
    · obtain ⟨rfl, q01, q1⟩ := hQ
      refine ⟨q01, fun c => ?_, fun c => ⟨by omega, ?_⟩⟩
      · refine mid Q ⟨hP.1, hP.2.1, fun x a1 a2 => ?_, hP.2.2.2.1, hP.2.2.2.2.1, fun x a1 a2 => hP.2.2.2.2.2 x (by omega) a2⟩
        by_cases e : x = y
        · subst e; unfold BlX; rw [hP.2.2.2.2.2 x (by omega) (by omega)]
          simp only [Bool.false_eq_true, false_iff]
          omega
        · exact hP.2.2.1 x a1 (by omega)
      · have tv : ∀ x, 0 ≤ x → x < 64 → x ≠ y → tb (lorL (Q 5 n) (lshlL 1 y)) x = tb (Q 5 n) x := by
          intro x x1 x2 x3
          rw [tb_or, tb_bit (by omega) ⟨x1, x2⟩, decide_eq_false x3]; simp
        have ty : tb (lorL (Q 5 n) (lshlL 1 y)) y = true := by
          rw [tb_or, tb_bit (by omega) (by omega), decide_eq_true rfl]; simp
        refine mid _ ⟨fun c i hc => by rw [up_c hc]; exact hP.1 c i hc, fun x x' a1 a2 b1 b2 => ?_, fun x a1 a2 => ?_, fun x a1 a2 => ?_, ?_, fun x a1 a2 => ?_⟩
        · unfold BlX; rw [up_i (by omega)]; exact hP.2.1 x x' a1 a2 b1 b2
        · unfold BlX; rw [up_s]
          by_cases e : x = y
          · subst e; rw [ty]; simp only [true_iff]; omega
          · rw [tv x a1 (by omega) e]; exact hP.2.2.1 x a1 (by omega)
        · unfold BlX; rw [up_i (by omega)]; exact hP.2.2.2.1 x a1 a2
        · unfold BlX; rw [up_s, tv n (by omega) (by omega) (by omega)]; exact hP.2.2.2.2.1
        · rw [up_s, tv x (by omega) (by omega) (by omega)]; exact hP.2.2.2.2.2 x (by omega) a2
/-- what enter leaves -/
def EntX (N M P : Mem) (n : Int) : Prop := P 4 0 = n + 1 ∧ (∀ c i, c ≠ 5 → ¬ (c = 4 ∧ i = 0) → P c i = M c i) ∧ RepB N P (n + 1)
theorem x_enter {g : Gs} {ad : Nat → Nat} {sk : (Nat → Nat) × (Nat → Nat)} {N M : Mem} {n : Int} (hN : Good (n + 1) N) (hn : 0 ≤ n ∧ n < 40) (h4 : M 4 0 = n) (hr : ∀ z, 0 ≤ z → z ≤ n → RepG N M z) (hB : RepB N M n) : SpI (wC g ad sk) yX5_enter cX5_enter 3 (some .int) 3 [.ref (ad 1)] (M) (fun r P => r = n ∧ EntX N M P n) := by
  intro l9 hl9
  refine ct_of hl9 mi_X5_enter.2.2.2 (Nat.le_of_ble_eq_true rfl) (fun X _ C Y => ?_)
  show E (wC g ad sk) X 0 0 (M) 0 [(0, .ref (ad 1))] []
  refine e_wf (fun hw => ?_)
  refine B_X5_enter_0  (Nat.le_refl _) (Nat.le_refl _) C Y ⟨by omega, ?_⟩
  rw [h4]
  refine en_17 C Y hN hn hr (fun P h => ⟨_, rfl, rfl, up_s _ _ _ _, fun c i c5 c4 => ?_, fun x y x1 x2 y1 y2 => ?_⟩) n.toNat 0 (by omega) (by omega) _ ⟨fun c i hc => up_c hc, fun x y x1 x2 y1 y2 => ?_, fun y y1 y2 => absurd y2 (by omega), fun y y1 y2 => absurd y2 (by omega), ?_, fun y y1 y2 => ?_⟩
  · rw [up_n (by omega)]; exact h.1 c i c5
  · rw [up_c (by decide)]
    by_cases ex : x = n
    · by_cases ey : y = n
      · subst ex; subst ey; exact h.2.2.2.2.1
      · subst ex; exact h.2.2.1 y y1 (by omega)
    · by_cases ey : y = n
      · subst ey; exact h.2.2.2.1 x x1 (by omega)
      · exact h.2.1 x y x1 (by omega) y1 (by omega)
  · unfold BlX; rw [up_i (by omega)]; exact hB x y x1 x2 y1 y2
  · unfold BlX; rw [up_s, tb_bit (by omega) (by omega), decide_eq_true rfl]
    have := al_refl (gd_ord hN) 41 n hn.1 (by omega) (by omega)
    simp only [true_iff]
    exact this
  · rw [up_s, tb_bit (by omega) (by omega)]
    exact decide_eq_false (by omega)
