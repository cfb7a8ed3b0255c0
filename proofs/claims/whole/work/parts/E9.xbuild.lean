/-! ===== the class: build ===== -/
theorem x_openAt {g : Gs} {ad : Nat → Nat} {sk : (Nat → Nat) × (Nat → Nat)} {M : Mem} {x : Int} (hx : 0 ≤ x ∧ x < 80) : SpV (wC g ad sk) yX1_openAt cX1_openAt 2 none 1 [.ref (ad 6), vI (x)] (M) (fun N => N = up (up (up M 32 x 0) 33 x 0) 34 x 0) := by
  intro l9 hl9
  refine ct_of hl9 mi_X1_openAt.2.2.2 (Nat.le_of_ble_eq_true rfl) (fun X _ C Y => ?_)
  show E (wC g ad sk) X 0 0 (M) 0 [(0, .ref (ad 6)), (1, vI (x))] []
  refine e_wf (fun hw => ?_)
  exact B_X1_openAt_0 (by omega) (Nat.zero_le _) (Nat.zero_le _) C Y ⟨hx, rfl, rfl⟩
theorem x_giveTo {g : Gs} {ad : Nat → Nat} {sk : (Nat → Nat) × (Nat → Nat)} {M : Mem} {o z : Int} (ho : 0 ≤ o ∧ o ≤ 80) (hz : 0 ≤ z ∧ z < 40) : SpV (wC g ad sk) yX1_giveTo cX1_giveTo 3 none 2 [.ref (ad 6), vI (o - 1), vI (z)] (M) (fun N => (∀ c i, c ≠ 32 → c ≠ 33 → N c i = M c i) ∧ (∀ i, N 32 i = gvL o (fun i => M 32 i) (fun i => M 34 i) z i) ∧ ∀ i, N 33 i = gvR o (fun i => M 33 i) (fun i => M 34 i) z i) := by
  intro l9 hl9
  refine ct_of hl9 mi_X1_giveTo.2.2.2 (Nat.le_of_ble_eq_true rfl) (fun X _ C Y => ?_)
  show E (wC g ad sk) X 0 0 (M) 0 [(0, .ref (ad 6)), (1, vI (o - 1)), (2, vI (z))] []
  refine e_wf (fun hw => ?_)
  have b29 : (0 ≤ o - 1 → M 34 (o - 1) = 0) → E (wC g ad sk) X 0 0 (M) 29 [(0, .ref (ad 6)), (1, vI (o - 1)), (2, vI (z))] [] := by
    intro q
    refine B_X1_giveTo_29 (by omega) (by omega) (Nat.zero_le _) (Nat.zero_le _) C Y ⟨fun q1 => ⟨rfl, fun _ _ _ _ => rfl, fun i => ?_, fun i => ?_⟩, fun q1 => ⟨by omega, rfl, fun c i h1 _ => up_c h1, fun i => ?_, fun i => ?_⟩⟩
    · unfold gvL; rw [if_neg (by omega)]
    · unfold gvR; rw [if_neg (by omega)]
    · unfold gvL
      by_cases e : i = o - 1
      · rw [if_pos ⟨e, q1, q q1⟩, e, up_s]
      · rw [if_neg (fun w => e w.1), up_i e]
    · unfold gvR
      rw [if_neg (fun w => w.2.2 (q q1)), up_c (by decide)]
  refine B_X1_giveTo_0 (by omega) (by omega) (Nat.zero_le _) (Nat.zero_le _) C Y ⟨fun q => b29 (by omega), fun q => ⟨by omega, fun q1 => b29 (fun _ => q1), fun q1 => ⟨rfl, fun c i _ h2 => up_c h2, fun i => ?_, fun i => ?_⟩⟩⟩
  · unfold gvL
    rw [if_neg (fun w => q1 w.2.2), up_c (by decide)]
  · unfold gvR
    by_cases e : i = o - 1
    · rw [if_pos ⟨e, q, q1⟩, e, up_s]
    · rw [if_neg (fun w => e w.1), up_i e]
def FrB (M P : Mem) : Prop := ∀ c i, (c < 4 ∨ (9 < c ∧ c < 32) ∨ (34 < c ∧ c < 40) ∨ 53 < c) → P c i = M c i
theorem FrB.trans {M P Q : Mem} (a : FrB M P) (b : FrB P Q) : FrB M Q := fun c i h => (b c i h).trans (a c i h)
theorem xb_8 {g : Gs} {ad : Nat → Nat} {sk : (Nat → Nat) × (Nat → Nat)} {X : Cx} {PQ : Option Value → Mem → Prop} {PX : String → Mem → Prop} (C : OkB (wC g ad sk) X cX1_build RX1 8 5 0 0) (Y : OkR (wC g ad sk) X (some .int) 0 0 PQ PX) : ∀ (xs : List Int) (k o z : Int) (M G : Mem), RepX G M (G 0 0) → Wf xs o 0 → 0 ≤ k → k + (xs.length : Int) ≤ 400 → (∀ (j : Nat) (v : Int), xs[j]? = some v → M 21 (k + j) = v) → WdS (G 0 0) o (fun i => M 32 i) (fun i => M 33 i) → (0 ≤ o ∧ o ≤ 80) → R32 z → (∀ r P G', BdR xs G o (fun i => M 32 i) (fun i => M 33 i) (fun i => M 34 i) z r G' → RepX G' P (G' 0 0) → FrB M P → PQ (some (vI r)) P) → E (wC g ad sk) X 0 0 (M) 8 [(0, .ref (ad 6)), (1, .ref (ad 35)), (2, vI (k + xs.length)), (3, vI (o)), (4, vI (z)), (5, vI (k))] [] := by
  intro xs
  induction xs with
  | nil =>
    intro k o z M G hX hw k0 k4 hs wd ho zr kk
    have e : (k + (([] : List Int).length : Int)) = k := by simp
    rw [e]
    exact B_X1_build_8 (by omega) (by omega) (by omega) (by omega) (Nat.zero_le _) (Nat.zero_le _) C Y ⟨fun _ => kk z M G ⟨rfl, rfl⟩ hX (fun _ _ _ => rfl), fun q => absurd q (by omega)⟩
  | cons x xs ih =>
    intro k o z M G hX hw k0 k4 hs wd ho zr kk
    have len : ((x :: xs).length : Int) = (xs.length : Int) + 1 := by simp
    rw [len] at k4 ⊢
    have hG : Good (G 0 0) G := hX.2.2.1
    have mx : M 21 k = x := by have := hs 0 x rfl; rwa [show k + ((0 : Nat) : Int) = k by omega] at this
    have hs2 : ∀ (N : Mem), (∀ i, N 21 i = M 21 i) → ∀ (j : Nat) (v : Int), xs[j]? = some v → N 21 (k + 1 + j) = v := fun N f j v q => by
      rw [f, show k + 1 + (j : Int) = k + ((j + 1 : Nat) : Int) by omega]
      exact hs (j + 1) v (by rw [List.getElem?_cons_succ]; exact q)
    have e2 : k + ((xs.length : Int) + 1) = k + 1 + (xs.length : Int) := by omega
    rw [e2]
    -- behind a game that was made
    have give : ∀ (o' z1 : Int) (A1 G1 : Mem), RepX G1 A1 (G1 0 0) → Good (G1 0 0) G1 → FrG M A1 → (0 ≤ o' ∧ o' ≤ o) → Wf xs o' 0 → (G 0 0 ≤ G1 0 0 ∧ G1 0 0 ≤ 40) → (z1 ≠ -1 → 0 ≤ z1 ∧ z1 < G1 0 0) → (-1 ≤ z1 ∧ z1 < 40) → (∀ r G', ((z1 = -1 ∧ r = -1 ∧ G' = G1) ∨ (z1 ≠ -1 ∧ BdR xs G1 o' (gvL o' (fun i => M 32 i) (fun i => M 34 i) z1) (gvR o' (fun i => M 33 i) (fun i => M 34 i) z1) (fun i => M 34 i) z1 r G')) → BdR (x :: xs) G o (fun i => M 32 i) (fun i => M 33 i) (fun i => M 34 i) z r G') → E (wC g ad sk) X 0 0 (A1) 134 [(0, .ref (ad 6)), (1, .ref (ad 35)), (2, vI (k + 1 + xs.length)), (3, vI (o')), (5, vI (k))] [vI (z1)] := by
      intro o' z1 A1 G1 hX1 hG1 fr ho' hw' hn hz hz2 hb
      have a32 : (fun i => A1 32 i) = fun i => M 32 i := funext (fun i => fr 32 i (by omega))
      have a33 : (fun i => A1 33 i) = fun i => M 33 i := funext (fun i => fr 33 i (by omega))
      have a34 : (fun i => A1 34 i) = fun i => M 34 i := funext (fun i => fr 34 i (by omega))
      have frb : FrB M A1 := fun c i h => fr c i (by omega)
      refine B_X1_build_134 (by omega) (by omega) (by omega) (by omega) (Nat.zero_le _) (Nat.zero_le _) C Y ⟨fun zn => ⟨by omega, _, x_giveTo (by omega) (by have := hz zn; omega), fun P hP => ?_⟩, fun zn => kk (-1) A1 G1 (hb (-1) G1 (Or.inl ⟨zn, rfl, rfl⟩)) hX1 frb⟩
      rw [a32, a33, a34] at hP
      obtain ⟨p1, p2, p3⟩ := hP
      have p32 : (fun i => P 32 i) = gvL o' (fun i => M 32 i) (fun i => M 34 i) z1 := funext p2
      have p33 : (fun i => P 33 i) = gvR o' (fun i => M 33 i) (fun i => M 34 i) z1 := funext p3
      have p34 : (fun i => P 34 i) = fun i => M 34 i := funext (fun i => (p1 34 i (by decide) (by decide)).trans (congrFun a34 i))
      refine ⟨by omega, ih (k + 1) o' z1 P G1 (hX1.cx (fun c i hc => p1 c i (by omega) (by omega))) hw' (by omega) (by omega) (hs2 P (fun i => (p1 21 i (by decide) (by decide)).trans (fr 21 i (by omega)))) ?_ (by omega) (by omega) (fun r Q G' hB hX2 fB => ?_)⟩
      · rw [p32, p33]
        exact wd.gv hn (hz zn) ho'.2
      · rw [p32, p33, p34] at hB
        exact kk r Q G' (hb r G' (Or.inr ⟨zn, hB⟩)) hX2 (frb.trans (FrB.trans (fun c i h => p1 c i (by omega) (by omega)) fB))
    unfold Wf at hw
    by_cases q0 : x = 100
    · subst q0
      rw [if_pos rfl] at hw
      refine B_X1_build_8 (by omega) (by omega) (by omega) (by omega) (Nat.zero_le _) (Nat.zero_le _) C Y ⟨fun q => absurd q (by omega), fun q => ⟨by omega, fun w => absurd mx w, fun _ => ⟨fun w => absurd w (by omega), fun _ => ⟨_, x_openAt hw.1, fun N hN => ⟨by omega, ?_⟩⟩⟩⟩⟩
      rw [hN]
      have n32 : (fun i => (up (up (up M 32 o 0) 33 o 0) 34 o 0) 32 i) = stA (fun i => M 32 i) o 0 := funext (fun i => by
        rw [up_c (by decide), up_c (by decide)]; unfold stA
        by_cases e : i = o
        · rw [if_pos e, e, up_s]
        · rw [if_neg e, up_i e])
      have n33 : (fun i => (up (up (up M 32 o 0) 33 o 0) 34 o 0) 33 i) = stA (fun i => M 33 i) o 0 := funext (fun i => by
        rw [up_c (by decide)]; unfold stA
        by_cases e : i = o
        · rw [if_pos e, e, up_s]
        · rw [if_neg e, up_i e, up_c (by decide)])
      have n34 : (fun i => (up (up (up M 32 o 0) 33 o 0) 34 o 0) 34 i) = stA (fun i => M 34 i) o 0 := funext (fun i => by
        unfold stA
        by_cases e : i = o
        · rw [if_pos e, e, up_s]
        · rw [if_neg e, up_i e, up_c (by decide), up_c (by decide)])
      refine ih (k + 1) (o + 1) z _ G (hX.cx (fun c i hc => by rw [up_c (by omega), up_c (by omega), up_c (by omega)])) hw.2 (by omega) (by omega) (hs2 _ (fun i => by rw [up_c (by decide), up_c (by decide), up_c (by decide)])) ?_ (by omega) zr (fun r Q G' hB hX2 fB => ?_)
      · rw [n32, n33]; exact wd.op
      · rw [n32, n33, n34] at hB
        exact kk r Q G' (bd_o.mpr hB) hX2 (FrB.trans (fun c i h => by rw [up_c (by omega), up_c (by omega), up_c (by omega)]) fB)
    · rw [if_neg q0] at hw
      refine B_X1_build_8 (by omega) (by omega) (by omega) (by omega) (Nat.zero_le _) (Nat.zero_le _) C Y ⟨fun q => absurd q (by omega), fun q => ⟨by omega, fun w => ?_, fun w => absurd (mx.symm.trans w) q0⟩⟩
      rw [mx]
      by_cases q1 : x = 101
      · subst q1
        rw [if_pos rfl] at hw
        refine B_X1_build_44 (by omega) (by omega) (by omega) (by omega) (by omega) (Nat.zero_le _) (Nat.zero_le _) C Y ⟨fun w => absurd rfl w, fun _ => ⟨fun w => absurd w (by omega), fun _ => ⟨by omega, ?_⟩⟩⟩
        have n34 : (fun i => (up M 34 (o - 1) 1) 34 i) = stA (fun i => M 34 i) (o - 1) 1 := funext (fun i => by
          unfold stA
          by_cases e : i = o - 1
          · rw [if_pos e, e, up_s]
          · rw [if_neg e, up_i e])
        have n32 : (fun i => (up M 34 (o - 1) 1) 32 i) = fun i => M 32 i := funext (fun i => up_c (by decide))
        have n33 : (fun i => (up M 34 (o - 1) 1) 33 i) = fun i => M 33 i := funext (fun i => up_c (by decide))
        refine ih (k + 1) o z _ G (hX.cx (fun c i hc => up_c (by omega))) hw.2 (by omega) (by omega) (hs2 _ (fun i => up_c (by decide))) ?_ (by omega) zr (fun r Q G' hB hX2 fB => ?_)
        · rw [n32, n33]; exact wd
        · rw [n32, n33, n34] at hB
          exact kk r Q G' (bd_b.mpr hB) hX2 (FrB.trans (fun c i h => up_c (by omega)) fB)
      · rw [if_neg q1] at hw
        have xr : R32 x := by
          by_cases q2 : x = 102
          · omega
          · rw [if_neg q2] at hw; omega
        refine B_X1_build_44 (by omega) (by omega) (by omega) (by omega) (by omega) (Nat.zero_le _) (Nat.zero_le _) C Y ⟨fun _ => ?_, fun w => absurd w q1⟩
        by_cases q2 : x = 102
        · subst q2
          rw [if_pos rfl] at hw
          refine B_X1_build_67 (by omega) (by omega) (by omega) (by omega) (Nat.zero_le _) (Nat.zero_le _) C Y ⟨fun w => absurd rfl w, fun _ => ⟨fun w => absurd w (by omega), fun _ => ?_⟩⟩
          refine B_X1_build_83 (by omega) (by omega) (by omega) (by omega) (by omega) (Nat.zero_le _) (Nat.zero_le _) C Y ⟨fun w => absurd w (by decide), fun _ => ?_⟩
          have wo := wd (o - 1) (by omega) (by omega)
          refine B_X1_build_96 (by omega) (by omega) (by omega) (by omega) (by omega) (by omega) (Nat.zero_le _) (Nat.zero_le _) C Y ⟨by omega, fun w => absurd w (by decide), fun _ => ⟨by omega, _, x_compose hX wo.1 wo.2, fun z1 A1 hz => ?_⟩⟩
          obtain ⟨G1, h1, h2, h3⟩ := hz
          have s := cmp_st hG h1
          exact ⟨by omega, give (o - 1) z1 A1 G1 h2 s.2.2.1 h3 (by omega) hw.2 s.1 s.2.2.2.1 s.2.2.2.2 (fun r G' hh => bd_c.mpr ⟨z1, G1, h1, hh⟩)⟩
        · rw [if_neg q2] at hw
          refine B_X1_build_67 (by omega) (by omega) (by omega) (by omega) (Nat.zero_le _) (Nat.zero_le _) C Y ⟨fun _ => ?_, fun w => absurd w q2⟩
          refine B_X1_build_83 (by omega) (by omega) (by omega) (by omega) (by omega) (Nat.zero_le _) (Nat.zero_le _) C Y ⟨fun _ => ?_, fun w => absurd rfl w⟩
          refine B_X1_build_96 (by omega) (by omega) (by omega) (by omega) (by omega) (by omega) (Nat.zero_le _) (Nat.zero_le _) C Y ⟨by omega, fun _ => ⟨_, x_makeNumber hX hw.1, fun z1 A1 hz => ?_⟩, fun w => absurd rfl w⟩
          obtain ⟨G1, h1, h2, h3⟩ := hz
          have s := num_st hG h1
          rw [Int.sub_zero]
          exact ⟨by omega, give o z1 A1 G1 h2 s.2.2.1 h3 (by omega) hw.2.2 s.1 s.2.2.2.1 s.2.2.2.2 (fun r G' hh => (bd_n hw.1).mpr ⟨z1, G1, h1, hh⟩)⟩
theorem x_build {g : Gs} {ad : Nat → Nat} {sk : (Nat → Nat) × (Nat → Nat)} {xs : List Int} {M G : Mem} {c : Int} (hX : RepX G M (G 0 0)) (hw9 : Wf xs 0 0) (hc : c = (xs.length : Int)) (hl : (xs.length : Int) ≤ 400) (hs : ∀ (j : Nat) (v : Int), xs[j]? = some v → M 21 j = v) : SpI (wC g ad sk) yX1_build cX1_build 8 (some .int) 5 [.ref (ad 6), .ref (ad 35), vI (c)] (M) (fun r P => ∃ G', BdR xs G 0 (fun i => M 32 i) (fun i => M 33 i) (fun i => M 34 i) (-1) r G' ∧ RepX G' P (G' 0 0) ∧ FrB M P) := by
  intro l9 hl9
  refine ct_of hl9 mi_X1_build.2.2.2 (Nat.le_of_ble_eq_true rfl) (fun X _ C Y => ?_)
  show E (wC g ad sk) X 0 0 (M) 0 [(0, .ref (ad 6)), (1, .ref (ad 35)), (2, vI (c))] []
  refine e_wf (fun hw => ?_)
  refine B_X1_build_0 (by omega) (Nat.zero_le _) (Nat.zero_le _) C Y ?_
  rw [hc, show (xs.length : Int) = 0 + (xs.length : Int) by omega]
  exact xb_8 C Y xs 0 0 (-1) M G hX hw9 (by omega) (by omega) (fun j v q => by rw [Int.zero_add]; exact hs j v q) (fun i i0 i1 => by omega) (by decide) (by decide) (fun r P G' h1 h2 h3 => ⟨r, rfl, G', h1, h2, h3⟩)
