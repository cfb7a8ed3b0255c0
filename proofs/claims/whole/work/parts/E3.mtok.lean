/-! ===== the reference: tokens ===== -/
def chA (u : Int → Int) (L k : Int) : Int := if k < L then u k else 0
theorem m_charAt {g : Gs} {ad : Nat → Nat} {M : Mem} {k : Int} (hk : 0 ≤ k ∧ k ≤ 200) (hL : M 24 0 ≤ 80) : SpI (wM g ad) yX10_charAt cX10_charAt 2 (some .int) 1 [.ref (ad 0), vI (k)] (M) (fun r P => r = chA (fun i => M 23 i) (M 24 0) k ∧ P = M) := by
  intro l9 hl9
  refine ct_of hl9 mi_X10_charAt.2.2.2 (Nat.le_of_ble_eq_true rfl) (fun X _ C Y => ?_)
  show E (wM g ad) X 0 0 (M) 0 [(0, .ref (ad 0)), (1, vI (k))] []
  refine e_wf (fun hw => ?_)
  refine B_X10_charAt_0 (by omega) (Nat.zero_le _) (Nat.zero_le _) C Y ⟨fun q => ⟨_, rfl, ?_, rfl⟩, fun q => ⟨by omega, _, rfl, ?_, rfl⟩⟩
  · rw [chA, if_neg (by omega)]
  · rw [chA, if_pos q]
theorem chA_r32 {N : Mem} {L k : Int} (hw : RMm N) : R32 (chA (fun i => N 23 i) L k) := by
  unfold chA
  split
  · exact hw.2.1 23 k (by decide)
  · decide
theorem chA_k {u : Int → Int} {L k : Int} : (kdA u L k = 2 ↔ (97 ≤ chA u L k ∧ chA u L k ≤ 122)) ∧ (kdA u L k = 3 ↔ (48 ≤ chA u L k ∧ chA u L k ≤ 57)) := by
  unfold kdA chA kdC
  split
  · split
    · omega
    · split
      · omega
      · split <;> omega
  · omega
theorem lt_ch {u : Int → Int} {L x : Int} (h : kdA u L x = 2) : x < L ∧ 97 ≤ u x ∧ u x ≤ 122 := by
  have k := chA_k.1.mp h
  unfold chA at k
  split at k
  · exact ⟨by assumption, k⟩
  · omega
theorem m_named {g : Gs} {ad : Nat → Nat} {u : Int → Int} {L e : Int} {M : Mem} (hu : ∀ i, M 23 i = u i) (hL : L ≤ 80) (he : 0 ≤ e ∧ e ≤ L) (hk : kdF u L e = 2) (h44 : M 44 0 = stF u L e) (h45 : M 45 0 = enF u L e) : SpI (wM g ad) yX10_named cX10_named 6 (some .int) 1 [.ref (ad 0)] (M) (fun r P => r = nmK u L e ∧ P = M) := by
  have r := atT_r (u := u) he
  have lt := r.2.2.2 (by omega)
  have t := tok_ex (u := u) he.2
  have let0 : ∀ x, stF u L e ≤ x → x < enF u L e → 97 ≤ M 23 x ∧ M 23 x ≤ 122 := fun x x0 x1 => by
    rw [hu x]
    exact (lt_ch ((t.2.2.2.2.2.2.1 (Or.inl hk)).1 x x0 x1 |>.trans hk)).2
  intro l9 hl9
  refine ct_of hl9 mi_X10_named.2.2.2 (Nat.le_of_ble_eq_true rfl) (fun X _ C Y => ?_)
  show E (wM g ad) X 0 0 (M) 0 [(0, .ref (ad 0))] []
  refine e_wf (fun hw => ?_)
  have fin : ∀ v x3 : Int, R32 v → 0 ≤ x3 → x3 ≤ 80 → enF u L e ≤ x3 → (v = 388602 ↔ nmK u L e = 1) → (v = 583 ↔ nmK u L e = 2) → (v = 90302 ↔ nmK u L e = 3) → E (wM g ad) X 0 0 (M) 17 [(0, .ref (ad 0)), (1, vI (enF u L e - stF u L e)), (2, vI (v)), (3, vI (x3))] [] := by
    intro v x3 rv x0 x8 x1 n1 n2 n3
    have nr := nmK_r (u := u) (L := L) (e := e)
    refine B_X10_named_17 (by omega) (by omega) (by omega) (Nat.zero_le _) (Nat.zero_le _) C Y ⟨fun _ => ⟨fun q1 => ⟨fun q2 => ⟨fun q3 => ⟨6, rfl, by omega, rfl⟩, fun q3 => ⟨3, rfl, by omega, rfl⟩⟩, fun q2 => ⟨2, rfl, by omega, rfl⟩⟩, fun q1 => ⟨1, rfl, by omega, rfl⟩⟩, fun q => absurd q (by omega)⟩
  refine B_X10_named_0  (Nat.zero_le _) (Nat.zero_le _) C Y ⟨by omega, ?_⟩
  rw [h45, h44]
  by_cases q4 : enF u L e - stF u L e ≤ 4
  · have stp : ∀ v x3 : Int, 0 ≤ v → v ≤ 20000 → stF u L e ≤ x3 → x3 < enF u L e → E (wM g ad) X 0 0 (M) 17 [(0, .ref (ad 0)), (1, vI (enF u L e - stF u L e)), (2, vI (27 * v + M 23 x3 - 96)), (3, vI (x3 + 1))] [] → E (wM g ad) X 0 0 (M) 17 [(0, .ref (ad 0)), (1, vI (enF u L e - stF u L e)), (2, vI (v)), (3, vI (x3))] [] := by
      intro v x3 v0 v1 x0 x1 kk
      have lx := let0 x3 x0 x1
      exact B_X10_named_17 (by omega) (by omega) (by omega) (Nat.zero_le _) (Nat.zero_le _) C Y ⟨fun q => absurd q (by omega), fun _ => ⟨fun _ => ⟨⟨by omega, by omega, by omega, by omega, by omega⟩, kk⟩, fun q => absurd q (by omega)⟩⟩
    have l0 := let0 (stF u L e) (by omega) lt
    have e0 := hu (stF u L e)
    refine stp 0 _ (by omega) (by omega) (by omega) lt ?_
    rcases (show enF u L e - stF u L e = 1 ∨ enF u L e - stF u L e = 2 ∨ enF u L e - stF u L e = 3 ∨ enF u L e - stF u L e = 4 by omega) with q | q | q | q
    · have nk : nmK u L e = 6 := by rw [nmK, if_neg (by omega), if_neg (by omega), if_neg (by omega)]
      exact fin _ _ (by omega) (by omega) (by omega) (by omega) (by omega) (by omega) (by omega)
    · have l1 := let0 (stF u L e + 1) (by omega) (by omega)
      have e1 := hu (stF u L e + 1)
      refine stp _ _ (by omega) (by omega) (by omega) (by omega) ?_
      have nk : nmK u L e = if u (stF u L e) = 117 ∧ u (stF u L e + 1) = 112 then 2 else 6 := by
        rw [nmK, if_neg (by omega)]
        by_cases w : u (stF u L e) = 117 ∧ u (stF u L e + 1) = 112
        · rw [if_pos ⟨q, w⟩, if_pos w]
        · rw [if_neg (fun z => w z.2), if_neg (by omega), if_neg w]
      refine fin _ _ (by omega) (by omega) (by omega) (by omega) ?_ ?_ ?_ <;> rw [nk] <;> split <;> omega
    · have l1 := let0 (stF u L e + 1) (by omega) (by omega)
      have l2 := let0 (stF u L e + 1 + 1) (by omega) (by omega)
      have nk : nmK u L e = 6 := by rw [nmK, if_neg (by omega), if_neg (by omega), if_neg (by omega)]
      refine stp _ _ (by omega) (by omega) (by omega) (by omega) ?_
      refine stp _ _ (by omega) (by omega) (by omega) (by omega) ?_
      exact fin _ _ (by omega) (by omega) (by omega) (by omega) (by omega) (by omega) (by omega)
    · have l1 := let0 (stF u L e + 1) (by omega) (by omega)
      have l2 := let0 (stF u L e + 1 + 1) (by omega) (by omega)
      have l3 := let0 (stF u L e + 1 + 1 + 1) (by omega) (by omega)
      have e1 := hu (stF u L e + 1)
      have e2 := hu (stF u L e + 1 + 1)
      have e3 := hu (stF u L e + 1 + 1 + 1)
      refine stp _ _ (by omega) (by omega) (by omega) (by omega) ?_
      refine stp _ _ (by omega) (by omega) (by omega) (by omega) ?_
      refine stp _ _ (by omega) (by omega) (by omega) (by omega) ?_
      have s2 : stF u L e + 2 = stF u L e + 1 + 1 := by omega
      have s3 : stF u L e + 3 = stF u L e + 1 + 1 + 1 := by omega
      have nk : nmK u L e = if u (stF u L e) = 115 ∧ u (stF u L e + 1) = 116 ∧ u (stF u L e + 1 + 1) = 97 ∧ u (stF u L e + 1 + 1 + 1) = 114 then 1 else if u (stF u L e) = 100 ∧ u (stF u L e + 1) = 111 ∧ u (stF u L e + 1 + 1) = 119 ∧ u (stF u L e + 1 + 1 + 1) = 110 then 3 else 6 := by
        rw [nmK, s2, s3]
        by_cases w : u (stF u L e) = 115 ∧ u (stF u L e + 1) = 116 ∧ u (stF u L e + 1 + 1) = 97 ∧ u (stF u L e + 1 + 1 + 1) = 114
        · rw [if_pos ⟨q, w⟩, if_pos w]
        · rw [if_neg (fun z => w z.2), if_neg (by omega), if_neg w]
          by_cases w2 : u (stF u L e) = 100 ∧ u (stF u L e + 1) = 111 ∧ u (stF u L e + 1 + 1) = 119 ∧ u (stF u L e + 1 + 1 + 1) = 110
          · rw [if_pos ⟨q, w2⟩, if_pos w2]
          · rw [if_neg (fun z => w2 z.2), if_neg w2]
      generalize u (stF u L e) = c0 at *
      generalize u (stF u L e + 1) = c1 at *
      generalize u (stF u L e + 1 + 1) = c2 at *
      generalize u (stF u L e + 1 + 1 + 1) = c3 at *
      rw [e0, e1, e2, e3]
      rw [e0] at l0
      rw [e1] at l1
      rw [e2] at l2
      rw [e3] at l3
      refine fin _ _ (by omega) (by omega) (by omega) (by omega) ?_ ?_ ?_ <;> rw [nk] <;> split <;> (try split) <;> omega
  · have nk : nmK u L e = 6 := by rw [nmK, if_neg (by omega), if_neg (by omega), if_neg (by omega)]
    have lp : ∀ (m : Nat) (x3 : Int), stF u L e ≤ x3 → x3 + m = enF u L e → E (wM g ad) X 0 0 (M) 17 [(0, .ref (ad 0)), (1, vI (enF u L e - stF u L e)), (2, vI (0)), (3, vI (x3))] [] := by
      intro m
      induction m with
      | zero => intro x3 x0 hm; exact fin 0 x3 (by decide) (by omega) (by omega) (by omega) (by omega) (by omega) (by omega)
      | succ m ih =>
        intro x3 x0 hm
        exact B_X10_named_17 (by omega) (by omega) (by omega) (Nat.zero_le _) (Nat.zero_le _) C Y ⟨fun q => absurd q (by omega), fun _ => ⟨fun q => absurd q (by omega), fun _ => ⟨by omega, ih (x3 + 1) (by omega) (by omega)⟩⟩⟩
    exact lp (enF u L e - stF u L e).toNat _ (by omega) (by omega)
/-- the reference's code of a token -/
def tkF (u : Int → Int) (L e : Int) : Int := if kdF u L e = 2 then nmK u L e else if kdF u L e = 3 then (if dgF u L e = -1 then 6 else 4) else if kdF u L e = 43 then 5 else if kdF u L e = 1 then 6 else kdF u L e
def FK (M N : Mem) : Prop := ∀ c i, c ≠ 44 → c ≠ 45 → c ≠ 46 → c ≠ 47 → N c i = M c i
/-- the token behind e is loaded -/
def RT (u : Int → Int) (L : Int) (M : Mem) (e : Int) : Prop := M 44 0 = stF u L e ∧ M 46 0 = tkF u L e ∧ (kdF u L e ≠ 0 → M 45 0 = if kdF u L e = 43 then enF u L e + 1 else enF u L e) ∧ (tkF u L e = 4 → M 47 0 = dgF u L e)
theorem mn_84 {g : Gs} {ad : Nat → Nat} {X : Cx} {PQ : Option Value → Mem → Prop} {PX : String → Mem → Prop} (C : OkB (wM g ad) X cX10_next RX10 2 3 0 0) (Y : OkR (wM g ad) X none 0 0 PQ PX) {u : Int → Int} {L e : Int} {M : Mem} (hL : L ≤ 80) (he : 0 ≤ e ∧ e ≤ L) (hu : ∀ i, M 23 i = u i) (h24 : M 24 0 = L) (hk : kdF u L e = 2) (kk : ∀ N, FK M N → RT u L N e → PQ none N) : ∀ (m : Nat) (y : Int) (N : Mem), stF u L e < y → y ≤ enF u L e → y + m = enF u L e → FK M N → N 44 0 = stF u L e → N 45 0 = y → E (wM g ad) X 0 0 (N) 84 [(0, .ref (ad 0))] [] := by
  have t := tok_ex (u := u) he.2
  have r := atT_r (u := u) he
  have tk : tkF u L e = nmK u L e := by rw [tkF, if_pos hk]
  have run := t.2.2.2.2.2.2.1 (Or.inl hk)
  intro m
  induction m with
  | zero =>
    intro y N y0 y1 hm f n44 n45
    refine e_wf (fun hw => ?_)
    have eU : (fun i => N 23 i) = u := funext (fun i => (f 23 i (by decide) (by decide) (by decide) (by decide)).trans (hu i))
    have n24 : N 24 0 = L := (f 24 0 (by decide) (by decide) (by decide) (by decide)).trans h24
    refine B_X10_next_84  (Nat.zero_le _) (Nat.zero_le _) C Y ⟨_, m_charAt (k := N 45 0) (by omega) (by omega), fun z P hP => ?_⟩
    obtain ⟨e1, e2⟩ := hP
    have zr : R32 z := by rw [e1]; exact chA_r32 hw
    rw [eU, n24, n45] at e1
    rw [e2]
    have no : ¬ (97 ≤ z ∧ z ≤ 122) := fun w => run.2 (by
      rw [hk]
      have ye : y = enF u L e := by omega
      rw [← ye]
      exact chA_k.1.mpr (by rw [← e1]; exact w))
    refine ⟨zr, fun _ => ⟨_, m_named (u := u) (L := L) (e := e) (fun i => congrFun eU i) hL he hk n44 (by omega), fun v P2 hP2 => ?_⟩, fun q => absurd q no⟩
    obtain ⟨v1, v2⟩ := hP2
    have nr := nmK_r (u := u) (L := L) (e := e)
    rw [v2]
    refine ⟨by omega, kk _ (fun c i h1 h2 h3 h4 => by rw [up_c h3]; exact f c i h1 h2 h3 h4) ⟨by rw [up_c (by decide)]; exact n44, by rw [up_s, tk]; exact v1, fun _ => by rw [up_c (by decide), if_neg (by omega)]; omega, fun w => by omega⟩⟩
  | succ m ih =>
    intro y N y0 y1 hm f n44 n45
    have eU : (fun i => N 23 i) = u := funext (fun i => (f 23 i (by decide) (by decide) (by decide) (by decide)).trans (hu i))
    have n24 : N 24 0 = L := (f 24 0 (by decide) (by decide) (by decide) (by decide)).trans h24
    refine B_X10_next_84  (Nat.zero_le _) (Nat.zero_le _) C Y ⟨_, m_charAt (k := N 45 0) (by omega) (by omega), fun z P hP => ?_⟩
    obtain ⟨e1, e2⟩ := hP
    rw [eU, n24, n45] at e1
    rw [e2]
    have ys : 97 ≤ z ∧ z ≤ 122 := by rw [e1]; exact chA_k.1.mp ((run.1 y (by omega) (by omega)).trans hk)
    refine ⟨by omega, fun q => absurd ys q, fun _ => ⟨by omega, ih (y + 1) _ (by omega) (by omega) (by omega) (fun c i h1 h2 h3 h4 => by rw [up_c h2]; exact f c i h1 h2 h3 h4) (by rw [up_c (by decide)]; exact n44) (by rw [up_s, n45])⟩⟩
theorem mn_137 {g : Gs} {ad : Nat → Nat} {X : Cx} {PQ : Option Value → Mem → Prop} {PX : String → Mem → Prop} (C : OkB (wM g ad) X cX10_next RX10 2 3 0 0) (Y : OkR (wM g ad) X none 0 0 PQ PX) {u : Int → Int} {L e : Int} {M : Mem} (hL : L ≤ 80) (he : 0 ≤ e ∧ e ≤ L) (hu : ∀ i, M 23 i = u i) (h24 : M 24 0 = L) (hk : kdF u L e = 3) (kk : ∀ N, FK M N → RT u L N e → PQ none N) : ∀ (m : Nat) (y : Int) (N : Mem), stF u L e < y → y ≤ enF u L e → y + m = enF u L e → FK M N → N 44 0 = stF u L e → N 45 0 = y → (0 ≤ N 47 0 ∧ N 47 0 ≤ 1000) → (y = stF u L e + 1 → N 47 0 = u (stF u L e) - 48) → (y = stF u L e + 2 → N 47 0 = 10 * (u (stF u L e) - 48) + (u (stF u L e + 1) - 48)) → E (wM g ad) X 0 0 (N) 137 [(0, .ref (ad 0)), (1, vI (u (stF u L e)))] [] := by
  have t := tok_ex (u := u) he.2
  have r := atT_r (u := u) he
  have lt := r.2.2.2 (by omega)
  have run := t.2.2.2.2.2.2.1 (Or.inr hk)
  have tk : tkF u L e = if dgF u L e = -1 then 6 else 4 := by rw [tkF, if_neg (by omega), if_pos hk]
  have c0 := dg_ch (run.1 (stF u L e) (by omega) lt |>.trans hk)
  intro m
  induction m with
  | zero =>
    intro y N y0 y1 hm f n44 n45 n47 g1 g2
    refine e_wf (fun hw => ?_)
    have eU : (fun i => N 23 i) = u := funext (fun i => (f 23 i (by decide) (by decide) (by decide) (by decide)).trans (hu i))
    have n24 : N 24 0 = L := (f 24 0 (by decide) (by decide) (by decide) (by decide)).trans h24
    have ye : y = enF u L e := by omega
    refine B_X10_next_137 (by omega) (Nat.zero_le _) (Nat.zero_le _) C Y ⟨_, m_charAt (k := N 45 0) (by omega) (by omega), fun z P hP => ?_⟩
    obtain ⟨e1, e2⟩ := hP
    have zr : R32 z := by rw [e1]; exact chA_r32 hw
    rw [eU, n24, n45] at e1
    rw [e2]
    have no : ¬ (48 ≤ z ∧ z ≤ 57) := fun w => run.2 (by
      rw [hk, ← ye]
      exact chA_k.2.mpr (by rw [← e1]; exact w))
    have bad : dgF u L e = -1 → PQ none (up N 46 0 6) := fun q => kk _ (fun c i h1 h2 h3 h4 => by rw [up_c h3]; exact f c i h1 h2 h3 h4) ⟨by rw [up_c (by decide)]; exact n44, by rw [up_s, tk, if_pos q], fun _ => by rw [up_c (by decide), if_neg (by omega)]; omega, fun w => by rw [tk, if_pos q] at w; omega⟩
    have good : dgF u L e ≠ -1 → N 47 0 = dgF u L e → PQ none (up N 46 0 4) := fun q q2 => kk _ (fun c i h1 h2 h3 h4 => by rw [up_c h3]; exact f c i h1 h2 h3 h4) ⟨by rw [up_c (by decide)]; exact n44, by rw [up_s, tk, if_neg q], fun _ => by rw [up_c (by decide), if_neg (by omega)]; omega, fun w => by rw [up_c (by decide)]; exact q2⟩
    have dgy : enF u L e - stF u L e ≤ 2 → ¬ (enF u L e - stF u L e = 2 ∧ u (stF u L e) = 48) → dgF u L e = N 47 0 := by
      intro q1 q2
      rw [dgF, if_pos ⟨hk, q1, q2⟩]
      by_cases q3 : enF u L e - stF u L e = 2
      · rw [if_pos q3, g2 (by omega)]
      · rw [if_neg q3, g1 (by omega)]
    refine ⟨zr, fun _ => ⟨by omega, fun q => bad (by rw [dgF, if_neg (by omega)]), fun q => ⟨fun q2 => good (by have := dgy (by omega) (by omega); omega) (dgy (by omega) (by omega)).symm, fun q2 => ⟨fun q3 => good (by have := dgy (by omega) (by omega); omega) (dgy (by omega) (by omega)).symm, fun q3 => bad (by rw [dgF, if_neg (by omega)])⟩⟩⟩, fun q => absurd q no⟩
  | succ m ih =>
    intro y N y0 y1 hm f n44 n45 n47 g1 g2
    have eU : (fun i => N 23 i) = u := funext (fun i => (f 23 i (by decide) (by decide) (by decide) (by decide)).trans (hu i))
    have n24 : N 24 0 = L := (f 24 0 (by decide) (by decide) (by decide) (by decide)).trans h24
    refine B_X10_next_137 (by omega) (Nat.zero_le _) (Nat.zero_le _) C Y ⟨_, m_charAt (k := N 45 0) (by omega) (by omega), fun z P hP => ?_⟩
    obtain ⟨e1, e2⟩ := hP
    rw [eU, n24, n45] at e1
    rw [e2]
    have cy := dg_ch (run.1 y (by omega) (by omega) |>.trans hk)
    have zy : z = u y := by rw [e1, chA, if_pos cy.1]
    refine ⟨by omega, fun q => absurd (by omega) q, fun _ => ⟨fun q => ⟨by omega, ih (y + 1) _ (by omega) (by omega) (by omega) (fun c i h1 h2 h3 h4 => by rw [up_c h2, up_c h4]; exact f c i h1 h2 h3 h4) (by rw [up_c (by decide), up_c (by decide)]; exact n44) (by rw [up_s, n45]) (by rw [up_c (by decide), up_s]; exact n47) (fun w => by omega) (fun w => ?_)⟩, fun q => ⟨by omega, _, m_charAt (k := N 45 0) (by omega) (by omega), fun z2 P2 hP2 => ?_⟩⟩⟩
    · have := g1 (by omega); omega
    · obtain ⟨v1, v2⟩ := hP2
      rw [eU, n24, n45] at v1
      rw [v2]
      have zy2 : z2 = u y := by rw [v1, chA, if_pos cy.1]
      refine ⟨by omega, ⟨by omega, by omega, by omega⟩, ih (y + 1) _ (by omega) (by omega) (by omega) (fun c i h1 h2 h3 h4 => by rw [up_c h2, up_c h4]; exact f c i h1 h2 h3 h4) (by rw [up_c (by decide), up_c (by decide)]; exact n44) (by rw [up_s, n45]) (by rw [up_c (by decide), up_s]; omega) (fun w => by omega) (fun w => ?_)⟩
      have := g1 (by omega)
      rw [up_c (by decide), up_s]
      have yy : y = stF u L e + 1 := by omega
      rw [yy] at zy2
      omega
theorem kd_sp {u : Int → Int} {L e : Int} (h : stF u L e < L) : kdF u L e = kdC (u (stF u L e)) := by
  rw [kdF, kdA, if_pos h]
theorem m_next {g : Gs} {ad : Nat → Nat} {u : Int → Int} {L e : Int} {M : Mem} (hL : 0 ≤ L ∧ L ≤ 80) (he : 0 ≤ e ∧ e ≤ L) (hu : ∀ i, M 23 i = u i) (h24 : M 24 0 = L) (h45 : M 45 0 = e) : SpV (wM g ad) yX10_next cX10_next 2 none 3 [.ref (ad 0)] (M) (fun N => FK M N ∧ RT u L N e) := by
  have t := tok_ex (u := u) he.2
  have r := atT_r (u := u) he
  intro l9 hl9
  refine ct_of hl9 mi_X10_next.2.2.2 (Nat.le_of_ble_eq_true rfl) (fun X _ C Y => ?_)
  show E (wM g ad) X 0 0 (M) 0 [(0, .ref (ad 0))] []
  refine e_wf (fun hw => ?_)
  have lp : ∀ (m : Nat) (y : Int) (N : Mem), e ≤ y → y + m = stF u L e → FK M N → N 44 0 = y → N 45 0 = e → E (wM g ad) X 0 0 (N) 8 [(0, .ref (ad 0))] [] := by
    intro m
    induction m with
    | zero =>
      intro y N y0 hm f n44 n45
      refine e_wf (fun hw2 => ?_)
      have eU : (fun i => N 23 i) = u := funext (fun i => (f 23 i (by decide) (by decide) (by decide) (by decide)).trans (hu i))
      have n24 : N 24 0 = L := (f 24 0 (by decide) (by decide) (by decide) (by decide)).trans h24
      have ye : y = stF u L e := by omega
      refine B_X10_next_8  (Nat.zero_le _) (Nat.zero_le _) C Y ⟨_, m_charAt (k := N 44 0) (by omega) (by omega), fun z P hP => ?_⟩
      obtain ⟨e1, e2⟩ := hP
      have zr : R32 z := by rw [e1]; exact chA_r32 hw2
      rw [eU, n24, n44, ye] at e1
      rw [e2]
      have n32 : z ≠ 32 := by
        rw [e1, chA]
        split
        · rename_i q; exact t.2.2.1 q
        · decide
      refine ⟨zr, fun _ => ⟨_, m_charAt (k := N 44 0) (by omega) (by omega), fun c P2 hP2 => ?_⟩, fun q => absurd q n32⟩
      obtain ⟨c1, c2⟩ := hP2
      have cr : R32 c := by rw [c1]; exact chA_r32 hw2
      rw [eU, n24, n44, ye] at c1
      rw [c2]
      have fr : ∀ N2 : Mem, (∀ c i, c ≠ 44 → c ≠ 45 → c ≠ 46 → c ≠ 47 → N2 c i = N c i) → FK M N2 := fun N2 h c i h1 h2 h3 h4 => (h c i h1 h2 h3 h4).trans (f c i h1 h2 h3 h4)
      refine ⟨cr, by omega, fun sl => ?_, fun sl => ⟨rfl, fr _ (fun c i h1 h2 h3 h4 => by rw [up_c h3, up_c h3, up_c h2]), ?_⟩⟩
      · have sl2 : stF u L e < L := by omega
        have ks := kd_sp sl2
        have cu : c = u (stF u L e) := by rw [c1, chA, if_pos sl2]
        have kn0 : kdF u L e ≠ 0 := by rw [ks]; have := kdC_r (c := u (stF u L e)); omega
        have lt := r.2.2.2 kn0
        have one : kdF u L e ≠ 2 → kdF u L e ≠ 3 → enF u L e = stF u L e + 1 := fun q2 q3 => t.2.2.2.2.2.2.2 kn0 q2 q3
        have sing : ∀ v : Int, kdF u L e ≠ 2 → kdF u L e ≠ 3 → kdF u L e ≠ 43 → tkF u L e = v → v ≠ 4 → ∀ N2 : Mem, N2 44 0 = stF u L e → N2 45 0 = stF u L e + 1 → N2 46 0 = v → RT u L N2 e := fun v q2 q3 q4 q5 q6 N2 a1 a2 a3 => ⟨a1, a3.trans q5.symm, fun _ => by rw [if_neg q4, one q2 q3]; exact a2, fun w => absurd (q5.symm.trans w) q6⟩
        have pln : kdF u L e = c → c ≠ 2 → c ≠ 3 → c ≠ 43 → c ≠ 1 → c ≠ 4 → FK M (up (up N 45 0 (N 44 0 + 1)) 46 0 c) ∧ RT u L (up (up N 45 0 (N 44 0 + 1)) 46 0 c) e := fun q a1 a2 a3 a4 a5 => ⟨fr _ (fun c i h1 h2 h3 h4 => by rw [up_c h3, up_c h2]), sing c (by omega) (by omega) (by omega) (by rw [tkF, if_neg (by omega), if_neg (by omega), if_neg (by omega), if_neg (by omega)]; exact q) a5 _ (by rw [up_c (by decide), up_c (by decide)]; omega) (by rw [up_c (by decide), up_s]; omega) (up_s _ _ _ _)⟩
        rw [← cu] at ks
        have kl : 97 ≤ c ∧ c ≤ 122 → kdF u L e = 2 := fun q => by rw [ks, kdC, if_pos q]
        have kg : 48 ≤ c ∧ c ≤ 57 → kdF u L e = 3 := fun q => by rw [ks, kdC, if_neg (by omega), if_pos q]
        have ksg : (c = 43 ∨ c = 45 ∨ c = 47 ∨ c = 123 ∨ c = 124 ∨ c = 125 ∨ c = 44) → kdF u L e = c := fun q => by rw [ks, kdC, if_neg (by omega), if_neg (by omega), if_pos q]
        refine ⟨fun q1 => ⟨fun q2 => ⟨fun q3 => ⟨fun q => ⟨rfl, pln (ksg (by omega)) (by omega) (by omega) (by omega) (by omega) (by omega)⟩, fun q4 => ⟨fun q => ⟨rfl, pln (ksg (by omega)) (by omega) (by omega) (by omega) (by omega) (by omega)⟩, fun q5 => ⟨fun q => ⟨rfl, pln (ksg (by omega)) (by omega) (by omega) (by omega) (by omega) (by omega)⟩, fun q6 => ⟨fun q => ⟨rfl, pln (ksg (by omega)) (by omega) (by omega) (by omega) (by omega) (by omega)⟩, fun q7 => ⟨fun q => ⟨rfl, pln (ksg (by omega)) (by omega) (by omega) (by omega) (by omega) (by omega)⟩, fun q8 => ⟨fun q => ⟨rfl, pln (ksg (by omega)) (by omega) (by omega) (by omega) (by omega) (by omega)⟩, fun q9 => ⟨rfl, fr _ (fun c i h1 h2 h3 h4 => by rw [up_c h3, up_c h3, up_c h2]), ?_⟩⟩⟩⟩⟩⟩⟩, fun q3 => ⟨by omega, rfl, fr _ (fun c i h1 h2 h3 h4 => by rw [up_c h2, up_c h3, up_c h3, up_c h2]), ?_⟩⟩, fun q2 => ⟨by omega, ?_⟩⟩, fun q1 => ?_⟩
        · have k1 : kdF u L e = 1 := by rw [ks, kdC, if_neg q1, if_neg q2, if_neg (by omega)]
          exact sing 6 (by omega) (by omega) (by omega) (by rw [tkF, if_neg (by omega), if_neg (by omega), if_neg (by omega), if_pos k1]) (by decide) _ (by rw [up_c (by decide), up_c (by decide), up_c (by decide)]; omega) (by rw [up_c (by decide), up_c (by decide), up_s]; omega) (up_s _ _ _ _)
        · have k1 : kdF u L e = 43 := by rw [ksg (by omega)]; exact q3
          have t5 : tkF u L e = 5 := by rw [tkF, if_neg (by omega), if_neg (by omega), if_pos k1]
          have en1 := one (by omega) (by omega)
          refine ⟨by rw [up_c (by decide), up_c (by decide), up_c (by decide), up_c (by decide)]; omega, by rw [up_c (by decide), up_s, t5], fun _ => by rw [up_s, if_pos k1, en1]; omega, fun w => by omega⟩
        · have k3 := kg q2
          rw [cu]
          refine mn_137 C Y hL.2 he hu h24 k3 (fun N2 f2 r2 => ⟨rfl, f2, r2⟩) (enF u L e - (stF u L e + 1)).toNat (stF u L e + 1) _ (by omega) (by omega) (by omega) (fr _ (fun c i h1 h2 h3 h4 => by rw [up_c h4, up_c h3, up_c h2])) (by rw [up_c (by decide), up_c (by decide), up_c (by decide)]; omega) (by rw [up_c (by decide), up_c (by decide), up_s]; omega) (by rw [up_s]; omega) (fun _ => by rw [up_s]) (fun w => by omega)
        · have k2 := kl q1
          refine mn_84 C Y hL.2 he hu h24 k2 (fun N2 f2 r2 => ⟨rfl, f2, r2⟩) (enF u L e - (stF u L e + 1)).toNat (stF u L e + 1) _ (by omega) (by omega) (by omega) (fr _ (fun c i h1 h2 h3 h4 => by rw [up_c h3, up_c h2])) (by rw [up_c (by decide), up_c (by decide)]; omega) (by rw [up_c (by decide), up_s]; omega)
      · have sL : stF u L e = L := by omega
        have k0 : kdF u L e = 0 := by rw [kdF, kdA, if_neg (by omega)]
        refine ⟨by rw [up_c (by decide), up_c (by decide), up_c (by decide)]; omega, by rw [up_s, tkF, if_neg (by omega), if_neg (by omega), if_neg (by omega), if_neg (by omega), k0], fun w => absurd k0 w, fun w => ?_⟩
        rw [tkF, if_neg (by omega), if_neg (by omega), if_neg (by omega), if_neg (by omega)] at w
        omega
    | succ m ih =>
      intro y N y0 hm f n44 n45
      have eU : (fun i => N 23 i) = u := funext (fun i => (f 23 i (by decide) (by decide) (by decide) (by decide)).trans (hu i))
      have n24 : N 24 0 = L := (f 24 0 (by decide) (by decide) (by decide) (by decide)).trans h24
      refine B_X10_next_8  (Nat.zero_le _) (Nat.zero_le _) C Y ⟨_, m_charAt (k := N 44 0) (by omega) (by omega), fun z P hP => ?_⟩
      obtain ⟨e1, e2⟩ := hP
      rw [eU, n24, n44] at e1
      rw [e2]
      have z32 : z = 32 := by rw [e1, chA, if_pos (by omega)]; exact t.2.1 y y0 (by omega)
      exact ⟨by omega, fun q => absurd z32 q, fun _ => ⟨by omega, ih (y + 1) _ (by omega) (by omega) (fun c i h1 h2 h3 h4 => by rw [up_c h1]; exact f c i h1 h2 h3 h4) (by rw [up_s, n44]) (by rw [up_c (by decide)]; exact n45)⟩⟩
  refine B_X10_next_0  (Nat.zero_le _) (Nat.zero_le _) C Y (lp (stF u L e - e).toNat e _ (by omega) (by omega) (fun c i h1 h2 h3 h4 => up_c h1) (by rw [up_s]; exact h45) (by rw [up_c (by decide)]; exact h45))
