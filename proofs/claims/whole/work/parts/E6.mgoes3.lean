/-! ===== the reference: goes ===== -/
def KK (u : Int → Int) (L : Int) (J : Mem → Int → (Int → Int) → List Int → Prop) (PQ : Option Value → Mem → Prop) (w o : Int) (b : Int → Int) (e : Int) (ys : List Int) : Prop := ∀ N r xs o' b', Rn u L w o b e r xs → J N o' b' (ys ++ xs) → (r = -1 → o' = 0) → PQ (some (vI r)) N
theorem rn_r {u : Int → Int} {L w o : Int} {b : Int → Int} {e f : Int} {xs : List Int} (h : Rn u L w o b e f xs) (ms : Ms L w o e) : -1 ≤ f ∧ f ≤ L := by
  obtain ⟨n, h⟩ := h
  induction n generalizing w o b e xs with
  | zero => have := ms.2.2.2; have := h.2.1; omega
  | succ n ih =>
    rcases h.cs with ⟨h1, h2, h3⟩ | ⟨h1, h2, h3⟩ | ⟨h1, w1, o1, b1, e1, ys, zs, k1, hk1, h2, h3, h4⟩
    · have := ms.2.2.2; omega
    · have := (rd_ms ms h1).1 _ h2; omega
    · have ek : k1 = n := by omega
      subst ek
      exact ih ((rd_ms ms h1).2 _ _ _ _ _ h2).1 h3
section MG3
variable {u : Int → Int} {L : Int} {J : Mem → Int → (Int → Int) → List Int → Prop}
theorem kk_nx {PQ : Option Value → Mem → Prop} {w o : Int} {b : Int → Int} {e : Int} {ys : List Int} {w' o' : Int} {b' : Int → Int} {e' : Int} {xs : List Int} (h : KK u L J PQ w o b e ys) (hw : w ≠ 4) (hr : rdF u L w o b e = .inr ((w', o', b', e'), xs)) : KK u L J PQ w' o' b' e' (ys ++ xs) := fun N r xs2 o2 b2 q1 q2 q3 => h N r (xs ++ xs2) o2 b2 (Rn.nx hw hr q1) (by rw [← List.append_assoc]; exact q2) q3
theorem kk_ft {PQ : Option Value → Mem → Prop} {w o : Int} {b : Int → Int} {e : Int} {ys : List Int} {a : Int} {N : Mem} (h : KK u L J PQ w o b e ys) (ms : Ms L w o e) (hw : w ≠ 4) (hr : rdF u L w o b e = .inl a) (hJ : J N o b ys) : PQ (some (vI a)) N := by
  have := (rd_ms ms hw).1 a hr
  exact h N a [] o b (Rn.ft hw hr) (by rw [List.append_nil]; exact hJ) (by omega)
theorem kk_ft2 {PQ : Option Value → Mem → Prop} {w o : Int} {b : Int → Int} {e : Int} {ys : List Int} {a a' : Int} {N : Mem} (h : KK u L J PQ w o b e ys) (ms : Ms L w o e) (hw : w ≠ 4) (hr : rdF u L w o b e = .inl a) (ha : a' = a) (hJ : J N o b ys) : PQ (some (vI a')) N := by
  rw [ha]; exact kk_ft h ms hw hr hJ
theorem mg_26 {g : Gs} {ad : Nat → Nat} {X : Cx} {PQ : Option Value → Mem → Prop} {PX : String → Mem → Prop} (C : OkB (wM g ad) X cX10_goes RX10 4 12 0 0) (Y : OkR (wM g ad) X (some .int) 0 0 PQ PX) (hk : HK g ad u L J) (hL : 0 ≤ L ∧ L ≤ 80) : ∀ (m : Nat), (∀ (M : Mem) (w o : Int) (b : Int → Int) (e : Int) (ys : List Int), Ms L w o e → w ≠ 4 → L - e < m → Co u L M o b → J M o b ys → RT u L M e → KK u L J PQ w o b e ys → E (wM g ad) X 0 0 (M) 26 [(0, .ref (ad 0)), (2, vI (w))] []) ∧ (∀ (M : Mem) (o : Int) (b : Int → Int) (e : Int) (ys : List Int) (f : Int → List Int), Ms L 3 o e → L - e < m → Co u L M o b → J M o b ys → RT u L M e → Sg M f → (0 ≤ M 56 0 ∧ M 56 0 ≤ 8) → (0 ≤ M 57 0 ∧ M 57 0 ≤ 80) → kdF u L e ≠ 47 → KK u L J PQ 3 o b e (ys ++ f (8 * M 56 0)) → E (wM g ad) X 0 0 (M) 26 [(0, .ref (ad 0)), (2, vI (5))] []) := by
  intro m
  induction m with
  | zero => exact ⟨fun M w o b e ys ms hw hm => by have := ms.2.2.2; omega, fun M o b e ys f ms hm => by have := ms.2.2.2; omega⟩
  | succ m ih =>
    have nxt : ∀ (N : Mem) (w o : Int) (b : Int → Int) (e : Int) (ys : List Int), Ms L w o e → w ≠ 4 → L - e < m → Co u L N o b → J N o b ys → N 45 0 = e → KK u L J PQ w o b e ys → ∃ Q9 : Mem → Prop, SpV (wM g ad) yX10_next cX10_next 2 none 3 [.ref (ad 0)] (N) (Q9) ∧ ∀ M8, Q9 M8 → E (wM g ad) X 0 0 (M8) 26 [(0, .ref (ad 0)), (2, vI (w))] [] := by
      intro N w o b e ys ms hw hm co hJ n45 kk
      exact ⟨_, m_next hL ms.2.2.2 co.1.1 co.1.2 n45, fun M8 h8 => ih.1 M8 w o b e ys ms hw hm (co.fj (fk_fj h8.1)) (hk.fr hJ (fk_fj h8.1)) h8.2 kk⟩
    have tail : ∀ (N : Mem) (w o : Int) (b : Int → Int) (e : Int) (ys : List Int) (r : Int), Ms L w o e → w ≠ 4 → L - e < m + 1 → FQ u L J ys w o b e r N → KK u L J PQ w o b e ys → ((r ≠ -1) → (((-1) ≤ r → ∃ Q9 : Mem → Prop, SpV (wM g ad) yX10_next cX10_next 2 none 3 [.ref (ad 0)] (N) (Q9) ∧ ∀ M8, Q9 M8 → E (wM g ad) X 0 0 (M8) 26 [(0, .ref (ad 0)), (2, vI (r))] []) ∧ (r < -1 → R32 (-2 - r) ∧ PQ (some (vI (-2 - r))) N))) ∧ (r = -1 → PQ (some (vI (N 44 0))) N) := by
      intro N w o b e ys r ms hw hm fq kk
      rcases fq with ⟨q1, q2, q3⟩ | ⟨a, q1, q2, q3, q4⟩ | ⟨w', o', b', e', xs, q1, q2, q3, q4, q5, q6⟩
      · exact ⟨fun q => absurd q2 q, fun _ => kk_ft kk ms hw q1 q3⟩
      · exact ⟨fun _ => ⟨fun q => by omega, fun _ => ⟨by omega, kk_ft2 kk ms hw q1 (by omega) q4⟩⟩, fun q => by omega⟩
      · have m2 := (rd_ms ms hw).2 _ _ _ _ _ q1
        have w0 := m2.1.1
        rw [q2]
        exact ⟨fun _ => ⟨fun _ => nxt N w' o' b' e' (ys ++ xs) m2.1 q3 (by omega) q5 q4 q6 (kk_nx kk hw q1), fun q => by omega⟩, fun q => by omega⟩
    have zero3 : ∀ (N : Mem) (o : Int) (b : Int → Int) (e : Int) (ys : List Int), Ms L 3 o e → kdF u L e = 0 → Co u L N o b → J N o b ys → KK u L J PQ 3 o b e ys → E (wM g ad) X 0 0 (N) 113 [(0, .ref (ad 0))] [] := by
      intro N o b e ys ms k0 co hJ kk
      have t := tok_ex (u := u) ms.2.2.2.2
      have sL : stF u L e = L := by
        have h1 := (kdA_r (u := u) (L := L) (k := stF u L e)).2.2.mp k0
        have h2 := t.1
        omega
      refine B_X10_goes_113  (Nat.zero_le _) (Nat.zero_le _) C Y ⟨fun q => kk_ft2 kk ms (by decide) (a := stF u L e) ?_ (by rw [co.1.2, sL]) hJ, fun q => ?_⟩
      · rw [rdF, if_pos rfl, bhF, if_neg (by rw [co.2.1] at q; exact q), if_neg (by omega), if_neg (by omega), if_neg (by omega)]
      · have o0 : o = 0 := by rw [co.2.1] at q; exact q
        exact kk N (-1) ([] ++ []) o b (Rn.nx (by decide) (by rw [rdF, if_pos rfl, bhF, if_pos o0, if_pos k0]) Rn.dn) (by rw [List.append_nil, List.append_nil]; exact hJ) (fun _ => o0)
    have zeroL : ∀ (N : Mem) (x w o : Int) (b : Int → Int) (e a : Int) (ys : List Int), Ms L w o e → w ≠ 4 → (x ≠ 3 ∧ x ≠ 5 ∧ 0 ≤ x ∧ x ≤ 6) → Co u L N o b → J N o b ys → KK u L J PQ w o b e ys → rdF u L w o b e = .inl a → a = L → E (wM g ad) X 0 0 (N) 87 [(0, .ref (ad 0)), (2, vI (x))] [] := by
      intro N x w o b e a ys ms hw hx co hJ kk hr ha
      refine B_X10_goes_87 (by omega) (Nat.zero_le _) (Nat.zero_le _) C Y ⟨fun _ => ?_, fun q => absurd q hx.2.1⟩
      exact B_X10_goes_103 (by omega) (Nat.zero_le _) (Nat.zero_le _) C Y ⟨fun q => absurd q hx.1, fun _ => ⟨fun _ => kk_ft2 kk ms hw hr (by rw [co.1.2, ha]) hJ, fun q => absurd q hx.2.1⟩⟩
    have stL : ∀ e, 0 ≤ e ∧ e ≤ L → kdF u L e = 0 → stF u L e = L := by
      intro e he k0
      have h1 := (kdA_r (u := u) (L := L) (k := stF u L e)).2.2.mp k0
      have h2 := (tok_ex (u := u) he.2).1
      omega
    have B : ∀ (M : Mem) (o : Int) (b : Int → Int) (e : Int) (ys : List Int) (f : Int → List Int), Ms L 3 o e → L - e < m + 1 → Co u L M o b → J M o b ys → RT u L M e → Sg M f → (0 ≤ M 56 0 ∧ M 56 0 ≤ 8) → (0 ≤ M 57 0 ∧ M 57 0 ≤ 80) → kdF u L e ≠ 47 → KK u L J PQ 3 o b e (ys ++ f (8 * M 56 0)) → E (wM g ad) X 0 0 (M) 26 [(0, .ref (ad 0)), (2, vI (5))] [] := by
      intro M o b e ys f ms hm co hJ rt sg h56 h57 k47 kk
      have tk := tk_k (u := u) (L := L) (e := e)
      have t2 := rt.2.1
      have m2 := ms.2.1
      have m4 := ms.2.2.2
      refine B_X10_goes_26 (by omega) (Nat.zero_le _) (Nat.zero_le _) C Y ⟨fun q => ⟨fun q5 => absurd rfl q5, fun _ => ⟨fun _ => ?_, fun q8 => absurd q8 (by omega)⟩⟩, fun q => ⟨_, m_fol5 hk hL.2 ms co hJ sg rt (fun w => q (by rw [t2]; exact tk.1.mpr w)) (by omega) h57, fun z N hN => ?_⟩⟩
      · refine B_X10_goes_87 (by omega) (Nat.zero_le _) (Nat.zero_le _) C Y ⟨fun q5 => absurd rfl q5, fun _ => ⟨by omega, _, hk.nu co (by omega) hJ (by omega) sg, fun N hN => ?_⟩⟩
        exact B_X10_goes_103 (by omega) (Nat.zero_le _) (Nat.zero_le _) C Y ⟨fun q3 => absurd q3 (by decide), fun _ => ⟨fun q5 => absurd rfl q5, fun _ => zero3 N o b e _ ms (tk.1.mp (by omega)) hN.2.1 hN.1 kk⟩⟩
      · obtain ⟨zr, ⟨h1, -⟩ | ⟨-, h1, -⟩ | ⟨-, -, h3⟩⟩ := hN
        · exact absurd h1 k47
        · omega
        · exact ⟨zr, tail N 3 o b e _ z ms (by decide) hm h3 kk⟩
    refine ⟨fun M w o b e ys ms hw hm co hJ rt kk => ?_, B⟩
    have tk := tk_k (u := u) (L := L) (e := e)
    have t2 := rt.2.1
    have m1 := ms.1
    have m2 := ms.2.1
    have m4 := ms.2.2.2
    by_cases w3 : w = 3
    · subst w3
      refine B_X10_goes_26 (by omega) (Nat.zero_le _) (Nat.zero_le _) C Y ⟨fun q => ⟨fun _ => ?_, fun q5 => absurd q5 (by decide)⟩, fun q => ⟨_, m_fol3 hk hL.2 ms co hJ rt (fun w => q (by rw [t2]; exact tk.1.mpr w)), fun z N hN => ⟨hN.1, tail N 3 o b e ys z ms (by decide) hm hN.2 kk⟩⟩⟩
      refine B_X10_goes_87 (by omega) (Nat.zero_le _) (Nat.zero_le _) C Y ⟨fun _ => ?_, fun q5 => absurd q5 (by decide)⟩
      exact B_X10_goes_103 (by omega) (Nat.zero_le _) (Nat.zero_le _) C Y ⟨fun _ => zero3 M o b e ys ms (tk.1.mp (by omega)) co hJ kk, fun q3 => absurd rfl q3⟩
    · have er : rdF u L w o b e = gmF u L w o b e := by rw [rdF, if_neg w3]
      -- a number that is begun
      have s6 : ∀ (N : Mem) (e1 : Int) (f : Int → List Int), e ≤ e1 → e1 ≤ L → rdF u L w o b e = nuF (posF u L e1) o b f → dgF u L e1 ≠ -1 → N 56 0 = dgF u L e1 → kdF u L (enF u L e1) = 47 → Co u L N o b → J N o b ys → Sg N f → RT u L N (enF u L (enF u L e1)) → E (wM g ad) X 0 0 (N) 26 [(0, .ref (ad 0)), (2, vI (6))] [] := by
        intro N e1 f h1 h2 hr hd n56 k47 co hJ sg rt
        have r1 := atT_r (u := u) (L := L) (e := e1) (by omega)
        have r2 := atT_r (u := u) (L := L) (e := enF u L e1) (by omega)
        have r3 := atT_r (u := u) (L := L) (e := enF u L (enF u L e1)) (by omega)
        have tk3 := tk_k (u := u) (L := L) (e := enF u L (enF u L e1))
        have d1 := dgF_r (u := u) (L := L) (e := e1) (by omega)
        have d3 := dgF_r (u := u) (L := L) (e := enF u L (enF u L e1)) (by omega)
        obtain ⟨a1, a2, a3, a4⟩ := rt
        have pb : (ppF (dgF u L (enF u L (enF u L e1))) = 0 ∨ 64 < dgF u L e1 * ppF (dgF u L (enF u L (enF u L e1)))) → rdF u L w o b e = .inl (stF u L (enF u L (enF u L e1))) := fun q => by
          rw [hr, posF, if_neg hd, if_neg (fun w => w k47), if_pos q]; rfl
        have pm : dgF u L (enF u L (enF u L e1)) = -1 → ppF (dgF u L (enF u L (enF u L e1))) = 0 := fun q => by rw [q]; rfl
        refine B_X10_goes_26 (by omega) (Nat.zero_le _) (Nat.zero_le _) C Y ⟨fun q => ⟨fun _ => ?_, fun q5 => absurd q5 (by decide)⟩, fun q => ⟨_, m_fol6 hk co (by omega) hJ sg (by omega), fun z P hP => ?_⟩⟩
        · have k0 := tk3.1.mp (by omega)
          exact zeroL N 6 w o b e _ ys ms hw (by omega) co hJ kk (pb (Or.inl (pm (Classical.byContradiction fun w9 => by have := d3.2 w9; omega)))) (stL _ (by omega) k0)
        · rcases hP with ⟨p1, p2, p3⟩ | ⟨p1, p2, p3, p4, p5, p6, p7⟩
          · rw [p3]
            refine ⟨by omega, fun q => absurd p2 q, fun _ => kk_ft2 kk ms hw (pb ?_) a1 hJ⟩
            by_cases t4 : N 46 0 = 4
            · have n47 := a4 (by omega)
              rw [n47, n56] at p1
              rcases p1 with p1 | p1 | p1
              · exact absurd t4 p1
              · exact Or.inl p1
              · exact Or.inr p1
            · exact Or.inl (pm (Classical.byContradiction fun w9 => t4 (by rw [a2]; exact tk3.2.1.mpr ⟨d3.2 w9, w9⟩)))
          · have n47 := a4 (by omega)
            have k3 := (tk3.2.1.mp (by omega)).1
            rw [n47] at p2
            rw [n47, n56] at p3 p5
            have hr2 : rdF u L w o b e = .inr ((3, o, b, enF u L (enF u L (enF u L e1))), f (dgF u L e1 * ppF (dgF u L (enF u L (enF u L e1))))) := by
              rw [hr, posF, if_neg hd, if_neg (fun w => w k47), if_neg (by omega)]; rfl
            have m9 := (rd_ms ms hw).2 _ _ _ _ _ hr2
            have l3 := r3.2.2.2 (by omega)
            rw [p4]
            refine ⟨by decide, fun _ => ⟨fun _ => nxt P 3 o b _ _ m9.1 (by decide) (by omega) p6 p5 ?_ (kk_nx kk hw hr2), fun q => absurd q (by decide)⟩, fun q => absurd q (by decide)⟩
            rw [p7 45 0 (by omega), a3 (by omega), if_neg (by omega)]
      have s5 : ∀ (N : Mem) (e1 : Int) (f : Int → List Int), e ≤ e1 → e1 ≤ L → rdF u L w o b e = nuF (posF u L e1) o b f → P5 u L J ys o b e1 f N → ∀ M8, FK N M8 → RT u L M8 (enF u L e1) → E (wM g ad) X 0 0 (M8) 26 [(0, .ref (ad 0)), (2, vI (5))] [] := by
        intro N e1 f h1 h2 hr p5 M8 fk rt
        obtain ⟨hd, n56, n57, n45, co5, hJ5, sg5⟩ := p5
        have r1 := atT_r (u := u) (L := L) (e := e1) (by omega)
        have r2 := atT_r (u := u) (L := L) (e := enF u L e1) (by omega)
        have d1 := dgF_r (u := u) (L := L) (e := e1) (by omega)
        have lt1 := r1.2.2.2 (by rw [d1.2 hd]; decide)
        have m56 : M8 56 0 = dgF u L e1 := (fk 56 0 (by decide) (by decide) (by decide) (by decide)).trans n56
        have m57 : M8 57 0 = stF u L e1 := (fk 57 0 (by decide) (by decide) (by decide) (by decide)).trans n57
        have co8 := co5.fj (fk_fj fk)
        have hJ8 := hk.fr hJ5 (fk_fj fk)
        have sg8 : Sg M8 f := by
          have e5 := fk 55 0 (by decide) (by decide) (by decide) (by decide)
          have e8 := fk 58 0 (by decide) (by decide) (by decide) (by decide)
          unfold Sg
          rw [e5, e8]
          exact sg5
        have tk2 := tk_k (u := u) (L := L) (e := enF u L e1)
        have ms3 : Ms L 3 o (enF u L e1) := ⟨by decide, by omega, by omega, by omega⟩
        have t46 := rt.2.1
        by_cases k47 : kdF u L (enF u L e1) = 47
        · have tv := (tk2.2.2.1 47 (by omega)).mpr k47
          refine B_X10_goes_26 (by omega) (Nat.zero_le _) (Nat.zero_le _) C Y ⟨fun q => absurd q (by omega), fun q => ⟨_, m_fol5 hk hL.2 ms3 co8 hJ8 sg8 rt (by omega) (by omega) (by omega), fun z P hP => ?_⟩⟩
          obtain ⟨zr, ⟨-, p2, p3⟩ | ⟨p1, -⟩ | ⟨p1, -⟩⟩ := hP
          · rw [p3, p2]
            have n452 : M8 45 0 = enF u L (enF u L e1) := by rw [rt.2.2.1 (by omega), if_neg (by omega)]
            refine ⟨by decide, fun _ => ⟨fun _ => ⟨_, m_next hL (e := enF u L (enF u L e1)) (by omega) co8.1.1 co8.1.2 n452, fun M9 h9 => ?_⟩, fun q => absurd q (by decide)⟩, fun q => absurd q (by decide)⟩
            have fj9 := fk_fj h9.1
            refine s6 M9 e1 f h1 h2 hr hd ((h9.1 56 0 (by decide) (by decide) (by decide) (by decide)).trans m56) k47 (co8.fj fj9) (hk.fr hJ8 fj9) ?_ h9.2
            have e5 := h9.1 55 0 (by decide) (by decide) (by decide) (by decide)
            have e8 := h9.1 58 0 (by decide) (by decide) (by decide) (by decide)
            unfold Sg
            rw [e5, e8]
            exact sg8
          · exact absurd k47 p1
          · exact absurd k47 p1
        · by_cases q8 : dgF u L e1 ≤ 8
          · have hr2 : rdF u L w o b e = .inr ((3, o, b, enF u L e1), f (8 * dgF u L e1)) := by
              rw [hr, posF, if_neg hd, if_pos k47, if_neg (by omega)]; rfl
            exact ih.2 M8 o b (enF u L e1) ys f ms3 (by omega) co8 hJ8 rt sg8 (by omega) (by omega) k47 (by rw [m56]; exact kk_nx kk hw hr2)
          · have hr2 : rdF u L w o b e = .inl (stF u L e1) := by
              rw [hr, posF, if_neg hd, if_pos k47, if_pos (by omega)]; rfl
            refine B_X10_goes_26 (by omega) (Nat.zero_le _) (Nat.zero_le _) C Y ⟨fun q => ⟨fun q5 => absurd rfl q5, fun _ => ⟨fun w9 => absurd w9 (by omega), fun _ => kk_ft2 kk ms hw hr2 m57 hJ8⟩⟩, fun q => ⟨_, m_fol5 hk hL.2 ms3 co8 hJ8 sg8 rt (fun w => q (by rw [t46]; exact tk2.1.mpr w)) (by omega) (by omega), fun z P hP => ?_⟩⟩
            obtain ⟨zr, ⟨p1, -⟩ | ⟨-, -, p3, p4⟩ | ⟨-, p2, -⟩⟩ := hP
            · exact absurd p1 k47
            · rw [p4]
              exact ⟨zr, fun _ => ⟨fun q9 => by omega, fun _ => ⟨by omega, kk_ft2 kk ms hw hr2 (by omega) hJ8⟩⟩, fun q9 => by omega⟩
            · omega
      have s4 : ∀ (N : Mem) (e1 : Int) (f : Int → List Int), e ≤ e1 → e1 ≤ L → rdF u L w o b e = nuF (posF u L e1) o b f → Pd u L J ys o b f N → RT u L N e1 → E (wM g ad) X 0 0 (N) 26 [(0, .ref (ad 0)), (2, vI (4))] [] := by
        intro N e1 f h1 h2 hr pd rt
        obtain ⟨co4, hJ4, sg4⟩ := pd
        obtain ⟨a1, a2, a3, a4⟩ := rt
        have tk1 := tk_k (u := u) (L := L) (e := e1)
        have d1 := dgF_r (u := u) (L := L) (e := e1) (by omega)
        have pb : dgF u L e1 = -1 → rdF u L w o b e = .inl (stF u L e1) := fun q => by rw [hr, posF, if_pos q]; rfl
        refine B_X10_goes_26 (by omega) (Nat.zero_le _) (Nat.zero_le _) C Y ⟨fun q => ⟨fun _ => ?_, fun q5 => absurd q5 (by decide)⟩, fun q => ⟨_, m_fol4, fun z P hP => ?_⟩⟩
        · have k0 := tk1.1.mp (by omega)
          exact zeroL N 4 w o b e _ ys ms hw (by omega) co4 hJ4 kk (pb (Classical.byContradiction fun w9 => by have := d1.2 w9; omega)) (stL _ (by omega) k0)
        · rcases hP with ⟨p1, p2, p3⟩ | ⟨p1, p2, p3⟩
          · rw [p3]
            exact ⟨by omega, fun q9 => absurd p2 q9, fun _ => kk_ft2 kk ms hw (pb (Classical.byContradiction fun w9 => p1 (by rw [a2]; exact tk1.2.1.mpr ⟨d1.2 w9, w9⟩))) a1 hJ4⟩
          · have k4 := tk1.2.1.mp (by omega)
            have fj : FJ N P := fun c i h1 h2 h3 h4 h5 h6 h7 h8 => by rw [p3, up_c h7, up_c h6]
            have p45 : P 45 0 = enF u L e1 := by rw [p3, up_c (by decide), up_c (by decide), a3 (by omega), if_neg (by omega)]
            have r1 := atT_r (u := u) (L := L) (e := e1) (by omega)
            have p5 : P5 u L J ys o b e1 f P := by
              refine ⟨k4.2, by rw [p3, up_c (by decide), up_s]; exact a4 (by omega), by rw [p3, up_s]; exact a1, p45, co4.fj fj, hk.fr hJ4 fj, ?_⟩
              have e5 : P 55 0 = N 55 0 := by rw [p3, up_c (by decide), up_c (by decide)]
              have e8 : P 58 0 = N 58 0 := by rw [p3, up_c (by decide), up_c (by decide)]
              unfold Sg
              rw [e5, e8]
              exact sg4
            rw [p2]
            exact ⟨by decide, fun _ => ⟨fun _ => ⟨_, m_next hL (e := enF u L e1) (by omega) (co4.fj fj).1.1 (co4.fj fj).1.2 p45, fun M9 h9 => s5 P e1 f h1 h2 hr p5 M9 h9.1 h9.2⟩, fun q9 => absurd q9 (by decide)⟩, fun q9 => absurd q9 (by decide)⟩
      refine B_X10_goes_26 (by omega) (Nat.zero_le _) (Nat.zero_le _) C Y ⟨fun q => ⟨fun _ => ?_, fun q5 => absurd q5 (by omega)⟩, fun q => ⟨_, m_fol0 hk hL.2 ms (by omega) co hJ rt (fun w => q (by rw [t2]; exact tk.1.mpr w)), fun z N hN => ⟨hN.1, ?_⟩⟩⟩
      · have k0 := tk.1.mp (by omega)
        refine zeroL M w w o b e (stF u L e) ys ms hw (by omega) co hJ kk ?_ (stL _ m4 k0)
        rw [er, gmF, if_neg (by omega), if_neg (by omega), if_neg (by omega), if_neg (by omega), if_neg (by omega), if_neg (by omega), if_neg (by omega)]
      · rcases hN.2 with h | ⟨h1, h2, h3⟩ | ⟨e1, f, h1, h2, h3, h4, h5⟩
        · exact tail N w o b e ys z ms hw hm h kk
        · rw [h1]
          have r1 := atT_r (u := u) m4
          exact ⟨fun _ => ⟨fun _ => ⟨_, m_next hL (e := enF u L e) (by omega) h3.2.2.2.2.1.1.1 h3.2.2.2.2.1.1.2 h3.2.2.2.1, fun M9 h9 => s5 N e _ (by omega) (by omega) h2 h3 M9 h9.1 h9.2⟩, fun q9 => absurd q9 (by decide)⟩, fun q9 => absurd q9 (by decide)⟩
        · rw [h1]
          refine ⟨fun _ => ⟨fun _ => ⟨_, m_next hL (e := e1) (by omega) h5.1.1.1 h5.1.1.2 h4, fun M9 h9 => s4 M9 e1 f h3.1 h3.2 h2 ⟨h5.1.fj (fk_fj h9.1), hk.fr h5.2.1 (fk_fj h9.1), ?_⟩ h9.2⟩, fun q9 => absurd q9 (by decide)⟩, fun q9 => absurd q9 (by decide)⟩
          have e5 := h9.1 55 0 (by decide) (by decide) (by decide) (by decide)
          have e8 := h9.1 58 0 (by decide) (by decide) (by decide) (by decide)
          unfold Sg
          rw [e5, e8]
          exact h5.2.2
theorem m_goes {g : Gs} {ad : Nat → Nat} (hk : HK g ad u L J) (hL : 0 ≤ L ∧ L ≤ 80) {M : Mem} {v : Int} (hv : v = 0 ∨ v = 1) (hu : ∀ i, M 23 i = u i) (h24 : M 24 0 = L) (hJ : J (up (up (up (up M 52 0 v) 53 0 0) 48 0 0) 45 0 0) 0 (fun _ => 0) []) : SpI (wM g ad) yX10_goes cX10_goes 4 (some .int) 12 [.ref (ad 0), vI (v)] (M) (fun r N => R32 r ∧ ∃ xs o b, Rn u L 0 0 (fun _ => 0) 0 r xs ∧ J N o b xs ∧ (r = -1 → o = 0)) := by
  intro l9 hl9
  refine ct_of hl9 mi_X10_goes.2.2.2 (Nat.le_of_ble_eq_true rfl) (fun X _ C Y => ?_)
  show E (wM g ad) X 0 0 (M) 0 [(0, .ref (ad 0)), (1, vI (v))] []
  refine e_wf (fun hw => ?_)
  have co : Co u L (up (up (up (up M 52 0 v) 53 0 0) 48 0 0) 45 0 0) 0 (fun _ => 0) := ⟨⟨fun i => by rw [up_c (by decide), up_c (by decide), up_c (by decide), up_c (by decide)]; exact hu i, by rw [up_c (by decide), up_c (by decide), up_c (by decide), up_c (by decide)]; exact h24⟩, by rw [up_c (by decide), up_s], fun i i0 i1 => by omega, fun i i0 i1 => by omega⟩
  have ms : Ms L 0 0 0 := ⟨by decide, by decide, by decide, by omega⟩
  refine B_X10_goes_0 (by omega) (Nat.zero_le _) (Nat.zero_le _) C Y ⟨hv, _, m_next hL (e := 0) (by omega) co.1.1 co.1.2 (up_s _ _ _ _), fun N hN => ?_⟩
  refine (mg_26 C Y hk hL (L.toNat + 1)).1 N 0 0 _ 0 [] ms (by decide) (by omega) (co.fj (fk_fj hN.1)) (hk.fr hJ (fk_fj hN.1)) hN.2 (fun P r xs o' b' q1 q2 q3 => ⟨r, rfl, ?_, xs, o', b', q1, q2, q3⟩)
  have rr := rn_r q1 ms
  omega
end MG3
