/-! ===== the reference: a game begins; what follows ===== -/
section MG2
variable {u : Int → Int} {L : Int} {J : Mem → Int → (Int → Int) → List Int → Prop}
theorem fq_r {ys : List Int} {w o : Int} {b : Int → Int} {e r : Int} {N : Mem} (ms : Ms L w o e) (w4 : w ≠ 4) (hL : L ≤ 80) (h : FQ u L J ys w o b e r N) : R32 r := by
  rcases h with ⟨-, h, -⟩ | ⟨a, -, h, h2, -⟩ | ⟨w', o', b', e', xs, h1, h2, h3, -⟩
  · omega
  · omega
  · have m := ((rd_ms ms w4).2 _ _ _ _ _ h1).1.1
    omega
def Pd (u : Int → Int) (L : Int) (J : Mem → Int → (Int → Int) → List Int → Prop) (ys : List Int) (o : Int) (b : Int → Int) (f : Int → List Int) (N : Mem) : Prop := Co u L N o b ∧ J N o b ys ∧ Sg N f
def P5 (u : Int → Int) (L : Int) (J : Mem → Int → (Int → Int) → List Int → Prop) (ys : List Int) (o : Int) (b : Int → Int) (e1 : Int) (f : Int → List Int) (N : Mem) : Prop := dgF u L e1 ≠ -1 ∧ N 56 0 = dgF u L e1 ∧ N 57 0 = stF u L e1 ∧ N 45 0 = enF u L e1 ∧ Pd u L J ys o b f N
theorem m_beginsGame {g : Gs} {ad : Nat → Nat} (hk : HK g ad u L J) (hL : L ≤ 80) {M : Mem} {w o : Int} {b : Int → Int} {e : Int} {ys : List Int} (ms : Ms L w o e) (w3 : w < 3) (co : Co u L M o b) (hJ : J M o b ys) (rt : RT u L M e) (k0 : kdF u L e ≠ 0) : SpI (wM g ad) yX10_beginsGame cX10_beginsGame 2 (some .int) 10 [.ref (ad 0), vI (w)] (M) (fun r N => FQ u L J ys w o b e r N ∨ (r = 5 ∧ rdF u L w o b e = nuF (posF u L e) o b (fun x => [x]) ∧ P5 u L J ys o b e (fun x => [x]) N) ∨ (∃ e1 f, r = 4 ∧ rdF u L w o b e = nuF (posF u L e1) o b f ∧ (e ≤ e1 ∧ e1 ≤ L) ∧ N 45 0 = e1 ∧ Pd u L J ys o b f N)) := by
  obtain ⟨t1, t2, t3, t4⟩ := rt
  have tk := tk_k (u := u) (L := L) (e := e)
  have m1 := ms.1
  have m2 := ms.2.1
  have m3 := ms.2.2.1
  have m4 := ms.2.2.2
  have r := atT_r (u := u) m4
  have lt := r.2.2.2 k0
  have fj : FJ M (up (up M 55 0 1) 58 0 0) := fun c i h1 h2 h3 h4 h5 h6 h7 h8 => by rw [up_c h8, up_c h5]
  have co' := co.fj fj
  have hJ' := hk.fr hJ fj
  have a3 := co.2.1
  have er : rdF u L w o b e = gmF u L w o b e := by rw [rdF, if_neg (by omega)]
  have n45 : kdF u L e ≠ 43 → M 45 0 = enF u L e := fun q => by rw [t3 k0, if_neg q]
  have x45 : (up (up M 55 0 1) 58 0 0) 45 0 = M 45 0 := by rw [up_c (by decide), up_c (by decide)]
  have x44 : (up (up M 55 0 1) 58 0 0) 44 0 = M 44 0 := by rw [up_c (by decide), up_c (by decide)]
  have x47 : (up (up M 55 0 1) 58 0 0) 47 0 = M 47 0 := by rw [up_c (by decide), up_c (by decide)]
  have x48 : (up (up M 55 0 1) 58 0 0) 48 0 = o := by rw [up_c (by decide), up_c (by decide)]; exact a3
  have x55 : (up (up M 55 0 1) 58 0 0) 55 0 = 1 := by rw [up_c (by decide), up_s]
  have x58 : (up (up M 55 0 1) 58 0 0) 58 0 = 0 := up_s _ _ _ _
  have k45 := tk.2.2.1 45 (by omega)
  have k123 := tk.2.2.1 123 (by omega)
  have k124 := tk.2.2.1 124 (by omega)
  have k125 := tk.2.2.1 125 (by omega)
  intro l9 hl9
  refine ct_of hl9 mi_X10_beginsGame.2.2.2 (Nat.le_of_ble_eq_true rfl) (fun X _ C Y => ?_)
  show E (wM g ad) X 0 0 (M) 0 [(0, .ref (ad 0)), (1, vI (w))] []
  refine e_wf (fun hw => ?_)
  have ft : rdF u L w o b e = .inl (stF u L e) → ∃ z : Int, some (vI (-1)) = some (vI z) ∧ (FQ u L J ys w o b e z (up (up M 55 0 1) 58 0 0) ∨ (z = 5 ∧ rdF u L w o b e = nuF (posF u L e) o b (fun x => [x]) ∧ P5 u L J ys o b e (fun x => [x]) (up (up M 55 0 1) 58 0 0)) ∨ (∃ e1 f, z = 4 ∧ rdF u L w o b e = nuF (posF u L e1) o b f ∧ (e ≤ e1 ∧ e1 ≤ L) ∧ (up (up M 55 0 1) 58 0 0) 45 0 = e1 ∧ Pd u L J ys o b f (up (up M 55 0 1) 58 0 0))) := fun q => ⟨-1, rfl, Or.inl (Or.inl ⟨by rw [q, x44, t1], rfl, hJ'⟩)⟩
  have nam : (M 46 0 = 1 ∨ M 46 0 = 2 ∨ M 46 0 = 3) → ∃ Q5 : Mem → Prop, SpV (wM g ad) yX10_nameIs cX10_nameIs 4 none 9 [.ref (ad 0), vI (M 46 0)] (up (up M 55 0 1) 58 0 0) (Q5) ∧ ∀ M4 : Mem, Q5 M4 → ∃ z : Int, some (vI 3) = some (vI z) ∧ (FQ u L J ys w o b e z M4 ∨ (z = 5 ∧ rdF u L w o b e = nuF (posF u L e) o b (fun x => [x]) ∧ P5 u L J ys o b e (fun x => [x]) M4) ∨ (∃ e1 f, z = 4 ∧ rdF u L w o b e = nuF (posF u L e1) o b f ∧ (e ≤ e1 ∧ e1 ≤ L) ∧ M4 45 0 = e1 ∧ Pd u L J ys o b f M4)) := by
    intro q
    have kn := tk.2.2.2.2.1.mp (by omega)
    have ek := tk.2.2.2.2.2 kn.1
    refine ⟨_, hk.nm co' (by omega) hJ' q, fun N hN => ⟨3, rfl, Or.inl (Or.inr (Or.inr ⟨3, o, b, enF u L e, nmX (nmK u L e), by rw [er, gmF, if_pos kn.1, if_neg kn.2], rfl, by decide, ?_, hN.2.1, ?_⟩))⟩⟩
    · have := hN.1; rwa [t2, ek] at this
    · rw [hN.2.2 45 0 (by omega), x45]; exact n45 (by omega)
  refine B_X10_beginsGame_0 (by omega) (Nat.zero_le _) (Nat.zero_le _) C Y ⟨fun q => nam (by omega), fun q => nam (by omega), fun q => nam (by omega), fun q => ⟨_, m_figures, fun z N hN => ?_⟩, fun q => ⟨by omega, _, m_charAt (by omega) ?_, fun z N hN => ?_⟩, fun q => ⟨4, rfl, ?_⟩, fun q => ⟨by omega, 1, rfl, Or.inl (Or.inr (Or.inr ⟨1, o + 1, fun i => if i = o then 0 else b i, enF u L e, [100], ?_, rfl, by decide, ?_, ?_, ?_⟩))⟩, fun q => ⟨fun q1 => ft ?_, fun q1 => ⟨_, m_turns (by omega), fun z N hN => ?_⟩⟩, fun q => ⟨fun q1 => ft ?_, fun q1 => ⟨_, hk.cl co' (by omega) hJ', fun z N hN => ?_⟩⟩, fun q => ft ?_⟩
  · obtain ⟨n1, n2⟩ := hN
    have kd := tk.2.1.mp (by omega)
    rw [n2]
    have fj2 : FJ (up (up M 55 0 1) 58 0 0) (up (up (up (up M 55 0 1) 58 0 0) 56 0 ((up (up M 55 0 1) 58 0 0) 47 0)) 57 0 ((up (up M 55 0 1) 58 0 0) 44 0)) := fun c i h1 h2 h3 h4 h5 h6 h7 h8 => by rw [up_c h7, up_c h6]
    refine ⟨by omega, z, rfl, Or.inr (Or.inl ⟨n1, by rw [er, gmF, if_neg (by omega), if_neg (by omega), if_neg (by omega), if_pos kd.1], kd.2, ?_, ?_, ?_, co'.fj fj2, hk.fr hJ' fj2, Or.inl ⟨?_, ?_, rfl⟩⟩)⟩
    · rw [up_c (by decide), up_s, x47]; exact t4 (by omega)
    · rw [up_s, x44]; exact t1
    · rw [up_c (by decide), up_c (by decide), x45]; exact n45 (by omega)
    · rw [up_c (by decide), up_c (by decide)]; exact x55
    · rw [up_c (by decide), up_c (by decide)]; exact x58
  · rw [up_c (by decide), up_c (by decide), co.1.2]; exact hL
  · obtain ⟨n1, n2⟩ := hN
    rw [n2, x44, t1]
    have eu : (fun i => (up (up M 55 0 1) 58 0 0) 23 i) = u := funext co'.1.1
    rw [eu, co'.1.2] at n1
    have k43 := tk.2.2.2.1.mp (by omega)
    have one : enF u L e = stF u L e + 1 := (tok_ex (u := u) m4.2).2.2.2.2.2.2.2 k0 (by omega) (by omega)
    rw [t1, ← one] at n1
    have kq : kdA u L (enF u L e) = 45 ↔ z = 45 := by
      rw [n1]; unfold kdA chA kdC
      split
      · split
        · omega
        · split
          · omega
          · split <;> omega
      · omega
    have eg : rdF u L w o b e = (if kdA u L (enF u L e) = 45 then nuF (posF u L (enF u L (enF u L e))) o b (fun x => [100, x, 101, -x, 102]) else .inl (enF u L e)) := by rw [er, gmF, if_neg (by omega), if_pos k43]
    have zr : R32 z := by
      rw [n1]; unfold chA
      split
      · rw [← co.1.1 (enF u L e)]; exact hw.2.1 23 _ (by decide)
      · decide
    refine ⟨zr, fun q1 => ⟨4, rfl, Or.inr (Or.inr ⟨enF u L (enF u L e), _, rfl, by rw [eg, if_pos (kq.mpr q1)], ?_, ?_, co'.fj (fun c i h1 h2 h3 h4 h5 h6 h7 h8 => up_c h8), hk.fr hJ' (fun c i h1 h2 h3 h4 h5 h6 h7 h8 => up_c h8), Or.inr (Or.inr ⟨by rw [up_c (by decide)]; exact x55, up_s _ _ _ _, rfl⟩)⟩)⟩, fun q1 => ⟨by omega, -2 - (stF u L e + 1), rfl, Or.inl (Or.inr (Or.inl ⟨enF u L e, by rw [eg, if_neg (fun w9 => q1 (kq.mp w9))], by omega, by omega, hJ'⟩))⟩⟩
    · have r2 := atT_r (u := u) (L := L) (e := enF u L e) (by omega); omega
    · rw [up_c (by decide), x45, t3 k0, if_pos k43]
      have sl : enF u L e < L := by
        have := (kdA_r (u := u) (L := L) (k := enF u L e)).2.2
        have := kq.mpr q1
        omega
      have t9 : Tok u L (enF u L e) (enF u L e) 45 (enF u L e + 1) := by
        refine ⟨by omega, fun x x0 x1 => by omega, fun _ => ?_, (kq.mpr q1).symm, fun q => by omega, fun _ => by omega, fun q => by omega, fun _ _ _ => rfl⟩
        have := kq.mpr q1
        unfold kdA kdC at this
        rw [if_pos sl] at this
        split at this
        · omega
        · split at this
          · omega
          · split at this <;> omega
      exact (tok_eq t9).2.2
  · refine Or.inr (Or.inr ⟨enF u L e, _, rfl, by rw [er, gmF, if_neg (by omega), if_neg (by omega), if_pos (by omega)], by omega, ?_, co'.fj (fun c i h1 h2 h3 h4 h5 h6 h7 h8 => up_c h5), hk.fr hJ' (fun c i h1 h2 h3 h4 h5 h6 h7 h8 => up_c h5), Or.inr (Or.inl ⟨up_s _ _ _ _, by rw [up_c (by decide)]; exact x58, rfl⟩)⟩)
    rw [up_c (by decide), x45]; exact n45 (by omega)
  · rw [er, gmF, if_neg (by omega), if_neg (by omega), if_neg (by omega), if_neg (by omega), if_pos (by omega)]
  · rw [a3]; exact hk.op co' (by omega) hJ'
  · rw [a3]; exact co_op co'
  · rw [up_c (by decide), up_c (by decide), up_c (by decide), up_c (by decide), x45]; exact n45 (by omega)
  · rw [er, gmF, if_neg (by omega), if_neg (by omega), if_neg (by omega), if_neg (by omega), if_neg (by omega), if_neg (by omega), if_neg (by omega)]
  · obtain ⟨n1, n2⟩ := hN
    rw [n2, x48]
    refine ⟨by omega, z, rfl, Or.inl (Or.inr (Or.inr ⟨2, o, _, enF u L e, [101], by rw [er, gmF, if_neg (by omega), if_neg (by omega), if_neg (by omega), if_neg (by omega), if_neg (by omega), if_pos (by omega)], n1, by decide, hk.tn co' (by omega) hJ', co_bar co' (Or.inr rfl), ?_⟩))⟩
    rw [up_c (by decide), x45]; exact n45 (by omega)
  · rw [er, gmF, if_neg (by omega), if_neg (by omega), if_neg (by omega), if_neg (by omega), if_neg (by omega), if_neg (by omega), if_neg (by omega)]
  · obtain ⟨n1, n2, n3, n4⟩ := hN
    refine ⟨by omega, z, rfl, Or.inl (Or.inr (Or.inr ⟨3, o - 1, b, enF u L e, [102], by rw [er, gmF, if_neg (by omega), if_neg (by omega), if_neg (by omega), if_neg (by omega), if_neg (by omega), if_neg (by omega), if_pos (by omega)], n1, by decide, n2, n3, ?_⟩))⟩
    rw [n4 45 0 (by omega), x45]; exact n45 (by omega)
  · have kr : kdF u L e = 0 ∨ kdF u L e = 1 ∨ kdF u L e = 2 ∨ kdF u L e = 3 ∨ kdF u L e = 43 ∨ kdF u L e = 45 ∨ kdF u L e = 47 ∨ kdF u L e = 123 ∨ kdF u L e = 124 ∨ kdF u L e = 125 ∨ kdF u L e = 44 := by
      unfold kdF kdA kdC
      split
      · split
        · omega
        · split
          · omega
          · split <;> omega
      · omega
    have tn := tk.2.2.2.2.1
    rw [er, gmF]
    by_cases k2 : kdF u L e = 2
    · rw [if_pos k2, if_pos (Classical.byContradiction fun w => by have := tn.mpr ⟨k2, w⟩; omega)]
    · rw [if_neg k2, if_neg (by omega), if_neg (by omega)]
      by_cases k3 : kdF u L e = 3
      · rw [if_pos k3, posF, if_pos (Classical.byContradiction fun w => by have := tk.2.1.mpr ⟨k3, w⟩; omega)]; rfl
      · rw [if_neg k3, if_neg (by omega), if_neg (by omega), if_neg (by omega)]
/-! what follows, by what is wanted -/
theorem m_fol3 {g : Gs} {ad : Nat → Nat} (hk : HK g ad u L J) (hL : L ≤ 80) {M : Mem} {o : Int} {b : Int → Int} {e : Int} {ys : List Int} (ms : Ms L 3 o e) (co : Co u L M o b) (hJ : J M o b ys) (rt : RT u L M e) (k0 : kdF u L e ≠ 0) : SpI (wM g ad) yX10_follows cX10_follows 2 (some .int) 11 [.ref (ad 0), vI (3)] (M) (fun r N => R32 r ∧ FQ u L J ys 3 o b e r N) := by
  intro l9 hl9
  refine ct_of hl9 mi_X10_follows.2.2.2 (Nat.le_of_ble_eq_true rfl) (fun X _ C Y => ?_)
  show E (wM g ad) X 0 0 (M) 0 [(0, .ref (ad 0)), (1, vI (3))] []
  refine e_wf (fun hw => ?_)
  refine B_X10_follows_0 (by omega) (Nat.zero_le _) (Nat.zero_le _) C Y ⟨fun _ => ⟨_, m_behind hk hL ms co hJ rt k0, fun z N hN => ?_⟩, fun q => absurd q (by decide), fun q => absurd q (by decide), fun q => absurd q (by decide), fun q => absurd q (by decide)⟩
  have zr : R32 z := fq_r ms (by omega) hL hN
  exact ⟨zr, z, rfl, zr, hN⟩
theorem m_fol0 {g : Gs} {ad : Nat → Nat} (hk : HK g ad u L J) (hL : L ≤ 80) {M : Mem} {w o : Int} {b : Int → Int} {e : Int} {ys : List Int} (ms : Ms L w o e) (w3 : w < 3) (co : Co u L M o b) (hJ : J M o b ys) (rt : RT u L M e) (k0 : kdF u L e ≠ 0) : SpI (wM g ad) yX10_follows cX10_follows 2 (some .int) 11 [.ref (ad 0), vI (w)] (M) (fun r N => R32 r ∧ (FQ u L J ys w o b e r N ∨ (r = 5 ∧ rdF u L w o b e = nuF (posF u L e) o b (fun x => [x]) ∧ P5 u L J ys o b e (fun x => [x]) N) ∨ (∃ e1 f, r = 4 ∧ rdF u L w o b e = nuF (posF u L e1) o b f ∧ (e ≤ e1 ∧ e1 ≤ L) ∧ N 45 0 = e1 ∧ Pd u L J ys o b f N))) := by
  have m1 := ms.1
  intro l9 hl9
  refine ct_of hl9 mi_X10_follows.2.2.2 (Nat.le_of_ble_eq_true rfl) (fun X _ C Y => ?_)
  show E (wM g ad) X 0 0 (M) 0 [(0, .ref (ad 0)), (1, vI (w))] []
  refine e_wf (fun hw => ?_)
  refine B_X10_follows_0 (by omega) (Nat.zero_le _) (Nat.zero_le _) C Y ⟨fun q => absurd q (by omega), fun q => absurd q (by omega), fun q => absurd q (by omega), fun q => absurd q (by omega), fun _ => ⟨_, m_beginsGame hk hL ms w3 co hJ rt k0, fun z N hN => ?_⟩⟩
  have zr : R32 z := by
    rcases hN with h | h | ⟨e1, f, h, -⟩
    · exact fq_r ms (by omega) hL h
    · omega
    · omega
  exact ⟨zr, z, rfl, zr, hN⟩
theorem m_fol4 {g : Gs} {ad : Nat → Nat} {M : Mem} : SpI (wM g ad) yX10_follows cX10_follows 2 (some .int) 11 [.ref (ad 0), vI (4)] (M) (fun r N => (M 46 0 ≠ 4 ∧ r = -1 ∧ N = M) ∨ (M 46 0 = 4 ∧ r = 5 ∧ N = up (up M 56 0 (M 47 0)) 57 0 (M 44 0))) := by
  intro l9 hl9
  refine ct_of hl9 mi_X10_follows.2.2.2 (Nat.le_of_ble_eq_true rfl) (fun X _ C Y => ?_)
  show E (wM g ad) X 0 0 (M) 0 [(0, .ref (ad 0)), (1, vI (4))] []
  refine e_wf (fun hw => ?_)
  refine B_X10_follows_0 (by omega) (Nat.zero_le _) (Nat.zero_le _) C Y ⟨fun q => absurd q (by decide), fun _ => ⟨fun q => ⟨-1, rfl, Or.inl ⟨q, rfl, rfl⟩⟩, fun q => ⟨_, m_figures, fun z N hN => ⟨by omega, z, rfl, Or.inr ⟨q, hN.1, hN.2⟩⟩⟩⟩, fun q => absurd q (by decide), fun q => absurd q (by decide), fun q => absurd q (by decide)⟩
theorem m_fol5 {g : Gs} {ad : Nat → Nat} (hk : HK g ad u L J) (hL : L ≤ 80) {M : Mem} {o : Int} {b : Int → Int} {e : Int} {ys : List Int} {f : Int → List Int} (ms : Ms L 3 o e) (co : Co u L M o b) (hJ : J M o b ys) (sg : Sg M f) (rt : RT u L M e) (k0 : kdF u L e ≠ 0) (h56 : 0 ≤ M 56 0 ∧ M 56 0 ≤ 99) (h57 : 0 ≤ M 57 0 ∧ M 57 0 ≤ 80) : SpI (wM g ad) yX10_follows cX10_follows 2 (some .int) 11 [.ref (ad 0), vI (5)] (M) (fun r N => R32 r ∧ ((kdF u L e = 47 ∧ r = 6 ∧ N = M) ∨ (kdF u L e ≠ 47 ∧ 8 < M 56 0 ∧ r = -2 - M 57 0 ∧ N = M) ∨ (kdF u L e ≠ 47 ∧ M 56 0 ≤ 8 ∧ FQ u L J (ys ++ f (8 * M 56 0)) 3 o b e r N))) := by
  have tk := tk_k (u := u) (L := L) (e := e)
  have k47 := tk.2.2.1 47 (by omega)
  have t2 := rt.2.1
  have m2 := ms.2.1
  have m4 := ms.2.2.2
  intro l9 hl9
  refine ct_of hl9 mi_X10_follows.2.2.2 (Nat.le_of_ble_eq_true rfl) (fun X _ C Y => ?_)
  show E (wM g ad) X 0 0 (M) 0 [(0, .ref (ad 0)), (1, vI (5))] []
  refine e_wf (fun hw => ?_)
  refine B_X10_follows_0 (by omega) (Nat.zero_le _) (Nat.zero_le _) C Y ⟨fun q => absurd q (by decide), fun q => absurd q (by decide), fun _ => ⟨fun q => ⟨fun q8 => ⟨by omega, _, hk.nu co (by omega) hJ (by omega) sg, fun N hN => ⟨_, m_behind hk hL ms hN.2.1 hN.1 ?_ k0, fun z P hP => ?_⟩⟩, fun q8 => ⟨by omega, -2 - M 57 0, rfl, by omega, Or.inr (Or.inl ⟨by omega, q8, rfl, rfl⟩)⟩⟩, fun q => ⟨6, rfl, by decide, Or.inl ⟨by omega, rfl, rfl⟩⟩⟩, fun q => absurd q (by decide), fun q => absurd q (by decide)⟩
  · obtain ⟨a1, a2, a3, a4⟩ := rt
    have fc := hN.2.2
    exact ⟨(fc 44 0 (by omega)).trans a1, (fc 46 0 (by omega)).trans a2, fun w => (fc 45 0 (by omega)).trans (a3 w), fun w => (fc 47 0 (by omega)).trans (a4 w)⟩
  · have zr : R32 z := fq_r ms (by omega) hL hP
    exact ⟨zr, z, rfl, zr, Or.inr (Or.inr ⟨by omega, q8, hP⟩)⟩
theorem tdiv_pp {d k : Int} (hd : 0 ≤ d) (hk : k = 2 ∨ k = 4 ∨ k = 8) : (d * 8).tdiv k = d * ppF k := by
  rw [Int.tdiv_eq_ediv_of_nonneg (by omega)]
  rcases hk with rfl | rfl | rfl
  · rw [show ppF 2 = 4 from rfl]; omega
  · rw [show ppF 4 = 2 from rfl]; omega
  · rw [show ppF 8 = 1 from rfl]; omega
theorem m_fol6 {g : Gs} {ad : Nat → Nat} (hk : HK g ad u L J) {M : Mem} {o : Int} {b : Int → Int} {ys : List Int} {f : Int → List Int} (co : Co u L M o b) (ho : 0 ≤ o ∧ o ≤ 80) (hJ : J M o b ys) (sg : Sg M f) (h56 : 0 ≤ M 56 0 ∧ M 56 0 ≤ 99) : SpI (wM g ad) yX10_follows cX10_follows 2 (some .int) 11 [.ref (ad 0), vI (6)] (M) (fun r N => ((M 46 0 ≠ 4 ∨ ppF (M 47 0) = 0 ∨ 64 < M 56 0 * ppF (M 47 0)) ∧ r = -1 ∧ N = M) ∨ (M 46 0 = 4 ∧ ppF (M 47 0) ≠ 0 ∧ M 56 0 * ppF (M 47 0) ≤ 64 ∧ r = 3 ∧ J N o b (ys ++ f (M 56 0 * ppF (M 47 0))) ∧ Co u L N o b ∧ FC M N)) := by
  intro l9 hl9
  refine ct_of hl9 mi_X10_follows.2.2.2 (Nat.le_of_ble_eq_true rfl) (fun X _ C Y => ?_)
  show E (wM g ad) X 0 0 (M) 0 [(0, .ref (ad 0)), (1, vI (6))] []
  refine e_wf (fun hw => ?_)
  have b127 : M 46 0 = 4 → (M 47 0 = 2 ∨ M 47 0 = 4 ∨ M 47 0 = 8) → E (wM g ad) X 0 0 (M) 127 [(0, .ref (ad 0))] [] := by
    intro q q2
    have e1 := tdiv_pp h56.1 q2
    have p0 : ppF (M 47 0) = 4 ∨ ppF (M 47 0) = 2 ∨ ppF (M 47 0) = 1 := by
      rcases q2 with w | w | w <;> rw [w]
      · exact Or.inl rfl
      · exact Or.inr (Or.inl rfl)
      · exact Or.inr (Or.inr rfl)
    have ge : 0 ≤ M 56 0 * ppF (M 47 0) := Int.mul_nonneg (by omega) (by omega)
    refine B_X10_follows_127  (Nat.zero_le _) (Nat.zero_le _) C Y ?_
    rw [e1]
    exact ⟨⟨by omega, by omega, by omega⟩, fun w => ⟨_, hk.nu co ho hJ ⟨ge, w⟩ sg, fun N hN => ⟨3, rfl, Or.inr ⟨q, by omega, w, rfl, hN.1, hN.2.1, hN.2.2⟩⟩⟩, fun w => ⟨-1, rfl, Or.inl ⟨Or.inr (Or.inr w), rfl, rfl⟩⟩⟩
  refine B_X10_follows_0 (by omega) (Nat.zero_le _) (Nat.zero_le _) C Y ⟨fun q => absurd q (by decide), fun q => absurd q (by decide), fun q => absurd q (by decide), fun _ => ⟨fun q => ⟨-1, rfl, Or.inl ⟨Or.inl q, rfl, rfl⟩⟩, fun q => ⟨fun q2 => b127 q (by omega), fun q2 => ⟨fun q4 => b127 q (by omega), fun q4 => ⟨fun q8 => ⟨-1, rfl, Or.inl ⟨Or.inr (Or.inl ?_), rfl, rfl⟩⟩, fun q8 => b127 q (by omega)⟩⟩⟩⟩, fun q => absurd q (by decide)⟩
  rw [ppF, if_neg q2, if_neg q4, if_neg q8]
end MG2
