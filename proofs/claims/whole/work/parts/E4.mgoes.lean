/-! ===== the reference: goes, over hooks that say what becomes of the games ===== -/
def Co (u : Int → Int) (L : Int) (M : Mem) (o : Int) (b : Int → Int) : Prop := ((∀ i, M 23 i = u i) ∧ M 24 0 = L) ∧ M 48 0 = o ∧ (∀ i, 0 ≤ i → i < o → M 49 i = b i) ∧ (∀ i, 0 ≤ i → i < o → b i = 0 ∨ b i = 1)
def FJ (M N : Mem) : Prop := ∀ c i, c ≠ 44 → c ≠ 45 → c ≠ 46 → c ≠ 47 → c ≠ 55 → c ≠ 56 → c ≠ 57 → c ≠ 58 → N c i = M c i
def FC (M N : Mem) : Prop := ∀ c i, (44 ≤ c ∧ c ≤ 47) ∨ (55 ≤ c ∧ c ≤ 58) → N c i = M c i
def Sg (M : Mem) (f : Int → List Int) : Prop := (M 55 0 = 1 ∧ M 58 0 = 0 ∧ f = fun x => [x]) ∨ (M 55 0 = -1 ∧ M 58 0 = 0 ∧ f = fun x => [-x]) ∨ (M 55 0 = 1 ∧ M 58 0 = 1 ∧ f = fun x => [100, x, 101, -x, 102])
def opM (M : Mem) (o : Int) : Mem := up (up (up (up M 49 o 0) 50 (2 * o) 0) 50 (2 * o + 1) 0) 48 0 (o + 1)
theorem Co.fj {u : Int → Int} {L : Int} {M N : Mem} {o : Int} {b : Int → Int} (h : Co u L M o b) (f : FJ M N) : Co u L N o b := by
  obtain ⟨⟨a1, a2⟩, a3, a4, a5⟩ := h
  have fx : ∀ c i, (c = 23 ∨ c = 24 ∨ c = 48 ∨ c = 49) → N c i = M c i := fun c i q => f c i (by omega) (by omega) (by omega) (by omega) (by omega) (by omega) (by omega) (by omega)
  exact ⟨⟨fun i => (fx 23 i (by omega)).trans (a1 i), (fx 24 0 (by omega)).trans a2⟩, (fx 48 0 (by omega)).trans a3, fun i i0 i1 => (fx 49 i (by omega)).trans (a4 i i0 i1), a5⟩
theorem fk_fj {M N : Mem} (f : FK M N) : FJ M N := fun c i h1 h2 h3 h4 _ _ _ _ => f c i h1 h2 h3 h4
def HK (g : Gs) (ad : Nat → Nat) (u : Int → Int) (L : Int) (J : Mem → Int → (Int → Int) → List Int → Prop) : Prop :=
  (∀ (M N : Mem) (o : Int) (b : Int → Int) (ys : List Int), J M o b ys → FJ M N → J N o b ys) ∧
  (∀ (M : Mem) (o : Int) (b : Int → Int) (ys : List Int), Co u L M o b → (0 ≤ o ∧ o < 80) → J M o b ys → J (opM M o) (o + 1) (fun i => if i = o then 0 else b i) (ys ++ [100])) ∧
  (∀ (M : Mem) (o : Int) (b : Int → Int) (ys : List Int), Co u L M o b → (1 ≤ o ∧ o ≤ 80) → J M o b ys → J (up M 49 (o - 1) 1) o (fun i => if i = o - 1 then 1 else b i) (ys ++ [101])) ∧
  (∀ (M : Mem) (o : Int) (b : Int → Int) (ys : List Int), Co u L M o b → (1 ≤ o ∧ o ≤ 80) → J M o b ys → SpI (wM g ad) yX10_closes cX10_closes 3 (some .int) 7 [.ref (ad 0)] (M) (fun r N => r = 3 ∧ J N (o - 1) b (ys ++ [102]) ∧ Co u L N (o - 1) b ∧ FC M N)) ∧
  (∀ (M : Mem) (o : Int) (b : Int → Int) (ys : List Int) (x : Int) (f : Int → List Int), Co u L M o b → (0 ≤ o ∧ o ≤ 80) → J M o b ys → (0 ≤ x ∧ x ≤ 64) → Sg M f → SpV (wM g ad) yX10_numberIs cX10_numberIs 3 none 9 [.ref (ad 0), vI (x)] (M) (fun N => J N o b (ys ++ f x) ∧ Co u L N o b ∧ FC M N)) ∧
  (∀ (M : Mem) (o : Int) (b : Int → Int) (ys : List Int) (k : Int), Co u L M o b → (0 ≤ o ∧ o ≤ 80) → J M o b ys → (k = 1 ∨ k = 2 ∨ k = 3) → SpV (wM g ad) yX10_nameIs cX10_nameIs 4 none 9 [.ref (ad 0), vI (k)] (M) (fun N => J N o b (ys ++ nmX k) ∧ Co u L N o b ∧ FC M N))
theorem HK.fr {g : Gs} {ad : Nat → Nat} {u : Int → Int} {L : Int} {J : Mem → Int → (Int → Int) → List Int → Prop} (h9 : HK g ad u L J) {M N : Mem} {o : Int} {b : Int → Int} {ys : List Int} : J M o b ys → FJ M N → J N o b ys := h9.1 M N o b ys
theorem HK.op {g : Gs} {ad : Nat → Nat} {u : Int → Int} {L : Int} {J : Mem → Int → (Int → Int) → List Int → Prop} (h9 : HK g ad u L J) {M : Mem} {o : Int} {b : Int → Int} {ys : List Int} : Co u L M o b → (0 ≤ o ∧ o < 80) → J M o b ys → J (opM M o) (o + 1) (fun i => if i = o then 0 else b i) (ys ++ [100]) := h9.2.1 M o b ys
theorem HK.tn {g : Gs} {ad : Nat → Nat} {u : Int → Int} {L : Int} {J : Mem → Int → (Int → Int) → List Int → Prop} (h9 : HK g ad u L J) {M : Mem} {o : Int} {b : Int → Int} {ys : List Int} : Co u L M o b → (1 ≤ o ∧ o ≤ 80) → J M o b ys → J (up M 49 (o - 1) 1) o (fun i => if i = o - 1 then 1 else b i) (ys ++ [101]) := h9.2.2.1 M o b ys
theorem HK.cl {g : Gs} {ad : Nat → Nat} {u : Int → Int} {L : Int} {J : Mem → Int → (Int → Int) → List Int → Prop} (h9 : HK g ad u L J) {M : Mem} {o : Int} {b : Int → Int} {ys : List Int} : Co u L M o b → (1 ≤ o ∧ o ≤ 80) → J M o b ys → SpI (wM g ad) yX10_closes cX10_closes 3 (some .int) 7 [.ref (ad 0)] (M) (fun r N => r = 3 ∧ J N (o - 1) b (ys ++ [102]) ∧ Co u L N (o - 1) b ∧ FC M N) := h9.2.2.2.1 M o b ys
theorem HK.nu {g : Gs} {ad : Nat → Nat} {u : Int → Int} {L : Int} {J : Mem → Int → (Int → Int) → List Int → Prop} (h9 : HK g ad u L J) {M : Mem} {o : Int} {b : Int → Int} {ys : List Int} {x : Int} {f : Int → List Int} : Co u L M o b → (0 ≤ o ∧ o ≤ 80) → J M o b ys → (0 ≤ x ∧ x ≤ 64) → Sg M f → SpV (wM g ad) yX10_numberIs cX10_numberIs 3 none 9 [.ref (ad 0), vI (x)] (M) (fun N => J N o b (ys ++ f x) ∧ Co u L N o b ∧ FC M N) := h9.2.2.2.2.1 M o b ys x f
theorem HK.nm {g : Gs} {ad : Nat → Nat} {u : Int → Int} {L : Int} {J : Mem → Int → (Int → Int) → List Int → Prop} (h9 : HK g ad u L J) {M : Mem} {o : Int} {b : Int → Int} {ys : List Int} {k : Int} : Co u L M o b → (0 ≤ o ∧ o ≤ 80) → J M o b ys → (k = 1 ∨ k = 2 ∨ k = 3) → SpV (wM g ad) yX10_nameIs cX10_nameIs 4 none 9 [.ref (ad 0), vI (k)] (M) (fun N => J N o b (ys ++ nmX k) ∧ Co u L N o b ∧ FC M N) := h9.2.2.2.2.2 M o b ys k
theorem tk_k {u : Int → Int} {L e : Int} : (tkF u L e = 0 ↔ kdF u L e = 0) ∧ (tkF u L e = 4 ↔ (kdF u L e = 3 ∧ dgF u L e ≠ -1)) ∧ (∀ c, c = 44 ∨ c = 45 ∨ c = 47 ∨ c = 123 ∨ c = 124 ∨ c = 125 → (tkF u L e = c ↔ kdF u L e = c)) ∧ (tkF u L e = 5 ↔ kdF u L e = 43) ∧ ((tkF u L e = 1 ∨ tkF u L e = 2 ∨ tkF u L e = 3) ↔ (kdF u L e = 2 ∧ nmK u L e ≠ 6)) ∧ (kdF u L e = 2 → tkF u L e = nmK u L e) := by
  have nr := nmK_r (u := u) (L := L) (e := e)
  have kr : kdF u L e = 0 ∨ kdF u L e = 1 ∨ kdF u L e = 2 ∨ kdF u L e = 3 ∨ kdF u L e = 43 ∨ kdF u L e = 45 ∨ kdF u L e = 47 ∨ kdF u L e = 123 ∨ kdF u L e = 124 ∨ kdF u L e = 125 ∨ kdF u L e = 44 := by
    unfold kdF kdA kdC
    split
    · split
      · omega
      · split
        · omega
        · split <;> omega
    · omega
  unfold tkF
  by_cases k2 : kdF u L e = 2
  · rw [if_pos k2]
    exact ⟨by omega, by omega, fun c hc => by omega, by omega, by omega, fun _ => rfl⟩
  · rw [if_neg k2]
    by_cases k3 : kdF u L e = 3
    · rw [if_pos k3]
      by_cases d : dgF u L e = -1
      · rw [if_pos d]
        exact ⟨by omega, by omega, fun c hc => by omega, by omega, by omega, fun q => absurd q k2⟩
      · rw [if_neg d]
        exact ⟨by omega, by omega, fun c hc => by omega, by omega, by omega, fun q => absurd q k2⟩
    · rw [if_neg k3]
      by_cases k4 : kdF u L e = 43
      · rw [if_pos k4]
        exact ⟨by omega, by omega, fun c hc => by omega, by omega, by omega, fun q => absurd q k2⟩
      · rw [if_neg k4]
        by_cases k5 : kdF u L e = 1
        · rw [if_pos k5]
          exact ⟨by omega, by omega, fun c hc => by omega, by omega, by omega, fun q => absurd q k2⟩
        · rw [if_neg k5]
          exact ⟨by omega, by omega, fun c hc => by omega, by omega, by omega, fun q => absurd q k2⟩
/-- a step of the reference that is a whole round of the machine -/
def FQ (u : Int → Int) (L : Int) (J : Mem → Int → (Int → Int) → List Int → Prop) (ys : List Int) (w o : Int) (b : Int → Int) (e r : Int) (N : Mem) : Prop := (rdF u L w o b e = .inl (N 44 0) ∧ r = -1 ∧ J N o b ys) ∨ (∃ a, rdF u L w o b e = .inl a ∧ r = -2 - a ∧ (0 ≤ a ∧ a ≤ L) ∧ J N o b ys) ∨ (∃ w' o' b' e' xs, rdF u L w o b e = .inr ((w', o', b', e'), xs) ∧ r = w' ∧ w' ≠ 4 ∧ J N o' b' (ys ++ xs) ∧ Co u L N o' b' ∧ N 45 0 = e')
theorem m_turns {g : Gs} {ad : Nat → Nat} {M : Mem} (h : 1 ≤ M 48 0 ∧ M 48 0 ≤ 80) : SpI (wM g ad) yX10_turns cX10_turns 1 (some .int) 1 [.ref (ad 0)] (M) (fun r N => r = 2 ∧ N = up M 49 (M 48 0 - 1) 1) := by
  intro l9 hl9
  refine ct_of hl9 mi_X10_turns.2.2.2 (Nat.le_of_ble_eq_true rfl) (fun X _ C Y => ?_)
  show E (wM g ad) X 0 0 (M) 0 [(0, .ref (ad 0))] []
  refine e_wf (fun hw => ?_)
  exact B_X10_turns_0  (Nat.zero_le _) (Nat.zero_le _) C Y ⟨by omega, 2, rfl, rfl, rfl⟩
theorem m_figures {g : Gs} {ad : Nat → Nat} {M : Mem} : SpI (wM g ad) yX10_figures cX10_figures 1 (some .int) 1 [.ref (ad 0)] (M) (fun r N => r = 5 ∧ N = up (up M 56 0 (M 47 0)) 57 0 (M 44 0)) := by
  intro l9 hl9
  refine ct_of hl9 mi_X10_figures.2.2.2 (Nat.le_of_ble_eq_true rfl) (fun X _ C Y => ?_)
  show E (wM g ad) X 0 0 (M) 0 [(0, .ref (ad 0))] []
  refine e_wf (fun hw => ?_)
  exact B_X10_figures_0  (Nat.zero_le _) (Nat.zero_le _) C Y ⟨5, rfl, rfl, rfl⟩
section MG
variable {u : Int → Int} {L : Int} {J : Mem → Int → (Int → Int) → List Int → Prop}
theorem co_bar {M : Mem} {o q v : Int} {b : Int → Int} (h : Co u L M o b) (hv : v = 0 ∨ v = 1) : Co u L (up M 49 q v) o (fun i => if i = q then v else b i) := by
  obtain ⟨⟨a1, a2⟩, a3, a4, a5⟩ := h
  refine ⟨⟨fun i => by rw [up_c (by decide)]; exact a1 i, by rw [up_c (by decide)]; exact a2⟩, by rw [up_c (by decide)]; exact a3, fun i i0 i1 => ?_, fun i i0 i1 => ?_⟩
  · show up M 49 q v 49 i = (if i = q then v else b i)
    by_cases w : i = q
    · rw [w, up_s, if_pos rfl]
    · rw [up_i w, if_neg w]; exact a4 i i0 i1
  · show (if i = q then v else b i) = 0 ∨ (if i = q then v else b i) = 1
    split
    · exact hv
    · exact a5 i i0 i1
theorem co_op {M : Mem} {o : Int} {b : Int → Int} (h : Co u L M o b) : Co u L (opM M o) (o + 1) (fun i => if i = o then 0 else b i) := by
  obtain ⟨⟨a1, a2⟩, a3, a4, a5⟩ := h
  refine ⟨⟨fun i => ?_, ?_⟩, by unfold opM; rw [up_s], fun i i0 i1 => ?_, fun i i0 i1 => ?_⟩
  · unfold opM; rw [up_c (by decide), up_c (by decide), up_c (by decide), up_c (by decide)]; exact a1 i
  · unfold opM; rw [up_c (by decide), up_c (by decide), up_c (by decide), up_c (by decide)]; exact a2
  · show opM M o 49 i = (if i = o then 0 else b i)
    unfold opM; rw [up_c (by decide), up_c (by decide), up_c (by decide)]
    by_cases w : i = o
    · rw [w, up_s, if_pos rfl]
    · rw [up_i w, if_neg w]; exact a4 i i0 (by omega)
  · show (if i = o then 0 else b i) = 0 ∨ (if i = o then 0 else b i) = 1
    split
    · exact Or.inl rfl
    · exact a5 i i0 (by omega)
theorem m_behind {g : Gs} {ad : Nat → Nat} (hk : HK g ad u L J) (hL : L ≤ 80) {M : Mem} {o : Int} {b : Int → Int} {e : Int} {ys : List Int} (ms : Ms L 3 o e) (co : Co u L M o b) (hJ : J M o b ys) (rt : RT u L M e) (k0 : kdF u L e ≠ 0) : SpI (wM g ad) yX10_behind cX10_behind 1 (some .int) 8 [.ref (ad 0)] (M) (fun r N => FQ u L J ys 3 o b e r N) := by
  obtain ⟨t1, t2, t3, t4⟩ := rt
  obtain ⟨⟨a1, a2⟩, a3, a4, a5⟩ := id co
  have tk := tk_k (u := u) (L := L) (e := e)
  have m2 := ms.2.1
  have m4 := ms.2.2.2
  have er : rdF u L 3 o b e = bhF u L o b e := by rw [rdF, if_pos rfl]
  have n45 : kdF u L e ≠ 43 → M 45 0 = enF u L e := fun q => by rw [t3 k0, if_neg q]
  have bo : o ≠ 0 → M 49 (M 48 0 - 1) = b (o - 1) ∧ (b (o - 1) = 0 ∨ b (o - 1) = 1) := fun q => by rw [a3]; exact ⟨a4 _ (by omega) (by omega), a5 _ (by omega) (by omega)⟩
  intro l9 hl9
  refine ct_of hl9 mi_X10_behind.2.2.2 (Nat.le_of_ble_eq_true rfl) (fun X _ C Y => ?_)
  show E (wM g ad) X 0 0 (M) 0 [(0, .ref (ad 0))] []
  refine e_wf (fun hw => ?_)
  have ft : rdF u L 3 o b e = .inl (stF u L e) → ∃ z : Int, some (vI (-1)) = some (vI z) ∧ FQ u L J ys 3 o b e z M := fun q => ⟨-1, rfl, Or.inl ⟨by rw [q, t1], rfl, hJ⟩⟩
  have k44 := tk.2.2.1 44 (by omega)
  have k124 := tk.2.2.1 124 (by omega)
  have k125 := tk.2.2.1 125 (by omega)
  have b50 : o ≠ 0 → kdF u L e ≠ 44 → ¬ (kdF u L e = 124 ∧ b (o - 1) = 0) → E (wM g ad) X 0 0 (M) 50 [(0, .ref (ad 0))] [] := by
    intro q1 q2 q3
    have bb := bo q1
    have eg : ¬ (kdF u L e = 125 ∧ b (o - 1) ≠ 0) → rdF u L 3 o b e = .inl (stF u L e) := fun q4 => by rw [er, bhF, if_neg q1, if_neg q2, if_neg q3, if_neg q4]
    refine B_X10_behind_50  (Nat.zero_le _) (Nat.zero_le _) C Y ⟨fun q => ft (eg (by omega)), fun q => ⟨by omega, fun q4 => ft (eg (by omega)), fun q4 => ⟨_, hk.cl co (by omega) hJ, fun z N hN => ?_⟩⟩⟩
    obtain ⟨n1, n2, n3, n4⟩ := hN
    refine ⟨by omega, z, rfl, Or.inr (Or.inr ⟨3, o - 1, b, enF u L e, [102], by rw [er, bhF, if_neg q1, if_neg q2, if_neg q3, if_pos (by omega)], n1, by decide, n2, n3, ?_⟩)⟩
    rw [n4 45 0 (by omega)]; exact n45 (by omega)
  refine B_X10_behind_0  (Nat.zero_le _) (Nat.zero_le _) C Y ⟨fun q1 => ⟨fun q2 => ⟨fun q3 => b50 (by omega) (by omega) (by omega), fun q3 => ⟨by omega, fun q4 => b50 (by omega) (by omega) (by have := bo (by omega); omega), fun q4 => ⟨_, m_turns (by omega), fun z N hN => ?_⟩⟩⟩, fun q2 => ⟨0, rfl, Or.inr (Or.inr ⟨0, o, b, enF u L e, [], by rw [er, bhF, if_neg (by omega), if_pos (by omega)], rfl, by decide, by rw [List.append_nil]; exact hJ, co, n45 (by omega)⟩)⟩⟩, fun q1 => ft (by rw [er, bhF, if_pos (by omega), if_neg k0])⟩
  obtain ⟨n1, n2⟩ := hN
  rw [n2, a3]
  have bb := bo (by omega)
  refine ⟨by omega, z, rfl, Or.inr (Or.inr ⟨2, o, _, enF u L e, [101], by rw [er, bhF, if_neg (by omega), if_neg (by omega), if_pos (by omega)], n1, by decide, hk.tn co (by omega) hJ, co_bar co (Or.inr rfl), ?_⟩)⟩
  rw [up_c (by decide)]; exact n45 (by omega)
end MG
