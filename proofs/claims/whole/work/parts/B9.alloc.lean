/-! ===== solve: the score rows are made ===== -/
/-- the memory with two new rows of scores at a and b -/
def slvM (M : Mem) (a b : Nat) : Mem := fun c i => if c = 17 ∨ c = 18 then 0 else if c = 20 then (if i = 0 then 4000 else M 20 i) else if c = 19 then (if i = 0 then (a : Int) else if i = 1 then (b : Int) else M 19 i) else M c i
theorem slvM_c {M : Mem} {a b c : Nat} {i : Int} (h : c < 17 ∨ 20 < c) : slvM M a b c i = M c i := by
  unfold slvM
  rw [if_neg (by omega), if_neg (by omega), if_neg (by omega)]
theorem slvM_20 {M : Mem} {a b : Nat} : slvM M a b 20 0 = 4000 := rfl
theorem slvM_r {ad : Nat → Nat} {M : Mem} {a b : Nat} (h : RMx ad M) : RMx ad (slvM M a b) := by
  have far : ∀ c : Nat, c ≠ 17 → c ≠ 18 → c ≠ 19 → c ≠ 20 → c < 17 ∨ 20 < c := fun c => by omega
  refine ⟨fun c i hc => ?_, fun c i hc => ?_, fun c i hc => ?_, ?_, ?_, ?_, ?_⟩
  · rw [slvM_c (far c (by rintro rfl; exact absurd hc (by decide)) (by rintro rfl; exact absurd hc (by decide)) (by rintro rfl; exact absurd hc (by decide)) (by rintro rfl; exact absurd hc (by decide)))]
    exact h.1 c i hc
  · by_cases e1 : c = 17 ∨ c = 18
    · unfold slvM; rw [if_pos e1]; decide
    · by_cases e2 : c = 20
      · subst e2
        show R32 (if i = 0 then 4000 else M 20 i)
        split
        · decide
        · exact h.2.1 20 i hc
      · have e3 : c ≠ 19 := by rintro rfl; exact absurd hc (by decide)
        rw [slvM_c (by omega)]
        exact h.2.1 c i hc
  · rw [slvM_c (far c (by rintro rfl; exact absurd hc (by decide)) (by rintro rfl; exact absurd hc (by decide)) (by rintro rfl; exact absurd hc (by decide)) (by rintro rfl; exact absurd hc (by decide)))]
    exact h.2.2.1 c i hc
  · show (0 : Int) ≤ (a : Int); omega
  · show (0 : Int) ≤ (b : Int); omega
  · show (0 : Int) ≤ 4000; decide
  · exact Or.inr rfl
section SLV
variable {g : Gs} {ad : Nat → Nat} {KK : (Nat → Prop) → State → Prop} {X : Cx} {nL d mc ms : Nat} {k n : Nat} {M : Mem} {lv : List (Nat × Value)}
theorem stX_slv (a b : Nat) : stX g ad (slvM M a b) = (((stX g ad M).set 3 (ad 3, .inr (6, ((fsX6 ad M).set 6 (.ref a)).set 7 (.ref b)))).set 33 (a, .inl (g.2.1, 4000, .inl (fun _ => i32 0)))).set 34 (b, .inl (g.2.1, 4000, .inl (fun _ => i32 0))) := rfl
theorem wlX_slv (a b : Nat) : wlX g ad (slvM M a b) = (((wlX g ad M).set 3 (ad 3, .inr (6, ((fsX6 ad M).set 6 (.ref a)).set 7 (.ref b)))).set 33 (a, .inl (g.2.1, 4000, .inl (fun _ => i32 0)))).set 34 (b, .inl (g.2.1, 4000, .inl (fun _ => i32 0))) := by
  have e : (List.range 240).map (fun m => (ad (44 + m), gcX g ad (slvM M a b) m)) = (List.range 240).map (fun m => (ad (44 + m), gcX g ad M m)) := List.map_congr_left (fun m _ => rfl)
  unfold wlX
  rw [e, List.set_append_left _ _ (by rw [stX_len]; decide), List.set_append_left _ _ (by rw [List.length_set, stX_len]; decide), List.set_append_left _ _ (by rw [List.length_set, List.length_set, stX_len]; decide), stX_slv]
theorem wlX_len : (wlX g ad M).length = 284 := by
  unfold wlX
  rw [List.length_append, stX_len, List.length_map, List.length_range]
/-- where the cells of the new world stand behind the two new arrays -/
def fSlv (k : Nat) : Nat := if k = 33 then 284 else if k = 34 then 285 else k
theorem slv_at (a b : Nat) (x1 : Nat × va_E) : ∀ k q, (wlX g ad (slvM M a b))[k]? = some q → (((((wlX g ad M) ++ [(a, (.inl (g.2.1, 4000, .inl (fun _ => i32 0)) : va_E))]).set 3 x1) ++ [(b, (.inl (g.2.1, 4000, .inl (fun _ => i32 0)) : va_E))]).set 3 (ad 3, .inr (6, ((fsX6 ad M).set 6 (.ref a)).set 7 (.ref b))))[fSlv k]? = some q ∧ k < 284 := by
  intro k q h
  have hk : k < 284 := by
    have := (List.getElem?_eq_some_iff.mp h).1
    rw [wlX_len] at this; exact this
  refine ⟨?_, hk⟩
  rw [wlX_slv] at h
  have l1 : ((wlX g ad M) ++ [(a, (.inl (g.2.1, 4000, .inl (fun _ => i32 0)) : va_E))]).length = 285 := by rw [List.length_append, wlX_len]; rfl
  unfold fSlv
  by_cases e33 : k = 33
  · subst e33
    rw [if_pos rfl]
    rw [List.getElem?_set_ne (by decide), List.getElem?_set_self (by rw [List.length_set, wlX_len]; decide)] at h
    rw [List.getElem?_set_ne (by decide), List.getElem?_append_left (by rw [List.length_set, l1]; decide), List.getElem?_set_ne (by decide), List.getElem?_append_right (by rw [wlX_len]; decide), wlX_len]
    exact h
  · rw [if_neg e33]
    by_cases e34 : k = 34
    · subst e34
      rw [if_pos rfl]
      rw [List.getElem?_set_self (by rw [List.length_set, List.length_set, wlX_len]; decide)] at h
      rw [List.getElem?_set_ne (by decide), List.getElem?_append_right (by rw [List.length_set, l1]; decide), List.length_set, l1]
      exact h
    · rw [if_neg e34]
      rw [List.getElem?_set_ne (Ne.symm e34), List.getElem?_set_ne (Ne.symm e33)] at h
      by_cases e3 : k = 3
      · subst e3
        rw [List.getElem?_set_self (by rw [wlX_len]; decide)] at h
        rw [List.getElem?_set_self (by rw [List.length_append, List.length_set, l1]; omega)]
        exact h
      · rw [List.getElem?_set_ne (Ne.symm e3)] at h
        rw [List.getElem?_set_ne (Ne.symm e3), List.getElem?_append_left (by rw [List.length_set, l1]; omega), List.getElem?_set_ne (Ne.symm e3), List.getElem?_append_left (by rw [wlX_len]; exact hk)]
        exact h
theorem fSlv_inj {i j : Nat} (hi : i < 284) (hj : j < 284) (e : fSlv i = fSlv j) : i = j := by
  unfold fSlv at e
  split at e <;> split at e <;> first | omega | (split at e <;> first | omega | (split at e <;> omega))
theorem e_alloc {x2 : Int} (C : OkB (wX g ad KK) X cX6_solve RX6 5 3 mc ms) (hk : k + 2 ≤ mc) (hn : n + 8000 ≤ ms) (kk : ∀ a b : Nat, E (wX g ad KK) X (k + 2) (n + 8000) (slvM M a b) 26 [(0, .ref (ad 3)), (1, .ref (ad 19)), (2, vI x2)] []) : E (wX g ad KK) X k n M 8 [(0, .ref (ad 3)), (1, .ref (ad 19)), (2, vI x2)] [] := by
  refine e_aload_n C 0 dX6_solve_8 rfl ?_
  refine e_sipush C dX6_solve_9 (by decide) ?_
  obtain ⟨p, l, e, R, s, m, args, below, meth, c, A, Q, nL9⟩ := X
  obtain ⟨hx, hb, hml, hown, hts, hA, hK, hKK, hmv, rfl, hfr, hlo, hmc, hms, hlk, htb⟩ := C
  intro hw H locs ls hP hD hS hl
  have ha0 : ∀ cA : ClassId, vp_cell cA (4000, .inl (fun _ => i32 0)) = arrV cA 4000 (fun _ => defaultValue .int) := fun cA => rfl
  have hi4 : (i32 4000).toNatClampNeg = 4000 := by decide
  have hi0 : ¬ i32 4000 < 0 := by decide
  have l0 : ls[0]? = some (.val (.ref (ad 3))) := hl.2.2 (0, .ref (ad 3)) (List.mem_cons_self ..)
  refine va_newa (atype := .int) (ty := .int) (N' := 4000) (a0 := (4000, .inl (fun _ => i32 0))) (n := i32 4000) hx hb (hts (.arrayClass .int) (tg1 128 rfl rfl)) rfl hK hP hD hS hA ha0 hi0 hi4 (by decide) (by omega) (by omega) dX6_solve_12 (fun q cA H1 hK1 hP1 hD1 hS1 => ?_)
  have eA : cA = g.2.1 := by
    have h1 := (hK1.2 6 (cA, .int) rfl).2
    have h2 := (hK.2 0 (g.2.1, .int) rfl).2
    exact Option.some.inj (h1.symm.trans h2)
  subst eA
  have he3 : (wlX g ad M ++ [(q, (.inl (g.2.1, 4000, .inl (fun _ => i32 0)) : va_E))])[3]? = some (ad 3, .inr (6, fsX6 ad M)) := by
    rw [List.getElem?_append_left (by rw [wlX_len]; decide)]
    exact wlX_st rfl
  refine va_put (D := g.1) (T := TX6) (cl := vwCl) hx hb hts inG6 tyX6 tyX6_ok nmX6 hown hK hP1 hD1 hS1 3 he3 rfl 6 (by decide) (hts _ (tg1 185 rfl rfl)) (fun _ h => h) rfl rfl rfl rfl (by show 6 < 8; decide) dX6_solve_14 (fun H2 locs2 hP2 hD2 hS2 => ?_)
  refine lv_aload_n hx hb dX6_solve_17 rfl l0 ?_
  refine lv_sipush hx hb dX6_solve_18 (show (Int16.ofInt 4000).toInt32 = i32 4000 by decide) ?_
  refine va_newa (atype := .int) (ty := .int) (N' := 4000) (a0 := (4000, .inl (fun _ => i32 0))) (n := i32 4000) hx hb (hts (.arrayClass .int) (tg1 128 rfl rfl)) rfl hK hP2 hD2 hS2 hA ha0 hi0 hi4 (by decide) (by omega) (by omega) dX6_solve_21 (fun q2 cA2 H3 hK3 hP3 hD3 hS3 => ?_)
  have eA2 : cA2 = g.2.1 := by
    have h1 := (hK3.2 6 (cA2, .int) rfl).2
    have h2 := (hK.2 0 (g.2.1, .int) rfl).2
    exact Option.some.inj (h1.symm.trans h2)
  subst eA2
  have l1 : ((wlX g ad M) ++ [(q, (.inl (g.2.1, 4000, .inl (fun _ => i32 0)) : va_E))]).length = 285 := by rw [List.length_append, wlX_len]; rfl
  have he4 : (((wlX g ad M ++ [(q, (.inl (g.2.1, 4000, .inl (fun _ => i32 0)) : va_E))]).set 3 (ad 3, .inr (6, (fsX6 ad M).set 6 (.ref q)))) ++ [(q2, (.inl (g.2.1, 4000, .inl (fun _ => i32 0)) : va_E))])[3]? = some (ad 3, .inr (6, (fsX6 ad M).set 6 (.ref q))) := by
    rw [List.getElem?_append_left (by rw [List.length_set, l1]; decide), List.getElem?_set_self (by rw [l1]; decide)]
  refine va_put (D := g.1) (T := TX6) (cl := vwCl) hx hb hts inG6 tyX6 tyX6_ok nmX6 hown hK hP3 hD3 hS3 3 he4 rfl 7 (by decide) (hts _ (tg1 186 rfl rfl)) (fun _ h => h) rfl rfl rfl rfl (by show 7 < 8; decide) dX6_solve_23 (fun H4 locs4 hP4 hD4 hS4 => ?_)
  refine kk q q2 (slvM_r hw) H4 locs4 ls (fun k x hx9 => hP4 _ x (slv_at q q2 _ k x hx9).1) ⟨fun i j x y hi hj e => ?_, fun k x hx9 => hD4.2 _ x (slv_at q q2 _ k x hx9).1⟩ hS4 hl
  have a1 := slv_at q q2 (ad 3, .inr (6, (fsX6 ad M).set 6 (.ref q))) i x hi
  have a2 := slv_at q q2 (ad 3, .inr (6, (fsX6 ad M).set 6 (.ref q))) j y hj
  exact fSlv_inj a1.2 a2.2 (hD4.1 _ _ x y a1.1 a2.1 e)
end SLV
theorem B_X6_solve_0 {g : Gs} {ad : Nat → Nat} {sk : (Nat → Nat) × (Nat → Nat)} {X : Cx} {mc ms k n : Nat} {PQ : Option Value → Mem → Prop} {PX : String → Mem → Prop} {M : Mem} {x2 : Int} (hk : M 20 0 = 0 → k + 2 ≤ mc) (hn : M 20 0 = 0 → n + 8000 ≤ ms) (C : OkB (wC g ad sk) X cX6_solve RX6 5 3 mc ms) (Y : OkR (wC g ad sk) X none mc ms PQ PX) (H : (M 20 0 ≠ 0 → E (wC g ad sk) X k n M 26 [(0, .ref (ad 3)), (1, .ref (ad 19)), (2, vI x2)] []) ∧ (M 20 0 = 0 → ∀ a b : Nat, E (wC g ad sk) X (k + 2) (n + 8000) (slvM M a b) 26 [(0, .ref (ad 3)), (1, .ref (ad 19)), (2, vI x2)] [])) : E (wC g ad sk) X k n M 0 [(0, .ref (ad 3)), (1, .ref (ad 19)), (2, vI x2)] [] := by
  refine e_wf (fun hw0 => ?_)
  refine e_aload_n C 0 dX6_solve_0 rfl ?_
  refine gX_6_29 C dX6_solve_1 ?_
  refine alS_0 C dX6_solve_4 ?_
  refine e_if_ne C 26 (hw0.2.1 20 _ rfl) dX6_solve_5 (by decide) (fun c9 => ?_) (fun c9 => ?_)
  · exact H.1 c9
  · exact e_alloc C (hk c9) (hn c9) (fun a b => H.2 c9 a b)
