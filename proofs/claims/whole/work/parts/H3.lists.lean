/-! ===== HotGames' constructor: lists ===== -/
theorem perm_ix {α : Type} (ws : List α) (is : List Nat) (h : is.Perm (List.range ws.length)) : ws.Perm (is.filterMap (fun i => ws[i]?)) := by
  have h1 := h.filterMap (fun i => ws[i]?)
  have h2 : (List.range ws.length).filterMap (fun i => ws[i]?) = ws := by
    apply List.ext_getElem?
    intro k
    have h4 : ∀ n, n ≤ ws.length → (List.range n).filterMap (fun i => ws[i]?) = ws.take n := by
      intro n
      induction n with
      | zero => intro _; rfl
      | succ n ih =>
        intro hn
        rw [List.range_succ, List.filterMap_append, ih (by omega), List.take_succ]
        congr 1
    rw [h4 _ (Nat.le_refl _), List.take_length]
  rw [h2] at h1
  exact h1.symm
def dfX9 : List Value := [.null, .null, .null, .null, .null, .null, .null, .null, .null, .null, .null, vI 0]
def ad9L (b q5 q7 q6 q0 q8 q1 q4 q3 qd ql qg : Nat) (P5 P7 P6 P8 P1 P4 P3 : Mem) : List Nat := [b, q5, q7, q6, q0, q8, q1, q4, q3, qd, ql, qg, adP P5 12, adP P5 13, adP P5 14, adP P5 15, adP P5 16, adP P5 17, adP P5 18, (P7 1 0).toNat, (P6 1 0).toNat, (P6 2 (0 : Nat)).toNat, (P6 2 (1 : Nat)).toNat, (P6 2 (2 : Nat)).toNat, (P6 2 (3 : Nat)).toNat, (P6 1 1).toNat, (P6 3 (0 : Nat)).toNat, (P6 3 (1 : Nat)).toNat, (P6 3 (2 : Nat)).toNat, (P6 3 (3 : Nat)).toNat, (P6 1 2).toNat, (P6 1 3).toNat, (P6 1 4).toNat, (P6 1 5).toNat, (P6 1 6).toNat, (P8 1 0).toNat, (P8 1 1).toNat, (P8 1 2).toNat, (P1 1 0).toNat, (P1 1 1).toNat, (P1 1 2).toNat, (P1 1 3).toNat, (P4 1 0).toNat, (P3 1 0).toNat]
def ad9 (L : List Nat) (P5 : Mem) : Nat → Nat := fun k => if k < 44 then L.getD k 0 else if k < 284 then adP P5 k else 0
def Mi9 (p q : Nat) : Mem := fun c i => if c = 19 then (if i = 0 then (p : Int) else (q : Int)) else 0
theorem Mi9_0 {p q c : Nat} {i : Int} (h : c ≠ 19) : Mi9 p q c i = 0 := if_neg h
theorem rm9 {p q : Nat} {L : List Nat} {P5 : Mem} : RMx (ad9 L P5) (Mi9 p q) := by
  have e : ∀ c i, c ≠ 19 → Mi9 p q c i = 0 := fun c i h => if_neg h
  refine ⟨fun c i h => ?_, fun c i h => ?_, fun c i h => ?_, ?_, ?_, ?_, Or.inl ⟨?_, ?_⟩⟩
  · by_cases q9 : c = 19
    · subst q9; exact absurd h (by decide)
    · rw [e c i q9]; decide
  · by_cases q9 : c = 19
    · subst q9; exact absurd h (by decide)
    · rw [e c i q9]; decide
  · by_cases q9 : c = 19
    · subst q9; exact absurd h (by decide)
    · exact Or.inl (e c i q9)
  · exact Int.natCast_nonneg p
  · exact Int.natCast_nonneg q
  · exact Int.le_refl 0
  · rfl
  · rfl
def rf9 (ad : Nat → Nat) : List Value := [.ref (ad 1), .ref (ad 2), .ref (ad 3), .ref (ad 4), .ref (ad 5), .ref (ad 6), .ref (ad 7), .ref (ad 8), .ref (ad 9), .ref (ad 10), .ref (ad 11), vI 0]
/-- the cells that have been made, in the order of their making -/
def made9 (g : Gs) (b q5 q7 q6 q0 q8 q1 q4 q3 qd ql qg : Nat) (P5 P7 P6 P0 P8 P1 P4 P3 : Mem) : va_W :=
  wiX7 g q7 P7 ++ (wiX6 g q6 q5 P6 ++ (wiX0 g q0 q5 q6 P0 ++ (wiX8 g q8 P8 ++ (wiX1 g q1 q5 P1 ++ (wiX4 g q4 q5 P4 ++ (wiX3 g q3 P3 ++ [(qd, .inl (g.2.2.1, 2, .inr (.inl (fun _ => i64 0)))), (ql, .inl (g.2.1, 4, .inl (fun _ => i32 0))), (qg, .inl (g.2.1, 24, .inl (fun _ => i32 0)))]))))))
theorem gm9 {g : Gs} {L : List Nat} {P5 : Mem} {p q : Nat} : gmL g (adP P5) 240 = (List.range 240).map (fun m => (ad9 L P5 (44 + m), gcX g (ad9 L P5) (Mi9 p q) m)) := by
  unfold gmL
  apply List.map_congr_left
  intro m hm
  rw [List.mem_range] at hm
  have e : ∀ i, 44 ≤ i → i < 284 → adP P5 i = ad9 L P5 i := fun i h1 h2 => by
    show _ = if _ then _ else _
    rw [if_neg (by omega), if_pos h2]
  rw [gc_cg (a' := ad9 L P5) (fun i hi => e _ (by omega) (by omega)), e (44 + m) (by omega) (by omega)]
  congr 1
set_option maxHeartbeats 4000000 in
theorem list9 {g : Gs} {b q5 q7 q6 q0 q8 q1 q4 q3 qd ql qg : Nat} {P5 P7 P6 P0 P8 P1 P4 P3 : Mem} :
    (([0, 1, 9, 11, 27, 28, 32, 37, 39, 41, 42, 43, 2, 3, 4, 5, 6, 7, 8, 10, 12, 13, 14, 15, 16, 17, 18, 19, 20, 21, 22, 23, 24, 25, 26, 29, 30, 31, 33, 34, 35, 36, 38, 40] : List Nat).filterMap (fun i => ((b, .inr (9, rf9 (ad9 (ad9L b q5 q7 q6 q0 q8 q1 q4 q3 qd ql qg P5 P7 P6 P8 P1 P4 P3) P5))) :: (sh8 g q5 (adP P5) (fun j => some (adP P5 (15 + j))) (fun j => some (adP P5 (44 + 6 * j))) ++ made9 g b q5 q7 q6 q0 q8 q1 q4 q3 qd ql qg P5 P7 P6 P0 P8 P1 P4 P3) : va_W)[i]?)) = (((stX g (ad9 (ad9L b q5 q7 q6 q0 q8 q1 q4 q3 qd ql qg P5 P7 P6 P8 P1 P4 P3) P5) (Mi9 (P6 1 5).toNat (P6 1 6).toNat)).set 12 (adP P5 12, .inl (g.2.2.2.2.2.1, 40, .inr (.inr (.inr (.inr (fun j => some (adP P5 (44 + 6 * j)))))))) |>.set 14 (adP P5 14, .inl (g.2.2.2.2.2.2, 2, .inr (.inr (.inr (.inr (fun j => some (adP P5 (15 + j)))))))) ) |>.set 20 ((P6 1 0).toNat, .inl (g.2.2.2.2.2.2, 4, .inr (.inr (.inr (.inr (fun i => if i < 4 then some ((P6 2 (i : Nat)).toNat) else none))))))).set 25 ((P6 1 1).toNat, .inl (g.2.2.2.2.2.2, 4, .inr (.inr (.inr (.inr (fun i => if i < 4 then some ((P6 3 (i : Nat)).toNat) else none)))))) := by
  rfl
theorem e_eqW {g : Gs} {KK : (Nat → Prop) → State → Prop} {X : Cx} {k n : Nat} {M : Mem} {pc : Nat} {lv : List (Nat × Value)} {st : List Value} {ws ws' : va_W} (h : ws = ws') (kk : E (wV g KK ws') X k n M pc lv st) : E (wV g KK ws) X k n M pc lv st := h ▸ kk
set_option maxHeartbeats 2000000 in
/-- the cells that have been made are the class's world -/
theorem world9 {g : Gs} {KK : (Nat → Prop) → State → Prop} {X : Cx} {k n : Nat} {M : Mem} {pc : Nat} {lv : List (Nat × Value)} {st : List Value} {b q5 q7 q6 q0 q8 q1 q4 q3 qd ql qg : Nat} {P5 P7 P6 P0 P8 P1 P4 P3 : Mem}
    (kk : E (wV g KK (wlX g (ad9 (ad9L b q5 q7 q6 q0 q8 q1 q4 q3 qd ql qg P5 P7 P6 P8 P1 P4 P3) P5) (Mi9 (P6 1 5).toNat (P6 1 6).toNat))) X k n M pc lv st) : E (wV g KK ((b, .inr (9, rf9 (ad9 (ad9L b q5 q7 q6 q0 q8 q1 q4 q3 qd ql qg P5 P7 P6 P8 P1 P4 P3) P5))) :: (wiX5 g q5 P5 ++ made9 g b q5 q7 q6 q0 q8 q1 q4 q3 qd ql qg P5 P7 P6 P0 P8 P1 P4 P3))) X k n M pc lv st := by
  have p1 : ((b, .inr (9, rf9 (ad9 (ad9L b q5 q7 q6 q0 q8 q1 q4 q3 qd ql qg P5 P7 P6 P8 P1 P4 P3) P5))) :: (wiX5 g q5 P5 ++ made9 g b q5 q7 q6 q0 q8 q1 q4 q3 qd ql qg P5 P7 P6 P0 P8 P1 P4 P3) : va_W).Perm ((((b, .inr (9, rf9 (ad9 (ad9L b q5 q7 q6 q0 q8 q1 q4 q3 qd ql qg P5 P7 P6 P8 P1 P4 P3) P5))) :: (sh8 g q5 (adP P5) (fun j => some (adP P5 (15 + j))) (fun j => some (adP P5 (44 + 6 * j))) ++ made9 g b q5 q7 q6 q0 q8 q1 q4 q3 qd ql qg P5 P7 P6 P0 P8 P1 P4 P3) : va_W)) ++ gmL g (adP P5) 240) := by
    show ((b, .inr (9, rf9 (ad9 (ad9L b q5 q7 q6 q0 q8 q1 q4 q3 qd ql qg P5 P7 P6 P8 P1 P4 P3) P5))) :: ((sh8 g q5 (adP P5) (fun j => some (adP P5 (15 + j))) (fun j => some (adP P5 (44 + 6 * j))) ++ gmL g (adP P5) 240) ++ made9 g b q5 q7 q6 q0 q8 q1 q4 q3 qd ql qg P5 P7 P6 P0 P8 P1 P4 P3) : va_W).Perm ((b, .inr (9, rf9 (ad9 (ad9L b q5 q7 q6 q0 q8 q1 q4 q3 qd ql qg P5 P7 P6 P8 P1 P4 P3) P5))) :: ((sh8 g q5 (adP P5) (fun j => some (adP P5 (15 + j))) (fun j => some (adP P5 (44 + 6 * j))) ++ made9 g b q5 q7 q6 q0 q8 q1 q4 q3 qd ql qg P5 P7 P6 P0 P8 P1 P4 P3) ++ gmL g (adP P5) 240))
    refine List.Perm.cons _ ?_
    rw [List.append_assoc, List.append_assoc]
    exact List.Perm.append_left _ List.perm_append_comm
  refine e_perm (M := M) p1 ?_
  refine e_perm (M := M) (List.Perm.append_right _ (perm_ix _ [0, 1, 9, 11, 27, 28, 32, 37, 39, 41, 42, 43, 2, 3, 4, 5, 6, 7, 8, 10, 12, 13, 14, 15, 16, 17, 18, 19, 20, 21, 22, 23, 24, 25, 26, 29, 30, 31, 33, 34, 35, 36, 38, 40] (by show List.Perm _ (List.range 44); decide))) ?_
  rw [list9, gm9 (L := (ad9L b q5 q7 q6 q0 q8 q1 q4 q3 qd ql qg P5 P7 P6 P8 P1 P4 P3)) (p := (P6 1 5).toNat) (q := (P6 1 6).toNat)]
  refine e_cell (q0 := 12) (a := adP P5 12) (c' := .inl (g.2.2.2.2.2.1, 40, .inr (.inr (.inr (.inr (fun j => some ((ad9 (ad9L b q5 q7 q6 q0 q8 q1 q4 q3 qd ql qg P5 P7 P6 P8 P1 P4 P3) P5) (44 + 6 * j)))))))) rfl (fun D cl H hq => at_rf (fun i hi => by
    show some (adP P5 (44 + 6 * i)) = some (if _ then _ else _)
    rw [if_neg (by omega), if_pos (by omega)]) hq) ?_
  refine e_cell (q0 := 14) (a := adP P5 14) (c' := .inl (g.2.2.2.2.2.2, 2, .inr (.inr (.inr (.inr (fun j => some ((ad9 (ad9L b q5 q7 q6 q0 q8 q1 q4 q3 qd ql qg P5 P7 P6 P8 P1 P4 P3) P5) (15 + j)))))))) rfl (fun D cl H hq => at_rf (fun i hi => by
    rcases (show i = 0 ∨ i = 1 by omega) with rfl | rfl <;> rfl) hq) ?_
  refine e_cell (q0 := 20) (a := (P6 1 0).toNat) (c' := .inl (g.2.2.2.2.2.2, 4, .inr (.inr (.inr (.inr (fun j => some ((ad9 (ad9L b q5 q7 q6 q0 q8 q1 q4 q3 qd ql qg P5 P7 P6 P8 P1 P4 P3) P5) (21 + j)))))))) rfl (fun D cl H hq => at_rf (fun i hi => by
    rcases (show i = 0 ∨ i = 1 ∨ i = 2 ∨ i = 3 by omega) with rfl | rfl | rfl | rfl <;> rfl) hq) ?_
  refine e_cell (q0 := 25) (a := (P6 1 1).toNat) (c' := .inl (g.2.2.2.2.2.2, 4, .inr (.inr (.inr (.inr (fun j => some ((ad9 (ad9L b q5 q7 q6 q0 q8 q1 q4 q3 qd ql qg P5 P7 P6 P8 P1 P4 P3) P5) (26 + j)))))))) rfl (fun D cl H hq => at_rf (fun i hi => by
    rcases (show i = 0 ∨ i = 1 ∨ i = 2 ∨ i = 3 by omega) with rfl | rfl | rfl | rfl <;> rfl) hq) ?_
  exact kk
