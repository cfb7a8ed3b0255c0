/-! ===== the shelf's constructor ===== -/
section CELL
variable {g : Gs} {KK : (Nat → Prop) → State → Prop} {X : Cx} {k n : Nat} {M : Mem} {pc : Nat} {lv : List (Nat × Value)} {st : List Value} {ws : va_W}
/-- a cell read otherwise -/
theorem e_cell {q0 a : Nat} {c c' : va_E} (he : ws[q0]? = some (a, c)) (hc : ∀ D cl H, va_at D cl (a, c) H → va_at D cl (a, c') H) (h : E (wV g KK (ws.set q0 (a, c'))) X k n M pc lv st) : E (wV g KK ws) X k n M pc lv st := by
  obtain ⟨p, l, e, R, s, m, args, below, meth, c9, A, Q, nL9⟩ := X
  intro hw H locs ls hP hD hS hl
  refine h trivial H locs ls ?_ ?_ hS hl
  · intro j q hj
    rw [List.getElem?_set] at hj
    by_cases e9 : q0 = j
    · subst e9
      rw [if_pos rfl] at hj
      have hlt := (List.getElem?_eq_some_iff.mp he).1
      rw [if_pos hlt] at hj
      cases hj
      exact hc _ _ _ (hP q0 _ he)
    · rw [if_neg e9] at hj
      exact hP j q hj
  · refine va_D.of ?_ (fun q hq => ?_)
    · have e1 : (ws.set q0 (a, c')).map Prod.fst = ws.map Prod.fst := by
        apply List.ext_getElem?
        intro j
        rw [List.getElem?_map, List.getElem?_map, List.getElem?_set]
        by_cases e9 : q0 = j
        · subst e9
          rw [if_pos rfl, if_pos (List.getElem?_eq_some_iff.mp he).1, he]
          rfl
        · rw [if_neg e9]
      rw [e1]
      exact hD.nd
    · rcases List.mem_or_eq_of_mem_set hq with h9 | h9
      · exact hD.mem q h9
      · subst h9
        exact hD.mem (a, c) (List.mem_of_getElem? he)
theorem arrV_cg {cI : ClassId} {N : Nat} {f f' : Nat → Value} (h : ∀ i, i < N → f i = f' i) : arrV cI N f = arrV cI N f' := by
  unfold arrV
  congr 2
  funext j
  exact h j.val j.isLt
theorem at_rf {D : va_G} {cl : List vw_C} {H : Heap} {a N : Nat} {cA : ClassId} {f f' : Nat → Option Nat} (h : ∀ i, i < N → f i = f' i) (hq : va_at D cl (a, .inl (cA, N, .inr (.inr (.inr (.inr f))))) H) : va_at D cl (a, .inl (cA, N, .inr (.inr (.inr (.inr f'))))) H := by
  have e : arrV cA N (fun j => va_rf (f j)) = arrV cA N (fun j => va_rf (f' j)) := arrV_cg (fun i hi => by rw [h i hi])
  show H[a]? = some (arrV cA N (fun j => va_rf (f' j)))
  rw [← e]
  exact hq
end CELL
def dfX5 : List Value := [.null, vI 0, .null, .null, .null, .null]
def sh8 (g : Gs) (b : Nat) (a : Nat → Nat) (h f : Nat → Option Nat) : va_W := [(b, .inr (5, [.ref (a 12), vI 0, .ref (a 13), .ref (a 14), .ref (a 17), .ref (a 18)])), (a 12, .inl (g.2.2.2.2.2.1, 40, .inr (.inr (.inr (.inr f))))), (a 13, .inl (g.2.2.1, 40, .inr (.inl (fun _ => i64 0)))), (a 14, .inl (g.2.2.2.2.2.2, 2, .inr (.inr (.inr (.inr h))))), (a 15, .inl (g.2.1, 40, .inl (fun _ => i32 0))), (a 16, .inl (g.2.1, 40, .inl (fun _ => i32 0))), (a 17, .inl (g.2.1, 2, .inl (fun _ => i32 0))), (a 18, .inl (g.2.2.2.1, 2, .inl (fun _ => i32 0)))]
def gmL (g : Gs) (a : Nat → Nat) (n : Nat) : va_W := (List.range n).map (fun m => (a (44 + m), gcX g a M0 m))
def wiX5 (g : Gs) (b : Nat) (P : Mem) : va_W := sh8 g b (adP P) (fun j => some (adP P (15 + j))) (fun j => some (adP P (44 + 6 * j))) ++ gmL g (adP P) 240
abbrev wNX5 (g : Gs) (sk : (Nat → Nat) × (Nat → Nat)) (b : Nat) : Wd := (g.1, tysG g, fun M => if M 0 0 = 0 then [(b, .inr (5, dfX5))] else wiX5 g b M, fun _ => True, KI sk)
theorem mi_X5_init : MI yX5_init cX5_init 2 none 0 := ⟨⟨tg1 37 rfl rfl, tg1 2 rfl rfl⟩, ⟨by decide +kernel, by decide +kernel⟩, by decide, by decide +kernel⟩
theorem gc_cg {g : Gs} {a a' : Nat → Nat} {m : Nat} (h : ∀ i, i < 6 → a (44 + 6 * (m / 6) + i) = a' (44 + 6 * (m / 6) + i)) : gcX g a M0 m = gcX g a' M0 m := by
  unfold gcX
  split
  · congr 2
    unfold fsG
    rw [Int.toNat_natCast, h 1 (by decide), h 2 (by decide), h 3 (by decide), h 4 (by decide), h 5 (by decide)]
  · rfl
theorem gmL_cg {g : Gs} {a a' : Nat → Nat} {j : Nat} (h : ∀ i, i < 6 * j → a (44 + i) = a' (44 + i)) : gmL g a (6 * j) = gmL g a' (6 * j) := by
  unfold gmL
  apply List.map_congr_left
  intro m hm
  rw [List.mem_range] at hm
  rw [h m hm, gc_cg (a' := a') (fun i hi => by rw [Nat.add_assoc]; exact h _ (by omega))]
/-- six cells more -/
theorem gmL_six {g : Gs} {a : Nat → Nat} {j : Nat} : gmL g a (6 * j + 6) = gmL g a (6 * j) ++ [(a (44 + 6 * j), gcX g a M0 (6 * j)), (a (44 + (6 * j + 1)), gcX g a M0 (6 * j + 1)), (a (44 + (6 * j + 2)), gcX g a M0 (6 * j + 2)), (a (44 + (6 * j + 3)), gcX g a M0 (6 * j + 3)), (a (44 + (6 * j + 4)), gcX g a M0 (6 * j + 4)), (a (44 + (6 * j + 5)), gcX g a M0 (6 * j + 5))] := by
  unfold gmL
  rw [List.range_add, List.map_append]
  rfl
theorem gmL_new {g : Gs} {a a' : Nat → Nat} {P : Mem} {b j : Nat} (hj : j < 40) (h : ∀ i, i < 6 * j → a (44 + i) = a' (44 + i)) (hb : a' (44 + 6 * j) = b) (h1 : ∀ i : Nat, i < 5 → a' (44 + (6 * j + (i + 1))) = (P 1 (i : Int)).toNat) : gmL g a (6 * j) ++ wiX2 g b P = gmL g a' (6 * (j + 1)) := by
  rw [Nat.mul_succ, gmL_six, gmL_cg h]
  congr 1
  have hz : 0 ≤ (j : Int) ∧ (j : Int) < 40 := by omega
  have e0 := gc_0 (g := g) (ad := a') (M := M0) hz
  have e1 := gc_1 (g := g) (ad := a') (M := M0) hz
  have e2 := gc_2 (g := g) (ad := a') (M := M0) hz
  have e3 := gc_3 (g := g) (ad := a') (M := M0) hz
  have e4 := gc_4 (g := g) (ad := a') (M := M0) hz
  have e5 := gc_5 (g := g) (ad := a') (M := M0) hz
  rw [Int.toNat_natCast] at e0 e1 e2 e3 e4 e5
  rw [e0, e1, e2, e3, e4, e5, hb, h1 0 (by decide), h1 1 (by decide), h1 2 (by decide), h1 3 (by decide), h1 4 (by decide)]
  unfold fsG
  rw [Int.toNat_natCast, Nat.add_assoc 44, Nat.add_assoc 44, Nat.add_assoc 44, Nat.add_assoc 44, Nat.add_assoc 44, h1 0 (by decide), h1 1 (by decide), h1 2 (by decide), h1 3 (by decide), h1 4 (by decide)]
  rfl
set_option maxHeartbeats 1000000 in
theorem c5_loop {g : Gs} {sk : (Nat → Nat) × (Nat → Nat)} {X : Cx} {mc ms k0 n0 b : Nat} {a0 : Nat → Nat} {h0 : Nat → Option Nat} (CC : ∀ ws, OkB (wV g (KI sk) ws) X cX5_init RX5 2 2 mc ms) (hst : (lnc X).stackTraces = false) (hk : k0 + 240 ≤ mc) (hn : n0 + 1200 ≤ ms) (kk : ∀ a f, (∀ i, i < 40 → f i = some (a (44 + 6 * i))) → E (wV g (KI sk) (sh8 g b a0 h0 f ++ gmL g a 240)) X (k0 + 240) (n0 + 1200) M0 78 [(0, .ref b)] []) :
    ∀ (r j : Nat) (a : Nat → Nat) (f : Nat → Option Nat), r + j = 40 → (∀ i, i < j → f i = some (a (44 + 6 * i))) → E (wV g (KI sk) (sh8 g b a0 h0 f ++ gmL g a (6 * j))) X (k0 + 6 * j) (n0 + 30 * j) M0 53 [(1, vI (j : Int)), (0, .ref b)] [] := by
  intro r
  induction r with
  | zero =>
    intro j a f hr hf
    obtain rfl : j = 40 := by omega
    refine e_iload_n (CC _) 0 dX5_init_53 rfl ?_
    refine e_bipush (CC _) dX5_init_54 (by decide) ?_
    refine e_icmp_ge (CC _) 78 (by decide) (by decide) dX5_init_56 (by decide) (fun _ => ?_) (fun h => absurd h (by decide))
    exact e_sub [1] rfl (kk a f hf)
  | succ r ih =>
    intro j a f hr hf
    refine e_iload_n (CC _) 0 dX5_init_53 rfl ?_
    refine e_bipush (CC _) dX5_init_54 (by decide) ?_
    refine e_icmp_ge (CC _) 78 (by omega) (by decide) dX5_init_56 (by decide) (fun h => absurd h (by omega)) (fun _ => ?_)
    refine e_aload_n (CC _) 1 dX5_init_59 rfl ?_
    refine e_get (q0 := 0) (ci := 5) (kf := 0) (T := TX5) (N := 6) (CC _) inG5 rfl rfl (by decide) (tg1 130 rfl rfl) rfl dX5_init_60 ?_
    refine e_iload_n (CC _) 0 dX5_init_63 rfl ?_
    refine v_new (ci := 2) (fs := dfX2) (T := TX2) (N := 14) (CC _) inG2 tyX2 tyX2_ok (tg1 39 rfl rfl) (tg1 43 rfl rfl) (tg1 3 rfl rfl) rfl (by decide +kernel) (by omega) (by omega) dX5_init_64 (fun q => ?_)
    refine e_dup (CC _) rfl dX5_init_67 ?_
    refine v_ctor (w := wNX2 g sk q) (ws := sh8 g b a0 h0 f ++ gmL g a (6 * j)) (As := []) (rest := [.ref q, vI (j : Int), .ref (a0 12)]) (PQ := fun _ _ => True) (PX := NoX) (ret := none) (CC _) (Or.inr hst) rfl rfl rfl trivial mi_X2_init rfl (tg1 45 rfl rfl) (Or.inr ⟨"HotGames", by decide +kernel⟩) ci_X2 (by decide) (Nat.le_of_ble_eq_true rfl) (by omega) (by omega) dX5_init_68 rfl (fun P hP => ?_) (fun v M1 h => h.1)
    have eP : (wNX2 g sk q).2.2.1 P = wiX2 g q P := if_neg (by rw [hP.2]; decide)
    rw [eP]
    have hlen : (sh8 g b a0 h0 f ++ gmL g a (6 * j)).length = 8 + 6 * j := by
      rw [List.length_append, gmL, List.length_map, List.length_range]; rfl
    refine v_aast (q0 := 1) (qk := 8 + 6 * j) (f := f) (CC _) rfl (by rw [List.getElem?_append_right (by omega), hlen, Nat.sub_self]; rfl) (by omega) dX5_init_71 ?_
    refine e_iinc (CC _) 0 dX5_init_72 rfl (by decide) rfl ?_
    refine e_goto (CC _) 53 dX5_init_75 (by decide) ?_
    let a' : Nat → Nat := fun i => if i < 44 + 6 * j then a i else if i = 44 + 6 * j then q else (P 1 ((i - (44 + 6 * j) - 1 : Nat) : Int)).toNat
    have ea : ∀ i, i < 6 * j → a (44 + i) = a' (44 + i) := fun i hi => (if_pos (by omega)).symm
    have eb : a' (44 + 6 * j) = q := by show (if _ then _ else _) = _; rw [if_neg (by omega), if_pos rfl]
    have ec : ∀ i : Nat, i < 5 → a' (44 + (6 * j + (i + 1))) = (P 1 (i : Int)).toNat := fun i hi => by
      show (if _ then _ else _) = _
      rw [if_neg (by omega), if_neg (by omega)]
      congr 3
      omega
    have key := ih (j + 1) a' (va_up f j (some q)) (by omega) (fun i hi => by
      unfold va_up
      by_cases e : i = j
      · subst e; rw [if_pos rfl, eb]
      · rw [if_neg e, hf i (by omega), ea _ (by omega)])
    rw [← gmL_new (by omega) ea eb ec, ← List.append_assoc] at key
    exact key
set_option maxHeartbeats 1000000 in
theorem ci_X5 {g : Gs} {sk : (Nat → Nat) × (Nat → Nat)} {b : Nat} : ∀ l : Launch, l.stackTraces = false → Ct (wNX5 g sk b) l yX5_init cX5_init 2 none 2 247 1366 [.ref b] M0 (fun v M1 => v = none ∧ M1 0 0 = 1) NoX := by
  intro l9 hl9
  refine ct_ofI hl9 mi_X5_init.2.2.2 (Nat.le_of_ble_eq_true rfl) (fun X hX hnm C Y => ?_)
  have CC : ∀ ws, OkB (wV g (KI sk) ws) X cX5_init RX5 2 2 247 1366 := fun ws => okB_ws rfl rfl rfl C
  have hst : (lnc X).stackTraces = false := by rw [hX]; exact hl9
  show E (wNX5 g sk b) X 0 0 M0 0 [(0, .ref b)] []
  refine e_cv (w' := wV g (KI sk) [(b, .inr (5, dfX5))]) (M' := M0) rfl rfl (fun _ => trivial) ?_
  refine e_aload_n (CC _) 0 dX5_init_0 rfl ?_
  refine v_oinit (CC _) (tg1 38 rfl rfl) (by decide) dX5_init_1 ?_
  refine e_aload_n (CC _) 0 dX5_init_4 rfl ?_
  refine e_bipush (CC _) dX5_init_5 (by decide) ?_
  refine v_newq (CC _) (by omega) (by omega) dX5_init_7 (fun q0 => ?_)
  refine v_put (kf := 0) (ci := 5) (q0 := 0) (CC _) inG5 tyX5 tyX5_ok nmX5 rfl rfl (by decide) (tg1 130 rfl rfl) (Or.inr ⟨rfl, hnm, rfl⟩) rfl rfl rfl (Nat.le_of_ble_eq_true rfl) dX5_init_10 ?_
  refine e_aload_n (CC _) 0 dX5_init_13 rfl ?_
  refine e_iconst (CC _) dX5_init_14 ?_
  refine v_put (kf := 1) (ci := 5) (q0 := 0) (CC _) inG5 tyX5 tyX5_ok nmX5 rfl rfl (by decide) (tg1 136 rfl rfl) (Or.inl rfl) rfl rfl rfl (Nat.le_of_ble_eq_true rfl) dX5_init_15 ?_
  refine e_aload_n (CC _) 0 dX5_init_18 rfl ?_
  refine e_bipush (CC _) dX5_init_19 (by decide) ?_
  refine v_newJ (N := 40) (CC _) (by decide) (by omega) (by omega) dX5_init_21 (fun q1 => ?_)
  refine v_put (kf := 2) (ci := 5) (q0 := 0) (CC _) inG5 tyX5 tyX5_ok nmX5 rfl rfl (by decide) (tg1 138 rfl rfl) (Or.inr ⟨rfl, hnm, rfl⟩) rfl rfl rfl (Nat.le_of_ble_eq_true rfl) dX5_init_23 ?_
  refine e_aload_n (CC _) 0 dX5_init_26 rfl ?_
  refine e_iconst (CC _) dX5_init_27 ?_
  refine e_bipush (CC _) dX5_init_28 (by decide) ?_
  refine v_mna (N := 2) (K := 40) (CC _) (tg1 41 rfl rfl) (by decide) (by decide) (by omega) (by omega) dX5_init_30 (fun q2 r => ?_)
  refine v_put (kf := 3) (ci := 5) (q0 := 0) (CC _) inG5 tyX5 tyX5_ok nmX5 rfl rfl (by decide) (tg1 139 rfl rfl) (Or.inr ⟨rfl, hnm, rfl⟩) rfl rfl rfl (Nat.le_of_ble_eq_true rfl) dX5_init_34 ?_
  refine e_aload_n (CC _) 0 dX5_init_37 rfl ?_
  refine e_iconst (CC _) dX5_init_38 ?_
  refine v_newI (N := 2) (CC _) (by decide) (by omega) (by omega) dX5_init_39 (fun q3 => ?_)
  refine v_put (kf := 4) (ci := 5) (q0 := 0) (CC _) inG5 tyX5 tyX5_ok nmX5 rfl rfl (by decide) (tg1 140 rfl rfl) (Or.inr ⟨rfl, hnm, rfl⟩) rfl rfl rfl (Nat.le_of_ble_eq_true rfl) dX5_init_41 ?_
  refine e_aload_n (CC _) 0 dX5_init_44 rfl ?_
  refine e_iconst (CC _) dX5_init_45 ?_
  refine v_newZ (N := 2) (CC _) (by decide) (by omega) (by omega) dX5_init_46 (fun q4 => ?_)
  refine v_put (kf := 5) (ci := 5) (q0 := 0) (CC _) inG5 tyX5 tyX5_ok nmX5 rfl rfl (by decide) (tg1 141 rfl rfl) (Or.inr ⟨rfl, hnm, rfl⟩) rfl rfl rfl (Nat.le_of_ble_eq_true rfl) dX5_init_48 ?_
  refine e_iconst (CC _) dX5_init_51 ?_
  refine e_istore_n (CC _) dX5_init_52 (by decide) rfl ?_
  let a0 : Nat → Nat := fun k => ([0, 0, 0, 0, 0, 0, 0, 0, 0, 0, 0, 0, q0, q1, q2, r 0, r 1, q3, q4] : List Nat).getD k 0
  refine e_cv (w' := wV g (KI sk) (sh8 g b a0 (fun i => if i < 2 then some (r i) else none) (fun _ => none) ++ gmL g a0 (6 * 0))) (M' := M0) rfl rfl (fun _ => trivial) ?_
  refine c5_loop (k0 := 7) (n0 := 166) CC hst (Nat.le_refl _) (Nat.le_refl _) (fun a f hf => ?_) 40 0 a0 (fun _ => none) rfl (fun i hi => absurd hi (Nat.not_lt_zero i))
  let P : Mem := fun c i => if c = 0 then 1 else if c = 1 then ((if i < 44 then a0 i.toNat else a i.toNat : Nat) : Int) else 0
  have e44 : ∀ m, adP P (44 + m) = a (44 + m) := fun m => by
    show (((if ((44 + m : Nat) : Int) < 44 then a0 ((44 + m : Nat) : Int).toNat else a ((44 + m : Nat) : Int).toNat : Nat) : Int)).toNat = _
    rw [if_neg (by omega), Int.toNat_natCast, Int.toNat_natCast]
  refine e_cell (q0 := 1) (a := a0 12) (c' := .inl (g.2.2.2.2.2.1, 40, .inr (.inr (.inr (.inr (fun j => some (adP P (44 + 6 * j)))))))) rfl (fun D cl H hq => at_rf (fun i hi => by rw [hf i hi, e44]) hq) ?_
  refine e_cell (q0 := 3) (a := a0 14) (c' := .inl (g.2.2.2.2.2.2, 2, .inr (.inr (.inr (.inr (fun j => some (adP P (15 + j)))))))) rfl (fun D cl H hq => at_rf (fun i hi => by
    rcases (show i = 0 ∨ i = 1 by omega) with rfl | rfl <;> rfl) hq) ?_
  have eg : gmL g a 240 = gmL g (adP P) 240 := gmL_cg (j := 40) (fun i _ => (e44 i).symm)
  have ew : ((sh8 g b a0 (fun i => if i < 2 then some (r i) else none) f ++ gmL g a 240).set 1 (a0 12, .inl (g.2.2.2.2.2.1, 40, .inr (.inr (.inr (.inr (fun j => some (adP P (44 + 6 * j))))))))).set 3 (a0 14, .inl (g.2.2.2.2.2.2, 2, .inr (.inr (.inr (.inr (fun j => some (adP P (15 + j)))))))) = wiX5 g b P := by
    rw [eg]
    rfl
  exact e_cv (w' := wNX5 g sk b) (M' := P) rfl ew (fun _ => trivial) (e_vret C Y (by decide) (by decide) dX5_init_78 ⟨rfl, rfl⟩)
