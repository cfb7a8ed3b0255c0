/-! ===== constructors of the small classes ===== -/
def dfX7 : List Value := [.null, vI 0]
def wiX7 (g : Gs) (b : Nat) (M : Mem) : va_W := (b, .inr (7, [.ref (M 1 0).toNat, vI 0])) :: [((M 1 0).toNat, .inl (g.2.1, 4, .inl (fun _ => i32 0)))]
abbrev wNX7 (g : Gs) (sk : (Nat → Nat) × (Nat → Nat)) (b : Nat) : Wd := (g.1, tysG g, fun M => if M 0 0 = 0 then [(b, .inr (7, dfX7))] else wiX7 g b M, fun _ => True, KI sk)
theorem mi_X7_init : MI yX7_init cX7_init 1 none 0 := ⟨⟨tg1 159 rfl rfl, tg1 4 rfl rfl⟩, ⟨by decide +kernel, by decide +kernel⟩, by decide, by decide +kernel⟩
theorem ci_X7 {g : Gs} {sk : (Nat → Nat) × (Nat → Nat)} {b : Nat} : ∀ l : Launch, l.stackTraces = false → Ct (wNX7 g sk b) l yX7_init cX7_init 1 none 1 1 4 [.ref b] M0 (fun v M1 => v = none ∧ M1 0 0 = 1) NoX := by
  intro l9 hl9
  refine ct_ofI hl9 mi_X7_init.2.2.2 (Nat.le_of_ble_eq_true rfl) (fun X _ hnm C Y => ?_)
  have CC : ∀ ws, OkB (wV g (KI sk) ws) X cX7_init RX7 1 1 1 4 := fun ws => okB_ws rfl rfl rfl C
  show E (wNX7 g sk b) X 0 0 M0 0 [(0, .ref b)] []
  refine e_cv (w' := wV g (KI sk) [(b, .inr (7, dfX7))]) (M' := M0) rfl rfl (fun _ => trivial) ?_
  refine e_aload_n (CC _) 0 dX7_init_0 rfl ?_
  refine v_oinit (CC _) (tg1 160 rfl rfl) (by decide) dX7_init_1 ?_
  refine e_aload_n (CC _) 0 dX7_init_4 rfl ?_
  refine e_iconst (CC _) dX7_init_5 ?_
  refine v_newI (N := 4) (CC _) (by decide) (by omega) (by omega) dX7_init_6 (fun q0 => ?_)
  refine v_put (kf := 0) (ci := 7) (q0 := 0) (CC _) inG7 tyX7 tyX7_ok nmX7 rfl rfl (by decide) (tg1 161 rfl rfl) (Or.inr ⟨rfl, hnm, rfl⟩) rfl rfl rfl (Nat.le_of_ble_eq_true rfl) dX7_init_8 ?_
  refine e_aload_n (CC _) 0 dX7_init_11 rfl ?_
  refine e_iconst (CC _) dX7_init_12 ?_
  refine v_put (kf := 1) (ci := 7) (q0 := 0) (CC _) inG7 tyX7 tyX7_ok nmX7 rfl rfl (by decide) (tg1 164 rfl rfl) (Or.inl rfl) rfl rfl rfl (Nat.le_of_ble_eq_true rfl) dX7_init_13 ?_
  exact e_cv (w' := wNX7 g sk b) (M' := fun c i => if c = 0 then 1 else if c = 1 then (([q0] : List Nat).getD i.toNat 0 : Nat) else 0) rfl rfl (fun _ => trivial) (e_vret C Y (by decide) (by decide) dX7_init_16 ⟨rfl, rfl⟩)
def dfX3 : List Value := [vI 0, .null]
def wiX3 (g : Gs) (b : Nat) (M : Mem) : va_W := (b, .inr (3, [vI 0, .ref (M 1 0).toNat])) :: [((M 1 0).toNat, .inl (g.2.1, 36, .inl (fun _ => i32 0)))]
abbrev wNX3 (g : Gs) (sk : (Nat → Nat) × (Nat → Nat)) (b : Nat) : Wd := (g.1, tysG g, fun M => if M 0 0 = 0 then [(b, .inr (3, dfX3))] else wiX3 g b M, fun _ => True, KI sk)
theorem mi_X3_init : MI yX3_init cX3_init 1 none 0 := ⟨⟨tg2 65 rfl rfl, tg1 10 rfl rfl⟩, ⟨by decide +kernel, by decide +kernel⟩, by decide, by decide +kernel⟩
theorem ci_X3 {g : Gs} {sk : (Nat → Nat) × (Nat → Nat)} {b : Nat} : ∀ l : Launch, l.stackTraces = false → Ct (wNX3 g sk b) l yX3_init cX3_init 1 none 1 1 36 [.ref b] M0 (fun v M1 => v = none ∧ M1 0 0 = 1) NoX := by
  intro l9 hl9
  refine ct_ofI hl9 mi_X3_init.2.2.2 (Nat.le_of_ble_eq_true rfl) (fun X _ hnm C Y => ?_)
  have CC : ∀ ws, OkB (wV g (KI sk) ws) X cX3_init RX3 1 1 1 36 := fun ws => okB_ws rfl rfl rfl C
  show E (wNX3 g sk b) X 0 0 M0 0 [(0, .ref b)] []
  refine e_cv (w' := wV g (KI sk) [(b, .inr (3, dfX3))]) (M' := M0) rfl rfl (fun _ => trivial) ?_
  refine e_aload_n (CC _) 0 dX3_init_0 rfl ?_
  refine v_oinit (CC _) (tg2 66 rfl rfl) (by decide) dX3_init_1 ?_
  refine e_aload_n (CC _) 0 dX3_init_4 rfl ?_
  refine e_iconst (CC _) dX3_init_5 ?_
  refine v_put (kf := 0) (ci := 3) (q0 := 0) (CC _) inG3 tyX3 tyX3_ok nmX3 rfl rfl (by decide) (tg2 67 rfl rfl) (Or.inl rfl) rfl rfl rfl (Nat.le_of_ble_eq_true rfl) dX3_init_6 ?_
  refine e_aload_n (CC _) 0 dX3_init_9 rfl ?_
  refine e_bipush (CC _) dX3_init_10 (by decide) ?_
  refine v_newI (N := 36) (CC _) (by decide) (by omega) (by omega) dX3_init_12 (fun q0 => ?_)
  refine v_put (kf := 1) (ci := 3) (q0 := 0) (CC _) inG3 tyX3 tyX3_ok nmX3 rfl rfl (by decide) (tg2 69 rfl rfl) (Or.inr ⟨rfl, hnm, rfl⟩) rfl rfl rfl (Nat.le_of_ble_eq_true rfl) dX3_init_14 ?_
  exact e_cv (w' := wNX3 g sk b) (M' := fun c i => if c = 0 then 1 else if c = 1 then (([q0] : List Nat).getD i.toNat 0 : Nat) else 0) rfl rfl (fun _ => trivial) (e_vret C Y (by decide) (by decide) dX3_init_17 ⟨rfl, rfl⟩)
def dfX0 : List Value := [.null, .null]
def wiX0 (g : Gs) (b : Nat) (a1 : Nat) (a2 : Nat) (M : Mem) : va_W := (b, .inr (0, [.ref a1, .ref a2])) :: []
abbrev wNX0 (g : Gs) (sk : (Nat → Nat) × (Nat → Nat)) (b : Nat) (a1 : Nat) (a2 : Nat) : Wd := (g.1, tysG g, fun M => if M 0 0 = 0 then [(b, .inr (0, dfX0))] else wiX0 g b a1 a2 M, fun _ => True, KI sk)
theorem mi_X0_init : MI yX0_init cX0_init 3 none 2 := ⟨⟨tg1 208 rfl rfl, tg1 6 rfl rfl⟩, ⟨by decide +kernel, by decide +kernel⟩, by decide, by decide +kernel⟩
theorem ci_X0 {g : Gs} {sk : (Nat → Nat) × (Nat → Nat)} {b a1 a2 : Nat} : ∀ l : Launch, l.stackTraces = false → Ct (wNX0 g sk b a1 a2) l yX0_init cX0_init 3 none 1 0 0 [.ref b, .ref a1, .ref a2] M0 (fun v M1 => v = none ∧ M1 0 0 = 1) NoX := by
  intro l9 hl9
  refine ct_ofI hl9 mi_X0_init.2.2.2 (Nat.le_of_ble_eq_true rfl) (fun X _ hnm C Y => ?_)
  have CC : ∀ ws, OkB (wV g (KI sk) ws) X cX0_init RX0 3 1 0 0 := fun ws => okB_ws rfl rfl rfl C
  show E (wNX0 g sk b a1 a2) X 0 0 M0 0 [(0, .ref b), (1, .ref a1), (2, .ref a2)] []
  refine e_cv (w' := wV g (KI sk) [(b, .inr (0, dfX0))]) (M' := M0) rfl rfl (fun _ => trivial) ?_
  refine e_aload_n (CC _) 0 dX0_init_0 rfl ?_
  refine v_oinit (CC _) (tg1 209 rfl rfl) (by decide) dX0_init_1 ?_
  refine e_aload_n (CC _) 0 dX0_init_4 rfl ?_
  refine e_aload_n (CC _) 1 dX0_init_5 rfl ?_
  refine v_put (kf := 0) (ci := 0) (q0 := 0) (CC _) inG0 tyX0 tyX0_ok nmX0 rfl rfl (by decide) (tg1 210 rfl rfl) (Or.inr ⟨rfl, hnm, rfl⟩) rfl rfl rfl (Nat.le_of_ble_eq_true rfl) dX0_init_6 ?_
  refine e_aload_n (CC _) 0 dX0_init_9 rfl ?_
  refine e_aload_n (CC _) 2 dX0_init_10 rfl ?_
  refine v_put (kf := 1) (ci := 0) (q0 := 0) (CC _) inG0 tyX0 tyX0_ok nmX0 rfl rfl (by decide) (tg1 211 rfl rfl) (Or.inr ⟨rfl, hnm, rfl⟩) rfl rfl rfl (Nat.le_of_ble_eq_true rfl) dX0_init_11 ?_
  exact e_cv (w' := wNX0 g sk b a1 a2) (M' := fun c i => if c = 0 then 1 else if c = 1 then (([] : List Nat).getD i.toNat 0 : Nat) else 0) rfl rfl (fun _ => trivial) (e_vret C Y (by decide) (by decide) dX0_init_14 ⟨rfl, rfl⟩)
def dfX8 : List Value := [.null, vI 0, vI 0, .null, .null, vI 0, vI 0, vI 0, vI 0, vI 0, vI 0]
def wiX8 (g : Gs) (b : Nat) (M : Mem) : va_W := (b, .inr (8, [.ref (M 1 0).toNat, vI 0, vI 0, .ref (M 1 1).toNat, .ref (M 1 2).toNat, vI 0, vI 0, vI 0, vI 0, vI 0, vI 0])) :: [((M 1 0).toNat, .inl (g.2.1, 400, .inl (fun _ => i32 0))), ((M 1 1).toNat, .inl (g.2.2.2.2.1, 80, .inl (fun _ => i32 0))), ((M 1 2).toNat, .inl (g.2.2.2.1, 80, .inl (fun _ => i32 0)))]
abbrev wNX8 (g : Gs) (sk : (Nat → Nat) × (Nat → Nat)) (b : Nat) : Wd := (g.1, tysG g, fun M => if M 0 0 = 0 then [(b, .inr (8, dfX8))] else wiX8 g b M, fun _ => True, KI sk)
theorem mi_X8_init : MI yX8_init cX8_init 1 none 0 := ⟨⟨tg1 221 rfl rfl, tg1 7 rfl rfl⟩, ⟨by decide +kernel, by decide +kernel⟩, by decide, by decide +kernel⟩
theorem ci_X8 {g : Gs} {sk : (Nat → Nat) × (Nat → Nat)} {b : Nat} : ∀ l : Launch, l.stackTraces = false → Ct (wNX8 g sk b) l yX8_init cX8_init 1 none 1 3 560 [.ref b] M0 (fun v M1 => v = none ∧ M1 0 0 = 1) NoX := by
  intro l9 hl9
  refine ct_ofI hl9 mi_X8_init.2.2.2 (Nat.le_of_ble_eq_true rfl) (fun X _ hnm C Y => ?_)
  have CC : ∀ ws, OkB (wV g (KI sk) ws) X cX8_init RX8 1 1 3 560 := fun ws => okB_ws rfl rfl rfl C
  show E (wNX8 g sk b) X 0 0 M0 0 [(0, .ref b)] []
  refine e_cv (w' := wV g (KI sk) [(b, .inr (8, dfX8))]) (M' := M0) rfl rfl (fun _ => trivial) ?_
  refine e_aload_n (CC _) 0 dX8_init_0 rfl ?_
  refine v_oinit (CC _) (tg1 222 rfl rfl) (by decide) dX8_init_1 ?_
  refine e_aload_n (CC _) 0 dX8_init_4 rfl ?_
  refine e_sipush (CC _) dX8_init_5 (by decide) ?_
  refine v_newI (N := 400) (CC _) (by decide) (by omega) (by omega) dX8_init_8 (fun q0 => ?_)
  refine v_put (kf := 0) (ci := 8) (q0 := 0) (CC _) inG8 tyX8 tyX8_ok nmX8 rfl rfl (by decide) (tg1 223 rfl rfl) (Or.inr ⟨rfl, hnm, rfl⟩) rfl rfl rfl (Nat.le_of_ble_eq_true rfl) dX8_init_10 ?_
  refine e_aload_n (CC _) 0 dX8_init_13 rfl ?_
  refine e_iconst (CC _) dX8_init_14 ?_
  refine v_put (kf := 2) (ci := 8) (q0 := 0) (CC _) inG8 tyX8 tyX8_ok nmX8 rfl rfl (by decide) (tg1 227 rfl rfl) (Or.inl rfl) rfl rfl rfl (Nat.le_of_ble_eq_true rfl) dX8_init_15 ?_
  refine e_aload_n (CC _) 0 dX8_init_18 rfl ?_
  refine e_bipush (CC _) dX8_init_19 (by decide) ?_
  refine v_newC (N := 80) (CC _) (by decide) (by omega) (by omega) dX8_init_21 (fun q1 => ?_)
  refine v_put (kf := 3) (ci := 8) (q0 := 0) (CC _) inG8 tyX8 tyX8_ok nmX8 rfl rfl (by decide) (tg1 229 rfl rfl) (Or.inr ⟨rfl, hnm, rfl⟩) rfl rfl rfl (Nat.le_of_ble_eq_true rfl) dX8_init_23 ?_
  refine e_aload_n (CC _) 0 dX8_init_26 rfl ?_
  refine e_bipush (CC _) dX8_init_27 (by decide) ?_
  refine v_newZ (N := 80) (CC _) (by decide) (by omega) (by omega) dX8_init_29 (fun q2 => ?_)
  refine v_put (kf := 4) (ci := 8) (q0 := 0) (CC _) inG8 tyX8 tyX8_ok nmX8 rfl rfl (by decide) (tg1 230 rfl rfl) (Or.inr ⟨rfl, hnm, rfl⟩) rfl rfl rfl (Nat.le_of_ble_eq_true rfl) dX8_init_31 ?_
  exact e_cv (w' := wNX8 g sk b) (M' := fun c i => if c = 0 then 1 else if c = 1 then (([q0, q1, q2] : List Nat).getD i.toNat 0 : Nat) else 0) rfl rfl (fun _ => trivial) (e_vret C Y (by decide) (by decide) dX8_init_34 ⟨rfl, rfl⟩)
def dfX1 : List Value := [.null, .null, .null, .null, .null]
def wiX1 (g : Gs) (b : Nat) (a1 : Nat) (M : Mem) : va_W := (b, .inr (1, [.ref a1, .ref (M 1 0).toNat, .ref (M 1 1).toNat, .ref (M 1 2).toNat, .ref (M 1 3).toNat])) :: [((M 1 0).toNat, .inl (g.2.2.1, 80, .inr (.inl (fun _ => i64 0)))), ((M 1 1).toNat, .inl (g.2.2.1, 80, .inr (.inl (fun _ => i64 0)))), ((M 1 2).toNat, .inl (g.2.2.2.1, 80, .inl (fun _ => i32 0))), ((M 1 3).toNat, .inl (g.2.1, 40, .inl (fun _ => i32 0)))]
abbrev wNX1 (g : Gs) (sk : (Nat → Nat) × (Nat → Nat)) (b : Nat) (a1 : Nat) : Wd := (g.1, tysG g, fun M => if M 0 0 = 0 then [(b, .inr (1, dfX1))] else wiX1 g b a1 M, fun _ => True, KI sk)
theorem mi_X1_init : MI yX1_init cX1_init 2 none 1 := ⟨⟨tg2 25 rfl rfl, tg1 8 rfl rfl⟩, ⟨by decide +kernel, by decide +kernel⟩, by decide, by decide +kernel⟩
theorem ci_X1 {g : Gs} {sk : (Nat → Nat) × (Nat → Nat)} {b a1 : Nat} : ∀ l : Launch, l.stackTraces = false → Ct (wNX1 g sk b a1) l yX1_init cX1_init 2 none 1 4 280 [.ref b, .ref a1] M0 (fun v M1 => v = none ∧ M1 0 0 = 1) NoX := by
  intro l9 hl9
  refine ct_ofI hl9 mi_X1_init.2.2.2 (Nat.le_of_ble_eq_true rfl) (fun X _ hnm C Y => ?_)
  have CC : ∀ ws, OkB (wV g (KI sk) ws) X cX1_init RX1 2 1 4 280 := fun ws => okB_ws rfl rfl rfl C
  show E (wNX1 g sk b a1) X 0 0 M0 0 [(0, .ref b), (1, .ref a1)] []
  refine e_cv (w' := wV g (KI sk) [(b, .inr (1, dfX1))]) (M' := M0) rfl rfl (fun _ => trivial) ?_
  refine e_aload_n (CC _) 0 dX1_init_0 rfl ?_
  refine v_oinit (CC _) (tg2 26 rfl rfl) (by decide) dX1_init_1 ?_
  refine e_aload_n (CC _) 0 dX1_init_4 rfl ?_
  refine e_bipush (CC _) dX1_init_5 (by decide) ?_
  refine v_newJ (N := 80) (CC _) (by decide) (by omega) (by omega) dX1_init_7 (fun q0 => ?_)
  refine v_put (kf := 1) (ci := 1) (q0 := 0) (CC _) inG1 tyX1 tyX1_ok nmX1 rfl rfl (by decide) (tg2 28 rfl rfl) (Or.inr ⟨rfl, hnm, rfl⟩) rfl rfl rfl (Nat.le_of_ble_eq_true rfl) dX1_init_9 ?_
  refine e_aload_n (CC _) 0 dX1_init_12 rfl ?_
  refine e_bipush (CC _) dX1_init_13 (by decide) ?_
  refine v_newJ (N := 80) (CC _) (by decide) (by omega) (by omega) dX1_init_15 (fun q1 => ?_)
  refine v_put (kf := 2) (ci := 1) (q0 := 0) (CC _) inG1 tyX1 tyX1_ok nmX1 rfl rfl (by decide) (tg2 29 rfl rfl) (Or.inr ⟨rfl, hnm, rfl⟩) rfl rfl rfl (Nat.le_of_ble_eq_true rfl) dX1_init_17 ?_
  refine e_aload_n (CC _) 0 dX1_init_20 rfl ?_
  refine e_bipush (CC _) dX1_init_21 (by decide) ?_
  refine v_newZ (N := 80) (CC _) (by decide) (by omega) (by omega) dX1_init_23 (fun q2 => ?_)
  refine v_put (kf := 3) (ci := 1) (q0 := 0) (CC _) inG1 tyX1 tyX1_ok nmX1 rfl rfl (by decide) (tg2 30 rfl rfl) (Or.inr ⟨rfl, hnm, rfl⟩) rfl rfl rfl (Nat.le_of_ble_eq_true rfl) dX1_init_25 ?_
  refine e_aload_n (CC _) 0 dX1_init_28 rfl ?_
  refine e_bipush (CC _) dX1_init_29 (by decide) ?_
  refine v_newI (N := 40) (CC _) (by decide) (by omega) (by omega) dX1_init_31 (fun q3 => ?_)
  refine v_put (kf := 4) (ci := 1) (q0 := 0) (CC _) inG1 tyX1 tyX1_ok nmX1 rfl rfl (by decide) (tg2 31 rfl rfl) (Or.inr ⟨rfl, hnm, rfl⟩) rfl rfl rfl (Nat.le_of_ble_eq_true rfl) dX1_init_33 ?_
  refine e_aload_n (CC _) 0 dX1_init_36 rfl ?_
  refine e_aload_n (CC _) 1 dX1_init_37 rfl ?_
  refine v_put (kf := 0) (ci := 1) (q0 := 0) (CC _) inG1 tyX1 tyX1_ok nmX1 rfl rfl (by decide) (tg2 27 rfl rfl) (Or.inr ⟨rfl, hnm, rfl⟩) rfl rfl rfl (Nat.le_of_ble_eq_true rfl) dX1_init_38 ?_
  exact e_cv (w' := wNX1 g sk b a1) (M' := fun c i => if c = 0 then 1 else if c = 1 then (([q0, q1, q2, q3] : List Nat).getD i.toNat 0 : Nat) else 0) rfl rfl (fun _ => trivial) (e_vret C Y (by decide) (by decide) dX1_init_41 ⟨rfl, rfl⟩)
def dfX4 : List Value := [.null, .null, vI 0]
def wiX4 (g : Gs) (b : Nat) (a1 : Nat) (M : Mem) : va_W := (b, .inr (4, [.ref a1, .ref (M 1 0).toNat, vI 0])) :: [((M 1 0).toNat, .inl (g.2.2.2.2.1, 400, .inl (fun _ => i32 0)))]
abbrev wNX4 (g : Gs) (sk : (Nat → Nat) × (Nat → Nat)) (b : Nat) (a1 : Nat) : Wd := (g.1, tysG g, fun M => if M 0 0 = 0 then [(b, .inr (4, dfX4))] else wiX4 g b a1 M, fun _ => True, KI sk)
theorem mi_X4_init : MI yX4_init cX4_init 2 none 1 := ⟨⟨tg2 47 rfl rfl, tg1 9 rfl rfl⟩, ⟨by decide +kernel, by decide +kernel⟩, by decide, by decide +kernel⟩
theorem ci_X4 {g : Gs} {sk : (Nat → Nat) × (Nat → Nat)} {b a1 : Nat} : ∀ l : Launch, l.stackTraces = false → Ct (wNX4 g sk b a1) l yX4_init cX4_init 2 none 1 1 400 [.ref b, .ref a1] M0 (fun v M1 => v = none ∧ M1 0 0 = 1) NoX := by
  intro l9 hl9
  refine ct_ofI hl9 mi_X4_init.2.2.2 (Nat.le_of_ble_eq_true rfl) (fun X _ hnm C Y => ?_)
  have CC : ∀ ws, OkB (wV g (KI sk) ws) X cX4_init RX4 2 1 1 400 := fun ws => okB_ws rfl rfl rfl C
  show E (wNX4 g sk b a1) X 0 0 M0 0 [(0, .ref b), (1, .ref a1)] []
  refine e_cv (w' := wV g (KI sk) [(b, .inr (4, dfX4))]) (M' := M0) rfl rfl (fun _ => trivial) ?_
  refine e_aload_n (CC _) 0 dX4_init_0 rfl ?_
  refine v_oinit (CC _) (tg2 48 rfl rfl) (by decide) dX4_init_1 ?_
  refine e_aload_n (CC _) 0 dX4_init_4 rfl ?_
  refine e_sipush (CC _) dX4_init_5 (by decide) ?_
  refine v_newC (N := 400) (CC _) (by decide) (by omega) (by omega) dX4_init_8 (fun q0 => ?_)
  refine v_put (kf := 1) (ci := 4) (q0 := 0) (CC _) inG4 tyX4 tyX4_ok nmX4 rfl rfl (by decide) (tg2 50 rfl rfl) (Or.inr ⟨rfl, hnm, rfl⟩) rfl rfl rfl (Nat.le_of_ble_eq_true rfl) dX4_init_10 ?_
  refine e_aload_n (CC _) 0 dX4_init_13 rfl ?_
  refine e_iconst (CC _) dX4_init_14 ?_
  refine v_put (kf := 2) (ci := 4) (q0 := 0) (CC _) inG4 tyX4 tyX4_ok nmX4 rfl rfl (by decide) (tg2 52 rfl rfl) (Or.inl rfl) rfl rfl rfl (Nat.le_of_ble_eq_true rfl) dX4_init_15 ?_
  refine e_aload_n (CC _) 0 dX4_init_18 rfl ?_
  refine e_aload_n (CC _) 1 dX4_init_19 rfl ?_
  refine v_put (kf := 0) (ci := 4) (q0 := 0) (CC _) inG4 tyX4 tyX4_ok nmX4 rfl rfl (by decide) (tg2 49 rfl rfl) (Or.inr ⟨rfl, hnm, rfl⟩) rfl rfl rfl (Nat.le_of_ble_eq_true rfl) dX4_init_20 ?_
  exact e_cv (w' := wNX4 g sk b a1) (M' := fun c i => if c = 0 then 1 else if c = 1 then (([q0] : List Nat).getD i.toNat 0 : Nat) else 0) rfl rfl (fun _ => trivial) (e_vret C Y (by decide) (by decide) dX4_init_23 ⟨rfl, rfl⟩)
def dfX2 : List Value := [.null, .null, .null, .null, .null, vI 0, vI 0, vI 0, vI 0, vI 0, vI 0, vI 0, vL 0, vL 0]
def wiX2 (g : Gs) (b : Nat) (M : Mem) : va_W := (b, .inr (2, [.ref (M 1 0).toNat, .ref (M 1 1).toNat, .ref (M 1 2).toNat, .ref (M 1 3).toNat, .ref (M 1 4).toNat, vI 0, vI 0, vI 0, vI 0, vI 0, vI 0, vI 0, vL 0, vL 0])) :: [((M 1 0).toNat, .inl (g.2.2.1, 2, .inr (.inl (fun _ => i64 0)))), ((M 1 1).toNat, .inl (g.2.1, 2, .inl (fun _ => i32 0))), ((M 1 2).toNat, .inl (g.2.1, 8, .inl (fun _ => i32 0))), ((M 1 3).toNat, .inl (g.2.1, 2, .inl (fun _ => i32 0))), ((M 1 4).toNat, .inl (g.2.2.2.1, 2, .inl (fun _ => i32 0)))]
abbrev wNX2 (g : Gs) (sk : (Nat → Nat) × (Nat → Nat)) (b : Nat) : Wd := (g.1, tysG g, fun M => if M 0 0 = 0 then [(b, .inr (2, dfX2))] else wiX2 g b M, fun _ => True, KI sk)
theorem mi_X2_init : MI yX2_init cX2_init 1 none 0 := ⟨⟨tg1 46 rfl rfl, tg1 3 rfl rfl⟩, ⟨by decide +kernel, by decide +kernel⟩, by decide, by decide +kernel⟩
theorem ci_X2 {g : Gs} {sk : (Nat → Nat) × (Nat → Nat)} {b : Nat} : ∀ l : Launch, l.stackTraces = false → Ct (wNX2 g sk b) l yX2_init cX2_init 1 none 1 5 16 [.ref b] M0 (fun v M1 => v = none ∧ M1 0 0 = 1) NoX := by
  intro l9 hl9
  refine ct_ofI hl9 mi_X2_init.2.2.2 (Nat.le_of_ble_eq_true rfl) (fun X _ hnm C Y => ?_)
  have CC : ∀ ws, OkB (wV g (KI sk) ws) X cX2_init RX2 1 1 5 16 := fun ws => okB_ws rfl rfl rfl C
  show E (wNX2 g sk b) X 0 0 M0 0 [(0, .ref b)] []
  refine e_cv (w' := wV g (KI sk) [(b, .inr (2, dfX2))]) (M' := M0) rfl rfl (fun _ => trivial) ?_
  refine e_aload_n (CC _) 0 dX2_init_0 rfl ?_
  refine v_oinit (CC _) (tg1 47 rfl rfl) (by decide) dX2_init_1 ?_
  refine e_aload_n (CC _) 0 dX2_init_4 rfl ?_
  refine e_iconst (CC _) dX2_init_5 ?_
  refine v_newJ (N := 2) (CC _) (by decide) (by omega) (by omega) dX2_init_6 (fun q0 => ?_)
  refine v_put (kf := 0) (ci := 2) (q0 := 0) (CC _) inG2 tyX2 tyX2_ok nmX2 rfl rfl (by decide) (tg1 48 rfl rfl) (Or.inr ⟨rfl, hnm, rfl⟩) rfl rfl rfl (Nat.le_of_ble_eq_true rfl) dX2_init_8 ?_
  refine e_aload_n (CC _) 0 dX2_init_11 rfl ?_
  refine e_iconst (CC _) dX2_init_12 ?_
  refine v_newI (N := 2) (CC _) (by decide) (by omega) (by omega) dX2_init_13 (fun q1 => ?_)
  refine v_put (kf := 1) (ci := 2) (q0 := 0) (CC _) inG2 tyX2 tyX2_ok nmX2 rfl rfl (by decide) (tg1 50 rfl rfl) (Or.inr ⟨rfl, hnm, rfl⟩) rfl rfl rfl (Nat.le_of_ble_eq_true rfl) dX2_init_15 ?_
  refine e_aload_n (CC _) 0 dX2_init_18 rfl ?_
  refine e_bipush (CC _) dX2_init_19 (by decide) ?_
  refine v_newI (N := 8) (CC _) (by decide) (by omega) (by omega) dX2_init_21 (fun q2 => ?_)
  refine v_put (kf := 2) (ci := 2) (q0 := 0) (CC _) inG2 tyX2 tyX2_ok nmX2 rfl rfl (by decide) (tg1 57 rfl rfl) (Or.inr ⟨rfl, hnm, rfl⟩) rfl rfl rfl (Nat.le_of_ble_eq_true rfl) dX2_init_23 ?_
  refine e_aload_n (CC _) 0 dX2_init_26 rfl ?_
  refine e_iconst (CC _) dX2_init_27 ?_
  refine v_newI (N := 2) (CC _) (by decide) (by omega) (by omega) dX2_init_28 (fun q3 => ?_)
  refine v_put (kf := 3) (ci := 2) (q0 := 0) (CC _) inG2 tyX2 tyX2_ok nmX2 rfl rfl (by decide) (tg1 59 rfl rfl) (Or.inr ⟨rfl, hnm, rfl⟩) rfl rfl rfl (Nat.le_of_ble_eq_true rfl) dX2_init_30 ?_
  refine e_aload_n (CC _) 0 dX2_init_33 rfl ?_
  refine e_iconst (CC _) dX2_init_34 ?_
  refine v_newZ (N := 2) (CC _) (by decide) (by omega) (by omega) dX2_init_35 (fun q4 => ?_)
  refine v_put (kf := 4) (ci := 2) (q0 := 0) (CC _) inG2 tyX2 tyX2_ok nmX2 rfl rfl (by decide) (tg1 62 rfl rfl) (Or.inr ⟨rfl, hnm, rfl⟩) rfl rfl rfl (Nat.le_of_ble_eq_true rfl) dX2_init_37 ?_
  exact e_cv (w' := wNX2 g sk b) (M' := fun c i => if c = 0 then 1 else if c = 1 then (([q0, q1, q2, q3, q4] : List Nat).getD i.toNat 0 : Nat) else 0) rfl rfl (fun _ => trivial) (e_vret C Y (by decide) (by decide) dX2_init_40 ⟨rfl, rfl⟩)
def dfX6 : List Value := [.null, .null, .null, .null, .null, .null, .null, .null]
def wiX6 (g : Gs) (b : Nat) (a1 : Nat) (M : Mem) : va_W := (b, .inr (6, [.ref a1, .ref (M 1 0).toNat, .ref (M 1 1).toNat, .ref (M 1 2).toNat, .ref (M 1 3).toNat, .ref (M 1 4).toNat, .ref (M 1 5).toNat, .ref (M 1 6).toNat])) :: [((M 1 0).toNat, .inl (g.2.2.2.2.2.2, 4, .inr (.inr (.inr (.inr (fun i => if i < 4 then some ((M 2 (i : Nat)).toNat) else none)))))), ((M 2 (0 : Nat)).toNat, .inl (g.2.1, 40, .inl (fun _ => i32 0))), ((M 2 (1 : Nat)).toNat, .inl (g.2.1, 40, .inl (fun _ => i32 0))), ((M 2 (2 : Nat)).toNat, .inl (g.2.1, 40, .inl (fun _ => i32 0))), ((M 2 (3 : Nat)).toNat, .inl (g.2.1, 40, .inl (fun _ => i32 0))), ((M 1 1).toNat, .inl (g.2.2.2.2.2.2, 4, .inr (.inr (.inr (.inr (fun i => if i < 4 then some ((M 3 (i : Nat)).toNat) else none)))))), ((M 3 (0 : Nat)).toNat, .inl (g.2.1, 40, .inl (fun _ => i32 0))), ((M 3 (1 : Nat)).toNat, .inl (g.2.1, 40, .inl (fun _ => i32 0))), ((M 3 (2 : Nat)).toNat, .inl (g.2.1, 40, .inl (fun _ => i32 0))), ((M 3 (3 : Nat)).toNat, .inl (g.2.1, 40, .inl (fun _ => i32 0))), ((M 1 2).toNat, .inl (g.2.1, 4, .inl (fun _ => i32 0))), ((M 1 3).toNat, .inl (g.2.1, 4, .inl (fun _ => i32 0))), ((M 1 4).toNat, .inl (g.2.1, 4, .inl (fun _ => i32 0))), ((M 1 5).toNat, .inl (g.2.1, 0, .inl (fun _ => i32 0))), ((M 1 6).toNat, .inl (g.2.1, 0, .inl (fun _ => i32 0)))]
abbrev wNX6 (g : Gs) (sk : (Nat → Nat) × (Nat → Nat)) (b : Nat) (a1 : Nat) : Wd := (g.1, tysG g, fun M => if M 0 0 = 0 then [(b, .inr (6, dfX6))] else wiX6 g b a1 M, fun _ => True, KI sk)
theorem mi_X6_init : MI yX6_init cX6_init 2 none 1 := ⟨⟨tg1 176 rfl rfl, tg1 5 rfl rfl⟩, ⟨by decide +kernel, by decide +kernel⟩, by decide, by decide +kernel⟩
theorem ci_X6 {g : Gs} {sk : (Nat → Nat) × (Nat → Nat)} {b a1 : Nat} : ∀ l : Launch, l.stackTraces = false → Ct (wNX6 g sk b a1) l yX6_init cX6_init 2 none 1 15 340 [.ref b, .ref a1] M0 (fun v M1 => v = none ∧ M1 0 0 = 1) NoX := by
  intro l9 hl9
  refine ct_ofI hl9 mi_X6_init.2.2.2 (Nat.le_of_ble_eq_true rfl) (fun X _ hnm C Y => ?_)
  have CC : ∀ ws, OkB (wV g (KI sk) ws) X cX6_init RX6 2 1 15 340 := fun ws => okB_ws rfl rfl rfl C
  show E (wNX6 g sk b a1) X 0 0 M0 0 [(0, .ref b), (1, .ref a1)] []
  refine e_cv (w' := wV g (KI sk) [(b, .inr (6, dfX6))]) (M' := M0) rfl rfl (fun _ => trivial) ?_
  refine e_aload_n (CC _) 0 dX6_init_0 rfl ?_
  refine v_oinit (CC _) (tg1 177 rfl rfl) (by decide) dX6_init_1 ?_
  refine e_aload_n (CC _) 0 dX6_init_4 rfl ?_
  refine e_iconst (CC _) dX6_init_5 ?_
  refine e_bipush (CC _) dX6_init_6 (by decide) ?_
  refine v_mna (N := 4) (K := 40) (CC _) (tg1 178 rfl rfl) (by decide) (by decide) (by omega) (by omega) dX6_init_8 (fun q0 r0 => ?_)
  refine v_put (kf := 1) (ci := 6) (q0 := 0) (CC _) inG6 tyX6 tyX6_ok nmX6 rfl rfl (by decide) (tg1 180 rfl rfl) (Or.inr ⟨rfl, hnm, rfl⟩) rfl rfl rfl (Nat.le_of_ble_eq_true rfl) dX6_init_12 ?_
  refine e_aload_n (CC _) 0 dX6_init_15 rfl ?_
  refine e_iconst (CC _) dX6_init_16 ?_
  refine e_bipush (CC _) dX6_init_17 (by decide) ?_
  refine v_mna (N := 4) (K := 40) (CC _) (tg1 178 rfl rfl) (by decide) (by decide) (by omega) (by omega) dX6_init_19 (fun q1 r1 => ?_)
  refine v_put (kf := 2) (ci := 6) (q0 := 0) (CC _) inG6 tyX6 tyX6_ok nmX6 rfl rfl (by decide) (tg1 181 rfl rfl) (Or.inr ⟨rfl, hnm, rfl⟩) rfl rfl rfl (Nat.le_of_ble_eq_true rfl) dX6_init_23 ?_
  refine e_aload_n (CC _) 0 dX6_init_26 rfl ?_
  refine e_iconst (CC _) dX6_init_27 ?_
  refine v_newI (N := 4) (CC _) (by decide) (by omega) (by omega) dX6_init_28 (fun q2 => ?_)
  refine v_put (kf := 3) (ci := 6) (q0 := 0) (CC _) inG6 tyX6 tyX6_ok nmX6 rfl rfl (by decide) (tg1 182 rfl rfl) (Or.inr ⟨rfl, hnm, rfl⟩) rfl rfl rfl (Nat.le_of_ble_eq_true rfl) dX6_init_30 ?_
  refine e_aload_n (CC _) 0 dX6_init_33 rfl ?_
  refine e_iconst (CC _) dX6_init_34 ?_
  refine v_newI (N := 4) (CC _) (by decide) (by omega) (by omega) dX6_init_35 (fun q3 => ?_)
  refine v_put (kf := 4) (ci := 6) (q0 := 0) (CC _) inG6 tyX6 tyX6_ok nmX6 rfl rfl (by decide) (tg1 183 rfl rfl) (Or.inr ⟨rfl, hnm, rfl⟩) rfl rfl rfl (Nat.le_of_ble_eq_true rfl) dX6_init_37 ?_
  refine e_aload_n (CC _) 0 dX6_init_40 rfl ?_
  refine e_iconst (CC _) dX6_init_41 ?_
  refine v_newI (N := 4) (CC _) (by decide) (by omega) (by omega) dX6_init_42 (fun q4 => ?_)
  refine v_put (kf := 5) (ci := 6) (q0 := 0) (CC _) inG6 tyX6 tyX6_ok nmX6 rfl rfl (by decide) (tg1 184 rfl rfl) (Or.inr ⟨rfl, hnm, rfl⟩) rfl rfl rfl (Nat.le_of_ble_eq_true rfl) dX6_init_44 ?_
  refine e_aload_n (CC _) 0 dX6_init_47 rfl ?_
  refine e_iconst (CC _) dX6_init_48 ?_
  refine v_newI (N := 0) (CC _) (by decide) (by omega) (by omega) dX6_init_49 (fun q5 => ?_)
  refine v_put (kf := 6) (ci := 6) (q0 := 0) (CC _) inG6 tyX6 tyX6_ok nmX6 rfl rfl (by decide) (tg1 185 rfl rfl) (Or.inl rfl) rfl rfl rfl (Nat.le_of_ble_eq_true rfl) dX6_init_51 ?_
  refine e_aload_n (CC _) 0 dX6_init_54 rfl ?_
  refine e_iconst (CC _) dX6_init_55 ?_
  refine v_newI (N := 0) (CC _) (by decide) (by omega) (by omega) dX6_init_56 (fun q6 => ?_)
  refine v_put (kf := 7) (ci := 6) (q0 := 0) (CC _) inG6 tyX6 tyX6_ok nmX6 rfl rfl (by decide) (tg1 186 rfl rfl) (Or.inl rfl) rfl rfl rfl (Nat.le_of_ble_eq_true rfl) dX6_init_58 ?_
  refine e_aload_n (CC _) 0 dX6_init_61 rfl ?_
  refine e_aload_n (CC _) 1 dX6_init_62 rfl ?_
  refine v_put (kf := 0) (ci := 6) (q0 := 0) (CC _) inG6 tyX6 tyX6_ok nmX6 rfl rfl (by decide) (tg1 179 rfl rfl) (Or.inr ⟨rfl, hnm, rfl⟩) rfl rfl rfl (Nat.le_of_ble_eq_true rfl) dX6_init_63 ?_
  exact e_cv (w' := wNX6 g sk b a1) (M' := fun c i => if c = 0 then 1 else if c = 1 then (([q0, q1, q2, q3, q4, q5, q6] : List Nat).getD i.toNat 0 : Nat) else if c = 2 then ((r0 i.toNat : Nat) : Int) else if c = 3 then ((r1 i.toNat : Nat) : Int) else 0) rfl rfl (fun _ => trivial) (e_vret C Y (by decide) (by decide) dX6_init_66 ⟨rfl, rfl⟩)
