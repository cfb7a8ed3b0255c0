/-! ===== HotGames' constructor: the parts are made ===== -/
theorem mi_X9_init : MI yX9_init cX9_init 9 none 0 := ⟨⟨tg1 29 rfl rfl, tg1 1 rfl rfl⟩, ⟨by decide +kernel, by decide +kernel⟩, by decide, by decide +kernel⟩
set_option maxHeartbeats 4000000 in
theorem c9_parts {g : Gs} {sk : (Nat → Nat) × (Nat → Nat)} {X : Cx} {b : Nat} (CC : ∀ ws, OkB (wV g (KI sk) ws) X cX9_init RX9 9 8 283 3055) (hnm : mtN X = "<init>") (hst : (lnc X).stackTraces = false)
    (kk : ∀ (L : List Nat) (P5 : Mem), ad9 L P5 0 = b → ∀ M : Mem, RMx (ad9 L P5) M → (∀ c i, c ≠ 19 → M c i = 0) → E (wV g (KI sk) (wlX g (ad9 L P5) M)) X 283 3055 M0 139 [(0, .ref b)] []) : E (wV g (KI sk) [(b, .inr (9, dfX9))]) X 0 0 M0 0 [(0, .ref b)] [] := by
  refine e_aload_n (CC _) 0 dX9_init_0 rfl ?_
  refine v_oinit (CC _) (tg1 30 rfl rfl) (by decide) dX9_init_1 ?_
  refine e_aload_n (CC _) 0 dX9_init_4 rfl ?_
  refine v_new (ci := 5) (fs := dfX5) (T := TX5) (N := 6) (CC _) inG5 tyX5 tyX5_ok (tg1 33 rfl rfl) (tg1 34 rfl rfl) (tg1 2 rfl rfl) rfl (by decide +kernel) (by omega) (by omega) dX9_init_5 (fun q5 => ?_)
  refine e_dup (CC _) rfl dX9_init_8 ?_
  refine v_ctor (w := wNX5 g sk q5) (ws := ((b, .inr (9, [.null, .null, .null, .null, .null, .null, .null, .null, .null, .null, .null, vI 0])) :: [] : va_W)) (As := []) (rest := [.ref q5, .ref b]) (PQ := fun _ _ => True) (PX := NoX) (ret := none) (CC _) (Or.inr hst) rfl rfl rfl trivial mi_X5_init rfl (tg1 36 rfl rfl) (Or.inl (tg1 35 rfl rfl)) ci_X5 (by decide) (Nat.le_of_ble_eq_true rfl) (by omega) (by omega) dX9_init_9 rfl (fun P5 hP5 => ?_) (fun v M1 h => h.1)
  rw [show (wNX5 g sk q5).2.2.1 P5 = wiX5 g q5 P5 from if_neg (by rw [hP5.2]; decide)]
  refine v_put (kf := 0) (ci := 9) (q0 := 0) (CC _) inG9 tyX9 tyX9_ok nmX9 rfl rfl (by decide) (tg2 187 rfl rfl) (Or.inr ⟨rfl, hnm, rfl⟩) rfl rfl rfl (Nat.le_of_ble_eq_true rfl) dX9_init_12 ?_
  refine e_eqW (ws' := ((b, .inr (9, [.ref q5, .null, .null, .null, .null, .null, .null, .null, .null, .null, .null, vI 0])) :: wiX5 g q5 P5 : va_W)) rfl ?_
  refine e_aload_n (CC _) 0 dX9_init_15 rfl ?_
  refine v_new (ci := 7) (fs := dfX7) (T := TX7) (N := 2) (CC _) inG7 tyX7 tyX7_ok (tg1 155 rfl rfl) (tg1 156 rfl rfl) (tg1 4 rfl rfl) rfl (by decide +kernel) (by omega) (by omega) dX9_init_16 (fun q7 => ?_)
  refine e_dup (CC _) rfl dX9_init_19 ?_
  refine v_ctor (w := wNX7 g sk q7) (ws := ((b, .inr (9, [.ref q5, .null, .null, .null, .null, .null, .null, .null, .null, .null, .null, vI 0])) :: wiX5 g q5 P5 : va_W)) (As := []) (rest := [.ref q7, .ref b]) (PQ := fun _ _ => True) (PX := NoX) (ret := none) (CC _) (Or.inr hst) rfl rfl rfl trivial mi_X7_init rfl (tg1 158 rfl rfl) (Or.inr ⟨"HotGames", by decide +kernel⟩) ci_X7 (by decide) (Nat.le_of_ble_eq_true rfl) (by omega) (by omega) dX9_init_20 rfl (fun P7 hP7 => ?_) (fun v M1 h => h.1)
  rw [show (wNX7 g sk q7).2.2.1 P7 = wiX7 g q7 P7 from if_neg (by rw [hP7.2]; decide)]
  refine v_put (kf := 1) (ci := 9) (q0 := 0) (CC _) inG9 tyX9 tyX9_ok nmX9 rfl rfl (by decide) (tg2 188 rfl rfl) (Or.inr ⟨rfl, hnm, rfl⟩) rfl rfl rfl (Nat.le_of_ble_eq_true rfl) dX9_init_23 ?_
  refine e_eqW (ws' := ((b, .inr (9, [.ref q5, .ref q7, .null, .null, .null, .null, .null, .null, .null, .null, .null, vI 0])) :: (wiX5 g q5 P5 ++ wiX7 g q7 P7) : va_W)) rfl ?_
  refine e_aload_n (CC _) 0 dX9_init_26 rfl ?_
  refine v_new (ci := 6) (fs := dfX6) (T := TX6) (N := 8) (CC _) inG6 tyX6 tyX6_ok (tg1 172 rfl rfl) (tg1 173 rfl rfl) (tg1 5 rfl rfl) rfl (by decide +kernel) (by omega) (by omega) dX9_init_27 (fun q6 => ?_)
  refine e_dup (CC _) rfl dX9_init_30 ?_
  refine e_aload_n (CC _) 0 dX9_init_31 rfl ?_
  refine e_get (q0 := 0) (ci := 9) (kf := 0) (T := TX9) (N := 12) (CC _) inG9 rfl rfl (by decide) (tg2 187 rfl rfl) rfl dX9_init_32 ?_
  refine v_ctor (w := wNX6 g sk q6 q5) (ws := ((b, .inr (9, [.ref q5, .ref q7, .null, .null, .null, .null, .null, .null, .null, .null, .null, vI 0])) :: (wiX5 g q5 P5 ++ wiX7 g q7 P7) : va_W)) (As := [.ref q5]) (rest := [.ref q6, .ref b]) (PQ := fun _ _ => True) (PX := NoX) (ret := none) (CC _) (Or.inr hst) rfl rfl rfl trivial mi_X6_init rfl (tg1 175 rfl rfl) (Or.inl (tg1 174 rfl rfl)) ci_X6 (by decide) (Nat.le_of_ble_eq_true rfl) (by omega) (by omega) dX9_init_35 rfl (fun P6 hP6 => ?_) (fun v M1 h => h.1)
  rw [show (wNX6 g sk q6 q5).2.2.1 P6 = wiX6 g q6 q5 P6 from if_neg (by rw [hP6.2]; decide)]
  refine v_put (kf := 2) (ci := 9) (q0 := 0) (CC _) inG9 tyX9 tyX9_ok nmX9 rfl rfl (by decide) (tg2 189 rfl rfl) (Or.inr ⟨rfl, hnm, rfl⟩) rfl rfl rfl (Nat.le_of_ble_eq_true rfl) dX9_init_38 ?_
  refine e_eqW (ws' := ((b, .inr (9, [.ref q5, .ref q7, .ref q6, .null, .null, .null, .null, .null, .null, .null, .null, vI 0])) :: ((wiX5 g q5 P5 ++ wiX7 g q7 P7) ++ wiX6 g q6 q5 P6) : va_W)) rfl ?_
  refine e_aload_n (CC _) 0 dX9_init_41 rfl ?_
  refine v_new (ci := 0) (fs := dfX0) (T := TX0) (N := 2) (CC _) inG0 tyX0 tyX0_ok (tg1 204 rfl rfl) (tg1 205 rfl rfl) (tg1 6 rfl rfl) rfl (by decide +kernel) (by omega) (by omega) dX9_init_42 (fun q0 => ?_)
  refine e_dup (CC _) rfl dX9_init_45 ?_
  refine e_aload_n (CC _) 0 dX9_init_46 rfl ?_
  refine e_get (q0 := 0) (ci := 9) (kf := 0) (T := TX9) (N := 12) (CC _) inG9 rfl rfl (by decide) (tg2 187 rfl rfl) rfl dX9_init_47 ?_
  refine e_aload_n (CC _) 0 dX9_init_50 rfl ?_
  refine e_get (q0 := 0) (ci := 9) (kf := 2) (T := TX9) (N := 12) (CC _) inG9 rfl rfl (by decide) (tg2 189 rfl rfl) rfl dX9_init_51 ?_
  refine v_ctor (w := wNX0 g sk q0 q5 q6) (ws := ((b, .inr (9, [.ref q5, .ref q7, .ref q6, .null, .null, .null, .null, .null, .null, .null, .null, vI 0])) :: ((wiX5 g q5 P5 ++ wiX7 g q7 P7) ++ wiX6 g q6 q5 P6) : va_W)) (As := [.ref q5, .ref q6]) (rest := [.ref q0, .ref b]) (PQ := fun _ _ => True) (PX := NoX) (ret := none) (CC _) (Or.inr hst) rfl rfl rfl trivial mi_X0_init rfl (tg1 207 rfl rfl) (Or.inl (tg1 206 rfl rfl)) ci_X0 (by decide) (Nat.le_of_ble_eq_true rfl) (by omega) (by omega) dX9_init_54 rfl (fun P0 hP0 => ?_) (fun v M1 h => h.1)
  rw [show (wNX0 g sk q0 q5 q6).2.2.1 P0 = wiX0 g q0 q5 q6 P0 from if_neg (by rw [hP0.2]; decide)]
  refine v_put (kf := 3) (ci := 9) (q0 := 0) (CC _) inG9 tyX9 tyX9_ok nmX9 rfl rfl (by decide) (tg2 190 rfl rfl) (Or.inr ⟨rfl, hnm, rfl⟩) rfl rfl rfl (Nat.le_of_ble_eq_true rfl) dX9_init_57 ?_
  refine e_eqW (ws' := ((b, .inr (9, [.ref q5, .ref q7, .ref q6, .ref q0, .null, .null, .null, .null, .null, .null, .null, vI 0])) :: (((wiX5 g q5 P5 ++ wiX7 g q7 P7) ++ wiX6 g q6 q5 P6) ++ wiX0 g q0 q5 q6 P0) : va_W)) rfl ?_
  refine e_aload_n (CC _) 0 dX9_init_60 rfl ?_
  refine v_new (ci := 8) (fs := dfX8) (T := TX8) (N := 11) (CC _) inG8 tyX8 tyX8_ok (tg1 217 rfl rfl) (tg1 218 rfl rfl) (tg1 7 rfl rfl) rfl (by decide +kernel) (by omega) (by omega) dX9_init_61 (fun q8 => ?_)
  refine e_dup (CC _) rfl dX9_init_64 ?_
  refine v_ctor (w := wNX8 g sk q8) (ws := ((b, .inr (9, [.ref q5, .ref q7, .ref q6, .ref q0, .null, .null, .null, .null, .null, .null, .null, vI 0])) :: (((wiX5 g q5 P5 ++ wiX7 g q7 P7) ++ wiX6 g q6 q5 P6) ++ wiX0 g q0 q5 q6 P0) : va_W)) (As := []) (rest := [.ref q8, .ref b]) (PQ := fun _ _ => True) (PX := NoX) (ret := none) (CC _) (Or.inr hst) rfl rfl rfl trivial mi_X8_init rfl (tg1 220 rfl rfl) (Or.inr ⟨"HotGames", by decide +kernel⟩) ci_X8 (by decide) (Nat.le_of_ble_eq_true rfl) (by omega) (by omega) dX9_init_65 rfl (fun P8 hP8 => ?_) (fun v M1 h => h.1)
  rw [show (wNX8 g sk q8).2.2.1 P8 = wiX8 g q8 P8 from if_neg (by rw [hP8.2]; decide)]
  refine v_put (kf := 4) (ci := 9) (q0 := 0) (CC _) inG9 tyX9 tyX9_ok nmX9 rfl rfl (by decide) (tg2 191 rfl rfl) (Or.inr ⟨rfl, hnm, rfl⟩) rfl rfl rfl (Nat.le_of_ble_eq_true rfl) dX9_init_68 ?_
  refine e_eqW (ws' := ((b, .inr (9, [.ref q5, .ref q7, .ref q6, .ref q0, .ref q8, .null, .null, .null, .null, .null, .null, vI 0])) :: ((((wiX5 g q5 P5 ++ wiX7 g q7 P7) ++ wiX6 g q6 q5 P6) ++ wiX0 g q0 q5 q6 P0) ++ wiX8 g q8 P8) : va_W)) rfl ?_
  refine e_aload_n (CC _) 0 dX9_init_71 rfl ?_
  refine v_new (ci := 1) (fs := dfX1) (T := TX1) (N := 5) (CC _) inG1 tyX1 tyX1_ok (tg2 21 rfl rfl) (tg2 22 rfl rfl) (tg1 8 rfl rfl) rfl (by decide +kernel) (by omega) (by omega) dX9_init_72 (fun q1 => ?_)
  refine e_dup (CC _) rfl dX9_init_75 ?_
  refine e_aload_n (CC _) 0 dX9_init_76 rfl ?_
  refine e_get (q0 := 0) (ci := 9) (kf := 0) (T := TX9) (N := 12) (CC _) inG9 rfl rfl (by decide) (tg2 187 rfl rfl) rfl dX9_init_77 ?_
  refine v_ctor (w := wNX1 g sk q1 q5) (ws := ((b, .inr (9, [.ref q5, .ref q7, .ref q6, .ref q0, .ref q8, .null, .null, .null, .null, .null, .null, vI 0])) :: ((((wiX5 g q5 P5 ++ wiX7 g q7 P7) ++ wiX6 g q6 q5 P6) ++ wiX0 g q0 q5 q6 P0) ++ wiX8 g q8 P8) : va_W)) (As := [.ref q5]) (rest := [.ref q1, .ref b]) (PQ := fun _ _ => True) (PX := NoX) (ret := none) (CC _) (Or.inr hst) rfl rfl rfl trivial mi_X1_init rfl (tg2 24 rfl rfl) (Or.inl (tg2 23 rfl rfl)) ci_X1 (by decide) (Nat.le_of_ble_eq_true rfl) (by omega) (by omega) dX9_init_80 rfl (fun P1 hP1 => ?_) (fun v M1 h => h.1)
  rw [show (wNX1 g sk q1 q5).2.2.1 P1 = wiX1 g q1 q5 P1 from if_neg (by rw [hP1.2]; decide)]
  refine v_put (kf := 5) (ci := 9) (q0 := 0) (CC _) inG9 tyX9 tyX9_ok nmX9 rfl rfl (by decide) (tg2 192 rfl rfl) (Or.inr ⟨rfl, hnm, rfl⟩) rfl rfl rfl (Nat.le_of_ble_eq_true rfl) dX9_init_83 ?_
  refine e_eqW (ws' := ((b, .inr (9, [.ref q5, .ref q7, .ref q6, .ref q0, .ref q8, .ref q1, .null, .null, .null, .null, .null, vI 0])) :: (((((wiX5 g q5 P5 ++ wiX7 g q7 P7) ++ wiX6 g q6 q5 P6) ++ wiX0 g q0 q5 q6 P0) ++ wiX8 g q8 P8) ++ wiX1 g q1 q5 P1) : va_W)) rfl ?_
  refine e_aload_n (CC _) 0 dX9_init_86 rfl ?_
  refine v_new (ci := 4) (fs := dfX4) (T := TX4) (N := 3) (CC _) inG4 tyX4 tyX4_ok (tg2 43 rfl rfl) (tg2 44 rfl rfl) (tg1 9 rfl rfl) rfl (by decide +kernel) (by omega) (by omega) dX9_init_87 (fun q4 => ?_)
  refine e_dup (CC _) rfl dX9_init_90 ?_
  refine e_aload_n (CC _) 0 dX9_init_91 rfl ?_
  refine e_get (q0 := 0) (ci := 9) (kf := 0) (T := TX9) (N := 12) (CC _) inG9 rfl rfl (by decide) (tg2 187 rfl rfl) rfl dX9_init_92 ?_
  refine v_ctor (w := wNX4 g sk q4 q5) (ws := ((b, .inr (9, [.ref q5, .ref q7, .ref q6, .ref q0, .ref q8, .ref q1, .null, .null, .null, .null, .null, vI 0])) :: (((((wiX5 g q5 P5 ++ wiX7 g q7 P7) ++ wiX6 g q6 q5 P6) ++ wiX0 g q0 q5 q6 P0) ++ wiX8 g q8 P8) ++ wiX1 g q1 q5 P1) : va_W)) (As := [.ref q5]) (rest := [.ref q4, .ref b]) (PQ := fun _ _ => True) (PX := NoX) (ret := none) (CC _) (Or.inr hst) rfl rfl rfl trivial mi_X4_init rfl (tg2 46 rfl rfl) (Or.inl (tg2 45 rfl rfl)) ci_X4 (by decide) (Nat.le_of_ble_eq_true rfl) (by omega) (by omega) dX9_init_95 rfl (fun P4 hP4 => ?_) (fun v M1 h => h.1)
  rw [show (wNX4 g sk q4 q5).2.2.1 P4 = wiX4 g q4 q5 P4 from if_neg (by rw [hP4.2]; decide)]
  refine v_put (kf := 6) (ci := 9) (q0 := 0) (CC _) inG9 tyX9 tyX9_ok nmX9 rfl rfl (by decide) (tg2 193 rfl rfl) (Or.inr ⟨rfl, hnm, rfl⟩) rfl rfl rfl (Nat.le_of_ble_eq_true rfl) dX9_init_98 ?_
  refine e_eqW (ws' := ((b, .inr (9, [.ref q5, .ref q7, .ref q6, .ref q0, .ref q8, .ref q1, .ref q4, .null, .null, .null, .null, vI 0])) :: ((((((wiX5 g q5 P5 ++ wiX7 g q7 P7) ++ wiX6 g q6 q5 P6) ++ wiX0 g q0 q5 q6 P0) ++ wiX8 g q8 P8) ++ wiX1 g q1 q5 P1) ++ wiX4 g q4 q5 P4) : va_W)) rfl ?_
  refine e_aload_n (CC _) 0 dX9_init_101 rfl ?_
  refine v_new (ci := 3) (fs := dfX3) (T := TX3) (N := 2) (CC _) inG3 tyX3 tyX3_ok (tg2 61 rfl rfl) (tg2 62 rfl rfl) (tg1 10 rfl rfl) rfl (by decide +kernel) (by omega) (by omega) dX9_init_102 (fun q3 => ?_)
  refine e_dup (CC _) rfl dX9_init_105 ?_
  refine v_ctor (w := wNX3 g sk q3) (ws := ((b, .inr (9, [.ref q5, .ref q7, .ref q6, .ref q0, .ref q8, .ref q1, .ref q4, .null, .null, .null, .null, vI 0])) :: ((((((wiX5 g q5 P5 ++ wiX7 g q7 P7) ++ wiX6 g q6 q5 P6) ++ wiX0 g q0 q5 q6 P0) ++ wiX8 g q8 P8) ++ wiX1 g q1 q5 P1) ++ wiX4 g q4 q5 P4) : va_W)) (As := []) (rest := [.ref q3, .ref b]) (PQ := fun _ _ => True) (PX := NoX) (ret := none) (CC _) (Or.inr hst) rfl rfl rfl trivial mi_X3_init rfl (tg2 64 rfl rfl) (Or.inr ⟨"HotGames", by decide +kernel⟩) ci_X3 (by decide) (Nat.le_of_ble_eq_true rfl) (by omega) (by omega) dX9_init_106 rfl (fun P3 hP3 => ?_) (fun v M1 h => h.1)
  rw [show (wNX3 g sk q3).2.2.1 P3 = wiX3 g q3 P3 from if_neg (by rw [hP3.2]; decide)]
  refine v_put (kf := 7) (ci := 9) (q0 := 0) (CC _) inG9 tyX9 tyX9_ok nmX9 rfl rfl (by decide) (tg2 194 rfl rfl) (Or.inr ⟨rfl, hnm, rfl⟩) rfl rfl rfl (Nat.le_of_ble_eq_true rfl) dX9_init_109 ?_
  refine e_eqW (ws' := ((b, .inr (9, [.ref q5, .ref q7, .ref q6, .ref q0, .ref q8, .ref q1, .ref q4, .ref q3, .null, .null, .null, vI 0])) :: (((((((wiX5 g q5 P5 ++ wiX7 g q7 P7) ++ wiX6 g q6 q5 P6) ++ wiX0 g q0 q5 q6 P0) ++ wiX8 g q8 P8) ++ wiX1 g q1 q5 P1) ++ wiX4 g q4 q5 P4) ++ wiX3 g q3 P3) : va_W)) rfl ?_
  refine e_aload_n (CC _) 0 dX9_init_112 rfl ?_
  refine e_iconst (CC _) dX9_init_113 ?_
  refine v_newJ (N := 2) (CC _) (by decide) (by omega) (by omega) dX9_init_114 (fun qd => ?_)
  refine v_put (kf := 8) (ci := 9) (q0 := 0) (CC _) inG9 tyX9 tyX9_ok nmX9 rfl rfl (by decide) (tg2 195 rfl rfl) (Or.inr ⟨rfl, hnm, rfl⟩) rfl rfl rfl (Nat.le_of_ble_eq_true rfl) dX9_init_116 ?_
  refine e_eqW (ws' := ((b, .inr (9, [.ref q5, .ref q7, .ref q6, .ref q0, .ref q8, .ref q1, .ref q4, .ref q3, .ref qd, .null, .null, vI 0])) :: ((((((((wiX5 g q5 P5 ++ wiX7 g q7 P7) ++ wiX6 g q6 q5 P6) ++ wiX0 g q0 q5 q6 P0) ++ wiX8 g q8 P8) ++ wiX1 g q1 q5 P1) ++ wiX4 g q4 q5 P4) ++ wiX3 g q3 P3) ++ [(qd, .inl (g.2.2.1, 2, .inr (.inl (fun _ => i64 0))))]) : va_W)) rfl ?_
  refine e_aload_n (CC _) 0 dX9_init_119 rfl ?_
  refine e_iconst (CC _) dX9_init_120 ?_
  refine v_newI (N := 4) (CC _) (by decide) (by omega) (by omega) dX9_init_121 (fun ql => ?_)
  refine v_put (kf := 9) (ci := 9) (q0 := 0) (CC _) inG9 tyX9 tyX9_ok nmX9 rfl rfl (by decide) (tg2 196 rfl rfl) (Or.inr ⟨rfl, hnm, rfl⟩) rfl rfl rfl (Nat.le_of_ble_eq_true rfl) dX9_init_123 ?_
  refine e_eqW (ws' := ((b, .inr (9, [.ref q5, .ref q7, .ref q6, .ref q0, .ref q8, .ref q1, .ref q4, .ref q3, .ref qd, .ref ql, .null, vI 0])) :: (((((((((wiX5 g q5 P5 ++ wiX7 g q7 P7) ++ wiX6 g q6 q5 P6) ++ wiX0 g q0 q5 q6 P0) ++ wiX8 g q8 P8) ++ wiX1 g q1 q5 P1) ++ wiX4 g q4 q5 P4) ++ wiX3 g q3 P3) ++ [(qd, .inl (g.2.2.1, 2, .inr (.inl (fun _ => i64 0))))]) ++ [(ql, .inl (g.2.1, 4, .inl (fun _ => i32 0)))]) : va_W)) rfl ?_
  refine e_aload_n (CC _) 0 dX9_init_126 rfl ?_
  refine e_bipush (CC _) dX9_init_127 (by decide) ?_
  refine v_newI (N := 24) (CC _) (by decide) (by omega) (by omega) dX9_init_129 (fun qg => ?_)
  refine v_put (kf := 10) (ci := 9) (q0 := 0) (CC _) inG9 tyX9 tyX9_ok nmX9 rfl rfl (by decide) (tg2 197 rfl rfl) (Or.inr ⟨rfl, hnm, rfl⟩) rfl rfl rfl (Nat.le_of_ble_eq_true rfl) dX9_init_131 ?_
  refine e_eqW (ws' := ((b, .inr (9, [.ref q5, .ref q7, .ref q6, .ref q0, .ref q8, .ref q1, .ref q4, .ref q3, .ref qd, .ref ql, .ref qg, vI 0])) :: ((((((((((wiX5 g q5 P5 ++ wiX7 g q7 P7) ++ wiX6 g q6 q5 P6) ++ wiX0 g q0 q5 q6 P0) ++ wiX8 g q8 P8) ++ wiX1 g q1 q5 P1) ++ wiX4 g q4 q5 P4) ++ wiX3 g q3 P3) ++ [(qd, .inl (g.2.2.1, 2, .inr (.inl (fun _ => i64 0))))]) ++ [(ql, .inl (g.2.1, 4, .inl (fun _ => i32 0)))]) ++ [(qg, .inl (g.2.1, 24, .inl (fun _ => i32 0)))]) : va_W)) rfl ?_
  refine e_aload_n (CC _) 0 dX9_init_134 rfl ?_
  refine e_iconst (CC _) dX9_init_135 ?_
  refine v_put (kf := 11) (ci := 9) (q0 := 0) (CC _) inG9 tyX9 tyX9_ok nmX9 rfl rfl (by decide) (tg2 198 rfl rfl) (Or.inl rfl) rfl rfl rfl (Nat.le_of_ble_eq_true rfl) dX9_init_136 ?_
  refine e_eqW (ws' := ((b, .inr (9, rf9 (ad9 (ad9L b q5 q7 q6 q0 q8 q1 q4 q3 qd ql qg P5 P7 P6 P8 P1 P4 P3) P5))) :: (wiX5 g q5 P5 ++ made9 g b q5 q7 q6 q0 q8 q1 q4 q3 qd ql qg P5 P7 P6 P0 P8 P1 P4 P3) : va_W)) ?_ (world9 ?_)
  · show ((b, .inr (9, [.ref q5, .ref q7, .ref q6, .ref q0, .ref q8, .ref q1, .ref q4, .ref q3, .ref qd, .ref ql, .ref qg, vI 0])) :: ((((((((((wiX5 g q5 P5 ++ wiX7 g q7 P7) ++ wiX6 g q6 q5 P6) ++ wiX0 g q0 q5 q6 P0) ++ wiX8 g q8 P8) ++ wiX1 g q1 q5 P1) ++ wiX4 g q4 q5 P4) ++ wiX3 g q3 P3) ++ [(qd, .inl (g.2.2.1, 2, .inr (.inl (fun _ => i64 0))))]) ++ [(ql, .inl (g.2.1, 4, .inl (fun _ => i32 0)))]) ++ [(qg, .inl (g.2.1, 24, .inl (fun _ => i32 0)))]) : va_W) = _
    unfold made9
    simp only [List.append_assoc]
    rfl
  · exact kk _ _ rfl _ rm9 (fun c i hc => Mi9_0 hc)
