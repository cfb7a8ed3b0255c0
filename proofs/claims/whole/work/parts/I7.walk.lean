/-! ===== the law's beginning ===== -/
theorem l_walk {g : Gs} {sk : (Nat → Nat) × (Nat → Nat)} {b L : Nat} {xs : Nat → Int32} {X : Cx} (CL : ∀ ws, OkH (fun _ => True) (wV g (KH sk) ws) X cL_law RL 7 20 601024 7293034) (SX : SxL X b L xs) (hst : (lnc X).stackTraces = false) (hL : L ≤ 2048) (kend : ∀ ws k n lv, k ≤ 601024 → n ≤ 7293034 → E (wV g (KH sk) ws) X k n M0 2043 lv []) : E (wV g (KH sk) []) X 0 0 M0 0 [(0, .ref b)] [] := by
  refine h_new (ci := 9) (fs := dfX9) (T := TX9) (N := 12) (CL _) inG9 tyX9 tyX9_ok (tg1 25 rfl rfl) (tg1 26 rfl rfl) (tg1 1 rfl rfl) rfl (by decide +kernel) (Nat.le_of_ble_eq_true rfl) (Nat.le_of_ble_eq_true rfl) dL_law_0 (fun q1 => ?_)
  refine h_dup (CL _) rfl dL_law_3 ?_
  refine h_ctor (w := wNX9 g sk q1) (ws := []) (As := []) (rest := [.ref q1]) (CL _) hst rfl rfl (fun _ _ h => h.1) (kI_mv (g := g) (ad := fun _ => 0) rfl) (Or.inl rfl) mi_X9_init rfl (tg1 28 rfl rfl) (tg1 27 rfl rfl) ci_X9 (by decide) (Nat.le_of_ble_eq_true rfl) (Nat.le_of_ble_eq_true rfl) (Nat.le_of_ble_eq_true rfl) dL_law_4 rfl (fun P1 hP1 rP1 => ?_) (fun v M1 h => h.1)
  obtain ⟨-, a1, a2, a3, a4⟩ := hP1
  rw [show (wNX9 g sk q1).2.2.1 P1 = wlX g (adP P1) (pkM P1) from if_neg (by rw [a1]; decide)]
  refine h_astore_n (lv' := [(1, .ref q1), (0, .ref b)]) (CL _) dL_law_7 (by decide) rfl ?_
  refine h_new (ci := 10) (fs := dfX10) (T := TX10) (N := 64) (CL _) inG10 tyX10 tyX10_ok (tg5 161 rfl rfl) (tg5 162 rfl rfl) (tg1 13 rfl rfl) rfl (by decide +kernel) (Nat.le_of_ble_eq_true rfl) (Nat.le_of_ble_eq_true rfl) dL_law_8 (fun q2 => ?_)
  refine h_dup (CL _) rfl dL_law_11 ?_
  refine h_ctor (w := wNM g sk q2) (ws := [] ++ wlX g (adP P1) (pkM P1)) (As := []) (rest := [.ref q2]) (CL _) hst rfl rfl (fun _ _ h => h.1) (kI_mv (g := g) (ad := fun _ => 0) rfl) (Or.inl rfl) mi_X10_init rfl (tg5 164 rfl rfl) (tg5 163 rfl rfl) ci_X10 (by decide) (Nat.le_of_ble_eq_true rfl) (Nat.le_of_ble_eq_true rfl) (Nat.le_of_ble_eq_true rfl) dL_law_12 rfl (fun P2 hP2 rP2 => ?_) (fun v M1 h => h.1)
  obtain ⟨-, b1, b2, b3⟩ := hP2
  have b4 : RMm (pkM P2) := rP2.resolve_left (by rw [b1]; decide)
  rw [show (wNM g sk q2).2.2.1 P2 = wlM g (adP P2) (pkM P2) from if_neg (by rw [b1]; decide)]
  refine h_astore_n (lv' := [(2, .ref q2), (1, .ref q1), (0, .ref b)]) (CL _) dL_law_15 (by decide) rfl ?_
  refine h_iconst (CL _) dL_law_16 ?_
  refine h_newJ (N := 1) (CL _) (by decide) (Nat.le_of_ble_eq_true rfl) (Nat.le_of_ble_eq_true rfl) dL_law_17 (fun q3 => ?_)
  refine h_astore_n (lv' := [(3, .ref q3), (2, .ref q2), (1, .ref q1), (0, .ref b)]) (CL _) dL_law_19 (by decide) rfl ?_
  refine h_iconst (CL _) dL_law_20 ?_
  refine h_istore (lv' := [(4, vI 0), (3, .ref q3), (2, .ref q2), (1, .ref q1), (0, .ref b)]) (CL _) dL_law_21 (by decide) rfl ?_
  subst a2
  subst b2
  refine e_sub [4, 3, 2, 1, 0] rfl ?_
  have pm : ((([] ++ wlX g (adP P1) (pkM P1)) ++ wlM g (adP P2) (pkM P2)) ++ [oC g q3 0]).Perm (LW g (adP P1) (adP P2) q3 (pkM P1) (pkM P2) 0) := by
    rw [List.nil_append]
    refine (List.Perm.append_right _ List.perm_append_comm).trans ?_
    rw [List.append_assoc]
    exact List.Perm.append_left _ List.perm_append_comm
  refine e_perm (M := M0) pm ?_
  refine e_wid (k' := 400 + 0 + lkC (adP P1)) (n' := 600000 + 6 * 0 + lkS (adP P1)) (Nat.le_trans (Nat.le_of_ble_eq_true rfl : 0 + 1 + 283 + 1 + 37 + 1 ≤ 400 + 0) (Nat.le_add_right _ _)) (Nat.le_trans (Nat.le_of_ble_eq_true rfl : 0 + 12 + 3055 + 64 + 588736 + 1 ≤ 600000 + 6 * 0) (Nat.le_add_right _ _)) ?_
  exact l_loop CL SX hst hL kend 512 0 (adP P1) (pkM P1) (pkM P2) 0 (by decide) (by decide) (jn_start a4 b3) a3 b4
