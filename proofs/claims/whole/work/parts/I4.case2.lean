/-! ===== the law's cases, the others ===== -/
theorem lb_add {g : Gs} {ad ad2 : Nat → Nat} {sk : (Nat → Nat) × (Nat → Nat)} {ao b L : Nat} {xs : Nat → Int32} {X : Cx} {k n : Nat} {A M : Mem} {o i : Int} {R : Int → Int → Mem → Prop} {S : Int → Mem → Prop} {ma na : Nat} (CL : ∀ ws, OkH (fun _ => True) (wV g (KH sk) ws) X cL_law RL 7 20 601024 7293034) (SX : SxL X b L xs) (hst : (lnc X).stackTraces = false) (hL : L ≤ 2048) (hi : 0 ≤ i ∧ i + 4 ≤ L) (rA : RMx ad A) (rM : RMm M) (hk : k + ma ≤ 601024) (hn : n + na ≤ 7293034) (hx : ∀ l : Launch, l.stackTraces = false → Ct (wC g ad sk) l yX9_add cX9_add 2 (some .int) 2 ma na [.ref (ad 0), vI (sx xs (i + 1))] A (fun v B => ∃ z : Int, v = some (vI z) ∧ Res R 0 z B ∧ S z B) (fun e B => (e = eIO ∧ Res R 1 0 B) ∨ (e = eIS ∧ Res R 2 0 B))) (hm : SpI (wM g ad2) yX10_add cX10_add 2 (some .int) 3 [.ref (ad2 0), vI (sx xs (i + 1))] M (fun r N => R (N 20 0) r N)) (kk : ∀ A' M' o', RMx ad A' → RMm M' → Jn A' M' → (∃ r, R (M' 20 0) r M') → (M' 20 0 = 0 → ∃ z, S z A') → E (wV g (KH sk) (LW g ad ad2 ao A' M' o')) X (k + ma) (n + na) M0 2037 [(0, .ref b), (1, .ref (ad 0)), (2, .ref (ad2 0)), (3, .ref ao), (4, vI i)] []) : E (wV g (KH sk) (LW g ad ad2 ao A M o)) X k n M0 1269 [(0, .ref b), (1, .ref (ad 0)), (2, .ref (ad2 0)), (3, .ref ao), (4, vI i)] [] := by
  refine h_aload_n (CL _) 1 dL_law_1269 rfl ?_
  refine h_aload_n (CL _) 0 dL_law_1270 rfl ?_
  refine h_iload (CL _) 4 dL_law_1271 rfl ?_
  refine h_iconst (CL _) dL_law_1273 ?_
  refine h_iadd (CL _) dL_law_1274 ?_
  refine h_sld (CL _) SX hL (by omega) dL_law_1275 ?_
  refine h_aload_n (CL _) 3 dL_law_1276 rfl ?_
  refine v_callH (g := g) (KK := KH sk) (w := wH g ad sk ao) (ws := wlM g ad2 M) (M := oP o A) (M9 := M0) (As := [.ref (ad 0), vI (sx xs (i + 1)), .ref ao]) (rest := []) (CL _) rfl rfl (fun _ _ h => h) (kH_mv g rfl) rA mh_add (tg4 188 rfl rfl) (hl_add (P := oP o A) hx (lnc X) hst) (by decide) (Nat.le_of_ble_eq_true rfl) hk hn dL_law_1277 rfl (fun v9 P1 hq rP => ?_)
  obtain ⟨kr, r, e1, hR, hz, hk3⟩ := hq
  subst e1
  refine h_istore (lv' := [(5, vI kr), (0, .ref b), (1, .ref (ad 0)), (2, .ref (ad2 0)), (3, .ref ao), (4, vI i)]) (CL _) dL_law_1280 (by decide) rfl ?_
  refine e_perm (M := M0) (List.perm_append_comm (l₁ := wlM g ad2 M) (l₂ := oC g ao (P1 0 0) :: wlX g ad (cX P1))) ?_
  refine h_aload_n (CL _) 3 dL_law_1282 rfl ?_
  refine h_aload_n (CL _) 1 dL_law_1283 rfl ?_
  refine h_iload (CL _) 5 dL_law_1284 rfl ?_
  refine h_iconst (CL _) dL_law_1286 ?_
  refine h_iadd (CL _) dL_law_1287 ?_
  refine h_sld (CL _) SX hL (by omega) dL_law_1288 ?_
  refine v_callV (g := g) (KK := KH sk) (w := wM g ad2) (ws := oC g ao (P1 0 0) :: wlX g ad (cX P1)) (M := M) (M9 := M0) (As := [vI (sx xs (i + 1))]) (rest := []) (q0 := 0) (ci := 10) (CL _) rfl rfl (fun _ _ _ => trivial) (wM_mv g ad2) rM mi_X10_add ms_X10_add mv_X10_add (tg7 82 rfl rfl) (hm (lnc X) hst) rfl rfl (by decide) (Nat.le_of_ble_eq_true rfl) hk hn dL_law_1289 rfl (fun v8 N hN rN => ?_)
  obtain ⟨z, e2, hRN⟩ := hN
  subst e2
  obtain ⟨q1, q2, q3⟩ := hR _ _ _ hRN
  refine h_istore (lv' := [(6, vI z), (5, vI kr), (0, .ref b), (1, .ref (ad 0)), (2, .ref (ad2 0)), (3, .ref ao), (4, vI i)]) (CL _) dL_law_1292 (by decide) rfl ?_
  refine h_aload_n (CL _) 4 dL_law_1294 rfl ?_
  refine v_callV (g := g) (KK := KH sk) (w := wM g ad2) (ws := oC g ao (P1 0 0) :: wlX g ad (cX P1)) (M := N) (M9 := M0) (As := []) (rest := []) (q0 := 0) (ci := 10) (CL _) rfl rfl (fun _ _ _ => trivial) (wM_mv g ad2) rN mi_X10_thrown ms_X10_thrown mv_X10_thrown (tg6 202 rfl rfl) (m_thrown (lnc X) hst) rfl rfl (by decide) (Nat.le_of_ble_eq_true rfl) hk hn dL_law_1295 rfl (fun v7 N7 h7 r7 => ?_)
  obtain ⟨e3, e4⟩ := h7
  subst e3
  replace e4 := e4.symm
  subst e4
  refine h_iload (CL _) 1 dL_law_1298 rfl ?_
  refine h_icmp_same (CL _) 1305 q1 dL_law_1300 (by decide) ?_
  refine h_iload (CL _) 1 dL_law_1305 rfl ?_
  have fin : E (wV g (KH sk) ((oC g ao (P1 0 0) :: wlX g ad (cX P1)) ++ wlM g ad2 N)) X (k + ma) (n + na) M0 1322 [(6, vI z), (5, vI kr), (0, .ref b), (1, .ref (ad 0)), (2, .ref (ad2 0)), (3, .ref ao), (4, vI i)] [] := by
    refine h_goto (CL _) 2037 dL_law_1322 (by decide) ?_
    refine e_sub [2, 3, 4, 5, 6] rfl ?_
    refine e_perm (M := M0) (List.perm_append_comm (l₁ := oC g ao (P1 0 0) :: wlX g ad (cX P1)) (l₂ := wlM g ad2 N)) ?_
    exact kk (cX P1) N (P1 0 0) rP rN q3 ⟨z, hRN⟩ (fun h => ⟨r, (hz (q1.symm.trans h)).2⟩)
  refine h_if_ne (CL _) 1322 (by omega) dL_law_1307 (by decide) (fun _ => fin) (fun h0 => ?_)
  have w1 := (hz h0).1
  have w2 := q2 h0
  refine h_aload_n (CL _) 5 dL_law_1310 rfl ?_
  refine h_iconst (CL _) dL_law_1311 ?_
  refine h_lald (q0 := 0) (t0 := 1) (len := 1) (x := P1 0 0) (CL _) rfl rfl (by decide) (by decide) rfl dL_law_1312 ?_
  refine h_iload (CL _) 0 dL_law_1313 rfl ?_
  refine h_i2n (CL _) dL_law_1315 ?_
  refine h_lcmp_same (CL _) (by rw [w1, w2]) dL_law_1316 ?_
  exact h_if_eq (CL _) 1322 (by decide) dL_law_1317 (by decide) (fun _ => fin) (fun h => absurd rfl h)
theorem lb_remove {g : Gs} {ad ad2 : Nat → Nat} {sk : (Nat → Nat) × (Nat → Nat)} {ao b L : Nat} {xs : Nat → Int32} {X : Cx} {k n : Nat} {A M : Mem} {o i : Int} {R : Int → Int → Mem → Prop} {S : Int → Mem → Prop} {ma na : Nat} (CL : ∀ ws, OkH (fun _ => True) (wV g (KH sk) ws) X cL_law RL 7 20 601024 7293034) (SX : SxL X b L xs) (hst : (lnc X).stackTraces = false) (hL : L ≤ 2048) (hi : 0 ≤ i ∧ i + 4 ≤ L) (rA : RMx ad A) (rM : RMm M) (hk : k + ma ≤ 601024) (hn : n + na ≤ 7293034) (hx : ∀ l : Launch, l.stackTraces = false → Ct (wC g ad sk) l yX9_remove cX9_remove 2 (some .int) 2 ma na [.ref (ad 0), vI (sx xs (i + 1))] A (fun v B => ∃ z : Int, v = some (vI z) ∧ Res R 0 z B ∧ S z B) (fun e B => e = eIO ∧ Res R 1 0 B)) (hm : SpI (wM g ad2) yX10_remove cX10_remove 4 (some .int) 3 [.ref (ad2 0), vI (sx xs (i + 1))] M (fun r N => R (N 20 0) r N)) (kk : ∀ A' M' o', RMx ad A' → RMm M' → Jn A' M' → (∃ r, R (M' 20 0) r M') → (M' 20 0 = 0 → ∃ z, S z A') → E (wV g (KH sk) (LW g ad ad2 ao A' M' o')) X (k + ma) (n + na) M0 2037 [(0, .ref b), (1, .ref (ad 0)), (2, .ref (ad2 0)), (3, .ref ao), (4, vI i)] []) : E (wV g (KH sk) (LW g ad ad2 ao A M o)) X k n M0 1325 [(0, .ref b), (1, .ref (ad 0)), (2, .ref (ad2 0)), (3, .ref ao), (4, vI i)] [] := by
  refine h_aload_n (CL _) 1 dL_law_1325 rfl ?_
  refine h_aload_n (CL _) 0 dL_law_1326 rfl ?_
  refine h_iload (CL _) 4 dL_law_1327 rfl ?_
  refine h_iconst (CL _) dL_law_1329 ?_
  refine h_iadd (CL _) dL_law_1330 ?_
  refine h_sld (CL _) SX hL (by omega) dL_law_1331 ?_
  refine h_aload_n (CL _) 3 dL_law_1332 rfl ?_
  refine v_callH (g := g) (KK := KH sk) (w := wH g ad sk ao) (ws := wlM g ad2 M) (M := oP o A) (M9 := M0) (As := [.ref (ad 0), vI (sx xs (i + 1)), .ref ao]) (rest := []) (CL _) rfl rfl (fun _ _ h => h) (kH_mv g rfl) rA mh_remove (tg4 196 rfl rfl) (hl_remove (P := oP o A) hx (lnc X) hst) (by decide) (Nat.le_of_ble_eq_true rfl) hk hn dL_law_1333 rfl (fun v9 P1 hq rP => ?_)
  obtain ⟨kr, r, e1, hR, hz, hk3⟩ := hq
  subst e1
  refine h_istore (lv' := [(5, vI kr), (0, .ref b), (1, .ref (ad 0)), (2, .ref (ad2 0)), (3, .ref ao), (4, vI i)]) (CL _) dL_law_1336 (by decide) rfl ?_
  refine e_perm (M := M0) (List.perm_append_comm (l₁ := wlM g ad2 M) (l₂ := oC g ao (P1 0 0) :: wlX g ad (cX P1))) ?_
  refine h_aload_n (CL _) 3 dL_law_1338 rfl ?_
  refine h_aload_n (CL _) 1 dL_law_1339 rfl ?_
  refine h_iload (CL _) 5 dL_law_1340 rfl ?_
  refine h_iconst (CL _) dL_law_1342 ?_
  refine h_iadd (CL _) dL_law_1343 ?_
  refine h_sld (CL _) SX hL (by omega) dL_law_1344 ?_
  refine v_callV (g := g) (KK := KH sk) (w := wM g ad2) (ws := oC g ao (P1 0 0) :: wlX g ad (cX P1)) (M := M) (M9 := M0) (As := [vI (sx xs (i + 1))]) (rest := []) (q0 := 0) (ci := 10) (CL _) rfl rfl (fun _ _ _ => trivial) (wM_mv g ad2) rM mi_X10_remove ms_X10_remove mv_X10_remove (tg7 86 rfl rfl) (hm (lnc X) hst) rfl rfl (by decide) (Nat.le_of_ble_eq_true rfl) hk hn dL_law_1345 rfl (fun v8 N hN rN => ?_)
  obtain ⟨z, e2, hRN⟩ := hN
  subst e2
  obtain ⟨q1, q2, q3⟩ := hR _ _ _ hRN
  refine h_istore (lv' := [(6, vI z), (5, vI kr), (0, .ref b), (1, .ref (ad 0)), (2, .ref (ad2 0)), (3, .ref ao), (4, vI i)]) (CL _) dL_law_1348 (by decide) rfl ?_
  refine h_aload_n (CL _) 4 dL_law_1350 rfl ?_
  refine v_callV (g := g) (KK := KH sk) (w := wM g ad2) (ws := oC g ao (P1 0 0) :: wlX g ad (cX P1)) (M := N) (M9 := M0) (As := []) (rest := []) (q0 := 0) (ci := 10) (CL _) rfl rfl (fun _ _ _ => trivial) (wM_mv g ad2) rN mi_X10_thrown ms_X10_thrown mv_X10_thrown (tg6 202 rfl rfl) (m_thrown (lnc X) hst) rfl rfl (by decide) (Nat.le_of_ble_eq_true rfl) hk hn dL_law_1351 rfl (fun v7 N7 h7 r7 => ?_)
  obtain ⟨e3, e4⟩ := h7
  subst e3
  replace e4 := e4.symm
  subst e4
  refine h_iload (CL _) 1 dL_law_1354 rfl ?_
  refine h_icmp_same (CL _) 1361 q1 dL_law_1356 (by decide) ?_
  refine h_iload (CL _) 1 dL_law_1361 rfl ?_
  have fin : E (wV g (KH sk) ((oC g ao (P1 0 0) :: wlX g ad (cX P1)) ++ wlM g ad2 N)) X (k + ma) (n + na) M0 1378 [(6, vI z), (5, vI kr), (0, .ref b), (1, .ref (ad 0)), (2, .ref (ad2 0)), (3, .ref ao), (4, vI i)] [] := by
    refine h_goto (CL _) 2037 dL_law_1378 (by decide) ?_
    refine e_sub [2, 3, 4, 5, 6] rfl ?_
    refine e_perm (M := M0) (List.perm_append_comm (l₁ := oC g ao (P1 0 0) :: wlX g ad (cX P1)) (l₂ := wlM g ad2 N)) ?_
    exact kk (cX P1) N (P1 0 0) rP rN q3 ⟨z, hRN⟩ (fun h => ⟨r, (hz (q1.symm.trans h)).2⟩)
  refine h_if_ne (CL _) 1378 (by omega) dL_law_1363 (by decide) (fun _ => fin) (fun h0 => ?_)
  have w1 := (hz h0).1
  have w2 := q2 h0
  refine h_aload_n (CL _) 5 dL_law_1366 rfl ?_
  refine h_iconst (CL _) dL_law_1367 ?_
  refine h_lald (q0 := 0) (t0 := 1) (len := 1) (x := P1 0 0) (CL _) rfl rfl (by decide) (by decide) rfl dL_law_1368 ?_
  refine h_iload (CL _) 0 dL_law_1369 rfl ?_
  refine h_i2n (CL _) dL_law_1371 ?_
  refine h_lcmp_same (CL _) (by rw [w1, w2]) dL_law_1372 ?_
  exact h_if_eq (CL _) 1378 (by decide) dL_law_1373 (by decide) (fun _ => fin) (fun h => absurd rfl h)
theorem lb_components {g : Gs} {ad ad2 : Nat → Nat} {sk : (Nat → Nat) × (Nat → Nat)} {ao b L : Nat} {xs : Nat → Int32} {X : Cx} {k n : Nat} {A M : Mem} {o i : Int} {R : Int → Int → Mem → Prop} (CL : ∀ ws, OkH (fun _ => True) (wV g (KH sk) ws) X cL_law RL 7 20 601024 7293034) (SX : SxL X b L xs) (hst : (lnc X).stackTraces = false) (hL : L ≤ 2048) (hi : 0 ≤ i ∧ i + 4 ≤ L) (rA : RMx ad A) (rM : RMm M) (hk : k ≤ 601024) (hn : n ≤ 7293034) (hx : SpI (wC g ad sk) yX9_components cX9_components 1 (some .int) 1 [.ref (ad 0)] A (fun r B => Res R 0 r B)) (hm : SpI (wM g ad2) yX10_components cX10_components 1 (some .int) 1 [.ref (ad2 0)] M (fun r N => R (N 20 0) r N)) (kk : ∀ A' M', RMx ad A' → RMm M' → Jn A' M' → E (wV g (KH sk) (LW g ad ad2 ao A' M' o)) X k n M0 2037 [(0, .ref b), (1, .ref (ad 0)), (2, .ref (ad2 0)), (3, .ref ao), (4, vI i)] []) : E (wV g (KH sk) (LW g ad ad2 ao A M o)) X k n M0 1381 [(0, .ref b), (1, .ref (ad 0)), (2, .ref (ad2 0)), (3, .ref ao), (4, vI i)] [] := by
  refine h_aload_n (CL _) 1 dL_law_1381 rfl ?_
  refine e_eqW (List.append_assoc (wlM g ad2 M) [oC g ao o] (wlX g ad A)).symm ?_
  refine v_callV (g := g) (KK := KH sk) (w := wC g ad sk) (ws := wlM g ad2 M ++ [oC g ao o]) (M := A) (M9 := M0) (As := []) (rest := []) (q0 := 0) (ci := 9) (CL _) rfl rfl (fun _ _ h => h.1.1) (wC_mv g ad sk) rA mi_X9_components ms_X9_components mv_X9_components (tg2 233 rfl rfl) (hx (lnc X) hst) (wlX_st rfl) rfl (by decide) (Nat.le_of_ble_eq_true rfl) hk hn dL_law_1382 rfl (fun v9 B hB rB => ?_)
  obtain ⟨r, e1, hR⟩ := hB
  subst e1
  refine e_eqW (List.append_assoc (wlM g ad2 M) [oC g ao o] (wlX g ad B)) ?_
  refine e_perm (M := M0) (List.perm_append_comm (l₁ := wlM g ad2 M) (l₂ := oC g ao o :: wlX g ad B)) ?_
  refine h_aload_n (CL _) 2 dL_law_1385 rfl ?_
  refine v_callV (g := g) (KK := KH sk) (w := wM g ad2) (ws := oC g ao o :: wlX g ad B) (M := M) (M9 := M0) (As := []) (rest := [vI r]) (q0 := 0) (ci := 10) (CL _) rfl rfl (fun _ _ _ => trivial) (wM_mv g ad2) rM mi_X10_components ms_X10_components mv_X10_components (tg7 94 rfl rfl) (hm (lnc X) hst) rfl rfl (by decide) (Nat.le_of_ble_eq_true rfl) hk hn dL_law_1386 rfl (fun v8 N hN rN => ?_)
  obtain ⟨z, e2, hRN⟩ := hN
  subst e2
  obtain ⟨q1, q2, q3⟩ := hR _ _ _ hRN
  have q4 := (q2 rfl).symm
  have fin : E (wV g (KH sk) ((oC g ao o :: wlX g ad B) ++ wlM g ad2 N)) X k n M0 2037 [(0, .ref b), (1, .ref (ad 0)), (2, .ref (ad2 0)), (3, .ref ao), (4, vI i)] [] := e_perm (M := M0) (List.perm_append_comm (l₁ := oC g ao o :: wlX g ad B) (l₂ := wlM g ad2 N)) (kk B N rB rN q3)
  exact h_icmp_same (CL _) 2037 q4 dL_law_1389 (by decide) fin
theorem lb_component {g : Gs} {ad ad2 : Nat → Nat} {sk : (Nat → Nat) × (Nat → Nat)} {ao b L : Nat} {xs : Nat → Int32} {X : Cx} {k n : Nat} {A M : Mem} {o i : Int} {R : Int → Int → Mem → Prop} {S : Int → Mem → Prop} {ma na : Nat} (CL : ∀ ws, OkH (fun _ => True) (wV g (KH sk) ws) X cL_law RL 7 20 601024 7293034) (SX : SxL X b L xs) (hst : (lnc X).stackTraces = false) (hL : L ≤ 2048) (hi : 0 ≤ i ∧ i + 4 ≤ L) (rA : RMx ad A) (rM : RMm M) (hk : k + ma ≤ 601024) (hn : n + na ≤ 7293034) (hx : ∀ l : Launch, l.stackTraces = false → Ct (wC g ad sk) l yX9_component cX9_component 2 (some .int) 2 ma na [.ref (ad 0), vI (sx xs (i + 1))] A (fun v B => ∃ z : Int, v = some (vI z) ∧ Res R 0 z B ∧ S z B) (fun e B => e = eIO ∧ Res R 1 0 B)) (hm : SpI (wM g ad2) yX10_component cX10_component 2 (some .int) 3 [.ref (ad2 0), vI (sx xs (i + 1))] M (fun r N => R (N 20 0) r N)) (kk : ∀ A' M' o', RMx ad A' → RMm M' → Jn A' M' → (∃ r, R (M' 20 0) r M') → (M' 20 0 = 0 → ∃ z, S z A') → E (wV g (KH sk) (LW g ad ad2 ao A' M' o')) X (k + ma) (n + na) M0 2037 [(0, .ref b), (1, .ref (ad 0)), (2, .ref (ad2 0)), (3, .ref ao), (4, vI i)] []) : E (wV g (KH sk) (LW g ad ad2 ao A M o)) X k n M0 1394 [(0, .ref b), (1, .ref (ad 0)), (2, .ref (ad2 0)), (3, .ref ao), (4, vI i)] [] := by
  refine h_aload_n (CL _) 1 dL_law_1394 rfl ?_
  refine h_aload_n (CL _) 0 dL_law_1395 rfl ?_
  refine h_iload (CL _) 4 dL_law_1396 rfl ?_
  refine h_iconst (CL _) dL_law_1398 ?_
  refine h_iadd (CL _) dL_law_1399 ?_
  refine h_sld (CL _) SX hL (by omega) dL_law_1400 ?_
  refine h_aload_n (CL _) 3 dL_law_1401 rfl ?_
  refine v_callH (g := g) (KK := KH sk) (w := wH g ad sk ao) (ws := wlM g ad2 M) (M := oP o A) (M9 := M0) (As := [.ref (ad 0), vI (sx xs (i + 1)), .ref ao]) (rest := []) (CL _) rfl rfl (fun _ _ h => h) (kH_mv g rfl) rA mh_component (tg4 212 rfl rfl) (hl_component (P := oP o A) hx (lnc X) hst) (by decide) (Nat.le_of_ble_eq_true rfl) hk hn dL_law_1402 rfl (fun v9 P1 hq rP => ?_)
  obtain ⟨kr, r, e1, hR, hz, hk3⟩ := hq
  subst e1
  refine h_istore (lv' := [(5, vI kr), (0, .ref b), (1, .ref (ad 0)), (2, .ref (ad2 0)), (3, .ref ao), (4, vI i)]) (CL _) dL_law_1405 (by decide) rfl ?_
  refine e_perm (M := M0) (List.perm_append_comm (l₁ := wlM g ad2 M) (l₂ := oC g ao (P1 0 0) :: wlX g ad (cX P1))) ?_
  refine h_aload_n (CL _) 3 dL_law_1407 rfl ?_
  refine h_aload_n (CL _) 1 dL_law_1408 rfl ?_
  refine h_iload (CL _) 5 dL_law_1409 rfl ?_
  refine h_iconst (CL _) dL_law_1411 ?_
  refine h_iadd (CL _) dL_law_1412 ?_
  refine h_sld (CL _) SX hL (by omega) dL_law_1413 ?_
  refine v_callV (g := g) (KK := KH sk) (w := wM g ad2) (ws := oC g ao (P1 0 0) :: wlX g ad (cX P1)) (M := M) (M9 := M0) (As := [vI (sx xs (i + 1))]) (rest := []) (q0 := 0) (ci := 10) (CL _) rfl rfl (fun _ _ _ => trivial) (wM_mv g ad2) rM mi_X10_component ms_X10_component mv_X10_component (tg7 98 rfl rfl) (hm (lnc X) hst) rfl rfl (by decide) (Nat.le_of_ble_eq_true rfl) hk hn dL_law_1414 rfl (fun v8 N hN rN => ?_)
  obtain ⟨z, e2, hRN⟩ := hN
  subst e2
  obtain ⟨q1, q2, q3⟩ := hR _ _ _ hRN
  refine h_istore (lv' := [(6, vI z), (5, vI kr), (0, .ref b), (1, .ref (ad 0)), (2, .ref (ad2 0)), (3, .ref ao), (4, vI i)]) (CL _) dL_law_1417 (by decide) rfl ?_
  refine h_aload_n (CL _) 4 dL_law_1419 rfl ?_
  refine v_callV (g := g) (KK := KH sk) (w := wM g ad2) (ws := oC g ao (P1 0 0) :: wlX g ad (cX P1)) (M := N) (M9 := M0) (As := []) (rest := []) (q0 := 0) (ci := 10) (CL _) rfl rfl (fun _ _ _ => trivial) (wM_mv g ad2) rN mi_X10_thrown ms_X10_thrown mv_X10_thrown (tg6 202 rfl rfl) (m_thrown (lnc X) hst) rfl rfl (by decide) (Nat.le_of_ble_eq_true rfl) hk hn dL_law_1420 rfl (fun v7 N7 h7 r7 => ?_)
  obtain ⟨e3, e4⟩ := h7
  subst e3
  replace e4 := e4.symm
  subst e4
  refine h_iload (CL _) 1 dL_law_1423 rfl ?_
  refine h_icmp_same (CL _) 1430 q1 dL_law_1425 (by decide) ?_
  refine h_iload (CL _) 1 dL_law_1430 rfl ?_
  have fin : E (wV g (KH sk) ((oC g ao (P1 0 0) :: wlX g ad (cX P1)) ++ wlM g ad2 N)) X (k + ma) (n + na) M0 1447 [(6, vI z), (5, vI kr), (0, .ref b), (1, .ref (ad 0)), (2, .ref (ad2 0)), (3, .ref ao), (4, vI i)] [] := by
    refine h_goto (CL _) 2037 dL_law_1447 (by decide) ?_
    refine e_sub [2, 3, 4, 5, 6] rfl ?_
    refine e_perm (M := M0) (List.perm_append_comm (l₁ := oC g ao (P1 0 0) :: wlX g ad (cX P1)) (l₂ := wlM g ad2 N)) ?_
    exact kk (cX P1) N (P1 0 0) rP rN q3 ⟨z, hRN⟩ (fun h => ⟨r, (hz (q1.symm.trans h)).2⟩)
  refine h_if_ne (CL _) 1447 (by omega) dL_law_1432 (by decide) (fun _ => fin) (fun h0 => ?_)
  have w1 := (hz h0).1
  have w2 := q2 h0
  refine h_aload_n (CL _) 5 dL_law_1435 rfl ?_
  refine h_iconst (CL _) dL_law_1436 ?_
  refine h_lald (q0 := 0) (t0 := 1) (len := 1) (x := P1 0 0) (CL _) rfl rfl (by decide) (by decide) rfl dL_law_1437 ?_
  refine h_iload (CL _) 0 dL_law_1438 rfl ?_
  refine h_i2n (CL _) dL_law_1440 ?_
  refine h_lcmp_same (CL _) (by rw [w1, w2]) dL_law_1441 ?_
  exact h_if_eq (CL _) 1447 (by decide) dL_law_1442 (by decide) (fun _ => fin) (fun h => absurd rfl h)
theorem lb_move {g : Gs} {ad ad2 : Nat → Nat} {sk : (Nat → Nat) × (Nat → Nat)} {ao b L : Nat} {xs : Nat → Int32} {X : Cx} {k n : Nat} {A M : Mem} {o i : Int} {R : Int → Int → Mem → Prop} {S : Int → Mem → Prop} {ma na : Nat} (CL : ∀ ws, OkH (fun _ => True) (wV g (KH sk) ws) X cL_law RL 7 20 601024 7293034) (SX : SxL X b L xs) (hst : (lnc X).stackTraces = false) (hL : L ≤ 2048) (hi : 0 ≤ i ∧ i + 4 ≤ L) (rA : RMx ad A) (rM : RMm M) (hk : k + ma ≤ 601024) (hn : n + na ≤ 7293034) (hx : ∀ l : Launch, l.stackTraces = false → Ct (wC g ad sk) l yX9_move cX9_move 6 (some .int) 2 ma na [.ref (ad 0), vI (sx xs (i + 1)), vI (sx xs (i + 2)), vI (sx xs (i + 3))] A (fun v B => ∃ z : Int, v = some (vI z) ∧ Res R 0 z B ∧ S z B) (fun e B => (e = eIO ∧ Res R 1 0 B) ∨ (e = eIA ∧ Res R 2 0 B) ∨ (e = eIS ∧ Res R 3 0 B))) (hm : SpI (wM g ad2) yX10_move cX10_move 6 (some .int) 3 [.ref (ad2 0), vI (sx xs (i + 1)), vI (sx xs (i + 2)), vI (sx xs (i + 3))] M (fun r N => R (N 20 0) r N)) (kk : ∀ A' M' o', RMx ad A' → RMm M' → Jn A' M' → (∃ r, R (M' 20 0) r M') → (M' 20 0 = 0 → ∃ z, S z A') → E (wV g (KH sk) (LW g ad ad2 ao A' M' o')) X (k + ma) (n + na) M0 2037 [(0, .ref b), (1, .ref (ad 0)), (2, .ref (ad2 0)), (3, .ref ao), (4, vI i)] []) : E (wV g (KH sk) (LW g ad ad2 ao A M o)) X k n M0 1450 [(0, .ref b), (1, .ref (ad 0)), (2, .ref (ad2 0)), (3, .ref ao), (4, vI i)] [] := by
  refine h_aload_n (CL _) 1 dL_law_1450 rfl ?_
  refine h_aload_n (CL _) 0 dL_law_1451 rfl ?_
  refine h_iload (CL _) 4 dL_law_1452 rfl ?_
  refine h_iconst (CL _) dL_law_1454 ?_
  refine h_iadd (CL _) dL_law_1455 ?_
  refine h_sld (CL _) SX hL (by omega) dL_law_1456 ?_
  refine h_aload_n (CL _) 0 dL_law_1457 rfl ?_
  refine h_iload (CL _) 4 dL_law_1458 rfl ?_
  refine h_iconst (CL _) dL_law_1460 ?_
  refine h_iadd (CL _) dL_law_1461 ?_
  refine h_sld (CL _) SX hL (by omega) dL_law_1462 ?_
  refine h_aload_n (CL _) 0 dL_law_1463 rfl ?_
  refine h_iload (CL _) 4 dL_law_1464 rfl ?_
  refine h_iconst (CL _) dL_law_1466 ?_
  refine h_iadd (CL _) dL_law_1467 ?_
  refine h_sld (CL _) SX hL (by omega) dL_law_1468 ?_
  refine h_aload_n (CL _) 3 dL_law_1469 rfl ?_
  refine v_callH (g := g) (KK := KH sk) (w := wH g ad sk ao) (ws := wlM g ad2 M) (M := oP o A) (M9 := M0) (As := [.ref (ad 0), vI (sx xs (i + 1)), vI (sx xs (i + 2)), vI (sx xs (i + 3)), .ref ao]) (rest := []) (CL _) rfl rfl (fun _ _ h => h) (kH_mv g rfl) rA mh_move (tg4 219 rfl rfl) (hl_move (P := oP o A) hx (lnc X) hst) (by decide) (Nat.le_of_ble_eq_true rfl) hk hn dL_law_1470 rfl (fun v9 P1 hq rP => ?_)
  obtain ⟨kr, r, e1, hR, hz, hk3⟩ := hq
  subst e1
  refine h_istore (lv' := [(5, vI kr), (0, .ref b), (1, .ref (ad 0)), (2, .ref (ad2 0)), (3, .ref ao), (4, vI i)]) (CL _) dL_law_1473 (by decide) rfl ?_
  refine e_perm (M := M0) (List.perm_append_comm (l₁ := wlM g ad2 M) (l₂ := oC g ao (P1 0 0) :: wlX g ad (cX P1))) ?_
  refine h_aload_n (CL _) 3 dL_law_1475 rfl ?_
  refine h_aload_n (CL _) 1 dL_law_1476 rfl ?_
  refine h_iload (CL _) 5 dL_law_1477 rfl ?_
  refine h_iconst (CL _) dL_law_1479 ?_
  refine h_iadd (CL _) dL_law_1480 ?_
  refine h_sld (CL _) SX hL (by omega) dL_law_1481 ?_
  refine h_aload_n (CL _) 1 dL_law_1482 rfl ?_
  refine h_iload (CL _) 5 dL_law_1483 rfl ?_
  refine h_iconst (CL _) dL_law_1485 ?_
  refine h_iadd (CL _) dL_law_1486 ?_
  refine h_sld (CL _) SX hL (by omega) dL_law_1487 ?_
  refine h_aload_n (CL _) 1 dL_law_1488 rfl ?_
  refine h_iload (CL _) 5 dL_law_1489 rfl ?_
  refine h_iconst (CL _) dL_law_1491 ?_
  refine h_iadd (CL _) dL_law_1492 ?_
  refine h_sld (CL _) SX hL (by omega) dL_law_1493 ?_
  refine v_callV (g := g) (KK := KH sk) (w := wM g ad2) (ws := oC g ao (P1 0 0) :: wlX g ad (cX P1)) (M := M) (M9 := M0) (As := [vI (sx xs (i + 1)), vI (sx xs (i + 2)), vI (sx xs (i + 3))]) (rest := []) (q0 := 0) (ci := 10) (CL _) rfl rfl (fun _ _ _ => trivial) (wM_mv g ad2) rM mi_X10_move ms_X10_move mv_X10_move (tg7 102 rfl rfl) (hm (lnc X) hst) rfl rfl (by decide) (Nat.le_of_ble_eq_true rfl) hk hn dL_law_1494 rfl (fun v8 N hN rN => ?_)
  obtain ⟨z, e2, hRN⟩ := hN
  subst e2
  obtain ⟨q1, q2, q3⟩ := hR _ _ _ hRN
  refine h_istore (lv' := [(6, vI z), (5, vI kr), (0, .ref b), (1, .ref (ad 0)), (2, .ref (ad2 0)), (3, .ref ao), (4, vI i)]) (CL _) dL_law_1497 (by decide) rfl ?_
  refine h_aload_n (CL _) 4 dL_law_1499 rfl ?_
  refine v_callV (g := g) (KK := KH sk) (w := wM g ad2) (ws := oC g ao (P1 0 0) :: wlX g ad (cX P1)) (M := N) (M9 := M0) (As := []) (rest := []) (q0 := 0) (ci := 10) (CL _) rfl rfl (fun _ _ _ => trivial) (wM_mv g ad2) rN mi_X10_thrown ms_X10_thrown mv_X10_thrown (tg6 202 rfl rfl) (m_thrown (lnc X) hst) rfl rfl (by decide) (Nat.le_of_ble_eq_true rfl) hk hn dL_law_1500 rfl (fun v7 N7 h7 r7 => ?_)
  obtain ⟨e3, e4⟩ := h7
  subst e3
  replace e4 := e4.symm
  subst e4
  refine h_iload (CL _) 1 dL_law_1503 rfl ?_
  refine h_icmp_same (CL _) 1510 q1 dL_law_1505 (by decide) ?_
  refine h_iload (CL _) 1 dL_law_1510 rfl ?_
  have fin : E (wV g (KH sk) ((oC g ao (P1 0 0) :: wlX g ad (cX P1)) ++ wlM g ad2 N)) X (k + ma) (n + na) M0 1527 [(6, vI z), (5, vI kr), (0, .ref b), (1, .ref (ad 0)), (2, .ref (ad2 0)), (3, .ref ao), (4, vI i)] [] := by
    refine h_goto (CL _) 2037 dL_law_1527 (by decide) ?_
    refine e_sub [2, 3, 4, 5, 6] rfl ?_
    refine e_perm (M := M0) (List.perm_append_comm (l₁ := oC g ao (P1 0 0) :: wlX g ad (cX P1)) (l₂ := wlM g ad2 N)) ?_
    exact kk (cX P1) N (P1 0 0) rP rN q3 ⟨z, hRN⟩ (fun h => ⟨r, (hz (q1.symm.trans h)).2⟩)
  refine h_if_ne (CL _) 1527 (by omega) dL_law_1512 (by decide) (fun _ => fin) (fun h0 => ?_)
  have w1 := (hz h0).1
  have w2 := q2 h0
  refine h_aload_n (CL _) 5 dL_law_1515 rfl ?_
  refine h_iconst (CL _) dL_law_1516 ?_
  refine h_lald (q0 := 0) (t0 := 1) (len := 1) (x := P1 0 0) (CL _) rfl rfl (by decide) (by decide) rfl dL_law_1517 ?_
  refine h_iload (CL _) 0 dL_law_1518 rfl ?_
  refine h_i2n (CL _) dL_law_1520 ?_
  refine h_lcmp_same (CL _) (by rw [w1, w2]) dL_law_1521 ?_
  exact h_if_eq (CL _) 1527 (by decide) dL_law_1522 (by decide) (fun _ => fin) (fun h => absurd rfl h)
theorem lb_size {g : Gs} {ad ad2 : Nat → Nat} {sk : (Nat → Nat) × (Nat → Nat)} {ao b L : Nat} {xs : Nat → Int32} {X : Cx} {k n : Nat} {A M : Mem} {o i : Int} {R : Int → Int → Mem → Prop} (CL : ∀ ws, OkH (fun _ => True) (wV g (KH sk) ws) X cL_law RL 7 20 601024 7293034) (SX : SxL X b L xs) (hst : (lnc X).stackTraces = false) (hL : L ≤ 2048) (hi : 0 ≤ i ∧ i + 4 ≤ L) (rA : RMx ad A) (rM : RMm M) (hk : k ≤ 601024) (hn : n ≤ 7293034) (hx : SpI (wC g ad sk) yX9_size cX9_size 3 (some .int) 2 [.ref (ad 0)] A (fun r B => Res R 0 r B)) (hm : SpI (wM g ad2) yX10_size cX10_size 1 (some .int) 5 [.ref (ad2 0)] M (fun r N => R (N 20 0) r N)) (kk : ∀ A' M', RMx ad A' → RMm M' → Jn A' M' → E (wV g (KH sk) (LW g ad ad2 ao A' M' o)) X k n M0 2037 [(0, .ref b), (1, .ref (ad 0)), (2, .ref (ad2 0)), (3, .ref ao), (4, vI i)] []) : E (wV g (KH sk) (LW g ad ad2 ao A M o)) X k n M0 1530 [(0, .ref b), (1, .ref (ad 0)), (2, .ref (ad2 0)), (3, .ref ao), (4, vI i)] [] := by
  refine h_aload_n (CL _) 1 dL_law_1530 rfl ?_
  refine e_eqW (List.append_assoc (wlM g ad2 M) [oC g ao o] (wlX g ad A)).symm ?_
  refine v_callV (g := g) (KK := KH sk) (w := wC g ad sk) (ws := wlM g ad2 M ++ [oC g ao o]) (M := A) (M9 := M0) (As := []) (rest := []) (q0 := 0) (ci := 9) (CL _) rfl rfl (fun _ _ h => h.1.1) (wC_mv g ad sk) rA mi_X9_size ms_X9_size mv_X9_size (tg2 237 rfl rfl) (hx (lnc X) hst) (wlX_st rfl) rfl (by decide) (Nat.le_of_ble_eq_true rfl) hk hn dL_law_1531 rfl (fun v9 B hB rB => ?_)
  obtain ⟨r, e1, hR⟩ := hB
  subst e1
  refine e_eqW (List.append_assoc (wlM g ad2 M) [oC g ao o] (wlX g ad B)) ?_
  refine e_perm (M := M0) (List.perm_append_comm (l₁ := wlM g ad2 M) (l₂ := oC g ao o :: wlX g ad B)) ?_
  refine h_aload_n (CL _) 2 dL_law_1534 rfl ?_
  refine v_callV (g := g) (KK := KH sk) (w := wM g ad2) (ws := oC g ao o :: wlX g ad B) (M := M) (M9 := M0) (As := []) (rest := [vI r]) (q0 := 0) (ci := 10) (CL _) rfl rfl (fun _ _ _ => trivial) (wM_mv g ad2) rM mi_X10_size ms_X10_size mv_X10_size (tg7 106 rfl rfl) (hm (lnc X) hst) rfl rfl (by decide) (Nat.le_of_ble_eq_true rfl) hk hn dL_law_1535 rfl (fun v8 N hN rN => ?_)
  obtain ⟨z, e2, hRN⟩ := hN
  subst e2
  obtain ⟨q1, q2, q3⟩ := hR _ _ _ hRN
  have q4 := (q2 rfl).symm
  have fin : E (wV g (KH sk) ((oC g ao o :: wlX g ad B) ++ wlM g ad2 N)) X k n M0 2037 [(0, .ref b), (1, .ref (ad 0)), (2, .ref (ad2 0)), (3, .ref ao), (4, vI i)] [] := e_perm (M := M0) (List.perm_append_comm (l₁ := oC g ao o :: wlX g ad B) (l₂ := wlM g ad2 N)) (kk B N rB rN q3)
  exact h_icmp_same (CL _) 2037 q4 dL_law_1538 (by decide) fin
theorem lb_best {g : Gs} {ad ad2 : Nat → Nat} {sk : (Nat → Nat) × (Nat → Nat)} {ao b L : Nat} {xs : Nat → Int32} {X : Cx} {k n : Nat} {A M : Mem} {o i : Int} {R : Int → Int → Mem → Prop} {S : Int → Mem → Prop} {ma na : Nat} (CL : ∀ ws, OkH (fun _ => True) (wV g (KH sk) ws) X cL_law RL 7 20 601024 7293034) (SX : SxL X b L xs) (hst : (lnc X).stackTraces = false) (hL : L ≤ 2048) (hi : 0 ≤ i ∧ i + 4 ≤ L) (rA : RMx ad A) (rM : RMm M) (hk : k + ma ≤ 601024) (hn : n + na ≤ 7293034) (hx : ∀ l : Launch, l.stackTraces = false → Ct (wC g ad sk) l yX9_best cX9_best 2 (some .int) 4 ma na [.ref (ad 0), vI (sx xs (i + 1))] A (fun v B => ∃ z : Int, v = some (vI z) ∧ Res R 0 z B ∧ S z B) (fun e B => (e = eIA ∧ Res R 1 0 B) ∨ (e = eIS ∧ Res R 2 0 B))) (hm : SpI (wM g ad2) yX10_best cX10_best 2 (some .int) 6 [.ref (ad2 0), vI (sx xs (i + 1))] M (fun r N => R (N 20 0) r N)) (kk : ∀ A' M' o', RMx ad A' → RMm M' → Jn A' M' → (∃ r, R (M' 20 0) r M') → (M' 20 0 = 0 → ∃ z, S z A') → E (wV g (KH sk) (LW g ad ad2 ao A' M' o')) X (k + ma) (n + na) M0 2037 [(0, .ref b), (1, .ref (ad 0)), (2, .ref (ad2 0)), (3, .ref ao), (4, vI i)] []) : E (wV g (KH sk) (LW g ad ad2 ao A M o)) X k n M0 1543 [(0, .ref b), (1, .ref (ad 0)), (2, .ref (ad2 0)), (3, .ref ao), (4, vI i)] [] := by
  refine h_aload_n (CL _) 1 dL_law_1543 rfl ?_
  refine h_aload_n (CL _) 0 dL_law_1544 rfl ?_
  refine h_iload (CL _) 4 dL_law_1545 rfl ?_
  refine h_iconst (CL _) dL_law_1547 ?_
  refine h_iadd (CL _) dL_law_1548 ?_
  refine h_sld (CL _) SX hL (by omega) dL_law_1549 ?_
  refine h_aload_n (CL _) 3 dL_law_1550 rfl ?_
  refine v_callH (g := g) (KK := KH sk) (w := wH g ad sk ao) (ws := wlM g ad2 M) (M := oP o A) (M9 := M0) (As := [.ref (ad 0), vI (sx xs (i + 1)), .ref ao]) (rest := []) (CL _) rfl rfl (fun _ _ h => h) (kH_mv g rfl) rA mh_best (tg4 228 rfl rfl) (hl_best (P := oP o A) hx (lnc X) hst) (by decide) (Nat.le_of_ble_eq_true rfl) hk hn dL_law_1551 rfl (fun v9 P1 hq rP => ?_)
  obtain ⟨kr, r, e1, hR, hz, hk3⟩ := hq
  subst e1
  refine h_istore (lv' := [(5, vI kr), (0, .ref b), (1, .ref (ad 0)), (2, .ref (ad2 0)), (3, .ref ao), (4, vI i)]) (CL _) dL_law_1554 (by decide) rfl ?_
  refine e_perm (M := M0) (List.perm_append_comm (l₁ := wlM g ad2 M) (l₂ := oC g ao (P1 0 0) :: wlX g ad (cX P1))) ?_
  refine h_aload_n (CL _) 3 dL_law_1556 rfl ?_
  refine h_aload_n (CL _) 1 dL_law_1557 rfl ?_
  refine h_iload (CL _) 5 dL_law_1558 rfl ?_
  refine h_iconst (CL _) dL_law_1560 ?_
  refine h_iadd (CL _) dL_law_1561 ?_
  refine h_sld (CL _) SX hL (by omega) dL_law_1562 ?_
  refine v_callV (g := g) (KK := KH sk) (w := wM g ad2) (ws := oC g ao (P1 0 0) :: wlX g ad (cX P1)) (M := M) (M9 := M0) (As := [vI (sx xs (i + 1))]) (rest := []) (q0 := 0) (ci := 10) (CL _) rfl rfl (fun _ _ _ => trivial) (wM_mv g ad2) rM mi_X10_best ms_X10_best mv_X10_best (tg7 122 rfl rfl) (hm (lnc X) hst) rfl rfl (by decide) (Nat.le_of_ble_eq_true rfl) hk hn dL_law_1563 rfl (fun v8 N hN rN => ?_)
  obtain ⟨z, e2, hRN⟩ := hN
  subst e2
  obtain ⟨q1, q2, q3⟩ := hR _ _ _ hRN
  refine h_istore (lv' := [(6, vI z), (5, vI kr), (0, .ref b), (1, .ref (ad 0)), (2, .ref (ad2 0)), (3, .ref ao), (4, vI i)]) (CL _) dL_law_1566 (by decide) rfl ?_
  refine h_aload_n (CL _) 4 dL_law_1568 rfl ?_
  refine v_callV (g := g) (KK := KH sk) (w := wM g ad2) (ws := oC g ao (P1 0 0) :: wlX g ad (cX P1)) (M := N) (M9 := M0) (As := []) (rest := []) (q0 := 0) (ci := 10) (CL _) rfl rfl (fun _ _ _ => trivial) (wM_mv g ad2) rN mi_X10_thrown ms_X10_thrown mv_X10_thrown (tg6 202 rfl rfl) (m_thrown (lnc X) hst) rfl rfl (by decide) (Nat.le_of_ble_eq_true rfl) hk hn dL_law_1569 rfl (fun v7 N7 h7 r7 => ?_)
  obtain ⟨e3, e4⟩ := h7
  subst e3
  replace e4 := e4.symm
  subst e4
  refine h_iload (CL _) 1 dL_law_1572 rfl ?_
  refine h_icmp_same (CL _) 1579 q1 dL_law_1574 (by decide) ?_
  refine h_iload (CL _) 1 dL_law_1579 rfl ?_
  have fin : E (wV g (KH sk) ((oC g ao (P1 0 0) :: wlX g ad (cX P1)) ++ wlM g ad2 N)) X (k + ma) (n + na) M0 1596 [(6, vI z), (5, vI kr), (0, .ref b), (1, .ref (ad 0)), (2, .ref (ad2 0)), (3, .ref ao), (4, vI i)] [] := by
    refine h_goto (CL _) 2037 dL_law_1596 (by decide) ?_
    refine e_sub [2, 3, 4, 5, 6] rfl ?_
    refine e_perm (M := M0) (List.perm_append_comm (l₁ := oC g ao (P1 0 0) :: wlX g ad (cX P1)) (l₂ := wlM g ad2 N)) ?_
    exact kk (cX P1) N (P1 0 0) rP rN q3 ⟨z, hRN⟩ (fun h => ⟨r, (hz (q1.symm.trans h)).2⟩)
  refine h_if_ne (CL _) 1596 (by omega) dL_law_1581 (by decide) (fun _ => fin) (fun h0 => ?_)
  have w1 := (hz h0).1
  have w2 := q2 h0
  refine h_aload_n (CL _) 5 dL_law_1584 rfl ?_
  refine h_iconst (CL _) dL_law_1585 ?_
  refine h_lald (q0 := 0) (t0 := 1) (len := 1) (x := P1 0 0) (CL _) rfl rfl (by decide) (by decide) rfl dL_law_1586 ?_
  refine h_iload (CL _) 0 dL_law_1587 rfl ?_
  refine h_i2n (CL _) dL_law_1589 ?_
  refine h_lcmp_same (CL _) (by rw [w1, w2]) dL_law_1590 ?_
  exact h_if_eq (CL _) 1596 (by decide) dL_law_1591 (by decide) (fun _ => fin) (fun h => absurd rfl h)
theorem lb_advice {g : Gs} {ad ad2 : Nat → Nat} {sk : (Nat → Nat) × (Nat → Nat)} {ao b L : Nat} {xs : Nat → Int32} {X : Cx} {k n : Nat} {A M : Mem} {o i : Int} {R : Int → Int → Mem → Prop} {S : Int → Mem → Prop} {ma na : Nat} (CL : ∀ ws, OkH (fun _ => True) (wV g (KH sk) ws) X cL_law RL 7 20 601024 7293034) (SX : SxL X b L xs) (hst : (lnc X).stackTraces = false) (hL : L ≤ 2048) (hi : 0 ≤ i ∧ i + 4 ≤ L) (rA : RMx ad A) (rM : RMm M) (hk : k + ma ≤ 601024) (hn : n + na ≤ 7293034) (hx : ∀ l : Launch, l.stackTraces = false → Ct (wC g ad sk) l yX9_advice cX9_advice 3 (some .int) 6 ma na [.ref (ad 0), vI (sx xs (i + 1)), vI (sx xs (i + 2))] A (fun v B => ∃ z : Int, v = some (vI z) ∧ Res R 0 z B ∧ S z B) (fun e B => (e = eIA ∧ Res R 1 0 B) ∨ (e = eIS ∧ Res R 2 0 B))) (hm : SpI (wM g ad2) yX10_advice cX10_advice 3 (some .int) 7 [.ref (ad2 0), vI (sx xs (i + 1)), vI (sx xs (i + 2))] M (fun r N => R (N 20 0) r N)) (kk : ∀ A' M' o', RMx ad A' → RMm M' → Jn A' M' → (∃ r, R (M' 20 0) r M') → (M' 20 0 = 0 → ∃ z, S z A') → E (wV g (KH sk) (LW g ad ad2 ao A' M' o')) X (k + ma) (n + na) M0 2037 [(0, .ref b), (1, .ref (ad 0)), (2, .ref (ad2 0)), (3, .ref ao), (4, vI i)] []) : E (wV g (KH sk) (LW g ad ad2 ao A M o)) X k n M0 1599 [(0, .ref b), (1, .ref (ad 0)), (2, .ref (ad2 0)), (3, .ref ao), (4, vI i)] [] := by
  refine h_aload_n (CL _) 1 dL_law_1599 rfl ?_
  refine h_aload_n (CL _) 0 dL_law_1600 rfl ?_
  refine h_iload (CL _) 4 dL_law_1601 rfl ?_
  refine h_iconst (CL _) dL_law_1603 ?_
  refine h_iadd (CL _) dL_law_1604 ?_
  refine h_sld (CL _) SX hL (by omega) dL_law_1605 ?_
  refine h_aload_n (CL _) 0 dL_law_1606 rfl ?_
  refine h_iload (CL _) 4 dL_law_1607 rfl ?_
  refine h_iconst (CL _) dL_law_1609 ?_
  refine h_iadd (CL _) dL_law_1610 ?_
  refine h_sld (CL _) SX hL (by omega) dL_law_1611 ?_
  refine h_aload_n (CL _) 3 dL_law_1612 rfl ?_
  refine v_callH (g := g) (KK := KH sk) (w := wH g ad sk ao) (ws := wlM g ad2 M) (M := oP o A) (M9 := M0) (As := [.ref (ad 0), vI (sx xs (i + 1)), vI (sx xs (i + 2)), .ref ao]) (rest := []) (CL _) rfl rfl (fun _ _ h => h) (kH_mv g rfl) rA mh_advice (tg5 26 rfl rfl) (hl_advice (P := oP o A) hx (lnc X) hst) (by decide) (Nat.le_of_ble_eq_true rfl) hk hn dL_law_1613 rfl (fun v9 P1 hq rP => ?_)
  obtain ⟨kr, r, e1, hR, hz, hk3⟩ := hq
  subst e1
  refine h_istore (lv' := [(5, vI kr), (0, .ref b), (1, .ref (ad 0)), (2, .ref (ad2 0)), (3, .ref ao), (4, vI i)]) (CL _) dL_law_1616 (by decide) rfl ?_
  refine e_perm (M := M0) (List.perm_append_comm (l₁ := wlM g ad2 M) (l₂ := oC g ao (P1 0 0) :: wlX g ad (cX P1))) ?_
  refine h_aload_n (CL _) 3 dL_law_1618 rfl ?_
  refine h_aload_n (CL _) 1 dL_law_1619 rfl ?_
  refine h_iload (CL _) 5 dL_law_1620 rfl ?_
  refine h_iconst (CL _) dL_law_1622 ?_
  refine h_iadd (CL _) dL_law_1623 ?_
  refine h_sld (CL _) SX hL (by omega) dL_law_1624 ?_
  refine h_aload_n (CL _) 1 dL_law_1625 rfl ?_
  refine h_iload (CL _) 5 dL_law_1626 rfl ?_
  refine h_iconst (CL _) dL_law_1628 ?_
  refine h_iadd (CL _) dL_law_1629 ?_
  refine h_sld (CL _) SX hL (by omega) dL_law_1630 ?_
  refine v_callV (g := g) (KK := KH sk) (w := wM g ad2) (ws := oC g ao (P1 0 0) :: wlX g ad (cX P1)) (M := M) (M9 := M0) (As := [vI (sx xs (i + 1)), vI (sx xs (i + 2))]) (rest := []) (q0 := 0) (ci := 10) (CL _) rfl rfl (fun _ _ _ => trivial) (wM_mv g ad2) rM mi_X10_advice ms_X10_advice mv_X10_advice (tg7 142 rfl rfl) (hm (lnc X) hst) rfl rfl (by decide) (Nat.le_of_ble_eq_true rfl) hk hn dL_law_1631 rfl (fun v8 N hN rN => ?_)
  obtain ⟨z, e2, hRN⟩ := hN
  subst e2
  obtain ⟨q1, q2, q3⟩ := hR _ _ _ hRN
  refine h_istore (lv' := [(6, vI z), (5, vI kr), (0, .ref b), (1, .ref (ad 0)), (2, .ref (ad2 0)), (3, .ref ao), (4, vI i)]) (CL _) dL_law_1634 (by decide) rfl ?_
  refine h_aload_n (CL _) 4 dL_law_1636 rfl ?_
  refine v_callV (g := g) (KK := KH sk) (w := wM g ad2) (ws := oC g ao (P1 0 0) :: wlX g ad (cX P1)) (M := N) (M9 := M0) (As := []) (rest := []) (q0 := 0) (ci := 10) (CL _) rfl rfl (fun _ _ _ => trivial) (wM_mv g ad2) rN mi_X10_thrown ms_X10_thrown mv_X10_thrown (tg6 202 rfl rfl) (m_thrown (lnc X) hst) rfl rfl (by decide) (Nat.le_of_ble_eq_true rfl) hk hn dL_law_1637 rfl (fun v7 N7 h7 r7 => ?_)
  obtain ⟨e3, e4⟩ := h7
  subst e3
  replace e4 := e4.symm
  subst e4
  refine h_iload (CL _) 1 dL_law_1640 rfl ?_
  refine h_icmp_same (CL _) 1647 q1 dL_law_1642 (by decide) ?_
  refine h_iload (CL _) 1 dL_law_1647 rfl ?_
  have fin : E (wV g (KH sk) ((oC g ao (P1 0 0) :: wlX g ad (cX P1)) ++ wlM g ad2 N)) X (k + ma) (n + na) M0 1664 [(6, vI z), (5, vI kr), (0, .ref b), (1, .ref (ad 0)), (2, .ref (ad2 0)), (3, .ref ao), (4, vI i)] [] := by
    refine h_goto (CL _) 2037 dL_law_1664 (by decide) ?_
    refine e_sub [2, 3, 4, 5, 6] rfl ?_
    refine e_perm (M := M0) (List.perm_append_comm (l₁ := oC g ao (P1 0 0) :: wlX g ad (cX P1)) (l₂ := wlM g ad2 N)) ?_
    exact kk (cX P1) N (P1 0 0) rP rN q3 ⟨z, hRN⟩ (fun h => ⟨r, (hz (q1.symm.trans h)).2⟩)
  refine h_if_ne (CL _) 1664 (by omega) dL_law_1649 (by decide) (fun _ => fin) (fun h0 => ?_)
  have w1 := (hz h0).1
  have w2 := q2 h0
  refine h_aload_n (CL _) 5 dL_law_1652 rfl ?_
  refine h_iconst (CL _) dL_law_1653 ?_
  refine h_lald (q0 := 0) (t0 := 1) (len := 1) (x := P1 0 0) (CL _) rfl rfl (by decide) (by decide) rfl dL_law_1654 ?_
  refine h_iload (CL _) 0 dL_law_1655 rfl ?_
  refine h_i2n (CL _) dL_law_1657 ?_
  refine h_lcmp_same (CL _) (by rw [w1, w2]) dL_law_1658 ?_
  exact h_if_eq (CL _) 1664 (by decide) dL_law_1659 (by decide) (fun _ => fin) (fun h => absurd rfl h)
theorem lb_play {g : Gs} {ad ad2 : Nat → Nat} {sk : (Nat → Nat) × (Nat → Nat)} {ao b L : Nat} {xs : Nat → Int32} {X : Cx} {k n : Nat} {A M : Mem} {o i : Int} {R : Int → Int → Mem → Prop} {S : Int → Mem → Prop} {ma na : Nat} (CL : ∀ ws, OkH (fun _ => True) (wV g (KH sk) ws) X cL_law RL 7 20 601024 7293034) (SX : SxL X b L xs) (hst : (lnc X).stackTraces = false) (hL : L ≤ 2048) (hi : 0 ≤ i ∧ i + 4 ≤ L) (rA : RMx ad A) (rM : RMm M) (hk : k + ma ≤ 601024) (hn : n + na ≤ 7293034) (hx : ∀ l : Launch, l.stackTraces = false → Ct (wC g ad sk) l yX9_play cX9_play 4 (some .int) 7 ma na [.ref (ad 0), vI (sx xs (i + 1)), vI (sx xs (i + 2)), vI (sx xs (i + 3))] A (fun v B => ∃ z : Int, v = some (vI z) ∧ Res R 0 z B ∧ S z B) (fun e B => (e = eIA ∧ Res R 1 0 B) ∨ (e = eIS ∧ Res R 2 0 B))) (hm : SpI (wM g ad2) yX10_play cX10_play 8 (some .int) 7 [.ref (ad2 0), vI (sx xs (i + 1)), vI (sx xs (i + 2)), vI (sx xs (i + 3))] M (fun r N => R (N 20 0) r N)) (kk : ∀ A' M' o', RMx ad A' → RMm M' → Jn A' M' → (∃ r, R (M' 20 0) r M') → (M' 20 0 = 0 → ∃ z, S z A') → E (wV g (KH sk) (LW g ad ad2 ao A' M' o')) X (k + ma) (n + na) M0 2037 [(0, .ref b), (1, .ref (ad 0)), (2, .ref (ad2 0)), (3, .ref ao), (4, vI i)] []) : E (wV g (KH sk) (LW g ad ad2 ao A M o)) X k n M0 1667 [(0, .ref b), (1, .ref (ad 0)), (2, .ref (ad2 0)), (3, .ref ao), (4, vI i)] [] := by
  refine h_aload_n (CL _) 1 dL_law_1667 rfl ?_
  refine h_aload_n (CL _) 0 dL_law_1668 rfl ?_
  refine h_iload (CL _) 4 dL_law_1669 rfl ?_
  refine h_iconst (CL _) dL_law_1671 ?_
  refine h_iadd (CL _) dL_law_1672 ?_
  refine h_sld (CL _) SX hL (by omega) dL_law_1673 ?_
  refine h_aload_n (CL _) 0 dL_law_1674 rfl ?_
  refine h_iload (CL _) 4 dL_law_1675 rfl ?_
  refine h_iconst (CL _) dL_law_1677 ?_
  refine h_iadd (CL _) dL_law_1678 ?_
  refine h_sld (CL _) SX hL (by omega) dL_law_1679 ?_
  refine h_aload_n (CL _) 0 dL_law_1680 rfl ?_
  refine h_iload (CL _) 4 dL_law_1681 rfl ?_
  refine h_iconst (CL _) dL_law_1683 ?_
  refine h_iadd (CL _) dL_law_1684 ?_
  refine h_sld (CL _) SX hL (by omega) dL_law_1685 ?_
  refine h_aload_n (CL _) 3 dL_law_1686 rfl ?_
  refine v_callH (g := g) (KK := KH sk) (w := wH g ad sk ao) (ws := wlM g ad2 M) (M := oP o A) (M9 := M0) (As := [.ref (ad 0), vI (sx xs (i + 1)), vI (sx xs (i + 2)), vI (sx xs (i + 3)), .ref ao]) (rest := []) (CL _) rfl rfl (fun _ _ h => h) (kH_mv g rfl) rA mh_play (tg5 74 rfl rfl) (hl_play (P := oP o A) hx (lnc X) hst) (by decide) (Nat.le_of_ble_eq_true rfl) hk hn dL_law_1687 rfl (fun v9 P1 hq rP => ?_)
  obtain ⟨kr, r, e1, hR, hz, hk3⟩ := hq
  subst e1
  refine h_istore (lv' := [(5, vI kr), (0, .ref b), (1, .ref (ad 0)), (2, .ref (ad2 0)), (3, .ref ao), (4, vI i)]) (CL _) dL_law_1690 (by decide) rfl ?_
  refine e_perm (M := M0) (List.perm_append_comm (l₁ := wlM g ad2 M) (l₂ := oC g ao (P1 0 0) :: wlX g ad (cX P1))) ?_
  refine h_aload_n (CL _) 3 dL_law_1692 rfl ?_
  refine h_aload_n (CL _) 1 dL_law_1693 rfl ?_
  refine h_iload (CL _) 5 dL_law_1694 rfl ?_
  refine h_iconst (CL _) dL_law_1696 ?_
  refine h_iadd (CL _) dL_law_1697 ?_
  refine h_sld (CL _) SX hL (by omega) dL_law_1698 ?_
  refine h_aload_n (CL _) 1 dL_law_1699 rfl ?_
  refine h_iload (CL _) 5 dL_law_1700 rfl ?_
  refine h_iconst (CL _) dL_law_1702 ?_
  refine h_iadd (CL _) dL_law_1703 ?_
  refine h_sld (CL _) SX hL (by omega) dL_law_1704 ?_
  refine h_aload_n (CL _) 1 dL_law_1705 rfl ?_
  refine h_iload (CL _) 5 dL_law_1706 rfl ?_
  refine h_iconst (CL _) dL_law_1708 ?_
  refine h_iadd (CL _) dL_law_1709 ?_
  refine h_sld (CL _) SX hL (by omega) dL_law_1710 ?_
  refine v_callV (g := g) (KK := KH sk) (w := wM g ad2) (ws := oC g ao (P1 0 0) :: wlX g ad (cX P1)) (M := M) (M9 := M0) (As := [vI (sx xs (i + 1)), vI (sx xs (i + 2)), vI (sx xs (i + 3))]) (rest := []) (q0 := 0) (ci := 10) (CL _) rfl rfl (fun _ _ _ => trivial) (wM_mv g ad2) rM mi_X10_play ms_X10_play mv_X10_play (tg7 162 rfl rfl) (hm (lnc X) hst) rfl rfl (by decide) (Nat.le_of_ble_eq_true rfl) hk hn dL_law_1711 rfl (fun v8 N hN rN => ?_)
  obtain ⟨z, e2, hRN⟩ := hN
  subst e2
  obtain ⟨q1, q2, q3⟩ := hR _ _ _ hRN
  refine h_istore (lv' := [(6, vI z), (5, vI kr), (0, .ref b), (1, .ref (ad 0)), (2, .ref (ad2 0)), (3, .ref ao), (4, vI i)]) (CL _) dL_law_1714 (by decide) rfl ?_
  refine h_aload_n (CL _) 4 dL_law_1716 rfl ?_
  refine v_callV (g := g) (KK := KH sk) (w := wM g ad2) (ws := oC g ao (P1 0 0) :: wlX g ad (cX P1)) (M := N) (M9 := M0) (As := []) (rest := []) (q0 := 0) (ci := 10) (CL _) rfl rfl (fun _ _ _ => trivial) (wM_mv g ad2) rN mi_X10_thrown ms_X10_thrown mv_X10_thrown (tg6 202 rfl rfl) (m_thrown (lnc X) hst) rfl rfl (by decide) (Nat.le_of_ble_eq_true rfl) hk hn dL_law_1717 rfl (fun v7 N7 h7 r7 => ?_)
  obtain ⟨e3, e4⟩ := h7
  subst e3
  replace e4 := e4.symm
  subst e4
  refine h_iload (CL _) 1 dL_law_1720 rfl ?_
  refine h_icmp_same (CL _) 1727 q1 dL_law_1722 (by decide) ?_
  refine h_iload (CL _) 1 dL_law_1727 rfl ?_
  have fin : E (wV g (KH sk) ((oC g ao (P1 0 0) :: wlX g ad (cX P1)) ++ wlM g ad2 N)) X (k + ma) (n + na) M0 1744 [(6, vI z), (5, vI kr), (0, .ref b), (1, .ref (ad 0)), (2, .ref (ad2 0)), (3, .ref ao), (4, vI i)] [] := by
    refine h_goto (CL _) 2037 dL_law_1744 (by decide) ?_
    refine e_sub [2, 3, 4, 5, 6] rfl ?_
    refine e_perm (M := M0) (List.perm_append_comm (l₁ := oC g ao (P1 0 0) :: wlX g ad (cX P1)) (l₂ := wlM g ad2 N)) ?_
    exact kk (cX P1) N (P1 0 0) rP rN q3 ⟨z, hRN⟩ (fun h => ⟨r, (hz (q1.symm.trans h)).2⟩)
  refine h_if_ne (CL _) 1744 (by omega) dL_law_1729 (by decide) (fun _ => fin) (fun h0 => ?_)
  have w1 := (hz h0).1
  have w2 := q2 h0
  refine h_aload_n (CL _) 5 dL_law_1732 rfl ?_
  refine h_iconst (CL _) dL_law_1733 ?_
  refine h_lald (q0 := 0) (t0 := 1) (len := 1) (x := P1 0 0) (CL _) rfl rfl (by decide) (by decide) rfl dL_law_1734 ?_
  refine h_iload (CL _) 0 dL_law_1735 rfl ?_
  refine h_i2n (CL _) dL_law_1737 ?_
  refine h_lcmp_same (CL _) (by rw [w1, w2]) dL_law_1738 ?_
  exact h_if_eq (CL _) 1744 (by decide) dL_law_1739 (by decide) (fun _ => fin) (fun h => absurd rfl h)
theorem lb_played {g : Gs} {ad ad2 : Nat → Nat} {sk : (Nat → Nat) × (Nat → Nat)} {ao b L : Nat} {xs : Nat → Int32} {X : Cx} {k n : Nat} {A M : Mem} {o i : Int} {R : Int → Int → Mem → Prop} (CL : ∀ ws, OkH (fun _ => True) (wV g (KH sk) ws) X cL_law RL 7 20 601024 7293034) (SX : SxL X b L xs) (hst : (lnc X).stackTraces = false) (hL : L ≤ 2048) (hi : 0 ≤ i ∧ i + 4 ≤ L) (rA : RMx ad A) (rM : RMm M) (hk : k ≤ 601024) (hn : n ≤ 7293034) (hx : SpI (wC g ad sk) yX9_played cX9_played 2 (some .int) 1 [.ref (ad 0), vI (sx xs (i + 1))] A (fun r B => Res R 0 r B)) (hm : SpI (wM g ad2) yX10_played cX10_played 2 (some .int) 2 [.ref (ad2 0), vI (sx xs (i + 1))] M (fun r N => R (N 20 0) r N)) (kk : ∀ A' M', RMx ad A' → RMm M' → Jn A' M' → E (wV g (KH sk) (LW g ad ad2 ao A' M' o)) X k n M0 2037 [(0, .ref b), (1, .ref (ad 0)), (2, .ref (ad2 0)), (3, .ref ao), (4, vI i)] []) : E (wV g (KH sk) (LW g ad ad2 ao A M o)) X k n M0 1747 [(0, .ref b), (1, .ref (ad 0)), (2, .ref (ad2 0)), (3, .ref ao), (4, vI i)] [] := by
  refine h_aload_n (CL _) 1 dL_law_1747 rfl ?_
  refine h_aload_n (CL _) 0 dL_law_1748 rfl ?_
  refine h_iload (CL _) 4 dL_law_1749 rfl ?_
  refine h_iconst (CL _) dL_law_1751 ?_
  refine h_iadd (CL _) dL_law_1752 ?_
  refine h_sld (CL _) SX hL (by omega) dL_law_1753 ?_
  refine e_eqW (List.append_assoc (wlM g ad2 M) [oC g ao o] (wlX g ad A)).symm ?_
  refine v_callV (g := g) (KK := KH sk) (w := wC g ad sk) (ws := wlM g ad2 M ++ [oC g ao o]) (M := A) (M9 := M0) (As := [vI (sx xs (i + 1))]) (rest := []) (q0 := 0) (ci := 9) (CL _) rfl rfl (fun _ _ h => h.1.1) (wC_mv g ad sk) rA mi_X9_played ms_X9_played mv_X9_played (tg3 1 rfl rfl) (hx (lnc X) hst) (wlX_st rfl) rfl (by decide) (Nat.le_of_ble_eq_true rfl) hk hn dL_law_1754 rfl (fun v9 B hB rB => ?_)
  obtain ⟨r, e1, hR⟩ := hB
  subst e1
  refine e_eqW (List.append_assoc (wlM g ad2 M) [oC g ao o] (wlX g ad B)) ?_
  refine e_perm (M := M0) (List.perm_append_comm (l₁ := wlM g ad2 M) (l₂ := oC g ao o :: wlX g ad B)) ?_
  refine h_aload_n (CL _) 2 dL_law_1757 rfl ?_
  refine h_aload_n (CL _) 0 dL_law_1758 rfl ?_
  refine h_iload (CL _) 4 dL_law_1759 rfl ?_
  refine h_iconst (CL _) dL_law_1761 ?_
  refine h_iadd (CL _) dL_law_1762 ?_
  refine h_sld (CL _) SX hL (by omega) dL_law_1763 ?_
  refine v_callV (g := g) (KK := KH sk) (w := wM g ad2) (ws := oC g ao o :: wlX g ad B) (M := M) (M9 := M0) (As := [vI (sx xs (i + 1))]) (rest := [vI r]) (q0 := 0) (ci := 10) (CL _) rfl rfl (fun _ _ _ => trivial) (wM_mv g ad2) rM mi_X10_played ms_X10_played mv_X10_played (tg7 166 rfl rfl) (hm (lnc X) hst) rfl rfl (by decide) (Nat.le_of_ble_eq_true rfl) hk hn dL_law_1764 rfl (fun v8 N hN rN => ?_)
  obtain ⟨z, e2, hRN⟩ := hN
  subst e2
  obtain ⟨q1, q2, q3⟩ := hR _ _ _ hRN
  have q4 := (q2 rfl).symm
  have fin : E (wV g (KH sk) ((oC g ao o :: wlX g ad B) ++ wlM g ad2 N)) X k n M0 2037 [(0, .ref b), (1, .ref (ad 0)), (2, .ref (ad2 0)), (3, .ref ao), (4, vI i)] [] := e_perm (M := M0) (List.perm_append_comm (l₁ := oC g ao o :: wlX g ad B) (l₂ := wlM g ad2 N)) (kk B N rB rN q3)
  exact h_icmp_same (CL _) 2037 q4 dL_law_1767 (by decide) fin
theorem lb_type {g : Gs} {ad ad2 : Nat → Nat} {sk : (Nat → Nat) × (Nat → Nat)} {ao b L : Nat} {xs : Nat → Int32} {X : Cx} {k n : Nat} {A M : Mem} {o i : Int} {R : Int → Int → Mem → Prop} {S : Int → Mem → Prop} {ma na : Nat} (CL : ∀ ws, OkH (fun _ => True) (wV g (KH sk) ws) X cL_law RL 7 20 601024 7293034) (SX : SxL X b L xs) (hst : (lnc X).stackTraces = false) (hL : L ≤ 2048) (hi : 0 ≤ i ∧ i + 4 ≤ L) (rA : RMx ad A) (rM : RMm M) (hk : k + ma ≤ 601024) (hn : n + na ≤ 7293034) (hx : ∀ l : Launch, l.stackTraces = false → Ct (wC g ad sk) l yX9_type cX9_type 2 (some .int) 2 ma na [.ref (ad 0), vI (sx xs (i + 1))] A (fun v B => ∃ z : Int, v = some (vI z) ∧ Res R 0 z B ∧ S z B) (fun e B => (e = eIA ∧ Res R 1 0 B) ∨ (e = eIS ∧ Res R 2 0 B))) (hm : SpI (wM g ad2) yX10_type cX10_type 2 (some .int) 2 [.ref (ad2 0), vI (sx xs (i + 1))] M (fun r N => R (N 20 0) r N)) (kk : ∀ A' M' o', RMx ad A' → RMm M' → Jn A' M' → (∃ r, R (M' 20 0) r M') → (M' 20 0 = 0 → ∃ z, S z A') → E (wV g (KH sk) (LW g ad ad2 ao A' M' o')) X (k + ma) (n + na) M0 2037 [(0, .ref b), (1, .ref (ad 0)), (2, .ref (ad2 0)), (3, .ref ao), (4, vI i)] []) : E (wV g (KH sk) (LW g ad ad2 ao A M o)) X k n M0 1772 [(0, .ref b), (1, .ref (ad 0)), (2, .ref (ad2 0)), (3, .ref ao), (4, vI i)] [] := by
  refine h_aload_n (CL _) 1 dL_law_1772 rfl ?_
  refine h_aload_n (CL _) 0 dL_law_1773 rfl ?_
  refine h_iload (CL _) 4 dL_law_1774 rfl ?_
  refine h_iconst (CL _) dL_law_1776 ?_
  refine h_iadd (CL _) dL_law_1777 ?_
  refine h_sld (CL _) SX hL (by omega) dL_law_1778 ?_
  refine h_aload_n (CL _) 3 dL_law_1779 rfl ?_
  refine v_callH (g := g) (KK := KH sk) (w := wH g ad sk ao) (ws := wlM g ad2 M) (M := oP o A) (M9 := M0) (As := [.ref (ad 0), vI (sx xs (i + 1)), .ref ao]) (rest := []) (CL _) rfl rfl (fun _ _ h => h) (kH_mv g rfl) rA mh_type (tg5 89 rfl rfl) (hl_type (P := oP o A) hx (lnc X) hst) (by decide) (Nat.le_of_ble_eq_true rfl) hk hn dL_law_1780 rfl (fun v9 P1 hq rP => ?_)
  obtain ⟨kr, r, e1, hR, hz, hk3⟩ := hq
  subst e1
  refine h_istore (lv' := [(5, vI kr), (0, .ref b), (1, .ref (ad 0)), (2, .ref (ad2 0)), (3, .ref ao), (4, vI i)]) (CL _) dL_law_1783 (by decide) rfl ?_
  refine e_perm (M := M0) (List.perm_append_comm (l₁ := wlM g ad2 M) (l₂ := oC g ao (P1 0 0) :: wlX g ad (cX P1))) ?_
  refine h_aload_n (CL _) 3 dL_law_1785 rfl ?_
  refine h_aload_n (CL _) 1 dL_law_1786 rfl ?_
  refine h_iload (CL _) 5 dL_law_1787 rfl ?_
  refine h_iconst (CL _) dL_law_1789 ?_
  refine h_iadd (CL _) dL_law_1790 ?_
  refine h_sld (CL _) SX hL (by omega) dL_law_1791 ?_
  refine v_callV (g := g) (KK := KH sk) (w := wM g ad2) (ws := oC g ao (P1 0 0) :: wlX g ad (cX P1)) (M := M) (M9 := M0) (As := [vI (sx xs (i + 1))]) (rest := []) (q0 := 0) (ci := 10) (CL _) rfl rfl (fun _ _ _ => trivial) (wM_mv g ad2) rM mi_X10_type ms_X10_type mv_X10_type (tg7 170 rfl rfl) (hm (lnc X) hst) rfl rfl (by decide) (Nat.le_of_ble_eq_true rfl) hk hn dL_law_1792 rfl (fun v8 N hN rN => ?_)
  obtain ⟨z, e2, hRN⟩ := hN
  subst e2
  obtain ⟨q1, q2, q3⟩ := hR _ _ _ hRN
  refine h_istore (lv' := [(6, vI z), (5, vI kr), (0, .ref b), (1, .ref (ad 0)), (2, .ref (ad2 0)), (3, .ref ao), (4, vI i)]) (CL _) dL_law_1795 (by decide) rfl ?_
  refine h_aload_n (CL _) 4 dL_law_1797 rfl ?_
  refine v_callV (g := g) (KK := KH sk) (w := wM g ad2) (ws := oC g ao (P1 0 0) :: wlX g ad (cX P1)) (M := N) (M9 := M0) (As := []) (rest := []) (q0 := 0) (ci := 10) (CL _) rfl rfl (fun _ _ _ => trivial) (wM_mv g ad2) rN mi_X10_thrown ms_X10_thrown mv_X10_thrown (tg6 202 rfl rfl) (m_thrown (lnc X) hst) rfl rfl (by decide) (Nat.le_of_ble_eq_true rfl) hk hn dL_law_1798 rfl (fun v7 N7 h7 r7 => ?_)
  obtain ⟨e3, e4⟩ := h7
  subst e3
  replace e4 := e4.symm
  subst e4
  refine h_iload (CL _) 1 dL_law_1801 rfl ?_
  refine h_icmp_same (CL _) 1808 q1 dL_law_1803 (by decide) ?_
  refine h_iload (CL _) 1 dL_law_1808 rfl ?_
  have fin : E (wV g (KH sk) ((oC g ao (P1 0 0) :: wlX g ad (cX P1)) ++ wlM g ad2 N)) X (k + ma) (n + na) M0 1825 [(6, vI z), (5, vI kr), (0, .ref b), (1, .ref (ad 0)), (2, .ref (ad2 0)), (3, .ref ao), (4, vI i)] [] := by
    refine h_goto (CL _) 2037 dL_law_1825 (by decide) ?_
    refine e_sub [2, 3, 4, 5, 6] rfl ?_
    refine e_perm (M := M0) (List.perm_append_comm (l₁ := oC g ao (P1 0 0) :: wlX g ad (cX P1)) (l₂ := wlM g ad2 N)) ?_
    exact kk (cX P1) N (P1 0 0) rP rN q3 ⟨z, hRN⟩ (fun h => ⟨r, (hz (q1.symm.trans h)).2⟩)
  refine h_if_ne (CL _) 1825 (by omega) dL_law_1810 (by decide) (fun _ => fin) (fun h0 => ?_)
  have w1 := (hz h0).1
  have w2 := q2 h0
  refine h_aload_n (CL _) 5 dL_law_1813 rfl ?_
  refine h_iconst (CL _) dL_law_1814 ?_
  refine h_lald (q0 := 0) (t0 := 1) (len := 1) (x := P1 0 0) (CL _) rfl rfl (by decide) (by decide) rfl dL_law_1815 ?_
  refine h_iload (CL _) 0 dL_law_1816 rfl ?_
  refine h_i2n (CL _) dL_law_1818 ?_
  refine h_lcmp_same (CL _) (by rw [w1, w2]) dL_law_1819 ?_
  exact h_if_eq (CL _) 1825 (by decide) dL_law_1820 (by decide) (fun _ => fin) (fun h => absurd rfl h)
theorem lb_clearText {g : Gs} {ad ad2 : Nat → Nat} {sk : (Nat → Nat) × (Nat → Nat)} {ao b L : Nat} {xs : Nat → Int32} {X : Cx} {k n : Nat} {A M : Mem} {o i : Int} {R : Int → Int → Mem → Prop} (CL : ∀ ws, OkH (fun _ => True) (wV g (KH sk) ws) X cL_law RL 7 20 601024 7293034) (SX : SxL X b L xs) (hst : (lnc X).stackTraces = false) (hL : L ≤ 2048) (hi : 0 ≤ i ∧ i + 4 ≤ L) (rA : RMx ad A) (rM : RMm M) (hk : k ≤ 601024) (hn : n ≤ 7293034) (hx : SpI (wC g ad sk) yX9_clearText cX9_clearText 2 (some .int) 1 [.ref (ad 0)] A (fun r B => Res R 0 r B)) (hm : SpI (wM g ad2) yX10_clearText cX10_clearText 2 (some .int) 1 [.ref (ad2 0)] M (fun r N => R (N 20 0) r N)) (kk : ∀ A' M', RMx ad A' → RMm M' → Jn A' M' → E (wV g (KH sk) (LW g ad ad2 ao A' M' o)) X k n M0 2037 [(0, .ref b), (1, .ref (ad 0)), (2, .ref (ad2 0)), (3, .ref ao), (4, vI i)] []) : E (wV g (KH sk) (LW g ad ad2 ao A M o)) X k n M0 1828 [(0, .ref b), (1, .ref (ad 0)), (2, .ref (ad2 0)), (3, .ref ao), (4, vI i)] [] := by
  refine h_aload_n (CL _) 1 dL_law_1828 rfl ?_
  refine e_eqW (List.append_assoc (wlM g ad2 M) [oC g ao o] (wlX g ad A)).symm ?_
  refine v_callV (g := g) (KK := KH sk) (w := wC g ad sk) (ws := wlM g ad2 M ++ [oC g ao o]) (M := A) (M9 := M0) (As := []) (rest := []) (q0 := 0) (ci := 9) (CL _) rfl rfl (fun _ _ h => h.1.1) (wC_mv g ad sk) rA mi_X9_clearText ms_X9_clearText mv_X9_clearText (tg3 5 rfl rfl) (hx (lnc X) hst) (wlX_st rfl) rfl (by decide) (Nat.le_of_ble_eq_true rfl) hk hn dL_law_1829 rfl (fun v9 B hB rB => ?_)
  obtain ⟨r, e1, hR⟩ := hB
  subst e1
  refine e_eqW (List.append_assoc (wlM g ad2 M) [oC g ao o] (wlX g ad B)) ?_
  refine e_perm (M := M0) (List.perm_append_comm (l₁ := wlM g ad2 M) (l₂ := oC g ao o :: wlX g ad B)) ?_
  refine h_aload_n (CL _) 2 dL_law_1832 rfl ?_
  refine v_callV (g := g) (KK := KH sk) (w := wM g ad2) (ws := oC g ao o :: wlX g ad B) (M := M) (M9 := M0) (As := []) (rest := [vI r]) (q0 := 0) (ci := 10) (CL _) rfl rfl (fun _ _ _ => trivial) (wM_mv g ad2) rM mi_X10_clearText ms_X10_clearText mv_X10_clearText (tg7 174 rfl rfl) (hm (lnc X) hst) rfl rfl (by decide) (Nat.le_of_ble_eq_true rfl) hk hn dL_law_1833 rfl (fun v8 N hN rN => ?_)
  obtain ⟨z, e2, hRN⟩ := hN
  subst e2
  obtain ⟨q1, q2, q3⟩ := hR _ _ _ hRN
  have q4 := (q2 rfl).symm
  have fin : E (wV g (KH sk) ((oC g ao o :: wlX g ad B) ++ wlM g ad2 N)) X k n M0 2037 [(0, .ref b), (1, .ref (ad 0)), (2, .ref (ad2 0)), (3, .ref ao), (4, vI i)] [] := e_perm (M := M0) (List.perm_append_comm (l₁ := oC g ao o :: wlX g ad B) (l₂ := wlM g ad2 N)) (kk B N rB rN q3)
  exact h_icmp_same (CL _) 2037 q4 dL_law_1836 (by decide) fin
theorem lb_fault {g : Gs} {ad ad2 : Nat → Nat} {sk : (Nat → Nat) × (Nat → Nat)} {ao b L : Nat} {xs : Nat → Int32} {X : Cx} {k n : Nat} {A M : Mem} {o i : Int} {R : Int → Int → Mem → Prop} (CL : ∀ ws, OkH (fun _ => True) (wV g (KH sk) ws) X cL_law RL 7 20 601024 7293034) (SX : SxL X b L xs) (hst : (lnc X).stackTraces = false) (hL : L ≤ 2048) (hi : 0 ≤ i ∧ i + 4 ≤ L) (rA : RMx ad A) (rM : RMm M) (hk : k ≤ 601024) (hn : n ≤ 7293034) (hx : SpI (wC g ad sk) yX9_fault cX9_fault 1 (some .int) 10 [.ref (ad 0)] A (fun r B => Res R 0 r B)) (hm : SpI (wM g ad2) yX10_fault cX10_fault 1 (some .int) 13 [.ref (ad2 0)] M (fun r N => R (N 20 0) r N)) (kk : ∀ A' M', RMx ad A' → RMm M' → Jn A' M' → E (wV g (KH sk) (LW g ad ad2 ao A' M' o)) X k n M0 2037 [(0, .ref b), (1, .ref (ad 0)), (2, .ref (ad2 0)), (3, .ref ao), (4, vI i)] []) : E (wV g (KH sk) (LW g ad ad2 ao A M o)) X k n M0 1841 [(0, .ref b), (1, .ref (ad 0)), (2, .ref (ad2 0)), (3, .ref ao), (4, vI i)] [] := by
  refine h_aload_n (CL _) 1 dL_law_1841 rfl ?_
  refine e_eqW (List.append_assoc (wlM g ad2 M) [oC g ao o] (wlX g ad A)).symm ?_
  refine v_callV (g := g) (KK := KH sk) (w := wC g ad sk) (ws := wlM g ad2 M ++ [oC g ao o]) (M := A) (M9 := M0) (As := []) (rest := []) (q0 := 0) (ci := 9) (CL _) rfl rfl (fun _ _ h => h.1.1) (wC_mv g ad sk) rA mi_X9_fault ms_X9_fault mv_X9_fault (tg3 9 rfl rfl) (hx (lnc X) hst) (wlX_st rfl) rfl (by decide) (Nat.le_of_ble_eq_true rfl) hk hn dL_law_1842 rfl (fun v9 B hB rB => ?_)
  obtain ⟨r, e1, hR⟩ := hB
  subst e1
  refine e_eqW (List.append_assoc (wlM g ad2 M) [oC g ao o] (wlX g ad B)) ?_
  refine e_perm (M := M0) (List.perm_append_comm (l₁ := wlM g ad2 M) (l₂ := oC g ao o :: wlX g ad B)) ?_
  refine h_aload_n (CL _) 2 dL_law_1845 rfl ?_
  refine v_callV (g := g) (KK := KH sk) (w := wM g ad2) (ws := oC g ao o :: wlX g ad B) (M := M) (M9 := M0) (As := []) (rest := [vI r]) (q0 := 0) (ci := 10) (CL _) rfl rfl (fun _ _ _ => trivial) (wM_mv g ad2) rM mi_X10_fault ms_X10_fault mv_X10_fault (tg7 178 rfl rfl) (hm (lnc X) hst) rfl rfl (by decide) (Nat.le_of_ble_eq_true rfl) hk hn dL_law_1846 rfl (fun v8 N hN rN => ?_)
  obtain ⟨z, e2, hRN⟩ := hN
  subst e2
  obtain ⟨q1, q2, q3⟩ := hR _ _ _ hRN
  have q4 := (q2 rfl).symm
  have fin : E (wV g (KH sk) ((oC g ao o :: wlX g ad B) ++ wlM g ad2 N)) X k n M0 2037 [(0, .ref b), (1, .ref (ad 0)), (2, .ref (ad2 0)), (3, .ref ao), (4, vI i)] [] := e_perm (M := M0) (List.perm_append_comm (l₁ := oC g ao o :: wlX g ad B) (l₂ := wlM g ad2 N)) (kk B N rB rN q3)
  exact h_icmp_same (CL _) 2037 q4 dL_law_1849 (by decide) fin
theorem lb_read {g : Gs} {ad ad2 : Nat → Nat} {sk : (Nat → Nat) × (Nat → Nat)} {ao b L : Nat} {xs : Nat → Int32} {X : Cx} {k n : Nat} {A M : Mem} {o i : Int} {R : Int → Int → Mem → Prop} {S : Int → Mem → Prop} {ma na : Nat} (CL : ∀ ws, OkH (fun _ => True) (wV g (KH sk) ws) X cL_law RL 7 20 601024 7293034) (SX : SxL X b L xs) (hst : (lnc X).stackTraces = false) (hL : L ≤ 2048) (hi : 0 ≤ i ∧ i + 4 ≤ L) (rA : RMx ad A) (rM : RMm M) (hk : k + ma ≤ 601024) (hn : n + na ≤ 7293034) (hx : ∀ l : Launch, l.stackTraces = false → Ct (wC g ad sk) l yX9_read cX9_read 3 (some .int) 10 ma na [.ref (ad 0)] A (fun v B => ∃ z : Int, v = some (vI z) ∧ Res R 0 z B ∧ S z B) (fun e B => (e = eIA ∧ Res R 1 0 B) ∨ (e = eIS ∧ Res R 2 0 B))) (hm : SpI (wM g ad2) yX10_read cX10_read 2 (some .int) 13 [.ref (ad2 0)] M (fun r N => R (N 20 0) r N)) (kk : ∀ A' M' o', RMx ad A' → RMm M' → Jn A' M' → (∃ r, R (M' 20 0) r M') → (M' 20 0 = 0 → ∃ z, S z A') → E (wV g (KH sk) (LW g ad ad2 ao A' M' o')) X (k + ma) (n + na) M0 2037 [(0, .ref b), (1, .ref (ad 0)), (2, .ref (ad2 0)), (3, .ref ao), (4, vI i)] []) : E (wV g (KH sk) (LW g ad ad2 ao A M o)) X k n M0 1854 [(0, .ref b), (1, .ref (ad 0)), (2, .ref (ad2 0)), (3, .ref ao), (4, vI i)] [] := by
  refine h_aload_n (CL _) 1 dL_law_1854 rfl ?_
  refine h_aload_n (CL _) 3 dL_law_1855 rfl ?_
  refine v_callH (g := g) (KK := KH sk) (w := wH g ad sk ao) (ws := wlM g ad2 M) (M := oP o A) (M9 := M0) (As := [.ref (ad 0), .ref ao]) (rest := []) (CL _) rfl rfl (fun _ _ h => h) (kH_mv g rfl) rA mh_read (tg5 102 rfl rfl) (hl_read (P := oP o A) hx (lnc X) hst) (by decide) (Nat.le_of_ble_eq_true rfl) hk hn dL_law_1856 rfl (fun v9 P1 hq rP => ?_)
  obtain ⟨kr, r, e1, hR, hz, hk3⟩ := hq
  subst e1
  refine h_istore (lv' := [(5, vI kr), (0, .ref b), (1, .ref (ad 0)), (2, .ref (ad2 0)), (3, .ref ao), (4, vI i)]) (CL _) dL_law_1859 (by decide) rfl ?_
  refine e_perm (M := M0) (List.perm_append_comm (l₁ := wlM g ad2 M) (l₂ := oC g ao (P1 0 0) :: wlX g ad (cX P1))) ?_
  refine h_aload_n (CL _) 3 dL_law_1861 rfl ?_
  refine v_callV (g := g) (KK := KH sk) (w := wM g ad2) (ws := oC g ao (P1 0 0) :: wlX g ad (cX P1)) (M := M) (M9 := M0) (As := []) (rest := []) (q0 := 0) (ci := 10) (CL _) rfl rfl (fun _ _ _ => trivial) (wM_mv g ad2) rM mi_X10_read ms_X10_read mv_X10_read (tg8 6 rfl rfl) (hm (lnc X) hst) rfl rfl (by decide) (Nat.le_of_ble_eq_true rfl) hk hn dL_law_1862 rfl (fun v8 N hN rN => ?_)
  obtain ⟨z, e2, hRN⟩ := hN
  subst e2
  obtain ⟨q1, q2, q3⟩ := hR _ _ _ hRN
  refine h_istore (lv' := [(6, vI z), (5, vI kr), (0, .ref b), (1, .ref (ad 0)), (2, .ref (ad2 0)), (3, .ref ao), (4, vI i)]) (CL _) dL_law_1865 (by decide) rfl ?_
  refine h_aload_n (CL _) 4 dL_law_1867 rfl ?_
  refine v_callV (g := g) (KK := KH sk) (w := wM g ad2) (ws := oC g ao (P1 0 0) :: wlX g ad (cX P1)) (M := N) (M9 := M0) (As := []) (rest := []) (q0 := 0) (ci := 10) (CL _) rfl rfl (fun _ _ _ => trivial) (wM_mv g ad2) rN mi_X10_thrown ms_X10_thrown mv_X10_thrown (tg6 202 rfl rfl) (m_thrown (lnc X) hst) rfl rfl (by decide) (Nat.le_of_ble_eq_true rfl) hk hn dL_law_1868 rfl (fun v7 N7 h7 r7 => ?_)
  obtain ⟨e3, e4⟩ := h7
  subst e3
  replace e4 := e4.symm
  subst e4
  refine h_iload (CL _) 1 dL_law_1871 rfl ?_
  refine h_icmp_same (CL _) 1878 q1 dL_law_1873 (by decide) ?_
  refine h_iload (CL _) 1 dL_law_1878 rfl ?_
  have fin : E (wV g (KH sk) ((oC g ao (P1 0 0) :: wlX g ad (cX P1)) ++ wlM g ad2 N)) X (k + ma) (n + na) M0 1895 [(6, vI z), (5, vI kr), (0, .ref b), (1, .ref (ad 0)), (2, .ref (ad2 0)), (3, .ref ao), (4, vI i)] [] := by
    refine h_goto (CL _) 2037 dL_law_1895 (by decide) ?_
    refine e_sub [2, 3, 4, 5, 6] rfl ?_
    refine e_perm (M := M0) (List.perm_append_comm (l₁ := oC g ao (P1 0 0) :: wlX g ad (cX P1)) (l₂ := wlM g ad2 N)) ?_
    exact kk (cX P1) N (P1 0 0) rP rN q3 ⟨z, hRN⟩ (fun h => ⟨r, (hz (q1.symm.trans h)).2⟩)
  refine h_if_ne (CL _) 1895 (by omega) dL_law_1880 (by decide) (fun _ => fin) (fun h0 => ?_)
  have w1 := (hz h0).1
  have w2 := q2 h0
  refine h_aload_n (CL _) 5 dL_law_1883 rfl ?_
  refine h_iconst (CL _) dL_law_1884 ?_
  refine h_lald (q0 := 0) (t0 := 1) (len := 1) (x := P1 0 0) (CL _) rfl rfl (by decide) (by decide) rfl dL_law_1885 ?_
  refine h_iload (CL _) 0 dL_law_1886 rfl ?_
  refine h_i2n (CL _) dL_law_1888 ?_
  refine h_lcmp_same (CL _) (by rw [w1, w2]) dL_law_1889 ?_
  exact h_if_eq (CL _) 1895 (by decide) dL_law_1890 (by decide) (fun _ => fin) (fun h => absurd rfl h)
theorem lb_write {g : Gs} {ad ad2 : Nat → Nat} {sk : (Nat → Nat) × (Nat → Nat)} {ao b L : Nat} {xs : Nat → Int32} {X : Cx} {k n : Nat} {A M : Mem} {o i : Int} {R : Int → Int → Mem → Prop} {S : Int → Mem → Prop} {ma na : Nat} (CL : ∀ ws, OkH (fun _ => True) (wV g (KH sk) ws) X cL_law RL 7 20 601024 7293034) (SX : SxL X b L xs) (hst : (lnc X).stackTraces = false) (hL : L ≤ 2048) (hi : 0 ≤ i ∧ i + 4 ≤ L) (rA : RMx ad A) (rM : RMm M) (hk : k + ma ≤ 601024) (hn : n + na ≤ 7293034) (hx : ∀ l : Launch, l.stackTraces = false → Ct (wC g ad sk) l yX9_write cX9_write 2 (some .int) 12 ma na [.ref (ad 0), vI (sx xs (i + 1))] A (fun v B => ∃ z : Int, v = some (vI z) ∧ Res R 0 z B ∧ S z B) (fun e B => (e = eIO ∧ Res R 1 0 B) ∨ (e = eIS ∧ Res R 2 0 B))) (hm : SpI (wM g ad2) yX10_write cX10_write 4 (some .int) 5 [.ref (ad2 0), vI (sx xs (i + 1))] M (fun r N => R (N 20 0) r N)) (kk : ∀ A' M' o', RMx ad A' → RMm M' → Jn A' M' → (∃ r, R (M' 20 0) r M') → (M' 20 0 = 0 → ∃ z, S z A') → E (wV g (KH sk) (LW g ad ad2 ao A' M' o')) X (k + ma) (n + na) M0 2037 [(0, .ref b), (1, .ref (ad 0)), (2, .ref (ad2 0)), (3, .ref ao), (4, vI i)] []) : E (wV g (KH sk) (LW g ad ad2 ao A M o)) X k n M0 1898 [(0, .ref b), (1, .ref (ad 0)), (2, .ref (ad2 0)), (3, .ref ao), (4, vI i)] [] := by
  refine h_aload_n (CL _) 1 dL_law_1898 rfl ?_
  refine h_aload_n (CL _) 0 dL_law_1899 rfl ?_
  refine h_iload (CL _) 4 dL_law_1900 rfl ?_
  refine h_iconst (CL _) dL_law_1902 ?_
  refine h_iadd (CL _) dL_law_1903 ?_
  refine h_sld (CL _) SX hL (by omega) dL_law_1904 ?_
  refine h_aload_n (CL _) 3 dL_law_1905 rfl ?_
  refine v_callH (g := g) (KK := KH sk) (w := wH g ad sk ao) (ws := wlM g ad2 M) (M := oP o A) (M9 := M0) (As := [.ref (ad 0), vI (sx xs (i + 1)), .ref ao]) (rest := []) (CL _) rfl rfl (fun _ _ h => h) (kH_mv g rfl) rA mh_write (tg5 123 rfl rfl) (hl_write (P := oP o A) hx (lnc X) hst) (by decide) (Nat.le_of_ble_eq_true rfl) hk hn dL_law_1906 rfl (fun v9 P1 hq rP => ?_)
  obtain ⟨kr, r, e1, hR, hz, hk3⟩ := hq
  subst e1
  refine h_istore (lv' := [(5, vI kr), (0, .ref b), (1, .ref (ad 0)), (2, .ref (ad2 0)), (3, .ref ao), (4, vI i)]) (CL _) dL_law_1909 (by decide) rfl ?_
  refine e_perm (M := M0) (List.perm_append_comm (l₁ := wlM g ad2 M) (l₂ := oC g ao (P1 0 0) :: wlX g ad (cX P1))) ?_
  refine h_aload_n (CL _) 3 dL_law_1911 rfl ?_
  refine h_aload_n (CL _) 1 dL_law_1912 rfl ?_
  refine h_iload (CL _) 5 dL_law_1913 rfl ?_
  refine h_iconst (CL _) dL_law_1915 ?_
  refine h_iadd (CL _) dL_law_1916 ?_
  refine h_sld (CL _) SX hL (by omega) dL_law_1917 ?_
  refine v_callV (g := g) (KK := KH sk) (w := wM g ad2) (ws := oC g ao (P1 0 0) :: wlX g ad (cX P1)) (M := M) (M9 := M0) (As := [vI (sx xs (i + 1))]) (rest := []) (q0 := 0) (ci := 10) (CL _) rfl rfl (fun _ _ _ => trivial) (wM_mv g ad2) rM mi_X10_write ms_X10_write mv_X10_write (tg8 10 rfl rfl) (hm (lnc X) hst) rfl rfl (by decide) (Nat.le_of_ble_eq_true rfl) hk hn dL_law_1918 rfl (fun v8 N hN rN => ?_)
  obtain ⟨z, e2, hRN⟩ := hN
  subst e2
  obtain ⟨q1, q2, q3⟩ := hR _ _ _ hRN
  refine h_istore (lv' := [(6, vI z), (5, vI kr), (0, .ref b), (1, .ref (ad 0)), (2, .ref (ad2 0)), (3, .ref ao), (4, vI i)]) (CL _) dL_law_1921 (by decide) rfl ?_
  refine h_aload_n (CL _) 4 dL_law_1923 rfl ?_
  refine v_callV (g := g) (KK := KH sk) (w := wM g ad2) (ws := oC g ao (P1 0 0) :: wlX g ad (cX P1)) (M := N) (M9 := M0) (As := []) (rest := []) (q0 := 0) (ci := 10) (CL _) rfl rfl (fun _ _ _ => trivial) (wM_mv g ad2) rN mi_X10_thrown ms_X10_thrown mv_X10_thrown (tg6 202 rfl rfl) (m_thrown (lnc X) hst) rfl rfl (by decide) (Nat.le_of_ble_eq_true rfl) hk hn dL_law_1924 rfl (fun v7 N7 h7 r7 => ?_)
  obtain ⟨e3, e4⟩ := h7
  subst e3
  replace e4 := e4.symm
  subst e4
  refine h_iload (CL _) 1 dL_law_1927 rfl ?_
  refine h_icmp_same (CL _) 1934 q1 dL_law_1929 (by decide) ?_
  refine h_iload (CL _) 1 dL_law_1934 rfl ?_
  have fin : E (wV g (KH sk) ((oC g ao (P1 0 0) :: wlX g ad (cX P1)) ++ wlM g ad2 N)) X (k + ma) (n + na) M0 1951 [(6, vI z), (5, vI kr), (0, .ref b), (1, .ref (ad 0)), (2, .ref (ad2 0)), (3, .ref ao), (4, vI i)] [] := by
    refine h_goto (CL _) 2037 dL_law_1951 (by decide) ?_
    refine e_sub [2, 3, 4, 5, 6] rfl ?_
    refine e_perm (M := M0) (List.perm_append_comm (l₁ := oC g ao (P1 0 0) :: wlX g ad (cX P1)) (l₂ := wlM g ad2 N)) ?_
    exact kk (cX P1) N (P1 0 0) rP rN q3 ⟨z, hRN⟩ (fun h => ⟨r, (hz (q1.symm.trans h)).2⟩)
  refine h_if_ne (CL _) 1951 (by omega) dL_law_1936 (by decide) (fun _ => fin) (fun h0 => ?_)
  have w1 := (hz h0).1
  have w2 := q2 h0
  refine h_aload_n (CL _) 5 dL_law_1939 rfl ?_
  refine h_iconst (CL _) dL_law_1940 ?_
  refine h_lald (q0 := 0) (t0 := 1) (len := 1) (x := P1 0 0) (CL _) rfl rfl (by decide) (by decide) rfl dL_law_1941 ?_
  refine h_iload (CL _) 0 dL_law_1942 rfl ?_
  refine h_i2n (CL _) dL_law_1944 ?_
  refine h_lcmp_same (CL _) (by rw [w1, w2]) dL_law_1945 ?_
  exact h_if_eq (CL _) 1951 (by decide) dL_law_1946 (by decide) (fun _ => fin) (fun h => absurd rfl h)
theorem lb_written {g : Gs} {ad ad2 : Nat → Nat} {sk : (Nat → Nat) × (Nat → Nat)} {ao b L : Nat} {xs : Nat → Int32} {X : Cx} {k n : Nat} {A M : Mem} {o i : Int} {R : Int → Int → Mem → Prop} (CL : ∀ ws, OkH (fun _ => True) (wV g (KH sk) ws) X cL_law RL 7 20 601024 7293034) (SX : SxL X b L xs) (hst : (lnc X).stackTraces = false) (hL : L ≤ 2048) (hi : 0 ≤ i ∧ i + 4 ≤ L) (rA : RMx ad A) (rM : RMm M) (hk : k ≤ 601024) (hn : n ≤ 7293034) (hx : SpI (wC g ad sk) yX9_written cX9_written 2 (some .int) 1 [.ref (ad 0), vI (sx xs (i + 1))] A (fun r B => Res R 0 r B)) (hm : SpI (wM g ad2) yX10_written cX10_written 2 (some .int) 2 [.ref (ad2 0), vI (sx xs (i + 1))] M (fun r N => R (N 20 0) r N)) (kk : ∀ A' M', RMx ad A' → RMm M' → Jn A' M' → E (wV g (KH sk) (LW g ad ad2 ao A' M' o)) X k n M0 2037 [(0, .ref b), (1, .ref (ad 0)), (2, .ref (ad2 0)), (3, .ref ao), (4, vI i)] []) : E (wV g (KH sk) (LW g ad ad2 ao A M o)) X k n M0 1954 [(0, .ref b), (1, .ref (ad 0)), (2, .ref (ad2 0)), (3, .ref ao), (4, vI i)] [] := by
  refine h_aload_n (CL _) 1 dL_law_1954 rfl ?_
  refine h_aload_n (CL _) 0 dL_law_1955 rfl ?_
  refine h_iload (CL _) 4 dL_law_1956 rfl ?_
  refine h_iconst (CL _) dL_law_1958 ?_
  refine h_iadd (CL _) dL_law_1959 ?_
  refine h_sld (CL _) SX hL (by omega) dL_law_1960 ?_
  refine e_eqW (List.append_assoc (wlM g ad2 M) [oC g ao o] (wlX g ad A)).symm ?_
  refine v_callV (g := g) (KK := KH sk) (w := wC g ad sk) (ws := wlM g ad2 M ++ [oC g ao o]) (M := A) (M9 := M0) (As := [vI (sx xs (i + 1))]) (rest := []) (q0 := 0) (ci := 9) (CL _) rfl rfl (fun _ _ h => h.1.1) (wC_mv g ad sk) rA mi_X9_written ms_X9_written mv_X9_written (tg3 133 rfl rfl) (hx (lnc X) hst) (wlX_st rfl) rfl (by decide) (Nat.le_of_ble_eq_true rfl) hk hn dL_law_1961 rfl (fun v9 B hB rB => ?_)
  obtain ⟨r, e1, hR⟩ := hB
  subst e1
  refine e_eqW (List.append_assoc (wlM g ad2 M) [oC g ao o] (wlX g ad B)) ?_
  refine e_perm (M := M0) (List.perm_append_comm (l₁ := wlM g ad2 M) (l₂ := oC g ao o :: wlX g ad B)) ?_
  refine h_aload_n (CL _) 2 dL_law_1964 rfl ?_
  refine h_aload_n (CL _) 0 dL_law_1965 rfl ?_
  refine h_iload (CL _) 4 dL_law_1966 rfl ?_
  refine h_iconst (CL _) dL_law_1968 ?_
  refine h_iadd (CL _) dL_law_1969 ?_
  refine h_sld (CL _) SX hL (by omega) dL_law_1970 ?_
  refine v_callV (g := g) (KK := KH sk) (w := wM g ad2) (ws := oC g ao o :: wlX g ad B) (M := M) (M9 := M0) (As := [vI (sx xs (i + 1))]) (rest := [vI r]) (q0 := 0) (ci := 10) (CL _) rfl rfl (fun _ _ _ => trivial) (wM_mv g ad2) rM mi_X10_written ms_X10_written mv_X10_written (tg8 30 rfl rfl) (hm (lnc X) hst) rfl rfl (by decide) (Nat.le_of_ble_eq_true rfl) hk hn dL_law_1971 rfl (fun v8 N hN rN => ?_)
  obtain ⟨z, e2, hRN⟩ := hN
  subst e2
  obtain ⟨q1, q2, q3⟩ := hR _ _ _ hRN
  have q4 := (q2 rfl).symm
  have fin : E (wV g (KH sk) ((oC g ao o :: wlX g ad B) ++ wlM g ad2 N)) X k n M0 2037 [(0, .ref b), (1, .ref (ad 0)), (2, .ref (ad2 0)), (3, .ref ao), (4, vI i)] [] := e_perm (M := M0) (List.perm_append_comm (l₁ := oC g ao o :: wlX g ad B) (l₂ := wlM g ad2 N)) (kk B N rB rN q3)
  exact h_icmp_same (CL _) 2037 q4 dL_law_1974 (by decide) fin
theorem lb_undo {g : Gs} {ad ad2 : Nat → Nat} {sk : (Nat → Nat) × (Nat → Nat)} {ao b L : Nat} {xs : Nat → Int32} {X : Cx} {k n : Nat} {A M : Mem} {o i : Int} {R : Int → Int → Mem → Prop} {S : Int → Mem → Prop} {ma na : Nat} (CL : ∀ ws, OkH (fun _ => True) (wV g (KH sk) ws) X cL_law RL 7 20 601024 7293034) (SX : SxL X b L xs) (hst : (lnc X).stackTraces = false) (hL : L ≤ 2048) (hi : 0 ≤ i ∧ i + 4 ≤ L) (rA : RMx ad A) (rM : RMm M) (hk : k + ma ≤ 601024) (hn : n + na ≤ 7293034) (hx : ∀ l : Launch, l.stackTraces = false → Ct (wC g ad sk) l yX9_undo cX9_undo 3 (some .int) 2 ma na [.ref (ad 0)] A (fun v B => ∃ z : Int, v = some (vI z) ∧ Res R 0 z B ∧ S z B) (fun e B => e = eIS ∧ Res R 1 0 B)) (hm : SpI (wM g ad2) yX10_undo cX10_undo 4 (some .int) 2 [.ref (ad2 0)] M (fun r N => R (N 20 0) r N)) (kk : ∀ A' M' o', RMx ad A' → RMm M' → Jn A' M' → (∃ r, R (M' 20 0) r M') → (M' 20 0 = 0 → ∃ z, S z A') → E (wV g (KH sk) (LW g ad ad2 ao A' M' o')) X (k + ma) (n + na) M0 2037 [(0, .ref b), (1, .ref (ad 0)), (2, .ref (ad2 0)), (3, .ref ao), (4, vI i)] []) : E (wV g (KH sk) (LW g ad ad2 ao A M o)) X k n M0 1979 [(0, .ref b), (1, .ref (ad 0)), (2, .ref (ad2 0)), (3, .ref ao), (4, vI i)] [] := by
  refine h_aload_n (CL _) 1 dL_law_1979 rfl ?_
  refine h_aload_n (CL _) 3 dL_law_1980 rfl ?_
  refine v_callH (g := g) (KK := KH sk) (w := wH g ad sk ao) (ws := wlM g ad2 M) (M := oP o A) (M9 := M0) (As := [.ref (ad 0), .ref ao]) (rest := []) (CL _) rfl rfl (fun _ _ h => h) (kH_mv g rfl) rA mh_undo (tg5 149 rfl rfl) (hl_undo (P := oP o A) hx (lnc X) hst) (by decide) (Nat.le_of_ble_eq_true rfl) hk hn dL_law_1981 rfl (fun v9 P1 hq rP => ?_)
  obtain ⟨kr, r, e1, hR, hz, hk3⟩ := hq
  subst e1
  refine h_istore (lv' := [(5, vI kr), (0, .ref b), (1, .ref (ad 0)), (2, .ref (ad2 0)), (3, .ref ao), (4, vI i)]) (CL _) dL_law_1984 (by decide) rfl ?_
  refine e_perm (M := M0) (List.perm_append_comm (l₁ := wlM g ad2 M) (l₂ := oC g ao (P1 0 0) :: wlX g ad (cX P1))) ?_
  refine h_aload_n (CL _) 3 dL_law_1986 rfl ?_
  refine v_callV (g := g) (KK := KH sk) (w := wM g ad2) (ws := oC g ao (P1 0 0) :: wlX g ad (cX P1)) (M := M) (M9 := M0) (As := []) (rest := []) (q0 := 0) (ci := 10) (CL _) rfl rfl (fun _ _ _ => trivial) (wM_mv g ad2) rM mi_X10_undo ms_X10_undo mv_X10_undo (tg6 206 rfl rfl) (hm (lnc X) hst) rfl rfl (by decide) (Nat.le_of_ble_eq_true rfl) hk hn dL_law_1987 rfl (fun v8 N hN rN => ?_)
  obtain ⟨z, e2, hRN⟩ := hN
  subst e2
  obtain ⟨q1, q2, q3⟩ := hR _ _ _ hRN
  refine h_istore (lv' := [(6, vI z), (5, vI kr), (0, .ref b), (1, .ref (ad 0)), (2, .ref (ad2 0)), (3, .ref ao), (4, vI i)]) (CL _) dL_law_1990 (by decide) rfl ?_
  refine h_aload_n (CL _) 4 dL_law_1992 rfl ?_
  refine v_callV (g := g) (KK := KH sk) (w := wM g ad2) (ws := oC g ao (P1 0 0) :: wlX g ad (cX P1)) (M := N) (M9 := M0) (As := []) (rest := []) (q0 := 0) (ci := 10) (CL _) rfl rfl (fun _ _ _ => trivial) (wM_mv g ad2) rN mi_X10_thrown ms_X10_thrown mv_X10_thrown (tg6 202 rfl rfl) (m_thrown (lnc X) hst) rfl rfl (by decide) (Nat.le_of_ble_eq_true rfl) hk hn dL_law_1993 rfl (fun v7 N7 h7 r7 => ?_)
  obtain ⟨e3, e4⟩ := h7
  subst e3
  replace e4 := e4.symm
  subst e4
  refine h_iload (CL _) 1 dL_law_1996 rfl ?_
  refine h_icmp_same (CL _) 2003 q1 dL_law_1998 (by decide) ?_
  refine h_iload (CL _) 1 dL_law_2003 rfl ?_
  have fin : E (wV g (KH sk) ((oC g ao (P1 0 0) :: wlX g ad (cX P1)) ++ wlM g ad2 N)) X (k + ma) (n + na) M0 2020 [(6, vI z), (5, vI kr), (0, .ref b), (1, .ref (ad 0)), (2, .ref (ad2 0)), (3, .ref ao), (4, vI i)] [] := by
    refine h_goto (CL _) 2037 dL_law_2020 (by decide) ?_
    refine e_sub [2, 3, 4, 5, 6] rfl ?_
    refine e_perm (M := M0) (List.perm_append_comm (l₁ := oC g ao (P1 0 0) :: wlX g ad (cX P1)) (l₂ := wlM g ad2 N)) ?_
    exact kk (cX P1) N (P1 0 0) rP rN q3 ⟨z, hRN⟩ (fun h => ⟨r, (hz (q1.symm.trans h)).2⟩)
  refine h_if_ne (CL _) 2020 (by omega) dL_law_2005 (by decide) (fun _ => fin) (fun h0 => ?_)
  have w1 := (hz h0).1
  have w2 := q2 h0
  refine h_aload_n (CL _) 5 dL_law_2008 rfl ?_
  refine h_iconst (CL _) dL_law_2009 ?_
  refine h_lald (q0 := 0) (t0 := 1) (len := 1) (x := P1 0 0) (CL _) rfl rfl (by decide) (by decide) rfl dL_law_2010 ?_
  refine h_iload (CL _) 0 dL_law_2011 rfl ?_
  refine h_i2n (CL _) dL_law_2013 ?_
  refine h_lcmp_same (CL _) (by rw [w1, w2]) dL_law_2014 ?_
  exact h_if_eq (CL _) 2020 (by decide) dL_law_2015 (by decide) (fun _ => fin) (fun h => absurd rfl h)
theorem lb_checksum {g : Gs} {ad ad2 : Nat → Nat} {sk : (Nat → Nat) × (Nat → Nat)} {ao b L : Nat} {xs : Nat → Int32} {X : Cx} {k n : Nat} {A M : Mem} {o i : Int} {R : Int → Int → Mem → Prop} (CL : ∀ ws, OkH (fun _ => True) (wV g (KH sk) ws) X cL_law RL 7 20 601024 7293034) (SX : SxL X b L xs) (hst : (lnc X).stackTraces = false) (hL : L ≤ 2048) (hi : 0 ≤ i ∧ i + 4 ≤ L) (rA : RMx ad A) (rM : RMm M) (hk : k ≤ 601024) (hn : n ≤ 7293034) (hx : SpL (wC g ad sk) yX9_checksum cX9_checksum 4 (some .long) 3 [.ref (ad 0)] A (fun r B => Res R 0 r B)) (hm : SpL (wM g ad2) yX10_checksum cX10_checksum 4 (some .long) 3 [.ref (ad2 0)] M (fun r N => R (N 20 0) r N)) (kk : ∀ A' M', RMx ad A' → RMm M' → Jn A' M' → E (wV g (KH sk) (LW g ad ad2 ao A' M' o)) X k n M0 2037 [(0, .ref b), (1, .ref (ad 0)), (2, .ref (ad2 0)), (3, .ref ao), (4, vI i)] []) : E (wV g (KH sk) (LW g ad ad2 ao A M o)) X k n M0 2023 [(0, .ref b), (1, .ref (ad 0)), (2, .ref (ad2 0)), (3, .ref ao), (4, vI i)] [] := by
  refine h_aload_n (CL _) 1 dL_law_2023 rfl ?_
  refine e_eqW (List.append_assoc (wlM g ad2 M) [oC g ao o] (wlX g ad A)).symm ?_
  refine v_callV (g := g) (KK := KH sk) (w := wC g ad sk) (ws := wlM g ad2 M ++ [oC g ao o]) (M := A) (M9 := M0) (As := []) (rest := []) (q0 := 0) (ci := 9) (CL _) rfl rfl (fun _ _ h => h.1.1) (wC_mv g ad sk) rA mi_X9_checksum ms_X9_checksum mv_X9_checksum (tg3 137 rfl rfl) (hx (lnc X) hst) (wlX_st rfl) rfl (by decide) (Nat.le_of_ble_eq_true rfl) hk hn dL_law_2024 rfl (fun v9 B hB rB => ?_)
  obtain ⟨r, e1, hR⟩ := hB
  subst e1
  refine e_eqW (List.append_assoc (wlM g ad2 M) [oC g ao o] (wlX g ad B)) ?_
  refine e_perm (M := M0) (List.perm_append_comm (l₁ := wlM g ad2 M) (l₂ := oC g ao o :: wlX g ad B)) ?_
  refine h_aload_n (CL _) 2 dL_law_2027 rfl ?_
  refine v_callV (g := g) (KK := KH sk) (w := wM g ad2) (ws := oC g ao o :: wlX g ad B) (M := M) (M9 := M0) (As := []) (rest := [vL r]) (q0 := 0) (ci := 10) (CL _) rfl rfl (fun _ _ _ => trivial) (wM_mv g ad2) rM mi_X10_checksum ms_X10_checksum mv_X10_checksum (tg8 34 rfl rfl) (hm (lnc X) hst) rfl rfl (by decide) (Nat.le_of_ble_eq_true rfl) hk hn dL_law_2028 rfl (fun v8 N hN rN => ?_)
  obtain ⟨z, e2, hRN⟩ := hN
  subst e2
  obtain ⟨q1, q2, q3⟩ := hR _ _ _ hRN
  have q4 := (q2 rfl).symm
  have fin : E (wV g (KH sk) ((oC g ao o :: wlX g ad B) ++ wlM g ad2 N)) X k n M0 2037 [(0, .ref b), (1, .ref (ad 0)), (2, .ref (ad2 0)), (3, .ref ao), (4, vI i)] [] := e_perm (M := M0) (List.perm_append_comm (l₁ := oC g ao o :: wlX g ad B) (l₂ := wlM g ad2 N)) (kk B N rB rN q3)
  refine h_lcmp_same (CL _) (by rw [q4]) dL_law_2031 ?_
  exact h_if_eq (CL _) 2037 (by decide) dL_law_2032 (by decide) (fun _ => fin) (fun h => absurd rfl h)
