/-! ===== the law's cases ===== -/
theorem lb_games {g : Gs} {ad ad2 : Nat → Nat} {sk : (Nat → Nat) × (Nat → Nat)} {ao b L : Nat} {xs : Nat → Int32} {X : Cx} {k n : Nat} {A M : Mem} {o i : Int} {R : Int → Int → Mem → Prop} (CL : ∀ ws, OkH (fun _ => True) (wV g (KH sk) ws) X cL_law RL 7 20 601024 7293034) (SX : SxL X b L xs) (hst : (lnc X).stackTraces = false) (hL : L ≤ 2048) (hi : 0 ≤ i ∧ i + 4 ≤ L) (rA : RMx ad A) (rM : RMm M) (hk : k ≤ 601024) (hn : n ≤ 7293034) (hx : SpI (wC g ad sk) yX9_games cX9_games 1 (some .int) 1 [.ref (ad 0)] A (fun r B => Res R 0 r B)) (hm : SpI (wM g ad2) yX10_games cX10_games 1 (some .int) 1 [.ref (ad2 0)] M (fun r N => R (N 20 0) r N)) (kk : ∀ A' M', RMx ad A' → RMm M' → Jn A' M' → E (wV g (KH sk) (LW g ad ad2 ao A' M' o)) X k n M0 2037 [(0, .ref b), (1, .ref (ad 0)), (2, .ref (ad2 0)), (3, .ref ao), (4, vI i)] []) : E (wV g (KH sk) (LW g ad ad2 ao A M o)) X k n M0 196 [(0, .ref b), (1, .ref (ad 0)), (2, .ref (ad2 0)), (3, .ref ao), (4, vI i)] [] := by
  refine h_aload_n (CL _) 1 dL_law_196 rfl ?_
  refine e_eqW (List.append_assoc (wlM g ad2 M) [oC g ao o] (wlX g ad A)).symm ?_
  refine v_callV (g := g) (KK := KH sk) (w := wC g ad sk) (ws := wlM g ad2 M ++ [oC g ao o]) (M := A) (M9 := M0) (As := []) (rest := []) (q0 := 0) (ci := 9) (CL _) rfl rfl (fun _ _ h => h.1.1) (wC_mv g ad sk) rA mi_X9_games ms_X9_games mv_X9_games (tg2 224 rfl rfl) (hx (lnc X) hst) (wlX_st rfl) rfl (by decide) (Nat.le_of_ble_eq_true rfl) hk hn dL_law_197 rfl (fun v9 B hB rB => ?_)
  obtain ⟨r, e1, hR⟩ := hB
  subst e1
  refine e_eqW (List.append_assoc (wlM g ad2 M) [oC g ao o] (wlX g ad B)) ?_
  refine e_perm (M := M0) (List.perm_append_comm (l₁ := wlM g ad2 M) (l₂ := oC g ao o :: wlX g ad B)) ?_
  refine h_aload_n (CL _) 2 dL_law_200 rfl ?_
  refine v_callV (g := g) (KK := KH sk) (w := wM g ad2) (ws := oC g ao o :: wlX g ad B) (M := M) (M9 := M0) (As := []) (rest := [vI r]) (q0 := 0) (ci := 10) (CL _) rfl rfl (fun _ _ _ => trivial) (wM_mv g ad2) rM mi_X10_games ms_X10_games mv_X10_games (tg6 214 rfl rfl) (hm (lnc X) hst) rfl rfl (by decide) (Nat.le_of_ble_eq_true rfl) hk hn dL_law_201 rfl (fun v8 N hN rN => ?_)
  obtain ⟨z, e2, hRN⟩ := hN
  subst e2
  obtain ⟨q1, q2, q3⟩ := hR _ _ _ hRN
  have q4 := (q2 rfl).symm
  have fin : E (wV g (KH sk) ((oC g ao o :: wlX g ad B) ++ wlM g ad2 N)) X k n M0 2037 [(0, .ref b), (1, .ref (ad 0)), (2, .ref (ad2 0)), (3, .ref ao), (4, vI i)] [] := e_perm (M := M0) (List.perm_append_comm (l₁ := oC g ao o :: wlX g ad B) (l₂ := wlM g ad2 N)) (kk B N rB rN q3)
  exact h_icmp_same (CL _) 2037 q4 dL_law_204 (by decide) fin
theorem lb_number {g : Gs} {ad ad2 : Nat → Nat} {sk : (Nat → Nat) × (Nat → Nat)} {ao b L : Nat} {xs : Nat → Int32} {X : Cx} {k n : Nat} {A M : Mem} {o i : Int} {R : Int → Int → Mem → Prop} {S : Int → Mem → Prop} {ma na : Nat} (CL : ∀ ws, OkH (fun _ => True) (wV g (KH sk) ws) X cL_law RL 7 20 601024 7293034) (SX : SxL X b L xs) (hst : (lnc X).stackTraces = false) (hL : L ≤ 2048) (hi : 0 ≤ i ∧ i + 4 ≤ L) (rA : RMx ad A) (rM : RMm M) (hk : k + ma ≤ 601024) (hn : n + na ≤ 7293034) (hx : ∀ l : Launch, l.stackTraces = false → Ct (wC g ad sk) l yX9_number cX9_number 4 (some .int) 5 ma na [.ref (ad 0), vI (sx xs (i + 1))] A (fun v B => ∃ z : Int, v = some (vI z) ∧ Res R 0 z B ∧ S z B) (fun e B => (e = eIA ∧ Res R 1 0 B) ∨ (e = eIS ∧ Res R 2 0 B))) (hm : SpI (wM g ad2) yX10_number cX10_number 3 (some .int) 7 [.ref (ad2 0), vI (sx xs (i + 1))] M (fun r N => R (N 20 0) r N)) (kk : ∀ A' M' o', RMx ad A' → RMm M' → Jn A' M' → (∃ r, R (M' 20 0) r M') → (M' 20 0 = 0 → ∃ z, S z A') → E (wV g (KH sk) (LW g ad ad2 ao A' M' o')) X (k + ma) (n + na) M0 2037 [(0, .ref b), (1, .ref (ad 0)), (2, .ref (ad2 0)), (3, .ref ao), (4, vI i)] []) : E (wV g (KH sk) (LW g ad ad2 ao A M o)) X k n M0 209 [(0, .ref b), (1, .ref (ad 0)), (2, .ref (ad2 0)), (3, .ref ao), (4, vI i)] [] := by
  refine h_aload_n (CL _) 1 dL_law_209 rfl ?_
  refine h_aload_n (CL _) 0 dL_law_210 rfl ?_
  refine h_iload (CL _) 4 dL_law_211 rfl ?_
  refine h_iconst (CL _) dL_law_213 ?_
  refine h_iadd (CL _) dL_law_214 ?_
  refine h_sld (CL _) SX hL (by omega) dL_law_215 ?_
  refine h_aload_n (CL _) 3 dL_law_216 rfl ?_
  refine v_callH (g := g) (KK := KH sk) (w := wH g ad sk ao) (ws := wlM g ad2 M) (M := oP o A) (M9 := M0) (As := [.ref (ad 0), vI (sx xs (i + 1)), .ref ao]) (rest := []) (CL _) rfl rfl (fun _ _ h => h) (kH_mv g rfl) rA mh_number (tg3 150 rfl rfl) (hl_number (P := oP o A) hx (lnc X) hst) (by decide) (Nat.le_of_ble_eq_true rfl) hk hn dL_law_217 rfl (fun v9 P1 hq rP => ?_)
  obtain ⟨kr, r, e1, hR, hz, hk3⟩ := hq
  subst e1
  refine h_istore (lv' := [(5, vI kr), (0, .ref b), (1, .ref (ad 0)), (2, .ref (ad2 0)), (3, .ref ao), (4, vI i)]) (CL _) dL_law_220 (by decide) rfl ?_
  refine e_perm (M := M0) (List.perm_append_comm (l₁ := wlM g ad2 M) (l₂ := oC g ao (P1 0 0) :: wlX g ad (cX P1))) ?_
  refine h_aload_n (CL _) 3 dL_law_222 rfl ?_
  refine h_aload_n (CL _) 1 dL_law_223 rfl ?_
  refine h_iload (CL _) 5 dL_law_224 rfl ?_
  refine h_iconst (CL _) dL_law_226 ?_
  refine h_iadd (CL _) dL_law_227 ?_
  refine h_sld (CL _) SX hL (by omega) dL_law_228 ?_
  refine v_callV (g := g) (KK := KH sk) (w := wM g ad2) (ws := oC g ao (P1 0 0) :: wlX g ad (cX P1)) (M := M) (M9 := M0) (As := [vI (sx xs (i + 1))]) (rest := []) (q0 := 0) (ci := 10) (CL _) rfl rfl (fun _ _ _ => trivial) (wM_mv g ad2) rM mi_X10_number ms_X10_number mv_X10_number (tg6 218 rfl rfl) (hm (lnc X) hst) rfl rfl (by decide) (Nat.le_of_ble_eq_true rfl) hk hn dL_law_229 rfl (fun v8 N hN rN => ?_)
  obtain ⟨z, e2, hRN⟩ := hN
  subst e2
  obtain ⟨q1, q2, q3⟩ := hR _ _ _ hRN
  refine h_istore (lv' := [(6, vI z), (5, vI kr), (0, .ref b), (1, .ref (ad 0)), (2, .ref (ad2 0)), (3, .ref ao), (4, vI i)]) (CL _) dL_law_232 (by decide) rfl ?_
  refine h_aload_n (CL _) 4 dL_law_234 rfl ?_
  refine v_callV (g := g) (KK := KH sk) (w := wM g ad2) (ws := oC g ao (P1 0 0) :: wlX g ad (cX P1)) (M := N) (M9 := M0) (As := []) (rest := []) (q0 := 0) (ci := 10) (CL _) rfl rfl (fun _ _ _ => trivial) (wM_mv g ad2) rN mi_X10_thrown ms_X10_thrown mv_X10_thrown (tg6 202 rfl rfl) (m_thrown (lnc X) hst) rfl rfl (by decide) (Nat.le_of_ble_eq_true rfl) hk hn dL_law_235 rfl (fun v7 N7 h7 r7 => ?_)
  obtain ⟨e3, e4⟩ := h7
  subst e3
  replace e4 := e4.symm
  subst e4
  refine h_iload (CL _) 1 dL_law_238 rfl ?_
  refine h_icmp_same (CL _) 245 q1 dL_law_240 (by decide) ?_
  refine h_iload (CL _) 1 dL_law_245 rfl ?_
  have fin : E (wV g (KH sk) ((oC g ao (P1 0 0) :: wlX g ad (cX P1)) ++ wlM g ad2 N)) X (k + ma) (n + na) M0 262 [(6, vI z), (5, vI kr), (0, .ref b), (1, .ref (ad 0)), (2, .ref (ad2 0)), (3, .ref ao), (4, vI i)] [] := by
    refine h_goto (CL _) 2037 dL_law_262 (by decide) ?_
    refine e_sub [2, 3, 4, 5, 6] rfl ?_
    refine e_perm (M := M0) (List.perm_append_comm (l₁ := oC g ao (P1 0 0) :: wlX g ad (cX P1)) (l₂ := wlM g ad2 N)) ?_
    exact kk (cX P1) N (P1 0 0) rP rN q3 ⟨z, hRN⟩ (fun h => ⟨r, (hz (q1.symm.trans h)).2⟩)
  refine h_if_ne (CL _) 262 (by omega) dL_law_247 (by decide) (fun _ => fin) (fun h0 => ?_)
  have w1 := (hz h0).1
  have w2 := q2 h0
  refine h_aload_n (CL _) 5 dL_law_250 rfl ?_
  refine h_iconst (CL _) dL_law_251 ?_
  refine h_lald (q0 := 0) (t0 := 1) (len := 1) (x := P1 0 0) (CL _) rfl rfl (by decide) (by decide) rfl dL_law_252 ?_
  refine h_iload (CL _) 0 dL_law_253 rfl ?_
  refine h_i2n (CL _) dL_law_255 ?_
  refine h_lcmp_same (CL _) (by rw [w1, w2]) dL_law_256 ?_
  exact h_if_eq (CL _) 262 (by decide) dL_law_257 (by decide) (fun _ => fin) (fun h => absurd rfl h)
theorem lb_draft {g : Gs} {ad ad2 : Nat → Nat} {sk : (Nat → Nat) × (Nat → Nat)} {ao b L : Nat} {xs : Nat → Int32} {X : Cx} {k n : Nat} {A M : Mem} {o i : Int} {R : Int → Int → Mem → Prop} {S : Int → Mem → Prop} {ma na : Nat} (CL : ∀ ws, OkH (fun _ => True) (wV g (KH sk) ws) X cL_law RL 7 20 601024 7293034) (SX : SxL X b L xs) (hst : (lnc X).stackTraces = false) (hL : L ≤ 2048) (hi : 0 ≤ i ∧ i + 4 ≤ L) (rA : RMx ad A) (rM : RMm M) (hk : k + ma ≤ 601024) (hn : n + na ≤ 7293034) (hx : ∀ l : Launch, l.stackTraces = false → Ct (wC g ad sk) l yX9_draft cX9_draft 5 (some .int) 2 ma na [.ref (ad 0), vI (sx xs (i + 1)), vI (sx xs (i + 2))] A (fun v B => ∃ z : Int, v = some (vI z) ∧ Res R 0 z B ∧ S z B) (fun e B => (e = eIO ∧ Res R 1 0 B) ∨ (e = eIA ∧ Res R 2 0 B) ∨ (e = eIS ∧ Res R 3 0 B))) (hm : SpI (wM g ad2) yX10_draft cX10_draft 6 (some .int) 3 [.ref (ad2 0), vI (sx xs (i + 1)), vI (sx xs (i + 2))] M (fun r N => R (N 20 0) r N)) (kk : ∀ A' M' o', RMx ad A' → RMm M' → Jn A' M' → (∃ r, R (M' 20 0) r M') → (M' 20 0 = 0 → ∃ z, S z A') → E (wV g (KH sk) (LW g ad ad2 ao A' M' o')) X (k + ma) (n + na) M0 2037 [(0, .ref b), (1, .ref (ad 0)), (2, .ref (ad2 0)), (3, .ref ao), (4, vI i)] []) : E (wV g (KH sk) (LW g ad ad2 ao A M o)) X k n M0 265 [(0, .ref b), (1, .ref (ad 0)), (2, .ref (ad2 0)), (3, .ref ao), (4, vI i)] [] := by
  refine h_aload_n (CL _) 1 dL_law_265 rfl ?_
  refine h_aload_n (CL _) 0 dL_law_266 rfl ?_
  refine h_iload (CL _) 4 dL_law_267 rfl ?_
  refine h_iconst (CL _) dL_law_269 ?_
  refine h_iadd (CL _) dL_law_270 ?_
  refine h_sld (CL _) SX hL (by omega) dL_law_271 ?_
  refine h_aload_n (CL _) 0 dL_law_272 rfl ?_
  refine h_iload (CL _) 4 dL_law_273 rfl ?_
  refine h_iconst (CL _) dL_law_275 ?_
  refine h_iadd (CL _) dL_law_276 ?_
  refine h_sld (CL _) SX hL (by omega) dL_law_277 ?_
  refine h_aload_n (CL _) 3 dL_law_278 rfl ?_
  refine v_callH (g := g) (KK := KH sk) (w := wH g ad sk ao) (ws := wlM g ad2 M) (M := oP o A) (M9 := M0) (As := [.ref (ad 0), vI (sx xs (i + 1)), vI (sx xs (i + 2)), .ref ao]) (rest := []) (CL _) rfl rfl (fun _ _ h => h) (kH_mv g rfl) rA mh_draft (tg4 9 rfl rfl) (hl_draft (P := oP o A) hx (lnc X) hst) (by decide) (Nat.le_of_ble_eq_true rfl) hk hn dL_law_279 rfl (fun v9 P1 hq rP => ?_)
  obtain ⟨kr, r, e1, hR, hz, hk3⟩ := hq
  subst e1
  refine h_istore (lv' := [(5, vI kr), (0, .ref b), (1, .ref (ad 0)), (2, .ref (ad2 0)), (3, .ref ao), (4, vI i)]) (CL _) dL_law_282 (by decide) rfl ?_
  refine e_perm (M := M0) (List.perm_append_comm (l₁ := wlM g ad2 M) (l₂ := oC g ao (P1 0 0) :: wlX g ad (cX P1))) ?_
  refine h_aload_n (CL _) 3 dL_law_284 rfl ?_
  refine h_aload_n (CL _) 1 dL_law_285 rfl ?_
  refine h_iload (CL _) 5 dL_law_286 rfl ?_
  refine h_iconst (CL _) dL_law_288 ?_
  refine h_iadd (CL _) dL_law_289 ?_
  refine h_sld (CL _) SX hL (by omega) dL_law_290 ?_
  refine h_aload_n (CL _) 1 dL_law_291 rfl ?_
  refine h_iload (CL _) 5 dL_law_292 rfl ?_
  refine h_iconst (CL _) dL_law_294 ?_
  refine h_iadd (CL _) dL_law_295 ?_
  refine h_sld (CL _) SX hL (by omega) dL_law_296 ?_
  refine v_callV (g := g) (KK := KH sk) (w := wM g ad2) (ws := oC g ao (P1 0 0) :: wlX g ad (cX P1)) (M := M) (M9 := M0) (As := [vI (sx xs (i + 1)), vI (sx xs (i + 2))]) (rest := []) (q0 := 0) (ci := 10) (CL _) rfl rfl (fun _ _ _ => trivial) (wM_mv g ad2) rM mi_X10_draft ms_X10_draft mv_X10_draft (tg6 233 rfl rfl) (hm (lnc X) hst) rfl rfl (by decide) (Nat.le_of_ble_eq_true rfl) hk hn dL_law_297 rfl (fun v8 N hN rN => ?_)
  obtain ⟨z, e2, hRN⟩ := hN
  subst e2
  obtain ⟨q1, q2, q3⟩ := hR _ _ _ hRN
  refine h_istore (lv' := [(6, vI z), (5, vI kr), (0, .ref b), (1, .ref (ad 0)), (2, .ref (ad2 0)), (3, .ref ao), (4, vI i)]) (CL _) dL_law_300 (by decide) rfl ?_
  refine h_aload_n (CL _) 4 dL_law_302 rfl ?_
  refine v_callV (g := g) (KK := KH sk) (w := wM g ad2) (ws := oC g ao (P1 0 0) :: wlX g ad (cX P1)) (M := N) (M9 := M0) (As := []) (rest := []) (q0 := 0) (ci := 10) (CL _) rfl rfl (fun _ _ _ => trivial) (wM_mv g ad2) rN mi_X10_thrown ms_X10_thrown mv_X10_thrown (tg6 202 rfl rfl) (m_thrown (lnc X) hst) rfl rfl (by decide) (Nat.le_of_ble_eq_true rfl) hk hn dL_law_303 rfl (fun v7 N7 h7 r7 => ?_)
  obtain ⟨e3, e4⟩ := h7
  subst e3
  replace e4 := e4.symm
  subst e4
  refine h_iload (CL _) 1 dL_law_306 rfl ?_
  refine h_icmp_same (CL _) 313 q1 dL_law_308 (by decide) ?_
  refine h_iload (CL _) 1 dL_law_313 rfl ?_
  have fin : E (wV g (KH sk) ((oC g ao (P1 0 0) :: wlX g ad (cX P1)) ++ wlM g ad2 N)) X (k + ma) (n + na) M0 330 [(6, vI z), (5, vI kr), (0, .ref b), (1, .ref (ad 0)), (2, .ref (ad2 0)), (3, .ref ao), (4, vI i)] [] := by
    refine h_goto (CL _) 2037 dL_law_330 (by decide) ?_
    refine e_sub [2, 3, 4, 5, 6] rfl ?_
    refine e_perm (M := M0) (List.perm_append_comm (l₁ := oC g ao (P1 0 0) :: wlX g ad (cX P1)) (l₂ := wlM g ad2 N)) ?_
    exact kk (cX P1) N (P1 0 0) rP rN q3 ⟨z, hRN⟩ (fun h => ⟨r, (hz (q1.symm.trans h)).2⟩)
  refine h_if_ne (CL _) 330 (by omega) dL_law_315 (by decide) (fun _ => fin) (fun h0 => ?_)
  have w1 := (hz h0).1
  have w2 := q2 h0
  refine h_aload_n (CL _) 5 dL_law_318 rfl ?_
  refine h_iconst (CL _) dL_law_319 ?_
  refine h_lald (q0 := 0) (t0 := 1) (len := 1) (x := P1 0 0) (CL _) rfl rfl (by decide) (by decide) rfl dL_law_320 ?_
  refine h_iload (CL _) 0 dL_law_321 rfl ?_
  refine h_i2n (CL _) dL_law_323 ?_
  refine h_lcmp_same (CL _) (by rw [w1, w2]) dL_law_324 ?_
  exact h_if_eq (CL _) 330 (by decide) dL_law_325 (by decide) (fun _ => fin) (fun h => absurd rfl h)
theorem lb_clearDraft {g : Gs} {ad ad2 : Nat → Nat} {sk : (Nat → Nat) × (Nat → Nat)} {ao b L : Nat} {xs : Nat → Int32} {X : Cx} {k n : Nat} {A M : Mem} {o i : Int} {R : Int → Int → Mem → Prop} (CL : ∀ ws, OkH (fun _ => True) (wV g (KH sk) ws) X cL_law RL 7 20 601024 7293034) (SX : SxL X b L xs) (hst : (lnc X).stackTraces = false) (hL : L ≤ 2048) (hi : 0 ≤ i ∧ i + 4 ≤ L) (rA : RMx ad A) (rM : RMm M) (hk : k ≤ 601024) (hn : n ≤ 7293034) (hx : SpI (wC g ad sk) yX9_clearDraft cX9_clearDraft 2 (some .int) 2 [.ref (ad 0)] A (fun r B => Res R 0 r B)) (hm : SpI (wM g ad2) yX10_clearDraft cX10_clearDraft 2 (some .int) 1 [.ref (ad2 0)] M (fun r N => R (N 20 0) r N)) (kk : ∀ A' M', RMx ad A' → RMm M' → Jn A' M' → E (wV g (KH sk) (LW g ad ad2 ao A' M' o)) X k n M0 2037 [(0, .ref b), (1, .ref (ad 0)), (2, .ref (ad2 0)), (3, .ref ao), (4, vI i)] []) : E (wV g (KH sk) (LW g ad ad2 ao A M o)) X k n M0 333 [(0, .ref b), (1, .ref (ad 0)), (2, .ref (ad2 0)), (3, .ref ao), (4, vI i)] [] := by
  refine h_aload_n (CL _) 1 dL_law_333 rfl ?_
  refine e_eqW (List.append_assoc (wlM g ad2 M) [oC g ao o] (wlX g ad A)).symm ?_
  refine v_callV (g := g) (KK := KH sk) (w := wC g ad sk) (ws := wlM g ad2 M ++ [oC g ao o]) (M := A) (M9 := M0) (As := []) (rest := []) (q0 := 0) (ci := 9) (CL _) rfl rfl (fun _ _ h => h.1.1) (wC_mv g ad sk) rA mi_X9_clearDraft ms_X9_clearDraft mv_X9_clearDraft (tg2 228 rfl rfl) (hx (lnc X) hst) (wlX_st rfl) rfl (by decide) (Nat.le_of_ble_eq_true rfl) hk hn dL_law_334 rfl (fun v9 B hB rB => ?_)
  obtain ⟨r, e1, hR⟩ := hB
  subst e1
  refine e_eqW (List.append_assoc (wlM g ad2 M) [oC g ao o] (wlX g ad B)) ?_
  refine e_perm (M := M0) (List.perm_append_comm (l₁ := wlM g ad2 M) (l₂ := oC g ao o :: wlX g ad B)) ?_
  refine h_aload_n (CL _) 2 dL_law_337 rfl ?_
  refine v_callV (g := g) (KK := KH sk) (w := wM g ad2) (ws := oC g ao o :: wlX g ad B) (M := M) (M9 := M0) (As := []) (rest := [vI r]) (q0 := 0) (ci := 10) (CL _) rfl rfl (fun _ _ _ => trivial) (wM_mv g ad2) rM mi_X10_clearDraft ms_X10_clearDraft mv_X10_clearDraft (tg7 1 rfl rfl) (hm (lnc X) hst) rfl rfl (by decide) (Nat.le_of_ble_eq_true rfl) hk hn dL_law_338 rfl (fun v8 N hN rN => ?_)
  obtain ⟨z, e2, hRN⟩ := hN
  subst e2
  obtain ⟨q1, q2, q3⟩ := hR _ _ _ hRN
  have q4 := (q2 rfl).symm
  have fin : E (wV g (KH sk) ((oC g ao o :: wlX g ad B) ++ wlM g ad2 N)) X k n M0 2037 [(0, .ref b), (1, .ref (ad 0)), (2, .ref (ad2 0)), (3, .ref ao), (4, vI i)] [] := e_perm (M := M0) (List.perm_append_comm (l₁ := oC g ao o :: wlX g ad B) (l₂ := wlM g ad2 N)) (kk B N rB rN q3)
  exact h_icmp_same (CL _) 2037 q4 dL_law_341 (by decide) fin
theorem lb_make {g : Gs} {ad ad2 : Nat → Nat} {sk : (Nat → Nat) × (Nat → Nat)} {ao b L : Nat} {xs : Nat → Int32} {X : Cx} {k n : Nat} {A M : Mem} {o i : Int} {R : Int → Int → Mem → Prop} {S : Int → Mem → Prop} {ma na : Nat} (CL : ∀ ws, OkH (fun _ => True) (wV g (KH sk) ws) X cL_law RL 7 20 601024 7293034) (SX : SxL X b L xs) (hst : (lnc X).stackTraces = false) (hL : L ≤ 2048) (hi : 0 ≤ i ∧ i + 4 ≤ L) (rA : RMx ad A) (rM : RMm M) (hk : k + ma ≤ 601024) (hn : n + na ≤ 7293034) (hx : ∀ l : Launch, l.stackTraces = false → Ct (wC g ad sk) l yX9_make cX9_make 3 (some .int) 5 ma na [.ref (ad 0)] A (fun v B => ∃ z : Int, v = some (vI z) ∧ Res R 0 z B ∧ S z B) (fun e B => e = eIS ∧ Res R 1 0 B)) (hm : SpI (wM g ad2) yX10_make cX10_make 3 (some .int) 7 [.ref (ad2 0)] M (fun r N => R (N 20 0) r N)) (kk : ∀ A' M' o', RMx ad A' → RMm M' → Jn A' M' → (∃ r, R (M' 20 0) r M') → (M' 20 0 = 0 → ∃ z, S z A') → E (wV g (KH sk) (LW g ad ad2 ao A' M' o')) X (k + ma) (n + na) M0 2037 [(0, .ref b), (1, .ref (ad 0)), (2, .ref (ad2 0)), (3, .ref ao), (4, vI i)] []) : E (wV g (KH sk) (LW g ad ad2 ao A M o)) X k n M0 346 [(0, .ref b), (1, .ref (ad 0)), (2, .ref (ad2 0)), (3, .ref ao), (4, vI i)] [] := by
  refine h_aload_n (CL _) 1 dL_law_346 rfl ?_
  refine h_aload_n (CL _) 3 dL_law_347 rfl ?_
  refine v_callH (g := g) (KK := KH sk) (w := wH g ad sk ao) (ws := wlM g ad2 M) (M := oP o A) (M9 := M0) (As := [.ref (ad 0), .ref ao]) (rest := []) (CL _) rfl rfl (fun _ _ h => h) (kH_mv g rfl) rA mh_make (tg4 42 rfl rfl) (hl_make (P := oP o A) hx (lnc X) hst) (by decide) (Nat.le_of_ble_eq_true rfl) hk hn dL_law_348 rfl (fun v9 P1 hq rP => ?_)
  obtain ⟨kr, r, e1, hR, hz, hk3⟩ := hq
  subst e1
  refine h_istore (lv' := [(5, vI kr), (0, .ref b), (1, .ref (ad 0)), (2, .ref (ad2 0)), (3, .ref ao), (4, vI i)]) (CL _) dL_law_351 (by decide) rfl ?_
  refine e_perm (M := M0) (List.perm_append_comm (l₁ := wlM g ad2 M) (l₂ := oC g ao (P1 0 0) :: wlX g ad (cX P1))) ?_
  refine h_aload_n (CL _) 3 dL_law_353 rfl ?_
  refine v_callV (g := g) (KK := KH sk) (w := wM g ad2) (ws := oC g ao (P1 0 0) :: wlX g ad (cX P1)) (M := M) (M9 := M0) (As := []) (rest := []) (q0 := 0) (ci := 10) (CL _) rfl rfl (fun _ _ _ => trivial) (wM_mv g ad2) rM mi_X10_make ms_X10_make mv_X10_make (tg7 5 rfl rfl) (hm (lnc X) hst) rfl rfl (by decide) (Nat.le_of_ble_eq_true rfl) hk hn dL_law_354 rfl (fun v8 N hN rN => ?_)
  obtain ⟨z, e2, hRN⟩ := hN
  subst e2
  obtain ⟨q1, q2, q3⟩ := hR _ _ _ hRN
  refine h_istore (lv' := [(6, vI z), (5, vI kr), (0, .ref b), (1, .ref (ad 0)), (2, .ref (ad2 0)), (3, .ref ao), (4, vI i)]) (CL _) dL_law_357 (by decide) rfl ?_
  refine h_aload_n (CL _) 4 dL_law_359 rfl ?_
  refine v_callV (g := g) (KK := KH sk) (w := wM g ad2) (ws := oC g ao (P1 0 0) :: wlX g ad (cX P1)) (M := N) (M9 := M0) (As := []) (rest := []) (q0 := 0) (ci := 10) (CL _) rfl rfl (fun _ _ _ => trivial) (wM_mv g ad2) rN mi_X10_thrown ms_X10_thrown mv_X10_thrown (tg6 202 rfl rfl) (m_thrown (lnc X) hst) rfl rfl (by decide) (Nat.le_of_ble_eq_true rfl) hk hn dL_law_360 rfl (fun v7 N7 h7 r7 => ?_)
  obtain ⟨e3, e4⟩ := h7
  subst e3
  replace e4 := e4.symm
  subst e4
  refine h_iload (CL _) 1 dL_law_363 rfl ?_
  refine h_icmp_same (CL _) 370 q1 dL_law_365 (by decide) ?_
  refine h_iload (CL _) 1 dL_law_370 rfl ?_
  have fin : E (wV g (KH sk) ((oC g ao (P1 0 0) :: wlX g ad (cX P1)) ++ wlM g ad2 N)) X (k + ma) (n + na) M0 387 [(6, vI z), (5, vI kr), (0, .ref b), (1, .ref (ad 0)), (2, .ref (ad2 0)), (3, .ref ao), (4, vI i)] [] := by
    refine h_goto (CL _) 2037 dL_law_387 (by decide) ?_
    refine e_sub [2, 3, 4, 5, 6] rfl ?_
    refine e_perm (M := M0) (List.perm_append_comm (l₁ := oC g ao (P1 0 0) :: wlX g ad (cX P1)) (l₂ := wlM g ad2 N)) ?_
    exact kk (cX P1) N (P1 0 0) rP rN q3 ⟨z, hRN⟩ (fun h => ⟨r, (hz (q1.symm.trans h)).2⟩)
  refine h_if_ne (CL _) 387 (by omega) dL_law_372 (by decide) (fun _ => fin) (fun h0 => ?_)
  have w1 := (hz h0).1
  have w2 := q2 h0
  refine h_aload_n (CL _) 5 dL_law_375 rfl ?_
  refine h_iconst (CL _) dL_law_376 ?_
  refine h_lald (q0 := 0) (t0 := 1) (len := 1) (x := P1 0 0) (CL _) rfl rfl (by decide) (by decide) rfl dL_law_377 ?_
  refine h_iload (CL _) 0 dL_law_378 rfl ?_
  refine h_i2n (CL _) dL_law_380 ?_
  refine h_lcmp_same (CL _) (by rw [w1, w2]) dL_law_381 ?_
  exact h_if_eq (CL _) 387 (by decide) dL_law_382 (by decide) (fun _ => fin) (fun h => absurd rfl h)
theorem lb_negative {g : Gs} {ad ad2 : Nat → Nat} {sk : (Nat → Nat) × (Nat → Nat)} {ao b L : Nat} {xs : Nat → Int32} {X : Cx} {k n : Nat} {A M : Mem} {o i : Int} {R : Int → Int → Mem → Prop} {S : Int → Mem → Prop} {ma na : Nat} (CL : ∀ ws, OkH (fun _ => True) (wV g (KH sk) ws) X cL_law RL 7 20 601024 7293034) (SX : SxL X b L xs) (hst : (lnc X).stackTraces = false) (hL : L ≤ 2048) (hi : 0 ≤ i ∧ i + 4 ≤ L) (rA : RMx ad A) (rM : RMm M) (hk : k + ma ≤ 601024) (hn : n + na ≤ 7293034) (hx : ∀ l : Launch, l.stackTraces = false → Ct (wC g ad sk) l yX9_negative cX9_negative 4 (some .int) 7 ma na [.ref (ad 0), vI (sx xs (i + 1))] A (fun v B => ∃ z : Int, v = some (vI z) ∧ Res R 0 z B ∧ S z B) (fun e B => (e = eIO ∧ Res R 1 0 B) ∨ (e = eIS ∧ Res R 2 0 B))) (hm : SpI (wM g ad2) yX10_negative cX10_negative 6 (some .int) 8 [.ref (ad2 0), vI (sx xs (i + 1))] M (fun r N => R (N 20 0) r N)) (kk : ∀ A' M' o', RMx ad A' → RMm M' → Jn A' M' → (∃ r, R (M' 20 0) r M') → (M' 20 0 = 0 → ∃ z, S z A') → E (wV g (KH sk) (LW g ad ad2 ao A' M' o')) X (k + ma) (n + na) M0 2037 [(0, .ref b), (1, .ref (ad 0)), (2, .ref (ad2 0)), (3, .ref ao), (4, vI i)] []) : E (wV g (KH sk) (LW g ad ad2 ao A M o)) X k n M0 390 [(0, .ref b), (1, .ref (ad 0)), (2, .ref (ad2 0)), (3, .ref ao), (4, vI i)] [] := by
  refine h_aload_n (CL _) 1 dL_law_390 rfl ?_
  refine h_aload_n (CL _) 0 dL_law_391 rfl ?_
  refine h_iload (CL _) 4 dL_law_392 rfl ?_
  refine h_iconst (CL _) dL_law_394 ?_
  refine h_iadd (CL _) dL_law_395 ?_
  refine h_sld (CL _) SX hL (by omega) dL_law_396 ?_
  refine h_aload_n (CL _) 3 dL_law_397 rfl ?_
  refine v_callH (g := g) (KK := KH sk) (w := wH g ad sk ao) (ws := wlM g ad2 M) (M := oP o A) (M9 := M0) (As := [.ref (ad 0), vI (sx xs (i + 1)), .ref ao]) (rest := []) (CL _) rfl rfl (fun _ _ h => h) (kH_mv g rfl) rA mh_negative (tg4 50 rfl rfl) (hl_negative (P := oP o A) hx (lnc X) hst) (by decide) (Nat.le_of_ble_eq_true rfl) hk hn dL_law_398 rfl (fun v9 P1 hq rP => ?_)
  obtain ⟨kr, r, e1, hR, hz, hk3⟩ := hq
  subst e1
  refine h_istore (lv' := [(5, vI kr), (0, .ref b), (1, .ref (ad 0)), (2, .ref (ad2 0)), (3, .ref ao), (4, vI i)]) (CL _) dL_law_401 (by decide) rfl ?_
  refine e_perm (M := M0) (List.perm_append_comm (l₁ := wlM g ad2 M) (l₂ := oC g ao (P1 0 0) :: wlX g ad (cX P1))) ?_
  refine h_aload_n (CL _) 3 dL_law_403 rfl ?_
  refine h_aload_n (CL _) 1 dL_law_404 rfl ?_
  refine h_iload (CL _) 5 dL_law_405 rfl ?_
  refine h_iconst (CL _) dL_law_407 ?_
  refine h_iadd (CL _) dL_law_408 ?_
  refine h_sld (CL _) SX hL (by omega) dL_law_409 ?_
  refine v_callV (g := g) (KK := KH sk) (w := wM g ad2) (ws := oC g ao (P1 0 0) :: wlX g ad (cX P1)) (M := M) (M9 := M0) (As := [vI (sx xs (i + 1))]) (rest := []) (q0 := 0) (ci := 10) (CL _) rfl rfl (fun _ _ _ => trivial) (wM_mv g ad2) rM mi_X10_negative ms_X10_negative mv_X10_negative (tg7 9 rfl rfl) (hm (lnc X) hst) rfl rfl (by decide) (Nat.le_of_ble_eq_true rfl) hk hn dL_law_410 rfl (fun v8 N hN rN => ?_)
  obtain ⟨z, e2, hRN⟩ := hN
  subst e2
  obtain ⟨q1, q2, q3⟩ := hR _ _ _ hRN
  refine h_istore (lv' := [(6, vI z), (5, vI kr), (0, .ref b), (1, .ref (ad 0)), (2, .ref (ad2 0)), (3, .ref ao), (4, vI i)]) (CL _) dL_law_413 (by decide) rfl ?_
  refine h_aload_n (CL _) 4 dL_law_415 rfl ?_
  refine v_callV (g := g) (KK := KH sk) (w := wM g ad2) (ws := oC g ao (P1 0 0) :: wlX g ad (cX P1)) (M := N) (M9 := M0) (As := []) (rest := []) (q0 := 0) (ci := 10) (CL _) rfl rfl (fun _ _ _ => trivial) (wM_mv g ad2) rN mi_X10_thrown ms_X10_thrown mv_X10_thrown (tg6 202 rfl rfl) (m_thrown (lnc X) hst) rfl rfl (by decide) (Nat.le_of_ble_eq_true rfl) hk hn dL_law_416 rfl (fun v7 N7 h7 r7 => ?_)
  obtain ⟨e3, e4⟩ := h7
  subst e3
  replace e4 := e4.symm
  subst e4
  refine h_iload (CL _) 1 dL_law_419 rfl ?_
  refine h_icmp_same (CL _) 426 q1 dL_law_421 (by decide) ?_
  refine h_iload (CL _) 1 dL_law_426 rfl ?_
  have fin : E (wV g (KH sk) ((oC g ao (P1 0 0) :: wlX g ad (cX P1)) ++ wlM g ad2 N)) X (k + ma) (n + na) M0 443 [(6, vI z), (5, vI kr), (0, .ref b), (1, .ref (ad 0)), (2, .ref (ad2 0)), (3, .ref ao), (4, vI i)] [] := by
    refine h_goto (CL _) 2037 dL_law_443 (by decide) ?_
    refine e_sub [2, 3, 4, 5, 6] rfl ?_
    refine e_perm (M := M0) (List.perm_append_comm (l₁ := oC g ao (P1 0 0) :: wlX g ad (cX P1)) (l₂ := wlM g ad2 N)) ?_
    exact kk (cX P1) N (P1 0 0) rP rN q3 ⟨z, hRN⟩ (fun h => ⟨r, (hz (q1.symm.trans h)).2⟩)
  refine h_if_ne (CL _) 443 (by omega) dL_law_428 (by decide) (fun _ => fin) (fun h0 => ?_)
  have w1 := (hz h0).1
  have w2 := q2 h0
  refine h_aload_n (CL _) 5 dL_law_431 rfl ?_
  refine h_iconst (CL _) dL_law_432 ?_
  refine h_lald (q0 := 0) (t0 := 1) (len := 1) (x := P1 0 0) (CL _) rfl rfl (by decide) (by decide) rfl dL_law_433 ?_
  refine h_iload (CL _) 0 dL_law_434 rfl ?_
  refine h_i2n (CL _) dL_law_436 ?_
  refine h_lcmp_same (CL _) (by rw [w1, w2]) dL_law_437 ?_
  exact h_if_eq (CL _) 443 (by decide) dL_law_438 (by decide) (fun _ => fin) (fun h => absurd rfl h)
theorem lb_options {g : Gs} {ad ad2 : Nat → Nat} {sk : (Nat → Nat) × (Nat → Nat)} {ao b L : Nat} {xs : Nat → Int32} {X : Cx} {k n : Nat} {A M : Mem} {o i : Int} {R : Int → Int → Mem → Prop} {S : Int → Mem → Prop} {ma na : Nat} (CL : ∀ ws, OkH (fun _ => True) (wV g (KH sk) ws) X cL_law RL 7 20 601024 7293034) (SX : SxL X b L xs) (hst : (lnc X).stackTraces = false) (hL : L ≤ 2048) (hi : 0 ≤ i ∧ i + 4 ≤ L) (rA : RMx ad A) (rM : RMm M) (hk : k + ma ≤ 601024) (hn : n + na ≤ 7293034) (hx : ∀ l : Launch, l.stackTraces = false → Ct (wC g ad sk) l yX9_options cX9_options 3 (some .int) 2 ma na [.ref (ad 0), vI (sx xs (i + 1)), vI (sx xs (i + 2))] A (fun v B => ∃ z : Int, v = some (vI z) ∧ Res R 0 z B ∧ S z B) (fun e B => (e = eIO ∧ Res R 1 0 B) ∨ (e = eIA ∧ Res R 2 0 B))) (hm : SpI (wM g ad2) yX10_options cX10_options 3 (some .int) 4 [.ref (ad2 0), vI (sx xs (i + 1)), vI (sx xs (i + 2))] M (fun r N => R (N 20 0) r N)) (kk : ∀ A' M' o', RMx ad A' → RMm M' → Jn A' M' → (∃ r, R (M' 20 0) r M') → (M' 20 0 = 0 → ∃ z, S z A') → E (wV g (KH sk) (LW g ad ad2 ao A' M' o')) X (k + ma) (n + na) M0 2037 [(0, .ref b), (1, .ref (ad 0)), (2, .ref (ad2 0)), (3, .ref ao), (4, vI i)] []) : E (wV g (KH sk) (LW g ad ad2 ao A M o)) X k n M0 446 [(0, .ref b), (1, .ref (ad 0)), (2, .ref (ad2 0)), (3, .ref ao), (4, vI i)] [] := by
  refine h_aload_n (CL _) 1 dL_law_446 rfl ?_
  refine h_aload_n (CL _) 0 dL_law_447 rfl ?_
  refine h_iload (CL _) 4 dL_law_448 rfl ?_
  refine h_iconst (CL _) dL_law_450 ?_
  refine h_iadd (CL _) dL_law_451 ?_
  refine h_sld (CL _) SX hL (by omega) dL_law_452 ?_
  refine h_aload_n (CL _) 0 dL_law_453 rfl ?_
  refine h_iload (CL _) 4 dL_law_454 rfl ?_
  refine h_iconst (CL _) dL_law_456 ?_
  refine h_iadd (CL _) dL_law_457 ?_
  refine h_sld (CL _) SX hL (by omega) dL_law_458 ?_
  refine h_aload_n (CL _) 3 dL_law_459 rfl ?_
  refine v_callH (g := g) (KK := KH sk) (w := wH g ad sk ao) (ws := wlM g ad2 M) (M := oP o A) (M9 := M0) (As := [.ref (ad 0), vI (sx xs (i + 1)), vI (sx xs (i + 2)), .ref ao]) (rest := []) (CL _) rfl rfl (fun _ _ h => h) (kH_mv g rfl) rA mh_options (tg4 75 rfl rfl) (hl_options (P := oP o A) hx (lnc X) hst) (by decide) (Nat.le_of_ble_eq_true rfl) hk hn dL_law_460 rfl (fun v9 P1 hq rP => ?_)
  obtain ⟨kr, r, e1, hR, hz, hk3⟩ := hq
  subst e1
  refine h_istore (lv' := [(5, vI kr), (0, .ref b), (1, .ref (ad 0)), (2, .ref (ad2 0)), (3, .ref ao), (4, vI i)]) (CL _) dL_law_463 (by decide) rfl ?_
  refine e_perm (M := M0) (List.perm_append_comm (l₁ := wlM g ad2 M) (l₂ := oC g ao (P1 0 0) :: wlX g ad (cX P1))) ?_
  refine h_aload_n (CL _) 3 dL_law_465 rfl ?_
  refine h_aload_n (CL _) 1 dL_law_466 rfl ?_
  refine h_iload (CL _) 5 dL_law_467 rfl ?_
  refine h_iconst (CL _) dL_law_469 ?_
  refine h_iadd (CL _) dL_law_470 ?_
  refine h_sld (CL _) SX hL (by omega) dL_law_471 ?_
  refine h_aload_n (CL _) 1 dL_law_472 rfl ?_
  refine h_iload (CL _) 5 dL_law_473 rfl ?_
  refine h_iconst (CL _) dL_law_475 ?_
  refine h_iadd (CL _) dL_law_476 ?_
  refine h_sld (CL _) SX hL (by omega) dL_law_477 ?_
  refine v_callV (g := g) (KK := KH sk) (w := wM g ad2) (ws := oC g ao (P1 0 0) :: wlX g ad (cX P1)) (M := M) (M9 := M0) (As := [vI (sx xs (i + 1)), vI (sx xs (i + 2))]) (rest := []) (q0 := 0) (ci := 10) (CL _) rfl rfl (fun _ _ _ => trivial) (wM_mv g ad2) rM mi_X10_options ms_X10_options mv_X10_options (tg7 17 rfl rfl) (hm (lnc X) hst) rfl rfl (by decide) (Nat.le_of_ble_eq_true rfl) hk hn dL_law_478 rfl (fun v8 N hN rN => ?_)
  obtain ⟨z, e2, hRN⟩ := hN
  subst e2
  obtain ⟨q1, q2, q3⟩ := hR _ _ _ hRN
  refine h_istore (lv' := [(6, vI z), (5, vI kr), (0, .ref b), (1, .ref (ad 0)), (2, .ref (ad2 0)), (3, .ref ao), (4, vI i)]) (CL _) dL_law_481 (by decide) rfl ?_
  refine h_aload_n (CL _) 4 dL_law_483 rfl ?_
  refine v_callV (g := g) (KK := KH sk) (w := wM g ad2) (ws := oC g ao (P1 0 0) :: wlX g ad (cX P1)) (M := N) (M9 := M0) (As := []) (rest := []) (q0 := 0) (ci := 10) (CL _) rfl rfl (fun _ _ _ => trivial) (wM_mv g ad2) rN mi_X10_thrown ms_X10_thrown mv_X10_thrown (tg6 202 rfl rfl) (m_thrown (lnc X) hst) rfl rfl (by decide) (Nat.le_of_ble_eq_true rfl) hk hn dL_law_484 rfl (fun v7 N7 h7 r7 => ?_)
  obtain ⟨e3, e4⟩ := h7
  subst e3
  replace e4 := e4.symm
  subst e4
  refine h_iload (CL _) 1 dL_law_487 rfl ?_
  refine h_icmp_same (CL _) 494 q1 dL_law_489 (by decide) ?_
  refine h_iload (CL _) 1 dL_law_494 rfl ?_
  have fin : E (wV g (KH sk) ((oC g ao (P1 0 0) :: wlX g ad (cX P1)) ++ wlM g ad2 N)) X (k + ma) (n + na) M0 511 [(6, vI z), (5, vI kr), (0, .ref b), (1, .ref (ad 0)), (2, .ref (ad2 0)), (3, .ref ao), (4, vI i)] [] := by
    refine h_goto (CL _) 2037 dL_law_511 (by decide) ?_
    refine e_sub [2, 3, 4, 5, 6] rfl ?_
    refine e_perm (M := M0) (List.perm_append_comm (l₁ := oC g ao (P1 0 0) :: wlX g ad (cX P1)) (l₂ := wlM g ad2 N)) ?_
    exact kk (cX P1) N (P1 0 0) rP rN q3 ⟨z, hRN⟩ (fun h => ⟨r, (hz (q1.symm.trans h)).2⟩)
  refine h_if_ne (CL _) 511 (by omega) dL_law_496 (by decide) (fun _ => fin) (fun h0 => ?_)
  have w1 := (hz h0).1
  have w2 := q2 h0
  refine h_aload_n (CL _) 5 dL_law_499 rfl ?_
  refine h_iconst (CL _) dL_law_500 ?_
  refine h_lald (q0 := 0) (t0 := 1) (len := 1) (x := P1 0 0) (CL _) rfl rfl (by decide) (by decide) rfl dL_law_501 ?_
  refine h_iload (CL _) 0 dL_law_502 rfl ?_
  refine h_i2n (CL _) dL_law_504 ?_
  refine h_lcmp_same (CL _) (by rw [w1, w2]) dL_law_505 ?_
  exact h_if_eq (CL _) 511 (by decide) dL_law_506 (by decide) (fun _ => fin) (fun h => absurd rfl h)
theorem lb_option {g : Gs} {ad ad2 : Nat → Nat} {sk : (Nat → Nat) × (Nat → Nat)} {ao b L : Nat} {xs : Nat → Int32} {X : Cx} {k n : Nat} {A M : Mem} {o i : Int} {R : Int → Int → Mem → Prop} {S : Int → Mem → Prop} {ma na : Nat} (CL : ∀ ws, OkH (fun _ => True) (wV g (KH sk) ws) X cL_law RL 7 20 601024 7293034) (SX : SxL X b L xs) (hst : (lnc X).stackTraces = false) (hL : L ≤ 2048) (hi : 0 ≤ i ∧ i + 4 ≤ L) (rA : RMx ad A) (rM : RMm M) (hk : k + ma ≤ 601024) (hn : n + na ≤ 7293034) (hx : ∀ l : Launch, l.stackTraces = false → Ct (wC g ad sk) l yX9_option cX9_option 4 (some .int) 2 ma na [.ref (ad 0), vI (sx xs (i + 1)), vI (sx xs (i + 2)), vI (sx xs (i + 3))] A (fun v B => ∃ z : Int, v = some (vI z) ∧ Res R 0 z B ∧ S z B) (fun e B => (e = eIO ∧ Res R 1 0 B) ∨ (e = eIA ∧ Res R 2 0 B))) (hm : SpI (wM g ad2) yX10_option cX10_option 4 (some .int) 4 [.ref (ad2 0), vI (sx xs (i + 1)), vI (sx xs (i + 2)), vI (sx xs (i + 3))] M (fun r N => R (N 20 0) r N)) (kk : ∀ A' M' o', RMx ad A' → RMm M' → Jn A' M' → (∃ r, R (M' 20 0) r M') → (M' 20 0 = 0 → ∃ z, S z A') → E (wV g (KH sk) (LW g ad ad2 ao A' M' o')) X (k + ma) (n + na) M0 2037 [(0, .ref b), (1, .ref (ad 0)), (2, .ref (ad2 0)), (3, .ref ao), (4, vI i)] []) : E (wV g (KH sk) (LW g ad ad2 ao A M o)) X k n M0 514 [(0, .ref b), (1, .ref (ad 0)), (2, .ref (ad2 0)), (3, .ref ao), (4, vI i)] [] := by
  refine h_aload_n (CL _) 1 dL_law_514 rfl ?_
  refine h_aload_n (CL _) 0 dL_law_515 rfl ?_
  refine h_iload (CL _) 4 dL_law_516 rfl ?_
  refine h_iconst (CL _) dL_law_518 ?_
  refine h_iadd (CL _) dL_law_519 ?_
  refine h_sld (CL _) SX hL (by omega) dL_law_520 ?_
  refine h_aload_n (CL _) 0 dL_law_521 rfl ?_
  refine h_iload (CL _) 4 dL_law_522 rfl ?_
  refine h_iconst (CL _) dL_law_524 ?_
  refine h_iadd (CL _) dL_law_525 ?_
  refine h_sld (CL _) SX hL (by omega) dL_law_526 ?_
  refine h_aload_n (CL _) 0 dL_law_527 rfl ?_
  refine h_iload (CL _) 4 dL_law_528 rfl ?_
  refine h_iconst (CL _) dL_law_530 ?_
  refine h_iadd (CL _) dL_law_531 ?_
  refine h_sld (CL _) SX hL (by omega) dL_law_532 ?_
  refine h_aload_n (CL _) 3 dL_law_533 rfl ?_
  refine v_callH (g := g) (KK := KH sk) (w := wH g ad sk ao) (ws := wlM g ad2 M) (M := oP o A) (M9 := M0) (As := [.ref (ad 0), vI (sx xs (i + 1)), vI (sx xs (i + 2)), vI (sx xs (i + 3)), .ref ao]) (rest := []) (CL _) rfl rfl (fun _ _ h => h) (kH_mv g rfl) rA mh_option (tg4 82 rfl rfl) (hl_option (P := oP o A) hx (lnc X) hst) (by decide) (Nat.le_of_ble_eq_true rfl) hk hn dL_law_534 rfl (fun v9 P1 hq rP => ?_)
  obtain ⟨kr, r, e1, hR, hz, hk3⟩ := hq
  subst e1
  refine h_istore (lv' := [(5, vI kr), (0, .ref b), (1, .ref (ad 0)), (2, .ref (ad2 0)), (3, .ref ao), (4, vI i)]) (CL _) dL_law_537 (by decide) rfl ?_
  refine e_perm (M := M0) (List.perm_append_comm (l₁ := wlM g ad2 M) (l₂ := oC g ao (P1 0 0) :: wlX g ad (cX P1))) ?_
  refine h_aload_n (CL _) 3 dL_law_539 rfl ?_
  refine h_aload_n (CL _) 1 dL_law_540 rfl ?_
  refine h_iload (CL _) 5 dL_law_541 rfl ?_
  refine h_iconst (CL _) dL_law_543 ?_
  refine h_iadd (CL _) dL_law_544 ?_
  refine h_sld (CL _) SX hL (by omega) dL_law_545 ?_
  refine h_aload_n (CL _) 1 dL_law_546 rfl ?_
  refine h_iload (CL _) 5 dL_law_547 rfl ?_
  refine h_iconst (CL _) dL_law_549 ?_
  refine h_iadd (CL _) dL_law_550 ?_
  refine h_sld (CL _) SX hL (by omega) dL_law_551 ?_
  refine h_aload_n (CL _) 1 dL_law_552 rfl ?_
  refine h_iload (CL _) 5 dL_law_553 rfl ?_
  refine h_iconst (CL _) dL_law_555 ?_
  refine h_iadd (CL _) dL_law_556 ?_
  refine h_sld (CL _) SX hL (by omega) dL_law_557 ?_
  refine v_callV (g := g) (KK := KH sk) (w := wM g ad2) (ws := oC g ao (P1 0 0) :: wlX g ad (cX P1)) (M := M) (M9 := M0) (As := [vI (sx xs (i + 1)), vI (sx xs (i + 2)), vI (sx xs (i + 3))]) (rest := []) (q0 := 0) (ci := 10) (CL _) rfl rfl (fun _ _ _ => trivial) (wM_mv g ad2) rM mi_X10_option ms_X10_option mv_X10_option (tg7 25 rfl rfl) (hm (lnc X) hst) rfl rfl (by decide) (Nat.le_of_ble_eq_true rfl) hk hn dL_law_558 rfl (fun v8 N hN rN => ?_)
  obtain ⟨z, e2, hRN⟩ := hN
  subst e2
  obtain ⟨q1, q2, q3⟩ := hR _ _ _ hRN
  refine h_istore (lv' := [(6, vI z), (5, vI kr), (0, .ref b), (1, .ref (ad 0)), (2, .ref (ad2 0)), (3, .ref ao), (4, vI i)]) (CL _) dL_law_561 (by decide) rfl ?_
  refine h_aload_n (CL _) 4 dL_law_563 rfl ?_
  refine v_callV (g := g) (KK := KH sk) (w := wM g ad2) (ws := oC g ao (P1 0 0) :: wlX g ad (cX P1)) (M := N) (M9 := M0) (As := []) (rest := []) (q0 := 0) (ci := 10) (CL _) rfl rfl (fun _ _ _ => trivial) (wM_mv g ad2) rN mi_X10_thrown ms_X10_thrown mv_X10_thrown (tg6 202 rfl rfl) (m_thrown (lnc X) hst) rfl rfl (by decide) (Nat.le_of_ble_eq_true rfl) hk hn dL_law_564 rfl (fun v7 N7 h7 r7 => ?_)
  obtain ⟨e3, e4⟩ := h7
  subst e3
  replace e4 := e4.symm
  subst e4
  refine h_iload (CL _) 1 dL_law_567 rfl ?_
  refine h_icmp_same (CL _) 574 q1 dL_law_569 (by decide) ?_
  refine h_iload (CL _) 1 dL_law_574 rfl ?_
  have fin : E (wV g (KH sk) ((oC g ao (P1 0 0) :: wlX g ad (cX P1)) ++ wlM g ad2 N)) X (k + ma) (n + na) M0 591 [(6, vI z), (5, vI kr), (0, .ref b), (1, .ref (ad 0)), (2, .ref (ad2 0)), (3, .ref ao), (4, vI i)] [] := by
    refine h_goto (CL _) 2037 dL_law_591 (by decide) ?_
    refine e_sub [2, 3, 4, 5, 6] rfl ?_
    refine e_perm (M := M0) (List.perm_append_comm (l₁ := oC g ao (P1 0 0) :: wlX g ad (cX P1)) (l₂ := wlM g ad2 N)) ?_
    exact kk (cX P1) N (P1 0 0) rP rN q3 ⟨z, hRN⟩ (fun h => ⟨r, (hz (q1.symm.trans h)).2⟩)
  refine h_if_ne (CL _) 591 (by omega) dL_law_576 (by decide) (fun _ => fin) (fun h0 => ?_)
  have w1 := (hz h0).1
  have w2 := q2 h0
  refine h_aload_n (CL _) 5 dL_law_579 rfl ?_
  refine h_iconst (CL _) dL_law_580 ?_
  refine h_lald (q0 := 0) (t0 := 1) (len := 1) (x := P1 0 0) (CL _) rfl rfl (by decide) (by decide) rfl dL_law_581 ?_
  refine h_iload (CL _) 0 dL_law_582 rfl ?_
  refine h_i2n (CL _) dL_law_584 ?_
  refine h_lcmp_same (CL _) (by rw [w1, w2]) dL_law_585 ?_
  exact h_if_eq (CL _) 591 (by decide) dL_law_586 (by decide) (fun _ => fin) (fun h => absurd rfl h)
theorem lb_depth {g : Gs} {ad ad2 : Nat → Nat} {sk : (Nat → Nat) × (Nat → Nat)} {ao b L : Nat} {xs : Nat → Int32} {X : Cx} {k n : Nat} {A M : Mem} {o i : Int} {R : Int → Int → Mem → Prop} {S : Int → Mem → Prop} {ma na : Nat} (CL : ∀ ws, OkH (fun _ => True) (wV g (KH sk) ws) X cL_law RL 7 20 601024 7293034) (SX : SxL X b L xs) (hst : (lnc X).stackTraces = false) (hL : L ≤ 2048) (hi : 0 ≤ i ∧ i + 4 ≤ L) (rA : RMx ad A) (rM : RMm M) (hk : k + ma ≤ 601024) (hn : n + na ≤ 7293034) (hx : ∀ l : Launch, l.stackTraces = false → Ct (wC g ad sk) l yX9_depth cX9_depth 2 (some .int) 2 ma na [.ref (ad 0), vI (sx xs (i + 1))] A (fun v B => ∃ z : Int, v = some (vI z) ∧ Res R 0 z B ∧ S z B) (fun e B => e = eIO ∧ Res R 1 0 B)) (hm : SpI (wM g ad2) yX10_depth cX10_depth 2 (some .int) 3 [.ref (ad2 0), vI (sx xs (i + 1))] M (fun r N => R (N 20 0) r N)) (kk : ∀ A' M' o', RMx ad A' → RMm M' → Jn A' M' → (∃ r, R (M' 20 0) r M') → (M' 20 0 = 0 → ∃ z, S z A') → E (wV g (KH sk) (LW g ad ad2 ao A' M' o')) X (k + ma) (n + na) M0 2037 [(0, .ref b), (1, .ref (ad 0)), (2, .ref (ad2 0)), (3, .ref ao), (4, vI i)] []) : E (wV g (KH sk) (LW g ad ad2 ao A M o)) X k n M0 594 [(0, .ref b), (1, .ref (ad 0)), (2, .ref (ad2 0)), (3, .ref ao), (4, vI i)] [] := by
  refine h_aload_n (CL _) 1 dL_law_594 rfl ?_
  refine h_aload_n (CL _) 0 dL_law_595 rfl ?_
  refine h_iload (CL _) 4 dL_law_596 rfl ?_
  refine h_iconst (CL _) dL_law_598 ?_
  refine h_iadd (CL _) dL_law_599 ?_
  refine h_sld (CL _) SX hL (by omega) dL_law_600 ?_
  refine h_aload_n (CL _) 3 dL_law_601 rfl ?_
  refine v_callH (g := g) (KK := KH sk) (w := wH g ad sk ao) (ws := wlM g ad2 M) (M := oP o A) (M9 := M0) (As := [.ref (ad 0), vI (sx xs (i + 1)), .ref ao]) (rest := []) (CL _) rfl rfl (fun _ _ h => h) (kH_mv g rfl) rA mh_depth (tg4 89 rfl rfl) (hl_depth (P := oP o A) hx (lnc X) hst) (by decide) (Nat.le_of_ble_eq_true rfl) hk hn dL_law_602 rfl (fun v9 P1 hq rP => ?_)
  obtain ⟨kr, r, e1, hR, hz, hk3⟩ := hq
  subst e1
  refine h_istore (lv' := [(5, vI kr), (0, .ref b), (1, .ref (ad 0)), (2, .ref (ad2 0)), (3, .ref ao), (4, vI i)]) (CL _) dL_law_605 (by decide) rfl ?_
  refine e_perm (M := M0) (List.perm_append_comm (l₁ := wlM g ad2 M) (l₂ := oC g ao (P1 0 0) :: wlX g ad (cX P1))) ?_
  refine h_aload_n (CL _) 3 dL_law_607 rfl ?_
  refine h_aload_n (CL _) 1 dL_law_608 rfl ?_
  refine h_iload (CL _) 5 dL_law_609 rfl ?_
  refine h_iconst (CL _) dL_law_611 ?_
  refine h_iadd (CL _) dL_law_612 ?_
  refine h_sld (CL _) SX hL (by omega) dL_law_613 ?_
  refine v_callV (g := g) (KK := KH sk) (w := wM g ad2) (ws := oC g ao (P1 0 0) :: wlX g ad (cX P1)) (M := M) (M9 := M0) (As := [vI (sx xs (i + 1))]) (rest := []) (q0 := 0) (ci := 10) (CL _) rfl rfl (fun _ _ _ => trivial) (wM_mv g ad2) rM mi_X10_depth ms_X10_depth mv_X10_depth (tg7 29 rfl rfl) (hm (lnc X) hst) rfl rfl (by decide) (Nat.le_of_ble_eq_true rfl) hk hn dL_law_614 rfl (fun v8 N hN rN => ?_)
  obtain ⟨z, e2, hRN⟩ := hN
  subst e2
  obtain ⟨q1, q2, q3⟩ := hR _ _ _ hRN
  refine h_istore (lv' := [(6, vI z), (5, vI kr), (0, .ref b), (1, .ref (ad 0)), (2, .ref (ad2 0)), (3, .ref ao), (4, vI i)]) (CL _) dL_law_617 (by decide) rfl ?_
  refine h_aload_n (CL _) 4 dL_law_619 rfl ?_
  refine v_callV (g := g) (KK := KH sk) (w := wM g ad2) (ws := oC g ao (P1 0 0) :: wlX g ad (cX P1)) (M := N) (M9 := M0) (As := []) (rest := []) (q0 := 0) (ci := 10) (CL _) rfl rfl (fun _ _ _ => trivial) (wM_mv g ad2) rN mi_X10_thrown ms_X10_thrown mv_X10_thrown (tg6 202 rfl rfl) (m_thrown (lnc X) hst) rfl rfl (by decide) (Nat.le_of_ble_eq_true rfl) hk hn dL_law_620 rfl (fun v7 N7 h7 r7 => ?_)
  obtain ⟨e3, e4⟩ := h7
  subst e3
  replace e4 := e4.symm
  subst e4
  refine h_iload (CL _) 1 dL_law_623 rfl ?_
  refine h_icmp_same (CL _) 630 q1 dL_law_625 (by decide) ?_
  refine h_iload (CL _) 1 dL_law_630 rfl ?_
  have fin : E (wV g (KH sk) ((oC g ao (P1 0 0) :: wlX g ad (cX P1)) ++ wlM g ad2 N)) X (k + ma) (n + na) M0 647 [(6, vI z), (5, vI kr), (0, .ref b), (1, .ref (ad 0)), (2, .ref (ad2 0)), (3, .ref ao), (4, vI i)] [] := by
    refine h_goto (CL _) 2037 dL_law_647 (by decide) ?_
    refine e_sub [2, 3, 4, 5, 6] rfl ?_
    refine e_perm (M := M0) (List.perm_append_comm (l₁ := oC g ao (P1 0 0) :: wlX g ad (cX P1)) (l₂ := wlM g ad2 N)) ?_
    exact kk (cX P1) N (P1 0 0) rP rN q3 ⟨z, hRN⟩ (fun h => ⟨r, (hz (q1.symm.trans h)).2⟩)
  refine h_if_ne (CL _) 647 (by omega) dL_law_632 (by decide) (fun _ => fin) (fun h0 => ?_)
  have w1 := (hz h0).1
  have w2 := q2 h0
  refine h_aload_n (CL _) 5 dL_law_635 rfl ?_
  refine h_iconst (CL _) dL_law_636 ?_
  refine h_lald (q0 := 0) (t0 := 1) (len := 1) (x := P1 0 0) (CL _) rfl rfl (by decide) (by decide) rfl dL_law_637 ?_
  refine h_iload (CL _) 0 dL_law_638 rfl ?_
  refine h_i2n (CL _) dL_law_640 ?_
  refine h_lcmp_same (CL _) (by rw [w1, w2]) dL_law_641 ?_
  exact h_if_eq (CL _) 647 (by decide) dL_law_642 (by decide) (fun _ => fin) (fun h => absurd rfl h)
theorem lb_compare {g : Gs} {ad ad2 : Nat → Nat} {sk : (Nat → Nat) × (Nat → Nat)} {ao b L : Nat} {xs : Nat → Int32} {X : Cx} {k n : Nat} {A M : Mem} {o i : Int} {R : Int → Int → Mem → Prop} {S : Int → Mem → Prop} {ma na : Nat} (CL : ∀ ws, OkH (fun _ => True) (wV g (KH sk) ws) X cL_law RL 7 20 601024 7293034) (SX : SxL X b L xs) (hst : (lnc X).stackTraces = false) (hL : L ≤ 2048) (hi : 0 ≤ i ∧ i + 4 ≤ L) (rA : RMx ad A) (rM : RMm M) (hk : k + ma ≤ 601024) (hn : n + na ≤ 7293034) (hx : ∀ l : Launch, l.stackTraces = false → Ct (wC g ad sk) l yX9_compare cX9_compare 5 (some .int) 2 ma na [.ref (ad 0), vI (sx xs (i + 1)), vI (sx xs (i + 2))] A (fun v B => ∃ z : Int, v = some (vI z) ∧ Res R 0 z B ∧ S z B) (fun e B => e = eIO ∧ Res R 1 0 B)) (hm : SpI (wM g ad2) yX10_compare cX10_compare 3 (some .int) 3 [.ref (ad2 0), vI (sx xs (i + 1)), vI (sx xs (i + 2))] M (fun r N => R (N 20 0) r N)) (kk : ∀ A' M' o', RMx ad A' → RMm M' → Jn A' M' → (∃ r, R (M' 20 0) r M') → (M' 20 0 = 0 → ∃ z, S z A') → E (wV g (KH sk) (LW g ad ad2 ao A' M' o')) X (k + ma) (n + na) M0 2037 [(0, .ref b), (1, .ref (ad 0)), (2, .ref (ad2 0)), (3, .ref ao), (4, vI i)] []) : E (wV g (KH sk) (LW g ad ad2 ao A M o)) X k n M0 650 [(0, .ref b), (1, .ref (ad 0)), (2, .ref (ad2 0)), (3, .ref ao), (4, vI i)] [] := by
  refine h_aload_n (CL _) 1 dL_law_650 rfl ?_
  refine h_aload_n (CL _) 0 dL_law_651 rfl ?_
  refine h_iload (CL _) 4 dL_law_652 rfl ?_
  refine h_iconst (CL _) dL_law_654 ?_
  refine h_iadd (CL _) dL_law_655 ?_
  refine h_sld (CL _) SX hL (by omega) dL_law_656 ?_
  refine h_aload_n (CL _) 0 dL_law_657 rfl ?_
  refine h_iload (CL _) 4 dL_law_658 rfl ?_
  refine h_iconst (CL _) dL_law_660 ?_
  refine h_iadd (CL _) dL_law_661 ?_
  refine h_sld (CL _) SX hL (by omega) dL_law_662 ?_
  refine h_aload_n (CL _) 3 dL_law_663 rfl ?_
  refine v_callH (g := g) (KK := KH sk) (w := wH g ad sk ao) (ws := wlM g ad2 M) (M := oP o A) (M9 := M0) (As := [.ref (ad 0), vI (sx xs (i + 1)), vI (sx xs (i + 2)), .ref ao]) (rest := []) (CL _) rfl rfl (fun _ _ h => h) (kH_mv g rfl) rA mh_compare (tg4 96 rfl rfl) (hl_compare (P := oP o A) hx (lnc X) hst) (by decide) (Nat.le_of_ble_eq_true rfl) hk hn dL_law_664 rfl (fun v9 P1 hq rP => ?_)
  obtain ⟨kr, r, e1, hR, hz, hk3⟩ := hq
  subst e1
  refine h_istore (lv' := [(5, vI kr), (0, .ref b), (1, .ref (ad 0)), (2, .ref (ad2 0)), (3, .ref ao), (4, vI i)]) (CL _) dL_law_667 (by decide) rfl ?_
  refine e_perm (M := M0) (List.perm_append_comm (l₁ := wlM g ad2 M) (l₂ := oC g ao (P1 0 0) :: wlX g ad (cX P1))) ?_
  refine h_aload_n (CL _) 3 dL_law_669 rfl ?_
  refine h_aload_n (CL _) 1 dL_law_670 rfl ?_
  refine h_iload (CL _) 5 dL_law_671 rfl ?_
  refine h_iconst (CL _) dL_law_673 ?_
  refine h_iadd (CL _) dL_law_674 ?_
  refine h_sld (CL _) SX hL (by omega) dL_law_675 ?_
  refine h_aload_n (CL _) 1 dL_law_676 rfl ?_
  refine h_iload (CL _) 5 dL_law_677 rfl ?_
  refine h_iconst (CL _) dL_law_679 ?_
  refine h_iadd (CL _) dL_law_680 ?_
  refine h_sld (CL _) SX hL (by omega) dL_law_681 ?_
  refine v_callV (g := g) (KK := KH sk) (w := wM g ad2) (ws := oC g ao (P1 0 0) :: wlX g ad (cX P1)) (M := M) (M9 := M0) (As := [vI (sx xs (i + 1)), vI (sx xs (i + 2))]) (rest := []) (q0 := 0) (ci := 10) (CL _) rfl rfl (fun _ _ _ => trivial) (wM_mv g ad2) rM mi_X10_compare ms_X10_compare mv_X10_compare (tg7 33 rfl rfl) (hm (lnc X) hst) rfl rfl (by decide) (Nat.le_of_ble_eq_true rfl) hk hn dL_law_682 rfl (fun v8 N hN rN => ?_)
  obtain ⟨z, e2, hRN⟩ := hN
  subst e2
  obtain ⟨q1, q2, q3⟩ := hR _ _ _ hRN
  refine h_istore (lv' := [(6, vI z), (5, vI kr), (0, .ref b), (1, .ref (ad 0)), (2, .ref (ad2 0)), (3, .ref ao), (4, vI i)]) (CL _) dL_law_685 (by decide) rfl ?_
  refine h_aload_n (CL _) 4 dL_law_687 rfl ?_
  refine v_callV (g := g) (KK := KH sk) (w := wM g ad2) (ws := oC g ao (P1 0 0) :: wlX g ad (cX P1)) (M := N) (M9 := M0) (As := []) (rest := []) (q0 := 0) (ci := 10) (CL _) rfl rfl (fun _ _ _ => trivial) (wM_mv g ad2) rN mi_X10_thrown ms_X10_thrown mv_X10_thrown (tg6 202 rfl rfl) (m_thrown (lnc X) hst) rfl rfl (by decide) (Nat.le_of_ble_eq_true rfl) hk hn dL_law_688 rfl (fun v7 N7 h7 r7 => ?_)
  obtain ⟨e3, e4⟩ := h7
  subst e3
  replace e4 := e4.symm
  subst e4
  refine h_iload (CL _) 1 dL_law_691 rfl ?_
  refine h_icmp_same (CL _) 698 q1 dL_law_693 (by decide) ?_
  refine h_iload (CL _) 1 dL_law_698 rfl ?_
  have fin : E (wV g (KH sk) ((oC g ao (P1 0 0) :: wlX g ad (cX P1)) ++ wlM g ad2 N)) X (k + ma) (n + na) M0 715 [(6, vI z), (5, vI kr), (0, .ref b), (1, .ref (ad 0)), (2, .ref (ad2 0)), (3, .ref ao), (4, vI i)] [] := by
    refine h_goto (CL _) 2037 dL_law_715 (by decide) ?_
    refine e_sub [2, 3, 4, 5, 6] rfl ?_
    refine e_perm (M := M0) (List.perm_append_comm (l₁ := oC g ao (P1 0 0) :: wlX g ad (cX P1)) (l₂ := wlM g ad2 N)) ?_
    exact kk (cX P1) N (P1 0 0) rP rN q3 ⟨z, hRN⟩ (fun h => ⟨r, (hz (q1.symm.trans h)).2⟩)
  refine h_if_ne (CL _) 715 (by omega) dL_law_700 (by decide) (fun _ => fin) (fun h0 => ?_)
  have w1 := (hz h0).1
  have w2 := q2 h0
  refine h_aload_n (CL _) 5 dL_law_703 rfl ?_
  refine h_iconst (CL _) dL_law_704 ?_
  refine h_lald (q0 := 0) (t0 := 1) (len := 1) (x := P1 0 0) (CL _) rfl rfl (by decide) (by decide) rfl dL_law_705 ?_
  refine h_iload (CL _) 0 dL_law_706 rfl ?_
  refine h_i2n (CL _) dL_law_708 ?_
  refine h_lcmp_same (CL _) (by rw [w1, w2]) dL_law_709 ?_
  exact h_if_eq (CL _) 715 (by decide) dL_law_710 (by decide) (fun _ => fin) (fun h => absurd rfl h)
theorem lb_isCold {g : Gs} {ad ad2 : Nat → Nat} {sk : (Nat → Nat) × (Nat → Nat)} {ao b L : Nat} {xs : Nat → Int32} {X : Cx} {k n : Nat} {A M : Mem} {o i : Int} {R : Int → Int → Mem → Prop} {S : Int → Mem → Prop} {ma na : Nat} (CL : ∀ ws, OkH (fun _ => True) (wV g (KH sk) ws) X cL_law RL 7 20 601024 7293034) (SX : SxL X b L xs) (hst : (lnc X).stackTraces = false) (hL : L ≤ 2048) (hi : 0 ≤ i ∧ i + 4 ≤ L) (rA : RMx ad A) (rM : RMm M) (hS : ∀ z B, S z B → z = 0 ∨ z = 1) (hk : k + ma ≤ 601024) (hn : n + na ≤ 7293034) (hx : ∀ l : Launch, l.stackTraces = false → Ct (wC g ad sk) l yX9_isCold cX9_isCold 2 (some .boolean) 2 ma na [.ref (ad 0), vI (sx xs (i + 1))] A (fun v B => ∃ z : Int, v = some (vI z) ∧ Res R 0 z B ∧ S z B) (fun e B => e = eIO ∧ Res R 1 0 B)) (hm : SpI (wM g ad2) yX10_isCold cX10_isCold 2 (some .boolean) 3 [.ref (ad2 0), vI (sx xs (i + 1))] M (fun r N => R (N 20 0) r N)) (kk : ∀ A' M' o', RMx ad A' → RMm M' → Jn A' M' → (∃ r, R (M' 20 0) r M') → (M' 20 0 = 0 → ∃ z, S z A') → E (wV g (KH sk) (LW g ad ad2 ao A' M' o')) X (k + ma) (n + na) M0 2037 [(0, .ref b), (1, .ref (ad 0)), (2, .ref (ad2 0)), (3, .ref ao), (4, vI i)] []) : E (wV g (KH sk) (LW g ad ad2 ao A M o)) X k n M0 718 [(0, .ref b), (1, .ref (ad 0)), (2, .ref (ad2 0)), (3, .ref ao), (4, vI i)] [] := by
  refine h_aload_n (CL _) 1 dL_law_718 rfl ?_
  refine h_aload_n (CL _) 0 dL_law_719 rfl ?_
  refine h_iload (CL _) 4 dL_law_720 rfl ?_
  refine h_iconst (CL _) dL_law_722 ?_
  refine h_iadd (CL _) dL_law_723 ?_
  refine h_sld (CL _) SX hL (by omega) dL_law_724 ?_
  refine h_aload_n (CL _) 3 dL_law_725 rfl ?_
  refine v_callH (g := g) (KK := KH sk) (w := wH g ad sk ao) (ws := wlM g ad2 M) (M := oP o A) (M9 := M0) (As := [.ref (ad 0), vI (sx xs (i + 1)), .ref ao]) (rest := []) (CL _) rfl rfl (fun _ _ h => h) (kH_mv g rfl) rA mh_isCold (tg4 104 rfl rfl) (hl_isCold (P := oP o A) hS hx (lnc X) hst) (by decide) (Nat.le_of_ble_eq_true rfl) hk hn dL_law_726 rfl (fun v9 P1 hq rP => ?_)
  obtain ⟨kr, r, e1, hR, hz, hk3⟩ := hq
  subst e1
  refine h_istore (lv' := [(5, vI kr), (0, .ref b), (1, .ref (ad 0)), (2, .ref (ad2 0)), (3, .ref ao), (4, vI i)]) (CL _) dL_law_729 (by decide) rfl ?_
  refine e_perm (M := M0) (List.perm_append_comm (l₁ := wlM g ad2 M) (l₂ := oC g ao (P1 0 0) :: wlX g ad (cX P1))) ?_
  refine h_aload_n (CL _) 3 dL_law_731 rfl ?_
  refine h_aload_n (CL _) 1 dL_law_732 rfl ?_
  refine h_iload (CL _) 5 dL_law_733 rfl ?_
  refine h_iconst (CL _) dL_law_735 ?_
  refine h_iadd (CL _) dL_law_736 ?_
  refine h_sld (CL _) SX hL (by omega) dL_law_737 ?_
  refine v_callV (g := g) (KK := KH sk) (w := wM g ad2) (ws := oC g ao (P1 0 0) :: wlX g ad (cX P1)) (M := M) (M9 := M0) (As := [vI (sx xs (i + 1))]) (rest := []) (q0 := 0) (ci := 10) (CL _) rfl rfl (fun _ _ _ => trivial) (wM_mv g ad2) rM mi_X10_isCold ms_X10_isCold mv_X10_isCold (tg7 41 rfl rfl) (hm (lnc X) hst) rfl rfl (by decide) (Nat.le_of_ble_eq_true rfl) hk hn dL_law_738 rfl (fun v8 N hN rN => ?_)
  obtain ⟨z, e2, hRN⟩ := hN
  subst e2
  obtain ⟨q1, q2, q3⟩ := hR _ _ _ hRN
  refine h_istore (lv' := [(6, vI z), (5, vI kr), (0, .ref b), (1, .ref (ad 0)), (2, .ref (ad2 0)), (3, .ref ao), (4, vI i)]) (CL _) dL_law_741 (by decide) rfl ?_
  refine h_aload_n (CL _) 4 dL_law_743 rfl ?_
  refine v_callV (g := g) (KK := KH sk) (w := wM g ad2) (ws := oC g ao (P1 0 0) :: wlX g ad (cX P1)) (M := N) (M9 := M0) (As := []) (rest := []) (q0 := 0) (ci := 10) (CL _) rfl rfl (fun _ _ _ => trivial) (wM_mv g ad2) rN mi_X10_thrown ms_X10_thrown mv_X10_thrown (tg6 202 rfl rfl) (m_thrown (lnc X) hst) rfl rfl (by decide) (Nat.le_of_ble_eq_true rfl) hk hn dL_law_744 rfl (fun v7 N7 h7 r7 => ?_)
  obtain ⟨e3, e4⟩ := h7
  subst e3
  replace e4 := e4.symm
  subst e4
  refine h_iload (CL _) 1 dL_law_747 rfl ?_
  refine h_icmp_same (CL _) 754 q1 dL_law_749 (by decide) ?_
  refine h_iload (CL _) 1 dL_law_754 rfl ?_
  have fin : E (wV g (KH sk) ((oC g ao (P1 0 0) :: wlX g ad (cX P1)) ++ wlM g ad2 N)) X (k + ma) (n + na) M0 778 [(6, vI z), (5, vI kr), (0, .ref b), (1, .ref (ad 0)), (2, .ref (ad2 0)), (3, .ref ao), (4, vI i)] [] := by
    refine h_goto (CL _) 2037 dL_law_778 (by decide) ?_
    refine e_sub [2, 3, 4, 5, 6] rfl ?_
    refine e_perm (M := M0) (List.perm_append_comm (l₁ := oC g ao (P1 0 0) :: wlX g ad (cX P1)) (l₂ := wlM g ad2 N)) ?_
    exact kk (cX P1) N (P1 0 0) rP rN q3 ⟨z, hRN⟩ (fun h => ⟨r, (hz (q1.symm.trans h)).2⟩)
  refine h_if_ne (CL _) 778 (by omega) dL_law_756 (by decide) (fun _ => fin) (fun h0 => ?_)
  have w1 := (hz h0).1
  have w2 := q2 h0
  refine h_aload_n (CL _) 5 dL_law_759 rfl ?_
  refine h_iconst (CL _) dL_law_760 ?_
  refine h_lald (q0 := 0) (t0 := 1) (len := 1) (x := P1 0 0) (CL _) rfl rfl (by decide) (by decide) rfl dL_law_761 ?_
  refine h_iload (CL _) 0 dL_law_762 rfl ?_
  rcases hS r _ (hz h0).2 with r0 | r0
  · have z0 : z = 0 := w2.trans r0
    have o0 : P1 0 0 = 0 := by rw [w1, r0]; rfl
    refine h_if_eq (CL _) 771 (by omega) dL_law_764 (by decide) (fun _ => ?_) (fun h => absurd z0 h)
    refine h_lconst0 (CL _) dL_law_771 ?_
    refine h_lcmp_same (CL _) (by rw [o0]) dL_law_772 ?_
    exact h_if_eq (CL _) 778 (by decide) dL_law_773 (by decide) (fun _ => fin) (fun h => absurd rfl h)
  · have z0 : z = 1 := w2.trans r0
    have o0 : P1 0 0 = 1 := by rw [w1, r0]; rfl
    refine h_if_eq (CL _) 771 (by omega) dL_law_764 (by decide) (fun h => absurd h (by omega)) (fun _ => ?_)
    refine h_lconst1 (CL _) dL_law_767 ?_
    refine h_goto (CL _) 772 dL_law_768 (by decide) ?_
    refine h_lcmp_same (CL _) (by rw [o0]) dL_law_772 ?_
    exact h_if_eq (CL _) 778 (by decide) dL_law_773 (by decide) (fun _ => fin) (fun h => absurd rfl h)
theorem lb_value {g : Gs} {ad ad2 : Nat → Nat} {sk : (Nat → Nat) × (Nat → Nat)} {ao b L : Nat} {xs : Nat → Int32} {X : Cx} {k n : Nat} {A M : Mem} {o i : Int} {R : Int → Int → Mem → Prop} {S : Int → Mem → Prop} {ma na : Nat} (CL : ∀ ws, OkH (fun _ => True) (wV g (KH sk) ws) X cL_law RL 7 20 601024 7293034) (SX : SxL X b L xs) (hst : (lnc X).stackTraces = false) (hL : L ≤ 2048) (hi : 0 ≤ i ∧ i + 4 ≤ L) (rA : RMx ad A) (rM : RMm M) (hk : k + ma ≤ 601024) (hn : n + na ≤ 7293034) (hx : ∀ l : Launch, l.stackTraces = false → Ct (wC g ad sk) l yX9_value cX9_value 2 (some .int) 2 ma na [.ref (ad 0), vI (sx xs (i + 1))] A (fun v B => ∃ z : Int, v = some (vI z) ∧ Res R 0 z B ∧ S z B) (fun e B => (e = eIO ∧ Res R 1 0 B) ∨ (e = eIS ∧ Res R 2 0 B))) (hm : SpI (wM g ad2) yX10_value cX10_value 2 (some .int) 3 [.ref (ad2 0), vI (sx xs (i + 1))] M (fun r N => R (N 20 0) r N)) (kk : ∀ A' M' o', RMx ad A' → RMm M' → Jn A' M' → (∃ r, R (M' 20 0) r M') → (M' 20 0 = 0 → ∃ z, S z A') → E (wV g (KH sk) (LW g ad ad2 ao A' M' o')) X (k + ma) (n + na) M0 2037 [(0, .ref b), (1, .ref (ad 0)), (2, .ref (ad2 0)), (3, .ref ao), (4, vI i)] []) : E (wV g (KH sk) (LW g ad ad2 ao A M o)) X k n M0 781 [(0, .ref b), (1, .ref (ad 0)), (2, .ref (ad2 0)), (3, .ref ao), (4, vI i)] [] := by
  refine h_aload_n (CL _) 1 dL_law_781 rfl ?_
  refine h_aload_n (CL _) 0 dL_law_782 rfl ?_
  refine h_iload (CL _) 4 dL_law_783 rfl ?_
  refine h_iconst (CL _) dL_law_785 ?_
  refine h_iadd (CL _) dL_law_786 ?_
  refine h_sld (CL _) SX hL (by omega) dL_law_787 ?_
  refine h_aload_n (CL _) 3 dL_law_788 rfl ?_
  refine v_callH (g := g) (KK := KH sk) (w := wH g ad sk ao) (ws := wlM g ad2 M) (M := oP o A) (M9 := M0) (As := [.ref (ad 0), vI (sx xs (i + 1)), .ref ao]) (rest := []) (CL _) rfl rfl (fun _ _ h => h) (kH_mv g rfl) rA mh_value (tg4 111 rfl rfl) (hl_value (P := oP o A) hx (lnc X) hst) (by decide) (Nat.le_of_ble_eq_true rfl) hk hn dL_law_789 rfl (fun v9 P1 hq rP => ?_)
  obtain ⟨kr, r, e1, hR, hz, hk3⟩ := hq
  subst e1
  refine h_istore (lv' := [(5, vI kr), (0, .ref b), (1, .ref (ad 0)), (2, .ref (ad2 0)), (3, .ref ao), (4, vI i)]) (CL _) dL_law_792 (by decide) rfl ?_
  refine e_perm (M := M0) (List.perm_append_comm (l₁ := wlM g ad2 M) (l₂ := oC g ao (P1 0 0) :: wlX g ad (cX P1))) ?_
  refine h_aload_n (CL _) 3 dL_law_794 rfl ?_
  refine h_aload_n (CL _) 1 dL_law_795 rfl ?_
  refine h_iload (CL _) 5 dL_law_796 rfl ?_
  refine h_iconst (CL _) dL_law_798 ?_
  refine h_iadd (CL _) dL_law_799 ?_
  refine h_sld (CL _) SX hL (by omega) dL_law_800 ?_
  refine v_callV (g := g) (KK := KH sk) (w := wM g ad2) (ws := oC g ao (P1 0 0) :: wlX g ad (cX P1)) (M := M) (M9 := M0) (As := [vI (sx xs (i + 1))]) (rest := []) (q0 := 0) (ci := 10) (CL _) rfl rfl (fun _ _ _ => trivial) (wM_mv g ad2) rM mi_X10_value ms_X10_value mv_X10_value (tg7 45 rfl rfl) (hm (lnc X) hst) rfl rfl (by decide) (Nat.le_of_ble_eq_true rfl) hk hn dL_law_801 rfl (fun v8 N hN rN => ?_)
  obtain ⟨z, e2, hRN⟩ := hN
  subst e2
  obtain ⟨q1, q2, q3⟩ := hR _ _ _ hRN
  refine h_istore (lv' := [(6, vI z), (5, vI kr), (0, .ref b), (1, .ref (ad 0)), (2, .ref (ad2 0)), (3, .ref ao), (4, vI i)]) (CL _) dL_law_804 (by decide) rfl ?_
  refine h_aload_n (CL _) 4 dL_law_806 rfl ?_
  refine v_callV (g := g) (KK := KH sk) (w := wM g ad2) (ws := oC g ao (P1 0 0) :: wlX g ad (cX P1)) (M := N) (M9 := M0) (As := []) (rest := []) (q0 := 0) (ci := 10) (CL _) rfl rfl (fun _ _ _ => trivial) (wM_mv g ad2) rN mi_X10_thrown ms_X10_thrown mv_X10_thrown (tg6 202 rfl rfl) (m_thrown (lnc X) hst) rfl rfl (by decide) (Nat.le_of_ble_eq_true rfl) hk hn dL_law_807 rfl (fun v7 N7 h7 r7 => ?_)
  obtain ⟨e3, e4⟩ := h7
  subst e3
  replace e4 := e4.symm
  subst e4
  refine h_iload (CL _) 1 dL_law_810 rfl ?_
  refine h_icmp_same (CL _) 817 q1 dL_law_812 (by decide) ?_
  refine h_iload (CL _) 1 dL_law_817 rfl ?_
  have fin : E (wV g (KH sk) ((oC g ao (P1 0 0) :: wlX g ad (cX P1)) ++ wlM g ad2 N)) X (k + ma) (n + na) M0 834 [(6, vI z), (5, vI kr), (0, .ref b), (1, .ref (ad 0)), (2, .ref (ad2 0)), (3, .ref ao), (4, vI i)] [] := by
    refine h_goto (CL _) 2037 dL_law_834 (by decide) ?_
    refine e_sub [2, 3, 4, 5, 6] rfl ?_
    refine e_perm (M := M0) (List.perm_append_comm (l₁ := oC g ao (P1 0 0) :: wlX g ad (cX P1)) (l₂ := wlM g ad2 N)) ?_
    exact kk (cX P1) N (P1 0 0) rP rN q3 ⟨z, hRN⟩ (fun h => ⟨r, (hz (q1.symm.trans h)).2⟩)
  refine h_if_ne (CL _) 834 (by omega) dL_law_819 (by decide) (fun _ => fin) (fun h0 => ?_)
  have w1 := (hz h0).1
  have w2 := q2 h0
  refine h_aload_n (CL _) 5 dL_law_822 rfl ?_
  refine h_iconst (CL _) dL_law_823 ?_
  refine h_lald (q0 := 0) (t0 := 1) (len := 1) (x := P1 0 0) (CL _) rfl rfl (by decide) (by decide) rfl dL_law_824 ?_
  refine h_iload (CL _) 0 dL_law_825 rfl ?_
  refine h_i2n (CL _) dL_law_827 ?_
  refine h_lcmp_same (CL _) (by rw [w1, w2]) dL_law_828 ?_
  exact h_if_eq (CL _) 834 (by decide) dL_law_829 (by decide) (fun _ => fin) (fun h => absurd rfl h)
theorem lb_dominated {g : Gs} {ad ad2 : Nat → Nat} {sk : (Nat → Nat) × (Nat → Nat)} {ao b L : Nat} {xs : Nat → Int32} {X : Cx} {k n : Nat} {A M : Mem} {o i : Int} {R : Int → Int → Mem → Prop} {S : Int → Mem → Prop} {ma na : Nat} (CL : ∀ ws, OkH (fun _ => True) (wV g (KH sk) ws) X cL_law RL 7 20 601024 7293034) (SX : SxL X b L xs) (hst : (lnc X).stackTraces = false) (hL : L ≤ 2048) (hi : 0 ≤ i ∧ i + 4 ≤ L) (rA : RMx ad A) (rM : RMm M) (hk : k + ma ≤ 601024) (hn : n + na ≤ 7293034) (hx : ∀ l : Launch, l.stackTraces = false → Ct (wC g ad sk) l yX9_dominated cX9_dominated 4 (some .int) 4 ma na [.ref (ad 0), vI (sx xs (i + 1)), vI (sx xs (i + 2)), vI (sx xs (i + 3))] A (fun v B => ∃ z : Int, v = some (vI z) ∧ Res R 0 z B ∧ S z B) (fun e B => (e = eIO ∧ Res R 1 0 B) ∨ (e = eIA ∧ Res R 2 0 B))) (hm : SpI (wM g ad2) yX10_dominated cX10_dominated 9 (some .int) 4 [.ref (ad2 0), vI (sx xs (i + 1)), vI (sx xs (i + 2)), vI (sx xs (i + 3))] M (fun r N => R (N 20 0) r N)) (kk : ∀ A' M' o', RMx ad A' → RMm M' → Jn A' M' → (∃ r, R (M' 20 0) r M') → (M' 20 0 = 0 → ∃ z, S z A') → E (wV g (KH sk) (LW g ad ad2 ao A' M' o')) X (k + ma) (n + na) M0 2037 [(0, .ref b), (1, .ref (ad 0)), (2, .ref (ad2 0)), (3, .ref ao), (4, vI i)] []) : E (wV g (KH sk) (LW g ad ad2 ao A M o)) X k n M0 837 [(0, .ref b), (1, .ref (ad 0)), (2, .ref (ad2 0)), (3, .ref ao), (4, vI i)] [] := by
  refine h_aload_n (CL _) 1 dL_law_837 rfl ?_
  refine h_aload_n (CL _) 0 dL_law_838 rfl ?_
  refine h_iload (CL _) 4 dL_law_839 rfl ?_
  refine h_iconst (CL _) dL_law_841 ?_
  refine h_iadd (CL _) dL_law_842 ?_
  refine h_sld (CL _) SX hL (by omega) dL_law_843 ?_
  refine h_aload_n (CL _) 0 dL_law_844 rfl ?_
  refine h_iload (CL _) 4 dL_law_845 rfl ?_
  refine h_iconst (CL _) dL_law_847 ?_
  refine h_iadd (CL _) dL_law_848 ?_
  refine h_sld (CL _) SX hL (by omega) dL_law_849 ?_
  refine h_aload_n (CL _) 0 dL_law_850 rfl ?_
  refine h_iload (CL _) 4 dL_law_851 rfl ?_
  refine h_iconst (CL _) dL_law_853 ?_
  refine h_iadd (CL _) dL_law_854 ?_
  refine h_sld (CL _) SX hL (by omega) dL_law_855 ?_
  refine h_aload_n (CL _) 3 dL_law_856 rfl ?_
  refine v_callH (g := g) (KK := KH sk) (w := wH g ad sk ao) (ws := wlM g ad2 M) (M := oP o A) (M9 := M0) (As := [.ref (ad 0), vI (sx xs (i + 1)), vI (sx xs (i + 2)), vI (sx xs (i + 3)), .ref ao]) (rest := []) (CL _) rfl rfl (fun _ _ h => h) (kH_mv g rfl) rA mh_dominated (tg4 119 rfl rfl) (hl_dominated (P := oP o A) hx (lnc X) hst) (by decide) (Nat.le_of_ble_eq_true rfl) hk hn dL_law_857 rfl (fun v9 P1 hq rP => ?_)
  obtain ⟨kr, r, e1, hR, hz, hk3⟩ := hq
  subst e1
  refine h_istore (lv' := [(5, vI kr), (0, .ref b), (1, .ref (ad 0)), (2, .ref (ad2 0)), (3, .ref ao), (4, vI i)]) (CL _) dL_law_860 (by decide) rfl ?_
  refine e_perm (M := M0) (List.perm_append_comm (l₁ := wlM g ad2 M) (l₂ := oC g ao (P1 0 0) :: wlX g ad (cX P1))) ?_
  refine h_aload_n (CL _) 3 dL_law_862 rfl ?_
  refine h_aload_n (CL _) 1 dL_law_863 rfl ?_
  refine h_iload (CL _) 5 dL_law_864 rfl ?_
  refine h_iconst (CL _) dL_law_866 ?_
  refine h_iadd (CL _) dL_law_867 ?_
  refine h_sld (CL _) SX hL (by omega) dL_law_868 ?_
  refine h_aload_n (CL _) 1 dL_law_869 rfl ?_
  refine h_iload (CL _) 5 dL_law_870 rfl ?_
  refine h_iconst (CL _) dL_law_872 ?_
  refine h_iadd (CL _) dL_law_873 ?_
  refine h_sld (CL _) SX hL (by omega) dL_law_874 ?_
  refine h_aload_n (CL _) 1 dL_law_875 rfl ?_
  refine h_iload (CL _) 5 dL_law_876 rfl ?_
  refine h_iconst (CL _) dL_law_878 ?_
  refine h_iadd (CL _) dL_law_879 ?_
  refine h_sld (CL _) SX hL (by omega) dL_law_880 ?_
  refine v_callV (g := g) (KK := KH sk) (w := wM g ad2) (ws := oC g ao (P1 0 0) :: wlX g ad (cX P1)) (M := M) (M9 := M0) (As := [vI (sx xs (i + 1)), vI (sx xs (i + 2)), vI (sx xs (i + 3))]) (rest := []) (q0 := 0) (ci := 10) (CL _) rfl rfl (fun _ _ _ => trivial) (wM_mv g ad2) rM mi_X10_dominated ms_X10_dominated mv_X10_dominated (tg7 49 rfl rfl) (hm (lnc X) hst) rfl rfl (by decide) (Nat.le_of_ble_eq_true rfl) hk hn dL_law_881 rfl (fun v8 N hN rN => ?_)
  obtain ⟨z, e2, hRN⟩ := hN
  subst e2
  obtain ⟨q1, q2, q3⟩ := hR _ _ _ hRN
  refine h_istore (lv' := [(6, vI z), (5, vI kr), (0, .ref b), (1, .ref (ad 0)), (2, .ref (ad2 0)), (3, .ref ao), (4, vI i)]) (CL _) dL_law_884 (by decide) rfl ?_
  refine h_aload_n (CL _) 4 dL_law_886 rfl ?_
  refine v_callV (g := g) (KK := KH sk) (w := wM g ad2) (ws := oC g ao (P1 0 0) :: wlX g ad (cX P1)) (M := N) (M9 := M0) (As := []) (rest := []) (q0 := 0) (ci := 10) (CL _) rfl rfl (fun _ _ _ => trivial) (wM_mv g ad2) rN mi_X10_thrown ms_X10_thrown mv_X10_thrown (tg6 202 rfl rfl) (m_thrown (lnc X) hst) rfl rfl (by decide) (Nat.le_of_ble_eq_true rfl) hk hn dL_law_887 rfl (fun v7 N7 h7 r7 => ?_)
  obtain ⟨e3, e4⟩ := h7
  subst e3
  replace e4 := e4.symm
  subst e4
  refine h_iload (CL _) 1 dL_law_890 rfl ?_
  refine h_icmp_same (CL _) 897 q1 dL_law_892 (by decide) ?_
  refine h_iload (CL _) 1 dL_law_897 rfl ?_
  have fin : E (wV g (KH sk) ((oC g ao (P1 0 0) :: wlX g ad (cX P1)) ++ wlM g ad2 N)) X (k + ma) (n + na) M0 914 [(6, vI z), (5, vI kr), (0, .ref b), (1, .ref (ad 0)), (2, .ref (ad2 0)), (3, .ref ao), (4, vI i)] [] := by
    refine h_goto (CL _) 2037 dL_law_914 (by decide) ?_
    refine e_sub [2, 3, 4, 5, 6] rfl ?_
    refine e_perm (M := M0) (List.perm_append_comm (l₁ := oC g ao (P1 0 0) :: wlX g ad (cX P1)) (l₂ := wlM g ad2 N)) ?_
    exact kk (cX P1) N (P1 0 0) rP rN q3 ⟨z, hRN⟩ (fun h => ⟨r, (hz (q1.symm.trans h)).2⟩)
  refine h_if_ne (CL _) 914 (by omega) dL_law_899 (by decide) (fun _ => fin) (fun h0 => ?_)
  have w1 := (hz h0).1
  have w2 := q2 h0
  refine h_aload_n (CL _) 5 dL_law_902 rfl ?_
  refine h_iconst (CL _) dL_law_903 ?_
  refine h_lald (q0 := 0) (t0 := 1) (len := 1) (x := P1 0 0) (CL _) rfl rfl (by decide) (by decide) rfl dL_law_904 ?_
  refine h_iload (CL _) 0 dL_law_905 rfl ?_
  refine h_i2n (CL _) dL_law_907 ?_
  refine h_lcmp_same (CL _) (by rw [w1, w2]) dL_law_908 ?_
  exact h_if_eq (CL _) 914 (by decide) dL_law_909 (by decide) (fun _ => fin) (fun h => absurd rfl h)
theorem lb_reversible {g : Gs} {ad ad2 : Nat → Nat} {sk : (Nat → Nat) × (Nat → Nat)} {ao b L : Nat} {xs : Nat → Int32} {X : Cx} {k n : Nat} {A M : Mem} {o i : Int} {R : Int → Int → Mem → Prop} {S : Int → Mem → Prop} {ma na : Nat} (CL : ∀ ws, OkH (fun _ => True) (wV g (KH sk) ws) X cL_law RL 7 20 601024 7293034) (SX : SxL X b L xs) (hst : (lnc X).stackTraces = false) (hL : L ≤ 2048) (hi : 0 ≤ i ∧ i + 4 ≤ L) (rA : RMx ad A) (rM : RMm M) (hk : k + ma ≤ 601024) (hn : n + na ≤ 7293034) (hx : ∀ l : Launch, l.stackTraces = false → Ct (wC g ad sk) l yX9_reversible cX9_reversible 5 (some .int) 4 ma na [.ref (ad 0), vI (sx xs (i + 1)), vI (sx xs (i + 2)), vI (sx xs (i + 3))] A (fun v B => ∃ z : Int, v = some (vI z) ∧ Res R 0 z B ∧ S z B) (fun e B => (e = eIO ∧ Res R 1 0 B) ∨ (e = eIA ∧ Res R 2 0 B))) (hm : SpI (wM g ad2) yX10_reversible cX10_reversible 8 (some .int) 4 [.ref (ad2 0), vI (sx xs (i + 1)), vI (sx xs (i + 2)), vI (sx xs (i + 3))] M (fun r N => R (N 20 0) r N)) (kk : ∀ A' M' o', RMx ad A' → RMm M' → Jn A' M' → (∃ r, R (M' 20 0) r M') → (M' 20 0 = 0 → ∃ z, S z A') → E (wV g (KH sk) (LW g ad ad2 ao A' M' o')) X (k + ma) (n + na) M0 2037 [(0, .ref b), (1, .ref (ad 0)), (2, .ref (ad2 0)), (3, .ref ao), (4, vI i)] []) : E (wV g (KH sk) (LW g ad ad2 ao A M o)) X k n M0 917 [(0, .ref b), (1, .ref (ad 0)), (2, .ref (ad2 0)), (3, .ref ao), (4, vI i)] [] := by
  refine h_aload_n (CL _) 1 dL_law_917 rfl ?_
  refine h_aload_n (CL _) 0 dL_law_918 rfl ?_
  refine h_iload (CL _) 4 dL_law_919 rfl ?_
  refine h_iconst (CL _) dL_law_921 ?_
  refine h_iadd (CL _) dL_law_922 ?_
  refine h_sld (CL _) SX hL (by omega) dL_law_923 ?_
  refine h_aload_n (CL _) 0 dL_law_924 rfl ?_
  refine h_iload (CL _) 4 dL_law_925 rfl ?_
  refine h_iconst (CL _) dL_law_927 ?_
  refine h_iadd (CL _) dL_law_928 ?_
  refine h_sld (CL _) SX hL (by omega) dL_law_929 ?_
  refine h_aload_n (CL _) 0 dL_law_930 rfl ?_
  refine h_iload (CL _) 4 dL_law_931 rfl ?_
  refine h_iconst (CL _) dL_law_933 ?_
  refine h_iadd (CL _) dL_law_934 ?_
  refine h_sld (CL _) SX hL (by omega) dL_law_935 ?_
  refine h_aload_n (CL _) 3 dL_law_936 rfl ?_
  refine v_callH (g := g) (KK := KH sk) (w := wH g ad sk ao) (ws := wlM g ad2 M) (M := oP o A) (M9 := M0) (As := [.ref (ad 0), vI (sx xs (i + 1)), vI (sx xs (i + 2)), vI (sx xs (i + 3)), .ref ao]) (rest := []) (CL _) rfl rfl (fun _ _ h => h) (kH_mv g rfl) rA mh_reversible (tg4 134 rfl rfl) (hl_reversible (P := oP o A) hx (lnc X) hst) (by decide) (Nat.le_of_ble_eq_true rfl) hk hn dL_law_937 rfl (fun v9 P1 hq rP => ?_)
  obtain ⟨kr, r, e1, hR, hz, hk3⟩ := hq
  subst e1
  refine h_istore (lv' := [(5, vI kr), (0, .ref b), (1, .ref (ad 0)), (2, .ref (ad2 0)), (3, .ref ao), (4, vI i)]) (CL _) dL_law_940 (by decide) rfl ?_
  refine e_perm (M := M0) (List.perm_append_comm (l₁ := wlM g ad2 M) (l₂ := oC g ao (P1 0 0) :: wlX g ad (cX P1))) ?_
  refine h_aload_n (CL _) 3 dL_law_942 rfl ?_
  refine h_aload_n (CL _) 1 dL_law_943 rfl ?_
  refine h_iload (CL _) 5 dL_law_944 rfl ?_
  refine h_iconst (CL _) dL_law_946 ?_
  refine h_iadd (CL _) dL_law_947 ?_
  refine h_sld (CL _) SX hL (by omega) dL_law_948 ?_
  refine h_aload_n (CL _) 1 dL_law_949 rfl ?_
  refine h_iload (CL _) 5 dL_law_950 rfl ?_
  refine h_iconst (CL _) dL_law_952 ?_
  refine h_iadd (CL _) dL_law_953 ?_
  refine h_sld (CL _) SX hL (by omega) dL_law_954 ?_
  refine h_aload_n (CL _) 1 dL_law_955 rfl ?_
  refine h_iload (CL _) 5 dL_law_956 rfl ?_
  refine h_iconst (CL _) dL_law_958 ?_
  refine h_iadd (CL _) dL_law_959 ?_
  refine h_sld (CL _) SX hL (by omega) dL_law_960 ?_
  refine v_callV (g := g) (KK := KH sk) (w := wM g ad2) (ws := oC g ao (P1 0 0) :: wlX g ad (cX P1)) (M := M) (M9 := M0) (As := [vI (sx xs (i + 1)), vI (sx xs (i + 2)), vI (sx xs (i + 3))]) (rest := []) (q0 := 0) (ci := 10) (CL _) rfl rfl (fun _ _ _ => trivial) (wM_mv g ad2) rM mi_X10_reversible ms_X10_reversible mv_X10_reversible (tg7 53 rfl rfl) (hm (lnc X) hst) rfl rfl (by decide) (Nat.le_of_ble_eq_true rfl) hk hn dL_law_961 rfl (fun v8 N hN rN => ?_)
  obtain ⟨z, e2, hRN⟩ := hN
  subst e2
  obtain ⟨q1, q2, q3⟩ := hR _ _ _ hRN
  refine h_istore (lv' := [(6, vI z), (5, vI kr), (0, .ref b), (1, .ref (ad 0)), (2, .ref (ad2 0)), (3, .ref ao), (4, vI i)]) (CL _) dL_law_964 (by decide) rfl ?_
  refine h_aload_n (CL _) 4 dL_law_966 rfl ?_
  refine v_callV (g := g) (KK := KH sk) (w := wM g ad2) (ws := oC g ao (P1 0 0) :: wlX g ad (cX P1)) (M := N) (M9 := M0) (As := []) (rest := []) (q0 := 0) (ci := 10) (CL _) rfl rfl (fun _ _ _ => trivial) (wM_mv g ad2) rN mi_X10_thrown ms_X10_thrown mv_X10_thrown (tg6 202 rfl rfl) (m_thrown (lnc X) hst) rfl rfl (by decide) (Nat.le_of_ble_eq_true rfl) hk hn dL_law_967 rfl (fun v7 N7 h7 r7 => ?_)
  obtain ⟨e3, e4⟩ := h7
  subst e3
  replace e4 := e4.symm
  subst e4
  refine h_iload (CL _) 1 dL_law_970 rfl ?_
  refine h_icmp_same (CL _) 977 q1 dL_law_972 (by decide) ?_
  refine h_iload (CL _) 1 dL_law_977 rfl ?_
  have fin : E (wV g (KH sk) ((oC g ao (P1 0 0) :: wlX g ad (cX P1)) ++ wlM g ad2 N)) X (k + ma) (n + na) M0 994 [(6, vI z), (5, vI kr), (0, .ref b), (1, .ref (ad 0)), (2, .ref (ad2 0)), (3, .ref ao), (4, vI i)] [] := by
    refine h_goto (CL _) 2037 dL_law_994 (by decide) ?_
    refine e_sub [2, 3, 4, 5, 6] rfl ?_
    refine e_perm (M := M0) (List.perm_append_comm (l₁ := oC g ao (P1 0 0) :: wlX g ad (cX P1)) (l₂ := wlM g ad2 N)) ?_
    exact kk (cX P1) N (P1 0 0) rP rN q3 ⟨z, hRN⟩ (fun h => ⟨r, (hz (q1.symm.trans h)).2⟩)
  refine h_if_ne (CL _) 994 (by omega) dL_law_979 (by decide) (fun _ => fin) (fun h0 => ?_)
  have w1 := (hz h0).1
  have w2 := q2 h0
  refine h_aload_n (CL _) 5 dL_law_982 rfl ?_
  refine h_iconst (CL _) dL_law_983 ?_
  refine h_lald (q0 := 0) (t0 := 1) (len := 1) (x := P1 0 0) (CL _) rfl rfl (by decide) (by decide) rfl dL_law_984 ?_
  refine h_iload (CL _) 0 dL_law_985 rfl ?_
  refine h_i2n (CL _) dL_law_987 ?_
  refine h_lcmp_same (CL _) (by rw [w1, w2]) dL_law_988 ?_
  exact h_if_eq (CL _) 994 (by decide) dL_law_989 (by decide) (fun _ => fin) (fun h => absurd rfl h)
theorem lb_mean {g : Gs} {ad ad2 : Nat → Nat} {sk : (Nat → Nat) × (Nat → Nat)} {ao b L : Nat} {xs : Nat → Int32} {X : Cx} {k n : Nat} {A M : Mem} {o i : Int} {R : Int → Int → Mem → Prop} {S : Int → Mem → Prop} {ma na : Nat} (CL : ∀ ws, OkH (fun _ => True) (wV g (KH sk) ws) X cL_law RL 7 20 601024 7293034) (SX : SxL X b L xs) (hst : (lnc X).stackTraces = false) (hL : L ≤ 2048) (hi : 0 ≤ i ∧ i + 4 ≤ L) (rA : RMx ad A) (rM : RMm M) (hk : k + ma ≤ 601024) (hn : n + na ≤ 7293034) (hx : ∀ l : Launch, l.stackTraces = false → Ct (wC g ad sk) l yX9_mean cX9_mean 2 (some .int) 2 ma na [.ref (ad 0), vI (sx xs (i + 1))] A (fun v B => ∃ z : Int, v = some (vI z) ∧ Res R 0 z B ∧ S z B) (fun e B => e = eIO ∧ Res R 1 0 B)) (hm : SpI (wM g ad2) yX10_mean cX10_mean 2 (some .int) 3 [.ref (ad2 0), vI (sx xs (i + 1))] M (fun r N => R (N 20 0) r N)) (kk : ∀ A' M' o', RMx ad A' → RMm M' → Jn A' M' → (∃ r, R (M' 20 0) r M') → (M' 20 0 = 0 → ∃ z, S z A') → E (wV g (KH sk) (LW g ad ad2 ao A' M' o')) X (k + ma) (n + na) M0 2037 [(0, .ref b), (1, .ref (ad 0)), (2, .ref (ad2 0)), (3, .ref ao), (4, vI i)] []) : E (wV g (KH sk) (LW g ad ad2 ao A M o)) X k n M0 997 [(0, .ref b), (1, .ref (ad 0)), (2, .ref (ad2 0)), (3, .ref ao), (4, vI i)] [] := by
  refine h_aload_n (CL _) 1 dL_law_997 rfl ?_
  refine h_aload_n (CL _) 0 dL_law_998 rfl ?_
  refine h_iload (CL _) 4 dL_law_999 rfl ?_
  refine h_iconst (CL _) dL_law_1001 ?_
  refine h_iadd (CL _) dL_law_1002 ?_
  refine h_sld (CL _) SX hL (by omega) dL_law_1003 ?_
  refine h_aload_n (CL _) 3 dL_law_1004 rfl ?_
  refine v_callH (g := g) (KK := KH sk) (w := wH g ad sk ao) (ws := wlM g ad2 M) (M := oP o A) (M9 := M0) (As := [.ref (ad 0), vI (sx xs (i + 1)), .ref ao]) (rest := []) (CL _) rfl rfl (fun _ _ h => h) (kH_mv g rfl) rA mh_mean (tg4 149 rfl rfl) (hl_mean (P := oP o A) hx (lnc X) hst) (by decide) (Nat.le_of_ble_eq_true rfl) hk hn dL_law_1005 rfl (fun v9 P1 hq rP => ?_)
  obtain ⟨kr, r, e1, hR, hz, hk3⟩ := hq
  subst e1
  refine h_istore (lv' := [(5, vI kr), (0, .ref b), (1, .ref (ad 0)), (2, .ref (ad2 0)), (3, .ref ao), (4, vI i)]) (CL _) dL_law_1008 (by decide) rfl ?_
  refine e_perm (M := M0) (List.perm_append_comm (l₁ := wlM g ad2 M) (l₂ := oC g ao (P1 0 0) :: wlX g ad (cX P1))) ?_
  refine h_aload_n (CL _) 3 dL_law_1010 rfl ?_
  refine h_aload_n (CL _) 1 dL_law_1011 rfl ?_
  refine h_iload (CL _) 5 dL_law_1012 rfl ?_
  refine h_iconst (CL _) dL_law_1014 ?_
  refine h_iadd (CL _) dL_law_1015 ?_
  refine h_sld (CL _) SX hL (by omega) dL_law_1016 ?_
  refine v_callV (g := g) (KK := KH sk) (w := wM g ad2) (ws := oC g ao (P1 0 0) :: wlX g ad (cX P1)) (M := M) (M9 := M0) (As := [vI (sx xs (i + 1))]) (rest := []) (q0 := 0) (ci := 10) (CL _) rfl rfl (fun _ _ _ => trivial) (wM_mv g ad2) rM mi_X10_mean ms_X10_mean mv_X10_mean (tg7 61 rfl rfl) (hm (lnc X) hst) rfl rfl (by decide) (Nat.le_of_ble_eq_true rfl) hk hn dL_law_1017 rfl (fun v8 N hN rN => ?_)
  obtain ⟨z, e2, hRN⟩ := hN
  subst e2
  obtain ⟨q1, q2, q3⟩ := hR _ _ _ hRN
  refine h_istore (lv' := [(6, vI z), (5, vI kr), (0, .ref b), (1, .ref (ad 0)), (2, .ref (ad2 0)), (3, .ref ao), (4, vI i)]) (CL _) dL_law_1020 (by decide) rfl ?_
  refine h_aload_n (CL _) 4 dL_law_1022 rfl ?_
  refine v_callV (g := g) (KK := KH sk) (w := wM g ad2) (ws := oC g ao (P1 0 0) :: wlX g ad (cX P1)) (M := N) (M9 := M0) (As := []) (rest := []) (q0 := 0) (ci := 10) (CL _) rfl rfl (fun _ _ _ => trivial) (wM_mv g ad2) rN mi_X10_thrown ms_X10_thrown mv_X10_thrown (tg6 202 rfl rfl) (m_thrown (lnc X) hst) rfl rfl (by decide) (Nat.le_of_ble_eq_true rfl) hk hn dL_law_1023 rfl (fun v7 N7 h7 r7 => ?_)
  obtain ⟨e3, e4⟩ := h7
  subst e3
  replace e4 := e4.symm
  subst e4
  refine h_iload (CL _) 1 dL_law_1026 rfl ?_
  refine h_icmp_same (CL _) 1033 q1 dL_law_1028 (by decide) ?_
  refine h_iload (CL _) 1 dL_law_1033 rfl ?_
  have fin : E (wV g (KH sk) ((oC g ao (P1 0 0) :: wlX g ad (cX P1)) ++ wlM g ad2 N)) X (k + ma) (n + na) M0 1050 [(6, vI z), (5, vI kr), (0, .ref b), (1, .ref (ad 0)), (2, .ref (ad2 0)), (3, .ref ao), (4, vI i)] [] := by
    refine h_goto (CL _) 2037 dL_law_1050 (by decide) ?_
    refine e_sub [2, 3, 4, 5, 6] rfl ?_
    refine e_perm (M := M0) (List.perm_append_comm (l₁ := oC g ao (P1 0 0) :: wlX g ad (cX P1)) (l₂ := wlM g ad2 N)) ?_
    exact kk (cX P1) N (P1 0 0) rP rN q3 ⟨z, hRN⟩ (fun h => ⟨r, (hz (q1.symm.trans h)).2⟩)
  refine h_if_ne (CL _) 1050 (by omega) dL_law_1035 (by decide) (fun _ => fin) (fun h0 => ?_)
  have w1 := (hz h0).1
  have w2 := q2 h0
  refine h_aload_n (CL _) 5 dL_law_1038 rfl ?_
  refine h_iconst (CL _) dL_law_1039 ?_
  refine h_lald (q0 := 0) (t0 := 1) (len := 1) (x := P1 0 0) (CL _) rfl rfl (by decide) (by decide) rfl dL_law_1040 ?_
  refine h_iload (CL _) 0 dL_law_1041 rfl ?_
  refine h_i2n (CL _) dL_law_1043 ?_
  refine h_lcmp_same (CL _) (by rw [w1, w2]) dL_law_1044 ?_
  exact h_if_eq (CL _) 1050 (by decide) dL_law_1045 (by decide) (fun _ => fin) (fun h => absurd rfl h)
theorem lb_temperature {g : Gs} {ad ad2 : Nat → Nat} {sk : (Nat → Nat) × (Nat → Nat)} {ao b L : Nat} {xs : Nat → Int32} {X : Cx} {k n : Nat} {A M : Mem} {o i : Int} {R : Int → Int → Mem → Prop} {S : Int → Mem → Prop} {ma na : Nat} (CL : ∀ ws, OkH (fun _ => True) (wV g (KH sk) ws) X cL_law RL 7 20 601024 7293034) (SX : SxL X b L xs) (hst : (lnc X).stackTraces = false) (hL : L ≤ 2048) (hi : 0 ≤ i ∧ i + 4 ≤ L) (rA : RMx ad A) (rM : RMm M) (hk : k + ma ≤ 601024) (hn : n + na ≤ 7293034) (hx : ∀ l : Launch, l.stackTraces = false → Ct (wC g ad sk) l yX9_temperature cX9_temperature 2 (some .int) 2 ma na [.ref (ad 0), vI (sx xs (i + 1))] A (fun v B => ∃ z : Int, v = some (vI z) ∧ Res R 0 z B ∧ S z B) (fun e B => e = eIO ∧ Res R 1 0 B)) (hm : SpI (wM g ad2) yX10_temperature cX10_temperature 2 (some .int) 3 [.ref (ad2 0), vI (sx xs (i + 1))] M (fun r N => R (N 20 0) r N)) (kk : ∀ A' M' o', RMx ad A' → RMm M' → Jn A' M' → (∃ r, R (M' 20 0) r M') → (M' 20 0 = 0 → ∃ z, S z A') → E (wV g (KH sk) (LW g ad ad2 ao A' M' o')) X (k + ma) (n + na) M0 2037 [(0, .ref b), (1, .ref (ad 0)), (2, .ref (ad2 0)), (3, .ref ao), (4, vI i)] []) : E (wV g (KH sk) (LW g ad ad2 ao A M o)) X k n M0 1053 [(0, .ref b), (1, .ref (ad 0)), (2, .ref (ad2 0)), (3, .ref ao), (4, vI i)] [] := by
  refine h_aload_n (CL _) 1 dL_law_1053 rfl ?_
  refine h_aload_n (CL _) 0 dL_law_1054 rfl ?_
  refine h_iload (CL _) 4 dL_law_1055 rfl ?_
  refine h_iconst (CL _) dL_law_1057 ?_
  refine h_iadd (CL _) dL_law_1058 ?_
  refine h_sld (CL _) SX hL (by omega) dL_law_1059 ?_
  refine h_aload_n (CL _) 3 dL_law_1060 rfl ?_
  refine v_callH (g := g) (KK := KH sk) (w := wH g ad sk ao) (ws := wlM g ad2 M) (M := oP o A) (M9 := M0) (As := [.ref (ad 0), vI (sx xs (i + 1)), .ref ao]) (rest := []) (CL _) rfl rfl (fun _ _ h => h) (kH_mv g rfl) rA mh_temperature (tg4 156 rfl rfl) (hl_temperature (P := oP o A) hx (lnc X) hst) (by decide) (Nat.le_of_ble_eq_true rfl) hk hn dL_law_1061 rfl (fun v9 P1 hq rP => ?_)
  obtain ⟨kr, r, e1, hR, hz, hk3⟩ := hq
  subst e1
  refine h_istore (lv' := [(5, vI kr), (0, .ref b), (1, .ref (ad 0)), (2, .ref (ad2 0)), (3, .ref ao), (4, vI i)]) (CL _) dL_law_1064 (by decide) rfl ?_
  refine e_perm (M := M0) (List.perm_append_comm (l₁ := wlM g ad2 M) (l₂ := oC g ao (P1 0 0) :: wlX g ad (cX P1))) ?_
  refine h_aload_n (CL _) 3 dL_law_1066 rfl ?_
  refine h_aload_n (CL _) 1 dL_law_1067 rfl ?_
  refine h_iload (CL _) 5 dL_law_1068 rfl ?_
  refine h_iconst (CL _) dL_law_1070 ?_
  refine h_iadd (CL _) dL_law_1071 ?_
  refine h_sld (CL _) SX hL (by omega) dL_law_1072 ?_
  refine v_callV (g := g) (KK := KH sk) (w := wM g ad2) (ws := oC g ao (P1 0 0) :: wlX g ad (cX P1)) (M := M) (M9 := M0) (As := [vI (sx xs (i + 1))]) (rest := []) (q0 := 0) (ci := 10) (CL _) rfl rfl (fun _ _ _ => trivial) (wM_mv g ad2) rM mi_X10_temperature ms_X10_temperature mv_X10_temperature (tg7 65 rfl rfl) (hm (lnc X) hst) rfl rfl (by decide) (Nat.le_of_ble_eq_true rfl) hk hn dL_law_1073 rfl (fun v8 N hN rN => ?_)
  obtain ⟨z, e2, hRN⟩ := hN
  subst e2
  obtain ⟨q1, q2, q3⟩ := hR _ _ _ hRN
  refine h_istore (lv' := [(6, vI z), (5, vI kr), (0, .ref b), (1, .ref (ad 0)), (2, .ref (ad2 0)), (3, .ref ao), (4, vI i)]) (CL _) dL_law_1076 (by decide) rfl ?_
  refine h_aload_n (CL _) 4 dL_law_1078 rfl ?_
  refine v_callV (g := g) (KK := KH sk) (w := wM g ad2) (ws := oC g ao (P1 0 0) :: wlX g ad (cX P1)) (M := N) (M9 := M0) (As := []) (rest := []) (q0 := 0) (ci := 10) (CL _) rfl rfl (fun _ _ _ => trivial) (wM_mv g ad2) rN mi_X10_thrown ms_X10_thrown mv_X10_thrown (tg6 202 rfl rfl) (m_thrown (lnc X) hst) rfl rfl (by decide) (Nat.le_of_ble_eq_true rfl) hk hn dL_law_1079 rfl (fun v7 N7 h7 r7 => ?_)
  obtain ⟨e3, e4⟩ := h7
  subst e3
  replace e4 := e4.symm
  subst e4
  refine h_iload (CL _) 1 dL_law_1082 rfl ?_
  refine h_icmp_same (CL _) 1089 q1 dL_law_1084 (by decide) ?_
  refine h_iload (CL _) 1 dL_law_1089 rfl ?_
  have fin : E (wV g (KH sk) ((oC g ao (P1 0 0) :: wlX g ad (cX P1)) ++ wlM g ad2 N)) X (k + ma) (n + na) M0 1106 [(6, vI z), (5, vI kr), (0, .ref b), (1, .ref (ad 0)), (2, .ref (ad2 0)), (3, .ref ao), (4, vI i)] [] := by
    refine h_goto (CL _) 2037 dL_law_1106 (by decide) ?_
    refine e_sub [2, 3, 4, 5, 6] rfl ?_
    refine e_perm (M := M0) (List.perm_append_comm (l₁ := oC g ao (P1 0 0) :: wlX g ad (cX P1)) (l₂ := wlM g ad2 N)) ?_
    exact kk (cX P1) N (P1 0 0) rP rN q3 ⟨z, hRN⟩ (fun h => ⟨r, (hz (q1.symm.trans h)).2⟩)
  refine h_if_ne (CL _) 1106 (by omega) dL_law_1091 (by decide) (fun _ => fin) (fun h0 => ?_)
  have w1 := (hz h0).1
  have w2 := q2 h0
  refine h_aload_n (CL _) 5 dL_law_1094 rfl ?_
  refine h_iconst (CL _) dL_law_1095 ?_
  refine h_lald (q0 := 0) (t0 := 1) (len := 1) (x := P1 0 0) (CL _) rfl rfl (by decide) (by decide) rfl dL_law_1096 ?_
  refine h_iload (CL _) 0 dL_law_1097 rfl ?_
  refine h_i2n (CL _) dL_law_1099 ?_
  refine h_lcmp_same (CL _) (by rw [w1, w2]) dL_law_1100 ?_
  exact h_if_eq (CL _) 1106 (by decide) dL_law_1101 (by decide) (fun _ => fin) (fun h => absurd rfl h)
theorem lb_wall {g : Gs} {ad ad2 : Nat → Nat} {sk : (Nat → Nat) × (Nat → Nat)} {ao b L : Nat} {xs : Nat → Int32} {X : Cx} {k n : Nat} {A M : Mem} {o i : Int} {R : Int → Int → Mem → Prop} {S : Int → Mem → Prop} {ma na : Nat} (CL : ∀ ws, OkH (fun _ => True) (wV g (KH sk) ws) X cL_law RL 7 20 601024 7293034) (SX : SxL X b L xs) (hst : (lnc X).stackTraces = false) (hL : L ≤ 2048) (hi : 0 ≤ i ∧ i + 4 ≤ L) (rA : RMx ad A) (rM : RMm M) (hk : k + ma ≤ 601024) (hn : n + na ≤ 7293034) (hx : ∀ l : Launch, l.stackTraces = false → Ct (wC g ad sk) l yX9_wall cX9_wall 4 (some .int) 4 ma na [.ref (ad 0), vI (sx xs (i + 1)), vI (sx xs (i + 2)), vI (sx xs (i + 3))] A (fun v B => ∃ z : Int, v = some (vI z) ∧ Res R 0 z B ∧ S z B) (fun e B => (e = eIO ∧ Res R 1 0 B) ∨ (e = eIA ∧ Res R 2 0 B))) (hm : SpI (wM g ad2) yX10_wall cX10_wall 4 (some .int) 3 [.ref (ad2 0), vI (sx xs (i + 1)), vI (sx xs (i + 2)), vI (sx xs (i + 3))] M (fun r N => R (N 20 0) r N)) (kk : ∀ A' M' o', RMx ad A' → RMm M' → Jn A' M' → (∃ r, R (M' 20 0) r M') → (M' 20 0 = 0 → ∃ z, S z A') → E (wV g (KH sk) (LW g ad ad2 ao A' M' o')) X (k + ma) (n + na) M0 2037 [(0, .ref b), (1, .ref (ad 0)), (2, .ref (ad2 0)), (3, .ref ao), (4, vI i)] []) : E (wV g (KH sk) (LW g ad ad2 ao A M o)) X k n M0 1109 [(0, .ref b), (1, .ref (ad 0)), (2, .ref (ad2 0)), (3, .ref ao), (4, vI i)] [] := by
  refine h_aload_n (CL _) 1 dL_law_1109 rfl ?_
  refine h_aload_n (CL _) 0 dL_law_1110 rfl ?_
  refine h_iload (CL _) 4 dL_law_1111 rfl ?_
  refine h_iconst (CL _) dL_law_1113 ?_
  refine h_iadd (CL _) dL_law_1114 ?_
  refine h_sld (CL _) SX hL (by omega) dL_law_1115 ?_
  refine h_aload_n (CL _) 0 dL_law_1116 rfl ?_
  refine h_iload (CL _) 4 dL_law_1117 rfl ?_
  refine h_iconst (CL _) dL_law_1119 ?_
  refine h_iadd (CL _) dL_law_1120 ?_
  refine h_sld (CL _) SX hL (by omega) dL_law_1121 ?_
  refine h_aload_n (CL _) 0 dL_law_1122 rfl ?_
  refine h_iload (CL _) 4 dL_law_1123 rfl ?_
  refine h_iconst (CL _) dL_law_1125 ?_
  refine h_iadd (CL _) dL_law_1126 ?_
  refine h_sld (CL _) SX hL (by omega) dL_law_1127 ?_
  refine h_aload_n (CL _) 3 dL_law_1128 rfl ?_
  refine v_callH (g := g) (KK := KH sk) (w := wH g ad sk ao) (ws := wlM g ad2 M) (M := oP o A) (M9 := M0) (As := [.ref (ad 0), vI (sx xs (i + 1)), vI (sx xs (i + 2)), vI (sx xs (i + 3)), .ref ao]) (rest := []) (CL _) rfl rfl (fun _ _ h => h) (kH_mv g rfl) rA mh_wall (tg4 163 rfl rfl) (hl_wall (P := oP o A) hx (lnc X) hst) (by decide) (Nat.le_of_ble_eq_true rfl) hk hn dL_law_1129 rfl (fun v9 P1 hq rP => ?_)
  obtain ⟨kr, r, e1, hR, hz, hk3⟩ := hq
  subst e1
  refine h_istore (lv' := [(5, vI kr), (0, .ref b), (1, .ref (ad 0)), (2, .ref (ad2 0)), (3, .ref ao), (4, vI i)]) (CL _) dL_law_1132 (by decide) rfl ?_
  refine e_perm (M := M0) (List.perm_append_comm (l₁ := wlM g ad2 M) (l₂ := oC g ao (P1 0 0) :: wlX g ad (cX P1))) ?_
  refine h_aload_n (CL _) 3 dL_law_1134 rfl ?_
  refine h_aload_n (CL _) 1 dL_law_1135 rfl ?_
  refine h_iload (CL _) 5 dL_law_1136 rfl ?_
  refine h_iconst (CL _) dL_law_1138 ?_
  refine h_iadd (CL _) dL_law_1139 ?_
  refine h_sld (CL _) SX hL (by omega) dL_law_1140 ?_
  refine h_aload_n (CL _) 1 dL_law_1141 rfl ?_
  refine h_iload (CL _) 5 dL_law_1142 rfl ?_
  refine h_iconst (CL _) dL_law_1144 ?_
  refine h_iadd (CL _) dL_law_1145 ?_
  refine h_sld (CL _) SX hL (by omega) dL_law_1146 ?_
  refine h_aload_n (CL _) 1 dL_law_1147 rfl ?_
  refine h_iload (CL _) 5 dL_law_1148 rfl ?_
  refine h_iconst (CL _) dL_law_1150 ?_
  refine h_iadd (CL _) dL_law_1151 ?_
  refine h_sld (CL _) SX hL (by omega) dL_law_1152 ?_
  refine v_callV (g := g) (KK := KH sk) (w := wM g ad2) (ws := oC g ao (P1 0 0) :: wlX g ad (cX P1)) (M := M) (M9 := M0) (As := [vI (sx xs (i + 1)), vI (sx xs (i + 2)), vI (sx xs (i + 3))]) (rest := []) (q0 := 0) (ci := 10) (CL _) rfl rfl (fun _ _ _ => trivial) (wM_mv g ad2) rM mi_X10_wall ms_X10_wall mv_X10_wall (tg7 69 rfl rfl) (hm (lnc X) hst) rfl rfl (by decide) (Nat.le_of_ble_eq_true rfl) hk hn dL_law_1153 rfl (fun v8 N hN rN => ?_)
  obtain ⟨z, e2, hRN⟩ := hN
  subst e2
  obtain ⟨q1, q2, q3⟩ := hR _ _ _ hRN
  refine h_istore (lv' := [(6, vI z), (5, vI kr), (0, .ref b), (1, .ref (ad 0)), (2, .ref (ad2 0)), (3, .ref ao), (4, vI i)]) (CL _) dL_law_1156 (by decide) rfl ?_
  refine h_aload_n (CL _) 4 dL_law_1158 rfl ?_
  refine v_callV (g := g) (KK := KH sk) (w := wM g ad2) (ws := oC g ao (P1 0 0) :: wlX g ad (cX P1)) (M := N) (M9 := M0) (As := []) (rest := []) (q0 := 0) (ci := 10) (CL _) rfl rfl (fun _ _ _ => trivial) (wM_mv g ad2) rN mi_X10_thrown ms_X10_thrown mv_X10_thrown (tg6 202 rfl rfl) (m_thrown (lnc X) hst) rfl rfl (by decide) (Nat.le_of_ble_eq_true rfl) hk hn dL_law_1159 rfl (fun v7 N7 h7 r7 => ?_)
  obtain ⟨e3, e4⟩ := h7
  subst e3
  replace e4 := e4.symm
  subst e4
  refine h_iload (CL _) 1 dL_law_1162 rfl ?_
  refine h_icmp_same (CL _) 1169 q1 dL_law_1164 (by decide) ?_
  refine h_iload (CL _) 1 dL_law_1169 rfl ?_
  have fin : E (wV g (KH sk) ((oC g ao (P1 0 0) :: wlX g ad (cX P1)) ++ wlM g ad2 N)) X (k + ma) (n + na) M0 1186 [(6, vI z), (5, vI kr), (0, .ref b), (1, .ref (ad 0)), (2, .ref (ad2 0)), (3, .ref ao), (4, vI i)] [] := by
    refine h_goto (CL _) 2037 dL_law_1186 (by decide) ?_
    refine e_sub [2, 3, 4, 5, 6] rfl ?_
    refine e_perm (M := M0) (List.perm_append_comm (l₁ := oC g ao (P1 0 0) :: wlX g ad (cX P1)) (l₂ := wlM g ad2 N)) ?_
    exact kk (cX P1) N (P1 0 0) rP rN q3 ⟨z, hRN⟩ (fun h => ⟨r, (hz (q1.symm.trans h)).2⟩)
  refine h_if_ne (CL _) 1186 (by omega) dL_law_1171 (by decide) (fun _ => fin) (fun h0 => ?_)
  have w1 := (hz h0).1
  have w2 := q2 h0
  refine h_aload_n (CL _) 5 dL_law_1174 rfl ?_
  refine h_iconst (CL _) dL_law_1175 ?_
  refine h_lald (q0 := 0) (t0 := 1) (len := 1) (x := P1 0 0) (CL _) rfl rfl (by decide) (by decide) rfl dL_law_1176 ?_
  refine h_iload (CL _) 0 dL_law_1177 rfl ?_
  refine h_i2n (CL _) dL_law_1179 ?_
  refine h_lcmp_same (CL _) (by rw [w1, w2]) dL_law_1180 ?_
  exact h_if_eq (CL _) 1186 (by decide) dL_law_1181 (by decide) (fun _ => fin) (fun h => absurd rfl h)
theorem lb_corner {g : Gs} {ad ad2 : Nat → Nat} {sk : (Nat → Nat) × (Nat → Nat)} {ao b L : Nat} {xs : Nat → Int32} {X : Cx} {k n : Nat} {A M : Mem} {o i : Int} {R : Int → Int → Mem → Prop} {S : Int → Mem → Prop} {ma na : Nat} (CL : ∀ ws, OkH (fun _ => True) (wV g (KH sk) ws) X cL_law RL 7 20 601024 7293034) (SX : SxL X b L xs) (hst : (lnc X).stackTraces = false) (hL : L ≤ 2048) (hi : 0 ≤ i ∧ i + 4 ≤ L) (rA : RMx ad A) (rM : RMm M) (hk : k + ma ≤ 601024) (hn : n + na ≤ 7293034) (hx : ∀ l : Launch, l.stackTraces = false → Ct (wC g ad sk) l yX9_corner cX9_corner 6 (some .int) 5 ma na [.ref (ad 0), vI (sx xs (i + 1)), vI (sx xs (i + 2)), vI (sx xs (i + 3))] A (fun v B => ∃ z : Int, v = some (vI z) ∧ Res R 0 z B ∧ S z B) (fun e B => (e = eIO ∧ Res R 1 0 B) ∨ (e = eIA ∧ Res R 2 0 B))) (hm : SpI (wM g ad2) yX10_corner cX10_corner 7 (some .int) 4 [.ref (ad2 0), vI (sx xs (i + 1)), vI (sx xs (i + 2)), vI (sx xs (i + 3))] M (fun r N => R (N 20 0) r N)) (kk : ∀ A' M' o', RMx ad A' → RMm M' → Jn A' M' → (∃ r, R (M' 20 0) r M') → (M' 20 0 = 0 → ∃ z, S z A') → E (wV g (KH sk) (LW g ad ad2 ao A' M' o')) X (k + ma) (n + na) M0 2037 [(0, .ref b), (1, .ref (ad 0)), (2, .ref (ad2 0)), (3, .ref ao), (4, vI i)] []) : E (wV g (KH sk) (LW g ad ad2 ao A M o)) X k n M0 1189 [(0, .ref b), (1, .ref (ad 0)), (2, .ref (ad2 0)), (3, .ref ao), (4, vI i)] [] := by
  refine h_aload_n (CL _) 1 dL_law_1189 rfl ?_
  refine h_aload_n (CL _) 0 dL_law_1190 rfl ?_
  refine h_iload (CL _) 4 dL_law_1191 rfl ?_
  refine h_iconst (CL _) dL_law_1193 ?_
  refine h_iadd (CL _) dL_law_1194 ?_
  refine h_sld (CL _) SX hL (by omega) dL_law_1195 ?_
  refine h_aload_n (CL _) 0 dL_law_1196 rfl ?_
  refine h_iload (CL _) 4 dL_law_1197 rfl ?_
  refine h_iconst (CL _) dL_law_1199 ?_
  refine h_iadd (CL _) dL_law_1200 ?_
  refine h_sld (CL _) SX hL (by omega) dL_law_1201 ?_
  refine h_aload_n (CL _) 0 dL_law_1202 rfl ?_
  refine h_iload (CL _) 4 dL_law_1203 rfl ?_
  refine h_iconst (CL _) dL_law_1205 ?_
  refine h_iadd (CL _) dL_law_1206 ?_
  refine h_sld (CL _) SX hL (by omega) dL_law_1207 ?_
  refine h_aload_n (CL _) 3 dL_law_1208 rfl ?_
  refine v_callH (g := g) (KK := KH sk) (w := wH g ad sk ao) (ws := wlM g ad2 M) (M := oP o A) (M9 := M0) (As := [.ref (ad 0), vI (sx xs (i + 1)), vI (sx xs (i + 2)), vI (sx xs (i + 3)), .ref ao]) (rest := []) (CL _) rfl rfl (fun _ _ h => h) (kH_mv g rfl) rA mh_corner (tg4 176 rfl rfl) (hl_corner (P := oP o A) hx (lnc X) hst) (by decide) (Nat.le_of_ble_eq_true rfl) hk hn dL_law_1209 rfl (fun v9 P1 hq rP => ?_)
  obtain ⟨kr, r, e1, hR, hz, hk3⟩ := hq
  subst e1
  refine h_istore (lv' := [(5, vI kr), (0, .ref b), (1, .ref (ad 0)), (2, .ref (ad2 0)), (3, .ref ao), (4, vI i)]) (CL _) dL_law_1212 (by decide) rfl ?_
  refine e_perm (M := M0) (List.perm_append_comm (l₁ := wlM g ad2 M) (l₂ := oC g ao (P1 0 0) :: wlX g ad (cX P1))) ?_
  refine h_aload_n (CL _) 3 dL_law_1214 rfl ?_
  refine h_aload_n (CL _) 1 dL_law_1215 rfl ?_
  refine h_iload (CL _) 5 dL_law_1216 rfl ?_
  refine h_iconst (CL _) dL_law_1218 ?_
  refine h_iadd (CL _) dL_law_1219 ?_
  refine h_sld (CL _) SX hL (by omega) dL_law_1220 ?_
  refine h_aload_n (CL _) 1 dL_law_1221 rfl ?_
  refine h_iload (CL _) 5 dL_law_1222 rfl ?_
  refine h_iconst (CL _) dL_law_1224 ?_
  refine h_iadd (CL _) dL_law_1225 ?_
  refine h_sld (CL _) SX hL (by omega) dL_law_1226 ?_
  refine h_aload_n (CL _) 1 dL_law_1227 rfl ?_
  refine h_iload (CL _) 5 dL_law_1228 rfl ?_
  refine h_iconst (CL _) dL_law_1230 ?_
  refine h_iadd (CL _) dL_law_1231 ?_
  refine h_sld (CL _) SX hL (by omega) dL_law_1232 ?_
  refine v_callV (g := g) (KK := KH sk) (w := wM g ad2) (ws := oC g ao (P1 0 0) :: wlX g ad (cX P1)) (M := M) (M9 := M0) (As := [vI (sx xs (i + 1)), vI (sx xs (i + 2)), vI (sx xs (i + 3))]) (rest := []) (q0 := 0) (ci := 10) (CL _) rfl rfl (fun _ _ _ => trivial) (wM_mv g ad2) rM mi_X10_corner ms_X10_corner mv_X10_corner (tg7 78 rfl rfl) (hm (lnc X) hst) rfl rfl (by decide) (Nat.le_of_ble_eq_true rfl) hk hn dL_law_1233 rfl (fun v8 N hN rN => ?_)
  obtain ⟨z, e2, hRN⟩ := hN
  subst e2
  obtain ⟨q1, q2, q3⟩ := hR _ _ _ hRN
  refine h_istore (lv' := [(6, vI z), (5, vI kr), (0, .ref b), (1, .ref (ad 0)), (2, .ref (ad2 0)), (3, .ref ao), (4, vI i)]) (CL _) dL_law_1236 (by decide) rfl ?_
  refine h_aload_n (CL _) 4 dL_law_1238 rfl ?_
  refine v_callV (g := g) (KK := KH sk) (w := wM g ad2) (ws := oC g ao (P1 0 0) :: wlX g ad (cX P1)) (M := N) (M9 := M0) (As := []) (rest := []) (q0 := 0) (ci := 10) (CL _) rfl rfl (fun _ _ _ => trivial) (wM_mv g ad2) rN mi_X10_thrown ms_X10_thrown mv_X10_thrown (tg6 202 rfl rfl) (m_thrown (lnc X) hst) rfl rfl (by decide) (Nat.le_of_ble_eq_true rfl) hk hn dL_law_1239 rfl (fun v7 N7 h7 r7 => ?_)
  obtain ⟨e3, e4⟩ := h7
  subst e3
  replace e4 := e4.symm
  subst e4
  refine h_iload (CL _) 1 dL_law_1242 rfl ?_
  refine h_icmp_same (CL _) 1249 q1 dL_law_1244 (by decide) ?_
  refine h_iload (CL _) 1 dL_law_1249 rfl ?_
  have fin : E (wV g (KH sk) ((oC g ao (P1 0 0) :: wlX g ad (cX P1)) ++ wlM g ad2 N)) X (k + ma) (n + na) M0 1266 [(6, vI z), (5, vI kr), (0, .ref b), (1, .ref (ad 0)), (2, .ref (ad2 0)), (3, .ref ao), (4, vI i)] [] := by
    refine h_goto (CL _) 2037 dL_law_1266 (by decide) ?_
    refine e_sub [2, 3, 4, 5, 6] rfl ?_
    refine e_perm (M := M0) (List.perm_append_comm (l₁ := oC g ao (P1 0 0) :: wlX g ad (cX P1)) (l₂ := wlM g ad2 N)) ?_
    exact kk (cX P1) N (P1 0 0) rP rN q3 ⟨z, hRN⟩ (fun h => ⟨r, (hz (q1.symm.trans h)).2⟩)
  refine h_if_ne (CL _) 1266 (by omega) dL_law_1251 (by decide) (fun _ => fin) (fun h0 => ?_)
  have w1 := (hz h0).1
  have w2 := q2 h0
  refine h_aload_n (CL _) 5 dL_law_1254 rfl ?_
  refine h_iconst (CL _) dL_law_1255 ?_
  refine h_lald (q0 := 0) (t0 := 1) (len := 1) (x := P1 0 0) (CL _) rfl rfl (by decide) (by decide) rfl dL_law_1256 ?_
  refine h_iload (CL _) 0 dL_law_1257 rfl ?_
  refine h_i2n (CL _) dL_law_1259 ?_
  refine h_lcmp_same (CL _) (by rw [w1, w2]) dL_law_1260 ?_
  exact h_if_eq (CL _) 1266 (by decide) dL_law_1261 (by decide) (fun _ => fin) (fun h => absurd rfl h)
