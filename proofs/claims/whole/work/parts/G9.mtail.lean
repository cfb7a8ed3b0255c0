/-! ===== the reference's constructor: its games ===== -/
theorem last_ok {M T0 T1 T2 T3 : Mem} (hG : Good (M 0 0) M) (h4 : 4 ≤ M 0 0) (h0 : Bgn M T0) (h1 : TkP T0 0 0 T1) (h2 : TkP T1 0 3 T2) (h3 : TkP T2 1 0 T3) : NwOk T3 (M 0 0) := by
  have g1 := hG.2.1
  obtain ⟨a1, a2, a3, a4⟩ := h0
  have srt0 : ∀ s, T0 30 s = 0 → Srt T0 s := fun s q => ⟨by omega, fun i j i1 i2 i3 => by omega⟩
  have e0 : ∀ s, T0 30 s = 0 → ∀ y, ¬ InR T0 s y := fun s q y ⟨i, i1, i2, _⟩ => by omega
  obtain ⟨b1, b2, b3, b4, b5⟩ := tk_in (Or.inl rfl) h1 (by omega) a2 (srt0 0 a3) (srt0 1 a4)
  have i1 : ∀ y, InR T1 0 y ↔ y = 0 := fun y => by rw [b4 y]; exact ⟨fun q => q.resolve_left (e0 0 a3 y), Or.inr⟩
  have j1 : ∀ y, ¬ InR T1 1 y := fun y q => e0 1 a4 y ((b5 y).mp q)
  obtain ⟨c1, c2, c3, c4, c5⟩ := tk_in (Or.inl rfl) h2 (lt_4 (v := 0) b2 (fun y q => Or.inl ((i1 y).mp q))) b1 b2 b3
  have i2 : ∀ y, InR T2 0 y ↔ (y = 0 ∨ y = 3) := fun y => by rw [c4 y, i1 y]
  have j2 : ∀ y, ¬ InR T2 1 y := fun y q => j1 y ((c5 y).mp q)
  obtain ⟨d1, d2, d3, d4, d5⟩ := tk_in (Or.inr rfl) h3 (lt_4 (v := 0) c3 (fun y q => absurd q (j2 y))) c1 c2 c3
  have i3 : ∀ y, InR T3 0 y ↔ (y = 0 ∨ y = 3) := fun y => (d5 y).trans (i2 y)
  have j3 : ∀ y, InR T3 1 y ↔ y = 0 := fun y => by rw [d4 y]; exact ⟨fun q => q.resolve_left (j2 y), Or.inr⟩
  have fr : ∀ c i, c ≠ 29 → c ≠ 30 → c ≠ 31 → T3 c i = M c i := fun c i q1 q2 q3 => by rw [h3.1 c i q1 q2 q3, h2.1 c i q1 q2 q3, h1.1 c i q1 q2 q3, a1 c i q1 q2]
  have ok : NwOk T3 (M 0 0) := by
    refine ⟨hG.cg (Ag.of _ (fun c i c1 c2 => fr c i (by omega) (by omega) (by omega))), fr 0 0 (by decide) (by decide) (by decide), d2, d3, fun s s1 s2 i i1 i2 => ?_⟩
    rcases (show s = 0 ∨ s = 1 by omega) with rfl | rfl
    · have := (i3 _).mp ⟨i, i1, i2, rfl⟩; omega
    · have := (j3 _).mp ⟨i, i1, i2, rfl⟩; omega
  exact ok
def MIn (N : Mem) : Prop := ∃ S, StR M0 S ∧ (∀ c i, c ≤ 15 → N c i = S c i) ∧ N 16 0 = 2 ∧ N 17 0 = 5 ∧ N 17 1 = 8 ∧ N 17 2 = 0 ∧ N 17 3 = 0 ∧ ∀ c i, 17 < c → (c < 29 ∨ 35 < c) → N c i = 0
theorem rm_0 : RMm M0 := ⟨fun _ => by show R64 0; decide, fun _ _ _ => by show R32 0; decide, fun _ _ _ => Or.inl rfl⟩
theorem okB_M {g : Gs} {ad : Nat → Nat} {KK : (Nat → Prop) → State → Prop} {ws : va_W} {X : Cx} {cc : ByteArray} {own : String} {nL d mc ms : Nat} (C : OkB (wV g KK ws) X cc own nL d mc ms) : OkB (wM g ad) X cc own nL d mc ms := by
  obtain ⟨p, l, e, R, s, m, args, below, meth, c, A, Q, nL9⟩ := X
  obtain ⟨hx, hb, hml, hown, hts, hA, hK, hKK, hmv, e9, hfr, hlo, hmc, hms, hlk2, htb⟩ := C
  exact ⟨hx, hb, hml, hown, hts, hA, hK, trivial, wM_mv g ad, e9, hfr, hlo, hmc, hms, hlk2, htb⟩
set_option maxHeartbeats 1000000 in
theorem cm_tail {g : Gs} {sk : (Nat → Nat) × (Nat → Nat)} {ad : Nat → Nat} {X : Cx} {mc ms k n : Nat} (CC : ∀ ws, OkB (wV g (KI sk) ws) X cX10_init RX10 1 8 mc ms) (hst : (lnc X).stackTraces = false) (hk : k ≤ mc) (hn : n ≤ ms) (kk : ∀ N, RMm N → MIn N → E (wV g (KI sk) (wlM g ad N)) X k n M0 415 [(0, .ref (ad 0))] []) : E (wV g (KI sk) (wlM g ad M0)) X k n M0 304 [(0, .ref (ad 0))] [] := by
  have k0 := kn_nil (M := M0) rfl
  have r0 := rm_0
  refine e_aload_n (CC _) 0 dX10_init_304 rfl ?_
  refine e_iconst (CC _) dX10_init_305 ?_
  refine v_callV (g := g) (KK := KI sk) (w := wM g ad) (ws := []) (M := M0) (M9 := M0) (As := [vI 0]) (rest := []) (q0 := 0) (ci := 10) (CC _).h rfl rfl (fun _ _ _ => trivial) (wM_mv g ad) r0 mi_X10_madeNumber ms_X10_madeNumber mv_X10_madeNumber ml_X10_123 (m_num k0.1 (by decide) (lnc X) hst) rfl rfl (by decide) (Nat.le_of_ble_eq_true rfl) hk hn dX10_init_306 rfl (fun v1 N1 h1 r1 => ?_)
  obtain ⟨z1, e1, c1, g1, -, -⟩ := h1
  subst e1
  obtain ⟨s1, -, k1⟩ := st_num k0 (by decide) c1
  refine e_pop (CC _) rfl dX10_init_309 ?_
  refine e_aload_n (CC _) 0 dX10_init_310 rfl ?_
  refine e_bipush (CC _) dX10_init_311 (by decide) ?_
  refine v_callV (g := g) (KK := KI sk) (w := wM g ad) (ws := []) (M := N1) (M9 := M0) (As := [vI 8]) (rest := []) (q0 := 0) (ci := 10) (CC _).h rfl rfl (fun _ _ _ => trivial) (wM_mv g ad) r1 mi_X10_madeNumber ms_X10_madeNumber mv_X10_madeNumber ml_X10_123 (m_num k1.1 (by decide) (lnc X) hst) rfl rfl (by decide) (Nat.le_of_ble_eq_true rfl) hk hn dX10_init_313 rfl (fun v2 N2 h2 r2 => ?_)
  obtain ⟨z2, e2, c2, g2, -, -⟩ := h2
  subst e2
  obtain ⟨s2, -, k2⟩ := st_num k1 (by decide) c2
  refine e_pop (CC _) rfl dX10_init_316 ?_
  refine e_aload_n (CC _) 0 dX10_init_317 rfl ?_
  refine e_bipush (CC _) dX10_init_318 (by decide) ?_
  refine v_callV (g := g) (KK := KI sk) (w := wM g ad) (ws := []) (M := N2) (M9 := M0) (As := [vI (-8)]) (rest := []) (q0 := 0) (ci := 10) (CC _).h rfl rfl (fun _ _ _ => trivial) (wM_mv g ad) r2 mi_X10_madeNumber ms_X10_madeNumber mv_X10_madeNumber ml_X10_123 (m_num k2.1 (by decide) (lnc X) hst) rfl rfl (by decide) (Nat.le_of_ble_eq_true rfl) hk hn dX10_init_320 rfl (fun v3 N3 h3 r3 => ?_)
  obtain ⟨z3, e3, c3, g3, -, -⟩ := h3
  subst e3
  obtain ⟨s3, -, k3⟩ := st_num k2 (by decide) c3
  refine e_pop (CC _) rfl dX10_init_323 ?_
  refine e_aload_n (CC _) 0 dX10_init_324 rfl ?_
  refine e_iconst (CC _) dX10_init_325 ?_
  refine e_iconst (CC _) dX10_init_326 ?_
  refine v_callV (g := g) (KK := KI sk) (w := wM g ad) (ws := []) (M := N3) (M9 := M0) (As := [vI 0, vI 0]) (rest := []) (q0 := 0) (ci := 10) (CC _).h rfl rfl (fun _ _ _ => trivial) (wM_mv g ad) r3 mi_X10_pair ms_X10_pair mv_X10_pair ml_X10_127 (m_pair1 k3.1 ⟨by decide, by rw [k3.2.1]; decide⟩ ⟨by decide, by rw [k3.2.1]; decide⟩ (lnc X) hst) rfl rfl (by decide) (Nat.le_of_ble_eq_true rfl) hk hn dX10_init_327 rfl (fun v4 N4 h4 r4 => ?_)
  obtain ⟨z4, e4, c4, g4, -, -⟩ := h4
  subst e4
  obtain ⟨s4, -, k4⟩ := st_pair (m := 0) k3 (by decide) (by decide) (by decide) c4
  refine e_pop (CC _) rfl dX10_init_330 ?_
  refine e_aload_n (CC _) 0 dX10_init_331 rfl ?_
  refine e_iconst (CC _) dX10_init_332 ?_
  refine e_iconst (CC _) dX10_init_333 ?_
  refine v_callV (g := g) (KK := KI sk) (w := wM g ad) (ws := []) (M := N4) (M9 := M0) (As := [vI 0, vI 3]) (rest := []) (q0 := 0) (ci := 10) (CC _).h rfl rfl (fun _ _ _ => trivial) (wM_mv g ad) r4 mi_X10_pair ms_X10_pair mv_X10_pair ml_X10_127 (m_pair1 k4.1 ⟨by decide, by rw [k4.2.1]; decide⟩ ⟨by decide, by rw [k4.2.1]; decide⟩ (lnc X) hst) rfl rfl (by decide) (Nat.le_of_ble_eq_true rfl) hk hn dX10_init_334 rfl (fun v5 N5 h5 r5 => ?_)
  obtain ⟨z5, e5, c5, g5, -, -⟩ := h5
  subst e5
  obtain ⟨s5, -, k5⟩ := st_pair (m := 1) k4 (by decide) (by decide) (by decide) c5
  refine e_pop (CC _) rfl dX10_init_337 ?_
  refine e_aload_n (CC _) 0 dX10_init_338 rfl ?_
  refine e_iconst (CC _) dX10_init_339 ?_
  refine e_iconst (CC _) dX10_init_340 ?_
  refine v_callV (g := g) (KK := KI sk) (w := wM g ad) (ws := []) (M := N5) (M9 := M0) (As := [vI 1, vI 2]) (rest := []) (q0 := 0) (ci := 10) (CC _).h rfl rfl (fun _ _ _ => trivial) (wM_mv g ad) r5 mi_X10_pair ms_X10_pair mv_X10_pair ml_X10_127 (m_pair1 k5.1 ⟨by decide, by rw [k5.2.1]; decide⟩ ⟨by decide, by rw [k5.2.1]; decide⟩ (lnc X) hst) rfl rfl (by decide) (Nat.le_of_ble_eq_true rfl) hk hn dX10_init_341 rfl (fun v6 N6 h6 r6 => ?_)
  obtain ⟨z6, e6, c6, g6, -, -⟩ := h6
  subst e6
  obtain ⟨s6, -, k6⟩ := st_pair (m := 0) k5 (by decide) (by decide) (by decide) c6
  refine e_pop (CC _) rfl dX10_init_344 ?_
  refine e_aload_n (CC _) 0 dX10_init_345 rfl ?_
  refine e_bipush (CC _) dX10_init_346 (by decide) ?_
  refine v_callV (g := g) (KK := KI sk) (w := wM g ad) (ws := []) (M := N6) (M9 := M0) (As := [vI 16]) (rest := []) (q0 := 0) (ci := 10) (CC _).h rfl rfl (fun _ _ _ => trivial) (wM_mv g ad) r6 mi_X10_madeNumber ms_X10_madeNumber mv_X10_madeNumber ml_X10_123 (m_num k6.1 (by decide) (lnc X) hst) rfl rfl (by decide) (Nat.le_of_ble_eq_true rfl) hk hn dX10_init_348 rfl (fun v7 N7 h7 r7 => ?_)
  obtain ⟨z7, e7, c7, g7, -, -⟩ := h7
  subst e7
  obtain ⟨s7, -, k7⟩ := st_num k6 (by decide) c7
  refine e_pop (CC _) rfl dX10_init_351 ?_
  refine e_aload_n (CC _) 0 dX10_init_352 rfl ?_
  refine e_bipush (CC _) dX10_init_353 (by decide) ?_
  refine e_iconst (CC _) dX10_init_355 ?_
  refine v_callV (g := g) (KK := KI sk) (w := wM g ad) (ws := []) (M := N7) (M9 := M0) (As := [vI 6, vI 0]) (rest := []) (q0 := 0) (ci := 10) (CC _).h rfl rfl (fun _ _ _ => trivial) (wM_mv g ad) r7 mi_X10_pair ms_X10_pair mv_X10_pair ml_X10_127 (m_pair1 k7.1 ⟨by decide, by rw [k7.2.1]; decide⟩ ⟨by decide, by rw [k7.2.1]; decide⟩ (lnc X) hst) rfl rfl (by decide) (Nat.le_of_ble_eq_true rfl) hk hn dX10_init_356 rfl (fun v8 N8 h8 r8 => ?_)
  obtain ⟨z8, e8, c8, g8, -, -⟩ := h8
  subst e8
  obtain ⟨s8, -, k8⟩ := st_pair (m := 0) k7 (by decide) (by decide) (by decide) c8
  refine e_pop (CC _) rfl dX10_init_359 ?_
  refine e_aload_n (CC _) 0 dX10_init_360 rfl ?_
  refine e_bipush (CC _) dX10_init_361 (by decide) ?_
  refine e_iconst (CC _) dX10_init_363 ?_
  refine v_callV (g := g) (KK := KI sk) (w := wM g ad) (ws := []) (M := N8) (M9 := M0) (As := [vI 7, vI 2]) (rest := []) (q0 := 0) (ci := 10) (CC _).h rfl rfl (fun _ _ _ => trivial) (wM_mv g ad) r8 mi_X10_pair ms_X10_pair mv_X10_pair ml_X10_127 (m_pair1 k8.1 ⟨by decide, by rw [k8.2.1]; decide⟩ ⟨by decide, by rw [k8.2.1]; decide⟩ (lnc X) hst) rfl rfl (by decide) (Nat.le_of_ble_eq_true rfl) hk hn dX10_init_364 rfl (fun v9 N9 h9 r9 => ?_)
  obtain ⟨z9, e9, c9, g9, -, -⟩ := h9
  subst e9
  obtain ⟨s9, -, k9⟩ := st_pair (m := 1) k8 (by decide) (by decide) (by decide) c9
  refine e_pop (CC _) rfl dX10_init_367 ?_
  refine e_aload_n (CC _) 0 dX10_init_368 rfl ?_
  refine v_callV (g := g) (KK := KI sk) (w := wM g ad) (ws := []) (M := N9) (M9 := M0) (As := []) (rest := []) (q0 := 0) (ci := 10) (CC _).h rfl rfl (fun _ _ _ => trivial) (wM_mv g ad) r9 mi_X10_begins ms_X10_begins mv_X10_begins ml_X10_131 (g_begins (lnc X) hst) rfl rfl (by decide) (Nat.le_of_ble_eq_true rfl) hk hn dX10_init_369 rfl (fun v10 N10 h10 r10 => ?_)
  obtain ⟨e10, h10⟩ := h10
  subst e10
  have t0 : Srt N10 0 := ⟨by have := h10.2.2.1; omega, fun i j i1 i2 i3 => by have := h10.2.2.1; omega⟩
  refine e_aload_n (CC _) 0 dX10_init_372 rfl ?_
  refine e_iconst (CC _) dX10_init_373 ?_
  refine e_iconst (CC _) dX10_init_374 ?_
  refine v_callV (g := g) (KK := KI sk) (w := wM g ad) (ws := []) (M := N10) (M9 := M0) (As := [vI 0, vI 0]) (rest := []) (q0 := 0) (ci := 10) (CC _).h rfl rfl (fun _ _ _ => trivial) (wM_mv g ad) r10 mi_X10_takes ms_X10_takes mv_X10_takes ml_X10_134 (g_takes (by decide) (by decide) t0 (lnc X) hst) rfl rfl (by decide) (Nat.le_of_ble_eq_true rfl) hk hn dX10_init_375 rfl (fun v11 N11 h11 r11 => ?_)
  obtain ⟨e11, h11⟩ := h11
  subst e11
  refine e_aload_n (CC _) 0 dX10_init_378 rfl ?_
  refine e_iconst (CC _) dX10_init_379 ?_
  refine e_iconst (CC _) dX10_init_380 ?_
  refine v_callV (g := g) (KK := KI sk) (w := wM g ad) (ws := []) (M := N11) (M9 := M0) (As := [vI 0, vI 3]) (rest := []) (q0 := 0) (ci := 10) (CC _).h rfl rfl (fun _ _ _ => trivial) (wM_mv g ad) r11 mi_X10_takes ms_X10_takes mv_X10_takes ml_X10_134 (g_takes (by decide) (by decide) h11.2.2.2.1 (lnc X) hst) rfl rfl (by decide) (Nat.le_of_ble_eq_true rfl) hk hn dX10_init_381 rfl (fun v12 N12 h12 r12 => ?_)
  obtain ⟨e12, h12⟩ := h12
  subst e12
  have u1 : N12 30 1 = 0 := by rw [h12.2.1 1 (by decide), h11.2.1 1 (by decide)]; exact h10.2.2.2
  refine e_aload_n (CC _) 0 dX10_init_384 rfl ?_
  refine e_iconst (CC _) dX10_init_385 ?_
  refine e_iconst (CC _) dX10_init_386 ?_
  refine v_callV (g := g) (KK := KI sk) (w := wM g ad) (ws := []) (M := N12) (M9 := M0) (As := [vI 1, vI 0]) (rest := []) (q0 := 0) (ci := 10) (CC _).h rfl rfl (fun _ _ _ => trivial) (wM_mv g ad) r12 mi_X10_takes ms_X10_takes mv_X10_takes ml_X10_134 (g_takes (by decide) (by decide) ⟨by omega, fun i j i1 i2 i3 => by omega⟩ (lnc X) hst) rfl rfl (by decide) (Nat.le_of_ble_eq_true rfl) hk hn dX10_init_387 rfl (fun v13 N13 h13 r13 => ?_)
  obtain ⟨e13, h13⟩ := h13
  subst e13
  have q4 : 4 ≤ N9 0 0 := by rw [k9.2.1]; decide
  have ok := last_ok k9.1 q4 h10 h11 h12 h13
  refine e_aload_n (CC _) 0 dX10_init_390 rfl ?_
  refine v_callV (g := g) (KK := KI sk) (w := wM g ad) (ws := []) (M := N13) (M9 := M0) (As := []) (rest := []) (q0 := 0) (ci := 10) (CC _).h rfl rfl (fun _ _ _ => trivial) (wM_mv g ad) r13 mi_X10_made ms_X10_made mv_X10_made ml_X10_138 (g_made ok (lnc X) hst) rfl rfl (by decide) (Nat.le_of_ble_eq_true rfl) hk hn dX10_init_391 rfl (fun v14 N14 h14 r14 => ?_)
  obtain ⟨z14, e14, h14⟩ := h14
  subst e14
  obtain ⟨-, c14, g14, -, -⟩ := last_rows k9.1 q4 h10 h11 h12 h13 (fun _ => h14)
  obtain ⟨s14, -, k14⟩ := st_last k9 (by decide) c14
  refine e_pop (CC _) rfl dX10_init_394 ?_
  have CM : OkB (wM g ad) X cX10_init RX10 1 8 mc ms := okB_M (CC [])
  refine e_cv (w' := wM g ad) (M' := N14) rfl rfl (fun _ => r14) ?_
  refine e_aload_n CM 0 dX10_init_395 rfl ?_
  refine e_iconst CM dX10_init_396 ?_
  refine pM_16 CM (by decide) dX10_init_397 ?_
  refine e_aload_n CM 0 dX10_init_400 rfl ?_
  refine gM_17 CM dX10_init_401 ?_
  refine e_iconst CM dX10_init_404 ?_
  refine e_iconst CM dX10_init_405 ?_
  refine sM_17 CM (by decide) (by decide) dX10_init_406 ?_
  refine e_aload_n CM 0 dX10_init_407 rfl ?_
  refine gM_17 CM dX10_init_408 ?_
  refine e_iconst CM dX10_init_411 ?_
  refine e_bipush CM dX10_init_412 (by decide) ?_
  refine sM_17 CM (by decide) (by decide) dX10_init_414 ?_
  refine e_wf (fun hwf => ?_)
  refine e_cv (w' := wV g (KI sk) (wlM g ad (up (up (up N14 16 0 2) 17 0 5) 17 1 8))) (M' := M0) rfl rfl (fun _ => trivial) (kk _ hwf ⟨N14, ⟨N1, N2, N3, N4, N5, N6, N7, N8, N9, s1, s2, s3, s4, s5, s6, s7, s8, s9, s14⟩, fun c i hc => ?_, ?_, ?_, ?_, ?_, ?_, fun c i h1 h2 => ?_⟩)
  · rw [up_c (by omega), up_c (by omega), up_c (by omega)]
  · rw [up_c (by decide), up_c (by decide), up_s]
  · rw [up_i (by decide), up_s]
  · rw [up_s]
  · rw [up_i (by decide), up_i (by decide), up_c (by decide)]; exact (((((((((g1.trans g2).trans g3).trans g4).trans g5).trans g6).trans g7).trans g8).trans g9).trans g14).1 17 2 (by decide) (by decide)
  · rw [up_i (by decide), up_i (by decide), up_c (by decide)]; exact (((((((((g1.trans g2).trans g3).trans g4).trans g5).trans g6).trans g7).trans g8).trans g9).trans g14).1 17 3 (by decide) (by decide)
  · rw [up_c (by omega), up_c (by omega), up_c (by omega)]; exact (((((((((g1.trans g2).trans g3).trans g4).trans g5).trans g6).trans g7).trans g8).trans g9).trans g14).1 c i (by omega) h2
