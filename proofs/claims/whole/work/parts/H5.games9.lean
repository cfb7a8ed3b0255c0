/-! ===== HotGames' constructor: its games, its table ===== -/
section VCS
variable {tb : List ExceptionTableEntry → Prop} {g : Gs} {KK : (Nat → Prop) → State → Prop} {X : Cx} {cc cc' : ByteArray} {own : String} {nL d mc ms nL' d' mc' ms' : Nat} {k n : Nat} {M M9 : Mem} {pc : Nat} {lv : List (Nat × Value)} {st As rest : List Value} {PQ' : Option Value → Mem → Prop} {y : MethodName} {ret' : Option FieldType} {ix : Nat} {ws : va_W}
theorem v_callS {w : Wd} (C : OkH tb (wV g KK (ws ++ w.2.2.1 M)) X cc own nL d mc ms) (h1 : w.1 = g.1) (h2 : w.2.1 = tysG g) (hKw : ∀ A s, KK A s → w.2.2.2.2 A s) (hmw : KMv w) (hwf : w.2.2.2.1 M) (I : MI y cc' nL' ret' As.length) (hin : Cond.static y ∈ gT) (hlk : Cond.methodLink own ix y ∈ gT)
    (hC : Ct w (lnc X) y cc' nL' ret' d' mc' ms' As M PQ' NoX) (hdd : d' < d) (hr8 : (rest.map fun v => v.category).sum ≤ 8) (hkc : k + mc' ≤ mc) (hns : n + ms' ≤ ms)
    (hd : decode cc pc = .ok (.invokestatic ix, 3)) (hs0 : st = As.reverse ++ rest)
    (kret : ∀ v M1, PQ' v M1 → w.2.2.2.1 M1 → E (wV g KK (ws ++ w.2.2.1 M1)) X (k + mc') (n + ms') M9 (pc + 3) lv (v.toList ++ rest)) : E (wV g KK (ws ++ w.2.2.1 M)) X k n M9 pc lv st := by
  subst hs0
  obtain ⟨p, l, e, R, s, m, args, below, meth, c, A, Q, nL9⟩ := X
  obtain ⟨hx, hb, hml, hown, hts, hA, hK, hKK, hmv, rfl, hfr, hlo, hmc, hms, hlk2, htb⟩ := C
  obtain ⟨⟨hcode, hini⟩, hdy, hnl, -⟩ := I
  intro hw H locs ls hP hD hS hl
  have hP9 : va_P w.1 vwCl (ws ++ w.2.2.1 M) H := by rw [h1]; exact hP
  have hDc : va_D A (w.2.2.1 M) := by
    refine va_D.of ?_ (fun q hq => hD.mem q (List.mem_append_right _ hq))
    have := hD.nd
    rw [List.map_append, List.nodup_append] at this
    exact this.2.1
  have hPc : va_P w.1 vwCl (w.2.2.1 M) H := va_P.mem hP9 (fun q hq => List.mem_append_right _ hq)
  have hKw9 : va_K w.1 vwCl w.2.1 s := by rw [h1, h2]; exact hK
  have hM := hC hwf hmw H.size
  have hrun := vx_runS (g := F0 m pc ls (As.reverse ++ rest)) (locs := locs) (cells := k) (slots := n) (below := below) (meth := meth) (e := e) (rest := rest) (Ts := gT) (own := own) (R := R) ⟨hx, hb, hml, hown, hts⟩ hM
    (⟨callB_of As.length hts (goodIn_law hcode) rfl rfl rfl (hts _ hini) (hts _ hlk) ⟨hdy.1.1, hdy.1.2, hdy.2⟩ ⟨by show 16 * d' + 1 ≤ R.frames; omega, by show 8 + (nL' + 11) + 200 * d' ≤ R.locals; omega⟩, hts _ hin⟩ : CallB R s args own ix y cc' nL' ret' _ _ mc' ms' As.length ∧ _)
    (H := H) ⟨pc_blind hmw, fun U hU hW => ct_pre hmw hPc hDc hS hA hKw9 (hKw A s hKK) hU hW⟩ rfl rfl hl.1 rfl (lv_room hr8) hd ⟨by omega, by omega⟩
  exact e_runA (wr := ws) (w := w) hrun hP9 hD hS hA (fun v M1 H1 locs1 hq hw1 hP1 hD1 hS1 => kret v M1 hq hw1 trivial H1 locs1 ls (by rw [← h1]; exact hP1) hD1 hS1 hl) (fun Ec M1 H1 locs1 q ce h9 => absurd h9 id)
end VCS
def XIn (A : Mem) : Prop := ∃ S, StR M0 S ∧ RepX S A (S 0 0) ∧ A 11 0 = 2 ∧ A 10 0 = 5 ∧ A 10 1 = 8 ∧ (∀ i, i ≠ 0 → i ≠ 1 → A 10 i = 0) ∧ ∀ c i, (c < 4 ∨ (20 ≤ c ∧ c < 40)) → A c i = 0
theorem rep_0 {A : Mem} (h : ∀ c i, c ≠ 19 → A c i = 0) : RepX M0 A (M0 0 0) := ⟨h 4 0 (by decide), rfl, good_0 M0, fun z h0 h1 => absurd h1 (by show ¬ z < 0; omega), fun z y h0 h1 => absurd h1 (by show ¬ z < 0; omega)⟩
set_option maxHeartbeats 4000000 in
theorem c9_games {g : Gs} {sk : (Nat → Nat) × (Nat → Nat)} {ad : Nat → Nat} {X : Cx} {A0 : Mem} (CC : ∀ ws, OkB (wV g (KI sk) ws) X cX9_init RX9 9 8 283 3055) (hst : (lnc X).stackTraces = false) (rA0 : RMx ad A0) (hz : ∀ c i, c ≠ 19 → A0 c i = 0)
    (kk : ∀ B, RMx ad B → XIn B → E (wV g (KI sk) (wlX g ad B)) X 283 3055 M0 306 [(0, .ref (ad 0))] []) : E (wV g (KI sk) (wlX g ad A0)) X 283 3055 M0 139 [(0, .ref (ad 0))] [] := by
  have k0 := kn_nil (M := M0) rfl
  have x0 := rep_0 hz
  refine e_aload_n (CC _) 0 dX9_init_139 rfl ?_
  refine e_get (q0 := 0) (ci := 9) (kf := 0) (T := TX9) (N := 12) (CC _) inG9 (wlX_st rfl) rfl (by decide) (tg2 187 rfl rfl) rfl dX9_init_140 ?_
  refine e_iconst (CC _) dX9_init_143 ?_
  refine v_callV (g := g) (KK := KI sk) (w := wC g ad sk) (ws := []) (M := A0) (M9 := M0) (As := [vI (0)]) (rest := []) (q0 := 1) (ci := 5) (CC _).h rfl rfl (fun _ _ h => h.1) (wC_mv g ad sk) rA0 mi_X5_makeNumber ms_X5_makeNumber mv_X5_makeNumber ml_X9_84 (x_makeNumber x0 (by decide) (lnc X) hst) (wlX_st rfl) rfl (by decide) (Nat.le_of_ble_eq_true rfl) (Nat.le_refl _) (Nat.le_refl _) dX9_init_144 rfl (fun v1 A1 h1 rA1 => ?_)
  obtain ⟨z1, e1, N1, c1, x1, f1⟩ := h1
  subst e1
  obtain ⟨s1, w1, k1⟩ := st_num k0 (by decide) c1
  have w1' : z1 = 0 := w1
  subst w1'
  refine e_istore_n (lv' := [(1, vI 0), (0, .ref (ad 0))]) (CC _) dX9_init_147 (by decide) rfl ?_
  refine e_aload_n (CC _) 1 dX9_init_148 rfl ?_
  refine e_get (q0 := 0) (ci := 9) (kf := 0) (T := TX9) (N := 12) (CC _) inG9 (wlX_st rfl) rfl (by decide) (tg2 187 rfl rfl) rfl dX9_init_149 ?_
  refine e_bipush (CC _) dX9_init_152 (by decide) ?_
  refine v_callV (g := g) (KK := KI sk) (w := wC g ad sk) (ws := []) (M := A1) (M9 := M0) (As := [vI (8)]) (rest := []) (q0 := 1) (ci := 5) (CC _).h rfl rfl (fun _ _ h => h.1) (wC_mv g ad sk) rA1 mi_X5_makeNumber ms_X5_makeNumber mv_X5_makeNumber ml_X9_84 (x_makeNumber x1 (by decide) (lnc X) hst) (wlX_st rfl) rfl (by decide) (Nat.le_of_ble_eq_true rfl) (Nat.le_refl _) (Nat.le_refl _) dX9_init_154 rfl (fun v2 A2 h2 rA2 => ?_)
  obtain ⟨z2, e2, N2, c2, x2, f2⟩ := h2
  subst e2
  obtain ⟨s2, w2, k2⟩ := st_num k1 (by decide) c2
  have w2' : z2 = 1 := w2
  subst w2'
  refine e_istore_n (lv' := [(2, vI 1), (1, vI 0), (0, .ref (ad 0))]) (CC _) dX9_init_157 (by decide) rfl ?_
  refine e_aload_n (CC _) 2 dX9_init_158 rfl ?_
  refine e_get (q0 := 0) (ci := 9) (kf := 0) (T := TX9) (N := 12) (CC _) inG9 (wlX_st rfl) rfl (by decide) (tg2 187 rfl rfl) rfl dX9_init_159 ?_
  refine e_bipush (CC _) dX9_init_162 (by decide) ?_
  refine v_callV (g := g) (KK := KI sk) (w := wC g ad sk) (ws := []) (M := A2) (M9 := M0) (As := [vI (-8)]) (rest := []) (q0 := 1) (ci := 5) (CC _).h rfl rfl (fun _ _ h => h.1) (wC_mv g ad sk) rA2 mi_X5_makeNumber ms_X5_makeNumber mv_X5_makeNumber ml_X9_84 (x_makeNumber x2 (by decide) (lnc X) hst) (wlX_st rfl) rfl (by decide) (Nat.le_of_ble_eq_true rfl) (Nat.le_refl _) (Nat.le_refl _) dX9_init_164 rfl (fun v3 A3 h3 rA3 => ?_)
  obtain ⟨z3, e3, N3, c3, x3, f3⟩ := h3
  subst e3
  obtain ⟨s3, w3, k3⟩ := st_num k2 (by decide) c3
  have w3' : z3 = 2 := w3
  subst w3'
  refine e_istore_n (lv' := [(3, vI 2), (2, vI 1), (1, vI 0), (0, .ref (ad 0))]) (CC _) dX9_init_167 (by decide) rfl ?_
  refine e_aload_n (CC _) 3 dX9_init_168 rfl ?_
  refine e_get (q0 := 0) (ci := 9) (kf := 0) (T := TX9) (N := 12) (CC _) inG9 (wlX_st rfl) rfl (by decide) (tg2 187 rfl rfl) rfl dX9_init_169 ?_
  refine e_iload_n (CC _) 2 dX9_init_172 rfl ?_
  refine v_callS (g := g) (KK := KI sk) (w := wC g ad sk) (ws := []) (M := A3) (M9 := M0) (As := [vI 0]) (rest := [.ref (ad 1)]) (CC _).h rfl rfl (fun _ _ h => h.1) (wC_mv g ad sk) rA3 mi_X9_bit ms_X9_bit ml_X9_88 (s_X9_bit (by decide) (lnc X) hst) (by decide) (Nat.le_of_ble_eq_true rfl) (Nat.le_refl _) (Nat.le_refl _) dX9_init_173 rfl (fun v9 M9 h9 r9 => ?_)
  obtain ⟨e9, f9⟩ := h9
  subst e9
  replace f9 := f9.symm
  subst f9
  refine e_iload_n (CC _) 2 dX9_init_176 rfl ?_
  refine v_callS (g := g) (KK := KI sk) (w := wC g ad sk) (ws := []) (M := A3) (M9 := M0) (As := [vI 0]) (rest := [vL (bt 0), .ref (ad 1)]) (CC _).h rfl rfl (fun _ _ h => h.1) (wC_mv g ad sk) rA3 mi_X9_bit ms_X9_bit ml_X9_88 (s_X9_bit (by decide) (lnc X) hst) (by decide) (Nat.le_of_ble_eq_true rfl) (Nat.le_refl _) (Nat.le_refl _) dX9_init_177 rfl (fun v9 M9 h9 r9 => ?_)
  obtain ⟨e9, f9⟩ := h9
  subst e9
  replace f9 := f9.symm
  subst f9
  refine v_callV (g := g) (KK := KI sk) (w := wC g ad sk) (ws := []) (M := A3) (M9 := M0) (As := [vL (bt 0), vL (bt 0)]) (rest := []) (q0 := 1) (ci := 5) (CC _).h rfl rfl (fun _ _ h => h.1) (wC_mv g ad sk) rA3 mi_X5_compose ms_X5_compose mv_X5_compose ml_X9_92 (x_compose x3 (bit_W (by decide) (by rw [k3.2.1]; decide)) (bit_W (by decide) (by rw [k3.2.1]; decide)) (lnc X) hst) (wlX_st rfl) rfl (by decide) (Nat.le_of_ble_eq_true rfl) (Nat.le_refl _) (Nat.le_refl _) dX9_init_180 rfl (fun v4 A4 h4 rA4 => ?_)
  obtain ⟨z4, e4, N4, c4, x4, f4⟩ := h4
  subst e4
  obtain ⟨s4, w4, k4⟩ := st_pair (m := 0) k3 (by decide) (by decide) (by decide) c4
  have w4' : z4 = 3 := w4
  subst w4'
  refine e_istore (lv' := [(4, vI 3), (3, vI 2), (2, vI 1), (1, vI 0), (0, .ref (ad 0))]) (CC _) dX9_init_183 (by decide) rfl ?_
  refine e_aload_n (CC _) 4 dX9_init_185 rfl ?_
  refine e_get (q0 := 0) (ci := 9) (kf := 0) (T := TX9) (N := 12) (CC _) inG9 (wlX_st rfl) rfl (by decide) (tg2 187 rfl rfl) rfl dX9_init_186 ?_
  refine e_iload_n (CC _) 3 dX9_init_189 rfl ?_
  refine v_callS (g := g) (KK := KI sk) (w := wC g ad sk) (ws := []) (M := A4) (M9 := M0) (As := [vI 0]) (rest := [.ref (ad 1)]) (CC _).h rfl rfl (fun _ _ h => h.1) (wC_mv g ad sk) rA4 mi_X9_bit ms_X9_bit ml_X9_88 (s_X9_bit (by decide) (lnc X) hst) (by decide) (Nat.le_of_ble_eq_true rfl) (Nat.le_refl _) (Nat.le_refl _) dX9_init_190 rfl (fun v9 M9 h9 r9 => ?_)
  obtain ⟨e9, f9⟩ := h9
  subst e9
  replace f9 := f9.symm
  subst f9
  refine e_iload (CC _) 0 dX9_init_193 rfl ?_
  refine v_callS (g := g) (KK := KI sk) (w := wC g ad sk) (ws := []) (M := A4) (M9 := M0) (As := [vI 3]) (rest := [vL (bt 0), .ref (ad 1)]) (CC _).h rfl rfl (fun _ _ h => h.1) (wC_mv g ad sk) rA4 mi_X9_bit ms_X9_bit ml_X9_88 (s_X9_bit (by decide) (lnc X) hst) (by decide) (Nat.le_of_ble_eq_true rfl) (Nat.le_refl _) (Nat.le_refl _) dX9_init_195 rfl (fun v9 M9 h9 r9 => ?_)
  obtain ⟨e9, f9⟩ := h9
  subst e9
  replace f9 := f9.symm
  subst f9
  refine v_callV (g := g) (KK := KI sk) (w := wC g ad sk) (ws := []) (M := A4) (M9 := M0) (As := [vL (bt 0), vL (bt 3)]) (rest := []) (q0 := 1) (ci := 5) (CC _).h rfl rfl (fun _ _ h => h.1) (wC_mv g ad sk) rA4 mi_X5_compose ms_X5_compose mv_X5_compose ml_X9_92 (x_compose x4 (bit_W (by decide) (by rw [k4.2.1]; decide)) (bit_W (by decide) (by rw [k4.2.1]; decide)) (lnc X) hst) (wlX_st rfl) rfl (by decide) (Nat.le_of_ble_eq_true rfl) (Nat.le_refl _) (Nat.le_refl _) dX9_init_198 rfl (fun v5 A5 h5 rA5 => ?_)
  obtain ⟨z5, e5, N5, c5, x5, f5⟩ := h5
  subst e5
  obtain ⟨s5, w5, k5⟩ := st_pair (m := 1) k4 (by decide) (by decide) (by decide) c5
  have w5' : z5 = 4 := w5
  subst w5'
  refine e_pop (CC _) rfl dX9_init_201 ?_
  refine e_aload_n (CC _) 4 dX9_init_202 rfl ?_
  refine e_get (q0 := 0) (ci := 9) (kf := 0) (T := TX9) (N := 12) (CC _) inG9 (wlX_st rfl) rfl (by decide) (tg2 187 rfl rfl) rfl dX9_init_203 ?_
  refine e_iload_n (CC _) 2 dX9_init_206 rfl ?_
  refine v_callS (g := g) (KK := KI sk) (w := wC g ad sk) (ws := []) (M := A5) (M9 := M0) (As := [vI 1]) (rest := [.ref (ad 1)]) (CC _).h rfl rfl (fun _ _ h => h.1) (wC_mv g ad sk) rA5 mi_X9_bit ms_X9_bit ml_X9_88 (s_X9_bit (by decide) (lnc X) hst) (by decide) (Nat.le_of_ble_eq_true rfl) (Nat.le_refl _) (Nat.le_refl _) dX9_init_207 rfl (fun v9 M9 h9 r9 => ?_)
  obtain ⟨e9, f9⟩ := h9
  subst e9
  replace f9 := f9.symm
  subst f9
  refine e_iload_n (CC _) 1 dX9_init_210 rfl ?_
  refine v_callS (g := g) (KK := KI sk) (w := wC g ad sk) (ws := []) (M := A5) (M9 := M0) (As := [vI 2]) (rest := [vL (bt 1), .ref (ad 1)]) (CC _).h rfl rfl (fun _ _ h => h.1) (wC_mv g ad sk) rA5 mi_X9_bit ms_X9_bit ml_X9_88 (s_X9_bit (by decide) (lnc X) hst) (by decide) (Nat.le_of_ble_eq_true rfl) (Nat.le_refl _) (Nat.le_refl _) dX9_init_211 rfl (fun v9 M9 h9 r9 => ?_)
  obtain ⟨e9, f9⟩ := h9
  subst e9
  replace f9 := f9.symm
  subst f9
  refine v_callV (g := g) (KK := KI sk) (w := wC g ad sk) (ws := []) (M := A5) (M9 := M0) (As := [vL (bt 1), vL (bt 2)]) (rest := []) (q0 := 1) (ci := 5) (CC _).h rfl rfl (fun _ _ h => h.1) (wC_mv g ad sk) rA5 mi_X5_compose ms_X5_compose mv_X5_compose ml_X9_92 (x_compose x5 (bit_W (by decide) (by rw [k5.2.1]; decide)) (bit_W (by decide) (by rw [k5.2.1]; decide)) (lnc X) hst) (wlX_st rfl) rfl (by decide) (Nat.le_of_ble_eq_true rfl) (Nat.le_refl _) (Nat.le_refl _) dX9_init_214 rfl (fun v6 A6 h6 rA6 => ?_)
  obtain ⟨z6, e6, N6, c6, x6, f6⟩ := h6
  subst e6
  obtain ⟨s6, w6, k6⟩ := st_pair (m := 0) k5 (by decide) (by decide) (by decide) c6
  have w6' : z6 = 5 := w6
  subst w6'
  refine e_istore (lv' := [(5, vI 5), (4, vI 3), (3, vI 2), (2, vI 1), (1, vI 0), (0, .ref (ad 0))]) (CC _) dX9_init_217 (by decide) rfl ?_
  refine e_aload_n (CC _) 5 dX9_init_219 rfl ?_
  refine e_get (q0 := 0) (ci := 9) (kf := 0) (T := TX9) (N := 12) (CC _) inG9 (wlX_st rfl) rfl (by decide) (tg2 187 rfl rfl) rfl dX9_init_220 ?_
  refine e_bipush (CC _) dX9_init_223 (by decide) ?_
  refine v_callV (g := g) (KK := KI sk) (w := wC g ad sk) (ws := []) (M := A6) (M9 := M0) (As := [vI (16)]) (rest := []) (q0 := 1) (ci := 5) (CC _).h rfl rfl (fun _ _ h => h.1) (wC_mv g ad sk) rA6 mi_X5_makeNumber ms_X5_makeNumber mv_X5_makeNumber ml_X9_84 (x_makeNumber x6 (by decide) (lnc X) hst) (wlX_st rfl) rfl (by decide) (Nat.le_of_ble_eq_true rfl) (Nat.le_refl _) (Nat.le_refl _) dX9_init_225 rfl (fun v7 A7 h7 rA7 => ?_)
  obtain ⟨z7, e7, N7, c7, x7, f7⟩ := h7
  subst e7
  obtain ⟨s7, w7, k7⟩ := st_num k6 (by decide) c7
  have w7' : z7 = 6 := w7
  subst w7'
  refine e_istore (lv' := [(6, vI 6), (5, vI 5), (4, vI 3), (3, vI 2), (2, vI 1), (1, vI 0), (0, .ref (ad 0))]) (CC _) dX9_init_228 (by decide) rfl ?_
  refine e_aload_n (CC _) 6 dX9_init_230 rfl ?_
  refine e_get (q0 := 0) (ci := 9) (kf := 0) (T := TX9) (N := 12) (CC _) inG9 (wlX_st rfl) rfl (by decide) (tg2 187 rfl rfl) rfl dX9_init_231 ?_
  refine e_iload (CC _) 0 dX9_init_234 rfl ?_
  refine v_callS (g := g) (KK := KI sk) (w := wC g ad sk) (ws := []) (M := A7) (M9 := M0) (As := [vI 6]) (rest := [.ref (ad 1)]) (CC _).h rfl rfl (fun _ _ h => h.1) (wC_mv g ad sk) rA7 mi_X9_bit ms_X9_bit ml_X9_88 (s_X9_bit (by decide) (lnc X) hst) (by decide) (Nat.le_of_ble_eq_true rfl) (Nat.le_refl _) (Nat.le_refl _) dX9_init_236 rfl (fun v9 M9 h9 r9 => ?_)
  obtain ⟨e9, f9⟩ := h9
  subst e9
  replace f9 := f9.symm
  subst f9
  refine e_iload_n (CC _) 5 dX9_init_239 rfl ?_
  refine v_callS (g := g) (KK := KI sk) (w := wC g ad sk) (ws := []) (M := A7) (M9 := M0) (As := [vI 0]) (rest := [vL (bt 6), .ref (ad 1)]) (CC _).h rfl rfl (fun _ _ h => h.1) (wC_mv g ad sk) rA7 mi_X9_bit ms_X9_bit ml_X9_88 (s_X9_bit (by decide) (lnc X) hst) (by decide) (Nat.le_of_ble_eq_true rfl) (Nat.le_refl _) (Nat.le_refl _) dX9_init_240 rfl (fun v9 M9 h9 r9 => ?_)
  obtain ⟨e9, f9⟩ := h9
  subst e9
  replace f9 := f9.symm
  subst f9
  refine v_callV (g := g) (KK := KI sk) (w := wC g ad sk) (ws := []) (M := A7) (M9 := M0) (As := [vL (bt 6), vL (bt 0)]) (rest := []) (q0 := 1) (ci := 5) (CC _).h rfl rfl (fun _ _ h => h.1) (wC_mv g ad sk) rA7 mi_X5_compose ms_X5_compose mv_X5_compose ml_X9_92 (x_compose x7 (bit_W (by decide) (by rw [k7.2.1]; decide)) (bit_W (by decide) (by rw [k7.2.1]; decide)) (lnc X) hst) (wlX_st rfl) rfl (by decide) (Nat.le_of_ble_eq_true rfl) (Nat.le_refl _) (Nat.le_refl _) dX9_init_243 rfl (fun v8 A8 h8 rA8 => ?_)
  obtain ⟨z8, e8, N8, c8, x8, f8⟩ := h8
  subst e8
  obtain ⟨s8, w8, k8⟩ := st_pair (m := 0) k7 (by decide) (by decide) (by decide) c8
  have w8' : z8 = 7 := w8
  subst w8'
  refine e_istore (lv' := [(7, vI 7), (6, vI 6), (5, vI 5), (4, vI 3), (3, vI 2), (2, vI 1), (1, vI 0), (0, .ref (ad 0))]) (CC _) dX9_init_246 (by decide) rfl ?_
  refine e_aload_n (CC _) 7 dX9_init_248 rfl ?_
  refine e_get (q0 := 0) (ci := 9) (kf := 0) (T := TX9) (N := 12) (CC _) inG9 (wlX_st rfl) rfl (by decide) (tg2 187 rfl rfl) rfl dX9_init_249 ?_
  refine e_iload (CC _) 0 dX9_init_252 rfl ?_
  refine v_callS (g := g) (KK := KI sk) (w := wC g ad sk) (ws := []) (M := A8) (M9 := M0) (As := [vI 7]) (rest := [.ref (ad 1)]) (CC _).h rfl rfl (fun _ _ h => h.1) (wC_mv g ad sk) rA8 mi_X9_bit ms_X9_bit ml_X9_88 (s_X9_bit (by decide) (lnc X) hst) (by decide) (Nat.le_of_ble_eq_true rfl) (Nat.le_refl _) (Nat.le_refl _) dX9_init_254 rfl (fun v9 M9 h9 r9 => ?_)
  obtain ⟨e9, f9⟩ := h9
  subst e9
  replace f9 := f9.symm
  subst f9
  refine e_iload_n (CC _) 4 dX9_init_257 rfl ?_
  refine v_callS (g := g) (KK := KI sk) (w := wC g ad sk) (ws := []) (M := A8) (M9 := M0) (As := [vI 2]) (rest := [vL (bt 7), .ref (ad 1)]) (CC _).h rfl rfl (fun _ _ h => h.1) (wC_mv g ad sk) rA8 mi_X9_bit ms_X9_bit ml_X9_88 (s_X9_bit (by decide) (lnc X) hst) (by decide) (Nat.le_of_ble_eq_true rfl) (Nat.le_refl _) (Nat.le_refl _) dX9_init_258 rfl (fun v9 M9 h9 r9 => ?_)
  obtain ⟨e9, f9⟩ := h9
  subst e9
  replace f9 := f9.symm
  subst f9
  refine v_callV (g := g) (KK := KI sk) (w := wC g ad sk) (ws := []) (M := A8) (M9 := M0) (As := [vL (bt 7), vL (bt 2)]) (rest := []) (q0 := 1) (ci := 5) (CC _).h rfl rfl (fun _ _ h => h.1) (wC_mv g ad sk) rA8 mi_X5_compose ms_X5_compose mv_X5_compose ml_X9_92 (x_compose x8 (bit_W (by decide) (by rw [k8.2.1]; decide)) (bit_W (by decide) (by rw [k8.2.1]; decide)) (lnc X) hst) (wlX_st rfl) rfl (by decide) (Nat.le_of_ble_eq_true rfl) (Nat.le_refl _) (Nat.le_refl _) dX9_init_261 rfl (fun v9 A9 h9 rA9 => ?_)
  obtain ⟨z9, e9, N9, c9, x9, g9⟩ := h9
  subst e9
  obtain ⟨s9, w9, k9⟩ := st_pair (m := 1) k8 (by decide) (by decide) (by decide) c9
  have w9' : z9 = 8 := w9
  subst w9'
  refine e_istore (lv' := [(8, vI 8), (7, vI 7), (6, vI 6), (5, vI 5), (4, vI 3), (3, vI 2), (2, vI 1), (1, vI 0), (0, .ref (ad 0))]) (CC _) dX9_init_264 (by decide) rfl ?_
  refine e_aload_n (CC _) 8 dX9_init_266 rfl ?_
  refine e_get (q0 := 0) (ci := 9) (kf := 0) (T := TX9) (N := 12) (CC _) inG9 (wlX_st rfl) rfl (by decide) (tg2 187 rfl rfl) rfl dX9_init_267 ?_
  refine e_iload_n (CC _) 7 dX9_init_270 rfl ?_
  refine v_callS (g := g) (KK := KI sk) (w := wC g ad sk) (ws := []) (M := A9) (M9 := M0) (As := [vI 0]) (rest := [.ref (ad 1)]) (CC _).h rfl rfl (fun _ _ h => h.1) (wC_mv g ad sk) rA9 mi_X9_bit ms_X9_bit ml_X9_88 (s_X9_bit (by decide) (lnc X) hst) (by decide) (Nat.le_of_ble_eq_true rfl) (Nat.le_refl _) (Nat.le_refl _) dX9_init_271 rfl (fun v9 M9 h9 r9 => ?_)
  obtain ⟨e9, f9⟩ := h9
  subst e9
  replace f9 := f9.symm
  subst f9
  refine e_iload (CC _) 4 dX9_init_274 rfl ?_
  refine v_callS (g := g) (KK := KI sk) (w := wC g ad sk) (ws := []) (M := A9) (M9 := M0) (As := [vI 3]) (rest := [vL (bt 0), .ref (ad 1)]) (CC _).h rfl rfl (fun _ _ h => h.1) (wC_mv g ad sk) rA9 mi_X9_bit ms_X9_bit ml_X9_88 (s_X9_bit (by decide) (lnc X) hst) (by decide) (Nat.le_of_ble_eq_true rfl) (Nat.le_refl _) (Nat.le_refl _) dX9_init_276 rfl (fun v9 M9 h9 r9 => ?_)
  obtain ⟨e9, f9⟩ := h9
  subst e9
  replace f9 := f9.symm
  subst f9
  refine e_lor (CC _) dX9_init_279 ?_
  refine e_iload_n (CC _) 7 dX9_init_280 rfl ?_
  refine v_callS (g := g) (KK := KI sk) (w := wC g ad sk) (ws := []) (M := A9) (M9 := M0) (As := [vI 0]) (rest := [vL (lorL (bt 0) (bt 3)), .ref (ad 1)]) (CC _).h rfl rfl (fun _ _ h => h.1) (wC_mv g ad sk) rA9 mi_X9_bit ms_X9_bit ml_X9_88 (s_X9_bit (by decide) (lnc X) hst) (by decide) (Nat.le_of_ble_eq_true rfl) (Nat.le_refl _) (Nat.le_refl _) dX9_init_281 rfl (fun v9 M9 h9 r9 => ?_)
  obtain ⟨e9, f9⟩ := h9
  subst e9
  replace f9 := f9.symm
  subst f9
  refine v_callV (g := g) (KK := KI sk) (w := wC g ad sk) (ws := []) (M := A9) (M9 := M0) (As := [vL (lorL (bt 0) (bt 3)), vL (bt 0)]) (rest := []) (q0 := 1) (ci := 5) (CC _).h rfl rfl (fun _ _ h => h.1) (wC_mv g ad sk) rA9 mi_X5_compose ms_X5_compose mv_X5_compose ml_X9_92 (x_compose x9 (wd_or (bit_W (by decide) (by rw [k9.2.1]; decide)) ⟨by decide, by rw [k9.2.1]; decide⟩ (by rw [k9.2.1]; decide)) (bit_W (by decide) (by rw [k9.2.1]; decide)) (lnc X) hst) (wlX_st rfl) rfl (by decide) (Nat.le_of_ble_eq_true rfl) (Nat.le_refl _) (Nat.le_refl _) dX9_init_284 rfl (fun v10 A10 h10 rA10 => ?_)
  obtain ⟨z10, e10, N10, c10, x10, f10⟩ := h10
  subst e10
  obtain ⟨s10, w10, k10⟩ := st_last k9 (by decide) c10
  have w10' : z10 = 9 := w10
  subst w10'
  refine e_pop (CC _) rfl dX9_init_287 ?_
  have fr : ∀ c i, (c < 4 ∨ (9 < c ∧ c < 40) ∨ 53 < c) → A10 c i = A0 c i := fun c i h => by rw [f10 c i h, g9 c i h, f8 c i h, f7 c i h, f6 c i h, f5 c i h, f4 c i h, f3 c i h, f2 c i h, f1 c i h]
  have a11 : A10 11 0 = 0 := by rw [fr 11 0 (by omega), hz 11 0 (by decide)]
  refine e_aload_n (CC _) 8 dX9_init_288 rfl ?_
  refine e_get (q0 := 0) (ci := 9) (kf := 1) (T := TX9) (N := 12) (CC _) inG9 (wlX_st rfl) rfl (by decide) (tg2 188 rfl rfl) rfl dX9_init_289 ?_
  refine e_iload (CC _) 3 dX9_init_292 rfl ?_
  refine v_callV (g := g) (KK := KI sk) (w := wC g ad sk) (ws := []) (M := A10) (M9 := M0) (As := [vI 5]) (rest := []) (q0 := 2) (ci := 7) (CC _).h rfl rfl (fun _ _ h => h.1) (wC_mv g ad sk) rA10 mi_X7_append ms_X7_append mv_X7_append ml_X9_96 (x_append7 (by decide) ⟨by omega, by omega⟩ (lnc X) hst) (wlX_st rfl) rfl (by decide) (Nat.le_of_ble_eq_true rfl) (Nat.le_refl _) (Nat.le_refl _) dX9_init_294 rfl (fun u9 B1 t9 rB1 => ?_)
  obtain ⟨t1, t2⟩ := t9
  subst t1
  have b11 : B1 11 0 = 1 := by rw [t2, up_s, a11]; rfl
  have t2a := t2
  refine e_aload_n (CC _) 8 dX9_init_297 rfl ?_
  refine e_get (q0 := 0) (ci := 9) (kf := 1) (T := TX9) (N := 12) (CC _) inG9 (wlX_st rfl) rfl (by decide) (tg2 188 rfl rfl) rfl dX9_init_298 ?_
  refine e_iload (CC _) 0 dX9_init_301 rfl ?_
  refine v_callV (g := g) (KK := KI sk) (w := wC g ad sk) (ws := []) (M := B1) (M9 := M0) (As := [vI 8]) (rest := []) (q0 := 2) (ci := 7) (CC _).h rfl rfl (fun _ _ h => h.1) (wC_mv g ad sk) rB1 mi_X7_append ms_X7_append mv_X7_append ml_X9_96 (x_append7 (by decide) ⟨by omega, by omega⟩ (lnc X) hst) (wlX_st rfl) rfl (by decide) (Nat.le_of_ble_eq_true rfl) (Nat.le_refl _) (Nat.le_refl _) dX9_init_303 rfl (fun u9 B2 t9 rB2 => ?_)
  obtain ⟨t1, t2⟩ := t9
  subst t1
  refine e_sub [8] rfl (kk B2 rB2 ⟨N10, ⟨N1, N2, N3, N4, N5, N6, N7, N8, N9, s1, s2, s3, s4, s5, s6, s7, s8, s9, s10⟩, ?_, ?_, ?_, ?_, ?_, ?_⟩)
  · exact x10.cx (fun c i hc => by rw [t2, up_c (by omega), up_c (by omega), t2a, up_c (by omega), up_c (by omega)])
  · rw [t2, up_s, b11]; rfl
  · rw [t2, up_c (by decide), b11, up_i (by decide), t2a, up_c (by decide), a11, up_s]
  · rw [t2, up_c (by decide), b11, up_s]
  · intro i i0 i1; rw [t2, up_c (by decide), b11, up_i i1, t2a, up_c (by decide), a11, up_i i0, fr 10 i (by omega), hz 10 i (by decide)]
  · intro c i hc; rw [t2, up_c (by omega), up_c (by omega), t2a, up_c (by omega), up_c (by omega), fr c i (by omega), hz c i (by omega)]
abbrev wNX9 (g : Gs) (sk : (Nat → Nat) × (Nat → Nat)) (b : Nat) : Wd := (g.1, tysG g, fun P => if P 0 0 = 0 then [(b, .inr (9, dfX9))] else wlX g (adP P) (pkM P), fun P => P 0 0 = 0 ∨ RMx (adP P) (pkM P), KI sk)
theorem ci_X9 {g : Gs} {sk : (Nat → Nat) × (Nat → Nat)} {b : Nat} : ∀ l : Launch, l.stackTraces = false → Ct (wNX9 g sk b) l yX9_init cX9_init 9 none 8 283 3055 [.ref b] M0 (fun v P => v = none ∧ P 0 0 = 1 ∧ adP P 0 = b ∧ RMx (adP P) (pkM P) ∧ XIn (pkM P)) NoX := by
  intro l9 hl9
  refine ct_ofI hl9 mi_X9_init.2.2.2 (Nat.le_of_ble_eq_true rfl) (fun X hX hnm C Y => ?_)
  have CC : ∀ ws, OkB (wV g (KI sk) ws) X cX9_init RX9 9 8 283 3055 := fun ws => okB_ws rfl rfl rfl C
  have hst : (lnc X).stackTraces = false := by rw [hX]; exact hl9
  show E (wNX9 g sk b) X 0 0 M0 0 [(0, .ref b)] []
  refine e_cv (w' := wV g (KI sk) [(b, .inr (9, dfX9))]) (M' := M0) rfl rfl (fun _ => trivial) ?_
  refine c9_parts CC hnm hst (fun L P5 hb M hM hz => ?_)
  subst hb
  refine c9_games CC hst hM hz (fun B hB hI => ?_)
  exact e_cv (w' := wNX9 g sk (ad9 L P5 0)) (M' := mkP (ad9 L P5) B) rfl rfl (fun _ => Or.inr hB) (e_vret C Y (Nat.le_refl _) (Nat.le_refl _) dX9_init_306 ⟨rfl, rfl, rfl, hB, hI⟩)
