/-! ===== the law's helpers ===== -/
abbrev oC (g : Gs) (ao : Nat) (x : Int) : Nat × va_E := (ao, .inl (g.2.2.1, 1, .inr (.inl (fun _ => i64 x))))
def cX (P : Mem) : Mem := fun c i => P (c + 1) i
def oP (o : Int) (B : Mem) : Mem := fun c i => match c with
  | 0 => o
  | c + 1 => B c i
abbrev wH (g : Gs) (ad : Nat → Nat) (sk : (Nat → Nat) × (Nat → Nat)) (ao : Nat) : Wd := (g.1, tysG g, fun P => oC g ao (P 0 0) :: wlX g ad (cX P), fun P => RMx ad (cX P), KH sk)
def HRes (R : Int → Int → Mem → Prop) (S : Int → Mem → Prop) (k r : Int) (P : Mem) : Prop := Res R k r (cX P) ∧ (k = 0 → P 0 0 = nz r ∧ S r (cX P)) ∧ (0 ≤ k ∧ k ≤ 3)
theorem mh_number : MIH yL_number cL_number 4 (some .int) [(0, 9, 12, 13), (0, 9, 15, 15)] 3 := ⟨⟨tg3 152 rfl rfl, tg1 0 rfl rfl⟩, ⟨by decide +kernel, by decide +kernel, by decide +kernel⟩, by decide, by decide +kernel, tg3 151 rfl rfl⟩
theorem hl_number {g : Gs} {ad : Nat → Nat} {sk : (Nat → Nat) × (Nat → Nat)} {ao : Nat} {P : Mem} {R : Int → Int → Mem → Prop} {S : Int → Mem → Prop} {ma na : Nat} {p1 : Int} (hx : ∀ l : Launch, l.stackTraces = false → Ct (wC g ad sk) l yX9_number cX9_number 4 (some .int) 5 ma na [.ref (ad 0), vI p1] (cX P) (fun v B => ∃ z : Int, v = some (vI z) ∧ Res R 0 z B ∧ S z B) (fun e B => (e = eIA ∧ Res R 1 0 B) ∨ (e = eIS ∧ Res R 2 0 B))) : ∀ l : Launch, l.stackTraces = false → CtH (wH g ad sk ao) l yL_number cL_number 4 (some .int) [(0, 9, 12, 13), (0, 9, 15, 15)] 14 ma na [.ref (ad 0), vI p1, .ref ao] P (fun v P1 => ∃ k r : Int, v = some (vI k) ∧ HRes R S k r P1) := by
  intro l9 hl9
  refine ct_ofH hl9 mh_number.2.2.2.1 (Nat.le_of_ble_eq_true rfl) (fun X hX C Y => ?_)
  have CC : ∀ ws, OkH (fun t => t = tableOf [(0, 9, 12, 13), (0, 9, 15, 15)]) (wV g (KH sk) ws) X cL_number RL 4 14 ma na := fun ws => okH_ws rfl rfl rfl C
  have hst : (lnc X).stackTraces = false := by rw [hX]; exact hl9
  show E (wH g ad sk ao) X 0 0 P 0 [(0, .ref (ad 0)), (1, vI p1), (2, .ref ao)] []
  refine e_wf (fun hw => ?_)
  refine e_cv (w' := wV g (KH sk) ([oC g ao (P 0 0)] ++ wlX g ad (cX P))) (M' := M0) rfl rfl (fun _ => trivial) ?_
  refine h_aload_n (CC _) 2 dL_number_0 rfl ?_
  refine h_iconst (CC _) dL_number_1 ?_
  refine h_aload_n (CC _) 0 dL_number_2 rfl ?_
  refine h_iload_n (CC _) 1 dL_number_3 rfl ?_
  refine v_callX (g := g) (KK := KH sk) (w := wC g ad sk) (ws := [oC g ao (P 0 0)]) (M := cX P) (M9 := M0) (As := [vI p1]) (rest := [vI 0, .ref ao]) (q0 := 0) (ci := 9) (CC _) rfl rfl (fun _ _ h => h.1.1) (wC_mv g ad sk) hw mi_X9_number ms_X9_number mv_X9_number (tg3 155 rfl rfl) (hx (lnc X) hst) (wlX_st rfl) rfl (by decide) (Nat.le_of_ble_eq_true rfl) (by omega) (by omega) dL_number_4 rfl (fun v B hq hB => ?_) (h_catch (M9 := M0) (w := wC g ad sk) (ws := [oC g ao (P 0 0)]) (CC []) (fun Ec B q hq hB => ?_))
  · obtain ⟨z, e1, hR, hS9⟩ := hq
    subst e1
    refine h_i2n (CC _) dL_number_7 ?_
    refine h_last (q0 := 0) (x := nz z) (CC _) rfl dL_number_8 ?_
    refine h_goto (CC _) 18 dL_number_9 (by decide) ?_
    refine h_iconst (CC _) dL_number_18 ?_
    refine e_cv (w' := wH g ad sk ao) (M' := oP (nz z) B) rfl rfl (fun _ => hB) ?_
    exact h_iret C Y (by omega) (by omega) dL_number_19 ⟨0, z, rfl, hR, fun _ => ⟨rfl, hS9⟩, by decide⟩
  · rcases hq with ⟨rfl, hR⟩ | ⟨rfl, hR⟩
    · refine ⟨12, ⟨[], ⟨0, 9, 12, 13⟩, _, rfl, (fun z hz => absurd hz List.not_mem_nil), rfl, by decide, (tg3 153 rfl rfl), by decide, rfl⟩, ?_⟩
      refine h_astore_n (CC _) dL_number_12 (by decide) rfl ?_
      refine h_iconst (CC _) dL_number_13 ?_
      refine e_cv (w' := wH g ad sk ao) (M' := oP (P 0 0) B) rfl rfl (fun _ => hB) ?_
      exact h_iret C Y (by omega) (by omega) dL_number_14 ⟨1, 0, rfl, hR, fun h => absurd h (by decide), by decide⟩
    · refine ⟨15, ⟨[⟨0, 9, 12, 13⟩], ⟨0, 9, 15, 15⟩, _, rfl, (List.forall_mem_cons.mpr ⟨⟨by decide, eIA, (tg3 153 rfl rfl), by decide⟩, fun _ h => absurd h List.not_mem_nil⟩), rfl, by decide, (tg3 154 rfl rfl), by decide, rfl⟩, ?_⟩
      refine h_astore_n (CC _) dL_number_15 (by decide) rfl ?_
      refine h_iconst (CC _) dL_number_16 ?_
      refine e_cv (w' := wH g ad sk ao) (M' := oP (P 0 0) B) rfl rfl (fun _ => hB) ?_
      exact h_iret C Y (by omega) (by omega) dL_number_17 ⟨2, 0, rfl, hR, fun h => absurd h (by decide), by decide⟩
theorem mh_draft : MIH yL_draft cL_draft 5 (some .int) [(0, 10, 13, 21), (0, 10, 17, 13), (0, 10, 21, 15)] 4 := ⟨⟨tg4 11 rfl rfl, tg1 0 rfl rfl⟩, ⟨by decide +kernel, by decide +kernel, by decide +kernel⟩, by decide, by decide +kernel, tg4 10 rfl rfl⟩
theorem hl_draft {g : Gs} {ad : Nat → Nat} {sk : (Nat → Nat) × (Nat → Nat)} {ao : Nat} {P : Mem} {R : Int → Int → Mem → Prop} {S : Int → Mem → Prop} {ma na : Nat} {p1 p2 : Int} (hx : ∀ l : Launch, l.stackTraces = false → Ct (wC g ad sk) l yX9_draft cX9_draft 5 (some .int) 2 ma na [.ref (ad 0), vI p1, vI p2] (cX P) (fun v B => ∃ z : Int, v = some (vI z) ∧ Res R 0 z B ∧ S z B) (fun e B => (e = eIO ∧ Res R 1 0 B) ∨ (e = eIA ∧ Res R 2 0 B) ∨ (e = eIS ∧ Res R 3 0 B))) : ∀ l : Launch, l.stackTraces = false → CtH (wH g ad sk ao) l yL_draft cL_draft 5 (some .int) [(0, 10, 13, 21), (0, 10, 17, 13), (0, 10, 21, 15)] 14 ma na [.ref (ad 0), vI p1, vI p2, .ref ao] P (fun v P1 => ∃ k r : Int, v = some (vI k) ∧ HRes R S k r P1) := by
  intro l9 hl9
  refine ct_ofH hl9 mh_draft.2.2.2.1 (Nat.le_of_ble_eq_true rfl) (fun X hX C Y => ?_)
  have CC : ∀ ws, OkH (fun t => t = tableOf [(0, 10, 13, 21), (0, 10, 17, 13), (0, 10, 21, 15)]) (wV g (KH sk) ws) X cL_draft RL 5 14 ma na := fun ws => okH_ws rfl rfl rfl C
  have hst : (lnc X).stackTraces = false := by rw [hX]; exact hl9
  show E (wH g ad sk ao) X 0 0 P 0 [(0, .ref (ad 0)), (1, vI p1), (2, vI p2), (3, .ref ao)] []
  refine e_wf (fun hw => ?_)
  refine e_cv (w' := wV g (KH sk) ([oC g ao (P 0 0)] ++ wlX g ad (cX P))) (M' := M0) rfl rfl (fun _ => trivial) ?_
  refine h_aload_n (CC _) 3 dL_draft_0 rfl ?_
  refine h_iconst (CC _) dL_draft_1 ?_
  refine h_aload_n (CC _) 0 dL_draft_2 rfl ?_
  refine h_iload_n (CC _) 1 dL_draft_3 rfl ?_
  refine h_iload_n (CC _) 2 dL_draft_4 rfl ?_
  refine v_callX (g := g) (KK := KH sk) (w := wC g ad sk) (ws := [oC g ao (P 0 0)]) (M := cX P) (M9 := M0) (As := [vI p1, vI p2]) (rest := [vI 0, .ref ao]) (q0 := 0) (ci := 9) (CC _) rfl rfl (fun _ _ h => h.1.1) (wC_mv g ad sk) hw mi_X9_draft ms_X9_draft mv_X9_draft (tg4 13 rfl rfl) (hx (lnc X) hst) (wlX_st rfl) rfl (by decide) (Nat.le_of_ble_eq_true rfl) (by omega) (by omega) dL_draft_5 rfl (fun v B hq hB => ?_) (h_catch (M9 := M0) (w := wC g ad sk) (ws := [oC g ao (P 0 0)]) (CC []) (fun Ec B q hq hB => ?_))
  · obtain ⟨z, e1, hR, hS9⟩ := hq
    subst e1
    refine h_i2n (CC _) dL_draft_8 ?_
    refine h_last (q0 := 0) (x := nz z) (CC _) rfl dL_draft_9 ?_
    refine h_goto (CC _) 25 dL_draft_10 (by decide) ?_
    refine h_iconst (CC _) dL_draft_25 ?_
    refine e_cv (w' := wH g ad sk ao) (M' := oP (nz z) B) rfl rfl (fun _ => hB) ?_
    exact h_iret C Y (by omega) (by omega) dL_draft_26 ⟨0, z, rfl, hR, fun _ => ⟨rfl, hS9⟩, by decide⟩
  · rcases hq with ⟨rfl, hR⟩ | ⟨rfl, hR⟩ | ⟨rfl, hR⟩
    · refine ⟨13, ⟨[], ⟨0, 10, 13, 21⟩, _, rfl, (fun z hz => absurd hz List.not_mem_nil), rfl, by decide, (tg4 12 rfl rfl), by decide, rfl⟩, ?_⟩
      refine h_astore (CC _) dL_draft_13 (by decide) rfl ?_
      refine h_iconst (CC _) dL_draft_15 ?_
      refine e_cv (w' := wH g ad sk ao) (M' := oP (P 0 0) B) rfl rfl (fun _ => hB) ?_
      exact h_iret C Y (by omega) (by omega) dL_draft_16 ⟨1, 0, rfl, hR, fun h => absurd h (by decide), by decide⟩
    · refine ⟨17, ⟨[⟨0, 10, 13, 21⟩], ⟨0, 10, 17, 13⟩, _, rfl, (List.forall_mem_cons.mpr ⟨⟨by decide, eIO, (tg4 12 rfl rfl), by decide⟩, fun _ h => absurd h List.not_mem_nil⟩), rfl, by decide, (tg3 153 rfl rfl), by decide, rfl⟩, ?_⟩
      refine h_astore (CC _) dL_draft_17 (by decide) rfl ?_
      refine h_iconst (CC _) dL_draft_19 ?_
      refine e_cv (w' := wH g ad sk ao) (M' := oP (P 0 0) B) rfl rfl (fun _ => hB) ?_
      exact h_iret C Y (by omega) (by omega) dL_draft_20 ⟨2, 0, rfl, hR, fun h => absurd h (by decide), by decide⟩
    · refine ⟨21, ⟨[⟨0, 10, 13, 21⟩, ⟨0, 10, 17, 13⟩], ⟨0, 10, 21, 15⟩, _, rfl, (List.forall_mem_cons.mpr ⟨⟨by decide, eIO, (tg4 12 rfl rfl), by decide⟩, List.forall_mem_cons.mpr ⟨⟨by decide, eIA, (tg3 153 rfl rfl), by decide⟩, fun _ h => absurd h List.not_mem_nil⟩⟩), rfl, by decide, (tg3 154 rfl rfl), by decide, rfl⟩, ?_⟩
      refine h_astore (CC _) dL_draft_21 (by decide) rfl ?_
      refine h_iconst (CC _) dL_draft_23 ?_
      refine e_cv (w' := wH g ad sk ao) (M' := oP (P 0 0) B) rfl rfl (fun _ => hB) ?_
      exact h_iret C Y (by omega) (by omega) dL_draft_24 ⟨3, 0, rfl, hR, fun h => absurd h (by decide), by decide⟩
theorem mh_make : MIH yL_make cL_make 3 (some .int) [(0, 8, 11, 15)] 2 := ⟨⟨tg4 44 rfl rfl, tg1 0 rfl rfl⟩, ⟨by decide +kernel, by decide +kernel, by decide +kernel⟩, by decide, by decide +kernel, tg4 43 rfl rfl⟩
theorem hl_make {g : Gs} {ad : Nat → Nat} {sk : (Nat → Nat) × (Nat → Nat)} {ao : Nat} {P : Mem} {R : Int → Int → Mem → Prop} {S : Int → Mem → Prop} {ma na : Nat} (hx : ∀ l : Launch, l.stackTraces = false → Ct (wC g ad sk) l yX9_make cX9_make 3 (some .int) 5 ma na [.ref (ad 0)] (cX P) (fun v B => ∃ z : Int, v = some (vI z) ∧ Res R 0 z B ∧ S z B) (fun e B => e = eIS ∧ Res R 1 0 B)) : ∀ l : Launch, l.stackTraces = false → CtH (wH g ad sk ao) l yL_make cL_make 3 (some .int) [(0, 8, 11, 15)] 14 ma na [.ref (ad 0), .ref ao] P (fun v P1 => ∃ k r : Int, v = some (vI k) ∧ HRes R S k r P1) := by
  intro l9 hl9
  refine ct_ofH hl9 mh_make.2.2.2.1 (Nat.le_of_ble_eq_true rfl) (fun X hX C Y => ?_)
  have CC : ∀ ws, OkH (fun t => t = tableOf [(0, 8, 11, 15)]) (wV g (KH sk) ws) X cL_make RL 3 14 ma na := fun ws => okH_ws rfl rfl rfl C
  have hst : (lnc X).stackTraces = false := by rw [hX]; exact hl9
  show E (wH g ad sk ao) X 0 0 P 0 [(0, .ref (ad 0)), (1, .ref ao)] []
  refine e_wf (fun hw => ?_)
  refine e_cv (w' := wV g (KH sk) ([oC g ao (P 0 0)] ++ wlX g ad (cX P))) (M' := M0) rfl rfl (fun _ => trivial) ?_
  refine h_aload_n (CC _) 1 dL_make_0 rfl ?_
  refine h_iconst (CC _) dL_make_1 ?_
  refine h_aload_n (CC _) 0 dL_make_2 rfl ?_
  refine v_callX (g := g) (KK := KH sk) (w := wC g ad sk) (ws := [oC g ao (P 0 0)]) (M := cX P) (M9 := M0) (As := []) (rest := [vI 0, .ref ao]) (q0 := 0) (ci := 9) (CC _) rfl rfl (fun _ _ h => h.1.1) (wC_mv g ad sk) hw mi_X9_make ms_X9_make mv_X9_make (tg4 45 rfl rfl) (hx (lnc X) hst) (wlX_st rfl) rfl (by decide) (Nat.le_of_ble_eq_true rfl) (by omega) (by omega) dL_make_3 rfl (fun v B hq hB => ?_) (h_catch (M9 := M0) (w := wC g ad sk) (ws := [oC g ao (P 0 0)]) (CC []) (fun Ec B q hq hB => ?_))
  · obtain ⟨z, e1, hR, hS9⟩ := hq
    subst e1
    refine h_i2n (CC _) dL_make_6 ?_
    refine h_last (q0 := 0) (x := nz z) (CC _) rfl dL_make_7 ?_
    refine h_goto (CC _) 14 dL_make_8 (by decide) ?_
    refine h_iconst (CC _) dL_make_14 ?_
    refine e_cv (w' := wH g ad sk ao) (M' := oP (nz z) B) rfl rfl (fun _ => hB) ?_
    exact h_iret C Y (by omega) (by omega) dL_make_15 ⟨0, z, rfl, hR, fun _ => ⟨rfl, hS9⟩, by decide⟩
  · obtain ⟨rfl, hR⟩ := hq
    refine ⟨11, ⟨[], ⟨0, 8, 11, 15⟩, _, rfl, (fun z hz => absurd hz List.not_mem_nil), rfl, by decide, (tg3 154 rfl rfl), by decide, rfl⟩, ?_⟩
    refine h_astore_n (CC _) dL_make_11 (by decide) rfl ?_
    refine h_iconst (CC _) dL_make_12 ?_
    refine e_cv (w' := wH g ad sk ao) (M' := oP (P 0 0) B) rfl rfl (fun _ => hB) ?_
    exact h_iret C Y (by omega) (by omega) dL_make_13 ⟨1, 0, rfl, hR, fun h => absurd h (by decide), by decide⟩
theorem mh_negative : MIH yL_negative cL_negative 4 (some .int) [(0, 9, 12, 21), (0, 9, 15, 15)] 3 := ⟨⟨tg4 52 rfl rfl, tg1 0 rfl rfl⟩, ⟨by decide +kernel, by decide +kernel, by decide +kernel⟩, by decide, by decide +kernel, tg4 51 rfl rfl⟩
theorem hl_negative {g : Gs} {ad : Nat → Nat} {sk : (Nat → Nat) × (Nat → Nat)} {ao : Nat} {P : Mem} {R : Int → Int → Mem → Prop} {S : Int → Mem → Prop} {ma na : Nat} {p1 : Int} (hx : ∀ l : Launch, l.stackTraces = false → Ct (wC g ad sk) l yX9_negative cX9_negative 4 (some .int) 7 ma na [.ref (ad 0), vI p1] (cX P) (fun v B => ∃ z : Int, v = some (vI z) ∧ Res R 0 z B ∧ S z B) (fun e B => (e = eIO ∧ Res R 1 0 B) ∨ (e = eIS ∧ Res R 2 0 B))) : ∀ l : Launch, l.stackTraces = false → CtH (wH g ad sk ao) l yL_negative cL_negative 4 (some .int) [(0, 9, 12, 21), (0, 9, 15, 15)] 14 ma na [.ref (ad 0), vI p1, .ref ao] P (fun v P1 => ∃ k r : Int, v = some (vI k) ∧ HRes R S k r P1) := by
  intro l9 hl9
  refine ct_ofH hl9 mh_negative.2.2.2.1 (Nat.le_of_ble_eq_true rfl) (fun X hX C Y => ?_)
  have CC : ∀ ws, OkH (fun t => t = tableOf [(0, 9, 12, 21), (0, 9, 15, 15)]) (wV g (KH sk) ws) X cL_negative RL 4 14 ma na := fun ws => okH_ws rfl rfl rfl C
  have hst : (lnc X).stackTraces = false := by rw [hX]; exact hl9
  show E (wH g ad sk ao) X 0 0 P 0 [(0, .ref (ad 0)), (1, vI p1), (2, .ref ao)] []
  refine e_wf (fun hw => ?_)
  refine e_cv (w' := wV g (KH sk) ([oC g ao (P 0 0)] ++ wlX g ad (cX P))) (M' := M0) rfl rfl (fun _ => trivial) ?_
  refine h_aload_n (CC _) 2 dL_negative_0 rfl ?_
  refine h_iconst (CC _) dL_negative_1 ?_
  refine h_aload_n (CC _) 0 dL_negative_2 rfl ?_
  refine h_iload_n (CC _) 1 dL_negative_3 rfl ?_
  refine v_callX (g := g) (KK := KH sk) (w := wC g ad sk) (ws := [oC g ao (P 0 0)]) (M := cX P) (M9 := M0) (As := [vI p1]) (rest := [vI 0, .ref ao]) (q0 := 0) (ci := 9) (CC _) rfl rfl (fun _ _ h => h.1.1) (wC_mv g ad sk) hw mi_X9_negative ms_X9_negative mv_X9_negative (tg4 53 rfl rfl) (hx (lnc X) hst) (wlX_st rfl) rfl (by decide) (Nat.le_of_ble_eq_true rfl) (by omega) (by omega) dL_negative_4 rfl (fun v B hq hB => ?_) (h_catch (M9 := M0) (w := wC g ad sk) (ws := [oC g ao (P 0 0)]) (CC []) (fun Ec B q hq hB => ?_))
  · obtain ⟨z, e1, hR, hS9⟩ := hq
    subst e1
    refine h_i2n (CC _) dL_negative_7 ?_
    refine h_last (q0 := 0) (x := nz z) (CC _) rfl dL_negative_8 ?_
    refine h_goto (CC _) 18 dL_negative_9 (by decide) ?_
    refine h_iconst (CC _) dL_negative_18 ?_
    refine e_cv (w' := wH g ad sk ao) (M' := oP (nz z) B) rfl rfl (fun _ => hB) ?_
    exact h_iret C Y (by omega) (by omega) dL_negative_19 ⟨0, z, rfl, hR, fun _ => ⟨rfl, hS9⟩, by decide⟩
  · rcases hq with ⟨rfl, hR⟩ | ⟨rfl, hR⟩
    · refine ⟨12, ⟨[], ⟨0, 9, 12, 21⟩, _, rfl, (fun z hz => absurd hz List.not_mem_nil), rfl, by decide, (tg4 12 rfl rfl), by decide, rfl⟩, ?_⟩
      refine h_astore_n (CC _) dL_negative_12 (by decide) rfl ?_
      refine h_iconst (CC _) dL_negative_13 ?_
      refine e_cv (w' := wH g ad sk ao) (M' := oP (P 0 0) B) rfl rfl (fun _ => hB) ?_
      exact h_iret C Y (by omega) (by omega) dL_negative_14 ⟨1, 0, rfl, hR, fun h => absurd h (by decide), by decide⟩
    · refine ⟨15, ⟨[⟨0, 9, 12, 21⟩], ⟨0, 9, 15, 15⟩, _, rfl, (List.forall_mem_cons.mpr ⟨⟨by decide, eIO, (tg4 12 rfl rfl), by decide⟩, fun _ h => absurd h List.not_mem_nil⟩), rfl, by decide, (tg3 154 rfl rfl), by decide, rfl⟩, ?_⟩
      refine h_astore_n (CC _) dL_negative_15 (by decide) rfl ?_
      refine h_iconst (CC _) dL_negative_16 ?_
      refine e_cv (w' := wH g ad sk ao) (M' := oP (P 0 0) B) rfl rfl (fun _ => hB) ?_
      exact h_iret C Y (by omega) (by omega) dL_negative_17 ⟨2, 0, rfl, hR, fun h => absurd h (by decide), by decide⟩
theorem mh_options : MIH yL_options cL_options 5 (some .int) [(0, 10, 13, 21), (0, 10, 17, 13)] 4 := ⟨⟨tg4 77 rfl rfl, tg1 0 rfl rfl⟩, ⟨by decide +kernel, by decide +kernel, by decide +kernel⟩, by decide, by decide +kernel, tg4 76 rfl rfl⟩
theorem hl_options {g : Gs} {ad : Nat → Nat} {sk : (Nat → Nat) × (Nat → Nat)} {ao : Nat} {P : Mem} {R : Int → Int → Mem → Prop} {S : Int → Mem → Prop} {ma na : Nat} {p1 p2 : Int} (hx : ∀ l : Launch, l.stackTraces = false → Ct (wC g ad sk) l yX9_options cX9_options 3 (some .int) 2 ma na [.ref (ad 0), vI p1, vI p2] (cX P) (fun v B => ∃ z : Int, v = some (vI z) ∧ Res R 0 z B ∧ S z B) (fun e B => (e = eIO ∧ Res R 1 0 B) ∨ (e = eIA ∧ Res R 2 0 B))) : ∀ l : Launch, l.stackTraces = false → CtH (wH g ad sk ao) l yL_options cL_options 5 (some .int) [(0, 10, 13, 21), (0, 10, 17, 13)] 14 ma na [.ref (ad 0), vI p1, vI p2, .ref ao] P (fun v P1 => ∃ k r : Int, v = some (vI k) ∧ HRes R S k r P1) := by
  intro l9 hl9
  refine ct_ofH hl9 mh_options.2.2.2.1 (Nat.le_of_ble_eq_true rfl) (fun X hX C Y => ?_)
  have CC : ∀ ws, OkH (fun t => t = tableOf [(0, 10, 13, 21), (0, 10, 17, 13)]) (wV g (KH sk) ws) X cL_options RL 5 14 ma na := fun ws => okH_ws rfl rfl rfl C
  have hst : (lnc X).stackTraces = false := by rw [hX]; exact hl9
  show E (wH g ad sk ao) X 0 0 P 0 [(0, .ref (ad 0)), (1, vI p1), (2, vI p2), (3, .ref ao)] []
  refine e_wf (fun hw => ?_)
  refine e_cv (w' := wV g (KH sk) ([oC g ao (P 0 0)] ++ wlX g ad (cX P))) (M' := M0) rfl rfl (fun _ => trivial) ?_
  refine h_aload_n (CC _) 3 dL_options_0 rfl ?_
  refine h_iconst (CC _) dL_options_1 ?_
  refine h_aload_n (CC _) 0 dL_options_2 rfl ?_
  refine h_iload_n (CC _) 1 dL_options_3 rfl ?_
  refine h_iload_n (CC _) 2 dL_options_4 rfl ?_
  refine v_callX (g := g) (KK := KH sk) (w := wC g ad sk) (ws := [oC g ao (P 0 0)]) (M := cX P) (M9 := M0) (As := [vI p1, vI p2]) (rest := [vI 0, .ref ao]) (q0 := 0) (ci := 9) (CC _) rfl rfl (fun _ _ h => h.1.1) (wC_mv g ad sk) hw mi_X9_options ms_X9_options mv_X9_options (tg4 78 rfl rfl) (hx (lnc X) hst) (wlX_st rfl) rfl (by decide) (Nat.le_of_ble_eq_true rfl) (by omega) (by omega) dL_options_5 rfl (fun v B hq hB => ?_) (h_catch (M9 := M0) (w := wC g ad sk) (ws := [oC g ao (P 0 0)]) (CC []) (fun Ec B q hq hB => ?_))
  · obtain ⟨z, e1, hR, hS9⟩ := hq
    subst e1
    refine h_i2n (CC _) dL_options_8 ?_
    refine h_last (q0 := 0) (x := nz z) (CC _) rfl dL_options_9 ?_
    refine h_goto (CC _) 21 dL_options_10 (by decide) ?_
    refine h_iconst (CC _) dL_options_21 ?_
    refine e_cv (w' := wH g ad sk ao) (M' := oP (nz z) B) rfl rfl (fun _ => hB) ?_
    exact h_iret C Y (by omega) (by omega) dL_options_22 ⟨0, z, rfl, hR, fun _ => ⟨rfl, hS9⟩, by decide⟩
  · rcases hq with ⟨rfl, hR⟩ | ⟨rfl, hR⟩
    · refine ⟨13, ⟨[], ⟨0, 10, 13, 21⟩, _, rfl, (fun z hz => absurd hz List.not_mem_nil), rfl, by decide, (tg4 12 rfl rfl), by decide, rfl⟩, ?_⟩
      refine h_astore (CC _) dL_options_13 (by decide) rfl ?_
      refine h_iconst (CC _) dL_options_15 ?_
      refine e_cv (w' := wH g ad sk ao) (M' := oP (P 0 0) B) rfl rfl (fun _ => hB) ?_
      exact h_iret C Y (by omega) (by omega) dL_options_16 ⟨1, 0, rfl, hR, fun h => absurd h (by decide), by decide⟩
    · refine ⟨17, ⟨[⟨0, 10, 13, 21⟩], ⟨0, 10, 17, 13⟩, _, rfl, (List.forall_mem_cons.mpr ⟨⟨by decide, eIO, (tg4 12 rfl rfl), by decide⟩, fun _ h => absurd h List.not_mem_nil⟩), rfl, by decide, (tg3 153 rfl rfl), by decide, rfl⟩, ?_⟩
      refine h_astore (CC _) dL_options_17 (by decide) rfl ?_
      refine h_iconst (CC _) dL_options_19 ?_
      refine e_cv (w' := wH g ad sk ao) (M' := oP (P 0 0) B) rfl rfl (fun _ => hB) ?_
      exact h_iret C Y (by omega) (by omega) dL_options_20 ⟨2, 0, rfl, hR, fun h => absurd h (by decide), by decide⟩
theorem mh_option : MIH yL_option cL_option 6 (some .int) [(0, 12, 15, 21), (0, 12, 19, 13)] 5 := ⟨⟨tg4 84 rfl rfl, tg1 0 rfl rfl⟩, ⟨by decide +kernel, by decide +kernel, by decide +kernel⟩, by decide, by decide +kernel, tg4 83 rfl rfl⟩
theorem hl_option {g : Gs} {ad : Nat → Nat} {sk : (Nat → Nat) × (Nat → Nat)} {ao : Nat} {P : Mem} {R : Int → Int → Mem → Prop} {S : Int → Mem → Prop} {ma na : Nat} {p1 p2 p3 : Int} (hx : ∀ l : Launch, l.stackTraces = false → Ct (wC g ad sk) l yX9_option cX9_option 4 (some .int) 2 ma na [.ref (ad 0), vI p1, vI p2, vI p3] (cX P) (fun v B => ∃ z : Int, v = some (vI z) ∧ Res R 0 z B ∧ S z B) (fun e B => (e = eIO ∧ Res R 1 0 B) ∨ (e = eIA ∧ Res R 2 0 B))) : ∀ l : Launch, l.stackTraces = false → CtH (wH g ad sk ao) l yL_option cL_option 6 (some .int) [(0, 12, 15, 21), (0, 12, 19, 13)] 14 ma na [.ref (ad 0), vI p1, vI p2, vI p3, .ref ao] P (fun v P1 => ∃ k r : Int, v = some (vI k) ∧ HRes R S k r P1) := by
  intro l9 hl9
  refine ct_ofH hl9 mh_option.2.2.2.1 (Nat.le_of_ble_eq_true rfl) (fun X hX C Y => ?_)
  have CC : ∀ ws, OkH (fun t => t = tableOf [(0, 12, 15, 21), (0, 12, 19, 13)]) (wV g (KH sk) ws) X cL_option RL 6 14 ma na := fun ws => okH_ws rfl rfl rfl C
  have hst : (lnc X).stackTraces = false := by rw [hX]; exact hl9
  show E (wH g ad sk ao) X 0 0 P 0 [(0, .ref (ad 0)), (1, vI p1), (2, vI p2), (3, vI p3), (4, .ref ao)] []
  refine e_wf (fun hw => ?_)
  refine e_cv (w' := wV g (KH sk) ([oC g ao (P 0 0)] ++ wlX g ad (cX P))) (M' := M0) rfl rfl (fun _ => trivial) ?_
  refine h_aload (CC _) 4 dL_option_0 rfl ?_
  refine h_iconst (CC _) dL_option_2 ?_
  refine h_aload_n (CC _) 0 dL_option_3 rfl ?_
  refine h_iload_n (CC _) 1 dL_option_4 rfl ?_
  refine h_iload_n (CC _) 2 dL_option_5 rfl ?_
  refine h_iload_n (CC _) 3 dL_option_6 rfl ?_
  refine v_callX (g := g) (KK := KH sk) (w := wC g ad sk) (ws := [oC g ao (P 0 0)]) (M := cX P) (M9 := M0) (As := [vI p1, vI p2, vI p3]) (rest := [vI 0, .ref ao]) (q0 := 0) (ci := 9) (CC _) rfl rfl (fun _ _ h => h.1.1) (wC_mv g ad sk) hw mi_X9_option ms_X9_option mv_X9_option (tg4 85 rfl rfl) (hx (lnc X) hst) (wlX_st rfl) rfl (by decide) (Nat.le_of_ble_eq_true rfl) (by omega) (by omega) dL_option_7 rfl (fun v B hq hB => ?_) (h_catch (M9 := M0) (w := wC g ad sk) (ws := [oC g ao (P 0 0)]) (CC []) (fun Ec B q hq hB => ?_))
  · obtain ⟨z, e1, hR, hS9⟩ := hq
    subst e1
    refine h_i2n (CC _) dL_option_10 ?_
    refine h_last (q0 := 0) (x := nz z) (CC _) rfl dL_option_11 ?_
    refine h_goto (CC _) 23 dL_option_12 (by decide) ?_
    refine h_iconst (CC _) dL_option_23 ?_
    refine e_cv (w' := wH g ad sk ao) (M' := oP (nz z) B) rfl rfl (fun _ => hB) ?_
    exact h_iret C Y (by omega) (by omega) dL_option_24 ⟨0, z, rfl, hR, fun _ => ⟨rfl, hS9⟩, by decide⟩
  · rcases hq with ⟨rfl, hR⟩ | ⟨rfl, hR⟩
    · refine ⟨15, ⟨[], ⟨0, 12, 15, 21⟩, _, rfl, (fun z hz => absurd hz List.not_mem_nil), rfl, by decide, (tg4 12 rfl rfl), by decide, rfl⟩, ?_⟩
      refine h_astore (CC _) dL_option_15 (by decide) rfl ?_
      refine h_iconst (CC _) dL_option_17 ?_
      refine e_cv (w' := wH g ad sk ao) (M' := oP (P 0 0) B) rfl rfl (fun _ => hB) ?_
      exact h_iret C Y (by omega) (by omega) dL_option_18 ⟨1, 0, rfl, hR, fun h => absurd h (by decide), by decide⟩
    · refine ⟨19, ⟨[⟨0, 12, 15, 21⟩], ⟨0, 12, 19, 13⟩, _, rfl, (List.forall_mem_cons.mpr ⟨⟨by decide, eIO, (tg4 12 rfl rfl), by decide⟩, fun _ h => absurd h List.not_mem_nil⟩), rfl, by decide, (tg3 153 rfl rfl), by decide, rfl⟩, ?_⟩
      refine h_astore (CC _) dL_option_19 (by decide) rfl ?_
      refine h_iconst (CC _) dL_option_21 ?_
      refine e_cv (w' := wH g ad sk ao) (M' := oP (P 0 0) B) rfl rfl (fun _ => hB) ?_
      exact h_iret C Y (by omega) (by omega) dL_option_22 ⟨2, 0, rfl, hR, fun h => absurd h (by decide), by decide⟩
theorem mh_depth : MIH yL_depth cL_depth 4 (some .int) [(0, 9, 12, 21)] 3 := ⟨⟨tg4 91 rfl rfl, tg1 0 rfl rfl⟩, ⟨by decide +kernel, by decide +kernel, by decide +kernel⟩, by decide, by decide +kernel, tg4 90 rfl rfl⟩
theorem hl_depth {g : Gs} {ad : Nat → Nat} {sk : (Nat → Nat) × (Nat → Nat)} {ao : Nat} {P : Mem} {R : Int → Int → Mem → Prop} {S : Int → Mem → Prop} {ma na : Nat} {p1 : Int} (hx : ∀ l : Launch, l.stackTraces = false → Ct (wC g ad sk) l yX9_depth cX9_depth 2 (some .int) 2 ma na [.ref (ad 0), vI p1] (cX P) (fun v B => ∃ z : Int, v = some (vI z) ∧ Res R 0 z B ∧ S z B) (fun e B => e = eIO ∧ Res R 1 0 B)) : ∀ l : Launch, l.stackTraces = false → CtH (wH g ad sk ao) l yL_depth cL_depth 4 (some .int) [(0, 9, 12, 21)] 14 ma na [.ref (ad 0), vI p1, .ref ao] P (fun v P1 => ∃ k r : Int, v = some (vI k) ∧ HRes R S k r P1) := by
  intro l9 hl9
  refine ct_ofH hl9 mh_depth.2.2.2.1 (Nat.le_of_ble_eq_true rfl) (fun X hX C Y => ?_)
  have CC : ∀ ws, OkH (fun t => t = tableOf [(0, 9, 12, 21)]) (wV g (KH sk) ws) X cL_depth RL 4 14 ma na := fun ws => okH_ws rfl rfl rfl C
  have hst : (lnc X).stackTraces = false := by rw [hX]; exact hl9
  show E (wH g ad sk ao) X 0 0 P 0 [(0, .ref (ad 0)), (1, vI p1), (2, .ref ao)] []
  refine e_wf (fun hw => ?_)
  refine e_cv (w' := wV g (KH sk) ([oC g ao (P 0 0)] ++ wlX g ad (cX P))) (M' := M0) rfl rfl (fun _ => trivial) ?_
  refine h_aload_n (CC _) 2 dL_depth_0 rfl ?_
  refine h_iconst (CC _) dL_depth_1 ?_
  refine h_aload_n (CC _) 0 dL_depth_2 rfl ?_
  refine h_iload_n (CC _) 1 dL_depth_3 rfl ?_
  refine v_callX (g := g) (KK := KH sk) (w := wC g ad sk) (ws := [oC g ao (P 0 0)]) (M := cX P) (M9 := M0) (As := [vI p1]) (rest := [vI 0, .ref ao]) (q0 := 0) (ci := 9) (CC _) rfl rfl (fun _ _ h => h.1.1) (wC_mv g ad sk) hw mi_X9_depth ms_X9_depth mv_X9_depth (tg4 92 rfl rfl) (hx (lnc X) hst) (wlX_st rfl) rfl (by decide) (Nat.le_of_ble_eq_true rfl) (by omega) (by omega) dL_depth_4 rfl (fun v B hq hB => ?_) (h_catch (M9 := M0) (w := wC g ad sk) (ws := [oC g ao (P 0 0)]) (CC []) (fun Ec B q hq hB => ?_))
  · obtain ⟨z, e1, hR, hS9⟩ := hq
    subst e1
    refine h_i2n (CC _) dL_depth_7 ?_
    refine h_last (q0 := 0) (x := nz z) (CC _) rfl dL_depth_8 ?_
    refine h_goto (CC _) 15 dL_depth_9 (by decide) ?_
    refine h_iconst (CC _) dL_depth_15 ?_
    refine e_cv (w' := wH g ad sk ao) (M' := oP (nz z) B) rfl rfl (fun _ => hB) ?_
    exact h_iret C Y (by omega) (by omega) dL_depth_16 ⟨0, z, rfl, hR, fun _ => ⟨rfl, hS9⟩, by decide⟩
  · obtain ⟨rfl, hR⟩ := hq
    refine ⟨12, ⟨[], ⟨0, 9, 12, 21⟩, _, rfl, (fun z hz => absurd hz List.not_mem_nil), rfl, by decide, (tg4 12 rfl rfl), by decide, rfl⟩, ?_⟩
    refine h_astore_n (CC _) dL_depth_12 (by decide) rfl ?_
    refine h_iconst (CC _) dL_depth_13 ?_
    refine e_cv (w' := wH g ad sk ao) (M' := oP (P 0 0) B) rfl rfl (fun _ => hB) ?_
    exact h_iret C Y (by omega) (by omega) dL_depth_14 ⟨1, 0, rfl, hR, fun h => absurd h (by decide), by decide⟩
theorem mh_compare : MIH yL_compare cL_compare 5 (some .int) [(0, 10, 13, 21)] 4 := ⟨⟨tg4 98 rfl rfl, tg1 0 rfl rfl⟩, ⟨by decide +kernel, by decide +kernel, by decide +kernel⟩, by decide, by decide +kernel, tg4 97 rfl rfl⟩
theorem hl_compare {g : Gs} {ad : Nat → Nat} {sk : (Nat → Nat) × (Nat → Nat)} {ao : Nat} {P : Mem} {R : Int → Int → Mem → Prop} {S : Int → Mem → Prop} {ma na : Nat} {p1 p2 : Int} (hx : ∀ l : Launch, l.stackTraces = false → Ct (wC g ad sk) l yX9_compare cX9_compare 5 (some .int) 2 ma na [.ref (ad 0), vI p1, vI p2] (cX P) (fun v B => ∃ z : Int, v = some (vI z) ∧ Res R 0 z B ∧ S z B) (fun e B => e = eIO ∧ Res R 1 0 B)) : ∀ l : Launch, l.stackTraces = false → CtH (wH g ad sk ao) l yL_compare cL_compare 5 (some .int) [(0, 10, 13, 21)] 14 ma na [.ref (ad 0), vI p1, vI p2, .ref ao] P (fun v P1 => ∃ k r : Int, v = some (vI k) ∧ HRes R S k r P1) := by
  intro l9 hl9
  refine ct_ofH hl9 mh_compare.2.2.2.1 (Nat.le_of_ble_eq_true rfl) (fun X hX C Y => ?_)
  have CC : ∀ ws, OkH (fun t => t = tableOf [(0, 10, 13, 21)]) (wV g (KH sk) ws) X cL_compare RL 5 14 ma na := fun ws => okH_ws rfl rfl rfl C
  have hst : (lnc X).stackTraces = false := by rw [hX]; exact hl9
  show E (wH g ad sk ao) X 0 0 P 0 [(0, .ref (ad 0)), (1, vI p1), (2, vI p2), (3, .ref ao)] []
  refine e_wf (fun hw => ?_)
  refine e_cv (w' := wV g (KH sk) ([oC g ao (P 0 0)] ++ wlX g ad (cX P))) (M' := M0) rfl rfl (fun _ => trivial) ?_
  refine h_aload_n (CC _) 3 dL_compare_0 rfl ?_
  refine h_iconst (CC _) dL_compare_1 ?_
  refine h_aload_n (CC _) 0 dL_compare_2 rfl ?_
  refine h_iload_n (CC _) 1 dL_compare_3 rfl ?_
  refine h_iload_n (CC _) 2 dL_compare_4 rfl ?_
  refine v_callX (g := g) (KK := KH sk) (w := wC g ad sk) (ws := [oC g ao (P 0 0)]) (M := cX P) (M9 := M0) (As := [vI p1, vI p2]) (rest := [vI 0, .ref ao]) (q0 := 0) (ci := 9) (CC _) rfl rfl (fun _ _ h => h.1.1) (wC_mv g ad sk) hw mi_X9_compare ms_X9_compare mv_X9_compare (tg4 99 rfl rfl) (hx (lnc X) hst) (wlX_st rfl) rfl (by decide) (Nat.le_of_ble_eq_true rfl) (by omega) (by omega) dL_compare_5 rfl (fun v B hq hB => ?_) (h_catch (M9 := M0) (w := wC g ad sk) (ws := [oC g ao (P 0 0)]) (CC []) (fun Ec B q hq hB => ?_))
  · obtain ⟨z, e1, hR, hS9⟩ := hq
    subst e1
    refine h_i2n (CC _) dL_compare_8 ?_
    refine h_last (q0 := 0) (x := nz z) (CC _) rfl dL_compare_9 ?_
    refine h_goto (CC _) 17 dL_compare_10 (by decide) ?_
    refine h_iconst (CC _) dL_compare_17 ?_
    refine e_cv (w' := wH g ad sk ao) (M' := oP (nz z) B) rfl rfl (fun _ => hB) ?_
    exact h_iret C Y (by omega) (by omega) dL_compare_18 ⟨0, z, rfl, hR, fun _ => ⟨rfl, hS9⟩, by decide⟩
  · obtain ⟨rfl, hR⟩ := hq
    refine ⟨13, ⟨[], ⟨0, 10, 13, 21⟩, _, rfl, (fun z hz => absurd hz List.not_mem_nil), rfl, by decide, (tg4 12 rfl rfl), by decide, rfl⟩, ?_⟩
    refine h_astore (CC _) dL_compare_13 (by decide) rfl ?_
    refine h_iconst (CC _) dL_compare_15 ?_
    refine e_cv (w' := wH g ad sk ao) (M' := oP (P 0 0) B) rfl rfl (fun _ => hB) ?_
    exact h_iret C Y (by omega) (by omega) dL_compare_16 ⟨1, 0, rfl, hR, fun h => absurd h (by decide), by decide⟩
theorem mh_isCold : MIH yL_isCold cL_isCold 4 (some .int) [(0, 16, 19, 21)] 3 := ⟨⟨tg4 106 rfl rfl, tg1 0 rfl rfl⟩, ⟨by decide +kernel, by decide +kernel, by decide +kernel⟩, by decide, by decide +kernel, tg4 105 rfl rfl⟩
theorem hl_isCold {g : Gs} {ad : Nat → Nat} {sk : (Nat → Nat) × (Nat → Nat)} {ao : Nat} {P : Mem} {R : Int → Int → Mem → Prop} {S : Int → Mem → Prop} {ma na : Nat} {p1 : Int} (hS : ∀ z B, S z B → z = 0 ∨ z = 1) (hx : ∀ l : Launch, l.stackTraces = false → Ct (wC g ad sk) l yX9_isCold cX9_isCold 2 (some .boolean) 2 ma na [.ref (ad 0), vI p1] (cX P) (fun v B => ∃ z : Int, v = some (vI z) ∧ Res R 0 z B ∧ S z B) (fun e B => e = eIO ∧ Res R 1 0 B)) : ∀ l : Launch, l.stackTraces = false → CtH (wH g ad sk ao) l yL_isCold cL_isCold 4 (some .int) [(0, 16, 19, 21)] 14 ma na [.ref (ad 0), vI p1, .ref ao] P (fun v P1 => ∃ k r : Int, v = some (vI k) ∧ HRes R S k r P1) := by
  intro l9 hl9
  refine ct_ofH hl9 mh_isCold.2.2.2.1 (Nat.le_of_ble_eq_true rfl) (fun X hX C Y => ?_)
  have CC : ∀ ws, OkH (fun t => t = tableOf [(0, 16, 19, 21)]) (wV g (KH sk) ws) X cL_isCold RL 4 14 ma na := fun ws => okH_ws rfl rfl rfl C
  have hst : (lnc X).stackTraces = false := by rw [hX]; exact hl9
  show E (wH g ad sk ao) X 0 0 P 0 [(0, .ref (ad 0)), (1, vI p1), (2, .ref ao)] []
  refine e_wf (fun hw => ?_)
  refine e_cv (w' := wV g (KH sk) ([oC g ao (P 0 0)] ++ wlX g ad (cX P))) (M' := M0) rfl rfl (fun _ => trivial) ?_
  refine h_aload_n (CC _) 2 dL_isCold_0 rfl ?_
  refine h_iconst (CC _) dL_isCold_1 ?_
  refine h_aload_n (CC _) 0 dL_isCold_2 rfl ?_
  refine h_iload_n (CC _) 1 dL_isCold_3 rfl ?_
  refine v_callX (g := g) (KK := KH sk) (w := wC g ad sk) (ws := [oC g ao (P 0 0)]) (M := cX P) (M9 := M0) (As := [vI p1]) (rest := [vI 0, .ref ao]) (q0 := 0) (ci := 9) (CC _) rfl rfl (fun _ _ h => h.1.1) (wC_mv g ad sk) hw mi_X9_isCold ms_X9_isCold mv_X9_isCold (tg4 107 rfl rfl) (hx (lnc X) hst) (wlX_st rfl) rfl (by decide) (Nat.le_of_ble_eq_true rfl) (by omega) (by omega) dL_isCold_4 rfl (fun v B hq hB => ?_) (h_catch (M9 := M0) (w := wC g ad sk) (ws := [oC g ao (P 0 0)]) (CC []) (fun Ec B q hq hB => ?_))
  · obtain ⟨z, e1, hR, hS9⟩ := hq
    subst e1
    rcases hS z B hS9 with rfl | rfl
    · refine h_if_eq (CC _) 14 (by decide) dL_isCold_7 (by decide) (fun _ => ?_) (fun h => absurd rfl h)
      refine h_lconst0 (CC _) dL_isCold_14 ?_
      refine h_last (q0 := 0) (x := 0) (CC _) rfl dL_isCold_15 ?_
      refine h_goto (CC _) 22 dL_isCold_16 (by decide) ?_
      refine h_iconst (CC _) dL_isCold_22 ?_
      refine e_cv (w' := wH g ad sk ao) (M' := oP (0) B) rfl rfl (fun _ => hB) ?_
      exact h_iret C Y (by omega) (by omega) dL_isCold_23 ⟨0, 0, rfl, hR, fun _ => ⟨rfl, hS9⟩, by decide⟩
    · refine h_if_eq (CC _) 14 (by decide) dL_isCold_7 (by decide) (fun h => absurd h (by decide)) (fun _ => ?_)
      refine h_lconst1 (CC _) dL_isCold_10 ?_
      refine h_goto (CC _) 15 dL_isCold_11 (by decide) ?_
      refine h_last (q0 := 0) (x := 1) (CC _) rfl dL_isCold_15 ?_
      refine h_goto (CC _) 22 dL_isCold_16 (by decide) ?_
      refine h_iconst (CC _) dL_isCold_22 ?_
      refine e_cv (w' := wH g ad sk ao) (M' := oP (1) B) rfl rfl (fun _ => hB) ?_
      exact h_iret C Y (by omega) (by omega) dL_isCold_23 ⟨0, 1, rfl, hR, fun _ => ⟨rfl, hS9⟩, by decide⟩
  · obtain ⟨rfl, hR⟩ := hq
    refine ⟨19, ⟨[], ⟨0, 16, 19, 21⟩, _, rfl, (fun z hz => absurd hz List.not_mem_nil), rfl, by decide, (tg4 12 rfl rfl), by decide, rfl⟩, ?_⟩
    refine h_astore_n (CC _) dL_isCold_19 (by decide) rfl ?_
    refine h_iconst (CC _) dL_isCold_20 ?_
    refine e_cv (w' := wH g ad sk ao) (M' := oP (P 0 0) B) rfl rfl (fun _ => hB) ?_
    exact h_iret C Y (by omega) (by omega) dL_isCold_21 ⟨1, 0, rfl, hR, fun h => absurd h (by decide), by decide⟩
theorem mh_value : MIH yL_value cL_value 4 (some .int) [(0, 9, 12, 21), (0, 9, 15, 15)] 3 := ⟨⟨tg4 113 rfl rfl, tg1 0 rfl rfl⟩, ⟨by decide +kernel, by decide +kernel, by decide +kernel⟩, by decide, by decide +kernel, tg4 112 rfl rfl⟩
theorem hl_value {g : Gs} {ad : Nat → Nat} {sk : (Nat → Nat) × (Nat → Nat)} {ao : Nat} {P : Mem} {R : Int → Int → Mem → Prop} {S : Int → Mem → Prop} {ma na : Nat} {p1 : Int} (hx : ∀ l : Launch, l.stackTraces = false → Ct (wC g ad sk) l yX9_value cX9_value 2 (some .int) 2 ma na [.ref (ad 0), vI p1] (cX P) (fun v B => ∃ z : Int, v = some (vI z) ∧ Res R 0 z B ∧ S z B) (fun e B => (e = eIO ∧ Res R 1 0 B) ∨ (e = eIS ∧ Res R 2 0 B))) : ∀ l : Launch, l.stackTraces = false → CtH (wH g ad sk ao) l yL_value cL_value 4 (some .int) [(0, 9, 12, 21), (0, 9, 15, 15)] 14 ma na [.ref (ad 0), vI p1, .ref ao] P (fun v P1 => ∃ k r : Int, v = some (vI k) ∧ HRes R S k r P1) := by
  intro l9 hl9
  refine ct_ofH hl9 mh_value.2.2.2.1 (Nat.le_of_ble_eq_true rfl) (fun X hX C Y => ?_)
  have CC : ∀ ws, OkH (fun t => t = tableOf [(0, 9, 12, 21), (0, 9, 15, 15)]) (wV g (KH sk) ws) X cL_value RL 4 14 ma na := fun ws => okH_ws rfl rfl rfl C
  have hst : (lnc X).stackTraces = false := by rw [hX]; exact hl9
  show E (wH g ad sk ao) X 0 0 P 0 [(0, .ref (ad 0)), (1, vI p1), (2, .ref ao)] []
  refine e_wf (fun hw => ?_)
  refine e_cv (w' := wV g (KH sk) ([oC g ao (P 0 0)] ++ wlX g ad (cX P))) (M' := M0) rfl rfl (fun _ => trivial) ?_
  refine h_aload_n (CC _) 2 dL_value_0 rfl ?_
  refine h_iconst (CC _) dL_value_1 ?_
  refine h_aload_n (CC _) 0 dL_value_2 rfl ?_
  refine h_iload_n (CC _) 1 dL_value_3 rfl ?_
  refine v_callX (g := g) (KK := KH sk) (w := wC g ad sk) (ws := [oC g ao (P 0 0)]) (M := cX P) (M9 := M0) (As := [vI p1]) (rest := [vI 0, .ref ao]) (q0 := 0) (ci := 9) (CC _) rfl rfl (fun _ _ h => h.1.1) (wC_mv g ad sk) hw mi_X9_value ms_X9_value mv_X9_value (tg4 114 rfl rfl) (hx (lnc X) hst) (wlX_st rfl) rfl (by decide) (Nat.le_of_ble_eq_true rfl) (by omega) (by omega) dL_value_4 rfl (fun v B hq hB => ?_) (h_catch (M9 := M0) (w := wC g ad sk) (ws := [oC g ao (P 0 0)]) (CC []) (fun Ec B q hq hB => ?_))
  · obtain ⟨z, e1, hR, hS9⟩ := hq
    subst e1
    refine h_i2n (CC _) dL_value_7 ?_
    refine h_last (q0 := 0) (x := nz z) (CC _) rfl dL_value_8 ?_
    refine h_goto (CC _) 18 dL_value_9 (by decide) ?_
    refine h_iconst (CC _) dL_value_18 ?_
    refine e_cv (w' := wH g ad sk ao) (M' := oP (nz z) B) rfl rfl (fun _ => hB) ?_
    exact h_iret C Y (by omega) (by omega) dL_value_19 ⟨0, z, rfl, hR, fun _ => ⟨rfl, hS9⟩, by decide⟩
  · rcases hq with ⟨rfl, hR⟩ | ⟨rfl, hR⟩
    · refine ⟨12, ⟨[], ⟨0, 9, 12, 21⟩, _, rfl, (fun z hz => absurd hz List.not_mem_nil), rfl, by decide, (tg4 12 rfl rfl), by decide, rfl⟩, ?_⟩
      refine h_astore_n (CC _) dL_value_12 (by decide) rfl ?_
      refine h_iconst (CC _) dL_value_13 ?_
      refine e_cv (w' := wH g ad sk ao) (M' := oP (P 0 0) B) rfl rfl (fun _ => hB) ?_
      exact h_iret C Y (by omega) (by omega) dL_value_14 ⟨1, 0, rfl, hR, fun h => absurd h (by decide), by decide⟩
    · refine ⟨15, ⟨[⟨0, 9, 12, 21⟩], ⟨0, 9, 15, 15⟩, _, rfl, (List.forall_mem_cons.mpr ⟨⟨by decide, eIO, (tg4 12 rfl rfl), by decide⟩, fun _ h => absurd h List.not_mem_nil⟩), rfl, by decide, (tg3 154 rfl rfl), by decide, rfl⟩, ?_⟩
      refine h_astore_n (CC _) dL_value_15 (by decide) rfl ?_
      refine h_iconst (CC _) dL_value_16 ?_
      refine e_cv (w' := wH g ad sk ao) (M' := oP (P 0 0) B) rfl rfl (fun _ => hB) ?_
      exact h_iret C Y (by omega) (by omega) dL_value_17 ⟨2, 0, rfl, hR, fun h => absurd h (by decide), by decide⟩
theorem mh_dominated : MIH yL_dominated cL_dominated 6 (some .int) [(0, 12, 15, 21), (0, 12, 19, 13)] 5 := ⟨⟨tg4 121 rfl rfl, tg1 0 rfl rfl⟩, ⟨by decide +kernel, by decide +kernel, by decide +kernel⟩, by decide, by decide +kernel, tg4 120 rfl rfl⟩
theorem hl_dominated {g : Gs} {ad : Nat → Nat} {sk : (Nat → Nat) × (Nat → Nat)} {ao : Nat} {P : Mem} {R : Int → Int → Mem → Prop} {S : Int → Mem → Prop} {ma na : Nat} {p1 p2 p3 : Int} (hx : ∀ l : Launch, l.stackTraces = false → Ct (wC g ad sk) l yX9_dominated cX9_dominated 4 (some .int) 4 ma na [.ref (ad 0), vI p1, vI p2, vI p3] (cX P) (fun v B => ∃ z : Int, v = some (vI z) ∧ Res R 0 z B ∧ S z B) (fun e B => (e = eIO ∧ Res R 1 0 B) ∨ (e = eIA ∧ Res R 2 0 B))) : ∀ l : Launch, l.stackTraces = false → CtH (wH g ad sk ao) l yL_dominated cL_dominated 6 (some .int) [(0, 12, 15, 21), (0, 12, 19, 13)] 14 ma na [.ref (ad 0), vI p1, vI p2, vI p3, .ref ao] P (fun v P1 => ∃ k r : Int, v = some (vI k) ∧ HRes R S k r P1) := by
  intro l9 hl9
  refine ct_ofH hl9 mh_dominated.2.2.2.1 (Nat.le_of_ble_eq_true rfl) (fun X hX C Y => ?_)
  have CC : ∀ ws, OkH (fun t => t = tableOf [(0, 12, 15, 21), (0, 12, 19, 13)]) (wV g (KH sk) ws) X cL_dominated RL 6 14 ma na := fun ws => okH_ws rfl rfl rfl C
  have hst : (lnc X).stackTraces = false := by rw [hX]; exact hl9
  show E (wH g ad sk ao) X 0 0 P 0 [(0, .ref (ad 0)), (1, vI p1), (2, vI p2), (3, vI p3), (4, .ref ao)] []
  refine e_wf (fun hw => ?_)
  refine e_cv (w' := wV g (KH sk) ([oC g ao (P 0 0)] ++ wlX g ad (cX P))) (M' := M0) rfl rfl (fun _ => trivial) ?_
  refine h_aload (CC _) 4 dL_dominated_0 rfl ?_
  refine h_iconst (CC _) dL_dominated_2 ?_
  refine h_aload_n (CC _) 0 dL_dominated_3 rfl ?_
  refine h_iload_n (CC _) 1 dL_dominated_4 rfl ?_
  refine h_iload_n (CC _) 2 dL_dominated_5 rfl ?_
  refine h_iload_n (CC _) 3 dL_dominated_6 rfl ?_
  refine v_callX (g := g) (KK := KH sk) (w := wC g ad sk) (ws := [oC g ao (P 0 0)]) (M := cX P) (M9 := M0) (As := [vI p1, vI p2, vI p3]) (rest := [vI 0, .ref ao]) (q0 := 0) (ci := 9) (CC _) rfl rfl (fun _ _ h => h.1.1) (wC_mv g ad sk) hw mi_X9_dominated ms_X9_dominated mv_X9_dominated (tg4 122 rfl rfl) (hx (lnc X) hst) (wlX_st rfl) rfl (by decide) (Nat.le_of_ble_eq_true rfl) (by omega) (by omega) dL_dominated_7 rfl (fun v B hq hB => ?_) (h_catch (M9 := M0) (w := wC g ad sk) (ws := [oC g ao (P 0 0)]) (CC []) (fun Ec B q hq hB => ?_))
  · obtain ⟨z, e1, hR, hS9⟩ := hq
    subst e1
    refine h_i2n (CC _) dL_dominated_10 ?_
    refine h_last (q0 := 0) (x := nz z) (CC _) rfl dL_dominated_11 ?_
    refine h_goto (CC _) 23 dL_dominated_12 (by decide) ?_
    refine h_iconst (CC _) dL_dominated_23 ?_
    refine e_cv (w' := wH g ad sk ao) (M' := oP (nz z) B) rfl rfl (fun _ => hB) ?_
    exact h_iret C Y (by omega) (by omega) dL_dominated_24 ⟨0, z, rfl, hR, fun _ => ⟨rfl, hS9⟩, by decide⟩
  · rcases hq with ⟨rfl, hR⟩ | ⟨rfl, hR⟩
    · refine ⟨15, ⟨[], ⟨0, 12, 15, 21⟩, _, rfl, (fun z hz => absurd hz List.not_mem_nil), rfl, by decide, (tg4 12 rfl rfl), by decide, rfl⟩, ?_⟩
      refine h_astore (CC _) dL_dominated_15 (by decide) rfl ?_
      refine h_iconst (CC _) dL_dominated_17 ?_
      refine e_cv (w' := wH g ad sk ao) (M' := oP (P 0 0) B) rfl rfl (fun _ => hB) ?_
      exact h_iret C Y (by omega) (by omega) dL_dominated_18 ⟨1, 0, rfl, hR, fun h => absurd h (by decide), by decide⟩
    · refine ⟨19, ⟨[⟨0, 12, 15, 21⟩], ⟨0, 12, 19, 13⟩, _, rfl, (List.forall_mem_cons.mpr ⟨⟨by decide, eIO, (tg4 12 rfl rfl), by decide⟩, fun _ h => absurd h List.not_mem_nil⟩), rfl, by decide, (tg3 153 rfl rfl), by decide, rfl⟩, ?_⟩
      refine h_astore (CC _) dL_dominated_19 (by decide) rfl ?_
      refine h_iconst (CC _) dL_dominated_21 ?_
      refine e_cv (w' := wH g ad sk ao) (M' := oP (P 0 0) B) rfl rfl (fun _ => hB) ?_
      exact h_iret C Y (by omega) (by omega) dL_dominated_22 ⟨2, 0, rfl, hR, fun h => absurd h (by decide), by decide⟩
theorem mh_reversible : MIH yL_reversible cL_reversible 6 (some .int) [(0, 12, 15, 21), (0, 12, 19, 13)] 5 := ⟨⟨tg4 136 rfl rfl, tg1 0 rfl rfl⟩, ⟨by decide +kernel, by decide +kernel, by decide +kernel⟩, by decide, by decide +kernel, tg4 135 rfl rfl⟩
theorem hl_reversible {g : Gs} {ad : Nat → Nat} {sk : (Nat → Nat) × (Nat → Nat)} {ao : Nat} {P : Mem} {R : Int → Int → Mem → Prop} {S : Int → Mem → Prop} {ma na : Nat} {p1 p2 p3 : Int} (hx : ∀ l : Launch, l.stackTraces = false → Ct (wC g ad sk) l yX9_reversible cX9_reversible 5 (some .int) 4 ma na [.ref (ad 0), vI p1, vI p2, vI p3] (cX P) (fun v B => ∃ z : Int, v = some (vI z) ∧ Res R 0 z B ∧ S z B) (fun e B => (e = eIO ∧ Res R 1 0 B) ∨ (e = eIA ∧ Res R 2 0 B))) : ∀ l : Launch, l.stackTraces = false → CtH (wH g ad sk ao) l yL_reversible cL_reversible 6 (some .int) [(0, 12, 15, 21), (0, 12, 19, 13)] 14 ma na [.ref (ad 0), vI p1, vI p2, vI p3, .ref ao] P (fun v P1 => ∃ k r : Int, v = some (vI k) ∧ HRes R S k r P1) := by
  intro l9 hl9
  refine ct_ofH hl9 mh_reversible.2.2.2.1 (Nat.le_of_ble_eq_true rfl) (fun X hX C Y => ?_)
  have CC : ∀ ws, OkH (fun t => t = tableOf [(0, 12, 15, 21), (0, 12, 19, 13)]) (wV g (KH sk) ws) X cL_reversible RL 6 14 ma na := fun ws => okH_ws rfl rfl rfl C
  have hst : (lnc X).stackTraces = false := by rw [hX]; exact hl9
  show E (wH g ad sk ao) X 0 0 P 0 [(0, .ref (ad 0)), (1, vI p1), (2, vI p2), (3, vI p3), (4, .ref ao)] []
  refine e_wf (fun hw => ?_)
  refine e_cv (w' := wV g (KH sk) ([oC g ao (P 0 0)] ++ wlX g ad (cX P))) (M' := M0) rfl rfl (fun _ => trivial) ?_
  refine h_aload (CC _) 4 dL_reversible_0 rfl ?_
  refine h_iconst (CC _) dL_reversible_2 ?_
  refine h_aload_n (CC _) 0 dL_reversible_3 rfl ?_
  refine h_iload_n (CC _) 1 dL_reversible_4 rfl ?_
  refine h_iload_n (CC _) 2 dL_reversible_5 rfl ?_
  refine h_iload_n (CC _) 3 dL_reversible_6 rfl ?_
  refine v_callX (g := g) (KK := KH sk) (w := wC g ad sk) (ws := [oC g ao (P 0 0)]) (M := cX P) (M9 := M0) (As := [vI p1, vI p2, vI p3]) (rest := [vI 0, .ref ao]) (q0 := 0) (ci := 9) (CC _) rfl rfl (fun _ _ h => h.1.1) (wC_mv g ad sk) hw mi_X9_reversible ms_X9_reversible mv_X9_reversible (tg4 137 rfl rfl) (hx (lnc X) hst) (wlX_st rfl) rfl (by decide) (Nat.le_of_ble_eq_true rfl) (by omega) (by omega) dL_reversible_7 rfl (fun v B hq hB => ?_) (h_catch (M9 := M0) (w := wC g ad sk) (ws := [oC g ao (P 0 0)]) (CC []) (fun Ec B q hq hB => ?_))
  · obtain ⟨z, e1, hR, hS9⟩ := hq
    subst e1
    refine h_i2n (CC _) dL_reversible_10 ?_
    refine h_last (q0 := 0) (x := nz z) (CC _) rfl dL_reversible_11 ?_
    refine h_goto (CC _) 23 dL_reversible_12 (by decide) ?_
    refine h_iconst (CC _) dL_reversible_23 ?_
    refine e_cv (w' := wH g ad sk ao) (M' := oP (nz z) B) rfl rfl (fun _ => hB) ?_
    exact h_iret C Y (by omega) (by omega) dL_reversible_24 ⟨0, z, rfl, hR, fun _ => ⟨rfl, hS9⟩, by decide⟩
  · rcases hq with ⟨rfl, hR⟩ | ⟨rfl, hR⟩
    · refine ⟨15, ⟨[], ⟨0, 12, 15, 21⟩, _, rfl, (fun z hz => absurd hz List.not_mem_nil), rfl, by decide, (tg4 12 rfl rfl), by decide, rfl⟩, ?_⟩
      refine h_astore (CC _) dL_reversible_15 (by decide) rfl ?_
      refine h_iconst (CC _) dL_reversible_17 ?_
      refine e_cv (w' := wH g ad sk ao) (M' := oP (P 0 0) B) rfl rfl (fun _ => hB) ?_
      exact h_iret C Y (by omega) (by omega) dL_reversible_18 ⟨1, 0, rfl, hR, fun h => absurd h (by decide), by decide⟩
    · refine ⟨19, ⟨[⟨0, 12, 15, 21⟩], ⟨0, 12, 19, 13⟩, _, rfl, (List.forall_mem_cons.mpr ⟨⟨by decide, eIO, (tg4 12 rfl rfl), by decide⟩, fun _ h => absurd h List.not_mem_nil⟩), rfl, by decide, (tg3 153 rfl rfl), by decide, rfl⟩, ?_⟩
      refine h_astore (CC _) dL_reversible_19 (by decide) rfl ?_
      refine h_iconst (CC _) dL_reversible_21 ?_
      refine e_cv (w' := wH g ad sk ao) (M' := oP (P 0 0) B) rfl rfl (fun _ => hB) ?_
      exact h_iret C Y (by omega) (by omega) dL_reversible_22 ⟨2, 0, rfl, hR, fun h => absurd h (by decide), by decide⟩
theorem mh_mean : MIH yL_mean cL_mean 4 (some .int) [(0, 9, 12, 21)] 3 := ⟨⟨tg4 151 rfl rfl, tg1 0 rfl rfl⟩, ⟨by decide +kernel, by decide +kernel, by decide +kernel⟩, by decide, by decide +kernel, tg4 150 rfl rfl⟩
theorem hl_mean {g : Gs} {ad : Nat → Nat} {sk : (Nat → Nat) × (Nat → Nat)} {ao : Nat} {P : Mem} {R : Int → Int → Mem → Prop} {S : Int → Mem → Prop} {ma na : Nat} {p1 : Int} (hx : ∀ l : Launch, l.stackTraces = false → Ct (wC g ad sk) l yX9_mean cX9_mean 2 (some .int) 2 ma na [.ref (ad 0), vI p1] (cX P) (fun v B => ∃ z : Int, v = some (vI z) ∧ Res R 0 z B ∧ S z B) (fun e B => e = eIO ∧ Res R 1 0 B)) : ∀ l : Launch, l.stackTraces = false → CtH (wH g ad sk ao) l yL_mean cL_mean 4 (some .int) [(0, 9, 12, 21)] 14 ma na [.ref (ad 0), vI p1, .ref ao] P (fun v P1 => ∃ k r : Int, v = some (vI k) ∧ HRes R S k r P1) := by
  intro l9 hl9
  refine ct_ofH hl9 mh_mean.2.2.2.1 (Nat.le_of_ble_eq_true rfl) (fun X hX C Y => ?_)
  have CC : ∀ ws, OkH (fun t => t = tableOf [(0, 9, 12, 21)]) (wV g (KH sk) ws) X cL_mean RL 4 14 ma na := fun ws => okH_ws rfl rfl rfl C
  have hst : (lnc X).stackTraces = false := by rw [hX]; exact hl9
  show E (wH g ad sk ao) X 0 0 P 0 [(0, .ref (ad 0)), (1, vI p1), (2, .ref ao)] []
  refine e_wf (fun hw => ?_)
  refine e_cv (w' := wV g (KH sk) ([oC g ao (P 0 0)] ++ wlX g ad (cX P))) (M' := M0) rfl rfl (fun _ => trivial) ?_
  refine h_aload_n (CC _) 2 dL_mean_0 rfl ?_
  refine h_iconst (CC _) dL_mean_1 ?_
  refine h_aload_n (CC _) 0 dL_mean_2 rfl ?_
  refine h_iload_n (CC _) 1 dL_mean_3 rfl ?_
  refine v_callX (g := g) (KK := KH sk) (w := wC g ad sk) (ws := [oC g ao (P 0 0)]) (M := cX P) (M9 := M0) (As := [vI p1]) (rest := [vI 0, .ref ao]) (q0 := 0) (ci := 9) (CC _) rfl rfl (fun _ _ h => h.1.1) (wC_mv g ad sk) hw mi_X9_mean ms_X9_mean mv_X9_mean (tg4 152 rfl rfl) (hx (lnc X) hst) (wlX_st rfl) rfl (by decide) (Nat.le_of_ble_eq_true rfl) (by omega) (by omega) dL_mean_4 rfl (fun v B hq hB => ?_) (h_catch (M9 := M0) (w := wC g ad sk) (ws := [oC g ao (P 0 0)]) (CC []) (fun Ec B q hq hB => ?_))
  · obtain ⟨z, e1, hR, hS9⟩ := hq
    subst e1
    refine h_i2n (CC _) dL_mean_7 ?_
    refine h_last (q0 := 0) (x := nz z) (CC _) rfl dL_mean_8 ?_
    refine h_goto (CC _) 15 dL_mean_9 (by decide) ?_
    refine h_iconst (CC _) dL_mean_15 ?_
    refine e_cv (w' := wH g ad sk ao) (M' := oP (nz z) B) rfl rfl (fun _ => hB) ?_
    exact h_iret C Y (by omega) (by omega) dL_mean_16 ⟨0, z, rfl, hR, fun _ => ⟨rfl, hS9⟩, by decide⟩
  · obtain ⟨rfl, hR⟩ := hq
    refine ⟨12, ⟨[], ⟨0, 9, 12, 21⟩, _, rfl, (fun z hz => absurd hz List.not_mem_nil), rfl, by decide, (tg4 12 rfl rfl), by decide, rfl⟩, ?_⟩
    refine h_astore_n (CC _) dL_mean_12 (by decide) rfl ?_
    refine h_iconst (CC _) dL_mean_13 ?_
    refine e_cv (w' := wH g ad sk ao) (M' := oP (P 0 0) B) rfl rfl (fun _ => hB) ?_
    exact h_iret C Y (by omega) (by omega) dL_mean_14 ⟨1, 0, rfl, hR, fun h => absurd h (by decide), by decide⟩
theorem mh_temperature : MIH yL_temperature cL_temperature 4 (some .int) [(0, 9, 12, 21)] 3 := ⟨⟨tg4 158 rfl rfl, tg1 0 rfl rfl⟩, ⟨by decide +kernel, by decide +kernel, by decide +kernel⟩, by decide, by decide +kernel, tg4 157 rfl rfl⟩
theorem hl_temperature {g : Gs} {ad : Nat → Nat} {sk : (Nat → Nat) × (Nat → Nat)} {ao : Nat} {P : Mem} {R : Int → Int → Mem → Prop} {S : Int → Mem → Prop} {ma na : Nat} {p1 : Int} (hx : ∀ l : Launch, l.stackTraces = false → Ct (wC g ad sk) l yX9_temperature cX9_temperature 2 (some .int) 2 ma na [.ref (ad 0), vI p1] (cX P) (fun v B => ∃ z : Int, v = some (vI z) ∧ Res R 0 z B ∧ S z B) (fun e B => e = eIO ∧ Res R 1 0 B)) : ∀ l : Launch, l.stackTraces = false → CtH (wH g ad sk ao) l yL_temperature cL_temperature 4 (some .int) [(0, 9, 12, 21)] 14 ma na [.ref (ad 0), vI p1, .ref ao] P (fun v P1 => ∃ k r : Int, v = some (vI k) ∧ HRes R S k r P1) := by
  intro l9 hl9
  refine ct_ofH hl9 mh_temperature.2.2.2.1 (Nat.le_of_ble_eq_true rfl) (fun X hX C Y => ?_)
  have CC : ∀ ws, OkH (fun t => t = tableOf [(0, 9, 12, 21)]) (wV g (KH sk) ws) X cL_temperature RL 4 14 ma na := fun ws => okH_ws rfl rfl rfl C
  have hst : (lnc X).stackTraces = false := by rw [hX]; exact hl9
  show E (wH g ad sk ao) X 0 0 P 0 [(0, .ref (ad 0)), (1, vI p1), (2, .ref ao)] []
  refine e_wf (fun hw => ?_)
  refine e_cv (w' := wV g (KH sk) ([oC g ao (P 0 0)] ++ wlX g ad (cX P))) (M' := M0) rfl rfl (fun _ => trivial) ?_
  refine h_aload_n (CC _) 2 dL_temperature_0 rfl ?_
  refine h_iconst (CC _) dL_temperature_1 ?_
  refine h_aload_n (CC _) 0 dL_temperature_2 rfl ?_
  refine h_iload_n (CC _) 1 dL_temperature_3 rfl ?_
  refine v_callX (g := g) (KK := KH sk) (w := wC g ad sk) (ws := [oC g ao (P 0 0)]) (M := cX P) (M9 := M0) (As := [vI p1]) (rest := [vI 0, .ref ao]) (q0 := 0) (ci := 9) (CC _) rfl rfl (fun _ _ h => h.1.1) (wC_mv g ad sk) hw mi_X9_temperature ms_X9_temperature mv_X9_temperature (tg4 159 rfl rfl) (hx (lnc X) hst) (wlX_st rfl) rfl (by decide) (Nat.le_of_ble_eq_true rfl) (by omega) (by omega) dL_temperature_4 rfl (fun v B hq hB => ?_) (h_catch (M9 := M0) (w := wC g ad sk) (ws := [oC g ao (P 0 0)]) (CC []) (fun Ec B q hq hB => ?_))
  · obtain ⟨z, e1, hR, hS9⟩ := hq
    subst e1
    refine h_i2n (CC _) dL_temperature_7 ?_
    refine h_last (q0 := 0) (x := nz z) (CC _) rfl dL_temperature_8 ?_
    refine h_goto (CC _) 15 dL_temperature_9 (by decide) ?_
    refine h_iconst (CC _) dL_temperature_15 ?_
    refine e_cv (w' := wH g ad sk ao) (M' := oP (nz z) B) rfl rfl (fun _ => hB) ?_
    exact h_iret C Y (by omega) (by omega) dL_temperature_16 ⟨0, z, rfl, hR, fun _ => ⟨rfl, hS9⟩, by decide⟩
  · obtain ⟨rfl, hR⟩ := hq
    refine ⟨12, ⟨[], ⟨0, 9, 12, 21⟩, _, rfl, (fun z hz => absurd hz List.not_mem_nil), rfl, by decide, (tg4 12 rfl rfl), by decide, rfl⟩, ?_⟩
    refine h_astore_n (CC _) dL_temperature_12 (by decide) rfl ?_
    refine h_iconst (CC _) dL_temperature_13 ?_
    refine e_cv (w' := wH g ad sk ao) (M' := oP (P 0 0) B) rfl rfl (fun _ => hB) ?_
    exact h_iret C Y (by omega) (by omega) dL_temperature_14 ⟨1, 0, rfl, hR, fun h => absurd h (by decide), by decide⟩
theorem mh_wall : MIH yL_wall cL_wall 6 (some .int) [(0, 12, 15, 21), (0, 12, 19, 13)] 5 := ⟨⟨tg4 165 rfl rfl, tg1 0 rfl rfl⟩, ⟨by decide +kernel, by decide +kernel, by decide +kernel⟩, by decide, by decide +kernel, tg4 164 rfl rfl⟩
theorem hl_wall {g : Gs} {ad : Nat → Nat} {sk : (Nat → Nat) × (Nat → Nat)} {ao : Nat} {P : Mem} {R : Int → Int → Mem → Prop} {S : Int → Mem → Prop} {ma na : Nat} {p1 p2 p3 : Int} (hx : ∀ l : Launch, l.stackTraces = false → Ct (wC g ad sk) l yX9_wall cX9_wall 4 (some .int) 4 ma na [.ref (ad 0), vI p1, vI p2, vI p3] (cX P) (fun v B => ∃ z : Int, v = some (vI z) ∧ Res R 0 z B ∧ S z B) (fun e B => (e = eIO ∧ Res R 1 0 B) ∨ (e = eIA ∧ Res R 2 0 B))) : ∀ l : Launch, l.stackTraces = false → CtH (wH g ad sk ao) l yL_wall cL_wall 6 (some .int) [(0, 12, 15, 21), (0, 12, 19, 13)] 14 ma na [.ref (ad 0), vI p1, vI p2, vI p3, .ref ao] P (fun v P1 => ∃ k r : Int, v = some (vI k) ∧ HRes R S k r P1) := by
  intro l9 hl9
  refine ct_ofH hl9 mh_wall.2.2.2.1 (Nat.le_of_ble_eq_true rfl) (fun X hX C Y => ?_)
  have CC : ∀ ws, OkH (fun t => t = tableOf [(0, 12, 15, 21), (0, 12, 19, 13)]) (wV g (KH sk) ws) X cL_wall RL 6 14 ma na := fun ws => okH_ws rfl rfl rfl C
  have hst : (lnc X).stackTraces = false := by rw [hX]; exact hl9
  show E (wH g ad sk ao) X 0 0 P 0 [(0, .ref (ad 0)), (1, vI p1), (2, vI p2), (3, vI p3), (4, .ref ao)] []
  refine e_wf (fun hw => ?_)
  refine e_cv (w' := wV g (KH sk) ([oC g ao (P 0 0)] ++ wlX g ad (cX P))) (M' := M0) rfl rfl (fun _ => trivial) ?_
  refine h_aload (CC _) 4 dL_wall_0 rfl ?_
  refine h_iconst (CC _) dL_wall_2 ?_
  refine h_aload_n (CC _) 0 dL_wall_3 rfl ?_
  refine h_iload_n (CC _) 1 dL_wall_4 rfl ?_
  refine h_iload_n (CC _) 2 dL_wall_5 rfl ?_
  refine h_iload_n (CC _) 3 dL_wall_6 rfl ?_
  refine v_callX (g := g) (KK := KH sk) (w := wC g ad sk) (ws := [oC g ao (P 0 0)]) (M := cX P) (M9 := M0) (As := [vI p1, vI p2, vI p3]) (rest := [vI 0, .ref ao]) (q0 := 0) (ci := 9) (CC _) rfl rfl (fun _ _ h => h.1.1) (wC_mv g ad sk) hw mi_X9_wall ms_X9_wall mv_X9_wall (tg4 166 rfl rfl) (hx (lnc X) hst) (wlX_st rfl) rfl (by decide) (Nat.le_of_ble_eq_true rfl) (by omega) (by omega) dL_wall_7 rfl (fun v B hq hB => ?_) (h_catch (M9 := M0) (w := wC g ad sk) (ws := [oC g ao (P 0 0)]) (CC []) (fun Ec B q hq hB => ?_))
  · obtain ⟨z, e1, hR, hS9⟩ := hq
    subst e1
    refine h_i2n (CC _) dL_wall_10 ?_
    refine h_last (q0 := 0) (x := nz z) (CC _) rfl dL_wall_11 ?_
    refine h_goto (CC _) 23 dL_wall_12 (by decide) ?_
    refine h_iconst (CC _) dL_wall_23 ?_
    refine e_cv (w' := wH g ad sk ao) (M' := oP (nz z) B) rfl rfl (fun _ => hB) ?_
    exact h_iret C Y (by omega) (by omega) dL_wall_24 ⟨0, z, rfl, hR, fun _ => ⟨rfl, hS9⟩, by decide⟩
  · rcases hq with ⟨rfl, hR⟩ | ⟨rfl, hR⟩
    · refine ⟨15, ⟨[], ⟨0, 12, 15, 21⟩, _, rfl, (fun z hz => absurd hz List.not_mem_nil), rfl, by decide, (tg4 12 rfl rfl), by decide, rfl⟩, ?_⟩
      refine h_astore (CC _) dL_wall_15 (by decide) rfl ?_
      refine h_iconst (CC _) dL_wall_17 ?_
      refine e_cv (w' := wH g ad sk ao) (M' := oP (P 0 0) B) rfl rfl (fun _ => hB) ?_
      exact h_iret C Y (by omega) (by omega) dL_wall_18 ⟨1, 0, rfl, hR, fun h => absurd h (by decide), by decide⟩
    · refine ⟨19, ⟨[⟨0, 12, 15, 21⟩], ⟨0, 12, 19, 13⟩, _, rfl, (List.forall_mem_cons.mpr ⟨⟨by decide, eIO, (tg4 12 rfl rfl), by decide⟩, fun _ h => absurd h List.not_mem_nil⟩), rfl, by decide, (tg3 153 rfl rfl), by decide, rfl⟩, ?_⟩
      refine h_astore (CC _) dL_wall_19 (by decide) rfl ?_
      refine h_iconst (CC _) dL_wall_21 ?_
      refine e_cv (w' := wH g ad sk ao) (M' := oP (P 0 0) B) rfl rfl (fun _ => hB) ?_
      exact h_iret C Y (by omega) (by omega) dL_wall_22 ⟨2, 0, rfl, hR, fun h => absurd h (by decide), by decide⟩
theorem mh_corner : MIH yL_corner cL_corner 6 (some .int) [(0, 12, 15, 21), (0, 12, 19, 13)] 5 := ⟨⟨tg4 178 rfl rfl, tg1 0 rfl rfl⟩, ⟨by decide +kernel, by decide +kernel, by decide +kernel⟩, by decide, by decide +kernel, tg4 177 rfl rfl⟩
theorem hl_corner {g : Gs} {ad : Nat → Nat} {sk : (Nat → Nat) × (Nat → Nat)} {ao : Nat} {P : Mem} {R : Int → Int → Mem → Prop} {S : Int → Mem → Prop} {ma na : Nat} {p1 p2 p3 : Int} (hx : ∀ l : Launch, l.stackTraces = false → Ct (wC g ad sk) l yX9_corner cX9_corner 6 (some .int) 5 ma na [.ref (ad 0), vI p1, vI p2, vI p3] (cX P) (fun v B => ∃ z : Int, v = some (vI z) ∧ Res R 0 z B ∧ S z B) (fun e B => (e = eIO ∧ Res R 1 0 B) ∨ (e = eIA ∧ Res R 2 0 B))) : ∀ l : Launch, l.stackTraces = false → CtH (wH g ad sk ao) l yL_corner cL_corner 6 (some .int) [(0, 12, 15, 21), (0, 12, 19, 13)] 14 ma na [.ref (ad 0), vI p1, vI p2, vI p3, .ref ao] P (fun v P1 => ∃ k r : Int, v = some (vI k) ∧ HRes R S k r P1) := by
  intro l9 hl9
  refine ct_ofH hl9 mh_corner.2.2.2.1 (Nat.le_of_ble_eq_true rfl) (fun X hX C Y => ?_)
  have CC : ∀ ws, OkH (fun t => t = tableOf [(0, 12, 15, 21), (0, 12, 19, 13)]) (wV g (KH sk) ws) X cL_corner RL 6 14 ma na := fun ws => okH_ws rfl rfl rfl C
  have hst : (lnc X).stackTraces = false := by rw [hX]; exact hl9
  show E (wH g ad sk ao) X 0 0 P 0 [(0, .ref (ad 0)), (1, vI p1), (2, vI p2), (3, vI p3), (4, .ref ao)] []
  refine e_wf (fun hw => ?_)
  refine e_cv (w' := wV g (KH sk) ([oC g ao (P 0 0)] ++ wlX g ad (cX P))) (M' := M0) rfl rfl (fun _ => trivial) ?_
  refine h_aload (CC _) 4 dL_corner_0 rfl ?_
  refine h_iconst (CC _) dL_corner_2 ?_
  refine h_aload_n (CC _) 0 dL_corner_3 rfl ?_
  refine h_iload_n (CC _) 1 dL_corner_4 rfl ?_
  refine h_iload_n (CC _) 2 dL_corner_5 rfl ?_
  refine h_iload_n (CC _) 3 dL_corner_6 rfl ?_
  refine v_callX (g := g) (KK := KH sk) (w := wC g ad sk) (ws := [oC g ao (P 0 0)]) (M := cX P) (M9 := M0) (As := [vI p1, vI p2, vI p3]) (rest := [vI 0, .ref ao]) (q0 := 0) (ci := 9) (CC _) rfl rfl (fun _ _ h => h.1.1) (wC_mv g ad sk) hw mi_X9_corner ms_X9_corner mv_X9_corner (tg4 179 rfl rfl) (hx (lnc X) hst) (wlX_st rfl) rfl (by decide) (Nat.le_of_ble_eq_true rfl) (by omega) (by omega) dL_corner_7 rfl (fun v B hq hB => ?_) (h_catch (M9 := M0) (w := wC g ad sk) (ws := [oC g ao (P 0 0)]) (CC []) (fun Ec B q hq hB => ?_))
  · obtain ⟨z, e1, hR, hS9⟩ := hq
    subst e1
    refine h_i2n (CC _) dL_corner_10 ?_
    refine h_last (q0 := 0) (x := nz z) (CC _) rfl dL_corner_11 ?_
    refine h_goto (CC _) 23 dL_corner_12 (by decide) ?_
    refine h_iconst (CC _) dL_corner_23 ?_
    refine e_cv (w' := wH g ad sk ao) (M' := oP (nz z) B) rfl rfl (fun _ => hB) ?_
    exact h_iret C Y (by omega) (by omega) dL_corner_24 ⟨0, z, rfl, hR, fun _ => ⟨rfl, hS9⟩, by decide⟩
  · rcases hq with ⟨rfl, hR⟩ | ⟨rfl, hR⟩
    · refine ⟨15, ⟨[], ⟨0, 12, 15, 21⟩, _, rfl, (fun z hz => absurd hz List.not_mem_nil), rfl, by decide, (tg4 12 rfl rfl), by decide, rfl⟩, ?_⟩
      refine h_astore (CC _) dL_corner_15 (by decide) rfl ?_
      refine h_iconst (CC _) dL_corner_17 ?_
      refine e_cv (w' := wH g ad sk ao) (M' := oP (P 0 0) B) rfl rfl (fun _ => hB) ?_
      exact h_iret C Y (by omega) (by omega) dL_corner_18 ⟨1, 0, rfl, hR, fun h => absurd h (by decide), by decide⟩
    · refine ⟨19, ⟨[⟨0, 12, 15, 21⟩], ⟨0, 12, 19, 13⟩, _, rfl, (List.forall_mem_cons.mpr ⟨⟨by decide, eIO, (tg4 12 rfl rfl), by decide⟩, fun _ h => absurd h List.not_mem_nil⟩), rfl, by decide, (tg3 153 rfl rfl), by decide, rfl⟩, ?_⟩
      refine h_astore (CC _) dL_corner_19 (by decide) rfl ?_
      refine h_iconst (CC _) dL_corner_21 ?_
      refine e_cv (w' := wH g ad sk ao) (M' := oP (P 0 0) B) rfl rfl (fun _ => hB) ?_
      exact h_iret C Y (by omega) (by omega) dL_corner_22 ⟨2, 0, rfl, hR, fun h => absurd h (by decide), by decide⟩
theorem mh_add : MIH yL_add cL_add 4 (some .int) [(0, 9, 12, 21), (0, 9, 15, 15)] 3 := ⟨⟨tg4 190 rfl rfl, tg1 0 rfl rfl⟩, ⟨by decide +kernel, by decide +kernel, by decide +kernel⟩, by decide, by decide +kernel, tg4 189 rfl rfl⟩
theorem hl_add {g : Gs} {ad : Nat → Nat} {sk : (Nat → Nat) × (Nat → Nat)} {ao : Nat} {P : Mem} {R : Int → Int → Mem → Prop} {S : Int → Mem → Prop} {ma na : Nat} {p1 : Int} (hx : ∀ l : Launch, l.stackTraces = false → Ct (wC g ad sk) l yX9_add cX9_add 2 (some .int) 2 ma na [.ref (ad 0), vI p1] (cX P) (fun v B => ∃ z : Int, v = some (vI z) ∧ Res R 0 z B ∧ S z B) (fun e B => (e = eIO ∧ Res R 1 0 B) ∨ (e = eIS ∧ Res R 2 0 B))) : ∀ l : Launch, l.stackTraces = false → CtH (wH g ad sk ao) l yL_add cL_add 4 (some .int) [(0, 9, 12, 21), (0, 9, 15, 15)] 14 ma na [.ref (ad 0), vI p1, .ref ao] P (fun v P1 => ∃ k r : Int, v = some (vI k) ∧ HRes R S k r P1) := by
  intro l9 hl9
  refine ct_ofH hl9 mh_add.2.2.2.1 (Nat.le_of_ble_eq_true rfl) (fun X hX C Y => ?_)
  have CC : ∀ ws, OkH (fun t => t = tableOf [(0, 9, 12, 21), (0, 9, 15, 15)]) (wV g (KH sk) ws) X cL_add RL 4 14 ma na := fun ws => okH_ws rfl rfl rfl C
  have hst : (lnc X).stackTraces = false := by rw [hX]; exact hl9
  show E (wH g ad sk ao) X 0 0 P 0 [(0, .ref (ad 0)), (1, vI p1), (2, .ref ao)] []
  refine e_wf (fun hw => ?_)
  refine e_cv (w' := wV g (KH sk) ([oC g ao (P 0 0)] ++ wlX g ad (cX P))) (M' := M0) rfl rfl (fun _ => trivial) ?_
  refine h_aload_n (CC _) 2 dL_add_0 rfl ?_
  refine h_iconst (CC _) dL_add_1 ?_
  refine h_aload_n (CC _) 0 dL_add_2 rfl ?_
  refine h_iload_n (CC _) 1 dL_add_3 rfl ?_
  refine v_callX (g := g) (KK := KH sk) (w := wC g ad sk) (ws := [oC g ao (P 0 0)]) (M := cX P) (M9 := M0) (As := [vI p1]) (rest := [vI 0, .ref ao]) (q0 := 0) (ci := 9) (CC _) rfl rfl (fun _ _ h => h.1.1) (wC_mv g ad sk) hw mi_X9_add ms_X9_add mv_X9_add (tg4 191 rfl rfl) (hx (lnc X) hst) (wlX_st rfl) rfl (by decide) (Nat.le_of_ble_eq_true rfl) (by omega) (by omega) dL_add_4 rfl (fun v B hq hB => ?_) (h_catch (M9 := M0) (w := wC g ad sk) (ws := [oC g ao (P 0 0)]) (CC []) (fun Ec B q hq hB => ?_))
  · obtain ⟨z, e1, hR, hS9⟩ := hq
    subst e1
    refine h_i2n (CC _) dL_add_7 ?_
    refine h_last (q0 := 0) (x := nz z) (CC _) rfl dL_add_8 ?_
    refine h_goto (CC _) 18 dL_add_9 (by decide) ?_
    refine h_iconst (CC _) dL_add_18 ?_
    refine e_cv (w' := wH g ad sk ao) (M' := oP (nz z) B) rfl rfl (fun _ => hB) ?_
    exact h_iret C Y (by omega) (by omega) dL_add_19 ⟨0, z, rfl, hR, fun _ => ⟨rfl, hS9⟩, by decide⟩
  · rcases hq with ⟨rfl, hR⟩ | ⟨rfl, hR⟩
    · refine ⟨12, ⟨[], ⟨0, 9, 12, 21⟩, _, rfl, (fun z hz => absurd hz List.not_mem_nil), rfl, by decide, (tg4 12 rfl rfl), by decide, rfl⟩, ?_⟩
      refine h_astore_n (CC _) dL_add_12 (by decide) rfl ?_
      refine h_iconst (CC _) dL_add_13 ?_
      refine e_cv (w' := wH g ad sk ao) (M' := oP (P 0 0) B) rfl rfl (fun _ => hB) ?_
      exact h_iret C Y (by omega) (by omega) dL_add_14 ⟨1, 0, rfl, hR, fun h => absurd h (by decide), by decide⟩
    · refine ⟨15, ⟨[⟨0, 9, 12, 21⟩], ⟨0, 9, 15, 15⟩, _, rfl, (List.forall_mem_cons.mpr ⟨⟨by decide, eIO, (tg4 12 rfl rfl), by decide⟩, fun _ h => absurd h List.not_mem_nil⟩), rfl, by decide, (tg3 154 rfl rfl), by decide, rfl⟩, ?_⟩
      refine h_astore_n (CC _) dL_add_15 (by decide) rfl ?_
      refine h_iconst (CC _) dL_add_16 ?_
      refine e_cv (w' := wH g ad sk ao) (M' := oP (P 0 0) B) rfl rfl (fun _ => hB) ?_
      exact h_iret C Y (by omega) (by omega) dL_add_17 ⟨2, 0, rfl, hR, fun h => absurd h (by decide), by decide⟩
theorem mh_remove : MIH yL_remove cL_remove 4 (some .int) [(0, 9, 12, 21)] 3 := ⟨⟨tg4 198 rfl rfl, tg1 0 rfl rfl⟩, ⟨by decide +kernel, by decide +kernel, by decide +kernel⟩, by decide, by decide +kernel, tg4 197 rfl rfl⟩
theorem hl_remove {g : Gs} {ad : Nat → Nat} {sk : (Nat → Nat) × (Nat → Nat)} {ao : Nat} {P : Mem} {R : Int → Int → Mem → Prop} {S : Int → Mem → Prop} {ma na : Nat} {p1 : Int} (hx : ∀ l : Launch, l.stackTraces = false → Ct (wC g ad sk) l yX9_remove cX9_remove 2 (some .int) 2 ma na [.ref (ad 0), vI p1] (cX P) (fun v B => ∃ z : Int, v = some (vI z) ∧ Res R 0 z B ∧ S z B) (fun e B => e = eIO ∧ Res R 1 0 B)) : ∀ l : Launch, l.stackTraces = false → CtH (wH g ad sk ao) l yL_remove cL_remove 4 (some .int) [(0, 9, 12, 21)] 14 ma na [.ref (ad 0), vI p1, .ref ao] P (fun v P1 => ∃ k r : Int, v = some (vI k) ∧ HRes R S k r P1) := by
  intro l9 hl9
  refine ct_ofH hl9 mh_remove.2.2.2.1 (Nat.le_of_ble_eq_true rfl) (fun X hX C Y => ?_)
  have CC : ∀ ws, OkH (fun t => t = tableOf [(0, 9, 12, 21)]) (wV g (KH sk) ws) X cL_remove RL 4 14 ma na := fun ws => okH_ws rfl rfl rfl C
  have hst : (lnc X).stackTraces = false := by rw [hX]; exact hl9
  show E (wH g ad sk ao) X 0 0 P 0 [(0, .ref (ad 0)), (1, vI p1), (2, .ref ao)] []
  refine e_wf (fun hw => ?_)
  refine e_cv (w' := wV g (KH sk) ([oC g ao (P 0 0)] ++ wlX g ad (cX P))) (M' := M0) rfl rfl (fun _ => trivial) ?_
  refine h_aload_n (CC _) 2 dL_remove_0 rfl ?_
  refine h_iconst (CC _) dL_remove_1 ?_
  refine h_aload_n (CC _) 0 dL_remove_2 rfl ?_
  refine h_iload_n (CC _) 1 dL_remove_3 rfl ?_
  refine v_callX (g := g) (KK := KH sk) (w := wC g ad sk) (ws := [oC g ao (P 0 0)]) (M := cX P) (M9 := M0) (As := [vI p1]) (rest := [vI 0, .ref ao]) (q0 := 0) (ci := 9) (CC _) rfl rfl (fun _ _ h => h.1.1) (wC_mv g ad sk) hw mi_X9_remove ms_X9_remove mv_X9_remove (tg4 199 rfl rfl) (hx (lnc X) hst) (wlX_st rfl) rfl (by decide) (Nat.le_of_ble_eq_true rfl) (by omega) (by omega) dL_remove_4 rfl (fun v B hq hB => ?_) (h_catch (M9 := M0) (w := wC g ad sk) (ws := [oC g ao (P 0 0)]) (CC []) (fun Ec B q hq hB => ?_))
  · obtain ⟨z, e1, hR, hS9⟩ := hq
    subst e1
    refine h_i2n (CC _) dL_remove_7 ?_
    refine h_last (q0 := 0) (x := nz z) (CC _) rfl dL_remove_8 ?_
    refine h_goto (CC _) 15 dL_remove_9 (by decide) ?_
    refine h_iconst (CC _) dL_remove_15 ?_
    refine e_cv (w' := wH g ad sk ao) (M' := oP (nz z) B) rfl rfl (fun _ => hB) ?_
    exact h_iret C Y (by omega) (by omega) dL_remove_16 ⟨0, z, rfl, hR, fun _ => ⟨rfl, hS9⟩, by decide⟩
  · obtain ⟨rfl, hR⟩ := hq
    refine ⟨12, ⟨[], ⟨0, 9, 12, 21⟩, _, rfl, (fun z hz => absurd hz List.not_mem_nil), rfl, by decide, (tg4 12 rfl rfl), by decide, rfl⟩, ?_⟩
    refine h_astore_n (CC _) dL_remove_12 (by decide) rfl ?_
    refine h_iconst (CC _) dL_remove_13 ?_
    refine e_cv (w' := wH g ad sk ao) (M' := oP (P 0 0) B) rfl rfl (fun _ => hB) ?_
    exact h_iret C Y (by omega) (by omega) dL_remove_14 ⟨1, 0, rfl, hR, fun h => absurd h (by decide), by decide⟩
theorem mh_component : MIH yL_component cL_component 4 (some .int) [(0, 9, 12, 21)] 3 := ⟨⟨tg4 214 rfl rfl, tg1 0 rfl rfl⟩, ⟨by decide +kernel, by decide +kernel, by decide +kernel⟩, by decide, by decide +kernel, tg4 213 rfl rfl⟩
theorem hl_component {g : Gs} {ad : Nat → Nat} {sk : (Nat → Nat) × (Nat → Nat)} {ao : Nat} {P : Mem} {R : Int → Int → Mem → Prop} {S : Int → Mem → Prop} {ma na : Nat} {p1 : Int} (hx : ∀ l : Launch, l.stackTraces = false → Ct (wC g ad sk) l yX9_component cX9_component 2 (some .int) 2 ma na [.ref (ad 0), vI p1] (cX P) (fun v B => ∃ z : Int, v = some (vI z) ∧ Res R 0 z B ∧ S z B) (fun e B => e = eIO ∧ Res R 1 0 B)) : ∀ l : Launch, l.stackTraces = false → CtH (wH g ad sk ao) l yL_component cL_component 4 (some .int) [(0, 9, 12, 21)] 14 ma na [.ref (ad 0), vI p1, .ref ao] P (fun v P1 => ∃ k r : Int, v = some (vI k) ∧ HRes R S k r P1) := by
  intro l9 hl9
  refine ct_ofH hl9 mh_component.2.2.2.1 (Nat.le_of_ble_eq_true rfl) (fun X hX C Y => ?_)
  have CC : ∀ ws, OkH (fun t => t = tableOf [(0, 9, 12, 21)]) (wV g (KH sk) ws) X cL_component RL 4 14 ma na := fun ws => okH_ws rfl rfl rfl C
  have hst : (lnc X).stackTraces = false := by rw [hX]; exact hl9
  show E (wH g ad sk ao) X 0 0 P 0 [(0, .ref (ad 0)), (1, vI p1), (2, .ref ao)] []
  refine e_wf (fun hw => ?_)
  refine e_cv (w' := wV g (KH sk) ([oC g ao (P 0 0)] ++ wlX g ad (cX P))) (M' := M0) rfl rfl (fun _ => trivial) ?_
  refine h_aload_n (CC _) 2 dL_component_0 rfl ?_
  refine h_iconst (CC _) dL_component_1 ?_
  refine h_aload_n (CC _) 0 dL_component_2 rfl ?_
  refine h_iload_n (CC _) 1 dL_component_3 rfl ?_
  refine v_callX (g := g) (KK := KH sk) (w := wC g ad sk) (ws := [oC g ao (P 0 0)]) (M := cX P) (M9 := M0) (As := [vI p1]) (rest := [vI 0, .ref ao]) (q0 := 0) (ci := 9) (CC _) rfl rfl (fun _ _ h => h.1.1) (wC_mv g ad sk) hw mi_X9_component ms_X9_component mv_X9_component (tg4 215 rfl rfl) (hx (lnc X) hst) (wlX_st rfl) rfl (by decide) (Nat.le_of_ble_eq_true rfl) (by omega) (by omega) dL_component_4 rfl (fun v B hq hB => ?_) (h_catch (M9 := M0) (w := wC g ad sk) (ws := [oC g ao (P 0 0)]) (CC []) (fun Ec B q hq hB => ?_))
  · obtain ⟨z, e1, hR, hS9⟩ := hq
    subst e1
    refine h_i2n (CC _) dL_component_7 ?_
    refine h_last (q0 := 0) (x := nz z) (CC _) rfl dL_component_8 ?_
    refine h_goto (CC _) 15 dL_component_9 (by decide) ?_
    refine h_iconst (CC _) dL_component_15 ?_
    refine e_cv (w' := wH g ad sk ao) (M' := oP (nz z) B) rfl rfl (fun _ => hB) ?_
    exact h_iret C Y (by omega) (by omega) dL_component_16 ⟨0, z, rfl, hR, fun _ => ⟨rfl, hS9⟩, by decide⟩
  · obtain ⟨rfl, hR⟩ := hq
    refine ⟨12, ⟨[], ⟨0, 9, 12, 21⟩, _, rfl, (fun z hz => absurd hz List.not_mem_nil), rfl, by decide, (tg4 12 rfl rfl), by decide, rfl⟩, ?_⟩
    refine h_astore_n (CC _) dL_component_12 (by decide) rfl ?_
    refine h_iconst (CC _) dL_component_13 ?_
    refine e_cv (w' := wH g ad sk ao) (M' := oP (P 0 0) B) rfl rfl (fun _ => hB) ?_
    exact h_iret C Y (by omega) (by omega) dL_component_14 ⟨1, 0, rfl, hR, fun h => absurd h (by decide), by decide⟩
theorem mh_move : MIH yL_move cL_move 6 (some .int) [(0, 12, 15, 21), (0, 12, 19, 13), (0, 12, 23, 15)] 5 := ⟨⟨tg4 221 rfl rfl, tg1 0 rfl rfl⟩, ⟨by decide +kernel, by decide +kernel, by decide +kernel⟩, by decide, by decide +kernel, tg4 220 rfl rfl⟩
theorem hl_move {g : Gs} {ad : Nat → Nat} {sk : (Nat → Nat) × (Nat → Nat)} {ao : Nat} {P : Mem} {R : Int → Int → Mem → Prop} {S : Int → Mem → Prop} {ma na : Nat} {p1 p2 p3 : Int} (hx : ∀ l : Launch, l.stackTraces = false → Ct (wC g ad sk) l yX9_move cX9_move 6 (some .int) 2 ma na [.ref (ad 0), vI p1, vI p2, vI p3] (cX P) (fun v B => ∃ z : Int, v = some (vI z) ∧ Res R 0 z B ∧ S z B) (fun e B => (e = eIO ∧ Res R 1 0 B) ∨ (e = eIA ∧ Res R 2 0 B) ∨ (e = eIS ∧ Res R 3 0 B))) : ∀ l : Launch, l.stackTraces = false → CtH (wH g ad sk ao) l yL_move cL_move 6 (some .int) [(0, 12, 15, 21), (0, 12, 19, 13), (0, 12, 23, 15)] 14 ma na [.ref (ad 0), vI p1, vI p2, vI p3, .ref ao] P (fun v P1 => ∃ k r : Int, v = some (vI k) ∧ HRes R S k r P1) := by
  intro l9 hl9
  refine ct_ofH hl9 mh_move.2.2.2.1 (Nat.le_of_ble_eq_true rfl) (fun X hX C Y => ?_)
  have CC : ∀ ws, OkH (fun t => t = tableOf [(0, 12, 15, 21), (0, 12, 19, 13), (0, 12, 23, 15)]) (wV g (KH sk) ws) X cL_move RL 6 14 ma na := fun ws => okH_ws rfl rfl rfl C
  have hst : (lnc X).stackTraces = false := by rw [hX]; exact hl9
  show E (wH g ad sk ao) X 0 0 P 0 [(0, .ref (ad 0)), (1, vI p1), (2, vI p2), (3, vI p3), (4, .ref ao)] []
  refine e_wf (fun hw => ?_)
  refine e_cv (w' := wV g (KH sk) ([oC g ao (P 0 0)] ++ wlX g ad (cX P))) (M' := M0) rfl rfl (fun _ => trivial) ?_
  refine h_aload (CC _) 4 dL_move_0 rfl ?_
  refine h_iconst (CC _) dL_move_2 ?_
  refine h_aload_n (CC _) 0 dL_move_3 rfl ?_
  refine h_iload_n (CC _) 1 dL_move_4 rfl ?_
  refine h_iload_n (CC _) 2 dL_move_5 rfl ?_
  refine h_iload_n (CC _) 3 dL_move_6 rfl ?_
  refine v_callX (g := g) (KK := KH sk) (w := wC g ad sk) (ws := [oC g ao (P 0 0)]) (M := cX P) (M9 := M0) (As := [vI p1, vI p2, vI p3]) (rest := [vI 0, .ref ao]) (q0 := 0) (ci := 9) (CC _) rfl rfl (fun _ _ h => h.1.1) (wC_mv g ad sk) hw mi_X9_move ms_X9_move mv_X9_move (tg4 222 rfl rfl) (hx (lnc X) hst) (wlX_st rfl) rfl (by decide) (Nat.le_of_ble_eq_true rfl) (by omega) (by omega) dL_move_7 rfl (fun v B hq hB => ?_) (h_catch (M9 := M0) (w := wC g ad sk) (ws := [oC g ao (P 0 0)]) (CC []) (fun Ec B q hq hB => ?_))
  · obtain ⟨z, e1, hR, hS9⟩ := hq
    subst e1
    refine h_i2n (CC _) dL_move_10 ?_
    refine h_last (q0 := 0) (x := nz z) (CC _) rfl dL_move_11 ?_
    refine h_goto (CC _) 27 dL_move_12 (by decide) ?_
    refine h_iconst (CC _) dL_move_27 ?_
    refine e_cv (w' := wH g ad sk ao) (M' := oP (nz z) B) rfl rfl (fun _ => hB) ?_
    exact h_iret C Y (by omega) (by omega) dL_move_28 ⟨0, z, rfl, hR, fun _ => ⟨rfl, hS9⟩, by decide⟩
  · rcases hq with ⟨rfl, hR⟩ | ⟨rfl, hR⟩ | ⟨rfl, hR⟩
    · refine ⟨15, ⟨[], ⟨0, 12, 15, 21⟩, _, rfl, (fun z hz => absurd hz List.not_mem_nil), rfl, by decide, (tg4 12 rfl rfl), by decide, rfl⟩, ?_⟩
      refine h_astore (CC _) dL_move_15 (by decide) rfl ?_
      refine h_iconst (CC _) dL_move_17 ?_
      refine e_cv (w' := wH g ad sk ao) (M' := oP (P 0 0) B) rfl rfl (fun _ => hB) ?_
      exact h_iret C Y (by omega) (by omega) dL_move_18 ⟨1, 0, rfl, hR, fun h => absurd h (by decide), by decide⟩
    · refine ⟨19, ⟨[⟨0, 12, 15, 21⟩], ⟨0, 12, 19, 13⟩, _, rfl, (List.forall_mem_cons.mpr ⟨⟨by decide, eIO, (tg4 12 rfl rfl), by decide⟩, fun _ h => absurd h List.not_mem_nil⟩), rfl, by decide, (tg3 153 rfl rfl), by decide, rfl⟩, ?_⟩
      refine h_astore (CC _) dL_move_19 (by decide) rfl ?_
      refine h_iconst (CC _) dL_move_21 ?_
      refine e_cv (w' := wH g ad sk ao) (M' := oP (P 0 0) B) rfl rfl (fun _ => hB) ?_
      exact h_iret C Y (by omega) (by omega) dL_move_22 ⟨2, 0, rfl, hR, fun h => absurd h (by decide), by decide⟩
    · refine ⟨23, ⟨[⟨0, 12, 15, 21⟩, ⟨0, 12, 19, 13⟩], ⟨0, 12, 23, 15⟩, _, rfl, (List.forall_mem_cons.mpr ⟨⟨by decide, eIO, (tg4 12 rfl rfl), by decide⟩, List.forall_mem_cons.mpr ⟨⟨by decide, eIA, (tg3 153 rfl rfl), by decide⟩, fun _ h => absurd h List.not_mem_nil⟩⟩), rfl, by decide, (tg3 154 rfl rfl), by decide, rfl⟩, ?_⟩
      refine h_astore (CC _) dL_move_23 (by decide) rfl ?_
      refine h_iconst (CC _) dL_move_25 ?_
      refine e_cv (w' := wH g ad sk ao) (M' := oP (P 0 0) B) rfl rfl (fun _ => hB) ?_
      exact h_iret C Y (by omega) (by omega) dL_move_26 ⟨3, 0, rfl, hR, fun h => absurd h (by decide), by decide⟩
theorem mh_best : MIH yL_best cL_best 4 (some .int) [(0, 9, 12, 13), (0, 9, 15, 15)] 3 := ⟨⟨tg4 230 rfl rfl, tg1 0 rfl rfl⟩, ⟨by decide +kernel, by decide +kernel, by decide +kernel⟩, by decide, by decide +kernel, tg4 229 rfl rfl⟩
theorem hl_best {g : Gs} {ad : Nat → Nat} {sk : (Nat → Nat) × (Nat → Nat)} {ao : Nat} {P : Mem} {R : Int → Int → Mem → Prop} {S : Int → Mem → Prop} {ma na : Nat} {p1 : Int} (hx : ∀ l : Launch, l.stackTraces = false → Ct (wC g ad sk) l yX9_best cX9_best 2 (some .int) 4 ma na [.ref (ad 0), vI p1] (cX P) (fun v B => ∃ z : Int, v = some (vI z) ∧ Res R 0 z B ∧ S z B) (fun e B => (e = eIA ∧ Res R 1 0 B) ∨ (e = eIS ∧ Res R 2 0 B))) : ∀ l : Launch, l.stackTraces = false → CtH (wH g ad sk ao) l yL_best cL_best 4 (some .int) [(0, 9, 12, 13), (0, 9, 15, 15)] 14 ma na [.ref (ad 0), vI p1, .ref ao] P (fun v P1 => ∃ k r : Int, v = some (vI k) ∧ HRes R S k r P1) := by
  intro l9 hl9
  refine ct_ofH hl9 mh_best.2.2.2.1 (Nat.le_of_ble_eq_true rfl) (fun X hX C Y => ?_)
  have CC : ∀ ws, OkH (fun t => t = tableOf [(0, 9, 12, 13), (0, 9, 15, 15)]) (wV g (KH sk) ws) X cL_best RL 4 14 ma na := fun ws => okH_ws rfl rfl rfl C
  have hst : (lnc X).stackTraces = false := by rw [hX]; exact hl9
  show E (wH g ad sk ao) X 0 0 P 0 [(0, .ref (ad 0)), (1, vI p1), (2, .ref ao)] []
  refine e_wf (fun hw => ?_)
  refine e_cv (w' := wV g (KH sk) ([oC g ao (P 0 0)] ++ wlX g ad (cX P))) (M' := M0) rfl rfl (fun _ => trivial) ?_
  refine h_aload_n (CC _) 2 dL_best_0 rfl ?_
  refine h_iconst (CC _) dL_best_1 ?_
  refine h_aload_n (CC _) 0 dL_best_2 rfl ?_
  refine h_iload_n (CC _) 1 dL_best_3 rfl ?_
  refine v_callX (g := g) (KK := KH sk) (w := wC g ad sk) (ws := [oC g ao (P 0 0)]) (M := cX P) (M9 := M0) (As := [vI p1]) (rest := [vI 0, .ref ao]) (q0 := 0) (ci := 9) (CC _) rfl rfl (fun _ _ h => h.1.1) (wC_mv g ad sk) hw mi_X9_best ms_X9_best mv_X9_best (tg4 231 rfl rfl) (hx (lnc X) hst) (wlX_st rfl) rfl (by decide) (Nat.le_of_ble_eq_true rfl) (by omega) (by omega) dL_best_4 rfl (fun v B hq hB => ?_) (h_catch (M9 := M0) (w := wC g ad sk) (ws := [oC g ao (P 0 0)]) (CC []) (fun Ec B q hq hB => ?_))
  · obtain ⟨z, e1, hR, hS9⟩ := hq
    subst e1
    refine h_i2n (CC _) dL_best_7 ?_
    refine h_last (q0 := 0) (x := nz z) (CC _) rfl dL_best_8 ?_
    refine h_goto (CC _) 18 dL_best_9 (by decide) ?_
    refine h_iconst (CC _) dL_best_18 ?_
    refine e_cv (w' := wH g ad sk ao) (M' := oP (nz z) B) rfl rfl (fun _ => hB) ?_
    exact h_iret C Y (by omega) (by omega) dL_best_19 ⟨0, z, rfl, hR, fun _ => ⟨rfl, hS9⟩, by decide⟩
  · rcases hq with ⟨rfl, hR⟩ | ⟨rfl, hR⟩
    · refine ⟨12, ⟨[], ⟨0, 9, 12, 13⟩, _, rfl, (fun z hz => absurd hz List.not_mem_nil), rfl, by decide, (tg3 153 rfl rfl), by decide, rfl⟩, ?_⟩
      refine h_astore_n (CC _) dL_best_12 (by decide) rfl ?_
      refine h_iconst (CC _) dL_best_13 ?_
      refine e_cv (w' := wH g ad sk ao) (M' := oP (P 0 0) B) rfl rfl (fun _ => hB) ?_
      exact h_iret C Y (by omega) (by omega) dL_best_14 ⟨1, 0, rfl, hR, fun h => absurd h (by decide), by decide⟩
    · refine ⟨15, ⟨[⟨0, 9, 12, 13⟩], ⟨0, 9, 15, 15⟩, _, rfl, (List.forall_mem_cons.mpr ⟨⟨by decide, eIA, (tg3 153 rfl rfl), by decide⟩, fun _ h => absurd h List.not_mem_nil⟩), rfl, by decide, (tg3 154 rfl rfl), by decide, rfl⟩, ?_⟩
      refine h_astore_n (CC _) dL_best_15 (by decide) rfl ?_
      refine h_iconst (CC _) dL_best_16 ?_
      refine e_cv (w' := wH g ad sk ao) (M' := oP (P 0 0) B) rfl rfl (fun _ => hB) ?_
      exact h_iret C Y (by omega) (by omega) dL_best_17 ⟨2, 0, rfl, hR, fun h => absurd h (by decide), by decide⟩
theorem mh_advice : MIH yL_advice cL_advice 5 (some .int) [(0, 10, 13, 13), (0, 10, 17, 15)] 4 := ⟨⟨tg5 28 rfl rfl, tg1 0 rfl rfl⟩, ⟨by decide +kernel, by decide +kernel, by decide +kernel⟩, by decide, by decide +kernel, tg5 27 rfl rfl⟩
theorem hl_advice {g : Gs} {ad : Nat → Nat} {sk : (Nat → Nat) × (Nat → Nat)} {ao : Nat} {P : Mem} {R : Int → Int → Mem → Prop} {S : Int → Mem → Prop} {ma na : Nat} {p1 p2 : Int} (hx : ∀ l : Launch, l.stackTraces = false → Ct (wC g ad sk) l yX9_advice cX9_advice 3 (some .int) 6 ma na [.ref (ad 0), vI p1, vI p2] (cX P) (fun v B => ∃ z : Int, v = some (vI z) ∧ Res R 0 z B ∧ S z B) (fun e B => (e = eIA ∧ Res R 1 0 B) ∨ (e = eIS ∧ Res R 2 0 B))) : ∀ l : Launch, l.stackTraces = false → CtH (wH g ad sk ao) l yL_advice cL_advice 5 (some .int) [(0, 10, 13, 13), (0, 10, 17, 15)] 14 ma na [.ref (ad 0), vI p1, vI p2, .ref ao] P (fun v P1 => ∃ k r : Int, v = some (vI k) ∧ HRes R S k r P1) := by
  intro l9 hl9
  refine ct_ofH hl9 mh_advice.2.2.2.1 (Nat.le_of_ble_eq_true rfl) (fun X hX C Y => ?_)
  have CC : ∀ ws, OkH (fun t => t = tableOf [(0, 10, 13, 13), (0, 10, 17, 15)]) (wV g (KH sk) ws) X cL_advice RL 5 14 ma na := fun ws => okH_ws rfl rfl rfl C
  have hst : (lnc X).stackTraces = false := by rw [hX]; exact hl9
  show E (wH g ad sk ao) X 0 0 P 0 [(0, .ref (ad 0)), (1, vI p1), (2, vI p2), (3, .ref ao)] []
  refine e_wf (fun hw => ?_)
  refine e_cv (w' := wV g (KH sk) ([oC g ao (P 0 0)] ++ wlX g ad (cX P))) (M' := M0) rfl rfl (fun _ => trivial) ?_
  refine h_aload_n (CC _) 3 dL_advice_0 rfl ?_
  refine h_iconst (CC _) dL_advice_1 ?_
  refine h_aload_n (CC _) 0 dL_advice_2 rfl ?_
  refine h_iload_n (CC _) 1 dL_advice_3 rfl ?_
  refine h_iload_n (CC _) 2 dL_advice_4 rfl ?_
  refine v_callX (g := g) (KK := KH sk) (w := wC g ad sk) (ws := [oC g ao (P 0 0)]) (M := cX P) (M9 := M0) (As := [vI p1, vI p2]) (rest := [vI 0, .ref ao]) (q0 := 0) (ci := 9) (CC _) rfl rfl (fun _ _ h => h.1.1) (wC_mv g ad sk) hw mi_X9_advice ms_X9_advice mv_X9_advice (tg5 29 rfl rfl) (hx (lnc X) hst) (wlX_st rfl) rfl (by decide) (Nat.le_of_ble_eq_true rfl) (by omega) (by omega) dL_advice_5 rfl (fun v B hq hB => ?_) (h_catch (M9 := M0) (w := wC g ad sk) (ws := [oC g ao (P 0 0)]) (CC []) (fun Ec B q hq hB => ?_))
  · obtain ⟨z, e1, hR, hS9⟩ := hq
    subst e1
    refine h_i2n (CC _) dL_advice_8 ?_
    refine h_last (q0 := 0) (x := nz z) (CC _) rfl dL_advice_9 ?_
    refine h_goto (CC _) 21 dL_advice_10 (by decide) ?_
    refine h_iconst (CC _) dL_advice_21 ?_
    refine e_cv (w' := wH g ad sk ao) (M' := oP (nz z) B) rfl rfl (fun _ => hB) ?_
    exact h_iret C Y (by omega) (by omega) dL_advice_22 ⟨0, z, rfl, hR, fun _ => ⟨rfl, hS9⟩, by decide⟩
  · rcases hq with ⟨rfl, hR⟩ | ⟨rfl, hR⟩
    · refine ⟨13, ⟨[], ⟨0, 10, 13, 13⟩, _, rfl, (fun z hz => absurd hz List.not_mem_nil), rfl, by decide, (tg3 153 rfl rfl), by decide, rfl⟩, ?_⟩
      refine h_astore (CC _) dL_advice_13 (by decide) rfl ?_
      refine h_iconst (CC _) dL_advice_15 ?_
      refine e_cv (w' := wH g ad sk ao) (M' := oP (P 0 0) B) rfl rfl (fun _ => hB) ?_
      exact h_iret C Y (by omega) (by omega) dL_advice_16 ⟨1, 0, rfl, hR, fun h => absurd h (by decide), by decide⟩
    · refine ⟨17, ⟨[⟨0, 10, 13, 13⟩], ⟨0, 10, 17, 15⟩, _, rfl, (List.forall_mem_cons.mpr ⟨⟨by decide, eIA, (tg3 153 rfl rfl), by decide⟩, fun _ h => absurd h List.not_mem_nil⟩), rfl, by decide, (tg3 154 rfl rfl), by decide, rfl⟩, ?_⟩
      refine h_astore (CC _) dL_advice_17 (by decide) rfl ?_
      refine h_iconst (CC _) dL_advice_19 ?_
      refine e_cv (w' := wH g ad sk ao) (M' := oP (P 0 0) B) rfl rfl (fun _ => hB) ?_
      exact h_iret C Y (by omega) (by omega) dL_advice_20 ⟨2, 0, rfl, hR, fun h => absurd h (by decide), by decide⟩
theorem mh_play : MIH yL_play cL_play 6 (some .int) [(0, 12, 15, 13), (0, 12, 19, 15)] 5 := ⟨⟨tg5 76 rfl rfl, tg1 0 rfl rfl⟩, ⟨by decide +kernel, by decide +kernel, by decide +kernel⟩, by decide, by decide +kernel, tg5 75 rfl rfl⟩
theorem hl_play {g : Gs} {ad : Nat → Nat} {sk : (Nat → Nat) × (Nat → Nat)} {ao : Nat} {P : Mem} {R : Int → Int → Mem → Prop} {S : Int → Mem → Prop} {ma na : Nat} {p1 p2 p3 : Int} (hx : ∀ l : Launch, l.stackTraces = false → Ct (wC g ad sk) l yX9_play cX9_play 4 (some .int) 7 ma na [.ref (ad 0), vI p1, vI p2, vI p3] (cX P) (fun v B => ∃ z : Int, v = some (vI z) ∧ Res R 0 z B ∧ S z B) (fun e B => (e = eIA ∧ Res R 1 0 B) ∨ (e = eIS ∧ Res R 2 0 B))) : ∀ l : Launch, l.stackTraces = false → CtH (wH g ad sk ao) l yL_play cL_play 6 (some .int) [(0, 12, 15, 13), (0, 12, 19, 15)] 14 ma na [.ref (ad 0), vI p1, vI p2, vI p3, .ref ao] P (fun v P1 => ∃ k r : Int, v = some (vI k) ∧ HRes R S k r P1) := by
  intro l9 hl9
  refine ct_ofH hl9 mh_play.2.2.2.1 (Nat.le_of_ble_eq_true rfl) (fun X hX C Y => ?_)
  have CC : ∀ ws, OkH (fun t => t = tableOf [(0, 12, 15, 13), (0, 12, 19, 15)]) (wV g (KH sk) ws) X cL_play RL 6 14 ma na := fun ws => okH_ws rfl rfl rfl C
  have hst : (lnc X).stackTraces = false := by rw [hX]; exact hl9
  show E (wH g ad sk ao) X 0 0 P 0 [(0, .ref (ad 0)), (1, vI p1), (2, vI p2), (3, vI p3), (4, .ref ao)] []
  refine e_wf (fun hw => ?_)
  refine e_cv (w' := wV g (KH sk) ([oC g ao (P 0 0)] ++ wlX g ad (cX P))) (M' := M0) rfl rfl (fun _ => trivial) ?_
  refine h_aload (CC _) 4 dL_play_0 rfl ?_
  refine h_iconst (CC _) dL_play_2 ?_
  refine h_aload_n (CC _) 0 dL_play_3 rfl ?_
  refine h_iload_n (CC _) 1 dL_play_4 rfl ?_
  refine h_iload_n (CC _) 2 dL_play_5 rfl ?_
  refine h_iload_n (CC _) 3 dL_play_6 rfl ?_
  refine v_callX (g := g) (KK := KH sk) (w := wC g ad sk) (ws := [oC g ao (P 0 0)]) (M := cX P) (M9 := M0) (As := [vI p1, vI p2, vI p3]) (rest := [vI 0, .ref ao]) (q0 := 0) (ci := 9) (CC _) rfl rfl (fun _ _ h => h.1.1) (wC_mv g ad sk) hw mi_X9_play ms_X9_play mv_X9_play (tg5 77 rfl rfl) (hx (lnc X) hst) (wlX_st rfl) rfl (by decide) (Nat.le_of_ble_eq_true rfl) (by omega) (by omega) dL_play_7 rfl (fun v B hq hB => ?_) (h_catch (M9 := M0) (w := wC g ad sk) (ws := [oC g ao (P 0 0)]) (CC []) (fun Ec B q hq hB => ?_))
  · obtain ⟨z, e1, hR, hS9⟩ := hq
    subst e1
    refine h_i2n (CC _) dL_play_10 ?_
    refine h_last (q0 := 0) (x := nz z) (CC _) rfl dL_play_11 ?_
    refine h_goto (CC _) 23 dL_play_12 (by decide) ?_
    refine h_iconst (CC _) dL_play_23 ?_
    refine e_cv (w' := wH g ad sk ao) (M' := oP (nz z) B) rfl rfl (fun _ => hB) ?_
    exact h_iret C Y (by omega) (by omega) dL_play_24 ⟨0, z, rfl, hR, fun _ => ⟨rfl, hS9⟩, by decide⟩
  · rcases hq with ⟨rfl, hR⟩ | ⟨rfl, hR⟩
    · refine ⟨15, ⟨[], ⟨0, 12, 15, 13⟩, _, rfl, (fun z hz => absurd hz List.not_mem_nil), rfl, by decide, (tg3 153 rfl rfl), by decide, rfl⟩, ?_⟩
      refine h_astore (CC _) dL_play_15 (by decide) rfl ?_
      refine h_iconst (CC _) dL_play_17 ?_
      refine e_cv (w' := wH g ad sk ao) (M' := oP (P 0 0) B) rfl rfl (fun _ => hB) ?_
      exact h_iret C Y (by omega) (by omega) dL_play_18 ⟨1, 0, rfl, hR, fun h => absurd h (by decide), by decide⟩
    · refine ⟨19, ⟨[⟨0, 12, 15, 13⟩], ⟨0, 12, 19, 15⟩, _, rfl, (List.forall_mem_cons.mpr ⟨⟨by decide, eIA, (tg3 153 rfl rfl), by decide⟩, fun _ h => absurd h List.not_mem_nil⟩), rfl, by decide, (tg3 154 rfl rfl), by decide, rfl⟩, ?_⟩
      refine h_astore (CC _) dL_play_19 (by decide) rfl ?_
      refine h_iconst (CC _) dL_play_21 ?_
      refine e_cv (w' := wH g ad sk ao) (M' := oP (P 0 0) B) rfl rfl (fun _ => hB) ?_
      exact h_iret C Y (by omega) (by omega) dL_play_22 ⟨2, 0, rfl, hR, fun h => absurd h (by decide), by decide⟩
theorem mh_type : MIH yL_type cL_type 4 (some .int) [(0, 9, 12, 13), (0, 9, 15, 15)] 3 := ⟨⟨tg5 91 rfl rfl, tg1 0 rfl rfl⟩, ⟨by decide +kernel, by decide +kernel, by decide +kernel⟩, by decide, by decide +kernel, tg5 90 rfl rfl⟩
theorem hl_type {g : Gs} {ad : Nat → Nat} {sk : (Nat → Nat) × (Nat → Nat)} {ao : Nat} {P : Mem} {R : Int → Int → Mem → Prop} {S : Int → Mem → Prop} {ma na : Nat} {p1 : Int} (hx : ∀ l : Launch, l.stackTraces = false → Ct (wC g ad sk) l yX9_type cX9_type 2 (some .int) 2 ma na [.ref (ad 0), vI p1] (cX P) (fun v B => ∃ z : Int, v = some (vI z) ∧ Res R 0 z B ∧ S z B) (fun e B => (e = eIA ∧ Res R 1 0 B) ∨ (e = eIS ∧ Res R 2 0 B))) : ∀ l : Launch, l.stackTraces = false → CtH (wH g ad sk ao) l yL_type cL_type 4 (some .int) [(0, 9, 12, 13), (0, 9, 15, 15)] 14 ma na [.ref (ad 0), vI p1, .ref ao] P (fun v P1 => ∃ k r : Int, v = some (vI k) ∧ HRes R S k r P1) := by
  intro l9 hl9
  refine ct_ofH hl9 mh_type.2.2.2.1 (Nat.le_of_ble_eq_true rfl) (fun X hX C Y => ?_)
  have CC : ∀ ws, OkH (fun t => t = tableOf [(0, 9, 12, 13), (0, 9, 15, 15)]) (wV g (KH sk) ws) X cL_type RL 4 14 ma na := fun ws => okH_ws rfl rfl rfl C
  have hst : (lnc X).stackTraces = false := by rw [hX]; exact hl9
  show E (wH g ad sk ao) X 0 0 P 0 [(0, .ref (ad 0)), (1, vI p1), (2, .ref ao)] []
  refine e_wf (fun hw => ?_)
  refine e_cv (w' := wV g (KH sk) ([oC g ao (P 0 0)] ++ wlX g ad (cX P))) (M' := M0) rfl rfl (fun _ => trivial) ?_
  refine h_aload_n (CC _) 2 dL_type_0 rfl ?_
  refine h_iconst (CC _) dL_type_1 ?_
  refine h_aload_n (CC _) 0 dL_type_2 rfl ?_
  refine h_iload_n (CC _) 1 dL_type_3 rfl ?_
  refine v_callX (g := g) (KK := KH sk) (w := wC g ad sk) (ws := [oC g ao (P 0 0)]) (M := cX P) (M9 := M0) (As := [vI p1]) (rest := [vI 0, .ref ao]) (q0 := 0) (ci := 9) (CC _) rfl rfl (fun _ _ h => h.1.1) (wC_mv g ad sk) hw mi_X9_type ms_X9_type mv_X9_type (tg5 92 rfl rfl) (hx (lnc X) hst) (wlX_st rfl) rfl (by decide) (Nat.le_of_ble_eq_true rfl) (by omega) (by omega) dL_type_4 rfl (fun v B hq hB => ?_) (h_catch (M9 := M0) (w := wC g ad sk) (ws := [oC g ao (P 0 0)]) (CC []) (fun Ec B q hq hB => ?_))
  · obtain ⟨z, e1, hR, hS9⟩ := hq
    subst e1
    refine h_i2n (CC _) dL_type_7 ?_
    refine h_last (q0 := 0) (x := nz z) (CC _) rfl dL_type_8 ?_
    refine h_goto (CC _) 18 dL_type_9 (by decide) ?_
    refine h_iconst (CC _) dL_type_18 ?_
    refine e_cv (w' := wH g ad sk ao) (M' := oP (nz z) B) rfl rfl (fun _ => hB) ?_
    exact h_iret C Y (by omega) (by omega) dL_type_19 ⟨0, z, rfl, hR, fun _ => ⟨rfl, hS9⟩, by decide⟩
  · rcases hq with ⟨rfl, hR⟩ | ⟨rfl, hR⟩
    · refine ⟨12, ⟨[], ⟨0, 9, 12, 13⟩, _, rfl, (fun z hz => absurd hz List.not_mem_nil), rfl, by decide, (tg3 153 rfl rfl), by decide, rfl⟩, ?_⟩
      refine h_astore_n (CC _) dL_type_12 (by decide) rfl ?_
      refine h_iconst (CC _) dL_type_13 ?_
      refine e_cv (w' := wH g ad sk ao) (M' := oP (P 0 0) B) rfl rfl (fun _ => hB) ?_
      exact h_iret C Y (by omega) (by omega) dL_type_14 ⟨1, 0, rfl, hR, fun h => absurd h (by decide), by decide⟩
    · refine ⟨15, ⟨[⟨0, 9, 12, 13⟩], ⟨0, 9, 15, 15⟩, _, rfl, (List.forall_mem_cons.mpr ⟨⟨by decide, eIA, (tg3 153 rfl rfl), by decide⟩, fun _ h => absurd h List.not_mem_nil⟩), rfl, by decide, (tg3 154 rfl rfl), by decide, rfl⟩, ?_⟩
      refine h_astore_n (CC _) dL_type_15 (by decide) rfl ?_
      refine h_iconst (CC _) dL_type_16 ?_
      refine e_cv (w' := wH g ad sk ao) (M' := oP (P 0 0) B) rfl rfl (fun _ => hB) ?_
      exact h_iret C Y (by omega) (by omega) dL_type_17 ⟨2, 0, rfl, hR, fun h => absurd h (by decide), by decide⟩
theorem mh_read : MIH yL_read cL_read 3 (some .int) [(0, 8, 11, 13), (0, 8, 14, 15)] 2 := ⟨⟨tg5 104 rfl rfl, tg1 0 rfl rfl⟩, ⟨by decide +kernel, by decide +kernel, by decide +kernel⟩, by decide, by decide +kernel, tg5 103 rfl rfl⟩
theorem hl_read {g : Gs} {ad : Nat → Nat} {sk : (Nat → Nat) × (Nat → Nat)} {ao : Nat} {P : Mem} {R : Int → Int → Mem → Prop} {S : Int → Mem → Prop} {ma na : Nat} (hx : ∀ l : Launch, l.stackTraces = false → Ct (wC g ad sk) l yX9_read cX9_read 3 (some .int) 10 ma na [.ref (ad 0)] (cX P) (fun v B => ∃ z : Int, v = some (vI z) ∧ Res R 0 z B ∧ S z B) (fun e B => (e = eIA ∧ Res R 1 0 B) ∨ (e = eIS ∧ Res R 2 0 B))) : ∀ l : Launch, l.stackTraces = false → CtH (wH g ad sk ao) l yL_read cL_read 3 (some .int) [(0, 8, 11, 13), (0, 8, 14, 15)] 14 ma na [.ref (ad 0), .ref ao] P (fun v P1 => ∃ k r : Int, v = some (vI k) ∧ HRes R S k r P1) := by
  intro l9 hl9
  refine ct_ofH hl9 mh_read.2.2.2.1 (Nat.le_of_ble_eq_true rfl) (fun X hX C Y => ?_)
  have CC : ∀ ws, OkH (fun t => t = tableOf [(0, 8, 11, 13), (0, 8, 14, 15)]) (wV g (KH sk) ws) X cL_read RL 3 14 ma na := fun ws => okH_ws rfl rfl rfl C
  have hst : (lnc X).stackTraces = false := by rw [hX]; exact hl9
  show E (wH g ad sk ao) X 0 0 P 0 [(0, .ref (ad 0)), (1, .ref ao)] []
  refine e_wf (fun hw => ?_)
  refine e_cv (w' := wV g (KH sk) ([oC g ao (P 0 0)] ++ wlX g ad (cX P))) (M' := M0) rfl rfl (fun _ => trivial) ?_
  refine h_aload_n (CC _) 1 dL_read_0 rfl ?_
  refine h_iconst (CC _) dL_read_1 ?_
  refine h_aload_n (CC _) 0 dL_read_2 rfl ?_
  refine v_callX (g := g) (KK := KH sk) (w := wC g ad sk) (ws := [oC g ao (P 0 0)]) (M := cX P) (M9 := M0) (As := []) (rest := [vI 0, .ref ao]) (q0 := 0) (ci := 9) (CC _) rfl rfl (fun _ _ h => h.1.1) (wC_mv g ad sk) hw mi_X9_read ms_X9_read mv_X9_read (tg5 105 rfl rfl) (hx (lnc X) hst) (wlX_st rfl) rfl (by decide) (Nat.le_of_ble_eq_true rfl) (by omega) (by omega) dL_read_3 rfl (fun v B hq hB => ?_) (h_catch (M9 := M0) (w := wC g ad sk) (ws := [oC g ao (P 0 0)]) (CC []) (fun Ec B q hq hB => ?_))
  · obtain ⟨z, e1, hR, hS9⟩ := hq
    subst e1
    refine h_i2n (CC _) dL_read_6 ?_
    refine h_last (q0 := 0) (x := nz z) (CC _) rfl dL_read_7 ?_
    refine h_goto (CC _) 17 dL_read_8 (by decide) ?_
    refine h_iconst (CC _) dL_read_17 ?_
    refine e_cv (w' := wH g ad sk ao) (M' := oP (nz z) B) rfl rfl (fun _ => hB) ?_
    exact h_iret C Y (by omega) (by omega) dL_read_18 ⟨0, z, rfl, hR, fun _ => ⟨rfl, hS9⟩, by decide⟩
  · rcases hq with ⟨rfl, hR⟩ | ⟨rfl, hR⟩
    · refine ⟨11, ⟨[], ⟨0, 8, 11, 13⟩, _, rfl, (fun z hz => absurd hz List.not_mem_nil), rfl, by decide, (tg3 153 rfl rfl), by decide, rfl⟩, ?_⟩
      refine h_astore_n (CC _) dL_read_11 (by decide) rfl ?_
      refine h_iconst (CC _) dL_read_12 ?_
      refine e_cv (w' := wH g ad sk ao) (M' := oP (P 0 0) B) rfl rfl (fun _ => hB) ?_
      exact h_iret C Y (by omega) (by omega) dL_read_13 ⟨1, 0, rfl, hR, fun h => absurd h (by decide), by decide⟩
    · refine ⟨14, ⟨[⟨0, 8, 11, 13⟩], ⟨0, 8, 14, 15⟩, _, rfl, (List.forall_mem_cons.mpr ⟨⟨by decide, eIA, (tg3 153 rfl rfl), by decide⟩, fun _ h => absurd h List.not_mem_nil⟩), rfl, by decide, (tg3 154 rfl rfl), by decide, rfl⟩, ?_⟩
      refine h_astore_n (CC _) dL_read_14 (by decide) rfl ?_
      refine h_iconst (CC _) dL_read_15 ?_
      refine e_cv (w' := wH g ad sk ao) (M' := oP (P 0 0) B) rfl rfl (fun _ => hB) ?_
      exact h_iret C Y (by omega) (by omega) dL_read_16 ⟨2, 0, rfl, hR, fun h => absurd h (by decide), by decide⟩
theorem mh_write : MIH yL_write cL_write 4 (some .int) [(0, 9, 12, 21), (0, 9, 15, 15)] 3 := ⟨⟨tg5 125 rfl rfl, tg1 0 rfl rfl⟩, ⟨by decide +kernel, by decide +kernel, by decide +kernel⟩, by decide, by decide +kernel, tg5 124 rfl rfl⟩
theorem hl_write {g : Gs} {ad : Nat → Nat} {sk : (Nat → Nat) × (Nat → Nat)} {ao : Nat} {P : Mem} {R : Int → Int → Mem → Prop} {S : Int → Mem → Prop} {ma na : Nat} {p1 : Int} (hx : ∀ l : Launch, l.stackTraces = false → Ct (wC g ad sk) l yX9_write cX9_write 2 (some .int) 12 ma na [.ref (ad 0), vI p1] (cX P) (fun v B => ∃ z : Int, v = some (vI z) ∧ Res R 0 z B ∧ S z B) (fun e B => (e = eIO ∧ Res R 1 0 B) ∨ (e = eIS ∧ Res R 2 0 B))) : ∀ l : Launch, l.stackTraces = false → CtH (wH g ad sk ao) l yL_write cL_write 4 (some .int) [(0, 9, 12, 21), (0, 9, 15, 15)] 14 ma na [.ref (ad 0), vI p1, .ref ao] P (fun v P1 => ∃ k r : Int, v = some (vI k) ∧ HRes R S k r P1) := by
  intro l9 hl9
  refine ct_ofH hl9 mh_write.2.2.2.1 (Nat.le_of_ble_eq_true rfl) (fun X hX C Y => ?_)
  have CC : ∀ ws, OkH (fun t => t = tableOf [(0, 9, 12, 21), (0, 9, 15, 15)]) (wV g (KH sk) ws) X cL_write RL 4 14 ma na := fun ws => okH_ws rfl rfl rfl C
  have hst : (lnc X).stackTraces = false := by rw [hX]; exact hl9
  show E (wH g ad sk ao) X 0 0 P 0 [(0, .ref (ad 0)), (1, vI p1), (2, .ref ao)] []
  refine e_wf (fun hw => ?_)
  refine e_cv (w' := wV g (KH sk) ([oC g ao (P 0 0)] ++ wlX g ad (cX P))) (M' := M0) rfl rfl (fun _ => trivial) ?_
  refine h_aload_n (CC _) 2 dL_write_0 rfl ?_
  refine h_iconst (CC _) dL_write_1 ?_
  refine h_aload_n (CC _) 0 dL_write_2 rfl ?_
  refine h_iload_n (CC _) 1 dL_write_3 rfl ?_
  refine v_callX (g := g) (KK := KH sk) (w := wC g ad sk) (ws := [oC g ao (P 0 0)]) (M := cX P) (M9 := M0) (As := [vI p1]) (rest := [vI 0, .ref ao]) (q0 := 0) (ci := 9) (CC _) rfl rfl (fun _ _ h => h.1.1) (wC_mv g ad sk) hw mi_X9_write ms_X9_write mv_X9_write (tg5 126 rfl rfl) (hx (lnc X) hst) (wlX_st rfl) rfl (by decide) (Nat.le_of_ble_eq_true rfl) (by omega) (by omega) dL_write_4 rfl (fun v B hq hB => ?_) (h_catch (M9 := M0) (w := wC g ad sk) (ws := [oC g ao (P 0 0)]) (CC []) (fun Ec B q hq hB => ?_))
  · obtain ⟨z, e1, hR, hS9⟩ := hq
    subst e1
    refine h_i2n (CC _) dL_write_7 ?_
    refine h_last (q0 := 0) (x := nz z) (CC _) rfl dL_write_8 ?_
    refine h_goto (CC _) 18 dL_write_9 (by decide) ?_
    refine h_iconst (CC _) dL_write_18 ?_
    refine e_cv (w' := wH g ad sk ao) (M' := oP (nz z) B) rfl rfl (fun _ => hB) ?_
    exact h_iret C Y (by omega) (by omega) dL_write_19 ⟨0, z, rfl, hR, fun _ => ⟨rfl, hS9⟩, by decide⟩
  · rcases hq with ⟨rfl, hR⟩ | ⟨rfl, hR⟩
    · refine ⟨12, ⟨[], ⟨0, 9, 12, 21⟩, _, rfl, (fun z hz => absurd hz List.not_mem_nil), rfl, by decide, (tg4 12 rfl rfl), by decide, rfl⟩, ?_⟩
      refine h_astore_n (CC _) dL_write_12 (by decide) rfl ?_
      refine h_iconst (CC _) dL_write_13 ?_
      refine e_cv (w' := wH g ad sk ao) (M' := oP (P 0 0) B) rfl rfl (fun _ => hB) ?_
      exact h_iret C Y (by omega) (by omega) dL_write_14 ⟨1, 0, rfl, hR, fun h => absurd h (by decide), by decide⟩
    · refine ⟨15, ⟨[⟨0, 9, 12, 21⟩], ⟨0, 9, 15, 15⟩, _, rfl, (List.forall_mem_cons.mpr ⟨⟨by decide, eIO, (tg4 12 rfl rfl), by decide⟩, fun _ h => absurd h List.not_mem_nil⟩), rfl, by decide, (tg3 154 rfl rfl), by decide, rfl⟩, ?_⟩
      refine h_astore_n (CC _) dL_write_15 (by decide) rfl ?_
      refine h_iconst (CC _) dL_write_16 ?_
      refine e_cv (w' := wH g ad sk ao) (M' := oP (P 0 0) B) rfl rfl (fun _ => hB) ?_
      exact h_iret C Y (by omega) (by omega) dL_write_17 ⟨2, 0, rfl, hR, fun h => absurd h (by decide), by decide⟩
theorem mh_undo : MIH yL_undo cL_undo 3 (some .int) [(0, 8, 11, 15)] 2 := ⟨⟨tg5 151 rfl rfl, tg1 0 rfl rfl⟩, ⟨by decide +kernel, by decide +kernel, by decide +kernel⟩, by decide, by decide +kernel, tg5 150 rfl rfl⟩
theorem hl_undo {g : Gs} {ad : Nat → Nat} {sk : (Nat → Nat) × (Nat → Nat)} {ao : Nat} {P : Mem} {R : Int → Int → Mem → Prop} {S : Int → Mem → Prop} {ma na : Nat} (hx : ∀ l : Launch, l.stackTraces = false → Ct (wC g ad sk) l yX9_undo cX9_undo 3 (some .int) 2 ma na [.ref (ad 0)] (cX P) (fun v B => ∃ z : Int, v = some (vI z) ∧ Res R 0 z B ∧ S z B) (fun e B => e = eIS ∧ Res R 1 0 B)) : ∀ l : Launch, l.stackTraces = false → CtH (wH g ad sk ao) l yL_undo cL_undo 3 (some .int) [(0, 8, 11, 15)] 14 ma na [.ref (ad 0), .ref ao] P (fun v P1 => ∃ k r : Int, v = some (vI k) ∧ HRes R S k r P1) := by
  intro l9 hl9
  refine ct_ofH hl9 mh_undo.2.2.2.1 (Nat.le_of_ble_eq_true rfl) (fun X hX C Y => ?_)
  have CC : ∀ ws, OkH (fun t => t = tableOf [(0, 8, 11, 15)]) (wV g (KH sk) ws) X cL_undo RL 3 14 ma na := fun ws => okH_ws rfl rfl rfl C
  have hst : (lnc X).stackTraces = false := by rw [hX]; exact hl9
  show E (wH g ad sk ao) X 0 0 P 0 [(0, .ref (ad 0)), (1, .ref ao)] []
  refine e_wf (fun hw => ?_)
  refine e_cv (w' := wV g (KH sk) ([oC g ao (P 0 0)] ++ wlX g ad (cX P))) (M' := M0) rfl rfl (fun _ => trivial) ?_
  refine h_aload_n (CC _) 1 dL_undo_0 rfl ?_
  refine h_iconst (CC _) dL_undo_1 ?_
  refine h_aload_n (CC _) 0 dL_undo_2 rfl ?_
  refine v_callX (g := g) (KK := KH sk) (w := wC g ad sk) (ws := [oC g ao (P 0 0)]) (M := cX P) (M9 := M0) (As := []) (rest := [vI 0, .ref ao]) (q0 := 0) (ci := 9) (CC _) rfl rfl (fun _ _ h => h.1.1) (wC_mv g ad sk) hw mi_X9_undo ms_X9_undo mv_X9_undo (tg5 152 rfl rfl) (hx (lnc X) hst) (wlX_st rfl) rfl (by decide) (Nat.le_of_ble_eq_true rfl) (by omega) (by omega) dL_undo_3 rfl (fun v B hq hB => ?_) (h_catch (M9 := M0) (w := wC g ad sk) (ws := [oC g ao (P 0 0)]) (CC []) (fun Ec B q hq hB => ?_))
  · obtain ⟨z, e1, hR, hS9⟩ := hq
    subst e1
    refine h_i2n (CC _) dL_undo_6 ?_
    refine h_last (q0 := 0) (x := nz z) (CC _) rfl dL_undo_7 ?_
    refine h_goto (CC _) 14 dL_undo_8 (by decide) ?_
    refine h_iconst (CC _) dL_undo_14 ?_
    refine e_cv (w' := wH g ad sk ao) (M' := oP (nz z) B) rfl rfl (fun _ => hB) ?_
    exact h_iret C Y (by omega) (by omega) dL_undo_15 ⟨0, z, rfl, hR, fun _ => ⟨rfl, hS9⟩, by decide⟩
  · obtain ⟨rfl, hR⟩ := hq
    refine ⟨11, ⟨[], ⟨0, 8, 11, 15⟩, _, rfl, (fun z hz => absurd hz List.not_mem_nil), rfl, by decide, (tg3 154 rfl rfl), by decide, rfl⟩, ?_⟩
    refine h_astore_n (CC _) dL_undo_11 (by decide) rfl ?_
    refine h_iconst (CC _) dL_undo_12 ?_
    refine e_cv (w' := wH g ad sk ao) (M' := oP (P 0 0) B) rfl rfl (fun _ => hB) ?_
    exact h_iret C Y (by omega) (by omega) dL_undo_13 ⟨1, 0, rfl, hR, fun h => absurd h (by decide), by decide⟩
