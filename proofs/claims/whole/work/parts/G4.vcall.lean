/-! ===== calls out of frames whose world is a list ===== -/
/-- as OkB; tb says what is known of the exception table -/
def OkH (tb : List ExceptionTableEntry → Prop) (w : Wd) (X : Cx) (cc : ByteArray) (own : String) (nL d mc ms : Nat) : Prop :=
  match X with
  | (p, l, e, R, s, m, args, below, meth, c, A, Q, nL') => p.tables.exec = Jvm.exec ∧ c.code = cc ∧ c.maxLocals = nL ∧ s.vm.findClass own = some m.cls ∧ (∀ v ∈ gT, v.before args s = true) ∧ (∀ q, s.heap.size ≤ q → A q) ∧ va_K w.1 vwCl w.2.1 s ∧ w.2.2.2.2 A s ∧ KMv w ∧ nL' = nL ∧ 16 * d ≤ R.frames ∧ 200 * d ≤ R.locals ∧ mc ≤ R.cells ∧ ms ≤ R.slots ∧ meth.locks = false ∧ tb c.exceptionTable.toList
theorem OkB.h {w : Wd} {X : Cx} {cc : ByteArray} {own : String} {nL d mc ms : Nat} (C : OkB w X cc own nL d mc ms) : OkH (fun t => ∀ x ∈ t, False) w X cc own nL d mc ms := C
section VC
variable {tb : List ExceptionTableEntry → Prop} {g : Gs} {KK : (Nat → Prop) → State → Prop} {X : Cx} {cc cc' : ByteArray} {own : String} {nL d mc ms nL' d' mc' ms' : Nat} {k n : Nat} {M M9 : Mem} {pc : Nat} {lv : List (Nat × Value)} {st As rest : List Value} {PQ' : Option Value → Mem → Prop} {PX' : String → Mem → Prop} {y : MethodName} {ret' : Option FieldType} {ix : Nat} {ws : va_W}
/-- a call of an instance method whose contract speaks of w; what it throws goes to kthr -/
theorem v_callX {w : Wd} {b q0 ci N : Nat} {Cn : String} {T : u_T} {fs : List Value} (C : OkH tb (wV g KK (ws ++ w.2.2.1 M)) X cc own nL d mc ms) (h1 : w.1 = g.1) (h2 : w.2.1 = tysG g) (hKw : ∀ A s, KK A s → w.2.2.2.2 A s) (hmw : KMv w) (hwf : w.2.2.2.1 M) (I : MI y cc' nL' ret' As.length) (hin : Cond.instanceMethod y ∈ gT) (hse : Cond.selects Cn y y ∈ gT) (hlk : Cond.methodLink own ix y ∈ gT)
    (hC : Ct w (lnc X) y cc' nL' ret' d' mc' ms' (.ref b :: As) M PQ' PX') (he : (w.2.2.1 M)[q0]? = some (b, .inr (ci, fs))) (hc : vwCl[ci]? = some (Cn, T, N)) (hdd : d' < d) (hr8 : (rest.map fun v => v.category).sum ≤ 8) (hkc : k + mc' ≤ mc) (hns : n + ms' ≤ ms)
    (hd : decode cc pc = .ok (.invokevirtual ix, 3)) (hs0 : st = As.reverse ++ .ref b :: rest)
    (kret : ∀ v M1, PQ' v M1 → w.2.2.2.1 M1 → E (wV g KK (ws ++ w.2.2.1 M1)) X (k + mc') (n + ms') M9 (pc + 3) lv (v.toList ++ rest))
    (kthr : match X with
      | (p, l, e, R, s, m, args, below, meth, c, A, Q, nL9) => ∀ (Ec : String) (M1 : Mem) (H1 : Heap) (locs1 : List Loc) (ls : Array Slot) (q : Addr) (ce : Cell), PX' Ec M1 → w.2.2.2.1 M1 → va_P g.1 vwCl (ws ++ w.2.2.1 M1) H1 → va_D A (ws ++ w.2.2.1 M1) → va_S A s.heap H1 locs1 → lv_has ls nL9 lv → H1[q]? = some ce → ce.vm = .none → s.vm.findClass Ec = some ce.cls → vx_W p l e R s m args below meth c H1 locs1 (k + mc') (n + ms') Q (F0 m pc ls rest) q) : E (wV g KK (ws ++ w.2.2.1 M)) X k n M9 pc lv st := by
  subst hs0
  obtain ⟨p, l, e, R, s, m, args, below, meth, c, A, Q, nL9⟩ := X
  obtain ⟨hx, hb, hml, hown, hts, hA, hK, hKK, hmv, rfl, hfr, hlo, hmc, hms, hlk2, htb⟩ := C
  obtain ⟨⟨hcode, hini⟩, hdy, hnl, -⟩ := I
  intro hw H locs ls hP hD hS hl
  have hP9 : va_P w.1 vwCl (ws ++ w.2.2.1 M) H := by rw [h1]; exact hP
  have hDc : va_D A (w.2.2.1 M) := by
    refine va_D.of ?_ (fun q hq => hD.mem q (List.mem_append_right _ hq))
    have := hD.nd
    rw [List.map_append, List.nodup_append] at this
    exact this.2.1
  have hPc : va_P w.1 vwCl (w.2.2.1 M) H := va_P.mem hP9 (fun q hq => List.mem_append_right _ hq)
  have hKw9 : va_K w.1 vwCl w.2.1 s := by rw [h1, h2]; exact hK
  have hM := hC hwf hmw H.size
  have hrun := vx_runV (g := F0 m pc ls (As.reverse ++ .ref b :: rest)) (locs := locs) (cells := k) (slots := n) (below := below) (meth := meth) (e := e) (rest := rest) (Ts := gT) (own := own) (R := R) ⟨hx, hb, hml, hown, hts⟩ hM
    (⟨callB_of As.length hts (goodIn_law hcode) rfl rfl rfl (hts _ hini) (hts _ hlk) ⟨hdy.1.1, hdy.1.2, hdy.2⟩ ⟨by show 16 * d' + 1 ≤ R.frames; omega, by show 8 + (nL' + 11) + 200 * d' ≤ R.locals; omega⟩, hts _ hin, hts _ hse⟩ : CallW R s args own Cn ix y cc' nL' ret' _ _ mc' ms' As.length)
    (H := H) ⟨pc_blind hmw, va_recv hKw9 hPc hc he, fun U hU hW => ct_pre hmw hPc hDc hS hA hKw9 (hKw A s hKK) hU hW⟩ rfl rfl hl.1 rfl (lv_room hr8) hd ⟨by omega, by omega⟩
  exact e_runA (wr := ws) (w := w) hrun hP9 hD hS hA (fun v M1 H1 locs1 hq hw1 hP1 hD1 hS1 => kret v M1 hq hw1 trivial H1 locs1 ls (by rw [← h1]; exact hP1) hD1 hS1 hl) (fun Ec M1 H1 locs1 q ce hq hw1 hP1 hD1 hS1 hce hcv hcl => kthr Ec M1 H1 locs1 ls q ce hq hw1 (by rw [← h1]; exact hP1) hD1 hS1 hl hce hcv hcl)
/-- the callee throws nothing -/
theorem v_callV {w : Wd} {b q0 ci N : Nat} {Cn : String} {T : u_T} {fs : List Value} (C : OkH tb (wV g KK (ws ++ w.2.2.1 M)) X cc own nL d mc ms) (h1 : w.1 = g.1) (h2 : w.2.1 = tysG g) (hKw : ∀ A s, KK A s → w.2.2.2.2 A s) (hmw : KMv w) (hwf : w.2.2.2.1 M) (I : MI y cc' nL' ret' As.length) (hin : Cond.instanceMethod y ∈ gT) (hse : Cond.selects Cn y y ∈ gT) (hlk : Cond.methodLink own ix y ∈ gT)
    (hC : Ct w (lnc X) y cc' nL' ret' d' mc' ms' (.ref b :: As) M PQ' NoX) (he : (w.2.2.1 M)[q0]? = some (b, .inr (ci, fs))) (hc : vwCl[ci]? = some (Cn, T, N)) (hdd : d' < d) (hr8 : (rest.map fun v => v.category).sum ≤ 8) (hkc : k + mc' ≤ mc) (hns : n + ms' ≤ ms)
    (hd : decode cc pc = .ok (.invokevirtual ix, 3)) (hs0 : st = As.reverse ++ .ref b :: rest)
    (kret : ∀ v M1, PQ' v M1 → w.2.2.2.1 M1 → E (wV g KK (ws ++ w.2.2.1 M1)) X (k + mc') (n + ms') M9 (pc + 3) lv (v.toList ++ rest)) : E (wV g KK (ws ++ w.2.2.1 M)) X k n M9 pc lv st := by
  refine v_callX C h1 h2 hKw hmw hwf I hin hse hlk hC he hc hdd hr8 hkc hns hd hs0 kret ?_
  obtain ⟨p, l, e, R, s, m, args, below, meth, c, A, Q, nL9⟩ := X
  exact fun Ec M1 H1 locs1 ls q ce h9 => absurd h9 id
end VC
