/-! ===== contracts, returns, calls ===== -/
def QcW (w : Wd) (A : Nat → Prop) (PQ : Option Value → Mem → Prop) : Array Value → State → Outcome → State → Prop := fun _ st oc t => ∃ (v : Option Value) (M : Mem), oc = .returned v ∧ PQ v M ∧ w.2.2.2.1 M ∧ va_P w.1 vwCl (w.2.2.1 M) t.heap ∧ va_D A (w.2.2.1 M) ∧ va_F A st t
def XcW (w : Wd) (A : Nat → Prop) (PX : String → Mem → Prop) : String → State → State → Prop := fun Ec st t => ∃ M : Mem, PX Ec M ∧ w.2.2.2.1 M ∧ va_P w.1 vwCl (w.2.2.1 M) t.heap ∧ va_D A (w.2.2.1 M) ∧ va_F A st t
def NoX : String → Mem → Prop := fun _ _ => False
def rmD (d mc ms : Nat) : Room := { frames := 16 * d, cells := mc, slots := ms, locals := 200 * d }
def PcW (w : Wd) (M : Mem) (av : List Value) (sz : Nat) : Array Value → State → Prop := va_Pc av (fun U => U.heap.size = sz ∧ va_P w.1 vwCl (w.2.2.1 M) U.heap ∧ va_D (fun _ => True) (w.2.2.1 M) ∧ va_K w.1 vwCl w.2.1 U ∧ w.2.2.2.2 (va_A (w.2.2.1 M) sz) U)
/-- the contract of a method: from the memory M it returns as PQ says, or throws as PX says -/
def Ct (w : Wd) (l : Launch) (y : MethodName) (cc : ByteArray) (nL : Nat) (ret : Option FieldType) (d mc ms : Nat) (av : List Value) (M : Mem) (PQ : Option Value → Mem → Prop) (PX : String → Mem → Prop) : Prop :=
  w.2.2.2.1 M → KMv w → ∀ sz : Nat, vx_Met l y (.code y cc nL ret :: gT) (rmD d mc ms) (PcW w M av sz) (QcW w (va_A (w.2.2.1 M) sz) PQ) (XcW w (va_A (w.2.2.1 M) sz) PX) mc ms (va_A (w.2.2.1 M) sz)
/-- what a body owes at its end -/
def OkR (w : Wd) (X : Cx) (ret : Option FieldType) (mc ms : Nat) (PQ : Option Value → Mem → Prop) (PX : String → Mem → Prop) : Prop :=
  match X with
  | (p, l, e, R, s, m, args, below, meth, c, A, Q, nL) => Q = vx_MQ below (QcW w A PQ) (XcW w A PX) args s mc ms A ∧ meth.sig.returnType = ret ∧ l.stackTraces = false
def lnc (X : Cx) : Launch := X.2.1
theorem wd_self {ws : va_W} {sz : Nat} (h : va_D (fun _ => True) ws) : va_D (va_A ws sz) ws := ⟨h.1, fun k q hq => Or.inl ⟨k, q.2, hq⟩⟩
theorem ct_of {w : Wd} {l : Launch} {y : MethodName} {cc : ByteArray} {nL : Nat} {ret : Option FieldType} {d mc ms : Nat} {av : List Value} {M : Mem} {PQ : Option Value → Mem → Prop} {PX : String → Mem → Prop}
    (hl : l.stackTraces = false) (hy : plainName y.cls = true) (hav : (lg_sl av).length ≤ nL) (body : ∀ X : Cx, lnc X = l → OkB w X cc y.cls nL d mc ms → OkR w X ret mc ms PQ PX → E w X 0 0 M 0 (lv_args 0 av) []) : Ct w l y cc nL ret d mc ms av M PQ PX := by
  intro hwf hmv sz
  refine vx_ofW (cc := cc) (maxL := nL) (ret := ret) hy rfl ?_
  intro p e s m args below meth c s₁ B hml htb hv
  obtain ⟨rfl, hsz, hP, hD, hK, hKK⟩ := hv
  subst hsz
  have hts := atoms_spec (ws := Jvm.Cond.code y cc nL ret :: gT) B.pre
  have hA : ∀ q : Nat, s.heap.size ≤ q → va_A (w.2.2.1 M) s.heap.size q := fun q h => Or.inr h
  have hE := body (p, l, e, (headSpec (Jvm.Cond.code y cc nL ret :: gT) (rmD d mc ms)).room, s, m, av.toArray, below, meth, c, va_A (w.2.2.1 M) s.heap.size, vx_MQ below (QcW w (va_A (w.2.2.1 M) s.heap.size) PQ) (XcW w (va_A (w.2.2.1 M) s.heap.size) PX) av.toArray s mc ms (va_A (w.2.2.1 M) s.heap.size), nL) rfl
    ⟨B.exec, B.bytes, hml, findClass_of_methodNamed B.named, fun v hv => hts v (List.mem_cons_of_mem _ hv), hA, hK, hKK, hmv, rfl, Nat.le_refl _, Nat.le_refl _, Nat.le_refl _, Nat.le_refl _, B.notSynchronized, htb⟩ ⟨rfl, B.returns, hl⟩
  rw [lg_entry_eq]
  exact hE hwf s.heap [] _ hP (wd_self hD) va_S.rf (lv_entry av hav)
section ECALL
variable {w : Wd} {X : Cx} {cc : ByteArray} {own : String} {nL d mc ms : Nat} {k n : Nat} {M : Mem} {pc : Nat} {lv lv' : List (Nat × Value)} {st : List Value} {PQ : Option Value → Mem → Prop} {PX : String → Mem → Prop}
theorem e_iret {v : Int} (C : OkB w X cc own nL d mc ms) (Y : OkR w X (some .int) mc ms PQ PX) (hk : k ≤ mc) (hn : n ≤ ms) (hd : decode cc pc = .ok (.ireturn, 1)) (hq : PQ (some (vI v)) M) : E w X k n M pc lv [vI v] := by
  obtain ⟨p, l, e, R, s, m, args, below, meth, c, A, Q, nL9⟩ := X
  obtain ⟨hx, hb, hml, hown, hts, hA, hK, hKK, hmv, rfl, hfr, hlo, hmc, hms, hlk, htb⟩ := C
  obtain ⟨rfl, hr, -⟩ := Y
  intro hw H locs ls hP hD hS hl
  exact W.widen hk hn (vx_ret (W.iret hx hb hr (fun t ht hW => ⟨_, M, rfl, hq, hw, by rw [ht]; exact hP, hD, hS.F ht⟩) hS.2.2 hd))
theorem e_zret {v : Int} (C : OkB w X cc own nL d mc ms) (Y : OkR w X (some .boolean) mc ms PQ PX) (hk : k ≤ mc) (hn : n ≤ ms) (hv : v = 0 ∨ v = 1) (hd : decode cc pc = .ok (.ireturn, 1)) (hq : PQ (some (vI v)) M) : E w X k n M pc lv [vI v] := by
  obtain ⟨p, l, e, R, s, m, args, below, meth, c, A, Q, nL9⟩ := X
  obtain ⟨hx, hb, hml, hown, hts, hA, hK, hKK, hmv, rfl, hfr, hlo, hmc, hms, hlk, htb⟩ := C
  obtain ⟨rfl, hr, -⟩ := Y
  intro hw H locs ls hP hD hS hl
  exact W.widen hk hn (vx_ret (W.zret hx hb hr (by rcases hv with rfl | rfl <;> rfl) (fun t ht hW => ⟨_, M, rfl, hq, hw, by rw [ht]; exact hP, hD, hS.F ht⟩) hS.2.2 hd))
theorem e_lret {v : Int} (C : OkB w X cc own nL d mc ms) (Y : OkR w X (some .long) mc ms PQ PX) (hk : k ≤ mc) (hn : n ≤ ms) (hd : decode cc pc = .ok (.lreturn, 1)) (hq : PQ (some (vL v)) M) : E w X k n M pc lv [vL v] := by
  obtain ⟨p, l, e, R, s, m, args, below, meth, c, A, Q, nL9⟩ := X
  obtain ⟨hx, hb, hml, hown, hts, hA, hK, hKK, hmv, rfl, hfr, hlo, hmc, hms, hlk, htb⟩ := C
  obtain ⟨rfl, hr, -⟩ := Y
  intro hw H locs ls hP hD hS hl
  exact W.widen hk hn (vx_ret (W.lret hx hb hr (fun t ht hW => ⟨_, M, rfl, hq, hw, by rw [ht]; exact hP, hD, hS.F ht⟩) hS.2.2 hd))
theorem e_vret (C : OkB w X cc own nL d mc ms) (Y : OkR w X none mc ms PQ PX) (hk : k ≤ mc) (hn : n ≤ ms) (hd : decode cc pc = .ok (.return_, 1)) (hq : PQ none M) : E w X k n M pc lv [] := by
  obtain ⟨p, l, e, R, s, m, args, below, meth, c, A, Q, nL9⟩ := X
  obtain ⟨hx, hb, hml, hown, hts, hA, hK, hKK, hmv, rfl, hfr, hlo, hmc, hms, hlk, htb⟩ := C
  obtain ⟨rfl, hr, -⟩ := Y
  intro hw H locs ls hP hD hS hl
  exact W.widen hk hn (vx_ret (W.vret hx hb hr (fun t ht hW => ⟨_, M, rfl, hq, hw, by rw [ht]; exact hP, hD, hS.F ht⟩) hS.2.2 hd))
theorem goodIn_law {y : MethodName} {bytes : ByteArray} {maxL : Nat} {ret : Option FieldType} (h : Cond.code y bytes maxL ret ∈ gT) : GoodIn gT (Cond.code y bytes maxL ret :: gT) := by
  intro v hv
  have hm : v ∈ gT := (List.mem_cons.mp hv).elim (fun q => q ▸ h) id
  exact ⟨hm, good_of_word (gT_good hm)⟩
theorem pc_blind {av : List Value} {sz : Nat} (hmv : KMv w) : FrameBlind (PcW w M av sz) := by
  intro a U g mk h
  obtain ⟨h1, h2, h3, h4, h5, h6⟩ := h
  exact ⟨h1, h2, h3, h4, va_K.moved (u := U) (U := U.calling g mk a) (Vm.Alike.refl U.vm) h5, hmv _ _ U _ h6 (State.WarmedH.refl U) (fun _ q => q) (fun _ _ _ => rfl)⟩
/-- the callee's cells are all of the world: what it may write lies in A -/
theorem va_sub {A : Nat → Prop} {ws : va_W} {s : State} {H : Heap} {locs : List Loc} (hD : va_D A ws) (hS : va_S A s.heap H locs) (hA : ∀ q, s.heap.size ≤ q → A q) : ∀ q, va_A ws H.size q → A q := by
  intro q h
  rcases h with ⟨k, e, h⟩ | h
  · exact hD.2 k _ h
  · exact hA q (Nat.le_trans hS.1 h)
theorem ct_pre {A : Nat → Prop} {s U : State} {H : Heap} {locs : List Loc} {av : List Value} (hmv : KMv w) (hP : va_P w.1 vwCl (w.2.2.1 M) H) (hD : va_D A (w.2.2.1 M)) (hS : va_S A s.heap H locs) (hA : ∀ q, s.heap.size ≤ q → A q) (hK : va_K w.1 vwCl w.2.1 s) (hKK : w.2.2.2.2 A s) (hU : U.heap = H) (hW : s.WarmedH U.vm) : PcW w M av H.size av.toArray U :=
  ⟨rfl, by rw [hU], by rw [hU]; exact hP, hD.weaken (fun _ _ _ _ => trivial), va_K.moved hW.alike hK, hmv _ _ s U hKK hW (va_sub hD hS hA) (fun q h1 h2 => by rw [hU]; exact hS.2.1 q h1 h2)⟩
/-- behind a call that returned or threw -/
theorem e_run {PQ' : Option Value → Mem → Prop} {PX' : String → Mem → Prop} {mc' ms' : Nat} {rest st0 : List Value} {p : Program} {l : Launch} {e : Env} {R : Room} {s : State} {m : MethodId} {args : Array Value} {below : List Frame} {meth : Method} {c : Code} {A : Nat → Prop} {Q : State → Prop} {nL' : Nat} {H : Heap} {locs : List Loc} {ls : Array Slot} {a : Array Value}
    (hr : vx_Run p l e R s m args below meth c H locs k n mc' ms' (F0 m pc ls st0) rest (QcW w (va_A (w.2.2.1 M) H.size) PQ' a) (XcW w (va_A (w.2.2.1 M) H.size) PX') (va_A (w.2.2.1 M) H.size))
    (hD : va_D A (w.2.2.1 M)) (hS : va_S A s.heap H locs) (hA : ∀ q, s.heap.size ≤ q → A q) (hl : lv_has ls nL' lv)
    (kret : ∀ (v : Option Value) (M1 : Mem), PQ' v M1 → E w (p, l, e, R, s, m, args, below, meth, c, A, Q, nL') (k + mc') (n + ms') M1 (pc + 3) lv (v.toList ++ rest))
    (kthr : ∀ (Ec : String) (M1 : Mem) (H1 : Heap) (locs1 : List Loc) (q : Addr) (ce : Cell), PX' Ec M1 → w.2.2.2.1 M1 → va_P w.1 vwCl (w.2.2.1 M1) H1 → va_D A (w.2.2.1 M1) → va_S A s.heap H1 locs1 → H1[q]? = some ce → ce.vm = .none → s.vm.findClass Ec = some ce.cls → vx_W p l e R s m args below meth c H1 locs1 (k + mc') (n + ms') Q (F0 m pc ls rest) q) :
    W p l e R s m args below meth c H locs k n Q (F0 m pc ls st0) := by
  have hsub := va_sub hD hS hA
  intro T hT X
  rcases hr T hT X with ⟨v, st₀, t, T', L, h0, X', hL, e1, e2, ⟨v', M1, hv, hq, hw1, hP1, hD1, hF1⟩, st⟩ | ⟨q, st₀, t, T', L, Ec, ce, h0, X', hL, e1, e2, ⟨M1, hq, hw1, hP1, hD1, hF1⟩, hce, hcv, hcl, st⟩
  · cases hv
    have hS1 := vx_keep h0 e1 hS (fun q _ h => hsub q h) (fun q h => hsub q h) hL hF1
    obtain ⟨t2, a1, b1⟩ := kret v M1 hq hw1 T'.heap (locs ++ L) ls (by rw [e1]; exact hP1) (hD1.weaken (fun _ _ _ h => hsub _ h)) hS1.2.2 hl T' rfl X'
    exact ⟨t2, st t2 a1, b1⟩
  · have hS1 := vx_keep h0 e1 hS (fun q _ h => hsub q h) (fun q h => hsub q h) hL hF1
    obtain ⟨t2, a1, b1⟩ := kthr Ec M1 T'.heap (locs ++ L) q ce hq hw1 (by rw [e1]; exact hP1) (hD1.weaken (fun _ _ _ h => hsub _ h)) hS1.2.2 (by rw [e1]; exact hce) hcv hcl T' rfl X'
    exact ⟨t2, st.trans a1, b1⟩
end ECALL
/-- an answer and a memory, fixed -/
def Dt (v2 : Option Value) (M2 : Mem) : Option Value → Mem → Prop := fun v M1 => v = v2 ∧ M1 = M2
/-- a method that allocates nothing and throws nothing -/
def Sp (w : Wd) (y : MethodName) (cc : ByteArray) (nL : Nat) (ret : Option FieldType) (d : Nat) (av : List Value) (M : Mem) (v2 : Option Value) (M2 : Mem) : Prop := ∀ l : Launch, l.stackTraces = false → Ct w l y cc nL ret d 0 0 av M (Dt v2 M2) NoX
/-- what the tables say of a method -/
def MI (y : MethodName) (cc : ByteArray) (nL : Nat) (ret : Option FieldType) (np : Nat) : Prop := (Cond.code y cc nL ret ∈ gT ∧ Cond.initialized y.cls ∈ gT) ∧ ((y.cls ≠ "java/lang/invoke/MethodHandle" ∧ y.cls ≠ "java/lang/invoke/VarHandle") ∧ (parseMethodDescriptor y.desc).map (fun d => d.parameters.length) = some np) ∧ nL ≤ 100 ∧ plainName y.cls = true
theorem met_vx {l : Launch} {y : MethodName} {ws : List Cond} {rm : Room} {Pc : Array Value → State → Prop} {Qc : Array Value → State → Outcome → State → Prop} {w : Wd} {A : Nat → Prop} {mc ms : Nat} {free : Addr → Prop} (h : vx_Met l y ws rm Pc Qc (XcW w A NoX) mc ms free) : Met l y ws rm Pc Qc mc ms free := by
  intro p e ha hc hk s m args below hf h1 h2 h3
  obtain ⟨t, o, a1, b1, b2, b3⟩ := h p e ha hc hk s m args below hf h1 h2 h3
  refine ⟨t, o, a1, b1, b2, ?_⟩
  rcases b3 with b3 | ⟨q, rfl, Ec, ce, L, ⟨M, hM, -⟩, -⟩
  · exact b3
  · exact absurd hM id
section ECALL2
variable {w : Wd} {X : Cx} {cc cc' : ByteArray} {own : String} {nL d mc ms nL' d' mc' ms' : Nat} {k n : Nat} {M : Mem} {pc : Nat} {lv lv' : List (Nat × Value)} {st As rest : List Value} {PQ PQ' : Option Value → Mem → Prop} {PX PX' : String → Mem → Prop} {y : MethodName} {ret ret' : Option FieldType} {ix : Nat}
theorem e_wf (h : w.2.2.2.1 M → E w X k n M pc lv st) : E w X k n M pc lv st := by
  obtain ⟨p, l, e, R, s, m, args, below, meth, c, A, Q, nL9⟩ := X
  exact fun hw => h hw hw
theorem out_none {pcx : Nat} {c : Code} (htb : ∀ x ∈ c.exceptionTable.toList, False) : ∀ x ∈ c.exceptionTable.toList, covers x pcx = false := fun x h => absurd h (fun q => htb x q)
theorem e_callV {b q0 ci N : Nat} {Cn : String} {T : u_T} {fs : List Value} (C : OkB w X cc own nL d mc ms) (Y : OkR w X ret mc ms PQ PX) (I : MI y cc' nL' ret' As.length) (hin : Cond.instanceMethod y ∈ gT) (hse : Cond.selects Cn y y ∈ gT) (hlk : Cond.methodLink own ix y ∈ gT)
    (hC : Ct w (lnc X) y cc' nL' ret' d' mc' ms' (.ref b :: As) M PQ' PX') (he : (w.2.2.1 M)[q0]? = some (b, .inr (ci, fs))) (hc : vwCl[ci]? = some (Cn, T, N)) (hdd : d' < d) (hr8 : (rest.map fun v => v.category).sum ≤ 8) (hkc : k + mc' ≤ mc) (hns : n + ms' ≤ ms)
    (hd : decode cc pc = .ok (.invokevirtual ix, 3)) (hs0 : st = As.reverse ++ .ref b :: rest)
    (kret : ∀ v M1, PQ' v M1 → E w X (k + mc') (n + ms') M1 (pc + 3) lv (v.toList ++ rest)) (kthr : ∀ Ec M1, PX' Ec M1 → PX Ec M1) : E w X k n M pc lv st := by
  subst hs0
  obtain ⟨p, l, e, R, s, m, args, below, meth, c, A, Q, nL9⟩ := X
  obtain ⟨hx, hb, hml, hown, hts, hA, hK, hKK, hmv, rfl, hfr, hlo, hmc, hms, hlk2, htb⟩ := C
  obtain ⟨rfl, hrt, hst⟩ := Y
  obtain ⟨⟨hcode, hini⟩, hdy, hnl, -⟩ := I
  intro hw H locs ls hP hD hS hl
  have hM := hC hw hmv H.size
  have hrun := vx_runV (g := F0 m pc ls (As.reverse ++ .ref b :: rest)) (locs := locs) (cells := k) (slots := n) (below := below) (meth := meth) (e := e) (rest := rest) (Ts := gT) (own := own) (R := R) ⟨hx, hb, hml, hown, hts⟩ hM
    (⟨callB_of As.length hts (goodIn_law hcode) rfl rfl rfl (hts _ hini) (hts _ hlk) ⟨hdy.1.1, hdy.1.2, hdy.2⟩ ⟨by show 16 * d' + 1 ≤ R.frames; omega, by show 8 + (nL' + 11) + 200 * d' ≤ R.locals; omega⟩, hts _ hin, hts _ hse⟩ : CallW R s args own Cn ix y cc' nL' ret' _ _ mc' ms' As.length)
    (H := H) ⟨pc_blind hmv, va_recv hK hP hc he, fun U hU hW => ct_pre hmv hP hD hS hA hK hKK hU hW⟩ rfl rfl hl.1 rfl (lv_room hr8) hd ⟨by omega, by omega⟩
  exact e_run hrun hD hS hA hl kret (fun Ec M1 H1 locs1 q ce h1 h2 h3 h4 h5 h6 h7 h8 => vx_out (out_none htb) hlk2 h6 h7 h8 (fun t ht hal => ⟨M1, kthr Ec M1 h1, h2, by rw [ht]; exact h3, h4, h5.F ht⟩) h5.2.2 (by omega) (by omega))
theorem e_callS (C : OkB w X cc own nL d mc ms) (Y : OkR w X ret mc ms PQ PX) (I : MI y cc' nL' ret' As.length) (hin : Cond.static y ∈ gT) (hlk : Cond.methodLink own ix y ∈ gT)
    (hC : Ct w (lnc X) y cc' nL' ret' d' mc' ms' As M PQ' PX') (hdd : d' < d) (hr8 : (rest.map fun v => v.category).sum ≤ 8) (hkc : k + mc' ≤ mc) (hns : n + ms' ≤ ms)
    (hd : decode cc pc = .ok (.invokestatic ix, 3)) (hs0 : st = As.reverse ++ rest)
    (kret : ∀ v M1, PQ' v M1 → E w X (k + mc') (n + ms') M1 (pc + 3) lv (v.toList ++ rest)) (kthr : ∀ Ec M1, PX' Ec M1 → PX Ec M1) : E w X k n M pc lv st := by
  subst hs0
  obtain ⟨p, l, e, R, s, m, args, below, meth, c, A, Q, nL9⟩ := X
  obtain ⟨hx, hb, hml, hown, hts, hA, hK, hKK, hmv, rfl, hfr, hlo, hmc, hms, hlk2, htb⟩ := C
  obtain ⟨rfl, hrt, hst⟩ := Y
  obtain ⟨⟨hcode, hini⟩, hdy, hnl, -⟩ := I
  intro hw H locs ls hP hD hS hl
  have hM := hC hw hmv H.size
  have hrun := vx_runS (g := F0 m pc ls (As.reverse ++ rest)) (locs := locs) (cells := k) (slots := n) (below := below) (meth := meth) (e := e) (rest := rest) (Ts := gT) (own := own) (R := R) ⟨hx, hb, hml, hown, hts⟩ hM
    (⟨callB_of As.length hts (goodIn_law hcode) rfl rfl rfl (hts _ hini) (hts _ hlk) ⟨hdy.1.1, hdy.1.2, hdy.2⟩ ⟨by show 16 * d' + 1 ≤ R.frames; omega, by show 8 + (nL' + 11) + 200 * d' ≤ R.locals; omega⟩, hts _ hin⟩ : CallB R s args own ix y cc' nL' ret' _ _ mc' ms' As.length ∧ _)
    (H := H) ⟨pc_blind hmv, fun U hU hW => ct_pre hmv hP hD hS hA hK hKK hU hW⟩ rfl rfl hl.1 rfl (lv_room hr8) hd ⟨by omega, by omega⟩
  exact e_run hrun hD hS hA hl kret (fun Ec M1 H1 locs1 q ce h1 h2 h3 h4 h5 h6 h7 h8 => vx_out (out_none htb) hlk2 h6 h7 h8 (fun t ht hal => ⟨M1, kthr Ec M1 h1, h2, by rw [ht]; exact h3, h4, h5.F ht⟩) h5.2.2 (by omega) (by omega))
/-- calls of methods that neither throw nor allocate -/
theorem e_callVD {b q0 ci N : Nat} {Cn : String} {T : u_T} {fs : List Value} {v2 : Option Value} {M2 : Mem} (C : OkB w X cc own nL d mc ms) (Y : OkR w X ret mc ms PQ PX) (I : MI y cc' nL' ret' As.length) (hin : Cond.instanceMethod y ∈ gT) (hse : Cond.selects Cn y y ∈ gT) (hlk : Cond.methodLink own ix y ∈ gT)
    (hC : Sp w y cc' nL' ret' d' (.ref b :: As) M v2 M2) (he : (w.2.2.1 M)[q0]? = some (b, .inr (ci, fs))) (hc : vwCl[ci]? = some (Cn, T, N)) (hdd : d' < d) (hr8 : (rest.map fun v => v.category).sum ≤ 8) (hk : k ≤ mc) (hn : n ≤ ms)
    (hd : decode cc pc = .ok (.invokevirtual ix, 3)) (hs0 : st = As.reverse ++ .ref b :: rest)
    (kret : E w X k n M2 (pc + 3) lv (v2.toList ++ rest)) : E w X k n M pc lv st := by
  refine e_callV C Y I hin hse hlk (hC (lnc X) ?_) he hc hdd hr8 hk hn hd hs0 (fun v M1 h => ?_) (fun _ _ h => absurd h id)
  · obtain ⟨p, l, e, R, s, m, args, below, meth, c, A, Q, nL9⟩ := X
    exact Y.2.2
  · obtain ⟨rfl, rfl⟩ := h
    exact kret
theorem e_callSD {v2 : Option Value} {M2 : Mem} (C : OkB w X cc own nL d mc ms) (Y : OkR w X ret mc ms PQ PX) (I : MI y cc' nL' ret' As.length) (hin : Cond.static y ∈ gT) (hlk : Cond.methodLink own ix y ∈ gT)
    (hC : Sp w y cc' nL' ret' d' As M v2 M2) (hdd : d' < d) (hr8 : (rest.map fun v => v.category).sum ≤ 8) (hk : k ≤ mc) (hn : n ≤ ms)
    (hd : decode cc pc = .ok (.invokestatic ix, 3)) (hs0 : st = As.reverse ++ rest)
    (kret : E w X k n M2 (pc + 3) lv (v2.toList ++ rest)) : E w X k n M pc lv st := by
  refine e_callS C Y I hin hlk (hC (lnc X) ?_) hdd hr8 hk hn hd hs0 (fun v M1 h => ?_) (fun _ _ h => absurd h id)
  · obtain ⟨p, l, e, R, s, m, args, below, meth, c, A, Q, nL9⟩ := X
    exact Y.2.2
  · obtain ⟨rfl, rfl⟩ := h
    exact kret
end ECALL2
/-- relational contracts: an int (or boolean), a long, nothing comes back -/
def SpI (w : Wd) (y : MethodName) (cc : ByteArray) (nL : Nat) (ret : Option FieldType) (d : Nat) (av : List Value) (M : Mem) (Q : Int → Mem → Prop) : Prop := ∀ l : Launch, l.stackTraces = false → Ct w l y cc nL ret d 0 0 av M (fun v M1 => ∃ z : Int, v = some (vI z) ∧ Q z M1) NoX
def SpL (w : Wd) (y : MethodName) (cc : ByteArray) (nL : Nat) (ret : Option FieldType) (d : Nat) (av : List Value) (M : Mem) (Q : Int → Mem → Prop) : Prop := ∀ l : Launch, l.stackTraces = false → Ct w l y cc nL ret d 0 0 av M (fun v M1 => ∃ z : Int, v = some (vL z) ∧ Q z M1) NoX
def SpV (w : Wd) (y : MethodName) (cc : ByteArray) (nL : Nat) (ret : Option FieldType) (d : Nat) (av : List Value) (M : Mem) (Q : Mem → Prop) : Prop := ∀ l : Launch, l.stackTraces = false → Ct w l y cc nL ret d 0 0 av M (fun v M1 => v = none ∧ Q M1) NoX
section ECALL3
variable {w : Wd} {X : Cx} {cc cc' : ByteArray} {own : String} {nL d mc ms nL' d' : Nat} {k n : Nat} {M : Mem} {pc : Nat} {lv lv' : List (Nat × Value)} {st As rest av : List Value} {PQ : Option Value → Mem → Prop} {PX : String → Mem → Prop} {y : MethodName} {ret ret' : Option FieldType} {ix : Nat} {b q0 ci N : Nat} {Cn : String} {T : u_T} {fs : List Value}
theorem ct_mono {l : Launch} {mc ms : Nat} {PQ1 PQ2 : Option Value → Mem → Prop} {PX1 PX2 : String → Mem → Prop} (h : Ct w l y cc nL ret d mc ms av M PQ1 PX1) (h1 : ∀ v M1, PQ1 v M1 → PQ2 v M1) (h2 : ∀ c M1, PX1 c M1 → PX2 c M1) : Ct w l y cc nL ret d mc ms av M PQ2 PX2 := by
  intro hw hm sz p e ha hc hk s m args below hf h3 h4 h5
  obtain ⟨t, o, a1, b1, b2, b3⟩ := h hw hm sz p e ha hc hk s m args below hf h3 h4 h5
  refine ⟨t, o, a1, b1, b2, ?_⟩
  rcases b3 with ⟨⟨v, M1, c1, c2, c3⟩, b4⟩ | ⟨q, rfl, Ec, ce, L, ⟨M1, hM, c3⟩, b4⟩
  · exact Or.inl ⟨⟨v, M1, c1, h1 v M1 c2, c3⟩, b4⟩
  · exact Or.inr ⟨q, rfl, Ec, ce, L, ⟨M1, h2 Ec M1 hM, c3⟩, b4⟩
theorem Sp.toI {r : Int} {M2 : Mem} (h : Sp w y cc nL ret d av M (some (vI r)) M2) : SpI w y cc nL ret d av M (fun z M' => r = z ∧ M2 = M') := fun l hl => ct_mono (h l hl) (fun v M1 h => ⟨r, h.1, rfl, h.2.symm⟩) (fun _ _ h => h)
theorem Sp.toL {r : Int} {M2 : Mem} (h : Sp w y cc nL ret d av M (some (vL r)) M2) : SpL w y cc nL ret d av M (fun z M' => r = z ∧ M2 = M') := fun l hl => ct_mono (h l hl) (fun v M1 h => ⟨r, h.1, rfl, h.2.symm⟩) (fun _ _ h => h)
theorem Sp.toV {M2 : Mem} (h : Sp w y cc nL ret d av M none M2) : SpV w y cc nL ret d av M (fun M' => M2 = M') := fun l hl => ct_mono (h l hl) (fun v M1 h => ⟨h.1, h.2.symm⟩) (fun _ _ h => h)
theorem SpI.mono {Q1 Q2 : Int → Mem → Prop} (h : SpI w y cc nL ret d av M Q1) (h1 : ∀ z M1, Q1 z M1 → Q2 z M1) : SpI w y cc nL ret d av M Q2 := fun l hl => ct_mono (h l hl) (fun v M1 ⟨z, e, q⟩ => ⟨z, e, h1 z M1 q⟩) (fun _ _ h => h)
theorem SpV.mono {Q1 Q2 : Mem → Prop} (h : SpV w y cc nL ret d av M Q1) (h1 : ∀ M1, Q1 M1 → Q2 M1) : SpV w y cc nL ret d av M Q2 := fun l hl => ct_mono (h l hl) (fun v M1 ⟨e, q⟩ => ⟨e, h1 M1 q⟩) (fun _ _ h => h)
theorem e_callVI {Q : Int → Mem → Prop} (C : OkB w X cc own nL d mc ms) (Y : OkR w X ret mc ms PQ PX) (I : MI y cc' nL' ret' As.length) (hin : Cond.instanceMethod y ∈ gT) (hse : Cond.selects Cn y y ∈ gT) (hlk : Cond.methodLink own ix y ∈ gT)
    (hC : SpI w y cc' nL' ret' d' (.ref b :: As) M Q) (he : (w.2.2.1 M)[q0]? = some (b, .inr (ci, fs))) (hc : vwCl[ci]? = some (Cn, T, N)) (hdd : d' < d) (hr8 : (rest.map fun v => v.category).sum ≤ 8) (hk : k ≤ mc) (hn : n ≤ ms)
    (hd : decode cc pc = .ok (.invokevirtual ix, 3)) (hs0 : st = As.reverse ++ .ref b :: rest) (kret : ∀ z M2, Q z M2 → E w X k n M2 (pc + 3) lv (vI z :: rest)) : E w X k n M pc lv st := by
  refine e_callV C Y I hin hse hlk (hC (lnc X) ?_) he hc hdd hr8 hk hn hd hs0 (fun v M1 h => ?_) (fun _ _ h => absurd h id)
  · obtain ⟨p, l, e, R, s, m, args, below, meth, c, A, Q, nL9⟩ := X
    exact Y.2.2
  · obtain ⟨z, rfl, h⟩ := h
    exact kret z M1 h
theorem e_callVL {Q : Int → Mem → Prop} (C : OkB w X cc own nL d mc ms) (Y : OkR w X ret mc ms PQ PX) (I : MI y cc' nL' ret' As.length) (hin : Cond.instanceMethod y ∈ gT) (hse : Cond.selects Cn y y ∈ gT) (hlk : Cond.methodLink own ix y ∈ gT)
    (hC : SpL w y cc' nL' ret' d' (.ref b :: As) M Q) (he : (w.2.2.1 M)[q0]? = some (b, .inr (ci, fs))) (hc : vwCl[ci]? = some (Cn, T, N)) (hdd : d' < d) (hr8 : (rest.map fun v => v.category).sum ≤ 8) (hk : k ≤ mc) (hn : n ≤ ms)
    (hd : decode cc pc = .ok (.invokevirtual ix, 3)) (hs0 : st = As.reverse ++ .ref b :: rest) (kret : ∀ z M2, Q z M2 → E w X k n M2 (pc + 3) lv (vL z :: rest)) : E w X k n M pc lv st := by
  refine e_callV C Y I hin hse hlk (hC (lnc X) ?_) he hc hdd hr8 hk hn hd hs0 (fun v M1 h => ?_) (fun _ _ h => absurd h id)
  · obtain ⟨p, l, e, R, s, m, args, below, meth, c, A, Q, nL9⟩ := X
    exact Y.2.2
  · obtain ⟨z, rfl, h⟩ := h
    exact kret z M1 h
theorem e_callVV {Q : Mem → Prop} (C : OkB w X cc own nL d mc ms) (Y : OkR w X ret mc ms PQ PX) (I : MI y cc' nL' ret' As.length) (hin : Cond.instanceMethod y ∈ gT) (hse : Cond.selects Cn y y ∈ gT) (hlk : Cond.methodLink own ix y ∈ gT)
    (hC : SpV w y cc' nL' ret' d' (.ref b :: As) M Q) (he : (w.2.2.1 M)[q0]? = some (b, .inr (ci, fs))) (hc : vwCl[ci]? = some (Cn, T, N)) (hdd : d' < d) (hr8 : (rest.map fun v => v.category).sum ≤ 8) (hk : k ≤ mc) (hn : n ≤ ms)
    (hd : decode cc pc = .ok (.invokevirtual ix, 3)) (hs0 : st = As.reverse ++ .ref b :: rest) (kret : ∀ M2, Q M2 → E w X k n M2 (pc + 3) lv rest) : E w X k n M pc lv st := by
  refine e_callV C Y I hin hse hlk (hC (lnc X) ?_) he hc hdd hr8 hk hn hd hs0 (fun v M1 h => ?_) (fun _ _ h => absurd h id)
  · obtain ⟨p, l, e, R, s, m, args, below, meth, c, A, Q, nL9⟩ := X
    exact Y.2.2
  · obtain ⟨rfl, h⟩ := h
    exact kret M1 h
theorem e_callSI {Q : Int → Mem → Prop} (C : OkB w X cc own nL d mc ms) (Y : OkR w X ret mc ms PQ PX) (I : MI y cc' nL' ret' As.length) (hin : Cond.static y ∈ gT) (hlk : Cond.methodLink own ix y ∈ gT)
    (hC : SpI w y cc' nL' ret' d' As M Q) (hdd : d' < d) (hr8 : (rest.map fun v => v.category).sum ≤ 8) (hk : k ≤ mc) (hn : n ≤ ms)
    (hd : decode cc pc = .ok (.invokestatic ix, 3)) (hs0 : st = As.reverse ++ rest) (kret : ∀ z M2, Q z M2 → E w X k n M2 (pc + 3) lv (vI z :: rest)) : E w X k n M pc lv st := by
  refine e_callS C Y I hin hlk (hC (lnc X) ?_) hdd hr8 hk hn hd hs0 (fun v M1 h => ?_) (fun _ _ h => absurd h id)
  · obtain ⟨p, l, e, R, s, m, args, below, meth, c, A, Q, nL9⟩ := X
    exact Y.2.2
  · obtain ⟨z, rfl, h⟩ := h
    exact kret z M1 h
theorem e_callSL {Q : Int → Mem → Prop} (C : OkB w X cc own nL d mc ms) (Y : OkR w X ret mc ms PQ PX) (I : MI y cc' nL' ret' As.length) (hin : Cond.static y ∈ gT) (hlk : Cond.methodLink own ix y ∈ gT)
    (hC : SpL w y cc' nL' ret' d' As M Q) (hdd : d' < d) (hr8 : (rest.map fun v => v.category).sum ≤ 8) (hk : k ≤ mc) (hn : n ≤ ms)
    (hd : decode cc pc = .ok (.invokestatic ix, 3)) (hs0 : st = As.reverse ++ rest) (kret : ∀ z M2, Q z M2 → E w X k n M2 (pc + 3) lv (vL z :: rest)) : E w X k n M pc lv st := by
  refine e_callS C Y I hin hlk (hC (lnc X) ?_) hdd hr8 hk hn hd hs0 (fun v M1 h => ?_) (fun _ _ h => absurd h id)
  · obtain ⟨p, l, e, R, s, m, args, below, meth, c, A, Q, nL9⟩ := X
    exact Y.2.2
  · obtain ⟨z, rfl, h⟩ := h
    exact kret z M1 h
end ECALL3
