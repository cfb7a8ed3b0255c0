/-! ===== rows of constructors ===== -/
def KI (sk : (Nat → Nat) × (Nat → Nat)) (A : Nat → Prop) (s : State) : Prop := KX sk A s ∧ va_AO "HotGames$Game" s ∧ va_AOA .int s
theorem kI_mv {g : Gs} {ad : Nat → Nat} {sk : (Nat → Nat) × (Nat → Nat)} {w : Wd} (hw : w.2.2.2.2 = KI sk) : KMv w := by
  unfold KMv
  rw [hw]
  intro A A' s U h hW hsub hq
  exact ⟨wC_mv g ad sk A A' s U h.1 hW hsub hq, va_AO.moved hW.alike h.2.1, over_moved hW.alike h.2.2⟩
def mtN (X : Cx) : String := X.2.2.2.2.2.2.2.2.1.name
theorem ct_ofI {w : Wd} {l : Launch} {y : MethodName} {cc : ByteArray} {nL : Nat} {ret : Option FieldType} {d mc ms : Nat} {av : List Value} {M : Mem} {PQ : Option Value → Mem → Prop} {PX : String → Mem → Prop}
    (hl : l.stackTraces = false) (hy : plainName y.cls = true) (hav : (lg_sl av).length ≤ nL) (body : ∀ X : Cx, lnc X = l → mtN X = y.name → OkB w X cc y.cls nL d mc ms → OkR w X ret mc ms PQ PX → E w X 0 0 M 0 (lv_args 0 av) []) : Ct w l y cc nL ret d mc ms av M PQ PX := by
  intro hwf hmv sz
  refine vx_ofW (cc := cc) (maxL := nL) (ret := ret) hy rfl ?_
  intro p e s m args below meth c s₁ B hml htb hv
  obtain ⟨rfl, hsz, hP, hD, hK, hKK⟩ := hv
  subst hsz
  have hts := atoms_spec (ws := Jvm.Cond.code y cc nL ret :: gT) B.pre
  have hA : ∀ q : Nat, s.heap.size ≤ q → va_A (w.2.2.1 M) s.heap.size q := fun q h => Or.inr h
  have hE := body (p, l, e, (headSpec (Jvm.Cond.code y cc nL ret :: gT) (rmD d mc ms)).room, s, m, av.toArray, below, meth, c, va_A (w.2.2.1 M) s.heap.size, vx_MQ below (QcW w (va_A (w.2.2.1 M) s.heap.size) PQ) (XcW w (va_A (w.2.2.1 M) s.heap.size) PX) av.toArray s mc ms (va_A (w.2.2.1 M) s.heap.size), nL) rfl (name_of_methodNamed B.named B.method).1
    ⟨B.exec, B.bytes, hml, findClass_of_methodNamed B.named, fun v hv => hts v (List.mem_cons_of_mem _ hv), hA, hK, hKK, hmv, rfl, Nat.le_refl _, Nat.le_refl _, Nat.le_refl _, Nat.le_refl _, B.notSynchronized, htb⟩ ⟨rfl, B.returns, hl⟩
  rw [lg_entry_eq]
  exact hE hwf s.heap [] _ hP (wd_self hD) va_S.rf (lv_entry av hav)
section VR
variable {g : Gs} {sk : (Nat → Nat) × (Nat → Nat)} {X : Cx} {cc cc' : ByteArray} {own : String} {nL d mc ms nL' d' mc' ms' : Nat} {k n : Nat} {M : Mem} {pc : Nat} {lv : List (Nat × Value)} {st As rest : List Value} {PQ PQ' : Option Value → Mem → Prop} {PX : String → Mem → Prop} {y : MethodName} {ret ret' : Option FieldType} {ix : Nat} {ws : va_W}
theorem v_newI {N : Nat} (C : OkB (wV g (KI sk) ws) X cc own nL d mc ms) (hN : N < 1000000) (hk : k + 1 ≤ mc) (hn : n + N ≤ ms) (hd : decode cc pc = .ok (.newarray .int, 2)) (kk : ∀ q, E (wV g (KI sk) (ws ++ [(q, .inl (g.2.1, N, .inl (fun _ => i32 0)))])) X (k + 1) (n + N) M (pc + 2) lv (.ref q :: st)) : E (wV g (KI sk) ws) X k n M pc lv (vI (N : Int) :: st) := by
  obtain ⟨p, l, e, R, s, m, args, below, meth, c, A, Q, nL9⟩ := X
  obtain ⟨hx, hb, hml, hown, hts, hA, hK, hKK, hmv, rfl, hfr, hlo, hmc, hms, hlk, htb⟩ := C
  intro hw H locs ls hP hD hS hl
  have i0 : ¬ i32 (N : Int) < 0 := by rw [show (0 : Int32) = i32 0 from rfl, i32_lt (by omega) (by decide)]; omega
  refine va_newa (atype := .int) (ty := .int) (N' := N) (a0 := (N, .inl (fun _ => i32 0))) (n := i32 (N : Int)) hx hb (hts (.arrayClass .int) (tg1 128 rfl rfl)) rfl hK hP hD hS hA (fun cA => rfl) i0 (by rw [clamp_i (by omega) (by omega)]; rfl) (by show N * 4 ≤ 536870912; omega) (by omega) (by omega) hd (fun q cA H1 hK1 hP1 hD1 hS1 => ?_)
  have eA : cA = g.2.1 := by
    have h1 := (hK1.2 6 (cA, .int) rfl).2
    have h2 := (hK.2 0 (g.2.1, .int) rfl).2
    exact Option.some.inj (h1.symm.trans h2)
  subst eA
  exact kk q trivial H1 locs ls hP1 hD1 hS1 hl
theorem v_newZ {N : Nat} (C : OkB (wV g (KI sk) ws) X cc own nL d mc ms) (hN : N < 1000000) (hk : k + 1 ≤ mc) (hn : n + N ≤ ms) (hd : decode cc pc = .ok (.newarray .boolean, 2)) (kk : ∀ q, E (wV g (KI sk) (ws ++ [(q, .inl (g.2.2.2.1, N, .inl (fun _ => i32 0)))])) X (k + 1) (n + N) M (pc + 2) lv (.ref q :: st)) : E (wV g (KI sk) ws) X k n M pc lv (vI (N : Int) :: st) := by
  obtain ⟨p, l, e, R, s, m, args, below, meth, c, A, Q, nL9⟩ := X
  obtain ⟨hx, hb, hml, hown, hts, hA, hK, hKK, hmv, rfl, hfr, hlo, hmc, hms, hlk, htb⟩ := C
  intro hw H locs ls hP hD hS hl
  have i0 : ¬ i32 (N : Int) < 0 := by rw [show (0 : Int32) = i32 0 from rfl, i32_lt (by omega) (by decide)]; omega
  refine va_newa (atype := .boolean) (ty := .boolean) (N' := N) (a0 := (N, .inl (fun _ => i32 0))) (n := i32 (N : Int)) hx hb (hts (.arrayClass .boolean) (tg1 129 rfl rfl)) rfl hK hP hD hS hA (fun cA => rfl) i0 (by rw [clamp_i (by omega) (by omega)]; rfl) (by show N * 1 ≤ 536870912; omega) (by omega) (by omega) hd (fun q cA H1 hK1 hP1 hD1 hS1 => ?_)
  have eA : cA = g.2.2.2.1 := by
    have h1 := (hK1.2 6 (cA, .boolean) rfl).2
    have h2 := (hK.2 2 (g.2.2.2.1, .boolean) rfl).2
    exact Option.some.inj (h1.symm.trans h2)
  subst eA
  exact kk q trivial H1 locs ls hP1 hD1 hS1 hl
theorem v_newC {N : Nat} (C : OkB (wV g (KI sk) ws) X cc own nL d mc ms) (hN : N < 1000000) (hk : k + 1 ≤ mc) (hn : n + N ≤ ms) (hd : decode cc pc = .ok (.newarray .char, 2)) (kk : ∀ q, E (wV g (KI sk) (ws ++ [(q, .inl (g.2.2.2.2.1, N, .inl (fun _ => i32 0)))])) X (k + 1) (n + N) M (pc + 2) lv (.ref q :: st)) : E (wV g (KI sk) ws) X k n M pc lv (vI (N : Int) :: st) := by
  obtain ⟨p, l, e, R, s, m, args, below, meth, c, A, Q, nL9⟩ := X
  obtain ⟨hx, hb, hml, hown, hts, hA, hK, hKK, hmv, rfl, hfr, hlo, hmc, hms, hlk, htb⟩ := C
  intro hw H locs ls hP hD hS hl
  have i0 : ¬ i32 (N : Int) < 0 := by rw [show (0 : Int32) = i32 0 from rfl, i32_lt (by omega) (by decide)]; omega
  refine va_newa (atype := .char) (ty := .char) (N' := N) (a0 := (N, .inl (fun _ => i32 0))) (n := i32 (N : Int)) hx hb (hts (.arrayClass .char) (tg2 20 rfl rfl)) rfl hK hP hD hS hA (fun cA => rfl) i0 (by rw [clamp_i (by omega) (by omega)]; rfl) (by show N * 2 ≤ 536870912; omega) (by omega) (by omega) hd (fun q cA H1 hK1 hP1 hD1 hS1 => ?_)
  have eA : cA = g.2.2.2.2.1 := by
    have h1 := (hK1.2 6 (cA, .char) rfl).2
    have h2 := (hK.2 3 (g.2.2.2.2.1, .char) rfl).2
    exact Option.some.inj (h1.symm.trans h2)
  subst eA
  exact kk q trivial H1 locs ls hP1 hD1 hS1 hl
theorem v_newJ {N : Nat} (C : OkB (wV g (KI sk) ws) X cc own nL d mc ms) (hN : N < 1000000) (hk : k + 1 ≤ mc) (hn : n + N ≤ ms) (hd : decode cc pc = .ok (.newarray .long, 2)) (kk : ∀ q, E (wV g (KI sk) (ws ++ [(q, .inl (g.2.2.1, N, .inr (.inl (fun _ => i64 0))))])) X (k + 1) (n + N) M (pc + 2) lv (.ref q :: st)) : E (wV g (KI sk) ws) X k n M pc lv (vI (N : Int) :: st) := by
  obtain ⟨p, l, e, R, s, m, args, below, meth, c, A, Q, nL9⟩ := X
  obtain ⟨hx, hb, hml, hown, hts, hA, hK, hKK, hmv, rfl, hfr, hlo, hmc, hms, hlk, htb⟩ := C
  intro hw H locs ls hP hD hS hl
  have i0 : ¬ i32 (N : Int) < 0 := by rw [show (0 : Int32) = i32 0 from rfl, i32_lt (by omega) (by decide)]; omega
  refine va_newa (atype := .long) (ty := .long) (N' := N) (a0 := (N, .inr (.inl (fun _ => i64 0)))) (n := i32 (N : Int)) hx hb (hts (.arrayClass .long) (tg1 127 rfl rfl)) rfl hK hP hD hS hA (fun cA => rfl) i0 (by rw [clamp_i (by omega) (by omega)]; rfl) (by show N * 8 ≤ 536870912; omega) (by omega) (by omega) hd (fun q cA H1 hK1 hP1 hD1 hS1 => ?_)
  have eA : cA = g.2.2.1 := by
    have h1 := (hK1.2 6 (cA, .long) rfl).2
    have h2 := (hK.2 1 (g.2.2.1, .long) rfl).2
    exact Option.some.inj (h1.symm.trans h2)
  subst eA
  exact kk q trivial H1 locs ls hP1 hD1 hS1 hl
theorem v_newq (C : OkB (wV g (KI sk) ws) X cc RX5 nL d mc ms) (hk : k + 1 ≤ mc) (hn : n + 40 ≤ ms) (hd : decode cc pc = .ok (.anewarray 9, 3)) (kk : ∀ q, E (wV g (KI sk) (ws ++ [(q, .inl (g.2.2.2.2.2.1, 40, .inr (.inr (.inr (.inr (fun _ => none))))))])) X (k + 1) (n + 40) M (pc + 3) lv (.ref q :: st)) : E (wV g (KI sk) ws) X k n M pc lv (vI 40 :: st) := by
  obtain ⟨p, l, e, R, s, m, args, below, meth, c, A, Q, nL9⟩ := X
  obtain ⟨hx, hb, hml, hown, hts, hA, hK, hKK, hmv, rfl, hfr, hlo, hmc, hms, hlk, htb⟩ := C
  intro hw H locs ls hP hD hS hl
  refine va_newq (own := RX5) (C := "HotGames$Game") (index := 9) (N' := 40) (n := i32 40) hx hb hown (hts _ (tg1 39 rfl rfl)) hKK.2.1 hK hP hD hS hA (by decide) (by decide) (by decide) (by omega) (by omega) hd (fun q cA H1 hK1 hP1 hD1 hS1 => ?_)
  have eA : cA = g.2.2.2.2.2.1 := by
    obtain ⟨k1, c1, -, -, -, h1⟩ := (hK1.2 6 (cA, .object "HotGames$Game") rfl).2
    obtain ⟨k2, c2, -, -, -, h2⟩ := (hK.2 4 (g.2.2.2.2.2.1, .object "HotGames$Game") rfl).2
    exact Option.some.inj (h1.symm.trans h2)
  subst eA
  exact kk q trivial H1 locs ls hP1 hD1 hS1 hl
theorem pl_up {L : List Nat} {f : Nat → va_E} {v : va_E} : va_pl L (vr_up f L v) = L.map (fun a => (a, v)) := by
  unfold va_pl vr_up
  exact List.map_congr_left (fun a ha => by rw [if_pos ha])
theorem v_mna {N K : Nat} (C : OkB (wV g (KI sk) ws) X cc own nL d mc ms) (hcl : Cond.classLink own ix "[[I" ∈ gT) (hN : N < 1000) (hK9 : K < 1000) (hk : k + 1 + N ≤ mc) (hn : n + N + N * K ≤ ms) (hd : decode cc pc = .ok (.multianewarray ix 2, 4)) (kk : ∀ (q : Nat) (r : Nat → Nat), E (wV g (KI sk) (ws ++ (q, .inl (g.2.2.2.2.2.2, N, .inr (.inr (.inr (.inr (fun i => if i < N then some (r i) else none)))))) :: ((List.range N).map r).map (fun a => (a, (.inl (g.2.1, K, .inl (fun _ => i32 0)) : va_E))))) X (k + 1 + N) (n + N + N * K) M (pc + 4) lv (.ref q :: st)) : E (wV g (KI sk) ws) X k n M pc lv (vI (K : Int) :: vI (N : Int) :: st) := by
  obtain ⟨p, l, e, R, s, m, args, below, meth, c, A, Q, nL9⟩ := X
  obtain ⟨hx, hb, hml, hown, hts, hA, hK, hKK, hmv, rfl, hfr, hlo, hmc, hms, hlk, htb⟩ := C
  intro hw H locs ls hP hD hS hl
  have i0 : ∀ n : Nat, n < 1000 → ¬ i32 (n : Int) < 0 := fun n hn => by rw [show (0 : Int32) = i32 0 from rfl, i32_lt (by omega) (by decide)]; omega
  have e0 : ws ++ va_pl [] (fun _ => .inr (0, [])) = ws := by unfold va_pl; rw [List.map_nil, List.append_nil]
  refine va_mna (X := ws) (L := []) (f := fun _ => .inr (0, [])) (ty := .int) (cy := g.2.1) (N' := N) (K' := K) (z := (K, .inl (fun _ => i32 0))) (n := i32 (N : Int)) (k := i32 (K : Int)) hx hb hown (hts _ hcl) hKK.2.2 (hts (.arrayClass .int) (tg1 128 rfl rfl)) (hK.2 0 (g.2.1, .int) rfl).2 hK (by rw [e0]; exact hP) (by rw [e0]; exact hD) hS hA (i0 N hN) (i0 K hK9) (by rw [clamp_i (by omega) (by omega)]; rfl) (by rw [clamp_i (by omega) (by omega)]; rfl) (by omega) (by show K * 4 ≤ 536870912; omega) (by omega) rfl rfl (by omega) (by omega) (fun c => by first | exact arrV_new _ _ _ | (unfold Jvm.Free.Multi.innerC; exact arrV_new _ _ _)) hd (fun q r cA H1 _ _ hK1 hP1 hD1 hS1 => ?_)
  have eA : cA = g.2.2.2.2.2.2 := by
    have h1 := (hK1.2 6 (cA, .array .int) rfl).2
    have h2 := (hK.2 5 (g.2.2.2.2.2.2, .array .int) rfl).2
    exact Option.some.inj (h1.symm.trans h2)
  subst eA
  rw [List.nil_append, pl_up, List.append_assoc] at hP1 hD1
  exact kk q r trivial H1 locs ls hP1 hD1 hS1 hl
theorem v_new {N ci : Nat} {Cn : String} {T : u_T} {fs : List Value} (C : OkB (wV g (KI sk) ws) X cc own nL d mc ms) (hin : ∀ x ∈ u_ws Cn T N, x ∈ gT) (ty : Nat → FieldType) (hty : ∀ k, k < N → parseFieldDescriptor (T k).2.2.1 = some (ty k)) (hcl : Cond.classLink own ix Cn ∈ gT) (hinst : Cond.instantiable Cn N ∈ gT) (hini : Cond.initialized Cn ∈ gT) (hc : vwCl[ci]? = some (Cn, T, N)) (hfs : ∀ j, j < N → defaultValue (ty j) = vp_V fs j) (hk : k + 1 ≤ mc) (hn : n + N ≤ ms) (hd : decode cc pc = .ok (.new ix, 3)) (kk : ∀ q, E (wV g (KI sk) (ws ++ [(q, .inr (ci, fs))])) X (k + 1) (n + N) M (pc + 3) lv (.ref q :: st)) : E (wV g (KI sk) ws) X k n M pc lv st := by
  obtain ⟨p, l, e, R, s, m, args, below, meth, c, A, Q, nL9⟩ := X
  obtain ⟨hx, hb, hml, hown, hts, hA, hK, hKK, hmv, rfl, hfr, hlo, hmc, hms, hlk, htb⟩ := C
  intro hw H locs ls hP hD hS hl
  exact va_new hx hb hts hin ty hty hown (hts _ hcl) (hts _ hinst) (hts _ hini) hK hP hD hS hA hc hfs (by omega) (by omega) hd (fun q H1 hP1 hD1 hS1 => kk q trivial H1 locs ls hP1 hD1 hS1 hl)
theorem v_put {a q0 ci N kf : Nat} {Cn : String} {T : u_T} {fs : List Value} {v : Value} {ty : FieldType} (C : OkB (wV g (KI sk) ws) X cc own nL d mc ms) (hin : ∀ x ∈ u_ws Cn T N, x ∈ gT) (ty0 : Nat → FieldType) (hty : ∀ k, k < N → parseFieldDescriptor (T k).2.2.1 = some (ty0 k)) (hnm : ∀ a, a < N → ∀ b, b < N → a ≠ b → (T a).2.1 ≠ (T b).2.1) (he : ws[q0]? = some (a, .inr (ci, fs))) (hc : vwCl[ci]? = some (Cn, T, N)) (hk : kf < N) (hlink : Cond.fieldLink own ix (T kf).1 (T kf).2.1 (T kf).2.2.1 ∈ gT) (hfin : (T kf).2.2.2 = false ∨ ((T kf).2.2.2 = true ∧ mtN X = "<init>" ∧ (T kf).1 = own)) (hdd : parseFieldDescriptor (T kf).2.2.1 = some ty) (hn : narrow ty v = v) (hfit : fits ty v = true) (hl9 : kf < fs.length) (hd : decode cc pc = .ok (.putfield ix, 3)) (kk : E (wV g (KI sk) (ws.set q0 (a, .inr (ci, fs.set kf v)))) X k n M (pc + 3) lv st) : E (wV g (KI sk) ws) X k n M pc lv (v :: .ref a :: st) := by
  obtain ⟨p, l, e, R, s, m, args, below, meth, c, A, Q, nL9⟩ := X
  obtain ⟨hx, hb, hml, hown, hts, hA, hK, hKK, hmv, rfl, hfr, hlo, hmc, hms, hlk, htb⟩ := C
  intro hw H locs ls hP hD hS hl
  rcases hfin with hf | ⟨hf, hi, ho⟩
  · exact va_put (D := g.1) (T := T) hx hb hts hin ty0 hty hnm hown hK hP hD hS q0 he hc kf hk (hts _ hlink) (fun _ h => h) hf hdd hn hfit hl9 hd (fun H1 locs1 hP1 hD1 hS1 => kk trivial H1 locs1 ls hP1 hD1 hS1 hl)
  · exact va_putF (D := g.1) (T := T) hx hb hts hin ty0 hty hnm hown hK hP hD hS q0 he hc kf hk (hts _ hlink) (fun _ h => h) hf hi ho hdd hn hfit hl9 hd (fun H1 locs1 hP1 hD1 hS1 => kk trivial H1 locs1 ls hP1 hD1 hS1 hl)
theorem v_oinit {w : Wd} {a : Nat} (C : OkB w X cc own nL (d + 1) mc ms) (hlk : Cond.methodLink own ix Lib.objectInit ∈ gT) (hr8 : (st.map fun v => v.category).sum ≤ 8) (hd : decode cc pc = .ok (.invokespecial ix, 3)) (kk : E w X k n M (pc + 3) lv st) : E w X k n M pc lv (.ref a :: st) := by
  obtain ⟨p, l, e, R, s, m, args, below, meth, c, A, Q, nL9⟩ := X
  obtain ⟨hx, hb, hml, hown, hts, hA, hK, hKK, hmv, rfl, hfr, hlo, hmc, hms, hlk2, htb⟩ := C
  intro hw H locs ls hP hD hS hl
  refine W.objInit (g := F0 m pc ls (.ref a :: st)) hx hb hown (hts _ hlk) (hts _ (tg1 31 rfl rfl)) (hts _ (tg1 32 rfl rfl)) rfl (hl.1.trans hml.symm) rfl hd (by omega) ?_ (kk hw H locs ls hP hD hS hl)
  show 2 * 0 + _ + 12 ≤ R.locals
  omega
/-- a constructor that owns the last cells -/
theorem v_ctor {w : Wd} {b : Nat} (C : OkB (wV g (KI sk) (ws ++ w.2.2.1 M0)) X cc own nL d mc ms) (Y : OkR w X ret mc ms PQ PX ∨ (lnc X).stackTraces = false) (h1 : w.1 = g.1) (h2 : w.2.1 = tysG g) (h3 : w.2.2.2.2 = KI sk) (hwf : w.2.2.2.1 M0) (I : MI y cc' nL' none As.length) (hnm : y.name = "<init>") (hin : Cond.instanceMethod y ∈ gT) (hlk : Cond.methodLink own ix y ∈ gT ∨ ∃ host, (own, ix, y, host) ∈ nestX)
    (hC : ∀ l : Launch, l.stackTraces = false → Ct w l y cc' nL' none d' mc' ms' (.ref b :: As) M0 PQ' NoX) (hdd : d' < d) (hr8 : (rest.map fun v => v.category).sum ≤ 8) (hkc : k + mc' ≤ mc) (hns : n + ms' ≤ ms)
    (hd : decode cc pc = .ok (.invokespecial ix, 3)) (hs0 : st = As.reverse ++ .ref b :: rest)
    (kret : ∀ M1, PQ' none M1 → E (wV g (KI sk) (ws ++ w.2.2.1 M1)) X (k + mc') (n + ms') M (pc + 3) lv rest) (hnone : ∀ v M1, PQ' v M1 → v = none) : E (wV g (KI sk) (ws ++ w.2.2.1 M0)) X k n M pc lv st := by
  subst hs0
  have hst : (lnc X).stackTraces = false := by
    rcases Y with Y | Y
    · obtain ⟨p, l, e, R, s, m, args, below, meth, c, A, Q, nL9⟩ := X
      exact Y.2.2
    · exact Y
  have hmw : KMv w := kI_mv (g := g) (ad := fun _ => 0) h3
  obtain ⟨p, l, e, R, s, m, args, below, meth, c, A, Q, nL9⟩ := X
  obtain ⟨hx, hb, hml, hown, hts, hA, hK, hKK, hmv, rfl, hfr, hlo, hmc, hms, hlk2, htb⟩ := C
  obtain ⟨⟨hcode, hini⟩, hdy, hnl, -⟩ := I
  intro hw H locs ls hP hD hS hl
  have hP9 : va_P w.1 vwCl (ws ++ w.2.2.1 M0) H := by rw [h1]; exact hP
  have hDc : va_D A (w.2.2.1 M0) := by
    refine va_D.of ?_ (fun q hq => hD.mem q (List.mem_append_right _ hq))
    have := hD.nd
    rw [List.map_append, List.nodup_append] at this
    exact this.2.1
  have hPc : va_P w.1 vwCl (w.2.2.1 M0) H := va_P.mem hP9 (fun q hq => List.mem_append_right _ hq)
  have hKw : va_K w.1 vwCl w.2.1 s := by rw [h1, h2]; exact hK
  have hKKw : w.2.2.2.2 A s := by rw [h3]; exact hKK
  have hM := met_vx (hC l hst hwf hmw H.size)
  have pre : ∀ U : State, U.heap = H → s.WarmedH U.vm → PcW w M0 (.ref b :: As) H.size (Value.ref b :: As).toArray U := fun U hU hW => ct_pre hmw hPc hDc hS hA hKw hKKw hU hW
  have hrun : va_Run p l e R s m args below meth c H locs k n mc' ms' (F0 m pc ls (As.reverse ++ .ref b :: rest)) rest (QcW w (va_A (w.2.2.1 M0) H.size) PQ' (Value.ref b :: As).toArray) (va_A (w.2.2.1 M0) H.size) := by
    rcases hlk with hlk | ⟨host, hlk⟩
    · exact va_runI (g := F0 m pc ls (As.reverse ++ .ref b :: rest)) (locs := locs) (cells := k) (slots := n) (below := below) (meth := meth) (e := e) (rest := rest) (Ts := gT) (own := own) (R := R) ⟨hx, hb, hml, hown, hts⟩ hM
        ⟨callB_of As.length hts (goodIn_law hcode) rfl rfl rfl (hts _ hini) (hts _ hlk) ⟨hdy.1.1, hdy.1.2, hdy.2⟩ ⟨by show 16 * d' + 1 ≤ R.frames; omega, by show 8 + (nL' + 11) + 200 * d' ≤ R.locals; omega⟩, hnm, hts _ hin⟩
        (H := H) ⟨pc_blind hmw, pre⟩ rfl rfl hl.1 rfl (lv_room hr8) hd ⟨by omega, by omega⟩
    · exact va_runIN (g := F0 m pc ls (As.reverse ++ .ref b :: rest)) (locs := locs) (cells := k) (slots := n) (below := below) (meth := meth) (e := e) (rest := rest) (Ts := gT) (own := own) (R := R) (host := host) ⟨hx, hb, hml, hown, hts⟩ hM
        ⟨va_cnB As.length hts (goodIn_law hcode) rfl rfl rfl (hKK.1.1 _ hlk) (hts _ hini) ⟨hdy.1.1, hdy.1.2, hdy.2⟩ ⟨by show 16 * d' + 1 ≤ R.frames; omega, by show 8 + (nL' + 11) + 200 * d' ≤ R.locals; omega⟩, hnm, hts _ hin⟩
        (H := H) ⟨pc_blind hmw, pre⟩ rfl rfl hl.1 rfl (lv_room hr8) hd ⟨by omega, by omega⟩
  refine e_runA (PX' := NoX) (wr := ws) (w := w) (run_vx hrun) hP9 hD hS hA (fun v M1 H1 locs1 hq hw1 hP1 hD1 hS1 => ?_) (fun Ec M1 H1 locs1 q ce h9 => absurd h9 id)
  have ev := hnone v M1 hq
  subst ev
  exact kret M1 hq trivial H1 locs1 ls (by rw [← h1]; exact hP1) hD1 hS1 hl
end VR
