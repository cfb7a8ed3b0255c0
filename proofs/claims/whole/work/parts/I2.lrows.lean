/-! ===== rows of the law ===== -/
def SxL (X : Cx) (b L : Nat) (xs : Nat → Int32) : Prop :=
  match X with
  | (p, l, e, R, s, m, args, below, meth, c, A, Q, nL) => va_X b L xs s s.heap ∧ b < s.heap.size ∧ ¬ A b
def sx (xs : Nat → Int32) (j : Int) : Int := (xs j.toNat).toInt
theorem sx_r (xs : Nat → Int32) (j : Int) : R32 (sx xs j) := r32_toInt _
section LR
variable {tb : List ExceptionTableEntry → Prop} {w : Wd} {g : Gs} {KK : (Nat → Prop) → State → Prop} {ws : va_W} {X : Cx} {cc cc' : ByteArray} {own : String} {nL d mc ms nL' d' mc' ms' : Nat} {k n : Nat} {M : Mem} {pc : Nat} {lv : List (Nat × Value)} {st As rest : List Value} {b L ix : Nat} {xs : Nat → Int32} {y : MethodName} {PQ' : Option Value → Mem → Prop}
theorem h_sld {j : Int} (C : OkH tb w X cc own nL d mc ms) (SX : SxL X b L xs) (hL : L ≤ 2048) (hj : 0 ≤ j ∧ j < L) (hd : decode cc pc = .ok (.iaload, 1)) (kk : E w X k n M (pc + 1) lv (vI (sx xs j) :: st)) : E w X k n M pc lv (vI j :: .ref b :: st) := by
  obtain ⟨p, l, e, R, s, m, args, below, meth, c, A, Q, nL9⟩ := X
  obtain ⟨hx, hb, hml, hown, hts, hA, hK, hKK, hmv, rfl, hfr, hlo, hmc, hms, hlk, htb⟩ := C
  obtain ⟨s1, s2, s3⟩ := SX
  intro hw H locs ls hP hD hS hl
  refine va_sld hx hb s1 s2 s3 hS (i := i32 j) (vp_in_i hj (by omega)) hd ?_
  rw [clamp_i hj.1 (by omega)]
  have e9 : Value.int (xs j.toNat) = vI (sx xs j) := by show _ = Value.int (i32 (xs j.toNat).toInt); rw [i32_of]
  rw [e9]
  exact kk hw H locs ls hP hD hS hl
theorem h_slen (C : OkH tb w X cc own nL d mc ms) (SX : SxL X b L xs) (hd : decode cc pc = .ok (.arraylength, 1)) (kk : E w X k n M (pc + 1) lv (vI (L : Int) :: st)) : E w X k n M pc lv (.ref b :: st) := by
  obtain ⟨p, l, e, R, s, m, args, below, meth, c, A, Q, nL9⟩ := X
  obtain ⟨hx, hb, hml, hown, hts, hA, hK, hKK, hmv, rfl, hfr, hlo, hmc, hms, hlk, htb⟩ := C
  obtain ⟨s1, s2, s3⟩ := SX
  intro hw H locs ls hP hD hS hl
  refine va_slen hx hb s1 s2 s3 hS hd ?_
  have e9 : Int32.ofNat L = i32 (L : Int) := (Int32.ofInt_eq_ofNat ..).symm
  rw [e9]
  exact kk hw H locs ls hP hD hS hl
theorem h_newJ {N : Nat} (C : OkH tb (wV g KK ws) X cc own nL d mc ms) (hN : N < 1000000) (hk : k + 1 ≤ mc) (hn : n + N ≤ ms) (hd : decode cc pc = .ok (.newarray .long, 2)) (kk : ∀ q, E (wV g KK (ws ++ [(q, .inl (g.2.2.1, N, .inr (.inl (fun _ => i64 0))))])) X (k + 1) (n + N) M (pc + 2) lv (.ref q :: st)) : E (wV g KK ws) X k n M pc lv (vI (N : Int) :: st) := by
  obtain ⟨p, l, e, R, s, m, args, below, meth, c, A, Q, nL9⟩ := X
  obtain ⟨hx, hb, hml, hown, hts, hA, hK, hKK, hmv, rfl, hfr, hlo, hmc, hms, hlk, htb⟩ := C
  intro hw H locs ls hP hD hS hl
  have i0 : ¬ i32 (N : Int) < 0 := by rw [show (0 : Int32) = i32 0 from rfl, i32_lt (by omega) (by decide)]; omega
  refine va_newa (atype := .long) (ty := .long) (N' := N) (a0 := (N, .inr (.inl (fun _ => i64 0)))) (n := i32 (N : Int)) hx hb (hts (.arrayClass .long) (tg1 127 rfl rfl)) rfl hK hP hD hS hA (fun cA => rfl) i0 (by rw [clamp_i (by omega) (by omega)]; rfl) (by show N * 8 ≤ 536870912; omega) (by omega) (by omega) hd (fun q cA H1 hK1 hP1 hD1 hS1 => ?_)
  have eA : cA = g.2.2.1 := by
    have h1 := (hK1.2 6 (cA, .long) rfl).2
    have h2 := (hK.2 1 (g.2.2.1, .long) rfl).2
    exact Option.some.inj (h1.symm.trans h2)
  subst eA
  exact kk q trivial H1 locs ls hP1 hD1 hS1 hl
theorem h_new {N ci : Nat} {Cn : String} {T : u_T} {fs : List Value} (C : OkH tb (wV g KK ws) X cc own nL d mc ms) (hin : ∀ x ∈ u_ws Cn T N, x ∈ gT) (ty : Nat → FieldType) (hty : ∀ k, k < N → parseFieldDescriptor (T k).2.2.1 = some (ty k)) (hcl : Cond.classLink own ix Cn ∈ gT) (hinst : Cond.instantiable Cn N ∈ gT) (hini : Cond.initialized Cn ∈ gT) (hc : vwCl[ci]? = some (Cn, T, N)) (hfs : ∀ j, j < N → defaultValue (ty j) = vp_V fs j) (hk : k + 1 ≤ mc) (hn : n + N ≤ ms) (hd : decode cc pc = .ok (.new ix, 3)) (kk : ∀ q, E (wV g KK (ws ++ [(q, .inr (ci, fs))])) X (k + 1) (n + N) M (pc + 3) lv (.ref q :: st)) : E (wV g KK ws) X k n M pc lv st := by
  obtain ⟨p, l, e, R, s, m, args, below, meth, c, A, Q, nL9⟩ := X
  obtain ⟨hx, hb, hml, hown, hts, hA, hK, hKK, hmv, rfl, hfr, hlo, hmc, hms, hlk, htb⟩ := C
  intro hw H locs ls hP hD hS hl
  exact va_new hx hb hts hin ty hty hown (hts _ hcl) (hts _ hinst) (hts _ hini) hK hP hD hS hA hc hfs (by omega) (by omega) hd (fun q H1 hP1 hD1 hS1 => kk q trivial H1 locs ls hP1 hD1 hS1 hl)
theorem h_ctor {w : Wd} {b : Nat} (C : OkH tb (wV g KK (ws ++ w.2.2.1 M0)) X cc own nL d mc ms) (hst : (lnc X).stackTraces = false) (h1 : w.1 = g.1) (h2 : w.2.1 = tysG g) (hKw : ∀ A s, KK A s → w.2.2.2.2 A s) (hmw : KMv w) (hwf : w.2.2.2.1 M0) (I : MI y cc' nL' none As.length) (hnm : y.name = "<init>") (hin : Cond.instanceMethod y ∈ gT) (hlk : Cond.methodLink own ix y ∈ gT)
    (hC : ∀ l : Launch, l.stackTraces = false → Ct w l y cc' nL' none d' mc' ms' (.ref b :: As) M0 PQ' NoX) (hdd : d' < d) (hr8 : (rest.map fun v => v.category).sum ≤ 8) (hkc : k + mc' ≤ mc) (hns : n + ms' ≤ ms)
    (hd : decode cc pc = .ok (.invokespecial ix, 3)) (hs0 : st = As.reverse ++ .ref b :: rest)
    (kret : ∀ M1, PQ' none M1 → w.2.2.2.1 M1 → E (wV g KK (ws ++ w.2.2.1 M1)) X (k + mc') (n + ms') M (pc + 3) lv rest) (hnone : ∀ v M1, PQ' v M1 → v = none) : E (wV g KK (ws ++ w.2.2.1 M0)) X k n M pc lv st := by
  subst hs0
  obtain ⟨p, l, e, R, s, m, args, below, meth, c, A, Q, nL9⟩ := X
  obtain ⟨hx, hb, hml, hown, hts, hA, hK, hKK, hmv, rfl, hfr, hlo, hmc, hms, hlk2, htb⟩ := C
  obtain ⟨⟨hcode, hini⟩, hdy, hnl, -⟩ := I
  intro hw H locs ls hP hD hS hl
  have hP9 : va_P w.1 vwCl (ws ++ w.2.2.1 M0) H := by rw [h1]; exact hP
  have hDc : va_D A (w.2.2.1 M0) := by
    refine va_D.of ?_ (fun q hq => hD.mem q (List.mem_append_right _ hq))
    have := hD.nd
    rw [List.map_append, List.nodup_append] at this
    exact this.2.1
  have hPc : va_P w.1 vwCl (w.2.2.1 M0) H := va_P.mem hP9 (fun q hq => List.mem_append_right _ hq)
  have hKw9 : va_K w.1 vwCl w.2.1 s := by rw [h1, h2]; exact hK
  have hM := met_vx (hC l hst hwf hmw H.size)
  have pre : ∀ U : State, U.heap = H → s.WarmedH U.vm → PcW w M0 (.ref b :: As) H.size (Value.ref b :: As).toArray U := fun U hU hW => ct_pre hmw hPc hDc hS hA hKw9 (hKw A s hKK) hU hW
  have hrun : va_Run p l e R s m args below meth c H locs k n mc' ms' (F0 m pc ls (As.reverse ++ .ref b :: rest)) rest (QcW w (va_A (w.2.2.1 M0) H.size) PQ' (Value.ref b :: As).toArray) (va_A (w.2.2.1 M0) H.size) :=
    va_runI (g := F0 m pc ls (As.reverse ++ .ref b :: rest)) (locs := locs) (cells := k) (slots := n) (below := below) (meth := meth) (e := e) (rest := rest) (Ts := gT) (own := own) (R := R) ⟨hx, hb, hml, hown, hts⟩ hM
        ⟨callB_of As.length hts (goodIn_law hcode) rfl rfl rfl (hts _ hini) (hts _ hlk) ⟨hdy.1.1, hdy.1.2, hdy.2⟩ ⟨by show 16 * d' + 1 ≤ R.frames; omega, by show 8 + (nL' + 11) + 200 * d' ≤ R.locals; omega⟩, hnm, hts _ hin⟩
        (H := H) ⟨pc_blind hmw, pre⟩ rfl rfl hl.1 rfl (lv_room hr8) hd ⟨by omega, by omega⟩
  refine e_runA (PX' := NoX) (wr := ws) (w := w) (run_vx hrun) hP9 hD hS hA (fun v M1 H1 locs1 hq hw1 hP1 hD1 hS1 => ?_) (fun Ec M1 H1 locs1 q ce h9 => absurd h9 id)
  have ev := hnone v M1 hq
  subst ev
  exact kret M1 hq hw1 trivial H1 locs1 ls (by rw [← h1]; exact hP1) hD1 hS1 hl
end LR
theorem m_thrown {g : Gs} {ad : Nat → Nat} {M : Mem} : Sp (wM g ad) yX10_thrown cX10_thrown 1 (some .int) 1 [.ref (ad 0)] M (some (vI (M 20 0))) M := by
  intro l9 hl9
  refine ct_of hl9 mi_X10_thrown.2.2.2 (Nat.le_of_ble_eq_true rfl) (fun X _ C Y => ?_)
  show E (wM g ad) X 0 0 (M) 0 [(0, .ref (ad 0))] []
  exact B_X10_thrown_0 (Nat.zero_le _) (Nat.zero_le _) C Y ⟨rfl, rfl⟩
/-- the law's world -/
abbrev LW (g : Gs) (ad ad2 : Nat → Nat) (ao : Nat) (A M : Mem) (o : Int) : va_W := wlM g ad2 M ++ (oC g ao o :: wlX g ad A)
/-- what both have made stands side by side -/
theorem jn_start {A M : Mem} (hA : XIn A) (hM : MIn M) : Jn A M := by
  obtain ⟨S, s1, s2, s3, s4, s5, s6, s7⟩ := hA
  obtain ⟨S', t1, t2, t3, t4, t5, t6, t7, t8⟩ := hM
  obtain ⟨u1, u2, u3, u4⟩ := str_uq (good_0 M0) s1 t1
  have m0 : M 0 0 = 10 := by rw [t2 0 0 (by decide), u2]
  have z : ∀ c i, 17 < c → c < 29 → M c i = 0 := fun c i h1 h2 => t8 c i h1 (Or.inl h2)
  refine ⟨?_, ?_, ?_, ⟨?_, ?_⟩, ?_, ?_, ?_⟩
  · rw [m0]
    rw [u1] at s2
    have r1 : RepX S' A 10 := s2.cg u3 u2
    refine r1.cg (Ag.of _ (fun c i c1 c2 => t2 c i (by omega))) m0
  · unfold TabJ
    rw [t3, s3, m0]
    refine ⟨by decide, rfl, fun i i1 i2 => ?_, fun i i1 i2 => ?_⟩
    · rcases (show i = 0 ∨ i = 1 ∨ i = 2 ∨ i = 3 by omega) with rfl | rfl | rfl | rfl
      · rw [s4, t4]
      · rw [s5, t5]
      · rw [s6 2 (by decide) (by decide), t6]
      · rw [s6 3 (by decide) (by decide), t7]
    · rcases (show i = 0 ∨ i = 1 by omega) with rfl | rfl
      · rw [t4]; decide
      · rw [t5]; decide
  · unfold PstJ
    rw [z 18 0 (by decide) (by decide), s7 38 0 (by omega)]
    exact ⟨by decide, rfl, fun i i1 i2 => by rw [s7 39 i (by omega), z 19 i (by decide) (by decide)], fun r r1 r2 => by omega, fun r r1 r2 => by omega⟩
  · unfold DrfJ
    rw [z 21 0 (by decide) (by decide), s7 1 0 (by omega), m0]
    exact ⟨⟨by decide, fun x x1 x2 q => absurd q (by rw [tb_0 ⟨x1, x2⟩]; decide)⟩, by decide, fun i j i1 i2 i3 => by omega, fun i i1 i2 => by omega, fun x x1 x2 => ⟨fun q => absurd q (by rw [tb_0 ⟨x1, by omega⟩]; decide), fun ⟨i, i1, i2, _⟩ => by omega⟩⟩
  · unfold DrfJ
    rw [z 21 1 (by decide) (by decide), s7 1 1 (by omega), m0]
    exact ⟨⟨by decide, fun x x1 x2 q => absurd q (by rw [tb_0 ⟨x1, x2⟩]; decide)⟩, by decide, fun i j i1 i2 i3 => by omega, fun i i1 i2 => by omega, fun x x1 x2 => ⟨fun q => absurd q (by rw [tb_0 ⟨x1, by omega⟩]; decide), fun ⟨i, i1, i2, _⟩ => by omega⟩⟩
  · unfold TxtJ
    rw [z 24 0 (by decide) (by decide), s7 23 0 (by omega)]
    exact ⟨by decide, rfl, fun i i1 i2 => by omega⟩
  · unfold WriJ
    rw [z 26 0 (by decide) (by decide), s7 37 0 (by omega)]
    exact ⟨by decide, rfl, fun i i1 i2 => by omega⟩
  · unfold LogJ
    rw [z 28 0 (by decide) (by decide), s7 0 0 (by omega)]
    exact ⟨by decide, rfl, fun i i1 i2 => by omega⟩
