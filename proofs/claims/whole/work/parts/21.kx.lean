/-! ===== what is known of a state beside the class's cells: nest links, the words of a throw, texts ===== -/
def nestX : List (String × Nat × MethodName × String) := [(RX9, 18, yX7_init, "HotGames"), (RX9, 43, yX8_init, "HotGames"), (RX9, 64, yX3_init, "HotGames"), (RX0, 66, yX9_signOf, "HotGames"), (RX1, 42, yX9_contains, "HotGames"), (RX1, 77, yX9_bit, "HotGames"), (RX2, 55, yX9_contains, "HotGames"), (RX2, 68, yX9_halvings, "HotGames"), (RX4, 58, yX9_halvings, "HotGames"), (RX5, 38, yX2_init, "HotGames"), (RX5, 50, yX9_bit, "HotGames"), (RX5, 106, yX9_contains, "HotGames"), (RX5, 125, yX9_signOf, "HotGames"), (RX5, 180, yX9_halvings, "HotGames"), (RX6, 63, yX9_contains, "HotGames"), (RX6, 67, yX9_signOf, "HotGames")]
def strX : List (Nat × String) := [(105, "a number is from -64 to 64 eighths"), (112, "there are 40 games"), (131, "the draft has 4 other options on this side"), (133, "the game would be too deep, or there are 40 games"), (138, "more than 40 games would be needed"), (164, "the game is hot"), (181, "t is from 0 to 100000"), (191, "there are 4 components"), (201, "there is no such option"), (203, "the component is cold"), (238, "a character's code is from 32 to 126"), (243, "the text has 80 characters"), (252, "the text has a fault"), (263, "too many options, too deep, or more than 40 games"), (266, "it would be longer than 400 characters"), (277, "no state is saved"), (300, "there is no such game"), (303, "there is no such component"), (305, "neither 0 nor 1"), (307, "a strategy is from 0 to 3"), (312, "the size of the table is greater than 4000")]
def declX : List MethodName := [Bundle.initS "java/lang/RuntimeException", Bundle.initS "java/lang/Exception", Bundle.initS Bundle.tN]
def excX : List String := ["java/lang/IllegalArgumentException", "java/lang/IllegalStateException", "java/lang/IndexOutOfBoundsException"]
def lenN : List Nat := [4, 2, 4]
def bytN : List (List Int32) := [[115, 116, 97, 114], [117, 112], [100, 111, 119, 110]]
def KX (sk : (Nat → Nat) × (Nat → Nat)) (A : Nat → Prop) (s : State) : Prop :=
  (∀ q ∈ nestX, va_Nw (.methodLinkNest q.1 q.2.1 q.2.2.1 q.2.2.2) s) ∧ (∀ x ∈ declX, va_Nw (.declares x) s) ∧ (∀ c ∈ excX, va_Nw (.castable c c) s) ∧ (∀ q ∈ strX, ∃ a, vk_R RX9 q.1 q.2 a s) ∧
  vx_Zq Bundle.tN "UNASSIGNED_STACK" Bundle.steD A s s.heap ∧ vx_Zq Bundle.tN "SUPPRESSED_SENTINEL" Bundle.listD A s s.heap ∧
  vk_S 3 lenN bytN sk.1 sk.2 A s s.heap ∧ (vk_R RX8 84 "star" (sk.1 0) s ∧ vk_R RX8 93 "up" (sk.1 1) s ∧ vk_R RX8 95 "down" (sk.1 2) s) ∧
  va_Z "java/lang/String" "COMPACT_STRINGS" "Z" (.int 1) A s s.heap ∧ va_Zq "jdk/internal/util/Preconditions" "SIOOBE_FORMATTER" "Ljava/util/function/BiFunction;" A s s.heap
abbrev wC (g : Gs) (ad : Nat → Nat) (sk : (Nat → Nat) × (Nat → Nat)) : Wd := wX g ad (KX sk)
theorem wC_mv (g : Gs) (ad : Nat → Nat) (sk : (Nat → Nat) × (Nat → Nat)) : KMv (wC g ad sk) := by
  intro A A' s U h hW hsub hq
  obtain ⟨h1, h2, h3, h4, h5, h6, h7, ⟨h8, h9, h10⟩, h11, h12⟩ := h
  have ha := hW.alike
  refine ⟨fun q hq => (h1 q hq).warmM hW, fun x hx => (h2 x hx).warmD hW, fun c hc => (h3 c hc).warmC hW, fun q hq => ?_, ?_, ?_, ?_, ⟨h8.warm hW, h9.warm hW, h10.warm hW⟩, ?_, ?_⟩
  · obtain ⟨a, ha⟩ := h4 q hq
    exact ⟨a, ha.warm hW⟩
  · exact vx_Zq.moved ha ((h5.kept hq).narrow hsub)
  · exact vx_Zq.moved ha ((h6.kept hq).narrow hsub)
  · exact vk_S.moved ha ((h7.kept hq).narrow hsub)
  · exact va_Z.moved ha ((h11.kept hq).narrow hsub)
  · exact va_Zq.moved ha ((h12.kept hq).narrow hsub)
section KXR
variable {g : Gs} {ad : Nat → Nat} {sk : (Nat → Nat) × (Nat → Nat)} {X : Cx} {cc cc' : ByteArray} {own : String} {nL d mc ms nL' d' : Nat} {k n : Nat} {M : Mem} {pc : Nat} {lv : List (Nat × Value)} {st As rest : List Value} {PQ : Option Value → Mem → Prop} {PX : String → Mem → Prop} {y : MethodName} {ret ret' : Option FieldType} {ix : Nat}
theorem run_vx {p : Program} {l : Launch} {e : Env} {R : Room} {s : State} {m : MethodId} {args : Array Value} {below : List Frame} {meth : Method} {c : Code} {H : Heap} {locs : List Loc} {cells slots mc ms : Nat} {g : JFrame} {rest : List Value} {Qa : State → Outcome → State → Prop} {XC : String → State → State → Prop} {free : Addr → Prop} (h : va_Run p l e R s m args below meth c H locs cells slots mc ms g rest Qa free) : vx_Run p l e R s m args below meth c H locs cells slots mc ms g rest Qa XC free := fun T hT X => Or.inl (h T hT X)
/-- a static call of a nest mate's private method -/
theorem e_callSN {host : String} {v2 : Option Value} {M2 : Mem} (C : OkB (wC g ad sk) X cc own nL d mc ms) (Y : OkR (wC g ad sk) X ret mc ms PQ PX) (I : MI y cc' nL' ret' As.length) (hin : Cond.static y ∈ gT) (hlk : (own, ix, y, host) ∈ nestX)
    (hC : Sp (wC g ad sk) y cc' nL' ret' d' As M v2 M2) (hdd : d' < d) (hr8 : (rest.map fun v => v.category).sum ≤ 8) (hk : k ≤ mc) (hn : n ≤ ms)
    (hd : decode cc pc = .ok (.invokestatic ix, 3)) (hs0 : st = As.reverse ++ rest)
    (kret : E (wC g ad sk) X k n M2 (pc + 3) lv (v2.toList ++ rest)) : E (wC g ad sk) X k n M pc lv st := by
  subst hs0
  obtain ⟨p, l, e, R, s, m, args, below, meth, c, A, Q, nL9⟩ := X
  obtain ⟨hx, hb, hml, hown, hts, hA, hK, hKK, hmv, rfl, hfr, hlo, hmc, hms, hlk2, htb⟩ := C
  obtain ⟨rfl, hrt, hst⟩ := Y
  obtain ⟨⟨hcode, hini⟩, hdy, hnl, -⟩ := I
  intro hw H locs ls hP hD hS hl
  have hM := met_vx (hC l hst hw hmv H.size)
  have hrun := va_runSN (g := F0 m pc ls (As.reverse ++ rest)) (locs := locs) (cells := k) (slots := n) (below := below) (meth := meth) (e := e) (rest := rest) (Ts := gT) (own := own) (R := R) (host := host) ⟨hx, hb, hml, hown, hts⟩ hM
    ⟨va_cnB As.length hts (goodIn_law hcode) rfl rfl rfl (hKK.1 _ hlk) (hts _ hini) ⟨hdy.1.1, hdy.1.2, hdy.2⟩ ⟨by show 16 * d' + 1 ≤ R.frames; omega, by show 8 + (nL' + 11) + 200 * d' ≤ R.locals; omega⟩, hts _ hin, trivial⟩
    (H := H) ⟨pc_blind hmv, fun U hU hW => ct_pre hmv hP hD hS hA hK hKK hU hW⟩ rfl rfl hl.1 rfl (lv_room hr8) hd ⟨by omega, by omega⟩
  refine e_run (PX' := NoX) (run_vx hrun) hD hS hA hl (fun v M1 h => ?_) (fun Ec M1 H1 locs1 q ce h1 => absurd h1 id)
  obtain ⟨rfl, rfl⟩ := h
  exact kret
/-- rows of references -/
theorem e_aaldG {i : Int} (C : OkB (wC g ad sk) X cc own nL d mc ms) (hi : 0 ≤ i ∧ i < 40) (hd : decode cc pc = .ok (.aaload, 1)) (kk : E (wC g ad sk) X k n M (pc + 1) lv (.ref (ad (44 + 6 * i.toNat)) :: st)) : E (wC g ad sk) X k n M pc lv (vI i :: .ref (ad 12) :: st) := by
  obtain ⟨p, l, e, R, s, m, args, below, meth, c, A, Q, nL9⟩ := X
  obtain ⟨hx, hb, hml, hown, hts, hA, hK, hKK, hmv, rfl, hfr, hlo, hmc, hms, hlk2, htb⟩ := C
  intro hw H locs ls hP hD hS hl
  refine va_aldq hx hb hK hP 12 4 (wlX_st rfl) rfl (vp_in_i hi) hd ?_
  rw [clamp_i hi.1 (by omega)]
  exact kk hw H locs ls hP hD hS hl
theorem e_aaldA {i : Int} {q0 a len b : Nat} (he : (wlX g ad M)[q0]? = some (a, .inl (g.2.2.2.2.2.2, len, .inr (.inr (.inr (.inr (fun j : Nat => some (ad (b + j))))))))) (hlen : len < 2147483648) (C : OkB (wC g ad sk) X cc own nL d mc ms) (hi : 0 ≤ i ∧ i < len) (hd : decode cc pc = .ok (.aaload, 1)) (kk : E (wC g ad sk) X k n M (pc + 1) lv (.ref (ad (b + i.toNat)) :: st)) : E (wC g ad sk) X k n M pc lv (vI i :: .ref a :: st) := by
  obtain ⟨p, l, e, R, s, m, args, below, meth, c, A, Q, nL9⟩ := X
  obtain ⟨hx, hb, hml, hown, hts, hA, hK, hKK, hmv, rfl, hfr, hlo, hmc, hms, hlk2, htb⟩ := C
  intro hw H locs ls hP hD hS hl
  have hin := vp_in_i hi hlen
  have hcl := clamp_i hi.1 (show i < 2147483648 by omega)
  have hlt : (i32 i).toNatClampNeg < len := Nat.not_le.mp fun q => hin (Or.inr q)
  refine W.aald (v := .ref (ad (b + i.toNat))) (ty := .array .int) hx hb (hP q0 _ he) ((hK.2 5 _ rfl).1 len (fun j => va_rf (some (ad (b + j))))) rfl (fun q => by cases q) (by show ¬ (i32 i < 0 ∨ (arrV _ _ _).slots.size ≤ _); rw [arrV_size]; exact hin) (by show (arrV _ _ _).slots[_]? = _; rw [arrV_read _ _ hlt, hcl]; rfl) rfl rfl hd (kk hw H locs ls hP hD hS hl)
theorem e_aaldW {i : Int} (C : OkB (wC g ad sk) X cc own nL d mc ms) (hi : 0 ≤ i ∧ i < 2) (hd : decode cc pc = .ok (.aaload, 1)) (kk : E (wC g ad sk) X k n M (pc + 1) lv (.ref (ad (15 + i.toNat)) :: st)) : E (wC g ad sk) X k n M pc lv (vI i :: .ref (ad 14) :: st) := e_aaldA (q0 := 14) (wlX_st rfl) (by decide) C hi hd kk
theorem e_aaldR {i : Int} (C : OkB (wC g ad sk) X cc own nL d mc ms) (hi : 0 ≤ i ∧ i < 4) (hd : decode cc pc = .ok (.aaload, 1)) (kk : E (wC g ad sk) X k n M (pc + 1) lv (.ref (ad (21 + i.toNat)) :: st)) : E (wC g ad sk) X k n M pc lv (vI i :: .ref (ad 20) :: st) := e_aaldA (q0 := 20) (wlX_st rfl) (by decide) C hi hd kk
theorem e_aaldK {i : Int} (C : OkB (wC g ad sk) X cc own nL d mc ms) (hi : 0 ≤ i ∧ i < 4) (hd : decode cc pc = .ok (.aaload, 1)) (kk : E (wC g ad sk) X k n M (pc + 1) lv (.ref (ad (26 + i.toNat)) :: st)) : E (wC g ad sk) X k n M pc lv (vI i :: .ref (ad 25) :: st) := e_aaldA (q0 := 25) (wlX_st rfl) (by decide) C hi hd kk
theorem aR_W {z i : Int} (C : OkB (wC g ad sk) X cc own nL d mc ms) (hz : 0 ≤ z ∧ z < 2) (hi : 0 ≤ i ∧ i < 40) (hd : decode cc pc = .ok (.iaload, 1)) (kk : E (wC g ad sk) X k n M (pc + 1) lv (vI (M 6 (2 * i + z)) :: st)) : E (wC g ad sk) X k n M pc lv (vI i :: .ref (ad (15 + z.toNat)) :: st) := by
  rcases (show z = 0 ∨ z = 1 by omega) with rfl | rfl
  · exact aX_15 C hi hd kk
  · exact aX_16 C hi hd kk
theorem sR_W {z i x : Int} (C : OkB (wC g ad sk) X cc own nL d mc ms) (hz : 0 ≤ z ∧ z < 2) (hi : 0 ≤ i ∧ i < 40) (hx9 : R32 x) (hd : decode cc pc = .ok (.iastore, 1)) (kk : E (wC g ad sk) X k n (up M 6 (2 * i + z) x) (pc + 1) lv st) : E (wC g ad sk) X k n M pc lv (vI x :: vI i :: .ref (ad (15 + z.toNat)) :: st) := by
  rcases (show z = 0 ∨ z = 1 by omega) with rfl | rfl
  · exact sX_15 C hi hx9 hd kk
  · exact sX_16 C hi hx9 hd kk
theorem aR_R {z i : Int} (C : OkB (wC g ad sk) X cc own nL d mc ms) (hz : 0 ≤ z ∧ z < 4) (hi : 0 ≤ i ∧ i < 40) (hd : decode cc pc = .ok (.iaload, 1)) (kk : E (wC g ad sk) X k n M (pc + 1) lv (vI (M 12 (4 * i + z)) :: st)) : E (wC g ad sk) X k n M pc lv (vI i :: .ref (ad (21 + z.toNat)) :: st) := by
  rcases (show z = 0 ∨ z = 1 ∨ z = 2 ∨ z = 3 by omega) with rfl | rfl | rfl | rfl
  · exact aX_21 C hi hd kk
  · exact aX_22 C hi hd kk
  · exact aX_23 C hi hd kk
  · exact aX_24 C hi hd kk
theorem sR_R {z i x : Int} (C : OkB (wC g ad sk) X cc own nL d mc ms) (hz : 0 ≤ z ∧ z < 4) (hi : 0 ≤ i ∧ i < 40) (hx9 : R32 x) (hd : decode cc pc = .ok (.iastore, 1)) (kk : E (wC g ad sk) X k n (up M 12 (4 * i + z) x) (pc + 1) lv st) : E (wC g ad sk) X k n M pc lv (vI x :: vI i :: .ref (ad (21 + z.toNat)) :: st) := by
  rcases (show z = 0 ∨ z = 1 ∨ z = 2 ∨ z = 3 by omega) with rfl | rfl | rfl | rfl
  · exact sX_21 C hi hx9 hd kk
  · exact sX_22 C hi hx9 hd kk
  · exact sX_23 C hi hx9 hd kk
  · exact sX_24 C hi hx9 hd kk
theorem aR_K {z i : Int} (C : OkB (wC g ad sk) X cc own nL d mc ms) (hz : 0 ≤ z ∧ z < 4) (hi : 0 ≤ i ∧ i < 40) (hd : decode cc pc = .ok (.iaload, 1)) (kk : E (wC g ad sk) X k n M (pc + 1) lv (vI (M 13 (4 * i + z)) :: st)) : E (wC g ad sk) X k n M pc lv (vI i :: .ref (ad (26 + z.toNat)) :: st) := by
  rcases (show z = 0 ∨ z = 1 ∨ z = 2 ∨ z = 3 by omega) with rfl | rfl | rfl | rfl
  · exact aX_26 C hi hd kk
  · exact aX_27 C hi hd kk
  · exact aX_28 C hi hd kk
  · exact aX_29 C hi hd kk
theorem sR_K {z i x : Int} (C : OkB (wC g ad sk) X cc own nL d mc ms) (hz : 0 ≤ z ∧ z < 4) (hi : 0 ≤ i ∧ i < 40) (hx9 : R32 x) (hd : decode cc pc = .ok (.iastore, 1)) (kk : E (wC g ad sk) X k n (up M 13 (4 * i + z) x) (pc + 1) lv st) : E (wC g ad sk) X k n M pc lv (vI x :: vI i :: .ref (ad (26 + z.toNat)) :: st) := by
  rcases (show z = 0 ∨ z = 1 ∨ z = 2 ∨ z = 3 by omega) with rfl | rfl | rfl | rfl
  · exact sX_26 C hi hx9 hd kk
  · exact sX_27 C hi hx9 hd kk
  · exact sX_28 C hi hx9 hd kk
  · exact sX_29 C hi hx9 hd kk
def scC (b : Int) : Nat := if b = 0 then 17 else 18
theorem aS_0 {i : Int} (C : OkB (wC g ad sk) X cc own nL d mc ms) (hi : 0 ≤ i ∧ i < M 20 0) (hd : decode cc pc = .ok (.iaload, 1)) (kk : E (wC g ad sk) X k n M (pc + 1) lv (vI (M 17 i) :: st)) : E (wC g ad sk) X k n M pc lv (vI i :: .ref (M 19 0).toNat :: st) :=
  e_wf (fun hw => e_iald (q0 := 33) (t0 := 0) (len := (M 20 0).toNat) C (wlX_st rfl) rfl (by omega) (by have h9 := hw.2.2.2; omega) (toNat_i32 hi.1) hd kk)
theorem aS_1 {i : Int} (C : OkB (wC g ad sk) X cc own nL d mc ms) (hi : 0 ≤ i ∧ i < M 20 0) (hd : decode cc pc = .ok (.iaload, 1)) (kk : E (wC g ad sk) X k n M (pc + 1) lv (vI (M 18 i) :: st)) : E (wC g ad sk) X k n M pc lv (vI i :: .ref (M 19 1).toNat :: st) :=
  e_wf (fun hw => e_iald (q0 := 34) (t0 := 0) (len := (M 20 0).toNat) C (wlX_st rfl) rfl (by omega) (by have h9 := hw.2.2.2; omega) (toNat_i32 hi.1) hd kk)
theorem aS {b i : Int} (C : OkB (wC g ad sk) X cc own nL d mc ms) (hb : 0 ≤ b ∧ b < 2) (hi : 0 ≤ i ∧ i < M 20 0) (hd : decode cc pc = .ok (.iaload, 1)) (kk : E (wC g ad sk) X k n M (pc + 1) lv (vI (M (scC b) i) :: st)) : E (wC g ad sk) X k n M pc lv (vI i :: .ref (M 19 b).toNat :: st) := by
  rcases (show b = 0 ∨ b = 1 by omega) with rfl | rfl
  · exact aS_0 C hi hd kk
  · exact aS_1 C hi hd kk
theorem alS_0 (C : OkB (wC g ad sk) X cc own nL d mc ms) (hd : decode cc pc = .ok (.arraylength, 1)) (kk : E (wC g ad sk) X k n M (pc + 1) lv (vI (M 20 0) :: st)) : E (wC g ad sk) X k n M pc lv (.ref (M 19 0).toNat :: st) := by
  obtain ⟨p, l, e, R, s, m, args, below, meth, c, A, Q, nL9⟩ := X
  obtain ⟨hx, hb, hml, hown, hts, hA, hK, hKK, hmv, rfl, hfr, hlo, hmc, hms, hlk2, htb⟩ := C
  intro hw H locs ls hP hD hS hl
  refine va_alen (v := i32 (M 20 0)) hx hb hK hP 33 0 (wlX_st rfl) rfl ?_ hd (kk hw H locs ls hP hD hS hl)
  have h9 := hw.2.2.2
  apply Int32.toInt_inj.mp
  rw [i32_toInt (by omega)]
  show (nI (M 20 0).toNat).toInt = _
  rw [nI_toInt (by omega)]
  omega
theorem sS_0 {i x : Int} (C : OkB (wC g ad sk) X cc own nL d mc ms) (hi : 0 ≤ i ∧ i < M 20 0) (hx9 : R32 x) (hd : decode cc pc = .ok (.iastore, 1)) (kk : E (wC g ad sk) X k n (up M 17 i x) (pc + 1) lv st) : E (wC g ad sk) X k n M pc lv (vI x :: vI i :: .ref (M 19 0).toNat :: st) :=
  e_wf (fun hw => e_iast (M1 := up M 17 i x) (q0 := 33) (t0 := 0) (len := (M 20 0).toNat) C (wlX_st rfl) rfl (by omega) (by have h9 := hw.2.2.2; omega) (wlX_setS (by decide) (by rw [upd_i32 hi.1]; rfl) (fun _ => rfl)) (rx_up (fun h => absurd h (by decide)) (fun _ => hx9) (fun h => absurd h (by decide)) (by decide) (by decide)) hd kk)
theorem sS_1 {i x : Int} (C : OkB (wC g ad sk) X cc own nL d mc ms) (hi : 0 ≤ i ∧ i < M 20 0) (hx9 : R32 x) (hd : decode cc pc = .ok (.iastore, 1)) (kk : E (wC g ad sk) X k n (up M 18 i x) (pc + 1) lv st) : E (wC g ad sk) X k n M pc lv (vI x :: vI i :: .ref (M 19 1).toNat :: st) :=
  e_wf (fun hw => e_iast (M1 := up M 18 i x) (q0 := 34) (t0 := 0) (len := (M 20 0).toNat) C (wlX_st rfl) rfl (by omega) (by have h9 := hw.2.2.2; omega) (wlX_setS (by decide) (by rw [upd_i32 hi.1]; rfl) (fun _ => rfl)) (rx_up (fun h => absurd h (by decide)) (fun _ => hx9) (fun h => absurd h (by decide)) (by decide) (by decide)) hd kk)
/-- the line of a score: the adviser's (0) or the table's (1) -/
def lnA (b : Int) : Nat := if b = 0 then 10 else 19
def lnC (b : Int) : Nat := if b = 0 then 2 else 10
theorem aLn {b i : Int} (C : OkB (wC g ad sk) X cc own nL d mc ms) (hb : 0 ≤ b ∧ b < 2) (hi : 0 ≤ i ∧ i < 4) (hd : decode cc pc = .ok (.iaload, 1)) (kk : E (wC g ad sk) X k n M (pc + 1) lv (vI (M (lnC b) i) :: st)) : E (wC g ad sk) X k n M pc lv (vI i :: .ref (ad (lnA b)) :: st) := by
  rcases (show b = 0 ∨ b = 1 by omega) with rfl | rfl
  · exact aX_10 C hi hd kk
  · exact aX_19 C hi hd kk
theorem e_l2i {a : Int} (C : OkB (wC g ad sk) X cc own nL d mc ms) (ha : R32 a) (hd : decode cc pc = .ok (.l2i, 1)) (kk : E (wC g ad sk) X k n M (pc + 1) lv (vI a :: st)) : E (wC g ad sk) X k n M pc lv (vL a :: st) := by
  obtain ⟨p, l, e, R, s, m, args, below, meth, c, A, Q, nL9⟩ := X
  obtain ⟨hx, hb, hml, hown, hts, hA, hK, hKK, hmv, rfl, hfr, hlo, hmc, hms, hlk2, htb⟩ := C
  intro hw H locs ls hP hD hS hl
  refine lv_l2i hx hb hd ?_ (kk hw H locs ls hP hD hS hl)
  rw [← i32_long ha]
  exact Int32.toInt32_toInt64 _
/-- throw new E("text") -/
theorem e_throwS {cls text : String} {ik is ic : Nat} (hcls : cls ∈ excX) (hfit : Bundle.fit cls = true) (hat : ∀ v ∈ (vx_atS RX9 ic cls ["java/lang/RuntimeException", "java/lang/Exception"]).filter goodWord, v ∈ gT) (hbad : ∀ v ∈ (vx_atS RX9 ic cls ["java/lang/RuntimeException", "java/lang/Exception"]).filter (fun v => !goodWord v), v ∈ declX.map Cond.declares ++ [Cond.castable cls cls]) (hot : ∀ v ∈ Cond.classLink RX9 ik cls :: Cond.initialized cls :: vx_atS RX9 ic cls ["java/lang/RuntimeException", "java/lang/Exception"], vx_ot v = true)
    (hk9 : Cond.classLink RX9 ik cls ∈ gT) (hini : Cond.initialized cls ∈ gT) (hstr : (is, text) ∈ strX) (C : OkB (wC g ad sk) X cc RX9 nL d mc ms) (Y : OkR (wC g ad sk) X ret mc ms PQ PX) (hd1 : 1 ≤ d) (hr8 : (st.map fun v => v.category).sum ≤ 8) (hk : k + 1 ≤ mc) (hn : n + 6 ≤ ms)
    (hdc : (decode cc pc = .ok (.new ik, 3) ∧ decode cc (pc + 3) = .ok (.dup, 1)) ∧ ((decode cc (pc + 4) = .ok (.ldc is, 2) ∧ decode cc (pc + 6) = .ok (.invokespecial ic, 3) ∧ decode cc (pc + 9) = .ok (.athrow, 1)) ∨ (decode cc (pc + 4) = .ok (.ldc_w is, 3) ∧ decode cc (pc + 7) = .ok (.invokespecial ic, 3) ∧ decode cc (pc + 10) = .ok (.athrow, 1))))
    (hx9 : PX cls M) : E (wC g ad sk) X k n M pc lv st := by
  obtain ⟨p, l, e, R, s, m, args, below, meth, c, A, Q, nL9⟩ := X
  obtain ⟨hx, hb, hml, hown, hts, hA, hK, hKK, hmv, rfl, hfr, hlo, hmc, hms, hlk2, htb⟩ := C
  obtain ⟨rfl, hrt, hst⟩ := Y
  intro hw H locs ls hP hD hS hl
  obtain ⟨h1, h2, h3, h4, h5, h6, -⟩ := hKK
  obtain ⟨sa, hsa⟩ := h4 _ hstr
  have hatt : ∀ v ∈ vx_atS RX9 ic cls ["java/lang/RuntimeException", "java/lang/Exception"], v.before args s = true := by
    refine vx_hat (fun v hv => hts v (hat v hv)) hbad ?_
    intro v hv
    rcases List.mem_append.mp hv with hv | hv
    · obtain ⟨x, hx1, rfl⟩ := List.mem_map.mp hv
      exact (h2 x hx1).use rfl
    · cases List.mem_singleton.mp hv
      exact (h3 cls hcls).use rfl
  have hnames : ∀ v ∈ ["java/lang/RuntimeException", "java/lang/Exception"], Bundle.fit v = true := by decide +kernel
  have hxc : ∀ t : State, s.vm.Alike t.vm → H.size ≤ t.heap.size → (∀ q : Nat, q < H.size → t.heap[q]? = H[q]?) → XcW (wC g ad sk) A PX cls s t := by
    intro t _ hz hq
    refine ⟨M, hx9, hw, hP.kept (fun k9 q9 h9 => hq q9.1 (hP k9 q9 h9).lt), hD, Nat.le_trans hS.1 hz, fun q h8 h9 => ?_⟩
    rw [hq q (Nat.lt_of_lt_of_le h8 hS.1)]
    exact hS.2.1 q h8 h9
  obtain ⟨⟨d0, d3⟩, ⟨d4, d6, d9⟩ | ⟨d4, d6, d9⟩⟩ := hdc
  · exact vx_throwS hx hb hst hown hfit hnames (hts _ hk9) (hts _ hini) hsa hatt hot h5 h6 hS (by rw [hml]; exact hl.1) d0 d3 d4 d6 d9 (out_none htb) (by show 2 + 3 < R.frames; omega) (by show _ + (13 * (2 + 1) + 43) ≤ R.locals; omega) (by omega) (by omega) hlk2 hxc hS.2.2 (by omega) (by omega)
  · exact vx_throwSW hx hb hst hown hfit hnames (hts _ hk9) (hts _ hini) hsa hatt hot h5 h6 hS (by rw [hml]; exact hl.1) d0 d3 d4 d6 d9 (out_none htb) (by show 2 + 3 < R.frames; omega) (by show _ + (13 * (2 + 1) + 43) ≤ R.locals; omega) (by omega) (by omega) hlk2 hxc hS.2.2 (by omega) (by omega)
end KXR
set_option maxRecDepth 20000 in
theorem tx_IA : ∀ v ∈ (vx_atS RX9 107 "java/lang/IllegalArgumentException" ["java/lang/RuntimeException", "java/lang/Exception"]).filter goodWord, v ∈ gT := by
  have h : ∀ v ∈ (vx_atS RX9 107 "java/lang/IllegalArgumentException" ["java/lang/RuntimeException", "java/lang/Exception"]).filter goodWord, v ∈ lw_tbl := by decide +kernel
  exact fun v hv => gT_of (h v hv) (List.mem_filter.mp hv).2
theorem ty_IA : ∀ v ∈ (vx_atS RX9 107 "java/lang/IllegalArgumentException" ["java/lang/RuntimeException", "java/lang/Exception"]).filter (fun v => !goodWord v), v ∈ declX.map Cond.declares ++ [Cond.castable "java/lang/IllegalArgumentException" "java/lang/IllegalArgumentException"] := by decide +kernel
theorem tz_IA : ∀ v ∈ Cond.classLink RX9 103 "java/lang/IllegalArgumentException" :: Cond.initialized "java/lang/IllegalArgumentException" :: vx_atS RX9 107 "java/lang/IllegalArgumentException" ["java/lang/RuntimeException", "java/lang/Exception"], vx_ot v = true := by decide +kernel
theorem th_IA {g : Gs} {ad : Nat → Nat} {sk : (Nat → Nat) × (Nat → Nat)} {X : Cx} {cc : ByteArray} {nL d mc ms k n : Nat} {M : Mem} {pc : Nat} {lv : List (Nat × Value)} {st : List Value} {PQ : Option Value → Mem → Prop} {PX : String → Mem → Prop} {ret : Option FieldType} {text : String} {is : Nat} (hstr : (is, text) ∈ strX) (C : OkB (wC g ad sk) X cc RX9 nL d mc ms) (Y : OkR (wC g ad sk) X ret mc ms PQ PX) (hd1 : 1 ≤ d) (hr8 : (st.map fun v => v.category).sum ≤ 8) (hk : k + 1 ≤ mc) (hn : n + 6 ≤ ms) (hdc : (decode cc pc = .ok (.new 103, 3) ∧ decode cc (pc + 3) = .ok (.dup, 1)) ∧ ((decode cc (pc + 4) = .ok (.ldc is, 2) ∧ decode cc (pc + 6) = .ok (.invokespecial 107, 3) ∧ decode cc (pc + 9) = .ok (.athrow, 1)) ∨ (decode cc (pc + 4) = .ok (.ldc_w is, 3) ∧ decode cc (pc + 7) = .ok (.invokespecial 107, 3) ∧ decode cc (pc + 10) = .ok (.athrow, 1)))) (hx9 : PX "java/lang/IllegalArgumentException" M) : E (wC g ad sk) X k n M pc lv st := e_throwS (by decide) (by decide +kernel) tx_IA ty_IA tz_IA (tg3 159 rfl rfl) (tg1 17 rfl rfl) hstr C Y hd1 hr8 hk hn hdc hx9
set_option maxRecDepth 20000 in
theorem tx_IS : ∀ v ∈ (vx_atS RX9 114 "java/lang/IllegalStateException" ["java/lang/RuntimeException", "java/lang/Exception"]).filter goodWord, v ∈ gT := by
  have h : ∀ v ∈ (vx_atS RX9 114 "java/lang/IllegalStateException" ["java/lang/RuntimeException", "java/lang/Exception"]).filter goodWord, v ∈ lw_tbl := by decide +kernel
  exact fun v hv => gT_of (h v hv) (List.mem_filter.mp hv).2
theorem ty_IS : ∀ v ∈ (vx_atS RX9 114 "java/lang/IllegalStateException" ["java/lang/RuntimeException", "java/lang/Exception"]).filter (fun v => !goodWord v), v ∈ declX.map Cond.declares ++ [Cond.castable "java/lang/IllegalStateException" "java/lang/IllegalStateException"] := by decide +kernel
theorem tz_IS : ∀ v ∈ Cond.classLink RX9 110 "java/lang/IllegalStateException" :: Cond.initialized "java/lang/IllegalStateException" :: vx_atS RX9 114 "java/lang/IllegalStateException" ["java/lang/RuntimeException", "java/lang/Exception"], vx_ot v = true := by decide +kernel
theorem th_IS {g : Gs} {ad : Nat → Nat} {sk : (Nat → Nat) × (Nat → Nat)} {X : Cx} {cc : ByteArray} {nL d mc ms k n : Nat} {M : Mem} {pc : Nat} {lv : List (Nat × Value)} {st : List Value} {PQ : Option Value → Mem → Prop} {PX : String → Mem → Prop} {ret : Option FieldType} {text : String} {is : Nat} (hstr : (is, text) ∈ strX) (C : OkB (wC g ad sk) X cc RX9 nL d mc ms) (Y : OkR (wC g ad sk) X ret mc ms PQ PX) (hd1 : 1 ≤ d) (hr8 : (st.map fun v => v.category).sum ≤ 8) (hk : k + 1 ≤ mc) (hn : n + 6 ≤ ms) (hdc : (decode cc pc = .ok (.new 110, 3) ∧ decode cc (pc + 3) = .ok (.dup, 1)) ∧ ((decode cc (pc + 4) = .ok (.ldc is, 2) ∧ decode cc (pc + 6) = .ok (.invokespecial 114, 3) ∧ decode cc (pc + 9) = .ok (.athrow, 1)) ∨ (decode cc (pc + 4) = .ok (.ldc_w is, 3) ∧ decode cc (pc + 7) = .ok (.invokespecial 114, 3) ∧ decode cc (pc + 10) = .ok (.athrow, 1)))) (hx9 : PX "java/lang/IllegalStateException" M) : E (wC g ad sk) X k n M pc lv st := e_throwS (by decide) (by decide +kernel) tx_IS ty_IS tz_IS (tg3 226 rfl rfl) (tg1 18 rfl rfl) hstr C Y hd1 hr8 hk hn hdc hx9
set_option maxRecDepth 20000 in
theorem tx_IO : ∀ v ∈ (vx_atS RX9 302 "java/lang/IndexOutOfBoundsException" ["java/lang/RuntimeException", "java/lang/Exception"]).filter goodWord, v ∈ gT := by
  have h : ∀ v ∈ (vx_atS RX9 302 "java/lang/IndexOutOfBoundsException" ["java/lang/RuntimeException", "java/lang/Exception"]).filter goodWord, v ∈ lw_tbl := by decide +kernel
  exact fun v hv => gT_of (h v hv) (List.mem_filter.mp hv).2
theorem ty_IO : ∀ v ∈ (vx_atS RX9 302 "java/lang/IndexOutOfBoundsException" ["java/lang/RuntimeException", "java/lang/Exception"]).filter (fun v => !goodWord v), v ∈ declX.map Cond.declares ++ [Cond.castable "java/lang/IndexOutOfBoundsException" "java/lang/IndexOutOfBoundsException"] := by decide +kernel
theorem tz_IO : ∀ v ∈ Cond.classLink RX9 298 "java/lang/IndexOutOfBoundsException" :: Cond.initialized "java/lang/IndexOutOfBoundsException" :: vx_atS RX9 302 "java/lang/IndexOutOfBoundsException" ["java/lang/RuntimeException", "java/lang/Exception"], vx_ot v = true := by decide +kernel
theorem th_IO {g : Gs} {ad : Nat → Nat} {sk : (Nat → Nat) × (Nat → Nat)} {X : Cx} {cc : ByteArray} {nL d mc ms k n : Nat} {M : Mem} {pc : Nat} {lv : List (Nat × Value)} {st : List Value} {PQ : Option Value → Mem → Prop} {PX : String → Mem → Prop} {ret : Option FieldType} {text : String} {is : Nat} (hstr : (is, text) ∈ strX) (C : OkB (wC g ad sk) X cc RX9 nL d mc ms) (Y : OkR (wC g ad sk) X ret mc ms PQ PX) (hd1 : 1 ≤ d) (hr8 : (st.map fun v => v.category).sum ≤ 8) (hk : k + 1 ≤ mc) (hn : n + 6 ≤ ms) (hdc : (decode cc pc = .ok (.new 298, 3) ∧ decode cc (pc + 3) = .ok (.dup, 1)) ∧ ((decode cc (pc + 4) = .ok (.ldc is, 2) ∧ decode cc (pc + 6) = .ok (.invokespecial 302, 3) ∧ decode cc (pc + 9) = .ok (.athrow, 1)) ∨ (decode cc (pc + 4) = .ok (.ldc_w is, 3) ∧ decode cc (pc + 7) = .ok (.invokespecial 302, 3) ∧ decode cc (pc + 10) = .ok (.athrow, 1)))) (hx9 : PX "java/lang/IndexOutOfBoundsException" M) : E (wC g ad sk) X k n M pc lv st := e_throwS (by decide) (by decide +kernel) tx_IO ty_IO tz_IO (tg4 21 rfl rfl) (tg1 20 rfl rfl) hstr C Y hd1 hr8 hk hn hdc hx9
