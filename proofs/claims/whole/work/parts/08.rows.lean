/-! ===== worlds, contexts, the judgement E, a row an instruction ===== -/
/-- a world: class numbers, cells of a memory, what memories are well formed, what is known of a state -/
abbrev Wd : Type := va_G × List (ClassId × FieldType) × (Mem → va_W) × (Mem → Prop) × ((Nat → Prop) → State → Prop)
/-- what is known of a state stays known behind steps that change nothing outside A -/
def KMv (w : Wd) : Prop := ∀ (A A' : Nat → Prop) (s U : State), w.2.2.2.2 A s → s.WarmedH U.vm → (∀ q, A' q → A q) → (∀ q : Nat, q < s.heap.size → ¬ A q → U.heap[q]? = s.heap[q]?) → w.2.2.2.2 A' U
abbrev Cx : Type := Program × Launch × Env × Room × State × MethodId × Array Value × List Frame × Method × Code × (Nat → Prop) × (State → Prop) × Nat
def E (w : Wd) (X : Cx) (k n : Nat) (M : Mem) (pc : Nat) (lv : List (Nat × Value)) (st : List Value) : Prop :=
  match X with
  | (p, l, e, R, s, m, args, below, meth, c, A, Q, nL) => w.2.2.2.1 M → ∀ (H : Heap) (locs : List Loc) (ls : Array Slot), va_P w.1 vwCl (w.2.2.1 M) H → va_D A (w.2.2.1 M) → va_S A s.heap H locs → lv_has ls nL lv → W p l e R s m args below meth c H locs k n Q (F0 m pc ls st)
def OkB (w : Wd) (X : Cx) (cc : ByteArray) (own : String) (nL d mc ms : Nat) : Prop :=
  match X with
  | (p, l, e, R, s, m, args, below, meth, c, A, Q, nL') => p.tables.exec = Jvm.exec ∧ c.code = cc ∧ c.maxLocals = nL ∧ s.vm.findClass own = some m.cls ∧ (∀ v ∈ gT, v.before args s = true) ∧ (∀ q, s.heap.size ≤ q → A q) ∧ va_K w.1 vwCl w.2.1 s ∧ w.2.2.2.2 A s ∧ KMv w ∧ nL' = nL ∧ 16 * d ≤ R.frames ∧ 200 * d ≤ R.locals ∧ mc ≤ R.cells ∧ ms ≤ R.slots ∧ meth.locks = false ∧ (∀ x ∈ c.exceptionTable.toList, False)
theorem nar_c {q : Nat} (h : q < 65536) : (nI q).toUInt32.toUInt16.toUInt32.toInt32 = nI q := by
  have h1 := (pk_charN h).1
  have h2 : vp_nar .char (nI q) = nI q := by unfold vp_nar; rw [h1]
  rw [vp_nar_char] at h2
  exact h2
section ER
variable {w : Wd} {X : Cx} {cc : ByteArray} {own : String} {nL d mc ms : Nat} {k n : Nat} {M : Mem} {pc : Nat} {lv lv' : List (Nat × Value)} {st : List Value}

theorem e_iconst (C : OkB w X cc own nL d mc ms) {v : Int} (hd : decode cc pc = .ok (.iconst v, 1)) (kk : E w X k n M (pc + 1) lv (vI v :: st)) : E w X k n M pc lv st := by
  obtain ⟨p, l, e, R, s, m, args, below, meth, c, A, Q, nL9⟩ := X
  obtain ⟨hx, hb, hml, hown, hts, hA, hK, hKK, hmv, rfl, hfr, hlo, hmc, hms, hlk, htb⟩ := C
  intro hw H locs ls hP hD hS hl
  exact lv_iconst hx hb hd rfl (kk hw H locs ls hP hD hS hl)
theorem e_bipush (C : OkB w X cc own nL d mc ms) {v : Int} (hd : decode cc pc = .ok (.bipush v, 2)) (hv : (Int8.ofInt v).toInt32 = i32 v) (kk : E w X k n M (pc + 2) lv (vI v :: st)) : E w X k n M pc lv st := by
  obtain ⟨p, l, e, R, s, m, args, below, meth, c, A, Q, nL9⟩ := X
  obtain ⟨hx, hb, hml, hown, hts, hA, hK, hKK, hmv, rfl, hfr, hlo, hmc, hms, hlk, htb⟩ := C
  intro hw H locs ls hP hD hS hl
  exact lv_bipush hx hb hd hv (kk hw H locs ls hP hD hS hl)
theorem e_sipush (C : OkB w X cc own nL d mc ms) {v : Int} (hd : decode cc pc = .ok (.sipush v, 3)) (hv : (Int16.ofInt v).toInt32 = i32 v) (kk : E w X k n M (pc + 3) lv (vI v :: st)) : E w X k n M pc lv st := by
  obtain ⟨p, l, e, R, s, m, args, below, meth, c, A, Q, nL9⟩ := X
  obtain ⟨hx, hb, hml, hown, hts, hA, hK, hKK, hmv, rfl, hfr, hlo, hmc, hms, hlk, htb⟩ := C
  intro hw H locs ls hP hD hS hl
  exact lv_sipush hx hb hd hv (kk hw H locs ls hP hD hS hl)
theorem e_ldc (C : OkB w X cc own nL d mc ms) {ix : Nat} {u : Int32} {v : Int} (hc : Cond.constant own ix u ∈ gT) (hu : u = i32 v) (hd : decode cc pc = .ok (.ldc ix, 2)) (kk : E w X k n M (pc + 2) lv (vI v :: st)) : E w X k n M pc lv st := by
  obtain ⟨p, l, e, R, s, m, args, below, meth, c, A, Q, nL9⟩ := X
  obtain ⟨hx, hb, hml, hown, hts, hA, hK, hKK, hmv, rfl, hfr, hlo, hmc, hms, hlk, htb⟩ := C
  intro hw H locs ls hP hD hS hl
  subst hu
  exact lv_ldc hx hb hown (hts _ hc) hd (kk hw H locs ls hP hD hS hl)
theorem e_ldcw (C : OkB w X cc own nL d mc ms) {ix : Nat} {u : Int32} {v : Int} (hc : Cond.constant own ix u ∈ gT) (hu : u = i32 v) (hd : decode cc pc = .ok (.ldc_w ix, 3)) (kk : E w X k n M (pc + 3) lv (vI v :: st)) : E w X k n M pc lv st := by
  obtain ⟨p, l, e, R, s, m, args, below, meth, c, A, Q, nL9⟩ := X
  obtain ⟨hx, hb, hml, hown, hts, hA, hK, hKK, hmv, rfl, hfr, hlo, hmc, hms, hlk, htb⟩ := C
  intro hw H locs ls hP hD hS hl
  subst hu
  exact lv_ldcw hx hb hown (hts _ hc) hd (kk hw H locs ls hP hD hS hl)
theorem e_ldc2 (C : OkB w X cc own nL d mc ms) {ix : Nat} {u : Int64} {v : Int} (hc : Cond.constantLong own ix u ∈ gT) (hu : u = i64 v) (hd : decode cc pc = .ok (.ldc2_w ix, 3)) (kk : E w X k n M (pc + 3) lv (vL v :: st)) : E w X k n M pc lv st := by
  obtain ⟨p, l, e, R, s, m, args, below, meth, c, A, Q, nL9⟩ := X
  obtain ⟨hx, hb, hml, hown, hts, hA, hK, hKK, hmv, rfl, hfr, hlo, hmc, hms, hlk, htb⟩ := C
  intro hw H locs ls hP hD hS hl
  subst hu
  exact lv_ldc2 hx hb hown (hts _ hc) hd (kk hw H locs ls hP hD hS hl)
theorem e_lconst0 (C : OkB w X cc own nL d mc ms) (hd : decode cc pc = .ok (.lconst 0, 1)) (kk : E w X k n M (pc + 1) lv (vL 0 :: st)) : E w X k n M pc lv st := by
  obtain ⟨p, l, e, R, s, m, args, below, meth, c, A, Q, nL9⟩ := X
  obtain ⟨hx, hb, hml, hown, hts, hA, hK, hKK, hmv, rfl, hfr, hlo, hmc, hms, hlk, htb⟩ := C
  intro hw H locs ls hP hD hS hl
  exact lv_lconst hx hb hd rfl (kk hw H locs ls hP hD hS hl)
theorem e_lconst1 (C : OkB w X cc own nL d mc ms) (hd : decode cc pc = .ok (.lconst 1, 1)) (kk : E w X k n M (pc + 1) lv (vL 1 :: st)) : E w X k n M pc lv st := by
  obtain ⟨p, l, e, R, s, m, args, below, meth, c, A, Q, nL9⟩ := X
  obtain ⟨hx, hb, hml, hown, hts, hA, hK, hKK, hmv, rfl, hfr, hlo, hmc, hms, hlk, htb⟩ := C
  intro hw H locs ls hP hD hS hl
  exact lv_lconst hx hb hd rfl (kk hw H locs ls hP hD hS hl)
theorem e_iload_n (C : OkB w X cc own nL d mc ms) {j : Fin 4} {x : Int} (q : Nat) (hd : decode cc pc = .ok (.iload_n j, 1)) (hq : lv[q]? = some ((j : Nat), vI x)) (kk : E w X k n M (pc + 1) lv (vI x :: st)) : E w X k n M pc lv st := by
  obtain ⟨p, l, e, R, s, m, args, below, meth, c, A, Q, nL9⟩ := X
  obtain ⟨hx, hb, hml, hown, hts, hA, hK, hKK, hmv, rfl, hfr, hlo, hmc, hms, hlk, htb⟩ := C
  intro hw H locs ls hP hD hS hl
  exact lv_iload_n hx hb hd rfl (lv_at hl q hq) (kk hw H locs ls hP hD hS hl)
theorem e_iload (C : OkB w X cc own nL d mc ms) {j : Nat} {x : Int} (q : Nat) (hd : decode cc pc = .ok (.iload j, 2)) (hq : lv[q]? = some (j, vI x)) (kk : E w X k n M (pc + 2) lv (vI x :: st)) : E w X k n M pc lv st := by
  obtain ⟨p, l, e, R, s, m, args, below, meth, c, A, Q, nL9⟩ := X
  obtain ⟨hx, hb, hml, hown, hts, hA, hK, hKK, hmv, rfl, hfr, hlo, hmc, hms, hlk, htb⟩ := C
  intro hw H locs ls hP hD hS hl
  exact lv_iload hx hb hd (lv_at hl q hq) (kk hw H locs ls hP hD hS hl)
theorem e_lload_n (C : OkB w X cc own nL d mc ms) {j : Fin 4} {x : Int} (q : Nat) (hd : decode cc pc = .ok (.lload_n j, 1)) (hq : lv[q]? = some ((j : Nat), vL x)) (kk : E w X k n M (pc + 1) lv (vL x :: st)) : E w X k n M pc lv st := by
  obtain ⟨p, l, e, R, s, m, args, below, meth, c, A, Q, nL9⟩ := X
  obtain ⟨hx, hb, hml, hown, hts, hA, hK, hKK, hmv, rfl, hfr, hlo, hmc, hms, hlk, htb⟩ := C
  intro hw H locs ls hP hD hS hl
  exact lv_lload_n hx hb hd rfl (lv_at hl q hq) (kk hw H locs ls hP hD hS hl)
theorem e_lload (C : OkB w X cc own nL d mc ms) {j : Nat} {x : Int} (q : Nat) (hd : decode cc pc = .ok (.lload j, 2)) (hq : lv[q]? = some (j, vL x)) (kk : E w X k n M (pc + 2) lv (vL x :: st)) : E w X k n M pc lv st := by
  obtain ⟨p, l, e, R, s, m, args, below, meth, c, A, Q, nL9⟩ := X
  obtain ⟨hx, hb, hml, hown, hts, hA, hK, hKK, hmv, rfl, hfr, hlo, hmc, hms, hlk, htb⟩ := C
  intro hw H locs ls hP hD hS hl
  exact lv_lload hx hb hd (lv_at hl q hq) (kk hw H locs ls hP hD hS hl)
theorem e_aload_n (C : OkB w X cc own nL d mc ms) {j : Fin 4} {a : Nat} (q : Nat) (hd : decode cc pc = .ok (.aload_n j, 1)) (hq : lv[q]? = some ((j : Nat), .ref a)) (kk : E w X k n M (pc + 1) lv (.ref a :: st)) : E w X k n M pc lv st := by
  obtain ⟨p, l, e, R, s, m, args, below, meth, c, A, Q, nL9⟩ := X
  obtain ⟨hx, hb, hml, hown, hts, hA, hK, hKK, hmv, rfl, hfr, hlo, hmc, hms, hlk, htb⟩ := C
  intro hw H locs ls hP hD hS hl
  exact lv_aload_n hx hb hd rfl (lv_at hl q hq) (kk hw H locs ls hP hD hS hl)
theorem e_aload (C : OkB w X cc own nL d mc ms) {j : Nat} {a : Nat} (q : Nat) (hd : decode cc pc = .ok (.aload j, 2)) (hq : lv[q]? = some (j, .ref a)) (kk : E w X k n M (pc + 2) lv (.ref a :: st)) : E w X k n M pc lv st := by
  obtain ⟨p, l, e, R, s, m, args, below, meth, c, A, Q, nL9⟩ := X
  obtain ⟨hx, hb, hml, hown, hts, hA, hK, hKK, hmv, rfl, hfr, hlo, hmc, hms, hlk, htb⟩ := C
  intro hw H locs ls hP hD hS hl
  exact lv_aload hx hb hd (lv_at hl q hq) (kk hw H locs ls hP hD hS hl)
theorem e_istore_n (C : OkB w X cc own nL d mc ms) {j : Fin 4} {x : Int} (hd : decode cc pc = .ok (.istore_n j, 1)) (hn : (j : Nat) < nL) (hv : ((j : Nat), vI x) :: lv.filter (fun q => !(q.1 == (j : Nat)) && !(q.1 + 1 == (j : Nat) && q.2.category == 2)) = lv') (kk : E w X k n M (pc + 1) lv' st) : E w X k n M pc lv (vI x :: st) := by
  obtain ⟨p, l, e, R, s, m, args, below, meth, c, A, Q, nL9⟩ := X
  obtain ⟨hx, hb, hml, hown, hts, hA, hK, hKK, hmv, rfl, hfr, hlo, hmc, hms, hlk, htb⟩ := C
  intro hw H locs ls hP hD hS hl
  exact lv_istore_n hx hb hd rfl hl hn hv (fun ls hl => kk hw H locs ls hP hD hS hl)
theorem e_istore (C : OkB w X cc own nL d mc ms) {j : Nat} {x : Int} (hd : decode cc pc = .ok (.istore j, 2)) (hn : j < nL) (hv : (j, vI x) :: lv.filter (fun q => !(q.1 == j) && !(q.1 + 1 == j && q.2.category == 2)) = lv') (kk : E w X k n M (pc + 2) lv' st) : E w X k n M pc lv (vI x :: st) := by
  obtain ⟨p, l, e, R, s, m, args, below, meth, c, A, Q, nL9⟩ := X
  obtain ⟨hx, hb, hml, hown, hts, hA, hK, hKK, hmv, rfl, hfr, hlo, hmc, hms, hlk, htb⟩ := C
  intro hw H locs ls hP hD hS hl
  exact lv_istore hx hb hd hl hn hv (fun ls hl => kk hw H locs ls hP hD hS hl)
theorem e_lstore_n (C : OkB w X cc own nL d mc ms) {j : Fin 4} {x : Int} (hd : decode cc pc = .ok (.lstore_n j, 1)) (hn : (j : Nat) + 1 < nL) (hv : ((j : Nat), vL x) :: lv.filter (fun q => !(q.1 == (j : Nat)) && (!(q.1 == (j : Nat) + 1) && !(q.1 + 1 == (j : Nat) && q.2.category == 2))) = lv') (kk : E w X k n M (pc + 1) lv' st) : E w X k n M pc lv (vL x :: st) := by
  obtain ⟨p, l, e, R, s, m, args, below, meth, c, A, Q, nL9⟩ := X
  obtain ⟨hx, hb, hml, hown, hts, hA, hK, hKK, hmv, rfl, hfr, hlo, hmc, hms, hlk, htb⟩ := C
  intro hw H locs ls hP hD hS hl
  exact lv_lstore_n hx hb hd rfl hl hn hv (fun ls hl => kk hw H locs ls hP hD hS hl)
theorem e_lstore (C : OkB w X cc own nL d mc ms) {j : Nat} {x : Int} (hd : decode cc pc = .ok (.lstore j, 2)) (hn : j + 1 < nL) (hv : (j, vL x) :: lv.filter (fun q => !(q.1 == j) && (!(q.1 == j + 1) && !(q.1 + 1 == j && q.2.category == 2))) = lv') (kk : E w X k n M (pc + 2) lv' st) : E w X k n M pc lv (vL x :: st) := by
  obtain ⟨p, l, e, R, s, m, args, below, meth, c, A, Q, nL9⟩ := X
  obtain ⟨hx, hb, hml, hown, hts, hA, hK, hKK, hmv, rfl, hfr, hlo, hmc, hms, hlk, htb⟩ := C
  intro hw H locs ls hP hD hS hl
  exact lv_lstore hx hb hd hl hn hv (fun ls hl => kk hw H locs ls hP hD hS hl)
theorem e_astore_n (C : OkB w X cc own nL d mc ms) {j : Fin 4} {a : Nat} (hd : decode cc pc = .ok (.astore_n j, 1)) (hn : (j : Nat) < nL) (hv : ((j : Nat), Value.ref a) :: lv.filter (fun q => !(q.1 == (j : Nat)) && !(q.1 + 1 == (j : Nat) && q.2.category == 2)) = lv') (kk : E w X k n M (pc + 1) lv' st) : E w X k n M pc lv (.ref a :: st) := by
  obtain ⟨p, l, e, R, s, m, args, below, meth, c, A, Q, nL9⟩ := X
  obtain ⟨hx, hb, hml, hown, hts, hA, hK, hKK, hmv, rfl, hfr, hlo, hmc, hms, hlk, htb⟩ := C
  intro hw H locs ls hP hD hS hl
  exact lv_astore_n hx hb hd rfl hl hn hv (fun ls hl => kk hw H locs ls hP hD hS hl)
theorem e_astore (C : OkB w X cc own nL d mc ms) {j : Nat} {a : Nat} (hd : decode cc pc = .ok (.astore j, 2)) (hn : j < nL) (hv : (j, Value.ref a) :: lv.filter (fun q => !(q.1 == j) && !(q.1 + 1 == j && q.2.category == 2)) = lv') (kk : E w X k n M (pc + 2) lv' st) : E w X k n M pc lv (.ref a :: st) := by
  obtain ⟨p, l, e, R, s, m, args, below, meth, c, A, Q, nL9⟩ := X
  obtain ⟨hx, hb, hml, hown, hts, hA, hK, hKK, hmv, rfl, hfr, hlo, hmc, hms, hlk, htb⟩ := C
  intro hw H locs ls hP hD hS hl
  exact lv_astore hx hb hd hl hn hv (fun ls hl => kk hw H locs ls hP hD hS hl)
theorem e_iinc (C : OkB w X cc own nL d mc ms) {j : Nat} {x z : Int} (q : Nat) (hd : decode cc pc = .ok (.iinc j z, 3)) (hq : lv[q]? = some (j, vI x)) (hn : j < nL) (hv : (j, vI (x + z)) :: lv.filter (fun q => !(q.1 == j) && !(q.1 + 1 == j && q.2.category == 2)) = lv') (kk : E w X k n M (pc + 3) lv' st) : E w X k n M pc lv st := by
  obtain ⟨p, l, e, R, s, m, args, below, meth, c, A, Q, nL9⟩ := X
  obtain ⟨hx, hb, hml, hown, hts, hA, hK, hKK, hmv, rfl, hfr, hlo, hmc, hms, hlk, htb⟩ := C
  intro hw H locs ls hP hD hS hl
  exact lv_iinc hx hb hd hl hq (i32_add x z) hn hv (fun ls hl => kk hw H locs ls hP hD hS hl)
theorem e_sub (ks : List Nat) (hk : lv_pick lv ks = lv') (kk : E w X k n M pc lv' st) : E w X k n M pc lv st := by
  obtain ⟨p, l, e, R, s, m, args, below, meth, c, A, Q, nL9⟩ := X
  intro hw H locs ls hP hD hS hl
  exact kk hw H locs ls hP hD hS (lv_sub hl ks hk)
theorem e_eqM {M' : Mem} (h : M = M') (kk : E w X k n M' pc lv st) : E w X k n M pc lv st := h ▸ kk
theorem e_eqL (h : lv = lv') (kk : E w X k n M pc lv' st) : E w X k n M pc lv st := h ▸ kk
theorem e_eqS {st' : List Value} (h : st = st') (kk : E w X k n M pc lv st') : E w X k n M pc lv st := h ▸ kk
theorem e_iadd (C : OkB w X cc own nL d mc ms) {a b : Int} (hd : decode cc pc = .ok (.iadd, 1)) (kk : E w X k n M (pc + 1) lv (vI (a + b) :: st)) : E w X k n M pc lv (vI b :: vI a :: st) := by
  obtain ⟨p, l, e, R, s, m, args, below, meth, c, A, Q, nL9⟩ := X
  obtain ⟨hx, hb, hml, hown, hts, hA, hK, hKK, hmv, rfl, hfr, hlo, hmc, hms, hlk, htb⟩ := C
  intro hw H locs ls hP hD hS hl
  refine lv_iadd hx hb hd ?_
  rw [i32_add]
  exact kk hw H locs ls hP hD hS hl
theorem e_isub (C : OkB w X cc own nL d mc ms) {a b : Int} (hd : decode cc pc = .ok (.isub, 1)) (kk : E w X k n M (pc + 1) lv (vI (a - b) :: st)) : E w X k n M pc lv (vI b :: vI a :: st) := by
  obtain ⟨p, l, e, R, s, m, args, below, meth, c, A, Q, nL9⟩ := X
  obtain ⟨hx, hb, hml, hown, hts, hA, hK, hKK, hmv, rfl, hfr, hlo, hmc, hms, hlk, htb⟩ := C
  intro hw H locs ls hP hD hS hl
  refine lv_isub hx hb hd ?_
  rw [i32_sub]
  exact kk hw H locs ls hP hD hS hl
theorem e_imul (C : OkB w X cc own nL d mc ms) {a b : Int} (hd : decode cc pc = .ok (.imul, 1)) (kk : E w X k n M (pc + 1) lv (vI (a * b) :: st)) : E w X k n M pc lv (vI b :: vI a :: st) := by
  obtain ⟨p, l, e, R, s, m, args, below, meth, c, A, Q, nL9⟩ := X
  obtain ⟨hx, hb, hml, hown, hts, hA, hK, hKK, hmv, rfl, hfr, hlo, hmc, hms, hlk, htb⟩ := C
  intro hw H locs ls hP hD hS hl
  refine lv_imul hx hb hd ?_
  rw [i32_mul]
  exact kk hw H locs ls hP hD hS hl
theorem e_ladd (C : OkB w X cc own nL d mc ms) {a b : Int} (hd : decode cc pc = .ok (.ladd, 1)) (kk : E w X k n M (pc + 1) lv (vL (a + b) :: st)) : E w X k n M pc lv (vL b :: vL a :: st) := by
  obtain ⟨p, l, e, R, s, m, args, below, meth, c, A, Q, nL9⟩ := X
  obtain ⟨hx, hb, hml, hown, hts, hA, hK, hKK, hmv, rfl, hfr, hlo, hmc, hms, hlk, htb⟩ := C
  intro hw H locs ls hP hD hS hl
  refine lv_ladd hx hb hd ?_
  rw [i64_add]
  exact kk hw H locs ls hP hD hS hl
theorem e_lsub (C : OkB w X cc own nL d mc ms) {a b : Int} (hd : decode cc pc = .ok (.lsub, 1)) (kk : E w X k n M (pc + 1) lv (vL (a - b) :: st)) : E w X k n M pc lv (vL b :: vL a :: st) := by
  obtain ⟨p, l, e, R, s, m, args, below, meth, c, A, Q, nL9⟩ := X
  obtain ⟨hx, hb, hml, hown, hts, hA, hK, hKK, hmv, rfl, hfr, hlo, hmc, hms, hlk, htb⟩ := C
  intro hw H locs ls hP hD hS hl
  refine lv_lsub hx hb hd ?_
  rw [i64_sub]
  exact kk hw H locs ls hP hD hS hl
theorem e_lmul (C : OkB w X cc own nL d mc ms) {a b : Int} (hd : decode cc pc = .ok (.lmul, 1)) (kk : E w X k n M (pc + 1) lv (vL (a * b) :: st)) : E w X k n M pc lv (vL b :: vL a :: st) := by
  obtain ⟨p, l, e, R, s, m, args, below, meth, c, A, Q, nL9⟩ := X
  obtain ⟨hx, hb, hml, hown, hts, hA, hK, hKK, hmv, rfl, hfr, hlo, hmc, hms, hlk, htb⟩ := C
  intro hw H locs ls hP hD hS hl
  refine lv_lmul hx hb hd ?_
  rw [i64_mul]
  exact kk hw H locs ls hP hD hS hl
theorem e_ineg (C : OkB w X cc own nL d mc ms) {a : Int} (hd : decode cc pc = .ok (.ineg, 1)) (kk : E w X k n M (pc + 1) lv (vI (-a) :: st)) : E w X k n M pc lv (vI a :: st) := by
  obtain ⟨p, l, e, R, s, m, args, below, meth, c, A, Q, nL9⟩ := X
  obtain ⟨hx, hb, hml, hown, hts, hA, hK, hKK, hmv, rfl, hfr, hlo, hmc, hms, hlk, htb⟩ := C
  intro hw H locs ls hP hD hS hl
  refine lv_ineg hx hb hd ?_
  rw [i32_neg]
  exact kk hw H locs ls hP hD hS hl
theorem e_idiv (C : OkB w X cc own nL d mc ms) {a b : Int} (ha : R32 a) (hbb : R32 b) (h0 : b ≠ 0) (h1 : b ≠ -1) (hd : decode cc pc = .ok (.idiv, 1)) (kk : E w X k n M (pc + 1) lv (vI (a.tdiv b) :: st)) : E w X k n M pc lv (vI b :: vI a :: st) := by
  obtain ⟨p, l, e, R, s, m, args, below, meth, c, A, Q, nL9⟩ := X
  obtain ⟨hx, hb, hml, hown, hts, hA, hK, hKK, hmv, rfl, hfr, hlo, hmc, hms, hlk, htb⟩ := C
  intro hw H locs ls hP hD hS hl
  refine lv_idiv hx hb hd (fun h => h0 ((i32_eq (b := 0) hbb (by decide)).mp h)) ?_
  rw [i32_div ha hbb h1]
  exact kk hw H locs ls hP hD hS hl
theorem e_irem (C : OkB w X cc own nL d mc ms) {a b : Int} (ha : R32 a) (hbb : R32 b) (h0 : b ≠ 0) (h1 : b ≠ -1) (hd : decode cc pc = .ok (.irem, 1)) (kk : E w X k n M (pc + 1) lv (vI (a.tmod b) :: st)) : E w X k n M pc lv (vI b :: vI a :: st) := by
  obtain ⟨p, l, e, R, s, m, args, below, meth, c, A, Q, nL9⟩ := X
  obtain ⟨hx, hb, hml, hown, hts, hA, hK, hKK, hmv, rfl, hfr, hlo, hmc, hms, hlk, htb⟩ := C
  intro hw H locs ls hP hD hS hl
  refine lv_irem hx hb hd (fun h => h0 ((i32_eq (b := 0) hbb (by decide)).mp h)) ?_
  rw [i32_rem ha hbb h1]
  exact kk hw H locs ls hP hD hS hl
theorem e_i2l (C : OkB w X cc own nL d mc ms) {a : Int} (ha : R32 a) (hd : decode cc pc = .ok (.i2l, 1)) (kk : E w X k n M (pc + 1) lv (vL a :: st)) : E w X k n M pc lv (vI a :: st) := by
  obtain ⟨p, l, e, R, s, m, args, below, meth, c, A, Q, nL9⟩ := X
  obtain ⟨hx, hb, hml, hown, hts, hA, hK, hKK, hmv, rfl, hfr, hlo, hmc, hms, hlk, htb⟩ := C
  intro hw H locs ls hP hD hS hl
  exact lv_i2l hx hb hd (i32_long ha) (kk hw H locs ls hP hD hS hl)
theorem e_i2c (C : OkB w X cc own nL d mc ms) {a : Int} (ha : 0 ≤ a ∧ a < 65536) (hd : decode cc pc = .ok (.i2c, 1)) (kk : E w X k n M (pc + 1) lv (vI a :: st)) : E w X k n M pc lv (vI a :: st) := by
  obtain ⟨p, l, e, R, s, m, args, below, meth, c, A, Q, nL9⟩ := X
  obtain ⟨hx, hb, hml, hown, hts, hA, hK, hKK, hmv, rfl, hfr, hlo, hmc, hms, hlk, htb⟩ := C
  intro hw H locs ls hP hD hS hl
  refine lv_i2c hx hb hd ?_ (kk hw H locs ls hP hD hS hl)
  have h9 := pk_char (i32 a)
  have h8 : (i32 a).toBitVec.toNat = a.toNat := by
    have e1 : i32 a = nI a.toNat := by
      apply Int32.toInt_inj.mp
      rw [i32_toInt (by omega), nI_toInt (by omega)]
      omega
    rw [e1]
    exact pk_tn (by omega)
  rw [h8, Nat.mod_eq_of_lt (by omega)] at h9
  rw [h9]
  apply Int32.toInt_inj.mp
  rw [nI_toInt (by omega), i32_toInt (by omega)]
  omega
theorem e_land (C : OkB w X cc own nL d mc ms) {a b : Int} (hd : decode cc pc = .ok (.land, 1)) (kk : E w X k n M (pc + 1) lv (vL (landL a b) :: st)) : E w X k n M pc lv (vL b :: vL a :: st) := by
  obtain ⟨p, l, e, R, s, m, args, below, meth, c, A, Q, nL9⟩ := X
  obtain ⟨hx, hb, hml, hown, hts, hA, hK, hKK, hmv, rfl, hfr, hlo, hmc, hms, hlk, htb⟩ := C
  intro hw H locs ls hP hD hS hl
  refine lv_land hx hb hd ?_
  have h9 := kk hw H locs ls hP hD hS hl
  rw [show vL (landL a b) = Value.long _ from congrArg Value.long (i64_of _)] at h9
  exact h9
theorem e_lor (C : OkB w X cc own nL d mc ms) {a b : Int} (hd : decode cc pc = .ok (.lor, 1)) (kk : E w X k n M (pc + 1) lv (vL (lorL a b) :: st)) : E w X k n M pc lv (vL b :: vL a :: st) := by
  obtain ⟨p, l, e, R, s, m, args, below, meth, c, A, Q, nL9⟩ := X
  obtain ⟨hx, hb, hml, hown, hts, hA, hK, hKK, hmv, rfl, hfr, hlo, hmc, hms, hlk, htb⟩ := C
  intro hw H locs ls hP hD hS hl
  refine lv_lor hx hb hd ?_
  have h9 := kk hw H locs ls hP hD hS hl
  rw [show vL (lorL a b) = Value.long _ from congrArg Value.long (i64_of _)] at h9
  exact h9
theorem e_lxor (C : OkB w X cc own nL d mc ms) {a b : Int} (hd : decode cc pc = .ok (.lxor, 1)) (kk : E w X k n M (pc + 1) lv (vL (lxorL a b) :: st)) : E w X k n M pc lv (vL b :: vL a :: st) := by
  obtain ⟨p, l, e, R, s, m, args, below, meth, c, A, Q, nL9⟩ := X
  obtain ⟨hx, hb, hml, hown, hts, hA, hK, hKK, hmv, rfl, hfr, hlo, hmc, hms, hlk, htb⟩ := C
  intro hw H locs ls hP hD hS hl
  refine lv_lxor hx hb hd ?_
  have h9 := kk hw H locs ls hP hD hS hl
  rw [show vL (lxorL a b) = Value.long _ from congrArg Value.long (i64_of _)] at h9
  exact h9
theorem e_iand (C : OkB w X cc own nL d mc ms) {a b : Int} (hd : decode cc pc = .ok (.iand, 1)) (kk : E w X k n M (pc + 1) lv (vI (iandI a b) :: st)) : E w X k n M pc lv (vI b :: vI a :: st) := by
  obtain ⟨p, l, e, R, s, m, args, below, meth, c, A, Q, nL9⟩ := X
  obtain ⟨hx, hb, hml, hown, hts, hA, hK, hKK, hmv, rfl, hfr, hlo, hmc, hms, hlk, htb⟩ := C
  intro hw H locs ls hP hD hS hl
  refine lv_iand hx hb hd ?_
  have h9 := kk hw H locs ls hP hD hS hl
  rw [show vI (iandI a b) = Value.int _ from congrArg Value.int (i32_of _)] at h9
  exact h9
theorem e_ior (C : OkB w X cc own nL d mc ms) {a b : Int} (hd : decode cc pc = .ok (.ior, 1)) (kk : E w X k n M (pc + 1) lv (vI (iorI a b) :: st)) : E w X k n M pc lv (vI b :: vI a :: st) := by
  obtain ⟨p, l, e, R, s, m, args, below, meth, c, A, Q, nL9⟩ := X
  obtain ⟨hx, hb, hml, hown, hts, hA, hK, hKK, hmv, rfl, hfr, hlo, hmc, hms, hlk, htb⟩ := C
  intro hw H locs ls hP hD hS hl
  refine lv_ior hx hb hd ?_
  have h9 := kk hw H locs ls hP hD hS hl
  rw [show vI (iorI a b) = Value.int _ from congrArg Value.int (i32_of _)] at h9
  exact h9
theorem e_ishl (C : OkB w X cc own nL d mc ms) {a b : Int} (hd : decode cc pc = .ok (.ishl, 1)) (kk : E w X k n M (pc + 1) lv (vI (ishlI a b) :: st)) : E w X k n M pc lv (vI b :: vI a :: st) := by
  obtain ⟨p, l, e, R, s, m, args, below, meth, c, A, Q, nL9⟩ := X
  obtain ⟨hx, hb, hml, hown, hts, hA, hK, hKK, hmv, rfl, hfr, hlo, hmc, hms, hlk, htb⟩ := C
  intro hw H locs ls hP hD hS hl
  refine lv_ishl hx hb hd ?_
  have h9 := kk hw H locs ls hP hD hS hl
  rw [show vI (ishlI a b) = Value.int _ from congrArg Value.int (i32_of _)] at h9
  exact h9
theorem e_ishr (C : OkB w X cc own nL d mc ms) {a b : Int} (hd : decode cc pc = .ok (.ishr, 1)) (kk : E w X k n M (pc + 1) lv (vI (ishrI a b) :: st)) : E w X k n M pc lv (vI b :: vI a :: st) := by
  obtain ⟨p, l, e, R, s, m, args, below, meth, c, A, Q, nL9⟩ := X
  obtain ⟨hx, hb, hml, hown, hts, hA, hK, hKK, hmv, rfl, hfr, hlo, hmc, hms, hlk, htb⟩ := C
  intro hw H locs ls hP hD hS hl
  refine lv_ishr hx hb hd ?_
  have h9 := kk hw H locs ls hP hD hS hl
  rw [show vI (ishrI a b) = Value.int _ from congrArg Value.int (i32_of _)] at h9
  exact h9
theorem e_lshl (C : OkB w X cc own nL d mc ms) {a b : Int} (hd : decode cc pc = .ok (.lshl, 1)) (kk : E w X k n M (pc + 1) lv (vL (lshlL a b) :: st)) : E w X k n M pc lv (vI b :: vL a :: st) := by
  obtain ⟨p, l, e, R, s, m, args, below, meth, c, A, Q, nL9⟩ := X
  obtain ⟨hx, hb, hml, hown, hts, hA, hK, hKK, hmv, rfl, hfr, hlo, hmc, hms, hlk, htb⟩ := C
  intro hw H locs ls hP hD hS hl
  exact lv_lshl hx hb hd (i64_of _).symm (kk hw H locs ls hP hD hS hl)
theorem e_lushr (C : OkB w X cc own nL d mc ms) {a b : Int} (hd : decode cc pc = .ok (.lushr, 1)) (kk : E w X k n M (pc + 1) lv (vL (lushrL a b) :: st)) : E w X k n M pc lv (vI b :: vL a :: st) := by
  obtain ⟨p, l, e, R, s, m, args, below, meth, c, A, Q, nL9⟩ := X
  obtain ⟨hx, hb, hml, hown, hts, hA, hK, hKK, hmv, rfl, hfr, hlo, hmc, hms, hlk, htb⟩ := C
  intro hw H locs ls hP hD hS hl
  exact lv_lushr hx hb hd (i64_of _).symm (kk hw H locs ls hP hD hS hl)
theorem e_lcmp (C : OkB w X cc own nL d mc ms) {a b : Int} (ha : R64 a) (hbb : R64 b) (hd : decode cc pc = .ok (.lcmp, 1)) (kk : E w X k n M (pc + 1) lv (vI (cmpL a b) :: st)) : E w X k n M pc lv (vL b :: vL a :: st) := by
  obtain ⟨p, l, e, R, s, m, args, below, meth, c, A, Q, nL9⟩ := X
  obtain ⟨hx, hb, hml, hown, hts, hA, hK, hKK, hmv, rfl, hfr, hlo, hmc, hms, hlk, htb⟩ := C
  intro hw H locs ls hP hD hS hl
  refine W.lcmp hx hb hd ?_
  have h9 := kk hw H locs ls hP hD hS hl
  have h8 : lg_cmp (i64 a) (i64 b) = i32 (cmpL a b) := by
    unfold lg_cmp cmpL
    rcases Int.lt_trichotomy a b with h | h | h
    · have h1 : ¬ i64 b < i64 a := fun q => by have := (i64_lt hbb ha).mp q; omega
      have h2 : ¬ i64 a = i64 b := fun q => by have := (i64_eq ha hbb).mp q; omega
      simp [h1, h2, h]
      first | rfl | decide
    · subst h
      have h1 : ¬ i64 a < i64 a := fun q => by have := (i64_lt ha ha).mp q; omega
      simp [h1]
      first | rfl | decide
    · have h2 : i64 b < i64 a := (i64_lt hbb ha).mpr h
      have h3 : ¬ a < b := by omega
      have h4 : ¬ a = b := by omega
      simp [h2, h3, h4]
      first | rfl | decide
  rw [h8]
  exact h9
theorem e_dup (C : OkB w X cc own nL d mc ms) {v : Value} (hv : v.category = 1) (hd : decode cc pc = .ok (.dup, 1)) (kk : E w X k n M (pc + 1) lv (v :: v :: st)) : E w X k n M pc lv (v :: st) := by
  obtain ⟨p, l, e, R, s, m, args, below, meth, c, A, Q, nL9⟩ := X
  obtain ⟨hx, hb, hml, hown, hts, hA, hK, hKK, hmv, rfl, hfr, hlo, hmc, hms, hlk, htb⟩ := C
  intro hw H locs ls hP hD hS hl
  exact lv_dup hx hb hd hv (kk hw H locs ls hP hD hS hl)
theorem e_pop (C : OkB w X cc own nL d mc ms) {v : Value} (hv : v.category = 1) (hd : decode cc pc = .ok (.pop, 1)) (kk : E w X k n M (pc + 1) lv st) : E w X k n M pc lv (v :: st) := by
  obtain ⟨p, l, e, R, s, m, args, below, meth, c, A, Q, nL9⟩ := X
  obtain ⟨hx, hb, hml, hown, hts, hA, hK, hKK, hmv, rfl, hfr, hlo, hmc, hms, hlk, htb⟩ := C
  intro hw H locs ls hP hD hS hl
  exact lv_pop hx hb hd hv (kk hw H locs ls hP hD hS hl)
theorem e_dup2 (C : OkB w X cc own nL d mc ms) {v u : Value} (hv : v.category = 1) (hu : u.category = 1) (hd : decode cc pc = .ok (.dup2, 1)) (kk : E w X k n M (pc + 1) lv (v :: u :: v :: u :: st)) : E w X k n M pc lv (v :: u :: st) := by
  obtain ⟨p, l, e, R, s, m, args, below, meth, c, A, Q, nL9⟩ := X
  obtain ⟨hx, hb, hml, hown, hts, hA, hK, hKK, hmv, rfl, hfr, hlo, hmc, hms, hlk, htb⟩ := C
  intro hw H locs ls hP hD hS hl
  exact lv_dup2_11 hx hb hd hv hu (kk hw H locs ls hP hD hS hl)
theorem e_icmp_eq (C : OkB w X cc own nL d mc ms) {a b : Int} {off : Int} (tgt : Nat) (ha : R32 a) (hbb : R32 b) (hd : decode cc pc = .ok (.if_icmp .eq off, 3)) (ht : (pc : Int) + off = (tgt : Int)) (k1 : a = b → E w X k n M tgt lv st) (k2 : a ≠ b → E w X k n M (pc + 3) lv st) : E w X k n M pc lv (vI b :: vI a :: st) := by
  obtain ⟨p, l, e, R, s, m, args, below, meth, c, A, Q, nL9⟩ := X
  obtain ⟨hx, hb, hml, hown, hts, hA, hK, hKK, hmv, rfl, hfr, hlo, hmc, hms, hlk, htb⟩ := C
  intro hw H locs ls hP hD hS hl
  exact lv_icmp_eq hx hb hd ht (fun h => k1 ((i32_eq ha hbb).mp h) hw H locs ls hP hD hS hl) (fun h => k2 (fun q => h (congrArg i32 q)) hw H locs ls hP hD hS hl)
theorem e_if_eq (C : OkB w X cc own nL d mc ms) {a : Int} {off : Int} (tgt : Nat) (ha : R32 a) (hd : decode cc pc = .ok (.ifCond .eq off, 3)) (ht : (pc : Int) + off = (tgt : Int)) (k1 : a = 0 → E w X k n M tgt lv st) (k2 : a ≠ 0 → E w X k n M (pc + 3) lv st) : E w X k n M pc lv (vI a :: st) := by
  obtain ⟨p, l, e, R, s, m, args, below, meth, c, A, Q, nL9⟩ := X
  obtain ⟨hx, hb, hml, hown, hts, hA, hK, hKK, hmv, rfl, hfr, hlo, hmc, hms, hlk, htb⟩ := C
  intro hw H locs ls hP hD hS hl
  have hbb : R32 0 := by decide
  exact lv_if_eq hx hb hd ht (fun h => k1 ((i32_eq ha hbb).mp h) hw H locs ls hP hD hS hl) (fun h => k2 (fun q => h (congrArg i32 q)) hw H locs ls hP hD hS hl)
theorem e_icmp_ne (C : OkB w X cc own nL d mc ms) {a b : Int} {off : Int} (tgt : Nat) (ha : R32 a) (hbb : R32 b) (hd : decode cc pc = .ok (.if_icmp .ne off, 3)) (ht : (pc : Int) + off = (tgt : Int)) (k1 : a ≠ b → E w X k n M tgt lv st) (k2 : a = b → E w X k n M (pc + 3) lv st) : E w X k n M pc lv (vI b :: vI a :: st) := by
  obtain ⟨p, l, e, R, s, m, args, below, meth, c, A, Q, nL9⟩ := X
  obtain ⟨hx, hb, hml, hown, hts, hA, hK, hKK, hmv, rfl, hfr, hlo, hmc, hms, hlk, htb⟩ := C
  intro hw H locs ls hP hD hS hl
  exact lv_icmp_ne hx hb hd ht (fun h => k1 (fun q => h (congrArg i32 q)) hw H locs ls hP hD hS hl) (fun h => k2 ((i32_eq ha hbb).mp h) hw H locs ls hP hD hS hl)
theorem e_if_ne (C : OkB w X cc own nL d mc ms) {a : Int} {off : Int} (tgt : Nat) (ha : R32 a) (hd : decode cc pc = .ok (.ifCond .ne off, 3)) (ht : (pc : Int) + off = (tgt : Int)) (k1 : a ≠ 0 → E w X k n M tgt lv st) (k2 : a = 0 → E w X k n M (pc + 3) lv st) : E w X k n M pc lv (vI a :: st) := by
  obtain ⟨p, l, e, R, s, m, args, below, meth, c, A, Q, nL9⟩ := X
  obtain ⟨hx, hb, hml, hown, hts, hA, hK, hKK, hmv, rfl, hfr, hlo, hmc, hms, hlk, htb⟩ := C
  intro hw H locs ls hP hD hS hl
  have hbb : R32 0 := by decide
  exact lv_if_ne hx hb hd ht (fun h => k1 (fun q => h (congrArg i32 q)) hw H locs ls hP hD hS hl) (fun h => k2 ((i32_eq ha hbb).mp h) hw H locs ls hP hD hS hl)
theorem e_icmp_lt (C : OkB w X cc own nL d mc ms) {a b : Int} {off : Int} (tgt : Nat) (ha : R32 a) (hbb : R32 b) (hd : decode cc pc = .ok (.if_icmp .lt off, 3)) (ht : (pc : Int) + off = (tgt : Int)) (k1 : a < b → E w X k n M tgt lv st) (k2 : b ≤ a → E w X k n M (pc + 3) lv st) : E w X k n M pc lv (vI b :: vI a :: st) := by
  obtain ⟨p, l, e, R, s, m, args, below, meth, c, A, Q, nL9⟩ := X
  obtain ⟨hx, hb, hml, hown, hts, hA, hK, hKK, hmv, rfl, hfr, hlo, hmc, hms, hlk, htb⟩ := C
  intro hw H locs ls hP hD hS hl
  exact lv_icmp_lt hx hb hd ht (fun h => k1 ((i32_lt ha hbb).mp h) hw H locs ls hP hD hS hl) (fun h => k2 (Classical.byContradiction fun q => h ((i32_lt ha hbb).mpr (by omega))) hw H locs ls hP hD hS hl)
theorem e_if_lt (C : OkB w X cc own nL d mc ms) {a : Int} {off : Int} (tgt : Nat) (ha : R32 a) (hd : decode cc pc = .ok (.ifCond .lt off, 3)) (ht : (pc : Int) + off = (tgt : Int)) (k1 : a < 0 → E w X k n M tgt lv st) (k2 : 0 ≤ a → E w X k n M (pc + 3) lv st) : E w X k n M pc lv (vI a :: st) := by
  obtain ⟨p, l, e, R, s, m, args, below, meth, c, A, Q, nL9⟩ := X
  obtain ⟨hx, hb, hml, hown, hts, hA, hK, hKK, hmv, rfl, hfr, hlo, hmc, hms, hlk, htb⟩ := C
  intro hw H locs ls hP hD hS hl
  have hbb : R32 0 := by decide
  exact lv_if_lt hx hb hd ht (fun h => k1 ((i32_lt ha hbb).mp h) hw H locs ls hP hD hS hl) (fun h => k2 (Classical.byContradiction fun q => h ((i32_lt ha hbb).mpr (by omega))) hw H locs ls hP hD hS hl)
theorem e_icmp_ge (C : OkB w X cc own nL d mc ms) {a b : Int} {off : Int} (tgt : Nat) (ha : R32 a) (hbb : R32 b) (hd : decode cc pc = .ok (.if_icmp .ge off, 3)) (ht : (pc : Int) + off = (tgt : Int)) (k1 : b ≤ a → E w X k n M tgt lv st) (k2 : a < b → E w X k n M (pc + 3) lv st) : E w X k n M pc lv (vI b :: vI a :: st) := by
  obtain ⟨p, l, e, R, s, m, args, below, meth, c, A, Q, nL9⟩ := X
  obtain ⟨hx, hb, hml, hown, hts, hA, hK, hKK, hmv, rfl, hfr, hlo, hmc, hms, hlk, htb⟩ := C
  intro hw H locs ls hP hD hS hl
  exact lv_icmp_ge hx hb hd ht (fun h => k1 ((i32_le hbb ha).mp h) hw H locs ls hP hD hS hl) (fun h => k2 (Classical.byContradiction fun q => h ((i32_le hbb ha).mpr (by omega))) hw H locs ls hP hD hS hl)
theorem e_if_ge (C : OkB w X cc own nL d mc ms) {a : Int} {off : Int} (tgt : Nat) (ha : R32 a) (hd : decode cc pc = .ok (.ifCond .ge off, 3)) (ht : (pc : Int) + off = (tgt : Int)) (k1 : 0 ≤ a → E w X k n M tgt lv st) (k2 : a < 0 → E w X k n M (pc + 3) lv st) : E w X k n M pc lv (vI a :: st) := by
  obtain ⟨p, l, e, R, s, m, args, below, meth, c, A, Q, nL9⟩ := X
  obtain ⟨hx, hb, hml, hown, hts, hA, hK, hKK, hmv, rfl, hfr, hlo, hmc, hms, hlk, htb⟩ := C
  intro hw H locs ls hP hD hS hl
  have hbb : R32 0 := by decide
  exact lv_if_ge hx hb hd ht (fun h => k1 ((i32_le hbb ha).mp h) hw H locs ls hP hD hS hl) (fun h => k2 (Classical.byContradiction fun q => h ((i32_le hbb ha).mpr (by omega))) hw H locs ls hP hD hS hl)
theorem e_icmp_gt (C : OkB w X cc own nL d mc ms) {a b : Int} {off : Int} (tgt : Nat) (ha : R32 a) (hbb : R32 b) (hd : decode cc pc = .ok (.if_icmp .gt off, 3)) (ht : (pc : Int) + off = (tgt : Int)) (k1 : b < a → E w X k n M tgt lv st) (k2 : a ≤ b → E w X k n M (pc + 3) lv st) : E w X k n M pc lv (vI b :: vI a :: st) := by
  obtain ⟨p, l, e, R, s, m, args, below, meth, c, A, Q, nL9⟩ := X
  obtain ⟨hx, hb, hml, hown, hts, hA, hK, hKK, hmv, rfl, hfr, hlo, hmc, hms, hlk, htb⟩ := C
  intro hw H locs ls hP hD hS hl
  exact lv_icmp_gt hx hb hd ht (fun h => k1 ((i32_lt hbb ha).mp h) hw H locs ls hP hD hS hl) (fun h => k2 (Classical.byContradiction fun q => h ((i32_lt hbb ha).mpr (by omega))) hw H locs ls hP hD hS hl)
theorem e_if_gt (C : OkB w X cc own nL d mc ms) {a : Int} {off : Int} (tgt : Nat) (ha : R32 a) (hd : decode cc pc = .ok (.ifCond .gt off, 3)) (ht : (pc : Int) + off = (tgt : Int)) (k1 : 0 < a → E w X k n M tgt lv st) (k2 : a ≤ 0 → E w X k n M (pc + 3) lv st) : E w X k n M pc lv (vI a :: st) := by
  obtain ⟨p, l, e, R, s, m, args, below, meth, c, A, Q, nL9⟩ := X
  obtain ⟨hx, hb, hml, hown, hts, hA, hK, hKK, hmv, rfl, hfr, hlo, hmc, hms, hlk, htb⟩ := C
  intro hw H locs ls hP hD hS hl
  have hbb : R32 0 := by decide
  exact lv_if_gt hx hb hd ht (fun h => k1 ((i32_lt hbb ha).mp h) hw H locs ls hP hD hS hl) (fun h => k2 (Classical.byContradiction fun q => h ((i32_lt hbb ha).mpr (by omega))) hw H locs ls hP hD hS hl)
theorem e_icmp_le (C : OkB w X cc own nL d mc ms) {a b : Int} {off : Int} (tgt : Nat) (ha : R32 a) (hbb : R32 b) (hd : decode cc pc = .ok (.if_icmp .le off, 3)) (ht : (pc : Int) + off = (tgt : Int)) (k1 : a ≤ b → E w X k n M tgt lv st) (k2 : b < a → E w X k n M (pc + 3) lv st) : E w X k n M pc lv (vI b :: vI a :: st) := by
  obtain ⟨p, l, e, R, s, m, args, below, meth, c, A, Q, nL9⟩ := X
  obtain ⟨hx, hb, hml, hown, hts, hA, hK, hKK, hmv, rfl, hfr, hlo, hmc, hms, hlk, htb⟩ := C
  intro hw H locs ls hP hD hS hl
  exact lv_icmp_le hx hb hd ht (fun h => k1 ((i32_le ha hbb).mp h) hw H locs ls hP hD hS hl) (fun h => k2 (Classical.byContradiction fun q => h ((i32_le ha hbb).mpr (by omega))) hw H locs ls hP hD hS hl)
theorem e_if_le (C : OkB w X cc own nL d mc ms) {a : Int} {off : Int} (tgt : Nat) (ha : R32 a) (hd : decode cc pc = .ok (.ifCond .le off, 3)) (ht : (pc : Int) + off = (tgt : Int)) (k1 : a ≤ 0 → E w X k n M tgt lv st) (k2 : 0 < a → E w X k n M (pc + 3) lv st) : E w X k n M pc lv (vI a :: st) := by
  obtain ⟨p, l, e, R, s, m, args, below, meth, c, A, Q, nL9⟩ := X
  obtain ⟨hx, hb, hml, hown, hts, hA, hK, hKK, hmv, rfl, hfr, hlo, hmc, hms, hlk, htb⟩ := C
  intro hw H locs ls hP hD hS hl
  have hbb : R32 0 := by decide
  exact lv_if_le hx hb hd ht (fun h => k1 ((i32_le ha hbb).mp h) hw H locs ls hP hD hS hl) (fun h => k2 (Classical.byContradiction fun q => h ((i32_le ha hbb).mpr (by omega))) hw H locs ls hP hD hS hl)
theorem e_goto (C : OkB w X cc own nL d mc ms) {off : Int} (tgt : Nat) (hd : decode cc pc = .ok (.goto off, 3)) (ht : (pc : Int) + off = (tgt : Int)) (kk : E w X k n M tgt lv st) : E w X k n M pc lv st := by
  obtain ⟨p, l, e, R, s, m, args, below, meth, c, A, Q, nL9⟩ := X
  obtain ⟨hx, hb, hml, hown, hts, hA, hK, hKK, hmv, rfl, hfr, hlo, hmc, hms, hlk, htb⟩ := C
  intro hw H locs ls hP hD hS hl
  exact lv_goto hx hb hd ht (kk hw H locs ls hP hD hS hl)
theorem e_tableOut (C : OkB w X cc own nL d mc ms) {dflt lo hi : Int} {offs : Array Int} {len : Nat} {a : Int} (tgt : Nat) (ha : R32 a) (hd : decode cc pc = .ok (.tableswitch dflt lo hi offs, len)) (h : a < lo ∨ hi < a) (ht : (pc : Int) + dflt = (tgt : Int)) (kk : E w X k n M tgt lv st) : E w X k n M pc lv (vI a :: st) := by
  obtain ⟨p, l, e, R, s, m, args, below, meth, c, A, Q, nL9⟩ := X
  obtain ⟨hx, hb, hml, hown, hts, hA, hK, hKK, hmv, rfl, hfr, hlo, hmc, hms, hlk, htb⟩ := C
  intro hw H locs ls hP hD hS hl
  exact lv_tableOut hx hb hd (by rw [i32_toInt ha]; exact h) ht (kk hw H locs ls hP hD hS hl)
theorem e_tableIn (C : OkB w X cc own nL d mc ms) {dflt lo hi off : Int} {offs : Array Int} {len : Nat} {a : Int} (tgt : Nat) (ha : R32 a) (hd : decode cc pc = .ok (.tableswitch dflt lo hi offs, len)) (h1 : lo ≤ a) (h2 : a ≤ hi) (ho : offs[(a - lo).toNat]? = some off) (ht : (pc : Int) + off = (tgt : Int)) (kk : E w X k n M tgt lv st) : E w X k n M pc lv (vI a :: st) := by
  obtain ⟨p, l, e, R, s, m, args, below, meth, c, A, Q, nL9⟩ := X
  obtain ⟨hx, hb, hml, hown, hts, hA, hK, hKK, hmv, rfl, hfr, hlo, hmc, hms, hlk, htb⟩ := C
  intro hw H locs ls hP hD hS hl
  exact lv_tableIn hx hb hd (by rw [i32_toInt ha]; omega) (by rw [i32_toInt ha]; omega) (by rw [i32_toInt ha]; exact ho) ht (kk hw H locs ls hP hD hS hl)
theorem e_lookup (C : OkB w X cc own nL d mc ms) {dflt off : Int} {ps : Array (Int × Int)} {len : Nat} {a : Int} (tgt : Nat) (ha : R32 a) (hd : decode cc pc = .ok (.lookupswitch dflt ps, len)) (hp : (ps.toList.zip (ps.toList.drop 1)).all (fun (a, next) => a.1 < next.1) = true) (ho : Op.lookupswitch.offset ps.toList dflt a = off) (ht : (pc : Int) + off = (tgt : Int)) (kk : E w X k n M tgt lv st) : E w X k n M pc lv (vI a :: st) := by
  obtain ⟨p, l, e, R, s, m, args, below, meth, c, A, Q, nL9⟩ := X
  obtain ⟨hx, hb, hml, hown, hts, hA, hK, hKK, hmv, rfl, hfr, hlo, hmc, hms, hlk, htb⟩ := C
  intro hw H locs ls hP hD hS hl
  exact lv_lookup hx hb hd hp (by rw [i32_toInt ha]; exact ho) ht (kk hw H locs ls hP hD hS hl)
theorem e_get (C : OkB w X cc own nL d mc ms) {a q0 ci N kf ix : Nat} {Cn : String} {T : u_T} {fs : List Value} {v : Value} (hin : ∀ x ∈ u_ws Cn T N, x ∈ gT) (he : (w.2.2.1 M)[q0]? = some (a, .inr (ci, fs))) (hc : vwCl[ci]? = some (Cn, T, N)) (hk : kf < N) (hlink : Cond.fieldLink own ix (T kf).1 (T kf).2.1 (T kf).2.2.1 ∈ gT) (hv : fs[kf]? = some v) (hd : decode cc pc = .ok (.getfield ix, 3)) (kk : E w X k n M (pc + 3) lv (v :: st)) : E w X k n M pc lv (.ref a :: st) := by
  obtain ⟨p, l, e, R, s, m, args, below, meth, c, A, Q, nL9⟩ := X
  obtain ⟨hx, hb, hml, hown, hts, hA, hK, hKK, hmv, rfl, hfr, hlo, hmc, hms, hlk, htb⟩ := C
  intro hw H locs ls hP hD hS hl
  exact va_get (D := w.1) (T := T) hx hb hts hin hown hK hP q0 he hc kf hk (hts _ hlink) (fun _ h => h) hv hd (kk hw H locs ls hP hD hS hl)
theorem e_put (C : OkB w X cc own nL d mc ms) {a q0 ci N kf ix : Nat} {Cn : String} {T : u_T} {fs : List Value} {v : Value} {ty : FieldType} {M1 : Mem} (hin : ∀ x ∈ u_ws Cn T N, x ∈ gT) (ty0 : Nat → FieldType) (hty : ∀ k, k < N → parseFieldDescriptor (T k).2.2.1 = some (ty0 k)) (hnm : ∀ a, a < N → ∀ b, b < N → a ≠ b → (T a).2.1 ≠ (T b).2.1) (he : (w.2.2.1 M)[q0]? = some (a, .inr (ci, fs))) (hc : vwCl[ci]? = some (Cn, T, N)) (hk : kf < N) (hlink : Cond.fieldLink own ix (T kf).1 (T kf).2.1 (T kf).2.2.1 ∈ gT) (hfin : (T kf).2.2.2 = false) (hdd : parseFieldDescriptor (T kf).2.2.1 = some ty) (hn : narrow ty v = v) (hfit : fits ty v = true) (hl9 : kf < fs.length) (hset : (w.2.2.1 M).set q0 (a, .inr (ci, fs.set kf v)) = w.2.2.1 M1) (hwf : w.2.2.2.1 M → w.2.2.2.1 M1) (hd : decode cc pc = .ok (.putfield ix, 3)) (kk : E w X k n M1 (pc + 3) lv st) : E w X k n M pc lv (v :: .ref a :: st) := by
  obtain ⟨p, l, e, R, s, m, args, below, meth, c, A, Q, nL9⟩ := X
  obtain ⟨hx, hb, hml, hown, hts, hA, hK, hKK, hmv, rfl, hfr, hlo, hmc, hms, hlk, htb⟩ := C
  intro hw H locs ls hP hD hS hl
  exact va_put (D := w.1) (T := T) hx hb hts hin ty0 hty hnm hown hK hP hD hS q0 he hc kf hk (hts _ hlink) (fun _ h => h) hfin hdd hn hfit hl9 hd (fun H1 locs1 hP1 hD1 hS1 => kk (hwf hw) H1 locs1 ls (hset ▸ hP1) (hset ▸ hD1) hS1 hl)
theorem e_iald (C : OkB w X cc own nL d mc ms) {a q0 t0 len : Nat} {cA : ClassId} {f : Nat → Int32} {i x : Int} (he : (w.2.2.1 M)[q0]? = some (a, .inl (cA, len, .inl f))) (ht : w.2.1[t0]? = some (cA, .int)) (hi : 0 ≤ i ∧ i < len) (hlen : len < 2147483648) (hv : f i.toNat = i32 x) (hd : decode cc pc = .ok (.iaload, 1)) (kk : E w X k n M (pc + 1) lv (vI x :: st)) : E w X k n M pc lv (vI i :: .ref a :: st) := by
  obtain ⟨p, l, e, R, s, m, args, below, meth, c, A, Q, nL9⟩ := X
  obtain ⟨hx, hb, hml, hown, hts, hA, hK, hKK, hmv, rfl, hfr, hlo, hmc, hms, hlk, htb⟩ := C
  intro hw H locs ls hP hD hS hl
  refine va_iald hx hb hK hP q0 t0 he ht (vp_in_i hi hlen) hd ?_
  rw [clamp_i hi.1 (by omega), hv]
  exact kk hw H locs ls hP hD hS hl
theorem e_zald (C : OkB w X cc own nL d mc ms) {a q0 t0 len : Nat} {cA : ClassId} {f : Nat → Int32} {i x : Int} (he : (w.2.2.1 M)[q0]? = some (a, .inl (cA, len, .inl f))) (ht : w.2.1[t0]? = some (cA, .boolean)) (hi : 0 ≤ i ∧ i < len) (hlen : len < 2147483648) (hv : f i.toNat = i32 x) (hd : decode cc pc = .ok (.baload, 1)) (kk : E w X k n M (pc + 1) lv (vI x :: st)) : E w X k n M pc lv (vI i :: .ref a :: st) := by
  obtain ⟨p, l, e, R, s, m, args, below, meth, c, A, Q, nL9⟩ := X
  obtain ⟨hx, hb, hml, hown, hts, hA, hK, hKK, hmv, rfl, hfr, hlo, hmc, hms, hlk, htb⟩ := C
  intro hw H locs ls hP hD hS hl
  refine va_zald hx hb hK hP q0 t0 he ht (vp_in_i hi hlen) hd ?_
  rw [clamp_i hi.1 (by omega), hv]
  exact kk hw H locs ls hP hD hS hl
theorem e_cald (C : OkB w X cc own nL d mc ms) {a q0 t0 len : Nat} {cA : ClassId} {f : Nat → Int32} {i x : Int} (he : (w.2.2.1 M)[q0]? = some (a, .inl (cA, len, .inl f))) (ht : w.2.1[t0]? = some (cA, .char)) (hi : 0 ≤ i ∧ i < len) (hlen : len < 2147483648) (hv : f i.toNat = i32 x) (hd : decode cc pc = .ok (.caload, 1)) (kk : E w X k n M (pc + 1) lv (vI x :: st)) : E w X k n M pc lv (vI i :: .ref a :: st) := by
  obtain ⟨p, l, e, R, s, m, args, below, meth, c, A, Q, nL9⟩ := X
  obtain ⟨hx, hb, hml, hown, hts, hA, hK, hKK, hmv, rfl, hfr, hlo, hmc, hms, hlk, htb⟩ := C
  intro hw H locs ls hP hD hS hl
  refine va_cald hx hb hK hP q0 t0 he ht (vp_in_i hi hlen) hd ?_
  rw [clamp_i hi.1 (by omega), hv]
  exact kk hw H locs ls hP hD hS hl
theorem e_lald (C : OkB w X cc own nL d mc ms) {a q0 t0 len : Nat} {cA : ClassId} {f : Nat → Int64} {i x : Int} (he : (w.2.2.1 M)[q0]? = some (a, .inl (cA, len, .inr (.inl f)))) (ht : w.2.1[t0]? = some (cA, .long)) (hi : 0 ≤ i ∧ i < len) (hlen : len < 2147483648) (hv : f i.toNat = i64 x) (hd : decode cc pc = .ok (.laload, 1)) (kk : E w X k n M (pc + 1) lv (vL x :: st)) : E w X k n M pc lv (vI i :: .ref a :: st) := by
  obtain ⟨p, l, e, R, s, m, args, below, meth, c, A, Q, nL9⟩ := X
  obtain ⟨hx, hb, hml, hown, hts, hA, hK, hKK, hmv, rfl, hfr, hlo, hmc, hms, hlk, htb⟩ := C
  intro hw H locs ls hP hD hS hl
  refine va_lald hx hb hK hP q0 t0 he ht (vp_in_i hi hlen) hd ?_
  rw [clamp_i hi.1 (by omega), hv]
  exact kk hw H locs ls hP hD hS hl
theorem e_iast (C : OkB w X cc own nL d mc ms) {a q0 t0 len : Nat} {cA : ClassId} {f : Nat → Int32} {i x : Int} {M1 : Mem} (he : (w.2.2.1 M)[q0]? = some (a, .inl (cA, len, .inl f))) (ht : w.2.1[t0]? = some (cA, .int)) (hi : 0 ≤ i ∧ i < len) (hlen : len < 2147483648) (hset : (w.2.2.1 M).set q0 (a, .inl (cA, len, .inl (upd f i.toNat (i32 x)))) = w.2.2.1 M1) (hwf : w.2.2.2.1 M → w.2.2.2.1 M1) (hd : decode cc pc = .ok (.iastore, 1)) (kk : E w X k n M1 (pc + 1) lv st) : E w X k n M pc lv (vI x :: vI i :: .ref a :: st) := by
  obtain ⟨p, l, e, R, s, m, args, below, meth, c, A, Q, nL9⟩ := X
  obtain ⟨hx, hb, hml, hown, hts, hA, hK, hKK, hmv, rfl, hfr, hlo, hmc, hms, hlk, htb⟩ := C
  intro hw H locs ls hP hD hS hl
  refine va_iast hx hb hK hP hD hS q0 t0 he ht (vp_in_i hi hlen) hd (fun H1 locs1 hP1 hD1 hS1 => ?_)
  rw [clamp_i hi.1 (by omega)] at hP1 hD1
  exact kk (hwf hw) H1 locs1 ls (hset ▸ hP1) (hset ▸ hD1) hS1 hl
theorem e_zast (C : OkB w X cc own nL d mc ms) {a q0 t0 len : Nat} {cA : ClassId} {f : Nat → Int32} {i x : Int} {M1 : Mem} (he : (w.2.2.1 M)[q0]? = some (a, .inl (cA, len, .inl f))) (ht : w.2.1[t0]? = some (cA, .boolean)) (hi : 0 ≤ i ∧ i < len) (hlen : len < 2147483648) (hz : x = 0 ∨ x = 1) (hset : (w.2.2.1 M).set q0 (a, .inl (cA, len, .inl (upd f i.toNat (i32 x)))) = w.2.2.1 M1) (hwf : w.2.2.2.1 M → w.2.2.2.1 M1) (hd : decode cc pc = .ok (.bastore, 1)) (kk : E w X k n M1 (pc + 1) lv st) : E w X k n M pc lv (vI x :: vI i :: .ref a :: st) := by
  obtain ⟨p, l, e, R, s, m, args, below, meth, c, A, Q, nL9⟩ := X
  obtain ⟨hx, hb, hml, hown, hts, hA, hK, hKK, hmv, rfl, hfr, hlo, hmc, hms, hlk, htb⟩ := C
  intro hw H locs ls hP hD hS hl
  have hn9 : vp_nar .boolean (i32 x) = i32 x := by
    rcases hz with rfl | rfl <;> rfl
  refine va_zast hx hb hK hP hD hS q0 t0 he ht (vp_in_i hi hlen) hd (fun H1 locs1 hP1 hD1 hS1 => ?_)
  rw [clamp_i hi.1 (by omega), hn9] at hP1 hD1
  exact kk (hwf hw) H1 locs1 ls (hset ▸ hP1) (hset ▸ hD1) hS1 hl
theorem e_cast (C : OkB w X cc own nL d mc ms) {a q0 t0 len : Nat} {cA : ClassId} {f : Nat → Int32} {i x : Int} {M1 : Mem} (he : (w.2.2.1 M)[q0]? = some (a, .inl (cA, len, .inl f))) (ht : w.2.1[t0]? = some (cA, .char)) (hi : 0 ≤ i ∧ i < len) (hlen : len < 2147483648) (hz : 0 ≤ x ∧ x < 65536) (hset : (w.2.2.1 M).set q0 (a, .inl (cA, len, .inl (upd f i.toNat (i32 x)))) = w.2.2.1 M1) (hwf : w.2.2.2.1 M → w.2.2.2.1 M1) (hd : decode cc pc = .ok (.castore, 1)) (kk : E w X k n M1 (pc + 1) lv st) : E w X k n M pc lv (vI x :: vI i :: .ref a :: st) := by
  obtain ⟨p, l, e, R, s, m, args, below, meth, c, A, Q, nL9⟩ := X
  obtain ⟨hx, hb, hml, hown, hts, hA, hK, hKK, hmv, rfl, hfr, hlo, hmc, hms, hlk, htb⟩ := C
  intro hw H locs ls hP hD hS hl
  have hn9 : vp_nar .char (i32 x) = i32 x := by
    have e1 : i32 x = nI x.toNat := by
      apply Int32.toInt_inj.mp
      rw [i32_toInt (by omega), nI_toInt (by omega)]
      omega
    have h9 := pk_char (i32 x)
    rw [vp_nar_char]
    rw [e1]
    exact nar_c (by omega)
  refine va_cast hx hb hK hP hD hS q0 t0 he ht (vp_in_i hi hlen) hd (fun H1 locs1 hP1 hD1 hS1 => ?_)
  rw [clamp_i hi.1 (by omega), hn9] at hP1 hD1
  exact kk (hwf hw) H1 locs1 ls (hset ▸ hP1) (hset ▸ hD1) hS1 hl
theorem e_last (C : OkB w X cc own nL d mc ms) {a q0 t0 len : Nat} {cA : ClassId} {f : Nat → Int64} {i x : Int} {M1 : Mem} (he : (w.2.2.1 M)[q0]? = some (a, .inl (cA, len, .inr (.inl f)))) (ht : w.2.1[t0]? = some (cA, .long)) (hi : 0 ≤ i ∧ i < len) (hlen : len < 2147483648) (hset : (w.2.2.1 M).set q0 (a, .inl (cA, len, .inr (.inl (vp_updL f i.toNat (i64 x))))) = w.2.2.1 M1) (hwf : w.2.2.2.1 M → w.2.2.2.1 M1) (hd : decode cc pc = .ok (.lastore, 1)) (kk : E w X k n M1 (pc + 1) lv st) : E w X k n M pc lv (vL x :: vI i :: .ref a :: st) := by
  obtain ⟨p, l, e, R, s, m, args, below, meth, c, A, Q, nL9⟩ := X
  obtain ⟨hx, hb, hml, hown, hts, hA, hK, hKK, hmv, rfl, hfr, hlo, hmc, hms, hlk, htb⟩ := C
  intro hw H locs ls hP hD hS hl
  refine va_last hx hb hK hP hD hS q0 t0 he ht (vp_in_i hi hlen) hd (fun H1 locs1 hP1 hD1 hS1 => ?_)
  rw [clamp_i hi.1 (by omega)] at hP1 hD1
  exact kk (hwf hw) H1 locs1 ls (hset ▸ hP1) (hset ▸ hD1) hS1 hl
end ER
