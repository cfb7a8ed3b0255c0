/-! ===== rows of frames with handlers ===== -/
section HR
variable {tb : List ExceptionTableEntry → Prop} {w : Wd} {X : Cx} {cc : ByteArray} {own : String} {nL d mc ms : Nat} {k n : Nat} {M : Mem} {pc : Nat} {lv lv' : List (Nat × Value)} {st : List Value}
theorem h_iconst (C : OkH tb w X cc own nL d mc ms) {v : Int} (hd : decode cc pc = .ok (.iconst v, 1)) (kk : E w X k n M (pc + 1) lv (vI v :: st)) : E w X k n M pc lv st := by
  obtain ⟨p, l, e, R, s, m, args, below, meth, c, A, Q, nL9⟩ := X
  obtain ⟨hx, hb, hml, hown, hts, hA, hK, hKK, hmv, rfl, hfr, hlo, hmc, hms, hlk, htb⟩ := C
  intro hw H locs ls hP hD hS hl
  exact lv_iconst hx hb hd rfl (kk hw H locs ls hP hD hS hl)
theorem h_bipush (C : OkH tb w X cc own nL d mc ms) {v : Int} (hd : decode cc pc = .ok (.bipush v, 2)) (hv : (Int8.ofInt v).toInt32 = i32 v) (kk : E w X k n M (pc + 2) lv (vI v :: st)) : E w X k n M pc lv st := by
  obtain ⟨p, l, e, R, s, m, args, below, meth, c, A, Q, nL9⟩ := X
  obtain ⟨hx, hb, hml, hown, hts, hA, hK, hKK, hmv, rfl, hfr, hlo, hmc, hms, hlk, htb⟩ := C
  intro hw H locs ls hP hD hS hl
  exact lv_bipush hx hb hd hv (kk hw H locs ls hP hD hS hl)
theorem h_lconst0 (C : OkH tb w X cc own nL d mc ms) (hd : decode cc pc = .ok (.lconst 0, 1)) (kk : E w X k n M (pc + 1) lv (vL 0 :: st)) : E w X k n M pc lv st := by
  obtain ⟨p, l, e, R, s, m, args, below, meth, c, A, Q, nL9⟩ := X
  obtain ⟨hx, hb, hml, hown, hts, hA, hK, hKK, hmv, rfl, hfr, hlo, hmc, hms, hlk, htb⟩ := C
  intro hw H locs ls hP hD hS hl
  exact lv_lconst hx hb hd rfl (kk hw H locs ls hP hD hS hl)
theorem h_lconst1 (C : OkH tb w X cc own nL d mc ms) (hd : decode cc pc = .ok (.lconst 1, 1)) (kk : E w X k n M (pc + 1) lv (vL 1 :: st)) : E w X k n M pc lv st := by
  obtain ⟨p, l, e, R, s, m, args, below, meth, c, A, Q, nL9⟩ := X
  obtain ⟨hx, hb, hml, hown, hts, hA, hK, hKK, hmv, rfl, hfr, hlo, hmc, hms, hlk, htb⟩ := C
  intro hw H locs ls hP hD hS hl
  exact lv_lconst hx hb hd rfl (kk hw H locs ls hP hD hS hl)
theorem h_iload_n (C : OkH tb w X cc own nL d mc ms) {j : Fin 4} {x : Int} (q : Nat) (hd : decode cc pc = .ok (.iload_n j, 1)) (hq : lv[q]? = some ((j : Nat), vI x)) (kk : E w X k n M (pc + 1) lv (vI x :: st)) : E w X k n M pc lv st := by
  obtain ⟨p, l, e, R, s, m, args, below, meth, c, A, Q, nL9⟩ := X
  obtain ⟨hx, hb, hml, hown, hts, hA, hK, hKK, hmv, rfl, hfr, hlo, hmc, hms, hlk, htb⟩ := C
  intro hw H locs ls hP hD hS hl
  exact lv_iload_n hx hb hd rfl (lv_at hl q hq) (kk hw H locs ls hP hD hS hl)
theorem h_iload (C : OkH tb w X cc own nL d mc ms) {j : Nat} {x : Int} (q : Nat) (hd : decode cc pc = .ok (.iload j, 2)) (hq : lv[q]? = some (j, vI x)) (kk : E w X k n M (pc + 2) lv (vI x :: st)) : E w X k n M pc lv st := by
  obtain ⟨p, l, e, R, s, m, args, below, meth, c, A, Q, nL9⟩ := X
  obtain ⟨hx, hb, hml, hown, hts, hA, hK, hKK, hmv, rfl, hfr, hlo, hmc, hms, hlk, htb⟩ := C
  intro hw H locs ls hP hD hS hl
  exact lv_iload hx hb hd (lv_at hl q hq) (kk hw H locs ls hP hD hS hl)
theorem h_aload_n (C : OkH tb w X cc own nL d mc ms) {j : Fin 4} {a : Nat} (q : Nat) (hd : decode cc pc = .ok (.aload_n j, 1)) (hq : lv[q]? = some ((j : Nat), .ref a)) (kk : E w X k n M (pc + 1) lv (.ref a :: st)) : E w X k n M pc lv st := by
  obtain ⟨p, l, e, R, s, m, args, below, meth, c, A, Q, nL9⟩ := X
  obtain ⟨hx, hb, hml, hown, hts, hA, hK, hKK, hmv, rfl, hfr, hlo, hmc, hms, hlk, htb⟩ := C
  intro hw H locs ls hP hD hS hl
  exact lv_aload_n hx hb hd rfl (lv_at hl q hq) (kk hw H locs ls hP hD hS hl)
theorem h_aload (C : OkH tb w X cc own nL d mc ms) {j : Nat} {a : Nat} (q : Nat) (hd : decode cc pc = .ok (.aload j, 2)) (hq : lv[q]? = some (j, .ref a)) (kk : E w X k n M (pc + 2) lv (.ref a :: st)) : E w X k n M pc lv st := by
  obtain ⟨p, l, e, R, s, m, args, below, meth, c, A, Q, nL9⟩ := X
  obtain ⟨hx, hb, hml, hown, hts, hA, hK, hKK, hmv, rfl, hfr, hlo, hmc, hms, hlk, htb⟩ := C
  intro hw H locs ls hP hD hS hl
  exact lv_aload hx hb hd (lv_at hl q hq) (kk hw H locs ls hP hD hS hl)
theorem h_istore_n (C : OkH tb w X cc own nL d mc ms) {j : Fin 4} {x : Int} (hd : decode cc pc = .ok (.istore_n j, 1)) (hn : (j : Nat) < nL) (hv : ((j : Nat), vI x) :: lv.filter (fun q => !(q.1 == (j : Nat)) && !(q.1 + 1 == (j : Nat) && q.2.category == 2)) = lv') (kk : E w X k n M (pc + 1) lv' st) : E w X k n M pc lv (vI x :: st) := by
  obtain ⟨p, l, e, R, s, m, args, below, meth, c, A, Q, nL9⟩ := X
  obtain ⟨hx, hb, hml, hown, hts, hA, hK, hKK, hmv, rfl, hfr, hlo, hmc, hms, hlk, htb⟩ := C
  intro hw H locs ls hP hD hS hl
  exact lv_istore_n hx hb hd rfl hl hn hv (fun ls hl => kk hw H locs ls hP hD hS hl)
theorem h_istore (C : OkH tb w X cc own nL d mc ms) {j : Nat} {x : Int} (hd : decode cc pc = .ok (.istore j, 2)) (hn : j < nL) (hv : (j, vI x) :: lv.filter (fun q => !(q.1 == j) && !(q.1 + 1 == j && q.2.category == 2)) = lv') (kk : E w X k n M (pc + 2) lv' st) : E w X k n M pc lv (vI x :: st) := by
  obtain ⟨p, l, e, R, s, m, args, below, meth, c, A, Q, nL9⟩ := X
  obtain ⟨hx, hb, hml, hown, hts, hA, hK, hKK, hmv, rfl, hfr, hlo, hmc, hms, hlk, htb⟩ := C
  intro hw H locs ls hP hD hS hl
  exact lv_istore hx hb hd hl hn hv (fun ls hl => kk hw H locs ls hP hD hS hl)
theorem h_astore_n (C : OkH tb w X cc own nL d mc ms) {j : Fin 4} {a : Nat} (hd : decode cc pc = .ok (.astore_n j, 1)) (hn : (j : Nat) < nL) (hv : ((j : Nat), Value.ref a) :: lv.filter (fun q => !(q.1 == (j : Nat)) && !(q.1 + 1 == (j : Nat) && q.2.category == 2)) = lv') (kk : E w X k n M (pc + 1) lv' st) : E w X k n M pc lv (.ref a :: st) := by
  obtain ⟨p, l, e, R, s, m, args, below, meth, c, A, Q, nL9⟩ := X
  obtain ⟨hx, hb, hml, hown, hts, hA, hK, hKK, hmv, rfl, hfr, hlo, hmc, hms, hlk, htb⟩ := C
  intro hw H locs ls hP hD hS hl
  exact lv_astore_n hx hb hd rfl hl hn hv (fun ls hl => kk hw H locs ls hP hD hS hl)
theorem h_astore (C : OkH tb w X cc own nL d mc ms) {j : Nat} {a : Nat} (hd : decode cc pc = .ok (.astore j, 2)) (hn : j < nL) (hv : (j, Value.ref a) :: lv.filter (fun q => !(q.1 == j) && !(q.1 + 1 == j && q.2.category == 2)) = lv') (kk : E w X k n M (pc + 2) lv' st) : E w X k n M pc lv (.ref a :: st) := by
  obtain ⟨p, l, e, R, s, m, args, below, meth, c, A, Q, nL9⟩ := X
  obtain ⟨hx, hb, hml, hown, hts, hA, hK, hKK, hmv, rfl, hfr, hlo, hmc, hms, hlk, htb⟩ := C
  intro hw H locs ls hP hD hS hl
  exact lv_astore hx hb hd hl hn hv (fun ls hl => kk hw H locs ls hP hD hS hl)
theorem h_iinc (C : OkH tb w X cc own nL d mc ms) {j : Nat} {x z : Int} (q : Nat) (hd : decode cc pc = .ok (.iinc j z, 3)) (hq : lv[q]? = some (j, vI x)) (hn : j < nL) (hv : (j, vI (x + z)) :: lv.filter (fun q => !(q.1 == j) && !(q.1 + 1 == j && q.2.category == 2)) = lv') (kk : E w X k n M (pc + 3) lv' st) : E w X k n M pc lv st := by
  obtain ⟨p, l, e, R, s, m, args, below, meth, c, A, Q, nL9⟩ := X
  obtain ⟨hx, hb, hml, hown, hts, hA, hK, hKK, hmv, rfl, hfr, hlo, hmc, hms, hlk, htb⟩ := C
  intro hw H locs ls hP hD hS hl
  exact lv_iinc hx hb hd hl hq (i32_add x z) hn hv (fun ls hl => kk hw H locs ls hP hD hS hl)
theorem h_iadd (C : OkH tb w X cc own nL d mc ms) {a b : Int} (hd : decode cc pc = .ok (.iadd, 1)) (kk : E w X k n M (pc + 1) lv (vI (a + b) :: st)) : E w X k n M pc lv (vI b :: vI a :: st) := by
  obtain ⟨p, l, e, R, s, m, args, below, meth, c, A, Q, nL9⟩ := X
  obtain ⟨hx, hb, hml, hown, hts, hA, hK, hKK, hmv, rfl, hfr, hlo, hmc, hms, hlk, htb⟩ := C
  intro hw H locs ls hP hD hS hl
  refine lv_iadd hx hb hd ?_
  rw [i32_add]
  exact kk hw H locs ls hP hD hS hl
theorem h_isub (C : OkH tb w X cc own nL d mc ms) {a b : Int} (hd : decode cc pc = .ok (.isub, 1)) (kk : E w X k n M (pc + 1) lv (vI (a - b) :: st)) : E w X k n M pc lv (vI b :: vI a :: st) := by
  obtain ⟨p, l, e, R, s, m, args, below, meth, c, A, Q, nL9⟩ := X
  obtain ⟨hx, hb, hml, hown, hts, hA, hK, hKK, hmv, rfl, hfr, hlo, hmc, hms, hlk, htb⟩ := C
  intro hw H locs ls hP hD hS hl
  refine lv_isub hx hb hd ?_
  rw [i32_sub]
  exact kk hw H locs ls hP hD hS hl
theorem h_iand (C : OkH tb w X cc own nL d mc ms) {a b : Int} (hd : decode cc pc = .ok (.iand, 1)) (kk : E w X k n M (pc + 1) lv (vI (iandI a b) :: st)) : E w X k n M pc lv (vI b :: vI a :: st) := by
  obtain ⟨p, l, e, R, s, m, args, below, meth, c, A, Q, nL9⟩ := X
  obtain ⟨hx, hb, hml, hown, hts, hA, hK, hKK, hmv, rfl, hfr, hlo, hmc, hms, hlk, htb⟩ := C
  intro hw H locs ls hP hD hS hl
  refine lv_iand hx hb hd ?_
  have h9 := kk hw H locs ls hP hD hS hl
  rw [show vI (iandI a b) = Value.int _ from congrArg Value.int (i32_of _)] at h9
  exact h9
theorem h_i2l (C : OkH tb w X cc own nL d mc ms) {a : Int} (ha : R32 a) (hd : decode cc pc = .ok (.i2l, 1)) (kk : E w X k n M (pc + 1) lv (vL a :: st)) : E w X k n M pc lv (vI a :: st) := by
  obtain ⟨p, l, e, R, s, m, args, below, meth, c, A, Q, nL9⟩ := X
  obtain ⟨hx, hb, hml, hown, hts, hA, hK, hKK, hmv, rfl, hfr, hlo, hmc, hms, hlk, htb⟩ := C
  intro hw H locs ls hP hD hS hl
  exact lv_i2l hx hb hd (i32_long ha) (kk hw H locs ls hP hD hS hl)
theorem h_lcmp (C : OkH tb w X cc own nL d mc ms) {a b : Int} (ha : R64 a) (hbb : R64 b) (hd : decode cc pc = .ok (.lcmp, 1)) (kk : E w X k n M (pc + 1) lv (vI (cmpL a b) :: st)) : E w X k n M pc lv (vL b :: vL a :: st) := by
  obtain ⟨p, l, e, R, s, m, args, below, meth, c, A, Q, nL9⟩ := X
  obtain ⟨hx, hb, hml, hown, hts, hA, hK, hKK, hmv, rfl, hfr, hlo, hmc, hms, hlk, htb⟩ := C
  intro hw H locs ls hP hD hS hl
  refine W.lcmp hx hb hd ?_
  have h9 := kk hw H locs ls hP hD hS hl
  have h8 : lg_cmp (i64 a) (i64 b) = i32 (cmpL a b) := by
    unfold lg_cmp cmpL
    rcases Int.lt_trichotomy a b with h | h | h
    · have h1 : ¬ i64 b < i64 a := fun q => by have := (i64_lt hbb ha).mp q; omega
      have h2 : ¬ i64 a = i64 b := fun q => by have := (i64_eq ha hbb).mp q; omega
      simp [h1, h2, h]
      first | rfl | decide
    · subst h
      have h1 : ¬ i64 a < i64 a := fun q => by have := (i64_lt ha ha).mp q; omega
      simp [h1]
      first | rfl | decide
    · have h2 : i64 b < i64 a := (i64_lt hbb ha).mpr h
      have h3 : ¬ a < b := by omega
      have h4 : ¬ a = b := by omega
      simp [h2, h3, h4]
      first | rfl | decide
  rw [h8]
  exact h9
theorem h_dup (C : OkH tb w X cc own nL d mc ms) {v : Value} (hv : v.category = 1) (hd : decode cc pc = .ok (.dup, 1)) (kk : E w X k n M (pc + 1) lv (v :: v :: st)) : E w X k n M pc lv (v :: st) := by
  obtain ⟨p, l, e, R, s, m, args, below, meth, c, A, Q, nL9⟩ := X
  obtain ⟨hx, hb, hml, hown, hts, hA, hK, hKK, hmv, rfl, hfr, hlo, hmc, hms, hlk, htb⟩ := C
  intro hw H locs ls hP hD hS hl
  exact lv_dup hx hb hd hv (kk hw H locs ls hP hD hS hl)
theorem h_icmp_eq (C : OkH tb w X cc own nL d mc ms) {a b : Int} {off : Int} (tgt : Nat) (ha : R32 a) (hbb : R32 b) (hd : decode cc pc = .ok (.if_icmp .eq off, 3)) (ht : (pc : Int) + off = (tgt : Int)) (k1 : a = b → E w X k n M tgt lv st) (k2 : a ≠ b → E w X k n M (pc + 3) lv st) : E w X k n M pc lv (vI b :: vI a :: st) := by
  obtain ⟨p, l, e, R, s, m, args, below, meth, c, A, Q, nL9⟩ := X
  obtain ⟨hx, hb, hml, hown, hts, hA, hK, hKK, hmv, rfl, hfr, hlo, hmc, hms, hlk, htb⟩ := C
  intro hw H locs ls hP hD hS hl
  exact lv_icmp_eq hx hb hd ht (fun h => k1 ((i32_eq ha hbb).mp h) hw H locs ls hP hD hS hl) (fun h => k2 (fun q => h (congrArg i32 q)) hw H locs ls hP hD hS hl)
theorem h_if_eq (C : OkH tb w X cc own nL d mc ms) {a : Int} {off : Int} (tgt : Nat) (ha : R32 a) (hd : decode cc pc = .ok (.ifCond .eq off, 3)) (ht : (pc : Int) + off = (tgt : Int)) (k1 : a = 0 → E w X k n M tgt lv st) (k2 : a ≠ 0 → E w X k n M (pc + 3) lv st) : E w X k n M pc lv (vI a :: st) := by
  obtain ⟨p, l, e, R, s, m, args, below, meth, c, A, Q, nL9⟩ := X
  obtain ⟨hx, hb, hml, hown, hts, hA, hK, hKK, hmv, rfl, hfr, hlo, hmc, hms, hlk, htb⟩ := C
  intro hw H locs ls hP hD hS hl
  have hbb : R32 0 := by decide
  exact lv_if_eq hx hb hd ht (fun h => k1 ((i32_eq ha hbb).mp h) hw H locs ls hP hD hS hl) (fun h => k2 (fun q => h (congrArg i32 q)) hw H locs ls hP hD hS hl)
theorem h_if_ne (C : OkH tb w X cc own nL d mc ms) {a : Int} {off : Int} (tgt : Nat) (ha : R32 a) (hd : decode cc pc = .ok (.ifCond .ne off, 3)) (ht : (pc : Int) + off = (tgt : Int)) (k1 : a ≠ 0 → E w X k n M tgt lv st) (k2 : a = 0 → E w X k n M (pc + 3) lv st) : E w X k n M pc lv (vI a :: st) := by
  obtain ⟨p, l, e, R, s, m, args, below, meth, c, A, Q, nL9⟩ := X
  obtain ⟨hx, hb, hml, hown, hts, hA, hK, hKK, hmv, rfl, hfr, hlo, hmc, hms, hlk, htb⟩ := C
  intro hw H locs ls hP hD hS hl
  have hbb : R32 0 := by decide
  exact lv_if_ne hx hb hd ht (fun h => k1 (fun q => h (congrArg i32 q)) hw H locs ls hP hD hS hl) (fun h => k2 ((i32_eq ha hbb).mp h) hw H locs ls hP hD hS hl)
theorem h_icmp_gt (C : OkH tb w X cc own nL d mc ms) {a b : Int} {off : Int} (tgt : Nat) (ha : R32 a) (hbb : R32 b) (hd : decode cc pc = .ok (.if_icmp .gt off, 3)) (ht : (pc : Int) + off = (tgt : Int)) (k1 : b < a → E w X k n M tgt lv st) (k2 : a ≤ b → E w X k n M (pc + 3) lv st) : E w X k n M pc lv (vI b :: vI a :: st) := by
  obtain ⟨p, l, e, R, s, m, args, below, meth, c, A, Q, nL9⟩ := X
  obtain ⟨hx, hb, hml, hown, hts, hA, hK, hKK, hmv, rfl, hfr, hlo, hmc, hms, hlk, htb⟩ := C
  intro hw H locs ls hP hD hS hl
  exact lv_icmp_gt hx hb hd ht (fun h => k1 ((i32_lt hbb ha).mp h) hw H locs ls hP hD hS hl) (fun h => k2 (Classical.byContradiction fun q => h ((i32_lt hbb ha).mpr (by omega))) hw H locs ls hP hD hS hl)
theorem h_goto (C : OkH tb w X cc own nL d mc ms) {off : Int} (tgt : Nat) (hd : decode cc pc = .ok (.goto off, 3)) (ht : (pc : Int) + off = (tgt : Int)) (kk : E w X k n M tgt lv st) : E w X k n M pc lv st := by
  obtain ⟨p, l, e, R, s, m, args, below, meth, c, A, Q, nL9⟩ := X
  obtain ⟨hx, hb, hml, hown, hts, hA, hK, hKK, hmv, rfl, hfr, hlo, hmc, hms, hlk, htb⟩ := C
  intro hw H locs ls hP hD hS hl
  exact lv_goto hx hb hd ht (kk hw H locs ls hP hD hS hl)
theorem h_tableOut (C : OkH tb w X cc own nL d mc ms) {dflt lo hi : Int} {offs : Array Int} {len : Nat} {a : Int} (tgt : Nat) (ha : R32 a) (hd : decode cc pc = .ok (.tableswitch dflt lo hi offs, len)) (h : a < lo ∨ hi < a) (ht : (pc : Int) + dflt = (tgt : Int)) (kk : E w X k n M tgt lv st) : E w X k n M pc lv (vI a :: st) := by
  obtain ⟨p, l, e, R, s, m, args, below, meth, c, A, Q, nL9⟩ := X
  obtain ⟨hx, hb, hml, hown, hts, hA, hK, hKK, hmv, rfl, hfr, hlo, hmc, hms, hlk, htb⟩ := C
  intro hw H locs ls hP hD hS hl
  exact lv_tableOut hx hb hd (by rw [i32_toInt ha]; exact h) ht (kk hw H locs ls hP hD hS hl)
theorem h_tableIn (C : OkH tb w X cc own nL d mc ms) {dflt lo hi off : Int} {offs : Array Int} {len : Nat} {a : Int} (tgt : Nat) (ha : R32 a) (hd : decode cc pc = .ok (.tableswitch dflt lo hi offs, len)) (h1 : lo ≤ a) (h2 : a ≤ hi) (ho : offs[(a - lo).toNat]? = some off) (ht : (pc : Int) + off = (tgt : Int)) (kk : E w X k n M tgt lv st) : E w X k n M pc lv (vI a :: st) := by
  obtain ⟨p, l, e, R, s, m, args, below, meth, c, A, Q, nL9⟩ := X
  obtain ⟨hx, hb, hml, hown, hts, hA, hK, hKK, hmv, rfl, hfr, hlo, hmc, hms, hlk, htb⟩ := C
  intro hw H locs ls hP hD hS hl
  exact lv_tableIn hx hb hd (by rw [i32_toInt ha]; omega) (by rw [i32_toInt ha]; omega) (by rw [i32_toInt ha]; exact ho) ht (kk hw H locs ls hP hD hS hl)
theorem h_lald (C : OkH tb w X cc own nL d mc ms) {a q0 t0 len : Nat} {cA : ClassId} {f : Nat → Int64} {i x : Int} (he : (w.2.2.1 M)[q0]? = some (a, .inl (cA, len, .inr (.inl f)))) (ht : w.2.1[t0]? = some (cA, .long)) (hi : 0 ≤ i ∧ i < len) (hlen : len < 2147483648) (hv : f i.toNat = i64 x) (hd : decode cc pc = .ok (.laload, 1)) (kk : E w X k n M (pc + 1) lv (vL x :: st)) : E w X k n M pc lv (vI i :: .ref a :: st) := by
  obtain ⟨p, l, e, R, s, m, args, below, meth, c, A, Q, nL9⟩ := X
  obtain ⟨hx, hb, hml, hown, hts, hA, hK, hKK, hmv, rfl, hfr, hlo, hmc, hms, hlk, htb⟩ := C
  intro hw H locs ls hP hD hS hl
  refine va_lald hx hb hK hP q0 t0 he ht (vp_in_i hi hlen) hd ?_
  rw [clamp_i hi.1 (by omega), hv]
  exact kk hw H locs ls hP hD hS hl
end HR
def nz (x : Int) : Int := (i32 x).toInt
theorem nz_r (x : Int) : R32 (nz x) := r32_toInt _
theorem nz_v (x : Int) : vI (nz x) = vI x := by show Value.int (i32 (i32 x).toInt) = _; rw [i32_of]
theorem nz_id {x : Int} (h : R32 x) : nz x = x := i32_toInt h
section HR2
variable {tb : List ExceptionTableEntry → Prop} {w : Wd} {g : Gs} {KK : (Nat → Prop) → State → Prop} {ws : va_W} {X : Cx} {cc : ByteArray} {own : String} {nL d mc ms : Nat} {k n : Nat} {M : Mem} {pc : Nat} {lv lv' : List (Nat × Value)} {st : List Value}
theorem h_i2n (C : OkH tb w X cc own nL d mc ms) {a : Int} (hd : decode cc pc = .ok (.i2l, 1)) (kk : E w X k n M (pc + 1) lv (vL (nz a) :: st)) : E w X k n M pc lv (vI a :: st) := by
  rw [← nz_v a]
  exact h_i2l C (nz_r a) hd kk
theorem h_icmp_same (C : OkH tb w X cc own nL d mc ms) {a b : Int} {off : Int} (tgt : Nat) (e : a = b) (hd : decode cc pc = .ok (.if_icmp .eq off, 3)) (ht : (pc : Int) + off = (tgt : Int)) (kk : E w X k n M tgt lv st) : E w X k n M pc lv (vI b :: vI a :: st) := by
  subst e
  rw [← nz_v a]
  exact h_icmp_eq C tgt (nz_r a) (nz_r a) hd ht (fun _ => kk) (fun h => absurd rfl h)
theorem h_lcmp_same (C : OkH tb w X cc own nL d mc ms) {a b : Int} (e : i64 a = i64 b) (hd : decode cc pc = .ok (.lcmp, 1)) (kk : E w X k n M (pc + 1) lv (vI 0 :: st)) : E w X k n M pc lv (vL b :: vL a :: st) := by
  have ea : vL a = vL (i64 a).toInt := by show Value.long (i64 a) = Value.long (i64 (i64 a).toInt); rw [i64_of]
  have eb : vL b = vL (i64 a).toInt := by show Value.long (i64 b) = Value.long (i64 (i64 a).toInt); rw [i64_of, e]
  rw [ea, eb]
  refine h_lcmp C (r64_toInt _) (r64_toInt _) hd ?_
  have e0 : cmpL (i64 a).toInt (i64 a).toInt = 0 := by unfold cmpL; rw [if_neg (Int.lt_irrefl _), if_pos rfl]
  rw [e0]
  exact kk
theorem at_lg {D : va_G} {cl : List vw_C} {H : Heap} {a N : Nat} {cA : ClassId} {f f' : Nat → Int64} (h : ∀ i, i < N → f i = f' i) (hq : va_at D cl (a, .inl (cA, N, .inr (.inl f))) H) : va_at D cl (a, .inl (cA, N, .inr (.inl f'))) H := by
  have e : arrV cA N (fun j => .long (f j)) = arrV cA N (fun j => .long (f' j)) := arrV_cg (fun i hi => by rw [h i hi])
  show H[a]? = some (arrV cA N (fun j => .long (f' j)))
  rw [← e]
  exact hq
/-- the law's row of one long is written -/
theorem h_last {a q0 : Nat} {f : Nat → Int64} {x : Int} (C : OkH tb (wV g KK ws) X cc own nL d mc ms) (he : ws[q0]? = some (a, .inl (g.2.2.1, 1, .inr (.inl f)))) (hd : decode cc pc = .ok (.lastore, 1)) (kk : E (wV g KK (ws.set q0 (a, .inl (g.2.2.1, 1, .inr (.inl (fun _ => i64 x)))))) X k n M (pc + 1) lv st) : E (wV g KK ws) X k n M pc lv (vL x :: vI 0 :: .ref a :: st) := by
  have k2 : E (wV g KK (ws.set q0 (a, .inl (g.2.2.1, 1, .inr (.inl (vp_updL f 0 (i64 x))))))) X k n M (pc + 1) lv st := by
    refine e_cell (q0 := q0) (a := a) (c' := .inl (g.2.2.1, 1, .inr (.inl (fun _ => i64 x)))) (List.getElem?_set_self (List.getElem?_eq_some_iff.mp he).1) (fun D cl H hq => at_lg (fun i hi => by
      have : i = 0 := by omega
      subst this
      exact if_pos rfl) hq) ?_
    rw [List.set_set]
    exact kk
  obtain ⟨p, l, e, R, s, m, args, below, meth, c, A, Q, nL9⟩ := X
  obtain ⟨hx, hb, hml, hown, hts, hA, hK, hKK, hmv, rfl, hfr, hlo, hmc, hms, hlk, htb⟩ := C
  intro hw H locs ls hP hD hS hl
  exact va_last (i := i32 0) hx hb hK hP hD hS q0 1 he rfl (vp_in_i (n := 1) (by decide)) hd (fun H1 locs1 hP1 hD1 hS1 => k2 trivial H1 locs1 ls hP1 hD1 hS1 hl)
theorem okH_ws {w w' : Wd} (h1 : w.1 = w'.1) (h2 : w.2.1 = w'.2.1) (h3 : w.2.2.2.2 = w'.2.2.2.2) (C : OkH tb w X cc own nL d mc ms) : OkH tb w' X cc own nL d mc ms := by
  obtain ⟨p, l, e, R, s, m, args, below, meth, c, A, Q, nL9⟩ := X
  obtain ⟨hx, hb, hml, hown, hts, hA, hK, hKK, hmv, e9, hfr, hlo, hmc, hms, hlk2, htb⟩ := C
  refine ⟨hx, hb, hml, hown, hts, hA, ?_, ?_, ?_, e9, hfr, hlo, hmc, hms, hlk2, htb⟩
  · rw [← h1, ← h2]; exact hK
  · rw [← h3]; exact hKK
  · unfold KMv at hmv ⊢
    rw [← h3]; exact hmv
theorem h_iret {v : Int} {PQ : Option Value → Mem → Prop} {PX : String → Mem → Prop} (C : OkH tb w X cc own nL d mc ms) (Y : OkR w X (some .int) mc ms PQ PX) (hk : k ≤ mc) (hn : n ≤ ms) (hd : decode cc pc = .ok (.ireturn, 1)) (hq : PQ (some (vI v)) M) : E w X k n M pc lv [vI v] := by
  obtain ⟨p, l, e, R, s, m, args, below, meth, c, A, Q, nL9⟩ := X
  obtain ⟨hx, hb, hml, hown, hts, hA, hK, hKK, hmv, rfl, hfr, hlo, hmc, hms, hlk, htb⟩ := C
  obtain ⟨rfl, hr, -⟩ := Y
  intro hw H locs ls hP hD hS hl
  exact W.widen hk hn (vx_ret (W.iret hx hb hr (fun t ht hW => ⟨_, M, rfl, hq, hw, by rw [ht]; exact hP, hD, hS.F ht⟩) hS.2.2 hd))
end HR2
/-! ===== methods with handlers ===== -/
def ncL : List (String × String) := [(eIA, eIO), (eIS, eIO), (eIS, eIA)]
def KH (sk : (Nat → Nat) × (Nat → Nat)) (A : Nat → Prop) (s : State) : Prop := KI sk A s ∧ ∀ q ∈ ncL, va_Nc q.1 q.2 s
theorem kH_mv (g : Gs) {sk : (Nat → Nat) × (Nat → Nat)} {w : Wd} (hw : w.2.2.2.2 = KH sk) : KMv w := by
  unfold KMv
  rw [hw]
  intro A A' s U h hW hsub hq
  exact ⟨⟨wC_mv g (fun _ => 0) sk A A' s U h.1.1 hW hsub hq, va_AO.moved hW.alike h.1.2.1, over_moved hW.alike h.1.2.2⟩, fun q h9 => va_Nc.moved hW.alike (h.2 q h9)⟩
def CtH (w : Wd) (l : Launch) (y : MethodName) (cc : ByteArray) (nL : Nat) (ret : Option FieldType) (hh : List (Nat × Nat × Nat × Nat)) (d mc ms : Nat) (av : List Value) (M : Mem) (PQ : Option Value → Mem → Prop) : Prop :=
  w.2.2.2.1 M → KMv w → ∀ sz : Nat, vx_Met l y (.codeWith y cc nL ret hh :: gT) (rmD d mc ms) (PcW w M av sz) (QcW w (va_A (w.2.2.1 M) sz) PQ) (XcW w (va_A (w.2.2.1 M) sz) NoX) mc ms (va_A (w.2.2.1 M) sz)
theorem ct_ofH {w : Wd} {l : Launch} {y : MethodName} {cc : ByteArray} {nL : Nat} {ret : Option FieldType} {hh : List (Nat × Nat × Nat × Nat)} {d mc ms : Nat} {av : List Value} {M : Mem} {PQ : Option Value → Mem → Prop}
    (hl : l.stackTraces = false) (hy : plainName y.cls = true) (hav : (lg_sl av).length ≤ nL) (body : ∀ X : Cx, lnc X = l → OkH (fun t => t = tableOf hh) w X cc y.cls nL d mc ms → OkR w X ret mc ms PQ NoX → E w X 0 0 M 0 (lv_args 0 av) []) : CtH w l y cc nL ret hh d mc ms av M PQ := by
  intro hwf hmv sz
  refine vx_ofWH (cc := cc) (maxL := nL) (ret := ret) (hh := hh) hy rfl ?_
  intro p e s m args below meth c s₁ B hml hv
  obtain ⟨rfl, hsz, hP, hD, hK, hKK⟩ := hv
  subst hsz
  have hts := atoms_spec (ws := Jvm.Cond.codeWith y cc nL ret hh :: gT) B.pre
  have hA : ∀ q : Nat, s.heap.size ≤ q → va_A (w.2.2.1 M) s.heap.size q := fun q h => Or.inr h
  have htb := vx_table (x := y) B (hts _ List.mem_cons_self)
  have hE := body (p, l, e, (headSpec (Jvm.Cond.codeWith y cc nL ret hh :: gT) (rmD d mc ms)).room, s, m, av.toArray, below, meth, c, va_A (w.2.2.1 M) s.heap.size, vx_MQ below (QcW w (va_A (w.2.2.1 M) s.heap.size) PQ) (XcW w (va_A (w.2.2.1 M) s.heap.size) NoX) av.toArray s mc ms (va_A (w.2.2.1 M) s.heap.size), nL) rfl
    ⟨B.exec, B.bytes, hml, findClass_of_methodNamed B.named, fun v hv => hts v (List.mem_cons_of_mem _ hv), hA, hK, hKK, hmv, rfl, Nat.le_refl _, Nat.le_refl _, Nat.le_refl _, Nat.le_refl _, B.notSynchronized, htb⟩ ⟨rfl, B.returns, hl⟩
  rw [lg_entry_eq]
  exact hE hwf s.heap [] _ hP (wd_self hD) va_S.rf (lv_entry av hav)
/-- which handler takes it -/
def CatchAt (hh : List (Nat × Nat × Nat × Nat)) (pc : Nat) (Ec : String) (hp : Nat) : Prop := ∃ (pre : List ExceptionTableEntry) (x : ExceptionTableEntry) (suf : List ExceptionTableEntry), tableOf hh = pre ++ x :: suf ∧ (∀ z ∈ pre, z.catchType ≠ 0 ∧ ∃ nm, Cond.classLink RL z.catchType nm ∈ gT ∧ (Ec, nm) ∈ ncL) ∧ covers x pc = true ∧ x.catchType ≠ 0 ∧ Cond.classLink RL x.catchType Ec ∈ gT ∧ Ec ∈ excX ∧ x.handlerPc = hp
section HC
variable {hh : List (Nat × Nat × Nat × Nat)} {g : Gs} {sk : (Nat → Nat) × (Nat → Nat)} {X : Cx} {cc cc' : ByteArray} {own : String} {nL d mc ms nL' d' mc' ms' : Nat} {k n : Nat} {M M9 : Mem} {pc : Nat} {lv : List (Nat × Value)} {st As rest : List Value} {PQ' : Option Value → Mem → Prop} {PX' : String → Mem → Prop} {y : MethodName} {ret' : Option FieldType} {ix : Nat} {ws ws0 : va_W}
theorem h_catch {w : Wd} (C : OkH (fun t => t = tableOf hh) (wV g (KH sk) ws0) X cc RL nL d mc ms)
    (kk : ∀ Ec M1 q, PX' Ec M1 → w.2.2.2.1 M1 → ∃ hp, CatchAt hh pc Ec hp ∧ E (wV g (KH sk) (ws ++ w.2.2.1 M1)) X k n M9 hp lv [.ref q]) :
    match X with
      | (p, l, e, R, s, m, args, below, meth, c, A, Q, nL9) => ∀ (Ec : String) (M1 : Mem) (H1 : Heap) (locs1 : List Loc) (ls : Array Slot) (q : Addr) (ce : Cell), PX' Ec M1 → w.2.2.2.1 M1 → va_P g.1 vwCl (ws ++ w.2.2.1 M1) H1 → va_D A (ws ++ w.2.2.1 M1) → va_S A s.heap H1 locs1 → lv_has ls nL9 lv → H1[q]? = some ce → ce.vm = .none → s.vm.findClass Ec = some ce.cls → vx_W p l e R s m args below meth c H1 locs1 k n Q (F0 m pc ls rest) q := by
  obtain ⟨p, l, e, R, s, m, args, below, meth, c, A, Q, nL9⟩ := X
  obtain ⟨hx, hb, hml, hown, hts, hA, hK, hKK, hmv, rfl, hfr, hlo, hmc, hms, hlk2, htb⟩ := C
  intro Ec M1 H1 locs1 ls q ce hPX hwf hP1 hD1 hS1 hl hce hcv hcl
  obtain ⟨hp, ⟨pre, x, suf, e1, e2, e3, e4, e5, e6, e7⟩, kE⟩ := kk Ec M1 q hPX hwf
  subst e7
  refine vx_catch (own := RL) (name := Ec) hown pre x suf (htb.trans e1) (fun z hz => ?_) e3 e4 (hts _ e5) (va_Nw.use rfl (hKK.1.1.2.2.1 Ec e6)) hce hcv hcl (kE trivial H1 locs1 ls hP1 hD1 hS1 hl)
  obtain ⟨z0, nm, z1, z2⟩ := e2 z hz
  exact Or.inr ⟨z0, nm, hts _ z1, hKK.2 _ z2⟩
/-- what the tables say of a method with handlers -/
def MIH (y : MethodName) (cc : ByteArray) (nL : Nat) (ret : Option FieldType) (hh : List (Nat × Nat × Nat × Nat)) (np : Nat) : Prop := (Cond.codeWith y cc nL ret hh ∈ gT ∧ Cond.initialized y.cls ∈ gT) ∧ (y.cls ≠ "java/lang/invoke/MethodHandle" ∧ y.cls ≠ "java/lang/invoke/VarHandle" ∧ (parseMethodDescriptor y.desc).map (fun d => d.parameters.length) = some np) ∧ nL ≤ 100 ∧ plainName y.cls = true ∧ Cond.static y ∈ gT
theorem v_callH {tb : List ExceptionTableEntry → Prop} {KK : (Nat → Prop) → State → Prop} {w : Wd} (C : OkH tb (wV g KK (ws ++ w.2.2.1 M)) X cc own nL d mc ms) (h1 : w.1 = g.1) (h2 : w.2.1 = tysG g) (hKw : ∀ A s, KK A s → w.2.2.2.2 A s) (hmw : KMv w) (hwf : w.2.2.2.1 M) (I : MIH y cc' nL' ret' hh As.length) (hlk : Cond.methodLink own ix y ∈ gT)
    (hC : CtH w (lnc X) y cc' nL' ret' hh d' mc' ms' As M PQ') (hdd : d' < d) (hr8 : (rest.map fun v => v.category).sum ≤ 8) (hkc : k + mc' ≤ mc) (hns : n + ms' ≤ ms)
    (hd : decode cc pc = .ok (.invokestatic ix, 3)) (hs0 : st = As.reverse ++ rest)
    (kret : ∀ v M1, PQ' v M1 → w.2.2.2.1 M1 → E (wV g KK (ws ++ w.2.2.1 M1)) X (k + mc') (n + ms') M9 (pc + 3) lv (v.toList ++ rest)) : E (wV g KK (ws ++ w.2.2.1 M)) X k n M9 pc lv st := by
  subst hs0
  obtain ⟨p, l, e, R, s, m, args, below, meth, c, A, Q, nL9⟩ := X
  obtain ⟨hx, hb, hml, hown, hts, hA, hK, hKK, hmv, rfl, hfr, hlo, hmc, hms, hlk2, htb⟩ := C
  obtain ⟨⟨hcode, hini⟩, hdy, hnl, -, hsta⟩ := I
  intro hw H locs ls hP hD hS hl
  have hP9 : va_P w.1 vwCl (ws ++ w.2.2.1 M) H := by rw [h1]; exact hP
  have hDc : va_D A (w.2.2.1 M) := by
    refine va_D.of ?_ (fun q hq => hD.mem q (List.mem_append_right _ hq))
    have := hD.nd
    rw [List.map_append, List.nodup_append] at this
    exact this.2.1
  have hPc : va_P w.1 vwCl (w.2.2.1 M) H := va_P.mem hP9 (fun q hq => List.mem_append_right _ hq)
  have hKw9 : va_K w.1 vwCl w.2.1 s := by rw [h1, h2]; exact hK
  have hM := hC hwf hmw H.size
  have hG : GoodIn gT (va_wsS own ix y (.codeWith y cc' nL' ret' hh :: gT)) := by
    intro v hv
    have hm : v ∈ gT := by
      unfold va_wsS at hv
      rcases List.mem_append.mp hv with h | h
      · simp only [List.mem_cons, List.not_mem_nil, or_false] at h
        rcases h with rfl | rfl | rfl
        · exact hlk
        · exact hsta
        · exact hini
      · exact (List.mem_cons.mp h).elim (fun q => q ▸ hcode) id
    exact ⟨hm, good_of_word (gT_good hm)⟩
  have hrun := vx_runSX (g := F0 m pc ls (As.reverse ++ rest)) (locs := locs) (cells := k) (slots := n) (below := below) (meth := meth) (e := e) (rest := rest) (Ts := gT) (own := own) (R := R) (hh := hh) ⟨hx, hb, hml, hown, hts⟩ hM
    (vx_cwSW (ret := ret') (bytes := cc') (maxL := nL') As.length hts hG rfl rfl rfl hdy ⟨by show 16 * d' + 1 ≤ R.frames; omega, by show 8 + (nL' + 11) + 200 * d' ≤ R.locals; omega⟩)
    (H := H) ⟨pc_blind hmw, fun U hU hW => ct_pre hmw hPc hDc hS hA hKw9 (hKw A s hKK) hU hW⟩ rfl rfl hl.1 rfl (lv_room hr8) hd ⟨by omega, by omega⟩
  exact e_runA (wr := ws) (w := w) hrun hP9 hD hS hA (fun v M1 H1 locs1 hq hw1 hP1 hD1 hS1 => kret v M1 hq hw1 trivial H1 locs1 ls (by rw [← h1]; exact hP1) hD1 hS1 hl) (fun Ec M1 H1 locs1 q ce h9 => absurd h9 id)
end HC
