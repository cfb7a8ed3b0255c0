abbrev hasB (s i : Int) : Prop := landL (lushrL s i) 1 ≠ 0
def sgnS (s : Int) : Int := if s = 0 then 1 else -1
theorem sgnS_r (s : Int) : R32 (sgnS s) := by unfold sgnS; split <;> decide
def halvI (x : Int) : Int := if x % 8 = 0 then 3 else if x % 4 = 0 then 2 else if x % 2 = 0 then 1 else 0
theorem halvI_r (s : Int) : R32 (halvI s) := by unfold halvI; repeat (first | decide | split)
def optAt (M : Mem) (z s i : Int) : Int := if 0 ≤ i ∧ i < M 41 (40 * s + z) then M 42 (40 * (4 * s + i) + z) else -1
theorem optAt_r {ad : Nat → Nat} {M : Mem} (h : RMx ad M) (z s i : Int) : R32 (optAt M z s i) := by
  unfold optAt
  split
  · exact h.2.1 42 _ rfl
  · decide
abbrev geN (M : Mem) (z x : Int) : Prop := x < M 43 (40 + z) ∨ (x = M 43 (40 + z) ∧ M 44 (40 + z) ≠ 0)
abbrev leN (M : Mem) (z x : Int) : Prop := M 43 z < x ∨ (x = M 43 z ∧ M 44 z ≠ 0)
abbrev goodA (M : Mem) (s a b : Int) : Prop := (s = 0 ∧ hasB (M 5 a) b) ∨ (s ≠ 0 ∧ hasB (M 5 b) a)
theorem max_r {a b : Int} (ha : R32 a) (hb : R32 b) : R32 (max a b) := by
  rcases Int.le_total a b with h | h
  · rw [Int.max_eq_right h]; exact hb
  · rw [Int.max_eq_left h]; exact ha
theorem scC_l (b : Int) : jcX (scC b) = false := by unfold scC; split <;> rfl
theorem lnC_l (b : Int) : jcX (lnC b) = false := by unfold lnC; split <;> rfl
theorem cmpL_0 {a b : Int} : cmpL a b = 0 ↔ a = b := by
  unfold cmpL
  split
  · constructor
    · intro h; cases h
    · intro h; omega
  · split
    · exact ⟨fun _ => by assumption, fun _ => rfl⟩
    · constructor
      · intro h; cases h
      · intro h; omega
theorem tmod0 {x : Int} (k : Int) : x.tmod k = 0 ↔ x % k = 0 := by
  rw [← Int.dvd_iff_tmod_eq_zero, Int.dvd_iff_emod_eq_zero]
/-- a method that throws cls and changes nothing -/
def Th (w : Wd) (y : MethodName) (cc : ByteArray) (nL : Nat) (ret : Option FieldType) (d : Nat) (av : List Value) (M : Mem) (cls : String) : Prop := ∀ l : Launch, l.stackTraces = false → Ct w l y cc nL ret d 1 6 av M (fun _ _ => False) (fun Ec M1 => Ec = cls ∧ M1 = M)
section TH
variable {w : Wd} {X : Cx} {cc cc' : ByteArray} {own : String} {nL d mc ms nL' d' : Nat} {k n : Nat} {M : Mem} {pc : Nat} {lv lv' : List (Nat × Value)} {st As rest : List Value} {PQ : Option Value → Mem → Prop} {PX : String → Mem → Prop} {y : MethodName} {ret ret' : Option FieldType} {ix : Nat} {cls : String}
theorem e_callVT {b q0 ci N : Nat} {Cn : String} {T : u_T} {fs : List Value} (C : OkB w X cc own nL d mc ms) (Y : OkR w X ret mc ms PQ PX) (I : MI y cc' nL' ret' As.length) (hin : Cond.instanceMethod y ∈ gT) (hse : Cond.selects Cn y y ∈ gT) (hlk : Cond.methodLink own ix y ∈ gT)
    (hC : Th w y cc' nL' ret' d' (.ref b :: As) M cls) (he : (w.2.2.1 M)[q0]? = some (b, .inr (ci, fs))) (hc : vwCl[ci]? = some (Cn, T, N)) (hdd : d' < d) (hr8 : (rest.map fun v => v.category).sum ≤ 8) (hk : k + 1 ≤ mc) (hn : n + 6 ≤ ms)
    (hd : decode cc pc = .ok (.invokevirtual ix, 3)) (hs0 : st = As.reverse ++ .ref b :: rest) (hx : PX cls M) : E w X k n M pc lv st := by
  refine e_callV C Y I hin hse hlk (hC (lnc X) ?_) he hc hdd hr8 hk hn hd hs0 (fun v M1 h => absurd h id) (fun Ec M1 h => ?_)
  · obtain ⟨p, l, e, R, s, m, args, below, meth, c, A, Q, nL9⟩ := X
    exact Y.2.2
  · obtain ⟨rfl, rfl⟩ := h
    exact hx
theorem e_callST (C : OkB w X cc own nL d mc ms) (Y : OkR w X ret mc ms PQ PX) (I : MI y cc' nL' ret' As.length) (hin : Cond.static y ∈ gT) (hlk : Cond.methodLink own ix y ∈ gT)
    (hC : Th w y cc' nL' ret' d' As M cls) (hdd : d' < d) (hr8 : (rest.map fun v => v.category).sum ≤ 8) (hk : k + 1 ≤ mc) (hn : n + 6 ≤ ms)
    (hd : decode cc pc = .ok (.invokestatic ix, 3)) (hs0 : st = As.reverse ++ rest) (hx : PX cls M) : E w X k n M pc lv st := by
  refine e_callS C Y I hin hlk (hC (lnc X) ?_) hdd hr8 hk hn hd hs0 (fun v M1 h => absurd h id) (fun Ec M1 h => ?_)
  · obtain ⟨p, l, e, R, s, m, args, below, meth, c, A, Q, nL9⟩ := X
    exact Y.2.2
  · obtain ⟨rfl, rfl⟩ := h
    exact hx
end TH
theorem s_X9_bit {g : Gs} {ad : Nat → Nat} {sk : (Nat → Nat) × (Nat → Nat)} {M : Mem} {x0 : Int} (r0 : R32 x0)  : Sp (wC g ad sk) yX9_bit cX9_bit 1 (some .long) 1 [vI x0] M (some (vL (lshlL 1 x0))) M := by
  intro l hl
  refine ct_of hl mi_X9_bit.2.2.2 (Nat.le_of_ble_eq_true rfl) (fun X _ C Y => ?_)
  show E _ X 0 0 M 0 [(0, vI x0)] []
  refine e_wf (fun hw => ?_)
  refine B_X9_bit_0 r0 (Nat.zero_le _) (Nat.zero_le _) C Y ?_
  exact dt_r
theorem s_X9_contains {g : Gs} {ad : Nat → Nat} {sk : (Nat → Nat) × (Nat → Nat)} {M : Mem} {x0 x2 : Int} (r0 : R64 x0) (r2 : R32 x2)  : Sp (wC g ad sk) yX9_contains cX9_contains 3 (some .boolean) 1 [vL x0, vI x2] M (some (vI (b2i (hasB x0 x2)))) M := by
  intro l hl
  refine ct_of hl mi_X9_contains.2.2.2 (Nat.le_of_ble_eq_true rfl) (fun X _ C Y => ?_)
  show E _ X 0 0 M 0 [(0, vL x0), (2, vI x2)] []
  refine e_wf (fun hw => ?_)
  refine B_X9_contains_0 r0 r2 (Nat.zero_le _) (Nat.zero_le _) C Y ?_
  exact ⟨fun c => dt_nb (fun h => h (cmpL_0.mp c)), fun c => dt_b (fun h => c (cmpL_0.mpr h))⟩
theorem s_X9_signOf {g : Gs} {ad : Nat → Nat} {sk : (Nat → Nat) × (Nat → Nat)} {M : Mem} {x0 : Int} (r0 : R32 x0)  : Sp (wC g ad sk) yX9_signOf cX9_signOf 1 (some .int) 1 [vI x0] M (some (vI (sgnS x0))) M := by
  intro l hl
  refine ct_of hl mi_X9_signOf.2.2.2 (Nat.le_of_ble_eq_true rfl) (fun X _ C Y => ?_)
  show E _ X 0 0 M 0 [(0, vI x0)] []
  refine e_wf (fun hw => ?_)
  refine B_X9_signOf_0 r0 (Nat.zero_le _) (Nat.zero_le _) C Y ?_
  exact ⟨fun c => dt_i (by simp [sgnS, c]) rfl, fun c => dt_i (by simp [sgnS, c]) rfl⟩
theorem s_X9_halvings {g : Gs} {ad : Nat → Nat} {sk : (Nat → Nat) × (Nat → Nat)} {M : Mem} {x0 : Int} (r0 : R32 x0)  : Sp (wC g ad sk) yX9_halvings cX9_halvings 1 (some .int) 1 [vI x0] M (some (vI (halvI x0))) M := by
  intro l hl
  refine ct_of hl mi_X9_halvings.2.2.2 (Nat.le_of_ble_eq_true rfl) (fun X _ C Y => ?_)
  show E _ X 0 0 M 0 [(0, vI x0)] []
  refine e_wf (fun hw => ?_)
  refine B_X9_halvings_0 r0 (Nat.zero_le _) (Nat.zero_le _) C Y ?_
  have e8 := tmod0 (x := x0) 8
  have e4 := tmod0 (x := x0) 4
  have e2 := tmod0 (x := x0) 2
  unfold halvI
  refine ⟨fun c => ⟨fun c2 => ⟨fun c3 => dt_i ?_ rfl, fun c3 => dt_i ?_ rfl⟩, fun c2 => dt_i ?_ rfl⟩, fun c => dt_i ?_ rfl⟩
  · rw [if_neg (fun h => c (e8.mpr h)), if_neg (fun h => c2 (e4.mpr h)), if_neg (fun h => c3 (e2.mpr h))]
  · rw [if_neg (fun h => c (e8.mpr h)), if_neg (fun h => c2 (e4.mpr h)), if_pos (e2.mp c3)]
  · rw [if_neg (fun h => c (e8.mpr h)), if_pos (e4.mp c2)]
  · rw [if_pos (e8.mp c)]
theorem s_X2_optionAt {g : Gs} {ad : Nat → Nat} {sk : (Nat → Nat) × (Nat → Nat)} {M : Mem} {x0 x1 x2 : Int} (r0 : 0 ≤ x0 ∧ x0 < 40) (r1 : R32 x1) (r2 : R32 x2) (h : (0 ≤ x1 ∧ x1 ≤ 1) ∧ M 41 (40 * x1 + x0) ≤ 4) : Sp (wC g ad sk) yX2_optionAt cX2_optionAt 3 (some .int) 1 [.ref (ad (44 + 6 * Int.toNat x0)), vI x1, vI x2] M (some (vI (optAt M x0 x1 x2))) M := by
  intro l hl
  refine ct_of hl mi_X2_optionAt.2.2.2 (Nat.le_of_ble_eq_true rfl) (fun X _ C Y => ?_)
  show E _ X 0 0 M 0 [(0, .ref (ad (44 + 6 * Int.toNat x0))), (1, vI x1), (2, vI x2)] []
  refine e_wf (fun hw => ?_)
  refine B_X2_optionAt_0 r0 r1 r2 (Nat.zero_le _) (Nat.zero_le _) C Y ?_
  refine ⟨fun c => dt_i ?_ rfl, fun c => ⟨by omega, fun c2 => dt_i ?_ rfl, fun c2 => ⟨by omega, dt_i ?_ rfl⟩⟩⟩
  · rw [optAt, if_neg (by omega)]
  · rw [optAt, if_neg (by omega)]
  · rw [optAt, if_pos (by omega), Int.mul_comm x1 4]
theorem s_X2_isAtLeastNumber {g : Gs} {ad : Nat → Nat} {sk : (Nat → Nat) × (Nat → Nat)} {M : Mem} {x0 x1 : Int} (r0 : 0 ≤ x0 ∧ x0 < 40) (r1 : R32 x1)  : Sp (wC g ad sk) yX2_isAtLeastNumber cX2_isAtLeastNumber 2 (some .boolean) 1 [.ref (ad (44 + 6 * Int.toNat x0)), vI x1] M (some (vI (b2i (geN M x0 x1)))) M := by
  intro l hl
  refine ct_of hl mi_X2_isAtLeastNumber.2.2.2 (Nat.le_of_ble_eq_true rfl) (fun X _ C Y => ?_)
  show E _ X 0 0 M 0 [(0, .ref (ad (44 + 6 * Int.toNat x0))), (1, vI x1)] []
  refine e_wf (fun hw => ?_)
  refine B_X2_isAtLeastNumber_0 r0 r1 (Nat.zero_le _) (Nat.zero_le _) C Y ?_
  exact ⟨fun c => dt_b (Or.inl c), fun c => ⟨fun c2 => dt_nb (fun h => h.elim (fun q => by simp only [Int.mul_one] at c; omega) (fun q => c2 q.1)), fun c2 => ⟨fun c3 => dt_nb (fun h => h.elim (fun q => by simp only [Int.mul_one] at c; omega) (fun q => q.2 c3)), fun c3 => dt_b (Or.inr ⟨c2, c3⟩)⟩⟩⟩
theorem s_X2_isAtMostNumber {g : Gs} {ad : Nat → Nat} {sk : (Nat → Nat) × (Nat → Nat)} {M : Mem} {x0 x1 : Int} (r0 : 0 ≤ x0 ∧ x0 < 40) (r1 : R32 x1)  : Sp (wC g ad sk) yX2_isAtMostNumber cX2_isAtMostNumber 2 (some .boolean) 1 [.ref (ad (44 + 6 * Int.toNat x0)), vI x1] M (some (vI (b2i (leN M x0 x1)))) M := by
  intro l hl
  refine ct_of hl mi_X2_isAtMostNumber.2.2.2 (Nat.le_of_ble_eq_true rfl) (fun X _ C Y => ?_)
  show E _ X 0 0 M 0 [(0, .ref (ad (44 + 6 * Int.toNat x0))), (1, vI x1)] []
  refine e_wf (fun hw => ?_)
  refine B_X2_isAtMostNumber_0 r0 r1 (Nat.zero_le _) (Nat.zero_le _) C Y ?_
  simp only [Int.mul_zero, Int.zero_add]
  exact ⟨fun c => dt_b (Or.inl c), fun c => ⟨fun c2 => dt_nb (fun h => h.elim (fun q => by omega) (fun q => c2 q.1)), fun c2 => ⟨fun c3 => dt_nb (fun h => h.elim (fun q => by omega) (fun q => q.2 c3)), fun c3 => dt_b (Or.inr ⟨c2, c3⟩)⟩⟩⟩
theorem s_X5_isAtLeast {g : Gs} {ad : Nat → Nat} {sk : (Nat → Nat) × (Nat → Nat)} {M : Mem} {x1 x2 : Int} (r1 : R32 x1) (r2 : R32 x2) (h : 0 ≤ x1 ∧ x1 < 40) : Sp (wC g ad sk) yX5_isAtLeast cX5_isAtLeast 3 (some .boolean) 1 [.ref (ad 1), vI x1, vI x2] M (some (vI (b2i (hasB (M 5 x1) x2)))) M := by
  intro l hl
  refine ct_of hl mi_X5_isAtLeast.2.2.2 (Nat.le_of_ble_eq_true rfl) (fun X _ C Y => ?_)
  show E _ X 0 0 M 0 [(0, .ref (ad 1)), (1, vI x1), (2, vI x2)] []
  refine e_wf (fun hw => ?_)
  refine B_X5_isAtLeast_0 r1 r2 (Nat.zero_le _) (Nat.zero_le _) C Y ?_
  exact ⟨h, fun c => dt_nb (fun h => h (cmpL_0.mp c)), fun c => dt_b (fun h => c (cmpL_0.mpr h))⟩
theorem s_X5_sweptWall {g : Gs} {ad : Nat → Nat} {sk : (Nat → Nat) × (Nat → Nat)} {M : Mem} {x1 x2 : Int} (r1 : R32 x1) (r2 : R32 x2) (h : (0 ≤ x1 ∧ x1 < 40) ∧ 0 ≤ x2 ∧ x2 ≤ 1) : Sp (wC g ad sk) yX5_sweptWall cX5_sweptWall 3 (some .int) 1 [.ref (ad 1), vI x1, vI x2] M (some (vI (M 6 (2 * x1 + x2)))) M := by
  intro l hl
  refine ct_of hl mi_X5_sweptWall.2.2.2 (Nat.le_of_ble_eq_true rfl) (fun X _ C Y => ?_)
  show E _ X 0 0 M 0 [(0, .ref (ad 1)), (1, vI x1), (2, vI x2)] []
  refine e_wf (fun hw => ?_)
  refine B_X5_sweptWall_0 r1 r2 (Nat.zero_le _) (Nat.zero_le _) C Y ?_
  exact ⟨by omega, dt_r⟩
theorem s_X5_isAsGood {g : Gs} {ad : Nat → Nat} {sk : (Nat → Nat) × (Nat → Nat)} {M : Mem} {x1 x2 x3 : Int} (r1 : R32 x1) (r2 : R32 x2) (r3 : R32 x3) (h : (0 ≤ x2 ∧ x2 < 40) ∧ 0 ≤ x3 ∧ x3 < 40) : Sp (wC g ad sk) yX5_isAsGood cX5_isAsGood 4 (some .boolean) 2 [.ref (ad 1), vI x1, vI x2, vI x3] M (some (vI (b2i (goodA M x1 x2 x3)))) M := by
  intro l hl
  refine ct_of hl mi_X5_isAsGood.2.2.2 (Nat.le_of_ble_eq_true rfl) (fun X _ C Y => ?_)
  show E _ X 0 0 M 0 [(0, .ref (ad 1)), (1, vI x1), (2, vI x2), (3, vI x3)] []
  refine e_wf (fun hw => ?_)
  refine B_X5_isAsGood_0 r1 r2 r3 (Nat.zero_le _) (Nat.zero_le _) C Y ?_
  refine ⟨fun c => ⟨_, (s_X5_isAtLeast r3 r2 (by omega)).toI, fun z M9 h9 => ?_⟩, fun c => ⟨_, (s_X5_isAtLeast r2 r3 (by omega)).toI, fun z M9 h9 => ?_⟩⟩
  · obtain ⟨rfl, rfl⟩ := h9
    refine ⟨b2i_01 _, dt_i ?_ rfl⟩
    unfold b2i
    have e : goodA M x1 x2 x3 ↔ hasB (M 5 x3) x2 := ⟨fun h => h.elim (fun q => absurd q.1 c) (fun q => q.2), fun h => Or.inr ⟨c, h⟩⟩
    simp only [e]
  · obtain ⟨rfl, rfl⟩ := h9
    refine ⟨b2i_01 _, dt_i ?_ rfl⟩
    unfold b2i
    have e : goodA M x1 x2 x3 ↔ hasB (M 5 x2) x3 := ⟨fun h => h.elim (fun q => q.2) (fun q => absurd c q.1), fun h => Or.inl ⟨c, h⟩⟩
    simp only [e]
theorem e_max {w : Wd} {X : Cx} {cc : ByteArray} {own : String} {nL d mc ms k n ix : Nat} {M : Mem} {pc : Nat} {lv : List (Nat × Value)} {st : List Value} {a b : Int} (C : OkB w X cc own nL d mc ms) (ra : R32 a) (rb : R32 b) (hlk : Cond.methodLink own ix Lib.Math.max.name ∈ gT) (hd1 : 1 ≤ d) (hr8 : (st.map fun v => v.category).sum ≤ 8) (hk : k ≤ mc) (hn : n ≤ ms) (hd : decode cc pc = .ok (.invokestatic ix, 3)) (kk : E w X k n M (pc + 3) lv (vI (max a b) :: st)) : E w X k n M pc lv (vI b :: vI a :: st) := by
  obtain ⟨p, l, e, R, s, m, args, below, meth, c, A, Q, nL9⟩ := X
  obtain ⟨hx, hb, hml, hown, hts, hA, hK, hKK, hmv, rfl, hfr, hlo, hmc, hms, hlk2, htb⟩ := C
  intro hw H locs ls hP hD hS hl
  refine va_mmax hx hb (by rw [hml]; exact hl.1.symm) hown (hts _ hlk) (hts _ (tg2 145 rfl rfl)) (hts _ (tg1 12 rfl rfl)) (hts _ (tg2 146 rfl rfl)) (by omega) (by omega) (by omega) (by omega) hd ?_
  have h9 := kk hw H locs ls hP hD hS hl
  have e9 : (if i32 a < i32 b then i32 b else i32 a) = i32 (max a b) := by
    by_cases h : a < b
    · rw [if_pos ((i32_lt ra rb).mpr h), Int.max_eq_right (by omega)]
    · rw [if_neg (fun q => h ((i32_lt ra rb).mp q)), Int.max_eq_left (by omega)]
  rw [e9]
  exact h9
theorem s_X9_requireGame {g : Gs} {ad : Nat → Nat} {sk : (Nat → Nat) × (Nat → Nat)} {M : Mem} {x1 : Int} (r1 : R32 x1) (h : 0 ≤ x1 ∧ x1 < M 4 0) : Sp (wC g ad sk) yX9_requireGame cX9_requireGame 2 none 1 [.ref (ad 0), vI x1] M none M := by
  intro l hl
  refine ct_of hl mi_X9_requireGame.2.2.2 (Nat.le_of_ble_eq_true rfl) (fun X _ C Y => ?_)
  show E _ X 0 0 M 0 [(0, .ref (ad 0)), (1, vI x1)] []
  refine e_wf (fun hw => ?_)
  refine B_X9_requireGame_0 r1 (Nat.zero_le _) (Nat.zero_le _) C Y ?_
  exact ⟨fun c => absurd c (by omega), fun c => ⟨fun c2 => dt_r, fun c2 => absurd c2 (by omega)⟩⟩
theorem t_X9_requireGame {g : Gs} {ad : Nat → Nat} {sk : (Nat → Nat) × (Nat → Nat)} {M : Mem} {x1 : Int} (r1 : R32 x1) (h : ¬ (0 ≤ x1 ∧ x1 < M 4 0)) : Th (wC g ad sk) yX9_requireGame cX9_requireGame 2 none 1 [.ref (ad 0), vI x1] M "java/lang/IndexOutOfBoundsException" := by
  intro l hl
  refine ct_of hl mi_X9_requireGame.2.2.2 (Nat.le_of_ble_eq_true rfl) (fun X _ C Y => ?_)
  show E _ X 0 0 M 0 [(0, .ref (ad 0)), (1, vI x1)] []
  refine e_wf (fun hw => ?_)
  refine B_X9_requireGame_0 r1 (Nat.zero_le _) (Nat.zero_le _) C Y ?_
  exact ⟨fun c => ⟨⟨by omega, by omega⟩, rfl, rfl⟩, fun c => ⟨fun c2 => absurd c2 (by omega), fun c2 => ⟨⟨by omega, by omega⟩, rfl, rfl⟩⟩⟩
theorem s_X9_requireComponent {g : Gs} {ad : Nat → Nat} {sk : (Nat → Nat) × (Nat → Nat)} {M : Mem} {x1 : Int} (r1 : R32 x1) (h : 0 ≤ x1 ∧ x1 < M 11 0) : Sp (wC g ad sk) yX9_requireComponent cX9_requireComponent 2 none 1 [.ref (ad 0), vI x1] M none M := by
  intro l hl
  refine ct_of hl mi_X9_requireComponent.2.2.2 (Nat.le_of_ble_eq_true rfl) (fun X _ C Y => ?_)
  show E _ X 0 0 M 0 [(0, .ref (ad 0)), (1, vI x1)] []
  refine e_wf (fun hw => ?_)
  refine B_X9_requireComponent_0 r1 (Nat.zero_le _) (Nat.zero_le _) C Y ?_
  exact ⟨fun c => absurd c (by omega), fun c => ⟨fun c2 => dt_r, fun c2 => absurd c2 (by omega)⟩⟩
theorem t_X9_requireComponent {g : Gs} {ad : Nat → Nat} {sk : (Nat → Nat) × (Nat → Nat)} {M : Mem} {x1 : Int} (r1 : R32 x1) (h : ¬ (0 ≤ x1 ∧ x1 < M 11 0)) : Th (wC g ad sk) yX9_requireComponent cX9_requireComponent 2 none 1 [.ref (ad 0), vI x1] M "java/lang/IndexOutOfBoundsException" := by
  intro l hl
  refine ct_of hl mi_X9_requireComponent.2.2.2 (Nat.le_of_ble_eq_true rfl) (fun X _ C Y => ?_)
  show E _ X 0 0 M 0 [(0, .ref (ad 0)), (1, vI x1)] []
  refine e_wf (fun hw => ?_)
  refine B_X9_requireComponent_0 r1 (Nat.zero_le _) (Nat.zero_le _) C Y ?_
  exact ⟨fun c => ⟨⟨by omega, by omega⟩, rfl, rfl⟩, fun c => ⟨fun c2 => absurd c2 (by omega), fun c2 => ⟨⟨by omega, by omega⟩, rfl, rfl⟩⟩⟩
theorem s_X9_requireSide {g : Gs} {ad : Nat → Nat} {sk : (Nat → Nat) × (Nat → Nat)} {M : Mem} {x0 : Int} (r0 : R32 x0) (h : x0 = 0 ∨ x0 = 1) : Sp (wC g ad sk) yX9_requireSide cX9_requireSide 1 none 1 [vI x0] M none M := by
  intro l hl
  refine ct_of hl mi_X9_requireSide.2.2.2 (Nat.le_of_ble_eq_true rfl) (fun X _ C Y => ?_)
  show E _ X 0 0 M 0 [(0, vI x0)] []
  refine e_wf (fun hw => ?_)
  refine B_X9_requireSide_0 r0 (Nat.zero_le _) (Nat.zero_le _) C Y ?_
  exact ⟨fun c => dt_r, fun c => ⟨fun c2 => dt_r, fun c2 => absurd c2 (by omega)⟩⟩
theorem t_X9_requireSide {g : Gs} {ad : Nat → Nat} {sk : (Nat → Nat) × (Nat → Nat)} {M : Mem} {x0 : Int} (r0 : R32 x0) (h : ¬ (x0 = 0 ∨ x0 = 1)) : Th (wC g ad sk) yX9_requireSide cX9_requireSide 1 none 1 [vI x0] M "java/lang/IllegalArgumentException" := by
  intro l hl
  refine ct_of hl mi_X9_requireSide.2.2.2 (Nat.le_of_ble_eq_true rfl) (fun X _ C Y => ?_)
  show E _ X 0 0 M 0 [(0, vI x0)] []
  refine e_wf (fun hw => ?_)
  refine B_X9_requireSide_0 r0 (Nat.zero_le _) (Nat.zero_le _) C Y ?_
  exact ⟨fun c => absurd c (by omega), fun c => ⟨fun c2 => absurd c2 (by omega), fun c2 => ⟨⟨by omega, by omega⟩, rfl, rfl⟩⟩⟩
theorem s_X9_requireStrategy {g : Gs} {ad : Nat → Nat} {sk : (Nat → Nat) × (Nat → Nat)} {M : Mem} {x0 : Int} (r0 : R32 x0) (h : 0 ≤ x0 ∧ x0 ≤ 3) : Sp (wC g ad sk) yX9_requireStrategy cX9_requireStrategy 1 none 1 [vI x0] M none M := by
  intro l hl
  refine ct_of hl mi_X9_requireStrategy.2.2.2 (Nat.le_of_ble_eq_true rfl) (fun X _ C Y => ?_)
  show E _ X 0 0 M 0 [(0, vI x0)] []
  refine e_wf (fun hw => ?_)
  refine B_X9_requireStrategy_0 r0 (Nat.zero_le _) (Nat.zero_le _) C Y ?_
  exact ⟨fun c => absurd c (by omega), fun c => ⟨fun c2 => dt_r, fun c2 => absurd c2 (by omega)⟩⟩
theorem t_X9_requireStrategy {g : Gs} {ad : Nat → Nat} {sk : (Nat → Nat) × (Nat → Nat)} {M : Mem} {x0 : Int} (r0 : R32 x0) (h : ¬ (0 ≤ x0 ∧ x0 ≤ 3)) : Th (wC g ad sk) yX9_requireStrategy cX9_requireStrategy 1 none 1 [vI x0] M "java/lang/IllegalArgumentException" := by
  intro l hl
  refine ct_of hl mi_X9_requireStrategy.2.2.2 (Nat.le_of_ble_eq_true rfl) (fun X _ C Y => ?_)
  show E _ X 0 0 M 0 [(0, vI x0)] []
  refine e_wf (fun hw => ?_)
  refine B_X9_requireStrategy_0 r0 (Nat.zero_le _) (Nat.zero_le _) C Y ?_
  exact ⟨fun c => ⟨⟨by omega, by omega⟩, rfl, rfl⟩, fun c => ⟨fun c2 => absurd c2 (by omega), fun c2 => ⟨⟨by omega, by omega⟩, rfl, rfl⟩⟩⟩
