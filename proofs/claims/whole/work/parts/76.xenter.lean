/-! ===== the class: isReached, enter, depthAbove ===== -/
/-- the class's word on a pair is the table's -/
abbrev BlX (N M : Mem) (a b : Int) : Prop := tb (M 5 a) b = true ↔ N 12 (40 * a + b) = 1
theorem ir_90 {g : Gs} {ad : Nat → Nat} {sk : (Nat → Nat) × (Nat → Nat)} {X : Cx} {PQ : Option Value → Mem → Prop} {PX : String → Mem → Prop} (C : OkB (wC g ad sk) X cX5_isReached RX5 6 2 0 0) (Y : OkR (wC g ad sk) X (some .boolean) 0 0 PQ PX) {N M : Mem} {a b : Int} (ha : 0 ≤ a ∧ a < 40) (hb : 0 ≤ b ∧ b < 40) (hr : RwX N M b) (hB : ∀ i, 0 ≤ i → i < N 3 (2 * b + 0) → BlX N M (opt N b 0 i) a) (h01 : ∀ i, 0 ≤ i → i < N 3 (2 * b + 0) → (N 12 (40 * opt N b 0 i + a) = 0 ∨ N 12 (40 * opt N b 0 i + a) = 1)) (k1 : (∀ i, 0 ≤ i → i < N 3 (2 * b + 0) → N 12 (40 * opt N b 0 i + a) = 0) → PQ (some (vI 1)) M) (k0 : ¬ (∀ i, 0 ≤ i → i < N 3 (2 * b + 0) → N 12 (40 * opt N b 0 i + a) = 0) → PQ (some (vI 0)) M) :
    ∀ (m j : Nat), (j : Int) + m = N 3 (2 * b + 0) → (∀ i, 0 ≤ i → i < (j : Int) → N 12 (40 * opt N b 0 i + a) = 0) → E (wC g ad sk) X 0 0 (M) 90 [(0, .ref (ad 1)), (1, vI (a)), (4, .ref (ad (44 + 6 * (Int.toNat b)))), (5, vI (j))] [] := by
  have hb0 := opS_r hr.1 (s := 0) (by omega)
  have c41 := (hr.2 0 (by omega) (by omega)).1
  intro m
  induction m with
  | zero =>
    intro j hj h
    exact B_X5_isReached_90 (by omega) (by omega) (by omega) (Nat.le_refl _) (Nat.le_refl _) C Y ⟨fun c => k1 (fun i i1 i2 => h i i1 (by omega)), fun c => absurd c (by omega)⟩
  | succ m ih =>
    intro j hj h
    have eo := rw_opt hr (s := 0) (i := j) (by omega) (by omega)
    have ob := hb0.2.2 j (by omega) (by omega)
    have bl := hB j (by omega) (by omega)
    have q01 := h01 j (by omega) (by omega)
    refine B_X5_isReached_90 (by omega) (by omega) (by omega) (Nat.le_refl _) (Nat.le_refl _) C Y ⟨fun c => absurd c (by omega), fun c => ⟨by rw [eo]; omega, fun c1 => ⟨by omega, ?_⟩, fun c1 => ?_⟩⟩
    · refine ih (j + 1) (by omega) (fun i i1 i2 => ?_)
      by_cases e : i = j
      · subst e
        rw [eo, has_tb (by omega)] at c1
        have : ¬ (N 12 (40 * opt N b 0 j + a) = 1) := fun q => c1 (bl.mpr q)
        omega
      · exact h i i1 (by omega)
    · rw [eo, has_tb (by omega)] at c1
      refine k0 (fun q => ?_)
      have := q j (by omega) (by omega)
      have := bl.mp c1
      omega
theorem ir_53 {g : Gs} {ad : Nat → Nat} {sk : (Nat → Nat) × (Nat → Nat)} {X : Cx} {PQ : Option Value → Mem → Prop} {PX : String → Mem → Prop} (C : OkB (wC g ad sk) X cX5_isReached RX5 6 2 0 0) (Y : OkR (wC g ad sk) X (some .boolean) 0 0 PQ PX) {N M : Mem} {a b : Int} (ha : 0 ≤ a ∧ a < 40) (hb : 0 ≤ b ∧ b < 40) (hra : RwX N M a) (hr : RwX N M b) (hA : ∀ i, 0 ≤ i → i < N 3 (2 * a + 1) → BlX N M b (opt N a 1 i)) (h02 : ∀ i, 0 ≤ i → i < N 3 (2 * a + 1) → (N 12 (40 * b + opt N a 1 i) = 0 ∨ N 12 (40 * b + opt N a 1 i) = 1)) (hB : ∀ i, 0 ≤ i → i < N 3 (2 * b + 0) → BlX N M (opt N b 0 i) a) (h01 : ∀ i, 0 ≤ i → i < N 3 (2 * b + 0) → (N 12 (40 * opt N b 0 i + a) = 0 ∨ N 12 (40 * opt N b 0 i + a) = 1)) (k1 : (∀ i, 0 ≤ i → i < N 3 (2 * a + 1) → N 12 (40 * b + opt N a 1 i) = 0) → (∀ i, 0 ≤ i → i < N 3 (2 * b + 0) → N 12 (40 * opt N b 0 i + a) = 0) → PQ (some (vI 1)) M) (k0 : ¬ ((∀ i, 0 ≤ i → i < N 3 (2 * a + 1) → N 12 (40 * b + opt N a 1 i) = 0) ∧ (∀ i, 0 ≤ i → i < N 3 (2 * b + 0) → N 12 (40 * opt N b 0 i + a) = 0)) → PQ (some (vI 0)) M) :
    ∀ (m j : Nat), (j : Int) + m = N 3 (2 * a + 1) → (∀ i, 0 ≤ i → i < (j : Int) → N 12 (40 * b + opt N a 1 i) = 0) → E (wC g ad sk) X 0 0 (M) 53 [(0, .ref (ad 1)), (1, vI (a)), (2, vI (b)), (3, .ref (ad (44 + 6 * (Int.toNat a)))), (4, .ref (ad (44 + 6 * (Int.toNat b)))), (5, vI (j))] [] := by
  have ha1 := opS_r hra.1 (s := 1) (by omega)
  have hb0 := opS_r hr.1 (s := 0) (by omega)
  have c41 := (hra.2 1 (by omega) (by omega)).1
  intro m
  induction m with
  | zero =>
    intro j hj h
    have h' : ∀ i, 0 ≤ i → i < N 3 (2 * a + 1) → N 12 (40 * b + opt N a 1 i) = 0 := fun i i1 i2 => h i i1 (by omega)
    refine B_X5_isReached_53 (by omega) (by omega) (by omega) (by omega) (by omega) (Nat.le_refl _) (Nat.le_refl _) C Y ⟨fun c => ?_, fun c => absurd c (by omega)⟩
    exact ir_90 C Y ha hb hr hB h01 (k1 h') (fun q => k0 (fun w => q w.2)) (N 3 (2 * b + 0)).toNat 0 (by omega) (fun i i1 i2 => absurd i2 (by omega))
  | succ m ih =>
    intro j hj h
    have eo := rw_opt hra (s := 1) (i := j) (by omega) (by omega)
    have ob := ha1.2.2 j (by omega) (by omega)
    have bl := hA j (by omega) (by omega)
    have q01 := h02 j (by omega) (by omega)
    refine B_X5_isReached_53 (by omega) (by omega) (by omega) (by omega) (by omega) (Nat.le_refl _) (Nat.le_refl _) C Y ⟨fun c => absurd c (by omega), fun c => ⟨by omega, fun c1 => ⟨by omega, ?_⟩, fun c1 => ?_⟩⟩
    · refine ih (j + 1) (by omega) (fun i i1 i2 => ?_)
      by_cases e : i = j
      · subst e
        rw [eo, has_tb (by omega)] at c1
        have : ¬ (N 12 (40 * b + opt N a 1 j) = 1) := fun q => c1 (bl.mpr q)
        omega
      · exact h i i1 (by omega)
    · rw [eo, has_tb (by omega)] at c1
      refine k0 (fun q => ?_)
      have := q.1 j (by omega) (by omega)
      have := bl.mp c1
      omega
theorem gd_ord {n : Int} {G : Mem} (h : Good n G) : ∀ z, 0 ≤ z → z < n → Ord G z := fun z z1 z2 => (h.2.2 z z1 z2).2.1
theorem x_isReached {g : Gs} {ad : Nat → Nat} {sk : (Nat → Nat) × (Nat → Nat)} {N M : Mem} {n a b : Int} (hN : Good n N) (ha : 0 ≤ a ∧ a < n) (hb : 0 ≤ b ∧ b < n) (ra : RepG N M a) (rb : RepG N M b) (hA : ∀ i, 0 ≤ i → i < N 3 (2 * a + 1) → BlX N M b (opt N a 1 i)) (hB : ∀ i, 0 ≤ i → i < N 3 (2 * b + 0) → BlX N M (opt N b 0 i) a) : SpI (wC g ad sk) yX5_isReached cX5_isReached 6 (some .boolean) 2 [.ref (ad 1), vI (a), vI (b)] (M) (fun r P => P = M ∧ (r = 0 ∨ r = 1) ∧ (r = 1 ↔ N 12 (40 * a + b) = 1)) := by
  intro l9 hl9
  refine ct_of hl9 mi_X5_isReached.2.2.2 (Nat.le_of_ble_eq_true rfl) (fun X _ C Y => ?_)
  show E (wC g ad sk) X 0 0 (M) 0 [(0, .ref (ad 1)), (1, vI (a)), (2, vI (b))] []
  refine e_wf (fun hw => ?_)
  have hO := gd_ord hN
  have h40 := hN.2.1
  obtain ⟨oa, oca⟩ := (hN.2.2 a ha.1 ha.2)
  obtain ⟨ob, ocb⟩ := (hN.2.2 b hb.1 hb.2)
  have wa := repG_rw oa.1 ra
  have wb := repG_rw ob.1 rb
  have e49a := ra.2.1.2.2.1
  have e49b := rb.2.1.2.2.1
  have ca : N 6 a = 0 ∨ N 6 a = 1 := oca.1.2.1.1
  have cb : N 6 b = 0 ∨ N 6 b = 1 := ocb.1.2.1.1
  have oi1 := (opS_r oa.1 (s := 1) (by omega)).2.2
  have oi0 := (opS_r ob.1 (s := 0) (by omega)).2.2
  refine B_X5_isReached_0 (by omega) (by omega) (Nat.le_refl _) (Nat.le_refl _) C Y ⟨by omega, fun c => ⟨fun c1 => ?_, fun c1 => ?_⟩, fun c => ?_⟩
  · have na : N 1 a = 0 := by
      rcases Classical.em (N 1 a = 0) with q | q
      · exact q
      · have := (oca.1.2.1.2.1 q).1; omega
    have nb : N 1 b = 0 := by
      rcases Classical.em (N 1 b = 0) with q | q
      · exact q
      · have := (ocb.1.2.1.2.1 q).1; omega
    have al := (or_al hO ha hb).2
    refine ir_53 C Y ⟨ha.1, by omega⟩ ⟨hb.1, by omega⟩ wa wb hA (fun i i1 i2 => (or_al hO hb ⟨(oi1 i i1 i2).1, by have := (oi1 i i1 i2).2; omega⟩).1) hB (fun i i1 i2 => (or_al hO ⟨(oi0 i i1 i2).1, by have := (oi0 i i1 i2).2; omega⟩ ha).1) (fun p q => ⟨_, rfl, rfl, Or.inr rfl, fun _ => ?_, fun _ => rfl⟩) (fun p => ⟨_, rfl, rfl, Or.inl rfl, fun q => absurd q (by decide), fun q => ?_⟩) (N 3 (2 * a + 1)).toNat 0 (by have := (opS_r oa.1 (s := 1) (by omega)).1; omega) (fun i i1 i2 => absurd i2 (by omega))
    · exact al.mpr (Or.inr (Or.inr ⟨nb, na, p, q⟩))
    · exfalso
      apply p
      rcases al.mp q with ⟨w, -⟩ | ⟨-, w, -⟩ | ⟨-, -, w⟩
      · exact absurd nb w
      · exact absurd na w
      · exact w
  · have c6 : N 6 a = 1 := by omega
    refine ⟨_, rfl, rfl, b2i_01 _, ?_⟩
    rw [b2i_1, show N 12 (40 * a + b) = 1 ↔ AL N a b from Iff.rfl, al_cold2 hO ha hb c6]
    have m := (oca.2.1 c6).1
    unfold leN leM
    have s1 := rb.2.2.2.1.1
    have s2 := rb.2.2.2.1.2.2.1
    rw [show (40 * 0 + b : Int) = b by omega] at s1 s2
    rw [s1, s2, ra.2.1.2.2.2.1, m]
  · have c6 : N 6 b = 1 := by omega
    refine ⟨_, rfl, rfl, b2i_01 _, ?_⟩
    rw [b2i_1, show N 12 (40 * a + b) = 1 ↔ AL N a b from Iff.rfl, al_cold hO ha hb c6]
    have m := (ocb.2.1 c6).1
    unfold geN geM
    have s1 := ra.2.2.2.1.2.1
    have s2 := ra.2.2.2.1.2.2.2
    rw [show (40 * 1 + a : Int) = 40 + a by omega] at s1 s2
    rw [s1, s2, rb.2.1.2.2.2.1, m]
