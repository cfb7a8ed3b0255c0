/-! ===== undo, whole ===== -/
theorem mu_67 {g : Gs} {ad : Nat → Nat} {X : Cx} {PQ : Option Value → Mem → Prop} {PX : String → Mem → Prop} (C : OkB (wM g ad) X cX10_undo RX10 4 2 0 0) (Y : OkR (wM g ad) X (some .int) 0 0 PQ PX) {T : Mem} (h18 : 0 ≤ T 18 0 ∧ T 18 0 ≤ 5) (kk : ∀ N, (∀ c i, c ≠ 17 → N c i = T c i) → (∀ j, 0 ≤ j → j < 4 → N 17 j = T 19 (6 * T 18 0 + 2 + j)) → E (wM g ad) X 0 0 (N) 102 [(0, .ref (ad 0)), (1, vI (0))] []) : ∀ (m : Nat) (k : Int), 0 ≤ k → k + m = 4 → ∀ N, (∀ c i, c ≠ 17 → N c i = T c i) → (∀ j, 0 ≤ j → j < k → N 17 j = T 19 (6 * T 18 0 + 2 + j)) → E (wM g ad) X 0 0 (N) 67 [(0, .ref (ad 0)), (1, vI (k))] [] := by
  intro m
  induction m with
  | zero =>
    intro k k1 k2 N f h
    exact B_X10_undo_67 (by omega) (Nat.zero_le _) (Nat.zero_le _) C Y ⟨fun c => kk N f (fun j j1 j2 => h j j1 (by omega)), fun c => absurd c (by omega)⟩
  | succ m ih =>
    intro k k1 k2 N f h
    have e18 := f 18 0 (by decide)
    refine B_X10_undo_67 (by omega) (Nat.zero_le _) (Nat.zero_le _) C Y ⟨fun c => absurd c (by omega), fun c => ⟨⟨by omega, by omega, by omega, by omega, by omega, by omega⟩, ?_⟩⟩
    rw [e18, f 19 _ (by decide)]
    refine ih (k + 1) (by omega) (by omega) _ (fun c i q => by rw [up_c q]; exact f c i q) (fun j j1 j2 => ?_)
    by_cases e : j = k
    · subst e; rw [up_s]
    · rw [up_i e]; exact h j j1 (by omega)
theorem m_undo {g : Gs} {ad : Nat → Nat} {A M : Mem} (h : Jn A M) : SpI (wM g ad) yX10_undo cX10_undo 4 (some .int) 2 [.ref (ad 0)] (M) (fun r N => UnR M (N 20 0) r N) := by
  intro l9 hl9
  refine ct_of hl9 mi_X10_undo.2.2.2 (Nat.le_of_ble_eq_true rfl) (fun X _ C Y => ?_)
  show E (wM g ad) X 0 0 (M) 0 [(0, .ref (ad 0))] []
  refine e_wf (fun hw => ?_)
  have hn := h.n
  have hp := h.2.2.1
  have p18 := hp.1
  obtain ⟨d0, d1⟩ := h.2.2.2.1
  refine B_X10_undo_0  (Nat.zero_le _) (Nat.zero_le _) C Y ⟨fun c => ?_, fun c => ?_⟩
  · refine B_X10_undo_13 (by omega) (Nat.zero_le _) (Nat.zero_le _) C Y ⟨fun _ => ⟨⟨by omega, by omega, by omega, by omega, by omega⟩, ?_⟩, fun q => absurd q (by decide)⟩
    have f1 : ∀ c i, (c ≠ 0 ∨ i ≠ 0) → c ≠ 16 → c ≠ 18 → c ≠ 20 → (up (up (up (up M 20 0 0) 18 0 (M 18 0 - 1)) 0 0 (M 19 (6 * (M 18 0 - 1)))) 16 0 (M 19 (6 * (M 18 0 - 1) + 1))) c i = M c i := by
      intro c i q0 q1 q2 q3
      rw [up_c q1, up_n q0, up_c q2, up_c q3]
    have e18 : (up (up (up (up M 20 0 0) 18 0 (M 18 0 - 1)) 0 0 (M 19 (6 * (M 18 0 - 1)))) 16 0 (M 19 (6 * (M 18 0 - 1) + 1))) 18 0 = M 18 0 - 1 := by rw [up_c (by decide), up_c (by decide), up_s]
    have e0 : (up (up (up (up M 20 0 0) 18 0 (M 18 0 - 1)) 0 0 (M 19 (6 * (M 18 0 - 1)))) 16 0 (M 19 (6 * (M 18 0 - 1) + 1))) 0 0 = M 19 (6 * (M 18 0 - 1)) := by rw [up_c (by decide), up_s]
    have e16 : (up (up (up (up M 20 0 0) 18 0 (M 18 0 - 1)) 0 0 (M 19 (6 * (M 18 0 - 1)))) 16 0 (M 19 (6 * (M 18 0 - 1) + 1))) 16 0 = M 19 (6 * (M 18 0 - 1) + 1) := up_s _ _ _ _
    have e20 : (up (up (up (up M 20 0 0) 18 0 (M 18 0 - 1)) 0 0 (M 19 (6 * (M 18 0 - 1)))) 16 0 (M 19 (6 * (M 18 0 - 1) + 1))) 20 0 = 0 := by rw [up_c (by decide), up_c (by decide), up_c (by decide), up_s]
    revert f1 e18 e0 e16 e20
    generalize (up (up (up (up M 20 0 0) 18 0 (M 18 0 - 1)) 0 0 (M 19 (6 * (M 18 0 - 1)))) 16 0 (M 19 (6 * (M 18 0 - 1) + 1))) = T
    intro f1 e18 e0 e16 e20
    refine mu_67 C Y (T := T) (by omega) (fun T1 g1 g2 => ?_) 4 0 (by omega) (by omega) T (fun _ _ _ => rfl) (fun j j1 j2 => absurd j2 (by omega))
    have d0' := d0.2.2
    have d1' := d1.2.2
    have rng : ∀ (s : Int), DrfJ A M s → ∀ i, 0 ≤ i → i < M 21 s → R32 (M 22 (4 * s + i)) := fun s d i i1 i2 => by have := d.2.2.2.1 i i1 i2; omega
    have t22 : ∀ i, T1 22 i = M 22 i := fun i => (g1 22 i (by decide)).trans (f1 22 i (by omega) (by decide) (by decide) (by decide))
    have t21 : ∀ i, T1 21 i = M 21 i := fun i => (g1 21 i (by decide)).trans (f1 21 i (by omega) (by decide) (by decide) (by decide))
    refine B_X10_undo_102 (by omega) (Nat.zero_le _) (Nat.zero_le _) C Y ⟨fun q => absurd q (by decide), fun _ => ?_⟩
    refine mu_111 C Y (M := M) (T := T1) (s := 0) (v := M 19 (6 * (M 18 0 - 1))) (Or.inl rfl) d0.2.1 ((g1 0 0 (by decide)).trans e0) (t21 0) (rng 0 d0) d0.2.2.1 (fun N1 l1 q1 => ?_) (M 21 0).toNat 0 0 (by omega) (by have := d0.2.1; omega) T1 ⟨fun _ _ _ => rfl, by omega, fun i j i1 i2 i3 => absurd i3 (by omega), fun x => ⟨fun ⟨i, i1, i2, _⟩ => by omega, fun ⟨⟨i, i1, i2, _⟩, _⟩ => by omega⟩, fun i _ _ => t22 _⟩
    obtain ⟨a1, a2, a3, a4, a5⟩ := q1
    refine B_X10_undo_102 (by omega) (Nat.zero_le _) (Nat.zero_le _) C Y ⟨fun q => absurd q (by decide), fun _ => ?_⟩
    have n22 : ∀ i, 4 ≤ i → i < 8 → up N1 21 0 l1 22 i = M 22 i := fun i i1 i2 => by rw [up_c (by decide), a1 22 i (by omega)]; exact t22 i
    refine mu_111 C Y (M := M) (T := up N1 21 0 l1) (s := 1) (v := M 19 (6 * (M 18 0 - 1))) (Or.inr rfl) d1.2.1 (by rw [up_c (by decide), a1 0 0 (by omega), g1 0 0 (by decide)]; exact e0) (by rw [up_i (by decide), a1 21 1 (by omega)]; exact t21 1) (rng 1 d1) d1.2.2.1 (fun N2 l2 q2 => ?_) (M 21 1).toNat 0 0 (by omega) (by have := d1.2.1; omega) (up N1 21 0 l1) ⟨fun _ _ _ => rfl, by omega, fun i j i1 i2 i3 => absurd i3 (by omega), fun x => ⟨fun ⟨i, i1, i2, _⟩ => by omega, fun ⟨⟨i, i1, i2, _⟩, _⟩ => by omega⟩, fun i i1 i2 => n22 _ (by omega) (by omega)⟩
    obtain ⟨b1, b2, b3, b4, b5⟩ := q2
    have fin : ∀ c i, c ≠ 21 → c ≠ 22 → up N2 21 1 l2 c i = T1 c i := fun c i h1 h2 => by rw [up_c h1, b1 c i (by omega), up_c h1, a1 c i (by omega)]
    have n20 : up N2 21 1 l2 20 0 = 0 := (fin 20 0 (by decide) (by decide)).trans ((g1 20 0 (by decide)).trans e20)
    have n18 : up N2 21 1 l2 18 0 = M 18 0 - 1 := (fin 18 0 (by decide) (by decide)).trans ((g1 18 0 (by decide)).trans e18)
    have n0 : up N2 21 1 l2 0 0 = M 19 (6 * (M 18 0 - 1)) := (fin 0 0 (by decide) (by decide)).trans ((g1 0 0 (by decide)).trans e0)
    have m0 := d0.2.1
    have m1 := d1.2.1
    refine B_X10_undo_102 (by omega) (Nat.zero_le _) (Nat.zero_le _) C Y ⟨fun _ => ⟨_, rfl, Or.inr ⟨c, n20, n18, n18, n0, (fin 16 0 (by decide) (by decide)).trans ((g1 16 0 (by decide)).trans e16), fun j j1 j2 => ?_, ?_, ?_, fun c i q0 q1 q2 q3 q4 q5 q6 => ?_⟩⟩, fun q => absurd q (by decide)⟩
    · rw [fin 17 j (by decide) (by decide), g2 j j1 j2, e18, f1 19 _ (by omega) (by decide) (by decide) (by decide)]
    · have z21 : up N2 21 1 l2 21 0 = l1 := by rw [up_i (by decide), b1 21 0 (by omega), up_s]
      have z22 : ∀ i, 0 ≤ i → i < 4 → up N2 21 1 l2 22 (4 * 0 + i) = N1 22 (4 * 0 + i) := fun i i1 i2 => by rw [up_c (by decide), b1 22 _ (by omega), up_c (by decide)]
      unfold DrU
      rw [z21, n0]
      refine ⟨by omega, fun i j i1 i2 i3 => by rw [z22 i i1 (by omega), z22 j (by omega) (by omega)]; exact a3 i j i1 i2 i3, fun x => ?_⟩
      rw [← a4 x]
      exact ⟨fun ⟨i, i1, i2, i3⟩ => ⟨i, i1, i2, by rw [← z22 i i1 (by omega)]; exact i3⟩, fun ⟨i, i1, i2, i3⟩ => ⟨i, i1, i2, by rw [z22 i i1 (by omega)]; exact i3⟩⟩
    · have z21 : up N2 21 1 l2 21 1 = l2 := up_s _ _ _ _
      have z22 : ∀ i, up N2 21 1 l2 22 i = N2 22 i := fun i => up_c (by decide)
      unfold DrU
      rw [z21, n0]
      refine ⟨by omega, fun i j i1 i2 i3 => by rw [z22, z22]; exact b3 i j i1 i2 i3, fun x => ?_⟩
      rw [← b4 x]
      exact ⟨fun ⟨i, i1, i2, i3⟩ => ⟨i, i1, i2, by rw [← z22]; exact i3⟩, fun ⟨i, i1, i2, i3⟩ => ⟨i, i1, i2, by rw [z22]; exact i3⟩⟩
    · rw [fin c i q5 q6, g1 c i q2]; exact f1 c i q0 q1 q3 q4
  · exact B_X10_undo_13 (by omega) (Nat.zero_le _) (Nat.zero_le _) C Y ⟨fun q => absurd (by decide) q, fun _ => ⟨_, rfl, Or.inl ⟨c, up_s _ _ _ _, rfl⟩⟩⟩
theorem xr_39 {g : Gs} {ad : Nat → Nat} {sk : (Nat → Nat) × (Nat → Nat)} {X : Cx} {PQ : Option Value → Mem → Prop} {PX : String → Mem → Prop} (C : OkB (wC g ad sk) X cX3_restore RX3 4 1 0 0) (Y : OkR (wC g ad sk) X (some .int) 0 0 PQ PX) {T : Mem} {p : Int} (hp : 0 ≤ p ∧ p ≤ 5) (kk : ∀ N, (∀ c i, c ≠ 10 → N c i = T c i) → (∀ j, 0 ≤ j → j < 4 → N 10 j = T 39 (6 * p + 2 + j)) → PQ (some (vI (T 39 (6 * p)))) N) : ∀ (m : Nat) (k : Int), 0 ≤ k → k + m = 4 → ∀ N, (∀ c i, c ≠ 10 → N c i = T c i) → (∀ j, 0 ≤ j → j < k → N 10 j = T 39 (6 * p + 2 + j)) → E (wC g ad sk) X 0 0 (N) 39 [(0, .ref (ad 8)), (1, .ref (ad 2)), (2, vI (6 * p)), (3, vI (k))] [] := by
  intro m
  induction m with
  | zero =>
    intro k k1 k2 N f h
    refine B_X3_restore_39 (by omega) (by omega) (Nat.zero_le _) (Nat.zero_le _) C Y ⟨fun c => ⟨by omega, ?_⟩, fun c => absurd c (by omega)⟩
    rw [f 39 _ (by decide)]
    exact kk N f (fun j j1 j2 => h j j1 (by omega))
  | succ m ih =>
    intro k k1 k2 N f h
    refine B_X3_restore_39 (by omega) (by omega) (Nat.zero_le _) (Nat.zero_le _) C Y ⟨fun c => absurd c (by omega), fun c => ⟨by omega, ?_⟩⟩
    rw [f 39 _ (by decide)]
    refine ih (k + 1) (by omega) (by omega) _ (fun c i q => by rw [up_c q]; exact f c i q) (fun j j1 j2 => ?_)
    by_cases e : j = k
    · subst e; rw [up_s]
    · rw [up_i e]; exact h j j1 (by omega)
theorem x_restore {g : Gs} {ad : Nat → Nat} {sk : (Nat → Nat) × (Nat → Nat)} {A : Mem} (hp : 1 ≤ A 38 0 ∧ A 38 0 ≤ 6) : SpI (wC g ad sk) yX3_restore cX3_restore 4 (some .int) 1 [.ref (ad 8), .ref (ad 2)] (A) (fun r B => r = A 39 (6 * (A 38 0 - 1)) ∧ B 38 0 = A 38 0 - 1 ∧ B 11 0 = A 39 (6 * (A 38 0 - 1) + 1) ∧ (∀ j, 0 ≤ j → j < 4 → B 10 j = A 39 (6 * (A 38 0 - 1) + 2 + j)) ∧ ∀ c i, c ≠ 10 → c ≠ 11 → c ≠ 38 → B c i = A c i) := by
  intro l9 hl9
  refine ct_of hl9 mi_X3_restore.2.2.2 (Nat.le_of_ble_eq_true rfl) (fun X _ C Y => ?_)
  show E (wC g ad sk) X 0 0 (A) 0 [(0, .ref (ad 8)), (1, .ref (ad 2))] []
  refine e_wf (fun hw => ?_)
  refine B_X3_restore_0  (Nat.zero_le _) (Nat.zero_le _) C Y ⟨fun c => absurd c (by omega), fun c => ⟨by omega, ?_⟩⟩
  have e38 : up A 38 0 (A 38 0 - 1) 38 0 = A 38 0 - 1 := up_s _ _ _ _
  have e39 : ∀ i, up A 38 0 (A 38 0 - 1) 39 i = A 39 i := fun i => up_c (by decide)
  refine B_X3_restore_17  (Nat.zero_le _) (Nat.zero_le _) C Y ?_
  rw [e38, e39, show (A 38 0 - 1) * 6 = 6 * (A 38 0 - 1) by omega]
  refine ⟨by omega, ?_⟩
  refine xr_39 C Y (p := A 38 0 - 1) (by omega) (fun N f h => ⟨_, rfl, ?_, ?_, ?_, fun j j1 j2 => ?_, fun c i q1 q2 q3 => ?_⟩) 4 0 (by omega) (by omega) _ (fun _ _ _ => rfl) (fun j j1 j2 => absurd j2 (by omega))
  · rw [up_c (by decide), up_c (by decide)]
  · rw [f 38 0 (by decide), up_c (by decide), up_s]
  · rw [f 11 0 (by decide), up_s]
  · rw [h j j1 j2, up_c (by decide), up_c (by decide)]
  · rw [f c i q1, up_c q2, up_c q3]
theorem tb_mask {v x : Int} (hv : 0 ≤ v ∧ v < 62) (hx : 0 ≤ x ∧ x < 64) : tb (lshlL 1 v - 1) x = decide (x < v) := by
  obtain ⟨i, rfl⟩ := fin_of hx
  obtain ⟨j, rfl⟩ := fin_of (g := v) (by omega)
  revert i j
  decide +kernel
