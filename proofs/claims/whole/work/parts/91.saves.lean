/-! ===== a state is saved ===== -/
def svB (cc : Nat) (M : Mem) : Int := if M cc 0 = 6 then 5 else M cc 0
def svP (cc cr : Nat) (M : Mem) (i : Int) : Int := if M cc 0 = 6 ∧ i < 30 then M cr (i + 6) else M cr i
/-- N is M with a row saved: games v, the table -/
def SvR (cc cr ct cg : Nat) (M : Mem) (v : Int) (N : Mem) : Prop := (∀ c i, c ≠ cc → c ≠ cr → N c i = M c i) ∧ N cc 0 = svB cc M + 1 ∧ N cr (6 * svB cc M) = v ∧ N cr (6 * svB cc M + 1) = M ct 0 ∧ (∀ k, 0 ≤ k → k < 4 → N cr (6 * svB cc M + 2 + k) = M cg k) ∧ ∀ i, 0 ≤ i → i < 36 → (i < 6 * svB cc M ∨ 6 * svB cc M + 6 ≤ i) → N cr i = svP cc cr M i
theorem ms_81 {g : Gs} {ad : Nat → Nat} {X : Cx} {PQ : Option Value → Mem → Prop} {PX : String → Mem → Prop} (C : OkB (wM g ad) X cX10_saves RX10 3 1 0 0) (Y : OkR (wM g ad) X none 0 0 PQ PX) {M : Mem} {v : Int} (h18 : 0 ≤ M 18 0 ∧ M 18 0 ≤ 6) (kk : ∀ N, SvR 18 19 16 17 M v N → PQ none N) : ∀ (m : Nat) (j : Int), 0 ≤ j → j + m = 4 → ∀ N, (∀ c i, c ≠ 18 → c ≠ 19 → N c i = M c i) → N 18 0 = svB 18 M → N 19 (6 * svB 18 M) = v → N 19 (6 * svB 18 M + 1) = M 16 0 → (∀ k, 0 ≤ k → k < j → N 19 (6 * svB 18 M + 2 + k) = M 17 k) → (∀ i, 0 ≤ i → i < 36 → (i < 6 * svB 18 M ∨ 6 * svB 18 M + 6 ≤ i) → N 19 i = svP 18 19 M i) → E (wM g ad) X 0 0 (N) 81 [(0, .ref (ad 0)), (2, vI (j))] [] := by
  have hb : 0 ≤ svB 18 M ∧ svB 18 M ≤ 5 := by unfold svB; split <;> omega
  intro m
  induction m with
  | zero =>
    intro j j1 j2 N f h0 h1 h2 h3 h4
    refine B_X10_saves_81 (by omega) (Nat.zero_le _) (Nat.zero_le _) C Y ⟨fun c => ⟨by omega, kk _ ⟨fun c i k1 k2 => by rw [up_c k1]; exact f c i k1 k2, by rw [up_s]; omega, by rw [up_c (by decide)]; exact h1, by rw [up_c (by decide)]; exact h2, fun k k1 k2 => by rw [up_c (by decide)]; exact h3 k k1 (by omega), fun i i1 i2 i3 => by rw [up_c (by decide)]; exact h4 i i1 i2 i3⟩⟩, fun c => absurd c (by omega)⟩
  | succ m ih =>
    intro j j1 j2 N f h0 h1 h2 h3 h4
    refine B_X10_saves_81 (by omega) (Nat.zero_le _) (Nat.zero_le _) C Y ⟨fun c => absurd c (by omega), fun c => ⟨⟨by omega, by omega, by omega, by omega, by omega, by omega⟩, ?_⟩⟩
    rw [h0]
    refine ih (j + 1) (by omega) (by omega) _ (fun c i k1 k2 => by rw [up_c k2]; exact f c i k1 k2) (by rw [up_c (by decide)]; exact h0) (by rw [up_i (by omega)]; exact h1) (by rw [up_i (by omega)]; exact h2) (fun k k1 k2 => ?_) (fun i i1 i2 i3 => by rw [up_i (by omega)]; exact h4 i i1 i2 i3)
    by_cases e : k = j
    · subst e; rw [up_s]; exact f 17 k (by decide) (by decide)
    · rw [up_i (by omega)]; exact h3 k k1 (by omega)
theorem ms_11 {g : Gs} {ad : Nat → Nat} {X : Cx} {PQ : Option Value → Mem → Prop} {PX : String → Mem → Prop} (C : OkB (wM g ad) X cX10_saves RX10 3 1 0 0) (Y : OkR (wM g ad) X none 0 0 PQ PX) {M : Mem} {v : Int} (hv : R32 v) (kk : ∀ N, (∀ c i, c ≠ 18 → c ≠ 19 → N c i = M c i) → N 18 0 = M 18 0 - 1 → (∀ i, 0 ≤ i → i < 30 → N 19 i = M 19 (i + 6)) → (∀ i, 30 ≤ i → N 19 i = M 19 i) → E (wM g ad) X 0 0 (N) 48 [(0, .ref (ad 0)), (1, vI (v))] []) (h18 : M 18 0 = 6) : ∀ (m : Nat) (j : Int), 0 ≤ j → j + m = 30 → ∀ N, (∀ c i, c ≠ 19 → N c i = M c i) → (∀ i, 0 ≤ i → i < j → N 19 i = M 19 (i + 6)) → (∀ i, j ≤ i → N 19 i = M 19 i) → E (wM g ad) X 0 0 (N) 11 [(0, .ref (ad 0)), (1, vI (v)), (2, vI (j))] [] := by
  intro m
  induction m with
  | zero =>
    intro j j1 j2 N f h1 h2
    have e := f 18 0 (by decide)
    refine B_X10_saves_11 (by omega) (by omega) (Nat.zero_le _) (Nat.zero_le _) C Y ⟨fun c => ⟨by omega, kk _ (fun c i k1 k2 => by rw [up_c k1]; exact f c i k2) (by rw [up_s, e]) (fun i i1 i2 => by rw [up_c (by decide)]; exact h1 i i1 (by omega)) (fun i i1 => by rw [up_c (by decide)]; exact h2 i (by omega))⟩, fun c => absurd c (by omega)⟩
  | succ m ih =>
    intro j j1 j2 N f h1 h2
    refine B_X10_saves_11 (by omega) (by omega) (Nat.zero_le _) (Nat.zero_le _) C Y ⟨fun c => absurd c (by omega), fun c => ⟨⟨by omega, by omega, by omega, by omega⟩, ?_⟩⟩
    refine ih (j + 1) (by omega) (by omega) _ (fun c i k => by rw [up_c k]; exact f c i k) (fun i i1 i2 => ?_) (fun i i1 => by rw [up_i (by omega)]; exact h2 i (by omega))
    by_cases e : i = j
    · subst e; rw [up_s]; exact h2 _ (by omega)
    · rw [up_i e]; exact h1 i i1 (by omega)
theorem m_saves {g : Gs} {ad : Nat → Nat} {M : Mem} {v : Int} (hv : R32 v) (h18 : 0 ≤ M 18 0 ∧ M 18 0 ≤ 6) : SpV (wM g ad) yX10_saves cX10_saves 3 none 1 [.ref (ad 0), vI (v)] (M) (fun N => SvR 18 19 16 17 M v N) := by
  intro l9 hl9
  refine ct_of hl9 mi_X10_saves.2.2.2 (Nat.le_of_ble_eq_true rfl) (fun X _ C Y => ?_)
  show E (wM g ad) X 0 0 (M) 0 [(0, .ref (ad 0)), (1, vI (v))] []
  refine e_wf (fun hw => ?_)
  have go : ∀ N, (∀ c i, c ≠ 18 → c ≠ 19 → N c i = M c i) → N 18 0 = svB 18 M → (∀ i, 0 ≤ i → i < 36 → N 19 i = svP 18 19 M i) → E (wM g ad) X 0 0 (N) 48 [(0, .ref (ad 0)), (1, vI (v))] [] := by
    intro N f h0 h1
    have hb : 0 ≤ svB 18 M ∧ svB 18 M ≤ 5 := by unfold svB; split <;> omega
    refine B_X10_saves_48 (by omega) (Nat.zero_le _) (Nat.zero_le _) C Y ⟨⟨by omega, by omega, by omega, by omega⟩, ?_⟩
    rw [h0]
    refine ms_81 C Y h18 (fun N h => ⟨rfl, h⟩) 4 0 (by omega) (by omega) _ (fun c i k1 k2 => by rw [up_c k2, up_c k2]; exact f c i k1 k2) (by rw [up_c (by decide), up_c (by decide)]; exact h0) (by rw [up_i (by omega), up_s]) (by rw [up_s]; exact f 16 0 (by decide) (by decide)) (fun k k1 k2 => absurd k2 (by omega)) (fun i i1 i2 i3 => ?_)
    rw [up_i (by omega), up_i (by omega)]; exact h1 i i1 i2
  refine B_X10_saves_0 (by omega) (Nat.zero_le _) (Nat.zero_le _) C Y ⟨fun c => go M (fun _ _ _ _ => rfl) (by unfold svB; rw [if_neg c]) (fun i i1 i2 => by unfold svP; rw [if_neg (fun q => c q.1)]), fun c => ?_⟩
  refine ms_11 C Y hv (fun N f h0 h1 h2 => go N f (by rw [h0, c]; unfold svB; rw [if_pos c]; rfl) (fun i i1 i2 => ?_)) c 30 0 (by omega) (by omega) M (fun _ _ _ => rfl) (fun i i1 i2 => absurd i2 (by omega)) (fun _ _ => rfl)
  unfold svP
  by_cases q : i < 30
  · rw [if_pos ⟨c, q⟩]; exact h1 i i1 q
  · rw [if_neg (fun w => q w.2)]; exact h2 i (by omega)
theorem xs_65 {g : Gs} {ad : Nat → Nat} {sk : (Nat → Nat) × (Nat → Nat)} {X : Cx} {PQ : Option Value → Mem → Prop} {PX : String → Mem → Prop} (C : OkB (wC g ad sk) X cX3_save RX3 5 1 0 0) (Y : OkR (wC g ad sk) X none 0 0 PQ PX) {M : Mem} {v : Int} (h18 : 0 ≤ M 38 0 ∧ M 38 0 ≤ 6) (kk : ∀ N, SvR 38 39 11 10 M v N → PQ none N) : ∀ (m : Nat) (j : Int), 0 ≤ j → j + m = 4 → ∀ N, (∀ c i, c ≠ 38 → c ≠ 39 → N c i = M c i) → N 38 0 = svB 38 M → N 39 (6 * svB 38 M) = v → N 39 (6 * svB 38 M + 1) = M 11 0 → (∀ k, 0 ≤ k → k < j → N 39 (6 * svB 38 M + 2 + k) = M 10 k) → (∀ i, 0 ≤ i → i < 36 → (i < 6 * svB 38 M ∨ 6 * svB 38 M + 6 ≤ i) → N 39 i = svP 38 39 M i) → E (wC g ad sk) X 0 0 (N) 65 [(0, .ref (ad 8)), (2, .ref (ad 2)), (3, vI (6 * svB 38 M)), (4, vI (j))] [] := by
  have hb : 0 ≤ svB 38 M ∧ svB 38 M ≤ 5 := by unfold svB; split <;> omega
  intro m
  induction m with
  | zero =>
    intro j j1 j2 N f h0 h1 h2 h3 h4
    refine B_X3_save_65 (by omega) (by omega) (Nat.zero_le _) (Nat.zero_le _) C Y ⟨fun c => ⟨by omega, kk _ ⟨fun c i k1 k2 => by rw [up_c k1]; exact f c i k1 k2, by rw [up_s]; omega, by rw [up_c (by decide)]; exact h1, by rw [up_c (by decide)]; exact h2, fun k k1 k2 => by rw [up_c (by decide)]; exact h3 k k1 (by omega), fun i i1 i2 i3 => by rw [up_c (by decide)]; exact h4 i i1 i2 i3⟩⟩, fun c => absurd c (by omega)⟩
  | succ m ih =>
    intro j j1 j2 N f h0 h1 h2 h3 h4
    refine B_X3_save_65 (by omega) (by omega) (Nat.zero_le _) (Nat.zero_le _) C Y ⟨fun c => absurd c (by omega), fun c => ⟨⟨by omega, by omega, by omega, by omega, by omega⟩, ?_⟩⟩
    refine ih (j + 1) (by omega) (by omega) _ (fun c i k1 k2 => by rw [up_c k2]; exact f c i k1 k2) (by rw [up_c (by decide)]; exact h0) (by rw [up_i (by omega)]; exact h1) (by rw [up_i (by omega)]; exact h2) (fun k k1 k2 => ?_) (fun i i1 i2 i3 => by rw [up_i (by omega)]; exact h4 i i1 i2 i3)
    by_cases e : k = j
    · subst e; rw [up_s]; exact f 10 k (by decide) (by decide)
    · rw [up_i (by omega)]; exact h3 k k1 (by omega)
theorem x_save {g : Gs} {ad : Nat → Nat} {sk : (Nat → Nat) × (Nat → Nat)} {M : Mem} {v : Int} (hv : R32 v) (h18 : 0 ≤ M 38 0 ∧ M 38 0 ≤ 6) : SpV (wC g ad sk) yX3_save cX3_save 5 none 1 [.ref (ad 8), vI (v), .ref (ad 2)] (M) (fun N => SvR 38 39 11 10 M v N) := by
  intro l9 hl9
  refine ct_of hl9 mi_X3_save.2.2.2 (Nat.le_of_ble_eq_true rfl) (fun X _ C Y => ?_)
  show E (wC g ad sk) X 0 0 (M) 0 [(0, .ref (ad 8)), (1, vI (v)), (2, .ref (ad 2))] []
  refine e_wf (fun hw => ?_)
  have go : ∀ N, (∀ c i, c ≠ 38 → c ≠ 39 → N c i = M c i) → N 38 0 = svB 38 M → (∀ i, 0 ≤ i → i < 36 → N 39 i = svP 38 39 M i) → E (wC g ad sk) X 0 0 (N) 35 [(0, .ref (ad 8)), (1, vI (v)), (2, .ref (ad 2))] [] := by
    intro N f h0 h1
    have hb : 0 ≤ svB 38 M ∧ svB 38 M ≤ 5 := by unfold svB; split <;> omega
    refine B_X3_save_35 (by omega) (Nat.zero_le _) (Nat.zero_le _) C Y ⟨⟨by omega, by omega, by omega, by omega⟩, ?_⟩
    rw [h0, show svB 38 M * 6 = 6 * svB 38 M by omega]
    refine xs_65 C Y h18 (fun N h => ⟨rfl, h⟩) 4 0 (by omega) (by omega) _ (fun c i k1 k2 => by rw [up_c k2, up_c k2]; exact f c i k1 k2) (by rw [up_c (by decide), up_c (by decide)]; exact h0) (by rw [up_i (by omega), up_s]) (by rw [up_s]; exact f 11 0 (by decide) (by decide)) (fun k k1 k2 => absurd k2 (by omega)) (fun i i1 i2 i3 => ?_)
    rw [up_i (by omega), up_i (by omega)]; exact h1 i i1 i2
  refine B_X3_save_0 (by omega) (Nat.zero_le _) (Nat.zero_le _) C Y ⟨fun c => go M (fun _ _ _ _ => rfl) (by unfold svB; rw [if_neg c]) (fun i i1 i2 => by unfold svP; rw [if_neg (fun q => c q.1)]), fun c => ?_⟩
  refine go _ (fun c i k1 k2 => by rw [up_c k1]; exact shf_c k2) (by rw [up_s]; unfold svB; rw [if_pos c]) (fun i i1 i2 => ?_)
  rw [up_c (by decide)]
  unfold svP
  by_cases q : i < 30
  · rw [if_pos ⟨c, q⟩]; exact shf_lo ⟨i1, q⟩
  · rw [if_neg (fun w => q w.2)]; exact shf_hi (by omega)
/-- both sides saved: the pasts agree -/
theorem pst_sv {A0 M0 A M B N : Mem} (h0 : PstJ A0 M0) (t0 : TabJ A0 M0) (ea : ∀ i, A 38 i = A0 38 i ∧ A 39 i = A0 39 i ∧ A 10 i = A0 10 i ∧ A 11 i = A0 11 i) (em : ∀ i, M 18 i = M0 18 i ∧ M 19 i = M0 19 i ∧ M 16 i = M0 16 i ∧ M 17 i = M0 17 i) (sx : SvR 38 39 11 10 A (M0 0 0) B) (sm : SvR 18 19 16 17 M (M0 0 0) N) (hn : M0 0 0 ≤ N 0 0) (hn0 : 0 ≤ M0 0 0) : PstJ B N := by
  obtain ⟨p1, p2, p3, p4, p5⟩ := h0
  obtain ⟨t1, t2, t3, t4⟩ := t0
  obtain ⟨-, x1, x2, x3, x4, x5⟩ := sx
  obtain ⟨-, m1, m2, m3, m4, m5⟩ := sm
  have eb : svB 38 A = svB 18 M := by unfold svB; rw [(ea 0).1, (em 0).1, p2]
  have hb : 0 ≤ svB 18 M ∧ svB 18 M ≤ 5 := by unfold svB; rw [(em 0).1]; split <;> omega
  have ep : ∀ i, 0 ≤ i → i < 36 → svP 38 39 A i = svP 18 19 M i := by
    intro i i1 i2
    unfold svP
    rw [(ea 0).1, (em 0).1, p2, (ea i).2.1, (em i).2.1, (ea (i + 6)).2.1, (em (i + 6)).2.1]
    split
    · exact p3 (i + 6) (by omega) (by omega)
    · exact p3 i i1 i2
  rw [eb] at x1 x2 x3 x4 x5
  have rowN : ∀ r, 0 ≤ r → r < svB 18 M → ∃ q, 0 ≤ q ∧ q < M0 18 0 ∧ (r + 1 < svB 18 M → q + 1 < M0 18 0) ∧ (∀ j, 0 ≤ j → j < 6 → N 19 (6 * r + j) = M0 19 (6 * q + j)) ∧ (r + 1 < svB 18 M → ∀ j, 0 ≤ j → j < 6 → N 19 (6 * (r + 1) + j) = M0 19 (6 * (q + 1) + j)) := by
    intro r r1 r2
    by_cases h6 : M0 18 0 = 6
    · have e5 : svB 18 M = 5 := by unfold svB; rw [(em 0).1, if_pos h6]
      refine ⟨r + 1, by omega, by omega, fun _ => by omega, fun j j1 j2 => ?_, fun q j j1 j2 => ?_⟩
      · rw [m5 _ (by omega) (by omega) (by omega), svP, (em 0).1, if_pos ⟨h6, by omega⟩, (em _).2.1, show 6 * r + j + 6 = 6 * (r + 1) + j by omega]
      · rw [m5 _ (by omega) (by omega) (by omega), svP, (em 0).1, if_pos ⟨h6, by omega⟩, (em _).2.1, show 6 * (r + 1) + j + 6 = 6 * (r + 1 + 1) + j by omega]
    · have e5 : svB 18 M = M0 18 0 := by unfold svB; rw [(em 0).1, if_neg h6]
      refine ⟨r, r1, by omega, fun _ => by omega, fun j j1 j2 => ?_, fun q j j1 j2 => ?_⟩
      · rw [m5 _ (by omega) (by omega) (by omega), svP, (em 0).1, if_neg (fun w => h6 w.1), (em _).2.1]
      · rw [m5 _ (by omega) (by omega) (by omega), svP, (em 0).1, if_neg (fun w => h6 w.1), (em _).2.1]
  refine ⟨by omega, by omega, fun i i1 i2 => ?_, fun r r1 r2 => ?_, fun r r1 r2 => ?_⟩
  · by_cases q : i < 6 * svB 18 M ∨ 6 * svB 18 M + 6 ≤ i
    · rw [x5 i i1 i2 q, m5 i i1 i2 q]; exact ep i i1 i2
    · by_cases q0 : i = 6 * svB 18 M
      · subst q0; rw [x2, m2]
      · by_cases q1 : i = 6 * svB 18 M + 1
        · subst q1; rw [x3, m3, (ea 0).2.2.2, (em 0).2.2.1]; exact t2
        · have e : i = 6 * svB 18 M + 2 + (i - 6 * svB 18 M - 2) := by omega
          rw [e, x4 _ (by omega) (by omega), m4 _ (by omega) (by omega), (ea _).2.2.1, (em _).2.2.2]
          exact t3 _ (by omega) (by omega)
  · rw [m1] at r2
    by_cases q : r = svB 18 M
    · subst q
      unfold RowJ
      rw [m2, m3, (em 0).2.2.1]
      refine ⟨by omega, t1, fun i i1 i2 => ?_⟩
      rw [m4 i i1 (by omega), (em i).2.2.2]
      exact t4 i i1 i2
    · obtain ⟨q', a1, a2, -, a3, -⟩ := rowN r r1 (by omega)
      have rj := p4 q' a1 a2
      unfold RowJ at rj ⊢
      have e0 := a3 0 (by omega) (by omega)
      have e1 := a3 1 (by omega) (by omega)
      rw [Int.add_zero, Int.add_zero] at e0
      rw [e0, e1]
      refine ⟨by omega, rj.2.1, fun i i1 i2 => ?_⟩
      have e2 := a3 (2 + i) (by omega) (by omega)
      rw [show 6 * r + 2 + i = 6 * r + (2 + i) by omega, e2, show 6 * q' + (2 + i) = 6 * q' + 2 + i by omega]
      exact rj.2.2 i i1 i2
  · rw [m1] at r2
    obtain ⟨q', a1, a2, a4, a3, a5⟩ := rowN r r1 (by omega)
    have e0 := a3 0 (by omega) (by omega)
    rw [Int.add_zero, Int.add_zero] at e0
    by_cases q : r + 1 = svB 18 M
    · rw [q, m2, e0]
      exact (p4 q' a1 a2).1.2
    · have e1 := a5 (by omega) 0 (by omega) (by omega)
      rw [Int.add_zero, Int.add_zero] at e1
      rw [e0, e1]
      exact p5 q' a1 (a4 (by omega))
