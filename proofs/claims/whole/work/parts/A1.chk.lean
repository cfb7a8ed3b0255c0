/-! ===== checksum ===== -/
def wr (y : Int) : Int := (i64 y).toInt
theorem wr_r (y : Int) : R64 (wr y) := r64_toInt _
theorem vL_wr (y : Int) : vL (wr y) = vL y := by unfold wr vL; rw [i64_ti]
def mixF (h v : Int) : Int := wr (31 * h + v)
def hO (M : Mem) (z s : Int) (h : Int) : Nat → Int
  | 0 => h
  | n + 1 => mixF (hO M z s h n) (opt M z s (n : Int))
def hG0 (M : Mem) (z h : Int) : Int := mixF (mixF (mixF h (M 5 z)) (M 3 (2 * z + 0))) (M 3 (2 * z + 1))
def hG1 (M : Mem) (z h : Int) : Int := mixF (mixF (mixF (mixF h (M 13 z)) (M 14 z)) (M 10 z)) (M 8 z)
def hGm (M : Mem) (z h : Int) : Int := hG1 M z (hO M z 1 (hO M z 0 (hG0 M z h) (M 3 (2 * z + 0)).toNat) (M 3 (2 * z + 1)).toNat)
def hGs (M : Mem) (h : Int) : Nat → Int
  | 0 => h
  | n + 1 => hGm M n (hGs M h n)
def hPs (M : Mem) (h : Int) : Nat → Int
  | 0 => h
  | n + 1 => mixF (hPs M h n) (M 17 (n : Int))
def chk (M : Mem) : Int := mixF (mixF (mixF (mixF (hPs M (mixF (hGs M (mixF 18487 (M 0 0)) (M 0 0).toNat) (M 16 0)) (M 16 0).toNat) (M 24 0)) (M 21 0)) (M 21 1)) (M 18 0)
theorem m_mix {g : Gs} {ad : Nat → Nat} {M : Mem} {x : Int} (hx : R64 x) : SpV (wM g ad) yX10_mix cX10_mix 3 none 1 [.ref (ad 0), vL (x)] (M) (fun N => N = up M 63 0 (mixF (M 63 0) x)) := by
  intro l9 hl9
  refine ct_of hl9 mi_X10_mix.2.2.2 (Nat.le_of_ble_eq_true rfl) (fun X _ C Y => ?_)
  show E (wM g ad) X 0 0 (M) 0 [(0, .ref (ad 0)), (1, vL (x))] []
  refine e_wf (fun hw => ?_)
  refine e_aload_n C 0 dX10_mix_0 rfl ?_
  refine e_ldc2 C (v := 31) (tg8 43 rfl rfl) (by decide) dX10_mix_1 ?_
  refine e_aload_n C 0 dX10_mix_4 rfl ?_
  refine gM_63 C dX10_mix_5 ?_
  refine e_lmul C dX10_mix_8 ?_
  refine e_lload_n C 1 dX10_mix_9 rfl ?_
  refine e_ladd C dX10_mix_10 ?_
  rw [← vL_wr (31 * M 63 0 + x)]
  refine pM_63 C (wr_r _) dX10_mix_11 ?_
  exact e_vret C Y (Nat.zero_le _) (Nat.zero_le _) dX10_mix_14 ⟨rfl, rfl⟩
theorem x_mix {g : Gs} {ad : Nat → Nat} {sk : (Nat → Nat) × (Nat → Nat)} {M : Mem} {x v : Int} (hx : R64 x) (hv : R32 v) : SpL (wC g ad sk) yX9_mix cX9_mix 3 (some .long) 1 [vL (x), vI (v)] (M) (fun r N => r = mixF x v ∧ N = M) := by
  intro l9 hl9
  refine ct_of hl9 mi_X9_mix.2.2.2 (Nat.le_of_ble_eq_true rfl) (fun X _ C Y => ?_)
  show E (wC g ad sk) X 0 0 (M) 0 [(0, vL (x)), (2, vI (v))] []
  refine e_wf (fun hw => ?_)
  refine B_X9_mix_0 (by omega) (by omega) (Nat.zero_le _) (Nat.zero_le _) C Y ⟨mixF x v, ?_, rfl, rfl⟩
  unfold mixF; rw [vL_wr]
/-- the reference's memory while it mixes -/
def ChI (M N : Mem) (h : Int) : Prop := N 63 0 = h ∧ N 20 0 = 0 ∧ ∀ c i, c ≠ 20 → c ≠ 63 → N c i = M c i
theorem ChI.mx {M N : Mem} {h v : Int} (q : ChI M N h) : ChI M (up N 63 0 (mixF (N 63 0) v)) (mixF h v) := ⟨by rw [up_s, q.1], by rw [up_c (by decide)]; exact q.2.1, fun c i h1 h2 => by rw [up_c h2]; exact q.2.2 c i h1 h2⟩
theorem r3264 {x : Int} (h : R32 x) : R64 x := by unfold R32 at h; unfold R64; omega
theorem mc_73 {g : Gs} {ad : Nat → Nat} {X : Cx} {PQ : Option Value → Mem → Prop} {PX : String → Mem → Prop} (C : OkB (wM g ad) X cX10_checksum RX10 4 3 0 0) (Y : OkR (wM g ad) X (some .long) 0 0 PQ PX) {M : Mem} {z s h0 : Int} (hz : 0 ≤ z ∧ z < 40) (hs : s = 0 ∨ s = 1) (ho : OpS M z) (kk : ∀ N, ChI M N (hO M z s h0 (M 3 (2 * z + s)).toNat) → E (wM g ad) X 0 0 (N) 66 [(0, .ref (ad 0)), (1, vI (z)), (2, vI (s + 1))] []) : ∀ (m j : Nat), (j : Int) + m = M 3 (2 * z + s) → ∀ N, ChI M N (hO M z s h0 j) → E (wM g ad) X 0 0 (N) 73 [(0, .ref (ad 0)), (1, vI (z)), (2, vI (s)), (3, vI (j))] [] := by
  have hb := opS_r ho (s := s) (by omega)
  intro m
  induction m with
  | zero =>
    intro j hj N q
    have e3 := q.2.2 3 (2 * z + s) (by decide) (by decide)
    rw [show j = (M 3 (2 * z + s)).toNat by omega] at q ⊢
    exact B_X10_checksum_73 (by omega) (by omega) (by omega) (Nat.zero_le _) (Nat.zero_le _) C Y ⟨by omega, fun c => ⟨by omega, kk N q⟩, fun c => absurd c (by omega)⟩
  | succ m ih =>
    intro j hj N q
    have e3 := q.2.2 3 (2 * z + s) (by decide) (by decide)
    have e4 : N 4 (8 * z + 4 * s + j) = opt M z s j := q.2.2 4 _ (by decide) (by decide)
    have ob := hb.2.2 j (by omega) (by omega)
    refine B_X10_checksum_73 (by omega) (by omega) (by omega) (Nat.zero_le _) (Nat.zero_le _) C Y ⟨by omega, fun c => absurd c (by omega), fun c => ⟨by omega, _, m_mix (r3264 (by rw [e4]; omega)), fun N1 h1 => ⟨by omega, ?_⟩⟩⟩
    subst h1
    rw [e4]
    exact ih (j + 1) (by omega) _ q.mx
theorem mc_23 {g : Gs} {ad : Nat → Nat} {X : Cx} {PQ : Option Value → Mem → Prop} {PX : String → Mem → Prop} (C : OkB (wM g ad) X cX10_checksum RX10 4 3 0 0) (Y : OkR (wM g ad) X (some .long) 0 0 PQ PX) {A M : Mem} (h : Jn A M) {h0 : Int} (kk : ∀ N, ChI M N (hGs M h0 (M 0 0).toNat) → E (wM g ad) X 0 0 (N) 23 [(0, .ref (ad 0)), (1, vI (M 0 0))] []) : ∀ (m j : Nat), (j : Int) + m = M 0 0 → ∀ N, ChI M N (hGs M h0 j) → E (wM g ad) X 0 0 (N) 23 [(0, .ref (ad 0)), (1, vI (j))] [] := by
  have hn := h.n
  intro m
  induction m with
  | zero =>
    intro j hj N q
    have e := kk N (by rw [show (M 0 0).toNat = j by omega]; exact q)
    rw [show (j : Int) = M 0 0 by omega]; exact e
  | succ m ih =>
    intro j hj N q
    obtain ⟨hD, hO', hc, hh, hI⟩ := hn.2.2.2.2.2 j (by omega) (by omega)
    have b0 := opS_r hD.1 (s := 0) (by omega)
    have b1 := opS_r hD.1 (s := 1) (by omega)
    have b5 := hD.2.2.1
    have bI := hI.2.2.2.1
    unfold Bd at bI
    have b14 : -1 ≤ M 14 j ∧ M 14 j ≤ 13312 := by
      rcases (show M 6 (j : Int) = 1 ∨ M 6 (j : Int) = 0 by have := hO'.2.1.1; omega) with w | w
      · have := (hc w).2.1; omega
      · obtain ⟨-, -, kt, a1, a2, -, a4, -⟩ := hh w; omega
    have e0 := q.2.2 0 0 (by decide) (by decide)
    have e5 := q.2.2 5 (j : Int) (by decide) (by decide)
    refine B_X10_checksum_23 (by omega) (Nat.zero_le _) (Nat.zero_le _) C Y ⟨fun c => absurd c (by omega), fun c => ⟨by omega, _, m_mix (r3264 (by rw [e5]; omega)), fun N1 h1 => ⟨by omega, ?_⟩⟩⟩
    subst h1
    rw [e5]
    have q1 := q.mx (v := M 5 (j : Int))
    revert q1
    generalize up N 63 0 (mixF (N 63 0) (M 5 ↑j)) = N1
    intro q1
    have e3 := q1.2.2 3 (2 * (j : Int) + 0) (by decide) (by decide)
    refine ⟨_, m_mix (r3264 (by rw [e3]; omega)), fun N2 h2 => ⟨by omega, ?_⟩⟩
    subst h2
    rw [e3]
    have q2 := q1.mx (v := M 3 (2 * (j : Int) + 0))
    revert q2
    generalize up N1 63 0 (mixF (N1 63 0) (M 3 (2 * ↑j + 0))) = N2
    intro q2
    have e3' := q2.2.2 3 (2 * (j : Int) + 1) (by decide) (by decide)
    refine ⟨_, m_mix (r3264 (by rw [e3']; omega)), fun N3 h3 => ?_⟩
    subst h3
    rw [e3']
    have q3 : ChI M _ (hG0 M j (hGs M h0 j)) := q2.mx (v := M 3 (2 * (j : Int) + 1))
    revert q3
    generalize up N2 63 0 (mixF (N2 63 0) (M 3 (2 * ↑j + 1))) = N3
    intro q3
    refine B_X10_checksum_66 (by omega) (by omega) (Nat.zero_le _) (Nat.zero_le _) C Y ⟨fun c => absurd c (by decide), fun c => ?_⟩
    refine mc_73 C Y (s := 0) (h0 := hG0 M j (hGs M h0 j)) (by omega) (Or.inl rfl) hD.1 (fun N4 q4 => ?_) (M 3 (2 * (j : Int) + 0)).toNat 0 (by omega) N3 q3
    refine B_X10_checksum_66 (by omega) (by omega) (Nat.zero_le _) (Nat.zero_le _) C Y ⟨fun c => absurd c (by decide), fun c => ?_⟩
    refine mc_73 C Y (s := 1) (h0 := hO M j 0 (hG0 M j (hGs M h0 j)) (M 3 (2 * (j : Int) + 0)).toNat) (by omega) (Or.inr rfl) hD.1 (fun N5 q5 => ?_) (M 3 (2 * (j : Int) + 1)).toNat 0 (by omega) N4 q4
    have e13 := q5.2.2 13 (j : Int) (by decide) (by decide)
    refine B_X10_checksum_66 (by omega) (by omega) (Nat.zero_le _) (Nat.zero_le _) C Y ⟨fun c => ⟨by omega, _, m_mix (r3264 (by rw [e13]; omega)), fun N6 h6 => ?_⟩, fun c => absurd c (by decide)⟩
    subst h6
    rw [e13]
    have q6 := q5.mx (v := M 13 (j : Int))
    revert q6
    generalize up N5 63 0 (mixF (N5 63 0) (M 13 ↑j)) = N6
    intro q6
    have e14 := q6.2.2 14 (j : Int) (by decide) (by decide)
    refine ⟨_, m_mix (r3264 (by rw [e14]; omega)), fun N7 h7 => ⟨by omega, ?_⟩⟩
    subst h7
    rw [e14]
    have q7 := q6.mx (v := M 14 (j : Int))
    revert q7
    generalize up N6 63 0 (mixF (N6 63 0) (M 14 ↑j)) = N7
    intro q7
    have e15 : N7 15 (7200 * (2 * (j : Int) + 0) + 0) = M 10 j := (q7.2.2 15 _ (by decide) (by decide)).trans hI.2.2.2.2.1
    refine ⟨_, m_mix (r3264 (by rw [e15]; omega)), fun N8 h8 => ⟨by omega, ?_⟩⟩
    subst h8
    rw [e15]
    have q8 := q7.mx (v := M 10 (j : Int))
    revert q8
    generalize up N7 63 0 (mixF (N7 63 0) (M 10 ↑j)) = N8
    intro q8
    have e16 : N8 15 (7200 * (2 * (j : Int) + 1) + 0) = M 8 j := (q8.2.2 15 _ (by decide) (by decide)).trans hI.2.2.2.2.2
    refine ⟨_, m_mix (r3264 (by rw [e16]; omega)), fun N9 h9 => ⟨by omega, ?_⟩⟩
    subst h9
    rw [e16]
    exact ih (j + 1) (by omega) _ (q8.mx (v := M 8 (j : Int)))
theorem mc_170 {g : Gs} {ad : Nat → Nat} {X : Cx} {PQ : Option Value → Mem → Prop} {PX : String → Mem → Prop} (C : OkB (wM g ad) X cX10_checksum RX10 4 3 0 0) (Y : OkR (wM g ad) X (some .long) 0 0 PQ PX) {A M : Mem} (h : Jn A M) {h0 : Int} (kk : ∀ N, ChI M N (hPs M h0 (M 16 0).toNat) → E (wM g ad) X 0 0 (N) 170 [(0, .ref (ad 0)), (1, vI (M 16 0))] []) : ∀ (m j : Nat), (j : Int) + m = M 16 0 → ∀ N, ChI M N (hPs M h0 j) → E (wM g ad) X 0 0 (N) 170 [(0, .ref (ad 0)), (1, vI (j))] [] := by
  have hn := h.n
  have ht := h.2.1
  have ht1 := ht.1
  intro m
  induction m with
  | zero =>
    intro j hj N q
    have e := kk N (by rw [show (M 16 0).toNat = j by omega]; exact q)
    rw [show (j : Int) = M 16 0 by omega]; exact e
  | succ m ih =>
    intro j hj N q
    have e16 := q.2.2 16 0 (by decide) (by decide)
    have e17 := q.2.2 17 (j : Int) (by decide) (by decide)
    have rg := ht.2.2.2 j (by omega) (by omega)
    refine B_X10_checksum_170 (by omega) (Nat.zero_le _) (Nat.zero_le _) C Y ⟨fun c => absurd c (by omega), fun c => ⟨by omega, _, m_mix (r3264 (by rw [e17]; omega)), fun N1 h1 => ⟨by omega, ?_⟩⟩⟩
    subst h1
    rw [e17]
    exact ih (j + 1) (by omega) _ q.mx
def ChR (M : Mem) : Int → Int → Mem → Prop := fun k r N => k = 0 ∧ r = chk M ∧ ∀ c i, c ≠ 20 → c ≠ 63 → N c i = M c i
theorem m_checksum {g : Gs} {ad : Nat → Nat} {A M : Mem} (h : Jn A M) : SpL (wM g ad) yX10_checksum cX10_checksum 4 (some .long) 3 [.ref (ad 0)] (M) (fun r N => ChR M (N 20 0) r N) := by
  intro l9 hl9
  refine ct_of hl9 mi_X10_checksum.2.2.2 (Nat.le_of_ble_eq_true rfl) (fun X _ C Y => ?_)
  show E (wM g ad) X 0 0 (M) 0 [(0, .ref (ad 0))] []
  refine e_wf (fun hw => ?_)
  have hn := h.n
  have ht1 := h.2.1.1
  have p18 := h.2.2.1.1
  have d0 := h.2.2.2.1.1.2.1
  have d1 := h.2.2.2.1.2.2.1
  have t1 := h.2.2.2.2.1.1
  refine B_X10_checksum_0  (Nat.zero_le _) (Nat.zero_le _) C Y ⟨_, m_mix (r3264 (by omega)), fun N1 h1 => ?_⟩
  subst h1
  have q0 : ChI M (up (up M 20 0 0) 63 0 18487) 18487 := ⟨up_s _ _ _ _, by rw [up_c (by decide), up_s], fun c i h1 h2 => by rw [up_c h2, up_c h1]⟩
  refine mc_23 C Y h (h0 := mixF 18487 (M 0 0)) (fun N2 q2 => ?_) (M 0 0).toNat 0 (by omega) _ (q0.mx (v := M 0 0))
  have e0 := q2.2.2 0 0 (by decide) (by decide)
  have e16 := q2.2.2 16 0 (by decide) (by decide)
  refine B_X10_checksum_23 (by omega) (Nat.zero_le _) (Nat.zero_le _) C Y ⟨fun _ => ⟨_, m_mix (r3264 (by rw [e16]; omega)), fun N3 h3 => ?_⟩, fun c => absurd c (by omega)⟩
  subst h3
  rw [e16]
  refine mc_170 C Y h (h0 := mixF (hGs M (mixF 18487 (M 0 0)) (M 0 0).toNat) (M 16 0)) (fun N4 q4 => ?_) (M 16 0).toNat 0 (by omega) _ (q2.mx (v := M 16 0))
  have e16' := q4.2.2 16 0 (by decide) (by decide)
  have e24 := q4.2.2 24 0 (by decide) (by decide)
  refine B_X10_checksum_170 (by omega) (Nat.zero_le _) (Nat.zero_le _) C Y ⟨fun _ => ⟨_, m_mix (r3264 (by rw [e24]; omega)), fun N5 h5 => ?_⟩, fun c => absurd c (by omega)⟩
  subst h5
  rw [e24]
  have q5 := q4.mx (v := M 24 0)
  revert q5
  generalize up N4 63 0 (mixF (N4 63 0) (M 24 0)) = N5
  intro q5
  have e21 := q5.2.2 21 0 (by decide) (by decide)
  refine ⟨_, m_mix (r3264 (by rw [e21]; omega)), fun N6 h6 => ?_⟩
  subst h6
  rw [e21]
  have q6 := q5.mx (v := M 21 0)
  revert q6
  generalize up N5 63 0 (mixF (N5 63 0) (M 21 0)) = N6
  intro q6
  have e21' := q6.2.2 21 1 (by decide) (by decide)
  refine ⟨_, m_mix (r3264 (by rw [e21']; omega)), fun N7 h7 => ?_⟩
  subst h7
  rw [e21']
  have q7 := q6.mx (v := M 21 1)
  revert q7
  generalize up N6 63 0 (mixF (N6 63 0) (M 21 1)) = N7
  intro q7
  have e18 := q7.2.2 18 0 (by decide) (by decide)
  refine ⟨_, m_mix (r3264 (by rw [e18]; omega)), fun N8 h8 => ?_⟩
  subst h8
  rw [e18]
  have q8 := q7.mx (v := M 18 0)
  exact ⟨_, rfl, q8.2.1, q8.1, q8.2.2⟩
