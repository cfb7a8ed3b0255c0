/-! ===== checksum: the class ===== -/
theorem xg_43 {g : Gs} {ad : Nat → Nat} {sk : (Nat → Nat) × (Nat → Nat)} {X : Cx} {PQ : Option Value → Mem → Prop} {PX : String → Mem → Prop} (C : OkB (wC g ad sk) X cX9_mixGame RX9 7 2 0 0) (Y : OkR (wC g ad sk) X (some .long) 0 0 PQ PX) {A M : Mem} {z s h0 : Int} (h : Jn A M) (hz : 0 ≤ z ∧ z < M 0 0) (hs : s = 0 ∨ s = 1) (r0 : R64 h0) (kk : R64 (hO M z s h0 (M 3 (2 * z + s)).toNat) → E (wC g ad sk) X 0 0 (A) 34 [(2, .ref (ad (44 + 6 * (Int.toNat z)))), (3, vL (hO M z s h0 (M 3 (2 * z + s)).toNat)), (5, vI (s + 1))] []) : ∀ (m j : Nat), (j : Int) + m = M 3 (2 * z + s) → R64 (hO M z s h0 j) → E (wC g ad sk) X 0 0 (A) 43 [(2, .ref (ad (44 + 6 * (Int.toNat z)))), (3, vL (hO M z s h0 j)), (5, vI (s)), (6, vI (j))] [] := by
  have hn := h.n
  have ct := h.ct hz hs
  have oo := (opS_r (hn.2.2.2.2.2 z hz.1 hz.2).1.1 (s := s) (by omega)).2.2
  intro m
  induction m with
  | zero =>
    intro j hj rj
    rw [show j = (M 3 (2 * z + s)).toNat by omega] at rj ⊢
    exact B_X9_mixGame_43 (by omega) (rj) (by omega) (by omega) (Nat.zero_le _) (Nat.zero_le _) C Y ⟨by omega, fun c => ⟨by omega, kk rj⟩, fun c => absurd c (by omega)⟩
  | succ m ih =>
    intro j hj rj
    have ob := oo j (by omega) (by omega)
    have eo : optAt A z s j = opt M z s j := by rw [h.op hz hs, optV, if_pos (by omega)]
    refine B_X9_mixGame_43 (by omega) (rj) (by omega) (by omega) (Nat.zero_le _) (Nat.zero_le _) C Y ⟨by omega, fun c => absurd c (by omega), fun c => ⟨by omega, _, x_mix rj (by rw [eo]; omega), fun r N hN => ?_⟩⟩
    obtain ⟨rfl, rfl⟩ := hN
    rw [eo]
    exact ⟨wr_r _, by omega, ih (j + 1) (by omega) (wr_r _)⟩
theorem x_mixGame {g : Gs} {ad : Nat → Nat} {sk : (Nat → Nat) × (Nat → Nat)} {A M : Mem} {z h0 : Int} (h : Jn A M) (hz : 0 ≤ z ∧ z < M 0 0) (r0 : R64 h0) : SpL (wC g ad sk) yX9_mixGame cX9_mixGame 7 (some .long) 2 [vL (h0), .ref (ad (44 + 6 * (Int.toNat z)))] (A) (fun r B => r = hGm M z h0 ∧ B = A) := by
  have hn := h.n
  intro l9 hl9
  refine ct_of hl9 mi_X9_mixGame.2.2.2 (Nat.le_of_ble_eq_true rfl) (fun X _ C Y => ?_)
  show E (wC g ad sk) X 0 0 (A) 0 [(0, vL (h0)), (2, .ref (ad (44 + 6 * (Int.toNat z))))] []
  refine e_wf (fun hw => ?_)
  have rg := h.g hz.1 hz.2
  obtain ⟨hD, hO', hc, hh, hI⟩ := hn.2.2.2.2.2 z hz.1 hz.2
  have b0 := h.ct hz (s := 0) (Or.inl rfl)
  have b1 := h.ct hz (s := 1) (Or.inr rfl)
  have b5 := hD.2.2.1
  have bI := hI.2.2.2.1
  unfold Bd at bI
  have b14 : -1 ≤ M 14 z ∧ M 14 z ≤ 13312 := by
    rcases (show M 6 z = 1 ∨ M 6 z = 0 by have := hO'.2.1.1; omega) with w | w
    · have := (hc w).2.1; omega
    · obtain ⟨-, -, kt, a1, a2, -, a4, -⟩ := hh w; omega
  refine B_X9_mixGame_0 (r0) (by omega) (Nat.zero_le _) (Nat.zero_le _) C Y ⟨_, x_mix r0 (by rw [rg.2.1.1]; omega), fun r B hB => ?_⟩
  obtain ⟨rfl, rfl⟩ := hB
  rw [rg.2.1.1]
  refine ⟨wr_r _, _, x_mix (wr_r _) (by rw [b0.1]; omega), fun r B2 hB => ?_⟩
  obtain ⟨rfl, rfl⟩ := hB
  rw [b0.1]
  refine ⟨wr_r _, _, x_mix (wr_r _) (by rw [b1.1]; omega), fun r B2 hB => ?_⟩
  obtain ⟨rfl, rfl⟩ := hB
  rw [b1.1]
  refine ⟨wr_r _, ?_⟩
  show E (wC g ad sk) X 0 0 (B2) 34 [(2, .ref (ad (44 + 6 * (Int.toNat z)))), (3, vL (hG0 M z h0)), (5, vI (0))] []
  refine B_X9_mixGame_34 (by omega) (wr_r _) (by omega) (Nat.zero_le _) (Nat.zero_le _) C Y ⟨fun c => absurd c (by decide), fun c => ?_⟩
  refine xg_43 C Y h hz (s := 0) (h0 := hG0 M z h0) (Or.inl rfl) (wr_r _) (fun r1 => ?_) (M 3 (2 * z + 0)).toNat 0 (by omega) (wr_r _)
  refine B_X9_mixGame_34 (by omega) (r1) (by omega) (Nat.zero_le _) (Nat.zero_le _) C Y ⟨fun c => absurd c (by decide), fun c => ?_⟩
  refine xg_43 C Y h hz (s := 1) (h0 := hO M z 0 (hG0 M z h0) (M 3 (2 * z + 0)).toNat) (Or.inr rfl) r1 (fun r2 => ?_) (M 3 (2 * z + 1)).toNat 0 (by omega) r1
  have e50 := rg.2.1.2.2.2.1
  have e51 := rg.2.1.2.2.2.2
  have e43 := rg.2.2.2.1
  refine B_X9_mixGame_34 (by omega) (r2) (by omega) (Nat.zero_le _) (Nat.zero_le _) C Y ⟨fun c => ⟨_, x_mix r2 (by rw [e50]; omega), fun r B3 hB => ?_⟩, fun c => absurd c (by decide)⟩
  obtain ⟨rfl, rfl⟩ := hB
  rw [e50]
  refine ⟨wr_r _, _, x_mix (wr_r _) (by rw [e51]; omega), fun r B4 hB => ?_⟩
  obtain ⟨rfl, rfl⟩ := hB
  rw [e51]
  refine ⟨wr_r _, _, x_mix (wr_r _) (by rw [e43.1]; omega), fun r B5 hB => ?_⟩
  obtain ⟨rfl, rfl⟩ := hB
  rw [e43.1]
  refine ⟨wr_r _, _, x_mix (wr_r _) (by rw [e43.2.1]; omega), fun r B6 hB => ?_⟩
  obtain ⟨rfl, rfl⟩ := hB
  rw [e43.2.1]
  exact ⟨wr_r _, _, rfl, rfl, rfl⟩
theorem xk_16 {g : Gs} {ad : Nat → Nat} {sk : (Nat → Nat) × (Nat → Nat)} {X : Cx} {PQ : Option Value → Mem → Prop} {PX : String → Mem → Prop} (C : OkB (wC g ad sk) X cX9_checksum RX9 4 3 0 0) (Y : OkR (wC g ad sk) X (some .long) 0 0 PQ PX) {A M : Mem} (h : Jn A M) {h0 : Int} (kk : R64 (hGs M h0 (M 0 0).toNat) → E (wC g ad sk) X 0 0 (A) 16 [(0, .ref (ad 0)), (1, vL (hGs M h0 (M 0 0).toNat)), (3, vI (M 0 0))] []) : ∀ (m j : Nat), (j : Int) + m = M 0 0 → R64 (hGs M h0 j) → E (wC g ad sk) X 0 0 (A) 16 [(0, .ref (ad 0)), (1, vL (hGs M h0 j)), (3, vI (j))] [] := by
  have hn := h.n
  intro m
  induction m with
  | zero =>
    intro j hj rj
    have e : j = (M 0 0).toNat := by omega
    have e2 : (((M 0 0).toNat : Nat) : Int) = M 0 0 := by omega
    rw [e, e2]
    exact kk (by rw [← e]; exact rj)
  | succ m ih =>
    intro j hj rj
    refine B_X9_checksum_16 (rj) (by omega) (Nat.zero_le _) (Nat.zero_le _) C Y ⟨fun c => absurd c (by omega), fun c => ⟨by omega, _, x_mixGame h ⟨by omega, by omega⟩ rj, fun r B hB => ?_⟩⟩
    obtain ⟨rfl, rfl⟩ := hB
    exact ⟨wr_r _, by omega, ih (j + 1) (by omega) (wr_r _)⟩
theorem xk_61 {g : Gs} {ad : Nat → Nat} {sk : (Nat → Nat) × (Nat → Nat)} {X : Cx} {PQ : Option Value → Mem → Prop} {PX : String → Mem → Prop} (C : OkB (wC g ad sk) X cX9_checksum RX9 4 3 0 0) (Y : OkR (wC g ad sk) X (some .long) 0 0 PQ PX) {A M : Mem} (h : Jn A M) {h0 : Int} (kk : R64 (hPs M h0 (M 16 0).toNat) → E (wC g ad sk) X 0 0 (A) 61 [(0, .ref (ad 0)), (1, vL (hPs M h0 (M 16 0).toNat)), (3, vI (M 16 0))] []) : ∀ (m j : Nat), (j : Int) + m = M 16 0 → R64 (hPs M h0 j) → E (wC g ad sk) X 0 0 (A) 61 [(0, .ref (ad 0)), (1, vL (hPs M h0 j)), (3, vI (j))] [] := by
  have hn := h.n
  have ht := h.2.1
  have ht1 := ht.1
  have ht2 := ht.2.1
  intro m
  induction m with
  | zero =>
    intro j hj rj
    have e : j = (M 16 0).toNat := by omega
    have e2 : (((M 16 0).toNat : Nat) : Int) = M 16 0 := by omega
    rw [e, e2]
    exact kk (by rw [← e]; exact rj)
  | succ m ih =>
    intro j hj rj
    have e10 := ht.2.2.1 j (by omega) (by omega)
    have rg := ht.2.2.2 j (by omega) (by omega)
    refine B_X9_checksum_61 (rj) (by omega) (Nat.zero_le _) (Nat.zero_le _) C Y ⟨fun c => absurd c (by omega), fun c => ⟨by omega, _, x_mix rj (by rw [e10]; omega), fun r B hB => ?_⟩⟩
    obtain ⟨rfl, rfl⟩ := hB
    rw [e10]
    exact ⟨wr_r _, by omega, ih (j + 1) (by omega) (wr_r _)⟩
theorem x_checksum {g : Gs} {ad : Nat → Nat} {sk : (Nat → Nat) × (Nat → Nat)} {A M : Mem} (h : Jn A M) : SpL (wC g ad sk) yX9_checksum cX9_checksum 4 (some .long) 3 [.ref (ad 0)] (A) (fun r B => Res (ChR M) 0 r B) := by
  intro l9 hl9
  refine ct_of hl9 mi_X9_checksum.2.2.2 (Nat.le_of_ble_eq_true rfl) (fun X _ C Y => ?_)
  show E (wC g ad sk) X 0 0 (A) 0 [(0, .ref (ad 0))] []
  refine e_wf (fun hw => ?_)
  have hn := h.n
  have ht := h.2.1
  have ht1 := ht.1
  have p18 := h.2.2.1
  obtain ⟨d0, d1⟩ := h.2.2.2.1
  have tx := h.2.2.2.2.1
  have z0 := d0.siz hn.2.2.1
  have z1 := d1.siz hn.2.2.1
  refine B_X9_checksum_0  (Nat.zero_le _) (Nat.zero_le _) C Y ⟨_, x_mix (by decide) (by rw [hn.1]; omega), fun r A hA => ?_⟩
  obtain ⟨rfl, rfl⟩ := hA
  rw [hn.1]
  refine ⟨wr_r _, ?_⟩
  refine xk_16 C Y h (h0 := mixF 18487 (M 0 0)) (fun r1 => ?_) (M 0 0).toNat 0 (by omega) (wr_r _)
  refine B_X9_checksum_16 (r1) (by omega) (Nat.zero_le _) (Nat.zero_le _) C Y ⟨fun _ => ⟨_, x_mix r1 (by rw [ht.2.1]; omega), fun r A hA => ?_⟩, fun c => absurd c (by omega)⟩
  obtain ⟨rfl, rfl⟩ := hA
  rw [ht.2.1]
  refine ⟨wr_r _, ?_⟩
  refine xk_61 C Y h (h0 := mixF (hGs M (mixF 18487 (M 0 0)) (M 0 0).toNat) (M 16 0)) (fun r2 => ?_) (M 16 0).toNat 0 (by omega) (wr_r _)
  refine B_X9_checksum_61 (r2) (by omega) (Nat.zero_le _) (Nat.zero_le _) C Y ⟨fun _ => ⟨_, x_mix r2 (by rw [tx.2.1]; have := tx.1; omega), fun r A hA => ?_⟩, fun c => absurd c (by have := ht.2.1; omega)⟩
  obtain ⟨rfl, rfl⟩ := hA
  rw [tx.2.1]
  refine ⟨wr_r _, _, (s_bitCount d0.1.1).toI, fun a A hA => ?_⟩
  obtain ⟨rfl, rfl⟩ := hA
  have s0 : (cn (nv (A 1 0)) 64 : Int) = M 21 0 := z0
  rw [s0]
  refine ⟨by have := d0.2.1; omega, _, x_mix (wr_r _) (by have := d0.2.1; omega), fun r A hA => ?_⟩
  obtain ⟨rfl, rfl⟩ := hA
  refine ⟨wr_r _, _, (s_bitCount d1.1.1).toI, fun a A hA => ?_⟩
  obtain ⟨rfl, rfl⟩ := hA
  have s1 : (cn (nv (A 1 1)) 64 : Int) = M 21 1 := z1
  rw [s1]
  refine ⟨by have := d1.2.1; omega, _, x_mix (wr_r _) (by have := d1.2.1; omega), fun r A hA => ?_⟩
  obtain ⟨rfl, rfl⟩ := hA
  refine ⟨wr_r _, _, x_mix (wr_r _) (by rw [p18.2.1]; have := p18.1; omega), fun r A hA => ?_⟩
  obtain ⟨rfl, rfl⟩ := hA
  rw [p18.2.1]
  refine ⟨wr_r _, _, rfl, ?_⟩
  rintro k' r' N ⟨rfl, rfl, fN⟩
  exact ⟨rfl, fun _ => rfl, h.cgM (fun c i hc h20 => fN c i h20 (by omega))⟩
