/-! ===== the reference: walls ===== -/
/-- sample k of side s of game z -/
abbrev smpl (M : Mem) (z s k : Int) : Int := M 15 (7200 * (2 * z + s) + k)
/-- the best opposite wall of the first n options -/
def txS (M : Mem) (z s k : Int) : Nat → Int
  | 0 => if s = 0 then -1000000 else 1000000
  | n + 1 => if s = 0 then (if txS M z s k n < smpl M (M 4 (8 * z + 4 * s + (n : Int))) (1 - s) k then smpl M (M 4 (8 * z + 4 * s + (n : Int))) (1 - s) k else txS M z s k n)
    else (if smpl M (M 4 (8 * z + 4 * s + (n : Int))) (1 - s) k < txS M z s k n then smpl M (M 4 (8 * z + 4 * s + (n : Int))) (1 - s) k else txS M z s k n)
def txF (M : Mem) (z s k : Int) : Int := if s = 0 then txS M z s k (M 3 (2 * z + s)).toNat - 2 * k else txS M z s k (M 3 (2 * z + s)).toNat + 2 * k
/-- the samples of a game's options are no larger than a million -/
def WlB (M : Mem) (z : Int) : Prop := ∀ s, 0 ≤ s → s ≤ 1 → ∀ i, 0 ≤ i → i < M 3 (2 * z + s) → ∀ k, 0 ≤ k → k < 7200 → -1000000 ≤ smpl M (M 4 (8 * z + 4 * s + i)) (1 - s) k ∧ smpl M (M 4 (8 * z + 4 * s + i)) (1 - s) k ≤ 1000000
theorem txS_r {M : Mem} {z s k : Int} (hs : 0 ≤ s ∧ s ≤ 1) (hk : 0 ≤ k ∧ k < 7200) (h : WlB M z) : ∀ n : Nat, (n : Int) ≤ M 3 (2 * z + s) → -1000000 ≤ txS M z s k n ∧ txS M z s k n ≤ 1000000 := by
  intro n
  induction n with
  | zero => intro _; unfold txS; split <;> omega
  | succ n ih =>
    intro hn
    have h1 := ih (by omega)
    have h2 := h s hs.1 hs.2 n (by omega) (by omega) k hk.1 hk.2
    unfold txS
    split <;> split <;> omega
theorem txF_r {M : Mem} {z s k : Int} (hb : OpB M z) (hs : 0 ≤ s ∧ s ≤ 1) (hk : 0 ≤ k ∧ k < 7200) (h : WlB M z) : -1014400 ≤ txF M z s k ∧ txF M z s k ≤ 1014400 := by
  have hc := (hb s hs.1 hs.2).1
  have := txS_r hs hk h (M 3 (2 * z + s)).toNat (by omega)
  unfold txF
  split <;> omega
theorem tx_16 {g : Gs} {ad : Nat → Nat} {X : Cx} {PQ : Option Value → Mem → Prop} {PX : String → Mem → Prop} (C : OkB (wM g ad) X cX10_taxed RX10 7 3 0 0) (Y : OkR (wM g ad) X (some .int) 0 0 PQ PX) {M : Mem} {z s k : Int} (hz : 0 ≤ z ∧ z < 40) (hs : 0 ≤ s ∧ s ≤ 1) (hk : 0 ≤ k ∧ k < 7200) (hb : OpB M z) (hw : WlB M z) (kk : PQ (some (vI (txF M z s k))) M) :
    ∀ (n j : Nat), (j : Int) + n = M 3 (2 * z + s) → E (wM g ad) X 0 0 (M) 16 [(0, .ref (ad 0)), (1, vI (z)), (2, vI (s)), (3, vI (k)), (4, vI (txS M z s k j)), (5, vI (j))] [] := by
  obtain ⟨hc, hop⟩ := hb s hs.1 hs.2
  intro n
  induction n with
  | zero =>
    intro j hj
    have hr := txS_r hs hk hw j (by omega)
    have e : (M 3 (2 * z + s)).toNat = j := by omega
    rw [txF, e] at kk
    refine B_X10_taxed_16 (by omega) (by omega) (by omega) (by omega) (by omega) (Nat.le_refl _) (Nat.le_refl _) C Y ⟨by omega, fun c => ⟨fun c1 => ⟨by omega, ?_⟩, fun c1 => ⟨by omega, ?_⟩⟩, fun c => absurd c (by omega)⟩
    · rw [if_neg c1] at kk; exact kk
    · rw [if_pos c1] at kk; exact kk
  | succ n ih =>
    intro j hj
    have hr := txS_r hs hk hw j (by omega)
    obtain ⟨ho1, ho2⟩ := hop j (by omega) (by omega)
    have h9 := ih (j + 1) (by omega)
    have hcast : ((j + 1 : Nat) : Int) = (j : Int) + 1 := by omega
    rw [hcast] at h9
    rw [txS] at h9
    simp only [smpl] at h9
    refine B_X10_taxed_16 (by omega) (by omega) (by omega) (by omega) (by omega) (Nat.le_refl _) (Nat.le_refl _) C Y ⟨by omega, fun c => absurd c (by omega), fun c => ⟨by omega, fun c1 => ⟨fun c2 => ⟨by omega, ?_⟩, fun c2 => ⟨by omega, ?_⟩⟩, fun c1 => ⟨fun c2 => ⟨by omega, ?_⟩, fun c2 => ⟨by omega, ?_⟩⟩⟩⟩
    · rw [if_neg c1, if_neg (by omega)] at h9; exact h9
    · rw [if_neg c1, if_pos (by omega)] at h9; exact h9
    · rw [if_pos c1, if_neg (by omega)] at h9; exact h9
    · rw [if_pos c1, if_pos (by omega)] at h9; exact h9
theorem s_X10_taxed {g : Gs} {ad : Nat → Nat} {M : Mem} {z s k : Int} (hz : 0 ≤ z ∧ z < 40) (hs : 0 ≤ s ∧ s ≤ 1) (hk : 0 ≤ k ∧ k < 7200) (hb : OpB M z) (hwb : WlB M z) : Sp (wM g ad) yX10_taxed cX10_taxed 7 (some .int) 3 [.ref (ad 0), vI (z), vI (s), vI (k)] (M) (some (vI (txF M z s k))) (M) := by
  intro l9 hl9
  refine ct_of hl9 mi_X10_taxed.2.2.2 (Nat.le_of_ble_eq_true rfl) (fun X _ C Y => ?_)
  show E (wM g ad) X 0 0 (M) 0 [(0, .ref (ad 0)), (1, vI (z)), (2, vI (s)), (3, vI (k))] []
  refine e_wf (fun hw => ?_)
  have hc := (hb s hs.1 hs.2).1
  have h9 := tx_16 C Y hz hs hk hb hwb dt_r (M 3 (2 * z + s)).toNat 0 (by omega)
  rw [txS] at h9
  refine B_X10_taxed_0 (by omega) (by omega) (by omega) (Nat.le_refl _) (Nat.le_refl _) C Y ⟨fun c => ?_, fun c => ?_⟩
  · rw [if_neg c] at h9; exact h9
  · rw [if_pos c] at h9; exact h9
/-- N is M but for the walls, the mean and the temperature of z -/
def WlF (M N : Mem) (z : Int) : Prop := (∀ c i, c ≠ 13 → c ≠ 14 → c ≠ 15 → N c i = M c i) ∧ (∀ i, i ≠ z → N 13 i = M 13 i) ∧ (∀ i, i ≠ z → N 14 i = M 14 i) ∧ ∀ i, (i < 14400 * z ∨ 14400 * z + 14400 ≤ i) → N 15 i = M 15 i
/-- options lie below z -/
def OpL (M : Mem) (z : Int) : Prop := ∀ s, 0 ≤ s → s ≤ 1 → ∀ i, 0 ≤ i → i < M 3 (2 * z + s) → M 4 (8 * z + 4 * s + i) < z
theorem txS_cg {M N : Mem} {z s k : Int} (h3 : ∀ i, N 3 i = M 3 i) (h4 : ∀ i, N 4 i = M 4 i) (h15 : ∀ i, 0 ≤ i → i < M 3 (2 * z + s) → smpl N (M 4 (8 * z + 4 * s + i)) (1 - s) k = smpl M (M 4 (8 * z + 4 * s + i)) (1 - s) k) : ∀ n : Nat, (n : Int) ≤ M 3 (2 * z + s) → txS N z s k n = txS M z s k n := by
  intro n
  induction n with
  | zero => intro _; rfl
  | succ n ih =>
    intro hn
    rw [txS, txS, ih (by omega), h4, h15 n (by omega) (by omega)]
theorem wl_tx {M N : Mem} {z s k : Int} (hz : 0 ≤ z ∧ z < 40) (hs : 0 ≤ s ∧ s ≤ 1) (hk : 0 ≤ k ∧ k < 7200) (hb : OpB M z) (hl : OpL M z) (h : WlF M N z) : txF N z s k = txF M z s k := by
  have h3 : ∀ i, N 3 i = M 3 i := fun i => h.1 3 i (by decide) (by decide) (by decide)
  have h4 : ∀ i, N 4 i = M 4 i := fun i => h.1 4 i (by decide) (by decide) (by decide)
  have hc := (hb s hs.1 hs.2).1
  unfold txF
  rw [h3, txS_cg h3 h4 (fun i hi hi2 => ?_) _ (by omega)]
  have h5 := hl s hs.1 hs.2 i hi hi2
  have h6 := (hb s hs.1 hs.2).2 i hi hi2
  exact h.2.2.2 _ (Or.inl (by omega))
theorem wl_B {M N : Mem} {z : Int} (hz : 0 ≤ z ∧ z < 40) (hb : OpB M z) (hl : OpL M z) (h : WlF M N z) (hw : WlB M z) : WlB N z := by
  intro s hs1 hs2 i hi hi2 k hk hk2
  have h3 : N 3 (2 * z + s) = M 3 (2 * z + s) := h.1 3 _ (by decide) (by decide) (by decide)
  have h4 : N 4 (8 * z + 4 * s + i) = M 4 (8 * z + 4 * s + i) := h.1 4 _ (by decide) (by decide) (by decide)
  rw [h3] at hi2
  rw [h4]
  have h5 := hl s hs1 hs2 i hi hi2
  have h6 := (hb s hs1 hs2).2 i hi hi2
  have h7 := hw s hs1 hs2 i hi hi2 k hk hk2
  rw [show smpl N (M 4 (8 * z + 4 * s + i)) (1 - s) k = smpl M (M 4 (8 * z + 4 * s + i)) (1 - s) k from h.2.2.2 _ (Or.inl (by omega))]
  exact h7
theorem OpB.cg {M N : Mem} {z : Int} (h3 : ∀ i, N 3 i = M 3 i) (h4 : ∀ i, N 4 i = M 4 i) (h : OpB M z) : OpB N z := by
  intro s h1 h2
  have := h s h1 h2
  simp only [h3, h4]
  exact this
/-- both walls up to sample k -/
def WlT (M N : Mem) (z k : Int) (f : Int → Int → Int) : Prop := ∀ s j, 0 ≤ s → s ≤ 1 → 0 ≤ j → j < k → smpl N z s j = f s j
/-- where the walls stand when k samples are laid: frozen at 0 (cold), not frozen, frozen at kt -/
def WlI (M N : Mem) (z k r : Int) : Prop := WlF M N z ∧
  ((M 6 z ≠ 0 ∧ r = 1 ∧ N 13 z = M 7 z ∧ N 14 z = -1 ∧ WlT M N z k (fun _ _ => M 7 z)) ∨
   (M 6 z = 0 ∧ r = 0 ∧ N 13 z = M 7 z ∧ N 14 z = -1 ∧ (∀ j, 0 ≤ j → j < k → txF M z 1 j < txF M z 0 j) ∧ WlT M N z k (fun s j => txF M z s j)) ∨
   (M 6 z = 0 ∧ r = 1 ∧ ∃ kt, 0 ≤ kt ∧ kt < k ∧ txF M z 0 kt ≤ txF M z 1 kt ∧ (∀ j, 0 ≤ j → j < kt → txF M z 1 j < txF M z 0 j) ∧ N 13 z = txF M z 0 kt ∧ N 14 z = 2 * kt ∧ WlT M N z k (fun s j => if j < kt then txF M z s j else txF M z 0 kt)))
theorem wl_113 {g : Gs} {ad : Nat → Nat} {X : Cx} {PQ : Option Value → Mem → Prop} {PX : String → Mem → Prop} (C : OkB (wM g ad) X cX10_laysWalls RX10 6 4 0 0) (Y : OkR (wM g ad) X none 0 0 PQ PX) {N : Mem} {z k r a b : Int} (hz : 0 ≤ z ∧ z < 40) (hk : 0 ≤ k ∧ k < 7200) (hr : r = 0 ∨ r = 1) (ha : R32 a) (hb : R32 b) (kk : ∀ N', (∀ c i, (c ≠ 15 ∨ (i ≠ 7200 * (2 * z + 0) + k ∧ i ≠ 7200 * (2 * z + 1) + k)) → N' c i = N c i) → smpl N' z 0 k = a → smpl N' z 1 k = b → E (wM g ad) X 0 0 (N') 28 [(0, .ref (ad 0)), (1, vI (z)), (2, vI (r)), (3, vI (k + 1))] []) : E (wM g ad) X 0 0 (N) 113 [(0, .ref (ad 0)), (1, vI (z)), (2, vI (r)), (3, vI (k)), (4, vI (a)), (5, vI (b))] [] := by
  refine B_X10_laysWalls_113 (by omega) (by omega) (by omega) (by omega) (by omega) (Nat.le_refl _) (Nat.le_refl _) C Y ⟨by omega, kk _ (fun c i h => ?_) ?_ ?_⟩
  · rcases h with h | h
    · rw [up_c h, up_c h]
    · by_cases hc : c = 15
      · subst hc
        rw [up_i h.2, up_i h.1]
      · rw [up_c hc, up_c hc]
  · show up _ 15 _ b 15 _ = a
    rw [up_i (by omega), up_s]
  · exact up_s _ _ _ _
theorem wl_step {M N N' : Mem} {z k : Int} (hz : 0 ≤ z ∧ z < 40) (hk : 0 ≤ k ∧ k < 7200) (h : WlF M N z) (hN : ∀ c i, (c ≠ 15 ∨ (i ≠ 7200 * (2 * z + 0) + k ∧ i ≠ 7200 * (2 * z + 1) + k)) → N' c i = N c i) :
    WlF M N' z ∧ N' 13 z = N 13 z ∧ N' 14 z = N 14 z ∧ ∀ f, WlT M N z k f → smpl N' z 0 k = f 0 k → smpl N' z 1 k = f 1 k → WlT M N' z (k + 1) f := by
  obtain ⟨f1, f2, f3, f4⟩ := h
  refine ⟨⟨fun c i h1 h2 h3 => ?_, fun i hi => ?_, fun i hi => ?_, fun i hi => ?_⟩, hN 13 z (Or.inl (by decide)), hN 14 z (Or.inl (by decide)), fun f hf e0 e1 s j hs1 hs2 hj1 hj2 => ?_⟩
  · rw [hN c i (Or.inl h3)]; exact f1 c i h1 h2 h3
  · rw [hN 13 i (Or.inl (by decide))]; exact f2 i hi
  · rw [hN 14 i (Or.inl (by decide))]; exact f3 i hi
  · rw [hN 15 i (Or.inr (by omega))]; exact f4 i hi
  · by_cases hj : j = k
    · subst hj
      rcases (show s = 0 ∨ s = 1 by omega) with rfl | rfl
      · exact e0
      · exact e1
    · rw [show smpl N' z s j = smpl N z s j from hN 15 _ (Or.inr (by omega))]
      exact hf s j hs1 hs2 hj1 (by omega)
theorem wl_28 {g : Gs} {ad : Nat → Nat} {X : Cx} {PQ : Option Value → Mem → Prop} {PX : String → Mem → Prop} (C : OkB (wM g ad) X cX10_laysWalls RX10 6 4 0 0) (Y : OkR (wM g ad) X none 0 0 PQ PX) {M : Mem} {z : Int} (hz : 0 ≤ z ∧ z < 40) (hb : OpB M z) (hl : OpL M z) (hw : WlB M z) (kk : ∀ N r, WlI M N z 7200 r → PQ none N) :
    ∀ (n : Nat) (k r : Int), 0 ≤ k → k ≤ 7200 → 7200 - k = n → ∀ N, WlI M N z k r → E (wM g ad) X 0 0 (N) 28 [(0, .ref (ad 0)), (1, vI (z)), (2, vI (r)), (3, vI (k))] [] := by
  intro n
  induction n with
  | zero =>
    intro k r h1 h2 h3 N hN
    have hr : r = 0 ∨ r = 1 := by rcases hN.2 with h | h | h <;> omega
    have : k = 7200 := by omega
    subst this
    exact B_X10_laysWalls_28 (by omega) (by omega) (by omega) (Nat.le_refl _) (Nat.le_refl _) C Y ⟨fun c => kk N r hN, fun c => absurd c (by omega)⟩
  | succ n ih =>
    intro k r h1 h2 h3 N hN
    have hr : r = 0 ∨ r = 1 := by rcases hN.2 with h | h | h <;> omega
    have hbN : OpB N z := hb.cg (fun i => hN.1.1 3 i (by decide) (by decide) (by decide)) (fun i => hN.1.1 4 i (by decide) (by decide) (by decide))
    have hwN := wl_B hz hb hl hN.1 hw
    have e0 := wl_tx (s := 0) (k := k) hz (by omega) (by omega) hb hl hN.1
    have e1 := wl_tx (s := 1) (k := k) hz (by omega) (by omega) hb hl hN.1
    have r0 := txF_r (s := 0) (k := k) hb (by omega) (by omega) hw
    have r1 := txF_r (s := 1) (k := k) hb (by omega) (by omega) hw
    rcases hr with rfl | rfl
    · -- not frozen
      rcases hN.2 with h | h | h
      · omega
      · obtain ⟨hc, -, m1, m2, hun, hT⟩ := h
        refine B_X10_laysWalls_28 (by omega) (by omega) (by omega) (Nat.le_refl _) (Nat.le_refl _) C Y ⟨fun c => absurd c (by omega), fun c => ⟨fun _ => ⟨_, (s_X10_taxed (k := k) hz (show 0 ≤ 0 ∧ 0 ≤ 1 by omega) (by omega) hbN hwN).toI, fun t N1 q1 => ?_⟩, fun c1 => absurd rfl c1⟩⟩
        obtain ⟨rfl, rfl⟩ := q1
        rw [e0]
        refine ⟨by omega, ?_⟩
        refine B_X10_laysWalls_55 (by omega) (by omega) (by omega) (by omega) (Nat.le_refl _) (Nat.le_refl _) C Y ⟨fun _ => ⟨_, (s_X10_taxed (k := k) hz (show 0 ≤ 1 ∧ 1 ≤ 1 by omega) (by omega) hbN hwN).toI, fun t N1 q1 => ?_⟩, fun c1 => absurd rfl c1⟩
        obtain ⟨rfl, rfl⟩ := q1
        rw [e1]
        refine ⟨by omega, ?_⟩
        refine B_X10_laysWalls_77 (by omega) (by omega) (by omega) (by omega) (by omega) (Nat.le_refl _) (Nat.le_refl _) C Y ⟨fun c1 => absurd rfl c1, fun _ => ⟨fun c1 => ?_, fun c1 => ⟨by omega, ?_⟩⟩⟩
        · refine wl_113 C Y hz (by omega) (by omega) (by omega) (by omega) (fun N' hN' a1 a2 => ?_)
          obtain ⟨s1, s2, s3, s4⟩ := wl_step hz (by omega) hN.1 hN'
          refine ih (k + 1) 0 (by omega) (by omega) (by omega) N' ⟨s1, Or.inr (Or.inl ⟨hc, rfl, by rw [s2, m1], by rw [s3, m2], fun j hj1 hj2 => ?_, s4 _ hT a1 a2⟩)⟩
          by_cases hj : j = k
          · subst hj; exact c1
          · exact hun j hj1 (by omega)
        · refine wl_113 C Y hz (by omega) (by omega) (by omega) (by omega) (fun N' hN' a1 a2 => ?_)
          have hF : WlF M (up (up N 13 z (txF M z 0 k)) 14 z (2 * k)) z := by
            obtain ⟨f1, f2, f3, f4⟩ := hN.1
            refine ⟨fun c i q1 q2 q3 => ?_, fun i hi => ?_, fun i hi => ?_, fun i hi => ?_⟩
            · rw [up_c q2, up_c q1]; exact f1 c i q1 q2 q3
            · rw [up_c (by decide), up_i hi]; exact f2 i hi
            · rw [up_i hi, up_c (by decide)]; exact f3 i hi
            · rw [up_c (by decide), up_c (by decide)]; exact f4 i hi
          have hTT : WlT M (up (up N 13 z (txF M z 0 k)) 14 z (2 * k)) z k (fun s j => if j < k then txF M z s j else txF M z 0 k) := by
            intro s j q1 q2 q3 q4
            show up _ 14 _ _ 15 _ = if j < k then _ else _
            rw [up_c (by decide), up_c (by decide), if_pos q4]
            exact hT s j q1 q2 q3 q4
          obtain ⟨s1, s2, s3, s4⟩ := wl_step hz (by omega) hF hN'
          refine ih (k + 1) 1 (by omega) (by omega) (by omega) N' ⟨s1, Or.inr (Or.inr ⟨hc, rfl, k, by omega, by omega, c1, hun, ?_, ?_, s4 _ hTT ?_ ?_⟩)⟩
          · rw [s2, up_c (by decide), up_s]
          · rw [s3, up_s]
          · show _ = if k < k then _ else _
            rw [a1, if_neg (by omega)]
          · show _ = if k < k then _ else _
            rw [a2, if_neg (by omega)]
      · omega
    · -- frozen
      refine e_wf (fun hw9 => ?_)
      have hm : R32 (N 13 z) := hw9.2.1 13 z (by decide)
      refine B_X10_laysWalls_28 (by omega) (by omega) (by omega) (Nat.le_refl _) (Nat.le_refl _) C Y ⟨fun c => absurd c (by omega), fun c => ⟨fun c1 => absurd c1 (by omega), fun c1 => ⟨hz, ?_⟩⟩⟩
      refine B_X10_laysWalls_55 (by omega) (by omega) (by omega) (by omega) (Nat.le_refl _) (Nat.le_refl _) C Y ⟨fun c1 => absurd c1 (by omega), fun c1 => ⟨hz, ?_⟩⟩
      refine B_X10_laysWalls_77 (by omega) (by omega) (by omega) (by omega) (by omega) (Nat.le_refl _) (Nat.le_refl _) C Y ⟨fun _ => ?_, fun c1 => absurd c1 (by omega)⟩
      refine wl_113 C Y hz (by omega) (by omega) hm hm (fun N' hN' a1 a2 => ?_)
      obtain ⟨s1, s2, s3, s4⟩ := wl_step hz (by omega) hN.1 hN'
      refine ih (k + 1) 1 (by omega) (by omega) (by omega) N' ⟨s1, ?_⟩
      rcases hN.2 with h | h | h
      · obtain ⟨hc, -, m1, m2, hT⟩ := h
        exact Or.inl ⟨hc, rfl, by rw [s2, m1], by rw [s3, m2], s4 _ hT (by rw [a1, m1]) (by rw [a2, m1])⟩
      · omega
      · obtain ⟨hc, -, kt, q1, q2, q3, q4, m1, m2, hT⟩ := h
        exact Or.inr (Or.inr ⟨hc, rfl, kt, q1, by omega, q3, q4, by rw [s2, m1], by rw [s3, m2], s4 _ hT (by show _ = if k < kt then _ else _; rw [a1, m1, if_neg (by omega)]) (by show _ = if k < kt then _ else _; rw [a2, m1, if_neg (by omega)])⟩)
theorem s_X10_laysWalls {g : Gs} {ad : Nat → Nat} {M : Mem} {z : Int} (hz : 0 ≤ z ∧ z < 40) (hb : OpB M z) (hl : OpL M z) (hwb : WlB M z) : SpV (wM g ad) yX10_laysWalls cX10_laysWalls 6 none 4 [.ref (ad 0), vI (z)] (M) (fun N => ∃ r, WlI M N z 7200 r) := by
  intro l9 hl9
  refine ct_of hl9 mi_X10_laysWalls.2.2.2 (Nat.le_of_ble_eq_true rfl) (fun X _ C Y => ?_)
  show E (wM g ad) X 0 0 (M) 0 [(0, .ref (ad 0)), (1, vI (z))] []
  refine e_wf (fun hw => ?_)
  have b6 := hw.2.2 6 z rfl
  have hF : WlF M (up (up M 13 z (M 7 z)) 14 z (-1)) z := by
    refine ⟨fun c i q1 q2 q3 => ?_, fun i hi => ?_, fun i hi => ?_, fun i hi => ?_⟩
    · rw [up_c q2, up_c q1]
    · rw [up_c (by decide), up_i hi]
    · rw [up_i hi, up_c (by decide)]
    · rw [up_c (by decide), up_c (by decide)]
  refine B_X10_laysWalls_0 (by omega) (Nat.le_refl _) (Nat.le_refl _) C Y ⟨hz, ?_⟩
  refine wl_28 C Y hz hb hl hwb (fun N r h => ⟨rfl, r, h⟩) 7200 0 (M 6 z) (by omega) (by omega) (by omega) _ ⟨hF, ?_⟩
  have e13 : up (up M 13 z (M 7 z)) 14 z (-1) 13 z = M 7 z := by rw [up_c (by decide), up_s]
  rcases b6 with h | h
  · exact Or.inr (Or.inl ⟨h, h, e13, up_s _ _ _ _, fun j q1 q2 => absurd q2 (by omega), fun s j q1 q2 q3 q4 => absurd q4 (by omega)⟩)
  · exact Or.inl ⟨by omega, h, e13, up_s _ _ _ _, fun s j q1 q2 q3 q4 => absurd q4 (by omega)⟩
