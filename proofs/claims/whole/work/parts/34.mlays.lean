/-! ===== the reference: a new game is laid ===== -/
def betE (l u : Int × Int) (x : Int) : Prop := (l.1 < x ∨ (x = l.1 ∧ l.2 ≠ 0)) ∧ (x < u.1 ∨ (x = u.1 ∧ u.2 ≠ 0))
theorem bet_ed {M N : Mem} {l u : Int × Int} (h : EdIs M N l u) (x : Int) : betM N x ↔ betE l u x := by
  unfold betM betE
  rw [h.1, h.2.1, h.2.2.1, h.2.2.2.1]
theorem Smp.cg {P Q : Int → Prop} (h : ∀ x, P x ↔ Q x) {v : Int} (hs : Smp P v) : Smp Q v := by
  have e : P = Q := funext fun x => propext (h x)
  rw [← e]; exact hs
theorem loS_cg {M N : Mem} {z : Int} (h4 : ∀ i, N 4 i = M 4 i) (h : ∀ i, 0 ≤ i → i < M 3 (2 * z + 0) → N 8 (M 4 (8 * z + 4 * 0 + i)) = M 8 (M 4 (8 * z + 4 * 0 + i)) ∧ N 9 (M 4 (8 * z + 4 * 0 + i)) = M 9 (M 4 (8 * z + 4 * 0 + i))) : ∀ n : Nat, (n : Int) ≤ M 3 (2 * z + 0) → loS N z n = loS M z n := by
  intro n
  induction n with
  | zero => intro _; rfl
  | succ n ih =>
    intro hn
    have h1 := h n (by omega) (by omega)
    rw [loS, loS, ih (by omega), h4, h1.1, h1.2]
theorem upS_cg {M N : Mem} {z : Int} (h4 : ∀ i, N 4 i = M 4 i) (h : ∀ i, 0 ≤ i → i < M 3 (2 * z + 1) → N 10 (M 4 (8 * z + 4 * 1 + i)) = M 10 (M 4 (8 * z + 4 * 1 + i)) ∧ N 11 (M 4 (8 * z + 4 * 1 + i)) = M 11 (M 4 (8 * z + 4 * 1 + i))) : ∀ n : Nat, (n : Int) ≤ M 3 (2 * z + 1) → upS N z n = upS M z n := by
  intro n
  induction n with
  | zero => intro _; rfl
  | succ n ih =>
    intro hn
    have h1 := h n (by omega) (by omega)
    rw [upS, upS, ih (by omega), h4, h1.1, h1.2]
theorem loF_cg {M N : Mem} {z : Int} (hb : OpB M z) (h3 : ∀ i, N 3 i = M 3 i) (h4 : ∀ i, N 4 i = M 4 i) (h : ∀ i, 0 ≤ i → i < M 3 (2 * z + 0) → N 8 (M 4 (8 * z + 4 * 0 + i)) = M 8 (M 4 (8 * z + 4 * 0 + i)) ∧ N 9 (M 4 (8 * z + 4 * 0 + i)) = M 9 (M 4 (8 * z + 4 * 0 + i))) : loF N z = loF M z := by
  have hc := (hb 0 (by omega) (by omega)).1
  unfold loF
  rw [h3, loS_cg h4 h _ (by omega)]
theorem upF_cg {M N : Mem} {z : Int} (hb : OpB M z) (h3 : ∀ i, N 3 i = M 3 i) (h4 : ∀ i, N 4 i = M 4 i) (h : ∀ i, 0 ≤ i → i < M 3 (2 * z + 1) → N 10 (M 4 (8 * z + 4 * 1 + i)) = M 10 (M 4 (8 * z + 4 * 1 + i)) ∧ N 11 (M 4 (8 * z + 4 * 1 + i)) = M 11 (M 4 (8 * z + 4 * 1 + i))) : upF N z = upF M z := by
  have hc := (hb 1 (by omega) (by omega)).1
  unfold upF
  rw [h3, upS_cg h4 h _ (by omega)]
/-- what the value, the coldness and the stops of game n must be -/
def ValE (l u : Int × Int) (num e cold val lo ilo hi ihi : Int) : Prop :=
  (cold = 0 ∨ cold = 1) ∧ (num ≠ 0 → cold = 1 ∧ val = e) ∧ (num = 0 → (cold = 1 ↔ roomE l u) ∧ (cold = 1 → Smp (betE l u) val)) ∧
  (cold = 1 → lo = val ∧ hi = val ∧ ilo = 1 ∧ ihi = 1) ∧ (cold = 0 → val = 0 ∧ lo = u.1 ∧ ilo = u.2 ∧ hi = l.1 ∧ ihi = l.2)
/-- P is M with the count, the value, the coldness, the stops of game n laid -/
def LyB (M P : Mem) (n : Int) : Prop := P 0 0 = n + 1 ∧ (∀ c i, c ≠ 0 → (c < 6 ∨ 11 < c) → (c < 32 ∨ 35 < c) → P c i = M c i) ∧ (∀ c i, 6 ≤ c → c ≤ 11 → i ≠ n → P c i = M c i) ∧ ValE (loF M n) (upF M n) (M 1 n) (M 2 n) (P 6 n) (P 7 n) (P 8 n) (P 9 n) (P 10 n) (P 11 n)
theorem ly_83 {g : Gs} {ad : Nat → Nat} {X : Cx} {PQ : Option Value → Mem → Prop} {PX : String → Mem → Prop} (C : OkB (wM g ad) X cX10_lays RX10 3 5 0 0) (Y : OkR (wM g ad) X (some .int) 0 0 PQ PX) {M P : Mem} {n v : Int} (hn : 0 ≤ n ∧ n < 40) (hv : R32 v) (h0 : P 0 0 = n + 1) (hf : ∀ c i, c ≠ 0 → c ≠ 6 → (c < 32 ∨ 35 < c) → P c i = M c i) (hf6 : ∀ i, i ≠ n → P 6 i = M 6 i) (hb6 : P 6 n = 0 ∨ P 6 n = 1)
    (h1 : M 1 n ≠ 0 → P 6 n = 1 ∧ v = M 2 n) (h2 : M 1 n = 0 → (P 6 n = 1 ↔ roomE (loF M n) (upF M n)) ∧ (P 6 n = 1 → Smp (betE (loF M n) (upF M n)) v)) (h3 : P 6 n = 0 → v = 0 ∧ P 34 0 = (upF M n).1 ∧ P 35 0 = (upF M n).2 ∧ P 32 0 = (loF M n).1 ∧ P 33 0 = (loF M n).2)
    (kk : ∀ P', LyB M P' n → E (wM g ad) X 0 0 (P') 176 [(0, .ref (ad 0)), (1, vI (n)), (2, vI (0))] []) : E (wM g ad) X 0 0 (P) 83 [(0, .ref (ad 0)), (1, vI (n))] [vI (v), vI (n), .ref (ad 7)] := by
  have frame : ∀ (a b c d e : Int) (N : Mem), (N = up (up (up (up (up P 7 n a) 8 n b) 9 n c) 10 n d) 11 n e) → N 0 0 = n + 1 ∧ (∀ c i, c ≠ 0 → (c < 6 ∨ 11 < c) → (c < 32 ∨ 35 < c) → N c i = M c i) ∧ (∀ c i, 6 ≤ c → c ≤ 11 → i ≠ n → N c i = M c i) ∧ N 6 n = P 6 n ∧ N 7 n = a ∧ N 8 n = b ∧ N 9 n = c ∧ N 10 n = d ∧ N 11 n = e := by
    intro a b c d e N hN
    subst hN
    refine ⟨?_, fun k i q1 q2 q3 => ?_, fun k i q1 q2 q3 => ?_, ?_, ?_, ?_, ?_, ?_, ?_⟩
    · rw [up_c (by decide), up_c (by decide), up_c (by decide), up_c (by decide), up_c (by decide)]; exact h0
    · rw [up_c (by omega), up_c (by omega), up_c (by omega), up_c (by omega), up_c (by omega)]
      exact hf k i q1 (by omega) q3
    · have e9 : up (up (up (up (up P 7 n a) 8 n b) 9 n c) 10 n d) 11 n e k i = P k i := by
        simp only [up, q3, if_false]
        repeat (first | rfl | split)
      rw [e9]
      by_cases hk6 : k = 6
      · subst hk6; exact hf6 i q3
      · exact hf k i (by omega) hk6 (by omega)
    · rw [up_c (by decide), up_c (by decide), up_c (by decide), up_c (by decide), up_c (by decide)]
    · rw [up_c (by decide), up_c (by decide), up_c (by decide), up_c (by decide), up_s]
    · rw [up_c (by decide), up_c (by decide), up_c (by decide), up_s]
    · rw [up_c (by decide), up_c (by decide), up_s]
    · rw [up_c (by decide), up_s]
    · rw [up_s]
  refine B_X10_lays_83 (by omega) (by omega) (by omega) (Nat.le_refl _) (Nat.le_refl _) C Y ⟨by omega, fun c => ?_, fun c => ?_⟩
  · obtain ⟨e1, e2, e3, e4, e5⟩ := h3 c
    obtain ⟨g0, g1, g2, g6, g7, g8, g9, g10, g11⟩ := frame v (P 34 0) (P 35 0) (P 32 0) (P 33 0) _ rfl
    refine kk _ ⟨g0, g1, g2, ?_⟩
    rw [g6, g7, g8, g9, g10, g11]
    exact ⟨hb6, h1, h2, fun q => absurd q (by omega), fun _ => ⟨e1, e2, e3, e4, e5⟩⟩
  · have e7 : up P 7 n v 7 n = v := up_s _ _ _ _
    rw [e7]
    have esw : up (up (up (up (up P 7 n v) 8 n v) 10 n v) 9 n 1) 11 n 1 = up (up (up (up (up P 7 n v) 8 n v) 9 n 1) 10 n v) 11 n 1 := by
      funext c i
      simp only [up]
      by_cases h11 : c = 11
      · subst h11; rfl
      · by_cases h10 : c = 10
        · subst h10; rfl
        · by_cases h9 : c = 9
          · subst h9; rfl
          · simp [h11, h10, h9]
    rw [esw]
    obtain ⟨g0, g1, g2, g6, g7, g8, g9, g10, g11⟩ := frame v v 1 v 1 _ rfl
    refine kk _ ⟨g0, g1, g2, ?_⟩
    rw [g6, g7, g8, g9, g10, g11]
    exact ⟨hb6, h1, h2, fun _ => ⟨rfl, rfl, rfl, rfl⟩, fun q => absurd q c⟩
theorem ly_0 {g : Gs} {ad : Nat → Nat} {X : Cx} {PQ : Option Value → Mem → Prop} {PX : String → Mem → Prop} (C : OkB (wM g ad) X cX10_lays RX10 3 5 0 0) (Y : OkR (wM g ad) X (some .int) 0 0 PQ PX) {M : Mem} {n : Int} (hM : M 0 0 = n) (hn : 0 ≤ n ∧ n < 40) (hr2 : R32 (M 2 n)) (hb : OpB M n) (hl : OpL M n) (hS : M 1 n = 0 → roomE (loF M n) (upF M n) → ∃ v, Smp (betE (loF M n) (upF M n)) v)
    (kk : ∀ P', LyB M P' n → E (wM g ad) X 0 0 (P') 176 [(0, .ref (ad 0)), (1, vI (n)), (2, vI (0))] []) : E (wM g ad) X 0 0 (M) 0 [(0, .ref (ad 0))] [] := by
  have n3 : ∀ i, up M 0 0 (n + 1) 3 i = M 3 i := fun i => rfl
  have n4 : ∀ i, up M 0 0 (n + 1) 4 i = M 4 i := fun i => rfl
  have hb1 : OpB (up M 0 0 (n + 1)) n := hb.cg n3 n4
  have elo : loF (up M 0 0 (n + 1)) n = loF M n := loF_cg hb n3 n4 (fun i _ _ => ⟨rfl, rfl⟩)
  have eup : upF (up M 0 0 (n + 1)) n = upF M n := upF_cg hb n3 n4 (fun i _ _ => ⟨rfl, rfl⟩)
  refine B_X10_lays_0  (Nat.le_refl _) (Nat.le_refl _) C Y ?_
  rw [hM]
  refine ⟨by omega, fun c => ?_, fun c => ⟨_, s_X10_hasValue hn hb1, fun r N hq => ?_⟩⟩
  · refine B_X10_lays_42 (by omega) (by omega) (by omega) (Nat.le_refl _) (Nat.le_refl _) C Y ⟨by omega, fun c1 => absurd c1 c, fun c1 => ?_⟩
    refine ly_83 (M := M) C Y hn hr2 ?_ (fun k i q1 q2 q3 => ?_) (fun i q1 => ?_) (Or.inr (up_s _ _ _ _)) (fun _ => ⟨up_s _ _ _ _, rfl⟩) (fun q => absurd q c) (fun q => ?_) kk
    · rw [up_c (by decide), up_s]
    · rw [up_c q2, up_c q1]
    · rw [up_i q1, up_c (by decide)]
    · rw [up_s] at q; exact absurd q (by decide)
  · obtain ⟨hr, hr1, hE⟩ := hq
    rw [elo, eup] at hr1 hE
    have key : ∀ t : Int, (t = 0 ∨ t = 1) → (t = 1 ↔ roomE (loF M n) (upF M n)) → E (wM g ad) X 0 0 (N) 42 [(0, .ref (ad 0)), (1, vI (n))] [vI (t), vI (n), .ref (ad 6)] := by
      intro t ht ht1
      have hE6 : EdIs (up (up M 0 0 (n + 1)) 6 n t) (up N 6 n t) (loF M n) (upF M n) := by
        obtain ⟨a1, a2, a3, a4, a5⟩ := hE
        refine ⟨a1, a2, a3, a4, fun k i hk => ?_⟩
        by_cases h6 : k = 6
        · subst h6
          by_cases hi : i = n
          · subst hi; rw [up_s, up_s]
          · rw [up_i hi, up_i hi]; exact a5 6 i (by decide)
        · rw [up_c h6, up_c h6]; exact a5 k i hk
      have f0 : up N 6 n t 0 0 = n + 1 := by rw [hE6.2.2.2.2 0 0 (by decide), up_c (by decide), up_s]
      have f1 : ∀ k i, k ≠ 0 → k ≠ 6 → (k < 32 ∨ 35 < k) → up N 6 n t k i = M k i := fun k i q1 q2 q3 => by rw [hE6.2.2.2.2 k i q3, up_c q2, up_c q1]
      have f6 : ∀ i, i ≠ n → up N 6 n t 6 i = M 6 i := fun i q1 => by rw [hE6.2.2.2.2 6 i (by decide), up_i q1, up_c (by decide)]
      have e6 : up N 6 n t 6 n = t := up_s _ _ _ _
      have n1 : N 1 n = M 1 n := hE.2.2.2.2 1 n (by decide)
      refine B_X10_lays_42 (by omega) (by omega) (by omega) (Nat.le_refl _) (Nat.le_refl _) C Y ⟨by omega, fun c1 => ⟨fun c2 => ?_, fun c2 => ?_⟩, fun c1 => absurd (n1.trans c) c1⟩
      · rw [e6] at c2
        refine ly_83 (M := M) C Y hn (by omega) f0 f1 f6 (by rw [e6]; exact ht) (fun q => absurd c q) (fun _ => ⟨by rw [e6]; exact ht1, fun q => by rw [e6] at q; omega⟩) (fun _ => ⟨rfl, hE6.2.2.1, hE6.2.2.2.1, hE6.1, hE6.2.1⟩) kk
      · rw [e6] at c2
        have t1 : t = 1 := by omega
        obtain ⟨v, hv⟩ := hS c (ht1.mp t1)
        have hv2 : Smp (betM (up N 6 n t)) v := hv.cg (fun x => (bet_ed hE6 x).symm)
        refine ⟨_, (s_X10_simplest hv2).toI, fun v' N' hq => ?_⟩
        obtain ⟨rfl, rfl⟩ := hq
        have hvr := hv.2.1
        refine ⟨by omega, ?_⟩
        exact ly_83 (M := M) C Y hn (by omega) f0 f1 f6 (by rw [e6]; exact ht) (fun q => absurd c q) (fun _ => ⟨by rw [e6]; exact ht1, fun _ => hv⟩) (fun q => by rw [e6] at q; omega) kk
    refine ⟨hr, fun c1 => key 0 (by omega) ⟨fun q => by omega, fun q => by have := hr1.mpr q; omega⟩, fun c1 => key 1 (by omega) ⟨fun _ => hr1.mp (by omega), fun _ => rfl⟩⟩
