/-! ===== the reference: has a game a value ===== -/
/-- the options of g: counts, places below 40 -/
def OpB (M : Mem) (z : Int) : Prop := ∀ s, 0 ≤ s → s ≤ 1 → (0 ≤ M 3 (2 * z + s) ∧ M 3 (2 * z + s) ≤ 4) ∧ ∀ i, 0 ≤ i → i < M 3 (2 * z + s) → 0 ≤ M 4 (8 * z + 4 * s + i) ∧ M 4 (8 * z + 4 * s + i) < 40
/-- lower edge and whether it is in, of the first k left options -/
def loS (M : Mem) (z : Int) : Nat → Int × Int
  | 0 => (-1000000, 0)
  | k + 1 => if (loS M z k).1 < M 8 (M 4 (8 * z + 4 * 0 + (k : Int))) then (M 8 (M 4 (8 * z + 4 * 0 + (k : Int))), if M 9 (M 4 (8 * z + 4 * 0 + (k : Int))) = 0 then 1 else 0)
    else if M 8 (M 4 (8 * z + 4 * 0 + (k : Int))) = (loS M z k).1 then ((loS M z k).1, if (loS M z k).2 ≠ 0 ∧ M 9 (M 4 (8 * z + 4 * 0 + (k : Int))) = 0 then 1 else 0) else loS M z k
/-- upper edge and whether it is in, of the first k right options -/
def upS (M : Mem) (z : Int) : Nat → Int × Int
  | 0 => (1000000, 0)
  | k + 1 => if M 10 (M 4 (8 * z + 4 * 1 + (k : Int))) < (upS M z k).1 then (M 10 (M 4 (8 * z + 4 * 1 + (k : Int))), if M 11 (M 4 (8 * z + 4 * 1 + (k : Int))) = 0 then 1 else 0)
    else if M 10 (M 4 (8 * z + 4 * 1 + (k : Int))) = (upS M z k).1 then ((upS M z k).1, if (upS M z k).2 ≠ 0 ∧ M 11 (M 4 (8 * z + 4 * 1 + (k : Int))) = 0 then 1 else 0) else upS M z k
/-- N is M but for the edges -/
def EdIs (M N : Mem) (l u : Int × Int) : Prop := N 32 0 = l.1 ∧ N 33 0 = l.2 ∧ N 34 0 = u.1 ∧ N 35 0 = u.2 ∧ ∀ c i, (c < 32 ∨ 35 < c) → N c i = M c i
theorem ed_lo {M N : Mem} {l u : Int × Int} (h : EdIs M N l u) (a b : Int) : EdIs M (up (up N 33 0 b) 32 0 a) (a, b) u := by
  refine ⟨up_s _ _ _ _, ?_, ?_, ?_, fun c i hc => ?_⟩
  · rw [up_c (by decide), up_s]
  · rw [up_c (by decide), up_c (by decide)]; exact h.2.2.1
  · rw [up_c (by decide), up_c (by decide)]; exact h.2.2.2.1
  · rw [up_c (by omega), up_c (by omega)]; exact h.2.2.2.2 c i hc
theorem ed_up {M N : Mem} {l u : Int × Int} (h : EdIs M N l u) (a b : Int) : EdIs M (up (up N 35 0 b) 34 0 a) l (a, b) := by
  refine ⟨?_, ?_, up_s _ _ _ _, ?_, fun c i hc => ?_⟩
  · rw [up_c (by decide), up_c (by decide)]; exact h.1
  · rw [up_c (by decide), up_c (by decide)]; exact h.2.1
  · rw [up_c (by decide), up_s]
  · rw [up_c (by omega), up_c (by omega)]; exact h.2.2.2.2 c i hc
def roomE (l u : Int × Int) : Prop := l.1 < u.1 ∨ (l.1 = u.1 ∧ l.2 ≠ 0 ∧ u.2 ≠ 0)
noncomputable def roomD (l u : Int × Int) : Int := by classical exact b2i (roomE l u)
theorem hv_114 {g : Gs} {ad : Nat → Nat} {X : Cx} {PQ : Option Value → Mem → Prop} {PX : String → Mem → Prop} (C : OkB (wM g ad) X cX10_hasValue RX10 4 3 0 0) (Y : OkR (wM g ad) X (some .boolean) 0 0 PQ PX) {M N : Mem} {z k o t : Int} {l u : Int × Int} (hN : EdIs M N l u) (hz : 0 ≤ z ∧ z < 40) (hk : 0 ≤ k ∧ k < 4) (ho : 0 ≤ o ∧ o < 40) (ht : t = 0 ∨ t = 1)
    (kk : ∀ N', EdIs M N' (if l.1 < M 8 o then (M 8 o, t) else (l.1, t)) u → E (wM g ad) X 0 0 (N') 24 [(0, .ref (ad 0)), (1, vI (z)), (2, vI (k + 1))] []) : E (wM g ad) X 0 0 (N) 114 [(0, .ref (ad 0)), (1, vI (z)), (2, vI (k)), (3, vI (o))] [vI (t), .ref (ad 0)] := by
  have h8 := hN.2.2.2.2 8 o (by decide)
  have h32 := hN.1
  refine B_X10_hasValue_114 (by omega) (by omega) (by omega) (by omega) (Nat.le_refl _) (Nat.le_refl _) C Y ⟨by omega, fun c => ⟨by omega, kk _ ?_⟩, fun c => ⟨by omega, kk _ ?_⟩⟩
  · rw [if_neg (by omega)]
    have h9 := ed_lo hN (N 32 0) t
    rw [h32] at h9
    rw [h32]
    exact h9
  · rw [if_pos (by omega), ← h8]
    exact ed_lo hN (N 8 o) t
theorem hv_24 {g : Gs} {ad : Nat → Nat} {X : Cx} {PQ : Option Value → Mem → Prop} {PX : String → Mem → Prop} (C : OkB (wM g ad) X cX10_hasValue RX10 4 3 0 0) (Y : OkR (wM g ad) X (some .boolean) 0 0 PQ PX) {M : Mem} {z : Int} (hz : 0 ≤ z ∧ z < 40) (hb : OpB M z) (kk : ∀ N, EdIs M N (loS M z (M 3 (2 * z + 0)).toNat) (1000000, 0) → E (wM g ad) X 0 0 (N) 155 [(0, .ref (ad 0)), (1, vI (z)), (2, vI (0))] []) :
    ∀ (n k : Nat), (k : Int) + n = M 3 (2 * z + 0) → ∀ N, EdIs M N (loS M z k) (1000000, 0) → E (wM g ad) X 0 0 (N) 24 [(0, .ref (ad 0)), (1, vI (z)), (2, vI (k))] [] := by
  obtain ⟨hc, hop⟩ := hb 0 (by omega) (by omega)
  intro n
  induction n with
  | zero =>
    intro k hk N hN
    have h3 := hN.2.2.2.2 3 (2 * z + 0) (by decide)
    have e : (M 3 (2 * z + 0)).toNat = k := by omega
    rw [e] at kk
    exact B_X10_hasValue_24 (by omega) (by omega) (Nat.le_refl _) (Nat.le_refl _) C Y ⟨by omega, fun c => kk N hN, fun c => absurd c (by omega)⟩
  | succ n ih =>
    intro k hk N hN
    have h3 := hN.2.2.2.2 3 (2 * z + 0) (by decide)
    have h4 := hN.2.2.2.2 4 (8 * z + 4 * 0 + k) (by decide)
    obtain ⟨ho1, ho2⟩ := hop k (by omega) (by omega)
    have hg : ∀ t : Int, (t = 0 ∨ t = 1) → ((if (loS M z k).1 < M 8 (M 4 (8 * z + 4 * 0 + k)) then (M 8 (M 4 (8 * z + 4 * 0 + k)), t) else ((loS M z k).1, t)) = loS M z (k + 1)) → E (wM g ad) X 0 0 (N) 114 [(0, .ref (ad 0)), (1, vI (z)), (2, vI (k)), (3, vI (N 4 (8 * z + 4 * 0 + k)))] [vI (t), .ref (ad 0)] := by
      intro t ht he
      rw [h4]
      refine hv_114 C Y hN hz (by omega) ⟨ho1, ho2⟩ ht (fun N' hN' => ?_)
      rw [he] at hN'
      exact ih (k + 1) (by omega) N' hN'
    have h8 := hN.2.2.2.2 8 (M 4 (8 * z + 4 * 0 + k)) (by decide)
    have h9 := hN.2.2.2.2 9 (M 4 (8 * z + 4 * 0 + k)) (by decide)
    have e32 := hN.1
    have e33 := hN.2.1
    refine e_wf (fun hw => ?_)
    have b33 := hw.2.2 33 0 rfl
    refine B_X10_hasValue_24 (by omega) (by omega) (Nat.le_refl _) (Nat.le_refl _) C Y ⟨by omega, fun c => absurd c (by omega), fun c => ⟨by omega, fun c1 => ⟨fun c2 => ?_, fun c2 => ⟨fun c3 => ?_, fun c3 => ⟨fun c4 => ?_, fun c4 => ?_⟩⟩⟩, fun c1 => ⟨fun c2 => ?_, fun c2 => ?_⟩⟩⟩
    · rw [h4, h8] at c1 c2
      refine hg _ b33 ?_
      rw [loS, if_neg (by omega), if_neg (by omega), if_neg (by omega), e33]
    · rw [h4, h8] at c1 c2
      refine hg _ (by omega) ?_
      rw [loS, if_neg (by omega), if_neg (by omega), if_pos (by omega), if_neg (by omega)]
    · rw [h4, h8] at c1 c2
      rw [h4, h9] at c4
      refine hg _ (by omega) ?_
      rw [loS, if_neg (by omega), if_neg (by omega), if_pos (by omega), if_neg (by omega)]
    · rw [h4, h8] at c1 c2
      rw [h4, h9] at c4
      refine hg _ (by omega) ?_
      rw [loS, if_neg (by omega), if_neg (by omega), if_pos (by omega), if_pos (by omega)]
    · rw [h4, h8] at c1
      rw [h4, h9] at c2
      refine hg _ (by omega) ?_
      rw [loS, if_pos (by omega), if_pos (by omega), if_neg (by omega)]
    · rw [h4, h8] at c1
      rw [h4, h9] at c2
      refine hg _ (by omega) ?_
      rw [loS, if_pos (by omega), if_pos (by omega), if_pos (by omega)]
theorem hv_245 {g : Gs} {ad : Nat → Nat} {X : Cx} {PQ : Option Value → Mem → Prop} {PX : String → Mem → Prop} (C : OkB (wM g ad) X cX10_hasValue RX10 4 3 0 0) (Y : OkR (wM g ad) X (some .boolean) 0 0 PQ PX) {M N : Mem} {z k o t : Int} {l u : Int × Int} (hN : EdIs M N l u) (hz : 0 ≤ z ∧ z < 40) (hk : 0 ≤ k ∧ k < 4) (ho : 0 ≤ o ∧ o < 40) (ht : t = 0 ∨ t = 1)
    (kk : ∀ N', EdIs M N' l (if M 10 o < u.1 then (M 10 o, t) else (u.1, t)) → E (wM g ad) X 0 0 (N') 155 [(0, .ref (ad 0)), (1, vI (z)), (2, vI (k + 1))] []) : E (wM g ad) X 0 0 (N) 245 [(0, .ref (ad 0)), (1, vI (z)), (2, vI (k)), (3, vI (o))] [vI (t), .ref (ad 0)] := by
  have h8 := hN.2.2.2.2 10 o (by decide)
  have h32 := hN.2.2.1
  refine B_X10_hasValue_245 (by omega) (by omega) (by omega) (by omega) (Nat.le_refl _) (Nat.le_refl _) C Y ⟨by omega, fun c => ⟨by omega, kk _ ?_⟩, fun c => ⟨by omega, kk _ ?_⟩⟩
  · rw [if_neg (by omega)]
    have h9 := ed_up hN (N 34 0) t
    rw [h32] at h9
    rw [h32]
    exact h9
  · rw [if_pos (by omega), ← h8]
    exact ed_up hN (N 10 o) t
theorem hv_155 {g : Gs} {ad : Nat → Nat} {X : Cx} {PQ : Option Value → Mem → Prop} {PX : String → Mem → Prop} (C : OkB (wM g ad) X cX10_hasValue RX10 4 3 0 0) (Y : OkR (wM g ad) X (some .boolean) 0 0 PQ PX) {M : Mem} {z : Int} {l : Int × Int} (hz : 0 ≤ z ∧ z < 40) (hb : OpB M z) (kk : ∀ N, EdIs M N l (upS M z (M 3 (2 * z + 1)).toNat) → (roomE l (upS M z (M 3 (2 * z + 1)).toNat) → PQ (some (vI 1)) N) ∧ (¬ roomE l (upS M z (M 3 (2 * z + 1)).toNat) → PQ (some (vI 0)) N)) :
    ∀ (n k : Nat), (k : Int) + n = M 3 (2 * z + 1) → ∀ N, EdIs M N l (upS M z k) → E (wM g ad) X 0 0 (N) 155 [(0, .ref (ad 0)), (1, vI (z)), (2, vI (k))] [] := by
  obtain ⟨hc, hop⟩ := hb 1 (by omega) (by omega)
  intro n
  induction n with
  | zero =>
    intro k hk N hN
    have h3 := hN.2.2.2.2 3 (2 * z + 1) (by decide)
    have e : (M 3 (2 * z + 1)).toNat = k := by omega
    rw [e] at kk
    obtain ⟨k1, k0⟩ := kk N hN
    obtain ⟨e32, e33, e34, e35, -⟩ := hN
    refine B_X10_hasValue_155 (by omega) (by omega) (Nat.le_refl _) (Nat.le_refl _) C Y ⟨by omega, fun c => ⟨fun c1 => k1 ?_, fun c1 => ⟨fun c2 => k0 ?_, fun c2 => ⟨fun c3 => k0 ?_, fun c3 => ⟨fun c4 => k0 ?_, fun c4 => k1 ?_⟩⟩⟩⟩, fun c => absurd c (by omega)⟩ <;> (unfold roomE; omega)
  | succ n ih =>
    intro k hk N hN
    have h3 := hN.2.2.2.2 3 (2 * z + 1) (by decide)
    have h4 := hN.2.2.2.2 4 (8 * z + 4 * 1 + k) (by decide)
    obtain ⟨ho1, ho2⟩ := hop k (by omega) (by omega)
    have hg : ∀ t : Int, (t = 0 ∨ t = 1) → ((if M 10 (M 4 (8 * z + 4 * 1 + k)) < (upS M z k).1 then (M 10 (M 4 (8 * z + 4 * 1 + k)), t) else ((upS M z k).1, t)) = upS M z (k + 1)) → E (wM g ad) X 0 0 (N) 245 [(0, .ref (ad 0)), (1, vI (z)), (2, vI (k)), (3, vI (N 4 (8 * z + 4 * 1 + k)))] [vI (t), .ref (ad 0)] := by
      intro t ht he
      rw [h4]
      refine hv_245 C Y hN hz (by omega) ⟨ho1, ho2⟩ ht (fun N' hN' => ?_)
      rw [he] at hN'
      exact ih (k + 1) (by omega) N' hN'
    have h8 := hN.2.2.2.2 10 (M 4 (8 * z + 4 * 1 + k)) (by decide)
    have h9 := hN.2.2.2.2 11 (M 4 (8 * z + 4 * 1 + k)) (by decide)
    have e32 := hN.2.2.1
    have e33 := hN.2.2.2.1
    refine e_wf (fun hw => ?_)
    have b33 := hw.2.2 35 0 rfl
    refine B_X10_hasValue_155 (by omega) (by omega) (Nat.le_refl _) (Nat.le_refl _) C Y ⟨by omega, fun c => absurd c (by omega), fun c => ⟨by omega, fun c1 => ⟨fun c2 => ?_, fun c2 => ⟨fun c3 => ?_, fun c3 => ⟨fun c4 => ?_, fun c4 => ?_⟩⟩⟩, fun c1 => ⟨fun c2 => ?_, fun c2 => ?_⟩⟩⟩
    · rw [h4, h8] at c1 c2
      refine hg _ b33 ?_
      rw [upS, if_neg (by omega), if_neg (by omega), if_neg (by omega), e33]
    · rw [h4, h8] at c1 c2
      refine hg _ (by omega) ?_
      rw [upS, if_neg (by omega), if_neg (by omega), if_pos (by omega), if_neg (by omega)]
    · rw [h4, h8] at c1 c2
      rw [h4, h9] at c4
      refine hg _ (by omega) ?_
      rw [upS, if_neg (by omega), if_neg (by omega), if_pos (by omega), if_neg (by omega)]
    · rw [h4, h8] at c1 c2
      rw [h4, h9] at c4
      refine hg _ (by omega) ?_
      rw [upS, if_neg (by omega), if_neg (by omega), if_pos (by omega), if_pos (by omega)]
    · rw [h4, h8] at c1
      rw [h4, h9] at c2
      refine hg _ (by omega) ?_
      rw [upS, if_pos (by omega), if_pos (by omega), if_neg (by omega)]
    · rw [h4, h8] at c1
      rw [h4, h9] at c2
      refine hg _ (by omega) ?_
      rw [upS, if_pos (by omega), if_pos (by omega), if_pos (by omega)]
def loF (M : Mem) (z : Int) : Int × Int := loS M z (M 3 (2 * z + 0)).toNat
def upF (M : Mem) (z : Int) : Int × Int := upS M z (M 3 (2 * z + 1)).toNat
theorem s_X10_hasValue {g : Gs} {ad : Nat → Nat} {M : Mem} {z : Int} (hz : 0 ≤ z ∧ z < 40) (hb : OpB M z) : SpI (wM g ad) yX10_hasValue cX10_hasValue 4 (some .boolean) 3 [.ref (ad 0), vI (z)] (M) (fun r N => B01 r ∧ (r = 1 ↔ roomE (loF M z) (upF M z)) ∧ EdIs M N (loF M z) (upF M z)) := by
  intro l9 hl9
  refine ct_of hl9 mi_X10_hasValue.2.2.2 (Nat.le_of_ble_eq_true rfl) (fun X _ C Y => ?_)
  show E (wM g ad) X 0 0 (M) 0 [(0, .ref (ad 0)), (1, vI (z))] []
  refine e_wf (fun hw => ?_)
  have h0 : EdIs M (up (up (up (up M 32 0 (-1000000)) 33 0 0) 34 0 1000000) 35 0 0) (-1000000, 0) (1000000, 0) := by
    refine ⟨rfl, rfl, rfl, rfl, fun c i hc => ?_⟩
    rw [up_c (by omega), up_c (by omega), up_c (by omega), up_c (by omega)]
  obtain ⟨hc0, -⟩ := hb 0 (by omega) (by omega)
  obtain ⟨hc1, -⟩ := hb 1 (by omega) (by omega)
  refine B_X10_hasValue_0 (by omega) (Nat.le_refl _) (Nat.le_refl _) C Y ?_
  refine hv_24 C Y hz hb (fun N hN => ?_) (M 3 (2 * z + 0)).toNat 0 (by omega) _ h0
  refine hv_155 C Y hz hb (fun N' hN' => ⟨fun hr => ⟨1, rfl, Or.inr rfl, ⟨fun _ => hr, fun _ => rfl⟩, hN'⟩, fun hr => ⟨0, rfl, Or.inl rfl, ⟨fun h => absurd h (by decide), fun h => absurd h hr⟩, hN'⟩⟩) (M 3 (2 * z + 1)).toNat 0 (by omega) N hN
