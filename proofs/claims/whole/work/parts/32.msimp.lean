/-! ===== the reference: the simplest number, the comparison ===== -/
/-- v is the simplest number of P: by the least denominator, then the nearest to 0, the positive one of two -/
def Smp (P : Int → Prop) (v : Int) : Prop := P v ∧ (-20480 ≤ v ∧ v ≤ 20480) ∧ ∃ e : Nat, e ≤ 10 ∧ (2 : Int) ^ e ∣ v ∧ (∀ e' : Nat, e < e' → e' ≤ 10 → ∀ x, (2 : Int) ^ e' ∣ x → -20480 ≤ x → x ≤ 20480 → ¬ P x) ∧ (∀ x, (2 : Int) ^ e ∣ x → x.natAbs < v.natAbs → ¬ P x) ∧ (v < 0 → ¬ P (-v))
theorem pow2_r {e : Nat} (h : e ≤ 10) : 1 ≤ (2 : Int) ^ e ∧ (2 : Int) ^ e ≤ 1024 := by
  rcases (show e = 0 ∨ e = 1 ∨ e = 2 ∨ e = 3 ∨ e = 4 ∨ e = 5 ∨ e = 6 ∨ e = 7 ∨ e = 8 ∨ e = 9 ∨ e = 10 by omega) with rfl | rfl | rfl | rfl | rfl | rfl | rfl | rfl | rfl | rfl | rfl <;> decide
theorem pow2_h {e : Nat} (h : e + 1 ≤ 10) : Int.tdiv ((2 : Int) ^ (e + 1)) 2 = (2 : Int) ^ e := by
  rw [Int.pow_succ, Int.mul_tdiv_cancel _ (by decide)]
theorem sm_10a {g : Gs} {ad : Nat → Nat} {X : Cx} {PQ : Option Value → Mem → Prop} {PX : String → Mem → Prop} (C : OkB (wM g ad) X cX10_simplest RX10 3 2 0 0) (Y : OkR (wM g ad) X (some .int) 0 0 PQ PX) {M : Mem} {b : Int} (hb : 1 ≤ b ∧ b ≤ 1024) (hno : ∀ x, b ∣ x → -20480 ≤ x → x ≤ 20480 → ¬ betM M x) (kk : E (wM g ad) X 0 0 (M) 4 [(0, .ref (ad 0)), (1, vI (Int.tdiv b 2))] []) : ∀ (n : Nat) (x : Int), 0 ≤ x → b ∣ x → x ≤ 21504 → 21505 - x ≤ n → E (wM g ad) X 0 0 (M) 10 [(0, .ref (ad 0)), (1, vI (b)), (2, vI (x))] [] := by
  intro n
  induction n with
  | zero => intro x h1 h2 h3 h4; omega
  | succ n ih =>
    intro x h1 h2 h3 h4
    refine B_X10_simplest_10 (by omega) (by omega) (Nat.le_refl _) (Nat.le_refl _) C Y ⟨fun c => kk, fun c => ⟨fun c1 => ⟨by omega, fun c2 => ⟨by omega, ih (x + b) (by omega) (Int.dvd_add h2 (Int.dvd_refl b)) (by omega) (by omega)⟩, fun c2 => absurd c2 (hno _ (Int.dvd_neg.mpr h2) (by omega) (by omega))⟩, fun c1 => absurd c1 (hno x h2 (by omega) (by omega))⟩⟩
theorem sm_10b {g : Gs} {ad : Nat → Nat} {X : Cx} {PQ : Option Value → Mem → Prop} {PX : String → Mem → Prop} (C : OkB (wM g ad) X cX10_simplest RX10 3 2 0 0) (Y : OkR (wM g ad) X (some .int) 0 0 PQ PX) {M : Mem} {b v : Int} (hb : 1 ≤ b ∧ b ≤ 1024) (hbv : b ∣ v) (hv : -20480 ≤ v ∧ v ≤ 20480) (hP : betM M v) (hno : ∀ x, b ∣ x → x.natAbs < v.natAbs → ¬ betM M x) (hneg : v < 0 → ¬ betM M (-v)) (kk : PQ (some (vI v)) M) : ∀ (n : Nat) (x : Int), 0 ≤ x → b ∣ x → x ≤ v.natAbs → v.natAbs - x ≤ n → E (wM g ad) X 0 0 (M) 10 [(0, .ref (ad 0)), (1, vI (b)), (2, vI (x))] [] := by
  intro n
  have last : ∀ x : Int, x = v.natAbs → E (wM g ad) X 0 0 (M) 10 [(0, .ref (ad 0)), (1, vI (b)), (2, vI (x))] [] := by
    intro x hx
    refine B_X10_simplest_10 (by omega) (by omega) (Nat.le_refl _) (Nat.le_refl _) C Y ⟨fun c => absurd c (by omega), fun c => ⟨fun c1 => ⟨by omega, fun c2 => ?_, fun c2 => ?_⟩, fun c1 => ?_⟩⟩
    · exact absurd hP (by
        rcases (show x = v ∨ -x = v by omega) with h | h
        · rw [← h]; exact c1
        · rw [← h]; exact c2)
    · have : -x = v := by
        rcases (show x = v ∨ -x = v by omega) with h | h
        · exact absurd hP (h ▸ c1)
        · exact h
      rw [this]; exact kk
    · by_cases h : x = v
      · rw [h]; exact kk
      · have h2 : x = -v := by omega
        rw [h2] at c1
        exact absurd c1 (hneg (by omega))
  induction n with
  | zero => intro x h1 h2 h3 h4; exact last x (by omega)
  | succ n ih =>
    intro x h1 h2 h3 h4
    by_cases hx : x = v.natAbs
    · exact last x hx
    · have h5 : b ∣ (v.natAbs : Int) := by
        rcases (show (v.natAbs : Int) = v ∨ (v.natAbs : Int) = -v by omega) with h | h
        · rw [h]; exact hbv
        · rw [h]; exact Int.dvd_neg.mpr hbv
      have h6 := Int.le_of_dvd (by omega) (Int.dvd_sub h5 h2)
      refine B_X10_simplest_10 (by omega) (by omega) (Nat.le_refl _) (Nat.le_refl _) C Y ⟨fun c => absurd c (by omega), fun c => ⟨fun c1 => ⟨by omega, fun c2 => ⟨by omega, ih (x + b) (by omega) (Int.dvd_add h2 (Int.dvd_refl b)) (by omega) (by omega)⟩, fun c2 => absurd c2 (hno _ (Int.dvd_neg.mpr h2) (by omega))⟩, fun c1 => absurd c1 (hno x h2 (by omega))⟩⟩
theorem s_X10_simplest {g : Gs} {ad : Nat → Nat} {M : Mem} {v : Int} (h : Smp (betM M) v) : Sp (wM g ad) yX10_simplest cX10_simplest 3 (some .int) 2 [.ref (ad 0)] (M) (some (vI v)) (M) := by
  intro l9 hl9
  refine ct_of hl9 mi_X10_simplest.2.2.2 (Nat.le_of_ble_eq_true rfl) (fun X _ C Y => ?_)
  show E (wM g ad) X 0 0 (M) 0 [(0, .ref (ad 0))] []
  refine e_wf (fun hw => ?_)
  obtain ⟨hP, hv, e, he, hd, h1, h2, h3⟩ := h
  refine B_X10_simplest_0  (Nat.le_refl _) (Nat.le_refl _) C Y ?_
  have key : ∀ (n e' : Nat), e' ≤ 10 → e + n = e' → E (wM g ad) X 0 0 (M) 4 [(0, .ref (ad 0)), (1, vI ((2 : Int) ^ e'))] [] := by
    intro n
    induction n with
    | zero =>
      intro e' he' hn
      have : e' = e := by omega
      subst this
      have hp := pow2_r he'
      refine B_X10_simplest_4 (by omega) (Nat.le_refl _) (Nat.le_refl _) C Y ⟨fun c => absurd c (by omega), fun c => ?_⟩
      exact sm_10b C Y hp hd hv hP h2 h3 dt_r v.natAbs 0 (by omega) (Int.dvd_zero _) (by omega) (by omega)
    | succ n ih =>
      intro e' he' hn
      have hp := pow2_r he'
      refine B_X10_simplest_4 (by omega) (Nat.le_refl _) (Nat.le_refl _) C Y ⟨fun c => absurd c (by omega), fun c => ?_⟩
      refine sm_10a C Y hp (h1 e' (by omega) he') ?_ 21505 0 (by omega) (Int.dvd_zero _) (by omega) (by omega)
      obtain ⟨e2, rfl⟩ : ∃ e2, e' = e2 + 1 := ⟨e' - 1, by omega⟩
      rw [pow2_h he']
      exact ih e2 (by omega) (by omega)
  exact key (10 - e) 10 (by omega) (by omega)
/-- a >= b, as the reference works it out when both stand in the table but for this -/
def ALf (M : Mem) (a b : Int) : Prop := (M 1 b ≠ 0 ∧ geM M a (M 2 b)) ∨ (M 1 b = 0 ∧ M 1 a ≠ 0 ∧ leM M b (M 2 a)) ∨ (M 1 b = 0 ∧ M 1 a = 0 ∧ (∀ i, 0 ≤ i → i < M 3 (2 * a + 1) → M 12 (40 * b + M 4 (8 * a + 4 * 1 + i)) = 0) ∧ ∀ i, 0 ≤ i → i < M 3 (2 * b + 0) → M 12 (40 * M 4 (8 * b + 4 * 0 + i) + a) = 0)
theorem al_98 {g : Gs} {ad : Nat → Nat} {X : Cx} {PQ : Option Value → Mem → Prop} {PX : String → Mem → Prop} (C : OkB (wM g ad) X cX10_isAtLeast RX10 5 3 0 0) (Y : OkR (wM g ad) X (some .boolean) 0 0 PQ PX) {M : Mem} {a b : Int} {f : Prop} (ha : 0 ≤ a ∧ a < 40) (hb : 0 ≤ b ∧ b < 40) (hob : OpB M b) (k1 : f → (∀ i, 0 ≤ i → i < M 3 (2 * b + 0) → M 12 (40 * M 4 (8 * b + 4 * 0 + i) + a) = 0) → PQ (some (vI 1)) M) (k0 : ¬ (f ∧ ∀ i, 0 ≤ i → i < M 3 (2 * b + 0) → M 12 (40 * M 4 (8 * b + 4 * 0 + i) + a) = 0) → PQ (some (vI 0)) M) :
    ∀ (n : Nat) (j r : Int), 0 ≤ j → j ≤ M 3 (2 * b + 0) → M 3 (2 * b + 0) - j = n → (r = 0 ∨ r = 1) → (r = 1 → f ∧ ∀ i, 0 ≤ i → i < j → M 12 (40 * M 4 (8 * b + 4 * 0 + i) + a) = 0) → (r = 0 → ¬ (f ∧ ∀ i, 0 ≤ i → i < M 3 (2 * b + 0) → M 12 (40 * M 4 (8 * b + 4 * 0 + i) + a) = 0)) → E (wM g ad) X 0 0 (M) 98 [(0, .ref (ad 0)), (1, vI (a)), (2, vI (b)), (3, vI (r)), (4, vI (j))] [] := by
  obtain ⟨hc, hop⟩ := hob 0 (by omega) (by omega)
  intro n
  induction n with
  | zero =>
    intro j r h1 h2 h3 hr hr1 hr0
    refine B_X10_isAtLeast_98 (by omega) (by omega) (by omega) (by omega) (Nat.le_refl _) (Nat.le_refl _) C Y ⟨by omega, fun c => ⟨by omega, ?_⟩, fun c => absurd c (by omega)⟩
    rcases hr with rfl | rfl
    · exact k0 (hr0 rfl)
    · obtain ⟨hf, hq⟩ := hr1 rfl
      exact k1 hf (fun i hi hi2 => hq i hi (by omega))
  | succ n ih =>
    intro j r h1 h2 h3 hr hr1 hr0
    obtain ⟨ho1, ho2⟩ := hop j (by omega) (by omega)
    refine B_X10_isAtLeast_98 (by omega) (by omega) (by omega) (by omega) (Nat.le_refl _) (Nat.le_refl _) C Y ⟨by omega, fun c => absurd c (by omega), fun c => ⟨fun c1 => ⟨by omega, ?_⟩, fun c1 => ⟨by omega, fun c2 => ⟨by omega, ?_⟩, fun c2 => ⟨by omega, ?_⟩⟩⟩⟩
    · subst c1
      exact k0 (hr0 rfl)
    · refine ih (j + 1) 0 (by omega) (by omega) (by omega) (by omega) (fun h => absurd h (by omega)) (fun _ h => c2 (h.2 j h1 (by omega)))
    · obtain ⟨hf, hq⟩ := hr1 (by omega)
      refine ih (j + 1) 1 (by omega) (by omega) (by omega) (by omega) (fun _ => ⟨hf, fun i hi hi2 => ?_⟩) (fun h => absurd h (by omega))
      by_cases hij : i = j
      · subst hij; exact c2
      · exact hq i hi (by omega)
theorem al_47 {g : Gs} {ad : Nat → Nat} {X : Cx} {PQ : Option Value → Mem → Prop} {PX : String → Mem → Prop} (C : OkB (wM g ad) X cX10_isAtLeast RX10 5 3 0 0) (Y : OkR (wM g ad) X (some .boolean) 0 0 PQ PX) {M : Mem} {a b : Int} (ha : 0 ≤ a ∧ a < 40) (hb : 0 ≤ b ∧ b < 40) (hoa : OpB M a) (kk : ∀ r : Int, (r = 0 ∨ r = 1) → (r = 1 ↔ ∀ i, 0 ≤ i → i < M 3 (2 * a + 1) → M 12 (40 * b + M 4 (8 * a + 4 * 1 + i)) = 0) → E (wM g ad) X 0 0 (M) 98 [(0, .ref (ad 0)), (1, vI (a)), (2, vI (b)), (3, vI (r)), (4, vI (0))] []) :
    ∀ (n : Nat) (j r : Int), 0 ≤ j → j ≤ M 3 (2 * a + 1) → M 3 (2 * a + 1) - j = n → (r = 0 ∨ r = 1) → (r = 1 → ∀ i, 0 ≤ i → i < j → M 12 (40 * b + M 4 (8 * a + 4 * 1 + i)) = 0) → (r = 0 → ¬ ∀ i, 0 ≤ i → i < M 3 (2 * a + 1) → M 12 (40 * b + M 4 (8 * a + 4 * 1 + i)) = 0) → E (wM g ad) X 0 0 (M) 47 [(0, .ref (ad 0)), (1, vI (a)), (2, vI (b)), (3, vI (r)), (4, vI (j))] [] := by
  obtain ⟨hc, hop⟩ := hoa 1 (by omega) (by omega)
  intro n
  induction n with
  | zero =>
    intro j r h1 h2 h3 hr hr1 hr0
    refine B_X10_isAtLeast_47 (by omega) (by omega) (by omega) (by omega) (Nat.le_refl _) (Nat.le_refl _) C Y ⟨by omega, fun c => kk r hr ⟨fun h i hi hi2 => hr1 h i hi (by omega), fun h => ?_⟩, fun c => absurd c (by omega)⟩
    rcases hr with rfl | rfl
    · exact absurd h (hr0 rfl)
    · rfl
  | succ n ih =>
    intro j r h1 h2 h3 hr hr1 hr0
    obtain ⟨ho1, ho2⟩ := hop j (by omega) (by omega)
    refine B_X10_isAtLeast_47 (by omega) (by omega) (by omega) (by omega) (Nat.le_refl _) (Nat.le_refl _) C Y ⟨by omega, fun c => absurd c (by omega), fun c => ⟨fun c1 => kk r hr ⟨fun h => absurd h (by omega), fun h => absurd h (hr0 c1)⟩, fun c1 => ⟨by omega, fun c2 => ⟨by omega, ?_⟩, fun c2 => ⟨by omega, ?_⟩⟩⟩⟩
    · exact ih (j + 1) 0 (by omega) (by omega) (by omega) (by omega) (fun h => absurd h (by omega)) (fun _ h => c2 (h j h1 (by omega)))
    · refine ih (j + 1) 1 (by omega) (by omega) (by omega) (by omega) (fun _ i hi hi2 => ?_) (fun h => absurd h (by omega))
      by_cases hij : i = j
      · subst hij; exact c2
      · exact hr1 (by omega) i hi (by omega)
theorem s_X10_isAtLeast {g : Gs} {ad : Nat → Nat} {M : Mem} {a b : Int} (ha : 0 ≤ a ∧ a < 40) (hb : 0 ≤ b ∧ b < 40) (hoa : OpB M a) (hob : OpB M b) : SpI (wM g ad) yX10_isAtLeast cX10_isAtLeast 5 (some .boolean) 3 [.ref (ad 0), vI (a), vI (b)] (M) (fun r N => M = N ∧ B01 r ∧ (r = 1 ↔ ALf M a b)) := by
  intro l9 hl9
  refine ct_of hl9 mi_X10_isAtLeast.2.2.2 (Nat.le_of_ble_eq_true rfl) (fun X _ C Y => ?_)
  show E (wM g ad) X 0 0 (M) 0 [(0, .ref (ad 0)), (1, vI (a)), (2, vI (b))] []
  refine e_wf (fun hw => ?_)
  have hca := (hoa 1 (by omega) (by omega)).1
  have hcb := (hob 0 (by omega) (by omega)).1
  refine B_X10_isAtLeast_0 (by omega) (by omega) (Nat.le_refl _) (Nat.le_refl _) C Y ⟨hb, fun c => ⟨ha, fun c1 => ?_, fun c1 => ⟨_, rfl, rfl, b2i_01 _, b2i_1.trans ?_⟩⟩, fun c => ⟨ha, _, rfl, rfl, b2i_01 _, b2i_1.trans ?_⟩⟩
  · refine al_47 C Y ha hb hoa (fun r hr hr1 => ?_) (M 3 (2 * a + 1)).toNat 0 1 (by omega) (by omega) (by omega) (by omega) (fun _ i hi hi2 => absurd hi2 (by omega)) (fun h => absurd h (by omega))
    refine al_98 (f := r = 1) C Y ha hb hob (fun hf hq => ⟨1, rfl, rfl, by omega, ⟨fun _ => Or.inr (Or.inr ⟨c, c1, hr1.mp hf, hq⟩), fun _ => rfl⟩⟩) (fun hn => ⟨0, rfl, rfl, by omega, ⟨fun h => absurd h (by omega), fun h => ?_⟩⟩) (M 3 (2 * b + 0)).toNat 0 r (by omega) (by omega) (by omega) hr (fun h => ⟨h, fun i hi hi2 => absurd hi2 (by omega)⟩) (fun h q => by omega)
    rcases h with h | h | h
    · exact absurd c h.1
    · exact absurd c1 h.2.1
    · exact absurd ⟨hr1.mpr h.2.2.1, h.2.2.2⟩ hn
  · constructor
    · intro h; exact Or.inr (Or.inl ⟨c, c1, h⟩)
    · rintro (h | h | h)
      · exact absurd c h.1
      · exact h.2.2
      · exact absurd h.2.1 c1
  · constructor
    · intro h; exact Or.inl ⟨c, h⟩
    · rintro (h | h | h)
      · exact h.2
      · exact absurd h.1 c
      · exact absurd h.1 c
