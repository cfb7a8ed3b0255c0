/-! ===== the class: negate ===== -/
theorem xn_5 {g : Gs} {ad : Nat → Nat} {sk : (Nat → Nat) × (Nat → Nat)} {X : Cx} {PQ : Option Value → Mem → Prop} {PX : String → Mem → Prop} (C : OkB (wC g ad sk) X cX1_negated RX1 6 2 0 0) (Y : OkR (wC g ad sk) X (some .long) 0 0 PQ PX) {G B : Mem} {n y s : Int} (hX : RepX G B n) (hn0 : G 0 0 = n) (hy : 0 ≤ y ∧ y < n) (hs : s = 0 ∨ s = 1) (ho : ∀ i, 0 ≤ i → i < G 3 (2 * y + s) → 0 ≤ B 35 (opt G y s i) ∧ B 35 (opt G y s i) < n) (kk : ∀ w, NgW (fun x => B 35 x) G y s w → PQ (some (vL w)) B) : ∀ (m : Nat) (j w : Int), 0 ≤ j → j + m = G 3 (2 * y + s) → Wd40 w n → (∀ x, 0 ≤ x → x < 40 → (tb w x = true ↔ ∃ i, 0 ≤ i ∧ i < j ∧ B 35 (opt G y s i) = x)) → E (wC g ad sk) X 0 0 (B) 5 [(0, .ref (ad 6)), (1, .ref (ad (44 + 6 * (Int.toNat y)))), (2, vI (s)), (3, vL (w)), (5, vI (j))] [] := by
  have hG := hX.2.2.1
  have h40 := hG.2.1
  have hrw := repG_rw (hG.2.2 y hy.1 hy.2).1.1 (hX.2.2.2.1 y hy.1 hy.2)
  have ob := opS_r hrw.1 (s := s) (by omega)
  have c41 := (hrw.2 s (by omega) (by omega)).1
  intro m
  induction m with
  | zero =>
    intro j w j1 j2 hw9 ht
    have rw9 := hw9.1
    have : j = G 3 (2 * y + s) := by omega
    subst this
    exact B_X1_negated_5 (by omega) (by omega) (rw9) (by omega) (Nat.zero_le _) (Nat.zero_le _) C Y ⟨by omega, fun c => kk w ⟨by rw [hn0]; exact hw9, ht⟩, fun c => absurd c (by omega)⟩
  | succ m ih =>
    intro j w j1 j2 hw9 ht
    have rw9 := hw9.1
    have eo := rw_opt hrw (s := s) (i := j) (by omega) (by omega)
    have oj := ob.2.2 j j1 (by omega)
    have bj := ho j j1 (by omega)
    refine B_X1_negated_5 (by omega) (by omega) (rw9) (by omega) (Nat.zero_le _) (Nat.zero_le _) C Y ⟨by omega, fun c => absurd c (by omega), fun c => ⟨by rw [eo]; omega, ?_⟩⟩
    rw [eo]
    refine ih (j + 1) _ (by omega) (by omega) (wd_or hw9 bj h40) (fun x x1 x2 => ?_)
    rw [tb_or, Bool.or_eq_true, tb_bit (by omega) (by omega), decide_eq_true_eq, ht x x1 x2]
    constructor
    · rintro (⟨i, i1, i2, i3⟩ | e)
      · exact ⟨i, i1, by omega, i3⟩
      · exact ⟨j, j1, by omega, e.symm⟩
    · rintro ⟨i, i1, i2, i3⟩
      by_cases e : i = j
      · subst e; exact Or.inr i3.symm
      · exact Or.inl ⟨i, i1, by omega, i3⟩
theorem x_negated {g : Gs} {ad : Nat → Nat} {sk : (Nat → Nat) × (Nat → Nat)} {G B : Mem} {n y s : Int} (hX : RepX G B n) (hn0 : G 0 0 = n) (hy : 0 ≤ y ∧ y < n) (hs : s = 0 ∨ s = 1) (ho : ∀ i, 0 ≤ i → i < G 3 (2 * y + s) → 0 ≤ B 35 (opt G y s i) ∧ B 35 (opt G y s i) < n) : SpL (wC g ad sk) yX1_negated cX1_negated 6 (some .long) 2 [.ref (ad 6), .ref (ad (44 + 6 * (Int.toNat y))), vI (s)] (B) (fun w P => NgW (fun x => B 35 x) G y s w ∧ P = B) := by
  have h40 := hX.2.2.1.2.1
  intro l9 hl9
  refine ct_of hl9 mi_X1_negated.2.2.2 (Nat.le_of_ble_eq_true rfl) (fun X _ C Y => ?_)
  show E (wC g ad sk) X 0 0 (B) 0 [(0, .ref (ad 6)), (1, .ref (ad (44 + 6 * (Int.toNat y)))), (2, vI (s))] []
  refine e_wf (fun hw => ?_)
  have ob := opS_r (hX.2.2.1.2.2 y hy.1 hy.2).1.1 (s := s) (by omega)
  refine B_X1_negated_0 (by omega) (by omega) (Nat.zero_le _) (Nat.zero_le _) C Y ?_
  exact xn_5 C Y hX hn0 hy hs ho (fun w h => ⟨_, rfl, h, rfl⟩) (G 3 (2 * y + s)).toNat 0 0 (by omega) (by omega) ⟨by decide, fun x x1 x2 q => by rw [tb_0 ⟨x1, x2⟩] at q; exact absurd q (by decide)⟩ (fun x x1 x2 => by rw [tb_0 (by omega)]; exact ⟨fun q => absurd q (by decide), fun ⟨i, i1, i2, _⟩ => by omega⟩)
theorem x_negateOne {g : Gs} {ad : Nat → Nat} {sk : (Nat → Nat) × (Nat → Nat)} {G B : Mem} {n y : Int} (hX : RepX G B n) (hn0 : G 0 0 = n) (hy : 0 ≤ y ∧ y < n) (ho : ∀ s i, 0 ≤ s → s ≤ 1 → 0 ≤ i → i < G 3 (2 * y + s) → 0 ≤ B 35 (opt G y s i) ∧ B 35 (opt G y s i) < n) : SpI (wC g ad sk) yX1_negateOne cX1_negateOne 2 (some .int) 5 [.ref (ad 6), .ref (ad (44 + 6 * (Int.toNat y)))] (B) (fun r P => (-1 ≤ r ∧ r < 40) ∧ ∃ G', NgS G (fun x => B 35 x) y r G' ∧ RepX G' P (G' 0 0) ∧ FrG B P) := by
  have hG := hX.2.2.1
  have h40 := hG.2.1
  intro l9 hl9
  refine ct_of hl9 mi_X1_negateOne.2.2.2 (Nat.le_of_ble_eq_true rfl) (fun X _ C Y => ?_)
  show E (wC g ad sk) X 0 0 (B) 0 [(0, .ref (ad 6)), (1, .ref (ad (44 + 6 * (Int.toNat y))))] []
  refine e_wf (fun hw => ?_)
  obtain ⟨a1, a2, a3⟩ := (hX.2.2.2.1 y hy.1 hy.2).1
  refine B_X1_negateOne_0 (by omega) (Nat.zero_le _) (Nat.zero_le _) C Y ⟨fun c => ⟨_, x_negated hX hn0 hy (Or.inr rfl) (fun i i1 i2 => ho 1 i (by omega) (by omega) i1 i2), fun l P hP => ?_⟩, fun c => ?_⟩
  · obtain ⟨hl, rfl⟩ := hP
    refine ⟨hl.1.1, _, x_negated hX hn0 hy (Or.inl rfl) (fun i i1 i2 => ho 0 i (by omega) (by omega) i1 i2), fun q P2 hP => ?_⟩
    obtain ⟨hq, rfl⟩ := hP
    refine ⟨hq.1.1, _, x_compose hX (by rw [← hn0]; exact hl.1) (by rw [← hn0]; exact hq.1), fun r P3 hP => ?_⟩
    obtain ⟨G', hc, hX', hf⟩ := hP
    have rr : -1 ≤ r ∧ r < 40 := by rcases hc with ⟨a, -⟩ | ⟨a, b, -⟩ | ⟨a, b, -⟩ <;> have := hG.1 <;> omega
    refine ⟨by omega, _, rfl, rr, G', Or.inr ⟨a2.mp (by omega), l, q, hl, hq, by rw [hn0]; exact hc⟩, hX', hf⟩
  · have n1 : G 1 y ≠ 0 := fun q => by have := a2.mpr q; omega
    obtain ⟨-, -, -, x, x1, x2, x3⟩ := (hG.2.2 y hy.1 hy.2).1.2.2.2.1 n1
    have x4 := a3 n1
    have e : -(B 46 y) = -(G 2 y / 128) := by omega
    refine ⟨by omega, _, x_makeNumber hX (e := -(B 46 y)) (by omega), fun r P hP => ?_⟩
    obtain ⟨G', hc, hX', hf⟩ := hP
    have rr : -1 ≤ r ∧ r < 40 := by rcases hc with ⟨a, b, -⟩ | ⟨a, -⟩ | ⟨a, b, -⟩ <;> have := hG.1 <;> omega
    exact ⟨by omega, _, rfl, rr, G', Or.inl ⟨n1, by rw [hn0, ← e]; exact hc⟩, hX', hf⟩
theorem xne_16 {g : Gs} {ad : Nat → Nat} {sk : (Nat → Nat) × (Nat → Nat)} {X : Cx} {PQ : Option Value → Mem → Prop} {PX : String → Mem → Prop} (C : OkB (wC g ad sk) X cX1_negate RX1 6 6 0 0) (Y : OkR (wC g ad sk) X (some .int) 0 0 PQ PX) {A M : Mem} {z w : Int} (hX : RepX M A (M 0 0)) (hz : 0 ≤ z ∧ z < M 0 0) (hwd : R64 w) (hw9 : ∀ x, 0 ≤ x → x < 40 → (tb w x = true ↔ Pt M AllG z x)) (kk : ∀ r G B, NgR M z r G → RepX G B (G 0 0) → FrJ A B → R32 r → PQ (some (vI r)) B) : ∀ (m k : Nat), (k : Int) + m = z + 1 → ∀ G B, NgC M z k G (fun x => B 35 x) → RepX G B (G 0 0) → FrJ A B → E (wC g ad sk) X 0 0 (B) 16 [(0, .ref (ad 6)), (1, vI (z)), (2, vL (w)), (4, vI (k))] [] := by
  have hM := hX.2.2.1
  have h40 := hM.2.1
  intro m
  induction m with
  | zero =>
    intro k hk G B c hB f
    have ok := ngC_ok hM hz k G _ (by omega) c
    have zz := ok.2.2.2 z hz.1 (by omega) ((pt_eq hM hz).mpr (Or.inl rfl))
    have g40 := ok.1.2.1
    refine B_X1_negate_16 (by omega) (hwd) (by omega) (Nat.zero_le _) (Nat.zero_le _) C Y ⟨fun _ => ⟨by omega, kk _ G B (Or.inl ⟨by omega, _, by rw [show z.toNat + 1 = k by omega]; exact c, rfl⟩) hB f (by omega)⟩, fun q => absurd q (by omega)⟩
  | succ m ih =>
    intro k hk G B c hB f
    have ok := ngC_ok hM hz k G _ (by omega) c
    have hkz : (k : Int) ≤ z := by omega
    refine B_X1_negate_16 (by omega) (hwd) (by omega) (Nat.zero_le _) (Nat.zero_le _) C Y ⟨fun q => absurd q (by omega), fun _ => ⟨fun c1 => ⟨by omega, ?_⟩, fun c1 => ⟨by omega, ?_⟩⟩⟩
    · rw [has_tb (by omega), hw9 k (by omega) (by omega)] at c1
      exact ih (k + 1) (by omega) G B (Or.inl ⟨c1, c⟩) hB f
    · rw [has_tb (by omega), hw9 k (by omega) (by omega)] at c1
      have od : ∀ s i, 0 ≤ s → s ≤ 1 → 0 ≤ i → i < G 3 (2 * (k : Int) + s) → 0 ≤ B 35 (opt G k s i) ∧ B 35 (opt G k s i) < G 0 0 := by
        intro s i s1 s2 i1 i2
        have e3 : G 3 (2 * (k : Int) + s) = M 3 (2 * k + s) := ok.2.2.1.ct ⟨by omega, by omega⟩ ⟨s1, s2⟩
        have e4 : opt G k s i = opt M k s i := ok.2.2.1.op ⟨by omega, by omega⟩ ⟨s1, s2⟩ ⟨i1, by omega⟩
        have o := (opS_r (hM.2.2 k (by omega) (by omega)).1.1 ⟨s1, s2⟩).2.2 i i1 (by omega)
        rw [e4]
        exact ok.2.2.2 _ o.1 (by omega) (pt_tr hM hz c1 trivial ⟨s1, s2⟩ ⟨i1, by omega⟩)
      refine ⟨_, x_negateOne hB rfl (y := k) ⟨by omega, by omega⟩ od, fun r P hP => ?_⟩
      obtain ⟨rr, G', hs, hX', hf⟩ := hP
      refine ⟨by omega, fun c2 => ⟨by omega, ?_⟩, fun c2 => ?_⟩
      · refine ih (k + 1) (by omega) G' _ (Or.inr ⟨c1, G, _, r, c, c2, hs, fun x => ?_⟩) (hX'.cx (fun c i hc => up_c (by omega))) (fun c i hc => by rw [up_c (by omega)]; exact (hf.j c i hc).trans (f c i hc))
        split
        · rename_i q; rw [q]; exact up_s _ _ _ _
        · rename_i q; exact (up_i q).trans (hf 35 x (by omega))
      · subst c2
        exact kk (-1) G' P (Or.inr ⟨rfl, k, G, _, hkz, c1, c, hs⟩) hX' (f.trans hf.j) (by decide)
theorem x_negate {g : Gs} {ad : Nat → Nat} {sk : (Nat → Nat) × (Nat → Nat)} {A M : Mem} {z : Int} (hX : RepX M A (M 0 0)) (hz : 0 ≤ z ∧ z < M 0 0) : SpI (wC g ad sk) yX1_negate cX1_negate 6 (some .int) 6 [.ref (ad 6), vI (z)] (A) (fun r B => R32 r ∧ ∃ G, NgR M z r G ∧ RepX G B (G 0 0) ∧ FrJ A B) := by
  have h40 := hX.2.2.1.2.1
  intro l9 hl9
  refine ct_of hl9 mi_X1_negate.2.2.2 (Nat.le_of_ble_eq_true rfl) (fun X _ C Y => ?_)
  show E (wC g ad sk) X 0 0 (A) 0 [(0, .ref (ad 6)), (1, vI (z))] []
  refine e_wf (fun hw => ?_)
  have p := (hX.2.2.2.1 z hz.1 hz.2).2.2.2.2.1
  refine B_X1_negate_0 (by omega) (Nat.zero_le _) (Nat.zero_le _) C Y ⟨by omega, ?_⟩
  exact xne_16 C Y hX hz p.1.1 p.2 (fun r G B h1 h2 h3 h4 => ⟨_, rfl, h4, G, h1, h2, h3⟩) (z + 1).toNat 0 (by omega) M A ⟨rfl, Ag.refl _ _⟩ hX (fun _ _ _ => rfl)
theorem ngR_le {M G : Mem} {z r : Int} (hM : Good (M 0 0) M) (hz : 0 ≤ z ∧ z < M 0 0) (h : NgR M z r G) : M 0 0 ≤ G 0 0 ∧ Ag M G (M 0 0) := by
  rcases h with ⟨-, o, c, -⟩ | ⟨-, k, G0, o0, kz, hp, c, hs⟩
  · have := ngC_ok hM hz _ G o (by omega) c
    exact ⟨this.2.1, this.2.2.1⟩
  · have ok := ngC_ok hM hz k G0 o0 (by omega) c
    have st : G0 0 0 ≤ G 0 0 ∧ Ag G0 G (G0 0 0) := by
      rcases hs with ⟨-, hs⟩ | ⟨-, l, q, -, -, hs⟩
      · have := num_le ok.1.1 hs; exact ⟨this.1, this.2.1⟩
      · have := cmp_le ok.1.1 hs; exact ⟨this.1, this.2.1⟩
    exact ⟨by have := ok.2.1; omega, ok.2.2.1.trans (Int.le_refl _) (st.2.mono ok.2.1)⟩
def NeR (M : Mem) (z : Int) : Int → Int → Mem → Prop := fun k r N => (¬ (0 ≤ z ∧ z < M 0 0) ∧ k = 1 ∧ N = up M 20 0 1) ∨ ((0 ≤ z ∧ z < M 0 0) ∧ ∃ v S, NgR M z v S ∧ FrR M S ∧ EndR S (M 0 0) v 2 k r N)
theorem x_negative {g : Gs} {ad : Nat → Nat} {sk : (Nat → Nat) × (Nat → Nat)} {A M : Mem} {z : Int} (h : Jn A M) (hz : R32 z) : SpT (wC g ad sk) yX9_negative cX9_negative 4 (some .int) 7 [.ref (ad 0), vI (z)] (A) (fun r B => Res (NeR M z) 0 r B) (fun e B => (e = eIO ∧ Res (NeR M z) 1 0 B) ∨ (e = eIS ∧ Res (NeR M z) 2 0 B)) := by
  intro l9 hl9
  refine ct_of hl9 mi_X9_negative.2.2.2 (Nat.le_of_ble_eq_true rfl) (fun X _ C Y => ?_)
  show E (wC g ad sk) X 0 0 (A) 0 [(0, .ref (ad 0)), (1, vI (z))] []
  refine e_wf (fun hw => ?_)
  have hn := h.n
  have p18 := h.2.2.1
  refine B_X9_negative_0 (by omega) (Nat.zero_le _) (Nat.zero_le _) C Y ⟨fun c => ?_, fun c => ⟨by omega, Or.inl ⟨rfl, ?_⟩⟩⟩
  all_goals rw [hn.1] at c
  · refine ⟨_, x_negate h.1 c, fun r A1 hA => ?_⟩
    obtain ⟨rr, G1, hG, hX, hf⟩ := hA
    have le := ngR_le hn.2.2.2 c hG
    have h38 : A1 38 0 = M 18 0 := (hf 38 0 (by omega)).trans p18.2.1
    refine ⟨rr, fun c2 => ⟨_, x_save (by omega) (by have := p18.1; omega), fun B hB => ⟨_, rfl, ?_⟩⟩, fun c2 => ⟨by omega, Or.inr ⟨rfl, ?_⟩⟩⟩
    · rintro k' r' N (⟨w, -⟩ | ⟨-, v, S, hv, hS, hE⟩)
      · exact absurd c w
      · obtain ⟨rfl, u⟩ := ngR_uq hn.2.2.2 c hG hv
        obtain ⟨s0, sag⟩ := u c2
        rcases hE with ⟨w, -⟩ | ⟨-, rfl, rfl, sm⟩
        · exact absurd w c2
        · rw [hn.1] at hB
          have fN : ∀ c i, c ≠ 18 → c ≠ 19 → c ≠ 20 → N c i = S c i := fun c i h1 h2 h3 => by rw [sm.1 c i h1 h2, up_c h3]
          have fB : ∀ c i, c ≠ 38 → c ≠ 39 → B c i = A1 c i := fun c i h1 h2 => hB.1 c i h1 h2
          have n0 : N 0 0 = G1 0 0 := (fN 0 0 (by decide) (by decide) (by decide)).trans s0
          have dr : ∀ s, DrfJ A M s → DrfJ B N s := fun s d => d.cg ((fB 1 s (by decide) (by decide)).trans (hf 1 s (by omega))) ((fN 21 s (by decide) (by decide) (by decide)).trans (hS 21 s (by decide) (by decide))) (fun i => (fN 22 i (by decide) (by decide) (by decide)).trans (hS 22 i (by decide) (by decide))) (by omega)
          exact ⟨rfl, fun _ => rfl, end_ok h hX le.1 hf s0 sag hS (fun _ _ _ => rfl) hB ⟨N, sm, fun _ _ _ => rfl⟩ ⟨dr 0 h.2.2.2.1.1, dr 1 h.2.2.2.1.2⟩⟩
    · rintro k' r' N (⟨w, -⟩ | ⟨-, v, S, hv, hS, hE⟩)
      · exact absurd c w
      · obtain ⟨rfl, -⟩ := ngR_uq hn.2.2.2 c hG hv
        rcases hE with ⟨-, rfl, rfl⟩ | ⟨w, -⟩
        · refine ⟨rfl, fun q => absurd q (by decide), end_no h hX le.1 hf hS (ngR_le hn.2.2.2 c hv).2 le.2 ?_ (fun c i h4 => up_c h4) (up_s _ _ _ _) (fun c i h1 h2 => by rw [up_c h1, up_c h2])⟩
          rw [up_s]; exact hn.1
        · exact absurd c2 w
  · rintro k' r' N (⟨-, rfl, rfl⟩ | ⟨w, -⟩)
    · exact ⟨rfl, fun q => absurd q (by decide), h.r20⟩
    · exact absurd w c
