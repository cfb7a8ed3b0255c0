/-! ===== the class: play whole ===== -/
theorem x_playLine {g : Gs} {ad : Nat → Nat} {sk : (Nat → Nat) × (Nat → Nat)} {A M : Mem} {n : Int} {z : Int → Int} {p : Nat} {f a b : Int} (hX : RepX M A n) (h11 : A 11 0 = (p : Int)) (hp : p ≤ 4) (hf : f = 0 ∨ f = 1) (ha : 0 ≤ a ∧ a ≤ 3) (hb : 0 ≤ b ∧ b ≤ 3) (hz : LnO n p z) (hS : (a = 3 ∨ b = 3) → SlS M A z p) (hl : LnO n p (fun c => A 2 c)) (hI : InP M z p (fun c => A 2 c)) : SpV (wC g ad sk) yX9_playLine cX9_playLine 8 none 6 [.ref (ad 0), vI (f), vI (a), vI (b)] (A) (fun N => ∃ (K : Nat) (mv : Nat → Int) (lf : Int → Int), PlO M p a b f (fun c => A 2 c) K mv lf ∧ AllC M lf p ∧ K ≤ 24 ∧ LnO n p lf ∧ N 0 0 = (K : Int) ∧ (∀ j : Nat, j < K → N 3 (j : Int) = mv j) ∧ (∀ c, 0 ≤ c → c < (p : Int) → N 2 c = lf c) ∧ PF A N) := by
  have hG := hX.2.2.1
  have sD := sumD_r hG p hl
  intro l9 hl9
  refine ct_of hl9 mi_X9_playLine.2.2.2 (Nat.le_of_ble_eq_true rfl) (fun X _ C Y => ?_)
  show E (wC g ad sk) X 0 0 (A) 0 [(0, .ref (ad 0)), (1, vI (f)), (2, vI (a)), (3, vI (b))] []
  refine e_wf (fun hw => ?_)
  refine B_X9_playLine_0 (by omega) (by omega) (by omega) (Nat.zero_le _) (Nat.zero_le _) C Y ?_
  refine xp_11 C Y hX h11 hp hf ha hb hz hS (l0 := fun c => A 2 c) (fun N K mv lf h1 h2 h3 h4 h5 h6 h7 h8 => ⟨rfl, K, mv, lf, h1, h2, h3, h4, h5, h6, h7, h8⟩) 24 0 (fun _ => 0) (fun c => A 2 c) _ (by omega) plo_0 (by omega) hl hI ?_ (fun j hj => absurd hj (by omega)) (fun c c1 c2 => ?_) (fun c i q0 q2 q3 q6 => ?_)
  · rw [up_s]; rfl
  · rw [up_c (by decide)]
  · rw [up_c q0]
theorem xs_5 {g : Gs} {ad : Nat → Nat} {sk : (Nat → Nat) × (Nat → Nat)} {X : Cx} {PQ : Option Value → Mem → Prop} {PX : String → Mem → Prop} (C : OkB (wC g ad sk) X cX5_sumOfMeans RX5 5 1 0 0) (Y : OkR (wC g ad sk) X (some .int) 0 0 PQ PX) {M B : Mem} {n : Int} {l : Int → Int} {p : Nat} (hX : RepX M B n) (hp : p ≤ 4) (hl : LnO n p l) (h2 : ∀ c, 0 ≤ c → c < (p : Int) → B 2 c = l c) (kk : PQ (some (vI (sumV M l p))) B) : ∀ (m c : Nat), c + m = p → E (wC g ad sk) X 0 0 (B) 5 [(0, .ref (ad 1)), (1, .ref (ad 10)), (2, vI (p)), (3, vI (sumV M l c)), (4, vI (c))] [] := by
  have hG := hX.2.2.1
  have h40 := hG.2.1
  intro m
  induction m with
  | zero =>
    intro c hc
    have sr := sumV_r (l := l) hG c (fun x x1 x2 => hl x x1 (by omega))
    have e : c = p := by omega
    subst e
    exact B_X5_sumOfMeans_5 (by omega) (by omega) (by omega) (Nat.zero_le _) (Nat.zero_le _) C Y ⟨fun _ => kk, fun q => absurd q (by omega)⟩
  | succ m ih =>
    intro c hc
    have sr := sumV_r (l := l) hG c (fun x x1 x2 => hl x x1 (by omega))
    have sr2 := sumV_r (l := l) hG (c + 1) (fun x x1 x2 => hl x x1 (by omega))
    have lc := hl c (by omega) (by omega)
    have e50 : B 50 (l c) = M 13 (l c) := (hX.2.2.2.1 (l c) lc.1 lc.2).2.1.2.2.2.1
    refine B_X5_sumOfMeans_5 (by omega) (by omega) (by omega) (Nat.zero_le _) (Nat.zero_le _) C Y ⟨fun q => absurd q (by omega), fun _ => ?_⟩
    rw [h2 c (by omega) (by omega), e50]
    rw [sumV] at sr2
    exact ⟨⟨by omega, by omega, by omega, by omega⟩, ih (c + 1) (by omega)⟩
theorem x_sumOfMeans {g : Gs} {ad : Nat → Nat} {sk : (Nat → Nat) × (Nat → Nat)} {M B : Mem} {n : Int} {l : Int → Int} {p : Nat} (hX : RepX M B n) (hp : p ≤ 4) (hl : LnO n p l) (h2 : ∀ c, 0 ≤ c → c < (p : Int) → B 2 c = l c) : SpI (wC g ad sk) yX5_sumOfMeans cX5_sumOfMeans 5 (some .int) 1 [.ref (ad 1), .ref (ad 10), vI (p)] (B) (fun r P => r = sumV M l p ∧ P = B) := by
  intro l9 hl9
  refine ct_of hl9 mi_X5_sumOfMeans.2.2.2 (Nat.le_of_ble_eq_true rfl) (fun X _ C Y => ?_)
  show E (wC g ad sk) X 0 0 (B) 0 [(0, .ref (ad 1)), (1, .ref (ad 10)), (2, vI (p))] []
  refine e_wf (fun hw => ?_)
  refine B_X5_sumOfMeans_0 (by omega) (Nat.zero_le _) (Nat.zero_le _) C Y ?_
  exact xs_5 C Y hX hp hl h2 ⟨_, rfl, rfl, rfl⟩ p 0 (by omega)
theorem FrQ.jn {A B M N : Mem} (h : Jn A M) (f : FrQ M N) (e : PF A B) (l : LogJ B N) : Jn B N := h.lg (fun c i hc => e c i (by omega) (by omega) (by omega) (by omega)) (fun c i hc h20 => f c i h20 (by omega) (by omega) (by omega) (by omega)) l
theorem FrQ.jn0 {A M N : Mem} (h : Jn A M) (f : FrQ M N) (e28 : N 28 0 = M 28 0) (e27 : ∀ i, N 27 i = M 27 i) : Jn A N := by
  refine FrQ.jn h f (fun _ _ _ _ _ _ => rfl) ?_
  have l := h.2.2.2.2.2.2
  unfold LogJ at l ⊢
  simp only [e28, e27]
  exact l
theorem x_play {g : Gs} {ad : Nat → Nat} {sk : (Nat → Nat) × (Nat → Nat)} {A M : Mem} {f a b : Int} {ma na : Nat} (h : Jn A M) (hf : R32 f) (ha : R32 a) (hb : R32 b) (hm : 1 ≤ ma ∧ 6 ≤ na) (hv : (a = 3 ∨ b = 3) → kP M f a b = 0 → (2 ≤ ma ∧ 8000 ≤ na) ∨ ad 1000 ≠ 0) : SpTB (wC g ad sk) yX9_play cX9_play 4 (some .int) 7 ma na [.ref (ad 0), vI f, vI a, vI b] A (fun r B => R32 r ∧ Res (PlyR M f a b) 0 r B ∧ ((a = 3 ∨ b = 3) → B 20 0 = 4000)) (fun e B => (e = eIA ∧ Res (PlyR M f a b) 1 0 B) ∨ (e = eIS ∧ Res (PlyR M f a b) 2 0 B)) := by
  intro l9 hl9
  refine ct_of hl9 mi_X9_play.2.2.2 (Nat.le_of_ble_eq_true rfl) (fun X _ C Y => ?_)
  show E (wC g ad sk) X 0 0 (A) 0 [(0, .ref (ad 0)), (1, vI (f)), (2, vI (a)), (3, vI (b))] []
  refine e_wf (fun hw => ?_)
  have hn := h.n
  have hG := hn.2.2.2
  have htt := h.2.1
  have ht1 := htt.1
  have e11 : A 11 0 = M 16 0 := htt.2.1
  have ep : (((M 16 0).toNat : Nat) : Int) = M 16 0 := by omega
  have bad : ∀ k, k = kP M f a b → (k = 1 ∨ k = 2) → Res (PlyR M f a b) k 0 A := by
    rintro k ek hk k' r' N' ⟨w1, w2, w3, w4⟩
    have kn : k ≠ 0 := by rcases hk with e | e <;> rw [e] <;> decide
    have e : k' = k := w1.trans ek.symm
    have q := w3 (by rw [e]; exact kn)
    exact ⟨e, fun q => absurd q kn, FrQ.jn0 h w4 q.1 q.2⟩
  have a47 : ∀ (S : Mem) (kc ks : Nat), kc ≤ ma → ks ≤ na → Jn S M → kP M f a b = 0 → (f = 0 ∨ f = 1) → (0 ≤ a ∧ a ≤ 3) → (0 ≤ b ∧ b ≤ 3) → ((a = 3 ∨ b = 3) → Slvd M S ∧ prN M (fun c => M 17 c) (M 16 0).toNat ≤ 4000) → E (wC g ad sk) X kc ks S 47 [(0, .ref (ad 0)), (1, vI f), (2, vI a), (3, vI b)] [] := by
    intro S kc ks hkc hks hJ k0 f01 a03 b03 h3
    have e11S : S 11 0 = M 16 0 := hJ.2.1.2.1
    refine B_X9_play_47 (by omega) (by omega) (by omega) hkc hks C Y ⟨_, x_layLine (by omega), fun N hN => ?_⟩
    obtain ⟨fr, e2⟩ := hN
    obtain ⟨jN, n11, n2, hz, hl, hS, hI⟩ := lay_ok hJ fr e2
    refine ⟨_, x_playLine (z := fun c => M 17 c) jN.1 (by rw [n11]; omega) (by omega) f01 a03 b03 hz (fun q => hS (h3 q).1 (h3 q).2) hl hI, fun P hP => ?_⟩
    obtain ⟨K, mv, lf, g1, g2, g3, g4, g5, g6, g7, g8⟩ := hP
    have p11 : P 11 0 = M 16 0 := (g8 11 0 (by decide) (by decide) (by decide) (by decide)).trans n11
    have hXP : RepX M P (M 0 0) := jN.1.cx (fun c i hc => g8 c i (by omega) (by omega) (by omega) (by omega))
    have sp := x_sumOfMeans (g := g) (ad := ad) (sk := sk) hXP (by omega) g4 g7
    rw [ep] at sp
    rw [p11]
    refine ⟨_, sp, fun r Q hQ => ?_⟩
    obtain ⟨r1, r2⟩ := hQ
    have sr := sumV_r hG (M 16 0).toNat g4
    rw [r1, r2]
    refine ⟨by omega, _, rfl, by omega, ?_, fun q => ?_⟩
    · rintro k' r' N' ⟨w1, w2, w3, w4⟩
      obtain ⟨K', mv', lf', v1, v2, v3, v4, v5, v6⟩ := w2 (w1.trans k0)
      obtain ⟨u1, u2, u3⟩ := plo_uq hG f01 hz n2 v1 v2 g1 g2
      subst u1
      refine ⟨w1.trans k0, fun _ => ?_, FrQ.jn jN w4 g8 ⟨by omega, by omega, fun i i1 i2 => ?_⟩⟩
      · rw [v4]; exact (sumV_cg _ u3).symm
      · have a1 := g6 i.toNat (by omega)
        have a2 := v6 i.toNat (by omega)
        rw [Int.toNat_of_nonneg i1] at a1 a2
        rw [a1, a2, u2 _ (by omega)]
    · rw [g8 20 0 (by decide) (by decide) (by decide) (by decide), fr 20 0 (by decide)]
      exact (h3 q).1.2.1
  have a22 : (f = 0 ∨ f = 1) → (0 ≤ a ∧ a ≤ 3) → (0 ≤ b ∧ b ≤ 3) → (a = 3 ∨ b = 3) → E (wC g ad sk) X 0 0 A 22 [(0, .ref (ad 0)), (1, vI f), (2, vI a), (3, vI b)] [] := by
    intro f01 a03 b03 w3
    refine B_X9_play_22 (ma := ma) (na := na) (by omega) (by omega) (by omega) (q4 := prN M (fun c => M 17 c) (M 16 0).toNat ≤ 4000) (fun q => x_small h q) (fun q => x_smallT h q) (Nat.zero_le _) (Nat.zero_le _) C Y ⟨fun q4 => ?_, fun q4 => ⟨by omega, Or.inr ⟨rfl, bad 2 ?_ (Or.inr rfl)⟩⟩⟩
    · have k0 : kP M f a b = 0 := by rw [kP, if_pos ⟨f01, a03, b03⟩, if_neg (fun w => by have := w.2; omega)]
      rw [e11]
      exact ⟨⟨by omega, by omega⟩, _, x_solve (hv w3 k0) h q4, fun N hN => a47 N (0 + ma) (0 + na) (by omega) (by omega) (h.svf hN.1) k0 f01 a03 b03 (fun _ => ⟨hN.2, q4⟩)⟩
    · rw [kP, if_pos ⟨f01, a03, b03⟩, if_pos ⟨w3, by omega⟩]
  refine B_X9_play_0 (by omega) (by omega) (by omega) (Nat.zero_le _) (Nat.zero_le _) C Y ⟨fun c => ⟨fun c1 => ⟨fun c2 => ⟨fun w => a22 c c1 c2 (Or.inl w), fun w => ⟨fun w2 => ?_, fun w2 => a22 c c1 c2 (Or.inr w2)⟩⟩, fun c2 => ⟨by omega, Or.inl ⟨rfl, bad 1 ?_ (Or.inl rfl)⟩⟩⟩, fun c1 => ⟨by omega, Or.inl ⟨rfl, bad 1 ?_ (Or.inl rfl)⟩⟩⟩, fun c => ⟨by omega, Or.inl ⟨rfl, bad 1 ?_ (Or.inl rfl)⟩⟩⟩
  · exact a47 A 0 0 (Nat.zero_le _) (Nat.zero_le _) h (by rw [kP, if_pos ⟨c, c1, c2⟩, if_neg (fun q => by have := q.1; omega)]) c c1 c2 (fun q => by omega)
  · rw [kP, if_neg (fun q => c2 q.2.2)]
  · rw [kP, if_neg (fun q => c1 q.2.1)]
  · rw [kP, if_neg (fun q => c q.1)]
