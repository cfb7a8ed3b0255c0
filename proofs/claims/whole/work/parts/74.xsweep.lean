/-! ===== the class: scaffold and sweep ===== -/
abbrev wCl (M : Mem) : Int → Int → Int := fun o r => M 6 (2 * o + r)
theorem sf_18 {g : Gs} {ad : Nat → Nat} {sk : (Nat → Nat) × (Nat → Nat)} {X : Cx} {PQ : Option Value → Mem → Prop} {PX : String → Mem → Prop} (C : OkB (wC g ad sk) X cX5_scaffold RX5 8 1 0 0) (Y : OkR (wC g ad sk) X (some .int) 0 0 PQ PX) {G M : Mem} {z s t : Int} (hz : 0 ≤ z ∧ z < 40) (hs : 0 ≤ s ∧ s ≤ 1) (hr : RwX G M z) (ht : -1000000 ≤ t ∧ t ≤ 1000000) (hw9 : ∀ i, 0 ≤ i → i < G 3 (2 * z + s) → -14336 ≤ M 6 (2 * opt G z s i + (1 - s)) ∧ M 6 (2 * opt G z s i + (1 - s)) ≤ 14336) (kk : PQ (some (vI (scF (wCl M) G z s t))) M) : ∀ (m j : Nat), (j : Int) + m = G 3 (2 * z + s) → E (wC g ad sk) X 0 0 (M) 18 [(0, .ref (ad 1)), (1, .ref (ad (44 + 6 * (Int.toNat z)))), (2, vI (s)), (3, vI (t)), (4, vI (sgS s)), (5, vI (scB (wCl M) G z s j)), (6, vI (j))] [] := by
  have hb := opS_r hr.1 hs
  have c41 := (hr.2 s hs.1 hs.2).1
  have sg : sgS s = 1 ∨ sgS s = -1 := by unfold sgS; split <;> omega
  have sb : ∀ j : Nat, (j : Int) ≤ G 3 (2 * z + s) → -16777216 ≤ scB (wCl M) G z s j ∧ scB (wCl M) G z s j ≤ 14336 := by
    intro j hj
    have := scB_r (f := wCl M) (G := G) (z := z) (s := s) j (fun i i1 i2 => hw9 i i1 (by omega))
    omega
  intro m
  induction m with
  | zero =>
    intro j hj
    have ej : (G 3 (2 * z + s)).toNat = j := by omega
    have b := sb j (by omega)
    rw [scF, ej] at kk
    refine B_X5_scaffold_18 (by omega) (by omega) (by omega) (by omega) (by omega) (by omega) (Nat.le_refl _) (Nat.le_refl _) C Y ⟨by omega, fun c => ⟨⟨by omega, ?_⟩, kk⟩, fun c => absurd c (by omega)⟩
    rcases sg with e | e <;> rw [e] <;> omega
  | succ m ih =>
    intro j hj
    have b := sb j (by omega)
    have e42 : M 42 (40 * (s * 4 + (j : Int)) + z) = opt G z s j := by
      rw [show s * 4 + (j : Int) = 4 * s + j by omega]; exact (hr.2 s hs.1 hs.2).2 j (by omega) (by omega)
    have oi := hb.2.2 j (by omega) (by omega)
    have wb := hw9 j (by omega) (by omega)
    have nx := ih (j + 1) (by omega)
    rw [scB] at nx
    have ej : ((j + 1 : Nat) : Int) = (j : Int) + 1 := rfl
    rw [ej] at nx
    refine B_X5_scaffold_18 (by omega) (by omega) (by omega) (by omega) (by omega) (by omega) (Nat.le_refl _) (Nat.le_refl _) C Y ⟨by omega, fun c => absurd c (by omega), fun c => ⟨⟨by omega, by omega, by omega, by omega, by omega, by rw [e42]; omega, ?_⟩, ?_⟩⟩
    · rw [e42]; rcases sg with e | e <;> rw [e] <;> omega
    · rw [e42]
      refine ⟨fun q => ⟨by omega, ?_⟩, fun q => ⟨by omega, ?_⟩⟩
      · rw [if_pos q] at nx; exact nx
      · rw [if_neg (by show ¬ (sgS s * M 6 (2 * opt G z s j + (1 - s)) ≤ _); omega)] at nx; exact nx
theorem x_scaffold {g : Gs} {ad : Nat → Nat} {sk : (Nat → Nat) × (Nat → Nat)} {G M : Mem} {z s t : Int} (hz : 0 ≤ z ∧ z < 40) (hs : 0 ≤ s ∧ s ≤ 1) (hr : RwX G M z) (ht : -1000000 ≤ t ∧ t ≤ 1000000) (hw9 : ∀ i, 0 ≤ i → i < G 3 (2 * z + s) → -14336 ≤ M 6 (2 * opt G z s i + (1 - s)) ∧ M 6 (2 * opt G z s i + (1 - s)) ≤ 14336) : SpI (wC g ad sk) yX5_scaffold cX5_scaffold 8 (some .int) 1 [.ref (ad 1), .ref (ad (44 + 6 * (Int.toNat z))), vI (s), vI (t)] (M) (fun r N => N = M ∧ r = scF (wCl M) G z s t) := by
  intro l9 hl9
  refine ct_of hl9 mi_X5_scaffold.2.2.2 (Nat.le_of_ble_eq_true rfl) (fun X _ C Y => ?_)
  show E (wC g ad sk) X 0 0 (M) 0 [(0, .ref (ad 1)), (1, .ref (ad (44 + 6 * (Int.toNat z)))), (2, vI (s)), (3, vI (t))] []
  refine e_wf (fun hw => ?_)
  have hb := opS_r hr.1 hs
  refine B_X5_scaffold_0 (by omega) (by omega) (by omega) (Nat.le_refl _) (Nat.le_refl _) C Y ⟨fun c => ?_, fun c => ?_⟩
  · have e : sgS s = -1 := by unfold sgS; rw [if_neg c]
    have h := sf_18 C Y hz hs hr ht hw9 ⟨_, rfl, rfl, rfl⟩ (G 3 (2 * z + s)).toNat 0 (by omega)
    rw [e] at h; exact h
  · have e : sgS s = 1 := by unfold sgS; rw [if_pos c]
    have h := sf_18 C Y hz hs hr ht hw9 ⟨_, rfl, rfl, rfl⟩ (G 3 (2 * z + s)).toNat 0 (by omega)
    rw [e] at h; exact h
theorem scF_cg {f h : Int → Int → Int} {G : Mem} {z s t : Int} (e : ∀ i, 0 ≤ i → i < G 3 (2 * z + s) → f (opt G z s i) (1 - s) = h (opt G z s i) (1 - s)) : scF f G z s t = scF h G z s t := by
  unfold scF
  rw [scB_cg _ (fun i i1 i2 => e i i1 (by omega))]
/-- only the swept walls are new -/
def WlK (M N : Mem) : Prop := ∀ c i, c ≠ 6 → N c i = M c i
/-- the options of a word's hot games are in it -/
def ClW (G : Mem) (n w : Int) : Prop := ∀ x, 0 ≤ x → x < n → tb w x = true → G 6 x = 0 → ∀ s i, 0 ≤ s → s ≤ 1 → 0 ≤ i → i < G 3 (2 * x + s) → tb w (opt G x s i) = true
def SwX (G M : Mem) (w t x : Int) : Prop := ∀ y s, 0 ≤ y → y < x → tb w y = true → 0 ≤ s → s ≤ 1 → M 6 (2 * y + s) = WA G y s t
theorem repG_rw {G X : Mem} {z : Int} (ho : OpS G z) (h : RepG G X z) : RwX G X z := ⟨ho, fun s s1 s2 => ⟨(h.2.2.1 s s1 s2).1, (h.2.2.1 s s1 s2).2.1⟩⟩
theorem rwX_f {G M N : Mem} {z : Int} (h : RwX G M z) (f : WlK M N) : RwX G N z := ⟨h.1, fun s s1 s2 => ⟨(f 41 _ (by decide)).trans (h.2 s s1 s2).1, fun i i1 i2 => (f 42 _ (by decide)).trans ((h.2 s s1 s2).2 i i1 i2)⟩⟩
theorem sw_3 {g : Gs} {ad : Nat → Nat} {sk : (Nat → Nat) × (Nat → Nat)} {X : Cx} {PQ : Option Value → Mem → Prop} {PX : String → Mem → Prop} (C : OkB (wC g ad sk) X cX5_sweep RX5 7 2 0 0) (Y : OkR (wC g ad sk) X none 0 0 PQ PX) {G M : Mem} {n k w t : Int} (hG : Good n G) (hk : 0 ≤ k ∧ k ≤ n) (h4 : M 4 0 = k) (hx : ∀ z, 0 ≤ z → z < k → RepG G M z) (hwd : R64 w) (ht : 0 ≤ t ∧ t ≤ 1000000) (hcl : ClW G k w) (kk : ∀ N, WlK M N → SwX G N w t k → PQ none N) : ∀ (m : Nat) (x : Int), 0 ≤ x → x + m = k → ∀ N, WlK M N → SwX G N w t x → E (wC g ad sk) X 0 0 (N) 3 [(0, .ref (ad 1)), (1, vL (w)), (3, vI (t)), (4, vI (x))] [] := by
  have hn := hG.1
  have hn40 := hG.2.1
  intro m
  induction m with
  | zero =>
    intro x x1 x2 N f h
    have e4 : N 4 0 = k := (f 4 0 (by decide)).trans h4
    have : x = k := by omega
    subst this
    exact B_X5_sweep_3 (by omega) (by omega) (by omega) (Nat.le_refl _) (Nat.le_refl _) C Y ⟨fun c => kk N f h, fun c => absurd c (by omega)⟩
  | succ m ih =>
    intro x x1 x2 N f h
    have e4 : N 4 0 = k := (f 4 0 (by decide)).trans h4
    have hx40 : x < 40 := by omega
    obtain ⟨hD, hO, -⟩ := hG.2.2 x x1 (by omega)
    have rx := hx x x1 (by omega)
    have rw0 := rwX_f (repG_rw hD.1 rx) f
    have e49 : N 49 x = G 6 x := (f 49 _ (by decide)).trans rx.2.1.2.2.1
    have e50 : N 50 x = G 13 x := (f 50 _ (by decide)).trans rx.2.1.2.2.2.1
    have e51 : N 51 x = G 14 x := (f 51 _ (by decide)).trans rx.2.1.2.2.2.2
    have hv := fun s (hs : 0 ≤ s ∧ s ≤ 1) => wa_eq hG (z := x) (s := s) (t := t) ⟨x1, by omega⟩ hs ht.1
    have fin : ∀ P, WlK M P → SwX G P w t x → P 6 (2 * x + 0) = WA G x 0 t → P 6 (2 * x + 1) = WA G x 1 t → E (wC g ad sk) X 0 0 (P) 3 [(0, .ref (ad 1)), (1, vL (w)), (3, vI (t)), (4, vI (x + 1))] [] := by
      intro P fp hp p0 p1
      refine ih (x + 1) (by omega) (by omega) P fp (fun y s y1 y2 q s1 s2 => ?_)
      by_cases e : y = x
      · subst e
        rcases (show s = 0 ∨ s = 1 by omega) with rfl | rfl <;> assumption
      · exact hp y s y1 (by omega) q s1 s2
    have frz : G 14 x ≤ t → E (wC g ad sk) X 0 0 (N) 52 [(0, .ref (ad 1)), (1, vL (w)), (3, vI (t)), (4, vI (x)), (5, .ref (ad (44 + 6 * (Int.toNat x))))] [vI (1)] := by
      intro q
      have wb := wa_bd hG (z := x) (s := 0) (t := t) ⟨x1, by omega⟩ (by omega) ht.1
      rw [(hv 0 (by omega)).1 q, ← e50] at wb
      refine B_X5_sweep_52 (by omega) (by omega) (by omega) (by omega) (by omega) (Nat.le_refl _) (Nat.le_refl _) C Y ⟨fun c => absurd c (by decide), fun c => ?_⟩
      refine B_X5_sweep_83 (by omega) (by omega) (by omega) (by omega) (by omega) (by omega) (by omega) (by omega) (Nat.le_refl _) (Nat.le_refl _) C Y ⟨by omega, fun c => absurd c (by decide), fun c => ⟨by omega, ?_⟩⟩
      refine fin _ (fun c i hc => by rw [up_c hc, up_c hc]; exact f c i hc) (fun y s y1 y2 q s1 s2 => ?_) ?_ ?_
      · rw [up_i (by omega), up_i (by omega)]; exact h y s y1 y2 q s1 s2
      · rw [up_i (by omega), up_s, e50, (hv 0 (by omega)).1 q]
      · rw [up_s, e50, (hv 1 (by omega)).1 q]
    refine B_X5_sweep_3 (by omega) (by omega) (by omega) (Nat.le_refl _) (Nat.le_refl _) C Y ⟨fun c => absurd c (by omega), fun c => ⟨fun c1 => ⟨by omega, ?_⟩, fun c1 => ⟨by omega, fun c2 => ?_, fun c2 => ⟨fun c3 => ?_, fun c3 => ?_⟩⟩⟩⟩
    · refine ih (x + 1) (by omega) (by omega) N f (fun y s y1 y2 q s1 s2 => ?_)
      by_cases e : y = x
      · subst e
        exact absurd ((has_tb (by omega)).mpr q) c1
      · exact h y s y1 (by omega) q s1 s2
    · refine frz ?_
      rw [e49] at c2
      rcases Int.lt_or_le t (G 14 x) with r | r
      · exact absurd ((hv 0 (by omega)).2 r).1 c2
      · exact r
    · rw [e51] at c3
      rw [e49] at c2
      have tbx := (has_tb (by omega)).mp c1
      have opw : ∀ s, 0 ≤ s → s ≤ 1 → ∀ i, 0 ≤ i → i < G 3 (2 * x + s) → ∀ P, SwX G P w t x → P 6 (2 * opt G x s i + (1 - s)) = WA G (opt G x s i) (1 - s) t := by
        intro s s1 s2 i i1 i2 P hp
        have o := (opS_r hD.1 ⟨s1, s2⟩).2.2 i i1 i2
        exact hp _ (1 - s) o.1 o.2 (hcl x x1 (by omega) tbx c2 s i s1 s2 i1 i2) (by omega) (by omega)
      have opb : ∀ s, 0 ≤ s → s ≤ 1 → ∀ i, 0 ≤ i → i < G 3 (2 * x + s) → ∀ P, SwX G P w t x → -14336 ≤ P 6 (2 * opt G x s i + (1 - s)) ∧ P 6 (2 * opt G x s i + (1 - s)) ≤ 14336 := by
        intro s s1 s2 i i1 i2 P hp
        have o := (opS_r hD.1 ⟨s1, s2⟩).2.2 i i1 i2
        rw [opw s s1 s2 i i1 i2 P hp]
        exact wa_bd hG ⟨o.1, by omega⟩ (by omega) ht.1
      have val : ∀ s, 0 ≤ s → s ≤ 1 → ∀ P, SwX G P w t x → scF (wCl P) G x s t = WA G x s t := by
        intro s s1 s2 P hp
        rw [((hv s ⟨s1, s2⟩).2 c3).2]
        exact scF_cg (fun i i1 i2 => opw s s1 s2 i i1 i2 P hp)
      refine B_X5_sweep_52 (by omega) (by omega) (by omega) (by omega) (by omega) (Nat.le_refl _) (Nat.le_refl _) C Y ⟨fun c => ⟨_, x_scaffold (G := G) ⟨x1, hx40⟩ (by omega) rw0 (by omega) (fun i i1 i2 => opb 0 (by omega) (by omega) i i1 i2 N h), fun r N2 hr => ?_⟩, fun c => absurd rfl c⟩
      obtain ⟨rfl, rfl⟩ := hr
      rw [val 0 (by omega) (by omega) N2 h]
      have wb0 := wa_bd hG (z := x) (s := 0) (t := t) ⟨x1, by omega⟩ (by omega) ht.1
      refine ⟨by omega, ?_⟩
      have h2 : SwX G (up N2 6 (2 * x + 0) (WA G x 0 t)) w t x := fun y s y1 y2 q s1 s2 => by rw [up_i (by omega)]; exact h y s y1 y2 q s1 s2
      have f2 : WlK M (up N2 6 (2 * x + 0) (WA G x 0 t)) := fun c i hc => by rw [up_c hc]; exact f c i hc
      refine B_X5_sweep_83 (by omega) (by omega) (by omega) (by omega) (by omega) (by omega) (by omega) (by omega) (Nat.le_refl _) (Nat.le_refl _) C Y ⟨by omega, fun c => ⟨_, x_scaffold (G := G) ⟨x1, hx40⟩ (by omega) (rwX_f (repG_rw hD.1 rx) f2) (by omega) (fun i i1 i2 => opb 1 (by omega) (by omega) i i1 i2 _ h2), fun r N3 hr => ?_⟩, fun c => absurd rfl c⟩
      obtain ⟨rfl, rfl⟩ := hr
      rw [val 1 (by omega) (by omega) _ h2]
      have wb1 := wa_bd hG (z := x) (s := 1) (t := t) ⟨x1, by omega⟩ (by omega) ht.1
      refine ⟨by omega, ⟨by omega, by omega⟩, ?_⟩
      refine fin _ (fun c i hc => by rw [up_c hc]; exact f2 c i hc) (fun y s y1 y2 q s1 s2 => ?_) ?_ (up_s _ _ _ _)
      · rw [up_i (by omega)]; exact h2 y s y1 y2 q s1 s2
      · rw [up_i (by omega), up_s]
    · rw [e51] at c3
      exact frz c3
theorem x_sweep {g : Gs} {ad : Nat → Nat} {sk : (Nat → Nat) × (Nat → Nat)} {G M : Mem} {n k w t : Int} (hG : Good n G) (hk : 0 ≤ k ∧ k ≤ n) (h4 : M 4 0 = k) (hx : ∀ z, 0 ≤ z → z < k → RepG G M z) (hwd : R64 w) (ht : 0 ≤ t ∧ t ≤ 1000000) (hcl : ClW G k w) : SpV (wC g ad sk) yX5_sweep cX5_sweep 7 none 2 [.ref (ad 1), vL (w), vI (t)] (M) (fun N => WlK M N ∧ SwX G N w t k) := by
  intro l9 hl9
  refine ct_of hl9 mi_X5_sweep.2.2.2 (Nat.le_of_ble_eq_true rfl) (fun X _ C Y => ?_)
  show E (wC g ad sk) X 0 0 (M) 0 [(0, .ref (ad 1)), (1, vL (w)), (3, vI (t))] []
  refine e_wf (fun hw => ?_)
  refine B_X5_sweep_0 (by omega) (by omega) (Nat.le_refl _) (Nat.le_refl _) C Y ?_
  exact sw_3 C Y hG hk h4 hx hwd ht hcl (fun N a b => ⟨rfl, a, b⟩) k.toNat 0 (by omega) (by omega) M (fun _ _ _ => rfl) (fun y s y1 y2 => absurd y2 (by omega))
theorem cl_tr {G : Mem} {H : Int → Prop} {x s i : Int} (hx : H x) (hs : 0 ≤ s ∧ s ≤ 1) (hi : 0 ≤ i ∧ i < G 3 (2 * x + s)) : ∀ (k : Nat) (z : Int), Cl G H k z x → Cl G H (k + 1) z (opt G x s i) := by
  intro k
  induction k with
  | zero => intro z q; rw [Cl] at q; subst q; rw [Cl]; exact Or.inr ⟨hx, s, i, hs.1, hs.2, hi.1, hi.2, rfl⟩
  | succ k ih =>
    intro z q
    rw [Cl] at q
    rw [Cl]
    rcases q with q | ⟨h, s', i', a1, a2, a3, a4, q⟩
    · subst q; exact Or.inr ⟨hx, s, i, hs.1, hs.2, hi.1, hi.2, by rw [Cl]; exact Or.inl rfl⟩
    · exact Or.inr ⟨h, s', i', a1, a2, a3, a4, ih _ q⟩
theorem pt_tr {G : Mem} {H : Int → Prop} {n z x s i : Int} (hG : Good n G) (hz : 0 ≤ z ∧ z < n) (h : Pt G H z x) (hx : H x) (hs : 0 ≤ s ∧ s ≤ 1) (hi : 0 ≤ i ∧ i < G 3 (2 * x + s)) : Pt G H z (opt G x s i) :=
  (cl_st hG 6 z _ hz.1 hz.2 (by have := (hG.2.2 z hz.1 hz.2).1.2.2.1; omega)).mp (cl_tr hx hs hi 6 z h)
theorem x_wallAt {g : Gs} {ad : Nat → Nat} {sk : (Nat → Nat) × (Nat → Nat)} {G M : Mem} {n z s t : Int} (hX : RepX G M n) (hz : 0 ≤ z ∧ z < n) (hs : 0 ≤ s ∧ s ≤ 1) (ht : 0 ≤ t ∧ t ≤ 1000000) : SpI (wC g ad sk) yX5_wallAt cX5_wallAt 4 (some .int) 3 [.ref (ad 1), vI (z), vI (s), vI (t)] (M) (fun r N => WlK M N ∧ r = WA G z s t) := by
  intro l9 hl9
  refine ct_of hl9 mi_X5_wallAt.2.2.2 (Nat.le_of_ble_eq_true rfl) (fun X _ C Y => ?_)
  show E (wC g ad sk) X 0 0 (M) 0 [(0, .ref (ad 1)), (1, vI (z)), (2, vI (s)), (3, vI (t))] []
  refine e_wf (fun hw => ?_)
  obtain ⟨x4, g0, hG, hr, hb⟩ := hX
  have hn := hG.1
  have hn40 := hG.2.1
  have rz := hr z hz.1 hz.2
  obtain ⟨p1, p2⟩ := rz.2.2.2.2.1
  have cl : ClW G n (M 52 z) := by
    intro x x1 x2 q q2 s i s1 s2 i1 i2
    have hx : x < 40 := by omega
    have o := (opS_r (hG.2.2 x x1 x2).1.1 ⟨s1, s2⟩).2.2 i i1 i2
    exact (p2 _ o.1 (by omega)).mpr (pt_tr hG hz ((p2 x x1 hx).mp q) trivial ⟨s1, s2⟩ ⟨i1, i2⟩)
  have self : tb (M 52 z) z = true := (p2 z hz.1 (by omega)).mpr ((pt_eq hG hz).mpr (Or.inl rfl))
  have wb := wa_bd hG (z := z) (s := s) (t := t) hz hs ht.1
  refine B_X5_wallAt_0 (by omega) (by omega) (by omega) (Nat.le_refl _) (Nat.le_refl _) C Y ⟨by omega, _, x_sweep hG ⟨by omega, Int.le_refl _⟩ x4 (fun y y1 y2 => hr y y1 y2) p1.1 ht cl, fun N hN => ⟨by omega, _, rfl, hN.1, ?_⟩⟩
  exact hN.2 z s hz.1 hz.2 self hs.1 hs.2
