/-! ===== the class: depthAbove; what compose needs ===== -/
def DpW (G : Mem) (n w d : Int) : Prop := (0 ≤ d ∧ d ≤ 6) ∧ (∀ x, 0 ≤ x → x < n → tb w x = true → G 5 x ≤ d) ∧ (d = 0 ∨ ∃ x, 0 ≤ x ∧ x < n ∧ tb w x = true ∧ G 5 x = d)
theorem da_5 {g : Gs} {ad : Nat → Nat} {sk : (Nat → Nat) × (Nat → Nat)} {X : Cx} {PQ : Option Value → Mem → Prop} {PX : String → Mem → Prop} (C : OkB (wC g ad sk) X cX5_depthAbove RX5 5 2 0 0) (Y : OkR (wC g ad sk) X (some .int) 0 0 PQ PX) {G M : Mem} {n w : Int} (hG : Good n G) (h4 : M 4 0 = n) (h47 : ∀ x, 0 ≤ x → x < n → M 47 x = G 5 x) (hwd : R64 w) (kk : ∀ d, DpW G n w d → PQ (some (vI (d + 1))) M) : ∀ (m : Nat) (x d : Int), 0 ≤ x → x + m = n → DpW G x w d → E (wC g ad sk) X 0 0 (M) 5 [(0, .ref (ad 1)), (1, vL (w)), (3, vI (d)), (4, vI (x))] [] := by
  have h40 := hG.2.1
  intro m
  induction m with
  | zero =>
    intro x d x1 x2 h
    have : x = n := by omega
    subst this
    have hd := h.1
    exact B_X5_depthAbove_5 (by omega) (by omega) (by omega) (Nat.le_refl _) (Nat.le_refl _) C Y ⟨fun c => ⟨by omega, kk d h⟩, fun c => absurd c (by omega)⟩
  | succ m ih =>
    intro x d x1 x2 h
    have hd := h.1
    have e := h47 x x1 (by omega)
    have b5 := (hG.2.2 x x1 (by omega)).1.2.2.1
    refine B_X5_depthAbove_5 (by omega) (by omega) (by omega) (Nat.le_refl _) (Nat.le_refl _) C Y ⟨fun c => absurd c (by omega), fun c => ⟨fun c1 => ⟨by omega, ?_⟩, fun c1 => ⟨by omega, ?_⟩⟩⟩
    · rw [has_tb (by omega)] at c1
      refine ih (x + 1) d (by omega) (by omega) ⟨hd, fun y y1 y2 q => ?_, ?_⟩
      · by_cases ey : y = x
        · subst ey; exact absurd q c1
        · exact h.2.1 y y1 (by omega) q
      · rcases h.2.2 with q | ⟨y, y1, y2, q⟩
        · exact Or.inl q
        · exact Or.inr ⟨y, y1, by omega, q⟩
    · rw [has_tb (by omega)] at c1
      rw [e]
      refine ih (x + 1) _ (by omega) (by omega) ⟨by omega, fun y y1 y2 q => ?_, ?_⟩
      · by_cases ey : y = x
        · subst ey; omega
        · have := h.2.1 y y1 (by omega) q; omega
      · by_cases q : d ≤ G 5 x
        · exact Or.inr ⟨x, x1, by omega, c1, by omega⟩
        · rw [show max d (G 5 x) = d by omega]
          rcases h.2.2 with q | ⟨y, y1, y2, q⟩
          · exact Or.inl q
          · exact Or.inr ⟨y, y1, by omega, q⟩
theorem dpW_D {G : Mem} {n l r d : Int} (hn : n ≤ 40) (hl : Wd40 l n) (hr : Wd40 r n) : DpW G n (lorL l r) d ↔ DeepW G l r d := by
  have e : ∀ x, tb (lorL l r) x = true ↔ InW l r x := fun x => by rw [tb_or, Bool.or_eq_true]; rfl
  have b : ∀ x, 0 ≤ x → x < 40 → InW l r x → x < n := fun x x1 x2 q => by
    rcases q with q | q
    · exact hl.2 x x1 (by omega) q
    · exact hr.2 x x1 (by omega) q
  constructor
  · rintro ⟨a1, a2, a3⟩
    refine ⟨a1, fun x x1 x2 q => a2 x x1 (b x x1 x2 q) ((e x).mpr q), ?_⟩
    rcases a3 with q | ⟨x, x1, x2, q1, q2⟩
    · exact Or.inl q
    · exact Or.inr ⟨x, x1, by omega, (e x).mp q1, q2⟩
  · rintro ⟨a1, a2, a3⟩
    refine ⟨a1, fun x x1 x2 q => a2 x x1 (by omega) ((e x).mp q), ?_⟩
    rcases a3 with q | ⟨x, x1, x2, q1, q2⟩
    · exact Or.inl q
    · exact Or.inr ⟨x, x1, b x x1 x2 q1, (e x).mpr q1, q2⟩
theorem x_depthAbove {g : Gs} {ad : Nat → Nat} {sk : (Nat → Nat) × (Nat → Nat)} {G M : Mem} {n l r d : Int} (hG : Good n G) (h4 : M 4 0 = n) (h47 : ∀ x, 0 ≤ x → x < n → M 47 x = G 5 x) (hl : Wd40 l n) (hr : Wd40 r n) (hd : DeepW G l r d) : SpI (wC g ad sk) yX5_depthAbove cX5_depthAbove 5 (some .int) 2 [.ref (ad 1), vL (lorL l r)] (M) (fun a P => a = d + 1 ∧ P = M) := by
  have hww : R64 (lorL l r) := r64_toInt _
  intro l9 hl9
  refine ct_of hl9 mi_X5_depthAbove.2.2.2 (Nat.le_of_ble_eq_true rfl) (fun X _ C Y => ?_)
  show E (wC g ad sk) X 0 0 (M) 0 [(0, .ref (ad 1)), (1, vL (lorL l r))] []
  refine e_wf (fun hw => ?_)
  refine B_X5_depthAbove_0 (by omega) (Nat.le_refl _) (Nat.le_refl _) C Y ?_
  refine da_5 C Y hG h4 h47 hww (fun d' h => ⟨_, rfl, ?_, rfl⟩) n.toNat 0 0 (by omega) (by have := hG.1; omega) ⟨by omega, fun x x1 x2 => absurd x2 (by omega), Or.inl rfl⟩
  rw [deepW_uq hd ((dpW_D hG.2.1 hl hr).mp h)]
theorem word_uq {f : Int → Int} {c a b m n : Int} (ha : Wd40 a m) (hb : Wd40 b n) (hm : m ≤ 40) (hn : n ≤ 40) (h1 : Enu f c (tbN a) 40) (h2 : Enu f c (tbN b) 40) : a = b := by
  refine tb_ext ha.1 hb.1 (fun x x1 x2 => ?_)
  have key : ∀ a b m : Int, Wd40 a m → m ≤ 40 → Enu f c (tbN a) 40 → Enu f c (tbN b) 40 → tb a x = true → tb b x = true := by
    intro a b m ha hm h1 h2 q
    have hx := ha.2 x x1 x2 q
    obtain ⟨i, i1, i2, i3⟩ := h1.2.2.2 x.toNat (by omega) (by show tb a ((x.toNat : Nat) : Int) = true; rw [Int.toNat_of_nonneg x1]; exact q)
    have := (h2.2.2.1 i i1 i2).2.2
    have e : tb b (((f i).toNat : Nat) : Int) = true := this
    rw [i3, Int.toNat_natCast, Int.toNat_of_nonneg x1] at e
    exact e
  have k1 := key a b m ha hm h1 h2
  have k2 := key b a n hb hn h2 h1
  cases ea : tb a x <;> cases eb : tb b x <;> simp_all
theorem samW_X {G X : Mem} {n y l r : Int} (hn : n ≤ 40) (hy : 0 ≤ y ∧ y < n) (hl : Wd40 l n) (hr : Wd40 r n) (h : RepG G X y) : SamW G y l r ↔ (X 45 y ≠ 0 ∧ X 40 (40 * 0 + y) = l ∧ X 40 (40 * 1 + y) = r) := by
  obtain ⟨⟨a1, a2, a3⟩, -, c, -⟩ := h
  constructor
  · rintro ⟨q1, q2, q3⟩
    have w0 := (c 0 (by omega) (by omega)).2.2 q1
    have w1 := (c 1 (by omega) (by omega)).2.2 q1
    exact ⟨by have := a2.mpr q1; omega, word_uq w0.1 hl (by omega) hn w0.2 q2, word_uq w1.1 hr (by omega) hn w1.2 q3⟩
  · rintro ⟨q1, q2, q3⟩
    have h1 : G 1 y = 0 := a2.mp (by omega)
    have w0 := (c 0 (by omega) (by omega)).2.2 h1
    have w1 := (c 1 (by omega) (by omega)).2.2 h1
    rw [q2] at w0
    rw [q3] at w1
    exact ⟨h1, w0.2, w1.2⟩
theorem siz_cn {w n : Int} (hw : Wd40 w n) (hn : n ≤ 40) : siz w = (cnB (tbN w) 40 : Int) := by
  obtain ⟨f, c, h⟩ := enu_ex (tbN w) 40
  rw [enu_cn 40 c h]
  exact pop_enu hw hn h
theorem Smp.cgR {P Q : Int → Prop} (h : ∀ x, -20480 ≤ x → x ≤ 20480 → (P x ↔ Q x)) {v : Int} (hs : Smp P v) : Smp Q v := by
  obtain ⟨a, b, e, e1, e2, e3, e4, e5⟩ := hs
  refine ⟨(h v b.1 b.2).mp a, b, e, e1, e2, fun e' k1 k2 x k3 k4 k5 q => e3 e' k1 k2 x k3 k4 k5 ((h x k4 k5).mpr q), fun x k1 k2 q => e4 x k1 k2 ((h x (by omega) (by omega)).mpr q), fun k q => e5 k ((h (-v) (by omega) (by omega)).mpr q)⟩
