/-! ===== the class: advance ===== -/
def FA (A N : Mem) : Prop := ∀ c i, c ≠ 28 → c ≠ 29 → c ≠ 30 → N c i = A c i
theorem xa_75 {g : Gs} {ad : Nat → Nat} {sk : (Nat → Nat) × (Nat → Nat)} {X : Cx} {PQ : Option Value → Mem → Prop} {PX : String → Mem → Prop} (C : OkB (wC g ad sk) X cX8_advance RX8 1 2 0 0) (Y : OkR (wC g ad sk) X none 0 0 PQ PX) {A : Mem} {e st kd : Int} (hL : 0 ≤ A 23 0 ∧ A 23 0 ≤ 80) (h0 : 0 ≤ e) (hst : e ≤ st ∧ st ≤ A 23 0) (hsp : ∀ x, e ≤ x → x < st → A 24 x = 32) (hns : st < A 23 0 → A 24 st ≠ 32) (hkd : kd = kdA (fun i => A 24 i) (A 23 0) st) (kk : ∀ N en, Tok (fun i => A 24 i) (A 23 0) e st kd en → FA A N → N 29 0 = st → N 28 0 = kd → N 30 0 = en → PQ none N) : ∀ (m : Nat) (en : Int) (N : Mem), en + m = A 23 0 → FA A N → N 29 0 = st → N 28 0 = kd → N 30 0 = en → (kd = 0 → en = st) → (kd ≠ 0 → st < en) → ((kd = 2 ∨ kd = 3) → ∀ x, st ≤ x → x < en → kdA (fun i => A 24 i) (A 23 0) x = kd) → (kd ≠ 0 → kd ≠ 2 → kd ≠ 3 → en = st + 1) → E (wC g ad sk) X 0 0 (N) 75 [(0, .ref (ad 5))] [] := by
  have kr := kdA_r (u := fun i => A 24 i) (L := A 23 0) (k := st)
  intro m
  induction m with
  | zero =>
    intro en N hm f n29 n28 n30 g0 g1 g2 g3
    have n23 : N 23 0 = A 23 0 := f 23 0 (by decide) (by decide) (by decide)
    have fin : E (wC g ad sk) X 0 0 (N) 91 [(0, .ref (ad 5))] [] := by
      refine B_X8_advance_91  (Nat.zero_le _) (Nat.zero_le _) C Y ⟨fun _ => kk N en ⟨hst, hsp, hns, hkd, g0, fun q => ⟨g1 q, by omega⟩, fun q => ⟨g2 q, ?_⟩, g3⟩ f n29 n28 n30, fun q => absurd q (by omega)⟩
      have := (kdA_r (u := fun i => A 24 i) (L := A 23 0) (k := en)).2.2.mpr (by omega)
      rw [this]
      omega
    refine B_X8_advance_75  (Nat.zero_le _) (Nat.zero_le _) C Y ⟨fun q => fin, fun q => ⟨fun q1 => kk N en ⟨hst, hsp, hns, hkd, g0, fun q => ⟨g1 q, by omega⟩, fun w => ?_, g3⟩ f n29 n28 n30, fun q1 => fin⟩⟩
    omega
  | succ m ih =>
    intro en N hm f n29 n28 n30 g0 g1 g2 g3
    have n23 : N 23 0 = A 23 0 := f 23 0 (by decide) (by decide) (by decide)
    have eU : (fun i => N 24 i) = fun i => A 24 i := funext (fun i => f 24 i (by decide) (by decide) (by decide))
    have k1 : 0 ≤ kd ∧ (kd = 0 ↔ A 23 0 ≤ st) := by rw [hkd]; exact ⟨kr.1, kr.2.2⟩
    have go : (kd = 2 ∨ kd = 3) → E (wC g ad sk) X 0 0 (N) 91 [(0, .ref (ad 5))] [] := by
      intro k2
      have en0 := g1 (by omega)
      refine B_X8_advance_91  (Nat.zero_le _) (Nat.zero_le _) C Y ⟨fun q => absurd q (by omega), fun q => ⟨_, x_kindAt (k := N 30 0) (by omega) (by omega), fun r P hP => ?_⟩⟩
      obtain ⟨e1, e2⟩ := hP
      rw [e2, e1, n23, eU, n30, n28]
      have kr2 := kdA_r (u := fun i => A 24 i) (L := A 23 0) (k := en)
      refine ⟨by omega, fun q1 => kk N en ⟨hst, hsp, hns, hkd, g0, fun q => ⟨g1 q, by omega⟩, fun w => ⟨g2 w, q1⟩, g3⟩ f n29 n28 n30, fun q1 => ⟨by omega, ih (en + 1) _ (by omega) (fun c i h1 h2 h3 => by rw [up_c h3]; exact f c i h1 h2 h3) (by rw [up_c (by decide)]; exact n29) (by rw [up_c (by decide)]; exact n28) (up_s _ _ _ _) (fun w => by omega) (fun w => by omega) (fun w x x1 x2 => ?_) (fun w1 w2 w3 => by omega)⟩⟩
      by_cases ex : x = en
      · rw [ex]; exact q1
      · exact g2 w x x1 (by omega)
    refine B_X8_advance_75  (Nat.zero_le _) (Nat.zero_le _) C Y ⟨fun q => go (by omega), fun q => ⟨fun q1 => kk N en ⟨hst, hsp, hns, hkd, g0, fun q => ⟨g1 q, by omega⟩, fun w => ?_, g3⟩ f n29 n28 n30, fun q1 => go (by omega)⟩⟩
    omega
theorem xa_0 {g : Gs} {ad : Nat → Nat} {sk : (Nat → Nat) × (Nat → Nat)} {X : Cx} {PQ : Option Value → Mem → Prop} {PX : String → Mem → Prop} (C : OkB (wC g ad sk) X cX8_advance RX8 1 2 0 0) (Y : OkR (wC g ad sk) X none 0 0 PQ PX) {A : Mem} {e : Int} (hL : 0 ≤ A 23 0 ∧ A 23 0 ≤ 80) (h0 : 0 ≤ e) (kk : ∀ N st kd en, Tok (fun i => A 24 i) (A 23 0) e st kd en → FA A N → N 29 0 = st → N 28 0 = kd → N 30 0 = en → PQ none N) : ∀ (m : Nat) (y : Int) (N : Mem), e ≤ y → y + m = A 23 0 → FA A N → N 30 0 = y → (∀ x, e ≤ x → x < y → A 24 x = 32) → E (wC g ad sk) X 0 0 (N) 0 [(0, .ref (ad 5))] [] := by
  have b38 : ∀ (y : Int) (N : Mem), e ≤ y → y ≤ A 23 0 → FA A N → N 30 0 = y → (∀ x, e ≤ x → x < y → A 24 x = 32) → (y < A 23 0 → A 24 y ≠ 32) → E (wC g ad sk) X 0 0 (N) 38 [(0, .ref (ad 5))] [] := by
    intro y N y1 y2 f n30 hx hy
    have n23 : N 23 0 = A 23 0 := f 23 0 (by decide) (by decide) (by decide)
    have eU : (fun i => up N 29 0 y 24 i) = fun i => A 24 i := funext (fun i => by rw [up_c (by decide)]; exact f 24 i (by decide) (by decide) (by decide))
    have eL : up N 29 0 y 23 0 = A 23 0 := by rw [up_c (by decide)]; exact n23
    have kr := kdA_r (u := fun i => A 24 i) (L := A 23 0) (k := y)
    refine B_X8_advance_38  (Nat.zero_le _) (Nat.zero_le _) C Y ?_
    rw [n30]
    refine ⟨_, x_kindAt (k := y) (by omega) (by rw [eL]; omega), fun r P hP => ?_⟩
    obtain ⟨e1, e2⟩ := hP
    rw [eU, eL] at e1
    rw [e2]
    have q30 : up N 29 0 y 30 0 = y := by rw [up_c (by decide)]; exact n30
    rw [q30]
    have fr : ∀ N2, (∀ c i, c ≠ 28 → c ≠ 30 → N2 c i = up N 29 0 y c i) → FA A N2 := fun N2 h c i h1 h2 h3 => by rw [h c i h1 h3, up_c h2]; exact f c i h1 h2 h3
    refine ⟨by omega, fun q => ?_, fun q => ⟨by omega, ?_⟩⟩
    · have yl : y = A 23 0 := by rw [e1] at q; have := kr.2.2.mp q; omega
      exact xa_75 C Y hL h0 ⟨y1, y2⟩ hx hy e1 (fun N2 en h1 h2 h3 h4 h5 => kk N2 y r en h1 h2 h3 h4 h5) 0 y _ (by omega) (fr _ (fun c i h1 h2 => up_c h1)) (by rw [up_c (by decide), up_s]) (up_s _ _ _ _) (by rw [up_c (by decide)]; exact q30) (fun _ => rfl) (fun w => absurd q w) (fun w => by omega) (fun w => absurd q w)
    · have yl : y < A 23 0 := by
        have : ¬ A 23 0 ≤ y := fun w => q (by rw [e1]; exact kr.2.2.mpr w)
        omega
      refine xa_75 C Y hL h0 ⟨y1, y2⟩ hx hy e1 (fun N2 en h1 h2 h3 h4 h5 => kk N2 y r en h1 h2 h3 h4 h5) (A 23 0 - (y + 1)).toNat (y + 1) _ (by omega) (fr _ (fun c i h1 h2 => by rw [up_c h2, up_c h1])) (by rw [up_c (by decide), up_c (by decide), up_s]) (by rw [up_c (by decide), up_s]) (up_s _ _ _ _) (fun w => absurd w q) (fun _ => by omega) (fun w x x1 x2 => ?_) (fun _ _ _ => rfl)
      have : x = y := by omega
      rw [this]; exact e1.symm
  intro m
  induction m with
  | zero =>
    intro y N y1 hm f n30 hx
    have n23 : N 23 0 = A 23 0 := f 23 0 (by decide) (by decide) (by decide)
    exact B_X8_advance_0  (Nat.zero_le _) (Nat.zero_le _) C Y ⟨fun _ => b38 y N y1 (by omega) f n30 hx (fun q => by omega), fun q => absurd q (by omega)⟩
  | succ m ih =>
    intro y N y1 hm f n30 hx
    have n23 : N 23 0 = A 23 0 := f 23 0 (by decide) (by decide) (by decide)
    have n24 : N 24 y = A 24 y := f 24 y (by decide) (by decide) (by decide)
    refine B_X8_advance_0  (Nat.zero_le _) (Nat.zero_le _) C Y ⟨fun q => absurd q (by omega), fun q => ?_⟩
    rw [n30, n24]
    refine ⟨by omega, fun q1 => b38 y N y1 (by omega) f n30 hx (fun _ => q1), fun q1 => ⟨by omega, ih (y + 1) _ (by omega) (by omega) (fun c i h1 h2 h3 => by rw [up_c h3]; exact f c i h1 h2 h3) (up_s _ _ _ _) (fun x x1 x2 => ?_)⟩⟩
    by_cases ex : x = y
    · rw [ex]; exact q1
    · exact hx x x1 (by omega)
theorem x_advance {g : Gs} {ad : Nat → Nat} {sk : (Nat → Nat) × (Nat → Nat)} {A : Mem} (hL : 0 ≤ A 23 0 ∧ A 23 0 ≤ 80) (h0 : 0 ≤ A 30 0 ∧ A 30 0 ≤ A 23 0) : SpV (wC g ad sk) yX8_advance cX8_advance 1 none 2 [.ref (ad 5)] (A) (fun N => ∃ st kd en, Tok (fun i => A 24 i) (A 23 0) (A 30 0) st kd en ∧ FA A N ∧ N 29 0 = st ∧ N 28 0 = kd ∧ N 30 0 = en) := by
  intro l9 hl9
  refine ct_of hl9 mi_X8_advance.2.2.2 (Nat.le_of_ble_eq_true rfl) (fun X _ C Y => ?_)
  show E (wC g ad sk) X 0 0 (A) 0 [(0, .ref (ad 5))] []
  refine e_wf (fun hw => ?_)
  exact xa_0 C Y hL h0.1 (fun N st kd en h1 h2 h3 h4 h5 => ⟨rfl, st, kd, en, h1, h2, h3, h4, h5⟩) (A 23 0 - A 30 0).toNat (A 30 0) A (Int.le_refl _) (by omega) (fun _ _ _ _ _ => rfl) rfl (fun x x1 x2 => absurd x2 (by omega))
