/-! ===== the class: braces and bars ===== -/
def FX (A N : Mem) : Prop := ∀ c i, c ≠ 21 → c ≠ 22 → (c < 25 ∨ 31 < c) → N c i = A c i
theorem x_takeOpen {g : Gs} {ad : Nat → Nat} {sk : (Nat → Nat) × (Nat → Nat)} {u : Int → Int} {L e : Int} {A : Mem} (h : AtT u L A e) (h26 : 0 ≤ A 26 0 ∧ A 26 0 < 80) (h22 : 0 ≤ A 22 0 ∧ A 22 0 < 400) : SpV (wC g ad sk) yX8_takeOpen cX8_takeOpen 1 none 3 [.ref (ad 5)] (A) (fun N => AtT u L N (enF u L e) ∧ Em A N [100] ∧ N 26 0 = A 26 0 + 1 ∧ (∀ i, N 25 i = if i = A 26 0 then 0 else A 25 i) ∧ N 27 0 = 1 ∧ N 31 0 = A 31 0 ∧ FX A N) := by
  intro l9 hl9
  refine ct_of hl9 mi_X8_takeOpen.2.2.2 (Nat.le_of_ble_eq_true rfl) (fun X _ C Y => ?_)
  show E (wC g ad sk) X 0 0 (A) 0 [(0, .ref (ad 5))] []
  refine e_wf (fun hw => ?_)
  refine B_X8_takeOpen_0  (Nat.zero_le _) (Nat.zero_le _) C Y ⟨_, x_note (by omega) h22, fun N hN => ?_⟩
  obtain ⟨f, em⟩ := hN
  have n26 : N 26 0 = A 26 0 := f 26 0 (by decide) (by decide)
  rw [n26]
  have t1 : AtT u L (up (up (up N 25 (A 26 0) 0) 26 0 (A 26 0 + 1)) 27 0 1) e := h.fa (fun c i h1 h2 h3 h4 h5 h6 => by rw [up_c h5, up_c h4, up_c h3]; exact f c i h1 h2)
  refine ⟨by omega, _, x_advT t1, fun P hP => ⟨rfl, hP.2, em_fn em (fun i => ?_) ?_, ?_, fun i => ?_, ?_, ?_, fun c i h1 h2 h3 => ?_⟩⟩
  · rw [hP.1 21 i (by decide) (by decide) (by decide), up_c (by decide), up_c (by decide), up_c (by decide)]
  · rw [hP.1 22 0 (by decide) (by decide) (by decide), up_c (by decide), up_c (by decide), up_c (by decide)]
  · rw [hP.1 26 0 (by decide) (by decide) (by decide), up_c (by decide), up_s]
  · rw [hP.1 25 i (by decide) (by decide) (by decide), up_c (by decide), up_c (by decide)]
    split
    · rename_i q; rw [q, up_s]
    · rename_i q; rw [up_i q]; exact f 25 i (by decide) (by decide)
  · rw [hP.1 27 0 (by decide) (by decide) (by decide), up_s]
  · rw [hP.1 31 0 (by decide) (by decide) (by decide), up_c (by decide), up_c (by decide), up_c (by decide)]; exact f 31 0 (by decide) (by decide)
  · rw [hP.1 c i (by omega) (by omega) (by omega), up_c (by omega), up_c (by omega), up_c (by omega)]; exact f c i h1 h2
theorem x_takeBar {g : Gs} {ad : Nat → Nat} {sk : (Nat → Nat) × (Nat → Nat)} {u : Int → Int} {L e : Int} {A : Mem} (h : AtT u L A e) (h26 : 1 ≤ A 26 0 ∧ A 26 0 ≤ 80) (h22 : 0 ≤ A 22 0 ∧ A 22 0 < 400) : SpV (wC g ad sk) yX8_takeBar cX8_takeBar 1 none 3 [.ref (ad 5)] (A) (fun N => AtT u L N (enF u L e) ∧ Em A N [101] ∧ N 26 0 = A 26 0 ∧ (∀ i, N 25 i = if i = A 26 0 - 1 then 1 else A 25 i) ∧ N 27 0 = 2 ∧ N 31 0 = A 31 0 ∧ FX A N) := by
  intro l9 hl9
  refine ct_of hl9 mi_X8_takeBar.2.2.2 (Nat.le_of_ble_eq_true rfl) (fun X _ C Y => ?_)
  show E (wC g ad sk) X 0 0 (A) 0 [(0, .ref (ad 5))] []
  refine e_wf (fun hw => ?_)
  refine B_X8_takeBar_0  (Nat.zero_le _) (Nat.zero_le _) C Y ⟨_, x_note (by omega) h22, fun N hN => ?_⟩
  obtain ⟨f, em⟩ := hN
  have n26 : N 26 0 = A 26 0 := f 26 0 (by decide) (by decide)
  rw [n26]
  have t1 : AtT u L (up (up N 25 (A 26 0 - 1) 1) 27 0 2) e := h.fa (fun c i h1 h2 h3 h4 h5 h6 => by rw [up_c h5, up_c h3]; exact f c i h1 h2)
  refine ⟨by omega, _, x_advT t1, fun P hP => ⟨rfl, hP.2, em_fn em (fun i => ?_) ?_, ?_, fun i => ?_, ?_, ?_, fun c i h1 h2 h3 => ?_⟩⟩
  · rw [hP.1 21 i (by decide) (by decide) (by decide), up_c (by decide), up_c (by decide)]
  · rw [hP.1 22 0 (by decide) (by decide) (by decide), up_c (by decide), up_c (by decide)]
  · rw [hP.1 26 0 (by decide) (by decide) (by decide), up_c (by decide), up_c (by decide)]; exact n26
  · rw [hP.1 25 i (by decide) (by decide) (by decide), up_c (by decide)]
    split
    · rename_i q; rw [q, up_s]
    · rename_i q; rw [up_i q]; exact f 25 i (by decide) (by decide)
  · rw [hP.1 27 0 (by decide) (by decide) (by decide), up_s]
  · rw [hP.1 31 0 (by decide) (by decide) (by decide), up_c (by decide), up_c (by decide)]; exact f 31 0 (by decide) (by decide)
  · rw [hP.1 c i (by omega) (by omega) (by omega), up_c (by omega), up_c (by omega)]; exact f c i h1 h2
theorem x_takeClose {g : Gs} {ad : Nat → Nat} {sk : (Nat → Nat) × (Nat → Nat)} {u : Int → Int} {L e : Int} {A : Mem} (h : AtT u L A e) (h26 : 1 ≤ A 26 0 ∧ A 26 0 ≤ 80) (h22 : 0 ≤ A 22 0 ∧ A 22 0 < 400) : SpV (wC g ad sk) yX8_takeClose cX8_takeClose 1 none 3 [.ref (ad 5)] (A) (fun N => AtT u L N (enF u L e) ∧ Em A N [102] ∧ N 26 0 = A 26 0 - 1 ∧ (∀ i, N 25 i = A 25 i) ∧ N 27 0 = 3 ∧ N 31 0 = A 31 0 ∧ FX A N) := by
  intro l9 hl9
  refine ct_of hl9 mi_X8_takeClose.2.2.2 (Nat.le_of_ble_eq_true rfl) (fun X _ C Y => ?_)
  show E (wC g ad sk) X 0 0 (A) 0 [(0, .ref (ad 5))] []
  refine e_wf (fun hw => ?_)
  refine B_X8_takeClose_0  (Nat.zero_le _) (Nat.zero_le _) C Y ⟨_, x_note (by omega) h22, fun N hN => ?_⟩
  obtain ⟨f, em⟩ := hN
  have n26 : N 26 0 = A 26 0 := f 26 0 (by decide) (by decide)
  rw [n26]
  have t1 : AtT u L (up (up N 26 0 (A 26 0 - 1)) 27 0 3) e := h.fa (fun c i h1 h2 h3 h4 h5 h6 => by rw [up_c h5, up_c h4]; exact f c i h1 h2)
  refine ⟨by omega, _, x_advT t1, fun P hP => ⟨rfl, hP.2, em_fn em (fun i => ?_) ?_, ?_, fun i => ?_, ?_, ?_, fun c i h1 h2 h3 => ?_⟩⟩
  · rw [hP.1 21 i (by decide) (by decide) (by decide), up_c (by decide), up_c (by decide)]
  · rw [hP.1 22 0 (by decide) (by decide) (by decide), up_c (by decide), up_c (by decide)]
  · rw [hP.1 26 0 (by decide) (by decide) (by decide), up_c (by decide), up_s]
  · rw [hP.1 25 i (by decide) (by decide) (by decide), up_c (by decide), up_c (by decide)]; exact f 25 i (by decide) (by decide)
  · rw [hP.1 27 0 (by decide) (by decide) (by decide), up_s]
  · rw [hP.1 31 0 (by decide) (by decide) (by decide), up_c (by decide), up_c (by decide)]; exact f 31 0 (by decide) (by decide)
  · rw [hP.1 c i (by omega) (by omega) (by omega), up_c (by omega), up_c (by omega)]; exact f c i h1 h2
