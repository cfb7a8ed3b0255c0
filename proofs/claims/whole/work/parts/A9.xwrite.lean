/-! ===== the class: write ===== -/
/-- the pen has put these signs -/
def PutX (A B : Mem) (t : List Int) : Prop := (∀ c i, c ≠ 36 → c ≠ 37 → B c i = A c i) ∧ B 37 0 = A 37 0 + t.length ∧ (∀ i, i < A 37 0 → B 36 i = A 36 i) ∧ ∀ (i : Nat) (h : i < t.length), B 36 (A 37 0 + i) = t[i]
theorem PutX.nil (A : Mem) : PutX A A [] := ⟨fun _ _ _ _ => rfl, by simp, fun _ _ => rfl, fun i h => absurd h (by simp)⟩
theorem PutX.trans {A B D : Mem} {s t : List Int} (a : PutX A B s) (b : PutX B D t) : PutX A D (s ++ t) := by
  obtain ⟨a1, a2, a3, a4⟩ := a
  obtain ⟨b1, b2, b3, b4⟩ := b
  refine ⟨fun c i h1 h2 => (b1 c i h1 h2).trans (a1 c i h1 h2), by rw [b2, a2, List.length_append]; omega, fun i h => (b3 i (by omega)).trans (a3 i h), fun i h => ?_⟩
  rw [List.length_append] at h
  by_cases q : i < s.length
  · rw [List.getElem_append_left q, b3 _ (by omega)]
    exact a4 i q
  · rw [List.getElem_append_right (by omega)]
    have := b4 (i - s.length) (by omega)
    rw [a2, show A 37 0 + (s.length : Int) + ((i - s.length : Nat) : Int) = A 37 0 + i by omega] at this
    exact this
theorem x_put {g : Gs} {ad : Nat → Nat} {sk : (Nat → Nat) × (Nat → Nat)} {A : Mem} {c : Int} (hc : 0 ≤ c ∧ c < 65536) (h : 0 ≤ A 37 0 ∧ A 37 0 < 400) : SpV (wC g ad sk) yX4_put cX4_put 2 none 1 [.ref (ad 7), vI (c)] (A) (fun B => PutX A B [c]) := by
  intro l9 hl9
  refine ct_of hl9 mi_X4_put.2.2.2 (Nat.le_of_ble_eq_true rfl) (fun X _ C Y => ?_)
  show E (wC g ad sk) X 0 0 (A) 0 [(0, .ref (ad 7)), (1, vI (c))] []
  refine e_wf (fun hw => ?_)
  refine B_X4_put_0 (by omega) (Nat.zero_le _) (Nat.zero_le _) C Y ⟨fun q => absurd q (by omega), fun _ => ⟨by omega, rfl, fun k i h1 h2 => by rw [up_c h2, up_c h1], by rw [up_s]; simp, fun i hi => by rw [up_c (by decide), up_i (by omega)], fun i hi => ?_⟩⟩
  simp at hi
  subst hi
  rw [up_c (by decide), show A 37 0 + ((0 : Nat) : Int) = A 37 0 by omega, up_s]
  rfl
theorem x_putNumber {g : Gs} {ad : Nat → Nat} {sk : (Nat → Nat) × (Nat → Nat)} {A : Mem} {e : Int} (he : -64 ≤ e ∧ e ≤ 64) (h : 0 ≤ A 37 0 ∧ A 37 0 + (numTx e).length ≤ 400) : SpV (wC g ad sk) yX4_putNumber cX4_putNumber 4 none 2 [.ref (ad 7), vI (e)] (A) (fun B => PutX A B (numTx e)) := by
  intro l9 hl9
  refine ct_of hl9 mi_X4_putNumber.2.2.2 (Nat.le_of_ble_eq_true rfl) (fun X _ C Y => ?_)
  show E (wC g ad sk) X 0 0 (A) 0 [(0, .ref (ad 7)), (1, vI (e))] []
  refine e_wf (fun hw => ?_)
  obtain ⟨s1, s2, s3, s4, s5, s6, s7⟩ := num_sh he
  have hv3 : halvI e = 0 ∨ halvI e = 1 ∨ halvI e = 2 ∨ halvI e = 3 := by have := hv_by e; omega
  have td : Int.tdiv (nmr e) 10 = nmr e / 10 := Int.tdiv_eq_ediv_of_nonneg s4
  have tm : Int.tmod (nmr e) 10 = nmr e % 10 := Int.tmod_eq_emod_of_nonneg s4
  obtain ⟨la, hla⟩ : ∃ a : Nat, a = if e < 0 then 1 else 0 := ⟨_, rfl⟩
  obtain ⟨lb, hlb⟩ : ∃ a : Nat, a = if 9 < nmr e then 1 else 0 := ⟨_, rfl⟩
  obtain ⟨lc, hlc⟩ : ∃ a : Nat, a = if 1 < dnm e then 2 else 0 := ⟨_, rfl⟩
  have len : (numTx e).length = la + (lb + 1) + lc := by
    rw [hla, hlb, hlc]
    unfold numTx whT
    simp only [List.length_append]
    split <;> split <;> split <;> rfl
  have llen : ((numTx e).length : Int) = la + (lb + 1) + lc := by rw [len]; omega
  have tail : ∀ B pre, PutX A B pre → pre = (if e < 0 then [45] else []) ++ (if 9 < nmr e then [48 + nmr e / 10] else []) → E (wC g ad sk) X 0 0 (B) 46 [(0, .ref (ad 7)), (2, vI (halvI e)), (3, vI (nmr e))] [] := by
    intro B pre hB hp
    have pl : pre.length = la + lb := by
      rw [hp, hla, hlb]; simp only [List.length_append]; split <;> split <;> rfl
    have b37 := hB.2.1
    have b37' : 0 ≤ B 37 0 ∧ B 37 0 < 400 := by omega
    refine B_X4_putNumber_46 (by omega) (by omega) (Nat.zero_le _) (Nat.zero_le _) C Y ?_
    rw [tm]
    refine ⟨⟨by omega, by omega, by omega⟩, _, x_put (by omega) b37', fun B2 h2 => ⟨fun c => ⟨rfl, ?_⟩, fun c => ?_⟩⟩
    · have : ¬ (1 < dnm e) := by have := s3.mp c; omega
      have eq : numTx e = pre ++ [48 + nmr e % 10] := by
        unfold numTx whT
        rw [hp, if_neg this]
        split <;> split <;> simp
      rw [eq]; exact hB.trans h2
    · have d1 : 1 < dnm e := by
        have : ¬ (dnm e = 1) := fun q => by have := s3.mpr q; omega
        omega
      have b2 := h2.2.1
      simp only [List.length_singleton] at b2
      rw [if_pos d1] at hlc
      have b2' : 0 ≤ B2 37 0 ∧ B2 37 0 < 400 := by omega
      refine ⟨_, x_put (by decide) b2', fun B3 h3 => ?_⟩
      have b3 := h3.2.1
      simp only [List.length_singleton] at b3
      have b3' : 0 ≤ B3 37 0 ∧ B3 37 0 < 400 := by omega
      rw [s2]
      refine ⟨⟨by omega, by omega, by omega⟩, _, x_put (by omega) b3', fun B4 h4 => ⟨rfl, ?_⟩⟩
      have eq : numTx e = ((pre ++ [48 + nmr e % 10]) ++ [47]) ++ [48 + dnm e] := by
        unfold numTx whT
        rw [hp, if_pos d1]
        split <;> split <;> simp
      rw [eq]; exact ((hB.trans h2).trans h3).trans h4
  have mid : ∀ B pre, PutX A B pre → pre = (if e < 0 then [45] else []) → E (wC g ad sk) X 0 0 (B) 10 [(0, .ref (ad 7)), (1, vI (e))] [] := by
    intro B pre hB hp
    have b37 := hB.2.1
    have pl : pre.length = la := by rw [hp, hla]; split <;> rfl
    have go : ∀ t, t = absI e → E (wC g ad sk) X 0 0 (B) 25 [(0, .ref (ad 7)), (2, vI (halvI e))] [vI (t)] := by
      intro t ht
      have tr : 0 ≤ t ∧ t ≤ 64 := by rw [ht]; unfold absI; split <;> omega
      refine B_X4_putNumber_25 (by omega) (by omega) (Nat.zero_le _) (Nat.zero_le _) C Y ?_
      rw [ht, s1, td]
      refine ⟨fun c => tail B pre hB (by rw [hp, if_neg (by omega : ¬ (9 < nmr e))]; simp), fun c => ⟨⟨by omega, by omega, by omega⟩, _, x_put (by omega) ?_, fun B2 h2 => tail B2 _ (hB.trans h2) (by rw [hp, if_pos (by omega : 9 < nmr e)])⟩⟩
      rw [if_pos (by omega : 9 < nmr e)] at hlb
      omega
    refine B_X4_putNumber_10 (by omega) (Nat.zero_le _) (Nat.zero_le _) C Y ⟨fun c => go e (by unfold absI; rw [if_neg (by omega)]), fun c => ⟨by omega, go (-e) (by unfold absI; rw [if_pos c])⟩⟩
  refine B_X4_putNumber_0 (by omega) (Nat.zero_le _) (Nat.zero_le _) C Y ⟨fun c => mid A [] (PutX.nil A) (by rw [if_neg (by omega)]), fun c => ⟨_, x_put (by decide) ?_, fun B hB => mid B [45] hB (by rw [if_pos c])⟩⟩
  rw [if_pos c] at hla
  omega
theorem RepX.pt {M A B : Mem} {n : Int} {t : List Int} (h : RepX M A n) (p : PutX A B t) : RepX M B n := h.cx (fun c i hc => p.1 c i (by omega) (by omega))
/-- putGame at one level, if it works below -/
theorem xp_51 {dd : Nat} (hd9 : 2 ≤ dd) {g : Gs} {ad : Nat → Nat} {sk : (Nat → Nat) × (Nat → Nat)} {X : Cx} {PQ : Option Value → Mem → Prop} {PX : String → Mem → Prop} (C : OkB (wC g ad sk) X cX4_putGame RX4 6 (dd + 1) 0 0) (Y : OkR (wC g ad sk) X none 0 0 PQ PX) {A M : Mem} {n z lv9 s : Int} {f : Int → List Int} (hX : RepX M A n) (hz : 0 ≤ z ∧ z < n) (h1 : M 1 z = 0) (hl : 0 ≤ lv9 ∧ lv9 ≤ 5) (hs : s = 0 ∨ s = 1) (h0 : 0 ≤ A 37 0 ∧ A 37 0 + (123 :: bd f M z 0).length ≤ 400)
    (rec9 : ∀ s i, 0 ≤ s → s ≤ 1 → 0 ≤ i → i < M 3 (2 * z + s) → ∀ B t, PutX A B t → 0 ≤ B 37 0 → B 37 0 + (f (opt M z s i)).length ≤ 400 → SpV (wC g ad sk) yX4_putGame cX4_putGame 6 none dd [.ref (ad 7), vI (opt M z s i), vI (lv9 + 1)] B (fun D => PutX B D (f (opt M z s i))))
    (kk : ∀ B pre, PutX A B pre → pre ++ (if s = 0 then bdN f M z (M 3 (2 * z + 0)) else []) = 123 :: bd f M z 0 → E (wC g ad sk) X 0 0 (B) 42 [(0, .ref (ad 7)), (2, vI (lv9)), (3, .ref (ad (44 + 6 * (Int.toNat z)))), (4, vI (s + 1))] []) :
    ∀ (m j : Nat), (j : Int) + m = M 3 (2 * z + s) → ∀ B pre, PutX A B pre → pre ++ (if s = 0 then bd f M z j else bdN f M z (M 3 (2 * z + 0) + j)) = 123 :: bd f M z 0 → E (wC g ad sk) X 0 0 (B) 51 [(0, .ref (ad 7)), (2, vI (lv9)), (3, .ref (ad (44 + 6 * (Int.toNat z)))), (4, vI (s)), (5, vI (j))] [] := by
  have hG := hX.2.2.1
  have h40 := hG.2.1
  have hD := (hG.2.2 z hz.1 hz.2).1
  have o0 := opS_r hD.1 (s := 0) (by omega)
  have o1 := opS_r hD.1 (s := 1) (by omega)
  have ob := opS_r hD.1 (s := s) (by omega)
  intro m
  induction m with
  | zero =>
    intro j hj B pre hB hp
    have hX' := hX.pt hB
    have c41 := (hX'.2.2.2.1 z hz.1 hz.2).2.2.1 s (by omega) (by omega)
    have b37 := hB.2.1
    have tot : (pre ++ (if s = 0 then bd f M z j else bdN f M z (M 3 (2 * z + 0) + j))).length = (123 :: bd f M z 0).length := by rw [hp]
    rw [List.length_append] at tot
    rcases hs with rfl | rfl
    · simp only [if_true] at hp tot kk
      have e : bd f M z j = [124] ++ bdN f M z (M 3 (2 * z + 0)) := by
        rw [bd_eq (by omega), if_pos (by omega), show (j : Int) = M 3 (2 * z + 0) by omega]
      rw [e] at hp tot
      simp only [List.length_append, List.length_singleton] at tot
      refine B_X4_putGame_51 hd9 (by omega) (by omega) (by omega) (by omega) (Nat.zero_le _) (Nat.zero_le _) C Y ⟨by omega, fun c => ⟨fun c1 => absurd rfl c1, fun _ => ⟨_, x_put (by decide) (by omega), fun B2 h2 => ⟨by omega, kk B2 _ (hB.trans h2) (by rw [List.append_assoc]; exact hp)⟩⟩⟩, fun c => absurd c (by omega)⟩
    · simp only [if_false, (show ¬ ((1 : Int) = 0) by decide)] at hp tot kk
      have e : bdN f M z (M 3 (2 * z + 0) + j) = [125] := by
        unfold bdN; rw [if_pos (by omega)]
      rw [e] at hp tot
      simp only [List.length_singleton] at tot
      refine B_X4_putGame_51 hd9 (by omega) (by omega) (by omega) (by omega) (Nat.zero_le _) (Nat.zero_le _) C Y ⟨by omega, fun c => ⟨fun _ => ⟨_, x_put (by decide) (by omega), fun B2 h2 => ⟨by omega, kk B2 _ (hB.trans h2) (by rw [List.append_nil]; exact hp)⟩⟩, fun c1 => absurd c1 (by decide)⟩, fun c => absurd c (by omega)⟩
  | succ m ih =>
    intro j hj B pre hB hp
    have hX' := hX.pt hB
    have c41 := (hX'.2.2.2.1 z hz.1 hz.2).2.2.1 s (by omega) (by omega)
    have oj := ob.2.2 j (by omega) (by omega)
    have tot : (pre ++ (if s = 0 then bd f M z j else bdN f M z (M 3 (2 * z + 0) + j))).length = (123 :: bd f M z 0).length := by rw [hp]
    have e : (if s = 0 then bd f M z j else bdN f M z (M 3 (2 * z + 0) + j)) = (if 0 < (j : Int) then [44] else []) ++ (f (opt M z s j) ++ (if s = 0 then bd f M z ((j + 1 : Nat) : Int) else bdN f M z (M 3 (2 * z + 0) + ((j + 1 : Nat) : Int)))) := by
      rcases hs with rfl | rfl
      · simp only [if_true]
        rw [bd_eq (by omega), if_neg (by omega)]
        unfold bdN
        rw [if_neg (by omega), if_pos (by omega : (j : Int) < M 3 (2 * z + 0)), List.nil_append]
        congr 1
        by_cases q : 0 < (j : Int)
        · rw [if_pos q, if_pos (by omega)]
        · rw [if_neg q, if_neg (by omega)]
      · simp only [if_false, (show ¬ ((1 : Int) = 0) by decide)]
        conv => lhs; unfold bdN
        rw [if_neg (by omega), if_neg (by omega : ¬ (M 3 (2 * z + 0) + (j : Int) < M 3 (2 * z + 0))), show M 3 (2 * z + 0) + (j : Int) - M 3 (2 * z + 0) = j by omega, show M 3 (2 * z + 0) + (j : Int) + 1 = M 3 (2 * z + 0) + ((j + 1 : Nat) : Int) by omega, bd_eq (by omega), if_neg (by omega : ¬ (M 3 (2 * z + 0) + ((j + 1 : Nat) : Int) = M 3 (2 * z + 0))), List.nil_append]
        congr 1
        by_cases q : 0 < (j : Int)
        · rw [if_pos q, if_pos (by omega)]
        · rw [if_neg q, if_neg (by omega)]
    rw [e] at hp tot
    simp only [List.length_append] at tot
    have put74 : ∀ B pre', PutX A B pre' → pre' = pre ++ (if 0 < (j : Int) then [44] else []) → E (wC g ad sk) X 0 0 (B) 74 [(0, .ref (ad 7)), (2, vI (lv9)), (3, .ref (ad (44 + 6 * (Int.toNat z)))), (4, vI (s)), (5, vI (j))] [] := by
      intro B pre' hB hp'
      have hX' := hX.pt hB
      have hrw := repG_rw hD.1 (hX'.2.2.2.1 z hz.1 hz.2)
      have eo := rw_opt hrw (s := s) (i := j) (by omega) (by omega)
      have c41 := (hrw.2 s (by omega) (by omega)).1
      have b37 := hB.2.1
      have pl : pre'.length = pre.length + (if 0 < (j : Int) then [44] else [] : List Int).length := by rw [hp', List.length_append]
      refine B_X4_putGame_74 hd9 (by omega) (by omega) (by omega) (by omega) (Nat.zero_le _) (Nat.zero_le _) C Y ⟨⟨by omega, by omega⟩, ?_⟩
      rw [eo]
      refine ⟨_, rec9 s j (by omega) (by omega) (by omega) (by omega) B pre' hB (by omega) (by omega), fun D hD2 => ⟨by omega, ih (j + 1) (by omega) D _ (hB.trans hD2) ?_⟩⟩
      rw [hp', List.append_assoc, List.append_assoc]
      exact hp
    refine B_X4_putGame_51 hd9 (by omega) (by omega) (by omega) (by omega) (Nat.zero_le _) (Nat.zero_le _) C Y ⟨by omega, fun c => absurd c (by omega), fun c => ⟨fun c1 => put74 B pre hB (by rw [if_neg (by omega)]; simp), fun c1 => ⟨_, x_put (by decide) ?_, fun B2 h2 => put74 B2 _ (hB.trans h2) (by rw [if_pos c1])⟩⟩⟩
    have b37 := hB.2.1
    rw [if_pos c1] at tot
    simp only [List.length_singleton] at tot
    omega
theorem x_putGame {g : Gs} {ad : Nat → Nat} {sk : (Nat → Nat) × (Nat → Nat)} {M : Mem} {n : Int} (hG : Good n M) : ∀ (k : Nat) (dd : Nat) (z lv9 : Int) (A : Mem), k + 2 ≤ dd → RepX M A n → 0 ≤ z → z < n → M 5 z ≤ k → 0 ≤ lv9 → lv9 + k ≤ 6 → 0 ≤ A 37 0 → A 37 0 + (gtxK M k z).length ≤ 400 → SpV (wC g ad sk) yX4_putGame cX4_putGame 6 none (dd + 1) [.ref (ad 7), vI (z), vI (lv9)] (A) (fun B => PutX A B (gtxK M k z)) := by
  have h40 := hG.2.1
  intro k
  induction k with
  | zero =>
    intro dd z lv9 A hdd hX z1 z2 hd l1 l2 a1 a2
    have hd9 : 2 ≤ dd := by omega
    obtain ⟨hD, -⟩ := hG.2.2 z z1 z2
    have n1 : M 1 z ≠ 0 := fun q => by have := (hD.2.2.2.2 q).1; omega
    obtain ⟨-, -, -, x, x1, x2, x3⟩ := hD.2.2.2.1 n1
    obtain ⟨b1, b2, b3⟩ := (hX.2.2.2.1 z z1 z2).1
    have e46 : A 46 z = x := by have := b3 n1; omega
    have et : M 2 z / 128 = x := by omega
    have n45 : A 45 z = 0 := by
      have : ¬ (A 45 z = 1) := fun q => n1 (b2.mp q)
      omega
    rw [gtxK, et] at a2 ⊢
    intro l9 hl9
    refine ct_of hl9 mi_X4_putGame.2.2.2 (Nat.le_of_ble_eq_true rfl) (fun X _ C Y => ?_)
    show E (wC g ad sk) X 0 0 (A) 0 [(0, .ref (ad 7)), (1, vI (z)), (2, vI (lv9))] []
    refine e_wf (fun hw => ?_)
    refine B_X4_putGame_0 hd9 (by omega) (by omega) (Nat.zero_le _) (Nat.zero_le _) C Y ⟨by omega, fun c => absurd n45 c, fun c => ?_⟩
    rw [e46]
    exact ⟨_, x_putNumber ⟨x1, x2⟩ ⟨a1, a2⟩, fun B hB => ⟨rfl, hB⟩⟩
  | succ k ih =>
    intro dd z lv9 A hdd hX z1 z2 hd l1 l2 a1 a2
    have hd9 : 2 ≤ dd := by omega
    obtain ⟨hD, -⟩ := hG.2.2 z z1 z2
    obtain ⟨b1, b2, b3⟩ := (hX.2.2.2.1 z z1 z2).1
    have o0 := opS_r hD.1 (s := 0) (by omega)
    have o1 := opS_r hD.1 (s := 1) (by omega)
    intro l9 hl9
    refine ct_of hl9 mi_X4_putGame.2.2.2 (Nat.le_of_ble_eq_true rfl) (fun X _ C Y => ?_)
    show E (wC g ad sk) X 0 0 (A) 0 [(0, .ref (ad 7)), (1, vI (z)), (2, vI (lv9))] []
    refine e_wf (fun hw => ?_)
    by_cases n1 : M 1 z = 0
    · have n45 : A 45 z = 1 := b2.mpr n1
      have eg : gtxK M (k + 1) z = 123 :: bd (gtxK M k) M z 0 := by rw [gtxK, if_pos n1]
      rw [eg] at a2
      have rec9 : ∀ s i, 0 ≤ s → s ≤ 1 → 0 ≤ i → i < M 3 (2 * z + s) → ∀ B t, PutX A B t → 0 ≤ B 37 0 → B 37 0 + (gtxK M k (opt M z s i)).length ≤ 400 → SpV (wC g ad sk) yX4_putGame cX4_putGame 6 none dd [.ref (ad 7), vI (opt M z s i), vI (lv9 + 1)] B (fun D => PutX B D (gtxK M k (opt M z s i))) := by
        intro s i s1 s2 i1 i2 B t hB q1 q2
        obtain ⟨d', hd'⟩ : ∃ d', dd = d' + 1 := ⟨dd - 1, by omega⟩
        subst hd'
        have o := (opS_r hD.1 ⟨s1, s2⟩).2.2 i i1 i2
        exact ih d' (opt M z s i) (lv9 + 1) B (by omega) (hX.pt hB) o.1 (by omega) (by have := (hD.2.2.2.2 n1).2.1 s s1 s2 i i1 i2; omega) (by omega) (by omega) q1 q2
      have tl : ((123 :: bd (gtxK M k) M z 0).length : Int) = (bd (gtxK M k) M z 0).length + 1 := by rw [List.length_cons]; omega
      refine B_X4_putGame_0 hd9 (by omega) (by omega) (Nat.zero_le _) (Nat.zero_le _) C Y ⟨by omega, fun c => ⟨fun c1 => ⟨_, x_put (by decide) (by omega), fun B hB => ?_⟩, fun c1 => absurd c1 (by omega)⟩, fun c => absurd c (by omega)⟩
      refine B_X4_putGame_42 hd9 (by omega) (by omega) (by omega) (Nat.zero_le _) (Nat.zero_le _) C Y ⟨fun c => absurd c (by decide), fun _ => ?_⟩
      refine xp_51 hd9 C Y (s := 0) hX ⟨z1, z2⟩ n1 (by omega) (Or.inl rfl) ⟨a1, a2⟩ rec9 (fun B1 p1 h1 e1 => ?_) (M 3 (2 * z + 0)).toNat 0 (by omega) B [123] hB (by simp)
      simp only [if_true] at e1
      refine B_X4_putGame_42 hd9 (by omega) (by omega) (by omega) (Nat.zero_le _) (Nat.zero_le _) C Y ⟨fun c => absurd c (by decide), fun _ => ?_⟩
      refine xp_51 hd9 C Y (s := 1) hX ⟨z1, z2⟩ n1 (by omega) (Or.inr rfl) ⟨a1, a2⟩ rec9 (fun B2 p2 h2 e2 => ?_) (M 3 (2 * z + 1)).toNat 0 (by omega) B1 p1 h1 (by simpa using e1)
      simp only [if_false, (show ¬ ((1 : Int) = 0) by decide), List.append_nil] at e2
      refine B_X4_putGame_42 hd9 (by omega) (by omega) (by omega) (Nat.zero_le _) (Nat.zero_le _) C Y ⟨fun _ => ⟨rfl, ?_⟩, fun c => absurd c (by decide)⟩
      show PutX A B2 (gtxK M (k + 1) z)
      rw [eg, ← e2]; exact h2
    · obtain ⟨-, -, -, x, x1, x2, x3⟩ := hD.2.2.2.1 n1
      have e46 : A 46 z = x := by have := b3 n1; omega
      have et : M 2 z / 128 = x := by omega
      have n45 : A 45 z = 0 := by
        have : ¬ (A 45 z = 1) := fun q => n1 (b2.mp q)
        omega
      have eg : gtxK M (k + 1) z = numTx x := by rw [gtxK, if_neg n1, et]
      rw [eg] at a2
      refine B_X4_putGame_0 hd9 (by omega) (by omega) (Nat.zero_le _) (Nat.zero_le _) C Y ⟨by omega, fun c => absurd n45 c, fun c => ?_⟩
      rw [e46]
      exact ⟨_, x_putNumber ⟨x1, x2⟩ ⟨a1, a2⟩, fun B hB => ⟨rfl, by show PutX A B (gtxK M (k + 1) z); rw [eg]; exact hB⟩⟩
