/-! ===== write: the class whole; the reference ===== -/
def WrR (M : Mem) (z : Int) : Int → Int → Mem → Prop := fun k r N => (¬ (0 ≤ z ∧ z < M 0 0) ∧ k = 1 ∧ N = up M 20 0 1) ∨
  ((0 ≤ z ∧ z < M 0 0) ∧ 400 < ((gtx M z).length : Int) ∧ k = 2 ∧ ∀ c i, c ≠ 20 → c ≠ 25 → c ≠ 59 → c ≠ 60 → c ≠ 61 → N c i = M c i) ∨
  ((0 ≤ z ∧ z < M 0 0) ∧ ((gtx M z).length : Int) ≤ 400 ∧ k = 0 ∧ r = (gtx M z).length ∧ N 26 0 = (gtx M z).length ∧ (∀ (i : Nat) (h : i < (gtx M z).length), N 62 (i : Int) = (gtx M z)[i]) ∧ ∀ c i, c ≠ 20 → c ≠ 25 → c ≠ 26 → c ≠ 59 → c ≠ 60 → c ≠ 61 → c ≠ 62 → N c i = M c i)
theorem Jn.wri {A B M N : Mem} (h : Jn A M) (ea : ∀ c i, c ≠ 36 → c ≠ 37 → B c i = A c i) (em : ∀ c i, c ≤ 24 ∨ c = 27 ∨ c = 28 → c ≠ 20 → N c i = M c i) (hw9 : WriJ B N) : Jn B N := by
  have e0 := em 0 0 (by decide) (by decide)
  obtain ⟨a, b, c, ⟨d0, d1⟩, f, -, l⟩ := h
  refine ⟨?_, b.cg (fun i => ea 10 i (by decide) (by decide)) (ea 11 0 (by decide) (by decide)) (em 16 0 (by decide) (by decide)) (fun i => em 17 i (by decide) (by decide)) (by omega), c.cg (ea 38 0 (by decide) (by decide)) (fun i => ea 39 i (by decide) (by decide)) (em 18 0 (by decide) (by decide)) (fun i => em 19 i (by decide) (by decide)) (by omega), ⟨d0.cg (ea 1 0 (by decide) (by decide)) (em 21 0 (by decide) (by decide)) (fun i => em 22 i (by decide) (by decide)) (by omega), d1.cg (ea 1 1 (by decide) (by decide)) (em 21 1 (by decide) (by decide)) (fun i => em 22 i (by decide) (by decide)) (by omega)⟩, f.cg (ea 23 0 (by decide) (by decide)) (fun i => ea 24 i (by decide) (by decide)) (fun i => em 23 i (by decide) (by decide)) (em 24 0 (by decide) (by decide)), hw9, l.cg (ea 0 0 (by decide) (by decide)) (fun i => ea 3 i (by decide) (by decide)) (em 28 0 (by decide) (by decide)) (fun i => em 27 i (by decide) (by decide))⟩
  rw [e0]
  exact (a.cg (Ag.of _ (fun c i c1 c2 => em c i (by omega) (by omega))) e0).cx (fun c i hc => ea c i (by omega) (by omega))
theorem x_copyOut {g : Gs} {ad : Nat → Nat} {sk : (Nat → Nat) × (Nat → Nat)} {A M : Mem} {n z : Int} (hX : RepX M A n) (hz : 0 ≤ z ∧ z < n) (hl : ((gtx M z).length : Int) ≤ 400) : SpV (wC g ad sk) yX4_copyOut cX4_copyOut 2 none 11 [.ref (ad 7), vI (z)] (A) (fun B => PutX (up A 37 0 0) B (gtx M z)) := by
  have hG := hX.2.2.1
  have h40 := hG.2.1
  intro l9 hl9
  refine ct_of hl9 mi_X4_copyOut.2.2.2 (Nat.le_of_ble_eq_true rfl) (fun X _ C Y => ?_)
  show E (wC g ad sk) X 0 0 (A) 0 [(0, .ref (ad 7)), (1, vI (z))] []
  refine e_wf (fun hw => ?_)
  have hX' : RepX M (up A 37 0 0) n := hX.cx (fun c i hc => up_c (by omega))
  refine B_X4_copyOutW_0 (by omega) (Nat.zero_le _) (Nat.zero_le _) C Y ⟨_, x_putGame hG 6 9 z 0 (up A 37 0 0) (by omega) hX' hz.1 hz.2 (by have := (hG.2.2 z hz.1 hz.2).1.2.2.1; omega) (by omega) (by omega) (by rw [up_s]; omega) (by rw [up_s, Int.zero_add]; exact hl), fun B hB => ⟨rfl, hB⟩⟩
theorem x_write {g : Gs} {ad : Nat → Nat} {sk : (Nat → Nat) × (Nat → Nat)} {A M : Mem} {z : Int} (h : Jn A M) (hz : R32 z) : SpT (wC g ad sk) yX9_write cX9_write 2 (some .int) 12 [.ref (ad 0), vI (z)] (A) (fun r B => Res (WrR M z) 0 r B) (fun e B => (e = eIO ∧ Res (WrR M z) 1 0 B) ∨ (e = eIS ∧ Res (WrR M z) 2 0 B)) := by
  intro l9 hl9
  refine ct_of hl9 mi_X9_write.2.2.2 (Nat.le_of_ble_eq_true rfl) (fun X _ C Y => ?_)
  show E (wC g ad sk) X 0 0 (A) 0 [(0, .ref (ad 0)), (1, vI (z))] []
  refine e_wf (fun hw => ?_)
  have hn := h.n
  refine B_X9_writeW_0 (by omega) (Nat.zero_le _) (Nat.zero_le _) C Y ⟨fun c => ⟨by omega, ?_⟩, fun c => ⟨by omega, Or.inl ⟨rfl, ?_⟩⟩⟩
  all_goals rw [hn.1] at c
  · have e48 := (h.g c.1 c.2).2.1.2.1
    have len := gtx_len hn.2.2.2 40 z c.1 c.2 (by omega)
    rw [e48, ← len]
    refine ⟨fun c1 => ⟨_, x_copyOut h.1 c c1, fun B hB => ⟨_, rfl, ?_⟩⟩, fun c1 => ⟨by omega, Or.inr ⟨rfl, ?_⟩⟩⟩
    · obtain ⟨p1, p2, p3, p4⟩ := hB
      rw [up_s, Int.zero_add] at p2
      rintro k' r' N (⟨w, -⟩ | ⟨-, w, -⟩ | ⟨-, -, rfl, rfl, q1, q2, q3⟩)
      · exact absurd c w
      · omega
      · refine ⟨rfl, fun _ => p2.symm, h.wri (fun c i h1 h2 => by rw [p1 c i h1 h2, up_c h2]) (fun c i h1 h2 => q3 c i h2 (by omega) (by omega) (by omega) (by omega) (by omega) (by omega)) ⟨by rw [q1]; omega, by rw [q1, p2], fun i i1 i2 => ?_⟩⟩
        rw [q1] at i2
        have a := p4 i.toNat (by omega)
        have b := q2 i.toNat (by omega)
        rw [up_s, Int.zero_add, Int.toNat_of_nonneg i1] at a
        rw [Int.toNat_of_nonneg i1] at b
        rw [a, b]
    · rintro k' r' N (⟨w, -⟩ | ⟨-, -, rfl, q⟩ | ⟨-, w, -⟩)
      · exact absurd c w
      · exact ⟨rfl, fun w => absurd w (by decide), h.wri (fun _ _ _ _ => rfl) (fun c i h1 h2 => q c i h2 (by omega) (by omega) (by omega) (by omega)) (h.2.2.2.2.2.1.cg rfl (fun _ => rfl) (q 26 0 (by decide) (by decide) (by decide) (by decide) (by decide)) (fun i => q 62 i (by decide) (by decide) (by decide) (by decide) (by decide)))⟩
      · omega
  · rintro k' r' N (⟨-, rfl, rfl⟩ | ⟨w, -⟩ | ⟨w, -⟩)
    · exact ⟨rfl, fun q => absurd q (by decide), h.r20⟩
    · exact absurd w c
    · exact absurd w c
/-! the reference's pen: at most 401 signs stand -/
def OutM (N : Mem) (t : List Int) : Prop := N 61 0 = min 401 (t.length : Int) ∧ ∀ (i : Nat) (h : i < t.length), i < 401 → N 25 (i : Int) = t[i]
def OtF (M N : Mem) : Prop := ∀ c i, c ≠ 25 → c ≠ 61 → N c i = M c i
theorem OtF.trans {A B D : Mem} (a : OtF A B) (b : OtF B D) : OtF A D := fun c i h1 h2 => (b c i h1 h2).trans (a c i h1 h2)
theorem m_writes {g : Gs} {ad : Nat → Nat} {N : Mem} {c : Int} {t : List Int} (hc : R32 c) (ht : OutM N t) : SpV (wM g ad) yX10_writes cX10_writes 2 none 1 [.ref (ad 0), vI (c)] (N) (fun P => OtF N P ∧ OutM P (t ++ [c])) := by
  obtain ⟨a, b⟩ := ht
  intro l9 hl9
  refine ct_of hl9 mi_X10_writes.2.2.2 (Nat.le_of_ble_eq_true rfl) (fun X _ C Y => ?_)
  show E (wM g ad) X 0 0 (N) 0 [(0, .ref (ad 0)), (1, vI (c))] []
  refine e_wf (fun hw => ?_)
  refine B_X10_writes_0 (by omega) (Nat.zero_le _) (Nat.zero_le _) C Y ⟨fun c1 => ?_, fun c1 => ⟨by omega, ?_⟩⟩
  · refine B_X10_writes_20  (Nat.zero_le _) (Nat.zero_le _) C Y ⟨fun _ => ⟨rfl, fun c i h1 h2 => up_c h2, ?_⟩, fun q => absurd q (by omega)⟩
    refine ⟨by rw [up_s, List.length_append, List.length_singleton]; omega, fun i hi h4 => ?_⟩
    rw [up_c (by decide), List.getElem_append_left (by omega)]
    exact b i (by omega) h4
  · have e61 : up N 25 (N 61 0) c 61 0 = N 61 0 := up_c (by decide)
    refine B_X10_writes_20  (Nat.zero_le _) (Nat.zero_le _) C Y ⟨fun q => absurd q (by omega), fun _ => ⟨by omega, rfl, fun c i h1 h2 => by rw [up_c h2, up_c h1], ?_⟩⟩
    refine ⟨by rw [up_s, e61, List.length_append, List.length_singleton]; omega, fun i hi h4 => ?_⟩
    rw [up_c (by decide)]
    rw [List.length_append, List.length_singleton] at hi
    by_cases q : i < t.length
    · rw [List.getElem_append_left q, up_i (by omega)]
      exact b i q h4
    · rw [List.getElem_append_right (by omega), show (i : Int) = N 61 0 by omega, up_s]
      simp
theorem m_writesWhole {g : Gs} {ad : Nat → Nat} {N : Mem} {v : Int} {t : List Int} (hv : 0 ≤ v ∧ v ≤ 64) (ht : OutM N t) : SpV (wM g ad) yX10_writesWhole cX10_writesWhole 2 none 2 [.ref (ad 0), vI (v)] (N) (fun P => OtF N P ∧ OutM P (t ++ whT v)) := by
  intro l9 hl9
  refine ct_of hl9 mi_X10_writesWhole.2.2.2 (Nat.le_of_ble_eq_true rfl) (fun X _ C Y => ?_)
  show E (wM g ad) X 0 0 (N) 0 [(0, .ref (ad 0)), (1, vI (v))] []
  refine e_wf (fun hw => ?_)
  have td : Int.tdiv v 10 = v / 10 := Int.tdiv_eq_ediv_of_nonneg hv.1
  have tm : Int.tmod v 10 = v % 10 := Int.tmod_eq_emod_of_nonneg hv.1
  refine B_X10_writesWhole_0 (by omega) (Nat.zero_le _) (Nat.zero_le _) C Y ?_
  rw [td, tm]
  refine ⟨fun c => ⟨by omega, _, m_writes (by omega) ht, fun P hP => ⟨rfl, hP.1, by unfold whT; rw [if_neg (by omega)]; exact hP.2⟩⟩, fun c => ⟨by omega, _, m_writes (by omega) ht, fun P hP => ⟨by omega, _, m_writes (by omega) hP.2, fun Q hQ => ⟨rfl, hP.1.trans hQ.1, ?_⟩⟩⟩⟩
  unfold whT
  rw [if_pos c]
  have := hQ.2
  rwa [List.append_assoc] at this
theorem m_writesNumber {g : Gs} {ad : Nat → Nat} {N : Mem} {e : Int} {t : List Int} (he : -64 ≤ e ∧ e ≤ 64) (ht : OutM N t) : SpV (wM g ad) yX10_writesNumber cX10_writesNumber 4 none 3 [.ref (ad 0), vI (e)] (N) (fun P => OtF N P ∧ OutM P (t ++ numTx e)) := by
  intro l9 hl9
  refine ct_of hl9 mi_X10_writesNumber.2.2.2 (Nat.le_of_ble_eq_true rfl) (fun X _ C Y => ?_)
  show E (wM g ad) X 0 0 (N) 0 [(0, .ref (ad 0)), (1, vI (e))] []
  refine e_wf (fun hw => ?_)
  obtain ⟨s1, s2, s3, s4, s5, s6, s7⟩ := num_sh he
  have fin : ∀ P t', OtF N P → OutM P t' → t' = t ++ (if e < 0 then [45] else []) → E (wM g ad) X 0 0 (P) 46 [(0, .ref (ad 0)), (2, vI (nmr e)), (3, vI (dnm e))] [] := by
    intro P t' f hP e'
    refine B_X10_writesNumber_46 (by omega) (by omega) (Nat.zero_le _) (Nat.zero_le _) C Y ⟨_, m_writesWhole ⟨s4, s5⟩ hP, fun Q hQ => ⟨fun c => ⟨rfl, f.trans hQ.1, ?_⟩, fun c => ⟨_, m_writes (by decide) hQ.2, fun R hR => ⟨_, m_writesWhole (by omega) hR.2, fun U hU => ⟨rfl, ((f.trans hQ.1).trans hR.1).trans hU.1, ?_⟩⟩⟩⟩⟩
    · have := hQ.2
      rw [e'] at this
      unfold numTx
      rw [if_neg (by omega : ¬ (1 < dnm e)), List.append_nil, ← List.append_assoc]
      exact this
    · have := hU.2
      rw [e'] at this
      unfold numTx
      rw [if_pos c]
      have w : whT (dnm e) = [48 + dnm e] := by unfold whT; rw [if_neg (by omega), show dnm e % 10 = dnm e by omega]
      rw [w] at this
      simpa [List.append_assoc] using this
  have mid : E (wM g ad) X 0 0 (N) 36 [(0, .ref (ad 0)), (1, vI (e)), (2, vI (nmr e)), (3, vI (dnm e))] [] := by
    refine B_X10_writesNumber_36 (by omega) (by omega) (by omega) (Nat.zero_le _) (Nat.zero_le _) C Y ⟨fun c => fin N t (fun _ _ _ _ => rfl) ht (by rw [if_neg (by omega)]; simp), fun c => ⟨_, m_writes (by decide) ht, fun P hP => fin P _ hP.1 hP.2 (by rw [if_pos c])⟩⟩
  have lp : ∀ b : Int, (b = 8 ∨ b = 4 ∨ b = 2 ∨ b = 1) → ∀ a : Int, 0 ≤ a → a ≤ 64 → (b = dnm e ∧ a = nmr e) → (b = 1 ∨ a % 2 ≠ 0) → E (wM g ad) X 0 0 (N) 14 [(0, .ref (ad 0)), (1, vI (e)), (2, vI (a)), (3, vI (b))] [] := by
    intro b hb a a1 a2 hab hst
    have tm : Int.tmod a 2 = a % 2 := Int.tmod_eq_emod_of_nonneg a1
    refine B_X10_writesNumber_14 (by omega) (by omega) (by omega) (Nat.zero_le _) (Nat.zero_le _) C Y ?_
    rw [tm]
    obtain ⟨rfl, rfl⟩ := hab
    exact ⟨fun _ => mid, fun c => ⟨fun _ => mid, fun c1 => absurd c1 (by omega)⟩⟩
  have st : ∀ b a : Int, (b = 8 ∨ b = 4 ∨ b = 2) → 0 ≤ a → a ≤ 64 → a % 2 = 0 → E (wM g ad) X 0 0 (N) 14 [(0, .ref (ad 0)), (1, vI (e)), (2, vI (a / 2)), (3, vI (b / 2))] [] → E (wM g ad) X 0 0 (N) 14 [(0, .ref (ad 0)), (1, vI (e)), (2, vI (a)), (3, vI (b))] [] := by
    intro b a hb a1 a2 ha nx
    have tm : Int.tmod a 2 = a % 2 := Int.tmod_eq_emod_of_nonneg a1
    have td : Int.tdiv a 2 = a / 2 := Int.tdiv_eq_ediv_of_nonneg a1
    have tb : Int.tdiv b 2 = b / 2 := Int.tdiv_eq_ediv_of_nonneg (by omega)
    refine B_X10_writesNumber_14 (by omega) (by omega) (by omega) (Nat.zero_le _) (Nat.zero_le _) C Y ?_
    rw [tm, td, tb]
    exact ⟨fun c => absurd c (by omega), fun _ => ⟨fun c => absurd ha c, fun _ => nx⟩⟩
  have start : E (wM g ad) X 0 0 (N) 14 [(0, .ref (ad 0)), (1, vI (e)), (2, vI (absI e)), (3, vI (8))] [] := by
    have a0 : 0 ≤ absI e ∧ absI e ≤ 64 := by unfold absI; split <;> omega
    have am : (absI e % 8 = 0 ↔ e % 8 = 0) ∧ (absI e % 4 = 0 ↔ e % 4 = 0) ∧ (absI e % 2 = 0 ↔ e % 2 = 0) := by unfold absI; split <;> omega
    by_cases h2 : e % 2 = 0
    · refine st 8 (absI e) (by omega) a0.1 a0.2 (am.2.2.mpr h2) ?_
      by_cases h4 : e % 4 = 0
      · refine st 4 (absI e / 2) (by omega) (by omega) (by omega) (by have := am.2.1.mpr h4; omega) ?_
        by_cases h8 : e % 8 = 0
        · refine st 2 (absI e / 2 / 2) (by omega) (by omega) (by omega) (by have := am.1.mpr h8; omega) ?_
          refine lp 1 (by omega) _ (by omega) (by omega) ⟨by unfold dnm; rw [if_pos h8], ?_⟩ (Or.inl rfl)
          unfold nmr; rw [if_pos h8]; omega
        · refine lp 2 (by omega) _ (by omega) (by omega) ⟨by unfold dnm; rw [if_neg h8, if_pos h4], ?_⟩ (Or.inr (by have : ¬ (absI e % 8 = 0) := fun q => h8 (am.1.mp q); have := am.2.1.mpr h4; omega))
          unfold nmr; rw [if_neg h8, if_pos h4]; omega
      · have h8 : ¬ (e % 8 = 0) := by omega
        refine lp 4 (by omega) _ (by omega) (by omega) ⟨by unfold dnm; rw [if_neg h8, if_neg h4, if_pos h2], ?_⟩ (Or.inr (by have : ¬ (absI e % 4 = 0) := fun q => h4 (am.2.1.mp q); have := am.2.2.mpr h2; omega))
        unfold nmr; rw [if_neg h8, if_neg h4, if_pos h2]
    · have h8 : ¬ (e % 8 = 0) := by omega
      have h4 : ¬ (e % 4 = 0) := by omega
      refine lp 8 (by omega) _ a0.1 a0.2 ⟨by unfold dnm; rw [if_neg h8, if_neg h4, if_neg h2], ?_⟩ (Or.inr (fun q => h2 (am.2.2.mp q)))
      unfold nmr; rw [if_neg h8, if_neg h4, if_neg h2]; omega
  refine B_X10_writesNumber_0 (by omega) (Nat.zero_le _) (Nat.zero_le _) C Y ⟨fun c => ?_, fun c => ⟨by omega, ?_⟩⟩
  · have : absI e = e := by unfold absI; rw [if_neg (by omega)]
    rw [this] at start; exact start
  · have : absI e = -e := by unfold absI; rw [if_pos c]
    rw [this] at start; exact start
