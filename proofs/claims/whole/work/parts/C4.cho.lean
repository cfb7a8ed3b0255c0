/-! ===== moves chosen ===== -/
/-- the first of the hottest components -/
def HotC (M : Mem) (p : Nat) (l : Int → Int) (c : Int) : Prop := (0 ≤ c ∧ c < (p : Int)) ∧ M 6 (l c) = 0 ∧ (∀ x, 0 ≤ x → x < (p : Int) → M 6 (l x) = 0 → M 14 (l x) ≤ M 14 (l c)) ∧ ∀ x, 0 ≤ x → x < c → M 6 (l x) = 0 → M 14 (l x) < M 14 (l c)
def Alw (M : Mem) (p : Nat) (l : Int → Int) (s t c i : Int) : Prop := Mv M p l s c i ∧ (t = 1 → HotC M p l c)
def Wo (M : Mem) (p : Nat) (l : Int → Int) (s t c i w : Int) : Prop := (t = 0 ∧ w = 0) ∨ (t = 1 ∧ w = sgnS s * WA M (opt M (l c) s i) (1 - s) (M 14 (l c))) ∨ (t = 2 ∧ w = sgnS s * (M 13 (opt M (l c) s i) - M 13 (l c))) ∨ (t = 3 ∧ ∃ v, Sc M p (updL l c (opt M (l c) s i)) (1 - s) v ∧ w = sgnS s * v)
def Cho (M : Mem) (p : Nat) (l : Int → Int) (s t r : Int) : Prop := (AllC M l p ∧ r = -1) ∨ (∃ d j w, Alw M p l s t d j ∧ r = 100 * d + j ∧ Wo M p l s t d j w ∧ (∀ c' i' w', Alw M p l s t c' i' → Wo M p l s t c' i' w' → w' ≤ w) ∧ ∀ c' i' w', Alw M p l s t c' i' → Wo M p l s t c' i' w' → (c' < d ∨ (c' = d ∧ i' < j)) → w' < w)
def BfP (M : Mem) (p : Nat) (l : Int → Int) (s t c i c' i' : Int) : Prop := Alw M p l s t c' i' ∧ (c' < c ∨ (c' = c ∧ i' < i))
def ChW (M : Mem) (p : Nat) (l : Int → Int) (s t c i mv mo : Int) : Prop := (mv = -1 ∧ ∀ c' i', ¬ BfP M p l s t c i c' i') ∨ (∃ d j, BfP M p l s t c i d j ∧ mv = 100 * d + j ∧ Wo M p l s t d j mo ∧ (∀ c' i' w', BfP M p l s t c i c' i' → Wo M p l s t c' i' w' → w' ≤ mo) ∧ ∀ c' i' w', Alw M p l s t c' i' → Wo M p l s t c' i' w' → (c' < d ∨ (c' = d ∧ i' < j)) → w' < mo)
theorem hot_uq {M : Mem} {p : Nat} {l : Int → Int} {c d : Int} (h : HotC M p l c) (h' : HotC M p l d) : c = d := by
  rcases Int.lt_trichotomy c d with q | q | q
  · have a := h'.2.2.2 c h.1.1 q h.2.1
    have b := h.2.2.1 d h'.1.1 h'.1.2 h'.2.1
    omega
  · exact q
  · have a := h.2.2.2 d h'.1.1 q h'.2.1
    have b := h'.2.2.1 c h.1.1 h.1.2 h.2.1
    omega
theorem wo_uq {M : Mem} {p : Nat} {l : Int → Int} {s t c i w w' : Int} (h : Wo M p l s t c i w) (h' : Wo M p l s t c i w') : w = w' := by
  rcases h with ⟨a, b⟩ | ⟨a, b⟩ | ⟨a, b⟩ | ⟨a, v, v1, b⟩
  · rcases h' with ⟨a', b'⟩ | ⟨a', b'⟩ | ⟨a', b'⟩ | ⟨a', -⟩ <;> omega
  · rcases h' with ⟨a', b'⟩ | ⟨a', b'⟩ | ⟨a', b'⟩ | ⟨a', -⟩
    · omega
    · rw [b, b']
    · omega
    · omega
  · rcases h' with ⟨a', b'⟩ | ⟨a', b'⟩ | ⟨a', b'⟩ | ⟨a', -⟩
    · omega
    · omega
    · rw [b, b']
    · omega
  · rcases h' with ⟨a', b'⟩ | ⟨a', b'⟩ | ⟨a', b'⟩ | ⟨a', v', v1', b'⟩
    · omega
    · omega
    · omega
    · rw [b, b', sc_uq 24 _ _ _ _ v1 v1']
theorem wo_r {M : Mem} {n : Int} {p : Nat} {l : Int → Int} {s t c i w : Int} (hG : Good n M) (hp : p ≤ 4) (hl : LnO n p l) (hs : s = 0 ∨ s = 1) (hm : Mv M p l s c i) (h : Wo M p l s t c i w) : -200000 ≤ w ∧ w ≤ 200000 := by
  have mv := mv_ok hG hl hs hm
  have lc := hl c hm.1.1 hm.1.2
  have sg : sgnS s = 1 ∨ sgnS s = -1 := by unfold sgnS; split <;> omega
  obtain ⟨hD, -, -, hH, hI⟩ := hG.2.2 (l c) lc.1 lc.2
  obtain ⟨hD2, -, -, -, hI2⟩ := hG.2.2 (opt M (l c) s i) mv.2.2.1 (by omega)
  rcases h with ⟨-, b⟩ | ⟨-, b⟩ | ⟨-, b⟩ | ⟨-, v, v1, b⟩
  · omega
  · obtain ⟨-, -, kt, k1, -, -, k2, -⟩ := hH hm.2.1
    have := wa_bd hG (z := opt M (l c) s i) (s := 1 - s) (t := M 14 (l c)) ⟨mv.2.2.1, by omega⟩ (by omega) (by omega)
    rcases sg with q | q <;> rw [q] at b <;> omega
  · have b1 := hI.2.2.2.1.2.2.2
    have b2 := hI2.2.2.2.1.2.2.2
    have d1 := hD.2.2.1
    have d2 := hD2.2.2.1
    unfold Bd at b1 b2
    rcases sg with q | q <;> rw [q] at b <;> omega
  · have := sc_r hG hp mv.1 (by omega) v1
    rcases sg with q | q <;> rw [q] at b <;> omega
theorem chi_s {M : Mem} {p : Nat} {l : Int → Int} {s t c i mv mo w : Int} (ha : Alw M p l s t c i) (hw : Wo M p l s t c i w) (h : ChW M p l s t c i mv mo) : (mv = -1 ∨ mo < w → ChW M p l s t c (i + 1) (100 * c + i) w) ∧ (mv ≠ -1 → w ≤ mo → ChW M p l s t c (i + 1) mv mo) := by
  have key : ∀ c' i', BfP M p l s t c (i + 1) c' i' ↔ (BfP M p l s t c i c' i' ∨ (c' = c ∧ i' = i)) := by
    intro c' i'
    unfold BfP
    constructor
    · rintro ⟨a, b⟩
      by_cases e : c' = c ∧ i' = i
      · exact Or.inr e
      · exact Or.inl ⟨a, by omega⟩
    · rintro (⟨a, b⟩ | ⟨rfl, rfl⟩)
      · exact ⟨a, by omega⟩
      · exact ⟨ha, by omega⟩
  constructor
  · intro q
    have sm : ∀ c' i' w', BfP M p l s t c i c' i' → Wo M p l s t c' i' w' → w' < w := by
      intro c' i' w' h1 h2
      rcases h with ⟨a, b⟩ | ⟨d, j, a, b, e, f, -⟩
      · exact absurd h1 (b c' i')
      · have := f c' i' w' h1 h2
        rcases q with q | q
        · have := a.1.1.1.1; have := a.1.1.2.2.1; omega
        · omega
    refine Or.inr ⟨c, i, (key c i).mpr (Or.inr ⟨rfl, rfl⟩), rfl, hw, fun c' i' w' h1 h2 => ?_, fun c' i' w' h1 h2 h3 => sm c' i' w' ⟨h1, h3⟩ h2⟩
    rcases (key c' i').mp h1 with h3 | ⟨rfl, rfl⟩
    · have := sm c' i' w' h3 h2; omega
    · have := wo_uq h2 hw; omega
  · intro q1 q2
    rcases h with ⟨a, b⟩ | ⟨d, j, a, b, e, f, g⟩
    · exact absurd a q1
    · refine Or.inr ⟨d, j, (key d j).mpr (Or.inl a), b, e, fun c' i' w' h1 h2 => ?_, g⟩
      rcases (key c' i').mp h1 with h3 | ⟨rfl, rfl⟩
      · exact f c' i' w' h3 h2
      · have := wo_uq h2 hw; omega
theorem chi_n {M : Mem} {p : Nat} {l : Int → Int} {s t c i mv mo : Int} (hi : M 6 (l c) ≠ 0 ∨ (t = 1 ∧ ¬ HotC M p l c) ∨ M 3 (2 * l c + s) ≤ i) (h : ChW M p l s t c i mv mo) : ChW M p l s t (c + 1) 0 mv mo := by
  have key : ∀ c' i', BfP M p l s t c i c' i' ↔ BfP M p l s t (c + 1) 0 c' i' := by
    intro c' i'
    unfold BfP
    constructor
    · rintro ⟨a, b⟩; exact ⟨a, Or.inl (by omega)⟩
    · rintro ⟨a, b⟩
      refine ⟨a, ?_⟩
      rcases b with b | b
      · by_cases e : c' = c
        · subst e
          have a1 := a.1.2.1
          have a2 := a.1.2.2.2
          rcases hi with hi | ⟨h1, h2⟩ | hi
          · exact absurd a1 hi
          · exact absurd (a.2 h1) h2
          · exact Or.inr ⟨rfl, by omega⟩
        · exact Or.inl (by omega)
      · have := a.1.2.2.1; omega
  rcases h with ⟨a, b⟩ | ⟨d, j, a, b, e, f, g⟩
  · exact Or.inl ⟨a, fun c' i' q => b c' i' ((key c' i').mpr q)⟩
  · exact Or.inr ⟨d, j, (key d j).mp a, b, e, fun c' i' w' h1 h2 => f c' i' w' ((key c' i').mpr h1) h2, g⟩
theorem chi_0 {M : Mem} {p : Nat} {l : Int → Int} {s t mo : Int} : ChW M p l s t 0 0 (-1) mo := Or.inl ⟨rfl, fun c' i' q => by have := q.1.1.1.1; have := q.1.1.2.2.1; have := q.2; omega⟩
theorem chi_end {M : Mem} {n : Int} {p : Nat} {l : Int → Int} {s t mv mo : Int} (hG : Good n M) (hl : LnO n p l) (hs : s = 0 ∨ s = 1) (hn : ¬ AllC M l p) (hh : t = 1 → ∃ c, HotC M p l c) (h : ChW M p l s t p 0 mv mo) : Cho M p l s t mv := by
  have op : ∀ c, 0 ≤ c → c < (p : Int) → M 6 (l c) = 0 → Mv M p l s c 0 := fun c c1 c2 c6 => by
    have lc := hl c c1 c2
    obtain ⟨g0, g1, -⟩ := (hG.2.2 (l c) lc.1 lc.2).2.2.2.1 c6
    exact ⟨⟨c1, c2⟩, c6, by omega, by rcases hs with rfl | rfl <;> omega⟩
  rcases h with ⟨a, b⟩ | ⟨d, j, a, b, e, f, g⟩
  · exfalso
    by_cases t1 : t = 1
    · obtain ⟨c, hc⟩ := hh t1
      exact b c 0 ⟨⟨op c hc.1.1 hc.1.2 hc.2.1, fun _ => hc⟩, Or.inl hc.1.2⟩
    · refine hn (fun c c1 c2 c6 => b c 0 ⟨⟨op c c1 c2 c6, fun q => absurd q t1⟩, Or.inl c2⟩)
  · exact Or.inr ⟨d, j, mo, a.1, b, e, fun c' i' w' h1 h2 => f c' i' w' ⟨h1, Or.inl h1.1.1.2⟩ h2, g⟩
theorem cho_uq {M : Mem} {p : Nat} {l : Int → Int} {s t r r' : Int} (h : Cho M p l s t r) (h' : Cho M p l s t r') : r = r' := by
  rcases h with ⟨a, b⟩ | ⟨d, j, w, a, b, e, f, g⟩
  · rcases h' with ⟨-, b'⟩ | ⟨d', j', w', a', -⟩
    · omega
    · exact absurd a'.1.2.1 (a d' a'.1.1.1 a'.1.1.2)
  · rcases h' with ⟨a', b'⟩ | ⟨d', j', w', a', b', e', f', g'⟩
    · exact absurd a.1.2.1 (a' d a.1.1.1 a.1.1.2)
    · have q1 := f d' j' w' a' e'
      have q2 := f' d j w a e
      by_cases k1 : d' < d ∨ (d' = d ∧ j' < j)
      · have := g d' j' w' a' e' k1; omega
      · by_cases k2 : d < d' ∨ (d = d' ∧ j < j')
        · have := g' d j w a e k2; omega
        · omega
/-! memories and lines that agree -/
theorem cho_mg {M P : Mem} {p : Nat} {l : Int → Int} {s t r : Int} (e : ∀ k i, k ≤ 15 → P k i = M k i) : Cho P p l s t r ↔ Cho M p l s t r := by
  have e6 : ∀ i, P 6 i = M 6 i := fun i => e 6 i (by decide)
  have e3 : ∀ i, P 3 i = M 3 i := fun i => e 3 i (by decide)
  have e4 : ∀ i, P 4 i = M 4 i := fun i => e 4 i (by decide)
  have e13 : ∀ i, P 13 i = M 13 i := fun i => e 13 i (by decide)
  have e14 : ∀ i, P 14 i = M 14 i := fun i => e 14 i (by decide)
  have e15 : ∀ i, P 15 i = M 15 i := fun i => e 15 i (by decide)
  have hw : ∀ c i w, Wo P p l s t c i w ↔ Wo M p l s t c i w := fun c i w => by
    unfold Wo WA Sc
    simp only [opt, smpl, e13, e14, e15, e4, scR_mg e]
  have ha : ∀ c i, Alw P p l s t c i ↔ Alw M p l s t c i := fun c i => by
    unfold Alw Mv HotC
    simp only [e6, e3, e14]
  unfold Cho AllC
  simp only [hw, ha, e6]
theorem hot_cg {M : Mem} {p : Nat} {l l' : Int → Int} {c : Int} (e : ∀ c, 0 ≤ c → c < (p : Int) → l' c = l c) (h : HotC M p l' c) : HotC M p l c := by
  obtain ⟨h1, h2, h3, h4⟩ := h
  have ec := e c h1.1 h1.2
  rw [ec] at h2 h3 h4
  refine ⟨h1, h2, fun x x1 x2 x6 => ?_, fun x x1 x2 x6 => ?_⟩
  · have := h3 x x1 x2
    rw [e x x1 x2] at this; exact this x6
  · have := h4 x x1 x2
    rw [e x x1 (by omega)] at this; exact this x6
theorem alw_cg {M : Mem} {p : Nat} {l l' : Int → Int} {s t c i : Int} (e : ∀ c, 0 ≤ c → c < (p : Int) → l' c = l c) (h : Alw M p l' s t c i) : Alw M p l s t c i := by
  obtain ⟨⟨h1, h2⟩, h3⟩ := h
  rw [e c h1.1 h1.2] at h2
  exact ⟨⟨h1, h2⟩, fun q => hot_cg e (h3 q)⟩
theorem wo_cg {M : Mem} {p : Nat} {l l' : Int → Int} {s t c i w : Int} (e : ∀ c, 0 ≤ c → c < (p : Int) → l' c = l c) (hc : 0 ≤ c ∧ c < (p : Int)) (h : Wo M p l' s t c i w) : Wo M p l s t c i w := by
  unfold Wo at h ⊢
  rw [e c hc.1 hc.2] at h
  rcases h with h | h | h | ⟨a, v, v1, v2⟩
  · exact Or.inl h
  · exact Or.inr (Or.inl h)
  · exact Or.inr (Or.inr (Or.inl h))
  · exact Or.inr (Or.inr (Or.inr ⟨a, v, (ScR.cg 24 _ _ _ _ (updL_cg (fun x x1 x2 => (e x x1 x2).symm))).mpr v1, v2⟩))
theorem cho_cg {M : Mem} {p : Nat} {l l' : Int → Int} {s t r : Int} (e : ∀ c, 0 ≤ c → c < (p : Int) → l' c = l c) (h : Cho M p l' s t r) : Cho M p l s t r := by
  have e' : ∀ c, 0 ≤ c → c < (p : Int) → l c = l' c := fun c c1 c2 => (e c c1 c2).symm
  rcases h with ⟨a, b⟩ | ⟨d, j, w, a, b, f, g, k⟩
  · exact Or.inl ⟨fun c c1 c2 => by rw [e' c c1 c2]; exact a c c1 c2, b⟩
  · refine Or.inr ⟨d, j, w, alw_cg e a, b, wo_cg e a.1.1 f, fun c' i' w' h1 h2 => ?_, fun c' i' w' h1 h2 h3 => ?_⟩
    · exact g c' i' w' (alw_cg e' h1) (wo_cg e' h1.1.1 h2)
    · exact k c' i' w' (alw_cg e' h1) (wo_cg e' h1.1.1 h2) h3
