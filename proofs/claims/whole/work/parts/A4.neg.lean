/-! ===== negatives, as a chain of games made ===== -/
theorem num_to {G N N' : Mem} {n e z : Int} (h : NumR G n e z N) (f : ∀ c i, c ≤ 15 → N' c i = N c i) : NumR G n e z N' := by
  have f0 := f 0 0 (by decide)
  have ag : ∀ m, Ag N N' m := fun m => Ag.of m (fun c i c1 c2 => f c i c2)
  rcases h with ⟨a, b, c, d, e⟩ | ⟨a, b, c, d⟩ | ⟨a, b, c, d0, d1, d2, d3, d4⟩
  · exact Or.inl ⟨a, b, f0.trans c, d.trans (Int.le_refl _) (ag _), e⟩
  · exact Or.inr (Or.inl ⟨a, f0.trans b, c.trans (Int.le_refl _) (ag _), d⟩)
  · exact Or.inr (Or.inr ⟨a, b, c, f0.trans d0, d1.cg (ag _), d2.trans (Int.le_refl _) (ag _), (f 1 n (by decide)).trans d3, (f 2 n (by decide)).trans d4⟩)
theorem cmp_to {G N N' : Mem} {n l r z : Int} (hn : 0 ≤ n) (h : CmpR G n l r z N) (f : ∀ c i, c ≤ 15 → N' c i = N c i) : CmpR G n l r z N' := by
  have f0 := f 0 0 (by decide)
  have ag : ∀ m, Ag N N' m := fun m => Ag.of m (fun c i c1 c2 => f c i c2)
  rcases h with ⟨a, b, c, d⟩ | ⟨a, b, c, d, e⟩ | ⟨a, b, c1, c2, c3, d, e1, e2, d0, d1, d2, d3, d4⟩
  · exact Or.inl ⟨a, f0.trans b, c.trans (Int.le_refl _) (ag _), d⟩
  · exact Or.inr (Or.inl ⟨a, b, f0.trans c, d.trans (Int.le_refl _) (ag _), e⟩)
  · exact Or.inr (Or.inr ⟨a, b, c1, c2, c3, d, e1, e2, f0.trans d0, d1.cg (ag _), d2.trans (Int.le_refl _) (ag _), (f 5 n (by decide)).trans d3, (samW_cg (ag (n + 1)) ⟨hn, by omega⟩).mpr d4⟩)
/-- the word of the negatives of a row -/
def NgW (o : Int → Int) (G : Mem) (y s l : Int) : Prop := Wd40 l (G 0 0) ∧ ∀ x, 0 ≤ x → x < 40 → (tb l x = true ↔ ∃ i, 0 ≤ i ∧ i < G 3 (2 * y + s) ∧ o (opt G y s i) = x)
def NgS (G : Mem) (o : Int → Int) (y r : Int) (G' : Mem) : Prop := (G 1 y ≠ 0 ∧ NumR G (G 0 0) (-(G 2 y / 128)) r G') ∨ (G 1 y = 0 ∧ ∃ l q, NgW o G y 1 l ∧ NgW o G y 0 q ∧ CmpR G (G 0 0) l q r G')
def NgC (M : Mem) (z : Int) : Nat → Mem → (Int → Int) → Prop
  | 0, G, _ => G 0 0 = M 0 0 ∧ Ag M G (M 0 0)
  | k + 1, G, o => (¬ Pt M AllG z k ∧ NgC M z k G o) ∨ (Pt M AllG z k ∧ ∃ G0 o0 r, NgC M z k G0 o0 ∧ r ≠ -1 ∧ NgS G0 o0 k r G ∧ ∀ x, o x = if x = (k : Int) then r else o0 x)
/-- what is known of a chain -/
theorem ngC_ok {M : Mem} {z : Int} (hM : Good (M 0 0) M) (hz : 0 ≤ z ∧ z < M 0 0) : ∀ (k : Nat) (G : Mem) (o : Int → Int), (k : Int) ≤ z + 1 → NgC M z k G o → Good (G 0 0) G ∧ M 0 0 ≤ G 0 0 ∧ Ag M G (M 0 0) ∧ ∀ x, 0 ≤ x → x < (k : Int) → Pt M AllG z x → 0 ≤ o x ∧ o x < G 0 0 := by
  intro k
  induction k with
  | zero =>
    intro G o _ h
    exact ⟨by rw [h.1]; exact hM.cg h.2, by rw [h.1]; exact Int.le_refl _, h.2, fun x x1 x2 => absurd x2 (by omega)⟩
  | succ k ih =>
    intro G o hk h
    rcases h with ⟨hp, h⟩ | ⟨hp, G0, o0, r, h, hr, hs, ho⟩
    · obtain ⟨a, b, c, d⟩ := ih G o (by omega) h
      refine ⟨a, b, c, fun x x1 x2 q => ?_⟩
      by_cases e : x = (k : Int)
      · subst e; exact absurd q hp
      · exact d x x1 (by omega) q
    · obtain ⟨a, b, c, d⟩ := ih G0 o0 (by omega) h
      have st : Good (G 0 0) G ∧ G0 0 0 ≤ G 0 0 ∧ Ag G0 G (G0 0 0) ∧ 0 ≤ r ∧ r < G 0 0 := by
        rcases hs with ⟨-, hs⟩ | ⟨-, l, q, -, -, hs⟩
        · rcases hs with ⟨a1, a2, a3, a4, -⟩ | ⟨a1, -⟩ | ⟨a1, a2, -, a3, a4, a5, -⟩
          · rw [a3]; exact ⟨a.cg a4, Int.le_refl _, a4, a1, a2⟩
          · exact absurd a1 hr
          · rw [a3]; exact ⟨a4, by omega, a5, by have := a.1; omega, by omega⟩
        · rcases hs with ⟨a1, -⟩ | ⟨a1, a2, a3, a4, -⟩ | ⟨a1, a2, -, -, -, d', -, -, a3, a4, a5, -⟩
          · exact absurd a1 hr
          · rw [a3]; exact ⟨a.cg a4, Int.le_refl _, a4, a1, a2⟩
          · rw [a3]; exact ⟨a4, by omega, a5, by have := a.1; omega, by omega⟩
      refine ⟨st.1, by omega, c.trans (Int.le_refl _) (st.2.2.1.mono b), fun x x1 x2 q => ?_⟩
      rw [ho x]
      split
      · exact ⟨st.2.2.2.1, st.2.2.2.2⟩
      · have := d x x1 (by omega) q; omega
theorem ngW_uq {o o' : Int → Int} {G G' : Mem} {y s l l' : Int} (h0 : G' 0 0 = G 0 0) (h40 : G 0 0 ≤ 40) (e3 : G' 3 (2 * y + s) = G 3 (2 * y + s)) (e4 : ∀ i, 0 ≤ i → i < G 3 (2 * y + s) → opt G' y s i = opt G y s i ∧ o' (opt G y s i) = o (opt G y s i)) (h : NgW o G y s l) (h' : NgW o' G' y s l') : l' = l := by
  refine tb_ext h'.1.1 h.1.1 (fun x x1 x2 => ?_)
  have k : tb l x = true ↔ tb l' x = true := by
    by_cases hx : x < 40
    · rw [h.2 x x1 hx, h'.2 x x1 hx, e3]
      exact ⟨fun ⟨i, i1, i2, i3⟩ => ⟨i, i1, i2, by rw [(e4 i i1 i2).1, (e4 i i1 i2).2]; exact i3⟩, fun ⟨i, i1, i2, i3⟩ => ⟨i, i1, i2, by rw [(e4 i i1 i2).1, (e4 i i1 i2).2] at i3; exact i3⟩⟩
    · constructor
      · intro q; have := h.1.2 x x1 x2 q; omega
      · intro q; have := h'.1.2 x x1 x2 q; omega
  cases ea : tb l x <;> cases eb : tb l' x <;> simp_all
theorem ngS_uq {M : Mem} {z : Int} {k : Nat} (hM : Good (M 0 0) M) (hz : 0 ≤ z ∧ z < M 0 0) (hk : (k : Int) ≤ z) (hp : Pt M AllG z k) {G0 G0' G G' : Mem} {o0 o0' : Int → Int} {r r' : Int} (c : NgC M z k G0 o0) (c' : NgC M z k G0' o0') (h0 : G0' 0 0 = G0 0 0) (ag : Ag G0 G0' (G0 0 0)) (ho : ∀ x, 0 ≤ x → x < (k : Int) → Pt M AllG z x → o0' x = o0 x) (s : NgS G0 o0 k r G) (s' : NgS G0' o0' k r' G') : r' = r ∧ G' 0 0 = G 0 0 ∧ Ag G G' (G 0 0) := by
  obtain ⟨a, b, cc, d⟩ := ngC_ok hM hz k G0 o0 (by omega) c
  have kn : (k : Int) < G0 0 0 := by omega
  have e1 : G0' 1 (k : Int) = G0 1 k := ag.1 1 k (by omega) (by omega) kn
  have od : ∀ s i, 0 ≤ s → s ≤ 1 → 0 ≤ i → i < G0 3 (2 * (k : Int) + s) → Pt M AllG z (opt G0 k s i) ∧ 0 ≤ opt G0 k s i ∧ opt G0 k s i < k := by
    intro s i s1 s2 i1 i2
    have e3 : G0 3 (2 * (k : Int) + s) = M 3 (2 * k + s) := cc.ct ⟨by omega, by omega⟩ ⟨s1, s2⟩
    have e4 : opt G0 k s i = opt M k s i := cc.op ⟨by omega, by omega⟩ ⟨s1, s2⟩ ⟨i1, by omega⟩
    have o := (opS_r (hM.2.2 k (by omega) (by omega)).1.1 ⟨s1, s2⟩).2.2 i i1 (by omega)
    rw [e4]
    exact ⟨pt_tr hM hz hp trivial ⟨s1, s2⟩ ⟨i1, by omega⟩, o⟩
  rcases s with ⟨s1, s2⟩ | ⟨s1, l, q, w1, w2, s2⟩
  · rcases s' with ⟨t1, t2⟩ | ⟨t1, -⟩
    · have e2 : G0' 2 (k : Int) = G0 2 k := ag.2.2.2.2.2 k (by omega) kn s1
      rw [h0, e2] at t2
      have t3 := num_cg ag t2
      obtain ⟨u1, u2, u3⟩ := num_uq a.1 s2 t3
      exact ⟨u1.symm, u2.symm, u3⟩
    · rw [e1] at t1; exact absurd t1 s1
  · rcases s' with ⟨t1, -⟩ | ⟨t1, l', q', v1, v2, t2⟩
    · rw [e1] at t1; exact absurd s1 t1
    · have wq : ∀ s, 0 ≤ s → s ≤ 1 → ∀ l l', NgW o0 G0 k s l → NgW o0' G0' k s l' → l' = l := by
        intro s s1 s2 l l' h h'
        refine ngW_uq h0 a.2.1 (ag.ct ⟨by omega, kn⟩ ⟨s1, s2⟩) (fun i i1 i2 => ?_) h h'
        have := od s i s1 s2 i1 i2
        exact ⟨ag.op ⟨by omega, kn⟩ ⟨s1, s2⟩ ⟨i1, i2⟩, ho _ this.2.1 this.2.2 this.1⟩
      have el := wq 1 (by omega) (by omega) l l' w1 v1
      have eq := wq 0 (by omega) (by omega) q q' w2 v2
      subst el; subst eq
      rw [h0] at t2
      have t3 := cmp_cg ag w1.1 w2.1 t2
      obtain ⟨u1, u2, u3⟩ := cmp_uq a w1.1 w2.1 s2 t3
      exact ⟨u1.symm, u2.symm, u3⟩
theorem ngC_uq {M : Mem} {z : Int} (hM : Good (M 0 0) M) (hz : 0 ≤ z ∧ z < M 0 0) : ∀ (k : Nat) (G G' : Mem) (o o' : Int → Int), (k : Int) ≤ z + 1 → NgC M z k G o → NgC M z k G' o' → G' 0 0 = G 0 0 ∧ Ag G G' (G 0 0) ∧ ∀ x, 0 ≤ x → x < (k : Int) → Pt M AllG z x → o' x = o x := by
  intro k
  induction k with
  | zero =>
    intro G G' o o' _ h h'
    refine ⟨by rw [h.1, h'.1], ?_, fun x x1 x2 => absurd x2 (by omega)⟩
    rw [h.1]
    exact h.2.symm.trans (Int.le_refl _) h'.2
  | succ k ih =>
    intro G G' o o' hk h h'
    rcases h with ⟨hp, h⟩ | ⟨hp, G0, o0, r, h, hr, hs, ho⟩
    · rcases h' with ⟨-, h'⟩ | ⟨hp', -⟩
      · obtain ⟨a, b, c⟩ := ih G G' o o' (by omega) h h'
        refine ⟨a, b, fun x x1 x2 q => ?_⟩
        by_cases e : x = (k : Int)
        · subst e; exact absurd q hp
        · exact c x x1 (by omega) q
      · exact absurd hp' hp
    · rcases h' with ⟨hp', -⟩ | ⟨-, G0', o0', r', h', hr', hs', ho'⟩
      · exact absurd hp hp'
      · obtain ⟨a, b, c⟩ := ih G0 G0' o0 o0' (by omega) h h'
        obtain ⟨u1, u2, u3⟩ := ngS_uq hM hz (by omega) hp h h' a b c hs hs'
        refine ⟨u2, u3, fun x x1 x2 q => ?_⟩
        rw [ho x, ho' x]
        split
        · exact u1
        · exact c x x1 (by omega) q
/-- the negative of z over M: its number r (NONE: there is no room), the games G -/
def NgR (M : Mem) (z r : Int) (G : Mem) : Prop := (r ≠ -1 ∧ ∃ o, NgC M z (z.toNat + 1) G o ∧ r = o z) ∨ (r = -1 ∧ ∃ (k : Nat) (G0 : Mem) (o0 : Int → Int), (k : Int) ≤ z ∧ Pt M AllG z k ∧ NgC M z k G0 o0 ∧ NgS G0 o0 k (-1) G)
/-- a chain's beginning -/
theorem ngC_pre {M : Mem} {z : Int} (k : Nat) : ∀ (m : Nat) (G : Mem) (o : Int → Int), NgC M z (k + m) G o → ∃ G0 o0, NgC M z k G0 o0 ∧ (m = 0 ∨ Pt M AllG z k → (m = 0 ∧ G0 = G ∧ o0 = o) ∨ (1 ≤ m ∧ ∃ r G1, r ≠ -1 ∧ NgS G0 o0 k r G1)) := by
  intro m
  induction m with
  | zero => intro G o h; exact ⟨G, o, h, fun _ => Or.inl ⟨rfl, rfl, rfl⟩⟩
  | succ m ih =>
    intro G o h
    have key : ∀ G0 o0, NgC M z (k + m) G0 o0 → (m = 0 → Pt M AllG z k → ∃ r G1, r ≠ -1 ∧ NgS G0 o0 k r G1) → ∃ G0 o0, NgC M z k G0 o0 ∧ (m + 1 = 0 ∨ Pt M AllG z k → (m + 1 = 0 ∧ G0 = G ∧ o0 = o) ∨ (1 ≤ m + 1 ∧ ∃ r G1, r ≠ -1 ∧ NgS G0 o0 k r G1)) := by
      intro G0 o0 h0 hst
      obtain ⟨G1, o1, h1, h2⟩ := ih G0 o0 h0
      refine ⟨G1, o1, h1, fun q => Or.inr ⟨by omega, ?_⟩⟩
      have hp : Pt M AllG z k := by
        rcases q with q | q
        · omega
        · exact q
      rcases h2 (Or.inr hp) with ⟨m0, rfl, rfl⟩ | ⟨-, w⟩
      · exact hst m0 hp
      · exact w
    rcases h with ⟨hp, h⟩ | ⟨hp, G0, o0, r, h, hr, hs, -⟩
    · exact key G o h (fun m0 q => by subst m0; exact absurd q hp)
    · exact key G0 o0 h (fun m0 _ => by subst m0; exact ⟨r, G, hr, hs⟩)
theorem ngR_uq {M G G' : Mem} {z r r' : Int} (hM : Good (M 0 0) M) (hz : 0 ≤ z ∧ z < M 0 0) (h : NgR M z r G) (h' : NgR M z r' G') : r' = r ∧ (r ≠ -1 → G' 0 0 = G 0 0 ∧ Ag G G' (G 0 0)) := by
  have pz : Pt M AllG z z := (pt_eq hM hz).mpr (Or.inl rfl)
  have no : ∀ {G o} {k : Nat} {G0 o0 G1}, NgC M z (z.toNat + 1) G o → (k : Int) ≤ z → Pt M AllG z k → NgC M z k G0 o0 → ¬ NgS G0 o0 k (-1) G1 := by
    intro G o k G0 o0 G1 c kz hp c0 hs
    rw [show z.toNat + 1 = k + (z.toNat + 1 - k) by omega] at c
    obtain ⟨G2, o2, c2, h2⟩ := ngC_pre k _ G o c
    rcases h2 (Or.inr hp) with ⟨m0, -⟩ | ⟨-, r, G3, hr, hs3⟩
    · omega
    · obtain ⟨a, b, d⟩ := ngC_uq hM hz k G0 G2 o0 o2 (by omega) c0 c2
      have := (ngS_uq hM hz kz hp c0 c2 a b d hs hs3).1
      exact hr this
  rcases h with ⟨hr, o, c, rfl⟩ | ⟨rfl, k, G0, o0, kz, hp, c, hs⟩
  · rcases h' with ⟨hr', o', c', rfl⟩ | ⟨rfl, k, G0, o0, kz, hp, c', hs⟩
    · obtain ⟨a, b, d⟩ := ngC_uq hM hz _ G G' o o' (by omega) c c'
      exact ⟨d z hz.1 (by omega) pz, fun _ => ⟨a, b⟩⟩
    · exact absurd hs (no c kz hp c')
  · rcases h' with ⟨hr', o', c', rfl⟩ | ⟨rfl, -⟩
    · exact absurd hs (no c' kz hp c)
    · exact ⟨rfl, fun q => absurd rfl q⟩
