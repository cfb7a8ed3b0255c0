/-! ===== composing, as a relation on good memories; the reference's made keeps it ===== -/
theorem enu_ex (p : Nat → Bool) : ∀ K : Nat, ∃ f c, Enu f c p K := by
  intro K
  induction K with
  | zero => exact ⟨fun _ => 0, 0, by omega, fun i j h1 h2 h3 => by omega, fun i h1 h2 => by omega, fun x hx => by omega⟩
  | succ K ih =>
    obtain ⟨f, c, h0, h1, h2, h3⟩ := ih
    cases hp : p K
    · refine ⟨f, c, h0, h1, fun i i1 i2 => ?_, fun x hx hpx => ?_⟩
      · have := h2 i i1 i2; exact ⟨this.1, by omega, this.2.2⟩
      · by_cases e : x = K
        · subst e; rw [hp] at hpx; exact absurd hpx (by decide)
        · exact h3 x (by omega) hpx
    · refine ⟨fun i => if i = c then (K : Int) else f i, c + 1, by omega, fun i j i1 i2 i3 => ?_, fun i i1 i2 => ?_, fun x hx hpx => ?_⟩
      · show (if i = c then _ else _) < (if j = c then _ else _)
        rw [if_neg (by omega)]
        by_cases e : j = c
        · rw [if_pos e]; exact (h2 i i1 (by omega)).2.1
        · rw [if_neg e]; exact h1 i j i1 i2 (by omega)
      · show 0 ≤ (if i = c then _ else _) ∧ (if i = c then _ else _) < _ ∧ p (if i = c then _ else _ : Int).toNat = true
        by_cases e : i = c
        · rw [if_pos e]; exact ⟨by omega, by omega, by rw [Int.toNat_natCast]; exact hp⟩
        · rw [if_neg e]; have := h2 i i1 (by omega); exact ⟨this.1, by omega, this.2.2⟩
      · by_cases e : x = K
        · subst e; exact ⟨c, h0, by omega, if_pos rfl⟩
        · obtain ⟨i, i1, i2, i3⟩ := h3 x (by omega) hpx
          exact ⟨i, i1, by omega, by show (if i = c then _ else _) = _; rw [if_neg (by omega)]; exact i3⟩
/-- how many bits -/
def siz (w : Int) : Int := (cn (nv w) 64 : Int)
/-- row s of game z lists the word w -/
def RowW (G : Mem) (z s w : Int) : Prop := Enu (fun i => opt G z s i) (G 3 (2 * z + s)) (tbN w) 40
def SamW (G : Mem) (z l r : Int) : Prop := G 1 z = 0 ∧ RowW G z 0 l ∧ RowW G z 1 r
def InW (l r x : Int) : Prop := tb l x = true ∨ tb r x = true
def DeepW (G : Mem) (l r d : Int) : Prop := (0 ≤ d ∧ d ≤ 6) ∧ (∀ x, 0 ≤ x → x < 40 → InW l r x → G 5 x ≤ d) ∧ (d = 0 ∨ ∃ x, 0 ≤ x ∧ x < 40 ∧ InW l r x ∧ G 5 x = d)
def MkW (G N : Mem) (n l r d : Int) : Prop := N 0 0 = n + 1 ∧ Good (n + 1) N ∧ Ag G N n ∧ N 5 n = d + 1 ∧ SamW N n l r
def CmpR (G : Mem) (n l r z : Int) (N : Mem) : Prop :=
  (z = -1 ∧ N 0 0 = n ∧ Ag G N n ∧ (4 < siz l ∨ 4 < siz r ∨ DeepW G l r 6 ∨ (n = 40 ∧ ∀ y, 0 ≤ y → y < n → ¬ SamW G y l r))) ∨
  (0 ≤ z ∧ z < n ∧ N 0 0 = n ∧ Ag G N n ∧ SamW G z l r ∧ ∀ y, 0 ≤ y → y < z → ¬ SamW G y l r) ∨
  (z = n ∧ n < 40 ∧ siz l ≤ 4 ∧ siz r ≤ 4 ∧ (∀ y, 0 ≤ y → y < n → ¬ SamW G y l r) ∧ ∃ d, d ≤ 5 ∧ DeepW G l r d ∧ MkW G N n l r d)
/-- row s of the new game lists the word -/
def RwN (M : Mem) (s w : Int) : Prop := Enu (fun i => M 31 (4 * s + i)) (M 30 s) (tbN w) 40
theorem enu_cg {f h : Int → Int} {c : Int} {p : Nat → Bool} {K : Nat} (e : ∀ i, 0 ≤ i → i < c → h i = f i) (a : Enu f c p K) : Enu h c p K := by
  obtain ⟨a0, a1, a2, a3⟩ := a
  refine ⟨a0, fun i j i1 i2 i3 => by rw [e i i1 (by omega), e j (by omega) i3]; exact a1 i j i1 i2 i3, fun i i1 i2 => by rw [e i i1 i2]; exact a2 i i1 i2, fun x hx hp => ?_⟩
  obtain ⟨i, i1, i2, i3⟩ := a3 x hx hp
  exact ⟨i, i1, i2, by rw [e i i1 i2]; exact i3⟩
/-- rows that hold the word's games list it -/
theorem rwN_of {M : Mem} {n s w : Int} (hs : 0 ≤ s ∧ s ≤ 1) (h : NwOk M n) (hi : ∀ x, 0 ≤ x → x < 40 → (InR M s x ↔ tb w x = true)) : RwN M s w := by
  have hS := h.srt hs
  have hn := h.1.2.1
  refine ⟨hS.1.1, hS.2, fun i i1 i2 => ?_, fun x hx hp => ?_⟩
  · have o := h.2.2.2.2 s hs.1 hs.2 i i1 i2
    refine ⟨o.1, show M 31 (4 * s + i) < ((40 : Nat) : Int) by omega, ?_⟩
    show tb w (((M 31 (4 * s + i)).toNat : Nat) : Int) = true
    rw [Int.toNat_of_nonneg o.1]
    exact (hi _ o.1 (by omega)).mp ⟨i, i1, i2, rfl⟩
  · obtain ⟨i, i1, i2, i3⟩ := (hi x (by omega) (by omega)).mpr hp
    exact ⟨i, i1, i2, i3⟩
theorem samR_W {M : Mem} {z s w : Int} (h : RwN M s w) : SamR M z s ↔ RowW M z s w := by
  constructor
  · rintro ⟨a, b⟩
    unfold RowW
    rw [a]
    exact enu_cg b h
  · intro q
    obtain ⟨a, b⟩ := enu_uq q h
    exact ⟨a, fun i i1 i2 => b i i1 (by omega)⟩
theorem samN_W {M : Mem} {z l r : Int} (h0 : RwN M 0 l) (h1 : RwN M 1 r) : SamN M z ↔ SamW M z l r := by
  unfold SamN SamW
  rw [samR_W h0, samR_W h1]
theorem deep_W {M : Mem} {d l r : Int} (h0 : RwN M 0 l) (h1 : RwN M 1 r) : Deep M d ↔ DeepW M l r d := by
  have fw : ∀ s i, 0 ≤ s → s ≤ 1 → 0 ≤ i → i < M 30 s → 0 ≤ M 31 (4 * s + i) ∧ M 31 (4 * s + i) < 40 ∧ InW l r (M 31 (4 * s + i)) := by
    intro s i s1 s2 i1 i2
    rcases (show s = 0 ∨ s = 1 by omega) with rfl | rfl
    · obtain ⟨a, b, c⟩ := h0.2.2.1 i i1 i2
      refine ⟨a, b, Or.inl ?_⟩
      have c' : tb l (((M 31 (4 * 0 + i)).toNat : Nat) : Int) = true := c
      rwa [Int.toNat_of_nonneg a] at c'
    · obtain ⟨a, b, c⟩ := h1.2.2.1 i i1 i2
      refine ⟨a, b, Or.inr ?_⟩
      have c' : tb r (((M 31 (4 * 1 + i)).toNat : Nat) : Int) = true := c
      rwa [Int.toNat_of_nonneg a] at c'
  have bw : ∀ x, 0 ≤ x → x < 40 → InW l r x → ∃ s i, 0 ≤ s ∧ s ≤ 1 ∧ 0 ≤ i ∧ i < M 30 s ∧ M 31 (4 * s + i) = x := by
    intro x x1 x2 hx
    rcases hx with q | q
    · obtain ⟨i, i1, i2, i3⟩ := h0.2.2.2 x.toNat (by omega) (by show tb l ((x.toNat : Nat) : Int) = true; rw [Int.toNat_of_nonneg x1]; exact q)
      exact ⟨0, i, by omega, by omega, i1, i2, by have i4 : M 31 (4 * 0 + i) = ((x.toNat : Nat) : Int) := i3; omega⟩
    · obtain ⟨i, i1, i2, i3⟩ := h1.2.2.2 x.toNat (by omega) (by show tb r ((x.toNat : Nat) : Int) = true; rw [Int.toNat_of_nonneg x1]; exact q)
      exact ⟨1, i, by omega, by omega, i1, i2, by have i4 : M 31 (4 * 1 + i) = ((x.toNat : Nat) : Int) := i3; omega⟩
  constructor
  · rintro ⟨a, b, c⟩
    refine ⟨a, fun x x1 x2 hx => ?_, ?_⟩
    · obtain ⟨s, i, s1, s2, i1, i2, rfl⟩ := bw x x1 x2 hx
      exact b s i s1 s2 i1 i2 (by omega)
    · rcases c with c | ⟨s, i, s1, s2, i1, i2, c⟩
      · exact Or.inl c
      · have := fw s i s1 s2 i1 i2
        exact Or.inr ⟨_, this.1, this.2.1, this.2.2, c⟩
  · rintro ⟨a, b, c⟩
    refine ⟨a, fun s i s1 s2 i1 i2 _ => ?_, ?_⟩
    · have := fw s i s1 s2 i1 i2
      exact b _ this.1 this.2.1 this.2.2
    · rcases c with c | ⟨x, x1, x2, hx, c⟩
      · exact Or.inl c
      · obtain ⟨s, i, s1, s2, i1, i2, rfl⟩ := bw x x1 x2 hx
        exact Or.inr ⟨s, i, s1, s2, i1, i2, c⟩
/-- what made answers, in words -/
theorem mdp_W {M N : Mem} {n l r z : Int} (h : NwOk M n) (hl : Wd40 l n) (hr : Wd40 r n) (h29 : M 29 0 ≠ 0 → 4 < siz l ∨ 4 < siz r) (h0 : M 29 0 = 0 → RwN M 0 l ∧ RwN M 1 r) (q : MdP M n z N) : CmpR M n l r z N := by
  have hn := h.1.2.1
  have sz : ∀ w s, (s = 0 ∨ s = 1) → Wd40 w n → RwN M s w → siz w = M 30 s := fun w s _ hw hR => pop_enu hw hn hR
  by_cases c : M 29 0 = 0
  · obtain ⟨r0, r1⟩ := h0 c
    rcases q with ⟨rfl, rfl, q⟩ | ⟨z0, z1, rfl, -, q, q2⟩ | ⟨rfl, n4, -, q, d, d5, hd, m0, m1, m2, m3, m4, m5, m6⟩
    · refine Or.inl ⟨rfl, h.2.1, Ag.refl _ _, ?_⟩
      rcases q with q | q | ⟨q, q2⟩
      · exact absurd c q
      · exact Or.inr (Or.inr (Or.inl ((deep_W r0 r1).mp q)))
      · exact Or.inr (Or.inr (Or.inr ⟨q, fun y y1 y2 k => q2 y y1 y2 ((samN_W r0 r1).mpr k)⟩))
    · exact Or.inr (Or.inl ⟨z0, z1, h.2.1, Ag.refl _ _, (samN_W r0 r1).mp q, fun y y1 y2 k => q2 y y1 y2 ((samN_W r0 r1).mpr k)⟩)
    · have s0 := sz l 0 (Or.inl rfl) hl r0
      have s1 := sz r 1 (Or.inr rfl) hr r1
      have b0 := (h.srt (s := 0) (by omega)).1
      have b1 := (h.srt (s := 1) (by omega)).1
      have rw_ : ∀ s w, 0 ≤ s → s ≤ 1 → RwN M s w → RowW N z s w := fun s w t1 t2 hR => by
        obtain ⟨e1, e2⟩ := m5 s t1 t2
        unfold RowW
        rw [e1]
        exact enu_cg e2 hR
      exact Or.inr (Or.inr ⟨rfl, n4, by omega, by omega, fun y y1 y2 k => q y y1 y2 ((samN_W r0 r1).mpr k), d, d5, (deep_W r0 r1).mp hd, m0, m1, m2, m4, m3, rw_ 0 l (by omega) (by omega) r0, rw_ 1 r (by omega) (by omega) r1⟩)
  · have hs := h29 c
    rcases q with ⟨rfl, rfl, q⟩ | ⟨-, -, -, q, -⟩ | ⟨-, -, q, -⟩
    · exact Or.inl ⟨rfl, h.2.1, Ag.refl _ _, hs.elim Or.inl (fun k => Or.inr (Or.inl k))⟩
    · exact absurd q c
    · exact absurd q c
