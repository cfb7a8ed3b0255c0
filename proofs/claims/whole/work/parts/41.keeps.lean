/-! ===== good games: games that are not touched stay good ===== -/
def Ag (M N : Mem) (n : Int) : Prop := (∀ c i, (c = 1 ∨ (5 ≤ c ∧ c ≤ 11) ∨ c = 13 ∨ c = 14) → 0 ≤ i → i < n → N c i = M c i) ∧ (∀ i, 0 ≤ i → i < 2 * n → N 3 i = M 3 i) ∧ (∀ z s i, 0 ≤ z → z < n → 0 ≤ s → s ≤ 1 → 0 ≤ i → i < M 3 (2 * z + s) → opt N z s i = opt M z s i) ∧ (∀ i, 0 ≤ i → i < 14400 * n → N 15 i = M 15 i) ∧ (∀ x y, 0 ≤ x → x < n → 0 ≤ y → y < n → N 12 (40 * x + y) = M 12 (40 * x + y)) ∧ ∀ z, 0 ≤ z → z < n → M 1 z ≠ 0 → N 2 z = M 2 z
theorem Ag.refl (M : Mem) (n : Int) : Ag M M n := ⟨fun _ _ _ _ _ => rfl, fun _ _ _ => rfl, fun _ _ _ _ _ _ _ _ _ => rfl, fun _ _ _ => rfl, fun _ _ _ _ _ _ => rfl, fun _ _ _ _ => rfl⟩
theorem Ag.trans {M N K : Mem} {n m : Int} (h : m ≤ n) (a : Ag M N m) (b : Ag N K n) : Ag M K m :=
  ⟨fun c i q h1 h2 => (b.1 c i q h1 (by omega)).trans (a.1 c i q h1 h2), fun i h1 h2 => (b.2.1 i h1 (by omega)).trans (a.2.1 i h1 h2), fun z s i h1 h2 h3 h4 h5 h6 => (b.2.2.1 z s i h1 (by omega) h3 h4 h5 (by rw [a.2.1 _ (by omega) (by omega)]; exact h6)).trans (a.2.2.1 z s i h1 h2 h3 h4 h5 h6), fun i h1 h2 => (b.2.2.2.1 i h1 (by omega)).trans (a.2.2.2.1 i h1 h2), fun x y h1 h2 h3 h4 => (b.2.2.2.2.1 x y h1 (by omega) h3 (by omega)).trans (a.2.2.2.2.1 x y h1 h2 h3 h4), fun z h1 h2 h3 => (b.2.2.2.2.2 z h1 (by omega) (by rw [a.1 1 z (by omega) h1 h2]; exact h3)).trans (a.2.2.2.2.2 z h1 h2 h3)⟩
theorem Ag.symm {M N : Mem} {n : Int} (a : Ag M N n) : Ag N M n :=
  ⟨fun c i q h1 h2 => (a.1 c i q h1 h2).symm, fun i h1 h2 => (a.2.1 i h1 h2).symm, fun z s i h1 h2 h3 h4 h5 h6 => (a.2.2.1 z s i h1 h2 h3 h4 h5 (by rw [← a.2.1 _ (by omega) (by omega)]; exact h6)).symm, fun i h1 h2 => (a.2.2.2.1 i h1 h2).symm, fun x y h1 h2 h3 h4 => (a.2.2.2.2.1 x y h1 h2 h3 h4).symm, fun z h1 h2 h3 => (a.2.2.2.2.2 z h1 h2 (by rw [← a.1 1 z (by omega) h1 h2]; exact h3)).symm⟩
theorem Ag.mono {M N : Mem} {n m : Int} (h : m ≤ n) (b : Ag M N n) : Ag M N m := (Ag.refl M m).trans h b
/-- memories that differ in other columns -/
theorem Ag.of {M N : Mem} (n : Int) (h : ∀ c i, 1 ≤ c → c ≤ 15 → N c i = M c i) : Ag M N n :=
  ⟨fun c i q _ _ => h c i (by omega) (by omega), fun i _ _ => h 3 i (by decide) (by decide), fun z s i _ _ _ _ _ _ => h 4 _ (by decide) (by decide), fun i _ _ => h 15 i (by decide) (by decide), fun x y _ _ _ _ => h 12 _ (by decide) (by decide), fun z _ _ _ => h 2 z (by decide) (by decide)⟩
theorem loS_cl {M N : Mem} {z : Int} (h : ∀ i, 0 ≤ i → i < M 3 (2 * z + 0) → opt N z 0 i = opt M z 0 i ∧ N 8 (opt M z 0 i) = M 8 (opt M z 0 i) ∧ N 9 (opt M z 0 i) = M 9 (opt M z 0 i)) : ∀ n : Nat, (n : Int) ≤ M 3 (2 * z + 0) → loS N z n = loS M z n := by
  intro n
  induction n with
  | zero => intro _; rfl
  | succ n ih =>
    intro hn
    obtain ⟨h0, h1, h2⟩ := h n (by omega) (by omega)
    simp only [opt] at h0 h1 h2
    rw [loS, loS, ih (by omega), h0, h1, h2]
theorem upS_cl {M N : Mem} {z : Int} (h : ∀ i, 0 ≤ i → i < M 3 (2 * z + 1) → opt N z 1 i = opt M z 1 i ∧ N 10 (opt M z 1 i) = M 10 (opt M z 1 i) ∧ N 11 (opt M z 1 i) = M 11 (opt M z 1 i)) : ∀ n : Nat, (n : Int) ≤ M 3 (2 * z + 1) → upS N z n = upS M z n := by
  intro n
  induction n with
  | zero => intro _; rfl
  | succ n ih =>
    intro hn
    obtain ⟨h0, h1, h2⟩ := h n (by omega) (by omega)
    simp only [opt] at h0 h1 h2
    rw [upS, upS, ih (by omega), h0, h1, h2]
theorem txS_cl {M N : Mem} {z s k : Int} (h : ∀ i, 0 ≤ i → i < M 3 (2 * z + s) → opt N z s i = opt M z s i ∧ smpl N (opt M z s i) (1 - s) k = smpl M (opt M z s i) (1 - s) k) : ∀ n : Nat, (n : Int) ≤ M 3 (2 * z + s) → txS N z s k n = txS M z s k n := by
  intro n
  induction n with
  | zero => intro _; rfl
  | succ n ih =>
    intro hn
    obtain ⟨h0, h1⟩ := h n (by omega) (by omega)
    simp only [opt] at h0 h1
    rw [txS, txS, ih (by omega), h0, h1]
theorem ValE.ce {l u : Int × Int} {num e e' cold val lo ilo hi ihi : Int} (he : num ≠ 0 → e' = e) (h : ValE l u num e cold val lo ilo hi ihi) : ValE l u num e' cold val lo ilo hi ihi :=
  ⟨h.1, fun q => by rw [he q]; exact h.2.1 q, h.2.2⟩
section AG
variable {M N : Mem} {n z : Int}
theorem Ag.op (g : Ag M N n) (hz : 0 ≤ z ∧ z < n) {s i : Int} (hs : 0 ≤ s ∧ s ≤ 1) (hi : 0 ≤ i ∧ i < M 3 (2 * z + s)) : opt N z s i = opt M z s i := g.2.2.1 z s i hz.1 hz.2 hs.1 hs.2 hi.1 hi.2
theorem Ag.ct (g : Ag M N n) (hz : 0 ≤ z ∧ z < n) {s : Int} (hs : 0 ≤ s ∧ s ≤ 1) : N 3 (2 * z + s) = M 3 (2 * z + s) := g.2.1 _ (by omega) (by omega)
theorem Ag.sm (g : Ag M N n) (hz : 0 ≤ z ∧ z < n) {s k : Int} (hs : 0 ≤ s ∧ s ≤ 1) (hk : 0 ≤ k ∧ k < 7200) : smpl N z s k = smpl M z s k := g.2.2.2.1 _ (by omega) (by omega)
theorem opS_r (h : OpS M z) {s : Int} (hs : 0 ≤ s ∧ s ≤ 1) : 0 ≤ M 3 (2 * z + s) ∧ M 3 (2 * z + s) ≤ 4 ∧ ∀ i, 0 ≤ i → i < M 3 (2 * z + s) → 0 ≤ opt M z s i ∧ opt M z s i < z :=
  ⟨(h.1 s hs.1 hs.2).1.1, (h.1 s hs.1 hs.2).1.2, fun i i1 i2 => ⟨((h.1 s hs.1 hs.2).2 i i1 i2).1, h.2 s hs.1 hs.2 i i1 i2⟩⟩
theorem Ag.opS (g : Ag M N n) (hz : 0 ≤ z ∧ z < n) (h : OpS M z) : OpS N z := by
  constructor
  · intro s s1 s2
    have hh := h.1 s s1 s2
    rw [g.ct hz ⟨s1, s2⟩]
    refine ⟨hh.1, fun i i1 i2 => ?_⟩
    have := g.op hz ⟨s1, s2⟩ (i := i) (by omega)
    simp only [opt] at this
    rw [this]
    exact hh.2 i i1 i2
  · intro s s1 s2 i i1 i2
    rw [g.ct hz ⟨s1, s2⟩] at i2
    have hh := h.1 s s1 s2
    have := g.op hz ⟨s1, s2⟩ (i := i) (by omega)
    simp only [opt] at this
    rw [this]
    exact h.2 s s1 s2 i i1 i2
theorem Ag.lo (g : Ag M N n) (hz : 0 ≤ z ∧ z < n) (h : OpS M z) : loF N z = loF M z := by
  obtain ⟨c1, c2, c3⟩ := opS_r h (s := 0) (by omega)
  unfold loF
  rw [g.ct hz (s := 0) (by omega)]
  exact loS_cl (fun i i1 i2 => ⟨g.op hz (by omega) (by omega), g.1 8 _ (by omega) (c3 i i1 i2).1 (by have := (c3 i i1 i2).2; omega), g.1 9 _ (by omega) (c3 i i1 i2).1 (by have := (c3 i i1 i2).2; omega)⟩) _ (by omega)
theorem Ag.hi (g : Ag M N n) (hz : 0 ≤ z ∧ z < n) (h : OpS M z) : upF N z = upF M z := by
  obtain ⟨c1, c2, c3⟩ := opS_r h (s := 1) (by omega)
  unfold upF
  rw [g.ct hz (s := 1) (by omega)]
  exact upS_cl (fun i i1 i2 => ⟨g.op hz (by omega) (by omega), g.1 10 _ (by omega) (c3 i i1 i2).1 (by have := (c3 i i1 i2).2; omega), g.1 11 _ (by omega) (c3 i i1 i2).1 (by have := (c3 i i1 i2).2; omega)⟩) _ (by omega)
theorem Ag.tx (g : Ag M N n) (hz : 0 ≤ z ∧ z < n) (h : OpS M z) {s k : Int} (hs : 0 ≤ s ∧ s ≤ 1) (hk : 0 ≤ k ∧ k < 7200) : txF N z s k = txF M z s k := by
  obtain ⟨c1, c2, c3⟩ := opS_r h hs
  unfold txF
  rw [g.ct hz hs, txS_cl (fun i i1 i2 => ⟨g.op hz hs (by omega), g.sm ⟨(c3 i i1 i2).1, by have := (c3 i i1 i2).2; omega⟩ (by omega) hk⟩) _ (by omega)]
theorem Ag.ge (g : Ag M N n) (hz : 0 ≤ z ∧ z < n) (x : Int) : (geM N z x ↔ geM M z x) ∧ (leM N z x ↔ leM M z x) := by
  unfold geM leM
  rw [g.1 8 z (by omega) hz.1 hz.2, g.1 9 z (by omega) hz.1 hz.2, g.1 10 z (by omega) hz.1 hz.2, g.1 11 z (by omega) hz.1 hz.2]
  exact ⟨Iff.rfl, Iff.rfl⟩
theorem Ag.al (g : Ag M N n) {a b : Int} (ha : 0 ≤ a ∧ a < n) (hb : 0 ≤ b ∧ b < n) (oa : OpS M a) (ob : OpS M b) : ALf N a b ↔ ALf M a b := by
  obtain ⟨-, ca, ra⟩ := opS_r oa (s := 1) (by omega)
  obtain ⟨-, cb, rb⟩ := opS_r ob (s := 0) (by omega)
  unfold ALf
  rw [g.1 1 b (by omega) hb.1 hb.2, g.1 1 a (by omega) ha.1 ha.2, (g.ge ha _).1, (g.ge hb _).2, g.ct ha (s := 1) (by omega), g.ct hb (s := 0) (by omega)]
  have n1 : M 1 b ≠ 0 → N 2 b = M 2 b := g.2.2.2.2.2 b hb.1 hb.2
  have n2 : M 1 a ≠ 0 → N 2 a = M 2 a := g.2.2.2.2.2 a ha.1 ha.2
  have q1 : ∀ i, 0 ≤ i → i < M 3 (2 * a + 1) → N 12 (40 * b + N 4 (8 * a + 4 * 1 + i)) = M 12 (40 * b + M 4 (8 * a + 4 * 1 + i)) := by
    intro i i1 i2
    have e := g.op ha (s := 1) (i := i) (by omega) (by omega)
    simp only [opt] at e
    rw [e]
    have := ra i i1 i2
    exact g.2.2.2.2.1 b _ hb.1 hb.2 this.1 (by simp only [opt] at this; omega)
  have q2 : ∀ i, 0 ≤ i → i < M 3 (2 * b + 0) → N 12 (40 * N 4 (8 * b + 4 * 0 + i) + a) = M 12 (40 * M 4 (8 * b + 4 * 0 + i) + a) := by
    intro i i1 i2
    have e := g.op hb (s := 0) (i := i) (by omega) (by omega)
    simp only [opt] at e
    rw [e]
    have := rb i i1 i2
    exact g.2.2.2.2.1 _ a this.1 (by simp only [opt] at this; omega) ha.1 ha.2
  constructor
  · rintro (k | k | ⟨k1, k2, k3, k4⟩)
    · exact Or.inl ⟨k.1, by rw [← n1 k.1]; exact k.2⟩
    · exact Or.inr (Or.inl ⟨k.1, k.2.1, by rw [← n2 k.2.1]; exact k.2.2⟩)
    · exact Or.inr (Or.inr ⟨k1, k2, fun i i1 i2 => by rw [← q1 i i1 i2]; exact k3 i i1 i2, fun i i1 i2 => by rw [← q2 i i1 i2]; exact k4 i i1 i2⟩)
  · rintro (k | k | ⟨k1, k2, k3, k4⟩)
    · exact Or.inl ⟨k.1, by rw [n1 k.1]; exact k.2⟩
    · exact Or.inr (Or.inl ⟨k.1, k.2.1, by rw [n2 k.2.1]; exact k.2.2⟩)
    · exact Or.inr (Or.inr ⟨k1, k2, fun i i1 i2 => by rw [q1 i i1 i2]; exact k3 i i1 i2, fun i i1 i2 => by rw [q2 i i1 i2]; exact k4 i i1 i2⟩)
theorem Ag.dat (g : Ag M N n) (hz : 0 ≤ z ∧ z < n) (h : Dat M z) : Dat N z := by
  obtain ⟨hO, h2, h3, h4, h5⟩ := h
  have c0 := g.ct hz (s := 0) (by omega)
  have c1 := g.ct hz (s := 1) (by omega)
  have e5 := g.1 5 z (by omega) hz.1 hz.2
  refine ⟨g.opS hz hO, fun s s1 s2 i j i1 i2 i3 => ?_, by rw [e5]; exact h3, fun q => ?_, fun q => ?_⟩
  · have hr := opS_r hO ⟨s1, s2⟩
    rw [g.ct hz ⟨s1, s2⟩] at i3
    rw [g.op hz ⟨s1, s2⟩ (by omega), g.op hz ⟨s1, s2⟩ (by omega)]
    exact h2 s s1 s2 i j i1 i2 i3
  · rw [g.1 1 z (by omega) hz.1 hz.2] at q
    rw [c0, c1, e5, g.2.2.2.2.2 z hz.1 hz.2 q]
    exact h4 q
  · rw [g.1 1 z (by omega) hz.1 hz.2] at q
    obtain ⟨k1, k2, k3⟩ := h5 q
    have eo : ∀ s, 0 ≤ s → s ≤ 1 → ∀ i, 0 ≤ i → i < M 3 (2 * z + s) → N 5 (opt N z s i) = M 5 (opt M z s i) := fun s s1 s2 i i1 i2 => by
      obtain ⟨-, a2, a3⟩ := opS_r hO ⟨s1, s2⟩
      rw [g.op hz ⟨s1, s2⟩ (by omega)]
      have := a3 i i1 i2
      exact g.1 5 _ (by omega) this.1 (by omega)
    rw [e5]
    refine ⟨k1, fun s s1 s2 i i1 i2 => ?_, ?_⟩
    · rw [g.ct hz ⟨s1, s2⟩] at i2
      rw [eo s s1 s2 i i1 i2]
      exact k2 s s1 s2 i i1 i2
    · rcases k3 with k | ⟨s, i, s1, s2, i1, i2, k⟩
      · exact Or.inl k
      · exact Or.inr ⟨s, i, s1, s2, i1, by rw [g.ct hz ⟨s1, s2⟩]; exact i2, by rw [eo s s1 s2 i i1 i2]; exact k⟩
theorem Ag.gg (g : Ag M N n) (hz : 0 ≤ z ∧ z < n) (ho : ∀ o, 0 ≤ o → o ≤ z → OpS M o) (h : GG M z) : GG N z := by
  obtain ⟨hD, ⟨hO, hV, hB, hA⟩, hC, hH, hI⟩ := h
  have e : ∀ c, (c = 1 ∨ (5 ≤ c ∧ c ≤ 11) ∨ c = 13 ∨ c = 14) → N c z = M c z := fun c hc => g.1 c z hc hz.1 hz.2
  refine ⟨g.dat hz hD, ⟨g.opS hz hO, ?_, ?_, fun o o1 o2 => ?_⟩, fun q => ?_, fun q => ?_, ?_⟩
  · refine ValE.ce (e := M 2 z) (fun q => ?_) ?_
    · rw [e 1 (by omega)] at q; exact g.2.2.2.2.2 z hz.1 hz.2 q
    rw [g.lo hz hO, g.hi hz hO, e 1 (by omega), e 6 (by omega), e 7 (by omega), e 8 (by omega), e 9 (by omega), e 10 (by omega), e 11 (by omega)]
    exact hV
  · rw [e 7 (by omega)]; exact hB
  · rw [g.2.2.2.2.1 z o hz.1 hz.2 o1 (by omega), g.2.2.2.2.1 o z o1 (by omega) hz.1 hz.2, g.al hz ⟨o1, by omega⟩ hO (ho o o1 o2), g.al ⟨o1, by omega⟩ hz (ho o o1 o2) hO]
    exact hA o o1 o2
  · rw [e 6 (by omega)] at q
    obtain ⟨a, b, c⟩ := hC q
    refine ⟨by rw [e 13 (by omega), e 7 (by omega)]; exact a, by rw [e 14 (by omega)]; exact b, fun s j s1 s2 j1 j2 => ?_⟩
    rw [g.sm hz ⟨s1, s2⟩ ⟨j1, j2⟩, e 7 (by omega)]
    exact c s j s1 s2 j1 j2
  · rw [e 6 (by omega)] at q
    obtain ⟨a, b, kt, k1, k2, k3, k4, k5, k6, k7, k8⟩ := hH q
    have hd := hD.2.2.1
    refine ⟨by rw [g.ct hz (s := 0) (by omega)]; exact a, by rw [g.ct hz (s := 1) (by omega)]; exact b, kt, k1, by rw [e 5 (by omega)]; exact k2, by rw [e 5 (by omega)]; exact k3, by rw [e 14 (by omega)]; exact k4, ?_, ?_, fun j j1 j2 => ?_, fun s j s1 s2 j1 j2 => ?_⟩
    · rw [g.tx hz hO (by omega) (by omega), e 13 (by omega)]; exact k5
    · rw [g.tx hz hO (by omega) (by omega), e 13 (by omega)]; exact k6
    · rw [g.tx hz hO (by omega) (by omega), g.tx hz hO (by omega) (by omega)]; exact k7 j j1 j2
    · rw [g.sm hz ⟨s1, s2⟩ ⟨j1, j2⟩, g.tx hz hO ⟨s1, s2⟩ ⟨j1, j2⟩, e 13 (by omega)]; exact k8 s j s1 s2 j1 j2
  · obtain ⟨a, b, c, d, f, k⟩ := hI
    have hu := (un_r hD.2.2.1).1
    unfold Inv
    rw [e 5 (by omega), e 7 (by omega), e 8 (by omega), e 10 (by omega), e 13 (by omega)]
    refine ⟨a.cg hu (fun k k1 k2 => g.sm hz (by omega) (by omega)), b.cg hu (fun k k1 k2 => g.sm hz (by omega) (by omega)), fun s j s1 s2 j1 j2 => ?_, d, ?_, ?_⟩
    · rw [g.sm hz ⟨s1, s2⟩ ⟨j1, j2⟩]; exact c s j s1 s2 j1 j2
    · rw [g.sm hz (by omega) (by omega)]; exact f
    · rw [g.sm hz (by omega) (by omega)]; exact k
end AG
def Good (n : Int) (G : Mem) : Prop := 0 ≤ n ∧ n ≤ 40 ∧ ∀ z, 0 ≤ z → z < n → GG G z
theorem Good.cg {M N : Mem} {n : Int} (g : Ag M N n) (h : Good n M) : Good n N := ⟨h.1, h.2.1, fun z z1 z2 => g.gg ⟨z1, z2⟩ (fun o o1 o2 => (h.2.2 o o1 (by omega)).1.1) (h.2.2 z z1 z2)⟩
theorem Good.mono {M : Mem} {n m : Int} (h : Good n M) (h0 : 0 ≤ m) (hm : m ≤ n) : Good m M := ⟨h0, by have := h.2.1; omega, fun z z1 z2 => h.2.2 z z1 (by omega)⟩
