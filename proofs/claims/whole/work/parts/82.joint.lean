/-! ===== the class's memory A and the reference's memory M, side by side ===== -/
/-- an int comes back, or an exception flies -/
def SpT (w : Wd) (y : MethodName) (cc : ByteArray) (nL : Nat) (ret : Option FieldType) (d : Nat) (av : List Value) (M : Mem) (Q : Int → Mem → Prop) (R : String → Mem → Prop) : Prop := ∀ l : Launch, l.stackTraces = false → Ct w l y cc nL ret d 1 6 av M (fun v M1 => ∃ z : Int, v = some (vI z) ∧ Q z M1) R
abbrev eIO : String := "java/lang/IndexOutOfBoundsException"
abbrev eIA : String := "java/lang/IllegalArgumentException"
abbrev eIS : String := "java/lang/IllegalStateException"
theorem RepB.mono {G X : Mem} {n m : Int} (h : RepB G X n) (k : m ≤ n) : RepB G X m := fun z y z1 z2 y1 y2 => h z y z1 (by omega) y1 (by omega)
def TabJ (A M : Mem) : Prop := (0 ≤ M 16 0 ∧ M 16 0 ≤ 4) ∧ A 11 0 = M 16 0 ∧ (∀ i, 0 ≤ i → i < 4 → A 10 i = M 17 i) ∧ ∀ i, 0 ≤ i → i < M 16 0 → 0 ≤ M 17 i ∧ M 17 i < M 0 0
/-- a saved row: games, components, each a game -/
def RowJ (M : Mem) (r : Int) : Prop := (0 ≤ M 19 (6 * r) ∧ M 19 (6 * r) ≤ M 0 0) ∧ (0 ≤ M 19 (6 * r + 1) ∧ M 19 (6 * r + 1) ≤ 4) ∧ ∀ i, 0 ≤ i → i < M 19 (6 * r + 1) → 0 ≤ M 19 (6 * r + 2 + i) ∧ M 19 (6 * r + 2 + i) < M 19 (6 * r)
def PstJ (A M : Mem) : Prop := (0 ≤ M 18 0 ∧ M 18 0 ≤ 6) ∧ A 38 0 = M 18 0 ∧ (∀ i, 0 ≤ i → i < 36 → A 39 i = M 19 i) ∧ (∀ r, 0 ≤ r → r < M 18 0 → RowJ M r) ∧ ∀ r, 0 ≤ r → r + 1 < M 18 0 → M 19 (6 * r) ≤ M 19 (6 * (r + 1))
def DrfJ (A M : Mem) (s : Int) : Prop := Wd40 (A 1 s) (M 0 0) ∧ (0 ≤ M 21 s ∧ M 21 s ≤ 4) ∧ (∀ i j, 0 ≤ i → i < j → j < M 21 s → M 22 (4 * s + i) ≠ M 22 (4 * s + j)) ∧ (∀ i, 0 ≤ i → i < M 21 s → 0 ≤ M 22 (4 * s + i) ∧ M 22 (4 * s + i) < M 0 0) ∧ ∀ x, 0 ≤ x → x < 40 → (tb (A 1 s) x = true ↔ ∃ i, 0 ≤ i ∧ i < M 21 s ∧ M 22 (4 * s + i) = x)
def TxtJ (A M : Mem) : Prop := (0 ≤ M 24 0 ∧ M 24 0 ≤ 80) ∧ A 23 0 = M 24 0 ∧ ∀ i, 0 ≤ i → i < M 24 0 → A 24 i = M 23 i ∧ 32 ≤ M 23 i ∧ M 23 i ≤ 126
def WriJ (A M : Mem) : Prop := (0 ≤ M 26 0 ∧ M 26 0 ≤ 400) ∧ A 37 0 = M 26 0 ∧ ∀ i, 0 ≤ i → i < M 26 0 → A 36 i = M 62 i
def LogJ (A M : Mem) : Prop := (0 ≤ M 28 0 ∧ M 28 0 ≤ 24) ∧ A 0 0 = M 28 0 ∧ ∀ i, 0 ≤ i → i < M 28 0 → A 3 i = M 27 i
def Jn (A M : Mem) : Prop := RepX M A (M 0 0) ∧ TabJ A M ∧ PstJ A M ∧ (DrfJ A M 0 ∧ DrfJ A M 1) ∧ TxtJ A M ∧ WriJ A M ∧ LogJ A M
/-- what the class answers must be what the reference answers -/
def Res (R : Int → Int → Mem → Prop) (k r : Int) (B : Mem) : Prop := ∀ k' r' N, R k' r' N → k' = k ∧ (k = 0 → r' = r) ∧ Jn B N
theorem rowJ_cg {M N : Mem} {r : Int} (hr : 0 ≤ r ∧ r < 6) (h : RowJ M r) (h0 : M 0 0 ≤ N 0 0) (e : ∀ i, 0 ≤ i → i < 36 → N 19 i = M 19 i) : RowJ N r := by
  obtain ⟨a, b, c⟩ := h
  unfold RowJ
  rw [e (6 * r) (by omega) (by omega), e (6 * r + 1) (by omega) (by omega)]
  refine ⟨⟨a.1, by omega⟩, b, fun i i1 i2 => ?_⟩
  rw [e (6 * r + 2 + i) (by omega) (by omega)]
  exact c i i1 i2
/-- Jn over other columns -/
theorem Jn.cgM {A M N : Mem} (h : Jn A M) (e' : ∀ c i, (c ≤ 28 ∨ c = 62) → c ≠ 20 → N c i = M c i) : Jn A N := by
  obtain ⟨a, b, c, ⟨d0, d1⟩, f, w, l⟩ := h
  have e : ∀ c i, c ≤ 28 → c ≠ 20 → N c i = M c i := fun c i h1 h2 => e' c i (Or.inl h1) h2
  have e0 := e 0 0 (by decide) (by decide)
  refine ⟨?_, ?_, ?_, ⟨?_, ?_⟩, ?_, ?_, ?_⟩
  · rw [e0]
    exact a.cg (Ag.of _ (fun c i c1 c2 => e c i (by omega) (by omega))) (e0.trans rfl)
  · unfold TabJ at b ⊢
    rw [e0, e 16 0 (by decide) (by decide)]
    exact ⟨b.1, b.2.1, fun i i1 i2 => by rw [e 17 i (by decide) (by decide)]; exact b.2.2.1 i i1 i2, fun i i1 i2 => by rw [e 17 i (by decide) (by decide)]; exact b.2.2.2 i i1 i2⟩
  · unfold PstJ at c ⊢
    rw [e 18 0 (by decide) (by decide)]
    obtain ⟨c1, c2, c3, c4, c5⟩ := c
    refine ⟨c1, c2, fun i i1 i2 => by rw [e 19 i (by decide) (by decide)]; exact c3 i i1 i2, fun r r1 r2 => rowJ_cg ⟨r1, by omega⟩ (c4 r r1 r2) (by omega) (fun i _ _ => e 19 i (by decide) (by decide)), fun r r1 r2 => by rw [e 19 _ (by decide) (by decide), e 19 _ (by decide) (by decide)]; exact c5 r r1 r2⟩
  · unfold DrfJ at d0 ⊢
    simp only [e0, e 21 _ (by decide) (by decide), e 22 _ (by decide) (by decide)]
    exact d0
  · unfold DrfJ at d1 ⊢
    simp only [e0, e 21 _ (by decide) (by decide), e 22 _ (by decide) (by decide)]
    exact d1
  · unfold TxtJ at f ⊢
    simp only [e 24 _ (by decide) (by decide), e 23 _ (by decide) (by decide)]
    exact f
  · unfold WriJ at w ⊢
    simp only [e 26 _ (by decide) (by decide), e' 62 _ (Or.inr rfl) (by decide)]
    exact w
  · unfold LogJ at l ⊢
    simp only [e 28 _ (by decide) (by decide), e 27 _ (by decide) (by decide)]
    exact l
theorem Jn.r20 {A M : Mem} {v : Int} (h : Jn A M) : Jn A (up M 20 0 v) := h.cgM (fun c i _ hc => up_c hc)
theorem RepX.cx {G X Y : Mem} {n : Int} (h : RepX G X n) (e : ∀ c i, (c = 4 ∨ c = 5 ∨ 40 ≤ c) → Y c i = X c i) : RepX G Y n := by
  obtain ⟨a, b, c, d, f⟩ := h
  refine ⟨(e 4 0 (by omega)).trans a, b, c, fun z z1 z2 => (d z z1 z2).cx (fun k i ow => e k i (by have := own_c ow; omega)) (fun s s1 s2 => (opS_r (c.2.2 z z1 z2).1.1 ⟨s1, s2⟩).2.1), fun z y z1 z2 y1 y2 => ?_⟩
  rw [e 5 z (by omega)]
  exact f z y z1 z2 y1 y2
theorem Jn.cgA {A B M : Mem} (h : Jn A M) (e : ∀ c i, (c = 0 ∨ c = 1 ∨ c = 3 ∨ c = 4 ∨ c = 5 ∨ c = 10 ∨ c = 11 ∨ c = 23 ∨ c = 24 ∨ 36 ≤ c) → B c i = A c i) : Jn B M := by
  obtain ⟨a, b, c, ⟨d0, d1⟩, f, w, l⟩ := h
  refine ⟨a.cx (fun c i hc => e c i (by omega)), ?_, ?_, ⟨?_, ?_⟩, ?_, ?_, ?_⟩
  · unfold TabJ at b ⊢
    simp only [e 11 _ (by omega), e 10 _ (by omega)]
    exact b
  · unfold PstJ at c ⊢
    simp only [e 38 _ (by omega), e 39 _ (by omega)]
    exact c
  · unfold DrfJ at d0 ⊢
    simp only [e 1 _ (by omega)]
    exact d0
  · unfold DrfJ at d1 ⊢
    simp only [e 1 _ (by omega)]
    exact d1
  · unfold TxtJ at f ⊢
    simp only [e 23 _ (by omega), e 24 _ (by omega)]
    exact f
  · unfold WriJ at w ⊢
    simp only [e 36 _ (by omega), e 37 _ (by omega)]
    exact w
  · unfold LogJ at l ⊢
    simp only [e 0 _ (by omega), e 3 _ (by omega)]
    exact l
/-- a question: the memory stays, the answer is told -/
def Ask (M : Mem) (k r : Int) : Int → Int → Mem → Prop := fun k' r' N => k' = k ∧ (k = 0 → r' = r) ∧ N = up M 20 0 k
theorem res_ask {B M : Mem} {k r a : Int} (h : Jn B M) (e : k = 0 → a = r) : Res (Ask M k r) k a B := by
  rintro k' r' N ⟨rfl, q, rfl⟩
  exact ⟨rfl, fun k0 => (q k0).trans (e k0).symm, h.r20⟩
theorem Jn.n {A M : Mem} (h : Jn A M) : A 4 0 = M 0 0 ∧ 0 ≤ M 0 0 ∧ M 0 0 ≤ 40 ∧ Good (M 0 0) M := ⟨h.1.1, h.1.2.2.1.1, h.1.2.2.1.2.1, h.1.2.2.1⟩
theorem Jn.g {A M : Mem} (h : Jn A M) {z : Int} (h1 : 0 ≤ z) (h2 : z < M 0 0) : RepG M A z := h.1.2.2.2.1 z h1 h2
