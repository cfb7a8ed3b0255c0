/-! ===== good games: what is laid exists, and is one ===== -/
theorem lyB_ex {K : Mem} {n : Int} (hS : K 1 n = 0 → roomE (loF K n) (upF K n) → ∃ v, Smp (betE (loF K n) (upF K n)) v) : ∃ P, LyB K P n := by
  have mk : ∀ a b c d e f : Int, ValE (loF K n) (upF K n) (K 1 n) (K 2 n) a b c d e f → ∃ P, LyB K P n := by
    intro a b c d e f h
    refine ⟨fun k i => if k = 0 then n + 1 else if i = n ∧ 6 ≤ k ∧ k ≤ 11 then (if k = 6 then a else if k = 7 then b else if k = 8 then c else if k = 9 then d else if k = 10 then e else f) else K k i, rfl, fun k i q1 q2 q3 => ?_, fun k i q1 q2 q3 => ?_, ?_⟩
    · show (if k = 0 then _ else if i = n ∧ 6 ≤ k ∧ k ≤ 11 then _ else _) = _
      rw [if_neg q1, if_neg (by omega)]
    · show (if k = 0 then _ else if i = n ∧ 6 ≤ k ∧ k ≤ 11 then _ else _) = _
      rw [if_neg (by omega), if_neg (by omega)]
    · simpa using h
  by_cases h1 : K 1 n = 0
  · by_cases hr : roomE (loF K n) (upF K n)
    · obtain ⟨v, hv⟩ := hS h1 hr
      exact mk 1 v v 1 v 1 ⟨Or.inr rfl, fun q => absurd h1 q, fun _ => ⟨⟨fun _ => hr, fun _ => rfl⟩, fun _ => hv⟩, fun _ => ⟨rfl, rfl, rfl, rfl⟩, fun q => absurd q (by decide)⟩
    · exact mk 0 0 (upF K n).1 (upF K n).2 (loF K n).1 (loF K n).2 ⟨Or.inl rfl, fun q => absurd h1 q, fun _ => ⟨⟨fun q => absurd q (by decide), fun q => absurd q hr⟩, fun q => absurd q (by decide)⟩, fun q => absurd q (by decide), fun _ => ⟨rfl, rfl, rfl, rfl, rfl⟩⟩
  · exact mk 1 (K 2 n) (K 2 n) 1 (K 2 n) 1 ⟨Or.inr rfl, fun _ => ⟨rfl, rfl⟩, fun q => absurd q h1, fun _ => ⟨rfl, rfl, rfl, rfl⟩, fun q => absurd q (by decide)⟩
theorem bit_of (p : Prop) : ∃ r : Int, (r = 0 ∨ r = 1) ∧ (r = 1 ↔ p) := by
  by_cases h : p
  · exact ⟨1, Or.inr rfl, fun _ => h, fun _ => rfl⟩
  · exact ⟨0, Or.inl rfl, fun q => absurd q (by decide), fun q => absurd q h⟩
theorem al_ex {P : Mem} {n : Int} (hn : 0 ≤ n ∧ n < 40) (ho : ∀ h, 0 ≤ h → h ≤ n → OpS P h) : ∀ m : Nat, (m : Int) ≤ n + 1 → ∃ A, AlI P A n m ∧ ∀ x : Int, 0 ≤ x → x < (m : Int) → (A 12 (40 * n + x) = 0 ∨ A 12 (40 * n + x) = 1) ∧ (A 12 (40 * x + n) = 0 ∨ A 12 (40 * x + n) = 1) := by
  intro m
  induction m with
  | zero => intro _; exact ⟨P, ⟨fun _ _ _ => rfl, fun _ _ _ _ _ _ _ => rfl, fun x q1 q2 => absurd q2 (by omega)⟩, fun x q1 q2 => absurd q2 (by omega)⟩
  | succ m ih =>
    intro hm
    obtain ⟨N, ⟨f1, f2, f3⟩, f4⟩ := ih (by omega)
    obtain ⟨h, hh⟩ : ∃ h : Int, h = (m : Int) := ⟨_, rfl⟩
    rw [← hh] at f2 f3 f4
    have h1 : 0 ≤ h := by omega
    have hoN : ∀ h, 0 ≤ h → h ≤ n → OpS N h := fun x q1 q2 => by
      obtain ⟨a, b⟩ := ho x q1 q2
      refine ⟨a.cg (fun i => f1 3 i (by decide)) (fun i => f1 4 i (by decide)), fun s s1 s2 i i1 i2 => ?_⟩
      rw [f1 3 _ (by decide)] at i2
      rw [f1 4 _ (by decide)]
      exact b s s1 s2 i i1 i2
    have on := hoN n (by omega) (by omega)
    have oh := hoN h (by omega) (by omega)
    obtain ⟨r, r01, r1⟩ := bit_of (ALf N n h)
    obtain ⟨r', r01', r1'⟩ := bit_of (ALf (up N 12 (40 * n + h) r) h n)
    have on1 : OpS (up N 12 (40 * n + h) r) n := ⟨on.1.cg (fun i => rfl) (fun i => rfl), on.2⟩
    have oh1 : OpS (up N 12 (40 * n + h) r) h := ⟨oh.1.cg (fun i => rfl) (fun i => rfl), oh.2⟩
    have g1 : ∀ x, 0 ≤ x → x ≤ h → AgL N (up (up N 12 (40 * n + h) r) 12 (40 * h + n) r') n x := fun x q1 q2 =>
      ⟨fun c i hc => by rw [up_c hc, up_c hc], fun a b a1 a2 b1 b2 hab => by rw [up_i (by omega), up_i (by omega)]⟩
    have g2 : ∀ x, 0 ≤ x → x ≤ h → AgL (up N 12 (40 * n + h) r) (up (up N 12 (40 * n + h) r) 12 (40 * h + n) r') n x := fun x q1 q2 =>
      ⟨fun c i hc => by rw [up_c hc], fun a b a1 a2 b1 b2 hab => by rw [up_i (by omega)]⟩
    have em : ((m + 1 : Nat) : Int) = h + 1 := by omega
    rw [em]
    refine ⟨up (up N 12 (40 * n + h) r) 12 (40 * h + n) r', ⟨fun c i hc => by rw [up_c hc, up_c hc]; exact f1 c i hc, fun x y a1 a2 b1 b2 hab => ?_, fun x q1 q2 => ?_⟩, fun x q1 q2 => ?_⟩
    · rw [up_i (by omega), up_i (by omega)]
      exact f2 x y a1 a2 b1 b2 (by omega)
    · by_cases hx : x = h
      · subst hx
        constructor
        · rw [al_cg1 hn (by omega) on oh (g1 x q1 (by omega))]
          by_cases hxn : x = n
          · subst hxn
            rw [up_s, r1', al_cg1 hn (by omega) on oh (⟨fun c i hc => by rw [up_c hc], fun a b a1 a2 b1 b2 hab => by rw [up_i (by omega)]⟩ : AgL N (up N 12 (40 * x + x) r) x x)]
          · rw [up_i (by omega), up_s]
            exact r1
        · rw [al_cg2 hn (by omega) on1 oh1 (g2 x q1 (by omega)), up_s]
          exact r1'
      · obtain ⟨z1, z2⟩ := f3 x q1 (by omega)
        have ox := hoN x (by omega) (by omega)
        rw [al_cg1 hn (by omega) on ox (g1 x q1 (by omega)), al_cg2 hn (by omega) on ox (g1 x q1 (by omega)), up_i (by omega), up_i (by omega), up_i (by omega), up_i (by omega)]
        exact ⟨z1, z2⟩
    · by_cases hx : x = h
      · subst hx
        constructor
        · by_cases hxn : x = n
          · subst hxn; rw [up_s]; exact r01'
          · rw [up_i (by omega), up_s]; exact r01
        · rw [up_s]; exact r01'
      · rw [up_i (by omega), up_i (by omega), up_i (by omega), up_i (by omega)]
        exact f4 x q1 (by omega)
/-- the memory with these walls -/
def walM (A : Mem) (z m t : Int) (f : Int → Int → Int) : Mem := fun c i => if c = 13 ∧ i = z then m else if c = 14 ∧ i = z then t else if c = 15 ∧ 14400 * z ≤ i ∧ i < 14400 * z + 14400 then (if i < 14400 * z + 7200 then f 0 (i - 14400 * z) else f 1 (i - 14400 * z - 7200)) else A c i
theorem walM_F {A : Mem} {z m t : Int} {f : Int → Int → Int} : WlF A (walM A z m t f) z ∧ walM A z m t f 13 z = m ∧ walM A z m t f 14 z = t ∧ WlT A (walM A z m t f) z 7200 f := by
  refine ⟨⟨fun c i q1 q2 q3 => ?_, fun i q => ?_, fun i q => ?_, fun i q => ?_⟩, ?_, ?_, fun s j s1 s2 j1 j2 => ?_⟩
  · unfold walM; rw [if_neg (by omega), if_neg (by omega), if_neg (by omega)]
  · unfold walM; rw [if_neg (by omega), if_neg (by omega), if_neg (by omega)]
  · unfold walM; rw [if_neg (by omega), if_neg (by omega), if_neg (by omega)]
  · unfold walM; rw [if_neg (by omega), if_neg (by omega), if_neg (by omega)]
  · unfold walM; rw [if_pos ⟨rfl, rfl⟩]
  · unfold walM; rw [if_neg (by omega), if_pos ⟨rfl, rfl⟩]
  · unfold smpl walM
    rw [if_neg (by omega), if_neg (by omega), if_pos ⟨rfl, by omega, by omega⟩]
    rcases (show s = 0 ∨ s = 1 by omega) with rfl | rfl
    · rw [if_pos (by omega), show 7200 * (2 * z + 0) + j - 14400 * z = j by omega]
    · rw [if_neg (by omega), show 7200 * (2 * z + 1) + j - 14400 * z - 7200 = j by omega]
theorem wl_ex {A : Mem} {z : Int} : ∃ N r, WlI A N z 7200 r := by
  by_cases hc : A 6 z = 0
  · by_cases hk : ∃ k : Nat, (k : Int) < 7200 ∧ txF A z 0 k ≤ txF A z 1 k
    · obtain ⟨k, ⟨k1, k2⟩, k3⟩ := least_nat _ hk
      obtain ⟨a, b, c, d⟩ := walM_F (A := A) (z := z) (m := txF A z 0 k) (t := 2 * k) (f := fun s j => if j < (k : Int) then txF A z s j else txF A z 0 k)
      refine ⟨_, 1, a, Or.inr (Or.inr ⟨hc, rfl, k, by omega, k1, k2, fun j j1 j2 => ?_, b, c, d⟩)⟩
      have := k3 j.toNat (by omega)
      rw [Int.toNat_of_nonneg j1] at this
      omega
    · obtain ⟨a, b, c, d⟩ := walM_F (A := A) (z := z) (m := A 7 z) (t := -1) (f := fun s j => txF A z s j)
      refine ⟨_, 0, a, Or.inr (Or.inl ⟨hc, rfl, b, c, fun j j1 j2 => ?_, d⟩)⟩
      rcases Int.lt_or_le (txF A z 1 j) (txF A z 0 j) with q | q
      · exact q
      · exact absurd ⟨j.toNat, by omega, by rw [Int.toNat_of_nonneg j1]; exact q⟩ hk
  · obtain ⟨a, b, c, d⟩ := walM_F (A := A) (z := z) (m := A 7 z) (t := -1) (f := fun _ _ => A 7 z)
    exact ⟨_, 1, a, Or.inl ⟨hc, rfl, b, c, d⟩⟩
theorem ly_ex {K : Mem} {n : Int} (hn : 0 ≤ n ∧ n < 40) (hG : Good n K) (hD : Dat K n) (hb1 : K 1 n = 0 ∨ K 1 n = 1) : ∃ N, LyG K N n := by
  have ho : ∀ h, 0 ≤ h → h ≤ n → OpS K h := fun h h1 h2 => by
    by_cases hh : h = n
    · subst hh; exact hD.1
    · exact (hG.2.2 h h1 (by omega)).1.1
  obtain ⟨P, hP⟩ := lyB_ex (K := K) (n := n) (fun q hr => by
    have hI := opI_of hD q (fun o o1 o2 => ⟨(hG.2.2 o o1 o2).1.2.2.1.1, (hG.2.2 o o1 o2).2.2.2.2⟩)
    have hd := hD.2.2.1
    have hd1 := (hD.2.2.2.2 q).1
    obtain ⟨x, x1, -, x2⟩ := room_ex (by omega) hI hD.1.1 hr
    exact smp_ex x1 x2)
  have hoP : ∀ h, 0 ≤ h → h ≤ n → OpS P h := fun h q1 q2 => by
    obtain ⟨a, b⟩ := ho h q1 q2
    have p3 : ∀ i, P 3 i = K 3 i := fun i => hP.2.1 3 i (by decide) (by decide) (by decide)
    have p4 : ∀ i, P 4 i = K 4 i := fun i => hP.2.1 4 i (by decide) (by decide) (by decide)
    refine ⟨a.cg p3 p4, fun s s1 s2 i i1 i2 => ?_⟩
    rw [p3] at i2
    rw [p4]
    exact b s s1 s2 i i1 i2
  obtain ⟨A, hA, h01⟩ := al_ex hn hoP (n + 1).toNat (by omega)
  rw [Int.toNat_of_nonneg (by omega)] at hA h01
  obtain ⟨N, r, hN⟩ := wl_ex (A := A) (z := n)
  exact ⟨N, ly_good hn hG hD hb1 ⟨P, A, hP, hA, fun x x1 x2 => h01 x x1 (by omega), r, hN⟩⟩
