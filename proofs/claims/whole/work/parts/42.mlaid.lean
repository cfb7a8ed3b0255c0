/-! ===== the reference: lays keeps good ===== -/
theorem alf_cg {A N : Mem} (h : ∀ c i, c < 13 → N c i = A c i) (a b : Int) : ALf N a b ↔ ALf A a b := by
  unfold ALf geM leM
  rw [h 1 b (by decide), h 1 a (by decide), h 2 b (by decide), h 2 a (by decide), h 8 a (by decide), h 9 a (by decide), h 10 b (by decide), h 11 b (by decide), h 3 (2 * a + 1) (by decide), h 3 (2 * b + 0) (by decide)]
  have q1 : ∀ i, N 12 (40 * b + N 4 (8 * a + 4 * 1 + i)) = A 12 (40 * b + A 4 (8 * a + 4 * 1 + i)) := fun i => by rw [h 4 _ (by decide), h 12 _ (by decide)]
  have q2 : ∀ i, N 12 (40 * N 4 (8 * b + 4 * 0 + i) + a) = A 12 (40 * A 4 (8 * b + 4 * 0 + i) + a) := fun i => by rw [h 4 _ (by decide), h 12 _ (by decide)]
  simp only [q1, q2]
/-- N is M with game n laid, all games good -/
def LyG (M N : Mem) (n : Int) : Prop := N 0 0 = n + 1 ∧ Good (n + 1) N ∧ Ag M N n ∧ ∀ c i, c ≠ 0 → (c < 6 ∨ 15 < c) → (c < 32 ∨ 35 < c) → N c i = M c i
theorem ly_good {M N : Mem} {n : Int} (hn : 0 ≤ n ∧ n < 40) (hG : Good n M) (hD : Dat M n) (hb1 : M 1 n = 0 ∨ M 1 n = 1) (h : LyN M N n) : LyG M N n := by
  obtain ⟨P, A, ⟨p0, pf, pg, pV⟩, ⟨af, ag, aA⟩, a01, r, ⟨wf, wf13, wf14, wf15⟩, wQ⟩ := h
  have hO := hD.1
  -- the frame
  have fr : ∀ c i, c ≠ 0 → (c < 6 ∨ 15 < c) → (c < 32 ∨ 35 < c) → N c i = M c i := fun c i q0 q1 q2 => by
    rw [wf c i (by omega) (by omega) (by omega), af c i (by omega), pf c i q0 (by omega) q2]
  have g : Ag M N n := by
    refine ⟨fun c i q i1 i2 => ?_, fun i _ _ => fr 3 i (by decide) (by decide) (by decide), fun z s i _ _ _ _ _ _ => fr 4 _ (by decide) (by decide) (by decide), fun i i1 i2 => ?_, fun x y x1 x2 y1 y2 => ?_, fun z _ _ _ => fr 2 z (by decide) (by decide) (by decide)⟩
    · have e1 : N c i = A c i := by
        by_cases h13 : c = 13
        · subst h13; exact wf13 i (by omega)
        · by_cases h14 : c = 14
          · subst h14; exact wf14 i (by omega)
          · exact wf c i h13 h14 (by omega)
      rw [e1, af c i (by omega)]
      by_cases h6 : 6 ≤ c ∧ c ≤ 11
      · exact pg c i h6.1 h6.2 (by omega)
      · exact pf c i (by omega) (by omega) (by omega)
    · rw [wf15 i (by omega), af 15 i (by decide), pf 15 i (by decide) (by decide) (by decide)]
    · rw [wf 12 _ (by decide) (by decide) (by decide), ag x y x1 (by omega) y1 (by omega) (by omega), pf 12 _ (by decide) (by decide) (by decide)]
  have hGN : Good n N := hG.cg g
  have f3 : ∀ i, N 3 i = M 3 i := fun i => fr 3 i (by decide) (by decide) (by decide)
  have f4 : ∀ i, N 4 i = M 4 i := fun i => fr 4 i (by decide) (by decide) (by decide)
  have hON : OpS N n := by
    refine ⟨hO.1.cg f3 f4, fun s s1 s2 i i1 i2 => ?_⟩
    rw [f3] at i2; rw [f4]
    exact hO.2 s s1 s2 i i1 i2
  have r0 := opS_r hO (s := 0) (by omega)
  have r1 := opS_r hO (s := 1) (by omega)
  have hDN : Dat N n := by
    obtain ⟨-, d2, d3, d4, d5⟩ := hD
    have e5 : N 5 n = M 5 n := fr 5 n (by decide) (by decide) (by decide)
    have eo : ∀ s i, opt N n s i = opt M n s i := fun s i => f4 _
    refine ⟨hON, fun s s1 s2 i j i1 i2 i3 => ?_, by rw [e5]; exact d3, fun q => ?_, fun q => ?_⟩
    · rw [f3] at i3
      rw [eo, eo]; exact d2 s s1 s2 i j i1 i2 i3
    · rw [fr 1 n (by decide) (by decide) (by decide)] at q
      rw [f3, f3, e5, fr 2 n (by decide) (by decide) (by decide)]
      exact d4 q
    · rw [fr 1 n (by decide) (by decide) (by decide)] at q
      obtain ⟨k1, k2, k3⟩ := d5 q
      have e55 : ∀ i, N 5 i = M 5 i := fun i => fr 5 i (by decide) (by decide) (by decide)
      simp only [f3, eo, e55]
      exact ⟨k1, k2, k3⟩
  have e8 : ∀ c, 6 ≤ c → c ≤ 11 → ∀ i, i ≠ n → N c i = M c i := fun c c1 c2 i hi => by
    rw [wf c i (by omega) (by omega) (by omega), af c i (by omega)]
    exact pg c i c1 c2 hi
  have elo : loF N n = loF M n := loF_cg hO.1 f3 f4 (fun i i1 i2 => by have := r0.2.2 i i1 i2; exact ⟨e8 8 (by omega) (by omega) _ (by simp only [opt] at this; omega), e8 9 (by omega) (by omega) _ (by simp only [opt] at this; omega)⟩)
  have eup : upF N n = upF M n := upF_cg hO.1 f3 f4 (fun i i1 i2 => by have := r1.2.2 i i1 i2; exact ⟨e8 10 (by omega) (by omega) _ (by simp only [opt] at this; omega), e8 11 (by omega) (by omega) _ (by simp only [opt] at this; omega)⟩)
  have eP : ∀ c, 6 ≤ c → c ≤ 11 → N c n = P c n := fun c c1 c2 => by rw [wf c n (by omega) (by omega) (by omega), af c n (by omega)]
  have hA13 : ∀ c i, c < 13 → N c i = A c i := fun c i hc => wf c i (by omega) (by omega) (by omega)
  have hOA : OpS A n := by
    have a3 : ∀ i, A 3 i = M 3 i := fun i => (hA13 3 i (by decide)).symm.trans (f3 i)
    have a4 : ∀ i, A 4 i = M 4 i := fun i => (hA13 4 i (by decide)).symm.trans (f4 i)
    refine ⟨hO.1.cg a3 a4, fun s s1 s2 i i1 i2 => ?_⟩
    rw [a3] at i2; rw [a4]
    exact hO.2 s s1 s2 i i1 i2
  have etx : ∀ s k, 0 ≤ s ∧ s ≤ 1 → 0 ≤ k ∧ k < 7200 → txF N n s k = txF A n s k := fun s k hs hk => wl_tx hn hs hk hOA.1 hOA.2 ⟨wf, wf13, wf14, wf15⟩
  have hGn : GG N n := by
    refine good_of hn hDN (by rw [fr 1 n (by decide) (by decide) (by decide)]; exact hb1) (fun o o1 o2 => ?_) ?_ (fun x x1 x2 => ?_) ?_
    · have := hGN.2.2 o o1 o2
      exact ⟨this.1.2.2.1.1, this.2.2.2.2⟩
    · rw [elo, eup, fr 1 n (by decide) (by decide) (by decide), fr 2 n (by decide) (by decide) (by decide), eP 6 (by omega) (by omega), eP 7 (by omega) (by omega), eP 8 (by omega) (by omega), eP 9 (by omega) (by omega), eP 10 (by omega) (by omega), eP 11 (by omega) (by omega)]
      exact pV
    · rw [hA13 12 _ (by decide), hA13 12 _ (by decide), alf_cg hA13, alf_cg hA13]
      exact ⟨a01 x x1 x2, (aA x x1 (by omega)).1, (aA x x1 (by omega)).2⟩
    · have e6 : N 6 n = A 6 n := hA13 6 n (by decide)
      have e7 : N 7 n = A 7 n := hA13 7 n (by decide)
      rcases wQ with ⟨c, -, m1, m2, t⟩ | ⟨c, -, m1, m2, u, t⟩ | ⟨c, -, kt, k0, k1, k2, k3, m1, m2, t⟩
      · refine Or.inl ⟨by rw [e6]; exact c, by rw [e7]; exact m1, m2, fun s j s1 s2 j1 j2 => ?_⟩
        rw [e7]; exact t s j s1 s2 j1 j2
      · refine Or.inr (Or.inl ⟨by rw [e6]; exact c, fun j j1 j2 => ?_⟩)
        rw [etx 1 j (by omega) ⟨j1, j2⟩, etx 0 j (by omega) ⟨j1, j2⟩]
        exact u j j1 j2
      · refine Or.inr (Or.inr ⟨by rw [e6]; exact c, kt, k0, k1, ?_, fun j j1 j2 => ?_, ?_, m2, fun s j s1 s2 j1 j2 => ?_⟩)
        · rw [etx 0 kt (by omega) ⟨k0, k1⟩, etx 1 kt (by omega) ⟨k0, k1⟩]; exact k2
        · rw [etx 1 j (by omega) (by omega), etx 0 j (by omega) (by omega)]; exact k3 j j1 j2
        · rw [etx 0 kt (by omega) ⟨k0, k1⟩]; exact m1
        · rw [etx 0 kt (by omega) ⟨k0, k1⟩, etx s j ⟨s1, s2⟩ ⟨j1, j2⟩]; exact t s j s1 s2 j1 j2
  refine ⟨by rw [hA13 0 0 (by decide), af 0 0 (by decide)]; exact p0, ⟨by omega, by omega, fun z z1 z2 => ?_⟩, g, fr⟩
  by_cases hz : z = n
  · subst hz; exact hGn
  · exact hGN.2.2 z z1 (by omega)
theorem wlB_of {M : Mem} {n : Int} (hG : Good n M) (hD : OpS M n) : WlB M n := by
  intro s s1 s2 i i1 i2 k k1 k2
  have r := (opS_r hD ⟨s1, s2⟩).2.2 i i1 i2
  have gg := hG.2.2 _ r.1 r.2
  have hd := gg.1.2.2.1
  have := gg.2.2.2.2.2.2.1 (1 - s) k (by omega) (by omega) k1 k2
  unfold Bd at this
  simp only [smpl, opt] at *
  omega
theorem g_lays {g : Gs} {ad : Nat → Nat} {M : Mem} {n : Int} (hM : M 0 0 = n) (hn : 0 ≤ n ∧ n < 40) (hG : Good n M) (hD : Dat M n) (hb1 : M 1 n = 0 ∨ M 1 n = 1) : SpI (wM g ad) yX10_lays cX10_lays 3 (some .int) 5 [.ref (ad 0)] (M) (fun r N => n = r ∧ LyG M N n) := by
  refine (s_X10_lays hM hn (fun h h1 h2 => ?_) (wlB_of hG hD.1) (fun q hr => ?_)).mono (fun r N h => ⟨h.1, ly_good hn hG hD hb1 h.2⟩)
  · by_cases hh : h = n
    · subst hh; exact hD.1
    · exact (hG.2.2 h h1 (by omega)).1.1
  · have hI := opI_of hD q (fun o o1 o2 => ⟨(hG.2.2 o o1 o2).1.2.2.1.1, (hG.2.2 o o1 o2).2.2.2.2⟩)
    have hd := hD.2.2.1
    have hd1 := (hD.2.2.2.2 q).1
    obtain ⟨x, x1, -, x2⟩ := room_ex (by omega) hI hD.1.1 hr
    exact smp_ex x1 x2
