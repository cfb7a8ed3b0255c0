/-! ===== the chain of the beginning's games, on both sides ===== -/
abbrev bt (z : Int) : Int := lshlL 1 z
def StR (G N : Mem) : Prop := ∃ N1 N2 N3 N4 N5 N6 N7 N8 N9, NumR G 0 0 0 N1 ∧ NumR N1 1 8 1 N2 ∧ NumR N2 2 (-8) 2 N3 ∧ CmpR N3 3 (bt 0) (bt 0) 3 N4 ∧ CmpR N4 4 (bt 0) (bt 3) 4 N5 ∧ CmpR N5 5 (bt 1) (bt 2) 5 N6 ∧ NumR N6 6 16 6 N7 ∧ CmpR N7 7 (bt 6) (bt 0) 7 N8 ∧ CmpR N8 8 (bt 7) (bt 2) 8 N9 ∧ CmpR N9 9 (lorL (bt 0) (bt 3)) (bt 0) 9 N
theorem ag_0 (M N : Mem) : Ag M N 0 := ⟨fun c i _ h0 h1 => by omega, fun i h0 h1 => by omega, fun z s i h0 h1 => by omega, fun i h0 h1 => by omega, fun x y h0 h1 => by omega, fun i h0 h1 => by omega⟩
theorem num_nx {G N : Mem} {n e : Int} (hG : Good n G) (h : NumR G n e n N) : N 0 0 = n + 1 ∧ Good (n + 1) N := by
  have g0 := hG.1
  rcases h with ⟨-, b, -⟩ | ⟨a, -⟩ | ⟨-, -, -, m⟩
  · omega
  · omega
  · exact ⟨m.1, m.2.1⟩
theorem cmp_nx {G N : Mem} {n l r : Int} (hG : Good n G) (h : CmpR G n l r n N) : N 0 0 = n + 1 ∧ Good (n + 1) N := by
  have g0 := hG.1
  rcases h with ⟨a, -⟩ | ⟨-, b, -⟩ | ⟨-, -, -, -, -, d, -, -, m⟩
  · omega
  · omega
  · exact ⟨m.1, m.2.1⟩
/-- a step on both sides -/
theorem num_2 {G G' N N' : Mem} {n e : Int} (hG : Good n G) (ag : Ag G G' n) (h : NumR G n e n N) (h' : NumR G' n e n N') : Good (n + 1) N ∧ Ag N N' (n + 1) := by
  have s := num_nx hG h
  have u := num_uq hG.1 h (num_cg ag h')
  rw [s.1] at u
  exact ⟨s.2, u.2.2⟩
theorem cmp_2 {G G' N N' : Mem} {n l r : Int} (hG : Good n G) (ag : Ag G G' n) (hl : Wd40 l n) (hr : Wd40 r n) (h : CmpR G n l r n N) (h' : CmpR G' n l r n N') : Good (n + 1) N ∧ Ag N N' (n + 1) := by
  have s := cmp_nx hG h
  have u := cmp_uq hG hl hr h (cmp_cg ag hl hr h')
  rw [s.1] at u
  exact ⟨s.2, u.2.2⟩
theorem str_uq {G G' N N' : Mem} (hG : Good 0 G) (h : StR G N) (h' : StR G' N') : N 0 0 = 10 ∧ N' 0 0 = 10 ∧ Ag N N' 10 ∧ Good 10 N := by
  obtain ⟨N1, N2, N3, N4, N5, N6, N7, N8, N9, a1, a2, a3, a4, a5, a6, a7, a8, a9, a10⟩ := h
  obtain ⟨P1, P2, P3, P4, P5, P6, P7, P8, P9, b1, b2, b3, b4, b5, b6, b7, b8, b9, b10⟩ := h'
  have w : ∀ k n : Int, 0 ≤ k → k < n → n ≤ 40 → Wd40 (bt k) n := fun k n k0 k1 k2 => bit_W (by omega) k1
  have s1 := num_2 hG (ag_0 _ _) a1 b1
  have s2 := num_2 s1.1 s1.2 a2 b2
  have s3 := num_2 s2.1 s2.2 a3 b3
  have s4 := cmp_2 s3.1 s3.2 (w 0 _ (by decide) (by decide) (by decide)) (w 0 _ (by decide) (by decide) (by decide)) a4 b4
  have s5 := cmp_2 s4.1 s4.2 (w 0 _ (by decide) (by decide) (by decide)) (w 3 _ (by decide) (by decide) (by decide)) a5 b5
  have s6 := cmp_2 s5.1 s5.2 (w 1 _ (by decide) (by decide) (by decide)) (w 2 _ (by decide) (by decide) (by decide)) a6 b6
  have s7 := num_2 s6.1 s6.2 a7 b7
  have s8 := cmp_2 s7.1 s7.2 (w 6 _ (by decide) (by decide) (by decide)) (w 0 _ (by decide) (by decide) (by decide)) a8 b8
  have s9 := cmp_2 s8.1 s8.2 (w 7 _ (by decide) (by decide) (by decide)) (w 2 _ (by decide) (by decide) (by decide)) a9 b9
  have wl : Wd40 (lorL (bt 0) (bt 3)) 9 := wd_or (w 0 _ (by decide) (by decide) (by decide)) (by decide) (by decide)
  have s10 := cmp_2 s9.1 s9.2 wl (w 0 _ (by decide) (by decide) (by decide)) a10 b10
  have e1 := (cmp_nx s9.1 a10).1
  have g9 : Good 9 P9 := s9.1.cg s9.2
  have e2 := (cmp_nx g9 b10).1
  exact ⟨e1, e2, s10.2, s10.1⟩
/-- the games' descriptions as they come -/
def D3 : List Ds := [.inl 0, .inl 8, .inl (-8)]
def D4 : List Ds := D3 ++ [.inr ([0], [0], 1)]
def D5 : List Ds := D4 ++ [.inr ([0], [3], 2)]
def D6 : List Ds := D5 ++ [.inr ([1], [2], 1)]
def D7 : List Ds := D6 ++ [.inl 16]
def D8 : List Ds := D7 ++ [.inr ([6], [0], 1)]
def D9 : List Ds := D8 ++ [.inr ([7], [2], 2)]
def D10 : List Ds := D9 ++ [.inr ([0, 3], [0], 2)]
theorem bt_in {k : Int} (hk : 0 ≤ k ∧ k < 40) : ∀ x, 0 ≤ x → x < 40 → (tb (bt k) x = true ↔ x ∈ [k]) := fun x x0 x1 => by
  rw [tb_bit (by omega) (by omega), decide_eq_true_eq, List.mem_singleton]
theorem siz_0 : siz 0 = 0 := by decide +kernel
theorem bt_siz {k : Int} (hk : 0 ≤ k ∧ k < 40) : siz (bt k) ≤ 4 := by
  have h2 : ∀ x : Nat, x < 40 → siz (bt (x : Int)) ≤ 4 := by decide +kernel
  have := h2 k.toNat (by omega)
  rwa [show ((k.toNat : Nat) : Int) = k by omega] at this
