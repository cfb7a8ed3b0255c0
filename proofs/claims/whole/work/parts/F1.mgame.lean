/-! ===== the reference: a game is complete ===== -/
def FR (M N : Mem) : Prop := ∀ c i, 15 < c → (c < 29 ∨ 35 < c) → N c i = M c i
def GS (M N : Mem) : Prop := FR M N ∧ (M 0 0 ≤ N 0 0 ∧ N 0 0 ≤ 40) ∧ Ag M N (M 0 0) ∧ Good (N 0 0) N
theorem GS.trans {M N K : Mem} (a : GS M N) (b : GS N K) : GS M K := ⟨fun c i h1 h2 => (b.1 c i h1 h2).trans (a.1 c i h1 h2), ⟨by have := a.2.1; have := b.2.1; omega, b.2.1.2⟩, a.2.2.1.trans (Int.le_refl _) (b.2.2.1.mono a.2.1.1), b.2.2.2⟩
theorem GS.of {M N : Mem} (hM : Good (M 0 0) M) (f : ∀ c i, (c ≤ 15 ∨ (c < 29 ∨ 35 < c)) → N c i = M c i) : GS M N := by
  have ag : Ag M N (M 0 0) := Ag.of _ (fun c i _ c2 => f c i (Or.inl c2))
  have e0 : N 0 0 = M 0 0 := f 0 0 (by omega)
  have := hM.2.1
  exact ⟨fun c i _ h2 => f c i (Or.inr h2), by omega, ag, by rw [e0]; exact hM.cg ag⟩
theorem m_num {g : Gs} {ad : Nat → Nat} {M : Mem} {e : Int} (hG : Good (M 0 0) M) (he : -64 ≤ e ∧ e ≤ 64) : SpI (wM g ad) yX10_madeNumber cX10_madeNumber 3 (some .int) 6 [.ref (ad 0), vI (e)] (M) (fun r N => NumR M (M 0 0) e r N ∧ GS M N ∧ (-1 ≤ r ∧ r < 40) ∧ (r ≠ -1 → 0 ≤ r ∧ r < N 0 0)) := by
  refine (g_madeNumber rfl hG he).mono (fun r N h => ?_)
  have w := mnp_W rfl h
  have s := num_st hG w
  refine ⟨w, ⟨?_, s.1, s.2.1, s.2.2.1⟩, s.2.2.2.2, s.2.2.2.1⟩
  rcases h with ⟨-, -, rfl, -⟩ | ⟨-, rfl, -⟩ | ⟨-, -, -, m⟩
  · exact fun _ _ _ _ => rfl
  · exact fun _ _ _ _ => rfl
  · exact fun c i h1 h2 => m.2.2.2.2.2 c i h1 (by omega)
theorem mdp_FR {M N : Mem} {n z : Int} (h : MdP M n z N) : FR M N := by
  rcases h with ⟨-, rfl, -⟩ | ⟨-, -, rfl, -⟩ | ⟨-, -, -, -, d, -, -, m⟩
  · exact fun _ _ _ _ => rfl
  · exact fun _ _ _ _ => rfl
  · exact fun c i h1 h2 => m.2.2.2.2.2.2 c i h1 (by omega)
/-- a game made of rows that list words -/
theorem md_G {M A N : Mem} {l r z : Int} (hG : Good (M 0 0) M) (f : ∀ c i, c ≠ 29 → c ≠ 30 → c ≠ 31 → A c i = M c i) (hA : NwOk A (M 0 0)) (hl : Wd40 l (M 0 0)) (hr : Wd40 r (M 0 0)) (h29 : A 29 0 = 0) (hi0 : ∀ x, 0 ≤ x → x < 40 → (InR A 0 x ↔ tb l x = true)) (hi1 : ∀ x, 0 ≤ x → x < 40 → (InR A 1 x ↔ tb r x = true)) (q : MdP A (M 0 0) z N) : CmpR M (M 0 0) l r z N ∧ GS M N ∧ (-1 ≤ z ∧ z < 40) ∧ (z ≠ -1 → 0 ≤ z ∧ z < N 0 0) := by
  have w := mdp_W hA hl hr (fun w => absurd h29 w) (fun _ => ⟨rwN_of (by decide) hA hi0, rwN_of (by decide) hA hi1⟩) q
  have ag : Ag M A (M 0 0) := Ag.of _ (fun c i _ c2 => f c i (by omega) (by omega) (by omega))
  have w2 := cmp_cg ag hl hr w
  have s := cmp_st hG w2
  exact ⟨w2, ⟨fun c i h1 h2 => (mdp_FR q c i h1 h2).trans (f c i (by omega) (by omega) (by omega)), s.1, s.2.1, s.2.2.1⟩, s.2.2.2.2, s.2.2.2.1⟩
theorem m_pr {g : Gs} {ad : Nat → Nat} {M : Mem} {a b : Int} (hG : Good (M 0 0) M) (ha : -1 ≤ a ∧ a < M 0 0) (hb : -1 ≤ b ∧ b < M 0 0) : SpI (wM g ad) yX10_checkedPair cX10_checkedPair 3 (some .int) 8 [.ref (ad 0), vI (a), vI (b)] (M) (fun r N => ((a = -1 ∨ b = -1) ∧ r = -1 ∧ N = M) ∨ ((a ≠ -1 ∧ b ≠ -1) ∧ CmpR M (M 0 0) (wB a) (wB b) r N ∧ GS M N ∧ (-1 ≤ r ∧ r < 40) ∧ (r ≠ -1 → 0 ≤ r ∧ r < N 0 0))) := by
  have g1 := hG.2.1
  intro l9 hl9
  refine ct_of hl9 mi_X10_checkedPair.2.2.2 (Nat.le_of_ble_eq_true rfl) (fun X _ C Y => ?_)
  show E (wM g ad) X 0 0 (M) 0 [(0, .ref (ad 0)), (1, vI (a)), (2, vI (b))] []
  refine e_wf (fun hw => ?_)
  refine B_X10_checkedPair_0 (by omega) (by omega) (Nat.zero_le _) (Nat.zero_le _) C Y ⟨fun q => ⟨-1, rfl, Or.inl ⟨Or.inl q, rfl, rfl⟩⟩, fun qa => ⟨fun qb => ⟨_, g_pair rfl hG (by omega) (by omega), fun r N hN => ?_⟩, fun q => ⟨-1, rfl, Or.inl ⟨Or.inr q, rfl, rfl⟩⟩⟩⟩
  obtain ⟨A, ⟨⟨r1, r2, r3⟩, a29, fr⟩, md⟩ := hN
  have k := md_G hG fr r1 (wB_W (z := a) (by omega) g1) (wB_W (z := b) (by omega) g1) a29 (fun x x0 x1 => by rw [r2 x, wB_tb (by omega) ⟨x0, x1⟩]) (fun x x0 x1 => by rw [r3 x, wB_tb (by omega) ⟨x0, x1⟩]) md
  exact ⟨by omega, r, rfl, Or.inr ⟨⟨qa, qb⟩, k⟩⟩
/-! the held rows of a level, seen as a draft -/
def vLv (lw rw0 : Int → Int) (i : Int) : Mem := fun c s => if c = 1 then (if s = 0 then lw i else rw0 i) else 0
def vRw (M : Mem) (i : Int) : Mem := fun c j => if c = 0 then M 0 j else if c = 21 then M 50 (2 * i + j) else if c = 22 then M 51 (8 * i + j) else 0
def HdL (M : Mem) (i : Int) (lw rw0 : Int → Int) : Prop := DrfJ (vLv lw rw0 i) (vRw M i) 0 ∧ DrfJ (vLv lw rw0 i) (vRw M i) 1
theorem HdL.gs {M N : Mem} {i : Int} {lw rw0 : Int → Int} (g : GS M N) (h : HdL M i lw rw0) : HdL N i lw rw0 := by
  have e : ∀ s, vRw N i 21 s = vRw M i 21 s := fun s => g.1 50 _ (by decide) (by decide)
  have e2 : ∀ s, vRw N i 22 s = vRw M i 22 s := fun s => g.1 51 _ (by decide) (by decide)
  exact ⟨h.1.cg rfl (e 0) e2 g.2.1.1, h.2.cg rfl (e 1) e2 g.2.1.1⟩
theorem drf_cg2 {A M B N : Mem} {s : Int} (h : DrfJ A M s) (e1 : B 1 s = A 1 s) (e0 : N 0 0 = M 0 0) (e21 : N 21 s = M 21 s) (e22 : ∀ i, 0 ≤ i → i < 4 → N 22 (4 * s + i) = M 22 (4 * s + i)) : DrfJ B N s := by
  obtain ⟨a, b, c, d, f⟩ := h
  unfold DrfJ
  rw [e1, e0, e21]
  refine ⟨a, b, fun i j i1 i2 i3 => by rw [e22 i i1 (by omega), e22 j (by omega) (by omega)]; exact c i j i1 i2 i3, fun i i1 i2 => by rw [e22 i i1 (by omega)]; exact d i i1 i2, fun x x0 x1 => ?_⟩
  rw [f x x0 x1]
  exact ⟨fun ⟨i, i1, i2, i3⟩ => ⟨i, i1, i2, by rw [e22 i i1 (by omega)]; exact i3⟩, fun ⟨i, i1, i2, i3⟩ => ⟨i, i1, i2, by rw [e22 i i1 (by omega)] at i3; exact i3⟩⟩
theorem drf_add {A M B N : Mem} {s z : Int} (h : DrfJ A M s) (hn : M 0 0 ≤ 40) (hz : 0 ≤ z ∧ z < M 0 0) (h4 : M 21 s < 4) (no : ∀ i, 0 ≤ i → i < M 21 s → M 22 (4 * s + i) ≠ z) (e1 : B 1 s = lorL (A 1 s) (lshlL 1 z)) (e0 : N 0 0 = M 0 0) (e21 : N 21 s = M 21 s + 1) (ez : N 22 (4 * s + M 21 s) = z) (e22 : ∀ i, 0 ≤ i → i < M 21 s → N 22 (4 * s + i) = M 22 (4 * s + i)) : DrfJ B N s := by
  obtain ⟨a, b, c, d, f⟩ := h
  unfold DrfJ
  rw [e1, e0, e21]
  refine ⟨wd_or a hz hn, by omega, fun i j i1 i2 i3 => ?_, fun i i1 i2 => ?_, fun x x0 x1 => ?_⟩
  · rw [e22 i i1 (by omega)]
    by_cases q : j = M 21 s
    · rw [q, ez]; exact no i i1 (by omega)
    · rw [e22 j (by omega) (by omega)]; exact c i j i1 i2 (by omega)
  · by_cases q : i = M 21 s
    · rw [q, ez]; exact hz
    · rw [e22 i i1 (by omega)]; exact d i i1 (by omega)
  · rw [tb_or, Bool.or_eq_true, f x x0 x1, tb_bit (by omega) (by omega), decide_eq_true_eq]
    constructor
    · rintro (⟨i, i1, i2, i3⟩ | q)
      · exact ⟨i, i1, by omega, by rw [e22 i i1 i2]; exact i3⟩
      · exact ⟨M 21 s, b.1, by omega, by rw [ez, q]⟩
    · rintro ⟨i, i1, i2, i3⟩
      by_cases q : i = M 21 s
      · rw [q, ez] at i3; exact Or.inr i3.symm
      · rw [e22 i i1 (by omega)] at i3; exact Or.inl ⟨i, i1, by omega, i3⟩
def KJ (M0 M : Mem) : Prop := FrR M0 M ∧ M 52 0 = 1 ∧ Good (M 0 0) M ∧ M0 0 0 ≤ M 0 0 ∧ Ag M0 M (M0 0 0)
theorem KJ.gs {M0 M N : Mem} (g : GS M N) (h : KJ M0 M) : KJ M0 N := by
  obtain ⟨a, b, c, d, e⟩ := h
  have g2 := g.2.1
  exact ⟨fun c i h1 h2 => (g.1 c i h1 (by omega)).trans (a c i h1 h2), (g.1 52 0 (by decide) (by decide)).trans b, g.2.2.2, by omega, e.trans (Int.le_refl _) (g.2.2.1.mono d)⟩
/-- columns that belong to the games or to what a run keeps stay -/
theorem KJ.up {M0 M N : Mem} (h : KJ M0 M) (f : ∀ c i, (c < 29 ∨ c = 52 ∨ c = 62) → N c i = M c i) : KJ M0 N := by
  obtain ⟨a, b, c, d, e⟩ := h
  have ag : ∀ n, Ag M N n := fun n => Ag.of n (fun c i _ c2 => f c i (by omega))
  have e0 : N 0 0 = M 0 0 := f 0 0 (by omega)
  refine ⟨fun c i h1 h2 => (f c i (by omega)).trans (a c i h1 h2), (f 52 0 (by omega)).trans b, by rw [e0]; exact c.cg (ag _), by omega, e.trans (Int.le_refl _) (ag _)⟩
def J1 (M0 M : Mem) (o : Int) (b : Int → Int) (ys : List Int) : Prop := KJ M0 M ∧ (((M 53 0 = 0 ∧ (mkS ys → 0 ≤ M 54 0 ∧ M 54 0 < M 0 0)) ∧ ∃ lw rw0, (∀ i, 0 ≤ i → i < o → HdL M i lw rw0) ∧ Sim M0 M o b lw rw0 ys (M 54 0)) ∨ (M 53 0 = 1 ∧ Fai M0 o ys))
section GI
variable {u : Int → Int} {L : Int} {M0 : Mem}
theorem co_up {M N : Mem} {o : Int} {b : Int → Int} (h : Co u L M o b) (f : ∀ c i, (c = 23 ∨ c = 24 ∨ c = 48 ∨ c = 49) → N c i = M c i) : Co u L N o b := by
  obtain ⟨⟨a1, a2⟩, a3, a4, a5⟩ := h
  exact ⟨⟨fun i => (f 23 i (by omega)).trans (a1 i), (f 24 0 (by omega)).trans a2⟩, (f 48 0 (by omega)).trans a3, fun i i0 i1 => (f 49 i (by omega)).trans (a4 i i0 i1), a5⟩
theorem co_gs {M N : Mem} {o : Int} {b : Int → Int} (g : GS M N) (h : Co u L M o b) : Co u L N o b := co_up h (fun c i hc => g.1 c i (by omega) (by omega))
theorem fc_gs {M N : Mem} (g : GS M N) : FC M N := fun c i hc => g.1 c i (by omega) (by omega)
theorem FC.trans {M N K : Mem} (a : FC M N) (b : FC N K) : FC M K := fun c i h => (b c i h).trans (a c i h)
theorem ag_up {M N : Mem} (f : ∀ c i, c ≤ 15 → N c i = M c i) (n : Int) : Ag M N n := Ag.of n (fun c i _ c2 => f c i c2)
theorem m_gameIs {g : Gs} {ad : Nat → Nat} {M : Mem} {o z : Int} {b lw rw0 : Int → Int} {ys : List Int} (kj : KJ M0 M) (co : Co u L M o b) (ho : 0 ≤ o ∧ o ≤ 80) (h53 : M 53 0 = 0) (hd : ∀ i, 0 ≤ i → i < o → HdL M i lw rw0) (hz : (z = -1 ∧ Fai M0 o ys) ∨ ((0 ≤ z ∧ z < M 0 0) ∧ Sim M0 M o b (gvL o lw b z) (gvR o rw0 b z) ys z)) : SpV (wM g ad) yX10_gameIs cX10_gameIs 4 none 1 [.ref (ad 0), vI (z)] (M) (fun N => J1 M0 N o b ys ∧ Co u L N o b ∧ FC M N) := by
  have g40 := kj.2.2.1.2.1
  have zr : -1 ≤ z ∧ z < 40 := by
    rcases hz with ⟨q, -⟩ | ⟨q, -⟩ <;> omega
  intro l9 hl9
  refine ct_of hl9 mi_X10_gameIs.2.2.2 (Nat.le_of_ble_eq_true rfl) (fun X _ C Y => ?_)
  show E (wM g ad) X 0 0 (M) 0 [(0, .ref (ad 0)), (1, vI (z))] []
  refine e_wf (fun hw => ?_)
  rcases hz with ⟨zn, fa⟩ | ⟨zi, sm⟩
  · refine B_X10_gameIs_0 (by omega) (Nat.zero_le _) (Nat.zero_le _) C Y ⟨fun q => absurd h53 q, fun _ => ⟨fun q => absurd zn q, fun _ => ?_⟩⟩
    refine B_X10_gameIs_18 (by omega) (by omega) (Nat.zero_le _) (Nat.zero_le _) C Y ⟨Or.inr rfl, fun q => absurd q (by decide), fun _ => ⟨rfl, ⟨kj.up (fun c i hc => up_c (by omega)), Or.inr ⟨up_s _ _ _ _, fa⟩⟩, co_up co (fun c i hc => up_c (by omega)), fun c i hc => up_c (by omega)⟩⟩
  · refine B_X10_gameIs_0 (by omega) (Nat.zero_le _) (Nat.zero_le _) C Y ⟨fun q => absurd h53 q, fun _ => ⟨fun _ => ?_, fun q => absurd q (by omega)⟩⟩
    have fK : ∀ c i, c ≠ 53 → c ≠ 54 → (up (up M 53 0 0) 54 0 z) c i = M c i := fun c i h1 h2 => by rw [up_c h2, up_c h1]
    have k54 : (up (up M 53 0 0) 54 0 z) 54 0 = z := up_s _ _ _ _
    have k53 : (up (up M 53 0 0) 54 0 z) 53 0 = 0 := by rw [up_c (by decide), up_s]
    generalize hK : up (up M 53 0 0) 54 0 z = K at fK k54 k53
    have kjK : KJ M0 K := kj.up (fun c i hc => fK c i (by omega) (by omega))
    have coK : Co u L K o b := co_up co (fun c i hc => fK c i (by omega) (by omega))
    have smK : Sim M0 K o b (gvL o lw b z) (gvR o rw0 b z) ys z := sim_mem sm (fK 0 0 (by decide) (by decide)) (ag_up (fun c i hc => fK c i (by omega) (by omega)) _)
    have a3 := co.2.1
    have k5 : ∀ N : Mem, N 53 0 = 0 → N 54 0 = z → N 0 0 = M 0 0 → (N 53 0 = 0 ∧ (mkS ys → 0 ≤ N 54 0 ∧ N 54 0 < N 0 0)) := fun N e1 e2 e3 => ⟨e1, fun _ => by rw [e2, e3]; exact zi⟩
    have k5K := k5 K k53 k54 (fK 0 0 (by decide) (by decide))
    refine B_X10_gameIs_18 (by omega) (by omega) (Nat.zero_le _) (Nat.zero_le _) C Y ⟨Or.inl rfl, fun _ => ⟨fun q => ?_, fun q => ?_⟩, fun q => absurd rfl q⟩
    · rw [hK]
      exact ⟨rfl, ⟨kjK, Or.inl ⟨k5K, _, _, fun i i0 i1 => by omega, by rw [k54]; exact smK⟩⟩, coK, fun c i hc => fK c i (by omega) (by omega)⟩
    · rw [a3] at q ⊢
      have e49 : M 49 (o - 1) = b (o - 1) := co.2.2.1 _ (by omega) (by omega)
      have s01 := co.2.2.2 (o - 1) (by omega) (by omega)
      rw [e49, hK]
      generalize hs : b (o - 1) = s at s01
      have h0 := hd (o - 1) (by omega) (by omega)
      -- the row of this level and side
      have dr : DrfJ (vLv lw rw0 (o - 1)) (vRw M (o - 1)) s := by
        rcases s01 with e | e
        · rw [e]; exact h0.1
        · rw [e]; exact h0.2
      have c50 : vRw M (o - 1) 21 s = M 50 (2 * (o - 1) + s) := rfl
      have c51 : ∀ k, vRw M (o - 1) 22 (4 * s + k) = M 51 (4 * (2 * (o - 1) + s) + k) := fun k => by
        show M 51 (8 * (o - 1) + (4 * s + k)) = _
        rw [show 8 * (o - 1) + (4 * s + k) = 4 * (2 * (o - 1) + s) + k by omega]
      have cr := dr.2.1
      rw [c50] at cr
      -- the words behind the gift
      have gl : ∀ i, i ≠ o - 1 → gvL o lw b z i = lw i ∧ gvR o rw0 b z i = rw0 i := fun i e => by
        unfold gvL gvR; rw [if_neg (fun w => e w.1), if_neg (fun w => e w.1)]; exact ⟨rfl, rfl⟩
      have vr0 : ∀ (X : Mem) (i : Int), vRw X i 0 0 = X 0 0 := fun _ _ => rfl
      have vr50 : ∀ (X : Mem) (i j : Int), vRw X i 21 j = X 50 (2 * i + j) := fun _ _ _ => rfl
      have vr51 : ∀ (X : Mem) (i j : Int), vRw X i 22 j = X 51 (8 * i + j) := fun _ _ _ => rfl
      have v0 : ∀ (f h : Int → Int) (i : Int), vLv f h i 1 0 = f i := fun _ _ _ => rfl
      have v1 : ∀ (f h : Int → Int) (i : Int), vLv f h i 1 1 = h i := fun _ _ _ => rfl
      have gs : vLv (gvL o lw b z) (gvR o rw0 b z) (o - 1) 1 s = lorL (vLv lw rw0 (o - 1) 1 s) (lshlL 1 z) := by
        rcases s01 with e | e
        · rw [e, v0, v0, gvL, if_pos ⟨rfl, by omega, by omega⟩]
        · rw [e, v1, v1, gvR, if_pos ⟨rfl, by omega, by omega⟩]
      have go : ∀ t, t = 1 - s → vLv (gvL o lw b z) (gvR o rw0 b z) (o - 1) 1 t = vLv lw rw0 (o - 1) 1 t := fun t et => by
        rcases s01 with e | e
        · rw [show t = 1 by omega, v1, v1, gvR, if_neg (by omega)]
        · rw [show t = 0 by omega, v0, v0, gvL, if_neg (by omega)]
      have both : ∀ N : Mem, DrfJ (vLv (gvL o lw b z) (gvR o rw0 b z) (o - 1)) (vRw N (o - 1)) s → DrfJ (vLv (gvL o lw b z) (gvR o rw0 b z) (o - 1)) (vRw N (o - 1)) (1 - s) → HdL N (o - 1) (gvL o lw b z) (gvR o rw0 b z) := by
        intro N d1 d2
        rcases s01 with e | e
        · subst e; exact ⟨d1, d2⟩
        · subst e; exact ⟨d2, d1⟩
      have hoth : DrfJ (vLv lw rw0 (o - 1)) (vRw M (o - 1)) (1 - s) := by
        rcases s01 with e | e
        · subst e; exact h0.2
        · subst e; exact h0.1
      have lower : ∀ N : Mem, N 0 0 = M 0 0 → (∀ i, i < 2 * (o - 1) → N 50 i = M 50 i) → (∀ i, i < 8 * (o - 1) → N 51 i = M 51 i) → ∀ i, 0 ≤ i → i < o - 1 → HdL N i (gvL o lw b z) (gvR o rw0 b z) := by
        intro N n0 n50 n51 i i0 i1
        have hh := hd i i0 (by omega)
        have ge := gl i (by omega)
        have cg : ∀ t, (t = 0 ∨ t = 1) → DrfJ (vLv lw rw0 i) (vRw M i) t → DrfJ (vLv (gvL o lw b z) (gvR o rw0 b z) i) (vRw N i) t := by
          intro t ht h
          refine drf_cg2 h ?_ n0 (n50 _ (by omega)) (fun k k0 k1 => n51 _ (by omega))
          unfold vLv
          rw [ge.1, ge.2]
        exact ⟨cg 0 (Or.inl rfl) hh.1, cg 1 (Or.inr rfl) hh.2⟩
      have f50 : ∀ i, K 50 i = M 50 i := fun i => fK 50 i (by decide) (by decide)
      have f51 : ∀ i, K 51 i = M 51 i := fun i => fK 51 i (by decide) (by decide)
      have lp : ∀ (m : Nat) (j : Int), 0 ≤ j → j + m = M 50 (2 * (o - 1) + s) → (∀ i, 0 ≤ i → i < j → M 51 (4 * (2 * (o - 1) + s) + i) ≠ z) → E (wM g ad) X 0 0 (K) 64 [(0, .ref (ad 0)), (1, vI (z)), (2, vI (2 * (o - 1) + s)), (3, vI (j))] [] := by
        intro m
        induction m with
        | zero =>
          intro j j0 hm no
          refine B_X10_gameIs_64 (by omega) (by omega) (by omega) (Nat.zero_le _) (Nat.zero_le _) C Y ?_
          rw [f50]
          refine ⟨by omega, fun _ => ⟨fun c4 => ⟨⟨by omega, by omega, by omega, by omega⟩, rfl, ⟨kjK.up (fun c i hc => by rw [up_c (by omega), up_c (by omega)]), Or.inl ⟨k5 _ (by rw [up_c (by decide), up_c (by decide)]; exact k53) (by rw [up_c (by decide), up_c (by decide)]; exact k54) (by rw [up_c (by decide), up_c (by decide)]; exact fK 0 0 (by decide) (by decide)), gvL o lw b z, gvR o rw0 b z, fun i i0 i1 => ?_, ?_⟩⟩, co_up coK (fun c i hc => by rw [up_c (by omega), up_c (by omega)]), fun c i hc => by rw [up_c (by omega), up_c (by omega)]; exact fK c i (by omega) (by omega)⟩, fun c4 => ⟨rfl, ⟨kjK.up (fun c i hc => up_c (by omega)), Or.inr ⟨up_s _ _ _ _, ?_⟩⟩, co_up coK (fun c i hc => up_c (by omega)), fun c i hc => by rw [up_c (by omega)]; exact fK c i (by omega) (by omega)⟩⟩, fun q => absurd q (by omega)⟩
          · by_cases e : i = o - 1
            · subst e
              refine both _ ?_ ?_
              · refine drf_add dr g40 zi (by rw [c50]; omega) (fun k k0 k1 => by rw [c51]; exact no k k0 (by rw [c50] at k1; omega)) gs ?_ ?_ ?_ (fun k k0 k1 => ?_)
                · rw [vr0, vr0, up_c (by decide), up_c (by decide)]; exact fK 0 0 (by decide) (by decide)
                · rw [vr50, vr50, up_s]
                · rw [vr50, vr51, up_c (by decide), show 8 * (o - 1) + (4 * s + M 50 (2 * (o - 1) + s)) = 4 * (2 * (o - 1) + s) + M 50 (2 * (o - 1) + s) by omega, up_s]
                · rw [c50] at k1
                  rw [vr51, vr51, up_c (by decide), up_i (by omega)]; exact f51 _
              · refine drf_cg2 hoth (go _ rfl) ?_ ?_ (fun k k0 k1 => ?_)
                · rw [vr0, vr0, up_c (by decide), up_c (by decide)]; exact fK 0 0 (by decide) (by decide)
                · rw [vr50, vr50, up_i (by omega), up_c (by decide)]; exact f50 _
                · rw [vr51, vr51, up_c (by decide), up_i (by omega)]; exact f51 _
            · refine lower _ ?_ (fun k hk => ?_) (fun k hk => ?_) i i0 (by omega)
              · rw [up_c (by decide), up_c (by decide)]; exact fK 0 0 (by decide) (by decide)
              · rw [up_i (by omega), up_c (by decide)]; exact f50 _
              · rw [up_c (by decide), up_i (by omega)]; exact f51 _
          · rw [up_c (by decide), up_c (by decide), k54]
            exact sim_mem smK (by rw [up_c (by decide), up_c (by decide)]) (ag_up (fun c i hc => by rw [up_c (by omega), up_c (by omega)]) _)
          · -- a fifth option
            intro l0 r0 b0 zs r G' dp hB
            obtain ⟨G, lw', rw', bb, z', b1, b2, b3, b4⟩ := smK l0 r0 b0 zs r G' hB
            have wd0 : WdS (M 0 0) o lw rw0 := fun i i0 i1 => ⟨(hd i i0 i1).1.1, (hd i i0 i1).2.1⟩
            have wd1 : WdS (M 0 0) o (gvL o lw b z) (gvR o rw0 b z) := wd0.gv ⟨Int.le_refl _, g40⟩ zi (Int.le_refl _)
            have eG : G 0 0 = M 0 0 := b1.1.trans (fK 0 0 (by decide) (by decide))
            have hG : Good (G 0 0) G := by rw [b1.1]; exact kjK.2.2.1.cg b1.2
            have tbn : tb (vLv lw rw0 (o - 1) 1 s) z = false := by
              cases q9 : tb (vLv lw rw0 (o - 1) 1 s) z with
              | false => rfl
              | true =>
                obtain ⟨i, i0, i1, i2⟩ := (dr.2.2.2.2 z zi.1 (by omega)).mp q9
                rw [c51] at i2
                rw [c50] at i1
                exact absurd i2 (no i i0 (by omega))
            have sz : siz (vLv lw rw0 (o - 1) 1 s) = M 50 (2 * (o - 1) + s) := dr.siz g40
            have sz2 : siz (vLv (gvL o lw b z) (gvR o rw0 b z) (o - 1) 1 s) = 5 := by
              rw [gs, (siz_or dr.1 zi g40).2 tbn, sz]; omega
            refine bd_doom zs b4 hG dp ?_ (j := o - 1) (by omega) (by omega) ?_
            · rw [eG]
              intro i i0 i1
              rw [(b2 i i0 i1).1, (b2 i i0 i1).2.1]
              exact wd1 i i0 i1
            · have bo := b2 (o - 1) (by omega) (by omega)
              rw [bo.1, bo.2.1]
              rcases s01 with e | e
              · left
                have : vLv (gvL o lw b z) (gvR o rw0 b z) (o - 1) 1 s = gvL o lw b z (o - 1) := by unfold vLv; rw [if_pos rfl, if_pos e]
                rw [← this, sz2]; decide
              · right
                have : vLv (gvL o lw b z) (gvR o rw0 b z) (o - 1) 1 s = gvR o rw0 b z (o - 1) := by unfold vLv; rw [if_pos rfl, if_neg (by omega)]
                rw [← this, sz2]; decide
        | succ m ih =>
          intro j j0 hm no
          refine B_X10_gameIs_64 (by omega) (by omega) (by omega) (Nat.zero_le _) (Nat.zero_le _) C Y ?_
          rw [f50, f51]
          refine ⟨by omega, fun q9 => absurd q9 (by omega), fun _ => ⟨by omega, fun ne => ⟨by omega, ih (j + 1) (by omega) (by omega) (fun i i0 i1 => ?_)⟩, fun eq => ⟨rfl, ⟨kjK, Or.inl ⟨k5K, gvL o lw b z, gvR o rw0 b z, fun i i0 i1 => ?_, by rw [k54]; exact smK⟩⟩, coK, fun c i hc => fK c i (by omega) (by omega)⟩⟩⟩
          · by_cases e : i = j
            · rw [e]; exact ne
            · exact no i i0 (by omega)
          · by_cases e : i = o - 1
            · subst e
              have tbt : tb (vLv lw rw0 (o - 1) 1 s) z = true := (dr.2.2.2.2 z zi.1 (by omega)).mpr ⟨j, j0, by rw [c50]; omega, by rw [c51]; exact eq⟩
              refine both K ?_ ?_
              · exact drf_cg2 dr (by rw [gs]; exact (siz_or dr.1 zi g40).1 tbt) (fK 0 0 (by decide) (by decide)) (f50 _) (fun k k0 k1 => f51 _)
              · exact drf_cg2 hoth (go _ rfl) (fK 0 0 (by decide) (by decide)) (f50 _) (fun k k0 k1 => f51 _)
            · exact lower K (fK 0 0 (by decide) (by decide)) (fun k hk => f50 _) (fun k hk => f51 _) i i0 (by omega)
      exact ⟨⟨by omega, by omega, by omega, by omega⟩, lp (M 50 (2 * (o - 1) + s)).toNat 0 (by omega) (by omega) (fun i i0 i1 => by omega)⟩
end GI
