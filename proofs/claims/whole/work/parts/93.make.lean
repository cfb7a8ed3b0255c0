/-! ===== number ===== -/
theorem FrR.r20 {M : Mem} {v : Int} : FrR M (up M 20 0 v) := fun c i _ h => up_c h.1
def NmR (M : Mem) (e : Int) : Int → Int → Mem → Prop := fun k r N => (¬ (-64 ≤ e ∧ e ≤ 64) ∧ k = 1 ∧ N = up M 20 0 1) ∨ ((-64 ≤ e ∧ e ≤ 64) ∧ ∃ z S, MnP (up M 20 0 0) (M 0 0) e z S ∧ EndR S (M 0 0) z 2 k r N)
theorem mnp_r {M N : Mem} {n e z : Int} (hn : 0 ≤ n ∧ n ≤ 40) (h : MnP M n e z N) : -1 ≤ z ∧ z < 40 := by
  rcases h with ⟨a, b, -⟩ | ⟨a, -⟩ | ⟨a, b, -⟩ <;> omega
theorem m_number {g : Gs} {ad : Nat → Nat} {A M : Mem} {e : Int} (h : Jn A M) (he : R32 e) : SpI (wM g ad) yX10_number cX10_number 3 (some .int) 7 [.ref (ad 0), vI (e)] (M) (fun r N => NmR M e (N 20 0) r N) := by
  intro l9 hl9
  refine ct_of hl9 mi_X10_number.2.2.2 (Nat.le_of_ble_eq_true rfl) (fun X _ C Y => ?_)
  show E (wM g ad) X 0 0 (M) 0 [(0, .ref (ad 0)), (1, vI (e))] []
  refine e_wf (fun hw => ?_)
  have hn := h.n
  have h' := h.r20 (v := 0)
  refine B_X10_number_0 (by omega) (Nat.zero_le _) (Nat.zero_le _) C Y ⟨fun c => ?_, fun c => ?_⟩
  · exact B_X10_number_17 (by omega) (by omega) (Nat.zero_le _) (Nat.zero_le _) C Y ⟨fun q => absurd (by decide) q, fun _ => ⟨_, rfl, Or.inl ⟨c, up_s _ _ _ _, rfl⟩⟩⟩
  · refine B_X10_number_17 (by omega) (by omega) (Nat.zero_le _) (Nat.zero_le _) C Y ⟨fun _ => ⟨_, g_madeNumber (n := M 0 0) (up_c (by decide)) (by have := h'.n.2.2.2; rw [up_c (by decide)] at this; exact this) c, fun z S hS => ?_⟩, fun q => absurd q (by decide)⟩
    have zr := mnp_r ⟨hn.2.1, hn.2.2.1⟩ hS
    have e18 : S 18 0 = M 18 0 := ((mnp_fr hS) 18 0 (by decide) (by decide)).trans (up_c (by decide))
    have p18 := h.2.2.1.1
    refine ⟨by omega, _, m_ends (by omega) (by omega) (by decide) (by omega), fun r N hN => ⟨hN.2, _, rfl, Or.inr ⟨c, z, S, hS, hN.1⟩⟩⟩
theorem num_le {G N : Mem} {n e z : Int} (hn : 0 ≤ n) (h : NumR G n e z N) : n ≤ N 0 0 ∧ Ag G N n ∧ (z = -1 → N 0 0 = n) := by
  rcases h with ⟨a, -, b, c, -⟩ | ⟨-, b, c, -⟩ | ⟨a, b, -, c⟩
  · exact ⟨by omega, c, fun _ => b⟩
  · exact ⟨by omega, c, fun _ => b⟩
  · exact ⟨by have := c.1; omega, c.2.2.1, fun q => by omega⟩
theorem cmp_le {G N : Mem} {n l r z : Int} (hn : 0 ≤ n) (h : CmpR G n l r z N) : n ≤ N 0 0 ∧ Ag G N n ∧ (z = -1 → N 0 0 = n) := by
  rcases h with ⟨-, b, c, -⟩ | ⟨a, -, b, c, -⟩ | ⟨a, -, -, -, -, d, -, -, c⟩
  · exact ⟨by omega, c, fun _ => b⟩
  · exact ⟨by omega, c, fun _ => b⟩
  · exact ⟨by have := c.1; omega, c.2.2.1, fun q => by omega⟩
/-- number made on both sides -/
theorem num_J {A M G1 A1 S : Mem} {e z z' : Int} (h : Jn A M) (hz : NumR M (M 0 0) e z G1) (hS : MnP (up M 20 0 0) (M 0 0) e z' S) : z = z' ∧ S 0 0 = G1 0 0 ∧ Ag G1 S (G1 0 0) ∧ FrR M S ∧ Ag M S (M 0 0) := by
  have hn := h.n
  have w1 := mnp_W (M := up M 20 0 0) (up_c (by decide)) hS
  have w2 : NumR M (M 0 0) e z' S := num_cg (Ag.of _ (fun c i c1 c2 => up_c (by omega))) w1
  obtain ⟨u1, u2, u3⟩ := num_uq hn.2.1 hz w2
  exact ⟨u1, u2.symm, u3, (FrR.r20).trans (mnp_fr hS), (num_le hn.2.1 w2).2.1⟩
theorem x_number {g : Gs} {ad : Nat → Nat} {sk : (Nat → Nat) × (Nat → Nat)} {A M : Mem} {e : Int} (h : Jn A M) (he : R32 e) : SpT (wC g ad sk) yX9_number cX9_number 4 (some .int) 5 [.ref (ad 0), vI (e)] (A) (fun r B => Res (NmR M e) 0 r B) (fun c B => (c = eIA ∧ Res (NmR M e) 1 0 B) ∨ (c = eIS ∧ Res (NmR M e) 2 0 B)) := by
  intro l9 hl9
  refine ct_of hl9 mi_X9_number.2.2.2 (Nat.le_of_ble_eq_true rfl) (fun X _ C Y => ?_)
  show E (wC g ad sk) X 0 0 (A) 0 [(0, .ref (ad 0)), (1, vI (e))] []
  refine e_wf (fun hw => ?_)
  have hn := h.n
  have bad : ¬ (-64 ≤ e ∧ e ≤ 64) → Res (NmR M e) 1 0 A := by
    intro q k' r' N hN
    rcases hN with ⟨-, rfl, rfl⟩ | ⟨w, -⟩
    · exact ⟨rfl, fun q => absurd q (by decide), h.r20⟩
    · exact absurd w q
  refine B_X9_number_0 (by omega) (Nat.zero_le _) (Nat.zero_le _) C Y ⟨fun c => ⟨by omega, Or.inl ⟨rfl, bad (by omega)⟩⟩, fun c => ⟨fun c1 => ⟨_, x_makeNumber h.1 ⟨c, c1⟩, fun z A1 hz => ?_⟩, fun c1 => ⟨by omega, Or.inl ⟨rfl, bad (by omega)⟩⟩⟩⟩
  obtain ⟨G1, hz, hX, hA⟩ := hz
  have le := num_le hn.2.1 hz
  have p18 := h.2.2.1
  have h38 : A1 38 0 = M 18 0 := (hA 38 0 (by omega)).trans p18.2.1
  have hzr : -1 ≤ z ∧ z < 40 := by rcases hz with ⟨a, b, -⟩ | ⟨a, -⟩ | ⟨a, b, -⟩ <;> omega
  refine ⟨by omega, fun c2 => ⟨_, x_save (by omega) (by have := p18.1; omega), fun B hB => ⟨_, rfl, ?_⟩⟩, fun c2 => ⟨by omega, Or.inr ⟨rfl, ?_⟩⟩⟩
  · rintro k' r' N (⟨w, -⟩ | ⟨-, z', S, hS, hE⟩)
    · exact absurd ⟨c, c1⟩ w
    · obtain ⟨rfl, s0, sag, sfr, sag2⟩ := num_J (A1 := A1) h hz hS
      rcases hE with ⟨w, -⟩ | ⟨-, rfl, rfl, sm⟩
      · exact absurd w c2
      · rw [hn.1] at hB
        have fN : ∀ c i, c ≠ 18 → c ≠ 19 → c ≠ 20 → N c i = S c i := fun c i h1 h2 h3 => by rw [sm.1 c i h1 h2, up_c h3]
        have fB : ∀ c i, c ≠ 38 → c ≠ 39 → B c i = A1 c i := fun c i h1 h2 => hB.1 c i h1 h2
        have n0 : N 0 0 = G1 0 0 := (fN 0 0 (by decide) (by decide) (by decide)).trans s0
        have dr : ∀ s, DrfJ A M s → DrfJ B N s := fun s d => d.cg ((fB 1 s (by decide) (by decide)).trans (hA 1 s (by omega))) ((fN 21 s (by decide) (by decide) (by decide)).trans (sfr 21 s (by decide) (by decide))) (fun i => (fN 22 i (by decide) (by decide) (by decide)).trans (sfr 22 i (by decide) (by decide))) (by omega)
        exact ⟨rfl, fun _ => rfl, end_ok h hX le.1 hA.j s0 sag sfr (fun _ _ _ => rfl) hB ⟨N, sm, fun _ _ _ => rfl⟩ ⟨dr 0 h.2.2.2.1.1, dr 1 h.2.2.2.1.2⟩⟩
  · rintro k' r' N (⟨w, -⟩ | ⟨-, z', S, hS, hE⟩)
    · exact absurd ⟨c, c1⟩ w
    · obtain ⟨rfl, s0, sag, sfr, sag2⟩ := num_J (A1 := A1) h hz hS
      rcases hE with ⟨-, rfl, rfl⟩ | ⟨w, -⟩
      · refine ⟨rfl, fun q => absurd q (by decide), end_no h hX le.1 hA.j sfr sag2 le.2.1 ?_ (fun _ _ _ => rfl) (up_s _ _ _ _) (fun c i h1 h2 => by rw [up_c h1, up_c h2])⟩
        rw [hX.1]; exact le.2.2 c2
      · exact absurd c2 w
