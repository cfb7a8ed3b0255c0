/-! ===== the reference: closes; read ===== -/
def CkI (M1 V T : Mem) (k0 k1 : Int) : Prop := (∀ c i, c ≠ 29 → c ≠ 30 → c ≠ 31 → T c i = M1 c i) ∧ T 29 0 = 0 ∧ Srt T 0 ∧ Srt T 1 ∧ (∀ x, InR T 0 x ↔ thR V 0 x k0) ∧ ∀ x, InR T 1 x ↔ thR V 1 x k1
theorem mc_37 {g : Gs} {ad : Nat → Nat} {X : Cx} {PQ : Option Value → Mem → Prop} {PX : String → Mem → Prop} (C : OkB (wM g ad) X cX10_closes RX10 3 7 0 0) (Y : OkR (wM g ad) X (some .int) 0 0 PQ PX) {M1 V W : Mem} {p s : Int} (hp : 0 ≤ p ∧ p < 80) (h48 : M1 48 0 = p) (hs : s = 0 ∨ s = 1) (d : DrfJ W V s) (hn : V 0 0 ≤ 40) (e21 : ∀ t, V 21 t = M1 50 (2 * p + t)) (e22 : ∀ j, V 22 j = M1 51 (8 * p + j)) (kk : ∀ T, CkI M1 V T (V 21 0) (if s = 0 then 0 else V 21 1) → E (wM g ad) X 0 0 (T) 30 [(0, .ref (ad 0)), (1, vI (s + 1))] []) : ∀ (m : Nat) (k : Int), 0 ≤ k → k + m = V 21 s → ∀ T, CkI M1 V T (if s = 0 then k else V 21 0) (if s = 0 then 0 else k) → E (wM g ad) X 0 0 (T) 37 [(0, .ref (ad 0)), (1, vI (s)), (2, vI (k))] [] := by
  have hd4 := d.2.1
  have es := e21 s
  intro m
  induction m with
  | zero =>
    intro k k1 k2 T hT
    have e48 : T 48 0 = p := (hT.1 48 0 (by decide) (by decide) (by decide)).trans h48
    have e50 : T 50 (2 * p + s) = V 21 s := (hT.1 50 _ (by decide) (by decide) (by decide)).trans es.symm
    refine B_X10_closes_37 (by omega) (by omega) (Nat.zero_le _) (Nat.zero_le _) C Y ?_
    rw [e48, e50]
    refine ⟨by omega, fun c => ⟨by omega, kk T ?_⟩, fun c => absurd c (by omega)⟩
    rcases hs with rfl | rfl
    · simp only [if_true] at hT ⊢
      rw [show V 21 0 = k by omega]; exact hT
    · simp only [if_false, (show ¬ ((1 : Int) = 0) by decide)] at hT ⊢
      rw [show V 21 1 = k by omega]; exact hT
  | succ m ih =>
    intro k k1 k2 T hT
    obtain ⟨t1, t2, t3, t4, t5, t6⟩ := hT
    have e48 : T 48 0 = p := (t1 48 0 (by decide) (by decide) (by decide)).trans h48
    have e50 : T 50 (2 * p + s) = V 21 s := (t1 50 _ (by decide) (by decide) (by decide)).trans es.symm
    have e51 : T 51 (4 * (2 * p + s) + k) = V 22 (4 * s + k) := by
      rw [t1 51 _ (by decide) (by decide) (by decide), e22, show 4 * (2 * p + s) + k = 8 * p + (4 * s + k) by omega]
    have rg := d.2.2.2.1 k k1 (by omega)
    have cnt : T 30 s = k := by
      rcases hs with rfl | rfl
      · exact row_cn d hn ⟨k1, by omega⟩ t3 (by simpa using t5)
      · exact row_cn d hn ⟨k1, by omega⟩ t4 (by simpa using t6)
    have hsr : Srt T s := by rcases hs with rfl | rfl; exact t3; exact t4
    refine B_X10_closes_37 (by omega) (by omega) (Nat.zero_le _) (Nat.zero_le _) C Y ?_
    rw [e48, e50, e51]
    refine ⟨by omega, fun c => absurd c (by omega), fun c => ⟨by omega, ?_⟩⟩
    refine ⟨_, g_takes (by omega) (by omega) hsr, fun N hN => ⟨by omega, ih (k + 1) (by omega) (by omega) N ?_⟩⟩
    obtain ⟨q1, q2, q3, q4, q5⟩ := tk_in hs hN (by omega) t2 t3 t4
    refine ⟨fun c i h1 h2 h3 => (hN.1 c i h1 h2 h3).trans (t1 c i h1 h2 h3), q1, q2, q3, fun x => ?_, fun x => ?_⟩
    · rcases hs with rfl | rfl
      · simp only [if_true] at t5 ⊢
        rw [q4, t5, thR_s k1]
      · simp only [if_false, (show ¬ ((1 : Int) = 0) by decide)] at t5 ⊢
        rw [← t5]; exact q5 x
    · rcases hs with rfl | rfl
      · simp only [if_true] at t6 ⊢
        rw [← t6]; exact q5 x
      · simp only [if_false, (show ¬ ((1 : Int) = 0) by decide)] at t6 ⊢
        rw [q4, t6, thR_s k1]
section H2
variable {u : Int → Int} {L : Int} {M0 : Mem}
theorem m_closes1 {g : Gs} {ad : Nat → Nat} {M : Mem} {o : Int} {b : Int → Int} {ys : List Int} (co : Co u L M o b) (ho : 1 ≤ o ∧ o ≤ 80) (hJ : J1 M0 M o b ys) : SpI (wM g ad) yX10_closes cX10_closes 3 (some .int) 7 [.ref (ad 0)] (M) (fun r N => r = 3 ∧ J1 M0 N (o - 1) b (ys ++ [102]) ∧ Co u L N (o - 1) b ∧ FC M N) := by
  obtain ⟨kj, hJ⟩ := hJ
  have k52 := kj.2.1
  have hM := kj.2.2.1
  have a3 := co.2.1
  have co1 : Co u L (up M 48 0 (o - 1)) (o - 1) b := by
    obtain ⟨⟨a1, a2⟩, a3, a4, a5⟩ := co
    exact ⟨⟨fun i => by rw [up_c (by decide)]; exact a1 i, by rw [up_c (by decide)]; exact a2⟩, up_s _ _ _ _, fun i i0 i1 => by rw [up_c (by decide)]; exact a4 i i0 (by omega), fun i i0 i1 => a5 i i0 (by omega)⟩
  have kj1 : KJ M0 (up M 48 0 (o - 1)) := kj.up (fun c i hc => up_c (by omega))
  have fc1 : FC M (up M 48 0 (o - 1)) := fun c i hc => up_c (by omega)
  intro l9 hl9
  refine ct_of hl9 mi_X10_closes.2.2.2 (Nat.le_of_ble_eq_true rfl) (fun X _ C Y => ?_)
  show E (wM g ad) X 0 0 (M) 0 [(0, .ref (ad 0))] []
  refine e_wf (fun hw => ?_)
  rcases hJ with ⟨⟨h53, -⟩, lw, rw0, hd, sm⟩ | ⟨h53, fa⟩
  · refine B_X10_closes_0  (Nat.zero_le _) (Nat.zero_le _) C Y ⟨by omega, fun q => absurd q (by omega), fun _ => ⟨fun q => absurd h53 q, fun _ => ?_⟩⟩
    rw [a3]
    generalize hM1 : up M 48 0 (o - 1) = M1 at co1 kj1 fc1
    have f1 : ∀ c i, c ≠ 48 → M1 c i = M c i := fun c i h => by rw [← hM1, up_c h]
    have hG1 := kj1.2.2.1
    have m0 : M1 0 0 = M 0 0 := f1 0 0 (by decide)
    have h0 := hd (o - 1) (by omega) (by omega)
    have n40 : vRw M (o - 1) 0 0 ≤ 40 := by show M 0 0 ≤ 40; exact hM.2.1
    have e21 : ∀ t, vRw M (o - 1) 21 t = M1 50 (2 * (o - 1) + t) := fun t => (f1 50 _ (by decide)).symm
    have e22 : ∀ j, vRw M (o - 1) 22 j = M1 51 (8 * (o - 1) + j) := fun j => (f1 51 _ (by decide)).symm
    have c0 := h0.1.2.1
    have c1 := h0.2.2.1
    refine ⟨_, g_begins, fun T hT => ?_⟩
    obtain ⟨b1, b2, b3, b4⟩ := hT
    have srt0 : ∀ s, T 30 s = 0 → Srt T s := fun s q => ⟨by omega, fun i j i1 i2 i3 => by omega⟩
    refine B_X10_closes_30 (by omega) (Nat.zero_le _) (Nat.zero_le _) C Y ⟨fun c => absurd c (by decide), fun c => ?_⟩
    refine mc_37 C Y (p := o - 1) (by omega) co1.2.1 (s := 0) (Or.inl rfl) h0.1 n40 e21 e22 (fun T1 h1 => ?_) (vRw M (o - 1) 21 0).toNat 0 (by omega) (by omega) T ⟨fun c i q1 q2 q3 => b1 c i q1 q2, b2, srt0 0 b3, srt0 1 b4, fun x => ⟨fun ⟨i, i1, i2, _⟩ => by omega, fun ⟨i, i1, i2, _⟩ => by simp at i2; omega⟩, fun x => ⟨fun ⟨i, i1, i2, _⟩ => by omega, fun ⟨i, i1, i2, _⟩ => by simp at i2; omega⟩⟩
    refine B_X10_closes_30 (by omega) (Nat.zero_le _) (Nat.zero_le _) C Y ⟨fun c => absurd c (by decide), fun c => ?_⟩
    refine mc_37 C Y (p := o - 1) (by omega) co1.2.1 (s := 1) (Or.inr rfl) h0.2 n40 e21 e22 (fun T2 h2 => ?_) (vRw M (o - 1) 21 1).toNat 0 (by omega) (by omega) T1 (by simpa using h1)
    have h2 : CkI M1 (vRw M (o - 1)) T2 (vRw M (o - 1) 21 0) (vRw M (o - 1) 21 1) := by simpa using h2
    obtain ⟨t1, t2, t3, t4, t5, t6⟩ := h2
    have ok : NwOk T2 (M1 0 0) := by
      refine ⟨hG1.cg (Ag.of _ (fun c i c1 c2 => t1 c i (by omega) (by omega) (by omega))), t1 0 0 (by decide) (by decide) (by decide), t3, t4, fun s s1 s2 i i1 i2 => ?_⟩
      rw [m0]
      rcases (show s = 0 ∨ s = 1 by omega) with rfl | rfl
      · obtain ⟨j, j1, j2, j3⟩ := (t5 _).mp ⟨i, i1, i2, rfl⟩
        rw [← j3]; exact h0.1.2.2.2.1 j j1 j2
      · obtain ⟨j, j1, j2, j3⟩ := (t6 _).mp ⟨i, i1, i2, rfl⟩
        rw [← j3]; exact h0.2.2.2.2.1 j j1 j2
    have wl : Wd40 (lw (o - 1)) (M1 0 0) := by rw [m0]; exact h0.1.1
    have wr : Wd40 (rw0 (o - 1)) (M1 0 0) := by rw [m0]; exact h0.2.1
    refine B_X10_closes_30 (by omega) (Nat.zero_le _) (Nat.zero_le _) C Y ⟨fun c => ⟨_, g_made ok, fun z N hN => ?_⟩, fun c => absurd c (by decide)⟩
    obtain ⟨w, gs, zr, zi⟩ := md_G hG1 t1 ok wl wr t2 (fun x x0 x1 => (t5 x).trans (h0.1.2.2.2.2 x x0 x1).symm) (fun x x0 x1 => (t6 x).trans (h0.2.2.2.2.2 x x0 x1).symm) hN
    have n53 : N 53 0 = 0 := (gs.1 53 0 (by decide) (by decide)).trans ((f1 53 0 (by decide)).trans h53)
    have sm1 : Sim M0 M1 o b lw rw0 ys (M 54 0) := sim_mem sm m0 (ag_up (fun c i hc => f1 c i (by omega)) _)
    have sc := sim_c ho.1 hG1 sm1 wl wr w
    have hdN : ∀ i, 0 ≤ i → i < o - 1 → HdL N i lw rw0 := fun i i0 i1 => by
      have hh := hd i i0 (by omega)
      have h1 : HdL M1 i lw rw0 := ⟨drf_cg2 hh.1 rfl m0 (f1 50 _ (by decide)) (fun k _ _ => f1 51 _ (by decide)), drf_cg2 hh.2 rfl m0 (f1 50 _ (by decide)) (fun k _ _ => f1 51 _ (by decide))⟩
      exact h1.gs gs
    refine ⟨by omega, _, m_gameIs (kj1.gs gs) (co_gs gs co1) (by omega) n53 hdN (ys := ys ++ [102]) ?_, fun P hP => ⟨3, rfl, rfl, hP.1, hP.2.1, fc1.trans ((fc_gs gs).trans hP.2.2)⟩⟩
    by_cases q : z = -1
    · exact Or.inl ⟨q, sc.1 q⟩
    · exact Or.inr ⟨zi q, sc.2 q⟩
  · refine B_X10_closes_0  (Nat.zero_le _) (Nat.zero_le _) C Y ⟨by omega, fun q => absurd q (by omega), fun _ => ⟨fun _ => ?_, fun q => absurd q (by omega)⟩⟩
    rw [a3]
    exact ⟨3, rfl, rfl, ⟨kj1, Or.inr ⟨by rw [up_c (by decide)]; exact h53, fai_c fa⟩⟩, co1, fc1⟩
theorem hk_1 {g : Gs} {ad : Nat → Nat} : HK g ad u L (J1 M0) := by
  refine ⟨fun M N o b ys h f => ?_, fun M o b ys co ho h => ?_, fun M o b ys co ho h => ?_, fun M o b ys co ho h => m_closes1 co ho h, fun M o b ys x f co ho h hx sg => m_numberIs1 co ho h hx sg, fun M o b ys k co ho h hx => m_nameIs1 co ho h hx⟩
  · have fx : ∀ c i, (c < 44 ∨ (47 < c ∧ c < 55) ∨ 58 < c) → N c i = M c i := fun c i q => f c i (by omega) (by omega) (by omega) (by omega) (by omega) (by omega) (by omega) (by omega)
    refine ⟨h.1.up (fun c i hc => fx c i (by omega)), ?_⟩
    rw [fx 53 0 (by omega), fx 54 0 (by omega), fx 0 0 (by omega)]
    rcases h.2 with ⟨h53, lw, rw0, hd, sm⟩ | h9
    · exact Or.inl ⟨h53, lw, rw0, fun i i0 i1 => ⟨drf_cg2 (hd i i0 i1).1 rfl (fx 0 0 (by omega)) (fx 50 _ (by omega)) (fun k _ _ => fx 51 _ (by omega)), drf_cg2 (hd i i0 i1).2 rfl (fx 0 0 (by omega)) (fx 50 _ (by omega)) (fun k _ _ => fx 51 _ (by omega))⟩, sim_mem sm (fx 0 0 (by omega)) (ag_up (fun c i hc => fx c i (by omega)) _)⟩
    · exact Or.inr h9
  · have fx : ∀ c i, c ≠ 48 → c ≠ 49 → c ≠ 50 → opM M o c i = M c i := fun c i h1 h2 h3 => by unfold opM; rw [up_c h1, up_c h3, up_c h3, up_c h2]
    have f50 : ∀ i, i ≠ 2 * o → i ≠ 2 * o + 1 → opM M o 50 i = M 50 i := fun i h1 h2 => by unfold opM; rw [up_c (by decide), up_i h2, up_i h1, up_c (by decide)]
    refine ⟨h.1.up (fun c i hc => fx c i (by omega) (by omega) (by omega)), ?_⟩
    rw [fx 53 0 (by decide) (by decide) (by decide), fx 54 0 (by decide) (by decide) (by decide), fx 0 0 (by decide) (by decide) (by decide)]
    rcases h.2 with ⟨h53, lw, rw0, hd, sm⟩ | h9
    · refine Or.inl ⟨⟨h53.1, fun q => h53.2 (mk_app (Or.inl rfl) q)⟩, stA lw o 0, stA rw0 o 0, fun i i0 i1 => ?_, sim_mem (sim_o sm) (fx 0 0 (by decide) (by decide) (by decide)) (ag_up (fun c i hc => fx c i (by omega) (by omega) (by omega)) _)⟩
      by_cases e : i = o
      · subst e
        have v : ∀ s, vLv (stA lw i 0) (stA rw0 i 0) i 1 s = 0 := fun s => by
          unfold vLv stA
          rw [if_pos rfl, if_pos rfl, if_pos rfl]
          split <;> rfl
        refine ⟨drf_0 (v 0) ?_, drf_0 (v 1) ?_⟩
        · show opM M i 50 (2 * i + 0) = 0
          unfold opM; rw [up_c (by decide), up_i (by omega), Int.add_zero, up_s]
        · show opM M i 50 (2 * i + 1) = 0
          unfold opM; rw [up_c (by decide), up_s]
      · have hh := hd i i0 (by omega)
        have v : ∀ s, vLv (stA lw o 0) (stA rw0 o 0) i 1 s = vLv lw rw0 i 1 s := fun s => by
          unfold vLv stA
          rw [if_neg e, if_neg e]
        exact ⟨drf_cg2 hh.1 (v 0) (fx 0 0 (by decide) (by decide) (by decide)) (f50 _ (by omega) (by omega)) (fun k _ _ => fx 51 _ (by decide) (by decide) (by decide)), drf_cg2 hh.2 (v 1) (fx 0 0 (by decide) (by decide) (by decide)) (f50 _ (by omega) (by omega)) (fun k _ _ => fx 51 _ (by decide) (by decide) (by decide))⟩
    · exact Or.inr ⟨h9.1, fai_o h9.2⟩
  · have fx : ∀ c i, c ≠ 49 → up M 49 (o - 1) 1 c i = M c i := fun c i h1 => up_c h1
    refine ⟨h.1.up (fun c i hc => fx c i (by omega)), ?_⟩
    rw [fx 53 0 (by decide), fx 54 0 (by decide), fx 0 0 (by decide)]
    rcases h.2 with ⟨h53, lw, rw0, hd, sm⟩ | h9
    · exact Or.inl ⟨⟨h53.1, fun q => h53.2 (mk_app (Or.inr rfl) q)⟩, lw, rw0, fun i i0 i1 => ⟨drf_cg2 (hd i i0 i1).1 rfl (fx 0 0 (by decide)) (fx 50 _ (by decide)) (fun k _ _ => fx 51 _ (by decide)), drf_cg2 (hd i i0 i1).2 rfl (fx 0 0 (by decide)) (fx 50 _ (by decide)) (fun k _ _ => fx 51 _ (by decide))⟩, sim_mem (sim_b ho.1 sm) (fx 0 0 (by decide)) (ag_up (fun c i hc => fx c i (by omega)) _)⟩
    · exact Or.inr ⟨h9.1, fai_b h9.2⟩
end H2
/-- what the reference's reading made, told by every run of the builder -/
def RdS (M S : Mem) (xs : List Int) (z : Int) : Prop := FrR M S ∧ (M 0 0 ≤ S 0 0 ∧ Ag M S (M 0 0)) ∧ (∀ l0 r0 b0 r1 G', BdR xs M 0 l0 r0 b0 (-1) r1 G' → r1 = z ∧ (z ≠ -1 → G' 0 0 = S 0 0 ∧ Ag S G' (S 0 0)))
theorem m_goes1 {g : Gs} {ad : Nat → Nat} {M K : Mem} {xs : List Int} (hG : Good (M 0 0) M) (hL : 0 ≤ M 24 0 ∧ M 24 0 ≤ 80) (hK : ∀ c i, (c < 44 ∨ 58 < c) → c ≠ 20 → K c i = M c i) (hx : Rn (fun i => M 23 i) (M 24 0) 0 0 (fun _ => 0) 0 (-1) xs) : SpI (wM g ad) yX10_goes cX10_goes 4 (some .int) 12 [.ref (ad 0), vI (1)] (K) (fun r N => R32 r ∧ ∃ z, RdS M N xs z ∧ R32 z ∧ ((N 53 0 = 0 ∧ z = N 54 0) ∨ (N 53 0 ≠ 0 ∧ z = -1))) := by
  have k24 : K 24 0 = M 24 0 := hK 24 0 (by omega) (by decide)
  have ms := ms_0 hL.1
  have wf := rn_wf hL.2 ms (fun q => absurd q (by decide)) hx
  have fK : ∀ c i, (c < 44 ∨ 58 < c) → c ≠ 20 → (up (up (up (up K 52 0 1) 53 0 0) 48 0 0) 45 0 0) c i = M c i := fun c i h1 h2 => by rw [up_c (by omega), up_c (by omega), up_c (by omega), up_c (by omega)]; exact hK c i h1 h2
  refine (m_goes (hk_1 (M0 := M)) hL (Or.inr rfl) (fun i => hK 23 i (by omega) (by decide)) k24 ?_).mono (fun r N hN => ?_)
  · have e0 : (up (up (up (up K 52 0 1) 53 0 0) 48 0 0) 45 0 0) 0 0 = M 0 0 := fK 0 0 (by omega) (by decide)
    have ag : ∀ n, Ag M (up (up (up (up K 52 0 1) 53 0 0) 48 0 0) 45 0 0) n := fun n => Ag.of n (fun c i _ c2 => fK c i (by omega) (by omega))
    refine ⟨⟨fun c i h1 h2 => fK c i (by omega) (by omega), by rw [up_c (by decide), up_c (by decide), up_c (by decide), up_s], by rw [e0]; exact hG.cg (ag _), by omega, ag _⟩, Or.inl ⟨⟨by rw [up_c (by decide), up_c (by decide), up_s], fun q => ?_⟩, fun _ => 0, fun _ => 0, fun i i0 i1 => by omega, fun l0 r0 b0 zs r G' q => ⟨M, l0, r0, b0, -1, ⟨e0.symm, by rw [e0]; exact (ag _).symm⟩, fun i i0 i1 => by omega, fun q => ?_, q⟩⟩⟩
    · obtain ⟨x, x1, -⟩ := q; cases x1
    · obtain ⟨x, x1, -⟩ := q; cases x1
  · obtain ⟨h1, ys, o, b, h2, h3, h4⟩ := hN
    obtain ⟨e1, e2⟩ := rn_uq hx ms (fun _ _ _ => rfl) h2
    subst e2
    have o0 := h4 e1.symm
    subst o0
    obtain ⟨kj, hJ⟩ := h3
    have g40 := kj.2.2.1.2.1
    refine ⟨h1, ?_⟩
    have mk := wf.2 (by decide) (by decide)
    rcases hJ with ⟨⟨h53, h54⟩, lw, rw0, -, sm⟩ | ⟨h53, fa⟩
    · have z4 := h54 mk
      refine ⟨N 54 0, ⟨kj.1, ⟨kj.2.2.2.1, kj.2.2.2.2⟩, fun l0 r0 b0 r1 G' q => ?_⟩, by omega, Or.inl ⟨h53, rfl⟩⟩
      obtain ⟨G, lw', rw', bb, z', a1, -, a3, a4⟩ := sm l0 r0 b0 [] r1 G' (by rw [List.append_nil]; exact q)
      obtain ⟨c1, c2⟩ := a4
      rw [c1, c2, a3 mk]
      exact ⟨rfl, fun _ => a1⟩
    · refine ⟨-1, ⟨kj.1, ⟨kj.2.2.2.1, kj.2.2.2.2⟩, fun l0 r0 b0 r1 G' q => ⟨fa l0 r0 b0 [] r1 G' rfl (by rw [List.append_nil]; exact q), fun w => absurd rfl w⟩⟩, by decide, Or.inr ⟨by omega, rfl⟩⟩
theorem rn_len {u : Int → Int} {L w o : Int} {b : Int → Int} {e f : Int} {xs : List Int} (h : Rn u L w o b e f xs) (ms : Ms L w o e) : (xs.length : Int) ≤ 5 * (L - e) := by
  obtain ⟨n, h⟩ := h
  induction n generalizing w o b e xs with
  | zero => have := ms.2.2.2; rw [h.2.2]; simp; omega
  | succ n ih =>
    rcases h.cs with ⟨h1, h2, h3⟩ | ⟨h1, h2, h3⟩ | ⟨h1, w1, o1, b1, e1, ys, zs, k1, hk1, h2, h3, h4⟩
    · have := ms.2.2.2; rw [h3]; simp; omega
    · have := ms.2.2.2; rw [h3]; simp; omega
    · have ek : k1 = n := by omega
      subst ek
      have m2 := (rd_ms ms h1).2 _ _ _ _ _ h2
      have i := ih m2.1 h3
      rw [h4, List.length_append]
      have := m2.2.2.2.1
      omega
theorem bd_r : ∀ (xs : List Int) {G G' : Mem} {o o' z r : Int} {lw rw0 bb : Int → Int}, BdR xs G o lw rw0 bb z r G' → Good (G 0 0) G → Wf xs o o' → -1 ≤ z ∧ z < 40 → -1 ≤ r ∧ r < 40 := by
  intro xs
  induction xs with
  | nil => intro G G' o o' z r lw rw0 bb h hG _ hz; rw [h.1]; exact hz
  | cons x xs ih =>
    intro G G' o o' z r lw rw0 bb h hG hw hz
    unfold Wf at hw
    by_cases q0 : x = 100
    · subst q0
      rw [if_pos rfl] at hw
      exact ih (bd_o.mp h) hG hw.2 hz
    · rw [if_neg q0] at hw
      by_cases q1 : x = 101
      · subst q1
        rw [if_pos rfl] at hw
        exact ih (bd_b.mp h) hG hw.2 hz
      · rw [if_neg q1] at hw
        by_cases q2 : x = 102
        · subst q2
          rw [if_pos rfl] at hw
          obtain ⟨z1, G1, h1, h2⟩ := bd_c.mp h
          have s := cmp_st hG h1
          rcases h2 with ⟨-, hr, -⟩ | ⟨-, h2⟩
          · omega
          · exact ih h2 s.2.2.1 hw.2 s.2.2.2.2
        · rw [if_neg q2] at hw
          obtain ⟨z1, G1, h1, h2⟩ := (bd_n hw.1).mp h
          have s := num_st hG h1
          rcases h2 with ⟨-, hr, -⟩ | ⟨-, h2⟩
          · omega
          · exact ih h2 s.2.2.1 hw.2.2 s.2.2.2.2
def ReaR (M : Mem) : Int → Int → Mem → Prop := fun k r N => (∃ f xs, Rn (fun i => M 23 i) (M 24 0) 0 0 (fun _ => 0) 0 f xs ∧ f ≠ -1 ∧ k = 1 ∧ ∀ c i, (c < 44 ∨ 58 < c) → c ≠ 20 → N c i = M c i) ∨ (∃ xs S z, Rn (fun i => M 23 i) (M 24 0) 0 0 (fun _ => 0) 0 (-1) xs ∧ RdS M S xs z ∧ EndR S (M 0 0) z 2 k r N)
theorem m_read {g : Gs} {ad : Nat → Nat} {A M : Mem} (h : Jn A M) : SpI (wM g ad) yX10_read cX10_read 2 (some .int) 13 [.ref (ad 0)] (M) (fun r N => ReaR M (N 20 0) r N) := by
  have t := h.2.2.2.2.1
  have hn := h.n
  have p18 := h.2.2.1.1
  intro l9 hl9
  refine ct_of hl9 mi_X10_read.2.2.2 (Nat.le_of_ble_eq_true rfl) (fun X _ C Y => ?_)
  show E (wM g ad) X 0 0 (M) 0 [(0, .ref (ad 0))] []
  refine e_wf (fun hw => ?_)
  refine B_X10_read_0  (Nat.zero_le _) (Nat.zero_le _) C Y ⟨_, m_goes0 t.1, fun z K hK => ⟨hK.1, fun zn => ?_, fun zn => ?_⟩⟩
  · obtain ⟨xs, hx⟩ := hK.2.1
    refine B_X10_read_15 (by omega) (Nat.zero_le _) (Nat.zero_le _) C Y ⟨fun q => absurd (by decide) q, fun _ => ⟨0, rfl, Or.inl ⟨z, xs, hx, zn, up_s _ _ _ _, fun c i hc c20 => by rw [up_c c20]; exact hK.2.2 c i hc⟩⟩⟩
  · obtain ⟨xs, hx⟩ := hK.2.1
    rw [zn] at hx
    have k0 : K 0 0 = M 0 0 := hK.2.2 0 0 (by omega)
    refine B_X10_read_15 (by omega) (Nat.zero_le _) (Nat.zero_le _) C Y ⟨fun _ => ⟨_, m_goes1 (M := M) hn.2.2.2 t.1 (fun c i hc c20 => by rw [up_c c20]; exact hK.2.2 c i hc) hx, fun y S hS => ⟨hS.1, ?_⟩⟩, fun q => absurd q (by decide)⟩
    obtain ⟨-, z2, rs, zr, hz⟩ := hS
    have s18 : S 18 0 = M 18 0 := rs.1 18 0 (by decide) (by decide)
    rw [k0]
    have en : ∀ v : Int, v = z2 → ∃ Q10 : Int → Mem → Prop, SpI (wM g ad) yX10_ends cX10_ends 4 (some .int) 2 [.ref (ad 0), vI (M 0 0), vI (v), vI (2)] (S) (Q10) ∧ ∀ (z11 : Int) (M9 : Mem), Q10 z11 M9 → R32 z11 ∧ ∃ z : Int, some (vI z11) = some (vI z) ∧ ReaR M (M9 20 0) z M9 := by
      intro v ev
      rw [ev]
      exact ⟨_, m_ends (by omega) zr (by decide) (by omega), fun r N hN => ⟨hN.2, r, rfl, Or.inr ⟨xs, S, z2, hx, rs, hN.1⟩⟩⟩
    refine ⟨fun q => ?_, fun q => ?_⟩
    · rcases hz with ⟨-, hz⟩ | ⟨hz, -⟩
      · exact en _ hz.symm
      · exact absurd q hz
    · rcases hz with ⟨hz, -⟩ | ⟨-, hz⟩
      · exact absurd hz q
      · exact en _ hz.symm
theorem x_read {g : Gs} {ad : Nat → Nat} {sk : (Nat → Nat) × (Nat → Nat)} {A M : Mem} (h : Jn A M) : SpT (wC g ad sk) yX9_read cX9_read 3 (some .int) 10 [.ref (ad 0)] (A) (fun r B => Res (ReaR M) 0 r B) (fun c B => (c = eIA ∧ Res (ReaR M) 1 0 B) ∨ (c = eIS ∧ Res (ReaR M) 2 0 B)) := by
  have t := h.2.2.2.2.1
  have hn := h.n
  have p18 := h.2.2.1
  have ms := ms_0 t.1.1
  intro l9 hl9
  refine ct_of hl9 mi_X9_read.2.2.2 (Nat.le_of_ble_eq_true rfl) (fun X _ C Y => ?_)
  show E (wC g ad sk) X 0 0 (A) 0 [(0, .ref (ad 0))] []
  refine e_wf (fun hw => ?_)
  refine B_X9_read_0  (Nat.zero_le _) (Nat.zero_le _) C Y ⟨_, x_parse (by rw [t.2.1]; exact t.1), fun f A1 hA1 => ?_⟩
  obtain ⟨xs, h1, h2, h3⟩ := hA1
  have rr := rn_r h1 (ms_0 (by rw [t.2.1]; exact t.1.1))
  rw [t.2.1] at rr
  refine ⟨by have := t.1; omega, fun fn => ?_, fun fn => ⟨by omega, Or.inl ⟨rfl, fun k' r' N hN => ?_⟩⟩⟩
  · obtain ⟨s1, s2⟩ := h3 fn
    rw [fn] at h1
    have w1 : Wf xs 0 0 ∧ (xs.length : Int) ≤ 400 := by
      have h1' := h1
      rw [t.2.1] at h1'
      exact ⟨(rn_wf t.1.2 ms (fun q => absurd q (by decide)) h1').1, by have := rn_len h1' ms; have := t.1; omega⟩
    have a4 : A1 4 0 = M 0 0 := (h2 4 0 (by decide) (by decide) (by omega)).trans hn.1
    have hX : RepX M A1 (M 0 0) := h.1.cx (fun c i hc => h2 c i (by omega) (by omega) (by omega))
    have p18' := p18.1
    refine ⟨_, x_build hX w1.1 s1 w1.2 s2, fun z A2 hz => ?_⟩
    obtain ⟨G1, hB, hX2, fB⟩ := hz
    have ok := bd_ok xs hB hn.2.2.2 w1.1
    have hA : FrJ A A2 := fun c i hc => (fB c i (by omega)).trans (h2 c i (by omega) (by omega) (by omega))
    have h38 : A2 38 0 = M 18 0 := (hA 38 0 (by omega)).trans p18.2.1
    -- the reference's reading, against this one
    have key : ∀ k' r' N, ReaR M k' r' N → ∃ S, RdS M S xs z ∧ EndR S (M 0 0) z 2 k' r' N := by
      rintro k' r' N (⟨f', ys, q1, q2, -⟩ | ⟨ys, S, z', q1, q2, q3⟩)
      · exact absurd (rn_joint t h1 q1).1.symm q2
      · have e := (rn_joint t h1 q1).2
        rw [← e] at q2
        have ez := (q2.2.2 _ _ _ _ _ hB).1
        rw [ez]
        exact ⟨S, q2, q3⟩
    have zr : R32 z := by
      have := bd_r xs hB hn.2.2.2 w1.1 (by decide)
      omega
    rw [a4]
    refine ⟨zr, fun zn => ⟨_, x_save (by omega) (by omega), fun B hBs => ⟨z, rfl, fun k' r' N hN => ?_⟩⟩, fun zn => ⟨by omega, Or.inr ⟨rfl, fun k' r' N hN => ?_⟩⟩⟩
    · obtain ⟨S, rs, en⟩ := key k' r' N hN
      have g := (rs.2.2 _ _ _ _ _ hB).2 zn
      rcases en with ⟨w, -⟩ | ⟨-, rfl, rfl, sm⟩
      · exact absurd w zn
      · have fN : ∀ c i, c ≠ 18 → c ≠ 19 → c ≠ 20 → N c i = S c i := fun c i h1 h2 h3 => by rw [sm.1 c i h1 h2, up_c h3]
        have fBB : ∀ c i, c ≠ 38 → c ≠ 39 → B c i = A2 c i := fun c i h1 h2 => hBs.1 c i h1 h2
        have n0 : N 0 0 = G1 0 0 := (fN 0 0 (by decide) (by decide) (by decide)).trans g.1.symm
        have dr : ∀ s, DrfJ A M s → DrfJ B N s := fun s d => d.cg ((fBB 1 s (by decide) (by decide)).trans (hA 1 s (by omega))) ((fN 21 s (by decide) (by decide) (by decide)).trans (rs.1 21 s (by decide) (by decide))) (fun i => (fN 22 i (by decide) (by decide) (by decide)).trans (rs.1 22 i (by decide) (by decide))) (by omega)
        exact ⟨rfl, fun _ => rfl, end_ok h hX2 ok.1 hA g.1.symm (by rw [g.1]; exact g.2.symm) rs.1 (fun _ _ _ => rfl) hBs ⟨N, sm, fun _ _ _ => rfl⟩ ⟨dr 0 h.2.2.2.1.1, dr 1 h.2.2.2.1.2⟩⟩
    · obtain ⟨S, rs, en⟩ := key k' r' N hN
      rcases en with ⟨-, rfl, rfl⟩ | ⟨w, -⟩
      · exact ⟨rfl, fun q => absurd q (by decide), end_no h hX2 ok.1 hA rs.1 rs.2.1.2 ok.2.1 (up_s _ _ _ _) (fun c i h => up_c h) (up_s _ _ _ _) (fun c i h1 h2 => by rw [up_c h1, up_c h2])⟩
      · exact absurd zn w
  · rcases hN with ⟨f', ys, q1, q2, q3, q4⟩ | ⟨ys, S, z', q1, -⟩
    · exact ⟨q3, fun q => absurd q (by decide), (h.cgA (fun c i hc => h2 c i (by omega) (by omega) (by omega))).cgM (fun c i hc c20 => q4 c i (by omega) c20)⟩
    · exact absurd (rn_joint t h1 q1).1 fn
