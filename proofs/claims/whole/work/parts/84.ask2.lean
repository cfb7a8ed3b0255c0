/-! ===== compare, wall, component, played, written; text ===== -/
abbrev kGG (M : Mem) (z y : Int) : Int := if 0 ≤ z ∧ z < M 0 0 then (if 0 ≤ y ∧ y < M 0 0 then 0 else 1) else 1
/-- the table's word -/
abbrev cmV (M : Mem) (z y : Int) : Int := if M 12 (40 * z + y) = 1 then (if M 12 (40 * y + z) = 1 then 0 else 1) else (if M 12 (40 * y + z) = 1 then 2 else 3)
theorem Jn.al {A M : Mem} (h : Jn A M) {z y : Int} (hz : 0 ≤ z ∧ z < M 0 0) (hy : 0 ≤ y ∧ y < M 0 0) : (M 12 (40 * z + y) = 0 ∨ M 12 (40 * z + y) = 1) ∧ (hasB (A 5 z) y ↔ M 12 (40 * z + y) = 1) := by
  refine ⟨(or_al (gd_ord h.n.2.2.2) hz hy).1, ?_⟩
  rw [has_tb (by have := h.n; omega)]
  exact h.1.2.2.2.2 z y hz.1 hz.2 hy.1 hy.2
theorem m_compare {g : Gs} {ad : Nat → Nat} {A M : Mem} {z y : Int} (h : Jn A M) (hz : R32 z) (hy : R32 y) : SpI (wM g ad) yX10_compare cX10_compare 3 (some .int) 3 [.ref (ad 0), vI (z), vI (y)] (M) (fun r N => Ask M (kGG M z y) (cmV M z y) (N 20 0) r N) := by
  intro l9 hl9
  refine ct_of hl9 mi_X10_compare.2.2.2 (Nat.le_of_ble_eq_true rfl) (fun X _ C Y => ?_)
  show E (wM g ad) X 0 0 (M) 0 [(0, .ref (ad 0)), (1, vI (z)), (2, vI (y))] []
  refine e_wf (fun hw => ?_)
  have hn := h.n
  refine B_X10_compare_0 (by omega) (by omega) (Nat.zero_le _) (Nat.zero_le _) C Y ⟨by omega, fun c => ?_, fun c => ⟨fun c1 => ?_, fun c1 => ?_⟩⟩
  · refine B_X10_compare_22 (by omega) (by omega) (by omega) (Nat.zero_le _) (Nat.zero_le _) C Y ⟨fun q => absurd (by decide) q, fun _ => ⟨_, rfl, ?_⟩⟩
    rw [kGG, if_neg c]; exact ask_i (fun q => absurd q (by decide))
  · refine B_X10_compare_22 (by omega) (by omega) (by omega) (Nat.zero_le _) (Nat.zero_le _) C Y ⟨fun q => absurd (by decide) q, fun _ => ⟨_, rfl, ?_⟩⟩
    rw [kGG, if_pos c, if_neg c1]; exact ask_i (fun q => absurd q (by decide))
  · have a1 := (h.al c c1).1
    have a2 := (h.al c1 c).1
    refine B_X10_compare_22 (by omega) (by omega) (by omega) (Nat.zero_le _) (Nat.zero_le _) C Y ⟨fun _ => ⟨by omega, fun q => ⟨by omega, fun q2 => ⟨_, rfl, ?_⟩, fun q2 => ⟨_, rfl, ?_⟩⟩, fun q => ⟨by omega, fun q2 => ⟨_, rfl, ?_⟩, fun q2 => ⟨_, rfl, ?_⟩⟩⟩, fun q => absurd q (by decide)⟩
    all_goals rw [kGG, if_pos c, if_pos c1]; refine ask_i (fun _ => ?_)
    · rw [cmV, if_neg (by omega), if_neg (by omega)]
    · rw [cmV, if_neg (by omega), if_pos (by omega)]
    · rw [cmV, if_pos (by omega), if_neg (by omega)]
    · rw [cmV, if_pos (by omega), if_pos (by omega)]
theorem x_compare {g : Gs} {ad : Nat → Nat} {sk : (Nat → Nat) × (Nat → Nat)} {A M : Mem} {z y : Int} (h : Jn A M) (hz : R32 z) (hy : R32 y) : SpT (wC g ad sk) yX9_compare cX9_compare 5 (some .int) 2 [.ref (ad 0), vI (z), vI (y)] (A) (fun r B => Res (Ask M (kGG M z y) (cmV M z y)) 0 r B) (fun e B => e = eIO ∧ Res (Ask M (kGG M z y) (cmV M z y)) 1 0 B) := by
  intro l9 hl9
  refine ct_of hl9 mi_X9_compare.2.2.2 (Nat.le_of_ble_eq_true rfl) (fun X _ C Y => ?_)
  show E (wC g ad sk) X 0 0 (A) 0 [(0, .ref (ad 0)), (1, vI (z)), (2, vI (y))] []
  refine e_wf (fun hw => ?_)
  have hn := h.n
  refine B_X9_compare_0 (by omega) (by omega) (Nat.zero_le _) (Nat.zero_le _) C Y ⟨fun c => ⟨fun c1 => ⟨by omega, fun q => ⟨fun q2 => ⟨_, rfl, ?_⟩, fun q2 => ⟨_, rfl, ?_⟩⟩, fun q => ⟨fun q2 => ⟨_, rfl, ?_⟩, fun q2 => ⟨_, rfl, ?_⟩⟩⟩, fun c1 => ⟨by omega, rfl, ?_⟩⟩, fun c => ⟨by omega, rfl, ?_⟩⟩
  all_goals rw [hn.1] at c
  · rw [hn.1] at c1
    rw [(h.al c c1).2] at q; rw [(h.al c1 c).2] at q2
    rw [kGG, if_pos c, if_pos c1, cmV, if_neg q, if_neg q2]; exact res_ask h (fun _ => rfl)
  · rw [hn.1] at c1
    rw [(h.al c c1).2] at q; rw [(h.al c1 c).2] at q2
    rw [kGG, if_pos c, if_pos c1, cmV, if_neg q, if_pos q2]; exact res_ask h (fun _ => rfl)
  · rw [hn.1] at c1
    rw [(h.al c c1).2] at q; rw [(h.al c1 c).2] at q2
    rw [kGG, if_pos c, if_pos c1, cmV, if_pos q, if_neg q2]; exact res_ask h (fun _ => rfl)
  · rw [hn.1] at c1
    rw [(h.al c c1).2] at q; rw [(h.al c1 c).2] at q2
    rw [kGG, if_pos c, if_pos c1, cmV, if_pos q, if_pos q2]; exact res_ask h (fun _ => rfl)
  · rw [hn.1] at c1
    rw [kGG, if_pos c, if_neg c1]; exact res_ask h (fun q => absurd q (by decide))
  · rw [kGG, if_neg c]; exact res_ask h (fun q => absurd q (by decide))
theorem Jn.kW {A B M : Mem} (h : Jn A M) (f : WlK A B) : Jn B M := h.cgA (fun c i hc => f c i (by omega))
theorem m_wallAt {g : Gs} {ad : Nat → Nat} {A M : Mem} {z s t : Int} (h : Jn A M) (hz : 0 ≤ z ∧ z < M 0 0) (hs : 0 ≤ s ∧ s ≤ 1) (ht : 0 ≤ t ∧ t ≤ 100000) : SpI (wM g ad) yX10_wallAt cX10_wallAt 5 (some .int) 2 [.ref (ad 0), vI (z), vI (s), vI (t)] (M) (fun r N => r = WA M z s t ∧ N = M) := by
  intro l9 hl9
  refine ct_of hl9 mi_X10_wallAt.2.2.2 (Nat.le_of_ble_eq_true rfl) (fun X _ C Y => ?_)
  show E (wM g ad) X 0 0 (M) 0 [(0, .ref (ad 0)), (1, vI (z)), (2, vI (s)), (3, vI (t))] []
  refine e_wf (fun hw => ?_)
  have hn := h.n
  have hG := hn.2.2.2
  have e2 : Int.tdiv t 2 = t / 2 := Int.tdiv_eq_ediv_of_nonneg ht.1
  have e3 : Int.tmod t 2 = t % 2 := Int.tmod_eq_emod_of_nonneg ht.1
  refine B_X10_wallAt_0 (by omega) (by omega) (by omega) (Nat.zero_le _) (Nat.zero_le _) C Y ?_
  rw [e2, e3]
  refine ⟨fun c => ⟨fun c1 => ?_, fun c1 => ⟨by omega, _, rfl, ?_, rfl⟩⟩, fun c => ⟨by omega, _, rfl, ?_, rfl⟩⟩
  · have od := wa_od hG hz hs (k := t / 2) (by omega)
    have bd := wa_bd hG (z := z) (s := s) (t := t) hz hs ht.1
    rw [show 2 * (t / 2) + 1 = t by omega] at od
    refine ⟨⟨by omega, by omega, by omega, by show R32 (smpl M z s (t / 2) + smpl M z s (t / 2 + 1)); omega⟩, _, rfl, ?_, rfl⟩
    show Int.tdiv (smpl M z s (t / 2) + smpl M z s (t / 2 + 1)) 2 = _
    rw [← od, td2]
  · rw [WA, if_neg (by omega), if_pos c1]
  · rw [WA, if_pos (by omega)]
abbrev kWl (M : Mem) (z s t : Int) : Int := if 0 ≤ z ∧ z < M 0 0 then (if s = 0 ∨ s = 1 then (if 0 ≤ t ∧ t ≤ 100000 then 0 else 2) else 2) else 1
theorem m_wall {g : Gs} {ad : Nat → Nat} {A M : Mem} {z s t : Int} (h : Jn A M) (hz : R32 z) (hs : R32 s) (ht : R32 t) : SpI (wM g ad) yX10_wall cX10_wall 4 (some .int) 3 [.ref (ad 0), vI (z), vI (s), vI (t)] (M) (fun r N => Ask M (kWl M z s t) (WA M z s t) (N 20 0) r N) := by
  intro l9 hl9
  refine ct_of hl9 mi_X10_wall.2.2.2 (Nat.le_of_ble_eq_true rfl) (fun X _ C Y => ?_)
  show E (wM g ad) X 0 0 (M) 0 [(0, .ref (ad 0)), (1, vI (z)), (2, vI (s)), (3, vI (t))] []
  refine e_wf (fun hw => ?_)
  have hn := h.n
  refine B_X10_wall_0 (by omega) (by omega) (by omega) (Nat.zero_le _) (Nat.zero_le _) C Y ⟨by omega, fun c => ⟨fun c1 => ?_, fun c1 => ⟨fun c2 => ?_, fun c2 => ?_⟩⟩, fun c => ?_⟩
  · refine B_X10_wall_37 (by omega) (by omega) (by omega) (by omega) (Nat.zero_le _) (Nat.zero_le _) C Y ⟨fun q => absurd (by decide) q, fun _ => ⟨_, rfl, ?_⟩⟩
    rw [kWl, if_pos c, if_neg (by omega)]; exact ask_i (fun q => absurd q (by decide))
  · refine B_X10_wall_37 (by omega) (by omega) (by omega) (by omega) (Nat.zero_le _) (Nat.zero_le _) C Y ⟨fun _ => ⟨_, m_wallAt (h.r20 (v := 0)) (z := z) (s := s) (t := t) (by rw [up_c (by decide)]; exact c) c1 c2, fun r N hN => ?_⟩, fun q => absurd q (by decide)⟩
    obtain ⟨rfl, rfl⟩ := hN
    have e : WA (up M 20 0 0) z s t = WA M z s t := by unfold WA smpl; rw [up_c (by decide), up_c (by decide), up_c (by decide)]
    have bd := wa_bd hn.2.2.2 (z := z) (s := s) (t := t) c c1 c2.1
    rw [e]
    refine ⟨by omega, _, rfl, ?_⟩
    rw [kWl, if_pos c, if_pos (by omega), if_pos c2]; exact ask_i (fun _ => rfl)
  · refine B_X10_wall_37 (by omega) (by omega) (by omega) (by omega) (Nat.zero_le _) (Nat.zero_le _) C Y ⟨fun q => absurd (by decide) q, fun _ => ⟨_, rfl, ?_⟩⟩
    rw [kWl, if_pos c, if_pos (by omega), if_neg c2]; exact ask_i (fun q => absurd q (by decide))
  · refine B_X10_wall_37 (by omega) (by omega) (by omega) (by omega) (Nat.zero_le _) (Nat.zero_le _) C Y ⟨fun q => absurd (by decide) q, fun _ => ⟨_, rfl, ?_⟩⟩
    rw [kWl, if_neg c]; exact ask_i (fun q => absurd q (by decide))
theorem x_wall {g : Gs} {ad : Nat → Nat} {sk : (Nat → Nat) × (Nat → Nat)} {A M : Mem} {z s t : Int} (h : Jn A M) (hz : R32 z) (hs : R32 s) (ht : R32 t) : SpT (wC g ad sk) yX9_wall cX9_wall 4 (some .int) 4 [.ref (ad 0), vI (z), vI (s), vI (t)] (A) (fun r B => Res (Ask M (kWl M z s t) (WA M z s t)) 0 r B) (fun e B => (e = eIO ∧ Res (Ask M (kWl M z s t) (WA M z s t)) 1 0 B) ∨ (e = eIA ∧ Res (Ask M (kWl M z s t) (WA M z s t)) 2 0 B)) := by
  intro l9 hl9
  refine ct_of hl9 mi_X9_wall.2.2.2 (Nat.le_of_ble_eq_true rfl) (fun X _ C Y => ?_)
  show E (wC g ad sk) X 0 0 (A) 0 [(0, .ref (ad 0)), (1, vI (z)), (2, vI (s)), (3, vI (t))] []
  refine e_wf (fun hw => ?_)
  have hn := h.n
  refine B_X9_wall_0 (by omega) (by omega) (by omega) (Nat.zero_le _) (Nat.zero_le _) C Y ⟨fun c => ⟨fun c1 => ⟨fun c2 => ⟨by omega, Or.inr ⟨rfl, ?_⟩⟩, fun c2 => ⟨fun c3 => ⟨_, x_wallAt h.1 (by rw [← hn.1]; exact c) (by omega) (t := t) (by omega), fun r B hB => ⟨?_, _, rfl, ?_⟩⟩, fun c3 => ⟨by omega, Or.inr ⟨rfl, ?_⟩⟩⟩⟩, fun c1 => ⟨by omega, Or.inr ⟨rfl, ?_⟩⟩⟩, fun c => ⟨by omega, Or.inl ⟨rfl, ?_⟩⟩⟩
  all_goals rw [hn.1] at c
  · rw [kWl, if_pos c, if_pos c1, if_neg (by omega)]; exact res_ask h (fun q => absurd q (by decide))
  · have bd := wa_bd hn.2.2.2 (z := z) (s := s) (t := t) c (by omega) c2
    rw [hB.2]; omega
  · rw [kWl, if_pos c, if_pos c1, if_pos ⟨c2, c3⟩]; exact res_ask (h.kW hB.1) (fun _ => hB.2)
  · rw [kWl, if_pos c, if_pos c1, if_neg (by omega)]; exact res_ask h (fun q => absurd q (by decide))
  · rw [kWl, if_pos c, if_neg c1]; exact res_ask h (fun q => absurd q (by decide))
  · rw [kWl, if_neg c]; exact res_ask h (fun q => absurd q (by decide))
abbrev kC (M : Mem) (z : Int) : Int := if 0 ≤ z ∧ z < M 16 0 then 0 else 1
theorem m_component {g : Gs} {ad : Nat → Nat} {A M : Mem} {z : Int} (h : Jn A M) (hz : R32 z) : SpI (wM g ad) yX10_component cX10_component 2 (some .int) 3 [.ref (ad 0), vI (z)] (M) (fun r N => Ask M (kC M z) (M 17 z) (N 20 0) r N) := by
  intro l9 hl9
  refine ct_of hl9 mi_X10_component.2.2.2 (Nat.le_of_ble_eq_true rfl) (fun X _ C Y => ?_)
  show E (wM g ad) X 0 0 (M) 0 [(0, .ref (ad 0)), (1, vI (z))] []
  refine e_wf (fun hw => ?_)
  have hn := h.2.1.1
  refine B_X10_component_0 (by omega) (Nat.zero_le _) (Nat.zero_le _) C Y ⟨by omega, fun c => ?_, fun c => ?_⟩
  · refine B_X10_component_14 (by omega) (by omega) (Nat.zero_le _) (Nat.zero_le _) C Y ⟨fun c1 => absurd c1 (by decide), fun c1 => ⟨_, rfl, ?_⟩⟩
    rw [kC, if_neg c]; exact ask_i (fun q => absurd q (by decide))
  · refine B_X10_component_14 (by omega) (by omega) (Nat.zero_le _) (Nat.zero_le _) C Y ⟨fun c1 => ⟨by omega, _, rfl, ?_⟩, fun c1 => absurd c1 (by decide)⟩
    rw [kC, if_pos c]; exact ask_i (fun _ => rfl)
theorem x_component {g : Gs} {ad : Nat → Nat} {sk : (Nat → Nat) × (Nat → Nat)} {A M : Mem} {z : Int} (h : Jn A M) (hz : R32 z) : SpT (wC g ad sk) yX9_component cX9_component 2 (some .int) 2 [.ref (ad 0), vI (z)] (A) (fun r B => Res (Ask M (kC M z) (M 17 z)) 0 r B) (fun e B => e = eIO ∧ Res (Ask M (kC M z) (M 17 z)) 1 0 B) := by
  intro l9 hl9
  refine ct_of hl9 mi_X9_component.2.2.2 (Nat.le_of_ble_eq_true rfl) (fun X _ C Y => ?_)
  show E (wC g ad sk) X 0 0 (A) 0 [(0, .ref (ad 0)), (1, vI (z))] []
  refine e_wf (fun hw => ?_)
  have hn := h.2.1
  have h1 := hn.1
  refine B_X9_component_0 (by omega) (Nat.zero_le _) (Nat.zero_le _) C Y ⟨fun c => ⟨?_, _, rfl, ?_⟩, fun c => ⟨by omega, rfl, ?_⟩⟩
  all_goals rw [hn.2.1] at c
  · omega
  · rw [kC, if_pos c]; exact res_ask h (fun _ => hn.2.2.1 z c.1 (by omega))
  · rw [kC, if_neg c]; exact res_ask h (fun q => absurd q (by decide))
abbrev plV (M : Mem) (z : Int) : Int := if 0 ≤ z ∧ z < M 28 0 then M 27 z else -1
theorem m_played {g : Gs} {ad : Nat → Nat} {A M : Mem} {z : Int} (h : Jn A M) (hz : R32 z) : SpI (wM g ad) yX10_played cX10_played 2 (some .int) 2 [.ref (ad 0), vI (z)] (M) (fun r N => Ask M 0 (plV M z) (N 20 0) r N) := by
  intro l9 hl9
  refine ct_of hl9 mi_X10_played.2.2.2 (Nat.le_of_ble_eq_true rfl) (fun X _ C Y => ?_)
  show E (wM g ad) X 0 0 (M) 0 [(0, .ref (ad 0)), (1, vI (z))] []
  refine e_wf (fun hw => ?_)
  have hn := h.2.2.2.2.2.2
  have h1 := hn.1
  refine B_X10_played_0 (by omega) (Nat.zero_le _) (Nat.zero_le _) C Y ⟨by omega, fun c => ⟨_, rfl, ask_i (fun _ => ?_)⟩, fun c => ⟨by omega, _, rfl, ask_i (fun _ => ?_)⟩⟩
  · rw [plV, if_neg (by omega)]
  · rw [plV, if_pos (by omega)]
theorem x_played {g : Gs} {ad : Nat → Nat} {sk : (Nat → Nat) × (Nat → Nat)} {A M : Mem} {z : Int} (h : Jn A M) (hz : R32 z) : SpI (wC g ad sk) yX9_played cX9_played 2 (some .int) 1 [.ref (ad 0), vI (z)] (A) (fun r B => Res (Ask M 0 (plV M z)) 0 r B) := by
  intro l9 hl9
  refine ct_of hl9 mi_X9_played.2.2.2 (Nat.le_of_ble_eq_true rfl) (fun X _ C Y => ?_)
  show E (wC g ad sk) X 0 0 (A) 0 [(0, .ref (ad 0)), (1, vI (z))] []
  refine e_wf (fun hw => ?_)
  have hn := h.2.2.2.2.2.2
  have h1 := hn.1
  have h2 := hn.2.1
  refine B_X9_played_0 (by omega) (Nat.zero_le _) (Nat.zero_le _) C Y ⟨fun c => ⟨_, rfl, res_ask h (fun _ => ?_)⟩, fun c => ⟨fun c1 => ⟨_, rfl, res_ask h (fun _ => ?_)⟩, fun c1 => ⟨by omega, _, rfl, res_ask h (fun _ => ?_)⟩⟩⟩
  · rw [plV, if_neg (by omega)]
  · rw [plV, if_neg (by omega)]
  · rw [plV, if_pos (by omega)]; exact hn.2.2 z c (by omega)
abbrev wrV (M : Mem) (z : Int) : Int := if 0 ≤ z ∧ z < M 26 0 then M 62 z else -1
theorem m_written {g : Gs} {ad : Nat → Nat} {A M : Mem} {z : Int} (h : Jn A M) (hz : R32 z) : SpI (wM g ad) yX10_written cX10_written 2 (some .int) 2 [.ref (ad 0), vI (z)] (M) (fun r N => Ask M 0 (wrV M z) (N 20 0) r N) := by
  intro l9 hl9
  refine ct_of hl9 mi_X10_written.2.2.2 (Nat.le_of_ble_eq_true rfl) (fun X _ C Y => ?_)
  show E (wM g ad) X 0 0 (M) 0 [(0, .ref (ad 0)), (1, vI (z))] []
  refine e_wf (fun hw => ?_)
  have hn := h.2.2.2.2.2.1
  have h1 := hn.1
  refine B_X10_written_0 (by omega) (Nat.zero_le _) (Nat.zero_le _) C Y ⟨by omega, fun c => ⟨_, rfl, ask_i (fun _ => ?_)⟩, fun c => ⟨by omega, _, rfl, ask_i (fun _ => ?_)⟩⟩
  · rw [wrV, if_neg (by omega)]
  · rw [wrV, if_pos (by omega)]
theorem x_written {g : Gs} {ad : Nat → Nat} {sk : (Nat → Nat) × (Nat → Nat)} {A M : Mem} {z : Int} (h : Jn A M) (hz : R32 z) : SpI (wC g ad sk) yX9_written cX9_written 2 (some .int) 1 [.ref (ad 0), vI (z)] (A) (fun r B => Res (Ask M 0 (wrV M z)) 0 r B) := by
  intro l9 hl9
  refine ct_of hl9 mi_X9_written.2.2.2 (Nat.le_of_ble_eq_true rfl) (fun X _ C Y => ?_)
  show E (wC g ad sk) X 0 0 (A) 0 [(0, .ref (ad 0)), (1, vI (z))] []
  refine e_wf (fun hw => ?_)
  have hn := h.2.2.2.2.2.1
  have h1 := hn.1
  have h2 := hn.2.1
  refine B_X9_written_0 (by omega) (Nat.zero_le _) (Nat.zero_le _) C Y ⟨fun c => ⟨_, rfl, res_ask h (fun _ => ?_)⟩, fun c => ⟨fun c1 => ⟨_, rfl, res_ask h (fun _ => ?_)⟩, fun c1 => ⟨by omega, _, rfl, res_ask h (fun _ => ?_)⟩⟩⟩
  · rw [wrV, if_neg (by omega)]
  · rw [wrV, if_neg (by omega)]
  · rw [wrV, if_pos (by omega)]; exact hn.2.2 z c (by omega)
/-! a change of text -/
theorem m_clearText {g : Gs} {ad : Nat → Nat} {A M : Mem} (h : Jn A M) : SpI (wM g ad) yX10_clearText cX10_clearText 2 (some .int) 1 [.ref (ad 0)] (M) (fun r N => r = M 24 0 ∧ N 20 0 = 0 ∧ N = up (up M 20 0 0) 24 0 0) := by
  intro l9 hl9
  refine ct_of hl9 mi_X10_clearText.2.2.2 (Nat.le_of_ble_eq_true rfl) (fun X _ C Y => ?_)
  show E (wM g ad) X 0 0 (M) 0 [(0, .ref (ad 0))] []
  refine e_wf (fun hw => ?_)
  exact B_X10_clearText_0  (Nat.zero_le _) (Nat.zero_le _) C Y ⟨_, rfl, rfl, by rw [up_c (by decide), up_s], rfl⟩
theorem Jn.txt {A B M N : Mem} (h : Jn A M) (ea : ∀ c i, c ≠ 23 → c ≠ 24 → B c i = A c i) (em : ∀ c i, c ≠ 20 → c ≠ 23 → c ≠ 24 → N c i = M c i) (ht : TxtJ B N) : Jn B N := by
  have e0 := em 0 0 (by decide) (by decide) (by decide)
  obtain ⟨a, b, c, ⟨d0, d1⟩, f, w, l⟩ := h
  refine ⟨?_, ?_, ?_, ⟨?_, ?_⟩, ht, ?_, ?_⟩
  · rw [e0]
    exact (a.cg (Ag.of _ (fun c i c1 c2 => em c i (by omega) (by omega) (by omega))) (e0.trans rfl)).cx (fun c i hc => ea c i (by omega) (by omega))
  · unfold TabJ at b ⊢
    simp only [e0, em 16 _ (by decide) (by decide) (by decide), em 17 _ (by decide) (by decide) (by decide), ea 10 _ (by decide) (by decide), ea 11 _ (by decide) (by decide)]
    exact b
  · unfold PstJ RowJ at c ⊢
    simp only [e0, em 18 _ (by decide) (by decide) (by decide), em 19 _ (by decide) (by decide) (by decide), ea 38 _ (by decide) (by decide), ea 39 _ (by decide) (by decide)]
    exact c
  · unfold DrfJ at d0 ⊢
    simp only [e0, em 21 _ (by decide) (by decide) (by decide), em 22 _ (by decide) (by decide) (by decide), ea 1 _ (by decide) (by decide)]
    exact d0
  · unfold DrfJ at d1 ⊢
    simp only [e0, em 21 _ (by decide) (by decide) (by decide), em 22 _ (by decide) (by decide) (by decide), ea 1 _ (by decide) (by decide)]
    exact d1
  · unfold WriJ at w ⊢
    simp only [em 26 _ (by decide) (by decide) (by decide), em 62 _ (by decide) (by decide) (by decide), ea 36 _ (by decide) (by decide), ea 37 _ (by decide) (by decide)]
    exact w
  · unfold LogJ at l ⊢
    simp only [em 28 _ (by decide) (by decide) (by decide), em 27 _ (by decide) (by decide) (by decide), ea 0 _ (by decide) (by decide), ea 3 _ (by decide) (by decide)]
    exact l
def ClT (M : Mem) : Int → Int → Mem → Prop := fun k' r' N => r' = M 24 0 ∧ k' = 0 ∧ N = up (up M 20 0 0) 24 0 0
theorem x_clearText {g : Gs} {ad : Nat → Nat} {sk : (Nat → Nat) × (Nat → Nat)} {A M : Mem} (h : Jn A M) : SpI (wC g ad sk) yX9_clearText cX9_clearText 2 (some .int) 1 [.ref (ad 0)] (A) (fun r B => Res (ClT M) 0 r B) := by
  intro l9 hl9
  refine ct_of hl9 mi_X9_clearText.2.2.2 (Nat.le_of_ble_eq_true rfl) (fun X _ C Y => ?_)
  show E (wC g ad sk) X 0 0 (A) 0 [(0, .ref (ad 0))] []
  refine e_wf (fun hw => ?_)
  refine B_X9_clearText_0  (Nat.zero_le _) (Nat.zero_le _) C Y ⟨_, rfl, ?_⟩
  rintro k' r' N ⟨rfl, rfl, rfl⟩
  refine ⟨rfl, fun _ => h.2.2.2.2.1.2.1.symm, h.txt (fun c i h1 h2 => up_c h1) (fun c i h1 h2 h3 => by rw [up_c h3, up_c h1]) ⟨by rw [up_s]; omega, by rw [up_s, up_s], fun i i1 i2 => ?_⟩⟩
  rw [up_s] at i2; omega
abbrev kT (M : Mem) (c : Int) : Int := if 32 ≤ c ∧ c ≤ 126 then (if M 24 0 = 80 then 2 else 0) else 1
def TyT (M : Mem) (c : Int) : Int → Int → Mem → Prop := fun k' r' N => k' = kT M c ∧ (kT M c = 0 → r' = M 24 0 + 1 ∧ N = up (up (up M 20 0 0) 23 (M 24 0) c) 24 0 (M 24 0 + 1)) ∧ (kT M c ≠ 0 → N = up M 20 0 (kT M c))
theorem m_type {g : Gs} {ad : Nat → Nat} {A M : Mem} {c : Int} (h : Jn A M) (hc : R32 c) : SpI (wM g ad) yX10_type cX10_type 2 (some .int) 2 [.ref (ad 0), vI (c)] (M) (fun r N => TyT M c (N 20 0) r N) := by
  intro l9 hl9
  refine ct_of hl9 mi_X10_type.2.2.2 (Nat.le_of_ble_eq_true rfl) (fun X _ C Y => ?_)
  show E (wM g ad) X 0 0 (M) 0 [(0, .ref (ad 0)), (1, vI (c))] []
  refine e_wf (fun hw => ?_)
  have h1 := h.2.2.2.2.1.1
  refine B_X10_type_0 (by omega) (Nat.zero_le _) (Nat.zero_le _) C Y ⟨fun q => ⟨fun q1 => ?_, fun q1 => ?_⟩, fun q => ?_⟩
  · have e : kT M c = 0 := by rw [kT, if_pos q, if_neg q1]
    refine B_X10_type_30 (by omega) (by omega) (Nat.zero_le _) (Nat.zero_le _) C Y ⟨fun _ => ⟨⟨by omega, by omega⟩, _, rfl, ?_⟩, fun w => absurd w (by decide)⟩
    exact ⟨by rw [e, up_c (by decide), up_c (by decide), up_s], fun _ => ⟨rfl, rfl⟩, fun w => absurd e w⟩
  · have e : kT M c = 2 := by rw [kT, if_pos q, if_pos q1]
    refine B_X10_type_30 (by omega) (by omega) (Nat.zero_le _) (Nat.zero_le _) C Y ⟨fun w => absurd (by decide) w, fun _ => ⟨_, rfl, by rw [e, up_s], fun w => absurd w (by omega), fun w => by rw [e]⟩⟩
  · have e : kT M c = 1 := by rw [kT, if_neg q]
    refine B_X10_type_30 (by omega) (by omega) (Nat.zero_le _) (Nat.zero_le _) C Y ⟨fun w => absurd (by decide) w, fun _ => ⟨_, rfl, by rw [e, up_s], fun w => absurd w (by omega), fun w => by rw [e]⟩⟩
theorem x_append8 {g : Gs} {ad : Nat → Nat} {sk : (Nat → Nat) × (Nat → Nat)} {A : Mem} {c : Int} (hc : 0 ≤ c ∧ c < 65536) (h : 0 ≤ A 23 0 ∧ A 23 0 < 80) : SpV (wC g ad sk) yX8_append cX8_append 2 none 1 [.ref (ad 5), vI (c)] (A) (fun B => B = up (up A 24 (A 23 0) c) 23 0 (A 23 0 + 1)) := by
  intro l9 hl9
  refine ct_of hl9 mi_X8_append.2.2.2 (Nat.le_of_ble_eq_true rfl) (fun X _ C Y => ?_)
  show E (wC g ad sk) X 0 0 (A) 0 [(0, .ref (ad 5)), (1, vI (c))] []
  refine e_wf (fun hw => ?_)
  exact B_X8_append_0 (by omega) (Nat.zero_le _) (Nat.zero_le _) C Y ⟨fun q => absurd q (by omega), fun q => ⟨by omega, rfl, rfl⟩⟩
theorem x_type {g : Gs} {ad : Nat → Nat} {sk : (Nat → Nat) × (Nat → Nat)} {A M : Mem} {c : Int} (h : Jn A M) (hc : R32 c) : SpT (wC g ad sk) yX9_type cX9_type 2 (some .int) 2 [.ref (ad 0), vI (c)] (A) (fun r B => Res (TyT M c) 0 r B) (fun e B => (e = eIA ∧ Res (TyT M c) 1 0 B) ∨ (e = eIS ∧ Res (TyT M c) 2 0 B)) := by
  intro l9 hl9
  refine ct_of hl9 mi_X9_type.2.2.2 (Nat.le_of_ble_eq_true rfl) (fun X _ C Y => ?_)
  show E (wC g ad sk) X 0 0 (A) 0 [(0, .ref (ad 0)), (1, vI (c))] []
  refine e_wf (fun hw => ?_)
  have ht := h.2.2.2.2.1
  have h1 := ht.1
  have h2 := ht.2.1
  have bad : ∀ k, k ≠ 0 → kT M c = k → Res (TyT M c) k 0 A := by
    intro k k0 e
    rintro k' r' N ⟨q1, q2, q3⟩
    exact ⟨q1.trans e, fun w => absurd w k0, by rw [q3 (by omega)]; exact h.r20⟩
  refine B_X9_type_0 (by omega) (Nat.zero_le _) (Nat.zero_le _) C Y ⟨fun q => ⟨by omega, Or.inl ⟨rfl, bad 1 (by decide) (by rw [kT, if_neg (by omega)])⟩⟩, fun q => ⟨fun q1 => ⟨fun q2 => ⟨by omega, _, x_append8 (by omega) (by omega), fun B hB => ⟨_, rfl, ?_⟩⟩, fun q2 => ⟨by omega, Or.inr ⟨rfl, bad 2 (by decide) (by rw [kT, if_pos (by omega), if_pos (by omega)])⟩⟩⟩, fun q1 => ⟨by omega, Or.inl ⟨rfl, bad 1 (by decide) (by rw [kT, if_neg (by omega)])⟩⟩⟩⟩
  subst hB
  rintro k' r' N ⟨q1, q3, -⟩
  have e : kT M c = 0 := by rw [kT, if_pos (by omega), if_neg (by omega)]
  obtain ⟨rfl, rfl⟩ := q3 e
  rw [e] at q1
  refine ⟨q1, fun _ => by rw [up_s]; omega, h.txt (fun c i k1 k2 => by rw [up_c k1, up_c k2]) (fun c i k1 k2 k3 => by rw [up_c k3, up_c k2, up_c k1]) ⟨by rw [up_s]; omega, by rw [up_s, up_s]; omega, fun i i1 i2 => ?_⟩⟩
  rw [up_s] at i2
  have ea : up (up A 24 (A 23 0) c) 23 0 (A 23 0 + 1) 24 i = up A 24 (A 23 0) c 24 i := up_c (by decide)
  have em : up (up (up M 20 0 0) 23 (M 24 0) c) 24 0 (M 24 0 + 1) 23 i = up (up M 20 0 0) 23 (M 24 0) c 23 i := up_c (by decide)
  rw [ea, em]
  by_cases ei : i = M 24 0
  · have e1 : up A 24 (A 23 0) c 24 i = c := by rw [show i = A 23 0 by omega]; exact up_s _ _ _ _
    have e2 : up (up M 20 0 0) 23 (M 24 0) c 23 i = c := by rw [ei]; exact up_s _ _ _ _
    rw [e1, e2]; exact ⟨rfl, by omega, by omega⟩
  · have e1 : up A 24 (A 23 0) c 24 i = A 24 i := up_i (by omega)
    have e2 : up (up M 20 0 0) 23 (M 24 0) c 23 i = M 23 i := (up_i ei).trans (up_c (by decide))
    rw [e1, e2]; exact ht.2.2 i i1 (by omega)
