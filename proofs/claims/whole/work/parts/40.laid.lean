/-! ===== good games: a game that is laid is good ===== -/
/-- between edges that leave room lies a number of the grid -/
theorem room_ex {G : Mem} {z d : Int} (hd : 1 ≤ d ∧ d ≤ 6) (h : OpI G z d) (hb : OpB G z) (hr : roomE (loF G z) (upF G z)) : ∃ x, betE (loF G z) (upF G z) x ∧ 2 * un d ∣ x ∧ (-20480 ≤ x ∧ x ≤ 20480) := by
  have hu := un_r (d := d) (by omega)
  have d1 : 2 * un d ∣ 2 * un d := Int.dvd_refl _
  rcases lo_E hd h (hb 0 (by omega) (by omega)).1.1 with ⟨-, l⟩ | ⟨-, l1, l2, -⟩ <;> rcases up_E hd h (hb 1 (by omega) (by omega)).1.1 with ⟨-, r⟩ | ⟨-, r1, r2, -⟩
  · refine ⟨0, ?_, Int.dvd_zero _, by omega⟩
    rw [l, r]; unfold betE; simp only; omega
  · unfold Bd at r1
    refine ⟨(upF G z).1 - 2 * un d, ?_, Int.dvd_sub (dvd2 r2) d1, by omega⟩
    rw [l]; unfold betE; simp only; omega
  · unfold Bd at l1
    refine ⟨(loF G z).1 + 2 * un d, ?_, Int.dvd_add (dvd2 l2) d1, by omega⟩
    rw [r]; unfold betE; simp only; omega
  · unfold Bd at l1 r1
    rcases Int.lt_or_le (loF G z).1 (upF G z).1 with q | q
    · have := dvd_gap (u := 2 * (2 * un d)) (by omega) l2 r2 q
      refine ⟨(loF G z).1 + 2 * un d, ?_, Int.dvd_add (dvd2 l2) d1, by omega⟩
      unfold betE; omega
    · unfold roomE at hr
      refine ⟨(loF G z).1, ?_, dvd2 l2, by omega⟩
      unfold betE; omega
theorem smp_E {G : Mem} {z d v : Int} (hd : 1 ≤ d ∧ d ≤ 6) (h : OpI G z d) (hb : OpB G z) (hr : roomE (loF G z) (upF G z)) (hv : Smp (betE (loF G z) (upF G z)) v) : 2 * un d ∣ v ∧ Bd d v := by
  obtain ⟨x, hx, hxd, hxb⟩ := room_ex hd h hb hr
  refine ⟨?_, ?_⟩
  · rw [un_e (by omega)] at hxd ⊢
    exact smp_grid hv hx hxb (by omega) hxd
  · have hb1 := hv.1
    unfold Bd
    rcases lo_E hd h (hb 0 (by omega) (by omega)).1.1 with ⟨-, l⟩ | ⟨-, l1, l2, -⟩ <;> rcases up_E hd h (hb 1 (by omega) (by omega)).1.1 with ⟨-, r⟩ | ⟨-, r1, r2, -⟩
    · have := smp_abs (x := 0) hv (by rw [l, r]; unfold betE; simp only; omega) (by omega) (by omega)
      omega
    · unfold Bd at r1
      have := smp_abs (x := -(1024 * (8 + d))) hv (by rw [l]; unfold betE; simp only; omega) (by omega) (by omega)
      omega
    · unfold Bd at l1
      have := smp_abs (x := 1024 * (8 + d)) hv (by rw [r]; unfold betE; simp only; omega) (by omega) (by omega)
      omega
    · unfold Bd at l1 r1
      unfold betE at hb1
      omega
/-- the walls that were laid -/
def WlQ (G : Mem) (z : Int) : Prop := (G 6 z ≠ 0 ∧ ColdW G z) ∨
  (G 6 z = 0 ∧ ∀ j, 0 ≤ j → j < 7200 → txF G z 1 j < txF G z 0 j) ∨
  (G 6 z = 0 ∧ ∃ kt, 0 ≤ kt ∧ kt < 7200 ∧ txF G z 0 kt ≤ txF G z 1 kt ∧ (∀ j, 0 ≤ j → j < kt → txF G z 1 j < txF G z 0 j) ∧ G 13 z = txF G z 0 kt ∧ G 14 z = 2 * kt ∧ ∀ s j, 0 ≤ s → s ≤ 1 → 0 ≤ j → j < 7200 → smpl G z s j = if j < kt then txF G z s j else txF G z 0 kt)
theorem Bd.up {d x : Int} (h : Bd (d - 1) x) : Bd d x := by unfold Bd at *; omega
theorem opI_of {G : Mem} {z : Int} (hd : Dat G z) (h1 : G 1 z = 0) (hi : ∀ o, 0 ≤ o → o < z → 0 ≤ G 5 o ∧ Inv G o) : OpI G z (G 5 z) := by
  obtain ⟨hO, -, hdd, -, hk⟩ := hd
  obtain ⟨hk1, hk2, -⟩ := hk h1
  intro s s1 s2 i i1 i2
  have o1 := (hO.1 s s1 s2).2 i i1 i2
  have o2 := hO.2 s s1 s2 i i1 i2
  have od : G 5 (opt G z s i) < G 5 z := hk2 s s1 s2 i i1 i2
  obtain ⟨od0, v1, v2, v3, -, v5, v6⟩ := hi (opt G z s i) o1.1 o2
  have e : un (G 5 z - 1) = 2 * un (G 5 z) := un_s (by omega)
  refine ⟨?_, ?_, fun r j r1 r2 j1 j2 => ?_, v5, v6⟩
  · rw [← e]; exact CL.mono (G 5 z - 1 - G 5 (opt G z s i)).toNat _ _ od0 (by omega) (by omega) v1
  · rw [← e]; exact CR.mono (G 5 z - 1 - G 5 (opt G z s i)).toNat _ _ od0 (by omega) (by omega) v2
  · have := v3 r j r1 r2 j1 j2
    unfold Bd at *
    omega
theorem good_of {G : Mem} {z : Int} (hz : 0 ≤ z ∧ z < 40) (hd : Dat G z) (hb1 : G 1 z = 0 ∨ G 1 z = 1) (hi : ∀ o, 0 ≤ o → o < z → 0 ≤ G 5 o ∧ Inv G o)
    (hV : ValE (loF G z) (upF G z) (G 1 z) (G 2 z) (G 6 z) (G 7 z) (G 8 z) (G 9 z) (G 10 z) (G 11 z))
    (hA : ∀ h, 0 ≤ h → h ≤ z → ((G 12 (40 * z + h) = 0 ∨ G 12 (40 * z + h) = 1) ∧ (G 12 (40 * h + z) = 0 ∨ G 12 (40 * h + z) = 1)) ∧ (G 12 (40 * z + h) = 1 ↔ ALf G z h) ∧ (G 12 (40 * h + z) = 1 ↔ ALf G h z)) (hW : WlQ G z) : GG G z := by
  have hd0 := hd
  obtain ⟨hO, hso, hdd, hnum, hcomp⟩ := hd0
  have hu := un_r hdd
  have hV0 := hV
  obtain ⟨v0, v1, v2, v3, v4⟩ := hV0
  rcases v0 with hc | hc
  · -- hot
    have h1 : G 1 z = 0 := Classical.byContradiction fun q => by have := (v1 q).1; omega
    obtain ⟨hc1, hc2, -⟩ := hcomp h1
    have hI := opI_of hd h1 hi
    have hnr : ¬ roomE (loF G z) (upF G z) := fun q => by have := (v2 h1).1.mpr q; omega
    obtain ⟨w1, w2, w3, w4, w5⟩ := v4 hc
    have kl : (1 ≤ G 3 (2 * z + 0) ∧ 1 ≤ G 3 (2 * z + 1)) ∧ (Bd (G 5 z - 1) (loF G z).1 ∧ (loF G z).1 = txF G z 0 0 ∧ CL (txF G z 0) (2 * un (G 5 z)) ∧ ∀ k, 0 ≤ k → k < 7200 → Bd (G 5 z - 1) (txF G z 0 k + 2 * k)) ∧ (Bd (G 5 z - 1) (upF G z).1 ∧ (upF G z).1 = txF G z 1 0 ∧ CR (txF G z 1) (2 * un (G 5 z)) ∧ ∀ k, 0 ≤ k → k < 7200 → Bd (G 5 z - 1) (txF G z 1 k - 2 * k)) := by
      rcases lo_E (by omega) hI (hO.1 0 (by omega) (by omega)).1.1 with ⟨-, l⟩ | ⟨l0, l1, -, l3⟩ <;> rcases up_E (by omega) hI (hO.1 1 (by omega) (by omega)).1.1 with ⟨-, r⟩ | ⟨r0, r1, -, r3⟩
      · exact absurd (show roomE (loF G z) (upF G z) by rw [l, r]; unfold roomE; simp only; omega) hnr
      · exact absurd (show roomE (loF G z) (upF G z) by unfold Bd at r1; rw [l]; unfold roomE; simp only; omega) hnr
      · exact absurd (show roomE (loF G z) (upF G z) by unfold Bd at l1; rw [r]; unfold roomE; simp only; omega) hnr
      · exact ⟨⟨l0, r0⟩, ⟨l1, l3⟩, r1, r3⟩
    obtain ⟨kc, ⟨l1, l2, l3, l4⟩, r1, r2, r3, r4⟩ := kl
    have h00 : txF G z 1 0 ≤ txF G z 0 0 := by unfold roomE at hnr; omega
    have hK : txF G z 0 (512 * (7 + G 5 z)) ≤ txF G z 1 (512 * (7 + G 5 z)) := by
      have a := l4 (512 * (7 + G 5 z)) (by omega) (by omega)
      have b := r4 (512 * (7 + G 5 z)) (by omega) (by omega)
      unfold Bd at a b
      omega
    rcases hW with q | q | q
    · exact absurd hc q.1
    · have := q.2 (512 * (7 + G 5 z)) (by omega) (by omega)
      omega
    · obtain ⟨-, kt, k0, -, kf, kn, km, kT, ks⟩ := q
      have kb : kt ≤ 512 * (7 + G 5 z) := by
        rcases Int.lt_or_le (512 * (7 + G 5 z)) kt with q | q
        · have := kn (512 * (7 + G 5 z)) (by omega) q
          omega
        · exact q
      obtain ⟨ku, ke⟩ := freeze hu.1 (un_d hdd) l3 r3 h00 k0 (by omega) kf kn
      have fl := l3.fine hu.1 (un_d hdd)
      have fr := r3.fine hu.1 (un_d hdd)
      have ml := (fl kt k0 ku (by omega)).1
      have bs : ∀ s j, 0 ≤ s → s ≤ 1 → 0 ≤ j → j < 7200 → Bd (G 5 z - 1) (smpl G z s j) := by
        intro s j s1 s2 j1 j2
        rw [ks s j s1 s2 j1 j2]
        have a := l4 j j1 j2
        have b := r4 j j1 j2
        have a' := l4 kt k0 (by omega)
        have b' := r4 kt k0 (by omega)
        unfold Bd at *
        split
        · rename_i q
          have := kn j j1 q
          rcases (show s = 0 ∨ s = 1 by omega) with rfl | rfl <;> omega
        · omega
      have bm : Bd (G 5 z - 1) (G 13 z) := by
        have := bs 0 kt (by omega) (by omega) k0 (by omega)
        rw [ks 0 kt (by omega) (by omega) k0 (by omega), if_neg (by omega), ← km] at this
        exact this
      have e0 : smpl G z 0 0 = G 10 z := by
        rw [ks 0 0 (by omega) (by omega) (by omega) (by omega), w4, l2]
        split
        · rfl
        · rw [show kt = 0 by omega]
      have e1 : smpl G z 1 0 = G 8 z := by
        rw [ks 1 0 (by omega) (by omega) (by omega) (by omega), w2, r2]
        split
        · rfl
        · rw [ke, show kt = 0 by omega]
      refine ⟨hd, ⟨hO, hV, by omega, hA⟩, fun q => absurd q (by omega), fun _ => ⟨kc.1, kc.2, kt, k0, kb, ku, kT, km.symm, by rw [km, ke], kn, fun s j s1 s2 j1 j2 => by rw [ks s j s1 s2 j1 j2, km]⟩, ?_, ?_, fun s j s1 s2 j1 j2 => (bs s j s1 s2 j1 j2).up, ⟨?_, ?_, ?_, bm.up⟩, e0, e1⟩
      · exact (CL.cut hu.1 fl ku k0 ml).cg hu.1 (fun k q1 q2 => ks 0 k (by omega) (by omega) q1 (by omega))
      · refine (CR.cut hu.1 fr ku k0 (by rw [← ke]; exact ml)).cg hu.1 (fun k q1 q2 => ?_)
        rw [ks 1 k (by omega) (by omega) q1 (by omega), ke]
      · rw [w1]; unfold Bd; omega
      · rw [w2]; exact r1.up
      · rw [w4]; exact l1.up
  · -- cold
    have hW2 : ColdW G z := by
      rcases hW with q | q | q
      · exact q.2
      · exact absurd q.1 (by omega)
      · exact absurd q.1 (by omega)
    have kv : 2 * un (G 5 z) ∣ G 7 z ∧ Bd (G 5 z) (G 7 z) := by
      rcases hb1 with h1 | h1
      · obtain ⟨hc1, hc2, -⟩ := hcomp h1
        obtain ⟨x1, x2⟩ := v2 h1
        exact smp_E (by omega) (opI_of hd h1 hi) hO.1 (x1.mp hc) (x2 hc)
      · obtain ⟨-, -, e5, e, e1, e2, e3⟩ := hnum (by omega)
        have := (v1 (by omega)).2
        rw [this, e3, e5]
        exact ⟨⟨e, rfl⟩, by unfold Bd; omega⟩
    obtain ⟨a1, a2, a3, a4⟩ := v3 hc
    obtain ⟨c1, c2, c3⟩ := hW2
    refine ⟨hd, ⟨hO, hV, by have := kv.2; unfold Bd at this; omega, hA⟩, fun _ => ⟨c1, c2, c3⟩, fun q => absurd q (by omega), ?_, ?_, fun s j s1 s2 j1 j2 => by rw [c3 s j s1 s2 j1 j2]; exact kv.2, ⟨kv.2, by rw [a1]; exact kv.2, by rw [a2]; exact kv.2, by rw [c1]; exact kv.2⟩, ?_, ?_⟩
    · exact (CL.const kv.1).cg hu.1 (fun k q1 q2 => c3 0 k (by omega) (by omega) q1 (by omega))
    · exact (CR.const kv.1).cg hu.1 (fun k q1 q2 => c3 1 k (by omega) (by omega) q1 (by omega))
    · rw [c3 0 0 (by omega) (by omega) (by omega) (by omega), a2]
    · rw [c3 1 0 (by omega) (by omega) (by omega) (by omega), a1]
