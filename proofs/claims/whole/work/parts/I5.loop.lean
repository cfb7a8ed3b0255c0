/-! ===== the law's loop ===== -/
theorem and_63 (v : Int) : 0 ≤ iandI v 63 ∧ iandI v 63 ≤ 63 := by
  have h1 : ((i32 v).toBitVec &&& (63 : BitVec 32)).toNat ≤ 63 := by
    rw [BitVec.toNat_and]; exact Nat.and_le_right
  have h2 : iandI v 63 = (((i32 v).toBitVec &&& (63 : BitVec 32)).toNat : Int) := by
    show ((i32 v).toBitVec &&& (63 : BitVec 32)).toInt = _
    exact BitVec.toInt_eq_toNat_of_lt (by omega)
  rw [h2]
  omega
def lkC (ad : Nat → Nat) : Nat := if ad 1000 = 0 then 0 else 2
def lkS (ad : Nat → Nat) : Nat := if ad 1000 = 0 then 0 else 8000
/-- the lock is shut -/
def adL (ad : Nat → Nat) : Nat → Nat := fun k => if k = 1000 then 1 else ad k
theorem lkC_le (ad : Nat → Nat) : lkC ad ≤ 2 := by unfold lkC; split <;> omega
theorem lkS_le (ad : Nat → Nat) : lkS ad ≤ 8000 := by unfold lkS; split <;> omega
theorem gc_cgM {g : Gs} {a a' : Nat → Nat} {M : Mem} {m : Nat} (h : ∀ i, i < 6 → a (44 + 6 * (m / 6) + i) = a' (44 + 6 * (m / 6) + i)) : gcX g a M m = gcX g a' M m := by
  unfold gcX
  split
  · congr 2
    unfold fsG
    rw [Int.toNat_natCast, h 1 (by decide), h 2 (by decide), h 3 (by decide), h 4 (by decide), h 5 (by decide)]
  · rfl
theorem gm_adL {g : Gs} {ad : Nat → Nat} {M : Mem} : (List.range 240).map (fun m => (adL ad (44 + m), gcX g (adL ad) M m)) = (List.range 240).map (fun m => (ad (44 + m), gcX g ad M m)) := by
  have e : ∀ i, i < 1000 → adL ad i = ad i := fun i h => if_neg (by omega)
  apply List.map_congr_left
  intro m hm
  rw [List.mem_range] at hm
  rw [gc_cgM (a' := ad) (fun i hi => e _ (by omega)), e (44 + m) (by omega)]
set_option maxHeartbeats 1000000 in
theorem e_adL {g : Gs} {KK : (Nat → Prop) → State → Prop} {ad ad2 : Nat → Nat} {ao : Nat} {A M N : Mem} {o : Int} {X : Cx} {k n pc : Nat} {lv : List (Nat × Value)} {st : List Value} (kk : E (wV g KK (LW g (adL ad) ad2 ao A M o)) X k n N pc lv st) : E (wV g KK (LW g ad ad2 ao A M o)) X k n N pc lv st := by
  have e : ∀ i, i < 1000 → some (ad i) = some (adL ad i) := fun i h => by show _ = some (if _ then _ else _); rw [if_neg (by omega)]
  refine e_perm (M := N) (List.perm_append_comm (l₁ := wlM g ad2 M) (l₂ := oC g ao o :: wlX g ad A)) ?_
  refine e_cell (q0 := 13) (a := ad 12) (c' := .inl (g.2.2.2.2.2.1, 40, .inr (.inr (.inr (.inr (fun j : Nat => some (adL ad (44 + 6 * j)))))))) rfl (fun D cl H hq => at_rf (fun i hi => e _ (by omega)) hq) ?_
  refine e_cell (q0 := 15) (a := ad 14) (c' := .inl (g.2.2.2.2.2.2, 2, .inr (.inr (.inr (.inr (fun j : Nat => some (adL ad (15 + j)))))))) rfl (fun D cl H hq => at_rf (fun i hi => e _ (by omega)) hq) ?_
  refine e_cell (q0 := 21) (a := ad 20) (c' := .inl (g.2.2.2.2.2.2, 4, .inr (.inr (.inr (.inr (fun j : Nat => some (adL ad (21 + j)))))))) rfl (fun D cl H hq => at_rf (fun i hi => e _ (by omega)) hq) ?_
  refine e_cell (q0 := 26) (a := ad 25) (c' := .inl (g.2.2.2.2.2.2, 4, .inr (.inr (.inr (.inr (fun j : Nat => some (adL ad (26 + j)))))))) rfl (fun D cl H hq => at_rf (fun i hi => e _ (by omega)) hq) ?_
  refine e_eqW (ws' := (oC g ao o :: wlX g (adL ad) A) ++ wlM g ad2 M) ?_ (e_perm (M := N) (List.perm_append_comm (l₁ := oC g ao o :: wlX g (adL ad) A) (l₂ := wlM g ad2 M)) kk)
  unfold wlX
  rw [gm_adL]
  rfl
theorem rm_adL {ad : Nat → Nat} {M : Mem} (h : RMx ad M) (h4 : M 20 0 = 4000) : RMx (adL ad) M := ⟨h.1, h.2.1, h.2.2.1, h.2.2.2.1, h.2.2.2.2.1, h.2.2.2.2.2.1, Or.inr h4⟩
section LOOP
variable {g : Gs} {ad2 : Nat → Nat} {sk : (Nat → Nat) × (Nat → Nat)} {ao b L : Nat} {xs : Nat → Int32} {X : Cx}
/-- one round: what follows it is 'nx' -/
def Nx (g : Gs) (ad2 : Nat → Nat) (sk : (Nat → Nat) × (Nat → Nat)) (ao b : Nat) (X : Cx) (t : Nat) (ad : Nat → Nat) : Prop := ∀ (ad' : Nat → Nat) (A' M' : Mem) (o' : Int) (k' n' : Nat), k' ≤ 400 + (t + 1) + lkC ad' → n' ≤ 600000 + 6 * (t + 1) + lkS ad' → Jn A' M' → RMx ad' A' → RMm M' → ad' 0 = ad 0 → E (wV g (KH sk) (LW g ad' ad2 ao A' M' o')) X k' n' M0 2037 [(0, .ref b), (1, .ref (ad 0)), (2, .ref (ad2 0)), (3, .ref ao), (4, vI (4 * (t : Int)))] []
theorem lc_games {t : Nat} {ad : Nat → Nat} {A M : Mem} {o : Int} (CL : ∀ ws, OkH (fun _ => True) (wV g (KH sk) ws) X cL_law RL 7 20 601024 7293034) (SX : SxL X b L xs) (hst : (lnc X).stackTraces = false) (hL : L ≤ 2048) (ht : t ≤ 512) (hi : 0 ≤ 4 * (t : Int) ∧ 4 * (t : Int) + 4 ≤ L) (hJ : Jn A M) (rA : RMx ad A) (rM : RMm M) (nx : Nx g ad2 sk ao b X t ad) : E (wV g (KH sk) (LW g ad ad2 ao A M o)) X (400 + t + lkC ad) (600000 + 6 * t + lkS ad) M0 196 [(0, .ref b), (1, .ref (ad 0)), (2, .ref (ad2 0)), (3, .ref ao), (4, vI (4 * (t : Int)))] [] := by
  have l1 := lkC_le ad
  have l2 := lkS_le ad
  exact lb_games CL SX hst hL hi rA rM (by omega) (by omega) (x_games hJ ) (m_games hJ ) (fun A1 M1 h1 h2 h3 => nx ad A1 M1 o _ _ (by omega) (by omega) h3 h1 h2 rfl)
theorem lc_number {t : Nat} {ad : Nat → Nat} {A M : Mem} {o : Int} (CL : ∀ ws, OkH (fun _ => True) (wV g (KH sk) ws) X cL_law RL 7 20 601024 7293034) (SX : SxL X b L xs) (hst : (lnc X).stackTraces = false) (hL : L ≤ 2048) (ht : t ≤ 512) (hi : 0 ≤ 4 * (t : Int) ∧ 4 * (t : Int) + 4 ≤ L) (hJ : Jn A M) (rA : RMx ad A) (rM : RMm M) (nx : Nx g ad2 sk ao b X t ad) : E (wV g (KH sk) (LW g ad ad2 ao A M o)) X (400 + t + lkC ad) (600000 + 6 * t + lkS ad) M0 209 [(0, .ref b), (1, .ref (ad 0)), (2, .ref (ad2 0)), (3, .ref ao), (4, vI (4 * (t : Int)))] [] := by
  have l1 := lkC_le ad
  have l2 := lkS_le ad
  exact lb_number (S := fun _ _ => True) (ma := 1) (na := 6) CL SX hst hL hi rA rM (by omega) (by omega) (fun l hl => ct_mono (x_number hJ (sx_r _ _) l hl) (fun v B ⟨z, e, h⟩ => ⟨z, e, h, trivial⟩) (fun _ _ h => h)) (m_number hJ (sx_r _ _)) (fun A1 M1 o1 h1 h2 h3 _ _ => nx ad A1 M1 o1 _ _ (by omega) (by omega) h3 h1 h2 rfl)
theorem lc_draft {t : Nat} {ad : Nat → Nat} {A M : Mem} {o : Int} (CL : ∀ ws, OkH (fun _ => True) (wV g (KH sk) ws) X cL_law RL 7 20 601024 7293034) (SX : SxL X b L xs) (hst : (lnc X).stackTraces = false) (hL : L ≤ 2048) (ht : t ≤ 512) (hi : 0 ≤ 4 * (t : Int) ∧ 4 * (t : Int) + 4 ≤ L) (hJ : Jn A M) (rA : RMx ad A) (rM : RMm M) (nx : Nx g ad2 sk ao b X t ad) : E (wV g (KH sk) (LW g ad ad2 ao A M o)) X (400 + t + lkC ad) (600000 + 6 * t + lkS ad) M0 265 [(0, .ref b), (1, .ref (ad 0)), (2, .ref (ad2 0)), (3, .ref ao), (4, vI (4 * (t : Int)))] [] := by
  have l1 := lkC_le ad
  have l2 := lkS_le ad
  exact lb_draft (S := fun _ _ => True) (ma := 1) (na := 6) CL SX hst hL hi rA rM (by omega) (by omega) (fun l hl => ct_mono (x_draft hJ (sx_r _ _) (sx_r _ _) l hl) (fun v B ⟨z, e, h⟩ => ⟨z, e, h, trivial⟩) (fun _ _ h => h)) (m_draft hJ (sx_r _ _) (sx_r _ _)) (fun A1 M1 o1 h1 h2 h3 _ _ => nx ad A1 M1 o1 _ _ (by omega) (by omega) h3 h1 h2 rfl)
theorem lc_clearDraft {t : Nat} {ad : Nat → Nat} {A M : Mem} {o : Int} (CL : ∀ ws, OkH (fun _ => True) (wV g (KH sk) ws) X cL_law RL 7 20 601024 7293034) (SX : SxL X b L xs) (hst : (lnc X).stackTraces = false) (hL : L ≤ 2048) (ht : t ≤ 512) (hi : 0 ≤ 4 * (t : Int) ∧ 4 * (t : Int) + 4 ≤ L) (hJ : Jn A M) (rA : RMx ad A) (rM : RMm M) (nx : Nx g ad2 sk ao b X t ad) : E (wV g (KH sk) (LW g ad ad2 ao A M o)) X (400 + t + lkC ad) (600000 + 6 * t + lkS ad) M0 333 [(0, .ref b), (1, .ref (ad 0)), (2, .ref (ad2 0)), (3, .ref ao), (4, vI (4 * (t : Int)))] [] := by
  have l1 := lkC_le ad
  have l2 := lkS_le ad
  exact lb_clearDraft CL SX hst hL hi rA rM (by omega) (by omega) (x_clearDraft hJ ) (m_clearDraft hJ ) (fun A1 M1 h1 h2 h3 => nx ad A1 M1 o _ _ (by omega) (by omega) h3 h1 h2 rfl)
theorem lc_make {t : Nat} {ad : Nat → Nat} {A M : Mem} {o : Int} (CL : ∀ ws, OkH (fun _ => True) (wV g (KH sk) ws) X cL_law RL 7 20 601024 7293034) (SX : SxL X b L xs) (hst : (lnc X).stackTraces = false) (hL : L ≤ 2048) (ht : t ≤ 512) (hi : 0 ≤ 4 * (t : Int) ∧ 4 * (t : Int) + 4 ≤ L) (hJ : Jn A M) (rA : RMx ad A) (rM : RMm M) (nx : Nx g ad2 sk ao b X t ad) : E (wV g (KH sk) (LW g ad ad2 ao A M o)) X (400 + t + lkC ad) (600000 + 6 * t + lkS ad) M0 346 [(0, .ref b), (1, .ref (ad 0)), (2, .ref (ad2 0)), (3, .ref ao), (4, vI (4 * (t : Int)))] [] := by
  have l1 := lkC_le ad
  have l2 := lkS_le ad
  exact lb_make (S := fun _ _ => True) (ma := 1) (na := 6) CL SX hst hL hi rA rM (by omega) (by omega) (fun l hl => ct_mono (x_make hJ  l hl) (fun v B ⟨z, e, h⟩ => ⟨z, e, h, trivial⟩) (fun _ _ h => h)) (m_make hJ ) (fun A1 M1 o1 h1 h2 h3 _ _ => nx ad A1 M1 o1 _ _ (by omega) (by omega) h3 h1 h2 rfl)
theorem lc_negative {t : Nat} {ad : Nat → Nat} {A M : Mem} {o : Int} (CL : ∀ ws, OkH (fun _ => True) (wV g (KH sk) ws) X cL_law RL 7 20 601024 7293034) (SX : SxL X b L xs) (hst : (lnc X).stackTraces = false) (hL : L ≤ 2048) (ht : t ≤ 512) (hi : 0 ≤ 4 * (t : Int) ∧ 4 * (t : Int) + 4 ≤ L) (hJ : Jn A M) (rA : RMx ad A) (rM : RMm M) (nx : Nx g ad2 sk ao b X t ad) : E (wV g (KH sk) (LW g ad ad2 ao A M o)) X (400 + t + lkC ad) (600000 + 6 * t + lkS ad) M0 390 [(0, .ref b), (1, .ref (ad 0)), (2, .ref (ad2 0)), (3, .ref ao), (4, vI (4 * (t : Int)))] [] := by
  have l1 := lkC_le ad
  have l2 := lkS_le ad
  exact lb_negative (S := fun _ _ => True) (ma := 1) (na := 6) CL SX hst hL hi rA rM (by omega) (by omega) (fun l hl => ct_mono (x_negative hJ (sx_r _ _) l hl) (fun v B ⟨z, e, h⟩ => ⟨z, e, h, trivial⟩) (fun _ _ h => h)) (m_negative hJ (sx_r _ _)) (fun A1 M1 o1 h1 h2 h3 _ _ => nx ad A1 M1 o1 _ _ (by omega) (by omega) h3 h1 h2 rfl)
theorem lc_options {t : Nat} {ad : Nat → Nat} {A M : Mem} {o : Int} (CL : ∀ ws, OkH (fun _ => True) (wV g (KH sk) ws) X cL_law RL 7 20 601024 7293034) (SX : SxL X b L xs) (hst : (lnc X).stackTraces = false) (hL : L ≤ 2048) (ht : t ≤ 512) (hi : 0 ≤ 4 * (t : Int) ∧ 4 * (t : Int) + 4 ≤ L) (hJ : Jn A M) (rA : RMx ad A) (rM : RMm M) (nx : Nx g ad2 sk ao b X t ad) : E (wV g (KH sk) (LW g ad ad2 ao A M o)) X (400 + t + lkC ad) (600000 + 6 * t + lkS ad) M0 446 [(0, .ref b), (1, .ref (ad 0)), (2, .ref (ad2 0)), (3, .ref ao), (4, vI (4 * (t : Int)))] [] := by
  have l1 := lkC_le ad
  have l2 := lkS_le ad
  exact lb_options (S := fun _ _ => True) (ma := 1) (na := 6) CL SX hst hL hi rA rM (by omega) (by omega) (fun l hl => ct_mono (x_options hJ (sx_r _ _) (sx_r _ _) l hl) (fun v B ⟨z, e, h⟩ => ⟨z, e, h, trivial⟩) (fun _ _ h => h)) (m_options hJ (sx_r _ _) (sx_r _ _)) (fun A1 M1 o1 h1 h2 h3 _ _ => nx ad A1 M1 o1 _ _ (by omega) (by omega) h3 h1 h2 rfl)
theorem lc_option {t : Nat} {ad : Nat → Nat} {A M : Mem} {o : Int} (CL : ∀ ws, OkH (fun _ => True) (wV g (KH sk) ws) X cL_law RL 7 20 601024 7293034) (SX : SxL X b L xs) (hst : (lnc X).stackTraces = false) (hL : L ≤ 2048) (ht : t ≤ 512) (hi : 0 ≤ 4 * (t : Int) ∧ 4 * (t : Int) + 4 ≤ L) (hJ : Jn A M) (rA : RMx ad A) (rM : RMm M) (nx : Nx g ad2 sk ao b X t ad) : E (wV g (KH sk) (LW g ad ad2 ao A M o)) X (400 + t + lkC ad) (600000 + 6 * t + lkS ad) M0 514 [(0, .ref b), (1, .ref (ad 0)), (2, .ref (ad2 0)), (3, .ref ao), (4, vI (4 * (t : Int)))] [] := by
  have l1 := lkC_le ad
  have l2 := lkS_le ad
  exact lb_option (S := fun _ _ => True) (ma := 1) (na := 6) CL SX hst hL hi rA rM (by omega) (by omega) (fun l hl => ct_mono (x_option hJ (sx_r _ _) (sx_r _ _) (sx_r _ _) l hl) (fun v B ⟨z, e, h⟩ => ⟨z, e, h, trivial⟩) (fun _ _ h => h)) (m_option hJ (sx_r _ _) (sx_r _ _) (sx_r _ _)) (fun A1 M1 o1 h1 h2 h3 _ _ => nx ad A1 M1 o1 _ _ (by omega) (by omega) h3 h1 h2 rfl)
theorem lc_depth {t : Nat} {ad : Nat → Nat} {A M : Mem} {o : Int} (CL : ∀ ws, OkH (fun _ => True) (wV g (KH sk) ws) X cL_law RL 7 20 601024 7293034) (SX : SxL X b L xs) (hst : (lnc X).stackTraces = false) (hL : L ≤ 2048) (ht : t ≤ 512) (hi : 0 ≤ 4 * (t : Int) ∧ 4 * (t : Int) + 4 ≤ L) (hJ : Jn A M) (rA : RMx ad A) (rM : RMm M) (nx : Nx g ad2 sk ao b X t ad) : E (wV g (KH sk) (LW g ad ad2 ao A M o)) X (400 + t + lkC ad) (600000 + 6 * t + lkS ad) M0 594 [(0, .ref b), (1, .ref (ad 0)), (2, .ref (ad2 0)), (3, .ref ao), (4, vI (4 * (t : Int)))] [] := by
  have l1 := lkC_le ad
  have l2 := lkS_le ad
  exact lb_depth (S := fun _ _ => True) (ma := 1) (na := 6) CL SX hst hL hi rA rM (by omega) (by omega) (fun l hl => ct_mono (x_depth hJ (sx_r _ _) l hl) (fun v B ⟨z, e, h⟩ => ⟨z, e, h, trivial⟩) (fun _ _ h => h)) (m_depth hJ (sx_r _ _)) (fun A1 M1 o1 h1 h2 h3 _ _ => nx ad A1 M1 o1 _ _ (by omega) (by omega) h3 h1 h2 rfl)
theorem lc_compare {t : Nat} {ad : Nat → Nat} {A M : Mem} {o : Int} (CL : ∀ ws, OkH (fun _ => True) (wV g (KH sk) ws) X cL_law RL 7 20 601024 7293034) (SX : SxL X b L xs) (hst : (lnc X).stackTraces = false) (hL : L ≤ 2048) (ht : t ≤ 512) (hi : 0 ≤ 4 * (t : Int) ∧ 4 * (t : Int) + 4 ≤ L) (hJ : Jn A M) (rA : RMx ad A) (rM : RMm M) (nx : Nx g ad2 sk ao b X t ad) : E (wV g (KH sk) (LW g ad ad2 ao A M o)) X (400 + t + lkC ad) (600000 + 6 * t + lkS ad) M0 650 [(0, .ref b), (1, .ref (ad 0)), (2, .ref (ad2 0)), (3, .ref ao), (4, vI (4 * (t : Int)))] [] := by
  have l1 := lkC_le ad
  have l2 := lkS_le ad
  exact lb_compare (S := fun _ _ => True) (ma := 1) (na := 6) CL SX hst hL hi rA rM (by omega) (by omega) (fun l hl => ct_mono (x_compare hJ (sx_r _ _) (sx_r _ _) l hl) (fun v B ⟨z, e, h⟩ => ⟨z, e, h, trivial⟩) (fun _ _ h => h)) (m_compare hJ (sx_r _ _) (sx_r _ _)) (fun A1 M1 o1 h1 h2 h3 _ _ => nx ad A1 M1 o1 _ _ (by omega) (by omega) h3 h1 h2 rfl)
theorem lc_isCold {t : Nat} {ad : Nat → Nat} {A M : Mem} {o : Int} (CL : ∀ ws, OkH (fun _ => True) (wV g (KH sk) ws) X cL_law RL 7 20 601024 7293034) (SX : SxL X b L xs) (hst : (lnc X).stackTraces = false) (hL : L ≤ 2048) (ht : t ≤ 512) (hi : 0 ≤ 4 * (t : Int) ∧ 4 * (t : Int) + 4 ≤ L) (hJ : Jn A M) (rA : RMx ad A) (rM : RMm M) (nx : Nx g ad2 sk ao b X t ad) : E (wV g (KH sk) (LW g ad ad2 ao A M o)) X (400 + t + lkC ad) (600000 + 6 * t + lkS ad) M0 718 [(0, .ref b), (1, .ref (ad 0)), (2, .ref (ad2 0)), (3, .ref ao), (4, vI (4 * (t : Int)))] [] := by
  have l1 := lkC_le ad
  have l2 := lkS_le ad
  exact lb_isCold (S := fun z _ => z = 0 ∨ z = 1) (ma := 1) (na := 6) CL SX hst hL hi rA rM (fun _ _ h => h) (by omega) (by omega) (fun l hl => ct_mono (x_isCold hJ (sx_r _ _) l hl) (fun v B ⟨z, e, h⟩ => ⟨z, e, h.1, h.2⟩) (fun _ _ h => h)) (m_isCold hJ (sx_r _ _)) (fun A1 M1 o1 h1 h2 h3 _ _ => nx ad A1 M1 o1 _ _ (by omega) (by omega) h3 h1 h2 rfl)
theorem lc_value {t : Nat} {ad : Nat → Nat} {A M : Mem} {o : Int} (CL : ∀ ws, OkH (fun _ => True) (wV g (KH sk) ws) X cL_law RL 7 20 601024 7293034) (SX : SxL X b L xs) (hst : (lnc X).stackTraces = false) (hL : L ≤ 2048) (ht : t ≤ 512) (hi : 0 ≤ 4 * (t : Int) ∧ 4 * (t : Int) + 4 ≤ L) (hJ : Jn A M) (rA : RMx ad A) (rM : RMm M) (nx : Nx g ad2 sk ao b X t ad) : E (wV g (KH sk) (LW g ad ad2 ao A M o)) X (400 + t + lkC ad) (600000 + 6 * t + lkS ad) M0 781 [(0, .ref b), (1, .ref (ad 0)), (2, .ref (ad2 0)), (3, .ref ao), (4, vI (4 * (t : Int)))] [] := by
  have l1 := lkC_le ad
  have l2 := lkS_le ad
  exact lb_value (S := fun _ _ => True) (ma := 1) (na := 6) CL SX hst hL hi rA rM (by omega) (by omega) (fun l hl => ct_mono (x_value hJ (sx_r _ _) l hl) (fun v B ⟨z, e, h⟩ => ⟨z, e, h, trivial⟩) (fun _ _ h => h)) (m_value hJ (sx_r _ _)) (fun A1 M1 o1 h1 h2 h3 _ _ => nx ad A1 M1 o1 _ _ (by omega) (by omega) h3 h1 h2 rfl)
theorem lc_dominated {t : Nat} {ad : Nat → Nat} {A M : Mem} {o : Int} (CL : ∀ ws, OkH (fun _ => True) (wV g (KH sk) ws) X cL_law RL 7 20 601024 7293034) (SX : SxL X b L xs) (hst : (lnc X).stackTraces = false) (hL : L ≤ 2048) (ht : t ≤ 512) (hi : 0 ≤ 4 * (t : Int) ∧ 4 * (t : Int) + 4 ≤ L) (hJ : Jn A M) (rA : RMx ad A) (rM : RMm M) (nx : Nx g ad2 sk ao b X t ad) : E (wV g (KH sk) (LW g ad ad2 ao A M o)) X (400 + t + lkC ad) (600000 + 6 * t + lkS ad) M0 837 [(0, .ref b), (1, .ref (ad 0)), (2, .ref (ad2 0)), (3, .ref ao), (4, vI (4 * (t : Int)))] [] := by
  have l1 := lkC_le ad
  have l2 := lkS_le ad
  exact lb_dominated (S := fun _ _ => True) (ma := 1) (na := 6) CL SX hst hL hi rA rM (by omega) (by omega) (fun l hl => ct_mono (x_dominated hJ (sx_r _ _) (sx_r _ _) (sx_r _ _) l hl) (fun v B ⟨z, e, h⟩ => ⟨z, e, h, trivial⟩) (fun _ _ h => h)) (m_dominated hJ (sx_r _ _) (sx_r _ _) (sx_r _ _)) (fun A1 M1 o1 h1 h2 h3 _ _ => nx ad A1 M1 o1 _ _ (by omega) (by omega) h3 h1 h2 rfl)
theorem lc_reversible {t : Nat} {ad : Nat → Nat} {A M : Mem} {o : Int} (CL : ∀ ws, OkH (fun _ => True) (wV g (KH sk) ws) X cL_law RL 7 20 601024 7293034) (SX : SxL X b L xs) (hst : (lnc X).stackTraces = false) (hL : L ≤ 2048) (ht : t ≤ 512) (hi : 0 ≤ 4 * (t : Int) ∧ 4 * (t : Int) + 4 ≤ L) (hJ : Jn A M) (rA : RMx ad A) (rM : RMm M) (nx : Nx g ad2 sk ao b X t ad) : E (wV g (KH sk) (LW g ad ad2 ao A M o)) X (400 + t + lkC ad) (600000 + 6 * t + lkS ad) M0 917 [(0, .ref b), (1, .ref (ad 0)), (2, .ref (ad2 0)), (3, .ref ao), (4, vI (4 * (t : Int)))] [] := by
  have l1 := lkC_le ad
  have l2 := lkS_le ad
  exact lb_reversible (S := fun _ _ => True) (ma := 1) (na := 6) CL SX hst hL hi rA rM (by omega) (by omega) (fun l hl => ct_mono (x_reversible hJ (sx_r _ _) (sx_r _ _) (sx_r _ _) l hl) (fun v B ⟨z, e, h⟩ => ⟨z, e, h, trivial⟩) (fun _ _ h => h)) (m_reversible hJ (sx_r _ _) (sx_r _ _) (sx_r _ _)) (fun A1 M1 o1 h1 h2 h3 _ _ => nx ad A1 M1 o1 _ _ (by omega) (by omega) h3 h1 h2 rfl)
theorem lc_mean {t : Nat} {ad : Nat → Nat} {A M : Mem} {o : Int} (CL : ∀ ws, OkH (fun _ => True) (wV g (KH sk) ws) X cL_law RL 7 20 601024 7293034) (SX : SxL X b L xs) (hst : (lnc X).stackTraces = false) (hL : L ≤ 2048) (ht : t ≤ 512) (hi : 0 ≤ 4 * (t : Int) ∧ 4 * (t : Int) + 4 ≤ L) (hJ : Jn A M) (rA : RMx ad A) (rM : RMm M) (nx : Nx g ad2 sk ao b X t ad) : E (wV g (KH sk) (LW g ad ad2 ao A M o)) X (400 + t + lkC ad) (600000 + 6 * t + lkS ad) M0 997 [(0, .ref b), (1, .ref (ad 0)), (2, .ref (ad2 0)), (3, .ref ao), (4, vI (4 * (t : Int)))] [] := by
  have l1 := lkC_le ad
  have l2 := lkS_le ad
  exact lb_mean (S := fun _ _ => True) (ma := 1) (na := 6) CL SX hst hL hi rA rM (by omega) (by omega) (fun l hl => ct_mono (x_mean hJ (sx_r _ _) l hl) (fun v B ⟨z, e, h⟩ => ⟨z, e, h, trivial⟩) (fun _ _ h => h)) (m_mean hJ (sx_r _ _)) (fun A1 M1 o1 h1 h2 h3 _ _ => nx ad A1 M1 o1 _ _ (by omega) (by omega) h3 h1 h2 rfl)
theorem lc_temperature {t : Nat} {ad : Nat → Nat} {A M : Mem} {o : Int} (CL : ∀ ws, OkH (fun _ => True) (wV g (KH sk) ws) X cL_law RL 7 20 601024 7293034) (SX : SxL X b L xs) (hst : (lnc X).stackTraces = false) (hL : L ≤ 2048) (ht : t ≤ 512) (hi : 0 ≤ 4 * (t : Int) ∧ 4 * (t : Int) + 4 ≤ L) (hJ : Jn A M) (rA : RMx ad A) (rM : RMm M) (nx : Nx g ad2 sk ao b X t ad) : E (wV g (KH sk) (LW g ad ad2 ao A M o)) X (400 + t + lkC ad) (600000 + 6 * t + lkS ad) M0 1053 [(0, .ref b), (1, .ref (ad 0)), (2, .ref (ad2 0)), (3, .ref ao), (4, vI (4 * (t : Int)))] [] := by
  have l1 := lkC_le ad
  have l2 := lkS_le ad
  exact lb_temperature (S := fun _ _ => True) (ma := 1) (na := 6) CL SX hst hL hi rA rM (by omega) (by omega) (fun l hl => ct_mono (x_temperature hJ (sx_r _ _) l hl) (fun v B ⟨z, e, h⟩ => ⟨z, e, h, trivial⟩) (fun _ _ h => h)) (m_temperature hJ (sx_r _ _)) (fun A1 M1 o1 h1 h2 h3 _ _ => nx ad A1 M1 o1 _ _ (by omega) (by omega) h3 h1 h2 rfl)
theorem lc_wall {t : Nat} {ad : Nat → Nat} {A M : Mem} {o : Int} (CL : ∀ ws, OkH (fun _ => True) (wV g (KH sk) ws) X cL_law RL 7 20 601024 7293034) (SX : SxL X b L xs) (hst : (lnc X).stackTraces = false) (hL : L ≤ 2048) (ht : t ≤ 512) (hi : 0 ≤ 4 * (t : Int) ∧ 4 * (t : Int) + 4 ≤ L) (hJ : Jn A M) (rA : RMx ad A) (rM : RMm M) (nx : Nx g ad2 sk ao b X t ad) : E (wV g (KH sk) (LW g ad ad2 ao A M o)) X (400 + t + lkC ad) (600000 + 6 * t + lkS ad) M0 1109 [(0, .ref b), (1, .ref (ad 0)), (2, .ref (ad2 0)), (3, .ref ao), (4, vI (4 * (t : Int)))] [] := by
  have l1 := lkC_le ad
  have l2 := lkS_le ad
  exact lb_wall (S := fun _ _ => True) (ma := 1) (na := 6) CL SX hst hL hi rA rM (by omega) (by omega) (fun l hl => ct_mono (x_wall hJ (sx_r _ _) (sx_r _ _) (sx_r _ _) l hl) (fun v B ⟨z, e, h⟩ => ⟨z, e, h, trivial⟩) (fun _ _ h => h)) (m_wall hJ (sx_r _ _) (sx_r _ _) (sx_r _ _)) (fun A1 M1 o1 h1 h2 h3 _ _ => nx ad A1 M1 o1 _ _ (by omega) (by omega) h3 h1 h2 rfl)
theorem lc_corner {t : Nat} {ad : Nat → Nat} {A M : Mem} {o : Int} (CL : ∀ ws, OkH (fun _ => True) (wV g (KH sk) ws) X cL_law RL 7 20 601024 7293034) (SX : SxL X b L xs) (hst : (lnc X).stackTraces = false) (hL : L ≤ 2048) (ht : t ≤ 512) (hi : 0 ≤ 4 * (t : Int) ∧ 4 * (t : Int) + 4 ≤ L) (hJ : Jn A M) (rA : RMx ad A) (rM : RMm M) (nx : Nx g ad2 sk ao b X t ad) : E (wV g (KH sk) (LW g ad ad2 ao A M o)) X (400 + t + lkC ad) (600000 + 6 * t + lkS ad) M0 1189 [(0, .ref b), (1, .ref (ad 0)), (2, .ref (ad2 0)), (3, .ref ao), (4, vI (4 * (t : Int)))] [] := by
  have l1 := lkC_le ad
  have l2 := lkS_le ad
  exact lb_corner (S := fun _ _ => True) (ma := 1) (na := 6) CL SX hst hL hi rA rM (by omega) (by omega) (fun l hl => ct_mono (x_corner hJ (sx_r _ _) (sx_r _ _) (sx_r _ _) l hl) (fun v B ⟨z, e, h⟩ => ⟨z, e, h, trivial⟩) (fun _ _ h => h)) (m_corner hJ (sx_r _ _) (sx_r _ _) (sx_r _ _)) (fun A1 M1 o1 h1 h2 h3 _ _ => nx ad A1 M1 o1 _ _ (by omega) (by omega) h3 h1 h2 rfl)
theorem lc_add {t : Nat} {ad : Nat → Nat} {A M : Mem} {o : Int} (CL : ∀ ws, OkH (fun _ => True) (wV g (KH sk) ws) X cL_law RL 7 20 601024 7293034) (SX : SxL X b L xs) (hst : (lnc X).stackTraces = false) (hL : L ≤ 2048) (ht : t ≤ 512) (hi : 0 ≤ 4 * (t : Int) ∧ 4 * (t : Int) + 4 ≤ L) (hJ : Jn A M) (rA : RMx ad A) (rM : RMm M) (nx : Nx g ad2 sk ao b X t ad) : E (wV g (KH sk) (LW g ad ad2 ao A M o)) X (400 + t + lkC ad) (600000 + 6 * t + lkS ad) M0 1269 [(0, .ref b), (1, .ref (ad 0)), (2, .ref (ad2 0)), (3, .ref ao), (4, vI (4 * (t : Int)))] [] := by
  have l1 := lkC_le ad
  have l2 := lkS_le ad
  exact lb_add (S := fun _ _ => True) (ma := 1) (na := 6) CL SX hst hL hi rA rM (by omega) (by omega) (fun l hl => ct_mono (x_add hJ (sx_r _ _) l hl) (fun v B ⟨z, e, h⟩ => ⟨z, e, h, trivial⟩) (fun _ _ h => h)) (m_add hJ (sx_r _ _)) (fun A1 M1 o1 h1 h2 h3 _ _ => nx ad A1 M1 o1 _ _ (by omega) (by omega) h3 h1 h2 rfl)
theorem lc_remove {t : Nat} {ad : Nat → Nat} {A M : Mem} {o : Int} (CL : ∀ ws, OkH (fun _ => True) (wV g (KH sk) ws) X cL_law RL 7 20 601024 7293034) (SX : SxL X b L xs) (hst : (lnc X).stackTraces = false) (hL : L ≤ 2048) (ht : t ≤ 512) (hi : 0 ≤ 4 * (t : Int) ∧ 4 * (t : Int) + 4 ≤ L) (hJ : Jn A M) (rA : RMx ad A) (rM : RMm M) (nx : Nx g ad2 sk ao b X t ad) : E (wV g (KH sk) (LW g ad ad2 ao A M o)) X (400 + t + lkC ad) (600000 + 6 * t + lkS ad) M0 1325 [(0, .ref b), (1, .ref (ad 0)), (2, .ref (ad2 0)), (3, .ref ao), (4, vI (4 * (t : Int)))] [] := by
  have l1 := lkC_le ad
  have l2 := lkS_le ad
  exact lb_remove (S := fun _ _ => True) (ma := 1) (na := 6) CL SX hst hL hi rA rM (by omega) (by omega) (fun l hl => ct_mono (x_remove hJ (sx_r _ _) l hl) (fun v B ⟨z, e, h⟩ => ⟨z, e, h, trivial⟩) (fun _ _ h => h)) (m_remove hJ (sx_r _ _)) (fun A1 M1 o1 h1 h2 h3 _ _ => nx ad A1 M1 o1 _ _ (by omega) (by omega) h3 h1 h2 rfl)
theorem lc_components {t : Nat} {ad : Nat → Nat} {A M : Mem} {o : Int} (CL : ∀ ws, OkH (fun _ => True) (wV g (KH sk) ws) X cL_law RL 7 20 601024 7293034) (SX : SxL X b L xs) (hst : (lnc X).stackTraces = false) (hL : L ≤ 2048) (ht : t ≤ 512) (hi : 0 ≤ 4 * (t : Int) ∧ 4 * (t : Int) + 4 ≤ L) (hJ : Jn A M) (rA : RMx ad A) (rM : RMm M) (nx : Nx g ad2 sk ao b X t ad) : E (wV g (KH sk) (LW g ad ad2 ao A M o)) X (400 + t + lkC ad) (600000 + 6 * t + lkS ad) M0 1381 [(0, .ref b), (1, .ref (ad 0)), (2, .ref (ad2 0)), (3, .ref ao), (4, vI (4 * (t : Int)))] [] := by
  have l1 := lkC_le ad
  have l2 := lkS_le ad
  exact lb_components CL SX hst hL hi rA rM (by omega) (by omega) (x_components hJ ) (m_components hJ ) (fun A1 M1 h1 h2 h3 => nx ad A1 M1 o _ _ (by omega) (by omega) h3 h1 h2 rfl)
theorem lc_component {t : Nat} {ad : Nat → Nat} {A M : Mem} {o : Int} (CL : ∀ ws, OkH (fun _ => True) (wV g (KH sk) ws) X cL_law RL 7 20 601024 7293034) (SX : SxL X b L xs) (hst : (lnc X).stackTraces = false) (hL : L ≤ 2048) (ht : t ≤ 512) (hi : 0 ≤ 4 * (t : Int) ∧ 4 * (t : Int) + 4 ≤ L) (hJ : Jn A M) (rA : RMx ad A) (rM : RMm M) (nx : Nx g ad2 sk ao b X t ad) : E (wV g (KH sk) (LW g ad ad2 ao A M o)) X (400 + t + lkC ad) (600000 + 6 * t + lkS ad) M0 1394 [(0, .ref b), (1, .ref (ad 0)), (2, .ref (ad2 0)), (3, .ref ao), (4, vI (4 * (t : Int)))] [] := by
  have l1 := lkC_le ad
  have l2 := lkS_le ad
  exact lb_component (S := fun _ _ => True) (ma := 1) (na := 6) CL SX hst hL hi rA rM (by omega) (by omega) (fun l hl => ct_mono (x_component hJ (sx_r _ _) l hl) (fun v B ⟨z, e, h⟩ => ⟨z, e, h, trivial⟩) (fun _ _ h => h)) (m_component hJ (sx_r _ _)) (fun A1 M1 o1 h1 h2 h3 _ _ => nx ad A1 M1 o1 _ _ (by omega) (by omega) h3 h1 h2 rfl)
theorem lc_move {t : Nat} {ad : Nat → Nat} {A M : Mem} {o : Int} (CL : ∀ ws, OkH (fun _ => True) (wV g (KH sk) ws) X cL_law RL 7 20 601024 7293034) (SX : SxL X b L xs) (hst : (lnc X).stackTraces = false) (hL : L ≤ 2048) (ht : t ≤ 512) (hi : 0 ≤ 4 * (t : Int) ∧ 4 * (t : Int) + 4 ≤ L) (hJ : Jn A M) (rA : RMx ad A) (rM : RMm M) (nx : Nx g ad2 sk ao b X t ad) : E (wV g (KH sk) (LW g ad ad2 ao A M o)) X (400 + t + lkC ad) (600000 + 6 * t + lkS ad) M0 1450 [(0, .ref b), (1, .ref (ad 0)), (2, .ref (ad2 0)), (3, .ref ao), (4, vI (4 * (t : Int)))] [] := by
  have l1 := lkC_le ad
  have l2 := lkS_le ad
  exact lb_move (S := fun _ _ => True) (ma := 1) (na := 6) CL SX hst hL hi rA rM (by omega) (by omega) (fun l hl => ct_mono (x_move hJ (sx_r _ _) (sx_r _ _) (sx_r _ _) l hl) (fun v B ⟨z, e, h⟩ => ⟨z, e, h, trivial⟩) (fun _ _ h => h)) (m_move hJ (sx_r _ _) (sx_r _ _) (sx_r _ _)) (fun A1 M1 o1 h1 h2 h3 _ _ => nx ad A1 M1 o1 _ _ (by omega) (by omega) h3 h1 h2 rfl)
theorem lc_size {t : Nat} {ad : Nat → Nat} {A M : Mem} {o : Int} (CL : ∀ ws, OkH (fun _ => True) (wV g (KH sk) ws) X cL_law RL 7 20 601024 7293034) (SX : SxL X b L xs) (hst : (lnc X).stackTraces = false) (hL : L ≤ 2048) (ht : t ≤ 512) (hi : 0 ≤ 4 * (t : Int) ∧ 4 * (t : Int) + 4 ≤ L) (hJ : Jn A M) (rA : RMx ad A) (rM : RMm M) (nx : Nx g ad2 sk ao b X t ad) : E (wV g (KH sk) (LW g ad ad2 ao A M o)) X (400 + t + lkC ad) (600000 + 6 * t + lkS ad) M0 1530 [(0, .ref b), (1, .ref (ad 0)), (2, .ref (ad2 0)), (3, .ref ao), (4, vI (4 * (t : Int)))] [] := by
  have l1 := lkC_le ad
  have l2 := lkS_le ad
  exact lb_size CL SX hst hL hi rA rM (by omega) (by omega) (x_size hJ ) (m_size hJ ) (fun A1 M1 h1 h2 h3 => nx ad A1 M1 o _ _ (by omega) (by omega) h3 h1 h2 rfl)
theorem lc_best {t : Nat} {ad : Nat → Nat} {A M : Mem} {o : Int} (CL : ∀ ws, OkH (fun _ => True) (wV g (KH sk) ws) X cL_law RL 7 20 601024 7293034) (SX : SxL X b L xs) (hst : (lnc X).stackTraces = false) (hL : L ≤ 2048) (ht : t ≤ 512) (hi : 0 ≤ 4 * (t : Int) ∧ 4 * (t : Int) + 4 ≤ L) (hJ : Jn A M) (rA : RMx ad A) (rM : RMm M) (nx : Nx g ad2 sk ao b X t ad) : E (wV g (KH sk) (LW g ad ad2 ao A M o)) X (400 + t + lkC ad) (600000 + 6 * t + lkS ad) M0 1543 [(0, .ref b), (1, .ref (ad 0)), (2, .ref (ad2 0)), (3, .ref ao), (4, vI (4 * (t : Int)))] [] := by
  have l1 := lkC_le ad
  have l2 := lkS_le ad
  by_cases hs : kB M (sx xs (4 * (t : Int) + 1)) = 0 ∧ ad 1000 = 0
  · have e1 : lkC ad = 0 := if_pos hs.2
    have e2 : lkS ad = 0 := if_pos hs.2
    refine lb_best (S := fun _ B => B 20 0 = 4000) (ma := 2) (na := 8000) CL SX hst hL hi rA rM (by omega) (by omega) (fun l hl => ct_mono (x_best hJ (sx_r _ _) (by decide) (fun _ => Or.inl (by decide)) l hl) (fun v B ⟨z, e, h⟩ => ⟨z, e, h.2.1, h.2.2⟩) (fun _ _ h => h)) (m_best hJ (sx_r _ _)) (fun A1 M1 o1 h1 h2 h3 h4 h5 => ?_)
    obtain ⟨r, hr⟩ := h4
    obtain ⟨_, h6⟩ := h5 (hr.1.trans hs.1)
    refine e_adL ?_
    have e3 : lkC (adL ad) = 2 := rfl
    have e4 : lkS (adL ad) = 8000 := rfl
    exact nx (adL ad) A1 M1 o1 _ _ (by omega) (by omega) h3 (rm_adL h1 h6) h2 rfl
  · exact lb_best (S := fun _ _ => True) (ma := 1) (na := 6) CL SX hst hL hi rA rM (by omega) (by omega) (fun l hl => ct_mono (x_best hJ (sx_r _ _) (by decide) (fun q1 => Or.inr (fun q0 => hs ⟨q1, q0⟩)) l hl) (fun v B ⟨z, e, h⟩ => ⟨z, e, h.2.1, trivial⟩) (fun _ _ h => h)) (m_best hJ (sx_r _ _)) (fun A1 M1 o1 h1 h2 h3 _ _ => nx ad A1 M1 o1 _ _ (by omega) (by omega) h3 h1 h2 rfl)
theorem lc_advice {t : Nat} {ad : Nat → Nat} {A M : Mem} {o : Int} (CL : ∀ ws, OkH (fun _ => True) (wV g (KH sk) ws) X cL_law RL 7 20 601024 7293034) (SX : SxL X b L xs) (hst : (lnc X).stackTraces = false) (hL : L ≤ 2048) (ht : t ≤ 512) (hi : 0 ≤ 4 * (t : Int) ∧ 4 * (t : Int) + 4 ≤ L) (hJ : Jn A M) (rA : RMx ad A) (rM : RMm M) (nx : Nx g ad2 sk ao b X t ad) : E (wV g (KH sk) (LW g ad ad2 ao A M o)) X (400 + t + lkC ad) (600000 + 6 * t + lkS ad) M0 1599 [(0, .ref b), (1, .ref (ad 0)), (2, .ref (ad2 0)), (3, .ref ao), (4, vI (4 * (t : Int)))] [] := by
  have l1 := lkC_le ad
  have l2 := lkS_le ad
  by_cases hs : ((sx xs (4 * (t : Int) + 2)) = 3 ∧ kA M (sx xs (4 * (t : Int) + 1)) (sx xs (4 * (t : Int) + 2)) = 0) ∧ ad 1000 = 0
  · have e1 : lkC ad = 0 := if_pos hs.2
    have e2 : lkS ad = 0 := if_pos hs.2
    refine lb_advice (S := fun _ B => (sx xs (4 * (t : Int) + 2)) = 3 → B 20 0 = 4000) (ma := 2) (na := 8000) CL SX hst hL hi rA rM (by omega) (by omega) (fun l hl => ct_mono (x_advice hJ (sx_r _ _) (sx_r _ _) (by decide) (fun _ _ => Or.inl (by decide)) l hl) (fun v B ⟨z, e, h⟩ => ⟨z, e, h.2.1, h.2.2⟩) (fun _ _ h => h)) (m_advice hJ (sx_r _ _) (sx_r _ _)) (fun A1 M1 o1 h1 h2 h3 h4 h5 => ?_)
    obtain ⟨r, hr⟩ := h4
    obtain ⟨_, h7⟩ := h5 (hr.1.trans hs.1.2)
    have h6 := h7 hs.1.1
    refine e_adL ?_
    have e3 : lkC (adL ad) = 2 := rfl
    have e4 : lkS (adL ad) = 8000 := rfl
    exact nx (adL ad) A1 M1 o1 _ _ (by omega) (by omega) h3 (rm_adL h1 h6) h2 rfl
  · exact lb_advice (S := fun _ _ => True) (ma := 1) (na := 6) CL SX hst hL hi rA rM (by omega) (by omega) (fun l hl => ct_mono (x_advice hJ (sx_r _ _) (sx_r _ _) (by decide) (fun q1 q2 => Or.inr (fun q0 => hs ⟨⟨q1, q2⟩, q0⟩)) l hl) (fun v B ⟨z, e, h⟩ => ⟨z, e, h.2.1, trivial⟩) (fun _ _ h => h)) (m_advice hJ (sx_r _ _) (sx_r _ _)) (fun A1 M1 o1 h1 h2 h3 _ _ => nx ad A1 M1 o1 _ _ (by omega) (by omega) h3 h1 h2 rfl)
theorem lc_play {t : Nat} {ad : Nat → Nat} {A M : Mem} {o : Int} (CL : ∀ ws, OkH (fun _ => True) (wV g (KH sk) ws) X cL_law RL 7 20 601024 7293034) (SX : SxL X b L xs) (hst : (lnc X).stackTraces = false) (hL : L ≤ 2048) (ht : t ≤ 512) (hi : 0 ≤ 4 * (t : Int) ∧ 4 * (t : Int) + 4 ≤ L) (hJ : Jn A M) (rA : RMx ad A) (rM : RMm M) (nx : Nx g ad2 sk ao b X t ad) : E (wV g (KH sk) (LW g ad ad2 ao A M o)) X (400 + t + lkC ad) (600000 + 6 * t + lkS ad) M0 1667 [(0, .ref b), (1, .ref (ad 0)), (2, .ref (ad2 0)), (3, .ref ao), (4, vI (4 * (t : Int)))] [] := by
  have l1 := lkC_le ad
  have l2 := lkS_le ad
  by_cases hs : (((sx xs (4 * (t : Int) + 2)) = 3 ∨ (sx xs (4 * (t : Int) + 3)) = 3) ∧ kP M (sx xs (4 * (t : Int) + 1)) (sx xs (4 * (t : Int) + 2)) (sx xs (4 * (t : Int) + 3)) = 0) ∧ ad 1000 = 0
  · have e1 : lkC ad = 0 := if_pos hs.2
    have e2 : lkS ad = 0 := if_pos hs.2
    refine lb_play (S := fun _ B => ((sx xs (4 * (t : Int) + 2)) = 3 ∨ (sx xs (4 * (t : Int) + 3)) = 3) → B 20 0 = 4000) (ma := 2) (na := 8000) CL SX hst hL hi rA rM (by omega) (by omega) (fun l hl => ct_mono (x_play hJ (sx_r _ _) (sx_r _ _) (sx_r _ _) (by decide) (fun _ _ => Or.inl (by decide)) l hl) (fun v B ⟨z, e, h⟩ => ⟨z, e, h.2.1, h.2.2⟩) (fun _ _ h => h)) (m_play hJ (sx_r _ _) (sx_r _ _) (sx_r _ _)) (fun A1 M1 o1 h1 h2 h3 h4 h5 => ?_)
    obtain ⟨r, hr⟩ := h4
    obtain ⟨_, h7⟩ := h5 (hr.1.trans hs.1.2)
    have h6 := h7 hs.1.1
    refine e_adL ?_
    have e3 : lkC (adL ad) = 2 := rfl
    have e4 : lkS (adL ad) = 8000 := rfl
    exact nx (adL ad) A1 M1 o1 _ _ (by omega) (by omega) h3 (rm_adL h1 h6) h2 rfl
  · exact lb_play (S := fun _ _ => True) (ma := 1) (na := 6) CL SX hst hL hi rA rM (by omega) (by omega) (fun l hl => ct_mono (x_play hJ (sx_r _ _) (sx_r _ _) (sx_r _ _) (by decide) (fun q1 q2 => Or.inr (fun q0 => hs ⟨⟨q1, q2⟩, q0⟩)) l hl) (fun v B ⟨z, e, h⟩ => ⟨z, e, h.2.1, trivial⟩) (fun _ _ h => h)) (m_play hJ (sx_r _ _) (sx_r _ _) (sx_r _ _)) (fun A1 M1 o1 h1 h2 h3 _ _ => nx ad A1 M1 o1 _ _ (by omega) (by omega) h3 h1 h2 rfl)
theorem lc_played {t : Nat} {ad : Nat → Nat} {A M : Mem} {o : Int} (CL : ∀ ws, OkH (fun _ => True) (wV g (KH sk) ws) X cL_law RL 7 20 601024 7293034) (SX : SxL X b L xs) (hst : (lnc X).stackTraces = false) (hL : L ≤ 2048) (ht : t ≤ 512) (hi : 0 ≤ 4 * (t : Int) ∧ 4 * (t : Int) + 4 ≤ L) (hJ : Jn A M) (rA : RMx ad A) (rM : RMm M) (nx : Nx g ad2 sk ao b X t ad) : E (wV g (KH sk) (LW g ad ad2 ao A M o)) X (400 + t + lkC ad) (600000 + 6 * t + lkS ad) M0 1747 [(0, .ref b), (1, .ref (ad 0)), (2, .ref (ad2 0)), (3, .ref ao), (4, vI (4 * (t : Int)))] [] := by
  have l1 := lkC_le ad
  have l2 := lkS_le ad
  exact lb_played CL SX hst hL hi rA rM (by omega) (by omega) (x_played hJ (sx_r _ _)) (m_played hJ (sx_r _ _)) (fun A1 M1 h1 h2 h3 => nx ad A1 M1 o _ _ (by omega) (by omega) h3 h1 h2 rfl)
theorem lc_type {t : Nat} {ad : Nat → Nat} {A M : Mem} {o : Int} (CL : ∀ ws, OkH (fun _ => True) (wV g (KH sk) ws) X cL_law RL 7 20 601024 7293034) (SX : SxL X b L xs) (hst : (lnc X).stackTraces = false) (hL : L ≤ 2048) (ht : t ≤ 512) (hi : 0 ≤ 4 * (t : Int) ∧ 4 * (t : Int) + 4 ≤ L) (hJ : Jn A M) (rA : RMx ad A) (rM : RMm M) (nx : Nx g ad2 sk ao b X t ad) : E (wV g (KH sk) (LW g ad ad2 ao A M o)) X (400 + t + lkC ad) (600000 + 6 * t + lkS ad) M0 1772 [(0, .ref b), (1, .ref (ad 0)), (2, .ref (ad2 0)), (3, .ref ao), (4, vI (4 * (t : Int)))] [] := by
  have l1 := lkC_le ad
  have l2 := lkS_le ad
  exact lb_type (S := fun _ _ => True) (ma := 1) (na := 6) CL SX hst hL hi rA rM (by omega) (by omega) (fun l hl => ct_mono (x_type hJ (sx_r _ _) l hl) (fun v B ⟨z, e, h⟩ => ⟨z, e, h, trivial⟩) (fun _ _ h => h)) (m_type hJ (sx_r _ _)) (fun A1 M1 o1 h1 h2 h3 _ _ => nx ad A1 M1 o1 _ _ (by omega) (by omega) h3 h1 h2 rfl)
theorem lc_clearText {t : Nat} {ad : Nat → Nat} {A M : Mem} {o : Int} (CL : ∀ ws, OkH (fun _ => True) (wV g (KH sk) ws) X cL_law RL 7 20 601024 7293034) (SX : SxL X b L xs) (hst : (lnc X).stackTraces = false) (hL : L ≤ 2048) (ht : t ≤ 512) (hi : 0 ≤ 4 * (t : Int) ∧ 4 * (t : Int) + 4 ≤ L) (hJ : Jn A M) (rA : RMx ad A) (rM : RMm M) (nx : Nx g ad2 sk ao b X t ad) : E (wV g (KH sk) (LW g ad ad2 ao A M o)) X (400 + t + lkC ad) (600000 + 6 * t + lkS ad) M0 1828 [(0, .ref b), (1, .ref (ad 0)), (2, .ref (ad2 0)), (3, .ref ao), (4, vI (4 * (t : Int)))] [] := by
  have l1 := lkC_le ad
  have l2 := lkS_le ad
  exact lb_clearText CL SX hst hL hi rA rM (by omega) (by omega) (x_clearText hJ ) ((m_clearText hJ).mono (fun r N h => (⟨h.1, h.2.1, h.2.2⟩ : ClT M (N 20 0) r N))) (fun A1 M1 h1 h2 h3 => nx ad A1 M1 o _ _ (by omega) (by omega) h3 h1 h2 rfl)
theorem lc_fault {t : Nat} {ad : Nat → Nat} {A M : Mem} {o : Int} (CL : ∀ ws, OkH (fun _ => True) (wV g (KH sk) ws) X cL_law RL 7 20 601024 7293034) (SX : SxL X b L xs) (hst : (lnc X).stackTraces = false) (hL : L ≤ 2048) (ht : t ≤ 512) (hi : 0 ≤ 4 * (t : Int) ∧ 4 * (t : Int) + 4 ≤ L) (hJ : Jn A M) (rA : RMx ad A) (rM : RMm M) (nx : Nx g ad2 sk ao b X t ad) : E (wV g (KH sk) (LW g ad ad2 ao A M o)) X (400 + t + lkC ad) (600000 + 6 * t + lkS ad) M0 1841 [(0, .ref b), (1, .ref (ad 0)), (2, .ref (ad2 0)), (3, .ref ao), (4, vI (4 * (t : Int)))] [] := by
  have l1 := lkC_le ad
  have l2 := lkS_le ad
  exact lb_fault CL SX hst hL hi rA rM (by omega) (by omega) (x_fault hJ ) (m_fault hJ ) (fun A1 M1 h1 h2 h3 => nx ad A1 M1 o _ _ (by omega) (by omega) h3 h1 h2 rfl)
theorem lc_read {t : Nat} {ad : Nat → Nat} {A M : Mem} {o : Int} (CL : ∀ ws, OkH (fun _ => True) (wV g (KH sk) ws) X cL_law RL 7 20 601024 7293034) (SX : SxL X b L xs) (hst : (lnc X).stackTraces = false) (hL : L ≤ 2048) (ht : t ≤ 512) (hi : 0 ≤ 4 * (t : Int) ∧ 4 * (t : Int) + 4 ≤ L) (hJ : Jn A M) (rA : RMx ad A) (rM : RMm M) (nx : Nx g ad2 sk ao b X t ad) : E (wV g (KH sk) (LW g ad ad2 ao A M o)) X (400 + t + lkC ad) (600000 + 6 * t + lkS ad) M0 1854 [(0, .ref b), (1, .ref (ad 0)), (2, .ref (ad2 0)), (3, .ref ao), (4, vI (4 * (t : Int)))] [] := by
  have l1 := lkC_le ad
  have l2 := lkS_le ad
  exact lb_read (S := fun _ _ => True) (ma := 1) (na := 6) CL SX hst hL hi rA rM (by omega) (by omega) (fun l hl => ct_mono (x_read hJ  l hl) (fun v B ⟨z, e, h⟩ => ⟨z, e, h, trivial⟩) (fun _ _ h => h)) (m_read hJ ) (fun A1 M1 o1 h1 h2 h3 _ _ => nx ad A1 M1 o1 _ _ (by omega) (by omega) h3 h1 h2 rfl)
theorem lc_write {t : Nat} {ad : Nat → Nat} {A M : Mem} {o : Int} (CL : ∀ ws, OkH (fun _ => True) (wV g (KH sk) ws) X cL_law RL 7 20 601024 7293034) (SX : SxL X b L xs) (hst : (lnc X).stackTraces = false) (hL : L ≤ 2048) (ht : t ≤ 512) (hi : 0 ≤ 4 * (t : Int) ∧ 4 * (t : Int) + 4 ≤ L) (hJ : Jn A M) (rA : RMx ad A) (rM : RMm M) (nx : Nx g ad2 sk ao b X t ad) : E (wV g (KH sk) (LW g ad ad2 ao A M o)) X (400 + t + lkC ad) (600000 + 6 * t + lkS ad) M0 1898 [(0, .ref b), (1, .ref (ad 0)), (2, .ref (ad2 0)), (3, .ref ao), (4, vI (4 * (t : Int)))] [] := by
  have l1 := lkC_le ad
  have l2 := lkS_le ad
  exact lb_write (S := fun _ _ => True) (ma := 1) (na := 6) CL SX hst hL hi rA rM (by omega) (by omega) (fun l hl => ct_mono (x_write hJ (sx_r _ _) l hl) (fun v B ⟨z, e, h⟩ => ⟨z, e, h, trivial⟩) (fun _ _ h => h)) (m_write hJ (sx_r _ _)) (fun A1 M1 o1 h1 h2 h3 _ _ => nx ad A1 M1 o1 _ _ (by omega) (by omega) h3 h1 h2 rfl)
theorem lc_written {t : Nat} {ad : Nat → Nat} {A M : Mem} {o : Int} (CL : ∀ ws, OkH (fun _ => True) (wV g (KH sk) ws) X cL_law RL 7 20 601024 7293034) (SX : SxL X b L xs) (hst : (lnc X).stackTraces = false) (hL : L ≤ 2048) (ht : t ≤ 512) (hi : 0 ≤ 4 * (t : Int) ∧ 4 * (t : Int) + 4 ≤ L) (hJ : Jn A M) (rA : RMx ad A) (rM : RMm M) (nx : Nx g ad2 sk ao b X t ad) : E (wV g (KH sk) (LW g ad ad2 ao A M o)) X (400 + t + lkC ad) (600000 + 6 * t + lkS ad) M0 1954 [(0, .ref b), (1, .ref (ad 0)), (2, .ref (ad2 0)), (3, .ref ao), (4, vI (4 * (t : Int)))] [] := by
  have l1 := lkC_le ad
  have l2 := lkS_le ad
  exact lb_written CL SX hst hL hi rA rM (by omega) (by omega) (x_written hJ (sx_r _ _)) (m_written hJ (sx_r _ _)) (fun A1 M1 h1 h2 h3 => nx ad A1 M1 o _ _ (by omega) (by omega) h3 h1 h2 rfl)
theorem lc_undo {t : Nat} {ad : Nat → Nat} {A M : Mem} {o : Int} (CL : ∀ ws, OkH (fun _ => True) (wV g (KH sk) ws) X cL_law RL 7 20 601024 7293034) (SX : SxL X b L xs) (hst : (lnc X).stackTraces = false) (hL : L ≤ 2048) (ht : t ≤ 512) (hi : 0 ≤ 4 * (t : Int) ∧ 4 * (t : Int) + 4 ≤ L) (hJ : Jn A M) (rA : RMx ad A) (rM : RMm M) (nx : Nx g ad2 sk ao b X t ad) : E (wV g (KH sk) (LW g ad ad2 ao A M o)) X (400 + t + lkC ad) (600000 + 6 * t + lkS ad) M0 1979 [(0, .ref b), (1, .ref (ad 0)), (2, .ref (ad2 0)), (3, .ref ao), (4, vI (4 * (t : Int)))] [] := by
  have l1 := lkC_le ad
  have l2 := lkS_le ad
  exact lb_undo (S := fun _ _ => True) (ma := 1) (na := 6) CL SX hst hL hi rA rM (by omega) (by omega) (fun l hl => ct_mono (x_undo hJ  l hl) (fun v B ⟨z, e, h⟩ => ⟨z, e, h, trivial⟩) (fun _ _ h => h)) (m_undo hJ ) (fun A1 M1 o1 h1 h2 h3 _ _ => nx ad A1 M1 o1 _ _ (by omega) (by omega) h3 h1 h2 rfl)
theorem lc_checksum {t : Nat} {ad : Nat → Nat} {A M : Mem} {o : Int} (CL : ∀ ws, OkH (fun _ => True) (wV g (KH sk) ws) X cL_law RL 7 20 601024 7293034) (SX : SxL X b L xs) (hst : (lnc X).stackTraces = false) (hL : L ≤ 2048) (ht : t ≤ 512) (hi : 0 ≤ 4 * (t : Int) ∧ 4 * (t : Int) + 4 ≤ L) (hJ : Jn A M) (rA : RMx ad A) (rM : RMm M) (nx : Nx g ad2 sk ao b X t ad) : E (wV g (KH sk) (LW g ad ad2 ao A M o)) X (400 + t + lkC ad) (600000 + 6 * t + lkS ad) M0 2023 [(0, .ref b), (1, .ref (ad 0)), (2, .ref (ad2 0)), (3, .ref ao), (4, vI (4 * (t : Int)))] [] := by
  have l1 := lkC_le ad
  have l2 := lkS_le ad
  exact lb_checksum CL SX hst hL hi rA rM (by omega) (by omega) (x_checksum hJ ) (m_checksum hJ ) (fun A1 M1 h1 h2 h3 => nx ad A1 M1 o _ _ (by omega) (by omega) h3 h1 h2 rfl)
theorem l_round {t : Nat} {ad : Nat → Nat} {A M : Mem} {o : Int} (CL : ∀ ws, OkH (fun _ => True) (wV g (KH sk) ws) X cL_law RL 7 20 601024 7293034) (SX : SxL X b L xs) (hst : (lnc X).stackTraces = false) (hL : L ≤ 2048) (ht : t ≤ 512) (hi : 0 ≤ 4 * (t : Int) ∧ 4 * (t : Int) + 4 ≤ L) (hJ : Jn A M) (rA : RMx ad A) (rM : RMm M) (nx : Nx g ad2 sk ao b X t ad) : E (wV g (KH sk) (LW g ad ad2 ao A M o)) X (400 + t + lkC ad) (600000 + 6 * t + lkS ad) M0 32 [(0, .ref b), (1, .ref (ad 0)), (2, .ref (ad2 0)), (3, .ref ao), (4, vI (4 * (t : Int)))] [] := by
  have l1 := lkC_le ad
  have l2 := lkS_le ad
  refine h_aload_n (CL _) 0 dL_law_32 rfl ?_
  refine h_iload (CL _) 4 dL_law_33 rfl ?_
  refine h_sld (CL _) SX hL (by omega) dL_law_35 ?_
  refine h_bipush (CL _) dL_law_36 (by decide) ?_
  refine h_iand (CL _) dL_law_38 ?_
  have a63 := and_63 (sx xs (4 * (t : Int)))
  generalize iandI (sx xs (4 * (t : Int))) 63 = a at a63 ⊢
  by_cases h36 : 35 < a
  · exact h_tableOut (CL _) 2037 (by omega) dL_law_39 (Or.inr h36) (by decide) (nx ad A M o _ _ (by omega) (by omega) hJ rA rM rfl)
  · rcases (show a = 0 ∨ a = 1 ∨ a = 2 ∨ a = 3 ∨ a = 4 ∨ a = 5 ∨ a = 6 ∨ a = 7 ∨ a = 8 ∨ a = 9 ∨ a = 10 ∨ a = 11 ∨ a = 12 ∨ a = 13 ∨ a = 14 ∨ a = 15 ∨ a = 16 ∨ a = 17 ∨ a = 18 ∨ a = 19 ∨ a = 20 ∨ a = 21 ∨ a = 22 ∨ a = 23 ∨ a = 24 ∨ a = 25 ∨ a = 26 ∨ a = 27 ∨ a = 28 ∨ a = 29 ∨ a = 30 ∨ a = 31 ∨ a = 32 ∨ a = 33 ∨ a = 34 ∨ a = 35 by omega) with rfl | rfl | rfl | rfl | rfl | rfl | rfl | rfl | rfl | rfl | rfl | rfl | rfl | rfl | rfl | rfl | rfl | rfl | rfl | rfl | rfl | rfl | rfl | rfl | rfl | rfl | rfl | rfl | rfl | rfl | rfl | rfl | rfl | rfl | rfl | rfl
    · exact h_tableIn (CL _) 196 (by decide) dL_law_39 (by decide) (by decide) rfl (by decide) (lc_games CL SX hst hL ht hi hJ rA rM nx)
    · exact h_tableIn (CL _) 209 (by decide) dL_law_39 (by decide) (by decide) rfl (by decide) (lc_number CL SX hst hL ht hi hJ rA rM nx)
    · exact h_tableIn (CL _) 265 (by decide) dL_law_39 (by decide) (by decide) rfl (by decide) (lc_draft CL SX hst hL ht hi hJ rA rM nx)
    · exact h_tableIn (CL _) 333 (by decide) dL_law_39 (by decide) (by decide) rfl (by decide) (lc_clearDraft CL SX hst hL ht hi hJ rA rM nx)
    · exact h_tableIn (CL _) 346 (by decide) dL_law_39 (by decide) (by decide) rfl (by decide) (lc_make CL SX hst hL ht hi hJ rA rM nx)
    · exact h_tableIn (CL _) 390 (by decide) dL_law_39 (by decide) (by decide) rfl (by decide) (lc_negative CL SX hst hL ht hi hJ rA rM nx)
    · exact h_tableIn (CL _) 446 (by decide) dL_law_39 (by decide) (by decide) rfl (by decide) (lc_options CL SX hst hL ht hi hJ rA rM nx)
    · exact h_tableIn (CL _) 514 (by decide) dL_law_39 (by decide) (by decide) rfl (by decide) (lc_option CL SX hst hL ht hi hJ rA rM nx)
    · exact h_tableIn (CL _) 594 (by decide) dL_law_39 (by decide) (by decide) rfl (by decide) (lc_depth CL SX hst hL ht hi hJ rA rM nx)
    · exact h_tableIn (CL _) 650 (by decide) dL_law_39 (by decide) (by decide) rfl (by decide) (lc_compare CL SX hst hL ht hi hJ rA rM nx)
    · exact h_tableIn (CL _) 718 (by decide) dL_law_39 (by decide) (by decide) rfl (by decide) (lc_isCold CL SX hst hL ht hi hJ rA rM nx)
    · exact h_tableIn (CL _) 781 (by decide) dL_law_39 (by decide) (by decide) rfl (by decide) (lc_value CL SX hst hL ht hi hJ rA rM nx)
    · exact h_tableIn (CL _) 837 (by decide) dL_law_39 (by decide) (by decide) rfl (by decide) (lc_dominated CL SX hst hL ht hi hJ rA rM nx)
    · exact h_tableIn (CL _) 917 (by decide) dL_law_39 (by decide) (by decide) rfl (by decide) (lc_reversible CL SX hst hL ht hi hJ rA rM nx)
    · exact h_tableIn (CL _) 997 (by decide) dL_law_39 (by decide) (by decide) rfl (by decide) (lc_mean CL SX hst hL ht hi hJ rA rM nx)
    · exact h_tableIn (CL _) 1053 (by decide) dL_law_39 (by decide) (by decide) rfl (by decide) (lc_temperature CL SX hst hL ht hi hJ rA rM nx)
    · exact h_tableIn (CL _) 1109 (by decide) dL_law_39 (by decide) (by decide) rfl (by decide) (lc_wall CL SX hst hL ht hi hJ rA rM nx)
    · exact h_tableIn (CL _) 1189 (by decide) dL_law_39 (by decide) (by decide) rfl (by decide) (lc_corner CL SX hst hL ht hi hJ rA rM nx)
    · exact h_tableIn (CL _) 1269 (by decide) dL_law_39 (by decide) (by decide) rfl (by decide) (lc_add CL SX hst hL ht hi hJ rA rM nx)
    · exact h_tableIn (CL _) 1325 (by decide) dL_law_39 (by decide) (by decide) rfl (by decide) (lc_remove CL SX hst hL ht hi hJ rA rM nx)
    · exact h_tableIn (CL _) 1381 (by decide) dL_law_39 (by decide) (by decide) rfl (by decide) (lc_components CL SX hst hL ht hi hJ rA rM nx)
    · exact h_tableIn (CL _) 1394 (by decide) dL_law_39 (by decide) (by decide) rfl (by decide) (lc_component CL SX hst hL ht hi hJ rA rM nx)
    · exact h_tableIn (CL _) 1450 (by decide) dL_law_39 (by decide) (by decide) rfl (by decide) (lc_move CL SX hst hL ht hi hJ rA rM nx)
    · exact h_tableIn (CL _) 1530 (by decide) dL_law_39 (by decide) (by decide) rfl (by decide) (lc_size CL SX hst hL ht hi hJ rA rM nx)
    · exact h_tableIn (CL _) 1543 (by decide) dL_law_39 (by decide) (by decide) rfl (by decide) (lc_best CL SX hst hL ht hi hJ rA rM nx)
    · exact h_tableIn (CL _) 1599 (by decide) dL_law_39 (by decide) (by decide) rfl (by decide) (lc_advice CL SX hst hL ht hi hJ rA rM nx)
    · exact h_tableIn (CL _) 1667 (by decide) dL_law_39 (by decide) (by decide) rfl (by decide) (lc_play CL SX hst hL ht hi hJ rA rM nx)
    · exact h_tableIn (CL _) 1747 (by decide) dL_law_39 (by decide) (by decide) rfl (by decide) (lc_played CL SX hst hL ht hi hJ rA rM nx)
    · exact h_tableIn (CL _) 1772 (by decide) dL_law_39 (by decide) (by decide) rfl (by decide) (lc_type CL SX hst hL ht hi hJ rA rM nx)
    · exact h_tableIn (CL _) 1828 (by decide) dL_law_39 (by decide) (by decide) rfl (by decide) (lc_clearText CL SX hst hL ht hi hJ rA rM nx)
    · exact h_tableIn (CL _) 1841 (by decide) dL_law_39 (by decide) (by decide) rfl (by decide) (lc_fault CL SX hst hL ht hi hJ rA rM nx)
    · exact h_tableIn (CL _) 1854 (by decide) dL_law_39 (by decide) (by decide) rfl (by decide) (lc_read CL SX hst hL ht hi hJ rA rM nx)
    · exact h_tableIn (CL _) 1898 (by decide) dL_law_39 (by decide) (by decide) rfl (by decide) (lc_write CL SX hst hL ht hi hJ rA rM nx)
    · exact h_tableIn (CL _) 1954 (by decide) dL_law_39 (by decide) (by decide) rfl (by decide) (lc_written CL SX hst hL ht hi hJ rA rM nx)
    · exact h_tableIn (CL _) 1979 (by decide) dL_law_39 (by decide) (by decide) rfl (by decide) (lc_undo CL SX hst hL ht hi hJ rA rM nx)
    · exact h_tableIn (CL _) 2023 (by decide) dL_law_39 (by decide) (by decide) rfl (by decide) (lc_checksum CL SX hst hL ht hi hJ rA rM nx)
theorem l_loop (CL : ∀ ws, OkH (fun _ => True) (wV g (KH sk) ws) X cL_law RL 7 20 601024 7293034) (SX : SxL X b L xs) (hst : (lnc X).stackTraces = false) (hL : L ≤ 2048) (kend : ∀ ws k n lv, k ≤ 601024 → n ≤ 7293034 → E (wV g (KH sk) ws) X k n M0 2043 lv []) :
    ∀ (f t : Nat) (ad : Nat → Nat) (A M : Mem) (o : Int), 512 ≤ t + f → t ≤ 512 → Jn A M → RMx ad A → RMm M → E (wV g (KH sk) (LW g ad ad2 ao A M o)) X (400 + t + lkC ad) (600000 + 6 * t + lkS ad) M0 23 [(0, .ref b), (1, .ref (ad 0)), (2, .ref (ad2 0)), (3, .ref ao), (4, vI (4 * (t : Int)))] [] := by
  intro f
  induction f with
  | zero =>
    intro t ad A M o hf ht hJ rA rM
    have l1 := lkC_le ad
    have l2 := lkS_le ad
    refine h_iload (CL _) 4 dL_law_23 rfl ?_
    refine h_aload_n (CL _) 0 dL_law_25 rfl ?_
    refine h_slen (CL _) SX dL_law_26 ?_
    refine h_iconst (CL _) dL_law_27 ?_
    refine h_isub (CL _) dL_law_28 ?_
    exact h_icmp_gt (CL _) 2043 (by omega) (by omega) dL_law_29 (by decide) (fun _ => kend _ _ _ _ (by omega) (by omega)) (fun h => absurd h (by omega))
  | succ f ih =>
    intro t ad A M o hf ht hJ rA rM
    have l1 := lkC_le ad
    have l2 := lkS_le ad
    refine h_iload (CL _) 4 dL_law_23 rfl ?_
    refine h_aload_n (CL _) 0 dL_law_25 rfl ?_
    refine h_slen (CL _) SX dL_law_26 ?_
    refine h_iconst (CL _) dL_law_27 ?_
    refine h_isub (CL _) dL_law_28 ?_
    refine h_icmp_gt (CL _) 2043 (by omega) (by omega) dL_law_29 (by decide) (fun _ => kend _ _ _ _ (by omega) (by omega)) (fun h => ?_)
    refine l_round CL SX hst hL ht (by omega) hJ rA rM ?_
    intro ad' A' M' o' k' n' hk hn hJ' rA' rM' h0
    refine e_wid hk hn ?_
    refine h_iinc (lv' := [(4, vI (4 * (t : Int) + 4)), (0, .ref b), (1, .ref (ad 0)), (2, .ref (ad2 0)), (3, .ref ao)]) (CL _) 4 dL_law_2037 rfl (by decide) rfl ?_
    refine h_goto (CL _) 23 dL_law_2040 (by decide) ?_
    refine e_sub [1, 2, 3, 4, 0] rfl ?_
    have e4 : 4 * (t : Int) + 4 = 4 * ((t + 1 : Nat) : Int) := by omega
    rw [e4, ← h0]
    exact ih (t + 1) ad' A' M' o' (by omega) (by omega) hJ' rA' rM'
end LOOP
