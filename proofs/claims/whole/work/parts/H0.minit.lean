/-! ===== the reference's constructor ===== -/
abbrev pkM (P : Mem) : Mem := fun c i => P (c + 2) i
def adP (P : Mem) : Nat → Nat := fun k => (P 1 (k : Int)).toNat
def mkP (ad : Nat → Nat) (N : Mem) : Mem := fun c i => match c with
  | 0 => 1
  | 1 => ((ad i.toNat : Nat) : Int)
  | c + 2 => N c i
abbrev wNM (g : Gs) (sk : (Nat → Nat) × (Nat → Nat)) (b : Nat) : Wd := (g.1, tysG g, fun P => if P 0 0 = 0 then [(b, .inr (10, dfX10))] else wlM g (adP P) (pkM P), fun P => P 0 0 = 0 ∨ RMm (pkM P), KI sk)
theorem ci_X10 {g : Gs} {sk : (Nat → Nat) × (Nat → Nat)} {b : Nat} : ∀ l : Launch, l.stackTraces = false → Ct (wNM g sk b) l yX10_init cX10_init 1 none 8 37 588736 [.ref b] M0 (fun v P => v = none ∧ P 0 0 = 1 ∧ adP P 0 = b ∧ MIn (pkM P)) NoX := by
  intro l9 hl9
  refine ct_ofI hl9 mi_X10_init.2.2.2 (Nat.le_of_ble_eq_true rfl) (fun X hX hnm C Y => ?_)
  have CC : ∀ ws, OkB (wV g (KI sk) ws) X cX10_init RX10 1 8 37 588736 := fun ws => okB_ws rfl rfl rfl C
  have hst : (lnc X).stackTraces = false := by rw [hX]; exact hl9
  show E (wNM g sk b) X 0 0 M0 0 [(0, .ref b)] []
  refine e_cv (w' := wV g (KI sk) [(b, .inr (10, dfX10))]) (M' := M0) rfl rfl (fun _ => trivial) ?_
  refine cm_arr (d := 7) CC hnm (Nat.le_refl _) (Nat.le_refl _) (fun L hL => ?_)
  refine cm_tail (ad := adQ (b :: L)) CC hst (Nat.le_refl _) (Nat.le_refl _) (fun N hN hM => ?_)
  exact e_cv (w' := wNM g sk b) (M' := mkP (adQ (b :: L)) N) rfl rfl (fun _ => Or.inr hN) (e_vret C Y (Nat.le_refl _) (Nat.le_refl _) dX10_init_415 ⟨rfl, rfl, rfl, hM⟩)
