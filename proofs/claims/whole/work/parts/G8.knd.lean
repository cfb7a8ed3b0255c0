/-! ===== steps of the beginning, by computation ===== -/
def dfB (L R : List Int) (d : Ds) : Bool := match d with
  | .inl _ => true
  | .inr q => ([0, 1, 2, 3, 4, 5, 6, 7, 8, 9] : List Int).any (fun x => (decide (x ∈ q.1) != decide (x ∈ L)) || (decide (x ∈ q.2.1) != decide (x ∈ R)))
def dpB (D : List Ds) (m x : Int) : Bool := decide (0 ≤ x ∧ x < 40) && match D[x.toNat]? with
  | none => false
  | some d => decide (dsD d ≤ m)
def mxB (D : List Ds) (m x : Int) : Bool := match D[x.toNat]? with
  | none => false
  | some d => decide (dsD d = m)
theorem kn_cmpD {G N : Mem} {D : List Ds} {l r z m : Int} {L R : List Int} (h : Kn G D) (hl : ∀ x, 0 ≤ x → x < 40 → (tb l x = true ↔ x ∈ L)) (hr : ∀ x, 0 ≤ x → x < 40 → (tb r x = true ↔ x ∈ R)) (sl : siz l ≤ 4) (sr : siz r ≤ 4) (hb : (decide (D.length < 40) && decide (0 ≤ m ∧ m ≤ 5) && (L ++ R).all (dpB D m) && (decide (m = 0) || (L ++ R).any (mxB D m)) && D.all (dfB L R)) = true) (k : CmpR G (G 0 0) l r z N) : z = (D.length : Int) ∧ Kn N (D ++ [.inr (L, R, m + 1)]) := by
  simp only [Bool.and_eq_true, Bool.or_eq_true, decide_eq_true_eq] at hb
  obtain ⟨⟨⟨⟨b1, b2⟩, b3⟩, b4⟩, b5⟩ := hb
  refine kn_cmp h hl hr sl sr b1 b2 (fun x hx => ?_) ?_ (fun q hq => ?_) k
  · have := List.all_eq_true.mp b3 x hx
    unfold dpB at this
    rw [Bool.and_eq_true, decide_eq_true_eq] at this
    refine ⟨this.1.1, this.1.2, ?_⟩
    have t2 := this.2
    cases e : D[x.toNat]? with
    | none => rw [e] at t2; cases t2
    | some d => rw [e] at t2; exact ⟨d, rfl, of_decide_eq_true t2⟩
  · rcases b4 with q | q
    · exact Or.inl q
    · obtain ⟨x, hx, t2⟩ := List.any_eq_true.mp q
      unfold mxB at t2
      cases e : D[x.toNat]? with
      | none => rw [e] at t2; cases t2
      | some d => rw [e] at t2; exact Or.inr ⟨x, hx, d, e, of_decide_eq_true t2⟩
  · have := List.all_eq_true.mp b5 _ hq
    obtain ⟨x, hx, t2⟩ := List.any_eq_true.mp (show (([0, 1, 2, 3, 4, 5, 6, 7, 8, 9] : List Int).any (fun x => (decide (x ∈ q.1) != decide (x ∈ L)) || (decide (x ∈ q.2.1) != decide (x ∈ R)))) = true from this)
    have xr : 0 ≤ x ∧ x < 40 := by
      simp only [List.mem_cons, List.not_mem_nil, or_false] at hx
      omega
    refine ⟨x, xr.1, xr.2, ?_⟩
    rw [Bool.or_eq_true, bne_iff_ne, bne_iff_ne] at t2
    rcases t2 with t | t
    · exact Or.inl (fun w => t (by rw [decide_eq_decide]; exact w))
    · exact Or.inr (fun w => t (by rw [decide_eq_decide]; exact w))
/-- a step of numbers, of pairs: the new game's number is the count -/
theorem st_num {G N : Mem} {D : List Ds} {e z : Int} (h : Kn G D) (hb : (decide (D.length < 40) && D.all (fun d => decide (d ≠ .inl e))) = true) (k : NumR G (G 0 0) e z N) : NumR G (D.length : Int) e (D.length : Int) N ∧ z = (D.length : Int) ∧ Kn N (D ++ [.inl e]) := by
  rw [Bool.and_eq_true, decide_eq_true_eq] at hb
  have s := kn_num h (fun d hd => of_decide_eq_true (List.all_eq_true.mp hb.2 d hd)) hb.1 k
  rw [h.2.1, s.1] at k
  exact ⟨k, s.1, s.2⟩
theorem st_pair {G N : Mem} {D : List Ds} {a b z m : Int} (h : Kn G D) (ha : 0 ≤ a ∧ a < 40) (hb0 : 0 ≤ b ∧ b < 40) (hb : (decide (D.length < 40) && decide (0 ≤ m ∧ m ≤ 5) && ([a] ++ [b]).all (dpB D m) && (decide (m = 0) || ([a] ++ [b]).any (mxB D m)) && D.all (dfB [a] [b])) = true) (k : CmpR G (G 0 0) (bt a) (bt b) z N) : CmpR G (D.length : Int) (bt a) (bt b) (D.length : Int) N ∧ z = (D.length : Int) ∧ Kn N (D ++ [.inr ([a], [b], m + 1)]) := by
  have s := kn_cmpD h (bt_in ha) (bt_in hb0) (bt_siz ha) (bt_siz hb0) hb k
  rw [h.2.1, s.1] at k
  exact ⟨k, s.1, s.2⟩
theorem st_last {G N : Mem} {D : List Ds} {z : Int} (h : Kn G D) (hb : (decide (D.length < 40) && decide ((0 : Int) ≤ 1 ∧ (1 : Int) ≤ 5) && (([0, 3] : List Int) ++ [0]).all (dpB D 1) && (decide ((1 : Int) = 0) || (([0, 3] : List Int) ++ [0]).any (mxB D 1)) && D.all (dfB [0, 3] [0])) = true) (k : CmpR G (G 0 0) (lorL (bt 0) (bt 3)) (bt 0) z N) : CmpR G (D.length : Int) (lorL (bt 0) (bt 3)) (bt 0) (D.length : Int) N ∧ z = (D.length : Int) ∧ Kn N (D ++ [.inr ([0, 3], [0], 1 + 1)]) := by
  have s := kn_cmpD (m := 1) h (L := [0, 3]) (fun x x0 x1 => by rw [tb_or, Bool.or_eq_true, bt_in (by decide) x x0 x1, bt_in (by decide) x x0 x1]; simp) (bt_in (by decide)) (by decide +kernel) (bt_siz (by decide)) hb k
  rw [h.2.1, s.1] at k
  exact ⟨k, s.1, s.2⟩
