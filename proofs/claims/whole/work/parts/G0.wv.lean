/-! ===== worlds that are lists; calls of methods that own a part of the list ===== -/
abbrev wV (g : Gs) (KK : (Nat → Prop) → State → Prop) (ws : va_W) : Wd := (g.1, tysG g, fun _ => ws, fun _ => True, KK)
def M0 : Mem := fun _ _ => 0
section WV
variable {g : Gs} {KK : (Nat → Prop) → State → Prop} {X : Cx} {cc cc' : ByteArray} {own : String} {nL d mc ms nL' d' mc' ms' : Nat} {k n : Nat} {M M' : Mem} {pc : Nat} {lv : List (Nat × Value)} {st As rest : List Value} {PQ PQ' : Option Value → Mem → Prop} {PX PX' : String → Mem → Prop} {y : MethodName} {ret ret' : Option FieldType} {ix : Nat} {ws ws' : va_W}
theorem okB_ws {w w' : Wd} (h1 : w.1 = w'.1) (h2 : w.2.1 = w'.2.1) (h3 : w.2.2.2.2 = w'.2.2.2.2) (C : OkB w X cc own nL d mc ms) : OkB w' X cc own nL d mc ms := by
  obtain ⟨p, l, e, R, s, m, args, below, meth, c, A, Q, nL9⟩ := X
  obtain ⟨hx, hb, hml, hown, hts, hA, hK, hKK, hmv, e9, hfr, hlo, hmc, hms, hlk2, htb⟩ := C
  refine ⟨hx, hb, hml, hown, hts, hA, ?_, ?_, ?_, e9, hfr, hlo, hmc, hms, hlk2, htb⟩
  · rw [← h1, ← h2]; exact hK
  · rw [← h3]; exact hKK
  · unfold KMv at hmv ⊢
    rw [← h3]; exact hmv
/-- the same cells under another world -/
theorem e_cv {w w' : Wd} (h1 : w.1 = w'.1) (hF : w.2.2.1 M = w'.2.2.1 M') (hwf : w.2.2.2.1 M → w'.2.2.2.1 M') (h : E w' X k n M' pc lv st) : E w X k n M pc lv st := by
  obtain ⟨p, l, e, R, s, m, args, below, meth, c, A, Q, nL9⟩ := X
  intro hw H locs ls hP hD hS hl
  exact h (hwf hw) H locs ls (by rw [← hF, ← h1]; exact hP) (by rw [← hF]; exact hD) hS hl
theorem va_P.mem {D : va_G} {cl : List vw_C} {ws ws' : va_W} {H : Heap} (h : va_P D cl ws H) (hs : ∀ q, q ∈ ws' → q ∈ ws) : va_P D cl ws' H := by
  intro k q hk
  obtain ⟨j, hj⟩ := List.getElem?_of_mem (hs q (List.mem_of_getElem? hk))
  exact h j q hj
theorem va_D.nd {A : Nat → Prop} {ws : va_W} (h : va_D A ws) : (ws.map Prod.fst).Nodup := by
  refine List.pairwise_iff_getElem.mpr (fun i j hi hj hij e => ?_)
  rw [List.length_map] at hi hj
  rw [List.getElem_map, List.getElem_map] at e
  have := h.1 i j ws[i] ws[j] (List.getElem?_eq_getElem hi) (List.getElem?_eq_getElem hj) e
  omega
theorem va_D.of {A : Nat → Prop} {ws : va_W} (h : (ws.map Prod.fst).Nodup) (hA : ∀ q, q ∈ ws → A q.1) : va_D A ws := by
  refine ⟨fun i j p q hi hj e => ?_, fun k q hk => hA q (List.mem_of_getElem? hk)⟩
  obtain ⟨li, ei⟩ := List.getElem?_eq_some_iff.mp hi
  obtain ⟨lj, ej⟩ := List.getElem?_eq_some_iff.mp hj
  have h2 := List.pairwise_iff_getElem.mp h
  rcases Nat.lt_trichotomy i j with w | w | w
  · refine absurd ?_ (h2 i j (by rw [List.length_map]; exact li) (by rw [List.length_map]; exact lj) w)
    rw [List.getElem_map, List.getElem_map, ei, ej]; exact e
  · exact w
  · refine absurd ?_ (h2 j i (by rw [List.length_map]; exact lj) (by rw [List.length_map]; exact li) w)
    rw [List.getElem_map, List.getElem_map, ei, ej]; exact e.symm
theorem va_D.mem {A : Nat → Prop} {ws : va_W} (h : va_D A ws) : ∀ q, q ∈ ws → A q.1 := fun q hq => by
  obtain ⟨j, hj⟩ := List.getElem?_of_mem hq
  exact h.2 j q hj
theorem e_perm (hp : ws.Perm ws') (h : E (wV g KK ws') X k n M pc lv st) : E (wV g KK ws) X k n M' pc lv st := by
  obtain ⟨p, l, e, R, s, m, args, below, meth, c, A, Q, nL9⟩ := X
  intro hw H locs ls hP hD hS hl
  refine h trivial H locs ls (va_P.mem hP (fun q hq => hp.mem_iff.mpr hq)) (va_D.of ?_ (fun q hq => hD.mem q (hp.mem_iff.mpr hq))) hS hl
  exact (hp.map Prod.fst).nodup_iff.mp hD.nd
theorem e_wid {w : Wd} {k' n' : Nat} (h1 : k ≤ k') (h2 : n ≤ n') (h : E w X k' n' M pc lv st) : E w X k n M pc lv st := by
  obtain ⟨p, l, e, R, s, m, args, below, meth, c, A, Q, nL9⟩ := X
  intro hw H locs ls hP hD hS hl
  exact W.widen h1 h2 (h hw H locs ls hP hD hS hl)
/-- what a callee that owns the cells wc has left, beside the cells wr that it doesn't own -/
theorem ap_keep {D : va_G} {cl : List vw_C} {A : Nat → Prop} {wr wc w1 : va_W} {H H1 : Heap} (hP : va_P D cl (wr ++ wc) H) (hD : va_D A (wr ++ wc)) (hsub : ∀ q, va_A wc H.size q → A q) (hP1 : va_P D cl w1 H1) (hD1 : va_D (va_A wc H.size) w1) (hF : ∀ q : Nat, q < H.size → ¬ va_A wc H.size q → H1[q]? = H[q]?) : va_P D cl (wr ++ w1) H1 ∧ va_D A (wr ++ w1) := by
  have nd := hD.nd
  rw [List.map_append, List.nodup_append] at nd
  have lt : ∀ q, q ∈ wr → q.1 < H.size := fun q hq => by
    obtain ⟨j, hj⟩ := List.getElem?_of_mem (List.mem_append_left wc hq)
    exact vx_lt hP hj
  have out : ∀ q, q ∈ wr → ¬ va_A wc H.size q.1 := by
    intro q hq h
    rcases h with ⟨k, e, h⟩ | h
    · exact nd.2.2 q.1 (List.mem_map.mpr ⟨q, hq, rfl⟩) q.1 (List.mem_map.mpr ⟨_, List.mem_of_getElem? h, rfl⟩) rfl
    · have := lt q hq; omega
  constructor
  · intro k q hk
    by_cases hl : k < wr.length
    · rw [List.getElem?_append_left hl] at hk
      have hm := List.mem_of_getElem? hk
      have hc := hF q.1 (lt q hm) (out q hm)
      have h0 := hP k q (by rw [List.getElem?_append_left hl]; exact hk)
      exact va_P.kept (ws := [q]) (H := H) (H1 := H1) (fun k9 q9 h9 => by
        have : k9 = 0 := by have := (List.getElem?_eq_some_iff.mp h9).1; simp at this; exact this
        subst this
        cases h9
        exact h0) (fun k9 q9 h9 => by
        have : k9 = 0 := by have := (List.getElem?_eq_some_iff.mp h9).1; simp at this; exact this
        subst this
        cases h9
        exact hc) 0 q rfl
    · rw [List.getElem?_append_right (by omega)] at hk
      exact hP1 _ q hk
  · refine va_D.of ?_ (fun q hq => ?_)
    · rw [List.map_append, List.nodup_append]
      refine ⟨nd.1, hD1.nd, fun a ha b hb e => ?_⟩
      obtain ⟨q, hq, rfl⟩ := List.mem_map.mp ha
      obtain ⟨r, hr, rfl⟩ := List.mem_map.mp hb
      exact out q hq (e ▸ hD1.mem r hr)
    · rcases List.mem_append.mp hq with h | h
      · exact hD.mem q (List.mem_append_left _ h)
      · exact hsub _ (hD1.mem q h)
/-- behind a call of a method that owns the cells of w at M -/
theorem e_runA {w : Wd} {mc' ms' : Nat} {st0 : List Value} {p : Program} {l : Launch} {e : Env} {R : Room} {s : State} {m : MethodId} {args : Array Value} {below : List Frame} {meth : Method} {c : Code} {A : Nat → Prop} {Q : State → Prop} {H : Heap} {locs : List Loc} {ls : Array Slot} {a : Array Value} {wr : va_W}
    (hr : vx_Run p l e R s m args below meth c H locs k n mc' ms' (F0 m pc ls st0) rest (QcW w (va_A (w.2.2.1 M) H.size) PQ' a) (XcW w (va_A (w.2.2.1 M) H.size) PX') (va_A (w.2.2.1 M) H.size))
    (hP : va_P w.1 vwCl (wr ++ w.2.2.1 M) H) (hD : va_D A (wr ++ w.2.2.1 M)) (hS : va_S A s.heap H locs) (hA : ∀ q, s.heap.size ≤ q → A q)
    (kret : ∀ (v : Option Value) (M1 : Mem) (H1 : Heap) (locs1 : List Loc), PQ' v M1 → w.2.2.2.1 M1 → va_P w.1 vwCl (wr ++ w.2.2.1 M1) H1 → va_D A (wr ++ w.2.2.1 M1) → va_S A s.heap H1 locs1 → W p l e R s m args below meth c H1 locs1 (k + mc') (n + ms') Q (F0 m (pc + 3) ls (v.toList ++ rest)))
    (kthr : ∀ (Ec : String) (M1 : Mem) (H1 : Heap) (locs1 : List Loc) (q : Addr) (ce : Cell), PX' Ec M1 → w.2.2.2.1 M1 → va_P w.1 vwCl (wr ++ w.2.2.1 M1) H1 → va_D A (wr ++ w.2.2.1 M1) → va_S A s.heap H1 locs1 → H1[q]? = some ce → ce.vm = .none → s.vm.findClass Ec = some ce.cls → vx_W p l e R s m args below meth c H1 locs1 (k + mc') (n + ms') Q (F0 m pc ls rest) q) :
    W p l e R s m args below meth c H locs k n Q (F0 m pc ls st0) := by
  have hDc : va_D A (w.2.2.1 M) := by
    refine va_D.of ?_ (fun q hq => hD.mem q (List.mem_append_right _ hq))
    have := hD.nd
    rw [List.map_append, List.nodup_append] at this
    exact this.2.1
  have hsub := va_sub hDc hS hA
  intro T hT X
  rcases hr T hT X with ⟨v, st₀, t, T', L, h0, X', hL, e1, e2, ⟨v', M1, hv, hq, hw1, hP1, hD1, hF1⟩, st⟩ | ⟨q, st₀, t, T', L, Ec, ce, h0, X', hL, e1, e2, ⟨M1, hq, hw1, hP1, hD1, hF1⟩, hce, hcv, hcl, st⟩
  · cases hv
    have hS1 := vx_keep h0 e1 hS (fun q _ h => hsub q h) (fun q h => hsub q h) hL hF1
    have ak := ap_keep hP hD hsub hP1 hD1 (fun q q1 q2 => by have := hF1.2 q (by rw [h0]; exact q1) q2; rwa [h0] at this)
    obtain ⟨t2, a1, b1⟩ := kret v M1 T'.heap (locs ++ L) hq hw1 (by rw [e1]; exact ak.1) ak.2 hS1.2.2 T' rfl X'
    exact ⟨t2, st t2 a1, b1⟩
  · have hS1 := vx_keep h0 e1 hS (fun q _ h => hsub q h) (fun q h => hsub q h) hL hF1
    have ak := ap_keep hP hD hsub hP1 hD1 (fun q q1 q2 => by have := hF1.2 q (by rw [h0]; exact q1) q2; rwa [h0] at this)
    obtain ⟨t2, a1, b1⟩ := kthr Ec M1 T'.heap (locs ++ L) q ce hq hw1 (by rw [e1]; exact ak.1) ak.2 hS1.2.2 (by rw [e1]; exact hce) hcv hcl T' rfl X'
    exact ⟨t2, st.trans a1, b1⟩
end WV
