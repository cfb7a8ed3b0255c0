/-! ===== what the start gives ===== -/
def at9 : List Cond := [.exactly (.string RX9 105) "java/lang/String",
  .exactly (.string RX9 112) "java/lang/String",
  .exactly (.string RX9 131) "java/lang/String",
  .exactly (.string RX9 133) "java/lang/String",
  .exactly (.string RX9 138) "java/lang/String",
  .exactly (.string RX9 164) "java/lang/String",
  .exactly (.string RX9 181) "java/lang/String",
  .exactly (.string RX9 191) "java/lang/String",
  .exactly (.string RX9 201) "java/lang/String",
  .exactly (.string RX9 203) "java/lang/String",
  .exactly (.string RX9 238) "java/lang/String",
  .exactly (.string RX9 243) "java/lang/String",
  .exactly (.string RX9 252) "java/lang/String",
  .exactly (.string RX9 263) "java/lang/String",
  .exactly (.string RX9 266) "java/lang/String",
  .exactly (.string RX9 277) "java/lang/String",
  .exactly (.string RX9 300) "java/lang/String",
  .exactly (.string RX9 303) "java/lang/String",
  .exactly (.string RX9 305) "java/lang/String",
  .exactly (.string RX9 307) "java/lang/String",
  .exactly (.string RX9 312) "java/lang/String",
  .exactly (.string RX8 84) "java/lang/String",
  .exactly (.string RX8 93) "java/lang/String",
  .exactly (.string RX8 95) "java/lang/String",
  .eq (.field (.string RX8 84) "java/lang/String" "coder" "B") (.int 0),
  .eq (.field (.string RX8 93) "java/lang/String" "coder" "B") (.int 0),
  .eq (.field (.string RX8 95) "java/lang/String" "coder" "B") (.int 0),
  .arrayOf (.field (.string RX8 84) "java/lang/String" "value" "[B") .byte,
  .arrayOf (.field (.string RX8 93) "java/lang/String" "value" "[B") .byte,
  .arrayOf (.field (.string RX8 95) "java/lang/String" "value" "[B") .byte,
  .eq (.length (.field (.string RX8 84) "java/lang/String" "value" "[B")) (.int 4),
  .eq (.length (.field (.string RX8 93) "java/lang/String" "value" "[B")) (.int 2),
  .eq (.length (.field (.string RX8 95) "java/lang/String" "value" "[B")) (.int 4),
  .eq (.elem (.field (.string RX8 84) "java/lang/String" "value" "[B") (.int 0)) (.int 115),
  .eq (.elem (.field (.string RX8 84) "java/lang/String" "value" "[B") (.int 1)) (.int 116),
  .eq (.elem (.field (.string RX8 84) "java/lang/String" "value" "[B") (.int 2)) (.int 97),
  .eq (.elem (.field (.string RX8 84) "java/lang/String" "value" "[B") (.int 3)) (.int 114),
  .eq (.elem (.field (.string RX8 93) "java/lang/String" "value" "[B") (.int 0)) (.int 117),
  .eq (.elem (.field (.string RX8 93) "java/lang/String" "value" "[B") (.int 1)) (.int 112),
  .eq (.elem (.field (.string RX8 95) "java/lang/String" "value" "[B") (.int 0)) (.int 100),
  .eq (.elem (.field (.string RX8 95) "java/lang/String" "value" "[B") (.int 1)) (.int 111),
  .eq (.elem (.field (.string RX8 95) "java/lang/String" "value" "[B") (.int 2)) (.int 119),
  .eq (.elem (.field (.string RX8 95) "java/lang/String" "value" "[B") (.int 3)) (.int 110),
  .not (.eq (.string RX8 84) (.string RX8 93)),
  .not (.eq (.string RX8 84) (.string RX8 95)),
  .not (.eq (.string RX8 93) (.string RX8 95)),
  .eq (.static "java/lang/String" "COMPACT_STRINGS" "Z") (.int 1),
  .isRef (.static "jdk/internal/util/Preconditions" "SIOOBE_FORMATTER" "Ljava/util/function/BiFunction;"),
  .isRef (.static "java/lang/Throwable" "UNASSIGNED_STACK" "[Ljava/lang/StackTraceElement;"),
  .isRef (.static "java/lang/Throwable" "SUPPRESSED_SENTINEL" "Ljava/util/List;"),
  .not (.castable eIA eIO),
  .not (.castable eIS eIO),
  .not (.castable eIS eIA)]
set_option maxRecDepth 100000 in
theorem at9_in : ∀ x ∈ at9, x ∈ flatC (Jvm.Cond.and given_1 narrow_1) := by decide +kernel
section ST
variable {args : Array Value} {s : State}
theorem st_arr {ty : FieldType} (h : (Cond.arrayClass ty).before args s = true) : ∃ c : ClassId, ArrOfT s c ty ∧ s.vm.findClass ("[" ++ ty.toString) = some c := by
  obtain ⟨c, k, comp, h1, h2, h3⟩ := Cond.arrayClass_spec h
  exact ⟨c, fun n z => ⟨(fun k h => by cases h), k, h2, comp, h3⟩, h1⟩
theorem st_K (hts : ∀ x ∈ gT, x.before args s = true) (htl : ∀ x ∈ lw_tbl, x.before args s = true) : ∃ g : Gs, va_K g.1 vwCl (tysG g) s := by
  obtain ⟨c0, i0, k0⟩ := u_known (C := RX0) (T := TX0) (N := 2) (n := 2) hts inG0 (hts (.instantiable RX0 2) (tg1 205 rfl rfl))
  obtain ⟨c1, i1, k1⟩ := u_known (C := RX1) (T := TX1) (N := 5) (n := 5) hts inG1 (hts (.instantiable RX1 5) (tg2 22 rfl rfl))
  obtain ⟨c2, i2, k2⟩ := u_known (C := RX2) (T := TX2) (N := 14) (n := 14) hts inG2 (hts (.instantiable RX2 14) (tg1 43 rfl rfl))
  obtain ⟨c3, i3, k3⟩ := u_known (C := RX3) (T := TX3) (N := 2) (n := 2) hts inG3 (hts (.instantiable RX3 2) (tg2 62 rfl rfl))
  obtain ⟨c4, i4, k4⟩ := u_known (C := RX4) (T := TX4) (N := 3) (n := 3) hts inG4 (hts (.instantiable RX4 3) (tg2 44 rfl rfl))
  obtain ⟨c5, i5, k5⟩ := u_known (C := RX5) (T := TX5) (N := 6) (n := 6) hts inG5 (hts (.instantiable RX5 6) (tg1 34 rfl rfl))
  obtain ⟨c6, i6, k6⟩ := u_known (C := RX6) (T := TX6) (N := 8) (n := 8) hts inG6 (hts (.instantiable RX6 8) (tg1 173 rfl rfl))
  obtain ⟨c7, i7, k7⟩ := u_known (C := RX7) (T := TX7) (N := 2) (n := 2) hts inG7 (hts (.instantiable RX7 2) (tg1 156 rfl rfl))
  obtain ⟨c8, i8, k8⟩ := u_known (C := RX8) (T := TX8) (N := 11) (n := 11) hts inG8 (hts (.instantiable RX8 11) (tg1 218 rfl rfl))
  obtain ⟨c9, i9, k9⟩ := u_known (C := RX9) (T := TX9) (N := 12) (n := 12) hts inG9 (hts (.instantiable RX9 12) (tg1 26 rfl rfl))
  obtain ⟨c10, i10, k10⟩ := u_known (C := RX10) (T := TX10) (N := 64) (n := 64) hts inG10 (hts (.instantiable RX10 64) (tg5 162 rfl rfl))
  obtain ⟨aI, aI1, aI2⟩ := st_arr (htl (.arrayClass .int) (tw1 128 rfl))
  obtain ⟨aJ, aJ1, aJ2⟩ := st_arr (htl (.arrayClass .long) (tw1 127 rfl))
  obtain ⟨aZ, aZ1, aZ2⟩ := st_arr (htl (.arrayClass .boolean) (tw1 129 rfl))
  obtain ⟨aC, aC1, aC2⟩ := st_arr (htl (.arrayClass .char) (tw2 20 rfl))
  obtain ⟨cG, aG, kG, g1, -, g3, g4, g5⟩ := Cond.arrayOver_spec (htl (.arrayOver (.object "HotGames$Game")) (tw1 40 rfl))
  obtain ⟨cA, aA, kA, h1, -, h3, h4, h5⟩ := arrayOverA_spec (htl (.arrayOver (.array .int)) (tw1 42 rfl))
  refine ⟨((fun k => [c0, c1, c2, c3, c4, c5, c6, c7, c8, c9, c10].getD k c0, fun k => [i0, i1, i2, i3, i4, i5, i6, i7, i8, i9, i10].getD k i0), aI, aJ, aZ, aC, aG, aA), ?_, ?_⟩
  · intro k q hq
    match k, hq with
    | 0, hq => cases hq; exact k0
    | 1, hq => cases hq; exact k1
    | 2, hq => cases hq; exact k2
    | 3, hq => cases hq; exact k3
    | 4, hq => cases hq; exact k4
    | 5, hq => cases hq; exact k5
    | 6, hq => cases hq; exact k6
    | 7, hq => cases hq; exact k7
    | 8, hq => cases hq; exact k8
    | 9, hq => cases hq; exact k9
    | 10, hq => cases hq; exact k10
    | k + 11, hq => simp [vwCl] at hq
  · intro k q hq
    match k, hq with
    | 0, hq => cases hq; exact ⟨aI1, aI2⟩
    | 1, hq => cases hq; exact ⟨aJ1, aJ2⟩
    | 2, hq => cases hq; exact ⟨aZ1, aZ2⟩
    | 3, hq => cases hq; exact ⟨aC1, aC2⟩
    | 4, hq => cases hq; exact ⟨fun n z => ⟨(fun k h => by cases h), kG, g3, cG, g4⟩, kG, cG, g3, g4, g1, g5⟩
    | 5, hq => cases hq; exact ⟨fun n z => ⟨(fun k h => by cases h), kA, h3, cA, h4⟩, h5⟩
    | k + 6, hq => simp [tysG] at hq
theorem st_KH (htl : ∀ x ∈ lw_tbl, x.before args s = true) (hgv : (Jvm.Cond.and given_1 narrow_1).before args s = true) : ∃ sk, KH sk (fun q => s.heap.size ≤ q) s := by
  have hs := flat_of_before _ hgv
  have hat : ∀ x ∈ at9, x.before args s = true := fun x hx => hs x (at9_in x hx)
  have hA : ∀ a : Nat, a < s.heap.size → ¬ (fun q : Nat => s.heap.size ≤ q) a := fun a h1 h2 => Nat.not_le.mpr h1 h2
  have hT : ∀ (own : String) (k : Nat) (tx : String), (Cond.stringRef own k tx).before args s = true → (Cond.exactly (.string own k) "java/lang/String").before args s = true → ∃ a, vk_R own k tx a s := fun own k tx h1 h2 => by
    obtain ⟨a, c, cA, kA, q1, -⟩ := Cond.exactly_spec (args := args) (first := s) (o := none) (s := s) (idx := []) h2
    exact ⟨a, vk_R.of h1 q1⟩
  have e0 : ∀ i : Nat, i < 3 → (Cond.exactly ((fun i => match i with | 0 => (.string RX8 84) | 1 => (.string RX8 93) | _ => (.string RX8 95)) i) "java/lang/String").before args s = true := fun i hi => by
    rcases (show i = 0 ∨ i = 1 ∨ i = 2 by omega) with rfl | rfl | rfl
    · exact (hat _ (List.mem_of_getElem? (i := 21) rfl))
    · exact (hat _ (List.mem_of_getElem? (i := 22) rfl))
    · exact (hat _ (List.mem_of_getElem? (i := 23) rfl))
  have e1 : ∀ i : Nat, i < 3 → (Cond.eq (.field ((fun i => match i with | 0 => (.string RX8 84) | 1 => (.string RX8 93) | _ => (.string RX8 95)) i) "java/lang/String" "coder" "B") (.int 0)).before args s = true := fun i hi => by
    rcases (show i = 0 ∨ i = 1 ∨ i = 2 by omega) with rfl | rfl | rfl
    · exact (hat _ (List.mem_of_getElem? (i := 24) rfl))
    · exact (hat _ (List.mem_of_getElem? (i := 25) rfl))
    · exact (hat _ (List.mem_of_getElem? (i := 26) rfl))
  have e2 : ∀ i : Nat, i < 3 → (Cond.arrayOf (.field ((fun i => match i with | 0 => (.string RX8 84) | 1 => (.string RX8 93) | _ => (.string RX8 95)) i) "java/lang/String" "value" "[B") .byte).before args s = true := fun i hi => by
    rcases (show i = 0 ∨ i = 1 ∨ i = 2 by omega) with rfl | rfl | rfl
    · exact (hat _ (List.mem_of_getElem? (i := 27) rfl))
    · exact (hat _ (List.mem_of_getElem? (i := 28) rfl))
    · exact (hat _ (List.mem_of_getElem? (i := 29) rfl))
  have e3 : ∀ i : Nat, i < 3 → (Cond.eq (.length (.field ((fun i => match i with | 0 => (.string RX8 84) | 1 => (.string RX8 93) | _ => (.string RX8 95)) i) "java/lang/String" "value" "[B")) (.int (Int32.ofNat (lenN.getD i 0)))).before args s = true := fun i hi => by
    rcases (show i = 0 ∨ i = 1 ∨ i = 2 by omega) with rfl | rfl | rfl
    · exact (hat _ (List.mem_of_getElem? (i := 30) rfl))
    · exact (hat _ (List.mem_of_getElem? (i := 31) rfl))
    · exact (hat _ (List.mem_of_getElem? (i := 32) rfl))
  have e4 : ∀ i : Nat, i < 3 → ∀ j : Nat, j < lenN.getD i 0 → (Cond.eq (.elem (.field ((fun i => match i with | 0 => (.string RX8 84) | 1 => (.string RX8 93) | _ => (.string RX8 95)) i) "java/lang/String" "value" "[B") (.int (Int32.ofNat j))) (.int ((bytN.getD i []).getD j 0))).before args s = true := fun i hi j hj => by
    rcases (show i = 0 ∨ i = 1 ∨ i = 2 by omega) with rfl | rfl | rfl
    · have hj : j < 4 := hj
      rcases (show j = 0 ∨ j = 1 ∨ j = 2 ∨ j = 3 by omega) with rfl | rfl | rfl | rfl
      · exact (hat _ (List.mem_of_getElem? (i := 33) rfl))
      · exact (hat _ (List.mem_of_getElem? (i := 34) rfl))
      · exact (hat _ (List.mem_of_getElem? (i := 35) rfl))
      · exact (hat _ (List.mem_of_getElem? (i := 36) rfl))
    · have hj : j < 2 := hj
      rcases (show j = 0 ∨ j = 1 by omega) with rfl | rfl
      · exact (hat _ (List.mem_of_getElem? (i := 37) rfl))
      · exact (hat _ (List.mem_of_getElem? (i := 38) rfl))
    · have hj : j < 4 := hj
      rcases (show j = 0 ∨ j = 1 ∨ j = 2 ∨ j = 3 by omega) with rfl | rfl | rfl | rfl
      · exact (hat _ (List.mem_of_getElem? (i := 39) rfl))
      · exact (hat _ (List.mem_of_getElem? (i := 40) rfl))
      · exact (hat _ (List.mem_of_getElem? (i := 41) rfl))
      · exact (hat _ (List.mem_of_getElem? (i := 42) rfl))
  have e5 : ∀ i j : Nat, i < 3 → j < 3 → i ≠ j → (Cond.not (Cond.eq ((fun i => match i with | 0 => (.string RX8 84) | 1 => (.string RX8 93) | _ => (.string RX8 95)) i) ((fun i => match i with | 0 => (.string RX8 84) | 1 => (.string RX8 93) | _ => (.string RX8 95)) j))).before args s = true ∨ (Cond.not (Cond.eq ((fun i => match i with | 0 => (.string RX8 84) | 1 => (.string RX8 93) | _ => (.string RX8 95)) j) ((fun i => match i with | 0 => (.string RX8 84) | 1 => (.string RX8 93) | _ => (.string RX8 95)) i))).before args s = true := fun i j hi hj hij => by
    rcases (show (i = 0 ∧ j = 1) ∨ (i = 1 ∧ j = 0) ∨ (i = 0 ∧ j = 2) ∨ (i = 2 ∧ j = 0) ∨ (i = 1 ∧ j = 2) ∨ (i = 2 ∧ j = 1) by omega) with ⟨rfl, rfl⟩ | ⟨rfl, rfl⟩ | ⟨rfl, rfl⟩ | ⟨rfl, rfl⟩ | ⟨rfl, rfl⟩ | ⟨rfl, rfl⟩
    · exact Or.inl (hat _ (List.mem_of_getElem? (i := 43) rfl))
    · exact Or.inr (hat _ (List.mem_of_getElem? (i := 43) rfl))
    · exact Or.inl (hat _ (List.mem_of_getElem? (i := 44) rfl))
    · exact Or.inr (hat _ (List.mem_of_getElem? (i := 44) rfl))
    · exact Or.inl (hat _ (List.mem_of_getElem? (i := 45) rfl))
    · exact Or.inr (hat _ (List.mem_of_getElem? (i := 45) rfl))
  obtain ⟨adK, adV, hS, hE⟩ := vk_Sof (tm := (fun i => match i with | 0 => (.string RX8 84) | 1 => (.string RX8 93) | _ => (.string RX8 95))) (len := lenN) (byt := bytN) (by decide) e0 e1 e2 e3 e4 e5 hA
  have n1 : ∀ q ∈ nestX, va_Nw (.methodLinkNest q.1 q.2.1 q.2.2.1 q.2.2.2) s := List.forall_mem_cons.mpr ⟨va_Nw.of rfl (htl _ (tw1 157 rfl)), List.forall_mem_cons.mpr ⟨va_Nw.of rfl (htl _ (tw1 219 rfl)), List.forall_mem_cons.mpr ⟨va_Nw.of rfl (htl _ (tw2 63 rfl)), List.forall_mem_cons.mpr ⟨va_Nw.of rfl (htl _ (tw5 59 rfl)), List.forall_mem_cons.mpr ⟨va_Nw.of rfl (htl _ (tw4 61 rfl)), List.forall_mem_cons.mpr ⟨va_Nw.of rfl (htl _ (tw4 72 rfl)), List.forall_mem_cons.mpr ⟨va_Nw.of rfl (htl _ (tw2 93 rfl)), List.forall_mem_cons.mpr ⟨va_Nw.of rfl (htl _ (tw2 86 rfl)), List.forall_mem_cons.mpr ⟨va_Nw.of rfl (htl _ (tw5 147 rfl)), List.forall_mem_cons.mpr ⟨va_Nw.of rfl (htl _ (tw1 44 rfl)), List.forall_mem_cons.mpr ⟨va_Nw.of rfl (htl _ (tw2 100 rfl)), List.forall_mem_cons.mpr ⟨va_Nw.of rfl (htl _ (tw2 143 rfl)), List.forall_mem_cons.mpr ⟨va_Nw.of rfl (htl _ (tw2 156 rfl)), List.forall_mem_cons.mpr ⟨va_Nw.of rfl (htl _ (tw4 148 rfl)), List.forall_mem_cons.mpr ⟨va_Nw.of rfl (htl _ (tw5 9 rfl)), List.forall_mem_cons.mpr ⟨va_Nw.of rfl (htl _ (tw5 14 rfl)), fun _ h => absurd h List.not_mem_nil⟩⟩⟩⟩⟩⟩⟩⟩⟩⟩⟩⟩⟩⟩⟩⟩
  have n2 : ∀ x ∈ declX, va_Nw (.declares x) s := List.forall_mem_cons.mpr ⟨va_Nw.of rfl (htl _ (tw3 163 rfl)), List.forall_mem_cons.mpr ⟨va_Nw.of rfl (htl _ (tw3 165 rfl)), List.forall_mem_cons.mpr ⟨va_Nw.of rfl (htl _ (tw3 167 rfl)), fun _ h => absurd h List.not_mem_nil⟩⟩⟩
  have n3 : ∀ c ∈ excX, va_Nw (.castable c c) s := List.forall_mem_cons.mpr ⟨va_Nw.of rfl (htl _ (tw3 161 rfl)), List.forall_mem_cons.mpr ⟨va_Nw.of rfl (htl _ (tw3 228 rfl)), List.forall_mem_cons.mpr ⟨va_Nw.of rfl (htl _ (tw4 23 rfl)), fun _ h => absurd h List.not_mem_nil⟩⟩⟩
  have n4 : ∀ q ∈ strX, ∃ a, vk_R RX9 q.1 q.2 a s := List.forall_mem_cons.mpr ⟨hT RX9 105 _ (htl _ (tw3 200 rfl)) (hat _ (List.mem_of_getElem? (i := 0) rfl)), List.forall_mem_cons.mpr ⟨hT RX9 112 _ (htl _ (tw3 235 rfl)) (hat _ (List.mem_of_getElem? (i := 1) rfl)), List.forall_mem_cons.mpr ⟨hT RX9 131 _ (htl _ (tw4 41 rfl)) (hat _ (List.mem_of_getElem? (i := 2) rfl)), List.forall_mem_cons.mpr ⟨hT RX9 133 _ (htl _ (tw4 49 rfl)) (hat _ (List.mem_of_getElem? (i := 3) rfl)), List.forall_mem_cons.mpr ⟨hT RX9 138 _ (htl _ (tw4 74 rfl)) (hat _ (List.mem_of_getElem? (i := 4) rfl)), List.forall_mem_cons.mpr ⟨hT RX9 164 _ (htl _ (tw4 118 rfl)) (hat _ (List.mem_of_getElem? (i := 5) rfl)), List.forall_mem_cons.mpr ⟨hT RX9 181 _ (htl _ (tw4 171 rfl)) (hat _ (List.mem_of_getElem? (i := 6) rfl)), List.forall_mem_cons.mpr ⟨hT RX9 191 _ (htl _ (tw4 195 rfl)) (hat _ (List.mem_of_getElem? (i := 7) rfl)), List.forall_mem_cons.mpr ⟨hT RX9 201 _ (htl _ (tw4 226 rfl)) (hat _ (List.mem_of_getElem? (i := 8) rfl)), List.forall_mem_cons.mpr ⟨hT RX9 203 _ (htl _ (tw4 227 rfl)) (hat _ (List.mem_of_getElem? (i := 9) rfl)), List.forall_mem_cons.mpr ⟨hT RX9 238 _ (htl _ (tw5 96 rfl)) (hat _ (List.mem_of_getElem? (i := 10) rfl)), List.forall_mem_cons.mpr ⟨hT RX9 243 _ (htl _ (tw5 97 rfl)) (hat _ (List.mem_of_getElem? (i := 11) rfl)), List.forall_mem_cons.mpr ⟨hT RX9 252 _ (htl _ (tw5 109 rfl)) (hat _ (List.mem_of_getElem? (i := 12) rfl)), List.forall_mem_cons.mpr ⟨hT RX9 263 _ (htl _ (tw5 122 rfl)) (hat _ (List.mem_of_getElem? (i := 13) rfl)), List.forall_mem_cons.mpr ⟨hT RX9 266 _ (htl _ (tw5 130 rfl)) (hat _ (List.mem_of_getElem? (i := 14) rfl)), List.forall_mem_cons.mpr ⟨hT RX9 277 _ (htl _ (tw5 156 rfl)) (hat _ (List.mem_of_getElem? (i := 15) rfl)), List.forall_mem_cons.mpr ⟨hT RX9 300 _ (htl _ (tw4 30 rfl)) (hat _ (List.mem_of_getElem? (i := 16) rfl)), List.forall_mem_cons.mpr ⟨hT RX9 303 _ (htl _ (tw4 207 rfl)) (hat _ (List.mem_of_getElem? (i := 17) rfl)), List.forall_mem_cons.mpr ⟨hT RX9 305 _ (htl _ (tw4 40 rfl)) (hat _ (List.mem_of_getElem? (i := 18) rfl)), List.forall_mem_cons.mpr ⟨hT RX9 307 _ (htl _ (tw5 36 rfl)) (hat _ (List.mem_of_getElem? (i := 19) rfl)), List.forall_mem_cons.mpr ⟨hT RX9 312 _ (htl _ (tw5 0 rfl)) (hat _ (List.mem_of_getElem? (i := 20) rfl)), fun _ h => absurd h List.not_mem_nil⟩⟩⟩⟩⟩⟩⟩⟩⟩⟩⟩⟩⟩⟩⟩⟩⟩⟩⟩⟩⟩
  have n5 : vx_Zq Bundle.tN "UNASSIGNED_STACK" Bundle.steD (fun q => s.heap.size ≤ q) s s.heap := vx_Zqof (args := args) (htl _ (tw3 186 rfl)) (htl _ (tw1 14 rfl)) (hat _ (List.mem_of_getElem? (i := 48) rfl)) hA
  have n6 : vx_Zq Bundle.tN "SUPPRESSED_SENTINEL" Bundle.listD (fun q => s.heap.size ≤ q) s s.heap := vx_Zqof (args := args) (htl _ (tw3 188 rfl)) (htl _ (tw1 14 rfl)) (hat _ (List.mem_of_getElem? (i := 49) rfl)) hA
  have n7 : va_Z "java/lang/String" "COMPACT_STRINGS" "Z" (.int 1) (fun q => s.heap.size ≤ q) s s.heap := va_Zof (args := args) (htl _ (tw3 63 rfl)) (htl _ (tw1 21 rfl)) (va_eqt (hat _ (List.mem_of_getElem? (i := 46) rfl))) hA
  have n8 : va_Zq "jdk/internal/util/Preconditions" "SIOOBE_FORMATTER" "Ljava/util/function/BiFunction;" (fun q => s.heap.size ≤ q) s s.heap := va_Zqof (args := args) (htl _ (tw3 79 rfl)) (htl _ (tw1 23 rfl)) (hat _ (List.mem_of_getElem? (i := 47) rfl)) hA
  have r0 : vk_R RX8 84 "star" (adK 0) s := vk_R.of (A := args) (htl _ (tw3 49 rfl)) (hE 0 (by decide))
  have r1 : vk_R RX8 93 "up" (adK 1) s := vk_R.of (A := args) (htl _ (tw3 110 rfl)) (hE 1 (by decide))
  have r2 : vk_R RX8 95 "down" (adK 2) s := vk_R.of (A := args) (htl _ (tw3 111 rfl)) (hE 2 (by decide))
  refine ⟨(adK, adV), ⟨⟨n1, n2, n3, n4, n5, n6, hS, ⟨r0, r1, r2⟩, n7, n8⟩, va_AO.of (htl _ (tw1 40 rfl)), htl _ (tw1 42 rfl)⟩, ?_⟩
  exact List.forall_mem_cons.mpr ⟨va_Nc.of (hat _ (List.mem_of_getElem? (i := 50) rfl)), List.forall_mem_cons.mpr ⟨va_Nc.of (hat _ (List.mem_of_getElem? (i := 51) rfl)), List.forall_mem_cons.mpr ⟨va_Nc.of (hat _ (List.mem_of_getElem? (i := 52) rfl)), fun _ h => absurd h List.not_mem_nil⟩⟩⟩
end ST
