/-! ===== the class: edgesLeaveRoom ===== -/
def RoomX (M : Mem) : Prop := M 8 0 < M 8 1 ∨ (M 8 0 = M 8 1 ∧ M 9 0 ≠ 0 ∧ M 9 1 ≠ 0)
theorem x_edgesLeaveRoom {g : Gs} {ad : Nat → Nat} {sk : (Nat → Nat) × (Nat → Nat)} {M : Mem} : SpI (wC g ad sk) yX5_edgesLeaveRoom cX5_edgesLeaveRoom 2 (some .boolean) 1 [.ref (ad 1)] (M) (fun r N => N = M ∧ (r = 0 ∨ r = 1) ∧ (r = 1 ↔ RoomX M)) := by
  intro l9 hl9
  refine ct_of hl9 mi_X5_edgesLeaveRoom.2.2.2 (Nat.le_of_ble_eq_true rfl) (fun X _ C Y => ?_)
  show E (wC g ad sk) X 0 0 (M) 0 [(0, .ref (ad 1))] []
  refine e_wf (fun hw => ?_)
  have k : ∀ t : Int, (t = 0 ∨ t = 1) → (t = 1 ↔ (M 9 0 ≠ 0 ∧ M 9 1 ≠ 0)) → E (wC g ad sk) X 0 0 (M) 23 [(0, .ref (ad 1))] [vI (t)] := by
    intro t t01 t1
    refine B_X5_edgesLeaveRoom_23 (by omega) (Nat.le_refl _) (Nat.le_refl _) C Y ⟨fun c => ⟨1, rfl, rfl, Or.inr rfl, fun _ => Or.inl c, fun _ => rfl⟩, fun c => ⟨fun c1 => ⟨0, rfl, rfl, Or.inl rfl, fun q => absurd q (by decide), fun q => ?_⟩, fun c1 => ⟨fun c2 => ⟨0, rfl, rfl, Or.inl rfl, fun q => absurd q (by decide), fun q => ?_⟩, fun c2 => ⟨1, rfl, rfl, Or.inr rfl, fun _ => Or.inr ⟨c1, t1.mp (by omega)⟩, fun _ => rfl⟩⟩⟩⟩
    · rcases q with q | q
      · omega
      · exact absurd q.1 c1
    · rcases q with q | q
      · omega
      · have := t1.mpr q.2; omega
  exact B_X5_edgesLeaveRoom_0  (Nat.le_refl _) (Nat.le_refl _) C Y ⟨fun c => k 0 (by omega) ⟨fun q => absurd q (by decide), fun q => absurd c q.1⟩, fun c => ⟨fun c1 => k 0 (by omega) ⟨fun q => absurd q (by decide), fun q => absurd c1 q.2⟩, fun c1 => k 1 (by omega) ⟨fun _ => ⟨c, c1⟩, fun _ => rfl⟩⟩⟩
theorem room_X {G M : Mem} {z : Int} (h0 : EdX G M z 0) (h1 : EdX G M z 1) : RoomX M ↔ roomE (loF G z) (upF G z) := by
  have e0 : G 3 (2 * z + 0) = 0 → loF G z = (-1000000, 0) := fun q => by rw [loF, q]; rfl
  have e1 : G 3 (2 * z + 1) = 0 → upF G z = (1000000, 0) := fun q => by rw [upF, q]; rfl
  unfold RoomX roomE
  rcases h0.2.1 rfl with ⟨a, b, c⟩ | ⟨a, b, c, d⟩ <;> rcases h1.2.2 rfl with ⟨a', b', c'⟩ | ⟨a', b', c', d'⟩
  · rw [e0 a, e1 a', b, b']; simp only; omega
  · rw [e0 a, ← b', ← c', b, c]; simp only; omega
  · rw [e1 a', ← b, ← c, b', c']; simp only; omega
  · rw [← b, ← c, ← b', ← c']
/-- the numbers between the class's edges are those between the reference's, as far as they reach -/
def BetX (M : Mem) (x : Int) : Prop := (M 8 0 < x ∨ (x = M 8 0 ∧ M 9 0 ≠ 0)) ∧ (x < M 8 1 ∨ (x = M 8 1 ∧ M 9 1 ≠ 0))
theorem bet_X {G M : Mem} {z x : Int} (h0 : EdX G M z 0) (h1 : EdX G M z 1) (hx : -1000000 < x ∧ x < 1000000) : BetX M x ↔ betE (loF G z) (upF G z) x := by
  have e0 : G 3 (2 * z + 0) = 0 → loF G z = (-1000000, 0) := fun q => by rw [loF, q]; rfl
  have e1 : G 3 (2 * z + 1) = 0 → upF G z = (1000000, 0) := fun q => by rw [upF, q]; rfl
  unfold BetX betE
  rcases h0.2.1 rfl with ⟨a, b, c⟩ | ⟨a, b, c, d⟩ <;> rcases h1.2.2 rfl with ⟨a', b', c'⟩ | ⟨a', b', c', d'⟩
  · rw [e0 a, e1 a', b, b']; simp only; omega
  · rw [e0 a, ← b', ← c', b, c]; simp only; omega
  · rw [e1 a', ← b, ← c, b', c']; simp only; omega
  · rw [← b, ← c, ← b', ← c']
