/-! ===== tokens ===== -/
/-- the kind of a character, as the class tells it; END is 0 -/
def kdC (c : Int) : Int := if 97 ≤ c ∧ c ≤ 122 then 2 else if 48 ≤ c ∧ c ≤ 57 then 3 else if c = 43 ∨ c = 45 ∨ c = 47 ∨ c = 123 ∨ c = 124 ∨ c = 125 ∨ c = 44 then c else 1
def kdA (u : Int → Int) (L k : Int) : Int := if k < L then kdC (u k) else 0
theorem kdC_r {c : Int} : 1 ≤ kdC c ∧ kdC c ≤ 125 := by
  unfold kdC
  split
  · omega
  · split
    · omega
    · split <;> omega
theorem kdA_r {u : Int → Int} {L k : Int} : 0 ≤ kdA u L k ∧ kdA u L k ≤ 125 ∧ (kdA u L k = 0 ↔ L ≤ k) := by
  unfold kdA
  have := kdC_r (c := u k)
  split <;> omega
/-- the token behind place e: where it starts, its kind, where it ends -/
def Tok (u : Int → Int) (L e st kd en : Int) : Prop := (e ≤ st ∧ st ≤ L) ∧ (∀ x, e ≤ x → x < st → u x = 32) ∧ (st < L → u st ≠ 32) ∧ kd = kdA u L st ∧ (kd = 0 → en = st) ∧ (kd ≠ 0 → st < en ∧ en ≤ L) ∧ ((kd = 2 ∨ kd = 3) → (∀ x, st ≤ x → x < en → kdA u L x = kd) ∧ kdA u L en ≠ kd) ∧ (kd ≠ 0 → kd ≠ 2 → kd ≠ 3 → en = st + 1)
theorem tok_uq {u : Int → Int} {L e st kd en st' kd' en' : Int} (h : Tok u L e st kd en) (h' : Tok u L e st' kd' en') : st = st' ∧ kd = kd' ∧ en = en' := by
  obtain ⟨a1, a2, a3, a4, a5, a6, a7, a8⟩ := h
  obtain ⟨b1, b2, b3, b4, b5, b6, b7, b8⟩ := h'
  have es : st = st' := by
    rcases Int.lt_trichotomy st st' with q | q | q
    · exact absurd (b2 st (by omega) q) (a3 (by omega))
    · exact q
    · exact absurd (a2 st' (by omega) q) (b3 (by omega))
  subst es
  have ek : kd = kd' := a4.trans b4.symm
  subst ek
  refine ⟨rfl, rfl, ?_⟩
  by_cases k0 : kd = 0
  · rw [a5 k0, b5 k0]
  · by_cases k2 : kd = 2 ∨ kd = 3
    · have p := a6 k0
      have q := b6 k0
      rcases Int.lt_trichotomy en en' with w | w | w
      · exact absurd ((b7 k2).1 en (by omega) w) (a7 k2).2
      · exact w
      · exact absurd ((a7 k2).1 en' (by omega) w) (b7 k2).2
    · rw [a8 k0 (by omega) (by omega), b8 k0 (by omega) (by omega)]
/-! the class -/
theorem x_kindAt {g : Gs} {ad : Nat → Nat} {sk : (Nat → Nat) × (Nat → Nat)} {A : Mem} {k : Int} (hk : 0 ≤ k ∧ k ≤ 100) (hL : A 23 0 ≤ 80) : SpI (wC g ad sk) yX8_kindAt cX8_kindAt 4 (some .int) 1 [.ref (ad 5), vI (k)] (A) (fun r P => r = kdA (fun i => A 24 i) (A 23 0) k ∧ P = A) := by
  intro l9 hl9
  refine ct_of hl9 mi_X8_kindAt.2.2.2 (Nat.le_of_ble_eq_true rfl) (fun X _ C Y => ?_)
  show E (wC g ad sk) X 0 0 (A) 0 [(0, .ref (ad 5)), (1, vI (k))] []
  refine e_wf (fun hw => ?_)
  have cr := hw.2.1 24 k rfl
  have b45 : k < A 23 0 → ¬ (97 ≤ A 24 k ∧ A 24 k ≤ 122) → ¬ (48 ≤ A 24 k ∧ A 24 k ≤ 57) → E (wC g ad sk) X 0 0 (A) 45 [(2, vI (A 24 k))] [] := by
    intro q q1 q2
    have X : ∀ t, (t = 1 ∧ (A 24 k = 43 ∨ A 24 k = 45 ∨ A 24 k = 47 ∨ A 24 k = 123 ∨ A 24 k = 124 ∨ A 24 k = 125 ∨ A 24 k = 44)) ∨ (t = 0 ∧ ¬ (A 24 k = 43 ∨ A 24 k = 45 ∨ A 24 k = 47 ∨ A 24 k = 123 ∨ A 24 k = 124 ∨ A 24 k = 125 ∨ A 24 k = 44)) → E (wC g ad sk) X 0 0 (A) 92 [(2, vI (A 24 k))] [vI (t)] := by
      intro t ht
      refine B_X8_kindAt_92 (by omega) (by omega) (Nat.zero_le _) (Nat.zero_le _) C Y ⟨fun t0 => ⟨_, rfl, ?_, rfl⟩, fun t1 => ⟨_, rfl, ?_, rfl⟩⟩
      · rcases ht with ⟨e, -⟩ | ⟨-, e⟩
        · omega
        · rw [kdA, if_pos q, kdC, if_neg q1, if_neg q2, if_neg e]
      · rcases ht with ⟨-, e⟩ | ⟨e, -⟩
        · rw [kdA, if_pos q, kdC, if_neg q1, if_neg q2, if_pos e]
        · omega
    refine B_X8_kindAt_45 (by omega) (Nat.zero_le _) (Nat.zero_le _) C Y ⟨fun c => X 1 (Or.inl ⟨rfl, by omega⟩), fun c => ⟨fun c1 => X 1 (Or.inl ⟨rfl, by omega⟩), fun c1 => ⟨fun c2 => X 1 (Or.inl ⟨rfl, by omega⟩), fun c2 => ⟨fun c3 => X 1 (Or.inl ⟨rfl, by omega⟩), fun c3 => ⟨fun c4 => X 1 (Or.inl ⟨rfl, by omega⟩), fun c4 => ⟨fun c5 => X 1 (Or.inl ⟨rfl, by omega⟩), fun c5 => ⟨fun c6 => X 0 (Or.inr ⟨rfl, by omega⟩), fun c6 => X 1 (Or.inl ⟨rfl, by omega⟩)⟩⟩⟩⟩⟩⟩⟩
  have b31 : k < A 23 0 → ¬ (97 ≤ A 24 k ∧ A 24 k ≤ 122) → E (wC g ad sk) X 0 0 (A) 31 [(2, vI (A 24 k))] [] := by
    intro q q1
    refine B_X8_kindAt_31 (by omega) (Nat.zero_le _) (Nat.zero_le _) C Y ⟨fun c => b45 q q1 (by omega), fun c => ⟨fun c1 => b45 q q1 (by omega), fun c1 => ⟨_, rfl, ?_, rfl⟩⟩⟩
    rw [kdA, if_pos q, kdC, if_neg q1, if_pos ⟨c, c1⟩]
  refine B_X8_kindAt_0 (by omega) (Nat.zero_le _) (Nat.zero_le _) C Y ⟨fun q => ⟨by omega, fun c => b31 q (by omega), fun c => ⟨fun c1 => b31 q (by omega), fun c1 => ⟨_, rfl, ?_, rfl⟩⟩⟩, fun q => ⟨_, rfl, ?_, rfl⟩⟩
  · rw [kdA, if_pos q, kdC, if_pos ⟨c, c1⟩]
  · rw [kdA, if_neg (by omega)]
