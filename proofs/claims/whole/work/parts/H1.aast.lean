/-! ===== a game is put into the row of games ===== -/
theorem v_aast {g : Gs} {sk : (Nat → Nat) × (Nat → Nat)} {X : Cx} {cc : ByteArray} {own : String} {nL d mc ms k n : Nat} {M : Mem} {pc : Nat} {lv : List (Nat × Value)} {st : List Value} {ws : va_W} {a q0 qk v : Nat} {vs : List Value} {f : Nat → Option Nat} {i : Int} (C : OkB (wV g (KI sk) ws) X cc own nL d mc ms) (ha : ws[q0]? = some (a, .inl (g.2.2.2.2.2.1, 40, .inr (.inr (.inr (.inr f)))))) (hv : ws[qk]? = some (v, .inr (2, vs))) (hi : 0 ≤ i ∧ i < 40) (hd : decode cc pc = .ok (.aastore, 1)) (kk : E (wV g (KI sk) (ws.set q0 (a, .inl (g.2.2.2.2.2.1, 40, .inr (.inr (.inr (.inr (va_up f i.toNat (some v))))))))) X k n M (pc + 1) lv st) : E (wV g (KI sk) ws) X k n M pc lv (.ref v :: vI i :: .ref a :: st) := by
  obtain ⟨p, l, e, R, s, m, args, below, meth, c, A, Q, nL9⟩ := X
  obtain ⟨hx, hb, hml, hown, hts, hA, hK, hKK, hmv, rfl, hfr, hlo, hmc, hms, hlk, htb⟩ := C
  intro hw H locs ls hP hD hS hl
  refine va_astq (r := (RX2, TX2, 14)) hx hb hK hP hD hS q0 4 qk 2 ha rfl hv rfl (vp_in_i hi) hd (fun H1 locs1 hP1 hD1 hS1 => ?_)
  rw [clamp_i hi.1 (by omega)] at hP1 hD1
  exact kk trivial H1 locs1 ls hP1 hD1 hS1 hl
