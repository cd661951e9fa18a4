/-! a switch; TOLD -/
theorem am_w_tin {e : am_E} {pc len : Nat} {d lo hi : Int} {offs : Array Int} (hd : decode (am_code e) pc = .ok (.tableswitch d lo hi offs, len)) (x : Int32) (tgt : Nat) (o : Int) (h1 : ¬ (x.toInt < lo ∨ hi < x.toInt)) (ho : offs[(x.toInt - lo).toNat]? = some o) (ht : (pc : Int) + o = tgt) (ls st : List Value) (h : am_H) (Q : Option Value → am_H → Prop) : am_wp e pc ls (.int x :: st) h Q = am_wp e tgt ls st h Q := am_wp_nx hd (by
  show am_tsw pc ls (.int x :: st) h d lo hi offs = _
  simp only [am_tsw]
  rw [if_neg h1, ho]
  simp [am_jp, am_nx, ht])
theorem am_w_tout {e : am_E} {pc len : Nat} {d lo hi : Int} {offs : Array Int} (hd : decode (am_code e) pc = .ok (.tableswitch d lo hi offs, len)) (x : Int32) (tgt : Nat) (h1 : x.toInt < lo ∨ hi < x.toInt) (ht : (pc : Int) + d = tgt) (ls st : List Value) (h : am_H) (Q : Option Value → am_H → Prop) : am_wp e pc ls (.int x :: st) h Q = am_wp e tgt ls st h Q := am_wp_nx hd (by
  show am_tsw pc ls (.int x :: st) h d lo hi offs = _
  simp only [am_tsw]
  rw [if_pos h1]
  simp [am_jp, am_nx, ht])
theorem toInt_out {x : Int32} {n : Nat} (hn : n < 1000000) (h : ∀ k, k ≤ n → ¬ x = nI k) : x.toInt < 0 ∨ (n : Int) < x.toInt := by
  rcases ix_ex (x := x) (n + 1) (by omega) with g | ⟨g, g'⟩ | ⟨k, hk, rfl⟩
  · left
    have := Int32.lt_iff_toInt_lt.mp g
    simpa using this
  · right
    have := Int32.le_iff_toInt_le.mp g'
    rw [nI_toInt (by omega)] at this
    omega
  · exact absurd rfl (h k (by omega))
