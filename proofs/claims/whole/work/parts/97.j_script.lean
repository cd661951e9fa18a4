/-! THE LAW: the script -/
theorem am_w_sld {e : am_E} {pc : Nat} (hd : decode (am_code e) pc = .ok (.iaload, 1)) (j : Nat) (X : (Nat → Int32) × Nat) (hj : j < X.2) (hL : X.2 ≤ 384) (ls st : List Value) (I : Nat → Nat → Int32) (J : Nat → Nat → Int64) (Q : Option Value → am_H → Prop) : am_wp e pc ls (.int (nI j) :: .retAddr 0 :: st) (am_hp X I J) Q = am_wp e (pc + 1) ls (.int (X.1 j) :: st) (am_hp X I J) Q := am_wp_nx hd (by
  show am_ald pc ls (.int (nI j) :: .retAddr 0 :: st) (am_hp X I J) 10 = _
  simp only [am_ald]
  rw [if_pos ⟨trivial, nI_in (N := X.2) hj (by omega), hL⟩, nI_clamp (by omega)]
  rfl)
theorem am_w_sln {e : am_E} {pc : Nat} (hd : decode (am_code e) pc = .ok (.arraylength, 1)) (X : (Nat → Int32) × Nat) (hL : X.2 ≤ 384) (ls st : List Value) (I : Nat → Nat → Int32) (J : Nat → Nat → Int64) (Q : Option Value → am_H → Prop) : am_wp e pc ls (.retAddr 0 :: st) (am_hp X I J) Q = am_wp e (pc + 1) ls (.int (nI X.2) :: st) (am_hp X I J) Q := am_wp_nx hd (by
  show am_aln pc ls (.retAddr 0 :: st) (am_hp X I J) = _
  simp only [am_aln]
  rw [if_pos (show (am_hp X I J).2.2.2.2.2 ≤ 384 from hL)]
  rfl)
/-- both calls, one after the other -/
theorem both {ec em : am_E} {as : List Value} {v : Value} {S S' : gS} (hc : cSt ec as v S S') (hm : mSt em as v S S') (X : (Nat → Int32) × Nat) (I : Nat → Nat → Int32) (J : Nat → Nat → Int64) (h1 : cInv I S) (h2 : mInv I S) : ∃ I1 J1 I2 J2, am_R ec (.ref (0 : Nat) :: as) (am_hp X I J) (some v) (am_hp X I1 J1) ∧ am_R em (.ref (62 : Nat) :: as) (am_hp X I1 J1) (some v) (am_hp X I2 J2) ∧ cInv I2 S' ∧ mInv I2 S' := by
  obtain ⟨I1, J1, r1, c1, f1⟩ := hc X I J h1
  obtain ⟨I2, J2, r2, m2, f2⟩ := hm X I1 J1 (mInv_hi h2 f1)
  exact ⟨I1, J1, I2, J2, r1, r2, cInv_lo c1 f2, m2⟩
