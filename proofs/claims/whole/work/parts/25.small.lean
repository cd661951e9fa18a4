/-! answers that are true or false; the small methods without memory -/
def am_b (b : Bool) : Int32 := if b then nI 1 else nI 0
theorem am_z0 : (nI 0 = 0 ∨ nI 0 = 1) = True := eq_true (Or.inl rfl)
theorem am_z1 : (nI 1 = 0 ∨ nI 1 = 1) = True := eq_true (Or.inr rfl)
theorem am_zb (b : Bool) : (am_b b = 0 ∨ am_b b = 1) = True := by
  cases b
  · exact eq_true (Or.inl rfl)
  · exact eq_true (Or.inr rfl)
theorem am_b0 (b : Bool) : (am_b b = 0) = (b = false) := by
  cases b
  · exact eq_true rfl |>.trans (eq_true rfl).symm
  · exact (eq_false (by decide)).trans (eq_false (by decide)).symm
theorem am_bt : am_b true = nI 1 := rfl
theorem am_bf : am_b false = nI 0 := rfl
theorem am_w_zr0 {e : am_E} {pc : Nat} (hd : decode (am_code e) pc = .ok (.ireturn, 1)) (hr : am_rt e = some .boolean) (ls : List Value) (h : am_H) (Q : Option Value → am_H → Prop) : am_wp e pc ls [.int (nI 0)] h Q = Q (some (.int (nI 0))) h := am_w_zret hd hr ls h Q _ (Or.inl rfl)
theorem am_w_zr1 {e : am_E} {pc : Nat} (hd : decode (am_code e) pc = .ok (.ireturn, 1)) (hr : am_rt e = some .boolean) (ls : List Value) (h : am_H) (Q : Option Value → am_H → Prop) : am_wp e pc ls [.int (nI 1)] h Q = Q (some (.int (nI 1))) h := am_w_zret hd hr ls h Q _ (Or.inr rfl)
theorem am_w_zrb {e : am_E} {pc : Nat} (hd : decode (am_code e) pc = .ok (.ireturn, 1)) (hr : am_rt e = some .boolean) (ls : List Value) (h : am_H) (Q : Option Value → am_H → Prop) (b : Bool) : am_wp e pc ls [.int (am_b b)] h Q = Q (some (.int (am_b b))) h := am_w_zret hd hr ls h Q _ (of_eq_true (am_zb b))
theorem c_X9_within (h : am_H) (v lo hi : Int32) : am_R E_X9_within [.int v, .int lo, .int hi] h (some (.int (am_b (decide (lo ≤ v) && decide (v ≤ hi))))) h := by
  apply am_R_of
  rw [show am_loc E_X9_within [.int v, .int lo, .int hi] = [.int v, .int lo, .int hi] from rfl]
  simp (disch := first | omega | (simp (disch := omega) only [am_z0, am_z1, am_zb, am_n0, List.length_nil, List.length_cons, Nat.reduceAdd, Nat.reduceLeDiff, Nat.reduceLT, Option.isSome_some, not_false_eq_true, *]; done) | fail) only [Nat.reduceAdd, am_w_iload0 (e := E_X9_within) (am_row t_X9_within 0 rfl), am_w_iload1 (e := E_X9_within) (am_row t_X9_within 1 rfl), am_w_icmp_lt (e := E_X9_within) (am_row t_X9_within 2 rfl) 14 rfl, am_w_iload0 (e := E_X9_within) (am_row t_X9_within 3 rfl), am_w_iload2 (e := E_X9_within) (am_row t_X9_within 4 rfl), am_w_icmp_gt (e := E_X9_within) (am_row t_X9_within 5 rfl) 14 rfl, am_w_iconst (e := E_X9_within) (am_row t_X9_within 6 rfl) (nI 1) rfl, am_w_goto (e := E_X9_within) (am_row t_X9_within 7 rfl) 15 rfl, am_w_iconst (e := E_X9_within) (am_row t_X9_within 8 rfl) (nI 0) rfl, am_w_zr0 (e := E_X9_within) (am_row t_X9_within 9 rfl) rfl, am_w_zr1 (e := E_X9_within) (am_row t_X9_within 9 rfl) rfl, am_w_zrb (e := E_X9_within) (am_row t_X9_within 9 rfl) rfl]
  have e1 : (lo ≤ v) = ¬ (v < lo) := by rw [Int32.not_lt]
  have e2 : (v ≤ hi) = ¬ (hi < v) := by rw [Int32.not_lt]
  by_cases h1 : v < lo
  · simp [h1, e1, am_b]
  · by_cases h2 : hi < v
    · simp [h1, h2, e1, e2, am_b]
    · simp [h1, h2, e1, e2, am_b]
/-- the bit of a WORD in a set -/
def am_hs (t : Int32) (k : Nat) : Bool := decide (¬ (t &&& ((1 : Int32) <<< (nI k &&& 31))) = 0)
/-- has: a WORD is there -/
def sp_has (t w : Int32) : Bool := if w < 0 then false else if nI 8 ≤ w then false else decide (¬ (t &&& (nI 1 <<< (w &&& 31))) = 0)
theorem c_X4_has {r : Nat} (hr : am_rep r) (w : Int32) (X : (Nat → Int32) × Nat) (I : Nat → Nat → Int32) (J : Nat → Nat → Int64) : am_R E_X4_has [.ref r, .int w] (am_hp X I J) (some (.int (am_b (sp_has (I r 0) w)))) (am_hp X I J) := by
  have f1 := rp_k hr
  apply am_R_of
  rw [show am_loc E_X4_has [.ref r, .int w] = [.ref r, .int w] from rfl]
  simp (disch := first | omega | (simp (disch := omega) only [am_z0, am_z1, am_zb, am_n0, List.length_nil, List.length_cons, Nat.reduceAdd, Nat.reduceLeDiff, Nat.reduceLT, Option.isSome_some, not_false_eq_true, *]; done) | fail) only [Nat.reduceAdd, am_w_iload1 (e := E_X4_has) (am_row t_X4_has 0 rfl), am_w_if_lt (e := E_X4_has) (am_row t_X4_has 1 rfl) 25 rfl, am_w_iload1 (e := E_X4_has) (am_row t_X4_has 2 rfl), am_w_bipush (e := E_X4_has) (am_row t_X4_has 3 rfl) (nI 8) rfl, am_w_icmp_ge (e := E_X4_has) (am_row t_X4_has 4 rfl) 25 rfl, am_w_aload0 (e := E_X4_has) (am_row t_X4_has 5 rfl), am_p_getI (e := E_X4_has) (am_row t_X4_has 6 rfl) fl_4_49, am_w_iconst (e := E_X4_has) (am_row t_X4_has 7 rfl) (nI 1) rfl, am_w_iload1 (e := E_X4_has) (am_row t_X4_has 8 rfl), am_w_ishl (e := E_X4_has) (am_row t_X4_has 9 rfl), am_w_iand (e := E_X4_has) (am_row t_X4_has 10 rfl), am_w_if_eq (e := E_X4_has) (am_row t_X4_has 11 rfl) 25 rfl, am_w_iconst (e := E_X4_has) (am_row t_X4_has 12 rfl) (nI 1) rfl, am_w_goto (e := E_X4_has) (am_row t_X4_has 13 rfl) 26 rfl, am_w_iconst (e := E_X4_has) (am_row t_X4_has 14 rfl) (nI 0) rfl, am_w_zr0 (e := E_X4_has) (am_row t_X4_has 15 rfl) rfl, am_w_zr1 (e := E_X4_has) (am_row t_X4_has 15 rfl) rfl, am_w_zrb (e := E_X4_has) (am_row t_X4_has 15 rfl) rfl]
  unfold sp_has
  by_cases h1 : w < 0
  · simp [h1, am_b]
  · by_cases h2 : nI 8 ≤ w
    · simp [h1, h2, am_b]
    · by_cases h3 : (I r 0 &&& (nI 1 <<< (w &&& 31))) = 0
      · simp [h1, h2, h3, am_b]
      · simp [h1, h2, h3, am_b]
