set_option maxHeartbeats 4000000 in
theorem c_X6_init (h : am_H) (a : Nat) (ha : (am_kd h a).1 = 5) : am_R E_X6_init [.ref a] h none (am_se h a) := by
  have hlt := am_kd_lt ha (by decide)
  apply am_R_of
  rw [show am_loc E_X6_init [.ref a] = [.ref a] from rfl]
  simp (disch := first | omega | (simp (disch := first | omega | (simp only [am_ln_mk, am_ln_sR, am_ln_sI, am_ln_ri, *]; done) | (simp only [am_ln_mk, am_ln_sR, am_ln_sI, am_ln_ri, *]; omega) | fail) only [am_kd_m1, am_kd_m2, am_kd_ri, am_kd_rj, am_kd_sR, am_kd_sI, am_rw_kd, am_rw_R, am_cl, am_np, am_inN, am_n0, am_cat_i, am_cat_r, am_cat_n, List.length_nil, List.length_cons, Nat.reduceAdd, Nat.reduceLeDiff, Option.isSome_some, not_false_eq_true, am_ln_mk, am_ln_sR, am_ln_sI, am_ln_ri, *]; done) | fail) only [Nat.reduceAdd, am_w_aload0 (e := E_X6_init) (am_row t_X6_init 0 rfl), am_v_obj (e := E_X6_init) (am_row t_X6_init 1 rfl) ml_5_3 (by decide), am_w_aload0 (e := E_X6_init) (am_row t_X6_init 2 rfl), am_v_new (e := E_X6_init) (am_row t_X6_init 3 rfl) cx_5_9, am_w_dupR (e := E_X6_init) (am_row t_X6_init 4 rfl), am_w_dupI (e := E_X6_init) (am_row t_X6_init 4 rfl), am_c5_R (e := E_X6_init) (am_row t_X6_init 5 rfl) ml_5_11 rfl (by decide) 7 rfl, am_v_putR (e := E_X6_init) (am_row t_X6_init 6 rfl) fl_5_12 rfl, am_w_aload0 (e := E_X6_init) (am_row t_X6_init 7 rfl), am_v_new (e := E_X6_init) (am_row t_X6_init 8 rfl) cx_5_18, am_w_dupR (e := E_X6_init) (am_row t_X6_init 9 rfl), am_w_dupI (e := E_X6_init) (am_row t_X6_init 9 rfl), am_c5_R (e := E_X6_init) (am_row t_X6_init 10 rfl) ml_5_20 rfl (by decide) 6 rfl, am_v_putR (e := E_X6_init) (am_row t_X6_init 11 rfl) fl_5_21 rfl, am_w_aload0 (e := E_X6_init) (am_row t_X6_init 12 rfl), am_w_iconst (e := E_X6_init) (am_row t_X6_init 13 rfl) (nI 5) rfl, am_v_nwI (e := E_X6_init) (am_row t_X6_init 14 rfl), am_v_putR (e := E_X6_init) (am_row t_X6_init 15 rfl) fl_5_25 rfl, am_w_vret (e := E_X6_init) (am_row t_X6_init 16 rfl) rfl, am_cl, am_wk_of (c_X8_init _ _ _), am_wk_of (c_X7_init _ _ _), Option.toList_none, List.nil_append]
  exact ⟨trivial, rfl⟩
/-- a long array is made, and kept in a field -/
def am_rl (h : am_H) (a k N : Nat) : am_H := am_sR (am_mk h (11, N)) a k h.1.length
theorem am_ln_rl (h : am_H) (a k N : Nat) : (am_rl h a k N).1.length = h.1.length + 1 := by rw [am_rl, am_ln_sR, am_ln_mk]
theorem c_X0_inl (h : am_H) (a : Nat) (ha : (am_kd h a).1 = 0) : am_R E_X0_init [.ref a] h none (am_rl h a 0 100) := c_X0_init h a ha
theorem c_X1_inl (h : am_H) (a : Nat) (ha : (am_kd h a).1 = 1) : am_R E_X1_init [.ref a] h none (am_rl h a 0 9) := c_X1_init h a ha
/-- the class's memory, piece by piece -/
def am_a0 (xs : Nat → Int32) (L : Nat) : am_H := am_mk (am_h0 xs L) (8, 10)
def am_a1 (xs : Nat → Int32) (L : Nat) : am_H := am_sR (am_ri (am_mk (am_a0 xs L) (3, 2)) 1 0 60) 0 0 1
def am_a2 (xs : Nat → Int32) (L : Nat) : am_H := am_sR (am_rp (am_mk (am_a1 xs L) (4, 16)) 3) 0 1 3
def am_a3 (xs : Nat → Int32) (L : Nat) : am_H := am_sR (am_rp (am_mk (am_a2 xs L) (4, 16)) 14) 0 2 14
def am_a4 (xs : Nat → Int32) (L : Nat) : am_H := am_sR (am_mk (am_a3 xs L) (13, 2)) 0 3 25
def am_a5 (xs : Nat → Int32) (L : Nat) : am_H := am_sR (am_rp (am_mk (am_a4 xs L) (4, 16)) 26) 25 0 26
def am_a6 (xs : Nat → Int32) (L : Nat) : am_H := am_sR (am_rp (am_mk (am_a5 xs L) (4, 16)) 37) 25 1 37
def am_a7 (xs : Nat → Int32) (L : Nat) : am_H := am_sR (am_mk (am_a6 xs L) (12, 2)) 0 4 48
def am_a8 (xs : Nat → Int32) (L : Nat) : am_H := am_sR (am_ri (am_mk (am_a7 xs L) (6, 1)) 49 0 4) 0 5 49
def am_a9 (xs : Nat → Int32) (L : Nat) : am_H := am_sR (am_se (am_mk (am_a8 xs L) (5, 10)) 51) 0 6 51
def am_a10 (xs : Nat → Int32) (L : Nat) : am_H := am_sR (am_mk (am_a9 xs L) (2, 2)) 0 7 57
def am_a11 (xs : Nat → Int32) (L : Nat) : am_H := am_sR (am_rl (am_mk (am_a10 xs L) (0, 5)) 58 0 100) 0 8 58
def am_a12 (xs : Nat → Int32) (L : Nat) : am_H := am_sR (am_rl (am_mk (am_a11 xs L) (1, 5)) 60 0 9) 0 9 60
theorem am_ln_h0 (xs : Nat → Int32) (L : Nat) : (am_h0 xs L).1.length = 0 := rfl
theorem am_ln_a0 (xs : Nat → Int32) (L : Nat) : (am_a0 xs L).1.length = 1 := by
  simp only [am_a0, am_ln_sR, am_ln_ri, am_ln_rp, am_ln_rl, am_ln_se, am_ln_mk, am_ln_h0]
theorem am_ln_a1 (xs : Nat → Int32) (L : Nat) : (am_a1 xs L).1.length = 3 := by
  simp only [am_a1, am_ln_sR, am_ln_ri, am_ln_rp, am_ln_rl, am_ln_se, am_ln_mk, am_ln_a0]
theorem am_ln_a2 (xs : Nat → Int32) (L : Nat) : (am_a2 xs L).1.length = 14 := by
  simp only [am_a2, am_ln_sR, am_ln_ri, am_ln_rp, am_ln_rl, am_ln_se, am_ln_mk, am_ln_a1]
theorem am_ln_a3 (xs : Nat → Int32) (L : Nat) : (am_a3 xs L).1.length = 25 := by
  simp only [am_a3, am_ln_sR, am_ln_ri, am_ln_rp, am_ln_rl, am_ln_se, am_ln_mk, am_ln_a2]
theorem am_ln_a4 (xs : Nat → Int32) (L : Nat) : (am_a4 xs L).1.length = 26 := by
  simp only [am_a4, am_ln_sR, am_ln_ri, am_ln_rp, am_ln_rl, am_ln_se, am_ln_mk, am_ln_a3]
theorem am_ln_a5 (xs : Nat → Int32) (L : Nat) : (am_a5 xs L).1.length = 37 := by
  simp only [am_a5, am_ln_sR, am_ln_ri, am_ln_rp, am_ln_rl, am_ln_se, am_ln_mk, am_ln_a4]
theorem am_ln_a6 (xs : Nat → Int32) (L : Nat) : (am_a6 xs L).1.length = 48 := by
  simp only [am_a6, am_ln_sR, am_ln_ri, am_ln_rp, am_ln_rl, am_ln_se, am_ln_mk, am_ln_a5]
theorem am_ln_a7 (xs : Nat → Int32) (L : Nat) : (am_a7 xs L).1.length = 49 := by
  simp only [am_a7, am_ln_sR, am_ln_ri, am_ln_rp, am_ln_rl, am_ln_se, am_ln_mk, am_ln_a6]
theorem am_ln_a8 (xs : Nat → Int32) (L : Nat) : (am_a8 xs L).1.length = 51 := by
  simp only [am_a8, am_ln_sR, am_ln_ri, am_ln_rp, am_ln_rl, am_ln_se, am_ln_mk, am_ln_a7]
theorem am_ln_a9 (xs : Nat → Int32) (L : Nat) : (am_a9 xs L).1.length = 57 := by
  simp only [am_a9, am_ln_sR, am_ln_ri, am_ln_rp, am_ln_rl, am_ln_se, am_ln_mk, am_ln_a8]
theorem am_ln_a10 (xs : Nat → Int32) (L : Nat) : (am_a10 xs L).1.length = 58 := by
  simp only [am_a10, am_ln_sR, am_ln_ri, am_ln_rp, am_ln_rl, am_ln_se, am_ln_mk, am_ln_a9]
theorem am_ln_a11 (xs : Nat → Int32) (L : Nat) : (am_a11 xs L).1.length = 60 := by
  simp only [am_a11, am_ln_sR, am_ln_ri, am_ln_rp, am_ln_rl, am_ln_se, am_ln_mk, am_ln_a10]
theorem am_ln_a12 (xs : Nat → Int32) (L : Nat) : (am_a12 xs L).1.length = 62 := by
  simp only [am_a12, am_ln_sR, am_ln_ri, am_ln_rp, am_ln_rl, am_ln_se, am_ln_mk, am_ln_a11]
