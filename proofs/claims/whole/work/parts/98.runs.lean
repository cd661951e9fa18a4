/-! THE LAW: from its first place -/
theorem am_w_asS {e : am_E} {pc : Nat} (hd : decode (am_code e) pc = .ok (.astore_n 1, 1)) (y : Value) (l st : List Value) (h : am_H) (Q : Option Value → am_H → Prop) (a : Nat) : am_wp e pc (.retAddr 0 :: y :: l) (.ref a :: st) h Q = am_wp e (pc + 1) (.retAddr 0 :: .ref a :: l) st h Q := am_wp_nx hd (by simp [am_stp, am_istore, am_astore, am_l1, am_nx, Value.category])
theorem lw_a0 (xs : Nat → Int32) (L : Nat) (Q : Option Value → am_H → Prop) : am_wp E_L_law 0 [.retAddr 0, .null, .null, .null] [] (am_h0 xs L) Q = am_wp E_L_law 3 [.retAddr 0, .null, .null, .null] [.ref (0 : Nat)] (am_a0 xs L) Q := am_v_new (e := E_L_law) (am_row t_L_law_0 0 rfl) cx_11_7 _ _ _ _
theorem lw_kd0 (xs : Nat → Int32) (L : Nat) : (am_kd (am_a0 xs L) 0).1 = 8 := congrArg (·.1) (am_kd_m2 (am_h0 xs L) (8, 10) 0 rfl)
theorem lw_kd2 (xs : Nat → Int32) (L : Nat) : (am_kd (am_mk (am_a12 xs L) (9, 30)) 62).1 = 9 := congrArg (·.1) (am_kd_m2 (am_a12 xs L) (9, 30) 62 (am_ln_a12 xs L).symm)
theorem lw_first (xs : Nat → Int32) (L : Nat) (Q : Option Value → am_H → Prop) (hh : am_wp E_L_law 18 [.retAddr 0, .ref (0 : Nat), .ref (62 : Nat), .int (nI 0)] [] (am_hp (xs, L) am_I0 am_J0) Q) : am_wp E_L_law 0 [.retAddr 0, .null, .null, .null] [] (am_h0 xs L) Q := by
  rw [lw_a0]
  have f0 := lw_kd0 xs L
  have f2 := lw_kd2 xs L
  simp (disch := first | omega | assumption | (simp only [List.length_nil, List.length_cons, Nat.reduceAdd, Nat.reduceLeDiff]; done) | fail) only [Nat.reduceAdd, am_w_dupR (e := E_L_law) (am_row t_L_law_0 1 rfl), am_w_dupI (e := E_L_law) (am_row t_L_law_0 1 rfl), am_c2_R (e := E_L_law) (am_row t_L_law_0 2 rfl) ml_11_9 rfl (by decide) 8 rfl, am_wk_of (c_X9_init xs L), Option.toList_none, List.nil_append, am_w_asS (e := E_L_law) (am_row t_L_law_0 3 rfl), am_v_new (e := E_L_law) (am_row t_L_law_0 4 rfl) cx_11_10, am_ln_a12]
  simp (disch := first | omega | assumption | (simp only [List.length_nil, List.length_cons, Nat.reduceAdd, Nat.reduceLeDiff]; done) | fail) only [Nat.reduceAdd, am_w_dupR (e := E_L_law) (am_row t_L_law_0 5 rfl), am_w_dupI (e := E_L_law) (am_row t_L_law_0 5 rfl), am_c2_R (e := E_L_law) (am_row t_L_law_0 6 rfl) ml_11_12 rfl (by decide) 9 rfl, am_wk_of (c_X10_init (am_mk (am_a12 xs L) (9, 30)) 62 f2), Option.toList_none, List.nil_append, am_w_astore2i (e := E_L_law) (am_row t_L_law_0 7 rfl), am_w_astore2r (e := E_L_law) (am_row t_L_law_0 7 rfl), am_w_astore2n (e := E_L_law) (am_row t_L_law_0 7 rfl), am_w_iconst (e := E_L_law) (am_row t_L_law_0 8 rfl) (nI 0) rfl, am_w_istore3i (e := E_L_law) (am_row t_L_law_0 9 rfl), am_w_istore3r (e := E_L_law) (am_row t_L_law_0 9 rfl), am_w_istore3n (e := E_L_law) (am_row t_L_law_0 9 rfl)]
  have hb : am_mo (am_mk (am_a12 xs L) (9, 30)) 62 = am_hp (xs, L) am_I0 am_J0 := am_hp_b1 xs L
  rw [hb]
  exact hh
theorem lw_kn : am_Kst.length ≤ 600000 := by decide +kernel
theorem lw_sl : am_sl am_Kst ≤ 7302250 := by decide +kernel
theorem law_runs {L : Nat} (hL : L ≤ 384) (xs : Nat → Int32) : am_law xs L := by
  have hw : am_wp E_L_law 0 (am_loc E_L_law [.retAddr 0]) [] (am_h0 xs L) lwQ := by
    rw [show am_loc E_L_law [.retAddr 0] = [.retAddr 0, .null, .null, .null] from rfl]
    exact lw_first xs L lwQ (lw_loop (xs, L) hL (L + 1) 0 (by show L < 0 + (L + 1); omega) (Nat.zero_le _) S0 am_I0 am_J0 ci0 mi0 so0)
  obtain ⟨n, v, h', hr, hv, hk⟩ := hw
  refine ⟨n, h', ?_, ?_, ?_⟩
  · rw [hr, hv]
  · rw [hk]; exact lw_kn
  · rw [hk]; exact lw_sl
