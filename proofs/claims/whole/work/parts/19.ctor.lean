/-! the constructors, over any memory -/
theorem am_ln_mk (h : am_H) (q : am_K) : (am_mk h q).1.length = h.1.length + 1 := by simp [am_mk]
theorem am_ln_sR (h : am_H) (a k x : Nat) : (am_sR h a k x).1.length = h.1.length := rfl
theorem am_ln_sI (h : am_H) (a k : Nat) (x : Int32) : (am_sI h a k x).1.length = h.1.length := rfl
theorem am_kd_sR (h : am_H) (a k x c : Nat) : am_kd (am_sR h a k x) c = am_kd h c := rfl
theorem am_kd_sI (h : am_H) (a k c : Nat) (x : Int32) : am_kd (am_sI h a k x) c = am_kd h c := rfl
theorem am_kd_m1 (h : am_H) (q : am_K) (a : Nat) (ha : a < h.1.length) : am_kd (am_mk h q) a = am_kd h a := am_kd_mk ha
theorem am_cat_i (x : Int32) : (Value.int x).category = 1 := rfl
theorem am_cat_r (x : Nat) : (Value.ref x).category = 1 := rfl
theorem am_cat_n : Value.null.category = 1 := rfl
theorem am_cl (k : Nat) (h : k < 2 ^ 31) : (nI k).toNatClampNeg = k := nI_clamp h
theorem c_X3_init (h : am_H) (a : Nat) (ha : (am_kd h a).1 = 3) : am_R E_X3_init [.ref a] h none (am_sR (am_mk h (10, 60)) a 0 h.1.length) := by
  have hlt := am_kd_lt ha (by decide)
  apply am_R_of
  rw [show am_loc E_X3_init [.ref a] = [.ref a] from rfl]
  simp only [am_w_aload0 (e := E_X3_init) (am_row t_X3_init 0 rfl), am_v_obj (e := E_X3_init) (am_row t_X3_init 1 rfl) ml_3_3 (by decide), am_w_aload0 (e := E_X3_init) (am_row t_X3_init 2 rfl), am_w_bipush (e := E_X3_init) (am_row t_X3_init 3 rfl) (nI 60) rfl, am_v_nwI (e := E_X3_init) (am_row t_X3_init 4 rfl), am_v_putR (e := E_X3_init) (am_row t_X3_init 5 rfl) fl_3_9 rfl, am_w_vret (e := E_X3_init) (am_row t_X3_init 6 rfl) rfl, am_kd_m1 _ _ _ hlt, ha, am_cl 60 (by decide), List.length_nil, List.length_cons, nI_pos (n := 60) (by decide), Nat.reduceAdd, Nat.reduceLeDiff, and_self, not_false_eq_true]
