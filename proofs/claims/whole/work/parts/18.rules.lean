/-! rules: fields, arrays, calls, over any memory h; then over am_hp -/
section AMV
variable {e e2 : am_E} {pc : Nat}
theorem am_v_getI {i ci k : Nat} {f : Bool} (hd : decode (am_code e) pc = .ok (.getfield i, 3)) (hf : am_flk (am_ow e) i = some (ci, k, 0, f)) (ls st : List Value) (h : am_H) (Q : Option Value → am_H → Prop) (a : Nat) (ha : (am_kd h a).1 = ci) : am_wp e pc ls (.ref a :: st) h Q = am_wp e (pc + 3) ls (.int (h.2.1 a k) :: st) h Q := am_wp_nx hd (by simp [am_stp, hf, am_gfx, ha, am_nx])
theorem am_v_getJ {i ci k : Nat} {f : Bool} (hd : decode (am_code e) pc = .ok (.getfield i, 3)) (hf : am_flk (am_ow e) i = some (ci, k, 1, f)) (ls st : List Value) (h : am_H) (Q : Option Value → am_H → Prop) (a : Nat) (ha : (am_kd h a).1 = ci) : am_wp e pc ls (.ref a :: st) h Q = am_wp e (pc + 3) ls (.long (h.2.2.1 a k) :: st) h Q := am_wp_nx hd (by simp [am_stp, hf, am_gfx, ha, am_nx])
theorem am_v_getR {i ci k : Nat} {f : Bool} (hd : decode (am_code e) pc = .ok (.getfield i, 3)) (hf : am_flk (am_ow e) i = some (ci, k, 2, f)) (ls st : List Value) (h : am_H) (Q : Option Value → am_H → Prop) (a x : Nat) (ha : (am_kd h a).1 = ci) (hx : h.2.2.2.1 a k = some x) : am_wp e pc ls (.ref a :: st) h Q = am_wp e (pc + 3) ls (.ref x :: st) h Q := am_wp_nx hd (by simp [am_stp, hf, am_gfx, ha, am_nx, hx])
theorem am_v_getRd {i ci k : Nat} {f : Bool} (hd : decode (am_code e) pc = .ok (.getfield i, 3)) (hf : am_flk (am_ow e) i = some (ci, k, 2, f)) (ls st : List Value) (h : am_H) (Q : Option Value → am_H → Prop) (a : Nat) (ha : (am_kd h a).1 = ci) (hx : (h.2.2.2.1 a k).isSome = true) : am_wp e pc ls (.ref a :: st) h Q = am_wp e (pc + 3) ls (.ref ((h.2.2.2.1 a k).getD 0) :: st) h Q := am_v_getR hd hf ls st h Q a _ ha (by cases hq : h.2.2.2.1 a k with | none => rw [hq] at hx; cases hx | some z => rfl)
theorem am_v_putI {i ci k : Nat} (hd : decode (am_code e) pc = .ok (.putfield i, 3)) (hf : am_flk (am_ow e) i = some (ci, k, 0, false)) (ls st : List Value) (h : am_H) (Q : Option Value → am_H → Prop) (a : Nat) (x : Int32) (ha : (am_kd h a).1 = ci) : am_wp e pc ls (.int x :: .ref a :: st) h Q = am_wp e (pc + 3) ls st (am_sI h a k x) Q := am_wp_nx hd (by simp [am_stp, hf, am_pfx, ha, am_nx])
theorem am_v_putJ {i ci k : Nat} (hd : decode (am_code e) pc = .ok (.putfield i, 3)) (hf : am_flk (am_ow e) i = some (ci, k, 1, false)) (ls st : List Value) (h : am_H) (Q : Option Value → am_H → Prop) (a : Nat) (x : Int64) (ha : (am_kd h a).1 = ci) : am_wp e pc ls (.long x :: .ref a :: st) h Q = am_wp e (pc + 3) ls st (am_sJ h a k x) Q := am_wp_nx hd (by simp [am_stp, hf, am_pfx, ha, am_nx])
theorem am_v_putR {i ci k : Nat} (hd : decode (am_code e) pc = .ok (.putfield i, 3)) (hf : am_flk (am_ow e) i = some (ci, k, 2, true)) (hn : e.1.name = "<init>") (ls st : List Value) (h : am_H) (Q : Option Value → am_H → Prop) (a x : Nat) (ha : (am_kd h a).1 = ci) : am_wp e pc ls (.ref x :: .ref a :: st) h Q = am_wp e (pc + 3) ls st (am_sR h a k x) Q := am_wp_nx hd (by simp [am_stp, hf, am_pfx, ha, am_nx, hn])
theorem am_v_iald (hd : decode (am_code e) pc = .ok (.iaload, 1)) (ls st : List Value) (h : am_H) (Q : Option Value → am_H → Prop) (a : Nat) (j : Int32) (ha : (am_kd h a).1 = 10) (hj : am_in j (am_kd h a).2) : am_wp e pc ls (.int j :: .ref a :: st) h Q = am_wp e (pc + 1) ls (.int (h.2.1 a j.toNatClampNeg) :: st) h Q := am_wp_nx hd (by simp only [am_stp, am_ald, if_pos (show (am_kd h a).1 = 10 ∧ am_in j (am_kd h a).2 from ⟨ha, hj⟩)]; rfl)
theorem am_v_bald (hd : decode (am_code e) pc = .ok (.baload, 1)) (ls st : List Value) (h : am_H) (Q : Option Value → am_H → Prop) (a : Nat) (j : Int32) (ha : (am_kd h a).1 = 12) (hj : am_in j (am_kd h a).2) : am_wp e pc ls (.int j :: .ref a :: st) h Q = am_wp e (pc + 1) ls (.int (h.2.1 a j.toNatClampNeg) :: st) h Q := am_wp_nx hd (by simp only [am_stp, am_ald, if_pos (show (am_kd h a).1 = 12 ∧ am_in j (am_kd h a).2 from ⟨ha, hj⟩)]; rfl)
theorem am_v_lald (hd : decode (am_code e) pc = .ok (.laload, 1)) (ls st : List Value) (h : am_H) (Q : Option Value → am_H → Prop) (a : Nat) (j : Int32) (ha : (am_kd h a).1 = 11) (hj : am_in j (am_kd h a).2) : am_wp e pc ls (.int j :: .ref a :: st) h Q = am_wp e (pc + 1) ls (.long (h.2.2.1 a j.toNatClampNeg) :: st) h Q := am_wp_nx hd (by simp only [am_stp, am_aldJ, if_pos (show (am_kd h a).1 = 11 ∧ am_in j (am_kd h a).2 from ⟨ha, hj⟩)]; rfl)
theorem am_v_aald (hd : decode (am_code e) pc = .ok (.aaload, 1)) (ls st : List Value) (h : am_H) (Q : Option Value → am_H → Prop) (a x : Nat) (j : Int32) (ha : (am_kd h a).1 = 13) (hj : am_in j (am_kd h a).2) (hx : h.2.2.2.1 a j.toNatClampNeg = some x) : am_wp e pc ls (.int j :: .ref a :: st) h Q = am_wp e (pc + 1) ls (.ref x :: st) h Q := am_wp_nx hd (by simp only [am_stp, am_aldR, if_pos (show (am_kd h a).1 = 13 ∧ am_in j (am_kd h a).2 from ⟨ha, hj⟩), hx]; rfl)
theorem am_v_iast (hd : decode (am_code e) pc = .ok (.iastore, 1)) (ls st : List Value) (h : am_H) (Q : Option Value → am_H → Prop) (a : Nat) (j x : Int32) (ha : (am_kd h a).1 = 10) (hj : am_in j (am_kd h a).2) : am_wp e pc ls (.int x :: .int j :: .ref a :: st) h Q = am_wp e (pc + 1) ls st (am_sI h a j.toNatClampNeg x) Q := am_wp_nx hd (by simp only [am_stp, am_ast, if_pos (show (am_kd h a).1 = 10 ∧ am_in j (am_kd h a).2 from ⟨ha, hj⟩)]; rfl)
theorem am_v_bast (hd : decode (am_code e) pc = .ok (.bastore, 1)) (ls st : List Value) (h : am_H) (Q : Option Value → am_H → Prop) (a : Nat) (j : Int32) (ha : (am_kd h a).1 = 12) (hj : am_in j (am_kd h a).2) : am_wp e pc ls (.int 1 :: .int j :: .ref a :: st) h Q = am_wp e (pc + 1) ls st (am_sI h a j.toNatClampNeg 1) Q := am_wp_nx hd (by simp only [am_stp, am_astZ]; rw [if_pos trivial, if_pos ⟨ha, hj, trivial⟩]; rfl)
theorem am_v_last (hd : decode (am_code e) pc = .ok (.lastore, 1)) (ls st : List Value) (h : am_H) (Q : Option Value → am_H → Prop) (a : Nat) (j : Int32) (x : Int64) (ha : (am_kd h a).1 = 11) (hj : am_in j (am_kd h a).2) : am_wp e pc ls (.long x :: .int j :: .ref a :: st) h Q = am_wp e (pc + 1) ls st (am_sJ h a j.toNatClampNeg x) Q := am_wp_nx hd (by simp only [am_stp, am_astJ, if_pos (show (am_kd h a).1 = 11 ∧ am_in j (am_kd h a).2 from ⟨ha, hj⟩)]; rfl)
theorem am_v_aast (hd : decode (am_code e) pc = .ok (.aastore, 1)) (ls st : List Value) (h : am_H) (Q : Option Value → am_H → Prop) (a x : Nat) (j : Int32) (ha : (am_kd h a).1 = 13) (hj : am_in j (am_kd h a).2) (hx : (am_kd h x).1 = 4) : am_wp e pc ls (.ref x :: .int j :: .ref a :: st) h Q = am_wp e (pc + 1) ls st (am_sR h a j.toNatClampNeg x) Q := am_wp_nx hd (by simp only [am_stp, am_astR, if_pos (show (am_kd h a).1 = 13 ∧ am_in j (am_kd h a).2 ∧ (am_kd h x).1 = 4 from ⟨ha, hj, hx⟩)]; rfl)
theorem am_v_new {i ci n : Nat} (hd : decode (am_code e) pc = .ok (.new i, 3)) (hk : am_clk (am_ow e) i = some (ci, n)) (ls st : List Value) (h : am_H) (Q : Option Value → am_H → Prop) : am_wp e pc ls st h Q = am_wp e (pc + 3) ls (.ref h.1.length :: st) (am_mk h (ci, n)) Q := am_wp_nx hd (by simp [am_stp, hk, am_nx])
theorem am_v_nwI (hd : decode (am_code e) pc = .ok (.newarray .int, 2)) (x : Int32) (h0 : ¬ x < 0) (hN2 : x.toNatClampNeg ≤ 1000) (ls st : List Value) (h : am_H) (Q : Option Value → am_H → Prop) : am_wp e pc ls (.int x :: st) h Q = am_wp e (pc + 2) ls (.ref h.1.length :: st) (am_mk h (10, x.toNatClampNeg)) Q := am_wp_nx hd (by simp only [am_stp, am_nwa, if_pos (And.intro h0 hN2)]; rfl)
theorem am_v_nwJ (hd : decode (am_code e) pc = .ok (.newarray .long, 2)) (x : Int32) (h0 : ¬ x < 0) (hN2 : x.toNatClampNeg ≤ 1000) (ls st : List Value) (h : am_H) (Q : Option Value → am_H → Prop) : am_wp e pc ls (.int x :: st) h Q = am_wp e (pc + 2) ls (.ref h.1.length :: st) (am_mk h (11, x.toNatClampNeg)) Q := am_wp_nx hd (by simp only [am_stp, am_nwa, if_pos (And.intro h0 hN2)]; rfl)
theorem am_v_nwZ (hd : decode (am_code e) pc = .ok (.newarray .boolean, 2)) (x : Int32) (h0 : ¬ x < 0) (hN2 : x.toNatClampNeg ≤ 1000) (ls st : List Value) (h : am_H) (Q : Option Value → am_H → Prop) : am_wp e pc ls (.int x :: st) h Q = am_wp e (pc + 2) ls (.ref h.1.length :: st) (am_mk h (12, x.toNatClampNeg)) Q := am_wp_nx hd (by simp only [am_stp, am_nwa, if_pos (And.intro h0 hN2)]; rfl)
theorem am_v_anw {i n : Nat} (hd : decode (am_code e) pc = .ok (.anewarray i, 3)) (hk : am_clk (am_ow e) i = some (4, n)) (x : Int32) (h0 : ¬ x < 0) (hN2 : x.toNatClampNeg ≤ 1000) (ls st : List Value) (h : am_H) (Q : Option Value → am_H → Prop) : am_wp e pc ls (.int x :: st) h Q = am_wp e (pc + 3) ls (.ref h.1.length :: st) (am_mk h (13, x.toNatClampNeg)) Q := am_wp_nx hd (by simp only [am_stp, hk, Option.bind_some, if_pos, am_nwa, if_pos (And.intro h0 hN2)]; rfl)
theorem am_v_obj {i : Nat} {e3 : am_E} (hd : decode (am_code e) pc = .ok (.invokespecial i, 3)) (hl : am_mlk (am_ow e) i = some (6, e3)) (hk : 0 < am_rk e) (ls st : List Value) (h : am_H) (Q : Option Value → am_H → Prop) (a : Nat) (hst : st.length ≤ 4) : am_wp e pc ls (.ref a :: st) h Q = am_wp e (pc + 3) ls st h Q := am_wp_nx hd (by simp [am_stp, hl, am_obj, hk, hst, am_nx])
theorem am_v_mx {i : Nat} {e3 : am_E} (hd : decode (am_code e) pc = .ok (.invokestatic i, 3)) (hl : am_mlk (am_ow e) i = some (8, e3)) (hk : 0 < am_rk e) (ls st : List Value) (h : am_H) (Q : Option Value → am_H → Prop) (x y : Int32) (hst : st.length ≤ 4) : am_wp e pc ls (.int y :: .int x :: st) h Q = am_wp e (pc + 3) ls (.int (if x < y then y else x) :: st) h Q := am_wp_nx hd (by simp [am_stp, hl, am_acp, am_mx, hk, hst, am_nx])
theorem am_v_acp {i : Nat} {e3 : am_E} (hd : decode (am_code e) pc = .ok (.invokestatic i, 3)) (hl : am_mlk (am_ow e) i = some (7, e3)) (hk : 0 < am_rk e) (ls st : List Value) (h : am_H) (Q : Option Value → am_H → Prop) (a a0 : Nat) (n : Int32) (hst : st.length ≤ 4) (hn : ¬ n < 0) (h0 : am_kd h a0 = (10, n.toNatClampNeg)) (h1 : am_kd h a = (10, n.toNatClampNeg)) : am_wp e pc ls (.int n :: .int 0 :: .ref a :: .int 0 :: .ref a0 :: st) h Q = am_wp e (pc + 3) ls st (am_cp h a a0) Q := am_wp_nx hd (by simp [am_stp, hl, am_acp, hk, hst, hn, h0, h1, am_nx])
theorem am_c0_I {i : Nat} (hd : decode (am_code e) pc = .ok (.invokestatic i, 3)) (hl : am_mlk (am_ow e) i = some (0, e2)) (hn : am_na e2 = 1) (hk : am_rk e2 < am_rk e) (ls st : List Value) (h : am_H) (Q : Option Value → am_H → Prop) (a0 : Int32) (hst : st.length ≤ 4) : am_wp e pc ls (.int a0 :: st) h Q = am_wk e2 [.int a0] h e pc ls st Q := am_wp_cl (q := (e2, [.int a0], st)) hd (by
  have hdp : am_dp 1 (.int a0 :: st) = true := am_dp_of (by simp; omega)
  have hok : am_cok e e2 0 (.int a0 :: st) h = true := by simp [am_cok, hn, hk, hdp, am_c1, am_recv]
  simp [am_stp, hl, am_acp, am_mx, am_obj, am_call, hok, hn])
theorem am_c0_II {i : Nat} (hd : decode (am_code e) pc = .ok (.invokestatic i, 3)) (hl : am_mlk (am_ow e) i = some (0, e2)) (hn : am_na e2 = 2) (hk : am_rk e2 < am_rk e) (ls st : List Value) (h : am_H) (Q : Option Value → am_H → Prop) (a0 : Int32) (a1 : Int32) (hst : st.length ≤ 4) : am_wp e pc ls (.int a1 :: .int a0 :: st) h Q = am_wk e2 [.int a0, .int a1] h e pc ls st Q := am_wp_cl (q := (e2, [.int a0, .int a1], st)) hd (by
  have hdp : am_dp 2 (.int a1 :: .int a0 :: st) = true := am_dp_of (by simp; omega)
  have hok : am_cok e e2 0 (.int a1 :: .int a0 :: st) h = true := by simp [am_cok, hn, hk, hdp, am_c1, am_recv]
  simp [am_stp, hl, am_acp, am_mx, am_obj, am_call, hok, hn])
theorem am_c0_III {i : Nat} (hd : decode (am_code e) pc = .ok (.invokestatic i, 3)) (hl : am_mlk (am_ow e) i = some (0, e2)) (hn : am_na e2 = 3) (hk : am_rk e2 < am_rk e) (ls st : List Value) (h : am_H) (Q : Option Value → am_H → Prop) (a0 : Int32) (a1 : Int32) (a2 : Int32) (hst : st.length ≤ 4) : am_wp e pc ls (.int a2 :: .int a1 :: .int a0 :: st) h Q = am_wk e2 [.int a0, .int a1, .int a2] h e pc ls st Q := am_wp_cl (q := (e2, [.int a0, .int a1, .int a2], st)) hd (by
  have hdp : am_dp 3 (.int a2 :: .int a1 :: .int a0 :: st) = true := am_dp_of (by simp; omega)
  have hok : am_cok e e2 0 (.int a2 :: .int a1 :: .int a0 :: st) h = true := by simp [am_cok, hn, hk, hdp, am_c1, am_recv]
  simp [am_stp, hl, am_acp, am_mx, am_obj, am_call, hok, hn])
theorem am_c1_R {i : Nat} (hd : decode (am_code e) pc = .ok (.invokevirtual i, 3)) (hl : am_mlk (am_ow e) i = some (1, e2)) (hn : am_na e2 = 1) (hk : am_rk e2 < am_rk e) (o : Nat) (ho : am_ow e2 = o) (ls st : List Value) (h : am_H) (Q : Option Value → am_H → Prop) (a0 : Nat) (hst : st.length ≤ 4) (ha : (am_kd h a0).1 = o) : am_wp e pc ls (.ref a0 :: st) h Q = am_wk e2 [.ref a0] h e pc ls st Q := am_wp_cl (q := (e2, [.ref a0], st)) hd (by
  have hdp : am_dp 1 (.ref a0 :: st) = true := am_dp_of (by simp; omega)
  have hok : am_cok e e2 1 (.ref a0 :: st) h = true := by simp [am_cok, hn, hk, hdp, am_c1, am_recv, ha, ho]
  simp [am_stp, hl, am_acp, am_mx, am_obj, am_call, hok, hn])
theorem am_c1_RI {i : Nat} (hd : decode (am_code e) pc = .ok (.invokevirtual i, 3)) (hl : am_mlk (am_ow e) i = some (1, e2)) (hn : am_na e2 = 2) (hk : am_rk e2 < am_rk e) (o : Nat) (ho : am_ow e2 = o) (ls st : List Value) (h : am_H) (Q : Option Value → am_H → Prop) (a0 : Nat) (a1 : Int32) (hst : st.length ≤ 4) (ha : (am_kd h a0).1 = o) : am_wp e pc ls (.int a1 :: .ref a0 :: st) h Q = am_wk e2 [.ref a0, .int a1] h e pc ls st Q := am_wp_cl (q := (e2, [.ref a0, .int a1], st)) hd (by
  have hdp : am_dp 2 (.int a1 :: .ref a0 :: st) = true := am_dp_of (by simp; omega)
  have hok : am_cok e e2 1 (.int a1 :: .ref a0 :: st) h = true := by simp [am_cok, hn, hk, hdp, am_c1, am_recv, ha, ho]
  simp [am_stp, hl, am_acp, am_mx, am_obj, am_call, hok, hn])
theorem am_c1_RII {i : Nat} (hd : decode (am_code e) pc = .ok (.invokevirtual i, 3)) (hl : am_mlk (am_ow e) i = some (1, e2)) (hn : am_na e2 = 3) (hk : am_rk e2 < am_rk e) (o : Nat) (ho : am_ow e2 = o) (ls st : List Value) (h : am_H) (Q : Option Value → am_H → Prop) (a0 : Nat) (a1 : Int32) (a2 : Int32) (hst : st.length ≤ 4) (ha : (am_kd h a0).1 = o) : am_wp e pc ls (.int a2 :: .int a1 :: .ref a0 :: st) h Q = am_wk e2 [.ref a0, .int a1, .int a2] h e pc ls st Q := am_wp_cl (q := (e2, [.ref a0, .int a1, .int a2], st)) hd (by
  have hdp : am_dp 3 (.int a2 :: .int a1 :: .ref a0 :: st) = true := am_dp_of (by simp; omega)
  have hok : am_cok e e2 1 (.int a2 :: .int a1 :: .ref a0 :: st) h = true := by simp [am_cok, hn, hk, hdp, am_c1, am_recv, ha, ho]
  simp [am_stp, hl, am_acp, am_mx, am_obj, am_call, hok, hn])
theorem am_c1_RIII {i : Nat} (hd : decode (am_code e) pc = .ok (.invokevirtual i, 3)) (hl : am_mlk (am_ow e) i = some (1, e2)) (hn : am_na e2 = 4) (hk : am_rk e2 < am_rk e) (o : Nat) (ho : am_ow e2 = o) (ls st : List Value) (h : am_H) (Q : Option Value → am_H → Prop) (a0 : Nat) (a1 : Int32) (a2 : Int32) (a3 : Int32) (hst : st.length ≤ 4) (ha : (am_kd h a0).1 = o) : am_wp e pc ls (.int a3 :: .int a2 :: .int a1 :: .ref a0 :: st) h Q = am_wk e2 [.ref a0, .int a1, .int a2, .int a3] h e pc ls st Q := am_wp_cl (q := (e2, [.ref a0, .int a1, .int a2, .int a3], st)) hd (by
  have hdp : am_dp 4 (.int a3 :: .int a2 :: .int a1 :: .ref a0 :: st) = true := am_dp_of (by simp; omega)
  have hok : am_cok e e2 1 (.int a3 :: .int a2 :: .int a1 :: .ref a0 :: st) h = true := by simp [am_cok, hn, hk, hdp, am_c1, am_recv, ha, ho]
  simp [am_stp, hl, am_acp, am_mx, am_obj, am_call, hok, hn])
theorem am_c1_RIIIII {i : Nat} (hd : decode (am_code e) pc = .ok (.invokevirtual i, 3)) (hl : am_mlk (am_ow e) i = some (1, e2)) (hn : am_na e2 = 6) (hk : am_rk e2 < am_rk e) (o : Nat) (ho : am_ow e2 = o) (ls st : List Value) (h : am_H) (Q : Option Value → am_H → Prop) (a0 : Nat) (a1 : Int32) (a2 : Int32) (a3 : Int32) (a4 : Int32) (a5 : Int32) (hst : st.length ≤ 4) (ha : (am_kd h a0).1 = o) : am_wp e pc ls (.int a5 :: .int a4 :: .int a3 :: .int a2 :: .int a1 :: .ref a0 :: st) h Q = am_wk e2 [.ref a0, .int a1, .int a2, .int a3, .int a4, .int a5] h e pc ls st Q := am_wp_cl (q := (e2, [.ref a0, .int a1, .int a2, .int a3, .int a4, .int a5], st)) hd (by
  have hdp : am_dp 6 (.int a5 :: .int a4 :: .int a3 :: .int a2 :: .int a1 :: .ref a0 :: st) = true := am_dp_of (by simp; omega)
  have hok : am_cok e e2 1 (.int a5 :: .int a4 :: .int a3 :: .int a2 :: .int a1 :: .ref a0 :: st) h = true := by simp [am_cok, hn, hk, hdp, am_c1, am_recv, ha, ho]
  simp [am_stp, hl, am_acp, am_mx, am_obj, am_call, hok, hn])
theorem am_c1_RR {i : Nat} (hd : decode (am_code e) pc = .ok (.invokevirtual i, 3)) (hl : am_mlk (am_ow e) i = some (1, e2)) (hn : am_na e2 = 2) (hk : am_rk e2 < am_rk e) (o : Nat) (ho : am_ow e2 = o) (ls st : List Value) (h : am_H) (Q : Option Value → am_H → Prop) (a0 : Nat) (a1 : Nat) (hst : st.length ≤ 4) (ha : (am_kd h a0).1 = o) : am_wp e pc ls (.ref a1 :: .ref a0 :: st) h Q = am_wk e2 [.ref a0, .ref a1] h e pc ls st Q := am_wp_cl (q := (e2, [.ref a0, .ref a1], st)) hd (by
  have hdp : am_dp 2 (.ref a1 :: .ref a0 :: st) = true := am_dp_of (by simp; omega)
  have hok : am_cok e e2 1 (.ref a1 :: .ref a0 :: st) h = true := by simp [am_cok, hn, hk, hdp, am_c1, am_recv, ha, ho]
  simp [am_stp, hl, am_acp, am_mx, am_obj, am_call, hok, hn])
theorem am_c1_RRI {i : Nat} (hd : decode (am_code e) pc = .ok (.invokevirtual i, 3)) (hl : am_mlk (am_ow e) i = some (1, e2)) (hn : am_na e2 = 3) (hk : am_rk e2 < am_rk e) (o : Nat) (ho : am_ow e2 = o) (ls st : List Value) (h : am_H) (Q : Option Value → am_H → Prop) (a0 : Nat) (a1 : Nat) (a2 : Int32) (hst : st.length ≤ 4) (ha : (am_kd h a0).1 = o) : am_wp e pc ls (.int a2 :: .ref a1 :: .ref a0 :: st) h Q = am_wk e2 [.ref a0, .ref a1, .int a2] h e pc ls st Q := am_wp_cl (q := (e2, [.ref a0, .ref a1, .int a2], st)) hd (by
  have hdp : am_dp 3 (.int a2 :: .ref a1 :: .ref a0 :: st) = true := am_dp_of (by simp; omega)
  have hok : am_cok e e2 1 (.int a2 :: .ref a1 :: .ref a0 :: st) h = true := by simp [am_cok, hn, hk, hdp, am_c1, am_recv, ha, ho]
  simp [am_stp, hl, am_acp, am_mx, am_obj, am_call, hok, hn])
theorem am_c1_RRII {i : Nat} (hd : decode (am_code e) pc = .ok (.invokevirtual i, 3)) (hl : am_mlk (am_ow e) i = some (1, e2)) (hn : am_na e2 = 4) (hk : am_rk e2 < am_rk e) (o : Nat) (ho : am_ow e2 = o) (ls st : List Value) (h : am_H) (Q : Option Value → am_H → Prop) (a0 : Nat) (a1 : Nat) (a2 : Int32) (a3 : Int32) (hst : st.length ≤ 4) (ha : (am_kd h a0).1 = o) : am_wp e pc ls (.int a3 :: .int a2 :: .ref a1 :: .ref a0 :: st) h Q = am_wk e2 [.ref a0, .ref a1, .int a2, .int a3] h e pc ls st Q := am_wp_cl (q := (e2, [.ref a0, .ref a1, .int a2, .int a3], st)) hd (by
  have hdp : am_dp 4 (.int a3 :: .int a2 :: .ref a1 :: .ref a0 :: st) = true := am_dp_of (by simp; omega)
  have hok : am_cok e e2 1 (.int a3 :: .int a2 :: .ref a1 :: .ref a0 :: st) h = true := by simp [am_cok, hn, hk, hdp, am_c1, am_recv, ha, ho]
  simp [am_stp, hl, am_acp, am_mx, am_obj, am_call, hok, hn])
theorem am_c1_RRIII {i : Nat} (hd : decode (am_code e) pc = .ok (.invokevirtual i, 3)) (hl : am_mlk (am_ow e) i = some (1, e2)) (hn : am_na e2 = 5) (hk : am_rk e2 < am_rk e) (o : Nat) (ho : am_ow e2 = o) (ls st : List Value) (h : am_H) (Q : Option Value → am_H → Prop) (a0 : Nat) (a1 : Nat) (a2 : Int32) (a3 : Int32) (a4 : Int32) (hst : st.length ≤ 4) (ha : (am_kd h a0).1 = o) : am_wp e pc ls (.int a4 :: .int a3 :: .int a2 :: .ref a1 :: .ref a0 :: st) h Q = am_wk e2 [.ref a0, .ref a1, .int a2, .int a3, .int a4] h e pc ls st Q := am_wp_cl (q := (e2, [.ref a0, .ref a1, .int a2, .int a3, .int a4], st)) hd (by
  have hdp : am_dp 5 (.int a4 :: .int a3 :: .int a2 :: .ref a1 :: .ref a0 :: st) = true := am_dp_of (by simp; omega)
  have hok : am_cok e e2 1 (.int a4 :: .int a3 :: .int a2 :: .ref a1 :: .ref a0 :: st) h = true := by simp [am_cok, hn, hk, hdp, am_c1, am_recv, ha, ho]
  simp [am_stp, hl, am_acp, am_mx, am_obj, am_call, hok, hn])
theorem am_c1_RRR {i : Nat} (hd : decode (am_code e) pc = .ok (.invokevirtual i, 3)) (hl : am_mlk (am_ow e) i = some (1, e2)) (hn : am_na e2 = 3) (hk : am_rk e2 < am_rk e) (o : Nat) (ho : am_ow e2 = o) (ls st : List Value) (h : am_H) (Q : Option Value → am_H → Prop) (a0 : Nat) (a1 : Nat) (a2 : Nat) (hst : st.length ≤ 4) (ha : (am_kd h a0).1 = o) : am_wp e pc ls (.ref a2 :: .ref a1 :: .ref a0 :: st) h Q = am_wk e2 [.ref a0, .ref a1, .ref a2] h e pc ls st Q := am_wp_cl (q := (e2, [.ref a0, .ref a1, .ref a2], st)) hd (by
  have hdp : am_dp 3 (.ref a2 :: .ref a1 :: .ref a0 :: st) = true := am_dp_of (by simp; omega)
  have hok : am_cok e e2 1 (.ref a2 :: .ref a1 :: .ref a0 :: st) h = true := by simp [am_cok, hn, hk, hdp, am_c1, am_recv, ha, ho]
  simp [am_stp, hl, am_acp, am_mx, am_obj, am_call, hok, hn])
theorem am_c1_RRRI {i : Nat} (hd : decode (am_code e) pc = .ok (.invokevirtual i, 3)) (hl : am_mlk (am_ow e) i = some (1, e2)) (hn : am_na e2 = 4) (hk : am_rk e2 < am_rk e) (o : Nat) (ho : am_ow e2 = o) (ls st : List Value) (h : am_H) (Q : Option Value → am_H → Prop) (a0 : Nat) (a1 : Nat) (a2 : Nat) (a3 : Int32) (hst : st.length ≤ 4) (ha : (am_kd h a0).1 = o) : am_wp e pc ls (.int a3 :: .ref a2 :: .ref a1 :: .ref a0 :: st) h Q = am_wk e2 [.ref a0, .ref a1, .ref a2, .int a3] h e pc ls st Q := am_wp_cl (q := (e2, [.ref a0, .ref a1, .ref a2, .int a3], st)) hd (by
  have hdp : am_dp 4 (.int a3 :: .ref a2 :: .ref a1 :: .ref a0 :: st) = true := am_dp_of (by simp; omega)
  have hok : am_cok e e2 1 (.int a3 :: .ref a2 :: .ref a1 :: .ref a0 :: st) h = true := by simp [am_cok, hn, hk, hdp, am_c1, am_recv, ha, ho]
  simp [am_stp, hl, am_acp, am_mx, am_obj, am_call, hok, hn])
theorem am_c1_RRRII {i : Nat} (hd : decode (am_code e) pc = .ok (.invokevirtual i, 3)) (hl : am_mlk (am_ow e) i = some (1, e2)) (hn : am_na e2 = 5) (hk : am_rk e2 < am_rk e) (o : Nat) (ho : am_ow e2 = o) (ls st : List Value) (h : am_H) (Q : Option Value → am_H → Prop) (a0 : Nat) (a1 : Nat) (a2 : Nat) (a3 : Int32) (a4 : Int32) (hst : st.length ≤ 4) (ha : (am_kd h a0).1 = o) : am_wp e pc ls (.int a4 :: .int a3 :: .ref a2 :: .ref a1 :: .ref a0 :: st) h Q = am_wk e2 [.ref a0, .ref a1, .ref a2, .int a3, .int a4] h e pc ls st Q := am_wp_cl (q := (e2, [.ref a0, .ref a1, .ref a2, .int a3, .int a4], st)) hd (by
  have hdp : am_dp 5 (.int a4 :: .int a3 :: .ref a2 :: .ref a1 :: .ref a0 :: st) = true := am_dp_of (by simp; omega)
  have hok : am_cok e e2 1 (.int a4 :: .int a3 :: .ref a2 :: .ref a1 :: .ref a0 :: st) h = true := by simp [am_cok, hn, hk, hdp, am_c1, am_recv, ha, ho]
  simp [am_stp, hl, am_acp, am_mx, am_obj, am_call, hok, hn])
theorem am_c2_R {i : Nat} (hd : decode (am_code e) pc = .ok (.invokespecial i, 3)) (hl : am_mlk (am_ow e) i = some (2, e2)) (hn : am_na e2 = 1) (hk : am_rk e2 < am_rk e) (o : Nat) (ho : am_ow e2 = o) (ls st : List Value) (h : am_H) (Q : Option Value → am_H → Prop) (a0 : Nat) (hst : st.length ≤ 4) (ha : (am_kd h a0).1 = o) : am_wp e pc ls (.ref a0 :: st) h Q = am_wk e2 [.ref a0] h e pc ls st Q := am_wp_cl (q := (e2, [.ref a0], st)) hd (by
  have hdp : am_dp 1 (.ref a0 :: st) = true := am_dp_of (by simp; omega)
  have hok : am_cok e e2 2 (.ref a0 :: st) h = true := by simp [am_cok, hn, hk, hdp, am_c1, am_recv, ha, ho]
  simp [am_stp, hl, am_acp, am_mx, am_obj, am_call, hok, hn])
theorem am_c3_I {i : Nat} (hd : decode (am_code e) pc = .ok (.invokestatic i, 3)) (hl : am_mlk (am_ow e) i = some (3, e2)) (hn : am_na e2 = 1) (hk : am_rk e2 < am_rk e) (ls st : List Value) (h : am_H) (Q : Option Value → am_H → Prop) (a0 : Int32) (hst : st.length ≤ 4) : am_wp e pc ls (.int a0 :: st) h Q = am_wk e2 [.int a0] h e pc ls st Q := am_wp_cl (q := (e2, [.int a0], st)) hd (by
  have hdp : am_dp 1 (.int a0 :: st) = true := am_dp_of (by simp; omega)
  have hok : am_cok e e2 3 (.int a0 :: st) h = true := by simp [am_cok, hn, hk, hdp, am_c1, am_recv]
  simp [am_stp, hl, am_acp, am_mx, am_obj, am_call, hok, hn])
theorem am_c3_III {i : Nat} (hd : decode (am_code e) pc = .ok (.invokestatic i, 3)) (hl : am_mlk (am_ow e) i = some (3, e2)) (hn : am_na e2 = 3) (hk : am_rk e2 < am_rk e) (ls st : List Value) (h : am_H) (Q : Option Value → am_H → Prop) (a0 : Int32) (a1 : Int32) (a2 : Int32) (hst : st.length ≤ 4) : am_wp e pc ls (.int a2 :: .int a1 :: .int a0 :: st) h Q = am_wk e2 [.int a0, .int a1, .int a2] h e pc ls st Q := am_wp_cl (q := (e2, [.int a0, .int a1, .int a2], st)) hd (by
  have hdp : am_dp 3 (.int a2 :: .int a1 :: .int a0 :: st) = true := am_dp_of (by simp; omega)
  have hok : am_cok e e2 3 (.int a2 :: .int a1 :: .int a0 :: st) h = true := by simp [am_cok, hn, hk, hdp, am_c1, am_recv]
  simp [am_stp, hl, am_acp, am_mx, am_obj, am_call, hok, hn])
theorem am_c5_R {i : Nat} (hd : decode (am_code e) pc = .ok (.invokespecial i, 3)) (hl : am_mlk (am_ow e) i = some (5, e2)) (hn : am_na e2 = 1) (hk : am_rk e2 < am_rk e) (o : Nat) (ho : am_ow e2 = o) (ls st : List Value) (h : am_H) (Q : Option Value → am_H → Prop) (a0 : Nat) (hst : st.length ≤ 4) (ha : (am_kd h a0).1 = o) : am_wp e pc ls (.ref a0 :: st) h Q = am_wk e2 [.ref a0] h e pc ls st Q := am_wp_cl (q := (e2, [.ref a0], st)) hd (by
  have hdp : am_dp 1 (.ref a0 :: st) = true := am_dp_of (by simp; omega)
  have hok : am_cok e e2 5 (.ref a0 :: st) h = true := by simp [am_cok, hn, hk, hdp, am_c1, am_recv, ha, ho]
  simp [am_stp, hl, am_acp, am_mx, am_obj, am_call, hok, hn])
theorem am_c1_RIIx {i : Nat} (hd : decode (am_code e) pc = .ok (.invokevirtual i, 3)) (hl : am_mlk (am_ow e) i = some (1, e2)) (hn : am_na e2 = 3) (hk : am_rk e2 < am_rk e) (o : Nat) (ho : am_ow e2 = o) (ls st : List Value) (h : am_H) (Q : Option Value → am_H → Prop) (a0 : Nat) (a1 : Int32) (a2 : Int32) (hst : st.length ≤ 8) (hs1 : st.all am_c1 = true) (ha : (am_kd h a0).1 = o) : am_wp e pc ls (.int a2 :: .int a1 :: .ref a0 :: st) h Q = am_wk e2 [.ref a0, .int a1, .int a2] h e pc ls st Q := am_wp_cl (q := (e2, [.ref a0, .int a1, .int a2], st)) hd (by
  have hdp : am_dp 3 (.int a2 :: .int a1 :: .ref a0 :: st) = true := am_dp_of8 (by simp; omega) (by simpa using hs1)
  have hok : am_cok e e2 1 (.int a2 :: .int a1 :: .ref a0 :: st) h = true := by simp [am_cok, hn, hk, hdp, am_c1, am_recv, ha, ho]
  simp [am_stp, hl, am_acp, am_mx, am_obj, am_call, hok, hn])
end AMV
theorem fl_0_9 : am_flk 0 9 = some (0, 0, 2, true) := by rfl
theorem fl_0_15 : am_flk 0 15 = some (0, 1, 0, false) := by rfl
theorem fl_0_19 : am_flk 0 19 = some (0, 2, 0, false) := by rfl
theorem fl_0_35 : am_flk 0 35 = some (0, 3, 0, false) := by rfl
theorem fl_0_38 : am_flk 0 38 = some (0, 4, 0, false) := by rfl
theorem fl_1_9 : am_flk 1 9 = some (1, 0, 2, true) := by rfl
theorem fl_1_19 : am_flk 1 19 = some (1, 3, 1, false) := by rfl
theorem fl_1_27 : am_flk 1 27 = some (1, 4, 1, false) := by rfl
theorem fl_1_36 : am_flk 1 36 = some (1, 1, 0, false) := by rfl
theorem fl_1_40 : am_flk 1 40 = some (1, 2, 0, false) := by rfl
theorem fl_2_9 : am_flk 2 9 = some (2, 0, 0, false) := by rfl
theorem fl_2_15 : am_flk 2 15 = some (2, 1, 0, false) := by rfl
theorem fl_3_9 : am_flk 3 9 = some (3, 0, 2, true) := by rfl
theorem fl_3_15 : am_flk 3 15 = some (3, 1, 0, false) := by rfl
theorem fl_4_9 : am_flk 4 9 = some (4, 1, 2, true) := by rfl
theorem fl_4_15 : am_flk 4 15 = some (4, 2, 2, true) := by rfl
theorem fl_4_18 : am_flk 4 18 = some (4, 3, 2, true) := by rfl
theorem fl_4_21 : am_flk 4 21 = some (4, 4, 2, true) := by rfl
theorem fl_4_24 : am_flk 4 24 = some (4, 5, 2, true) := by rfl
theorem fl_4_27 : am_flk 4 27 = some (4, 6, 2, true) := by rfl
theorem fl_4_30 : am_flk 4 30 = some (4, 7, 2, true) := by rfl
theorem fl_4_33 : am_flk 4 33 = some (4, 8, 0, false) := by rfl
theorem fl_4_37 : am_flk 4 37 = some (4, 9, 0, false) := by rfl
theorem fl_4_40 : am_flk 4 40 = some (4, 11, 2, true) := by rfl
theorem fl_4_43 : am_flk 4 43 = some (4, 13, 2, true) := by rfl
theorem fl_4_46 : am_flk 4 46 = some (4, 14, 2, true) := by rfl
theorem fl_4_49 : am_flk 4 49 = some (4, 0, 0, false) := by rfl
theorem fl_4_58 : am_flk 4 58 = some (4, 10, 0, false) := by rfl
theorem fl_4_61 : am_flk 4 61 = some (4, 12, 0, false) := by rfl
theorem fl_4_64 : am_flk 4 64 = some (4, 15, 0, false) := by rfl
theorem fl_5_12 : am_flk 5 12 = some (5, 0, 2, true) := by rfl
theorem fl_5_21 : am_flk 5 21 = some (5, 1, 2, true) := by rfl
theorem fl_5_25 : am_flk 5 25 = some (5, 2, 2, true) := by rfl
theorem fl_5_29 : am_flk 5 29 = some (5, 3, 0, false) := by rfl
theorem fl_5_33 : am_flk 5 33 = some (5, 4, 0, false) := by rfl
theorem fl_5_36 : am_flk 5 36 = some (5, 5, 0, false) := by rfl
theorem fl_5_79 : am_flk 5 79 = some (5, 6, 0, false) := by rfl
theorem fl_5_85 : am_flk 5 85 = some (5, 7, 0, false) := by rfl
theorem fl_5_117 : am_flk 5 117 = some (5, 8, 0, false) := by rfl
theorem fl_5_120 : am_flk 5 120 = some (5, 9, 0, false) := by rfl
theorem fl_6_9 : am_flk 6 9 = some (6, 0, 2, true) := by rfl
theorem fl_7_9 : am_flk 7 9 = some (7, 0, 2, true) := by rfl
theorem fl_7_15 : am_flk 7 15 = some (7, 1, 0, false) := by rfl
theorem fl_8_10 : am_flk 8 10 = some (8, 0, 2, true) := by rfl
theorem fl_8_19 : am_flk 8 19 = some (8, 1, 2, true) := by rfl
theorem fl_8_23 : am_flk 8 23 = some (8, 2, 2, true) := by rfl
theorem fl_8_26 : am_flk 8 26 = some (8, 3, 2, true) := by rfl
theorem fl_8_30 : am_flk 8 30 = some (8, 4, 2, true) := by rfl
theorem fl_8_37 : am_flk 8 37 = some (8, 5, 2, true) := by rfl
theorem fl_8_44 : am_flk 8 44 = some (8, 6, 2, true) := by rfl
theorem fl_8_51 : am_flk 8 51 = some (8, 7, 2, true) := by rfl
theorem fl_8_58 : am_flk 8 58 = some (8, 8, 2, true) := by rfl
theorem fl_8_65 : am_flk 8 65 = some (8, 9, 2, true) := by rfl
theorem fl_8_109 : am_flk 8 109 = some (4, 8, 0, false) := by rfl
theorem fl_8_113 : am_flk 8 113 = some (4, 9, 0, false) := by rfl
theorem fl_8_153 : am_flk 8 153 = some (5, 6, 0, false) := by rfl
theorem fl_8_156 : am_flk 8 156 = some (5, 7, 0, false) := by rfl
theorem fl_8_166 : am_flk 8 166 = some (5, 4, 0, false) := by rfl
theorem fl_8_169 : am_flk 8 169 = some (5, 5, 0, false) := by rfl
theorem fl_8_176 : am_flk 8 176 = some (5, 8, 0, false) := by rfl
theorem fl_8_179 : am_flk 8 179 = some (5, 9, 0, false) := by rfl
theorem fl_8_185 : am_flk 8 185 = some (2, 0, 0, false) := by rfl
theorem fl_8_188 : am_flk 8 188 = some (2, 1, 0, false) := by rfl
theorem fl_8_204 : am_flk 8 204 = some (0, 2, 0, false) := by rfl
theorem fl_8_206 : am_flk 8 206 = some (0, 1, 0, false) := by rfl
theorem fl_8_212 : am_flk 8 212 = some (4, 12, 0, false) := by rfl
theorem fl_8_225 : am_flk 8 225 = some (4, 15, 0, false) := by rfl
theorem fl_8_248 : am_flk 8 248 = some (1, 3, 1, false) := by rfl
theorem fl_8_252 : am_flk 8 252 = some (1, 4, 1, false) := by rfl
theorem fl_8_266 : am_flk 8 266 = some (0, 3, 0, false) := by rfl
theorem fl_8_269 : am_flk 8 269 = some (0, 4, 0, false) := by rfl
theorem fl_8_275 : am_flk 8 275 = some (4, 10, 0, false) := by rfl
theorem fl_9_7 : am_flk 9 7 = some (9, 1, 2, true) := by rfl
theorem fl_9_13 : am_flk 9 13 = some (9, 2, 2, true) := by rfl
theorem fl_9_16 : am_flk 9 16 = some (9, 3, 2, true) := by rfl
theorem fl_9_19 : am_flk 9 19 = some (9, 4, 2, true) := by rfl
theorem fl_9_22 : am_flk 9 22 = some (9, 5, 2, true) := by rfl
theorem fl_9_25 : am_flk 9 25 = some (9, 6, 2, true) := by rfl
theorem fl_9_28 : am_flk 9 28 = some (9, 7, 0, false) := by rfl
theorem fl_9_32 : am_flk 9 32 = some (9, 8, 0, false) := by rfl
theorem fl_9_35 : am_flk 9 35 = some (9, 11, 2, true) := by rfl
theorem fl_9_38 : am_flk 9 38 = some (9, 12, 2, true) := by rfl
theorem fl_9_41 : am_flk 9 41 = some (9, 14, 2, true) := by rfl
theorem fl_9_44 : am_flk 9 44 = some (9, 16, 2, true) := by rfl
theorem fl_9_47 : am_flk 9 47 = some (9, 17, 2, true) := by rfl
theorem fl_9_50 : am_flk 9 50 = some (9, 18, 2, true) := by rfl
theorem fl_9_53 : am_flk 9 53 = some (9, 20, 2, true) := by rfl
theorem fl_9_56 : am_flk 9 56 = some (9, 21, 2, true) := by rfl
theorem fl_9_59 : am_flk 9 59 = some (9, 22, 2, true) := by rfl
theorem fl_9_62 : am_flk 9 62 = some (9, 23, 2, true) := by rfl
theorem fl_9_65 : am_flk 9 65 = some (9, 27, 2, true) := by rfl
theorem fl_9_68 : am_flk 9 68 = some (9, 28, 2, true) := by rfl
theorem fl_9_71 : am_flk 9 71 = some (9, 29, 2, true) := by rfl
theorem fl_9_79 : am_flk 9 79 = some (9, 0, 0, false) := by rfl
theorem fl_9_94 : am_flk 9 94 = some (9, 15, 0, false) := by rfl
theorem fl_9_107 : am_flk 9 107 = some (9, 19, 0, false) := by rfl
theorem fl_9_138 : am_flk 9 138 = some (9, 9, 0, false) := by rfl
theorem fl_9_141 : am_flk 9 141 = some (9, 24, 0, false) := by rfl
theorem fl_9_150 : am_flk 9 150 = some (9, 26, 0, false) := by rfl
theorem fl_9_153 : am_flk 9 153 = some (9, 25, 0, false) := by rfl
theorem fl_9_186 : am_flk 9 186 = some (9, 10, 0, false) := by rfl
theorem fl_9_195 : am_flk 9 195 = some (9, 13, 0, false) := by rfl
theorem ml_0_3 : am_mlk 0 3 = some (6, E_X0_daysSinceLike) := by rfl
theorem ml_0_22 : am_mlk 0 22 = some (1, E_X4_rentsAsOne) := by rfl
theorem ml_0_28 : am_mlk 0 28 = some (1, E_X4_moveRents) := by rfl
theorem ml_0_31 : am_mlk 0 31 = some (1, E_X0_daysSinceLike) := by rfl
theorem ml_0_42 : am_mlk 0 42 = some (1, E_X0_drawAct) := by rfl
theorem ml_0_46 : am_mlk 0 46 = some (1, E_X4_passDay) := by rfl
theorem ml_0_49 : am_mlk 0 49 = some (1, E_X4_reasonAgainst) := by rfl
theorem ml_0_53 : am_mlk 0 53 = some (1, E_X4_act) := by rfl
theorem ml_1_3 : am_mlk 1 3 = some (6, E_X0_daysSinceLike) := by rfl
theorem ml_1_15 : am_mlk 1 15 = some (1, E_X1_weigh) := by rfl
theorem ml_1_23 : am_mlk 1 23 = some (0, E_X1_power) := by rfl
theorem ml_1_30 : am_mlk 1 30 = some (1, E_X4_wordsOfSort) := by rfl
theorem ml_1_43 : am_mlk 1 43 = some (1, E_X4_words) := by rfl
theorem ml_1_47 : am_mlk 1 47 = some (1, E_X1_canSay) := by rfl
theorem ml_1_51 : am_mlk 1 51 = some (0, E_J6_bitCount_0f7a4) := by rfl
theorem ml_1_56 : am_mlk 1 56 = some (1, E_X1_weightOf) := by rfl
theorem ml_1_60 : am_mlk 1 60 = some (1, E_X1_reduce) := by rfl
theorem ml_1_63 : am_mlk 1 63 = some (1, E_X4_listAllows) := by rfl
theorem ml_2_3 : am_mlk 2 3 = some (6, E_X0_daysSinceLike) := by rfl
theorem ml_2_18 : am_mlk 2 18 = some (1, E_X3_size) := by rfl
theorem ml_2_24 : am_mlk 2 24 = some (1, E_X3_signAt) := by rfl
theorem ml_2_28 : am_mlk 2 28 = some (1, E_X4_passDay) := by rfl
theorem ml_2_33 : am_mlk 2 33 = some (1, E_X3_wordAt) := by rfl
theorem ml_2_36 : am_mlk 2 36 = some (1, E_X2_playAct) := by rfl
theorem ml_2_40 : am_mlk 2 40 = some (1, E_X4_reasonAgainst) := by rfl
theorem ml_2_44 : am_mlk 2 44 = some (1, E_X4_act) := by rfl
theorem ml_3_3 : am_mlk 3 3 = some (6, E_X0_daysSinceLike) := by rfl
theorem ml_3_19 : am_mlk 3 19 = some (1, E_X3_signAt) := by rfl
theorem ml_3_23 : am_mlk 3 23 = some (1, E_X3_wordsBut) := by rfl
theorem ml_3_27 : am_mlk 3 27 = some (1, E_X3_wordAt) := by rfl
theorem ml_3_30 : am_mlk 3 30 = some (3, E_X9_within) := by rfl
theorem ml_3_34 : am_mlk 3 34 = some (3, E_X9_sortAt) := by rfl
theorem ml_3_37 : am_mlk 3 37 = some (1, E_X4_isOfSort) := by rfl
theorem ml_3_43 : am_mlk 3 43 = some (0, E_X3_standsInLeases) := by rfl
theorem ml_4_3 : am_mlk 4 3 = some (6, E_X0_daysSinceLike) := by rfl
theorem ml_4_52 : am_mlk 4 52 = some (7, E_X0_daysSinceLike) := by rfl
theorem ml_4_67 : am_mlk 4 67 = some (1, E_X4_has) := by rfl
theorem ml_4_71 : am_mlk 4 71 = some (1, E_X4_rentOf) := by rfl
theorem ml_4_75 : am_mlk 4 75 = some (1, E_X4_holderOf) := by rfl
theorem ml_4_78 : am_mlk 4 78 = some (1, E_X4_meaningOf) := by rfl
theorem ml_4_81 : am_mlk 4 81 = some (1, E_X4_isOfSort) := by rfl
theorem ml_4_85 : am_mlk 4 85 = some (1, E_X4_wordsOfSort) := by rfl
theorem ml_4_88 : am_mlk 4 88 = some (0, E_J6_bitCount_0f7a4) := by rfl
theorem ml_4_93 : am_mlk 4 93 = some (1, E_X4_sortOf) := by rfl
theorem ml_4_96 : am_mlk 4 96 = some (3, E_X9_isFirm) := by rfl
theorem ml_4_99 : am_mlk 4 99 = some (3, E_X9_isMeaning) := by rfl
theorem ml_4_102 : am_mlk 4 102 = some (1, E_X4_between) := by rfl
theorem ml_4_108 : am_mlk 4 108 = some (1, E_X4_moveRents) := by rfl
theorem ml_4_111 : am_mlk 4 111 = some (1, E_X4_driftWords) := by rfl
theorem ml_4_114 : am_mlk 4 114 = some (1, E_X4_isUndercut) := by rfl
theorem ml_5_3 : am_mlk 5 3 = some (6, E_X0_daysSinceLike) := by rfl
theorem ml_5_11 : am_mlk 5 11 = some (5, E_X8_init) := by rfl
theorem ml_5_20 : am_mlk 5 20 = some (5, E_X7_init) := by rfl
theorem ml_5_39 : am_mlk 5 39 = some (1, E_X8_length) := by rfl
theorem ml_5_42 : am_mlk 5 42 = some (1, E_X8_wordAt) := by rfl
theorem ml_5_46 : am_mlk 5 46 = some (1, E_X6_clear) := by rfl
theorem ml_5_49 : am_mlk 5 49 = some (1, E_X4_costing) := by rfl
theorem ml_5_55 : am_mlk 5 55 = some (1, E_X3_size) := by rfl
theorem ml_5_60 : am_mlk 5 60 = some (1, E_X8_start) := by rfl
theorem ml_5_65 : am_mlk 5 65 = some (1, E_X6_distanceFrom) := by rfl
theorem ml_5_69 : am_mlk 5 69 = some (1, E_X8_words) := by rfl
theorem ml_5_71 : am_mlk 5 71 = some (1, E_X7_paid) := by rfl
theorem ml_5_75 : am_mlk 5 75 = some (1, E_X6_isFound) := by rfl
theorem ml_5_82 : am_mlk 5 82 = some (1, E_X6_keepWords) := by rfl
theorem ml_5_88 : am_mlk 5 88 = some (1, E_X8_step) := by rfl
theorem ml_5_92 : am_mlk 5 92 = some (1, E_X3_wordAt) := by rfl
theorem ml_5_93 : am_mlk 5 93 = some (1, E_X4_betweenWords) := by rfl
theorem ml_5_96 : am_mlk 5 96 = some (1, E_X6_countAffordable) := by rfl
theorem ml_5_100 : am_mlk 5 100 = some (1, E_X6_countThis) := by rfl
theorem ml_5_103 : am_mlk 5 103 = some (3, E_X9_sortAt) := by rfl
theorem ml_5_106 : am_mlk 5 106 = some (1, E_X4_isOfSort) := by rfl
theorem ml_5_110 : am_mlk 5 110 = some (1, E_X3_wordsBut) := by rfl
theorem ml_5_113 : am_mlk 5 113 = some (1, E_X6_weighMisprint) := by rfl
theorem ml_6_3 : am_mlk 6 3 = some (6, E_X0_daysSinceLike) := by rfl
theorem ml_6_15 : am_mlk 6 15 = some (1, E_X7_findDearest) := by rfl
theorem ml_6_19 : am_mlk 6 19 = some (1, E_X4_holderOf) := by rfl
theorem ml_6_25 : am_mlk 6 25 = some (1, E_X7_paidFor) := by rfl
theorem ml_6_29 : am_mlk 6 29 = some (1, E_X4_rhymeOf) := by rfl
theorem ml_6_32 : am_mlk 6 32 = some (3, E_X9_isRhyme) := by rfl
theorem ml_6_36 : am_mlk 6 36 = some (1, E_X4_rentOf) := by rfl
theorem ml_7_3 : am_mlk 7 3 = some (6, E_X0_daysSinceLike) := by rfl
theorem ml_7_19 : am_mlk 7 19 = some (3, E_X9_sortAt) := by rfl
theorem ml_7_23 : am_mlk 7 23 = some (1, E_X4_firstOfSort) := by rfl
theorem ml_8_1 : am_mlk 8 1 = some (6, E_X0_daysSinceLike) := by rfl
theorem ml_8_9 : am_mlk 8 9 = some (5, E_X3_init) := by rfl
theorem ml_8_18 : am_mlk 8 18 = some (2, E_X4_init) := by rfl
theorem ml_8_36 : am_mlk 8 36 = some (5, E_X7_init) := by rfl
theorem ml_8_43 : am_mlk 8 43 = some (5, E_X6_init) := by rfl
theorem ml_8_50 : am_mlk 8 50 = some (5, E_X2_init) := by rfl
theorem ml_8_57 : am_mlk 8 57 = some (5, E_X0_init) := by rfl
theorem ml_8_64 : am_mlk 8 64 = some (5, E_X1_init) := by rfl
theorem ml_8_69 : am_mlk 8 69 = some (0, E_X9_within) := by rfl
theorem ml_8_73 : am_mlk 8 73 = some (0, E_X9_isMeaning) := by rfl
theorem ml_8_77 : am_mlk 8 77 = some (0, E_X9_isRhyme) := by rfl
theorem ml_8_80 : am_mlk 8 80 = some (1, E_X4_put) := by rfl
theorem ml_8_84 : am_mlk 8 84 = some (1, E_X4_words) := by rfl
theorem ml_8_88 : am_mlk 8 88 = some (0, E_J6_bitCount_0f7a4) := by rfl
theorem ml_8_94 : am_mlk 8 94 = some (1, E_X4_has) := by rfl
theorem ml_8_97 : am_mlk 8 97 = some (1, E_X4_drop) := by rfl
theorem ml_8_101 : am_mlk 8 101 = some (1, E_X4_between) := by rfl
theorem ml_8_105 : am_mlk 8 105 = some (1, E_X4_part) := by rfl
theorem ml_8_116 : am_mlk 8 116 = some (1, E_X3_put) := by rfl
theorem ml_8_118 : am_mlk 8 118 = some (1, E_X3_size) := by rfl
theorem ml_8_121 : am_mlk 8 121 = some (1, E_X3_clear) := by rfl
theorem ml_8_124 : am_mlk 8 124 = some (1, E_X3_sentenceFault) := by rfl
theorem ml_8_128 : am_mlk 8 128 = some (1, E_X3_leasesFault) := by rfl
theorem ml_8_131 : am_mlk 8 131 = some (0, E_X9_isSpeaker) := by rfl
theorem ml_8_134 : am_mlk 8 134 = some (1, E_X9_holdsSentence) := by rfl
theorem ml_8_138 : am_mlk 8 138 = some (1, E_X3_words) := by rfl
theorem ml_8_139 : am_mlk 8 139 = some (1, E_X4_costing) := by rfl
theorem ml_8_142 : am_mlk 8 142 = some (1, E_X7_paid) := by rfl
theorem ml_8_146 : am_mlk 8 146 = some (0, E_X9_isFirm) := by rfl
theorem ml_8_149 : am_mlk 8 149 = some (1, E_X6_nearest) := by rfl
theorem ml_8_159 : am_mlk 8 159 = some (1, E_X6_wordAt) := by rfl
theorem ml_8_162 : am_mlk 8 162 = some (1, E_X6_affordable) := by rfl
theorem ml_8_172 : am_mlk 8 172 = some (1, E_X6_misprinted) := by rfl
theorem ml_8_182 : am_mlk 8 182 = some (1, E_X9_leasesCanBe) := by rfl
theorem ml_8_191 : am_mlk 8 191 = some (1, E_X4_copy) := by rfl
theorem ml_8_195 : am_mlk 8 195 = some (1, E_X4_property) := by rfl
theorem ml_8_198 : am_mlk 8 198 = some (1, E_X4_passDay) := by rfl
theorem ml_8_201 : am_mlk 8 201 = some (1, E_X0_watchRents) := by rfl
theorem ml_8_209 : am_mlk 8 209 = some (1, E_X4_enlist) := by rfl
theorem ml_8_215 : am_mlk 8 215 = some (1, E_X4_meetsList) := by rfl
theorem ml_8_218 : am_mlk 8 218 = some (1, E_X4_sentencesWithout) := by rfl
theorem ml_8_221 : am_mlk 8 221 = some (1, E_X4_addSight) := by rfl
theorem ml_8_228 : am_mlk 8 228 = some (1, E_X4_firmSeen) := by rfl
theorem ml_8_231 : am_mlk 8 231 = some (1, E_X4_wordsSeen) := by rfl
theorem ml_8_234 : am_mlk 8 234 = some (1, E_X6_spoken) := by rfl
theorem ml_8_237 : am_mlk 8 237 = some (1, E_X4_sightsAllow) := by rfl
theorem ml_8_244 : am_mlk 8 244 = some (1, E_X1_reckon) := by rfl
theorem ml_8_255 : am_mlk 8 255 = some (1, E_X4_areRivals) := by rfl
theorem ml_8_258 : am_mlk 8 258 = some (0, E_X5_restOrCount) := by rfl
theorem ml_8_263 : am_mlk 8 263 = some (1, E_X0_drawDays) := by rfl
theorem ml_8_272 : am_mlk 8 272 = some (1, E_X4_allRents) := by rfl
theorem ml_8_278 : am_mlk 8 278 = some (1, E_X9_toldOfWord) := by rfl
theorem ml_8_281 : am_mlk 8 281 = some (1, E_X9_toldOfFar) := by rfl
theorem ml_8_284 : am_mlk 8 284 = some (1, E_X4_sortOf) := by rfl
theorem ml_8_287 : am_mlk 8 287 = some (1, E_X4_rhymeOf) := by rfl
theorem ml_8_290 : am_mlk 8 290 = some (1, E_X2_play) := by rfl
theorem ml_9_1 : am_mlk 9 1 = some (6, E_X0_daysSinceLike) := by rfl
theorem ml_9_75 : am_mlk 9 75 = some (0, E_X10_in) := by rfl
theorem ml_9_82 : am_mlk 9 82 = some (0, E_X10_has) := by rfl
theorem ml_9_86 : am_mlk 9 86 = some (0, E_X10_bits) := by rfl
theorem ml_9_90 : am_mlk 9 90 = some (1, E_X10_isWord) := by rfl
theorem ml_9_97 : am_mlk 9 97 = some (0, E_X10_sortAt) := by rfl
theorem ml_9_100 : am_mlk 9 100 = some (1, E_X10_sentenceFault) := by rfl
theorem ml_9_104 : am_mlk 9 104 = some (1, E_X10_leaseFault) := by rfl
theorem ml_9_110 : am_mlk 9 110 = some (1, E_X10_costs) := by rfl
theorem ml_9_113 : am_mlk 9 113 = some (1, E_X10_inRow) := by rfl
theorem ml_9_116 : am_mlk 9 116 = some (1, E_X10_paid) := by rfl
theorem ml_9_120 : am_mlk 9 120 = some (1, E_X10_lay) := by rfl
theorem ml_9_123 : am_mlk 9 123 = some (1, E_X10_priceOf) := by rfl
theorem ml_9_129 : am_mlk 9 129 = some (0, E_X10_codes) := by rfl
theorem ml_9_132 : am_mlk 9 132 = some (1, E_X10_layRow) := by rfl
theorem ml_9_135 : am_mlk 9 135 = some (1, E_X10_off) := by rfl
theorem ml_9_144 : am_mlk 9 144 = some (1, E_X10_isUndercut) := by rfl
theorem ml_9_147 : am_mlk 9 147 = some (1, E_X10_asNow) := by rfl
theorem ml_9_156 : am_mlk 9 156 = some (1, E_X10_pass) := by rfl
theorem ml_9_160 : am_mlk 9 160 = some (1, E_X10_whyNot) := by rfl
theorem ml_9_163 : am_mlk 9 163 = some (1, E_X10_act) := by rfl
theorem ml_9_167 : am_mlk 9 167 = some (1, E_X10_goLeases) := by rfl
theorem ml_9_170 : am_mlk 9 170 = some (1, E_X10_barOfLeases) := by rfl
theorem ml_9_173 : am_mlk 9 173 = some (1, E_X10_stateNow) := by rfl
theorem ml_9_176 : am_mlk 9 176 = some (1, E_X10_settlesOn) := by rfl
theorem ml_9_179 : am_mlk 9 179 = some (1, E_X10_note) := by rfl
theorem ml_9_183 : am_mlk 9 183 = some (1, E_X10_areAlike) := by rfl
theorem ml_9_189 : am_mlk 9 189 = some (1, E_X10_wordsOf) := by rfl
theorem ml_9_192 : am_mlk 9 192 = some (1, E_X10_withoutThese) := by rfl
theorem ml_9_198 : am_mlk 9 198 = some (1, E_X10_costing) := by rfl
theorem ml_9_207 : am_mlk 9 207 = some (1, E_X10_canSay) := by rfl
theorem ml_9_212 : am_mlk 9 212 = some (0, E_X10_income) := by rfl
theorem ml_9_216 : am_mlk 9 216 = some (0, E_X10_rest) := by rfl
theorem ml_10_9 : am_mlk 10 9 = some (0, E_X5_isAtRest) := by rfl
theorem ml_10_15 : am_mlk 10 15 = some (0, E_X5_takings) := by rfl
theorem ml_10_19 : am_mlk 10 19 = some (8, E_X0_daysSinceLike) := by rfl
theorem ml_11_9 : am_mlk 11 9 = some (2, E_X9_init) := by rfl
theorem ml_11_12 : am_mlk 11 12 = some (2, E_X10_init) := by rfl
theorem ml_11_13 : am_mlk 11 13 = some (1, E_X9_word) := by rfl
theorem ml_11_17 : am_mlk 11 17 = some (1, E_X10_word) := by rfl
theorem ml_11_18 : am_mlk 11 18 = some (1, E_X9_strikeOut) := by rfl
theorem ml_11_22 : am_mlk 11 22 = some (1, E_X10_strikeOut) := by rfl
theorem ml_11_23 : am_mlk 11 23 = some (1, E_X9_far) := by rfl
theorem ml_11_27 : am_mlk 11 27 = some (1, E_X10_far) := by rfl
theorem ml_11_28 : am_mlk 11 28 = some (1, E_X9_set) := by rfl
theorem ml_11_32 : am_mlk 11 32 = some (1, E_X10_set) := by rfl
theorem ml_11_33 : am_mlk 11 33 = some (1, E_X9_say) := by rfl
theorem ml_11_36 : am_mlk 11 36 = some (1, E_X10_say) := by rfl
theorem ml_11_37 : am_mlk 11 37 = some (1, E_X9_wipe) := by rfl
theorem ml_11_41 : am_mlk 11 41 = some (1, E_X10_wipe) := by rfl
theorem ml_11_42 : am_mlk 11 42 = some (1, E_X9_fault) := by rfl
theorem ml_11_45 : am_mlk 11 45 = some (1, E_X10_fault) := by rfl
theorem ml_11_46 : am_mlk 11 46 = some (1, E_X9_price) := by rfl
theorem ml_11_49 : am_mlk 11 49 = some (1, E_X10_price) := by rfl
theorem ml_11_50 : am_mlk 11 50 = some (1, E_X9_gets) := by rfl
theorem ml_11_53 : am_mlk 11 53 = some (1, E_X10_gets) := by rfl
theorem ml_11_54 : am_mlk 11 54 = some (1, E_X9_nearly) := by rfl
theorem ml_11_57 : am_mlk 11 57 = some (1, E_X10_nearly) := by rfl
theorem ml_11_58 : am_mlk 11 58 = some (1, E_X9_said) := by rfl
theorem ml_11_61 : am_mlk 11 61 = some (1, E_X10_said) := by rfl
theorem ml_11_62 : am_mlk 11 62 = some (1, E_X9_misprints) := by rfl
theorem ml_11_65 : am_mlk 11 65 = some (1, E_X10_misprints) := by rfl
theorem ml_11_66 : am_mlk 11 66 = some (1, E_X9_judge) := by rfl
theorem ml_11_69 : am_mlk 11 69 = some (1, E_X10_judge) := by rfl
theorem ml_11_70 : am_mlk 11 70 = some (1, E_X9_done) := by rfl
theorem ml_11_73 : am_mlk 11 73 = some (1, E_X10_done) := by rfl
theorem ml_11_74 : am_mlk 11 74 = some (1, E_X9_state) := by rfl
theorem ml_11_77 : am_mlk 11 77 = some (1, E_X10_state) := by rfl
theorem ml_11_78 : am_mlk 11 78 = some (1, E_X9_behind) := by rfl
theorem ml_11_81 : am_mlk 11 81 = some (1, E_X10_behind) := by rfl
theorem ml_11_82 : am_mlk 11 82 = some (1, E_X9_after) := by rfl
theorem ml_11_85 : am_mlk 11 85 = some (1, E_X10_after) := by rfl
theorem ml_11_86 : am_mlk 11 86 = some (1, E_X9_settles) := by rfl
theorem ml_11_89 : am_mlk 11 89 = some (1, E_X10_settles) := by rfl
theorem ml_11_90 : am_mlk 11 90 = some (1, E_X9_round) := by rfl
theorem ml_11_93 : am_mlk 11 93 = some (1, E_X10_round) := by rfl
theorem ml_11_94 : am_mlk 11 94 = some (1, E_X9_list) := by rfl
theorem ml_11_97 : am_mlk 11 97 = some (1, E_X10_list) := by rfl
theorem ml_11_98 : am_mlk 11 98 = some (1, E_X9_held) := by rfl
theorem ml_11_101 : am_mlk 11 101 = some (1, E_X10_held) := by rfl
theorem ml_11_102 : am_mlk 11 102 = some (1, E_X9_strike) := by rfl
theorem ml_11_105 : am_mlk 11 105 = some (1, E_X10_strike) := by rfl
theorem ml_11_106 : am_mlk 11 106 = some (1, E_X9_worst) := by rfl
theorem ml_11_109 : am_mlk 11 109 = some (1, E_X10_worst) := by rfl
theorem ml_11_110 : am_mlk 11 110 = some (1, E_X9_seen) := by rfl
theorem ml_11_113 : am_mlk 11 113 = some (1, E_X10_seen) := by rfl
theorem ml_11_114 : am_mlk 11 114 = some (1, E_X9_forget) := by rfl
theorem ml_11_117 : am_mlk 11 117 = some (1, E_X10_forget) := by rfl
theorem ml_11_118 : am_mlk 11 118 = some (1, E_X9_spoke) := by rfl
theorem ml_11_121 : am_mlk 11 121 = some (1, E_X10_spoke) := by rfl
theorem ml_11_122 : am_mlk 11 122 = some (1, E_X9_who) := by rfl
theorem ml_11_125 : am_mlk 11 125 = some (1, E_X10_who) := by rfl
theorem ml_11_126 : am_mlk 11 126 = some (1, E_X9_let) := by rfl
theorem ml_11_130 : am_mlk 11 130 = some (1, E_X10_let) := by rfl
theorem ml_11_131 : am_mlk 11 131 = some (1, E_X9_rests) := by rfl
theorem ml_11_134 : am_mlk 11 134 = some (1, E_X10_rests) := by rfl
theorem ml_11_135 : am_mlk 11 135 = some (1, E_X9_year) := by rfl
theorem ml_11_138 : am_mlk 11 138 = some (1, E_X10_year) := by rfl
theorem ml_11_139 : am_mlk 11 139 = some (1, E_X9_image) := by rfl
theorem ml_11_142 : am_mlk 11 142 = some (1, E_X10_image) := by rfl
theorem ml_11_143 : am_mlk 11 143 = some (1, E_X9_restore) := by rfl
theorem ml_11_146 : am_mlk 11 146 = some (1, E_X10_restore) := by rfl
theorem ml_11_147 : am_mlk 11 147 = some (1, E_X9_told) := by rfl
theorem ml_11_150 : am_mlk 11 150 = some (1, E_X10_told) := by rfl
theorem cx_11_7 : am_clk 11 7 = some (8, 10) := by rfl
theorem cx_8_7 : am_clk 8 7 = some (3, 2) := by rfl
theorem cx_8_16 : am_clk 8 16 = some (4, 16) := by rfl
theorem cx_8_34 : am_clk 8 34 = some (6, 1) := by rfl
theorem cx_8_41 : am_clk 8 41 = some (5, 10) := by rfl
theorem cx_5_9 : am_clk 5 9 = some (7, 2) := by rfl
theorem cx_5_18 : am_clk 5 18 = some (6, 1) := by rfl
theorem cx_8_48 : am_clk 8 48 = some (2, 2) := by rfl
theorem cx_8_55 : am_clk 8 55 = some (0, 5) := by rfl
theorem cx_8_62 : am_clk 8 62 = some (1, 5) := by rfl
theorem cx_11_10 : am_clk 11 10 = some (9, 30) := by rfl
