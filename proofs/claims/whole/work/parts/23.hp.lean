/-! the memory behind both constructors: its kinds and references stay as they are -/
def am_b1 (xs : Nat → Int32) (L : Nat) : am_H := am_mo (am_mk (am_a12 xs L) (9, 30)) 62
def am_zz : Nat → Int32 := fun _ => 0
theorem am_xx_mk (X : (Nat → Int32) × Nat) (h : am_H) (q : am_K) : am_mk (am_sx X h) q = am_sx X (am_mk h q) := rfl
theorem am_xx_sR (X : (Nat → Int32) × Nat) (h : am_H) (a k x : Nat) : am_sR (am_sx X h) a k x = am_sx X (am_sR h a k x) := rfl
theorem am_xx_sI (X : (Nat → Int32) × Nat) (h : am_H) (a k : Nat) (x : Int32) : am_sI (am_sx X h) a k x = am_sx X (am_sI h a k x) := rfl
theorem am_xx_rw (X : (Nat → Int32) × Nat) (h : am_H) (a : Nat) (f : Nat → Int32) : am_rw (am_sx X h) a f = am_sx X (am_rw h a f) := rfl
theorem am_xx_ln (X : (Nat → Int32) × Nat) (h : am_H) : (am_sx X h).1.length = h.1.length := rfl
theorem am_xx_ri (X : (Nat → Int32) × Nat) (h : am_H) (a k N : Nat) : am_ri (am_sx X h) a k N = am_sx X (am_ri h a k N) := rfl
theorem am_xx_rl (X : (Nat → Int32) × Nat) (h : am_H) (a k N : Nat) : am_rl (am_sx X h) a k N = am_sx X (am_rl h a k N) := rfl
theorem am_xx_rp (X : (Nat → Int32) × Nat) (h : am_H) (a : Nat) : am_rp (am_sx X h) a = am_sx X (am_rp h a) := by
  simp only [am_rp, am_rpL, am_xx_ri, am_xx_sI, am_xx_rw, am_xx_ln]
theorem am_xx_se (X : (Nat → Int32) × Nat) (h : am_H) (a : Nat) : am_se (am_sx X h) a = am_sx X (am_se h a) := by
  simp only [am_se, am_se1, am_se2, am_xx_ri, am_xx_mk, am_xx_sR, am_xx_ln]
theorem am_xx_mo (X : (Nat → Int32) × Nat) (h : am_H) (a : Nat) : am_mo (am_sx X h) a = am_sx X (am_mo h a) := by
  simp only [am_mo, am_moM, am_moL, am_xx_ri, am_xx_sI, am_xx_rw, am_xx_ln, am_xx_mk, am_xx_sR]
theorem am_xx_h0 (xs : Nat → Int32) (L : Nat) : am_h0 xs L = am_sx (xs, L) (am_h0 am_zz 0) := rfl
theorem am_xx_a0 (xs : Nat → Int32) (L : Nat) : am_a0 xs L = am_sx (xs, L) (am_a0 am_zz 0) := by
  rw [am_a0, am_a0, am_xx_h0 xs L]
  simp only [am_xx_mk, am_xx_sR, am_xx_ri, am_xx_rp, am_xx_rl, am_xx_se]
theorem am_xx_a1 (xs : Nat → Int32) (L : Nat) : am_a1 xs L = am_sx (xs, L) (am_a1 am_zz 0) := by
  rw [am_a1, am_a1, am_xx_a0 xs L]
  simp only [am_xx_mk, am_xx_sR, am_xx_ri, am_xx_rp, am_xx_rl, am_xx_se]
theorem am_xx_a2 (xs : Nat → Int32) (L : Nat) : am_a2 xs L = am_sx (xs, L) (am_a2 am_zz 0) := by
  rw [am_a2, am_a2, am_xx_a1 xs L]
  simp only [am_xx_mk, am_xx_sR, am_xx_ri, am_xx_rp, am_xx_rl, am_xx_se]
theorem am_xx_a3 (xs : Nat → Int32) (L : Nat) : am_a3 xs L = am_sx (xs, L) (am_a3 am_zz 0) := by
  rw [am_a3, am_a3, am_xx_a2 xs L]
  simp only [am_xx_mk, am_xx_sR, am_xx_ri, am_xx_rp, am_xx_rl, am_xx_se]
theorem am_xx_a4 (xs : Nat → Int32) (L : Nat) : am_a4 xs L = am_sx (xs, L) (am_a4 am_zz 0) := by
  rw [am_a4, am_a4, am_xx_a3 xs L]
  simp only [am_xx_mk, am_xx_sR, am_xx_ri, am_xx_rp, am_xx_rl, am_xx_se]
theorem am_xx_a5 (xs : Nat → Int32) (L : Nat) : am_a5 xs L = am_sx (xs, L) (am_a5 am_zz 0) := by
  rw [am_a5, am_a5, am_xx_a4 xs L]
  simp only [am_xx_mk, am_xx_sR, am_xx_ri, am_xx_rp, am_xx_rl, am_xx_se]
theorem am_xx_a6 (xs : Nat → Int32) (L : Nat) : am_a6 xs L = am_sx (xs, L) (am_a6 am_zz 0) := by
  rw [am_a6, am_a6, am_xx_a5 xs L]
  simp only [am_xx_mk, am_xx_sR, am_xx_ri, am_xx_rp, am_xx_rl, am_xx_se]
theorem am_xx_a7 (xs : Nat → Int32) (L : Nat) : am_a7 xs L = am_sx (xs, L) (am_a7 am_zz 0) := by
  rw [am_a7, am_a7, am_xx_a6 xs L]
  simp only [am_xx_mk, am_xx_sR, am_xx_ri, am_xx_rp, am_xx_rl, am_xx_se]
theorem am_xx_a8 (xs : Nat → Int32) (L : Nat) : am_a8 xs L = am_sx (xs, L) (am_a8 am_zz 0) := by
  rw [am_a8, am_a8, am_xx_a7 xs L]
  simp only [am_xx_mk, am_xx_sR, am_xx_ri, am_xx_rp, am_xx_rl, am_xx_se]
theorem am_xx_a9 (xs : Nat → Int32) (L : Nat) : am_a9 xs L = am_sx (xs, L) (am_a9 am_zz 0) := by
  rw [am_a9, am_a9, am_xx_a8 xs L]
  simp only [am_xx_mk, am_xx_sR, am_xx_ri, am_xx_rp, am_xx_rl, am_xx_se]
theorem am_xx_a10 (xs : Nat → Int32) (L : Nat) : am_a10 xs L = am_sx (xs, L) (am_a10 am_zz 0) := by
  rw [am_a10, am_a10, am_xx_a9 xs L]
  simp only [am_xx_mk, am_xx_sR, am_xx_ri, am_xx_rp, am_xx_rl, am_xx_se]
theorem am_xx_a11 (xs : Nat → Int32) (L : Nat) : am_a11 xs L = am_sx (xs, L) (am_a11 am_zz 0) := by
  rw [am_a11, am_a11, am_xx_a10 xs L]
  simp only [am_xx_mk, am_xx_sR, am_xx_ri, am_xx_rp, am_xx_rl, am_xx_se]
theorem am_xx_a12 (xs : Nat → Int32) (L : Nat) : am_a12 xs L = am_sx (xs, L) (am_a12 am_zz 0) := by
  rw [am_a12, am_a12, am_xx_a11 xs L]
  simp only [am_xx_mk, am_xx_sR, am_xx_ri, am_xx_rp, am_xx_rl, am_xx_se]
theorem am_xx_b1 (xs : Nat → Int32) (L : Nat) : am_b1 xs L = am_sx (xs, L) (am_b1 am_zz 0) := by
  rw [am_b1, am_b1, am_xx_a12 xs L]
  simp only [am_xx_mk, am_xx_mo]
def am_Kst : List am_K := [(8, 10), (3, 2), (10, 60), (4, 16), (10, 8), (10, 8), (10, 8), (10, 8), (10, 8), (10, 8), (10, 25), (10, 4), (10, 6), (10, 6), (4, 16), (10, 8), (10, 8), (10, 8), (10, 8), (10, 8), (10, 8), (10, 25), (10, 4), (10, 6), (10, 6), (13, 2), (4, 16), (10, 8), (10, 8), (10, 8), (10, 8), (10, 8), (10, 8), (10, 25), (10, 4), (10, 6), (10, 6), (4, 16), (10, 8), (10, 8), (10, 8), (10, 8), (10, 8), (10, 8), (10, 25), (10, 4), (10, 6), (10, 6), (12, 2), (6, 1), (10, 4), (5, 10), (7, 2), (10, 5), (6, 1), (10, 4), (10, 5), (2, 2), (0, 5), (11, 100), (1, 5), (11, 9), (9, 30), (10, 8), (10, 8), (10, 8), (10, 8), (10, 8), (10, 25), (10, 20), (10, 4), (10, 12), (10, 60), (10, 5), (10, 5), (10, 8), (10, 8), (10, 8), (10, 8), (10, 800), (10, 240), (12, 2)]
def am_Rst : Nat → Nat → Option Nat := (am_b1 am_zz 0).2.2.2.1
def am_I0 : Nat → Nat → Int32 := (am_b1 am_zz 0).2.1
def am_J0 : Nat → Nat → Int64 := (am_b1 am_zz 0).2.2.1
def am_hp (X : (Nat → Int32) × Nat) (I : Nat → Nat → Int32) (J : Nat → Nat → Int64) : am_H := (am_Kst, I, J, am_Rst, X)
theorem am_K_b1 : (am_b1 am_zz 0).1 = am_Kst := by
  simp only [am_b1, am_mo, am_moM, am_moL, am_K_rw, am_K_sR, am_K_mk, am_K_ri, am_K_sI, am_K_a12, List.append_assoc, List.cons_append, List.nil_append]
  rfl
theorem am_hp_b1 (xs : Nat → Int32) (L : Nat) : am_b1 xs L = am_hp (xs, L) am_I0 am_J0 := by
  rw [am_xx_b1, am_sx, am_K_b1]
  rfl
def am_kS (a : Nat) : am_K := am_Kst.getD a (99, 0)
def am_rs (a k : Nat) : Nat := (am_Rst a k).getD 0
def am_Rtab : List (Nat × Nat × Nat) := [(0, 0, 1), (0, 1, 3), (0, 2, 14), (0, 3, 25), (0, 4, 48), (0, 5, 49), (0, 6, 51), (0, 7, 57), (0, 8, 58), (0, 9, 60), (1, 0, 2), (3, 1, 4), (3, 2, 5), (3, 3, 6), (3, 4, 7), (3, 5, 8), (3, 6, 9), (3, 7, 10), (3, 11, 11), (3, 13, 12), (3, 14, 13), (14, 1, 15), (14, 2, 16), (14, 3, 17), (14, 4, 18), (14, 5, 19), (14, 6, 20), (14, 7, 21), (14, 11, 22), (14, 13, 23), (14, 14, 24), (25, 0, 26), (25, 1, 37), (26, 1, 27), (26, 2, 28), (26, 3, 29), (26, 4, 30), (26, 5, 31), (26, 6, 32), (26, 7, 33), (26, 11, 34), (26, 13, 35), (26, 14, 36), (37, 1, 38), (37, 2, 39), (37, 3, 40), (37, 4, 41), (37, 5, 42), (37, 6, 43), (37, 7, 44), (37, 11, 45), (37, 13, 46), (37, 14, 47), (49, 0, 50), (51, 0, 52), (51, 1, 54), (51, 2, 56), (52, 0, 53), (54, 0, 55), (58, 0, 59), (60, 0, 61), (62, 1, 63), (62, 2, 64), (62, 3, 65), (62, 4, 66), (62, 5, 67), (62, 6, 68), (62, 11, 69), (62, 12, 70), (62, 14, 71), (62, 16, 72), (62, 17, 73), (62, 18, 74), (62, 20, 75), (62, 21, 76), (62, 22, 77), (62, 23, 78), (62, 27, 79), (62, 28, 80), (62, 29, 81)]
set_option maxRecDepth 100000 in
theorem am_Rtab_ok : am_Rtab.all (fun q => decide (am_Rst q.1 q.2.1 = some q.2.2)) = true := by decide +kernel
theorem am_Rt (k : Nat) {a j x : Nat} (h : am_Rtab[k]? = some (a, j, x)) : am_Rst a j = some x := by
  have := List.all_eq_true.mp am_Rtab_ok _ (List.mem_of_getElem? h)
  simpa using this
