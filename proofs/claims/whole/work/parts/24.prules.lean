/-! rules over am_hp -/
theorem kS_0 : am_kS 0 = (8, 10) := rfl
theorem kS_1 : am_kS 1 = (3, 2) := rfl
theorem kS_2 : am_kS 2 = (10, 60) := rfl
theorem kS_3 : am_kS 3 = (4, 16) := rfl
theorem kS_4 : am_kS 4 = (10, 8) := rfl
theorem kS_5 : am_kS 5 = (10, 8) := rfl
theorem kS_6 : am_kS 6 = (10, 8) := rfl
theorem kS_7 : am_kS 7 = (10, 8) := rfl
theorem kS_8 : am_kS 8 = (10, 8) := rfl
theorem kS_9 : am_kS 9 = (10, 8) := rfl
theorem kS_10 : am_kS 10 = (10, 25) := rfl
theorem kS_11 : am_kS 11 = (10, 4) := rfl
theorem kS_12 : am_kS 12 = (10, 6) := rfl
theorem kS_13 : am_kS 13 = (10, 6) := rfl
theorem kS_14 : am_kS 14 = (4, 16) := rfl
theorem kS_15 : am_kS 15 = (10, 8) := rfl
theorem kS_16 : am_kS 16 = (10, 8) := rfl
theorem kS_17 : am_kS 17 = (10, 8) := rfl
theorem kS_18 : am_kS 18 = (10, 8) := rfl
theorem kS_19 : am_kS 19 = (10, 8) := rfl
theorem kS_20 : am_kS 20 = (10, 8) := rfl
theorem kS_21 : am_kS 21 = (10, 25) := rfl
theorem kS_22 : am_kS 22 = (10, 4) := rfl
theorem kS_23 : am_kS 23 = (10, 6) := rfl
theorem kS_24 : am_kS 24 = (10, 6) := rfl
theorem kS_25 : am_kS 25 = (13, 2) := rfl
theorem kS_26 : am_kS 26 = (4, 16) := rfl
theorem kS_27 : am_kS 27 = (10, 8) := rfl
theorem kS_28 : am_kS 28 = (10, 8) := rfl
theorem kS_29 : am_kS 29 = (10, 8) := rfl
theorem kS_30 : am_kS 30 = (10, 8) := rfl
theorem kS_31 : am_kS 31 = (10, 8) := rfl
theorem kS_32 : am_kS 32 = (10, 8) := rfl
theorem kS_33 : am_kS 33 = (10, 25) := rfl
theorem kS_34 : am_kS 34 = (10, 4) := rfl
theorem kS_35 : am_kS 35 = (10, 6) := rfl
theorem kS_36 : am_kS 36 = (10, 6) := rfl
theorem kS_37 : am_kS 37 = (4, 16) := rfl
theorem kS_38 : am_kS 38 = (10, 8) := rfl
theorem kS_39 : am_kS 39 = (10, 8) := rfl
theorem kS_40 : am_kS 40 = (10, 8) := rfl
theorem kS_41 : am_kS 41 = (10, 8) := rfl
theorem kS_42 : am_kS 42 = (10, 8) := rfl
theorem kS_43 : am_kS 43 = (10, 8) := rfl
theorem kS_44 : am_kS 44 = (10, 25) := rfl
theorem kS_45 : am_kS 45 = (10, 4) := rfl
theorem kS_46 : am_kS 46 = (10, 6) := rfl
theorem kS_47 : am_kS 47 = (10, 6) := rfl
theorem kS_48 : am_kS 48 = (12, 2) := rfl
theorem kS_49 : am_kS 49 = (6, 1) := rfl
theorem kS_50 : am_kS 50 = (10, 4) := rfl
theorem kS_51 : am_kS 51 = (5, 10) := rfl
theorem kS_52 : am_kS 52 = (7, 2) := rfl
theorem kS_53 : am_kS 53 = (10, 5) := rfl
theorem kS_54 : am_kS 54 = (6, 1) := rfl
theorem kS_55 : am_kS 55 = (10, 4) := rfl
theorem kS_56 : am_kS 56 = (10, 5) := rfl
theorem kS_57 : am_kS 57 = (2, 2) := rfl
theorem kS_58 : am_kS 58 = (0, 5) := rfl
theorem kS_59 : am_kS 59 = (11, 100) := rfl
theorem kS_60 : am_kS 60 = (1, 5) := rfl
theorem kS_61 : am_kS 61 = (11, 9) := rfl
theorem kS_62 : am_kS 62 = (9, 30) := rfl
theorem kS_63 : am_kS 63 = (10, 8) := rfl
theorem kS_64 : am_kS 64 = (10, 8) := rfl
theorem kS_65 : am_kS 65 = (10, 8) := rfl
theorem kS_66 : am_kS 66 = (10, 8) := rfl
theorem kS_67 : am_kS 67 = (10, 8) := rfl
theorem kS_68 : am_kS 68 = (10, 25) := rfl
theorem kS_69 : am_kS 69 = (10, 20) := rfl
theorem kS_70 : am_kS 70 = (10, 4) := rfl
theorem kS_71 : am_kS 71 = (10, 12) := rfl
theorem kS_72 : am_kS 72 = (10, 60) := rfl
theorem kS_73 : am_kS 73 = (10, 5) := rfl
theorem kS_74 : am_kS 74 = (10, 5) := rfl
theorem kS_75 : am_kS 75 = (10, 8) := rfl
theorem kS_76 : am_kS 76 = (10, 8) := rfl
theorem kS_77 : am_kS 77 = (10, 8) := rfl
theorem kS_78 : am_kS 78 = (10, 8) := rfl
theorem kS_79 : am_kS 79 = (10, 800) := rfl
theorem kS_80 : am_kS 80 = (10, 240) := rfl
theorem kS_81 : am_kS 81 = (12, 2) := rfl
theorem rS_0_0 : am_Rst 0 0 = some 1 := am_Rt 0 rfl
theorem rS_0_1 : am_Rst 0 1 = some 3 := am_Rt 1 rfl
theorem rS_0_2 : am_Rst 0 2 = some 14 := am_Rt 2 rfl
theorem rS_0_3 : am_Rst 0 3 = some 25 := am_Rt 3 rfl
theorem rS_0_4 : am_Rst 0 4 = some 48 := am_Rt 4 rfl
theorem rS_0_5 : am_Rst 0 5 = some 49 := am_Rt 5 rfl
theorem rS_0_6 : am_Rst 0 6 = some 51 := am_Rt 6 rfl
theorem rS_0_7 : am_Rst 0 7 = some 57 := am_Rt 7 rfl
theorem rS_0_8 : am_Rst 0 8 = some 58 := am_Rt 8 rfl
theorem rS_0_9 : am_Rst 0 9 = some 60 := am_Rt 9 rfl
theorem rS_1_0 : am_Rst 1 0 = some 2 := am_Rt 10 rfl
theorem rS_3_1 : am_Rst 3 1 = some 4 := am_Rt 11 rfl
theorem rS_3_2 : am_Rst 3 2 = some 5 := am_Rt 12 rfl
theorem rS_3_3 : am_Rst 3 3 = some 6 := am_Rt 13 rfl
theorem rS_3_4 : am_Rst 3 4 = some 7 := am_Rt 14 rfl
theorem rS_3_5 : am_Rst 3 5 = some 8 := am_Rt 15 rfl
theorem rS_3_6 : am_Rst 3 6 = some 9 := am_Rt 16 rfl
theorem rS_3_7 : am_Rst 3 7 = some 10 := am_Rt 17 rfl
theorem rS_3_11 : am_Rst 3 11 = some 11 := am_Rt 18 rfl
theorem rS_3_13 : am_Rst 3 13 = some 12 := am_Rt 19 rfl
theorem rS_3_14 : am_Rst 3 14 = some 13 := am_Rt 20 rfl
theorem rS_14_1 : am_Rst 14 1 = some 15 := am_Rt 21 rfl
theorem rS_14_2 : am_Rst 14 2 = some 16 := am_Rt 22 rfl
theorem rS_14_3 : am_Rst 14 3 = some 17 := am_Rt 23 rfl
theorem rS_14_4 : am_Rst 14 4 = some 18 := am_Rt 24 rfl
theorem rS_14_5 : am_Rst 14 5 = some 19 := am_Rt 25 rfl
theorem rS_14_6 : am_Rst 14 6 = some 20 := am_Rt 26 rfl
theorem rS_14_7 : am_Rst 14 7 = some 21 := am_Rt 27 rfl
theorem rS_14_11 : am_Rst 14 11 = some 22 := am_Rt 28 rfl
theorem rS_14_13 : am_Rst 14 13 = some 23 := am_Rt 29 rfl
theorem rS_14_14 : am_Rst 14 14 = some 24 := am_Rt 30 rfl
theorem rS_25_0 : am_Rst 25 0 = some 26 := am_Rt 31 rfl
theorem rS_25_1 : am_Rst 25 1 = some 37 := am_Rt 32 rfl
theorem rS_26_1 : am_Rst 26 1 = some 27 := am_Rt 33 rfl
theorem rS_26_2 : am_Rst 26 2 = some 28 := am_Rt 34 rfl
theorem rS_26_3 : am_Rst 26 3 = some 29 := am_Rt 35 rfl
theorem rS_26_4 : am_Rst 26 4 = some 30 := am_Rt 36 rfl
theorem rS_26_5 : am_Rst 26 5 = some 31 := am_Rt 37 rfl
theorem rS_26_6 : am_Rst 26 6 = some 32 := am_Rt 38 rfl
theorem rS_26_7 : am_Rst 26 7 = some 33 := am_Rt 39 rfl
theorem rS_26_11 : am_Rst 26 11 = some 34 := am_Rt 40 rfl
theorem rS_26_13 : am_Rst 26 13 = some 35 := am_Rt 41 rfl
theorem rS_26_14 : am_Rst 26 14 = some 36 := am_Rt 42 rfl
theorem rS_37_1 : am_Rst 37 1 = some 38 := am_Rt 43 rfl
theorem rS_37_2 : am_Rst 37 2 = some 39 := am_Rt 44 rfl
theorem rS_37_3 : am_Rst 37 3 = some 40 := am_Rt 45 rfl
theorem rS_37_4 : am_Rst 37 4 = some 41 := am_Rt 46 rfl
theorem rS_37_5 : am_Rst 37 5 = some 42 := am_Rt 47 rfl
theorem rS_37_6 : am_Rst 37 6 = some 43 := am_Rt 48 rfl
theorem rS_37_7 : am_Rst 37 7 = some 44 := am_Rt 49 rfl
theorem rS_37_11 : am_Rst 37 11 = some 45 := am_Rt 50 rfl
theorem rS_37_13 : am_Rst 37 13 = some 46 := am_Rt 51 rfl
theorem rS_37_14 : am_Rst 37 14 = some 47 := am_Rt 52 rfl
theorem rS_49_0 : am_Rst 49 0 = some 50 := am_Rt 53 rfl
theorem rS_51_0 : am_Rst 51 0 = some 52 := am_Rt 54 rfl
theorem rS_51_1 : am_Rst 51 1 = some 54 := am_Rt 55 rfl
theorem rS_51_2 : am_Rst 51 2 = some 56 := am_Rt 56 rfl
theorem rS_52_0 : am_Rst 52 0 = some 53 := am_Rt 57 rfl
theorem rS_54_0 : am_Rst 54 0 = some 55 := am_Rt 58 rfl
theorem rS_58_0 : am_Rst 58 0 = some 59 := am_Rt 59 rfl
theorem rS_60_0 : am_Rst 60 0 = some 61 := am_Rt 60 rfl
theorem rS_62_1 : am_Rst 62 1 = some 63 := am_Rt 61 rfl
theorem rS_62_2 : am_Rst 62 2 = some 64 := am_Rt 62 rfl
theorem rS_62_3 : am_Rst 62 3 = some 65 := am_Rt 63 rfl
theorem rS_62_4 : am_Rst 62 4 = some 66 := am_Rt 64 rfl
theorem rS_62_5 : am_Rst 62 5 = some 67 := am_Rt 65 rfl
theorem rS_62_6 : am_Rst 62 6 = some 68 := am_Rt 66 rfl
theorem rS_62_11 : am_Rst 62 11 = some 69 := am_Rt 67 rfl
theorem rS_62_12 : am_Rst 62 12 = some 70 := am_Rt 68 rfl
theorem rS_62_14 : am_Rst 62 14 = some 71 := am_Rt 69 rfl
theorem rS_62_16 : am_Rst 62 16 = some 72 := am_Rt 70 rfl
theorem rS_62_17 : am_Rst 62 17 = some 73 := am_Rt 71 rfl
theorem rS_62_18 : am_Rst 62 18 = some 74 := am_Rt 72 rfl
theorem rS_62_20 : am_Rst 62 20 = some 75 := am_Rt 73 rfl
theorem rS_62_21 : am_Rst 62 21 = some 76 := am_Rt 74 rfl
theorem rS_62_22 : am_Rst 62 22 = some 77 := am_Rt 75 rfl
theorem rS_62_23 : am_Rst 62 23 = some 78 := am_Rt 76 rfl
theorem rS_62_27 : am_Rst 62 27 = some 79 := am_Rt 77 rfl
theorem rS_62_28 : am_Rst 62 28 = some 80 := am_Rt 78 rfl
theorem rS_62_29 : am_Rst 62 29 = some 81 := am_Rt 79 rfl
/-- a Republic of the class: now, trial, the two images -/
def am_rep (r : Nat) : Prop := r = 3 ∨ r = 14 ∨ r = 26 ∨ r = 37
theorem am_rep_3 : am_rep 3 := Or.inl rfl
theorem am_rep_14 : am_rep 14 := Or.inr (Or.inl rfl)
theorem am_rep_26 : am_rep 26 := Or.inr (Or.inr (Or.inl rfl))
theorem am_rep_37 : am_rep 37 := Or.inr (Or.inr (Or.inr rfl))
theorem rp_k {r : Nat} (h : am_rep r) : am_kS r = (4, 16) := by rcases h with rfl | rfl | rfl | rfl <;> rfl
theorem rp_k1 {r : Nat} (h : am_rep r) : am_kS (r + 1) = (10, 8) := by rcases h with rfl | rfl | rfl | rfl <;> rfl
theorem rp_r1 {r : Nat} (h : am_rep r) : am_Rst r 1 = some (r + 1) := by
  rcases h with rfl | rfl | rfl | rfl
  · exact rS_3_1
  · exact rS_14_1
  · exact rS_26_1
  · exact rS_37_1
theorem rp_k2 {r : Nat} (h : am_rep r) : am_kS (r + 2) = (10, 8) := by rcases h with rfl | rfl | rfl | rfl <;> rfl
theorem rp_r2 {r : Nat} (h : am_rep r) : am_Rst r 2 = some (r + 2) := by
  rcases h with rfl | rfl | rfl | rfl
  · exact rS_3_2
  · exact rS_14_2
  · exact rS_26_2
  · exact rS_37_2
theorem rp_k3 {r : Nat} (h : am_rep r) : am_kS (r + 3) = (10, 8) := by rcases h with rfl | rfl | rfl | rfl <;> rfl
theorem rp_r3 {r : Nat} (h : am_rep r) : am_Rst r 3 = some (r + 3) := by
  rcases h with rfl | rfl | rfl | rfl
  · exact rS_3_3
  · exact rS_14_3
  · exact rS_26_3
  · exact rS_37_3
theorem rp_k4 {r : Nat} (h : am_rep r) : am_kS (r + 4) = (10, 8) := by rcases h with rfl | rfl | rfl | rfl <;> rfl
theorem rp_r4 {r : Nat} (h : am_rep r) : am_Rst r 4 = some (r + 4) := by
  rcases h with rfl | rfl | rfl | rfl
  · exact rS_3_4
  · exact rS_14_4
  · exact rS_26_4
  · exact rS_37_4
theorem rp_k5 {r : Nat} (h : am_rep r) : am_kS (r + 5) = (10, 8) := by rcases h with rfl | rfl | rfl | rfl <;> rfl
theorem rp_r5 {r : Nat} (h : am_rep r) : am_Rst r 5 = some (r + 5) := by
  rcases h with rfl | rfl | rfl | rfl
  · exact rS_3_5
  · exact rS_14_5
  · exact rS_26_5
  · exact rS_37_5
theorem rp_k6 {r : Nat} (h : am_rep r) : am_kS (r + 6) = (10, 8) := by rcases h with rfl | rfl | rfl | rfl <;> rfl
theorem rp_r6 {r : Nat} (h : am_rep r) : am_Rst r 6 = some (r + 6) := by
  rcases h with rfl | rfl | rfl | rfl
  · exact rS_3_6
  · exact rS_14_6
  · exact rS_26_6
  · exact rS_37_6
theorem rp_k7 {r : Nat} (h : am_rep r) : am_kS (r + 7) = (10, 25) := by rcases h with rfl | rfl | rfl | rfl <;> rfl
theorem rp_r7 {r : Nat} (h : am_rep r) : am_Rst r 7 = some (r + 7) := by
  rcases h with rfl | rfl | rfl | rfl
  · exact rS_3_7
  · exact rS_14_7
  · exact rS_26_7
  · exact rS_37_7
theorem rp_k8 {r : Nat} (h : am_rep r) : am_kS (r + 8) = (10, 4) := by rcases h with rfl | rfl | rfl | rfl <;> rfl
theorem rp_r11 {r : Nat} (h : am_rep r) : am_Rst r 11 = some (r + 8) := by
  rcases h with rfl | rfl | rfl | rfl
  · exact rS_3_11
  · exact rS_14_11
  · exact rS_26_11
  · exact rS_37_11
theorem rp_k9 {r : Nat} (h : am_rep r) : am_kS (r + 9) = (10, 6) := by rcases h with rfl | rfl | rfl | rfl <;> rfl
theorem rp_r13 {r : Nat} (h : am_rep r) : am_Rst r 13 = some (r + 9) := by
  rcases h with rfl | rfl | rfl | rfl
  · exact rS_3_13
  · exact rS_14_13
  · exact rS_26_13
  · exact rS_37_13
theorem rp_k10 {r : Nat} (h : am_rep r) : am_kS (r + 10) = (10, 6) := by rcases h with rfl | rfl | rfl | rfl <;> rfl
theorem rp_r14 {r : Nat} (h : am_rep r) : am_Rst r 14 = some (r + 10) := by
  rcases h with rfl | rfl | rfl | rfl
  · exact rS_3_14
  · exact rS_14_14
  · exact rS_26_14
  · exact rS_37_14
theorem am_kS_le (a : Nat) : (am_kS a).2 ≤ 1000 := by
  by_cases h : a < 82
  · have : ∀ a, a < 82 → (am_kS a).2 ≤ 1000 := by decide +kernel
    exact this a h
  · have hl : am_Kst.length = 82 := rfl
    rw [am_kS, List.getD_eq_getElem?_getD, List.getElem?_eq_none (by omega)]
    decide
section AMP
variable {e e2 : am_E} {pc : Nat}
theorem am_p_getI {i ci k : Nat} {f : Bool} (hd : decode (am_code e) pc = .ok (.getfield i, 3)) (hf : am_flk (am_ow e) i = some (ci, k, 0, f)) (ls st : List Value) (X : (Nat → Int32) × Nat) (I : Nat → Nat → Int32) (J : Nat → Nat → Int64) (Q : Option Value → am_H → Prop) (a : Nat) (ha : (am_kS a).1 = ci) : am_wp e pc ls (.ref a :: st) (am_hp X I J) Q = am_wp e (pc + 3) ls (.int (I a k) :: st) (am_hp X I J) Q := am_v_getI hd hf ls st _ Q a ha
theorem am_p_getJ {i ci k : Nat} {f : Bool} (hd : decode (am_code e) pc = .ok (.getfield i, 3)) (hf : am_flk (am_ow e) i = some (ci, k, 1, f)) (ls st : List Value) (X : (Nat → Int32) × Nat) (I : Nat → Nat → Int32) (J : Nat → Nat → Int64) (Q : Option Value → am_H → Prop) (a : Nat) (ha : (am_kS a).1 = ci) : am_wp e pc ls (.ref a :: st) (am_hp X I J) Q = am_wp e (pc + 3) ls (.long (J a k) :: st) (am_hp X I J) Q := am_v_getJ hd hf ls st _ Q a ha
theorem am_p_getR {i ci k : Nat} {f : Bool} (hd : decode (am_code e) pc = .ok (.getfield i, 3)) (hf : am_flk (am_ow e) i = some (ci, k, 2, f)) (ls st : List Value) (X : (Nat → Int32) × Nat) (I : Nat → Nat → Int32) (J : Nat → Nat → Int64) (Q : Option Value → am_H → Prop) (a : Nat) (ha : (am_kS a).1 = ci) (hx : (am_Rst a k).isSome = true) : am_wp e pc ls (.ref a :: st) (am_hp X I J) Q = am_wp e (pc + 3) ls (.ref ((am_Rst a k).getD 0) :: st) (am_hp X I J) Q := am_v_getRd hd hf ls st _ Q a ha hx
theorem am_p_putI {i ci k : Nat} (hd : decode (am_code e) pc = .ok (.putfield i, 3)) (hf : am_flk (am_ow e) i = some (ci, k, 0, false)) (ls st : List Value) (X : (Nat → Int32) × Nat) (I : Nat → Nat → Int32) (J : Nat → Nat → Int64) (Q : Option Value → am_H → Prop) (a : Nat) (x : Int32) (ha : (am_kS a).1 = ci) : am_wp e pc ls (.int x :: .ref a :: st) (am_hp X I J) Q = am_wp e (pc + 3) ls st (am_hp X (va_up I a (upd (I a) k x)) J) Q := am_v_putI hd hf ls st _ Q a x ha
theorem am_p_putJ {i ci k : Nat} (hd : decode (am_code e) pc = .ok (.putfield i, 3)) (hf : am_flk (am_ow e) i = some (ci, k, 1, false)) (ls st : List Value) (X : (Nat → Int32) × Nat) (I : Nat → Nat → Int32) (J : Nat → Nat → Int64) (Q : Option Value → am_H → Prop) (a : Nat) (x : Int64) (ha : (am_kS a).1 = ci) : am_wp e pc ls (.long x :: .ref a :: st) (am_hp X I J) Q = am_wp e (pc + 3) ls st (am_hp X I (va_up J a (vp_updL (J a) k x))) Q := am_v_putJ hd hf ls st _ Q a x ha
theorem am_in_of {k a : Nat} (hk : k < (am_kS a).2) : am_in (nI k) (am_kS a).2 := nI_in hk (by have := am_kS_le a; omega)
theorem am_cl_of {k a : Nat} (hk : k < (am_kS a).2) : (nI k).toNatClampNeg = k := nI_clamp (by have := am_kS_le a; omega)
theorem am_p_iald (hd : decode (am_code e) pc = .ok (.iaload, 1)) (ls st : List Value) (X : (Nat → Int32) × Nat) (I : Nat → Nat → Int32) (J : Nat → Nat → Int64) (Q : Option Value → am_H → Prop) (a k : Nat) (ha : (am_kS a).1 = 10) (hk : k < (am_kS a).2) : am_wp e pc ls (.int (nI k) :: .ref a :: st) (am_hp X I J) Q = am_wp e (pc + 1) ls (.int (I a k) :: st) (am_hp X I J) Q := by
  have := am_v_iald hd ls st (am_hp X I J) Q a (nI k) ha (am_in_of hk)
  rw [am_cl_of hk] at this
  exact this
theorem am_p_bald (hd : decode (am_code e) pc = .ok (.baload, 1)) (ls st : List Value) (X : (Nat → Int32) × Nat) (I : Nat → Nat → Int32) (J : Nat → Nat → Int64) (Q : Option Value → am_H → Prop) (a k : Nat) (ha : (am_kS a).1 = 12) (hk : k < (am_kS a).2) : am_wp e pc ls (.int (nI k) :: .ref a :: st) (am_hp X I J) Q = am_wp e (pc + 1) ls (.int (I a k) :: st) (am_hp X I J) Q := by
  have := am_v_bald hd ls st (am_hp X I J) Q a (nI k) ha (am_in_of hk)
  rw [am_cl_of hk] at this
  exact this
theorem am_p_lald (hd : decode (am_code e) pc = .ok (.laload, 1)) (ls st : List Value) (X : (Nat → Int32) × Nat) (I : Nat → Nat → Int32) (J : Nat → Nat → Int64) (Q : Option Value → am_H → Prop) (a k : Nat) (ha : (am_kS a).1 = 11) (hk : k < (am_kS a).2) : am_wp e pc ls (.int (nI k) :: .ref a :: st) (am_hp X I J) Q = am_wp e (pc + 1) ls (.long (J a k) :: st) (am_hp X I J) Q := by
  have := am_v_lald hd ls st (am_hp X I J) Q a (nI k) ha (am_in_of hk)
  rw [am_cl_of hk] at this
  exact this
theorem am_p_aald (hd : decode (am_code e) pc = .ok (.aaload, 1)) (ls st : List Value) (X : (Nat → Int32) × Nat) (I : Nat → Nat → Int32) (J : Nat → Nat → Int64) (Q : Option Value → am_H → Prop) (a k : Nat) (ha : (am_kS a).1 = 13) (hk : k < (am_kS a).2) (hx : (am_Rst a k).isSome = true) : am_wp e pc ls (.int (nI k) :: .ref a :: st) (am_hp X I J) Q = am_wp e (pc + 1) ls (.ref ((am_Rst a k).getD 0) :: st) (am_hp X I J) Q := by
  refine am_v_aald hd ls st (am_hp X I J) Q a _ (nI k) ha (am_in_of hk) ?_
  rw [am_cl_of hk]
  show am_Rst a k = _
  cases hq : am_Rst a k with
  | none => rw [hq] at hx; cases hx
  | some z => rfl
theorem am_p_iast (hd : decode (am_code e) pc = .ok (.iastore, 1)) (ls st : List Value) (X : (Nat → Int32) × Nat) (I : Nat → Nat → Int32) (J : Nat → Nat → Int64) (Q : Option Value → am_H → Prop) (a k : Nat) (x : Int32) (ha : (am_kS a).1 = 10) (hk : k < (am_kS a).2) : am_wp e pc ls (.int x :: .int (nI k) :: .ref a :: st) (am_hp X I J) Q = am_wp e (pc + 1) ls st (am_hp X (va_up I a (upd (I a) k x)) J) Q := by
  have := am_v_iast hd ls st (am_hp X I J) Q a (nI k) x ha (am_in_of hk)
  rw [am_cl_of hk] at this
  exact this
theorem am_p_bast (hd : decode (am_code e) pc = .ok (.bastore, 1)) (ls st : List Value) (X : (Nat → Int32) × Nat) (I : Nat → Nat → Int32) (J : Nat → Nat → Int64) (Q : Option Value → am_H → Prop) (a k : Nat) (ha : (am_kS a).1 = 12) (hk : k < (am_kS a).2) : am_wp e pc ls (.int (nI 1) :: .int (nI k) :: .ref a :: st) (am_hp X I J) Q = am_wp e (pc + 1) ls st (am_hp X (va_up I a (upd (I a) k 1)) J) Q := by
  have := am_v_bast hd ls st (am_hp X I J) Q a (nI k) ha (am_in_of hk)
  rw [am_cl_of hk] at this
  exact this
theorem am_p_last (hd : decode (am_code e) pc = .ok (.lastore, 1)) (ls st : List Value) (X : (Nat → Int32) × Nat) (I : Nat → Nat → Int32) (J : Nat → Nat → Int64) (Q : Option Value → am_H → Prop) (a k : Nat) (x : Int64) (ha : (am_kS a).1 = 11) (hk : k < (am_kS a).2) : am_wp e pc ls (.long x :: .int (nI k) :: .ref a :: st) (am_hp X I J) Q = am_wp e (pc + 1) ls st (am_hp X I (va_up J a (vp_updL (J a) k x))) Q := by
  have := am_v_last hd ls st (am_hp X I J) Q a (nI k) x ha (am_in_of hk)
  rw [am_cl_of hk] at this
  exact this
theorem am_p_acp {i : Nat} {e3 : am_E} (hd : decode (am_code e) pc = .ok (.invokestatic i, 3)) (hl : am_mlk (am_ow e) i = some (7, e3)) (hk : 0 < am_rk e) (ls st : List Value) (X : (Nat → Int32) × Nat) (I : Nat → Nat → Int32) (J : Nat → Nat → Int64) (Q : Option Value → am_H → Prop) (a a0 n : Nat) (hst : st.length ≤ 4) (hn : n ≤ 1000) (h0 : am_kS a0 = (10, n)) (h1 : am_kS a = (10, n)) : am_wp e pc ls (.int (nI n) :: .int (nI 0) :: .ref a :: .int (nI 0) :: .ref a0 :: st) (am_hp X I J) Q = am_wp e (pc + 3) ls st (am_hp X (va_up I a (I a0)) J) Q := by
  have hc : (nI n).toNatClampNeg = n := nI_clamp (by omega)
  refine am_v_acp hd hl hk ls st (am_hp X I J) Q a a0 (nI n) hst (nI_pos (by omega)) ?_ ?_
  · rw [hc]; exact h0
  · rw [hc]; exact h1
theorem am_q1_R {i : Nat} (hd : decode (am_code e) pc = .ok (.invokevirtual i, 3)) (hl : am_mlk (am_ow e) i = some (1, e2)) (hn : am_na e2 = 1) (hk : am_rk e2 < am_rk e) (o : Nat) (ho : am_ow e2 = o) (ls st : List Value) (X : (Nat → Int32) × Nat) (I : Nat → Nat → Int32) (J : Nat → Nat → Int64) (Q : Option Value → am_H → Prop) (a0 : Nat) (hst : st.length ≤ 4) (ha : (am_kS a0).1 = o) : am_wp e pc ls (.ref a0 :: st) (am_hp X I J) Q = am_wk e2 [.ref a0] (am_hp X I J) e pc ls st Q := am_c1_R hd hl hn hk o ho ls st _ Q a0 hst ha
theorem am_q1_RI {i : Nat} (hd : decode (am_code e) pc = .ok (.invokevirtual i, 3)) (hl : am_mlk (am_ow e) i = some (1, e2)) (hn : am_na e2 = 2) (hk : am_rk e2 < am_rk e) (o : Nat) (ho : am_ow e2 = o) (ls st : List Value) (X : (Nat → Int32) × Nat) (I : Nat → Nat → Int32) (J : Nat → Nat → Int64) (Q : Option Value → am_H → Prop) (a0 : Nat) (a1 : Int32) (hst : st.length ≤ 4) (ha : (am_kS a0).1 = o) : am_wp e pc ls (.int a1 :: .ref a0 :: st) (am_hp X I J) Q = am_wk e2 [.ref a0, .int a1] (am_hp X I J) e pc ls st Q := am_c1_RI hd hl hn hk o ho ls st _ Q a0 a1 hst ha
theorem am_q1_RII {i : Nat} (hd : decode (am_code e) pc = .ok (.invokevirtual i, 3)) (hl : am_mlk (am_ow e) i = some (1, e2)) (hn : am_na e2 = 3) (hk : am_rk e2 < am_rk e) (o : Nat) (ho : am_ow e2 = o) (ls st : List Value) (X : (Nat → Int32) × Nat) (I : Nat → Nat → Int32) (J : Nat → Nat → Int64) (Q : Option Value → am_H → Prop) (a0 : Nat) (a1 : Int32) (a2 : Int32) (hst : st.length ≤ 4) (ha : (am_kS a0).1 = o) : am_wp e pc ls (.int a2 :: .int a1 :: .ref a0 :: st) (am_hp X I J) Q = am_wk e2 [.ref a0, .int a1, .int a2] (am_hp X I J) e pc ls st Q := am_c1_RII hd hl hn hk o ho ls st _ Q a0 a1 a2 hst ha
theorem am_q1_RIII {i : Nat} (hd : decode (am_code e) pc = .ok (.invokevirtual i, 3)) (hl : am_mlk (am_ow e) i = some (1, e2)) (hn : am_na e2 = 4) (hk : am_rk e2 < am_rk e) (o : Nat) (ho : am_ow e2 = o) (ls st : List Value) (X : (Nat → Int32) × Nat) (I : Nat → Nat → Int32) (J : Nat → Nat → Int64) (Q : Option Value → am_H → Prop) (a0 : Nat) (a1 : Int32) (a2 : Int32) (a3 : Int32) (hst : st.length ≤ 4) (ha : (am_kS a0).1 = o) : am_wp e pc ls (.int a3 :: .int a2 :: .int a1 :: .ref a0 :: st) (am_hp X I J) Q = am_wk e2 [.ref a0, .int a1, .int a2, .int a3] (am_hp X I J) e pc ls st Q := am_c1_RIII hd hl hn hk o ho ls st _ Q a0 a1 a2 a3 hst ha
theorem am_q1_RIIIII {i : Nat} (hd : decode (am_code e) pc = .ok (.invokevirtual i, 3)) (hl : am_mlk (am_ow e) i = some (1, e2)) (hn : am_na e2 = 6) (hk : am_rk e2 < am_rk e) (o : Nat) (ho : am_ow e2 = o) (ls st : List Value) (X : (Nat → Int32) × Nat) (I : Nat → Nat → Int32) (J : Nat → Nat → Int64) (Q : Option Value → am_H → Prop) (a0 : Nat) (a1 : Int32) (a2 : Int32) (a3 : Int32) (a4 : Int32) (a5 : Int32) (hst : st.length ≤ 4) (ha : (am_kS a0).1 = o) : am_wp e pc ls (.int a5 :: .int a4 :: .int a3 :: .int a2 :: .int a1 :: .ref a0 :: st) (am_hp X I J) Q = am_wk e2 [.ref a0, .int a1, .int a2, .int a3, .int a4, .int a5] (am_hp X I J) e pc ls st Q := am_c1_RIIIII hd hl hn hk o ho ls st _ Q a0 a1 a2 a3 a4 a5 hst ha
theorem am_q1_RR {i : Nat} (hd : decode (am_code e) pc = .ok (.invokevirtual i, 3)) (hl : am_mlk (am_ow e) i = some (1, e2)) (hn : am_na e2 = 2) (hk : am_rk e2 < am_rk e) (o : Nat) (ho : am_ow e2 = o) (ls st : List Value) (X : (Nat → Int32) × Nat) (I : Nat → Nat → Int32) (J : Nat → Nat → Int64) (Q : Option Value → am_H → Prop) (a0 : Nat) (a1 : Nat) (hst : st.length ≤ 4) (ha : (am_kS a0).1 = o) : am_wp e pc ls (.ref a1 :: .ref a0 :: st) (am_hp X I J) Q = am_wk e2 [.ref a0, .ref a1] (am_hp X I J) e pc ls st Q := am_c1_RR hd hl hn hk o ho ls st _ Q a0 a1 hst ha
theorem am_q1_RRI {i : Nat} (hd : decode (am_code e) pc = .ok (.invokevirtual i, 3)) (hl : am_mlk (am_ow e) i = some (1, e2)) (hn : am_na e2 = 3) (hk : am_rk e2 < am_rk e) (o : Nat) (ho : am_ow e2 = o) (ls st : List Value) (X : (Nat → Int32) × Nat) (I : Nat → Nat → Int32) (J : Nat → Nat → Int64) (Q : Option Value → am_H → Prop) (a0 : Nat) (a1 : Nat) (a2 : Int32) (hst : st.length ≤ 4) (ha : (am_kS a0).1 = o) : am_wp e pc ls (.int a2 :: .ref a1 :: .ref a0 :: st) (am_hp X I J) Q = am_wk e2 [.ref a0, .ref a1, .int a2] (am_hp X I J) e pc ls st Q := am_c1_RRI hd hl hn hk o ho ls st _ Q a0 a1 a2 hst ha
theorem am_q1_RRII {i : Nat} (hd : decode (am_code e) pc = .ok (.invokevirtual i, 3)) (hl : am_mlk (am_ow e) i = some (1, e2)) (hn : am_na e2 = 4) (hk : am_rk e2 < am_rk e) (o : Nat) (ho : am_ow e2 = o) (ls st : List Value) (X : (Nat → Int32) × Nat) (I : Nat → Nat → Int32) (J : Nat → Nat → Int64) (Q : Option Value → am_H → Prop) (a0 : Nat) (a1 : Nat) (a2 : Int32) (a3 : Int32) (hst : st.length ≤ 4) (ha : (am_kS a0).1 = o) : am_wp e pc ls (.int a3 :: .int a2 :: .ref a1 :: .ref a0 :: st) (am_hp X I J) Q = am_wk e2 [.ref a0, .ref a1, .int a2, .int a3] (am_hp X I J) e pc ls st Q := am_c1_RRII hd hl hn hk o ho ls st _ Q a0 a1 a2 a3 hst ha
theorem am_q1_RRIII {i : Nat} (hd : decode (am_code e) pc = .ok (.invokevirtual i, 3)) (hl : am_mlk (am_ow e) i = some (1, e2)) (hn : am_na e2 = 5) (hk : am_rk e2 < am_rk e) (o : Nat) (ho : am_ow e2 = o) (ls st : List Value) (X : (Nat → Int32) × Nat) (I : Nat → Nat → Int32) (J : Nat → Nat → Int64) (Q : Option Value → am_H → Prop) (a0 : Nat) (a1 : Nat) (a2 : Int32) (a3 : Int32) (a4 : Int32) (hst : st.length ≤ 4) (ha : (am_kS a0).1 = o) : am_wp e pc ls (.int a4 :: .int a3 :: .int a2 :: .ref a1 :: .ref a0 :: st) (am_hp X I J) Q = am_wk e2 [.ref a0, .ref a1, .int a2, .int a3, .int a4] (am_hp X I J) e pc ls st Q := am_c1_RRIII hd hl hn hk o ho ls st _ Q a0 a1 a2 a3 a4 hst ha
theorem am_q1_RRR {i : Nat} (hd : decode (am_code e) pc = .ok (.invokevirtual i, 3)) (hl : am_mlk (am_ow e) i = some (1, e2)) (hn : am_na e2 = 3) (hk : am_rk e2 < am_rk e) (o : Nat) (ho : am_ow e2 = o) (ls st : List Value) (X : (Nat → Int32) × Nat) (I : Nat → Nat → Int32) (J : Nat → Nat → Int64) (Q : Option Value → am_H → Prop) (a0 : Nat) (a1 : Nat) (a2 : Nat) (hst : st.length ≤ 4) (ha : (am_kS a0).1 = o) : am_wp e pc ls (.ref a2 :: .ref a1 :: .ref a0 :: st) (am_hp X I J) Q = am_wk e2 [.ref a0, .ref a1, .ref a2] (am_hp X I J) e pc ls st Q := am_c1_RRR hd hl hn hk o ho ls st _ Q a0 a1 a2 hst ha
theorem am_q1_RRRI {i : Nat} (hd : decode (am_code e) pc = .ok (.invokevirtual i, 3)) (hl : am_mlk (am_ow e) i = some (1, e2)) (hn : am_na e2 = 4) (hk : am_rk e2 < am_rk e) (o : Nat) (ho : am_ow e2 = o) (ls st : List Value) (X : (Nat → Int32) × Nat) (I : Nat → Nat → Int32) (J : Nat → Nat → Int64) (Q : Option Value → am_H → Prop) (a0 : Nat) (a1 : Nat) (a2 : Nat) (a3 : Int32) (hst : st.length ≤ 4) (ha : (am_kS a0).1 = o) : am_wp e pc ls (.int a3 :: .ref a2 :: .ref a1 :: .ref a0 :: st) (am_hp X I J) Q = am_wk e2 [.ref a0, .ref a1, .ref a2, .int a3] (am_hp X I J) e pc ls st Q := am_c1_RRRI hd hl hn hk o ho ls st _ Q a0 a1 a2 a3 hst ha
theorem am_q1_RRRII {i : Nat} (hd : decode (am_code e) pc = .ok (.invokevirtual i, 3)) (hl : am_mlk (am_ow e) i = some (1, e2)) (hn : am_na e2 = 5) (hk : am_rk e2 < am_rk e) (o : Nat) (ho : am_ow e2 = o) (ls st : List Value) (X : (Nat → Int32) × Nat) (I : Nat → Nat → Int32) (J : Nat → Nat → Int64) (Q : Option Value → am_H → Prop) (a0 : Nat) (a1 : Nat) (a2 : Nat) (a3 : Int32) (a4 : Int32) (hst : st.length ≤ 4) (ha : (am_kS a0).1 = o) : am_wp e pc ls (.int a4 :: .int a3 :: .ref a2 :: .ref a1 :: .ref a0 :: st) (am_hp X I J) Q = am_wk e2 [.ref a0, .ref a1, .ref a2, .int a3, .int a4] (am_hp X I J) e pc ls st Q := am_c1_RRRII hd hl hn hk o ho ls st _ Q a0 a1 a2 a3 a4 hst ha
theorem am_q2_R {i : Nat} (hd : decode (am_code e) pc = .ok (.invokespecial i, 3)) (hl : am_mlk (am_ow e) i = some (2, e2)) (hn : am_na e2 = 1) (hk : am_rk e2 < am_rk e) (o : Nat) (ho : am_ow e2 = o) (ls st : List Value) (X : (Nat → Int32) × Nat) (I : Nat → Nat → Int32) (J : Nat → Nat → Int64) (Q : Option Value → am_H → Prop) (a0 : Nat) (hst : st.length ≤ 4) (ha : (am_kS a0).1 = o) : am_wp e pc ls (.ref a0 :: st) (am_hp X I J) Q = am_wk e2 [.ref a0] (am_hp X I J) e pc ls st Q := am_c2_R hd hl hn hk o ho ls st _ Q a0 hst ha
theorem am_q5_R {i : Nat} (hd : decode (am_code e) pc = .ok (.invokespecial i, 3)) (hl : am_mlk (am_ow e) i = some (5, e2)) (hn : am_na e2 = 1) (hk : am_rk e2 < am_rk e) (o : Nat) (ho : am_ow e2 = o) (ls st : List Value) (X : (Nat → Int32) × Nat) (I : Nat → Nat → Int32) (J : Nat → Nat → Int64) (Q : Option Value → am_H → Prop) (a0 : Nat) (hst : st.length ≤ 4) (ha : (am_kS a0).1 = o) : am_wp e pc ls (.ref a0 :: st) (am_hp X I J) Q = am_wk e2 [.ref a0] (am_hp X I J) e pc ls st Q := am_c5_R hd hl hn hk o ho ls st _ Q a0 hst ha
end AMP
