/-! joins: two roads that come together at one place -/
theorem am_R_Q {e : am_E} {as : List Value} {h : am_H} {v : Option Value} {h' : am_H} (hw : ∀ Q : Option Value → am_H → Prop, am_wp e 0 (am_loc e as) [] h Q = Q v h') : am_R e as h v h' := by
  apply am_R_of
  rw [hw]
  exact ⟨rfl, rfl⟩
theorem mg_wp (c : Prop) [Decidable c] (e : am_E) (pc : Nat) (l1 l2 s1 s2 : List Value) (h1 h2 : am_H) (Q : Option Value → am_H → Prop) : (if c then am_wp e pc l1 s1 h1 Q else am_wp e pc l2 s2 h2 Q) = am_wp e pc (if c then l1 else l2) (if c then s1 else s2) (if c then h1 else h2) Q := by split <;> rfl
theorem mg_w1 (c d : Prop) [Decidable c] [Decidable d] (e : am_E) (pc : Nat) (l1 l2 s1 s2 : List Value) (h1 h2 : am_H) (Q : Option Value → am_H → Prop) (Y : Prop) : (if c then am_wp e pc l1 s1 h1 Q else (if d then am_wp e pc l2 s2 h2 Q else Y)) = if c ∨ d then am_wp e pc (if c then l1 else l2) (if c then s1 else s2) (if c then h1 else h2) Q else Y := by
  by_cases hc : c <;> by_cases hd : d <;> simp [hc, hd]
theorem mg_w2 (c d : Prop) [Decidable c] [Decidable d] (e : am_E) (pc : Nat) (l1 l2 s1 s2 : List Value) (h1 h2 : am_H) (Q : Option Value → am_H → Prop) (Y : Prop) : (if c then am_wp e pc l1 s1 h1 Q else (if d then Y else am_wp e pc l2 s2 h2 Q)) = if c ∨ ¬ d then am_wp e pc (if c then l1 else l2) (if c then s1 else s2) (if c then h1 else h2) Q else Y := by
  by_cases hc : c <;> by_cases hd : d <;> simp [hc, hd]
theorem mg_w3 (c d : Prop) [Decidable c] [Decidable d] (e : am_E) (pc : Nat) (l1 l2 s1 s2 : List Value) (h1 h2 : am_H) (Q : Option Value → am_H → Prop) (Y : Prop) : (if c then (if d then am_wp e pc l1 s1 h1 Q else Y) else am_wp e pc l2 s2 h2 Q) = if ¬ c ∨ d then am_wp e pc (if c then l1 else l2) (if c then s1 else s2) (if c then h1 else h2) Q else Y := by
  by_cases hc : c <;> by_cases hd : d <;> simp [hc, hd]
theorem mg_w4 (c d : Prop) [Decidable c] [Decidable d] (e : am_E) (pc : Nat) (l1 l2 s1 s2 : List Value) (h1 h2 : am_H) (Q : Option Value → am_H → Prop) (Y : Prop) : (if c then (if d then Y else am_wp e pc l1 s1 h1 Q) else am_wp e pc l2 s2 h2 Q) = if ¬ c ∨ ¬ d then am_wp e pc (if c then l1 else l2) (if c then s1 else s2) (if c then h1 else h2) Q else Y := by
  by_cases hc : c <;> by_cases hd : d <;> simp [hc, hd]
theorem mg_w5 (c d d2 : Prop) [Decidable c] [Decidable d] [Decidable d2] (e : am_E) (pc pc2 : Nat) (l1 l2 s1 s2 l3 l4 s3 s4 : List Value) (h1 h2 h3 h4 : am_H) (Q : Option Value → am_H → Prop) : (if c then (if d then am_wp e pc l1 s1 h1 Q else am_wp e pc2 l3 s3 h3 Q) else (if d2 then am_wp e pc l2 s2 h2 Q else am_wp e pc2 l4 s4 h4 Q)) = if (if c then d else d2) then am_wp e pc (if c then l1 else l2) (if c then s1 else s2) (if c then h1 else h2) Q else am_wp e pc2 (if c then l3 else l4) (if c then s3 else s4) (if c then h3 else h4) Q := by
  by_cases hc : c <;> by_cases hd : d <;> simp [hc, hd]
theorem mg_w6 (c d d2 : Prop) [Decidable c] [Decidable d] [Decidable d2] (e : am_E) (pc pc2 : Nat) (l1 l2 s1 s2 l3 l4 s3 s4 : List Value) (h1 h2 h3 h4 : am_H) (Q : Option Value → am_H → Prop) : (if c then (if d then am_wp e pc l1 s1 h1 Q else am_wp e pc2 l3 s3 h3 Q) else (if d2 then am_wp e pc2 l4 s4 h4 Q else am_wp e pc l2 s2 h2 Q)) = if (if c then d else ¬ d2) then am_wp e pc (if c then l1 else l2) (if c then s1 else s2) (if c then h1 else h2) Q else am_wp e pc2 (if c then l3 else l4) (if c then s3 else s4) (if c then h3 else h4) Q := by
  by_cases hc : c <;> by_cases hd : d <;> by_cases hd2 : d2 <;> simp [hc, hd, hd2]
theorem mg_Q (Q : Option Value → am_H → Prop) (c : Prop) [Decidable c] (v1 v2 : Option Value) (h1 h2 : am_H) : (if c then Q v1 h1 else Q v2 h2) = Q (if c then v1 else v2) (if c then h1 else h2) := by split <;> rfl
theorem vi_some (c : Prop) [Decidable c] (x y : Value) : (if c then some x else some y) = some (if c then x else y) := by split <;> rfl
theorem vi_int (c : Prop) [Decidable c] (x y : Int32) : (if c then Value.int x else Value.int y) = .int (if c then x else y) := by split <;> rfl
theorem vi_long (c : Prop) [Decidable c] (x y : Int64) : (if c then Value.long x else Value.long y) = .long (if c then x else y) := by split <;> rfl
theorem vi_cons (c : Prop) [Decidable c] (x y : Value) (l m : List Value) : (if c then x :: l else y :: m) = (if c then x else y) :: (if c then l else m) := by split <;> rfl
theorem vi_hp (c : Prop) [Decidable c] (X : (Nat → Int32) × Nat) (I1 I2 : Nat → Nat → Int32) (J1 J2 : Nat → Nat → Int64) : (if c then am_hp X I1 J1 else am_hp X I2 J2) = am_hp X (if c then I1 else I2) (if c then J1 else J2) := by split <;> rfl
theorem vi_up {α : Type} (c : Prop) [Decidable c] (I : Nat → α) (a : Nat) (f g : α) : (if c then va_up I a f else va_up I a g) = va_up I a (if c then f else g) := by split <;> rfl
theorem vi_upl {α : Type} (c : Prop) [Decidable c] (I : Nat → α) (a : Nat) (f : α) : (if c then va_up I a f else I) = va_up I a (if c then f else I a) := by split <;> simp only [up_id]
theorem vi_upr {α : Type} (c : Prop) [Decidable c] (I : Nat → α) (a : Nat) (f : α) : (if c then I else va_up I a f) = va_up I a (if c then I a else f) := by split <;> simp only [up_id]
theorem vi_ud (c : Prop) [Decidable c] (f : Nat → Int32) (k : Nat) (x y : Int32) : (if c then upd f k x else upd f k y) = upd f k (if c then x else y) := by split <;> rfl
theorem vi_udl (c : Prop) [Decidable c] (f : Nat → Int32) (k : Nat) (x : Int32) : (if c then upd f k x else f) = upd f k (if c then x else f k) := by split <;> simp only [ud_id]
theorem vi_udr (c : Prop) [Decidable c] (f : Nat → Int32) (k : Nat) (x : Int32) : (if c then f else upd f k x) = upd f k (if c then f k else x) := by split <;> simp only [ud_id]
theorem bi_10 (c : Prop) [Decidable c] : (if c then nI 1 else nI 0) = am_b (decide c) := by by_cases h : c <;> simp [h, am_b]
theorem bi_01 (c : Prop) [Decidable c] : (if c then nI 0 else nI 1) = am_b (decide (¬ c)) := by by_cases h : c <;> simp [h, am_b]
theorem bi_bb (c : Prop) [Decidable c] (x y : Bool) : (if c then am_b x else am_b y) = am_b (if c then x else y) := by split <;> rfl
theorem bi_b0 (c : Prop) [Decidable c] (x : Bool) : (if c then am_b x else nI 0) = am_b (decide c && x) := by by_cases h : c <;> simp [h, am_b]
theorem bi_b1 (c : Prop) [Decidable c] (x : Bool) : (if c then am_b x else nI 1) = am_b (decide (¬ c) || x) := by by_cases h : c <;> simp [h, am_b]
theorem bi_0b (c : Prop) [Decidable c] (x : Bool) : (if c then nI 0 else am_b x) = am_b (decide (¬ c) && x) := by by_cases h : c <;> simp [h, am_b]
theorem bi_1b (c : Prop) [Decidable c] (x : Bool) : (if c then nI 1 else am_b x) = am_b (decide c || x) := by by_cases h : c <;> simp [h, am_b]
theorem am_bq1 (b : Bool) : (am_b b = nI 1) = (b = true) := by cases b <;> simp [am_b] <;> decide
theorem am_0b (b : Bool) : (0 < am_b b) = (b = true) := by cases b <;> simp [am_b] <;> decide
/-- a value that takes one place -/
def am_o1 (v : Value) : Prop := v.category ≠ 2
theorem o1_i (x : Int32) : am_o1 (.int x) := by simp [am_o1, Value.category]
theorem o1_r (x : Nat) : am_o1 (.ref x) := by simp [am_o1, Value.category]
theorem o1_n : am_o1 .null := by simp [am_o1, Value.category]
theorem o1_c (c : Prop) [Decidable c] {v w : Value} (h1 : am_o1 v) (h2 : am_o1 w) : am_o1 (if c then v else w) := by split <;> assumption
theorem up_id_of {α : Type} {f : Nat → α} {k : Nat} {v : α} (h : v = f k) : va_up f k v = f := by rw [h]; exact up_id f k
/-- a row of small numbers -/
def nR (w : Nat → Nat) : Nat → Int32 := fun k => nI (w k)
theorem nR_k (w : Nat → Nat) (k : Nat) : nR w k = nI (w k) := by have h : nR w k = nI (w k) := rfl; exact h
theorem nR_u (w : Nat → Nat) (k x : Nat) : upd (nR w) k (nI x) = nR (va_up w k x) := by
  funext j
  by_cases h : j = k
  · subst h; simp [nR, upd, va_up]
  · simp [nR, upd, va_up, h]
theorem nI_ite (c : Prop) [Decidable c] (a b : Nat) : (if c then nI a else nI b) = nI (if c then a else b) := by split <;> rfl
theorem am_nr2 (a d : Nat) : nI a - nI (a / d * d) = nI (a % d) := by
  have h := Nat.div_add_mod a d
  have h2 : a = a / d * d + a % d := by rw [Nat.mul_comm]; exact h.symm
  have h3 : nI a = nI (a / d * d) + nI (a % d) := by rw [nI_add]; exact congrArg nI h2
  rw [h3, Int32.add_comm]
  exact Int32.add_sub_cancel _ _
/-- a set of WORDS within another -/
def sub8 (x t : Int32) : Prop := ∀ k, k < 8 → sp_bt x k = true → sp_bt t k = true
section AMG
variable {e : am_E} {pc : Nat}
theorem am_w_istore1g (hd : decode (am_code e) pc = .ok (.istore_n 1, 1))  (y : Value) (l st : List Value) (h : am_H) (Q : Option Value → am_H → Prop) (x : Int32) (w0 : Value) (hw : am_o1 w0) : am_wp e pc (w0 :: y :: l) (.int x :: st) h Q = am_wp e (pc + 1) (w0 :: .int x :: l) st h Q := am_wp_nx hd (by have hw2 : ¬ w0.category = 2 := hw; simp [am_stp, am_istore, am_l1, am_nx, hw2])
theorem am_w_lstore1g (hd : decode (am_code e) pc = .ok (.lstore_n 1, 1))  (y z : Value) (l st : List Value) (h : am_H) (Q : Option Value → am_H → Prop) (u : Int64) (w0 : Value) (hw : am_o1 w0) : am_wp e pc (w0 :: y :: z :: l) (.long u :: st) h Q = am_wp e (pc + 1) (w0 :: .long u :: .null :: l) st h Q := am_wp_nx hd (by have hw2 : ¬ w0.category = 2 := hw; simp [am_stp, am_lstore, am_l2, am_nx, hw2])
theorem am_w_iinc1g {n : Int} (hd : decode (am_code e) pc = .ok (.iinc 1 n, 3)) (v : Int32) (hv : Int32.ofInt n = v)  (l st : List Value) (h : am_H) (Q : Option Value → am_H → Prop) (x : Int32) (w0 : Value) (hw : am_o1 w0) : am_wp e pc (w0 :: .int x :: l) st h Q = am_wp e (pc + 3) (w0 :: .int (x + v) :: l) st h Q := by
  subst hv
  have hw2 : ¬ w0.category = 2 := hw
  exact am_wp_nx hd (by simp [am_stp, am_iinc, am_l1, am_nx, hw2])
theorem am_w_istore2g (hd : decode (am_code e) pc = .ok (.istore_n 2, 1)) {v0 : Value} (y : Value) (l st : List Value) (h : am_H) (Q : Option Value → am_H → Prop) (x : Int32) (w0 : Value) (hw : am_o1 w0) : am_wp e pc (v0 :: w0 :: y :: l) (.int x :: st) h Q = am_wp e (pc + 1) (v0 :: w0 :: .int x :: l) st h Q := am_wp_nx hd (by have hw2 : ¬ w0.category = 2 := hw; simp [am_stp, am_istore, am_l1, am_nx, hw2])
theorem am_w_lstore2g (hd : decode (am_code e) pc = .ok (.lstore_n 2, 1)) {v0 : Value} (y z : Value) (l st : List Value) (h : am_H) (Q : Option Value → am_H → Prop) (u : Int64) (w0 : Value) (hw : am_o1 w0) : am_wp e pc (v0 :: w0 :: y :: z :: l) (.long u :: st) h Q = am_wp e (pc + 1) (v0 :: w0 :: .long u :: .null :: l) st h Q := am_wp_nx hd (by have hw2 : ¬ w0.category = 2 := hw; simp [am_stp, am_lstore, am_l2, am_nx, hw2])
theorem am_w_iinc2g {n : Int} (hd : decode (am_code e) pc = .ok (.iinc 2 n, 3)) (v : Int32) (hv : Int32.ofInt n = v) {v0 : Value} (l st : List Value) (h : am_H) (Q : Option Value → am_H → Prop) (x : Int32) (w0 : Value) (hw : am_o1 w0) : am_wp e pc (v0 :: w0 :: .int x :: l) st h Q = am_wp e (pc + 3) (v0 :: w0 :: .int (x + v) :: l) st h Q := by
  subst hv
  have hw2 : ¬ w0.category = 2 := hw
  exact am_wp_nx hd (by simp [am_stp, am_iinc, am_l1, am_nx, hw2])
theorem am_w_istore3g (hd : decode (am_code e) pc = .ok (.istore_n 3, 1)) {v0 : Value} {v1 : Value} (y : Value) (l st : List Value) (h : am_H) (Q : Option Value → am_H → Prop) (x : Int32) (w0 : Value) (hw : am_o1 w0) : am_wp e pc (v0 :: v1 :: w0 :: y :: l) (.int x :: st) h Q = am_wp e (pc + 1) (v0 :: v1 :: w0 :: .int x :: l) st h Q := am_wp_nx hd (by have hw2 : ¬ w0.category = 2 := hw; simp [am_stp, am_istore, am_l1, am_nx, hw2, show ((3 : Fin 4) : Nat) = 3 from rfl])
theorem am_w_lstore3g (hd : decode (am_code e) pc = .ok (.lstore_n 3, 1)) {v0 : Value} {v1 : Value} (y z : Value) (l st : List Value) (h : am_H) (Q : Option Value → am_H → Prop) (u : Int64) (w0 : Value) (hw : am_o1 w0) : am_wp e pc (v0 :: v1 :: w0 :: y :: z :: l) (.long u :: st) h Q = am_wp e (pc + 1) (v0 :: v1 :: w0 :: .long u :: .null :: l) st h Q := am_wp_nx hd (by have hw2 : ¬ w0.category = 2 := hw; simp [am_stp, am_lstore, am_l2, am_nx, hw2, show ((3 : Fin 4) : Nat) = 3 from rfl])
theorem am_w_iinc3g {n : Int} (hd : decode (am_code e) pc = .ok (.iinc 3 n, 3)) (v : Int32) (hv : Int32.ofInt n = v) {v0 : Value} {v1 : Value} (l st : List Value) (h : am_H) (Q : Option Value → am_H → Prop) (x : Int32) (w0 : Value) (hw : am_o1 w0) : am_wp e pc (v0 :: v1 :: w0 :: .int x :: l) st h Q = am_wp e (pc + 3) (v0 :: v1 :: w0 :: .int (x + v) :: l) st h Q := by
  subst hv
  have hw2 : ¬ w0.category = 2 := hw
  exact am_wp_nx hd (by simp [am_stp, am_iinc, am_l1, am_nx, hw2])
theorem am_w_istore4g (hd : decode (am_code e) pc = .ok (.istore 4, 2)) {v0 : Value} {v1 : Value} {v2 : Value} (y : Value) (l st : List Value) (h : am_H) (Q : Option Value → am_H → Prop) (x : Int32) (w0 : Value) (hw : am_o1 w0) : am_wp e pc (v0 :: v1 :: v2 :: w0 :: y :: l) (.int x :: st) h Q = am_wp e (pc + 2) (v0 :: v1 :: v2 :: w0 :: .int x :: l) st h Q := am_wp_nx hd (by have hw2 : ¬ w0.category = 2 := hw; simp [am_stp, am_istore, am_l1, am_nx, hw2])
theorem am_w_lstore4g (hd : decode (am_code e) pc = .ok (.lstore 4, 2)) {v0 : Value} {v1 : Value} {v2 : Value} (y z : Value) (l st : List Value) (h : am_H) (Q : Option Value → am_H → Prop) (u : Int64) (w0 : Value) (hw : am_o1 w0) : am_wp e pc (v0 :: v1 :: v2 :: w0 :: y :: z :: l) (.long u :: st) h Q = am_wp e (pc + 2) (v0 :: v1 :: v2 :: w0 :: .long u :: .null :: l) st h Q := am_wp_nx hd (by have hw2 : ¬ w0.category = 2 := hw; simp [am_stp, am_lstore, am_l2, am_nx, hw2])
theorem am_w_iinc4g {n : Int} (hd : decode (am_code e) pc = .ok (.iinc 4 n, 3)) (v : Int32) (hv : Int32.ofInt n = v) {v0 : Value} {v1 : Value} {v2 : Value} (l st : List Value) (h : am_H) (Q : Option Value → am_H → Prop) (x : Int32) (w0 : Value) (hw : am_o1 w0) : am_wp e pc (v0 :: v1 :: v2 :: w0 :: .int x :: l) st h Q = am_wp e (pc + 3) (v0 :: v1 :: v2 :: w0 :: .int (x + v) :: l) st h Q := by
  subst hv
  have hw2 : ¬ w0.category = 2 := hw
  exact am_wp_nx hd (by simp [am_stp, am_iinc, am_l1, am_nx, hw2])
theorem am_w_istore5g (hd : decode (am_code e) pc = .ok (.istore 5, 2)) {v0 : Value} {v1 : Value} {v2 : Value} {v3 : Value} (y : Value) (l st : List Value) (h : am_H) (Q : Option Value → am_H → Prop) (x : Int32) (w0 : Value) (hw : am_o1 w0) : am_wp e pc (v0 :: v1 :: v2 :: v3 :: w0 :: y :: l) (.int x :: st) h Q = am_wp e (pc + 2) (v0 :: v1 :: v2 :: v3 :: w0 :: .int x :: l) st h Q := am_wp_nx hd (by have hw2 : ¬ w0.category = 2 := hw; simp [am_stp, am_istore, am_l1, am_nx, hw2])
theorem am_w_lstore5g (hd : decode (am_code e) pc = .ok (.lstore 5, 2)) {v0 : Value} {v1 : Value} {v2 : Value} {v3 : Value} (y z : Value) (l st : List Value) (h : am_H) (Q : Option Value → am_H → Prop) (u : Int64) (w0 : Value) (hw : am_o1 w0) : am_wp e pc (v0 :: v1 :: v2 :: v3 :: w0 :: y :: z :: l) (.long u :: st) h Q = am_wp e (pc + 2) (v0 :: v1 :: v2 :: v3 :: w0 :: .long u :: .null :: l) st h Q := am_wp_nx hd (by have hw2 : ¬ w0.category = 2 := hw; simp [am_stp, am_lstore, am_l2, am_nx, hw2])
theorem am_w_iinc5g {n : Int} (hd : decode (am_code e) pc = .ok (.iinc 5 n, 3)) (v : Int32) (hv : Int32.ofInt n = v) {v0 : Value} {v1 : Value} {v2 : Value} {v3 : Value} (l st : List Value) (h : am_H) (Q : Option Value → am_H → Prop) (x : Int32) (w0 : Value) (hw : am_o1 w0) : am_wp e pc (v0 :: v1 :: v2 :: v3 :: w0 :: .int x :: l) st h Q = am_wp e (pc + 3) (v0 :: v1 :: v2 :: v3 :: w0 :: .int (x + v) :: l) st h Q := by
  subst hv
  have hw2 : ¬ w0.category = 2 := hw
  exact am_wp_nx hd (by simp [am_stp, am_iinc, am_l1, am_nx, hw2])
theorem am_w_istore6g (hd : decode (am_code e) pc = .ok (.istore 6, 2)) {v0 : Value} {v1 : Value} {v2 : Value} {v3 : Value} {v4 : Value} (y : Value) (l st : List Value) (h : am_H) (Q : Option Value → am_H → Prop) (x : Int32) (w0 : Value) (hw : am_o1 w0) : am_wp e pc (v0 :: v1 :: v2 :: v3 :: v4 :: w0 :: y :: l) (.int x :: st) h Q = am_wp e (pc + 2) (v0 :: v1 :: v2 :: v3 :: v4 :: w0 :: .int x :: l) st h Q := am_wp_nx hd (by have hw2 : ¬ w0.category = 2 := hw; simp [am_stp, am_istore, am_l1, am_nx, hw2])
theorem am_w_lstore6g (hd : decode (am_code e) pc = .ok (.lstore 6, 2)) {v0 : Value} {v1 : Value} {v2 : Value} {v3 : Value} {v4 : Value} (y z : Value) (l st : List Value) (h : am_H) (Q : Option Value → am_H → Prop) (u : Int64) (w0 : Value) (hw : am_o1 w0) : am_wp e pc (v0 :: v1 :: v2 :: v3 :: v4 :: w0 :: y :: z :: l) (.long u :: st) h Q = am_wp e (pc + 2) (v0 :: v1 :: v2 :: v3 :: v4 :: w0 :: .long u :: .null :: l) st h Q := am_wp_nx hd (by have hw2 : ¬ w0.category = 2 := hw; simp [am_stp, am_lstore, am_l2, am_nx, hw2])
theorem am_w_iinc6g {n : Int} (hd : decode (am_code e) pc = .ok (.iinc 6 n, 3)) (v : Int32) (hv : Int32.ofInt n = v) {v0 : Value} {v1 : Value} {v2 : Value} {v3 : Value} {v4 : Value} (l st : List Value) (h : am_H) (Q : Option Value → am_H → Prop) (x : Int32) (w0 : Value) (hw : am_o1 w0) : am_wp e pc (v0 :: v1 :: v2 :: v3 :: v4 :: w0 :: .int x :: l) st h Q = am_wp e (pc + 3) (v0 :: v1 :: v2 :: v3 :: v4 :: w0 :: .int (x + v) :: l) st h Q := by
  subst hv
  have hw2 : ¬ w0.category = 2 := hw
  exact am_wp_nx hd (by simp [am_stp, am_iinc, am_l1, am_nx, hw2])
theorem am_w_istore7g (hd : decode (am_code e) pc = .ok (.istore 7, 2)) {v0 : Value} {v1 : Value} {v2 : Value} {v3 : Value} {v4 : Value} {v5 : Value} (y : Value) (l st : List Value) (h : am_H) (Q : Option Value → am_H → Prop) (x : Int32) (w0 : Value) (hw : am_o1 w0) : am_wp e pc (v0 :: v1 :: v2 :: v3 :: v4 :: v5 :: w0 :: y :: l) (.int x :: st) h Q = am_wp e (pc + 2) (v0 :: v1 :: v2 :: v3 :: v4 :: v5 :: w0 :: .int x :: l) st h Q := am_wp_nx hd (by have hw2 : ¬ w0.category = 2 := hw; simp [am_stp, am_istore, am_l1, am_nx, hw2])
theorem am_w_lstore7g (hd : decode (am_code e) pc = .ok (.lstore 7, 2)) {v0 : Value} {v1 : Value} {v2 : Value} {v3 : Value} {v4 : Value} {v5 : Value} (y z : Value) (l st : List Value) (h : am_H) (Q : Option Value → am_H → Prop) (u : Int64) (w0 : Value) (hw : am_o1 w0) : am_wp e pc (v0 :: v1 :: v2 :: v3 :: v4 :: v5 :: w0 :: y :: z :: l) (.long u :: st) h Q = am_wp e (pc + 2) (v0 :: v1 :: v2 :: v3 :: v4 :: v5 :: w0 :: .long u :: .null :: l) st h Q := am_wp_nx hd (by have hw2 : ¬ w0.category = 2 := hw; simp [am_stp, am_lstore, am_l2, am_nx, hw2])
theorem am_w_iinc7g {n : Int} (hd : decode (am_code e) pc = .ok (.iinc 7 n, 3)) (v : Int32) (hv : Int32.ofInt n = v) {v0 : Value} {v1 : Value} {v2 : Value} {v3 : Value} {v4 : Value} {v5 : Value} (l st : List Value) (h : am_H) (Q : Option Value → am_H → Prop) (x : Int32) (w0 : Value) (hw : am_o1 w0) : am_wp e pc (v0 :: v1 :: v2 :: v3 :: v4 :: v5 :: w0 :: .int x :: l) st h Q = am_wp e (pc + 3) (v0 :: v1 :: v2 :: v3 :: v4 :: v5 :: w0 :: .int (x + v) :: l) st h Q := by
  subst hv
  have hw2 : ¬ w0.category = 2 := hw
  exact am_wp_nx hd (by simp [am_stp, am_iinc, am_l1, am_nx, hw2])
theorem am_w_istore8g (hd : decode (am_code e) pc = .ok (.istore 8, 2)) {v0 : Value} {v1 : Value} {v2 : Value} {v3 : Value} {v4 : Value} {v5 : Value} {v6 : Value} (y : Value) (l st : List Value) (h : am_H) (Q : Option Value → am_H → Prop) (x : Int32) (w0 : Value) (hw : am_o1 w0) : am_wp e pc (v0 :: v1 :: v2 :: v3 :: v4 :: v5 :: v6 :: w0 :: y :: l) (.int x :: st) h Q = am_wp e (pc + 2) (v0 :: v1 :: v2 :: v3 :: v4 :: v5 :: v6 :: w0 :: .int x :: l) st h Q := am_wp_nx hd (by have hw2 : ¬ w0.category = 2 := hw; simp [am_stp, am_istore, am_l1, am_nx, hw2])
theorem am_w_lstore8g (hd : decode (am_code e) pc = .ok (.lstore 8, 2)) {v0 : Value} {v1 : Value} {v2 : Value} {v3 : Value} {v4 : Value} {v5 : Value} {v6 : Value} (y z : Value) (l st : List Value) (h : am_H) (Q : Option Value → am_H → Prop) (u : Int64) (w0 : Value) (hw : am_o1 w0) : am_wp e pc (v0 :: v1 :: v2 :: v3 :: v4 :: v5 :: v6 :: w0 :: y :: z :: l) (.long u :: st) h Q = am_wp e (pc + 2) (v0 :: v1 :: v2 :: v3 :: v4 :: v5 :: v6 :: w0 :: .long u :: .null :: l) st h Q := am_wp_nx hd (by have hw2 : ¬ w0.category = 2 := hw; simp [am_stp, am_lstore, am_l2, am_nx, hw2])
theorem am_w_iinc8g {n : Int} (hd : decode (am_code e) pc = .ok (.iinc 8 n, 3)) (v : Int32) (hv : Int32.ofInt n = v) {v0 : Value} {v1 : Value} {v2 : Value} {v3 : Value} {v4 : Value} {v5 : Value} {v6 : Value} (l st : List Value) (h : am_H) (Q : Option Value → am_H → Prop) (x : Int32) (w0 : Value) (hw : am_o1 w0) : am_wp e pc (v0 :: v1 :: v2 :: v3 :: v4 :: v5 :: v6 :: w0 :: .int x :: l) st h Q = am_wp e (pc + 3) (v0 :: v1 :: v2 :: v3 :: v4 :: v5 :: v6 :: w0 :: .int (x + v) :: l) st h Q := by
  subst hv
  have hw2 : ¬ w0.category = 2 := hw
  exact am_wp_nx hd (by simp [am_stp, am_iinc, am_l1, am_nx, hw2])
theorem am_w_istore9g (hd : decode (am_code e) pc = .ok (.istore 9, 2)) {v0 : Value} {v1 : Value} {v2 : Value} {v3 : Value} {v4 : Value} {v5 : Value} {v6 : Value} {v7 : Value} (y : Value) (l st : List Value) (h : am_H) (Q : Option Value → am_H → Prop) (x : Int32) (w0 : Value) (hw : am_o1 w0) : am_wp e pc (v0 :: v1 :: v2 :: v3 :: v4 :: v5 :: v6 :: v7 :: w0 :: y :: l) (.int x :: st) h Q = am_wp e (pc + 2) (v0 :: v1 :: v2 :: v3 :: v4 :: v5 :: v6 :: v7 :: w0 :: .int x :: l) st h Q := am_wp_nx hd (by have hw2 : ¬ w0.category = 2 := hw; simp [am_stp, am_istore, am_l1, am_nx, hw2])
theorem am_w_lstore9g (hd : decode (am_code e) pc = .ok (.lstore 9, 2)) {v0 : Value} {v1 : Value} {v2 : Value} {v3 : Value} {v4 : Value} {v5 : Value} {v6 : Value} {v7 : Value} (y z : Value) (l st : List Value) (h : am_H) (Q : Option Value → am_H → Prop) (u : Int64) (w0 : Value) (hw : am_o1 w0) : am_wp e pc (v0 :: v1 :: v2 :: v3 :: v4 :: v5 :: v6 :: v7 :: w0 :: y :: z :: l) (.long u :: st) h Q = am_wp e (pc + 2) (v0 :: v1 :: v2 :: v3 :: v4 :: v5 :: v6 :: v7 :: w0 :: .long u :: .null :: l) st h Q := am_wp_nx hd (by have hw2 : ¬ w0.category = 2 := hw; simp [am_stp, am_lstore, am_l2, am_nx, hw2])
theorem am_w_iinc9g {n : Int} (hd : decode (am_code e) pc = .ok (.iinc 9 n, 3)) (v : Int32) (hv : Int32.ofInt n = v) {v0 : Value} {v1 : Value} {v2 : Value} {v3 : Value} {v4 : Value} {v5 : Value} {v6 : Value} {v7 : Value} (l st : List Value) (h : am_H) (Q : Option Value → am_H → Prop) (x : Int32) (w0 : Value) (hw : am_o1 w0) : am_wp e pc (v0 :: v1 :: v2 :: v3 :: v4 :: v5 :: v6 :: v7 :: w0 :: .int x :: l) st h Q = am_wp e (pc + 3) (v0 :: v1 :: v2 :: v3 :: v4 :: v5 :: v6 :: v7 :: w0 :: .int (x + v) :: l) st h Q := by
  subst hv
  have hw2 : ¬ w0.category = 2 := hw
  exact am_wp_nx hd (by simp [am_stp, am_iinc, am_l1, am_nx, hw2])
theorem am_w_istore10g (hd : decode (am_code e) pc = .ok (.istore 10, 2)) {v0 : Value} {v1 : Value} {v2 : Value} {v3 : Value} {v4 : Value} {v5 : Value} {v6 : Value} {v7 : Value} {v8 : Value} (y : Value) (l st : List Value) (h : am_H) (Q : Option Value → am_H → Prop) (x : Int32) (w0 : Value) (hw : am_o1 w0) : am_wp e pc (v0 :: v1 :: v2 :: v3 :: v4 :: v5 :: v6 :: v7 :: v8 :: w0 :: y :: l) (.int x :: st) h Q = am_wp e (pc + 2) (v0 :: v1 :: v2 :: v3 :: v4 :: v5 :: v6 :: v7 :: v8 :: w0 :: .int x :: l) st h Q := am_wp_nx hd (by have hw2 : ¬ w0.category = 2 := hw; simp [am_stp, am_istore, am_l1, am_nx, hw2])
theorem am_w_lstore10g (hd : decode (am_code e) pc = .ok (.lstore 10, 2)) {v0 : Value} {v1 : Value} {v2 : Value} {v3 : Value} {v4 : Value} {v5 : Value} {v6 : Value} {v7 : Value} {v8 : Value} (y z : Value) (l st : List Value) (h : am_H) (Q : Option Value → am_H → Prop) (u : Int64) (w0 : Value) (hw : am_o1 w0) : am_wp e pc (v0 :: v1 :: v2 :: v3 :: v4 :: v5 :: v6 :: v7 :: v8 :: w0 :: y :: z :: l) (.long u :: st) h Q = am_wp e (pc + 2) (v0 :: v1 :: v2 :: v3 :: v4 :: v5 :: v6 :: v7 :: v8 :: w0 :: .long u :: .null :: l) st h Q := am_wp_nx hd (by have hw2 : ¬ w0.category = 2 := hw; simp [am_stp, am_lstore, am_l2, am_nx, hw2])
theorem am_w_iinc10g {n : Int} (hd : decode (am_code e) pc = .ok (.iinc 10 n, 3)) (v : Int32) (hv : Int32.ofInt n = v) {v0 : Value} {v1 : Value} {v2 : Value} {v3 : Value} {v4 : Value} {v5 : Value} {v6 : Value} {v7 : Value} {v8 : Value} (l st : List Value) (h : am_H) (Q : Option Value → am_H → Prop) (x : Int32) (w0 : Value) (hw : am_o1 w0) : am_wp e pc (v0 :: v1 :: v2 :: v3 :: v4 :: v5 :: v6 :: v7 :: v8 :: w0 :: .int x :: l) st h Q = am_wp e (pc + 3) (v0 :: v1 :: v2 :: v3 :: v4 :: v5 :: v6 :: v7 :: v8 :: w0 :: .int (x + v) :: l) st h Q := by
  subst hv
  have hw2 : ¬ w0.category = 2 := hw
  exact am_wp_nx hd (by simp [am_stp, am_iinc, am_l1, am_nx, hw2])
theorem am_w_istore11g (hd : decode (am_code e) pc = .ok (.istore 11, 2)) {v0 : Value} {v1 : Value} {v2 : Value} {v3 : Value} {v4 : Value} {v5 : Value} {v6 : Value} {v7 : Value} {v8 : Value} {v9 : Value} (y : Value) (l st : List Value) (h : am_H) (Q : Option Value → am_H → Prop) (x : Int32) (w0 : Value) (hw : am_o1 w0) : am_wp e pc (v0 :: v1 :: v2 :: v3 :: v4 :: v5 :: v6 :: v7 :: v8 :: v9 :: w0 :: y :: l) (.int x :: st) h Q = am_wp e (pc + 2) (v0 :: v1 :: v2 :: v3 :: v4 :: v5 :: v6 :: v7 :: v8 :: v9 :: w0 :: .int x :: l) st h Q := am_wp_nx hd (by have hw2 : ¬ w0.category = 2 := hw; simp [am_stp, am_istore, am_l1, am_nx, hw2])
theorem am_w_lstore11g (hd : decode (am_code e) pc = .ok (.lstore 11, 2)) {v0 : Value} {v1 : Value} {v2 : Value} {v3 : Value} {v4 : Value} {v5 : Value} {v6 : Value} {v7 : Value} {v8 : Value} {v9 : Value} (y z : Value) (l st : List Value) (h : am_H) (Q : Option Value → am_H → Prop) (u : Int64) (w0 : Value) (hw : am_o1 w0) : am_wp e pc (v0 :: v1 :: v2 :: v3 :: v4 :: v5 :: v6 :: v7 :: v8 :: v9 :: w0 :: y :: z :: l) (.long u :: st) h Q = am_wp e (pc + 2) (v0 :: v1 :: v2 :: v3 :: v4 :: v5 :: v6 :: v7 :: v8 :: v9 :: w0 :: .long u :: .null :: l) st h Q := am_wp_nx hd (by have hw2 : ¬ w0.category = 2 := hw; simp [am_stp, am_lstore, am_l2, am_nx, hw2])
theorem am_w_iinc11g {n : Int} (hd : decode (am_code e) pc = .ok (.iinc 11 n, 3)) (v : Int32) (hv : Int32.ofInt n = v) {v0 : Value} {v1 : Value} {v2 : Value} {v3 : Value} {v4 : Value} {v5 : Value} {v6 : Value} {v7 : Value} {v8 : Value} {v9 : Value} (l st : List Value) (h : am_H) (Q : Option Value → am_H → Prop) (x : Int32) (w0 : Value) (hw : am_o1 w0) : am_wp e pc (v0 :: v1 :: v2 :: v3 :: v4 :: v5 :: v6 :: v7 :: v8 :: v9 :: w0 :: .int x :: l) st h Q = am_wp e (pc + 3) (v0 :: v1 :: v2 :: v3 :: v4 :: v5 :: v6 :: v7 :: v8 :: v9 :: w0 :: .int (x + v) :: l) st h Q := by
  subst hv
  have hw2 : ¬ w0.category = 2 := hw
  exact am_wp_nx hd (by simp [am_stp, am_iinc, am_l1, am_nx, hw2])
end AMG
