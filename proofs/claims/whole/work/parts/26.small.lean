/-! small methods without memory -/
def sp_in (v lo hi : Int32) : Bool := decide (lo ≤ v) && decide (v ≤ hi)
def sp_lt (n : Nat) (v : Int32) : Bool := if v < 0 then false else if nI n ≤ v then false else true
def sp_srt (p : Int32) : Int32 := if p = nI 1 then nI 1 else if p = nI 3 then nI 2 else nI 0
theorem c_X9_isMeaning (h : am_H) (v : Int32) : am_R E_X9_isMeaning [.int v] h (some (.int (am_b (sp_lt 5 v)))) h := by
  apply am_R_of
  rw [show am_loc E_X9_isMeaning [.int v] = [.int v] from rfl]
  simp (disch := first | omega | (simp (disch := omega) only [am_z0, am_z1, am_zb, am_n0, List.length_nil, List.length_cons, Nat.reduceAdd, Nat.reduceLeDiff, Nat.reduceLT, Option.isSome_some, not_false_eq_true, *]; done) | fail) only [Nat.reduceAdd, am_w_iload0 (e := E_X9_isMeaning) (am_row t_X9_isMeaning 0 rfl), am_w_if_lt (e := E_X9_isMeaning) (am_row t_X9_isMeaning 1 rfl) 13 rfl, am_w_iload0 (e := E_X9_isMeaning) (am_row t_X9_isMeaning 2 rfl), am_w_iconst (e := E_X9_isMeaning) (am_row t_X9_isMeaning 3 rfl) (nI 5) rfl, am_w_icmp_ge (e := E_X9_isMeaning) (am_row t_X9_isMeaning 4 rfl) 13 rfl, am_w_iconst (e := E_X9_isMeaning) (am_row t_X9_isMeaning 5 rfl) (nI 1) rfl, am_w_goto (e := E_X9_isMeaning) (am_row t_X9_isMeaning 6 rfl) 14 rfl, am_w_iconst (e := E_X9_isMeaning) (am_row t_X9_isMeaning 7 rfl) (nI 0) rfl, am_w_zr0 (e := E_X9_isMeaning) (am_row t_X9_isMeaning 8 rfl) rfl, am_w_zr1 (e := E_X9_isMeaning) (am_row t_X9_isMeaning 8 rfl) rfl, am_w_zrb (e := E_X9_isMeaning) (am_row t_X9_isMeaning 8 rfl) rfl]
  unfold sp_lt
  repeat' split
  all_goals simp_all [am_b]
theorem c_X9_isRhyme (h : am_H) (v : Int32) : am_R E_X9_isRhyme [.int v] h (some (.int (am_b (sp_lt 4 v)))) h := by
  apply am_R_of
  rw [show am_loc E_X9_isRhyme [.int v] = [.int v] from rfl]
  simp (disch := first | omega | (simp (disch := omega) only [am_z0, am_z1, am_zb, am_n0, List.length_nil, List.length_cons, Nat.reduceAdd, Nat.reduceLeDiff, Nat.reduceLT, Option.isSome_some, not_false_eq_true, *]; done) | fail) only [Nat.reduceAdd, am_w_iload0 (e := E_X9_isRhyme) (am_row t_X9_isRhyme 0 rfl), am_w_if_lt (e := E_X9_isRhyme) (am_row t_X9_isRhyme 1 rfl) 13 rfl, am_w_iload0 (e := E_X9_isRhyme) (am_row t_X9_isRhyme 2 rfl), am_w_iconst (e := E_X9_isRhyme) (am_row t_X9_isRhyme 3 rfl) (nI 4) rfl, am_w_icmp_ge (e := E_X9_isRhyme) (am_row t_X9_isRhyme 4 rfl) 13 rfl, am_w_iconst (e := E_X9_isRhyme) (am_row t_X9_isRhyme 5 rfl) (nI 1) rfl, am_w_goto (e := E_X9_isRhyme) (am_row t_X9_isRhyme 6 rfl) 14 rfl, am_w_iconst (e := E_X9_isRhyme) (am_row t_X9_isRhyme 7 rfl) (nI 0) rfl, am_w_zr0 (e := E_X9_isRhyme) (am_row t_X9_isRhyme 8 rfl) rfl, am_w_zr1 (e := E_X9_isRhyme) (am_row t_X9_isRhyme 8 rfl) rfl, am_w_zrb (e := E_X9_isRhyme) (am_row t_X9_isRhyme 8 rfl) rfl]
  unfold sp_lt
  repeat' split
  all_goals simp_all [am_b]
theorem c_X9_isFirm (h : am_H) (v : Int32) : am_R E_X9_isFirm [.int v] h (some (.int (am_b (sp_lt 4 v)))) h := by
  apply am_R_of
  rw [show am_loc E_X9_isFirm [.int v] = [.int v] from rfl]
  simp (disch := first | omega | (simp (disch := omega) only [am_z0, am_z1, am_zb, am_n0, List.length_nil, List.length_cons, Nat.reduceAdd, Nat.reduceLeDiff, Nat.reduceLT, Option.isSome_some, not_false_eq_true, *]; done) | fail) only [Nat.reduceAdd, am_w_iload0 (e := E_X9_isFirm) (am_row t_X9_isFirm 0 rfl), am_w_if_lt (e := E_X9_isFirm) (am_row t_X9_isFirm 1 rfl) 13 rfl, am_w_iload0 (e := E_X9_isFirm) (am_row t_X9_isFirm 2 rfl), am_w_iconst (e := E_X9_isFirm) (am_row t_X9_isFirm 3 rfl) (nI 4) rfl, am_w_icmp_ge (e := E_X9_isFirm) (am_row t_X9_isFirm 4 rfl) 13 rfl, am_w_iconst (e := E_X9_isFirm) (am_row t_X9_isFirm 5 rfl) (nI 1) rfl, am_w_goto (e := E_X9_isFirm) (am_row t_X9_isFirm 6 rfl) 14 rfl, am_w_iconst (e := E_X9_isFirm) (am_row t_X9_isFirm 7 rfl) (nI 0) rfl, am_w_zr0 (e := E_X9_isFirm) (am_row t_X9_isFirm 8 rfl) rfl, am_w_zr1 (e := E_X9_isFirm) (am_row t_X9_isFirm 8 rfl) rfl, am_w_zrb (e := E_X9_isFirm) (am_row t_X9_isFirm 8 rfl) rfl]
  unfold sp_lt
  repeat' split
  all_goals simp_all [am_b]
def sp_spk (v : Int32) : Bool := sp_lt 4 v || decide (v = nI 4)
theorem c_X9_isSpeaker (h : am_H) (v : Int32) : am_R E_X9_isSpeaker [.int v] h (some (.int (am_b (sp_spk v)))) h := by
  apply am_R_of
  rw [show am_loc E_X9_isSpeaker [.int v] = [.int v] from rfl]
  simp (disch := first | omega | (simp (disch := omega) only [am_z0, am_z1, am_zb, am_n0, List.length_nil, List.length_cons, Nat.reduceAdd, Nat.reduceLeDiff, Nat.reduceLT, Option.isSome_some, not_false_eq_true, *]; done) | fail) only [Nat.reduceAdd, am_w_iload0 (e := E_X9_isSpeaker) (am_row t_X9_isSpeaker 0 rfl), am_c0_I (e := E_X9_isSpeaker) (am_row t_X9_isSpeaker 1 rfl) ml_8_146 rfl (by decide), am_w_if_ne (e := E_X9_isSpeaker) (am_row t_X9_isSpeaker 2 rfl) 12 rfl, am_w_iload0 (e := E_X9_isSpeaker) (am_row t_X9_isSpeaker 3 rfl), am_w_iconst (e := E_X9_isSpeaker) (am_row t_X9_isSpeaker 4 rfl) (nI 4) rfl, am_w_icmp_ne (e := E_X9_isSpeaker) (am_row t_X9_isSpeaker 5 rfl) 16 rfl, am_w_iconst (e := E_X9_isSpeaker) (am_row t_X9_isSpeaker 6 rfl) (nI 1) rfl, am_w_goto (e := E_X9_isSpeaker) (am_row t_X9_isSpeaker 7 rfl) 17 rfl, am_w_iconst (e := E_X9_isSpeaker) (am_row t_X9_isSpeaker 8 rfl) (nI 0) rfl, am_w_zr0 (e := E_X9_isSpeaker) (am_row t_X9_isSpeaker 9 rfl) rfl, am_w_zr1 (e := E_X9_isSpeaker) (am_row t_X9_isSpeaker 9 rfl) rfl, am_w_zrb (e := E_X9_isSpeaker) (am_row t_X9_isSpeaker 9 rfl) rfl, am_wk_of (c_X9_isFirm _ _), Option.toList_some, List.cons_append, List.nil_append, am_b0]
  unfold sp_spk
  cases sp_lt 4 v <;> by_cases h4 : v = nI 4 <;> simp [h4, am_b]
theorem c_X9_sortAt (h : am_H) (v : Int32) : am_R E_X9_sortAt [.int v] h (some (.int (sp_srt v))) h := by
  apply am_R_of
  rw [show am_loc E_X9_sortAt [.int v] = [.int v] from rfl]
  simp (disch := first | omega | (simp (disch := omega) only [am_z0, am_z1, am_zb, am_n0, List.length_nil, List.length_cons, Nat.reduceAdd, Nat.reduceLeDiff, Nat.reduceLT, Option.isSome_some, not_false_eq_true, *]; done) | fail) only [Nat.reduceAdd, am_w_iload0 (e := E_X9_sortAt) (am_row t_X9_sortAt 0 rfl), am_w_iconst (e := E_X9_sortAt) (am_row t_X9_sortAt 1 rfl) (nI 1) rfl, am_w_icmp_ne (e := E_X9_sortAt) (am_row t_X9_sortAt 2 rfl) 7 rfl, am_w_iconst (e := E_X9_sortAt) (am_row t_X9_sortAt 3 rfl) (nI 1) rfl, am_w_iret (e := E_X9_sortAt) (am_row t_X9_sortAt 4 rfl) rfl, am_w_iload0 (e := E_X9_sortAt) (am_row t_X9_sortAt 5 rfl), am_w_iconst (e := E_X9_sortAt) (am_row t_X9_sortAt 6 rfl) (nI 3) rfl, am_w_icmp_ne (e := E_X9_sortAt) (am_row t_X9_sortAt 7 rfl) 16 rfl, am_w_iconst (e := E_X9_sortAt) (am_row t_X9_sortAt 8 rfl) (nI 2) rfl, am_w_goto (e := E_X9_sortAt) (am_row t_X9_sortAt 9 rfl) 17 rfl, am_w_iconst (e := E_X9_sortAt) (am_row t_X9_sortAt 10 rfl) (nI 0) rfl, am_w_iret (e := E_X9_sortAt) (am_row t_X9_sortAt 11 rfl) rfl]
  unfold sp_srt
  by_cases h1 : v = nI 1
  · simp [h1]
  · by_cases h2 : v = nI 3
    · have h3 : ¬ nI 3 = nI 1 := by decide
      simp [h2, h3]
    · simp [h1, h2]
theorem c_X10_in (h : am_H) (v lo hi : Int32) : am_R E_X10_in [.int v, .int lo, .int hi] h (some (.int (am_b (sp_in v lo hi)))) h := by
  apply am_R_of
  rw [show am_loc E_X10_in [.int v, .int lo, .int hi] = [.int v, .int lo, .int hi] from rfl]
  simp (disch := first | omega | (simp (disch := omega) only [am_z0, am_z1, am_zb, am_n0, List.length_nil, List.length_cons, Nat.reduceAdd, Nat.reduceLeDiff, Nat.reduceLT, Option.isSome_some, not_false_eq_true, *]; done) | fail) only [Nat.reduceAdd, am_w_iload0 (e := E_X10_in) (am_row t_X10_in 0 rfl), am_w_iload1 (e := E_X10_in) (am_row t_X10_in 1 rfl), am_w_icmp_lt (e := E_X10_in) (am_row t_X10_in 2 rfl) 14 rfl, am_w_iload0 (e := E_X10_in) (am_row t_X10_in 3 rfl), am_w_iload2 (e := E_X10_in) (am_row t_X10_in 4 rfl), am_w_icmp_gt (e := E_X10_in) (am_row t_X10_in 5 rfl) 14 rfl, am_w_iconst (e := E_X10_in) (am_row t_X10_in 6 rfl) (nI 1) rfl, am_w_goto (e := E_X10_in) (am_row t_X10_in 7 rfl) 15 rfl, am_w_iconst (e := E_X10_in) (am_row t_X10_in 8 rfl) (nI 0) rfl, am_w_zr0 (e := E_X10_in) (am_row t_X10_in 9 rfl) rfl, am_w_zr1 (e := E_X10_in) (am_row t_X10_in 9 rfl) rfl, am_w_zrb (e := E_X10_in) (am_row t_X10_in 9 rfl) rfl]
  unfold sp_in
  have e1 : (lo ≤ v) = ¬ (v < lo) := by rw [Int32.not_lt]
  have e2 : (v ≤ hi) = ¬ (hi < v) := by rw [Int32.not_lt]
  by_cases h1 : v < lo <;> by_cases h2 : hi < v <;> simp [h1, h2, e1, e2, am_b]
def sp_bit (s k : Int32) : Bool := decide ((s >>> (k &&& 31)) &&& nI 1 = nI 1)
theorem c_X10_has (h : am_H) (s k : Int32) : am_R E_X10_has [.int s, .int k] h (some (.int (am_b (sp_bit s k)))) h := by
  apply am_R_of
  rw [show am_loc E_X10_has [.int s, .int k] = [.int s, .int k] from rfl]
  simp (disch := first | omega | (simp (disch := omega) only [am_z0, am_z1, am_zb, am_n0, List.length_nil, List.length_cons, Nat.reduceAdd, Nat.reduceLeDiff, Nat.reduceLT, Option.isSome_some, not_false_eq_true, *]; done) | fail) only [Nat.reduceAdd, am_w_iload0 (e := E_X10_has) (am_row t_X10_has 0 rfl), am_w_iload1 (e := E_X10_has) (am_row t_X10_has 1 rfl), am_w_ishr (e := E_X10_has) (am_row t_X10_has 2 rfl), am_w_iconst (e := E_X10_has) (am_row t_X10_has 3 rfl) (nI 1) rfl, am_w_iand (e := E_X10_has) (am_row t_X10_has 4 rfl), am_w_iconst (e := E_X10_has) (am_row t_X10_has 5 rfl) (nI 1) rfl, am_w_icmp_ne (e := E_X10_has) (am_row t_X10_has 6 rfl) 13 rfl, am_w_iconst (e := E_X10_has) (am_row t_X10_has 7 rfl) (nI 1) rfl, am_w_goto (e := E_X10_has) (am_row t_X10_has 8 rfl) 14 rfl, am_w_iconst (e := E_X10_has) (am_row t_X10_has 9 rfl) (nI 0) rfl, am_w_zr0 (e := E_X10_has) (am_row t_X10_has 10 rfl) rfl, am_w_zr1 (e := E_X10_has) (am_row t_X10_has 10 rfl) rfl, am_w_zrb (e := E_X10_has) (am_row t_X10_has 10 rfl) rfl]
  unfold sp_bit
  by_cases h1 : (s >>> (k &&& 31)) &&& nI 1 = nI 1 <;> simp [h1, am_b]
theorem c_X10_sortAt (h : am_H) (v : Int32) : am_R E_X10_sortAt [.int v] h (some (.int (sp_srt v))) h := by
  apply am_R_of
  rw [show am_loc E_X10_sortAt [.int v] = [.int v] from rfl]
  simp (disch := first | omega | (simp (disch := omega) only [am_z0, am_z1, am_zb, am_n0, List.length_nil, List.length_cons, Nat.reduceAdd, Nat.reduceLeDiff, Nat.reduceLT, Option.isSome_some, not_false_eq_true, *]; done) | fail) only [Nat.reduceAdd, am_w_iload0 (e := E_X10_sortAt) (am_row t_X10_sortAt 0 rfl), am_w_iconst (e := E_X10_sortAt) (am_row t_X10_sortAt 1 rfl) (nI 1) rfl, am_w_icmp_ne (e := E_X10_sortAt) (am_row t_X10_sortAt 2 rfl) 9 rfl, am_w_iconst (e := E_X10_sortAt) (am_row t_X10_sortAt 3 rfl) (nI 1) rfl, am_w_goto (e := E_X10_sortAt) (am_row t_X10_sortAt 4 rfl) 19 rfl, am_w_iload0 (e := E_X10_sortAt) (am_row t_X10_sortAt 5 rfl), am_w_iconst (e := E_X10_sortAt) (am_row t_X10_sortAt 6 rfl) (nI 3) rfl, am_w_icmp_ne (e := E_X10_sortAt) (am_row t_X10_sortAt 7 rfl) 18 rfl, am_w_iconst (e := E_X10_sortAt) (am_row t_X10_sortAt 8 rfl) (nI 2) rfl, am_w_goto (e := E_X10_sortAt) (am_row t_X10_sortAt 9 rfl) 19 rfl, am_w_iconst (e := E_X10_sortAt) (am_row t_X10_sortAt 10 rfl) (nI 0) rfl, am_w_iret (e := E_X10_sortAt) (am_row t_X10_sortAt 11 rfl) rfl]
  unfold sp_srt
  by_cases h1 : v = nI 1
  · simp [h1]
  · by_cases h2 : v = nI 3
    · have h3 : ¬ nI 3 = nI 1 := by decide
      simp [h2, h3]
    · simp [h1, h2]
theorem c_X10_codes (h : am_H) (v : Int32) : am_R E_X10_codes [.int v] h (some (.int (if v = nI 3 then nI 512 else nI 32768))) h := by
  apply am_R_of
  rw [show am_loc E_X10_codes [.int v] = [.int v] from rfl]
  simp (disch := first | omega | (simp (disch := omega) only [am_z0, am_z1, am_zb, am_n0, List.length_nil, List.length_cons, Nat.reduceAdd, Nat.reduceLeDiff, Nat.reduceLT, Option.isSome_some, not_false_eq_true, *]; done) | fail) only [Nat.reduceAdd, am_w_iload0 (e := E_X10_codes) (am_row t_X10_codes 0 rfl), am_w_iconst (e := E_X10_codes) (am_row t_X10_codes 1 rfl) (nI 3) rfl, am_w_icmp_ne (e := E_X10_codes) (am_row t_X10_codes 2 rfl) 11 rfl, am_w_sipush (e := E_X10_codes) (am_row t_X10_codes 3 rfl) (nI 512) rfl, am_w_goto (e := E_X10_codes) (am_row t_X10_codes 4 rfl) 13 rfl, am_w_ldc (e := E_X10_codes) (am_row t_X10_codes 5 rfl) (nI 32768) rfl, am_w_iret (e := E_X10_codes) (am_row t_X10_codes 6 rfl) rfl]
  by_cases h1 : v = nI 3 <;> simp [h1]
