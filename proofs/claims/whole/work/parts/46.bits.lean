/-! bits (rows of kit/laws/BITS, for pasting) -/
def bt (x : Int32) (i : Nat) : Bool := x.toBitVec.getLsbD i
theorem b_ext {x y : Int32} (h : ∀ i, i < 32 → bt x i = bt y i) : x = y := Int32.toBitVec_inj.mp (BitVec.eq_of_getLsbD_eq (fun i hi => h i hi))
theorem b_or (x y : Int32) (i : Nat) : bt (x ||| y) i = (bt x i || bt y i) := by unfold bt; rw [Int32.toBitVec_or, BitVec.getLsbD_or]
theorem b_and (x y : Int32) (i : Nat) : bt (x &&& y) i = (bt x i && bt y i) := by unfold bt; rw [Int32.toBitVec_and, BitVec.getLsbD_and]
theorem b_xor (x y : Int32) (i : Nat) : bt (x ^^^ y) i = (bt x i ^^ bt y i) := by unfold bt; rw [Int32.toBitVec_xor, BitVec.getLsbD_xor]
theorem b_big {x : Int32} {i : Nat} (h : 32 ≤ i) : bt x i = false := BitVec.getLsbD_of_ge _ _ h
theorem b_255 (i : Nat) : bt 255 i = decide (i < 8) := by
  rcases Nat.lt_or_ge i 32 with h | h
  · exact (by decide +kernel : ∀ i, i < 32 → bt 255 i = decide (i < 8)) i h
  · rw [b_big h, decide_eq_false (by omega)]
theorem b_65535 (i : Nat) : bt 65535 i = decide (i < 16) := by
  rcases Nat.lt_or_ge i 32 with h | h
  · exact (by decide +kernel : ∀ i, i < 32 → bt 65535 i = decide (i < 16)) i h
  · rw [b_big h, decide_eq_false (by omega)]
theorem b_m1 : ∀ i, i < 32 → bt (-1) i = true := by decide +kernel
theorem b_0 (i : Nat) : bt 0 i = false := BitVec.getLsbD_zero
theorem s_l : ∀ n, n < 32 → ((nI n &&& 31).toBitVec.smod 32).toNat = n := by decide +kernel
theorem s_u : ∀ n, n < 32 → (((nI n).toUInt32 &&& Int32.toUInt32 31).toBitVec % 32).toNat = n := by decide +kernel
theorem b_shl (n : Nat) (hn : n < 32) (x : Int32) {i : Nat} (hi : i < 32) : bt (x <<< (nI n &&& 31)) i = (decide (n ≤ i) && bt x (i - n)) := by
  unfold bt
  rw [Int32.toBitVec_shiftLeft]
  show (x.toBitVec <<< ((nI n &&& 31).toBitVec.smod 32).toNat).getLsbD i = _
  rw [s_l n hn, BitVec.getLsbD_shiftLeft]
  rcases Nat.lt_or_ge i n with h | h
  · simp [h, Nat.not_le.mpr h]
  · simp [hi, h, Nat.not_lt.mpr h]
theorem b_ushr (n : Nat) (hn : n < 32) (x : Int32) (i : Nat) : bt ((x.toUInt32 >>> ((nI n).toUInt32 &&& Int32.toUInt32 31)).toInt32) i = bt x (n + i) := by
  show (x.toUInt32 >>> ((nI n).toUInt32 &&& Int32.toUInt32 31)).toBitVec.getLsbD i = x.toUInt32.toBitVec.getLsbD (n + i)
  rw [UInt32.toBitVec_shiftRight]
  show (x.toUInt32.toBitVec >>> (((nI n).toUInt32 &&& Int32.toUInt32 31).toBitVec % 32).toNat).getLsbD i = _
  rw [s_u n hn, BitVec.getLsbD_ushiftRight]
theorem b_sshr (n : Nat) (hn : n < 32) (x : Int32) {i : Nat} (hi : i < 32) : bt (x >>> (nI n &&& 31)) i = if n + i < 32 then bt x (n + i) else bt x 31 := by
  unfold bt
  rw [Int32.toBitVec_shiftRight]
  show (x.toBitVec.sshiftRight ((nI n &&& 31).toBitVec.smod 32).toNat).getLsbD i = _
  rw [s_l n hn, BitVec.getLsbD_sshiftRight, BitVec.msb_eq_getLsbD_last]
  simp [hi]
/-! sets of WORDS by their bits -/
theorem tb_shl : ∀ l, l < 32 → (nI 1 <<< (nI l &&& 31)).toBitVec = BitVec.twoPow 32 l := by decide +kernel
theorem tb_tp : ∀ l, l < 32 → BitVec.twoPow 32 l ≠ 0#32 := by decide +kernel
theorem bt_sp {t : Int32} {k : Nat} (hk : k < 32) : sp_bt t k = bt t k := by
  have h1 : (t &&& (nI 1 <<< (nI k &&& 31)) = 0) ↔ bt t k = false := by
    rw [← Int32.toBitVec_inj, Int32.toBitVec_and, tb_shl k hk, BitVec.and_twoPow]
    unfold bt
    cases h : t.toBitVec.getLsbD k
    · simp
    · simp only [if_true]
      constructor
      · intro h2; exact absurd h2 (tb_tp k hk)
      · intro h2; cases h2
  unfold sp_bt
  cases h : bt t k
  · simpa using h1.mpr h
  · simp [h1, h]
theorem bt_1 : ∀ i, i < 32 → bt (nI 1) i = decide (i = 0) := by decide +kernel
theorem bt_bit {t : Int32} {k : Nat} (hk : k < 31) : sp_bit t (nI k) = bt t k := by
  have h1 : (t >>> (nI k &&& 31)) &&& nI 1 = if bt t k then nI 1 else 0 := by
    apply b_ext
    intro i hi
    rw [b_and, b_sshr k (by omega) t hi, bt_1 i hi]
    by_cases h0 : i = 0
    · subst h0
      rw [if_pos (by omega)]
      simp only [Nat.add_zero, decide_true, Bool.and_true]
      cases h : bt t k
      · simp [b_0]
      · simp [bt_1 0 (by omega)]
    · simp only [h0, decide_false, Bool.and_false]
      cases h : bt t k
      · simp [b_0]
      · simp [bt_1 i hi, h0]
  unfold sp_bit
  rw [h1]
  cases h : bt t k
  · simp; decide
  · simp
theorem bt_one {i k : Nat} (hi : i < 32) (hk : k < 32) : bt (nI 1 <<< (nI k &&& 31)) i = decide (i = k) := by
  rw [b_shl k hk _ hi]
  by_cases h : k ≤ i
  · rw [bt_1 (i - k) (by omega)]
    by_cases h2 : i = k
    · simp [h2]
    · simp [h2, show ¬ i - k = 0 by omega]
  · simp [h, show ¬ i = k by omega]
theorem bt_set {t : Int32} {i k : Nat} (hi : i < 32) (hk : k < 32) : bt (t ||| (nI 1 <<< (nI k &&& 31))) i = (bt t i || decide (i = k)) := by rw [b_or, bt_one hi hk]
theorem bt_not {t : Int32} {i : Nat} (hi : i < 32) : bt (t ^^^ (-1)) i = !bt t i := by rw [b_xor, b_m1 i hi, Bool.xor_true]
theorem bt_n0 (i : Nat) : bt (nI 0) i = false := b_0 i
theorem bt_255 : ∀ i, i < 32 → bt (nI 255) i = decide (i < 8) := by decide +kernel
/-- what costs a speaker something, bit by bit -/
theorem bt_cost (t : Int32) (re ho : Nat → Int32) (ws sp : Int32) {i : Nat} (hi : i < 32) : ∀ n, n ≤ 32 → bt (sp_cost t re ho ws sp n) i = (decide (i < n) && sp_cst t re ho ws sp i)
  | 0, _ => by rw [sp_cost, bt_n0]; simp
  | n + 1, hn => by
    have ih := bt_cost t re ho ws sp hi n (by omega)
    rw [sp_cost]
    by_cases h : i = n
    · subst h
      cases hc : sp_cst t re ho ws sp i
      · simp [ih, hc]
      · simp [bt_set hi hi]
    · have h2 : decide (i < n + 1) = decide (i < n) := by
        by_cases h3 : i < n
        · simp [h3, show i < n + 1 by omega]
        · simp [h3, show ¬ i < n + 1 by omega]
      rw [h2, ← ih]
      split
      · rw [bt_set hi (by omega)]; simp [h]
      · rfl
theorem bt_wset (w : Nat → Nat) (hw : ∀ p, w p < 32) {i : Nat} (hi : i < 32) : ∀ n, bt (wset (nR w) n) i = sp_any (fun p => decide (w p = i)) n
  | 0 => by rw [wset, bt_n0]; rfl
  | n + 1 => by
    rw [wset, sp_any, nR_k, bt_set hi (hw n), bt_wset w hw hi n]
    congr 1
    simp [eq_comm]
theorem sp_cst_bt (t : Int32) (re ho : Nat → Int32) (ws sp : Int32) {k : Nat} (hk : k < 32) : sp_cst t re ho ws sp k = (bt ws k && bt t k && decide (¬ ho k = nI 4) && decide (¬ ho k = sp) && decide (¬ re k ≤ 0)) := by
  have h := bt_sp (t := ws &&& t) hk
  unfold sp_bt at h
  rw [sp_cst, h, b_and]
/-- sets are alike below 8 -/
theorem bt_ext8 {x y : Int32} (hx : ∀ i, 8 ≤ i → i < 32 → bt x i = false) (hy : ∀ i, 8 ≤ i → i < 32 → bt y i = false) (h : ∀ i, i < 8 → bt x i = bt y i) : x = y := by
  apply b_ext
  intro i hi
  by_cases h8 : i < 8
  · exact h i h8
  · rw [hx i (by omega) hi, hy i (by omega) hi]
