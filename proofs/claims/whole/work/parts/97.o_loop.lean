/-! THE LAW: the switch, the loop -/
theorem lw_sw (X : (Nat → Int32) × Nat) (hL : X.2 ≤ 384) (i : Nat) (hi : i + 6 ≤ X.2) (D : Nat) (hD : D < 99000) (Q : Option Value → am_H → Prop) (hN : lwN X i D Q) (S : gS) (I : Nat → Nat → Int32) (J : Nat → Nat → Int64) (h1 : cInv I S) (h2 : mInv I S) (hS : sOK D S) (x : Int32) : am_wp E_L_law 33 [.retAddr 0, .ref (0 : Nat), .ref (62 : Nat), .int (nI i)] [.int x] (am_hp X I J) Q := by
  by_cases z0 : x = nI 0
  · rw [z0, am_w_tin (e := E_L_law) (am_row t_L_law_0 21 rfl) (nI 0) 180 147 (by decide) rfl rfl]
    exact lw_0 X hL i hi D hD Q hN S I J h1 h2 hS
  by_cases z1 : x = nI 1
  · rw [z1, am_w_tin (e := E_L_law) (am_row t_L_law_0 21 rfl) (nI 1) 243 210 (by decide) rfl rfl]
    exact lw_1 X hL i hi D Q hN S I J h1 h2 hS
  by_cases z2 : x = nI 2
  · rw [z2, am_w_tin (e := E_L_law) (am_row t_L_law_0 21 rfl) (nI 2) 266 233 (by decide) rfl rfl]
    exact lw_2 X hL i hi D hD Q hN S I J h1 h2 hS
  by_cases z3 : x = nI 3
  · rw [z3, am_w_tin (e := E_L_law) (am_row t_L_law_0 21 rfl) (nI 3) 309 276 (by decide) rfl rfl]
    exact lw_3 X hL i hi D hD Q hN S I J h1 h2 hS
  by_cases z4 : x = nI 4
  · rw [z4, am_w_tin (e := E_L_law) (am_row t_L_law_0 21 rfl) (nI 4) 342 309 (by decide) rfl rfl]
    exact lw_4 X hL i hi D hD Q hN S I J h1 h2 hS
  by_cases z5 : x = nI 5
  · rw [z5, am_w_tin (e := E_L_law) (am_row t_L_law_0 21 rfl) (nI 5) 365 332 (by decide) rfl rfl]
    exact lw_5 X hL i hi D hD Q hN S I J h1 h2 hS
  by_cases z6 : x = nI 6
  · rw [z6, am_w_tin (e := E_L_law) (am_row t_L_law_0 21 rfl) (nI 6) 378 345 (by decide) rfl rfl]
    exact lw_6 X hL i hi D hD Q hN S I J h1 h2 hS
  by_cases z7 : x = nI 7
  · rw [z7, am_w_tin (e := E_L_law) (am_row t_L_law_0 21 rfl) (nI 7) 401 368 (by decide) rfl rfl]
    exact lw_7 X hL i hi D hD Q hN S I J h1 h2 hS
  by_cases z8 : x = nI 8
  · rw [z8, am_w_tin (e := E_L_law) (am_row t_L_law_0 21 rfl) (nI 8) 424 391 (by decide) rfl rfl]
    exact lw_8 X hL i hi D hD Q hN S I J h1 h2 hS
  by_cases z9 : x = nI 9
  · rw [z9, am_w_tin (e := E_L_law) (am_row t_L_law_0 21 rfl) (nI 9) 457 424 (by decide) rfl rfl]
    exact lw_9 X hL i hi D hD Q hN S I J h1 h2 hS
  by_cases z10 : x = nI 10
  · rw [z10, am_w_tin (e := E_L_law) (am_row t_L_law_0 21 rfl) (nI 10) 500 467 (by decide) rfl rfl]
    exact lw_10 X hL i hi D hD Q hN S I J h1 h2 hS
  by_cases z11 : x = nI 11
  · rw [z11, am_w_tin (e := E_L_law) (am_row t_L_law_0 21 rfl) (nI 11) 543 510 (by decide) rfl rfl]
    exact lw_11 X hL i hi D hD Q hN S I J h1 h2 hS
  by_cases z12 : x = nI 12
  · rw [z12, am_w_tin (e := E_L_law) (am_row t_L_law_0 21 rfl) (nI 12) 576 543 (by decide) rfl rfl]
    exact lw_12 X hL i hi D hD Q hN S I J h1 h2 hS
  by_cases z13 : x = nI 13
  · rw [z13, am_w_tin (e := E_L_law) (am_row t_L_law_0 21 rfl) (nI 13) 599 566 (by decide) rfl rfl]
    exact lw_13 X hL i hi D hD Q hN S I J h1 h2 hS
  by_cases z14 : x = nI 14
  · rw [z14, am_w_tin (e := E_L_law) (am_row t_L_law_0 21 rfl) (nI 14) 612 579 (by decide) rfl rfl]
    exact lw_14 X hL i hi D hD Q hN S I J h1 h2 hS
  by_cases z15 : x = nI 15
  · rw [z15, am_w_tin (e := E_L_law) (am_row t_L_law_0 21 rfl) (nI 15) 645 612 (by decide) rfl rfl]
    exact lw_15 X hL i hi D hD Q hN S I J h1 h2 hS
  by_cases z16 : x = nI 16
  · rw [z16, am_w_tin (e := E_L_law) (am_row t_L_law_0 21 rfl) (nI 16) 678 645 (by decide) rfl rfl]
    exact lw_16 X hL i hi D hD Q hN S I J h1 h2 hS
  by_cases z17 : x = nI 17
  · rw [z17, am_w_tin (e := E_L_law) (am_row t_L_law_0 21 rfl) (nI 17) 721 688 (by decide) rfl rfl]
    exact lw_17 X hL i hi D hD Q hN S I J h1 h2 hS
  by_cases z18 : x = nI 18
  · rw [z18, am_w_tin (e := E_L_law) (am_row t_L_law_0 21 rfl) (nI 18) 734 701 (by decide) rfl rfl]
    exact lw_18 X hL i hi D hD Q hN S I J h1 h2 hS
  by_cases z19 : x = nI 19
  · rw [z19, am_w_tin (e := E_L_law) (am_row t_L_law_0 21 rfl) (nI 19) 747 714 (by decide) rfl rfl]
    exact lw_19 X hL i hi D hD Q hN S I J h1 h2 hS
  by_cases z20 : x = nI 20
  · rw [z20, am_w_tin (e := E_L_law) (am_row t_L_law_0 21 rfl) (nI 20) 760 727 (by decide) rfl rfl]
    exact lw_20 X hL i hi D hD Q hN S I J h1 h2 hS
  by_cases z21 : x = nI 21
  · rw [z21, am_w_tin (e := E_L_law) (am_row t_L_law_0 21 rfl) (nI 21) 783 750 (by decide) rfl rfl]
    exact lw_21 X hL i hi D hD Q hN S I J h1 h2 hS
  by_cases z22 : x = nI 22
  · rw [z22, am_w_tin (e := E_L_law) (am_row t_L_law_0 21 rfl) (nI 22) 806 773 (by decide) rfl rfl]
    exact lw_22 X hL i hi D hD Q hN S I J h1 h2 hS
  by_cases z23 : x = nI 23
  · rw [z23, am_w_tin (e := E_L_law) (am_row t_L_law_0 21 rfl) (nI 23) 819 786 (by decide) rfl rfl]
    exact lw_23 X hL i hi D hD Q hN S I J h1 h2 hS
  by_cases z24 : x = nI 24
  · rw [z24, am_w_tin (e := E_L_law) (am_row t_L_law_0 21 rfl) (nI 24) 852 819 (by decide) rfl rfl]
    exact lw_24 X hL i hi D hD Q hN S I J h1 h2 hS
  by_cases z25 : x = nI 25
  · rw [z25, am_w_tin (e := E_L_law) (am_row t_L_law_0 21 rfl) (nI 25) 875 842 (by decide) rfl rfl]
    exact lw_25 X hL i hi D hD Q hN S I J h1 h2 hS
  by_cases z26 : x = nI 26
  · rw [z26, am_w_tin (e := E_L_law) (am_row t_L_law_0 21 rfl) (nI 26) 908 875 (by decide) rfl rfl]
    exact lw_26 X hL i hi D hD Q hN S I J h1 h2 hS
  by_cases z27 : x = nI 27
  · rw [z27, am_w_tin (e := E_L_law) (am_row t_L_law_0 21 rfl) (nI 27) 921 888 (by decide) rfl rfl]
    exact lw_27 X hL i hi D hD Q hN S I J h1 h2 hS
  by_cases z28 : x = nI 28
  · rw [z28, am_w_tin (e := E_L_law) (am_row t_L_law_0 21 rfl) (nI 28) 965 932 (by decide) rfl rfl]
    exact lw_28 X hL i hi D hD Q hN S I J h1 h2 hS
  by_cases z29 : x = nI 29
  · rw [z29, am_w_tin (e := E_L_law) (am_row t_L_law_0 21 rfl) (nI 29) 1008 975 (by decide) rfl rfl]
    exact lw_29 X hL i hi D hD Q hN S I J h1 h2 hS
  by_cases z30 : x = nI 30
  · rw [z30, am_w_tin (e := E_L_law) (am_row t_L_law_0 21 rfl) (nI 30) 1051 1018 (by decide) rfl rfl]
    exact lw_30 X hL i hi D hD Q hN S I J h1 h2 hS
  by_cases z31 : x = nI 31
  · rw [z31, am_w_tin (e := E_L_law) (am_row t_L_law_0 21 rfl) (nI 31) 1074 1041 (by decide) rfl rfl]
    exact lw_31 X hL i hi D hD Q hN S I J h1 h2 hS
  by_cases z32 : x = nI 32
  · rw [z32, am_w_tin (e := E_L_law) (am_row t_L_law_0 21 rfl) (nI 32) 1097 1064 (by decide) rfl rfl]
    exact lw_32 X hL i hi D hD Q hN S I J h1 h2 hS
  have ho := toInt_out (n := 32) (by omega) (fun k hk => match k, hk with
    | 0, _ => z0
    | 1, _ => z1
    | 2, _ => z2
    | 3, _ => z3
    | 4, _ => z4
    | 5, _ => z5
    | 6, _ => z6
    | 7, _ => z7
    | 8, _ => z8
    | 9, _ => z9
    | 10, _ => z10
    | 11, _ => z11
    | 12, _ => z12
    | 13, _ => z13
    | 14, _ => z14
    | 15, _ => z15
    | 16, _ => z16
    | 17, _ => z17
    | 18, _ => z18
    | 19, _ => z19
    | 20, _ => z20
    | 21, _ => z21
    | 22, _ => z22
    | 23, _ => z23
    | 24, _ => z24
    | 25, _ => z25
    | 26, _ => z26
    | 27, _ => z27
    | 28, _ => z28
    | 29, _ => z29
    | 30, _ => z30
    | 31, _ => z31
    | 32, _ => z32
    | n + 33, h => absurd h (by omega))
  rw [am_w_tout (e := E_L_law) (am_row t_L_law_0 21 rfl) x 1120 ho rfl]
  have hN := hN S I J h1 h2 (sOK_mono hS (by omega))
  simp (disch := first | omega | assumption | (simp only [ks_0, ks_62, List.length_nil, List.length_cons, Nat.reduceAdd, Nat.reduceLeDiff]; done) | fail) only [Nat.reduceAdd, am_w_iinc3r (e := E_L_law) (am_row t_L_law_7 64 rfl) (nI 6) rfl, am_w_goto (e := E_L_law) (am_row t_L_law_7 65 rfl) 18 rfl, Option.toList_some, List.cons_append, List.nil_append, nI_add, if_true]
  exact hN
def lwQ (v : Option Value) (h : am_H) : Prop := v = some (.int 1) ∧ h.1 = am_Kst
theorem lw_sm : ∀ a, a < 6 → ∀ b, b < 6 → nI a - nI 6 < nI b := by decide +kernel
theorem lw_gt {a i : Nat} (ha : a ≤ 384) (hi : i ≤ a) (h : a < i + 6) : nI a - nI 6 < nI i := by
  by_cases h6 : 6 ≤ a
  · rw [nI_sub h6]; exact nI_lt (by omega) (by omega)
  · exact lw_sm a (by omega) i (by omega)
theorem lw_ng {a i : Nat} (ha : a ≤ 384) (h : i + 6 ≤ a) : ¬ nI a - nI 6 < nI i := fun g => by
  rw [nI_sub (by omega), nI_ltI (by omega) (by omega)] at g
  omega
theorem lw_end (X : (Nat → Int32) × Nat) (hL : X.2 ≤ 384) (i : Nat) (hi : i ≤ X.2) (h6 : X.2 < i + 6) (I : Nat → Nat → Int32) (J : Nat → Nat → Int64) : am_wp E_L_law 18 [.retAddr 0, .ref (0 : Nat), .ref (62 : Nat), .int (nI i)] [] (am_hp X I J) lwQ := by
  have hc := lw_gt hL hi h6
  simp (disch := first | omega | assumption | fail) only [Nat.reduceAdd, am_w_iload3 (e := E_L_law) (am_row t_L_law_0 10 rfl), am_w_aloadS (e := E_L_law) (am_row t_L_law_0 11 rfl), am_w_sln (e := E_L_law) (am_row t_L_law_0 12 rfl), am_w_bipush (e := E_L_law) (am_row t_L_law_0 13 rfl) (nI 6) rfl, am_w_isub (e := E_L_law) (am_row t_L_law_0 14 rfl), am_w_icmp_gt (e := E_L_law) (am_row t_L_law_0 15 rfl) 1126 rfl, if_pos hc, am_w_iconst (e := E_L_law) (am_row t_L_law_7 66 rfl) (nI 1) rfl, am_w_zr0 (e := E_L_law) (am_row t_L_law_7 67 rfl) rfl, am_w_zr1 (e := E_L_law) (am_row t_L_law_7 67 rfl) rfl, am_w_zrb (e := E_L_law) (am_row t_L_law_7 67 rfl) rfl]
  exact ⟨rfl, rfl⟩
theorem lw_go (X : (Nat → Int32) × Nat) (hL : X.2 ≤ 384) (i : Nat) (hi : i + 6 ≤ X.2) (I : Nat → Nat → Int32) (J : Nat → Nat → Int64) (Q : Option Value → am_H → Prop) (hh : am_wp E_L_law 33 [.retAddr 0, .ref (0 : Nat), .ref (62 : Nat), .int (nI i)] [.int (X.1 i &&& nI 63)] (am_hp X I J) Q) : am_wp E_L_law 18 [.retAddr 0, .ref (0 : Nat), .ref (62 : Nat), .int (nI i)] [] (am_hp X I J) Q := by
  have hc := lw_ng hL hi
  have e0 : i < X.2 := by omega
  simp (disch := first | omega | assumption | fail) only [Nat.reduceAdd, am_w_iload3 (e := E_L_law) (am_row t_L_law_0 10 rfl), am_w_aloadS (e := E_L_law) (am_row t_L_law_0 11 rfl), am_w_sln (e := E_L_law) (am_row t_L_law_0 12 rfl), am_w_bipush (e := E_L_law) (am_row t_L_law_0 13 rfl) (nI 6) rfl, am_w_isub (e := E_L_law) (am_row t_L_law_0 14 rfl), am_w_icmp_gt (e := E_L_law) (am_row t_L_law_0 15 rfl) 1126 rfl, if_neg hc, am_w_aloadS (e := E_L_law) (am_row t_L_law_0 16 rfl), am_w_iload3 (e := E_L_law) (am_row t_L_law_0 17 rfl), am_w_sld (e := E_L_law) (am_row t_L_law_0 18 rfl), am_w_bipush (e := E_L_law) (am_row t_L_law_0 19 rfl) (nI 63) rfl, am_w_iand (e := E_L_law) (am_row t_L_law_0 20 rfl)]
  exact hh
theorem lw_loop (X : (Nat → Int32) × Nat) (hL : X.2 ≤ 384) (n : Nat) : ∀ i, X.2 < i + n → i ≤ X.2 → ∀ (S : gS) (I : Nat → Nat → Int32) (J : Nat → Nat → Int64), cInv I S → mInv I S → sOK (10 * i) S → am_wp E_L_law 18 [.retAddr 0, .ref (0 : Nat), .ref (62 : Nat), .int (nI i)] [] (am_hp X I J) lwQ := by
  induction n with
  | zero => intro i h1 h2; omega
  | succ n ih =>
    intro i hn hi S I J h1 h2 hS
    by_cases h6 : i + 6 ≤ X.2
    · refine lw_go X hL i h6 I J lwQ (lw_sw X hL i h6 (10 * i) (by omega) lwQ ?_ S I J h1 h2 hS _)
      intro S' I' J' g1 g2 gS
      exact ih (i + 6) (by omega) h6 S' I' J' g1 g2 (by rw [Nat.mul_add]; exact gS)
    · exact lw_end X hL i hi (by omega) I J
