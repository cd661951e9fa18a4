/-! BOTH, call by call -/
theorem b_fault {D : Nat} {S : gS} (hS : sOK D S) (q : Int32) : bI E_X9_fault E_X10_fault [.int q] D S := by
  refine bI_of hS (if q = 0 then sp_sf (xt S.1) (nR (xso S.1)) (nR S.2.2.1) S.2.1 else if q = nI 1 then sp_lf (nR S.2.2.1) S.2.1 else -2) (cSt_id (fun X I J h => ?_)) (mSt_id (fun X I J h => ?_))
  · have hR := cl_fault X I J q S.2.1 (so_n hS) (ci_n h)
    rw [ci_t h, ci_so h, ci_sg h] at hR
    exact hR
  · have hR := mo_fault X I J q S.2.1 (so_n hS) (mi_n h)
    rw [mi_t h, mi_so h, mi_sg h] at hR
    exact hR
theorem b_strike {D : Nat} {S : gS} (hS : sOK D S) (z : Int32) : bI E_X9_strike E_X10_strike [.int z] D S := by
  refine bI_of hS (if sp_in z (nI 0) (nI 255) = false then -2 else nI (wtN (xt S.1) (xso S.1) z)) (cSt_id (fun X I J h => ?_)) (mSt_id (fun X I J h => ?_))
  · have hR := cl_strike X I J z
    rw [ci_t h, ci_so h, sw_eq _ _ (so_so hS)] at hR
    exact hR
  · have hR := mo_strike X I J (xso S.1) (so_so hS) (mi_so h) z
    rw [mi_t h] at hR
    exact hR
theorem b_worst {D : Nat} {S : gS} (hS : sOK D S) : bI E_X9_worst E_X10_worst [] D S := by
  refine bI_of hS (wsM (xt S.1) (xso S.1) 8).1 (cSt_id (fun X I J h => ?_)) (mSt_id (fun X I J h => ?_))
  · have hR := cl_worst X I J
    rw [ci_t h, ci_so h, (wst_eq _ _ (so_so hS) 8 (by omega)).1] at hR
    exact hR
  · have hR := mo_worst X I J (xso S.1) (so_so hS) (mi_so h)
    rw [mi_t h] at hR
    exact hR
theorem b_held {D : Nat} {S : gS} (hS : sOK D S) (q : Int32) : bI E_X9_held E_X10_held [.int q] D S := by
  have hl := so_l hS
  refine bI_of hS (if sp_in q (nI 0) (nI 1) = false then -2 else if q = 0 then nI (pcn (hdN (fun w => sp_all (fun i => decide (¬ (lset S.1 i &&& nI w) = 0)) (xnl S.1)) 255)) else nI (hdN (fun w => sp_all (fun i => decide (¬ (lset S.1 i &&& nI w) = 0)) (xnl S.1)) 255)) (cSt_id (fun X I J h => ?_)) (mSt_id (fun X I J h => ?_))
  · have hR := cl_held X I J q (xnl S.1) hl.1 (ci_nl h)
    rw [hdN_c (Q := fun w => sp_all (fun i => decide (¬ (lset S.1 i &&& nI w) = 0)) (xnl S.1)) (fun w => sp_all_c (fun i hi => by rw [ci_l h i hi]))] at hR
    exact hR
  · have hd := held_same (xnl S.1) (lset S.1) (fun i k => xlw S.1 (5 * i + k)) (xll S.1) (fun i hi => rfl) (fun i hi => ⟨by have := (hl.2 i hi).1; omega, (hl.2 i hi).2⟩) (fun i => wset (fun k => I 69 (5 * i + k)) (xll S.1 i)) (fun i hi => (so_lw h i hi).symm)
    exact mo_held X I J q (xnl S.1) hl.1 (xll S.1) (mi_nl h) (so_ll hS h) _ hd
theorem b_settles {D : Nat} {S : gS} (hS : sOK D S) (hD : D < 99000) : bI E_X9_settles E_X10_settles [] D S := by
  have hd := so_dy hS
  have hd2 : S.1.2.2.1.2.2.2 < 100000 := by show xdy S.1 < _; omega
  refine bI_of hS (stV S.1.1 S.1.2.2.1) (cSt_z (fun X I J h => ?_)) (mSt_w (fun X I J h => ?_))
  · have hR := cl_settles X I J S.1.1 S.1.2.2.1 (ci_c h) (so_c hS) (ci_r h) (so_d hS) (ci_z h)
    rw [settles_eq _ _ (so_c hS) (so_d hS)] at hR
    exact hR
  · exact mo_settles X I J S.1.1 S.1.2.2.1 (mi_c h) (so_c hS) (so_d hS) (so_z hS) hd2 (mi_r h) (mi_z h)
theorem b_round {D : Nat} {S : gS} (hS : sOK D S) (hD : D < 99000) : bI E_X9_round E_X10_round [] D S := by
  have hd := so_dy hS
  have hd2 : S.1.2.2.1.2.2.2 < 100000 := by show xdy S.1 < _; omega
  refine bI_of hS (rdV S.1.1 S.1.2.2.1) (cSt_z (fun X I J h => ?_)) (mSt_w (fun X I J h => ?_))
  · have hR := cl_round X I J S.1.1 S.1.2.2.1 (ci_c h) (so_c hS) (ci_r h) (so_d hS) (ci_z h)
    rw [round_eq _ _ (so_c hS) (so_d hS)] at hR
    exact hR
  · exact mo_round X I J S.1.1 S.1.2.2.1 (mi_c h) (so_c hS) (so_d hS) (so_z hS) hd2 (mi_r h) (mi_z h)
theorem has_ex {t w : Int32} (h : sp_has t w = true) : ∃ k, k < 8 ∧ w = nI k := sp_has_k h
theorem b_state {D : Nat} {S : gS} (hS : sOK D S) (w q : Int32) : bI E_X9_state E_X10_state [.int w, .int q] D S := by
  by_cases hb : sp_has (xt S.1) w = true ∧ sp_in q (nI 0) (nI 2) = true
  · obtain ⟨q1, q2⟩ := hb
    obtain ⟨k, hk, rfl⟩ := has_ex q1
    refine bI_of hS (pNat S.1.2.2.1 k q) (cSt_id (fun X I J h => ?_)) (mSt_w (fun X I J h => ?_))
    · have hR := cl_state X I J (nI k) q
      rw [ci_t h, ci_me h, ci_re h, ci_ho h, q1, q2] at hR
      simp only [Bool.true_eq_false, if_false] at hR
      rw [← prop_eq (xt S.1) S.1.2.2.1 k q hk q1]
      exact hR
    · exact mo_stateY X I J k hk q S.1.2.2.1 (mi_r h) (so_z hS) (mi_z h) (by rw [mi_t h]; exact q1) q2
  · refine bI_of hS (if sp_has (xt S.1) w = false then -1 else -2) (cSt_id (fun X I J h => ?_)) (mSt_id (fun X I J h => ?_))
    · have hR := cl_state X I J w q
      rw [ci_t h] at hR
      cases q1 : sp_has (xt S.1) w
      · rw [q1] at hR; exact hR
      · cases q2 : sp_in q (nI 0) (nI 2)
        · rw [q1, q2] at hR; exact hR
        · exact absurd ⟨q1, q2⟩ hb
    · have hR := mo_stateN X I J w q (by rw [mi_t h]; exact hb)
      rw [mi_t h] at hR
      exact hR
theorem b_after {D : Nat} {S : gS} (hS : sOK D S) (hD : D < 99000) (w m q : Int32) : bI E_X9_after E_X10_after [.int w, .int m, .int q] D S := by
  have hd := so_dy hS
  have hd2 : S.1.2.2.1.2.2.2 < 100000 := by show xdy S.1 < _; omega
  by_cases hb : sp_has (xt S.1) w = true ∧ sp_in m (nI 0) (nI 99) = true ∧ sp_in q (nI 0) (nI 2) = true
  · obtain ⟨q1, q2, q3⟩ := hb
    obtain ⟨k, hk, rfl⟩ := has_ex q1
    obtain ⟨m, -, hm, rfl⟩ := in_ex (by omega) (by omega) q2
    refine bI_of hS (pNat (dDays S.1.1 S.1.2.2.1 m) k q) (cSt_z (fun X I J h => ?_)) (mSt_w (fun X I J h => ?_))
    · obtain ⟨I', hR, h2⟩ := cl_afterY X I J (nI k) q m hm S.1.1 S.1.2.2.1 (ci_c h) (so_c hS) (ci_r h) (so_d hS) hd2 (ci_z h) q1 q3
      rw [prop_eq S.1.1.1 _ k q hk q1] at hR
      exact ⟨I', J, hR, h2⟩
    · exact mo_afterY X I J k hk q m hm S.1.1 S.1.2.2.1 (mi_c h) (so_c hS) (so_d hS) (so_z hS) hd2 (mi_r h) (mi_z h) q1 q3
  · refine bI_of hS (if sp_has (xt S.1) w = false then -1 else -2) (cSt_id (fun X I J h => ?_)) (mSt_id (fun X I J h => ?_))
    · have hR := cl_afterN X I J w m q (by rw [ci_t h]; exact hb)
      rw [ci_t h] at hR
      exact hR
    · have hR := mo_afterN X I J w m q (by rw [mi_t h]; exact hb)
      rw [mi_t h] at hR
      exact hR
theorem b_year {D : Nat} {S : gS} (hS : sOK D S) (hD : D < 99000) (x m q : Int32) : bI E_X9_year E_X10_year [.int x, .int m, .int q] D S := by
  have hd := so_dy hS
  have hd2 : S.1.2.2.1.2.2.2 < 100000 := by show xdy S.1 < _; omega
  by_cases hb : sp_in x (nI 0) (nI 9999) = true ∧ sp_in m (nI 1) (nI 99) = true ∧ sp_in q (nI 0) (nI 2) = true
  · obtain ⟨q1, q2, q3⟩ := hb
    obtain ⟨x, -, hx, rfl⟩ := in_ex (by omega) (by omega) q1
    obtain ⟨m, hm0, hm, rfl⟩ := in_ex (by omega) (by omega) q2
    obtain ⟨q, -, hq, rfl⟩ := in_ex (by omega) (by omega) q3
    refine bI_of hS (if q = 0 then nI (dYear S.1.1 m x (S.1.2.2.1, 0, 0)).2.1 else if q = 1 then nI (dYear S.1.1 m x (S.1.2.2.1, 0, 0)).2.2 else nI (smN S.1.1 (dYear S.1.1 m x (S.1.2.2.1, 0, 0)).1 8)) (cSt_z (fun X I J h => ?_)) (mSt_w (fun X I J h => ?_))
    · obtain ⟨I', hR, h2⟩ := cl_yearY X I J x m q hx hm0 hm hq S.1.1 S.1.2.2.1 (ci_c h) (so_c hS) (ci_r h) (so_d hS) hd2 (ci_z h)
      rw [sum_eq S.1.1 _ 8 (by omega)] at hR
      exact ⟨I', J, hR, h2⟩
    · exact mo_yearY X I J x m q hx hm0 hm hq S.1.1 S.1.2.2.1 (mi_c h) (so_c hS) (so_d hS) (so_z hS) hd2 (mi_r h) (mi_z h)
  · exact bI_of hS (-2) (cSt_id (fun X I J h => cl_yearN X I J x m q hb)) (mSt_id (fun X I J h => mo_yearN X I J x m q hb))
theorem b_rests {D : Nat} {S : gS} (hS : sOK D S) (w x i : Int32) : bI E_X9_rests E_X10_rests [.int w, .int x, .int i] D S := by
  by_cases hb : sp_has (xt S.1) w = true ∧ sp_has (xt S.1) x = true ∧ ¬ w = x
  · obtain ⟨q1, q2, q3⟩ := hb
    obtain ⟨w, hw, rfl⟩ := has_ex q1
    obtain ⟨x, hx, rfl⟩ := has_ex q2
    have hwx : ¬ w = x := fun h => q3 (by rw [h])
    have a3 := (so_d hS).2.1 w
    have a4 := (so_d hS).2.1 x
    refine bI_of hS (if xso S.1 w = xso S.1 x ∧ ¬ xho S.1 w = xho S.1 x ∧ ¬ xho S.1 w = 4 ∧ ¬ xho S.1 x = 4 then rcl (fun p => arN (p / 10) (p % 10)) i 100 0 0 else -3) (cSt_id (fun X I J h => ?_)) (mSt_id (fun X I J h => ?_))
    · have hR := cl_rests X I J (nI w) (nI x) i
      rw [ci_t h, ci_so h, ci_ho h, riv_eq (xt S.1) (xso S.1) (xho S.1) (so_so hS) (so_d hS).2.1 hw hx q1 q2, q1, q2, if_neg (by simp [q3])] at hR
      have hiff : (xso S.1 w = xso S.1 x ∧ ¬ xho S.1 w = xho S.1 x ∧ ¬ xho S.1 w = 4 ∧ ¬ xho S.1 x = 4) ↔ ¬ (decide (xso S.1 w = xso S.1 x) && decide (xho S.1 w < 4) && decide (xho S.1 x < 4) && decide (¬ xho S.1 w = xho S.1 x)) = false := by
        have a3 : xho S.1 w ≤ 4 := a3
        have a4 : xho S.1 x ≤ 4 := a4
        simp only [Bool.not_eq_false, Bool.and_eq_true, decide_eq_true_eq]
        constructor
        · rintro ⟨b1, b2, b3, b4⟩; exact ⟨⟨⟨b1, by omega⟩, by omega⟩, b2⟩
        · rintro ⟨⟨⟨b1, b2⟩, b3⟩, b4⟩; exact ⟨b1, b4, by omega, by omega⟩
      by_cases hc : xso S.1 w = xso S.1 x ∧ ¬ xho S.1 w = xho S.1 x ∧ ¬ xho S.1 w = 4 ∧ ¬ xho S.1 x = 4
      · rw [if_neg (hiff.mp hc)] at hR; rw [if_pos hc]; exact hR
      · rw [if_pos (Decidable.by_contra (fun h2 => hc (hiff.mpr h2)))] at hR; rw [if_neg hc]; exact hR
    · exact mo_restsY X I J (xso S.1) (xho S.1) (so_so hS) (so_d hS).2.1 w x i hw hx hwx (by rw [mi_t h]; exact q1) (by rw [mi_t h]; exact q2) (mi_so h) (mi_ho h)
  · refine bI_of hS (-1) (cSt_id (fun X I J h => ?_)) (mSt_id (fun X I J h => mo_restsN X I J w x i (by rw [mi_t h]; exact hb)))
    have hR := cl_rests X I J w x i
    rw [ci_t h, if_pos ?_] at hR
    · exact hR
    · cases q1 : sp_has (xt S.1) w
      · exact Or.inl rfl
      · cases q2 : sp_has (xt S.1) x
        · exact Or.inr (Or.inl rfl)
        · exact Or.inr (Or.inr (Decidable.by_contra (fun q3 => hb ⟨q1, q2, q3⟩)))
