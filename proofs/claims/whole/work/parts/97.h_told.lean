/-! BOTH, call by call: TOLD -/
theorem ng_div {q : Int32} (h : q < 0) : q / nI 10 - nI 1 < 0 := by
  have hq : q.toInt < 0 := Int32.lt_iff_toInt_lt.mp h
  have hq2 : -2147483648 ≤ q.toInt := Int32.le_toInt q
  obtain ⟨n, hn⟩ : ∃ n : Nat, q.toInt = -(n : Int) := ⟨q.toInt.natAbs, by omega⟩
  have h10 : (nI 10).toInt = 10 := by decide
  have h1 : (nI 1).toInt = 1 := by decide
  have hd : (q / nI 10).toInt = -((n / 10 : Nat) : Int) := by
    rw [Int32.toInt_div, hn, h10, Int.neg_tdiv, show ((n : Int).tdiv 10) = ((n / 10 : Nat) : Int) from rfl]
    exact Int.bmod_eq_of_le (by omega) (by omega)
  have hs : (q / nI 10 - nI 1).toInt = -((n / 10 : Nat) : Int) - 1 := by
    rw [Int32.toInt_sub, hd, h1]
    exact Int.bmod_eq_of_le (by omega) (by omega)
  apply Int32.lt_iff_toInt_lt.mpr
  rw [hs]
  show _ < (0 : Int)
  omega
theorem has_neg {t w : Int32} (h : w < 0) : sp_has t w = false := by
  unfold sp_has
  rw [if_pos h]
theorem lt_dec {n m : Nat} (hn : n < 1000) (hm : m < 2147483648) : sp_lt n (nI m) = decide (m < n) := by
  by_cases h : m < n
  · rw [sp_lt_in (by omega) h]; simp [h]
  · rw [sp_lt_big (nI_pos hm) (by rw [am_nle _ _ (by omega) hm]; omega)]; simp [h]
theorem b_told {D : Nat} {S : gS} (hS : sOK D S) (q : Int32) : bI E_X9_told E_X10_told [.int q] D S := by
  by_cases h6 : ∃ k, k ≤ 6 ∧ q = nI k
  · obtain ⟨k, hk, rfl⟩ := h6
    rcases (by omega : k = 0 ∨ k = 1 ∨ k = 2 ∨ k = 3 ∨ k = 4 ∨ k = 5 ∨ k = 6) with rfl | rfl | rfl | rfl | rfl | rfl | rfl
    · exact bI_of hS (nI S.2.1) (cSt_id (fun X I J h => by have hR := cl_told0 X I J; rw [ci_n h] at hR; exact hR)) (mSt_id (fun X I J h => by have hR := mo_told0 X I J; rw [mi_n h] at hR; exact hR))
    · exact bI_of hS (xt S.1) (cSt_id (fun X I J h => by have hR := cl_told1 X I J; rw [ci_t h] at hR; exact hR)) (mSt_id (fun X I J h => by have hR := mo_told1 X I J; rw [mi_t h] at hR; exact hR))
    · exact bI_of hS (nI (xcap S.1)) (cSt_id (fun X I J h => by have hR := cl_told2 X I J; rw [ci_cap h] at hR; exact hR)) (mSt_id (fun X I J h => by have hR := mo_told2 X I J; rw [mi_cap h] at hR; exact hR))
    · exact bI_of hS (nI (xdr S.1)) (cSt_id (fun X I J h => by have hR := cl_told3 X I J; rw [ci_dr h] at hR; exact hR)) (mSt_id (fun X I J h => by have hR := mo_told3 X I J; rw [mi_dr h] at hR; exact hR))
    · exact bI_of hS (nI (xdy S.1)) (cSt_id (fun X I J h => by have hR := cl_told4 X I J; rw [ci_dy h] at hR; exact hR)) (mSt_id (fun X I J h => by have hR := mo_told4 X I J; rw [mi_dy h] at hR; exact hR))
    · exact bI_of hS (nI (xnl S.1)) (cSt_id (fun X I J h => by have hR := cl_told5 X I J; rw [ci_nl h] at hR; exact hR)) (mSt_id (fun X I J h => by have hR := mo_told5 X I J; rw [mi_nl h] at hR; exact hR))
    · exact bI_of hS (nI (xns S.1)) (cSt_id (fun X I J h => by have hR := cl_told6 X I J; rw [ci_ns h] at hR; exact hR)) (mSt_id (fun X I J h => by have hR := mo_told6 X I J; rw [mi_ns h] at hR; exact hR))
  · have hk : ∀ k, k ≤ 6 → ¬ q = nI k := fun k hk h => h6 ⟨k, hk, h⟩
    by_cases hq : q < 0
    · refine bI_of hS (-2) (cSt_id (fun X I J h => ?_)) (mSt_id (fun X I J h => mo_toldN X I J q hk (Int32.lt_trans hq (by decide))))
      have hR := cl_toldD X I J q hk
      rw [if_neg (fun h2 => absurd (Int32.le_trans h2 (Int32.le_of_lt hq)) (by decide)), has_neg (ng_div hq), if_neg (by simp)] at hR
      exact hR
    · obtain ⟨m, hm, rfl⟩ := nn_ex hq
      have hm7 : 7 ≤ m := Decidable.by_contra (fun h => hk m (by omega) rfl)
      by_cases h10 : m < 10
      · refine bI_of hS (-2) (cSt_id (fun X I J h => ?_)) (mSt_id (fun X I J h => mo_toldN X I J (nI m) hk (by rw [am_nlt _ _ hm (by omega)]; exact h10)))
        have hR := cl_toldD X I J (nI m) hk
        rw [if_neg (by rw [am_nle _ _ (by omega) hm]; omega), am_ndv _ _ hm (by omega) (by omega), show m / 10 = 0 by omega, has_neg (w := nI 0 - nI 1) (by decide), if_neg (by simp)] at hR
        exact hR
      · by_cases h100 : m < 100
        · refine bI_of hS (if sp_has (xt S.1) (nI (m / 10 - 1)) = true ∧ m % 10 ≤ 1 then (if m % 10 = 0 then nI (xso S.1 (m / 10 - 1)) else nI (xrh S.1 (m / 10 - 1))) else -2) (cSt_id (fun X I J h => ?_)) (mSt_id (fun X I J h => ?_))
          · have hR := cl_toldD X I J (nI m) hk
            rw [if_neg (by rw [am_nle _ _ (by omega) hm]; omega), am_ndv _ _ hm (by omega) (by omega), am_nrm _ _ hm (by omega) (by omega), nI_sub (by omega), ci_t h, ci_so h, ci_rh h, in_nI (by omega) (by omega) (by omega)] at hR
            by_cases hc : sp_has (xt S.1) (nI (m / 10 - 1)) = true ∧ m % 10 ≤ 1
            · obtain ⟨k, hk8, hke⟩ := has_ex hc.1
              have hke : m / 10 - 1 = k := (nI_eq (by omega) (by omega)).mp hke
              have hbt : sp_bt (xt S.1) (m / 10 - 1) = true := by rw [← sp_has_in (by omega)]; exact hc.1
              rw [if_pos ⟨hc.1, by simp; exact hc.2⟩, of_in _ _ _ (by omega), of_in _ _ _ (by omega), if_pos hbt, if_pos hbt] at hR
              rw [if_pos hc]
              by_cases h0 : m % 10 = 0
              · rw [if_pos (by rw [h0]; rfl)] at hR; rw [if_pos h0]; exact hR
              · rw [if_neg (nI_ne0 (by omega) (by omega))] at hR; rw [if_neg h0]; exact hR
            · rw [if_neg (fun h2 => hc ⟨h2.1, by have := h2.2; simp at this; exact this⟩)] at hR
              rw [if_neg hc]; exact hR
          · have hR := mo_toldW X I J m (by omega) h100 (xso S.1) (xrh S.1) (mi_so h) (mi_rh h)
            rw [mi_t h] at hR
            exact hR
        · refine bI_of hS (if (m - 100) / 10 < 5 ∧ m % 10 < 5 then nI (xfa S.1 (5 * ((m - 100) / 10) + m % 10)) else -2) (cSt_id (fun X I J h => ?_)) (mSt_id (fun X I J h => mo_toldF X I J m (by omega) hm (xfa S.1) (mi_fa h)))
          have hR := cl_toldD X I J (nI m) hk
          rw [if_pos (by rw [am_nle _ _ (by omega) hm]; omega), nI_sub (by omega), am_ndv _ _ (by omega) (by omega) (by omega), am_nrm _ _ (by omega) (by omega) (by omega), ci_fa h, lt_dec (by omega) (by omega), lt_dec (by omega) (by omega), show (m - 100) % 10 = m % 10 by omega] at hR
          by_cases hc : (m - 100) / 10 < 5 ∧ m % 10 < 5
          · rw [if_pos ⟨decide_eq_true hc.1, decide_eq_true hc.2⟩] at hR
            unfold sp_btw at hR
            rw [lt_dec (by omega) (by omega), lt_dec (by omega) (by omega), decide_eq_true hc.1, decide_eq_true hc.2, if_pos (show (true && true) = true from rfl), nI_clamp (by omega), nI_clamp (by omega), nR_k, show (m - 100) / 10 * 5 + m % 10 = 5 * ((m - 100) / 10) + m % 10 by omega] at hR
            rw [if_pos hc]; exact hR
          · rw [if_neg (fun h2 => hc ⟨of_decide_eq_true h2.1, of_decide_eq_true h2.2⟩)] at hR
            rw [if_neg hc]; exact hR
