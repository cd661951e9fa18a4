/-! BOTH, call by call: what is sought; what is leased -/
theorem ci_st {I : Nat → Nat → Int32} {S : gS} (h : cInv I S) : cst I (xt S.1) (xso S.1) (xme S.1) (xrh S.1) (xre S.1) (xho S.1) (xfa S.1) := ⟨ci_t h, ci_so h, ci_me h, ci_rh h, ci_re h, ci_ho h, ci_fa h⟩
theorem b_misprints {D : Nat} {S : gS} (hS : sOK D S) (sp q : Int32) : bI E_X9_misprints E_X10_misprints [.int sp, .int q] D S := by
  have hd := so_d hS
  by_cases hb : sp_spk sp = true ∧ sp_in q (nI 0) (nI 3) = true ∧ sp_sf (xt S.1) (nR (xso S.1)) (nR S.2.2.1) S.2.1 = -6
  · obtain ⟨q1, q2, q3⟩ := hb
    obtain ⟨k, hk, rfl⟩ := spk_ex q1
    obtain ⟨q, -, hq, rfl⟩ := in_ex (by omega) (by omega) q2
    obtain ⟨hn, hsg⟩ := sf_ok (so_n hS) (so_g hS) q3
    generalize hA : mmF (mmO (xt S.1) (xso S.1) S.2.2.1) (mmW (xre S.1) (xho S.1) (xrh S.1) S.2.2.1 k S.2.1) S.2.1 = A
    refine bI_of hS (if q = 0 then nI A.1 else if A.1 = 0 then -6 else if q = 1 then A.2.2 / nI 10 else if q = 2 then A.2.2 - A.2.2 / nI 10 * nI 10 else nI A.2.1) (cSt_z (fun X I J h => ?_)) (mSt_r (fun X I J h => ?_))
    · obtain ⟨I', hR, h2⟩ := cl_misY X I J (nI k) q S.2.1 (by omega) (xrh S.1) (so_rh hS) (ci_n h) (fun j => by rw [ci_rh h]; rfl) (ci_z h) q1 hq (by rw [ci_t h, ci_so h, ci_sg h]; exact q3)
      have hm := mis_same (ci_st h) (so_b hS) S.2.2.1 (ci_sg h) S.2.1 (by omega) (fun j hj => ⟨(hsg j hj).1, (hsg j hj).2.1, (hsg j hj).2.2.1⟩) k hk
      rw [hA] at hm
      obtain ⟨m1, m2, m3⟩ := hm
      refine ⟨I', J, ?_, h2⟩
      rw [← m1]
      by_cases h0 : (mall (mok I) (mcst I (xrh S.1) S.2.1 (nI k)) S.2.1).1 = 0
      · rw [if_pos h0] at hR ⊢; exact hR
      · obtain ⟨i, w, hi, hw, e1, e2, e3, -, e5⟩ := m3 (by omega)
        rw [if_neg h0, e1, e2, e3] at hR
        rw [if_neg h0, e5, am_ndv _ _ (by omega) (by omega) (by omega), am_nrm _ _ (by omega) (by omega) (by omega), show (10 * i + w) / 10 = i by omega, show (10 * i + w) % 10 = w by omega]
        exact hR
    · exact mo_misY X I J (xt S.1) (xso S.1) (xme S.1) (xrh S.1) (xre S.1) (xho S.1) (xfa S.1) S.2.2.1 k q S.2.1 hk hn hq (mi_st h) (so_b hS) (mi_n h) (mi_sg h) q3 (fun j hj => ⟨(hsg j hj).1, (hsg j hj).2.1⟩) A hA
  · refine bI_of hS (if sp_spk sp = false then -1 else if sp_in q (nI 0) (nI 3) = false then -2 else -5) (cSt_id (fun X I J h => ?_)) (mSt_id (fun X I J h => ?_))
    · exact cl_misN X I J sp q S.2.1 (so_n hS) (ci_n h) (by rw [ci_t h, ci_so h, ci_sg h]; exact hb)
    · have hR := mo_misN X I J sp q S.2.1 (so_n hS) (mi_n h) (by rw [mi_t h, mi_so h, mi_sg h, ← spk_in]; exact hb)
      rw [← spk_in] at hR
      exact hR
theorem b_let {D : Nat} {S : gS} (hS : sOK D S) (t q p : Int32) : bL E_X9_let E_X10_let [.int t, .int q, .int p] D S := by
  have hl := so_l hS
  by_cases hb : sp_in t (nI 0) (nI 10) = true ∧ sp_in q (nI 0) (nI 2) = true ∧ sp_in p (nI 0) (nI 1) = true ∧ ¬ (q = 0 ∧ ¬ sp_sf (xt S.1) (nR (xso S.1)) (nR S.2.2.1) S.2.1 = -6)
  · obtain ⟨q1, q2, q3, q4⟩ := hb
    obtain ⟨t, -, ht, rfl⟩ := in_ex (by omega) (by omega) q1
    obtain ⟨q, -, hq, rfl⟩ := in_ex (by omega) (by omega) q2
    obtain ⟨p, -, hp, rfl⟩ := in_ex (by omega) (by omega) q3
    have hq0 : q = 0 → sp_sf (xt S.1) (nR (xso S.1)) (nR S.2.2.1) S.2.1 = -6 := fun h => Decidable.by_contra (fun h2 => q4 ⟨by rw [h]; rfl, h2⟩)
    have hpad : q = 0 → pdw (nR S.2.2.1) S.2.1 = wset (nR (fun k => S.2.2.1 k - 97)) S.2.1 := fun h => by
      obtain ⟨hn, hsg⟩ := sf_ok (so_n hS) (so_g hS) (hq0 h)
      exact pdw_eq _ _ (by omega) (fun j hj => ⟨(hsg j hj).1, (hsg j hj).2.1⟩)
    generalize hu : upC t (xt S.1) (csC q (pdw (nR S.2.2.1) S.2.1) (sp_wos (xt S.1) (nR (xso S.1)) (nI 0) 8) (sp_wos (xt S.1) (nR (xso S.1)) (nI 1) 8) (lset S.1) (xnl S.1)) 256 = u
    have hu8 : u ≤ 100000000 := by rw [← hu]; exact upC_all t ht _ _
    refine bL_of hS (if p = 0 then lN (u / Nat.gcd 100000000 u) else lN (100000000 / Nat.gcd 100000000 u)) (cSt_z (fun X I J h => ?_)) (mSt_r (fun X I J h => ?_))
    · refine cl_letY X I J t q p S.2.1 (xnl S.1) (so_n hS) hl.1 ht hq hp (ci_n h) (ci_nl h) (ci_z h) (by rw [ci_t h, ci_so h, ci_sg h]; exact fun h2 => q4 ⟨by rw [h2.1]; rfl, h2.2⟩) u ?_
      rw [ci_t h, ci_so h, ci_sg h, ← hu, let_same t ht (xt S.1) (so_t hS) q _ (xso S.1) (so_so hS) (I 11) (lset S.1) (xnl S.1) (ci_l h), let_same t ht (xt S.1) (so_t hS) q _ (xso S.1) (so_so hS) (lset S.1) (lset S.1) (xnl S.1) (fun _ _ => rfl)]
    · refine mo_letY X I J t q p S.2.1 (xnl S.1) (so_n hS) hl.1 ht hq hp (xt S.1) (xso S.1) (xll S.1) S.2.2.1 (so_so hS) (mi_t h) (mi_so h) (mi_n h) (mi_nl h) (so_ll hS h) (mi_sg h) (fun h0 => ⟨by have := (sf_ok (so_n hS) (so_g hS) (hq0 h0)).1; omega, hq0 h0⟩) (fun h0 k hk => ⟨((sf_ok (so_n hS) (so_g hS) (hq0 h0)).2 k hk).1, ((sf_ok (so_n hS) (so_g hS) (hq0 h0)).2 k hk).2.1⟩) u hu8 ?_
      rw [← hu, let_same t ht (xt S.1) (so_t hS) q _ (xso S.1) (so_so hS) (lset S.1) (fun i => wset (fun k => I 69 (5 * i + k)) (xll S.1 i)) (xnl S.1) (fun i hi => (so_lw h i hi).symm)]
      by_cases h0 : q = 0
      · rw [hpad h0]
      · unfold csM; simp only [h0, if_false]
  · refine bL_of hS (if sp_in t (nI 0) (nI 10) = true ∧ sp_in q (nI 0) (nI 2) = true ∧ sp_in p (nI 0) (nI 1) = true then -1000000000000000005 else -1000000000000000002) (cSt_id (fun X I J h => ?_)) (mSt_id (fun X I J h => ?_))
    · exact cl_letN X I J t q p S.2.1 (so_n hS) (ci_n h) (by rw [ci_t h, ci_so h, ci_sg h]; exact hb)
    · exact mo_letN X I J t q p S.2.1 (so_n hS) (mi_n h) (by rw [mi_t h, mi_so h, mi_sg h]; exact hb)
theorem dPlay_ok (c : dC) (hc : cOK c) (sg : Nat → Nat) (hsg : ∀ k, sg k < 1000) (n : Nat) (hv : ∀ i, i < n → sp_std (nR sg i) (sp_stg (nR sg) i) = true) (he : sp_stg (nR sg) n = 0) : ∀ f p ac s, sp_stg (nR sg) p = 0 → dOK s → dZ s → (dPlay c sg n f p ac s).2.1 ≤ ac + f ∧ dOK (dPlay c sg n f p ac s).2.2.2 ∧ dZ (dPlay c sg n f p ac s).2.2.2 ∧ (dPlay c sg n f p ac s).2.2.2.2.2.2 ≤ s.2.2.2 + f
  | 0, p, ac, s, _, h1, h2 => ⟨by simp [dPlay], h1, h2, by simp [dPlay]⟩
  | f + 1, p, ac, s, h0, h1, h2 => by
    rw [dPlay]
    by_cases hp : p < n
    · rw [if_pos hp]
      by_cases h46 : sg p = 46
      · rw [if_pos h46]
        obtain ⟨a1, a2, a3, a4⟩ := dPlay_ok c hc sg hsg n hv he f (p + 1) (ac + 1) (dPass c s) (lz_dot h46) (dOK_pass hc h1) (dZ_pass h2)
        rw [dPass_dy] at a4
        exact ⟨by omega, a2, a3, by omega⟩
      · rw [if_neg h46]
        split
        · rename_i hrs
          obtain ⟨b1, b2, b3, b6, b7⟩ := lz_act hsg hv he hp h0 h46
          have hk8 : sg (p + 1) - 97 < 8 := by omega
          obtain ⟨r1, r2, r3⟩ := rs0 hk8 hrs
          have l99 := h1.1 (sg (p + 1) - 97)
          have ha1 : nI (sg (p + 2)) = nI 94 → s.1 (sg (p + 1) - 97) < 99 := fun h => by
            have : ¬ nI 99 ≤ nR s.1 (sg (p + 1) - 97) := fun h2 => r2 ⟨h, h2⟩
            rw [nR_k, am_nle _ _ (by omega) (by omega)] at this
            omega
          obtain ⟨a1, a2, a3, a4⟩ := dPlay_ok c hc sg hsg n hv he f (p + 3) (ac + 1) (dAct s (sg p - 48) (sg (p + 1) - 97) (nI (sg (p + 2)))) b7 (dOK_act h1 (by omega) ha1) (dZ_act h2 hk8 _)
          rw [dAct_dy] at a4
          exact ⟨by omega, a2, a3, by omega⟩
        · exact ⟨by simp, h1, h2, by simp⟩
    · rw [if_neg hp]
      exact ⟨by simp, h1, h2, by simp⟩
theorem play_ok {D : Nat} {S : gS} (hS : sOK D S) (h : sp_lf (nR S.2.2.1) S.2.1 = -6) : (dPlay S.1.1 S.2.2.1 S.2.1 60 0 0 S.1.2.2.1).2.1 ≤ 60 ∧ dOK (dPlay S.1.1 S.2.2.1 S.2.1 60 0 0 S.1.2.2.1).2.2.2 ∧ dZ (dPlay S.1.1 S.2.2.1 S.2.1 60 0 0 S.1.2.2.1).2.2.2 ∧ (dPlay S.1.1 S.2.2.1 S.2.1 60 0 0 S.1.2.2.1).2.2.2.2.2.2 ≤ S.1.2.2.1.2.2.2 + 60 := by
  obtain ⟨hv, he⟩ := lz_of (so_n hS) h
  have h1 := dPlay_ok S.1.1 (so_c hS) S.2.2.1 (fun k => by have := so_g hS k; omega) S.2.1 hv he 60 0 0 S.1.2.2.1 rfl (so_d hS) (so_z hS)
  exact ⟨by omega, h1.2.1, h1.2.2.1, h1.2.2.2⟩
theorem b_judge {D : Nat} {S : gS} (hS : sOK D S) (hD : D < 99000) (q : Int32) : bI E_X9_judge E_X10_judge [.int q] D S := by
  have hd := so_dy hS
  have hd2 : S.1.2.2.1.2.2.2 < 100000 := by show xdy S.1 < _; omega
  have hsg : ∀ k, S.2.2.1 k < 1000 := fun k => by have := so_g hS k; omega
  by_cases hb : sp_in q (nI 0) (nI 1) = true ∧ sp_lf (nR S.2.2.1) S.2.1 = -6
  · obtain ⟨q1, q2⟩ := hb
    obtain ⟨q, -, hq, rfl⟩ := in_ex (by omega) (by omega) q1
    have hp := play_ok hS q2
    refine bI_of hS (if (dPlay S.1.1 S.2.2.1 S.2.1 60 0 0 S.1.2.2.1).1 = true then -6 else if q = 0 then nI (dPlay S.1.1 S.2.2.1 S.2.1 60 0 0 S.1.2.2.1).2.1 else (dPlay S.1.1 S.2.2.1 S.2.1 60 0 0 S.1.2.2.1).2.2.1) (cSt_z (fun X I J h => ?_)) (mSt_w (fun X I J h => ?_))
    · obtain ⟨I', hR, h2⟩ := cl_judgeY X I J q hq S.1.1 S.1.2.2.1 S.2.2.1 S.2.1 (so_n hS) (ci_c h) (so_c hS) (ci_r h) (so_d hS) hd2 (ci_z h) (ci_n h) (ci_sg h) hsg q2
      exact ⟨I', J, hR, h2⟩
    · exact mo_judgeY X I J q hq S.1.1 S.1.2.2.1 S.2.2.1 S.2.1 (so_n hS) (mi_c h) (so_c hS) (so_d hS) (so_z hS) hd2 (mi_r h) (mi_z h) (mi_n h) (mi_sg h) hsg q2 (by omega)
  · exact bI_of hS (if sp_in q (nI 0) (nI 1) = false then -2 else -5) (cSt_id (fun X I J h => cl_judgeN X I J q S.2.1 (so_n hS) (ci_n h) (by rw [ci_sg h]; exact hb))) (mSt_id (fun X I J h => mo_judgeN X I J q S.2.1 (so_n hS) (mi_n h) (by rw [mi_sg h]; exact hb)))
theorem b_behind {D : Nat} {S : gS} (hS : sOK D S) (hD : D < 99000) (w q : Int32) : bI E_X9_behind E_X10_behind [.int w, .int q] D S := by
  have hd := so_dy hS
  have hd2 : S.1.2.2.1.2.2.2 < 100000 := by show xdy S.1 < _; omega
  have hsg : ∀ k, S.2.2.1 k < 1000 := fun k => by have := so_g hS k; omega
  by_cases hb : sp_has (xt S.1) w = true ∧ sp_in q (nI 0) (nI 2) = true ∧ sp_lf (nR S.2.2.1) S.2.1 = -6
  · obtain ⟨q1, q2, q3⟩ := hb
    obtain ⟨w, hw, rfl⟩ := has_ex q1
    have hp := play_ok hS q3
    refine bI_of hS (if (dPlay S.1.1 S.2.2.1 S.2.1 60 0 0 S.1.2.2.1).1 = true then pNat (dPlay S.1.1 S.2.2.1 S.2.1 60 0 0 S.1.2.2.1).2.2.2 w q else -5) (cSt_z (fun X I J h => ?_)) (mSt_w (fun X I J h => ?_))
    · obtain ⟨I', hR, h2⟩ := cl_behindY X I J (nI w) q S.1.1 S.1.2.2.1 S.2.2.1 S.2.1 (so_n hS) (ci_c h) (so_c hS) (ci_r h) (so_d hS) hd2 (ci_z h) (ci_n h) (ci_sg h) hsg q3 q1 q2
      rw [prop_eq S.1.1.1 _ w q hw q1] at hR
      exact ⟨I', J, hR, h2⟩
    · exact mo_behindY X I J w hw q S.1.1 S.1.2.2.1 S.2.2.1 S.2.1 (so_n hS) (mi_c h) (so_c hS) (so_d hS) (so_z hS) hd2 (mi_r h) (mi_z h) (mi_n h) (mi_sg h) hsg q3 (by omega) q1 q2
  · refine bI_of hS (if sp_has (xt S.1) w = false then -1 else if sp_in q (nI 0) (nI 2) = false then -2 else -5) (cSt_id (fun X I J h => ?_)) (mSt_id (fun X I J h => ?_))
    · have hR := cl_behindN X I J w q S.2.1 (so_n hS) (ci_n h) (by rw [ci_t h, ci_sg h]; exact hb)
      rw [ci_t h] at hR
      exact hR
    · have hR := mo_behindN X I J w q S.2.1 (so_n hS) (mi_n h) (by rw [mi_t h, mi_sg h]; exact hb)
      rw [mi_t h] at hR
      exact hR
def st_done (S : gS) (s : dS) : gS := ((S.1.1, S.1.2.1, s, S.1.2.2.2), 0, S.2.2)
theorem b_done {D : Nat} {S : gS} (hS : sOK D S) (hD : D < 99000) : bI E_X9_done E_X10_done [] D S := by
  have hd := so_dy hS
  have hd2 : S.1.2.2.1.2.2.2 < 100000 := by show xdy S.1 < _; omega
  have hsg : ∀ k, S.2.2.1 k < 1000 := fun k => by have := so_g hS k; omega
  by_cases hb : sp_lf (nR S.2.2.1) S.2.1 = -6
  · have hp := play_ok hS hb
    generalize hA : dPlay S.1.1 S.2.2.1 S.2.1 60 0 0 S.1.2.2.1 = A at hp
    cases ha : A.1
    · refine bI_of hS (-5) (cSt_z (fun X I J h => ?_)) (mSt_w (fun X I J h => ?_))
      · obtain ⟨I', hR, h2⟩ := cl_doneF X I J S.1.1 S.1.2.2.1 S.2.2.1 S.2.1 (so_n hS) (ci_c h) (so_c hS) (ci_r h) (so_d hS) hd2 (ci_z h) (ci_n h) (ci_sg h) hsg hb (by rw [hA]; exact ha)
        exact ⟨I', J, hR, h2⟩
      · exact mo_doneF X I J S.1.1 S.1.2.2.1 S.2.2.1 S.2.1 (so_n hS) (mi_c h) (so_c hS) (so_d hS) (so_z hS) hd2 (mi_r h) (mi_z h) (mi_n h) (mi_sg h) hsg hb (by rw [hA]; omega) (by rw [hA]; exact ha)
    · refine ⟨nI A.2.1, st_done S A.2.2.2, fun X I J h => ?_, fun X I J h => ?_, ?_⟩
      · obtain ⟨I1, ht, hR⟩ := cl_doneY X I J S.1.1 S.1.2.2.1 S.2.2.1 S.2.1 (so_n hS) (ci_c h) (so_c hS) (ci_r h) (so_d hS) hd2 (ci_z h) (ci_n h) (ci_sg h) hsg hb (by rw [hA]; exact ha)
        rw [hA] at hR ht
        obtain ⟨t0, ⟨t1, t2, t3, t4, t5, t6⟩, ⟨t7, t8, t9, t10, t11, t12⟩, ⟨t13, t14, t15⟩, tz⟩ := ht
        have hc : ∀ a, 13 < a → va_up (am_cpy I1 3 14) 1 (upd (I 1) 1 (nI 0)) a = I1 a := fun a ha => by
          rw [up_n _ _ _ _ (by omega)]
          unfold am_cpy
          rw [if_neg (by omega), if_neg (by omega), if_neg (by omega), if_neg (by omega), if_neg (by omega), if_neg (by omega), if_neg (by omega), if_neg (by omega), if_neg (by omega), if_neg (by omega)]
        refine ⟨_, J, hR, ?_, fun a ha => by rw [hc a (by omega)]; exact t0 a (by omega) (by omega) (by omega)⟩
        refine cInv_m h ⟨⟨?_, ?_, ?_, ?_, ?_, ?_⟩, ⟨?_, ?_, ?_, ?_, ?_, ?_⟩, fun i hi => ?_, fun k hk => ?_⟩ (by rw [up_s, ud_s]; rfl) ?_ rfl (fun a a1 a2 => by rw [hc a (by omega)]; exact t0 a (by omega) (by omega) (by omega)) ⟨?_, ?_⟩
        · rw [up_n _ _ _ _ (by omega)]; simp only [am_cpy, if_true]; simp [ud_s, ud_n]; rw [t1]; exact ci_t (S := S) h
        · rw [up_n _ _ _ _ (by omega)]; simp only [am_cpy, if_true]; simp [ud_s, ud_n]; rw [t2]; exact ci_cap (S := S) h
        · rw [up_n _ _ _ _ (by omega)]; simp only [am_cpy, if_true]; simp [ud_s, ud_n]; rw [t3]; exact ci_dr (S := S) h
        · rw [up_n _ _ _ _ (by omega)]; simp only [am_cpy, if_true]; simp [ud_s, ud_n]; rw [t6]; rfl
        · rw [up_n _ _ _ _ (by omega)]; simp only [am_cpy, if_true]; simp [ud_s, ud_n]; rw [t4]; exact ci_nl (S := S) h
        · rw [up_n _ _ _ _ (by omega)]; simp only [am_cpy, if_true]; simp [ud_s, ud_n]; rw [t5]; exact ci_ns (S := S) h
        · rw [up_n _ _ _ _ (by omega)]; exact t7.trans (ci_so (S := S) h)
        · rw [up_n _ _ _ _ (by omega)]; exact t13
        · rw [up_n _ _ _ _ (by omega)]; exact t8.trans (ci_rh (S := S) h)
        · rw [up_n _ _ _ _ (by omega)]; exact t14
        · rw [up_n _ _ _ _ (by omega)]; exact t15
        · rw [up_n _ _ _ _ (by omega)]; exact t9.trans (ci_fa (S := S) h)
        · rw [up_n _ _ _ _ (by omega)]; exact (congrFun t10 i).trans (ci_l (S := S) h i hi)
        · rw [up_n _ _ _ _ (by omega), up_n _ _ _ _ (by omega)]; exact ⟨(congrFun t11 k).trans (ci_s (S := S) h k hk).1, (congrFun t12 k).trans (ci_s (S := S) h k hk).2⟩
        · rw [up_n _ _ _ _ (by omega)]; exact (t0 2 (by omega) (by omega) (by omega)).trans (ci_sg (S := S) h)
        · rw [hc 53 (by omega), t0 53 (by omega) (by omega) (by omega)]; exact (ci_z (S := S) h).1
        · rw [hc 20 (by omega)]; exact tz
      · obtain ⟨I', hR, f1, f2, f3, f4, f5⟩ := mo_doneY X I J S.1.1 S.1.2.2.1 S.2.2.1 S.2.1 (so_n hS) (mi_c h) (so_c hS) (so_d hS) (so_z hS) hd2 (mi_r h) (mi_z h) (mi_n h) (mi_sg h) hsg hb (by rw [hA]; omega) (by rw [hA]; exact ha)
        rw [hA] at hR f3
        have e : ∀ a, a ≠ 62 → a ≠ 64 → a ≠ 66 → a ≠ 67 → ¬ (73 ≤ a ∧ a ≤ 79) → I' a = I a := f1
        have g : ∀ j, j ≠ 9 → j < 15 → I' 62 j = I 62 j := fun j h1 h2 => f2 j h1 (by omega) (by omega) (by omega) (by omega) (by omega)
        refine ⟨I', J, hR, ⟨⟨⟨?_, ?_, ?_, ?_, ?_, ?_⟩, ⟨?_, ?_, ?_, ?_, ?_, ?_⟩, ?_, ?_⟩, ⟨f4, ?_⟩, ?_, f5⟩, fun a ha => e a (by omega) (by omega) (by omega) (by omega) (by omega)⟩
        · rw [g 0 (by omega) (by omega)]; exact mi_t (S := S) h
        · rw [g 7 (by omega) (by omega)]; exact mi_cap (S := S) h
        · rw [g 8 (by omega) (by omega)]; exact mi_dr (S := S) h
        · exact f3.2.2.2
        · rw [g 10 (by omega) (by omega)]; exact mi_nl (S := S) h
        · rw [g 13 (by omega) (by omega)]; exact mi_ns (S := S) h
        · rw [e 63 (by omega) (by omega) (by omega) (by omega) (by omega)]; exact mi_so (S := S) h
        · exact f3.2.2.1
        · rw [e 65 (by omega) (by omega) (by omega) (by omega) (by omega)]; exact mi_rh (S := S) h
        · exact f3.1
        · exact f3.2.1
        · rw [e 68 (by omega) (by omega) (by omega) (by omega) (by omega)]; exact mi_fa (S := S) h
        · rw [e 69 (by omega) (by omega) (by omega) (by omega) (by omega), e 70 (by omega) (by omega) (by omega) (by omega) (by omega)]; exact mi_l (S := S) h
        · rw [e 71 (by omega) (by omega) (by omega) (by omega) (by omega)]; exact mi_s (S := S) h
        · rw [e 72 (by omega) (by omega) (by omega) (by omega) (by omega)]; exact mi_sg (S := S) h
        · rw [e 80 (by omega) (by omega) (by omega) (by omega) (by omega), e 81 (by omega) (by omega) (by omega) (by omega) (by omega)]; exact h.2.2.1
      · obtain ⟨⟨g1, g2, g3, g4, g5⟩, g6, g7⟩ := hS
        have hd : S.1.2.2.1.2.2.2 ≤ D := hd
        refine ⟨⟨⟨g1.1, g1.2.1, g1.2.2.1, ⟨hp.2.1, ?_⟩, ⟨fun k hk => ?_, g1.2.2.2.2.1.2⟩, g1.2.2.2.2.2⟩, Nat.zero_le _, g3, fun k hk => absurd hk (Nat.not_lt_zero _), fun j B hB => rOK_mono (g5 j B hB) (by omega)⟩, g6, g7⟩
        · show A.2.2.2.2.2.2 ≤ _; omega
        · have a1 := g1.2.2.2.2.1.1 k hk
          have a2 := hp.2.2.1 k hk
          exact ⟨a1.1, a1.2.1, a2.1, a2.2.1, a2.2.2⟩
  · exact bI_of hS (-5) (cSt_id (fun X I J h => cl_doneN X I J S.2.1 (so_n hS) (ci_n h) (by rw [ci_sg h]; exact hb))) (mSt_id (fun X I J h => mo_doneN X I J S.2.1 (so_n hS) (mi_n h) (by rw [mi_sg h]; exact hb)))
