/-! BOTH, call by call: SENTENCES -/
theorem sf_ok {t : Int32} {so sg : Nat → Nat} {n : Nat} (hn : n ≤ 60) (hg : ∀ k, sg k < 127) (h : sp_sf t (nR so) (nR sg) n = -6) : (n = 3 ∨ n = 5) ∧ (∀ k, k < n → 97 ≤ sg k ∧ sg k < 105 ∧ bt t (sg k - 97) = true ∧ sp_ios t (nR so) (nI (sg k - 97)) (sp_srt (nI k)) = true) := by
  have h6 : ∀ m, m ≤ 60 → ¬ nI m = -6 := by decide +kernel
  unfold sp_sf at h
  split at h
  · exact absurd h (h6 _ (by omega))
  · split at h
    · rename_i h1 h2
      refine ⟨h2, fun k hk => ?_⟩
      have hf := sp_first_lt (p := sp_sb t (nR so) (nR sg)) (n := n) (by have := sp_first_le (sp_sb t (nR so) (nR sg)) n; omega) k hk
      unfold sp_sb at hf
      rw [Bool.or_eq_false_iff, Bool.not_eq_false', nR_k] at hf
      have hi := hf.2
      have hh : sp_has t (nI (sg k) - nI 97) = true := by
        unfold sp_ios at hi
        rw [Bool.and_eq_true] at hi
        exact hi.1
      obtain ⟨w, hw, hwe⟩ := sp_has_k hh
      have he : sg k = w + 97 := by
        have h3 : nI (sg k) = nI (w + 97) := by
          rw [← nI_add, ← hwe, Int32.sub_add_cancel]
        exact (nI_eq (by have := hg k; omega) (by omega)).mp h3
      rw [hwe] at hh hi
      rw [sp_has_in hw, bt_sp (by omega)] at hh
      have hwk : sg k - 97 = w := by omega
      rw [hwk]
      exact ⟨by omega, by omega, hh, hi⟩
    · exact absurd h (h6 _ hn)
theorem sf_wf {t : Int32} {so sg : Nat → Nat} {n : Nat} (hn : n ≤ 60) (hg : ∀ k, sg k < 127) (h : sp_sf t (nR so) (nR sg) n = -6) : wfok t (nR so) n := by
  intro p hp
  obtain ⟨h1, h2, h3, h4⟩ := (sf_ok hn hg h).2 p hp
  apply Decidable.by_contra
  intro h5
  have h6 := (fos_p t (nR so) (sp_srt (nI p)) 8 0 rfl).1 (sg p - 97) (by omega) (by
    have : wf t (nR so) p 0 = fos t (nR so) (sp_srt (nI p)) 8 0 := rfl
    omega) (by omega)
  rw [h4] at h6
  cases h6
theorem spk_ex {x : Int32} (h : sp_spk x = true) : ∃ k, k ≤ 4 ∧ x = nI k := by
  rw [spk_in] at h
  obtain ⟨k, -, h1, h2⟩ := in_ex (by omega) (by omega) h
  exact ⟨k, h1, h2⟩
theorem b_price {D : Nat} {S : gS} (hS : sOK D S) (sp : Int32) : bI E_X9_price E_X10_price [.int sp] D S := by
  have hd := so_d hS
  by_cases hb : sp_spk sp = true ∧ sp_sf (xt S.1) (nR (xso S.1)) (nR S.2.2.1) S.2.1 = -6
  · obtain ⟨q1, q2⟩ := hb
    obtain ⟨k, hk, rfl⟩ := spk_ex q1
    obtain ⟨hn, hsg⟩ := sf_ok (so_n hS) (so_g hS) q2
    have hw := wset_t (xt S.1) (fun k => S.2.2.1 k - 97) S.2.1 (fun p hp => ⟨by have := hsg p hp; omega, (hsg p hp).2.2.1⟩)
    refine bI_of hS (nI (prc (osp (wset (nR (fun k => S.2.2.1 k - 97)) S.2.1) (xre S.1) (xho S.1) k) (xrh S.1) (xre S.1) (xho S.1) 4 8)) (cSt_z (fun X I J h => ?_)) (mSt_r (fun X I J h => ?_))
    · obtain ⟨g, hR⟩ := cl_price X I J (nI k) S.2.1 (so_n hS) (xrh S.1) (so_rh hS) (ci_n h) (fun j => by rw [ci_rh h]; rfl)
      rw [ci_t h, ci_so h, ci_sg h, ci_re h, ci_ho h, q1, q2, if_neg (by simp), if_pos rfl, pdw_eq _ _ (by omega) (fun j hj => ⟨(hsg j hj).1, (hsg j hj).2.1⟩)] at hR
      rw [pdc_prc (xt S.1) _ (nI 4) _ (xrh S.1) (xre S.1) (xho S.1) 4 (so_rh hS) hd.1 hd.2.1 (sub8_cost _ _ _ _ _) (fun j hj => sub_ow (xt S.1) _ (xre S.1) (xho S.1) hd.1 hd.2.1 k hk hw.1 j hj) (Or.inl ⟨rfl, rfl⟩)] at hR
      exact ⟨_, _, hR, fun a ha => up_n _ _ _ _ (by omega), zInv_c (ci_z h) (up_n _ _ _ _ (by omega)) (up_n _ _ _ _ (by omega))⟩
    · exact mo_priceY X I J (xt S.1) (xso S.1) (xme S.1) (xrh S.1) (xre S.1) (xho S.1) (xfa S.1) S.2.2.1 k S.2.1 hk (by omega) (mi_st h) (so_b hS) (mi_n h) (mi_sg h) q2 (fun j hj => ⟨(hsg j hj).1, (hsg j hj).2.1⟩)
  · refine bI_of hS (if sp_spk sp = false then -1 else -5) (cSt_z (fun X I J h => ?_)) (mSt_id (fun X I J h => ?_))
    · obtain ⟨g, hR⟩ := cl_price X I J sp S.2.1 (so_n hS) (xrh S.1) (so_rh hS) (ci_n h) (fun j => by rw [ci_rh h]; rfl)
      rw [ci_t h, ci_so h, ci_sg h] at hR
      refine ⟨va_up I 50 g, J, ?_, fun a ha => up_n _ _ _ _ (by omega), zInv_c (ci_z h) (up_n _ _ _ _ (by omega)) (up_n _ _ _ _ (by omega))⟩
      cases q1 : sp_spk sp
      · rw [q1] at hR; exact hR
      · rw [q1, if_neg (by simp), if_neg (fun q2 => hb ⟨q1, q2⟩)] at hR; exact hR
    · have hR := mo_priceN X I J sp S.2.1 (so_n hS) (mi_n h) (by rw [mi_t h, mi_so h, mi_sg h, ← spk_in]; exact hb)
      rw [← spk_in] at hR
      exact hR
theorem b_gets {D : Nat} {S : gS} (hS : sOK D S) (sp f : Int32) : bI E_X9_gets E_X10_gets [.int sp, .int f] D S := by
  have hd := so_d hS
  by_cases hb : sp_spk sp = true ∧ sp_lt 4 f = true ∧ sp_sf (xt S.1) (nR (xso S.1)) (nR S.2.2.1) S.2.1 = -6
  · obtain ⟨q1, q3, q2⟩ := hb
    obtain ⟨k, hk, rfl⟩ := spk_ex q1
    obtain ⟨f, hf, rfl⟩ := lt_ex (by omega) q3
    obtain ⟨hn, hsg⟩ := sf_ok (so_n hS) (so_g hS) q2
    have hw := wset_t (xt S.1) (fun k => S.2.2.1 k - 97) S.2.1 (fun p hp => ⟨by have := hsg p hp; omega, (hsg p hp).2.2.1⟩)
    refine bI_of hS (nI (prc (osp (wset (nR (fun k => S.2.2.1 k - 97)) S.2.1) (xre S.1) (xho S.1) k) (xrh S.1) (xre S.1) (xho S.1) f 8)) (cSt_z (fun X I J h => ?_)) (mSt_r (fun X I J h => ?_))
    · obtain ⟨g, hR⟩ := cl_gets X I J (nI k) (nI f) S.2.1 (so_n hS) (xrh S.1) (so_rh hS) (ci_n h) (fun j => by rw [ci_rh h]; rfl)
      rw [ci_t h, ci_so h, ci_sg h, ci_re h, ci_ho h, q1, q2, q3, if_neg (by simp), if_pos rfl, pdw_eq _ _ (by omega) (fun j hj => ⟨(hsg j hj).1, (hsg j hj).2.1⟩)] at hR
      rw [pdc_prc (xt S.1) _ (nI f) _ (xrh S.1) (xre S.1) (xho S.1) f (so_rh hS) hd.1 hd.2.1 (sub8_cost _ _ _ _ _) (fun j hj => sub_ow (xt S.1) _ (xre S.1) (xho S.1) hd.1 hd.2.1 k hk hw.1 j hj) (Or.inr ⟨rfl, hf⟩)] at hR
      exact ⟨_, _, hR, fun a ha => up_n _ _ _ _ (by omega), zInv_c (ci_z h) (up_n _ _ _ _ (by omega)) (up_n _ _ _ _ (by omega))⟩
    · exact mo_getsY X I J (xt S.1) (xso S.1) (xme S.1) (xrh S.1) (xre S.1) (xho S.1) (xfa S.1) S.2.2.1 k f S.2.1 hk hf (by omega) (mi_st h) (so_b hS) (mi_n h) (mi_sg h) q2 (fun j hj => ⟨(hsg j hj).1, (hsg j hj).2.1⟩)
  · refine bI_of hS (if sp_spk sp = false ∨ sp_lt 4 f = false then -1 else -5) (cSt_z (fun X I J h => ?_)) (mSt_id (fun X I J h => ?_))
    · obtain ⟨g, hR⟩ := cl_gets X I J sp f S.2.1 (so_n hS) (xrh S.1) (so_rh hS) (ci_n h) (fun j => by rw [ci_rh h]; rfl)
      rw [ci_t h, ci_so h, ci_sg h] at hR
      refine ⟨va_up I 50 g, J, ?_, fun a ha => up_n _ _ _ _ (by omega), zInv_c (ci_z h) (up_n _ _ _ _ (by omega)) (up_n _ _ _ _ (by omega))⟩
      by_cases hc : sp_spk sp = false ∨ sp_lt 4 f = false
      · rw [if_pos hc] at hR; rw [if_pos hc]; exact hR
      · rw [if_neg hc, if_neg (fun q2 => hb ⟨by simpa using (not_or.mp hc).1, by simpa using (not_or.mp hc).2, q2⟩)] at hR; rw [if_neg hc]; exact hR
    · have hR := mo_getsN X I J sp f S.2.1 (so_n hS) (mi_n h) (by rw [mi_t h, mi_so h, mi_sg h, ← spk_in, ← lt_in 4 (by omega) (by omega)]; exact hb)
      rw [← spk_in, ← lt_in 4 (by omega) (by omega)] at hR
      exact hR
theorem b_who {D : Nat} {S : gS} (hS : sOK D S) : bI E_X9_who E_X10_who [] D S := by
  have hd := so_d hS
  have hs := so_s hS
  by_cases hb : sp_sf (xt S.1) (nR (xso S.1)) (nR S.2.2.1) S.2.1 = -6
  · obtain ⟨hn, hsg⟩ := sf_ok (so_n hS) (so_g hS) hb
    refine bI_of hS (whoB (fun f => slM (xsf S.1) (nR (xss S.1)) (cM (wset (nR (fun k => S.2.2.1 k - 97)) S.2.1) (xre S.1) (xho S.1) f 8) f (xns S.1)) 4) (cSt_id (fun X I J h => ?_)) (mSt_r (fun X I J h => ?_))
    · have hR := cl_who X I J S.2.1 (xns S.1) (so_n hS) hs.1 (ci_n h) (ci_ns h)
      rw [ci_t h, ci_so h, ci_sg h, ci_re h, ci_ho h, if_pos hb, who_same (xt S.1) (xre S.1) (xho S.1) S.2.2.1 (xsf S.1) (nR (xss S.1)) (I 12) (I 13) hd.1 hd.2.1 S.2.1 (xns S.1) (by omega) (fun k hk => ⟨(hsg k hk).1, (hsg k hk).2.1, (hsg k hk).2.2.1⟩) (fun k hk => ⟨(hs.2 k hk).1, (ci_s h k hk).1, (ci_s h k hk).2⟩)] at hR
      exact hR
    · exact mo_whoY X I J (xt S.1) (xso S.1) (xme S.1) (xrh S.1) (xre S.1) (xho S.1) (xfa S.1) S.2.2.1 (xsf S.1) (nR (xss S.1)) S.2.1 (xns S.1) (by omega) hs.1 (mi_st h) (so_b hS) (mi_n h) (mi_ns h) (mi_sg h) hb (fun j hj => ⟨(hsg j hj).1, (hsg j hj).2.1⟩) (fun k hk => ⟨(hs.2 k hk).1, (mi_s h k hk).1, (mi_s h k hk).2⟩)
  · refine bI_of hS (-5) (cSt_id (fun X I J h => ?_)) (mSt_id (fun X I J h => mo_whoN X I J S.2.1 (so_n hS) (mi_n h) (by rw [mi_t h, mi_so h, mi_sg h]; exact hb)))
    have hR := cl_who X I J S.2.1 (xns S.1) (so_n hS) hs.1 (ci_n h) (ci_ns h)
    rw [ci_t h, ci_so h, ci_sg h, if_neg hb] at hR
    exact hR
