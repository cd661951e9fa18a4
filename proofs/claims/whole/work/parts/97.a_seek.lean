/-! BOTH, call by call: NEARLY, SAID, SPOKE -/
theorem offN_0 (fa me a b : Nat → Nat) (hme : ∀ k, me k < 5) (hfa : ∀ m, m < 5 → fa (6 * m) = 0) : ∀ n, (∀ k, k < n → a k = b k) → offN fa me a b n = 0
  | 0, _ => rfl
  | n + 1, h => by
    rw [offN, offN_0 fa me a b hme hfa n (fun k hk => h k (by omega)), h n (by omega), show 5 * me (b n) + me (b n) = 6 * me (b n) by omega, hfa _ (hme _)]
theorem b_nearly {D : Nat} {S : gS} (hS : sOK D S) (sp sl q : Int32) : bI E_X9_nearly E_X10_nearly [.int sp, .int sl, .int q] D S := by
  have hd := so_d hS
  by_cases hb : sp_spk sp = true ∧ sp_in sl (nI 0) (nI 36) = true ∧ sp_in q (nI 0) (nI 6) = true ∧ sp_sf (xt S.1) (nR (xso S.1)) (nR S.2.2.1) S.2.1 = -6 ∧ q ≤ nI 1 + nI S.2.1
  · obtain ⟨q1, q2, q3, q4, q5⟩ := hb
    obtain ⟨k, hk, rfl⟩ := spk_ex q1
    obtain ⟨sl, -, hsl, rfl⟩ := in_ex (by omega) (by omega) q2
    obtain ⟨q, -, hq, rfl⟩ := in_ex (by omega) (by omega) q3
    obtain ⟨hn, hsg⟩ := sf_ok (so_n hS) (so_g hS) q4
    have hV := sf_wf (so_n hS) (so_g hS) q4
    have hq2 : q ≤ 1 + S.2.1 := by
      rw [nI_add, am_nle _ _ (by omega) (by omega)] at q5
      exact q5
    obtain ⟨c1, c2, c3, -⟩ := wgon (xt S.1) (nR (xso S.1)) S.2.1 hn hV (fun j => S.2.2.1 j - 97) (fun p hp => ⟨by have := hsg p hp; show S.2.2.1 p - 97 < 8; omega, (hsg p hp).2.2.2⟩)
    generalize hF : mnF (vldR (xt S.1) (nR (xso S.1)) S.2.1) (fun code => offN (xfa S.1) (xme S.1) (fun k => S.2.2.1 k - 97) (dgR S.2.1 code) S.2.1) (prR (xre S.1) (xho S.1) (xrh S.1) k S.2.1) sl (cdN S.2.1) = F
    have hfd : F.1 ≤ 792 := by
      rw [← hF]
      refine mnF_fd _ _ _ sl (fun c => prR_le _ _ _ hd.1 _ _ _) (cdn S.2.1 (fun j => S.2.2.1 j - 97)) c2 ?_ (cdN S.2.1) c1
      show offN _ _ _ _ _ ≤ sl
      rw [offN_0 (xfa S.1) (xme S.1) _ _ hd.2.2 hS.2.1 S.2.1 (fun j hj => (c3 j hj).symm)]
      omega
    refine bI_of hS (if q = 0 then nI F.1 else if q = 1 then nI (offN (xfa S.1) (xme S.1) (fun k => S.2.2.1 k - 97) (dgR S.2.1 F.2) S.2.1) else nI (dgR S.2.1 F.2 (q - 2))) (cSt_z (fun X I J h => ?_)) (mSt_r (fun X I J h => ?_))
    · obtain ⟨w0, h53⟩ := (ci_z h).1
      obtain ⟨u, hA, hu⟩ := near_same (ci_st h) (so_b hS) S.2.2.1 (ci_sg h) S.2.1 hn (fun j hj => ⟨(hsg j hj).1, (hsg j hj).2.1, (hsg j hj).2.2.1⟩) k sl hk hsl w0 hV F hF hfd
      obtain ⟨I', hR, h2⟩ := cl_nearY X I J (nI k) (nI sl) q S.2.1 (by omega) (by omega) (xrh S.1) (so_rh hS) (ci_n h) (fun j => by rw [ci_rh h]; rfl) (ci_z h) (by rw [ci_t h, ci_so h]; exact hV) q1 q2 hq2 (by rw [ci_t h, ci_so h, ci_sg h]; exact q4) _ _ u w0 h53 hA
      refine ⟨I', J, ?_, h2⟩
      by_cases h0 : q = 0
      · rw [if_pos h0] at hR ⊢; exact hR
      · by_cases h1 : q = 1
        · rw [if_neg h0, if_pos h1] at hR ⊢; exact hR
        · rw [if_neg h0, if_neg h1] at hR ⊢
          rw [hu (q - 2) (by omega)] at hR
          exact hR
    · exact mo_nearY X I J (xt S.1) (xso S.1) (xme S.1) (xrh S.1) (xre S.1) (xho S.1) (xfa S.1) S.2.2.1 k sl q S.2.1 hk hsl hn hq2 (mi_st h) (so_b hS) (mi_n h) (mi_sg h) q4 (fun j hj => ⟨(hsg j hj).1, (hsg j hj).2.1⟩) F hF
  · refine bI_of hS (if sp_spk sp = false then -1 else if sp_in sl (nI 0) (nI 36) = true ∧ sp_in q (nI 0) (nI 6) = true ∧ ¬ sp_sf (xt S.1) (nR (xso S.1)) (nR S.2.2.1) S.2.1 = -6 then -5 else -2) (cSt_id (fun X I J h => ?_)) (mSt_id (fun X I J h => ?_))
    · have hR := cl_nearN X I J sp sl q S.2.1 (so_n hS) (ci_n h) (by rw [ci_t h, ci_so h, ci_sg h]; exact hb)
      rw [ci_t h, ci_so h, ci_sg h] at hR
      exact hR
    · have hR := mo_nearN X I J sp sl q S.2.1 (so_n hS) (mi_n h) (by rw [mi_t h, mi_so h, mi_sg h, ← spk_in]; exact hb)
      rw [mi_t h, mi_so h, mi_sg h, ← spk_in] at hR
      exact hR
theorem b_said {D : Nat} {S : gS} (hS : sOK D S) (sp pe q : Int32) : bI E_X9_said E_X10_said [.int sp, .int pe, .int q] D S := by
  by_cases hb : sp_spk sp = true ∧ sp_in pe (nI 0) (nI 999) = true ∧ sp_in q (nI 0) (nI 6) = true
  · obtain ⟨q1, q2, q3⟩ := hb
    obtain ⟨k, hk, rfl⟩ := spk_ex q1
    obtain ⟨pe, -, hpe, rfl⟩ := in_ex (by omega) (by omega) q2
    obtain ⟨q, -, hq, rfl⟩ := in_ex (by omega) (by omega) q3
    generalize hB : msF (vldR (xt S.1) (nR (xso S.1)) 3) (prR (xre S.1) (xho S.1) (xrh S.1) k 3) pe q 3 (0, 0, -6) 512 = B
    generalize hA : msF (vldR (xt S.1) (nR (xso S.1)) 5) (prR (xre S.1) (xho S.1) (xrh S.1) k 5) pe q 5 B 32768 = A
    refine bI_of hS (if q = 0 then nI A.1 else if q = 1 then nI A.2.1 else A.2.2) (cSt_z (fun X I J h => ?_)) (mSt_r (fun X I J h => ?_))
    · obtain ⟨w0, h53⟩ := (ci_z h).1
      obtain ⟨w1, I', hR, h2⟩ := cl_saidY X I J (nI k) (nI pe) q (xrh S.1) (so_rh hS) (fun j => by rw [ci_rh h]; rfl) (ci_z h) q1 q2 hq w0 h53
      obtain ⟨s1, s2⟩ := said_one (ci_st h) (so_b hS) 3 (Or.inl rfl) k pe q hk hpe w0 (0, none) (0, 0, -6) ⟨rfl, fun _ => rfl, fun h => absurd h (Nat.lt_irrefl _), fun _ => rfl⟩
      rw [show cdN 3 = 512 from rfl, hB] at s1 s2
      obtain ⟨s3, s4⟩ := said_one (ci_st h) (so_b hS) 5 (Or.inr rfl) k pe q hk hpe w1 _ B s1
      rw [show cdN 5 = 32768 from rfl, hA] at s3 s4
      have s3 : sdR q (aff2 I (xrh S.1) (nI k) (nI pe) w1 (aff1 I (xrh S.1) (nI k) (nI pe) w0)) A := s3
      have s1 : sdR q (aff1 I (xrh S.1) (nI k) (nI pe) w0) B := s1
      simp at s2 s4
      refine ⟨I', J, ?_, h2⟩
      rw [s3.1, s1.1] at hR
      by_cases h0 : q = 0
      · rw [if_pos h0] at hR ⊢; exact hR
      · by_cases h1 : q = 1
        · rw [if_neg h0, if_pos h1] at hR ⊢
          rw [nI_sub (by omega), show A.1 - B.1 = A.2.1 by omega] at hR
          exact hR
        · rw [if_neg h0, if_neg h1] at hR ⊢
          rw [s3.2.2.2 (by omega)] at hR
          exact hR
    · exact mo_saidY X I J (xt S.1) (xso S.1) (xme S.1) (xrh S.1) (xre S.1) (xho S.1) (xfa S.1) k pe q hk hpe hq (mi_st h) (so_b hS) A (by rw [hB]; exact hA)
  · refine bI_of hS (if sp_spk sp = false then -1 else -2) (cSt_id (fun X I J h => cl_saidN X I J sp pe q hb)) (mSt_id (fun X I J h => ?_))
    have hR := mo_saidN X I J sp pe q (by rw [← spk_in]; exact hb)
    rw [← spk_in] at hR
    exact hR
theorem ns_ex {i : Int32} {m : Nat} (hm : m ≤ 6) (h : sp_in i (nI 0) (nI m - nI 1) = true) : ∃ k, k < m ∧ i = nI k := by
  cases m with
  | zero =>
    exfalso
    unfold sp_in at h
    rw [Bool.and_eq_true, decide_eq_true_eq, decide_eq_true_eq] at h
    exact absurd (Int32.le_trans h.1 h.2) (by decide)
  | succ m =>
    rw [nI_sub (by omega), show m + 1 - 1 = m by omega] at h
    obtain ⟨k, -, h1, h2⟩ := in_ex (by omega) (by omega) h
    exact ⟨k, by omega, h2⟩
theorem b_spoke {D : Nat} {S : gS} (hS : sOK D S) (i q : Int32) : bI E_X9_spoke E_X10_spoke [.int i, .int q] D S := by
  have hs := so_s hS
  by_cases hb : sp_in i (nI 0) (nI (xns S.1) - nI 1) = true ∧ sp_in q (nI 0) (nI 3) = true
  · obtain ⟨q1, q2⟩ := hb
    obtain ⟨i, hi, rfl⟩ := ns_ex hs.1 q1
    obtain ⟨q, -, hq, rfl⟩ := in_ex (by omega) (by omega) q2
    have hf := (hs.2 i hi).1
    generalize hA : skF (vldR (xt S.1) (nR (xso S.1)) 3) (fun c => decide (cM (wset (nR (dgR 3 c)) 3) (xre S.1) (xho S.1) (xsf S.1 i) 8 = nI (xss S.1 i))) q 512 = A
    refine bI_of hS (if q = 0 then nI A.1 else A.2) (cSt_z (fun X I J h => ?_)) (mSt_r (fun X I J h => ?_))
    · obtain ⟨w0, h53⟩ := (ci_z h).1
      obtain ⟨I', hR, h2⟩ := cl_spokeY X I J i q (by omega) hq (ci_z h) (by rw [ci_ns h]; exact q1) w0 h53
      obtain ⟨e1, e2⟩ := ci_s h i hi
      rw [e1, e2] at hR
      obtain ⟨r1, r2⟩ := spoke_same (ci_st h) (so_b hS) (xsf S.1 i) q (by omega) hq (nI (xss S.1 i)) w0 _ rfl A hA
      refine ⟨I', J, ?_, h2⟩
      rw [r1] at hR
      by_cases h0 : q = 0
      · rw [if_pos h0] at hR ⊢; exact hR
      · rw [if_neg h0] at hR ⊢
        rw [r2 (by omega)] at hR
        exact hR
    · obtain ⟨e1, e2⟩ := mi_s h i hi
      exact mo_spokeY X I J (xt S.1) (xso S.1) (xme S.1) (xrh S.1) (xre S.1) (xho S.1) (xfa S.1) i q (xsf S.1 i) (nI (xss S.1 i)) (by omega) hq hf (mi_st h) (so_b hS) (by rw [mi_ns h]; exact q1) e1 e2 A hA
  · exact bI_of hS (-2) (cSt_id (fun X I J h => cl_spokeN X I J i q (by rw [ci_ns h]; exact hb))) (mSt_id (fun X I J h => mo_spokeN X I J i q (by rw [mi_ns h]; exact hb)))
