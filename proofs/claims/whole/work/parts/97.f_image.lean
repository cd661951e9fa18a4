/-! BOTH, call by call: IMAGES -/
theorem cpy_n (I : Nat → Nat → Int32) (r s a : Nat) (h : a < r ∨ r + 10 < a) : am_cpy I r s a = I a := by
  unfold am_cpy
  rw [if_neg (by omega), if_neg (by omega), if_neg (by omega), if_neg (by omega), if_neg (by omega), if_neg (by omega), if_neg (by omega), if_neg (by omega), if_neg (by omega), if_neg (by omega)]
theorem cpy_at {I : Nat → Nat → Int32} {r s : Nat} {A : rS} (h : rAt I s A) : rAt (am_cpy I r s) r A := by
  obtain ⟨⟨a1, a2, a3, a4, a5, a6⟩, ⟨b1, b2, b3, b4, b5, b6⟩, c1, c2⟩ := h
  have e0 : am_cpy I r s r = upd (upd (upd (upd (upd (upd (I r) 0 (I s 0)) 8 (I s 8)) 9 (I s 9)) 10 (I s 10)) 12 (I s 12)) 15 (I s 15) := by simp [am_cpy]
  have e1 : am_cpy I r s (r + 1) = I (s + 1) := by simp [am_cpy]
  have e2 : am_cpy I r s (r + 2) = I (s + 2) := by simp [am_cpy]
  have e3 : am_cpy I r s (r + 3) = I (s + 3) := by simp [am_cpy]
  have e4 : am_cpy I r s (r + 4) = I (s + 4) := by simp [am_cpy]
  have e5 : am_cpy I r s (r + 5) = I (s + 5) := by simp [am_cpy]
  have e7 : am_cpy I r s (r + 7) = I (s + 7) := by simp [am_cpy]
  have e8 : am_cpy I r s (r + 8) = I (s + 8) := by simp [am_cpy]
  have e9 : am_cpy I r s (r + 9) = I (s + 9) := by simp [am_cpy]
  have e10 : am_cpy I r s (r + 10) = I (s + 10) := by simp [am_cpy]
  unfold rAt
  rw [e0, e1, e2, e3, e4, e5, e7, e8, e9, e10]
  refine ⟨⟨?_, ?_, ?_, ?_, ?_, ?_⟩, ⟨b1, b2, b3, b4, b5, b6⟩, c1, c2⟩
  · rw [ud_n _ _ _ _ (by omega), ud_n _ _ _ _ (by omega), ud_n _ _ _ _ (by omega), ud_n _ _ _ _ (by omega), ud_n _ _ _ _ (by omega), ud_s]; exact a1
  · rw [ud_n _ _ _ _ (by omega), ud_n _ _ _ _ (by omega), ud_n _ _ _ _ (by omega), ud_n _ _ _ _ (by omega), ud_s]; exact a2
  · rw [ud_n _ _ _ _ (by omega), ud_n _ _ _ _ (by omega), ud_n _ _ _ _ (by omega), ud_s]; exact a3
  · rw [ud_n _ _ _ _ (by omega), ud_n _ _ _ _ (by omega), ud_s]; exact a4
  · rw [ud_n _ _ _ _ (by omega), ud_s]; exact a5
  · rw [ud_s]; exact a6
theorem mIm_c {g g' : Nat → Int32} {t D : Nat} {A : rS} (hA : rOK D A) (h : mIm g t A) (hg : ∀ k, k < 107 → g' (t + k) = g (t + k)) : mIm g' t A := by
  obtain ⟨⟨a1, a2, a3, a4, a5, a6⟩, h2, h3, h4, h5⟩ := h
  have hl := hA.2.2.2.2.2.1
  have hs := hA.2.2.2.2.2.2
  refine ⟨⟨?_, ?_, ?_, ?_, ?_, ?_⟩, fun w hw => ?_, fun k hk => ?_, fun i hi => ⟨?_, fun k hk => ?_⟩, fun k hk => ?_⟩
  · rw [hg 101 (by omega)]; exact a1
  · rw [hg 102 (by omega)]; exact a2
  · rw [hg 103 (by omega)]; exact a3
  · rw [hg 104 (by omega)]; exact a4
  · rw [hg 105 (by omega)]; exact a5
  · rw [hg 106 (by omega)]; exact a6
  · have h2 := h2 w hw
    simp only [Nat.add_assoc] at h2 ⊢
    rw [hg w (by omega), hg (8 + w) (by omega), hg (16 + w) (by omega), hg (24 + w) (by omega), hg (32 + w) (by omega)]
    exact h2
  · have h3 := h3 k hk
    simp only [Nat.add_assoc] at h3 ⊢
    rw [hg (40 + k) (by omega)]; exact h3
  · have h4 := (h4 i hi).1
    have hl1 := hl.1
    simp only [Nat.add_assoc] at h4 ⊢
    rw [hg (85 + i) (by omega)]; exact h4
  · have hl1 := hl.1
    have hl2 := (hl.2 i hi).1
    have h4 := (h4 i hi).2 k hk
    simp only [Nat.add_assoc] at h4 ⊢
    rw [hg (65 + (5 * i + k)) (by omega)]; exact h4
  · have hs1 := hs.1
    have h5 := h5 k hk
    simp only [Nat.add_assoc] at h5 ⊢
    rw [hg (89 + 2 * k) (by omega), hg (89 + (2 * k + 1)) (by omega)]; exact h5
theorem mIm_of {I : Nat → Nat → Int32} {g : Nat → Int32} {t D : Nat} {A : rS} (hA : rOK D A) (h : mAt I A) (hq : qimg I g t) : mIm g t A := by
  obtain ⟨⟨p0, p1, p2, p3, p4, p5⟩, q1, q2, q3, q4, q5, q6⟩ := hq
  obtain ⟨⟨a1, a2, a3, a4, a5, a6⟩, ⟨b1, b2, b3, b4, b5, b6⟩, c1, c2⟩ := h
  have hl := hA.2.2.2.2.2.1
  have hs := hA.2.2.2.2.2.2
  refine ⟨⟨q1.trans a1, q2.trans a2, q3.trans a3, q4.trans a4, q5.trans a5, q6.trans a6⟩, fun w hw => ?_, fun k hk => ?_, fun i hi => ⟨?_, fun k hk => ?_⟩, fun k hk => ⟨?_, ?_⟩⟩
  · obtain ⟨w1, w2, w3, w4, w5⟩ := p1 w hw
    rw [w1, w2, w3, w4, w5, b1, b2, b3, b4, b5]
    exact ⟨rfl, rfl, rfl, rfl, rfl⟩
  · rw [p2 k hk, b6]; rfl
  · have hl1 := hl.1
    rw [p4 i (by omega)]; exact (c1 i hi).1
  · have hl1 := hl.1
    have hl2 := (hl.2 i hi).1
    rw [p3 _ (by omega)]; exact (c1 i hi).2 k hk
  · have hs1 := hs.1
    rw [p5 _ (by omega)]; exact (c2 k hk).1
  · have hs1 := hs.1
    rw [p5 _ (by omega)]; exact (c2 k hk).2
def st_im (S : gS) (j : Nat) : gS := (S.1, S.2.1, S.2.2.1, fun i => if i = j then some S.1 else S.2.2.2 i)
theorem im_c {I I' : Nat → Nat → Int32} {S : gS} (h : cInv I S) (j : Nat) (hj : j < 2) (hc : ∀ a, a < 26 + 11 * j ∨ (26 + 11 * j + 10 < a ∧ a ≠ 48) → I' a = I a) (h48 : I' 48 = upd (I 48) j 1) (hr : rAt I' (26 + 11 * j) S.1) : cInv I' (st_im S j) := by
  refine ⟨rAt_c h.1 (fun a _ _ => hc a (by omega)), (congrFun (hc 1 (by omega)) 1).trans h.2.1, (hc 2 (by omega)).trans h.2.2.1, fun i hi => ?_, zInv_c (ci_z h) (hc 53 (by omega)) (hc 20 (by omega))⟩
  show match (if i = j then some S.1 else S.2.2.2 i) with | none => I' 48 i = 0 | some B => I' 48 i = 1 ∧ rAt I' (26 + 11 * i) B
  by_cases he : i = j
  · subst he
    rw [if_pos rfl]
    exact ⟨by rw [h48, ud_s], hr⟩
  · rw [if_neg he]
    have h4 := h.2.2.2.1 i hi
    cases hB : S.2.2.2 i with
    | none =>
      rw [hB] at h4
      show I' 48 i = 0
      rw [h48, ud_n _ _ _ _ he]; exact h4
    | some B =>
      rw [hB] at h4
      exact ⟨by rw [h48, ud_n _ _ _ _ he]; exact h4.1, rAt_c h4.2 (fun a h1 h2 => hc a (by omega))⟩
theorem b_image {D : Nat} {S : gS} (hS : sOK D S) (j : Int32) : bI E_X9_image E_X10_image [.int j] D S := by
  cases hb : sp_in j (nI 0) (nI 1)
  · exact bI_of hS (-2) (cSt_id (fun X I J h => cl_imageN X I J j hb)) (mSt_id (fun X I J h => mo_imageN X I J j hb))
  · obtain ⟨j, -, hj, rfl⟩ := in_ex (by omega) (by omega) hb
    refine ⟨nI 1, st_im S j, fun X I J h => ?_, fun X I J h => ?_, ?_⟩
    · rcases (by omega : j = 0 ∨ j = 1) with rfl | rfl
      · refine ⟨_, J, cl_image0 X I J, im_c h 0 (by omega) (fun a ha => ?_) (by rw [up_s]) ?_, fun a ha => ?_⟩
        · rw [up_n _ _ _ _ (by omega), cpy_n _ _ _ _ (by omega)]
        · exact rAt_c (cpy_at (r := 26) h.1) (fun a _ _ => up_n _ _ _ _ (by omega))
        · rw [up_n _ _ _ _ (by omega), cpy_n _ _ _ _ (by omega)]
      · refine ⟨_, J, cl_image1 X I J, im_c h 1 (by omega) (fun a ha => ?_) (by rw [up_s]) ?_, fun a ha => ?_⟩
        · rw [up_n _ _ _ _ (by omega), cpy_n _ _ _ _ (by omega)]
        · exact rAt_c (cpy_at (r := 37) h.1) (fun a _ _ => up_n _ _ _ _ (by omega))
        · rw [up_n _ _ _ _ (by omega), cpy_n _ _ _ _ (by omega)]
    · obtain ⟨g, hR, hq⟩ := mo_imageY X I J j (by omega)
      have hf : ∀ a, a ≠ 80 → a ≠ 81 → va_up (va_up I 80 g) 81 (upd (I 81) j 1) a = I a := fun a h1 h2 => by rw [up_n _ _ _ _ h2, up_n _ _ _ _ h1]
      refine ⟨_, J, hR, ⟨mAt_c h.1 (fun a _ _ => hf a (by omega) (by omega)) (fun i _ => by rw [hf 62 (by omega) (by omega)]), ⟨by rw [hf 62 (by omega) (by omega)]; exact h.2.1.1, by rw [hf 72 (by omega) (by omega)]; exact h.2.1.2⟩, ?_, mi_z (I := I) (S := S) h⟩, fun a ha => hf a (by omega) (by omega)⟩
      intro i hi
      show match (if i = j then some S.1 else S.2.2.2 i) with | none => upd (I 81) j 1 i = 0 | some B => upd (I 81) j 1 i = 1 ∧ mIm g (120 * i) B
      by_cases he : i = j
      · subst he
        rw [if_pos rfl]
        exact ⟨ud_s _ _ _, mIm_of hS.1.1 h.1 hq⟩
      · rw [if_neg he]
        have h4 := h.2.2.1 i hi
        cases hB : S.2.2.2 i with
        | none =>
          rw [hB] at h4
          show upd (I 81) j 1 i = 0
          rw [ud_n _ _ _ _ he]; exact h4
        | some B =>
          rw [hB] at h4
          exact ⟨by rw [ud_n _ _ _ _ he]; exact h4.1, mIm_c (hS.1.2.2.2.2 i B hB) h4.2 (fun k hk => hq.1.1 _ (by omega))⟩
    · obtain ⟨⟨g1, g2, g3, g4, g5⟩, g6, g7⟩ := sOK_mono hS (show D ≤ D + 60 by omega)
      refine ⟨⟨g1, g2, g3, g4, fun i B hB => ?_⟩, g6, fun i B hB => ?_⟩
      · have hB : (if i = j then some S.1 else S.2.2.2 i) = some B := hB
        by_cases he : i = j
        · rw [if_pos he] at hB; cases hB; exact g1
        · rw [if_neg he] at hB; exact g5 i B hB
      · have hB : (if i = j then some S.1 else S.2.2.2 i) = some B := hB
        by_cases he : i = j
        · rw [if_pos he] at hB; cases hB; exact g6
        · rw [if_neg he] at hB; exact g7 i B hB
