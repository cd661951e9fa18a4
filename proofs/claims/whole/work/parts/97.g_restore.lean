/-! BOTH, call by call: IMAGES, 2 -/
theorem fl_row {g h : Nat → Int32} {f : Nat → Nat} {n : Nat} (h1 : ∀ k, k < n → g k = nI (f k)) (h2 : ∀ k, n ≤ k → h k = nI (f k)) : am_fl g h n = nR f := by
  funext k
  unfold am_fl
  by_cases hk : k < n
  · rw [if_pos hk, h1 k hk]; rfl
  · rw [if_neg hk, h2 k (by omega)]; rfl
theorem re_c {I I' : Nat → Nat → Int32} {S : gS} {B : rS} (h : cInv I S) (hc : ∀ a, a < 3 ∨ 13 < a → I' a = I a) (hr : rAt I' 3 B) : cInv I' (B, S.2) := cInv_m (S' := (B, S.2)) h hr ((congrFun (hc 1 (by omega)) 1).trans h.2.1) ((hc 2 (by omega)).trans h.2.2.1) rfl (fun a _ _ => hc a (by omega)) (zInv_c (ci_z (S := S) h) (hc 53 (by omega)) (hc 20 (by omega)))
theorem b_restore {D : Nat} {S : gS} (hS : sOK D S) (j : Int32) : bI E_X9_restore E_X10_restore [.int j] D S := by
  cases hb : sp_in j (nI 0) (nI 1)
  · exact bI_of hS (-2) (cSt_id (fun X I J h => cl_restoreN X I J j hb)) (mSt_id (fun X I J h => mo_restoreN X I J j hb))
  · obtain ⟨j, -, hj, rfl⟩ := in_ex (by omega) (by omega) hb
    cases hB : S.2.2.2 j with
    | none =>
      refine bI_of hS (-3) (cSt_id (fun X I J h => cl_restoreF X I J j (by omega) ?_)) (mSt_id (fun X I J h => mo_restoreF X I J j (by omega) ?_))
      · have h4 := h.2.2.2.1 j (by omega)
        rw [hB] at h4; exact h4
      · have h4 := h.2.2.1 j (by omega)
        rw [hB] at h4; exact h4
    | some B =>
      have hok := hS.1.2.2.2.2 j B hB
      refine ⟨nI 1, (B, S.2), fun X I J h => ?_, fun X I J h => ?_, sOK_A hS (rOK_mono hok (by omega)) (hS.2.2 j B hB)⟩
      · have h4 := h.2.2.2.1 j (by omega)
        rw [hB] at h4
        rcases (by omega : j = 0 ∨ j = 1) with rfl | rfl
        · exact ⟨_, J, cl_restore0 X I J h4.1, re_c h (fun a ha => cpy_n _ _ _ _ (by omega)) (cpy_at h4.2), fun a ha => cpy_n _ _ _ _ (by omega)⟩
        · exact ⟨_, J, cl_restore1 X I J h4.1, re_c h (fun a ha => cpy_n _ _ _ _ (by omega)) (cpy_at h4.2), fun a ha => cpy_n _ _ _ _ (by omega)⟩
      · have h4 := h.2.2.1 j (by omega)
        rw [hB] at h4
        obtain ⟨I', hR, f0, f1, ⟨f2, f3, f4, f5, f6, f7⟩, ⟨e1, e2, e3, e4, e5⟩, e6, e7, e8, e9⟩ := mo_restoreY X I J j (by omega) h4.1
        obtain ⟨⟨a1, a2, a3, a4, a5, a6⟩, b1, b2, b3, b4⟩ := h4.2
        have zS := hS.1.1.2.2.2.2.1
        have zB := hok.2.2.2.2.1
        have hl := hok.2.2.2.2.2.1
        have hs := hok.2.2.2.2.2.2
        refine ⟨I', J, hR, mInv_m (S' := (B, S.2)) h ⟨⟨f2.trans a1, f3.trans a2, f4.trans a3, f5.trans a4, f6.trans a5, f7.trans a6⟩, ⟨?_, ?_, ?_, ?_, ?_, ?_⟩, fun i hi => ⟨?_, fun k hk => ?_⟩, fun k hk => ⟨?_, ?_⟩⟩ ?_ ?_ rfl (fun a _ _ => f0 a (by omega) (by omega)), fun a ha => f0 a (by omega) (by omega)⟩
        · rw [e1]; exact fl_row (fun k hk => (b1 k hk).1) (fun k hk => by rw [mi_so h, nR_k, (zS.1 k hk).1]; show nI 0 = nI (xso B k); rw [(zB.1 k hk).1])
        · rw [e2]; exact fl_row (fun k hk => (b1 k hk).2.1) (fun k hk => by rw [mi_me h, nR_k, (zS.1 k hk).2.2.2.2]; show nI 0 = nI (xme B k); rw [(zB.1 k hk).2.2.2.2])
        · rw [e3]; exact fl_row (fun k hk => (b1 k hk).2.2.1) (fun k hk => by rw [mi_rh h, nR_k, (zS.1 k hk).2.1]; show nI 0 = nI (xrh B k); rw [(zB.1 k hk).2.1])
        · rw [e4]; exact fl_row (fun k hk => (b1 k hk).2.2.2.1) (fun k hk => by rw [mi_re h, nR_k, (zS.1 k hk).2.2.1]; show nI 0 = nI (xre B k); rw [(zB.1 k hk).2.2.1])
        · rw [e5]; exact fl_row (fun k hk => (b1 k hk).2.2.2.2) (fun k hk => by rw [mi_ho h, nR_k, (zS.1 k hk).2.2.2.1]; show nI 0 = nI (xho B k); rw [(zB.1 k hk).2.2.2.1])
        · rw [e6]; exact fl_row (fun k hk => b2 k hk) (fun k hk => by rw [mi_fa h, nR_k, zS.2 k hk]; show nI 0 = nI (xfa B k); rw [zB.2 k hk])
        · have hi : i < xnl B := hi
          have hl1 := hl.1
          rw [e8]; unfold am_fl; rw [if_pos (by omega)]; exact (b3 i hi).1
        · have hi : i < xnl B := hi
          have hl1 := hl.1
          have hl2 := (hl.2 i hi).1
          have hk : k < xll B i := hk
          rw [e7]; unfold am_fl; rw [if_pos (by omega)]; exact (b3 i hi).2 k hk
        · have hk : k < xns B := hk
          have hs1 := hs.1
          rw [e9]; unfold am_fl; rw [if_pos (by omega)]; exact (b4 k hk).1
        · have hk : k < xns B := hk
          have hs1 := hs.1
          rw [e9]; unfold am_fl; rw [if_pos (by omega)]; exact (b4 k hk).2
        · rw [f1 15 (by omega) (by omega) (by omega) (by omega) (by omega) (by omega)]; exact mi_n (S := S) h
        · rw [f0 72 (by omega) (by omega)]; exact mi_sg (S := S) h
