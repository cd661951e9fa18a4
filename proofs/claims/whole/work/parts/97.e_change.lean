/-! BOTH, call by call: what changes, 4 -/
theorem up1 {f : Nat → Nat} {i v : Nat} {P : Nat → Prop} (hf : ∀ k, P (f k)) (hv : P v) : ∀ k, P (va_up f i v k) := fun k => by
  by_cases h1 : k = i
  · rw [h1, up_s]; exact hv
  · rw [up_n _ _ _ _ h1]; exact hf k
theorem b_word {D : Nat} {S : gS} (hS : sOK D S) (w s m r v : Int32) : bI E_X9_word E_X10_word [.int w, .int s, .int m, .int r, .int v] D S := by
  have g := rOK_mono hS.1.1 (show D ≤ D + 60 by omega)
  by_cases hb : sp_in w (nI 0) (nI 7) = true ∧ sp_in s (nI 0) (nI 2) = true ∧ sp_lt 5 m = true ∧ sp_lt 4 r = true ∧ sp_in v (nI 0) (nI 99) = true
  · obtain ⟨q1, q2, q3, q4, q5⟩ := hb
    obtain ⟨w, -, hw, rfl⟩ := in_ex (by omega) (by omega) q1
    obtain ⟨s, -, hs, rfl⟩ := in_ex (by omega) (by omega) q2
    obtain ⟨m, hm, rfl⟩ := lt_ex (by omega) q3
    obtain ⟨r, hr, rfl⟩ := lt_ex (by omega) q4
    obtain ⟨v, -, hv, rfl⟩ := in_ex (by omega) (by omega) q5
    have hz : ∀ i, 8 ≤ i → i < 32 → bt (xt S.1 ||| (nI 1 <<< (nI w &&& 31))) i = false := fun i h8 hi => by
      rw [bt_set hi (by omega), so_t hS i h8 hi]
      simp; omega
    obtain ⟨d, hd, he⟩ := t_ex hz
    refine ⟨nI (pcn d), (st_word S.1 w s m r v, S.2), fun X I J h => ?_, fun X I J h => ?_, ?_⟩
    · obtain ⟨I', hR, h2, h3⟩ := cl_word X I J S h w s m r v hw hs hm hr hv
      rw [he, pcn_bc d hd] at hR
      exact ⟨I', J, hR, h2, h3⟩
    · have hR := mo_wordY X I J 0 d w s m r v hw hs hm hr hv hd (by rw [mi_t h]; exact he)
      have hf : ∀ a, (a < 62 ∨ 67 < a) → va_up (va_up (va_up (va_up (va_up (va_up I 62 (upd (I 62) 0 (nI d))) 63 (upd (I 63) w (nI s))) 64 (upd (I 64) w (nI m))) 65 (upd (I 65) w (nI r))) 66 (upd (I 66) w (nI v))) 67 (upd (I 67) w (nI 4)) a = I a := fun a ha => by
        rw [up_n _ _ _ _ (by omega), up_n _ _ _ _ (by omega), up_n _ _ _ _ (by omega), up_n _ _ _ _ (by omega), up_n _ _ _ _ (by omega), up_n _ _ _ _ (by omega)]
      refine ⟨_, J, hR, mInv_m h ?_ (by rw [up_n _ _ _ _ (by omega), up_n _ _ _ _ (by omega), up_n _ _ _ _ (by omega), up_n _ _ _ _ (by omega), up_n _ _ _ _ (by omega), up_s, ud_n _ _ _ _ (by omega)]; exact mi_n (S := S) h) (by rw [hf 72 (by omega)]; exact mi_sg (S := S) h) rfl (fun a _ _ => hf a (by omega)), fun a _ => hf a (by omega)⟩
      obtain ⟨⟨a1, a2, a3, a4, a5, a6⟩, ⟨b1, b2, b3, b4, b5, b6⟩, c1, c2⟩ := h.1
      refine ⟨⟨?_, ?_, ?_, ?_, ?_, ?_⟩, ⟨?_, ?_, ?_, ?_, ?_, b6⟩, c1, c2⟩
      · show upd (I 62) 0 (nI d) 0 = xt S.1 ||| (nI 1 <<< (nI w &&& 31))
        rw [ud_s, he]
      · show upd (I 62) 0 (nI d) 7 = _
        rw [ud_n _ _ _ _ (by omega)]; exact a2
      · show upd (I 62) 0 (nI d) 8 = _
        rw [ud_n _ _ _ _ (by omega)]; exact a3
      · show upd (I 62) 0 (nI d) 9 = _
        rw [ud_n _ _ _ _ (by omega)]; exact a4
      · show upd (I 62) 0 (nI d) 10 = _
        rw [ud_n _ _ _ _ (by omega)]; exact a5
      · show upd (I 62) 0 (nI d) 13 = _
        rw [ud_n _ _ _ _ (by omega)]; exact a6
      · show upd (I 63) w (nI s) = _
        rw [b1, nR_u]; rfl
      · show upd (I 64) w (nI m) = _
        rw [b2, nR_u]; rfl
      · show upd (I 65) w (nI r) = _
        rw [b3, nR_u]; rfl
      · show upd (I 66) w (nI v) = _
        rw [b4, nR_u]; rfl
      · show upd (I 67) w (nI 4) = _
        rw [b5, nR_u]; rfl
    · refine sOK_A hS ⟨⟨⟨up1 (P := fun x => x ≤ 2) g.1.1.1 hs, g.1.1.2⟩, g.1.2⟩, hz, up1 (P := fun x => x < 4) g.2.2.1 hr, ⟨⟨up1 (P := fun x => x ≤ 99) g.2.2.2.1.1.1 hv, up1 (P := fun x => x ≤ 4) g.2.2.2.1.1.2.1 (Nat.le_refl 4), up1 (P := fun x => x < 5) g.2.2.2.1.1.2.2 hm⟩, g.2.2.2.1.2⟩, ⟨fun k hk => ?_, g.2.2.2.2.1.2⟩, g.2.2.2.2.2⟩ hS.2.1
      have g5 := g.2.2.2.2.1.1 k hk
      show va_up (xso S.1) w s k = 0 ∧ va_up (xrh S.1) w r k = 0 ∧ va_up (xre S.1) w v k = 0 ∧ va_up (xho S.1) w 4 k = 0 ∧ va_up (xme S.1) w m k = 0
      rw [up_n _ _ _ _ (by omega), up_n _ _ _ _ (by omega), up_n _ _ _ _ (by omega), up_n _ _ _ _ (by omega), up_n _ _ _ _ (by omega)]
      exact g5
  · refine bI_of hS (if sp_in w (nI 0) (nI 7) = true then -2 else -1) (cSt_id (fun X I J h => cl_wordN X I J w s m r v hb)) (mSt_id (fun X I J h => mo_wordN X I J w s m r v (by rw [← lt_in 5 (by omega) (by omega), ← lt_in 4 (by omega) (by omega)]; exact hb)))
def st_lw (lw : Nat → Nat) (l n : Nat) (sg : Nat → Nat) : Nat → Nat := fun j => if 5 * l ≤ j ∧ j < 5 * l + n then sg (j - 5 * l) - 97 else lw j
def st_list (A : rS) (n : Nat) (sg : Nat → Nat) : rS := (A.1, A.2.1, A.2.2.1, (st_lw (xlw A) (xnl A) n sg, va_up (xll A) (xnl A) n, xnl A + 1), A.2.2.2.2)
theorem lset_o {A : rS} {n : Nat} {sg : Nat → Nat} {i : Nat} (hi : i < xnl A) (hl : xll A i ≤ 5) : lset (st_list A n sg) i = lset A i := by
  unfold lset
  show wset (nR (fun k => st_lw (xlw A) (xnl A) n sg (5 * i + k))) (va_up (xll A) (xnl A) n i) = _
  rw [up_n _ _ _ _ (by omega)]
  refine wset_c (fun k hk => ?_)
  rw [nR_k, nR_k, st_lw, if_neg (by omega)]
theorem lset_n {A : rS} {n : Nat} {sg : Nat → Nat} : lset (st_list A n sg) (xnl A) = wset (nR (fun k => sg k - 97)) n := by
  unfold lset
  show wset (nR (fun k => st_lw (xlw A) (xnl A) n sg (5 * xnl A + k))) (va_up (xll A) (xnl A) n (xnl A)) = _
  rw [up_s]
  refine wset_c (fun k hk => ?_)
  rw [nR_k, nR_k, st_lw, if_pos (by omega), show 5 * xnl A + k - 5 * xnl A = k by omega]
theorem b_list {D : Nat} {S : gS} (hS : sOK D S) : bI E_X9_list E_X10_list [] D S := by
  have g := rOK_mono hS.1.1 (show D ≤ D + 60 by omega)
  have hl := so_l hS
  by_cases hb : sp_sf (xt S.1) (nR (xso S.1)) (nR S.2.2.1) S.2.1 = -6
  · by_cases h4 : xnl S.1 = 4
    · exact bI_of hS (-4) (cSt_id (fun X I J h => cl_listF X I J S.2.1 (so_n hS) (ci_n h) (by rw [ci_t h, ci_so h, ci_sg h]; exact hb) (by rw [ci_nl h, h4]))) (mSt_id (fun X I J h => mo_listF X I J S.2.1 (so_n hS) (mi_n h) (by rw [mi_t h, mi_so h, mi_sg h]; exact hb) (by rw [mi_nl h, h4])))
    · have hl4 : xnl S.1 < 4 := by omega
      obtain ⟨hn, hsg⟩ := sf_ok (so_n hS) (so_g hS) hb
      have hpd := pdw_eq S.2.2.1 S.2.1 (by omega) (fun j hj => ⟨(hsg j hj).1, (hsg j hj).2.1⟩)
      refine ⟨nI (xnl S.1 + 1), (st_list S.1 S.2.1 S.2.2.1, 0, S.2.2), fun X I J h => ?_, fun X I J h => ?_, ?_⟩
      · have hR := cl_listY X I J S.2.1 (xnl S.1) (so_n hS) hl4 (ci_n h) (by rw [ci_t h, ci_so h, ci_sg h]; exact hb) (ci_nl h)
        rw [ci_sg h, hpd] at hR
        refine ⟨_, J, hR, cInv_m h ?_ (by rw [up_s, ud_s]) (by rw [up_n _ _ _ _ (by omega), up_n _ _ _ _ (by omega), up_n _ _ _ _ (by omega)]; exact ci_sg (S := S) h) rfl (fun a _ _ => by rw [up_n _ _ _ _ (by omega), up_n _ _ _ _ (by omega), up_n _ _ _ _ (by omega)]) (zInv_c (ci_z h) (by rw [up_n _ _ _ _ (by omega), up_n _ _ _ _ (by omega), up_n _ _ _ _ (by omega)]) (by rw [up_n _ _ _ _ (by omega), up_n _ _ _ _ (by omega), up_n _ _ _ _ (by omega)])), fun a _ => by rw [up_n _ _ _ _ (by omega), up_n _ _ _ _ (by omega), up_n _ _ _ _ (by omega)]⟩
        obtain ⟨⟨a1, a2, a3, a4, a5, a6⟩, hb, c1, c2⟩ := h.1
        refine ⟨⟨?_, ?_, ?_, ?_, ?_, ?_⟩, hb, fun i hi => ?_, c2⟩
        · show upd (I 3) 12 (nI (xnl S.1 + 1)) 0 = _
          rw [ud_n _ _ _ _ (by omega)]; exact a1
        · show upd (I 3) 12 (nI (xnl S.1 + 1)) 8 = _
          rw [ud_n _ _ _ _ (by omega)]; exact a2
        · show upd (I 3) 12 (nI (xnl S.1 + 1)) 9 = _
          rw [ud_n _ _ _ _ (by omega)]; exact a3
        · show upd (I 3) 12 (nI (xnl S.1 + 1)) 10 = _
          rw [ud_n _ _ _ _ (by omega)]; exact a4
        · show upd (I 3) 12 (nI (xnl S.1 + 1)) 12 = _
          rw [ud_s]; rfl
        · show upd (I 3) 12 (nI (xnl S.1 + 1)) 15 = _
          rw [ud_n _ _ _ _ (by omega)]; exact a6
        · have hi : i < xnl S.1 + 1 := hi
          show upd (I 11) (xnl S.1) (wset (nR (fun k => S.2.2.1 k - 97)) S.2.1) i = _
          by_cases he : i = xnl S.1
          · rw [he, ud_s]; exact lset_n.symm
          · rw [ud_n _ _ _ _ he]
            exact (c1 i (by omega)).trans (lset_o (by omega) (by have := (hl.2 i (by omega)).1; omega)).symm
      · have hR := mo_listY X I J S.2.1 (xnl S.1) (by omega) hl4 (mi_n h) (by rw [mi_t h, mi_so h, mi_sg h]; exact hb) (mi_nl h)
        have hf : ∀ a, (a < 62 ∨ 70 < a) → va_up (va_up (va_up I 69 (ltR (fun k => I 72 k - nI 97) (I 69) (xnl S.1) S.2.1)) 70 (upd (I 70) (xnl S.1) (nI S.2.1))) 62 (upd (upd (I 62) 10 (nI (xnl S.1 + 1))) 15 (nI 0)) a = I a := fun a ha => by
          rw [up_n _ _ _ _ (by omega), up_n _ _ _ _ (by omega), up_n _ _ _ _ (by omega)]
        refine ⟨_, J, hR, mInv_m h ?_ (by rw [up_s, ud_s]) (by rw [hf 72 (by omega)]; exact mi_sg (S := S) h) rfl (fun a _ _ => hf a (by omega)), fun a _ => hf a (by omega)⟩
        obtain ⟨⟨a1, a2, a3, a4, a5, a6⟩, hb, c1, c2⟩ := h.1
        refine ⟨⟨?_, ?_, ?_, ?_, ?_, ?_⟩, hb, fun i hi => ?_, c2⟩
        · show upd (upd (I 62) 10 (nI (xnl S.1 + 1))) 15 (nI 0) 0 = _
          rw [ud_n _ _ _ _ (by omega), ud_n _ _ _ _ (by omega)]; exact a1
        · show upd (upd (I 62) 10 (nI (xnl S.1 + 1))) 15 (nI 0) 7 = _
          rw [ud_n _ _ _ _ (by omega), ud_n _ _ _ _ (by omega)]; exact a2
        · show upd (upd (I 62) 10 (nI (xnl S.1 + 1))) 15 (nI 0) 8 = _
          rw [ud_n _ _ _ _ (by omega), ud_n _ _ _ _ (by omega)]; exact a3
        · show upd (upd (I 62) 10 (nI (xnl S.1 + 1))) 15 (nI 0) 9 = _
          rw [ud_n _ _ _ _ (by omega), ud_n _ _ _ _ (by omega)]; exact a4
        · show upd (upd (I 62) 10 (nI (xnl S.1 + 1))) 15 (nI 0) 10 = _
          rw [ud_n _ _ _ _ (by omega), ud_s]; rfl
        · show upd (upd (I 62) 10 (nI (xnl S.1 + 1))) 15 (nI 0) 13 = _
          rw [ud_n _ _ _ _ (by omega), ud_n _ _ _ _ (by omega)]; exact a6
        · have hi : i < xnl S.1 + 1 := hi
          show upd (I 70) (xnl S.1) (nI S.2.1) i = nI (va_up (xll S.1) (xnl S.1) S.2.1 i) ∧ ∀ k, k < va_up (xll S.1) (xnl S.1) S.2.1 i → ltR (fun k => I 72 k - nI 97) (I 69) (xnl S.1) S.2.1 (5 * i + k) = nI (st_lw (xlw S.1) (xnl S.1) S.2.1 S.2.2.1 (5 * i + k))
          by_cases he : i = xnl S.1
          · rw [he, ud_s, up_s]
            refine ⟨rfl, fun k hk => ?_⟩
            rw [ltR, st_lw, if_pos (by omega), if_pos (by omega), show 5 * xnl S.1 + k - 5 * xnl S.1 = k by omega, mi_sg h, nR_k, nI_sub (hsg k hk).1]
          · have h5 := (hl.2 i (by omega)).1
            rw [ud_n _ _ _ _ he, up_n _ _ _ _ he]
            refine ⟨(c1 i (by omega)).1, fun k hk => ?_⟩
            rw [ltR, st_lw, if_neg (by omega), if_neg (by omega)]
            exact (c1 i (by omega)).2 k hk
      · obtain ⟨⟨g1, g2, g3, g4, g5⟩, g6, g7⟩ := sOK_mono hS (show D ≤ D + 60 by omega)
        refine ⟨⟨⟨g1.1, g1.2.1, g1.2.2.1, g1.2.2.2.1, g1.2.2.2.2.1, ⟨by show xnl S.1 + 1 ≤ 4; omega, fun i hi => ?_⟩, g1.2.2.2.2.2.2⟩, Nat.zero_le _, g3, fun k hk => absurd hk (Nat.not_lt_zero _), g5⟩, g6, g7⟩
        have hi : i < xnl S.1 + 1 := hi
        show (va_up (xll S.1) (xnl S.1) S.2.1 i = 3 ∨ va_up (xll S.1) (xnl S.1) S.2.1 i = 5) ∧ ∀ k, k < va_up (xll S.1) (xnl S.1) S.2.1 i → st_lw (xlw S.1) (xnl S.1) S.2.1 S.2.2.1 (5 * i + k) < 8
        by_cases he : i = xnl S.1
        · rw [he, up_s]
          refine ⟨hn, fun k hk => ?_⟩
          have := hsg k hk
          rw [st_lw, if_pos (by omega), show 5 * xnl S.1 + k - 5 * xnl S.1 = k by omega]
          omega
        · have h5 := hl.2 i (by omega)
          rw [up_n _ _ _ _ he]
          refine ⟨h5.1, fun k hk => ?_⟩
          rw [st_lw, if_neg (by omega)]
          exact h5.2 k hk
  · exact bI_of hS (-5) (cSt_id (fun X I J h => cl_listN X I J S.2.1 (so_n hS) (ci_n h) (by rw [ci_t h, ci_so h, ci_sg h]; exact hb))) (mSt_id (fun X I J h => mo_listN X I J S.2.1 (so_n hS) (mi_n h) (by rw [mi_t h, mi_so h, mi_sg h]; exact hb)))
