/-! BOTH, call by call: what changes, 3 -/
def st_fa (A : rS) (f : Nat → Nat) : rS := ((A.1.1, A.1.2.1, f, A.1.2.2.2), A.2)
theorem up2_le {f : Nat → Nat} {i j v M : Nat} (hf : ∀ k, f k ≤ M) (hv : v ≤ M) : ∀ k, va_up (va_up f i v) j v k ≤ M := fun k => by
  by_cases h1 : k = j
  · rw [h1, up_s]; exact hv
  · rw [up_n _ _ _ _ h1]
    by_cases h2 : k = i
    · rw [h2, up_s]; exact hv
    · rw [up_n _ _ _ _ h2]; exact hf k
theorem b_far {D : Nat} {S : gS} (hS : sOK D S) (a b v : Int32) : bI E_X9_far E_X10_far [.int a, .int b, .int v] D S := by
  have g := rOK_mono hS.1.1 (show D ≤ D + 60 by omega)
  by_cases hb : sp_lt 5 a = true ∧ sp_lt 5 b = true ∧ ¬ a = b ∧ sp_in v (nI 0) (nI 9) = true
  · obtain ⟨q1, q2, q3, q4⟩ := hb
    obtain ⟨a, ha, rfl⟩ := lt_ex (by omega) q1
    obtain ⟨b, hb, rfl⟩ := lt_ex (by omega) q2
    obtain ⟨v, -, hv, rfl⟩ := in_ex (by omega) (by omega) q4
    have hab : ¬ a = b := fun h => q3 (by rw [h])
    refine ⟨nI (xfa S.1 (5 * a + b)), (st_fa S.1 (va_up (va_up (xfa S.1) (5 * a + b) v) (5 * b + a) v), S.2), fun X I J h => ?_, fun X I J h => ?_, ?_⟩
    · have hR := cl_farY X I J a b (nI v) ha hb hab q4
      rw [ci_fa h, nR_k, nR_u, nR_u, show a * 5 + b = 5 * a + b by omega, show b * 5 + a = 5 * b + a by omega] at hR
      refine ⟨_, J, hR, cInv_m h ?_ (by rw [up_n _ _ _ _ (by omega)]; exact ci_n (S := S) h) (by rw [up_n _ _ _ _ (by omega)]; exact ci_sg (S := S) h) rfl (fun a _ _ => up_n _ _ _ _ (by omega)) (zInv_c (ci_z h) (up_n _ _ _ _ (by omega)) (up_n _ _ _ _ (by omega))), fun a _ => up_n _ _ _ _ (by omega)⟩
      obtain ⟨h1, ⟨b1, b2, b3, b4, b5, b6⟩, c1, c2⟩ := h.1
      exact ⟨h1, ⟨b1, b2, b3, b4, b5, by rw [up_s]; rfl⟩, c1, c2⟩
    · have hR := mo_farY X I J a b (nI v) ha hb hab q4
      rw [mi_fa h, nR_k, nR_u, nR_u] at hR
      refine ⟨_, J, hR, mInv_m h ?_ (by rw [up_n _ _ _ _ (by omega)]; exact mi_n (S := S) h) (by rw [up_n _ _ _ _ (by omega)]; exact mi_sg (S := S) h) rfl (fun a _ _ => up_n _ _ _ _ (by omega)), fun a _ => up_n _ _ _ _ (by omega)⟩
      obtain ⟨h1, ⟨b1, b2, b3, b4, b5, b6⟩, c1, c2⟩ := h.1
      exact ⟨h1, ⟨b1, b2, b3, b4, b5, by rw [up_s]; rfl⟩, c1, c2⟩
    · refine sOK_A hS ⟨⟨⟨g.1.1.1, up2_le g.1.1.2.1 hv, g.1.1.2.2⟩, g.1.2⟩, g.2.1, g.2.2.1, g.2.2.2.1, ⟨g.2.2.2.2.1.1, fun k hk => ?_⟩, g.2.2.2.2.2⟩ (fun m hm => ?_)
      · show va_up (va_up (xfa S.1) (5 * a + b) v) (5 * b + a) v k = 0
        rw [up_n _ _ _ _ (by omega), up_n _ _ _ _ (by omega)]
        exact g.2.2.2.2.1.2 k hk
      · show va_up (va_up (xfa S.1) (5 * a + b) v) (5 * b + a) v (6 * m) = 0
        rw [up_n _ _ _ _ (by omega), up_n _ _ _ _ (by omega)]
        exact hS.2.1 m hm
  · exact bI_of hS (-2) (cSt_id (fun X I J h => cl_farN X I J a b v hb)) (mSt_id (fun X I J h => mo_farN X I J a b v (by rw [← lt_in 5 (by omega) (by omega), ← lt_in 5 (by omega) (by omega)]; exact hb)))
def st_seen (A : rS) (f z : Nat) : rS := (A.1, A.2.1, A.2.2.1, A.2.2.2.1, (va_up (xsf A) (xns A) f, va_up (xss A) (xns A) z, xns A + 1))
theorem b_seen {D : Nat} {S : gS} (hS : sOK D S) (f z : Int32) : bI E_X9_seen E_X10_seen [.int f, .int z] D S := by
  have g := rOK_mono hS.1.1 (show D ≤ D + 60 by omega)
  have hs := so_s hS
  by_cases hb : sp_lt 4 f = true ∧ sp_in z (nI 0) (nI 255) = true
  · obtain ⟨q1, q2⟩ := hb
    have q1' : sp_in f (nI 0) (nI 3) = true := by rw [← lt_in 4 (by omega) (by omega)]; exact q1
    by_cases h6 : xns S.1 = 6
    · exact bI_of hS (-4) (cSt_id (fun X I J h => cl_seenF X I J f z q1 q2 (by rw [ci_ns h, h6]))) (mSt_id (fun X I J h => mo_seenF X I J f z q1' q2 (by rw [mi_ns h, h6])))
    · have hn : xns S.1 < 6 := by omega
      obtain ⟨f, hf, rfl⟩ := lt_ex (by omega) q1
      obtain ⟨z, -, hz, rfl⟩ := in_ex (by omega) (by omega) q2
      refine ⟨nI (xns S.1 + 1), (st_seen S.1 f z, S.2), fun X I J h => ?_, fun X I J h => ?_, ?_⟩
      · have hR := cl_seenY X I J (nI f) (nI z) (xns S.1) hn q1 q2 (ci_ns h)
        refine ⟨_, J, hR, cInv_m h ?_ (by rw [up_n _ _ _ _ (by omega), up_n _ _ _ _ (by omega), up_n _ _ _ _ (by omega)]; exact ci_n (S := S) h) (by rw [up_n _ _ _ _ (by omega), up_n _ _ _ _ (by omega), up_n _ _ _ _ (by omega)]; exact ci_sg (S := S) h) rfl (fun a _ _ => by rw [up_n _ _ _ _ (by omega), up_n _ _ _ _ (by omega), up_n _ _ _ _ (by omega)]) (zInv_c (ci_z h) (by rw [up_n _ _ _ _ (by omega), up_n _ _ _ _ (by omega), up_n _ _ _ _ (by omega)]) (by rw [up_n _ _ _ _ (by omega), up_n _ _ _ _ (by omega), up_n _ _ _ _ (by omega)])), fun a _ => by rw [up_n _ _ _ _ (by omega), up_n _ _ _ _ (by omega), up_n _ _ _ _ (by omega)]⟩
        obtain ⟨⟨a1, a2, a3, a4, a5, a6⟩, hb, c1, c2⟩ := h.1
        refine ⟨⟨?_, ?_, ?_, ?_, ?_, by rw [up_s, ud_s]; rfl⟩, hb, c1, fun k hk => ?_⟩
        · rw [up_s, ud_n _ _ _ _ (by omega)]; exact a1
        · rw [up_s, ud_n _ _ _ _ (by omega)]; exact a2
        · rw [up_s, ud_n _ _ _ _ (by omega)]; exact a3
        · rw [up_s, ud_n _ _ _ _ (by omega)]; exact a4
        · rw [up_s, ud_n _ _ _ _ (by omega)]; exact a5
        · have hk : k < xns S.1 + 1 := hk
          show upd (I 12) (xns S.1) (nI f) k = nI (va_up (xsf S.1) (xns S.1) f k) ∧ upd (I 13) (xns S.1) (nI z) k = nI (va_up (xss S.1) (xns S.1) z k)
          by_cases he : k = xns S.1
          · rw [he, ud_s, ud_s, up_s, up_s]; exact ⟨rfl, rfl⟩
          · rw [ud_n _ _ _ _ he, ud_n _ _ _ _ he, up_n _ _ _ _ he, up_n _ _ _ _ he]
            exact c2 k (by omega)
      · have hR := mo_seenY X I J (nI f) (nI z) (xns S.1) hn q1' q2 (mi_ns h)
        refine ⟨_, J, hR, mInv_m h ?_ (by rw [up_s, ud_n _ _ _ _ (by omega)]; exact mi_n (S := S) h) (by rw [up_n _ _ _ _ (by omega), up_n _ _ _ _ (by omega)]; exact mi_sg (S := S) h) rfl (fun a _ _ => by rw [up_n _ _ _ _ (by omega), up_n _ _ _ _ (by omega)]), fun a _ => by rw [up_n _ _ _ _ (by omega), up_n _ _ _ _ (by omega)]⟩
        obtain ⟨⟨a1, a2, a3, a4, a5, a6⟩, hb, c1, c2⟩ := h.1
        refine ⟨⟨?_, ?_, ?_, ?_, ?_, by rw [up_s, ud_s]; rfl⟩, hb, c1, fun k hk => ?_⟩
        · rw [up_s, ud_n _ _ _ _ (by omega)]; exact a1
        · rw [up_s, ud_n _ _ _ _ (by omega)]; exact a2
        · rw [up_s, ud_n _ _ _ _ (by omega)]; exact a3
        · rw [up_s, ud_n _ _ _ _ (by omega)]; exact a4
        · rw [up_s, ud_n _ _ _ _ (by omega)]; exact a5
        · have hk : k < xns S.1 + 1 := hk
          show upd (upd (I 71) (2 * xns S.1) (nI f)) (2 * xns S.1 + 1) (nI z) (2 * k) = nI (va_up (xsf S.1) (xns S.1) f k) ∧ upd (upd (I 71) (2 * xns S.1) (nI f)) (2 * xns S.1 + 1) (nI z) (2 * k + 1) = nI (va_up (xss S.1) (xns S.1) z k)
          by_cases he : k = xns S.1
          · rw [he, ud_n _ _ _ _ (by omega), ud_s, ud_s, up_s, up_s]; exact ⟨rfl, rfl⟩
          · rw [ud_n _ _ _ _ (by omega), ud_n _ _ _ _ (by omega), ud_n _ _ _ _ (by omega), ud_n _ _ _ _ (by omega), up_n _ _ _ _ he, up_n _ _ _ _ he]
            exact c2 k (by omega)
      · refine sOK_A hS ⟨g.1, g.2.1, g.2.2.1, g.2.2.2.1, g.2.2.2.2.1, g.2.2.2.2.2.1, ⟨by show xns S.1 + 1 ≤ 6; omega, fun k hk => ?_⟩⟩ hS.2.1
        have hk : k < xns S.1 + 1 := hk
        show va_up (xsf S.1) (xns S.1) f k < 4 ∧ va_up (xss S.1) (xns S.1) z k < 256
        by_cases he : k = xns S.1
        · rw [he, up_s, up_s]; omega
        · rw [up_n _ _ _ _ he, up_n _ _ _ _ he]
          exact hs.2 k (by omega)
  · refine bI_of hS (if sp_lt 4 f = false then -1 else -2) (cSt_id (fun X I J h => cl_seenN X I J f z hb)) (mSt_id (fun X I J h => ?_))
    have hR := mo_seenN X I J f z (by rw [← lt_in 4 (by omega) (by omega)]; exact hb)
    rw [← lt_in 4 (by omega) (by omega)] at hR
    exact hR
