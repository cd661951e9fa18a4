/-! BOTH, call by call: what changes -/
theorem mAt_c {I I' : Nat → Nat → Int32} {A : rS} (h : mAt I A) (hf : ∀ a, 63 ≤ a → a ≤ 71 → I' a = I a) (hj : ∀ j, j ≤ 13 → I' 62 j = I 62 j) : mAt I' A := by
  unfold mAt at *
  rw [hj 0 (by omega), hj 7 (by omega), hj 8 (by omega), hj 9 (by omega), hj 10 (by omega), hj 13 (by omega), hf 63 (by omega) (by omega), hf 64 (by omega) (by omega), hf 65 (by omega) (by omega), hf 66 (by omega) (by omega), hf 67 (by omega) (by omega), hf 68 (by omega) (by omega), hf 69 (by omega) (by omega), hf 70 (by omega) (by omega), hf 71 (by omega) (by omega)]
  exact h
theorem mInv_m {I I' : Nat → Nat → Int32} {S S' : gS} (h : mInv I S) (hA : mAt I' S'.1) (hn : I' 62 15 = nI S'.2.1) (hg : I' 72 = nR S'.2.2.1) (hi : S'.2.2.2 = S.2.2.2) (hf : ∀ a, 73 ≤ a → a ≤ 81 → I' a = I a) : mInv I' S' := by
  refine ⟨hA, ⟨hn, hg⟩, ?_, ?_⟩
  · rw [hi, hf 80 (by omega) (by omega), hf 81 (by omega) (by omega)]; exact h.2.2.1
  · have hz := mi_z h
    unfold mzr at *
    rw [hf 75 (by omega) (by omega), hf 76 (by omega) (by omega), hf 77 (by omega) (by omega)]
    exact hz
theorem b_wipe {D : Nat} {S : gS} (hS : sOK D S) : bI E_X9_wipe E_X10_wipe [] D S := by
  refine ⟨nI S.2.1, (S.1, 0, S.2.2), fun X I J h => ?_, fun X I J h => ?_, ?_⟩
  · have hR := cl_wipe X I J
    rw [ci_n h] at hR
    exact ⟨_, J, hR, cInv_m h (rAt_c h.1 (fun a _ _ => up_n _ _ _ _ (by omega))) (by rw [up_s, ud_s]) (by rw [up_n _ _ _ _ (by omega)]; exact ci_sg (S := S) h) rfl (fun a _ _ => up_n _ _ _ _ (by omega)) (zInv_c (ci_z h) (up_n _ _ _ _ (by omega)) (up_n _ _ _ _ (by omega))), fun a _ => up_n _ _ _ _ (by omega)⟩
  · have hR := mo_wipe X I J
    rw [mi_n h] at hR
    exact ⟨_, J, hR, mInv_m h (mAt_c h.1 (fun a _ _ => up_n _ _ _ _ (by omega)) (fun j hj => by rw [up_s, ud_n _ _ _ _ (by omega)])) (by rw [up_s, ud_s]) (by rw [up_n _ _ _ _ (by omega)]; exact mi_sg (S := S) h) rfl (fun a _ _ => up_n _ _ _ _ (by omega)), fun a _ => up_n _ _ _ _ (by omega)⟩
  · obtain ⟨⟨g1, g2, g3, g4, g5⟩, g6, g7⟩ := sOK_mono hS (show D ≤ D + 60 by omega)
    exact ⟨⟨g1, Nat.zero_le _, g3, fun k hk => absurd hk (Nat.not_lt_zero _), g5⟩, g6, g7⟩
theorem b_say {D : Nat} {S : gS} (hS : sOK D S) (s : Int32) : bI E_X9_say E_X10_say [.int s] D S := by
  cases hb : sp_in s (nI 33) (nI 126)
  · exact bI_of hS (-2) (cSt_id (fun X I J h => cl_sayN X I J s hb)) (mSt_id (fun X I J h => mo_sayN X I J s hb))
  · by_cases h60 : S.2.1 = 60
    · exact bI_of hS (-4) (cSt_id (fun X I J h => cl_sayF X I J s hb (by rw [ci_n h, h60]))) (mSt_id (fun X I J h => mo_sayF X I J s hb (by rw [mi_n h, h60])))
    · have hn : S.2.1 < 60 := by have := so_n hS; omega
      obtain ⟨k, hk1, hk2, rfl⟩ := in_ex (by omega) (by omega) hb
      refine ⟨nI (S.2.1 + 1), (S.1, S.2.1 + 1, va_up S.2.2.1 S.2.1 k, S.2.2.2), fun X I J h => ?_, fun X I J h => ?_, ?_⟩
      · have hR := cl_sayY X I J (nI k) S.2.1 hn hb (ci_n h)
        exact ⟨_, J, hR, cInv_m h (rAt_c h.1 (fun a _ _ => by rw [up_n _ _ _ _ (by omega), up_n _ _ _ _ (by omega)])) (by rw [up_s, ud_s]) (by rw [up_n _ _ _ _ (by omega), up_s, ci_sg h, nR_u]) rfl (fun a _ _ => by rw [up_n _ _ _ _ (by omega), up_n _ _ _ _ (by omega)]) (zInv_c (ci_z h) (by rw [up_n _ _ _ _ (by omega), up_n _ _ _ _ (by omega)]) (by rw [up_n _ _ _ _ (by omega), up_n _ _ _ _ (by omega)])), fun a _ => by rw [up_n _ _ _ _ (by omega), up_n _ _ _ _ (by omega)]⟩
      · have hR := mo_sayY X I J (nI k) S.2.1 hn hb (mi_n h)
        exact ⟨_, J, hR, mInv_m h (mAt_c h.1 (fun a _ _ => by rw [up_n _ _ _ _ (by omega), up_n _ _ _ _ (by omega)]) (fun j hj => by rw [up_s, ud_n _ _ _ _ (by omega)])) (by rw [up_s, ud_s]) (by rw [up_n _ _ _ _ (by omega), up_s, mi_sg h, nR_u]) rfl (fun a _ _ => by rw [up_n _ _ _ _ (by omega), up_n _ _ _ _ (by omega)]), fun a _ => by rw [up_n _ _ _ _ (by omega), up_n _ _ _ _ (by omega)]⟩
      · obtain ⟨⟨g1, g2, g3, g4, g5⟩, g6, g7⟩ := sOK_mono hS (show D ≤ D + 60 by omega)
        refine ⟨⟨g1, by show S.2.1 + 1 ≤ 60; omega, fun j => ?_, fun j hj => ?_, g5⟩, g6, g7⟩
        · show va_up S.2.2.1 S.2.1 k j < 127
          by_cases h : j = S.2.1
          · rw [h, up_s]; omega
          · rw [up_n _ _ _ _ h]; exact g3 j
        · show 33 ≤ va_up S.2.2.1 S.2.1 k j
          by_cases h : j = S.2.1
          · rw [h, up_s]; omega
          · rw [up_n _ _ _ _ h]; exact g4 j (by have : j < S.2.1 + 1 := hj; omega)
/-- the class changes its cell 3 alone; the reference its cell 62 alone -/
theorem three_c {I : Nat → Nat → Int32} {S : gS} {A : rS} {f : Nat → Int32} (h : cInv I S) (hr : rAt (va_up I 3 f) 3 A) : cInv (va_up I 3 f) (A, S.2) := cInv_m (S' := (A, S.2)) h hr (by rw [up_n _ _ _ _ (by omega)]; exact ci_n (S := S) h) (by rw [up_n _ _ _ _ (by omega)]; exact ci_sg (S := S) h) rfl (fun a _ _ => up_n _ _ _ _ (by omega)) (zInv_c (ci_z h) (up_n _ _ _ _ (by omega)) (up_n _ _ _ _ (by omega)))
theorem m_62 {I : Nat → Nat → Int32} {S : gS} {A : rS} {f : Nat → Int32} (h : mInv I S) (hr : mAt (va_up I 62 f) A) (h15 : f 15 = I 62 15) : mInv (va_up I 62 f) (A, S.2) := mInv_m (S' := (A, S.2)) h hr (by rw [up_s, h15]; exact mi_n (S := S) h) (by rw [up_n _ _ _ _ (by omega)]; exact mi_sg (S := S) h) rfl (fun a _ _ => up_n _ _ _ _ (by omega))
theorem sOK_A {D : Nat} {S : gS} {A : rS} (hS : sOK D S) (h1 : rOK (D + 60) A) (h2 : rO2 A) : sOK (D + 60) (A, S.2) := by
  obtain ⟨⟨g1, g2, g3, g4, g5⟩, g6, g7⟩ := sOK_mono hS (show D ≤ D + 60 by omega)
  exact ⟨⟨h1, g2, g3, g4, g5⟩, h2, g7⟩
def st_t (A : rS) (t : Int32) : rS := ((t, A.1.2), A.2)
theorem b_strikeOut {D : Nat} {S : gS} (hS : sOK D S) (w : Int32) : bI E_X9_strikeOut E_X10_strikeOut [.int w] D S := by
  cases hb : sp_has (xt S.1) w
  · exact bI_of hS (-1) (cSt_id (fun X I J h => cl_strikeN X I J w (by rw [ci_t h]; exact hb))) (mSt_id (fun X I J h => mo_strikeN X I J w (by rw [mi_t h]; exact hb)))
  · obtain ⟨k, hk, rfl⟩ := has_ex hb
    have hz : ∀ i, 8 ≤ i → i < 32 → bt (xt S.1 &&& ((nI 1 <<< (nI k &&& 31)) ^^^ (-1))) i = false := fun i h8 hi => by rw [b_and, so_t hS i h8 hi, Bool.false_and]
    obtain ⟨d, hd, he⟩ := t_ex hz
    refine ⟨nI (pcn d), (st_t S.1 (nI d), S.2), fun X I J h => ?_, fun X I J h => ?_, ?_⟩
    · have hR := cl_strikeY X I J (nI k) (by rw [ci_t h]; exact hb)
      rw [ci_t h, he, pcn_bc d hd] at hR
      refine ⟨_, J, hR, three_c h ?_, fun a _ => up_n _ _ _ _ (by omega)⟩
      obtain ⟨⟨a1, a2, a3, a4, a5, a6⟩, h2⟩ := h.1
      refine ⟨⟨by rw [up_s, ud_s]; rfl, ?_, ?_, ?_, ?_, ?_⟩, ?_⟩
      · rw [up_s, ud_n _ _ _ _ (by omega)]; exact a2
      · rw [up_s, ud_n _ _ _ _ (by omega)]; exact a3
      · rw [up_s, ud_n _ _ _ _ (by omega)]; exact a4
      · rw [up_s, ud_n _ _ _ _ (by omega)]; exact a5
      · rw [up_s, ud_n _ _ _ _ (by omega)]; exact a6
      · exact h2
    · have hR := mo_strikeY X I J (nI k) d hd (by rw [mi_t h]; exact hb) (by rw [mi_t h]; exact he)
      refine ⟨_, J, hR, m_62 h ?_ (ud_n _ _ _ _ (by omega)), fun a _ => up_n _ _ _ _ (by omega)⟩
      obtain ⟨⟨a1, a2, a3, a4, a5, a6⟩, h2⟩ := h.1
      refine ⟨⟨by rw [up_s, ud_s]; rfl, ?_, ?_, ?_, ?_, ?_⟩, ?_⟩
      · rw [up_s, ud_n _ _ _ _ (by omega)]; exact a2
      · rw [up_s, ud_n _ _ _ _ (by omega)]; exact a3
      · rw [up_s, ud_n _ _ _ _ (by omega)]; exact a4
      · rw [up_s, ud_n _ _ _ _ (by omega)]; exact a5
      · rw [up_s, ud_n _ _ _ _ (by omega)]; exact a6
      · exact h2
    · have g := rOK_mono hS.1.1 (show D ≤ D + 60 by omega)
      refine sOK_A hS ⟨g.1, fun i h8 hi => ?_, g.2.2⟩ hS.2.1
      show bt (nI d) i = false
      rw [← he]; exact hz i h8 hi
