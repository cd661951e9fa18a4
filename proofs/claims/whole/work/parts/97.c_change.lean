/-! BOTH, call by call: what changes, 2 -/
def st_cap (A : rS) (v : Nat) : rS := ((A.1.1, A.1.2.1, A.1.2.2.1, v, A.1.2.2.2.2), A.2)
def st_dr (A : rS) (v : Nat) : rS := ((A.1.1, A.1.2.1, A.1.2.2.1, A.1.2.2.2.1, v), A.2)
def st_nl (A : rS) : rS := (A.1, A.2.1, A.2.2.1, (A.2.2.2.1.1, A.2.2.2.1.2.1, 0), A.2.2.2.2)
def st_ns (A : rS) : rS := (A.1, A.2.1, A.2.2.1, A.2.2.2.1, (A.2.2.2.2.1, A.2.2.2.2.2.1, 0))
theorem b_set {D : Nat} {S : gS} (hS : sOK D S) (q v : Int32) : bI E_X9_set E_X10_set [.int q, .int v] D S := by
  have g := rOK_mono hS.1.1 (show D ≤ D + 60 by omega)
  by_cases h0 : q = nI 0 ∧ sp_in v (nI 1) (nI 99) = true
  · obtain ⟨rfl, hv⟩ := h0
    obtain ⟨k, hk1, hk2, rfl⟩ := in_ex (by omega) (by omega) hv
    refine ⟨nI (xcap S.1), (st_cap S.1 k, S.2), fun X I J h => ?_, fun X I J h => ?_, ?_⟩
    · have hR := cl_set0 X I J (nI k) hv
      rw [ci_cap h] at hR
      refine ⟨_, J, hR, three_c h ?_, fun a _ => up_n _ _ _ _ (by omega)⟩
      obtain ⟨⟨a1, a2, a3, a4, a5, a6⟩, h2⟩ := h.1
      refine ⟨⟨?_, by rw [up_s, ud_s]; rfl, ?_, ?_, ?_, ?_⟩, ?_⟩
      · rw [up_s, ud_n _ _ _ _ (by omega)]; exact a1
      · rw [up_s, ud_n _ _ _ _ (by omega)]; exact a3
      · rw [up_s, ud_n _ _ _ _ (by omega)]; exact a4
      · rw [up_s, ud_n _ _ _ _ (by omega)]; exact a5
      · rw [up_s, ud_n _ _ _ _ (by omega)]; exact a6
      · exact h2
    · obtain ⟨I', hR, rfl⟩ := mo_set0 X I J (nI k) hv
      rw [mi_cap h] at hR
      refine ⟨_, J, hR, m_62 h ?_ (ud_n _ _ _ _ (by omega)), fun a _ => up_n _ _ _ _ (by omega)⟩
      obtain ⟨⟨a1, a2, a3, a4, a5, a6⟩, h2⟩ := h.1
      refine ⟨⟨?_, by rw [up_s, ud_s]; rfl, ?_, ?_, ?_, ?_⟩, ?_⟩
      · rw [up_s, ud_n _ _ _ _ (by omega)]; exact a1
      · rw [up_s, ud_n _ _ _ _ (by omega)]; exact a3
      · rw [up_s, ud_n _ _ _ _ (by omega)]; exact a4
      · rw [up_s, ud_n _ _ _ _ (by omega)]; exact a5
      · rw [up_s, ud_n _ _ _ _ (by omega)]; exact a6
      · exact h2
    · exact sOK_A hS ⟨⟨⟨g.1.1.1, g.1.1.2.1, hk2, g.1.1.2.2.2⟩, hk1⟩, g.2⟩ hS.2.1
  · by_cases h1 : q = nI 1 ∧ sp_in v (nI 1) (nI 9) = true
    · obtain ⟨rfl, hv⟩ := h1
      obtain ⟨k, hk1, hk2, rfl⟩ := in_ex (by omega) (by omega) hv
      refine ⟨nI (xdr S.1), (st_dr S.1 k, S.2), fun X I J h => ?_, fun X I J h => ?_, ?_⟩
      · have hR := cl_set1 X I J (nI k) hv
        rw [ci_dr h] at hR
        refine ⟨_, J, hR, three_c h ?_, fun a _ => up_n _ _ _ _ (by omega)⟩
        obtain ⟨⟨a1, a2, a3, a4, a5, a6⟩, h2⟩ := h.1
        refine ⟨⟨?_, ?_, by rw [up_s, ud_s]; rfl, ?_, ?_, ?_⟩, ?_⟩
        · rw [up_s, ud_n _ _ _ _ (by omega)]; exact a1
        · rw [up_s, ud_n _ _ _ _ (by omega)]; exact a2
        · rw [up_s, ud_n _ _ _ _ (by omega)]; exact a4
        · rw [up_s, ud_n _ _ _ _ (by omega)]; exact a5
        · rw [up_s, ud_n _ _ _ _ (by omega)]; exact a6
        · exact h2
      · have hR := mo_set1 X I J (nI k) hv
        rw [mi_dr h] at hR
        refine ⟨_, J, hR, m_62 h ?_ (ud_n _ _ _ _ (by omega)), fun a _ => up_n _ _ _ _ (by omega)⟩
        obtain ⟨⟨a1, a2, a3, a4, a5, a6⟩, h2⟩ := h.1
        refine ⟨⟨?_, ?_, by rw [up_s, ud_s]; rfl, ?_, ?_, ?_⟩, ?_⟩
        · rw [up_s, ud_n _ _ _ _ (by omega)]; exact a1
        · rw [up_s, ud_n _ _ _ _ (by omega)]; exact a2
        · rw [up_s, ud_n _ _ _ _ (by omega)]; exact a4
        · rw [up_s, ud_n _ _ _ _ (by omega)]; exact a5
        · rw [up_s, ud_n _ _ _ _ (by omega)]; exact a6
        · exact h2
      · exact sOK_A hS ⟨⟨⟨g.1.1.1, g.1.1.2.1, g.1.1.2.2.1, hk1, hk2⟩, g.1.2⟩, g.2⟩ hS.2.1
    · exact bI_of hS (-2) (cSt_id (fun X I J h => cl_setN X I J q v h0 h1)) (mSt_id (fun X I J h => mo_setN X I J q v h0 h1))
theorem in01 {q : Int32} : sp_in q (nI 0) (nI 1) = false ↔ ¬ q = nI 0 ∧ ¬ q = nI 1 := by
  constructor
  · intro h
    exact ⟨fun h2 => by rw [h2] at h; revert h; decide, fun h2 => by rw [h2] at h; revert h; decide⟩
  · rintro ⟨h1, h2⟩
    cases hb : sp_in q (nI 0) (nI 1)
    · rfl
    · obtain ⟨k, -, hk, rfl⟩ := in_ex (by omega) (by omega) hb
      exfalso
      rcases (by omega : k = 0 ∨ k = 1) with rfl | rfl
      · exact h1 rfl
      · exact h2 rfl
theorem b_forget {D : Nat} {S : gS} (hS : sOK D S) (q : Int32) : bI E_X9_forget E_X10_forget [.int q] D S := by
  have g := rOK_mono hS.1.1 (show D ≤ D + 60 by omega)
  by_cases h0 : q = nI 0
  · subst h0
    refine ⟨nI (xnl S.1), (st_nl S.1, S.2), fun X I J h => ?_, fun X I J h => ?_, ?_⟩
    · have hR := cl_forget0 X I J
      rw [ci_nl h] at hR
      refine ⟨_, J, hR, three_c h ?_, fun a _ => up_n _ _ _ _ (by omega)⟩
      obtain ⟨⟨a1, a2, a3, a4, a5, a6⟩, h2, h3, h4⟩ := h.1
      refine ⟨⟨?_, ?_, ?_, ?_, by rw [up_s, ud_s]; rfl, ?_⟩, h2, fun i hi => absurd hi (Nat.not_lt_zero _), h4⟩
      · rw [up_s, ud_n _ _ _ _ (by omega)]; exact a1
      · rw [up_s, ud_n _ _ _ _ (by omega)]; exact a2
      · rw [up_s, ud_n _ _ _ _ (by omega)]; exact a3
      · rw [up_s, ud_n _ _ _ _ (by omega)]; exact a4
      · rw [up_s, ud_n _ _ _ _ (by omega)]; exact a6
    · have hR := mo_forget0 X I J
      rw [mi_nl h] at hR
      refine ⟨_, J, hR, m_62 h ?_ (ud_n _ _ _ _ (by omega)), fun a _ => up_n _ _ _ _ (by omega)⟩
      obtain ⟨⟨a1, a2, a3, a4, a5, a6⟩, h2, h3, h4⟩ := h.1
      refine ⟨⟨?_, ?_, ?_, ?_, by rw [up_s, ud_s]; rfl, ?_⟩, h2, fun i hi => absurd hi (Nat.not_lt_zero _), h4⟩
      · rw [up_s, ud_n _ _ _ _ (by omega)]; exact a1
      · rw [up_s, ud_n _ _ _ _ (by omega)]; exact a2
      · rw [up_s, ud_n _ _ _ _ (by omega)]; exact a3
      · rw [up_s, ud_n _ _ _ _ (by omega)]; exact a4
      · rw [up_s, ud_n _ _ _ _ (by omega)]; exact a6
    · exact sOK_A hS ⟨g.1, g.2.1, g.2.2.1, g.2.2.2.1, g.2.2.2.2.1, ⟨Nat.zero_le _, fun i hi => absurd hi (Nat.not_lt_zero _)⟩, g.2.2.2.2.2.2⟩ hS.2.1
  · by_cases h1 : q = nI 1
    · subst h1
      refine ⟨nI (xns S.1), (st_ns S.1, S.2), fun X I J h => ?_, fun X I J h => ?_, ?_⟩
      · have hR := cl_forget1 X I J
        rw [ci_ns h] at hR
        refine ⟨_, J, hR, three_c h ?_, fun a _ => up_n _ _ _ _ (by omega)⟩
        obtain ⟨⟨a1, a2, a3, a4, a5, a6⟩, h2, h3, h4⟩ := h.1
        refine ⟨⟨?_, ?_, ?_, ?_, ?_, by rw [up_s, ud_s]; rfl⟩, h2, h3, fun i hi => absurd hi (Nat.not_lt_zero _)⟩
        · rw [up_s, ud_n _ _ _ _ (by omega)]; exact a1
        · rw [up_s, ud_n _ _ _ _ (by omega)]; exact a2
        · rw [up_s, ud_n _ _ _ _ (by omega)]; exact a3
        · rw [up_s, ud_n _ _ _ _ (by omega)]; exact a4
        · rw [up_s, ud_n _ _ _ _ (by omega)]; exact a5
      · have hR := mo_forget1 X I J
        rw [mi_ns h] at hR
        refine ⟨_, J, hR, m_62 h ?_ (ud_n _ _ _ _ (by omega)), fun a _ => up_n _ _ _ _ (by omega)⟩
        obtain ⟨⟨a1, a2, a3, a4, a5, a6⟩, h2, h3, h4⟩ := h.1
        refine ⟨⟨?_, ?_, ?_, ?_, ?_, by rw [up_s, ud_s]; rfl⟩, h2, h3, fun i hi => absurd hi (Nat.not_lt_zero _)⟩
        · rw [up_s, ud_n _ _ _ _ (by omega)]; exact a1
        · rw [up_s, ud_n _ _ _ _ (by omega)]; exact a2
        · rw [up_s, ud_n _ _ _ _ (by omega)]; exact a3
        · rw [up_s, ud_n _ _ _ _ (by omega)]; exact a4
        · rw [up_s, ud_n _ _ _ _ (by omega)]; exact a5
      · exact sOK_A hS ⟨g.1, g.2.1, g.2.2.1, g.2.2.2.1, g.2.2.2.2.1, g.2.2.2.2.2.1, ⟨Nat.zero_le _, fun i hi => absurd hi (Nat.not_lt_zero _)⟩⟩ hS.2.1
    · exact bI_of hS (-2) (cSt_id (fun X I J h => cl_forgetN X I J q h0 h1)) (mSt_id (fun X I J h => mo_forgetN X I J q (in01.mpr ⟨h0, h1⟩)))
