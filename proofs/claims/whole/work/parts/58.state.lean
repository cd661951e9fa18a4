/-! THE STATE: a republic (WORDS, SORTS, FAR, CAP, DRIFT; RHYMES; RENTS, HOLDERS, MEANINGS, DAYS; the LIST; SIGHTS), the PAD, the IMAGES -/
abbrev rS : Type := dC × (Nat → Nat) × dS × ((Nat → Nat) × (Nat → Nat) × Nat) × ((Nat → Nat) × (Nat → Nat) × Nat)
abbrev gS : Type := rS × Nat × (Nat → Nat) × (Nat → Option rS)
def xt (A : rS) : Int32 := A.1.1
def xso (A : rS) : Nat → Nat := A.1.2.1
def xfa (A : rS) : Nat → Nat := A.1.2.2.1
def xcap (A : rS) : Nat := A.1.2.2.2.1
def xdr (A : rS) : Nat := A.1.2.2.2.2
def xrh (A : rS) : Nat → Nat := A.2.1
def xre (A : rS) : Nat → Nat := A.2.2.1.1
def xho (A : rS) : Nat → Nat := A.2.2.1.2.1
def xme (A : rS) : Nat → Nat := A.2.2.1.2.2.1
def xdy (A : rS) : Nat := A.2.2.1.2.2.2
def xlw (A : rS) : Nat → Nat := A.2.2.2.1.1
def xll (A : rS) : Nat → Nat := A.2.2.2.1.2.1
def xnl (A : rS) : Nat := A.2.2.2.1.2.2
def xsf (A : rS) : Nat → Nat := A.2.2.2.2.1
def xss (A : rS) : Nat → Nat := A.2.2.2.2.2.1
def xns (A : rS) : Nat := A.2.2.2.2.2.2
/-- the set of WORDS of the i-th of the LIST -/
def lset (A : rS) (i : Nat) : Int32 := wset (nR (fun k => xlw A (5 * i + k))) (xll A i)
def rOK (D : Nat) (A : rS) : Prop := (cOK A.1 ∧ 0 < xcap A) ∧ (∀ i, 8 ≤ i → i < 32 → bt (xt A) i = false) ∧ (∀ k, xrh A k < 4) ∧ (dOK A.2.2.1 ∧ xdy A ≤ D) ∧ ((∀ k, 8 ≤ k → xso A k = 0 ∧ xrh A k = 0 ∧ xre A k = 0 ∧ xho A k = 0 ∧ xme A k = 0) ∧ ∀ k, 25 ≤ k → xfa A k = 0) ∧ (xnl A ≤ 4 ∧ ∀ i, i < xnl A → (xll A i = 3 ∨ xll A i = 5) ∧ ∀ k, k < xll A i → xlw A (5 * i + k) < 8) ∧ (xns A ≤ 6 ∧ ∀ k, k < xns A → xsf A k < 4 ∧ xss A k < 256)
/-- a Republic of the class -/
def rAt (I : Nat → Nat → Int32) (r : Nat) (A : rS) : Prop := (I r 0 = xt A ∧ I r 8 = nI (xcap A) ∧ I r 9 = nI (xdr A) ∧ I r 10 = nI (xdy A) ∧ I r 12 = nI (xnl A) ∧ I r 15 = nI (xns A)) ∧ (I (r + 1) = nR (xso A) ∧ I (r + 2) = nR (xme A) ∧ I (r + 3) = nR (xrh A) ∧ I (r + 4) = nR (xre A) ∧ I (r + 5) = nR (xho A) ∧ I (r + 7) = nR (xfa A)) ∧ (∀ i, i < xnl A → I (r + 8) i = lset A i) ∧ (∀ k, k < xns A → I (r + 9) k = nI (xsf A k) ∧ I (r + 10) k = nI (xss A k))
def gOK (D : Nat) (S : gS) : Prop := rOK D S.1 ∧ S.2.1 ≤ 60 ∧ (∀ k, S.2.2.1 k < 127) ∧ (∀ k, k < S.2.1 → 33 ≤ S.2.2.1 k) ∧ ∀ j B, S.2.2.2 j = some B → rOK D B
/-- what lies about -/
def zInv (I : Nat → Nat → Int32) : Prop := (∃ w, I 53 = nR w) ∧ ∀ k, 8 ≤ k → I 20 k = 0
def cInv (I : Nat → Nat → Int32) (S : gS) : Prop := rAt I 3 S.1 ∧ I 1 1 = nI S.2.1 ∧ I 2 = nR S.2.2.1 ∧ (∀ j, j < 2 → match S.2.2.2 j with | none => I 48 j = 0 | some B => I 48 j = 1 ∧ rAt I (26 + 11 * j) B) ∧ zInv I
/-- nothing is changed but what lies about in the class -/
def cfr (I I' : Nat → Nat → Int32) : Prop := ∀ a, (a < 14 ∨ (24 < a ∧ a < 49)) ∨ 61 < a → I' a = I a
theorem cfr_rf (I : Nat → Nat → Int32) : cfr I I := fun _ _ => rfl
theorem rAt_c {I I' : Nat → Nat → Int32} {r : Nat} {A : rS} (h : rAt I r A) (hf : ∀ a, r ≤ a → a ≤ r + 10 → I' a = I a) : rAt I' r A := by
  unfold rAt at *
  rw [hf r (by omega) (by omega), hf (r + 1) (by omega) (by omega), hf (r + 2) (by omega) (by omega), hf (r + 3) (by omega) (by omega), hf (r + 4) (by omega) (by omega), hf (r + 5) (by omega) (by omega), hf (r + 7) (by omega) (by omega), hf (r + 8) (by omega) (by omega), hf (r + 9) (by omega) (by omega), hf (r + 10) (by omega) (by omega)]
  exact h
theorem cInv_c {I I' : Nat → Nat → Int32} {S : gS} (h : cInv I S) (hf : cfr I I') (hz : zInv I') : cInv I' S := by
  obtain ⟨h1, h2, h3, h4, -⟩ := h
  refine ⟨rAt_c h1 (fun a _ _ => hf a (by omega)), by rw [hf 1 (by omega)]; exact h2, by rw [hf 2 (by omega)]; exact h3, fun j hj => ?_, hz⟩
  have h := h4 j hj
  cases hB : S.2.2.2 j with
  | none => rw [hB] at h; show I' 48 j = 0; rw [hf 48 (by omega)]; exact h
  | some B =>
    rw [hB] at h
    exact ⟨by rw [hf 48 (by omega)]; exact h.1, rAt_c h.2 (fun a _ _ => hf a (by omega))⟩
theorem ix_ex {x : Int32} (n : Nat) (hn : n < 2147483648) : x < 0 ∨ (¬ x < 0 ∧ nI n ≤ x) ∨ ∃ k, k < n ∧ x = nI k := am_ix x n hn
theorem in_ex {x : Int32} {lo hi : Nat} (hh : hi < 1000000) (hl : lo ≤ hi) (h : sp_in x (nI lo) (nI hi) = true) : ∃ k, lo ≤ k ∧ k ≤ hi ∧ x = nI k := by
  have h0 : nI 0 ≤ nI lo := by rw [am_nle _ _ (by omega) (by omega)]; omega
  unfold sp_in at h
  simp only [Bool.and_eq_true, decide_eq_true_eq] at h
  rcases ix_ex (x := x) (hi + 1) (by omega) with g | ⟨g, g'⟩ | ⟨k, hk, rfl⟩
  · exact absurd (Int32.le_trans h0 h.1) (Int32.not_le.mpr g)
  · have h2 : nI (hi + 1) ≤ nI hi := Int32.le_trans g' h.2
    rw [am_nle _ _ (by omega) (by omega)] at h2
    omega
  · have h1 := h.1
    rw [am_nle _ _ (by omega) (by omega)] at h1
    exact ⟨k, h1, by omega, rfl⟩
theorem lt_ex {x : Int32} {n : Nat} (hn : n < 1000000) (h : sp_lt n x = true) : ∃ k, k < n ∧ x = nI k := by
  rcases ix_ex (x := x) n (by omega) with g | ⟨g, g'⟩ | g
  · rw [sp_lt_neg g] at h; cases h
  · rw [sp_lt_big g g'] at h; cases h
  · exact g
theorem in_nI {k lo hi : Nat} (hk : k < 1000000) (hl : lo < 1000000) (hh : hi < 1000000) : sp_in (nI k) (nI lo) (nI hi) = (decide (lo ≤ k) && decide (k ≤ hi)) := by
  unfold sp_in
  simp only [am_nle lo k (by omega) (by omega), am_nle k hi (by omega) (by omega)]
theorem lt_in (n : Nat) (hn : n < 1000000) (h0 : 0 < n) (x : Int32) : sp_lt n x = sp_in x (nI 0) (nI (n - 1)) := by
  rcases ix_ex (x := x) n (by omega) with g | ⟨g, g'⟩ | ⟨k, hk, rfl⟩
  · rw [sp_lt_neg g]
    unfold sp_in
    have : ¬ nI 0 ≤ x := Int32.not_le.mpr g
    simp [this]
  · rw [sp_lt_big g g']
    unfold sp_in
    have : ¬ x ≤ nI (n - 1) := fun h => by
      have := Int32.le_trans g' h
      rw [am_nle _ _ (by omega) (by omega)] at this
      omega
    simp [this]
  · rw [sp_lt_in (by omega) hk, in_nI (by omega) (by omega) (by omega)]
    simp; omega
theorem spk_in (x : Int32) : sp_spk x = sp_in x (nI 0) (nI 4) := by
  rw [← lt_in 5 (by omega) (by omega), sp_spk]
  rcases ix_ex (x := x) 5 (by omega) with g | ⟨g, g'⟩ | ⟨k, hk, rfl⟩
  · rw [sp_lt_neg g, sp_lt_neg g]
    have : ¬ x = nI 4 := fun h => by rw [h] at g; exact absurd g (by decide)
    simp [this]
  · rw [sp_lt_big g g']
    have h4 : sp_lt 4 x = false := sp_lt_big g (Int32.le_trans (by decide) g')
    have : ¬ x = nI 4 := fun h => by rw [h] at g'; exact absurd g' (by decide)
    simp [h4, this]
  · rw [sp_lt_in (by omega) hk]
    by_cases h4 : k < 4
    · rw [sp_lt_in (by omega) h4]; rfl
    · rw [show k = 4 by omega]; decide
theorem k_X9_win (h : am_H) (v lo hi : Int32) (e : am_E) (pc : Nat) (ls st : List Value) (Q : Option Value → am_H → Prop) : am_wk E_X9_within [.int v, .int lo, .int hi] h e pc ls st Q = am_wp e (pc + 3) ls (.int (am_b (sp_in v lo hi)) :: st) h Q := k_X9_within h v lo hi e pc ls st Q
/-- the class changes: a republic that is no image, the PAD, what lies about -/
theorem cInv_m {I I' : Nat → Nat → Int32} {S S' : gS} (h : cInv I S) (hr : rAt I' 3 S'.1) (hn : I' 1 1 = nI S'.2.1) (hp : I' 2 = nR S'.2.2.1) (hi : S'.2.2.2 = S.2.2.2) (hf : ∀ a, 26 ≤ a → a ≤ 48 → I' a = I a) (hz : zInv I') : cInv I' S' := by
  refine ⟨hr, hn, hp, fun j hj => ?_, hz⟩
  have h := h.2.2.2.1 j hj
  rw [hi]
  cases hB : S.2.2.2 j with
  | none => rw [hB] at h; show I' 48 j = 0; rw [hf 48 (by omega) (by omega)]; exact h
  | some B =>
    rw [hB] at h
    exact ⟨by rw [hf 48 (by omega) (by omega)]; exact h.1, rAt_c h.2 (fun a _ _ => hf a (by omega) (by omega))⟩
theorem zInv_c {I I' : Nat → Nat → Int32} (h : zInv I) (h1 : I' 53 = I 53) (h2 : I' 20 = I 20) : zInv I' := by unfold zInv; rw [h1, h2]; exact h
