/-! BOTH SIDES: one state, two memories -/
def mAt (I : Nat → Nat → Int32) (A : rS) : Prop := (I 62 0 = xt A ∧ I 62 7 = nI (xcap A) ∧ I 62 8 = nI (xdr A) ∧ I 62 9 = nI (xdy A) ∧ I 62 10 = nI (xnl A) ∧ I 62 13 = nI (xns A)) ∧ (I 63 = nR (xso A) ∧ I 64 = nR (xme A) ∧ I 65 = nR (xrh A) ∧ I 66 = nR (xre A) ∧ I 67 = nR (xho A) ∧ I 68 = nR (xfa A)) ∧ (∀ i, i < xnl A → I 70 i = nI (xll A i) ∧ ∀ k, k < xll A i → I 69 (5 * i + k) = nI (xlw A (5 * i + k))) ∧ (∀ k, k < xns A → I 71 (2 * k) = nI (xsf A k) ∧ I 71 (2 * k + 1) = nI (xss A k))
/-- an image in the reference -/
def mIm (g : Nat → Int32) (t : Nat) (A : rS) : Prop := (g (t + 101) = xt A ∧ g (t + 102) = nI (xcap A) ∧ g (t + 103) = nI (xdr A) ∧ g (t + 104) = nI (xdy A) ∧ g (t + 105) = nI (xnl A) ∧ g (t + 106) = nI (xns A)) ∧ (∀ w, w < 8 → g (t + w) = nI (xso A w) ∧ g (t + 8 + w) = nI (xme A w) ∧ g (t + 16 + w) = nI (xrh A w) ∧ g (t + 24 + w) = nI (xre A w) ∧ g (t + 32 + w) = nI (xho A w)) ∧ (∀ k, k < 25 → g (t + 40 + k) = nI (xfa A k)) ∧ (∀ i, i < xnl A → g (t + 85 + i) = nI (xll A i) ∧ ∀ k, k < xll A i → g (t + 65 + (5 * i + k)) = nI (xlw A (5 * i + k))) ∧ ∀ k, k < xns A → g (t + 89 + 2 * k) = nI (xsf A k) ∧ g (t + 89 + (2 * k + 1)) = nI (xss A k)
def mIg (f g : Nat → Int32) (P : Nat → Option rS) : Prop := ∀ j, j < 2 → match P j with | none => f j = 0 | some B => f j = 1 ∧ mIm g (120 * j) B
def mInv (I : Nat → Nat → Int32) (S : gS) : Prop := mAt I S.1 ∧ (I 62 15 = nI S.2.1 ∧ I 72 = nR S.2.2.1) ∧ mIg (I 81) (I 80) S.2.2.2 ∧ mzr I
theorem mInv_w {I I' : Nat → Nat → Int32} {S : gS} (h : mInv I S) (hf : mfw I I') (hz : mzr I') : mInv I' S := by
  obtain ⟨h1, h2, h3, -⟩ := h
  have e : ∀ a, a ≠ 62 → ¬ (73 ≤ a ∧ a ≤ 79) → I' a = I a := hf.1
  have f : ∀ j, j < 19 → I' 62 j = I 62 j := fun j hj => hf.2 j (by omega) (by omega) (by omega) (by omega)
  refine ⟨?_, ?_, ?_, hz⟩
  · unfold mAt at *
    rw [f 0 (by omega), f 7 (by omega), f 8 (by omega), f 9 (by omega), f 10 (by omega), f 13 (by omega), e 63 (by omega) (by omega), e 64 (by omega) (by omega), e 65 (by omega) (by omega), e 66 (by omega) (by omega), e 67 (by omega) (by omega), e 68 (by omega) (by omega), e 69 (by omega) (by omega), e 70 (by omega) (by omega), e 71 (by omega) (by omega)]
    exact h1
  · rw [f 15 (by omega), e 72 (by omega) (by omega)]; exact h2
  · rw [e 80 (by omega) (by omega), e 81 (by omega) (by omega)]; exact h3
theorem mInv_r {I I' : Nat → Nat → Int32} {S : gS} (h : mInv I S) (hf : mfr I I') : mInv I' S := by
  refine mInv_w h ⟨fun a h1 h2 => hf.1 a h1 (by omega), hf.2⟩ ?_
  have hz := h.2.2.2
  unfold mzr at *
  rw [hf.1 75 (by omega) (by omega), hf.1 76 (by omega) (by omega), hf.1 77 (by omega) (by omega)]
  exact hz
theorem mInv_hi {I I' : Nat → Nat → Int32} {S : gS} (h : mInv I S) (hf : ∀ a, 61 < a → I' a = I a) : mInv I' S := by
  unfold mInv mAt mzr at *
  rw [hf 62 (by omega), hf 63 (by omega), hf 64 (by omega), hf 65 (by omega), hf 66 (by omega), hf 67 (by omega), hf 68 (by omega), hf 69 (by omega), hf 70 (by omega), hf 71 (by omega), hf 72 (by omega), hf 75 (by omega), hf 76 (by omega), hf 77 (by omega), hf 80 (by omega), hf 81 (by omega)]
  exact h
theorem cInv_lo {I I' : Nat → Nat → Int32} {S : gS} (h : cInv I S) (hf : ∀ a, a < 62 → I' a = I a) : cInv I' S := cInv_m h (rAt_c h.1 (fun a _ _ => hf a (by omega))) (by rw [hf 1 (by omega)]; exact h.2.1) (by rw [hf 2 (by omega)]; exact h.2.2.1) rfl (fun a _ _ => hf a (by omega)) (zInv_c h.2.2.2.2 (hf 53 (by omega)) (hf 20 (by omega)))
/-- a call of the class; of the reference -/
def cSt (e : am_E) (as : List Value) (v : Value) (S S' : gS) : Prop := ∀ (X : (Nat → Int32) × Nat) (I : Nat → Nat → Int32) (J : Nat → Nat → Int64), cInv I S → ∃ I' J', am_R e (.ref (0 : Nat) :: as) (am_hp X I J) (some v) (am_hp X I' J') ∧ cInv I' S' ∧ ∀ a, 61 < a → I' a = I a
def mSt (e : am_E) (as : List Value) (v : Value) (S S' : gS) : Prop := ∀ (X : (Nat → Int32) × Nat) (I : Nat → Nat → Int32) (J : Nat → Nat → Int64), mInv I S → ∃ I' J', am_R e (.ref (62 : Nat) :: as) (am_hp X I J) (some v) (am_hp X I' J') ∧ mInv I' S' ∧ ∀ a, a < 62 → I' a = I a
theorem cSt_id {e : am_E} {as : List Value} {v : Value} {S : gS} (h : ∀ (X : (Nat → Int32) × Nat) (I : Nat → Nat → Int32) (J : Nat → Nat → Int64), cInv I S → am_R e (.ref (0 : Nat) :: as) (am_hp X I J) (some v) (am_hp X I J)) : cSt e as v S S := fun X I J hI => ⟨I, J, h X I J hI, hI, fun _ _ => rfl⟩
theorem cSt_z {e : am_E} {as : List Value} {v : Value} {S : gS} (h : ∀ (X : (Nat → Int32) × Nat) (I : Nat → Nat → Int32) (J : Nat → Nat → Int64), cInv I S → ∃ I' J', am_R e (.ref (0 : Nat) :: as) (am_hp X I J) (some v) (am_hp X I' J') ∧ cfr I I' ∧ zInv I') : cSt e as v S S := fun X I J hI => by
  obtain ⟨I', J', hR, hf, hz⟩ := h X I J hI
  exact ⟨I', J', hR, cInv_c hI hf hz, fun a ha => hf a (Or.inr ha)⟩
theorem mSt_id {e : am_E} {as : List Value} {v : Value} {S : gS} (h : ∀ (X : (Nat → Int32) × Nat) (I : Nat → Nat → Int32) (J : Nat → Nat → Int64), mInv I S → am_R e (.ref (62 : Nat) :: as) (am_hp X I J) (some v) (am_hp X I J)) : mSt e as v S S := fun X I J hI => ⟨I, J, h X I J hI, hI, fun _ _ => rfl⟩
theorem mSt_w {e : am_E} {as : List Value} {v : Value} {S : gS} (h : ∀ (X : (Nat → Int32) × Nat) (I : Nat → Nat → Int32) (J : Nat → Nat → Int64), mInv I S → ∃ I', am_R e (.ref (62 : Nat) :: as) (am_hp X I J) (some v) (am_hp X I' J) ∧ mfw I I' ∧ mzr I') : mSt e as v S S := fun X I J hI => by
  obtain ⟨I', hR, hf, hz⟩ := h X I J hI
  exact ⟨I', J, hR, mInv_w hI hf hz, fun a ha => hf.1 a (by omega) (by omega)⟩
theorem mSt_r {e : am_E} {as : List Value} {v : Value} {S : gS} (h : ∀ (X : (Nat → Int32) × Nat) (I : Nat → Nat → Int32) (J : Nat → Nat → Int64), mInv I S → ∃ I', am_R e (.ref (62 : Nat) :: as) (am_hp X I J) (some v) (am_hp X I' J) ∧ mfr I I') : mSt e as v S S := fun X I J hI => by
  obtain ⟨I', hR, hf⟩ := h X I J hI
  exact ⟨I', J, hR, mInv_r hI hf, fun a ha => hf.1 a (by omega) (by omega)⟩
def rO2 (A : rS) : Prop := ∀ m, m < 5 → xfa A (6 * m) = 0
def sOK (D : Nat) (S : gS) : Prop := gOK D S ∧ rO2 S.1 ∧ ∀ j B, S.2.2.2 j = some B → rO2 B
theorem rOK_mono {D D' : Nat} {A : rS} (h : rOK D A) (hd : D ≤ D') : rOK D' A := ⟨h.1, h.2.1, h.2.2.1, ⟨h.2.2.2.1.1, Nat.le_trans h.2.2.2.1.2 hd⟩, h.2.2.2.2⟩
theorem gOK_mono {D D' : Nat} {S : gS} (h : gOK D S) (hd : D ≤ D') : gOK D' S := ⟨rOK_mono h.1 hd, h.2.1, h.2.2.1, h.2.2.2.1, fun j B hB => rOK_mono (h.2.2.2.2 j B hB) hd⟩
theorem sOK_mono {D D' : Nat} {S : gS} (h : sOK D S) (hd : D ≤ D') : sOK D' S := ⟨gOK_mono h.1 hd, h.2⟩
/-- both answer alike, and go on alike -/
def bI (ec em : am_E) (as : List Value) (D : Nat) (S : gS) : Prop := ∃ (x : Int32) (S' : gS), cSt ec as (.int x) S S' ∧ mSt em as (.int x) S S' ∧ sOK (D + 60) S'
def bL (ec em : am_E) (as : List Value) (D : Nat) (S : gS) : Prop := ∃ (x : Int64) (S' : gS), cSt ec as (.long x) S S' ∧ mSt em as (.long x) S S' ∧ sOK (D + 60) S'
theorem bI_of {ec em : am_E} {as : List Value} {D : Nat} {S : gS} (hS : sOK D S) (x : Int32) (hc : cSt ec as (.int x) S S) (hm : mSt em as (.int x) S S) : bI ec em as D S := ⟨x, S, hc, hm, sOK_mono hS (by omega)⟩
theorem bL_of {ec em : am_E} {as : List Value} {D : Nat} {S : gS} (hS : sOK D S) (x : Int64) (hc : cSt ec as (.long x) S S) (hm : mSt em as (.long x) S S) : bL ec em as D S := ⟨x, S, hc, hm, sOK_mono hS (by omega)⟩
section
variable {I : Nat → Nat → Int32} {S : gS}
theorem ci_t (h : cInv I S) : I 3 0 = xt S.1 := h.1.1.1
theorem ci_cap (h : cInv I S) : I 3 8 = nI (xcap S.1) := h.1.1.2.1
theorem ci_dr (h : cInv I S) : I 3 9 = nI (xdr S.1) := h.1.1.2.2.1
theorem ci_dy (h : cInv I S) : I 3 10 = nI (xdy S.1) := h.1.1.2.2.2.1
theorem ci_nl (h : cInv I S) : I 3 12 = nI (xnl S.1) := h.1.1.2.2.2.2.1
theorem ci_ns (h : cInv I S) : I 3 15 = nI (xns S.1) := h.1.1.2.2.2.2.2
theorem ci_so (h : cInv I S) : I 4 = nR (xso S.1) := h.1.2.1.1
theorem ci_me (h : cInv I S) : I 5 = nR (xme S.1) := h.1.2.1.2.1
theorem ci_rh (h : cInv I S) : I 6 = nR (xrh S.1) := h.1.2.1.2.2.1
theorem ci_re (h : cInv I S) : I 7 = nR (xre S.1) := h.1.2.1.2.2.2.1
theorem ci_ho (h : cInv I S) : I 8 = nR (xho S.1) := h.1.2.1.2.2.2.2.1
theorem ci_fa (h : cInv I S) : I 10 = nR (xfa S.1) := h.1.2.1.2.2.2.2.2
theorem ci_l (h : cInv I S) : ∀ i, i < xnl S.1 → I 11 i = lset S.1 i := h.1.2.2.1
theorem ci_s (h : cInv I S) : ∀ k, k < xns S.1 → I 12 k = nI (xsf S.1 k) ∧ I 13 k = nI (xss S.1 k) := h.1.2.2.2
theorem ci_n (h : cInv I S) : I 1 1 = nI S.2.1 := h.2.1
theorem ci_sg (h : cInv I S) : I 2 = nR S.2.2.1 := h.2.2.1
theorem ci_z (h : cInv I S) : zInv I := h.2.2.2.2
theorem ci_c (h : cInv I S) : crep I S.1.1 := ⟨ci_t h, ci_so h, ci_fa h, ci_cap h, ci_dr h⟩
theorem ci_r (h : cInv I S) : srep I S.1.2.2.1 := ⟨ci_me h, ci_re h, ci_ho h, ci_dy h⟩
theorem mi_t (h : mInv I S) : I 62 0 = xt S.1 := h.1.1.1
theorem mi_cap (h : mInv I S) : I 62 7 = nI (xcap S.1) := h.1.1.2.1
theorem mi_dr (h : mInv I S) : I 62 8 = nI (xdr S.1) := h.1.1.2.2.1
theorem mi_dy (h : mInv I S) : I 62 9 = nI (xdy S.1) := h.1.1.2.2.2.1
theorem mi_nl (h : mInv I S) : I 62 10 = nI (xnl S.1) := h.1.1.2.2.2.2.1
theorem mi_ns (h : mInv I S) : I 62 13 = nI (xns S.1) := h.1.1.2.2.2.2.2
theorem mi_so (h : mInv I S) : I 63 = nR (xso S.1) := h.1.2.1.1
theorem mi_me (h : mInv I S) : I 64 = nR (xme S.1) := h.1.2.1.2.1
theorem mi_rh (h : mInv I S) : I 65 = nR (xrh S.1) := h.1.2.1.2.2.1
theorem mi_re (h : mInv I S) : I 66 = nR (xre S.1) := h.1.2.1.2.2.2.1
theorem mi_ho (h : mInv I S) : I 67 = nR (xho S.1) := h.1.2.1.2.2.2.2.1
theorem mi_fa (h : mInv I S) : I 68 = nR (xfa S.1) := h.1.2.1.2.2.2.2.2
theorem mi_l (h : mInv I S) : ∀ i, i < xnl S.1 → I 70 i = nI (xll S.1 i) ∧ ∀ k, k < xll S.1 i → I 69 (5 * i + k) = nI (xlw S.1 (5 * i + k)) := h.1.2.2.1
theorem mi_s (h : mInv I S) : ∀ k, k < xns S.1 → I 71 (2 * k) = nI (xsf S.1 k) ∧ I 71 (2 * k + 1) = nI (xss S.1 k) := h.1.2.2.2
theorem mi_n (h : mInv I S) : I 62 15 = nI S.2.1 := h.2.1.1
theorem mi_sg (h : mInv I S) : I 72 = nR S.2.2.1 := h.2.1.2
theorem mi_z (h : mInv I S) : mzr I := h.2.2.2
theorem mi_c (h : mInv I S) : mctx I S.1.1 := ⟨mi_t h, mi_so h, mi_fa h, mi_cap h, mi_dr h⟩
theorem mi_r (h : mInv I S) : msrp I S.1.2.2.1 := ⟨mi_re h, mi_ho h, mi_me h, mi_dy h⟩
theorem mi_st (h : mInv I S) : mst I (xt S.1) (xso S.1) (xme S.1) (xrh S.1) (xre S.1) (xho S.1) (xfa S.1) := ⟨mi_t h, mi_so h, mi_me h, mi_rh h, mi_re h, mi_ho h, mi_fa h⟩
variable {D : Nat}
theorem so_c (h : sOK D S) : cOK S.1.1 := h.1.1.1.1
theorem so_t (h : sOK D S) : ∀ i, 8 ≤ i → i < 32 → bt (xt S.1) i = false := h.1.1.2.1
theorem so_rh (h : sOK D S) : ∀ k, xrh S.1 k < 4 := h.1.1.2.2.1
theorem so_d (h : sOK D S) : dOK S.1.2.2.1 := h.1.1.2.2.2.1.1
theorem so_dy (h : sOK D S) : xdy S.1 ≤ D := h.1.1.2.2.2.1.2
theorem so_z (h : sOK D S) : dZ S.1.2.2.1 := fun k hk => by
  have g := h.1.1.2.2.2.2.1.1 k hk
  exact ⟨g.2.2.1, g.2.2.2.1, g.2.2.2.2⟩
theorem so_l (h : sOK D S) : xnl S.1 ≤ 4 ∧ ∀ i, i < xnl S.1 → (xll S.1 i = 3 ∨ xll S.1 i = 5) ∧ ∀ k, k < xll S.1 i → xlw S.1 (5 * i + k) < 8 := h.1.1.2.2.2.2.2.1
theorem so_s (h : sOK D S) : xns S.1 ≤ 6 ∧ ∀ k, k < xns S.1 → xsf S.1 k < 4 ∧ xss S.1 k < 256 := h.1.1.2.2.2.2.2.2
theorem so_n (h : sOK D S) : S.2.1 ≤ 60 := h.1.2.1
theorem so_g (h : sOK D S) : ∀ k, S.2.2.1 k < 127 := h.1.2.2.1
theorem so_so (h : sOK D S) : ∀ k, xso S.1 k ≤ 2 := (so_c h).1
theorem so_b (h : sOK D S) : bnd (xme S.1) (xrh S.1) (xre S.1) (xho S.1) (xfa S.1) := ⟨(so_d h).1, (so_d h).2.1, so_rh h, (so_d h).2.2, (so_c h).2.1⟩
theorem so_ll (h : sOK D S) (hm : mInv I S) : ∀ i, i < xnl S.1 → xll S.1 i ≤ 5 ∧ I 70 i = nI (xll S.1 i) := fun i hi => ⟨by have := ((so_l h).2 i hi).1; omega, (mi_l hm i hi).1⟩
theorem so_lw (hm : mInv I S) : ∀ i, i < xnl S.1 → wset (fun k => I 69 (5 * i + k)) (xll S.1 i) = lset S.1 i := fun i hi => wset_c (fun k hk => (mi_l hm i hi).2 k hk)
end
