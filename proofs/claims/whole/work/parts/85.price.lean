/-! PRICES are the same -/
theorem fd_inv (o : Nat → Bool) (rh re : Nat → Nat) (rf : Int32 → Int32) (g : Nat → Int32) (hb : ∀ k, rh k < 4) (hre : ∀ k, re k ≤ 99) (hrf : ∀ k, k < 8 → o k = true → rf (nI k) = nI (re k)) : ∀ j, j ≤ 8 → ∀ p, p < 4 → (fd_row o rh rf g j p = -6 ∧ ∀ x, x < j → o x = true → rh x ≠ p) ∨ (∃ y, fd_row o rh rf g j p = nI y ∧ y < j ∧ o y = true ∧ rh y = p ∧ ∀ x, x < j → o x = true → rh x = p → re x < re y ∨ (re x = re y ∧ y ≤ x))
  | 0, _, p, hp => by
    left
    refine ⟨?_, fun x hx => absurd hx (by omega)⟩
    rw [fd_row, am_fl_lt _ _ _ _ hp]
  | j + 1, hj, p, hp => by
    have ih := fd_inv o rh re rf g hb hre hrf j (by omega)
    have n6 : ∀ y, y < 8 → ¬ nI y = -6 := by decide
    rw [fd_row]
    by_cases ho : o j = true
    · rcases ih (rh j) (hb j) with ⟨h1, h2⟩ | ⟨y, h1, h2, h3, h4, h5⟩
      · rw [if_pos ⟨ho, Or.inl h1⟩]
        by_cases hpj : p = rh j
        · subst hpj
          right
          refine ⟨j, by rw [ud_s], by omega, ho, rfl, fun x hx hox hrx => ?_⟩
          by_cases e : x = j
          · subst e; right; exact ⟨rfl, Nat.le_refl _⟩
          · exact absurd hrx (h2 x (by omega) hox)
        · rw [ud_n _ _ _ _ hpj]
          rcases ih p hp with ⟨g1, g2⟩ | ⟨z, g1, g2, g3, g4, g5⟩
          · left
            refine ⟨g1, fun x hx hox => ?_⟩
            by_cases e : x = j
            · subst e; exact fun h => hpj h.symm
            · exact g2 x (by omega) hox
          · right
            refine ⟨z, g1, by omega, g3, g4, fun x hx hox hrx => ?_⟩
            by_cases e : x = j
            · subst e; exact absurd hrx.symm hpj
            · exact g5 x (by omega) hox hrx
      · have hne : ¬ fd_row o rh rf g j (rh j) = -6 := by rw [h1]; exact n6 y (by omega)
        have hle : (rf (nI j) ≤ rf (fd_row o rh rf g j (rh j))) = (re j ≤ re y) := by
          have a1 := hre j
          have a2 := hre y
          rw [h1, hrf j (by omega) ho, hrf y (by omega) h3, am_nle _ _ (by omega) (by omega)]
        by_cases hlt : re y < re j
        · rw [if_pos ⟨ho, Or.inr (by rw [hle]; omega)⟩]
          by_cases hpj : p = rh j
          · subst hpj
            right
            refine ⟨j, by rw [ud_s], by omega, ho, rfl, fun x hx hox hrx => ?_⟩
            by_cases e : x = j
            · subst e; right; exact ⟨rfl, Nat.le_refl _⟩
            · left; rcases h5 x (by omega) hox hrx with h | h <;> omega
          · rw [ud_n _ _ _ _ hpj]
            rcases ih p hp with ⟨g1, g2⟩ | ⟨z, g1, g2, g3, g4, g5⟩
            · left
              refine ⟨g1, fun x hx hox => ?_⟩
              by_cases e : x = j
              · subst e; exact fun h => hpj h.symm
              · exact g2 x (by omega) hox
            · right
              refine ⟨z, g1, by omega, g3, g4, fun x hx hox hrx => ?_⟩
              by_cases e : x = j
              · subst e; exact absurd hrx.symm hpj
              · exact g5 x (by omega) hox hrx
        · rw [if_neg (fun h => by
            rcases h.2 with h | h
            · exact hne h
            · rw [hle] at h; omega)]
          rcases ih p hp with ⟨g1, g2⟩ | ⟨z, g1, g2, g3, g4, g5⟩
          · left
            refine ⟨g1, fun x hx hox => ?_⟩
            by_cases e : x = j
            · subst e
              intro hpx
              exact g2 y h2 h3 (by rw [h4, hpx])
            · exact g2 x (by omega) hox
          · right
            refine ⟨z, g1, by omega, g3, g4, fun x hx hox hrx => ?_⟩
            by_cases e : x = j
            · subst e
              have hzy : rh y = p := by rw [h4, hrx]
              have c1 := g5 y h2 h3 hzy
              rcases c1 with c1 | c1
              · left; omega
              · rcases Nat.lt_or_ge (re x) (re z) with h | h
                · left; exact h
                · right; exact ⟨by omega, by omega⟩
            · exact g5 x (by omega) hox hrx
    · rw [if_neg (fun h => ho h.1)]
      rcases ih p hp with ⟨g1, g2⟩ | ⟨z, g1, g2, g3, g4, g5⟩
      · left
        refine ⟨g1, fun x hx hox => ?_⟩
        by_cases e : x = j
        · subst e; exact absurd hox ho
        · exact g2 x (by omega) hox
      · right
        refine ⟨z, g1, by omega, g3, g4, fun x hx hox hrx => ?_⟩
        by_cases e : x = j
        · subst e; exact absurd hox ho
        · exact g5 x (by omega) hox hrx
theorem fd_top (o : Nat → Bool) (rh re : Nat → Nat) (rf : Int32 → Int32) (g : Nat → Int32) (hb : ∀ k, rh k < 4) (hre : ∀ k, re k ≤ 99) (hrf : ∀ k, k < 8 → o k = true → rf (nI k) = nI (re k)) (k : Nat) (hk : k < 8) (ho : o k = true) : (fd_row o rh rf g 8 (rh k) = nI k) = (sp_all (drx o rh re k) 8 = true) := by
  rcases fd_inv o rh re rf g hb hre hrf 8 (Nat.le_refl _) (rh k) (hb k) with ⟨-, h2⟩ | ⟨y, h1, h2, h3, h4, h5⟩
  · exact absurd rfl (h2 k hk ho)
  · rw [h1, am_neq _ _ (by omega) (by omega)]
    refine propext ⟨fun h => ?_, fun h => ?_⟩
    · subst h
      rw [sp_all_iff]
      intro x hx
      unfold drx ahd
      by_cases c1 : o x = true
      · by_cases c2 : x = y
        · simp [c2]
        · by_cases c3 : rh x = rh y
          · rcases h5 x hx c1 c3 with h | h
            · simp [h]
            · have : y < x := by omega
              simp [h.1, this]
          · simp [c3]
      · have c1 : o x = false := by simpa using c1
        simp [c1]
    · rw [sp_all_iff] at h
      apply Decidable.byContradiction
      intro hne
      have h6 := h y h2
      unfold drx ahd at h6
      have h7 := h5 k hk ho rfl
      simp only [h3, hne, h4, Bool.true_and, decide_true, Bool.and_self, Bool.not_true, Bool.false_or, Bool.or_eq_true, decide_eq_true_eq, Bool.and_eq_true, not_false_eq_true] at h6
      omega
/-- what the TILL takes is what the reference reckons -/
theorem pdc_prc (t ow f : Int32) (o : Nat → Bool) (rh re ho : Nat → Nat) (fn : Nat) (hb : ∀ k, rh k < 4) (hre : ∀ k, re k ≤ 99) (hho : ∀ k, ho k ≤ 4) (hsub : sub8 ow t) (hoo : ∀ k, k < 8 → sp_bt ow k = o k) (hf : (f = nI 4 ∧ fn = 4) ∨ (f = nI fn ∧ fn < 4)) : pdc t rh (nR re) (nR ho) ow f = nI (prc o rh re ho fn 8) := by
  have hrf : ∀ k, k < 8 → o k = true → sp_of t (nR re) (nI 0) (nI k) = nI (re k) := fun k hk h => by
    rw [sp_of_in hk (hsub k hk (by rw [hoo k hk]; exact h))]; rfl
  have hfd : ∀ j, j ≤ 8 → fd_row (sp_bt ow) rh (sp_of t (nR re) (nI 0)) (fun _ => 0) j = fd_row o rh (sp_of t (nR re) (nI 0)) (fun _ => 0) j := by
    intro j
    induction j with
    | zero => intro _; rfl
    | succ j ih => intro hj; rw [fd_row, fd_row, ih (by omega), hoo j (by omega)]
  have hax : ∀ w, sp_all (drx (sp_bt ow) rh re w) 8 = sp_all (drx o rh re w) 8 := fun w => sp_all_c (fun x hx => by unfold drx ahd; rw [hoo x hx])
  unfold pdc
  rw [hfd 8 (Nat.le_refl _)]
  have key : ∀ j, j ≤ 8 → pd_sum (sp_bt ow) rh (nR re) (nR ho) (fd_row o rh (sp_of t (nR re) (nI 0)) (fun _ => 0) 8) f j = nI (prc o rh re ho fn j) := by
    intro j
    induction j with
    | zero => intro _; rfl
    | succ j ih =>
      intro hj
      have a1 := hho j
      have a2 := hre j
      have hcond : (f = nI 4 ∨ nR ho j = f) = (4 ≤ fn ∨ ho j = fn) := by
        rcases hf with ⟨rfl, rfl⟩ | ⟨rfl, h⟩
        · simp
        · rw [nR_k, am_neq fn 4 (by omega) (by omega), am_neq _ _ (by omega) (by omega)]
          refine propext ⟨fun h2 => ?_, fun h2 => ?_⟩ <;> omega
      rw [pd_sum, prc, ih (by omega), hoo j (by omega)]
      by_cases ho1 : o j = true
      · have ht := fd_top o rh re (sp_of t (nR re) (nI 0)) (fun _ => 0) hb hre hrf j (by omega) ho1
        simp only [hcond, ht, ho1, true_and]
        by_cases c : 4 ≤ fn ∨ ho j = fn
        · rw [if_pos c, if_pos c]
          unfold pdx
          split
          · rw [nR_k, nI_add]
          · rw [nR_k, am_ndv _ _ (by omega) (by omega) (by omega), nI_add]
        · rw [if_neg c, if_neg c, Nat.add_zero]
      · rw [if_neg (fun h => ho1 h.1), if_neg (fun h => ho1 h.1), Nat.add_zero]
  exact key 8 (Nat.le_refl _)
/-- the WORDS that cost: the class's sets and the reference's -/
theorem csN_cst (t : Int32) (re ho : Nat → Nat) (hre : ∀ k, re k ≤ 99) (hho : ∀ k, ho k ≤ 4) (ws : Int32) (sp k : Nat) (hsp : sp ≤ 4) (hk : k < 8) : sp_cst t (nR re) (nR ho) ws (nI sp) k = (bt ws k && (bt t k && csN re ho sp k)) := by
  have a1 := hre k
  have a2 := hho k
  have h0 : (nI (re k) ≤ 0) = (re k ≤ 0) := am_nle _ 0 (by omega) (by omega)
  rw [sp_cst_bt _ _ _ _ _ (by omega)]
  unfold csN
  simp only [nR_k, h0, am_neq (ho k) 4 (by omega) (by omega), am_neq (ho k) sp (by omega) (by omega)]
  have h1 : decide (¬ re k ≤ 0) = decide (0 < re k) := by
    by_cases h : re k ≤ 0
    · simp [h]
    · simp [h]; omega
  rw [h1]
  cases bt ws k <;> cases bt t k <;> simp [Bool.and_assoc]
theorem sub_ow (t set : Int32) (re ho : Nat → Nat) (hre : ∀ k, re k ≤ 99) (hho : ∀ k, ho k ≤ 4) (sp : Nat) (hsp : sp ≤ 4) (hst : ∀ k, k < 8 → bt set k = true → bt t k = true) (k : Nat) (hk : k < 8) : sp_bt (sp_cost t (nR re) (nR ho) set (nI sp) 8) k = osp set re ho sp k := by
  rw [bt_sp (by omega), bt_cost _ _ _ _ _ (by omega) 8 (by omega), csN_cst t re ho hre hho set sp k hsp hk]
  unfold osp
  have := hst k hk
  cases h1 : bt set k
  · simp
  · rw [this h1]; simp [hk]
theorem sub_dw (I : Nat → Nat → Int32) (set : Int32) (re ho : Nat → Nat) (hre : ∀ k, re k ≤ 99) (hho : ∀ k, ho k ≤ 4) (h7 : I 7 = nR re) (h8 : I 8 = nR ho) (sp : Nat) (hsp : sp ≤ 4) (hst : ∀ k, k < 8 → bt set k = true → bt (I 3 0) k = true) (k : Nat) (hk : k < 8) : sp_bt (set &&& dear I (nI sp)) k = osp set re ho sp k := by
  rw [bt_sp (by omega), b_and, dear, h7, h8, bt_cost _ _ _ _ _ (by omega) 8 (by omega), csN_cst _ re ho hre hho _ sp k hsp hk, bt_255 k (by omega)]
  unfold osp
  have := hst k hk
  cases h1 : bt set k
  · simp
  · rw [this h1]; simp [hk]
