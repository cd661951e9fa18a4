/-! whether RENTS settle, or go round: the same -/
theorem dIt_eq (c : dC) (s : dS) : ∀ d, (dItN c s d).1 = (dIt c s d).1 ∧ (dItN c s d).2.1 = (dIt c s d).2.1 ∧ (dItN c s d).2.2.1 = (dIt c s d).2.2.1
  | 0 => ⟨rfl, rfl, rfl⟩
  | d + 1 => by
    obtain ⟨h1, h2, h3⟩ := dIt_eq c s d
    refine ⟨?_, h2, h3⟩
    show (fun k => if k < 8 then nxt c (dItN c s d) k else 0) = fun k => if k < 8 then nxt c (dIt c s d) k else 0
    have hn : ∀ k, nxt c (dItN c s d) k = nxt c (dIt c s d) k := fun k => by
      unfold nxt
      have hu : uc c (dItN c s d) k = uc c (dIt c s d) k := by funext x; unfold uc; rw [h1, h2, h3]
      rw [h1, h2, hu]
    funext k
    rw [hn k]
def oneN (c : dC) (s : dS) : Nat → Nat
  | 0 => 0
  | k + 1 => oneN c s k * 128 + msk c s k
theorem one_eq (c : dC) (s : dS) (hs : dOK s) : ∀ k, k ≤ 8 → sp_one c.1 (nR s.1) k = lN (oneN c s k)
  | 0, _ => rfl
  | k + 1, hk => by
    have b := hs.1 k
    have h1 : sp_of c.1 (nR s.1) (nI 0) (nI k) = nI (msk c s k) := by
      unfold msk
      cases hb : sp_bt c.1 k
      · have h2 := sp_has_in (t := c.1) (k := k) (by omega)
        rw [hb] at h2
        rw [sp_of, if_neg (by rw [h2]; simp)]; simp
      · rw [sp_of_in (by omega) hb]; simp [nR_k]
    have h2 := msk_le (c := c) hs k
    rw [sp_one, oneN, one_eq c s hs k (by omega), h1, nI_l (by omega), show (128 : Int64) = lN 128 from rfl, lN_mul, lN_add]
theorem one8 (c : dC) (s : dS) : oneN c s 8 = ((((((msk c s 0 * 128 + msk c s 1) * 128 + msk c s 2) * 128 + msk c s 3) * 128 + msk c s 4) * 128 + msk c s 5) * 128 + msk c s 6) * 128 + msk c s 7 := by
  simp [oneN]
theorem alk_code (c : dC) (s : dS) (hc : cOK c) (hs : dOK s) (i j : Nat) : decide (dCd c s i = dCd c s j) = alk c s i j := by
  have hi := dOK_itn hc hs i
  have hj := dOK_itn hc hs j
  have li := fun w => msk_le (c := c) hi w
  have lj := fun w => msk_le (c := c) hj w
  have h1 : dCd c s i = lN (oneN c (dItN c s i) 8) := by
    unfold dCd; rw [← (dIt_eq c s i).1]; exact one_eq c _ hi 8 (Nat.le_refl _)
  have h2 : dCd c s j = lN (oneN c (dItN c s j) 8) := by
    unfold dCd; rw [← (dIt_eq c s j).1]; exact one_eq c _ hj 8 (Nat.le_refl _)
  have a0 := li 0
  have a1 := li 1
  have a2 := li 2
  have a3 := li 3
  have a4 := li 4
  have a5 := li 5
  have a6 := li 6
  have a7 := li 7
  have b0 := lj 0
  have b1 := lj 1
  have b2 := lj 2
  have b3 := lj 3
  have b4 := lj 4
  have b5 := lj 5
  have b6 := lj 6
  have b7 := lj 7
  have e1 := one8 c (dItN c s i)
  have e2 := one8 c (dItN c s j)
  have heq : (dCd c s i = dCd c s j) ↔ alk c s i j = true := by
    rw [h1, h2, pk_lEQ (by omega) (by omega)]
    unfold alk
    rw [sp_all_iff]
    constructor
    · intro h w hw
      have : msk c (dItN c s i) w = msk c (dItN c s j) w := by
        rcases (by omega : w = 0 ∨ w = 1 ∨ w = 2 ∨ w = 3 ∨ w = 4 ∨ w = 5 ∨ w = 6 ∨ w = 7) with rfl | rfl | rfl | rfl | rfl | rfl | rfl | rfl <;> omega
      simpa using this
    · intro h
      have g : ∀ w, w < 8 → msk c (dItN c s i) w = msk c (dItN c s j) w := fun w hw => by simpa using h w hw
      rw [e1, e2, g 0 (by omega), g 1 (by omega), g 2 (by omega), g 3 (by omega), g 4 (by omega), g 5 (by omega), g 6 (by omega), g 7 (by omega)]
  cases h : alk c s i j
  · rw [h] at heq; simpa using heq
  · rw [h] at heq; simpa using heq
theorem alk_iff (c : dC) (s : dS) (i j : Nat) : alk c s i j = true ↔ ∀ w, w < 8 → msk c (dItN c s i) w = msk c (dItN c s j) w := by
  unfold alk
  rw [sp_all_iff]
  simp
theorem alk_refl (c : dC) (s : dS) (i : Nat) : alk c s i i = true := (alk_iff c s i i).mpr (fun _ _ => rfl)
theorem alk_symm {c : dC} {s : dS} {i j : Nat} (h : alk c s i j = true) : alk c s j i = true := (alk_iff c s j i).mpr (fun w hw => ((alk_iff c s i j).mp h w hw).symm)
theorem alk_trans {c : dC} {s : dS} {i j k : Nat} (h : alk c s i j = true) (h2 : alk c s j k = true) : alk c s i k = true := (alk_iff c s i k).mpr (fun w hw => ((alk_iff c s i j).mp h w hw).trans ((alk_iff c s j k).mp h2 w hw))
theorem itn_ho (c : dC) (s : dS) : ∀ d, (dItN c s d).2.1 = s.2.1 ∧ (dItN c s d).2.2.1 = s.2.2.1
  | 0 => ⟨rfl, rfl⟩
  | d + 1 => itn_ho c s d
theorem msk_next (c : dC) (s : dS) (d w : Nat) (hw : w < 8) : msk c (dItN c s (d + 1)) w = if sp_bt c.1 w = true then nxt c (dItN c s d) w else 0 := by
  unfold msk
  split
  · show (if w < 8 then nxt c (dItN c s d) w else 0) = _
    rw [if_pos hw]
  · rfl
theorem alk_next {c : dC} {s : dS} {i j : Nat} (h : alk c s i j = true) : alk c s (i + 1) (j + 1) = true := by
  rw [alk_iff] at h ⊢
  intro w hw
  rw [msk_next c s i w hw, msk_next c s j w hw]
  have hm : ∀ x, x < 8 → sp_bt c.1 x = true → (dItN c s i).1 x = (dItN c s j).1 x := fun x hx hb => by
    have := h x hx
    unfold msk at this
    rw [if_pos hb, if_pos hb] at this
    exact this
  obtain ⟨i1, i2⟩ := itn_ho c s i
  obtain ⟨j1, j2⟩ := itn_ho c s j
  by_cases hb : sp_bt c.1 w = true
  · rw [if_pos hb, if_pos hb]
    have hw1 := hm w hw hb
    have hu : sp_any (uc c (dItN c s i) w) 8 = sp_any (uc c (dItN c s j) w) 8 := sp_any_c (fun x hx => by
      unfold uc
      rw [i1, i2, j1, j2, hw1]
      cases hbx : sp_bt c.1 x
      · rfl
      · rw [hm x hx hbx])
    unfold nxt
    rw [hu, i1, j1, hw1]
  · rw [if_neg hb, if_neg hb]
theorem alk_shift {c : dC} {s : dS} {i j : Nat} (h : alk c s i j = true) : ∀ m, alk c s (i + m) (j + m) = true
  | 0 => h
  | m + 1 => alk_next (alk_shift h m)
theorem chg0 (c : dC) (s : dS) (d : Nat) : (chg c (dItN c s d) 8 = 0) ↔ alk c s d (d + 1) = true := by
  have key : ∀ k, (chg c (dItN c s d) k = 0) ↔ ∀ w, w < k → nxt c (dItN c s d) w = (dItN c s d).1 w := by
    intro k
    induction k with
    | zero => exact ⟨fun _ w hw => absurd hw (by omega), fun _ => rfl⟩
    | succ k ih =>
      rw [chg]
      by_cases hk : nxt c (dItN c s d) k = (dItN c s d).1 k
      · rw [if_pos hk, Nat.add_zero, ih]
        refine ⟨fun h w hw => ?_, fun h w hw => h w (by omega)⟩
        by_cases e : w = k
        · subst e; exact hk
        · exact h w (by omega)
      · rw [if_neg hk]
        exact ⟨fun h => by omega, fun h => absurd (h k (by omega)) hk⟩
  rw [key 8, alk_iff]
  refine ⟨fun h w hw => ?_, fun h w hw => ?_⟩
  · rw [msk_next c s d w hw, h w hw]; rfl
  · by_cases hb : sp_bt c.1 w = true
    · have := h w hw
      rw [msk_next c s d w hw, if_pos hb] at this
      unfold msk at this
      rw [if_pos hb] at this
      exact this.symm
    · unfold nxt; rw [if_pos (Or.inl (by simpa using hb))]
/-- how far back: by alike days -/
theorem bk_alk (c : dC) (s : dS) (hc : cOK c) (hs : dOK s) (d : Nat) : bkJ (dCd c s) d = if sp_first (fun j => alk c s (d - (j + 1)) d) d < d then sp_first (fun j => alk c s (d - (j + 1)) d) d + 1 else 0 := by
  unfold bkJ
  rw [sp_first_c (q := fun j => alk c s (d - (j + 1)) d) (fun k _ => alk_code c s hc hs _ _)]
theorem sp_first_sp {p : Nat → Bool} {n : Nat} (h : sp_first p n < n) : p (sp_first p n) = true ∧ ∀ j, j < sp_first p n → p j = false := by
  induction n with
  | zero => omega
  | succ n ih =>
    rw [sp_first] at h ⊢
    by_cases h1 : sp_first p n < n
    · rw [if_pos h1]; exact ih h1
    · have h2 : sp_first p n = n := by have := sp_first_le p n; omega
      rw [if_neg h1] at h ⊢
      by_cases h3 : p n = true
      · rw [if_pos h3]; exact ⟨h3, fun j hj => sp_first_lt h2 j hj⟩
      · rw [if_neg h3] at h; omega
/-- bk: 0, or the least way back to a day alike -/
theorem bk_sp (c : dC) (s : dS) (hc : cOK c) (hs : dOK s) (d : Nat) : (bkJ (dCd c s) d = 0 ∧ ∀ k, k < d → alk c s k d = false) ∨ (0 < bkJ (dCd c s) d ∧ bkJ (dCd c s) d ≤ d ∧ alk c s (d - bkJ (dCd c s) d) d = true ∧ ∀ b, 0 < b → b < bkJ (dCd c s) d → alk c s (d - b) d = false) := by
  rw [bk_alk c s hc hs d]
  by_cases h : sp_first (fun j => alk c s (d - (j + 1)) d) d < d
  · obtain ⟨h1, h2⟩ := sp_first_sp h
    rw [if_pos h]
    right
    refine ⟨by omega, by omega, h1, fun b b0 b1 => ?_⟩
    have := h2 (b - 1) (by omega)
    rw [show b - 1 + 1 = b by omega] at this
    exact this
  · have h2 : sp_first (fun j => alk c s (d - (j + 1)) d) d = d := by have := sp_first_le (fun j => alk c s (d - (j + 1)) d) d; omega
    rw [if_neg h]
    left
    refine ⟨rfl, fun k hk => ?_⟩
    have := sp_first_lt h2 (d - 1 - k) (by omega)
    rw [show d - (d - 1 - k + 1) = k by omega] at this
    exact this
theorem st_iff (c : dC) (s : dS) : stF c s = sp_first (fun j => alk c s j (j + 1)) 99 := by
  unfold stF
  refine sp_first_c (fun k _ => ?_)
  have := chg0 c s k
  cases h : alk c s k (k + 1)
  · rw [h] at this; simpa using this
  · rw [h] at this; simpa using this
theorem wrF_sp (c : dC) (s : dS) (h : wrF c s < 99) : (¬ bkJ (dCd c s) (wrF c s + 1) = 0) ∧ ∀ j, j < wrF c s → bkJ (dCd c s) (j + 1) = 0 := by
  have h2 := sp_first_sp (p := fun j => decide (¬ bkJ (dCd c s) (j + 1) = 0)) (n := 99) h
  refine ⟨of_decide_eq_true h2.1, fun j hj => ?_⟩
  have h3 := of_decide_eq_false (h2.2 j hj)
  exact Decidable.not_not.mp h3
theorem settles_same (c : dC) (s : dS) (hc : cOK c) (hs : dOK s) : (wrB c s = 1 → stF c s < 99 ∧ wrU c s = stF c s + 1) ∧ (stF c s < 99 → wrB c s = 1) := by
  have hW : ∀ j, j < wrF c s → bkJ (dCd c s) (j + 1) = 0 := fun j hj => by
    have hle : wrF c s ≤ 99 := sp_first_le _ _
    by_cases h : wrF c s < 99
    · exact (wrF_sp c s h).2 j hj
    · have h2 : wrF c s = 99 := by omega
      have h3 := sp_first_lt (p := fun j => decide (¬ bkJ (dCd c s) (j + 1) = 0)) (n := 99) h2 j (by omega)
      exact Decidable.not_not.mp (of_decide_eq_false h3)
  have hno : ∀ j, j < wrF c s → ∀ k, k < j + 1 → alk c s k (j + 1) = false := fun j hj k hk => by
    rcases bk_sp c s hc hs (j + 1) with ⟨-, h⟩ | ⟨h, -⟩
    · exact h k hk
    · rw [hW j hj] at h; omega
  rw [st_iff]
  constructor
  · intro hb
    unfold wrB at hb
    split at hb
    · rename_i hlt
      rcases bk_sp c s hc hs (wrF c s + 1) with ⟨h1, -⟩ | ⟨-, -, h3, -⟩
      · omega
      · rw [hb, show wrF c s + 1 - 1 = wrF c s by omega] at h3
        have hf : sp_first (fun j => alk c s j (j + 1)) 99 = wrF c s := sp_first_eq (p := fun j => alk c s j (j + 1)) (k := wrF c s) (n := 99) h3 (fun j hj => hno j hj j (by omega)) hlt
        rw [hf]
        exact ⟨hlt, by unfold wrU; rw [if_pos hlt]⟩
    · omega
  · intro hst
    obtain ⟨s1, s2⟩ := sp_first_sp (p := fun j => alk c s j (j + 1)) (n := 99) hst
    generalize hj : sp_first (fun j => alk c s j (j + 1)) 99 = j at *
    have hle : wrF c s ≤ j := Nat.le_of_not_lt (fun h => by
      have := hno j h j (by omega)
      rw [s1] at this; cases this)
    have hlt : wrF c s < 99 := by omega
    unfold wrB
    rw [if_pos hlt]
    have hne : ¬ bkJ (dCd c s) (wrF c s + 1) = 0 := (wrF_sp c s hlt).1
    rcases bk_sp c s hc hs (wrF c s + 1) with ⟨h1, -⟩ | ⟨h1, h2, h3, h4⟩
    · exact absurd h1 hne
    · generalize bkJ (dCd c s) (wrF c s + 1) = b at *
      apply Decidable.byContradiction
      intro hb1
      by_cases e : wrF c s = j
      · have := h4 1 (by omega) (by omega)
        rw [e, show j + 1 - 1 = j by omega, s1] at this
        cases this
      · have hD : wrF c s + 1 ≤ j := by omega
        have t1 := alk_shift h3 (j - (wrF c s + 1))
        have t2 := alk_shift h3 (j + 1 - (wrF c s + 1))
        rw [show wrF c s + 1 - b + (j - (wrF c s + 1)) = j - b by omega, show wrF c s + 1 + (j - (wrF c s + 1)) = j by omega] at t1
        rw [show wrF c s + 1 - b + (j + 1 - (wrF c s + 1)) = j - b + 1 by omega, show wrF c s + 1 + (j + 1 - (wrF c s + 1)) = j + 1 by omega] at t2
        have t3 := alk_trans (alk_trans t1 s1) (alk_symm t2)
        have := s2 (j - b) (by omega)
        rw [t3] at this
        cases this
theorem settles_eq (c : dC) (s : dS) (hc : cOK c) (hs : dOK s) : (if wrB c s = 1 then nI (wrU c s) else -6) = stV c s := by
  obtain ⟨h1, h2⟩ := settles_same c s hc hs
  unfold stV
  by_cases h : wrB c s = 1
  · obtain ⟨a, b⟩ := h1 h
    rw [if_pos h, if_pos a, b]
  · rw [if_neg h, if_neg (fun h3 => h (h2 h3))]
theorem round_eq (c : dC) (s : dS) (hc : cOK c) (hs : dOK s) : (if wrB c s ≤ 1 then -6 else nI (wrB c s)) = rdV c s := by
  obtain ⟨h1, h2⟩ := settles_same c s hc hs
  have hrd : rdF c s = wrF c s := by
    unfold rdF wrF
    refine sp_first_c (fun k _ => ?_)
    have hr : (rd1 c s (k + 1) < k + 1) ↔ ∃ x, x < k + 1 ∧ alk c s x (k + 1) = true := by
      unfold rd1
      constructor
      · intro h; exact ⟨_, h, (sp_first_sp h).1⟩
      · rintro ⟨x, hx, ha⟩
        apply Decidable.byContradiction
        intro hn
        have hle := sp_first_le (fun k_1 => alk c s k_1 (k + 1)) (k + 1)
        have := sp_first_lt (show sp_first (fun k_1 => alk c s k_1 (k + 1)) (k + 1) = k + 1 by omega) x hx
        rw [ha] at this; cases this
    rcases bk_sp c s hc hs (k + 1) with ⟨b1, b2⟩ | ⟨b1, b2, b3, -⟩
    · have : ¬ rd1 c s (k + 1) < k + 1 := fun h => by
        obtain ⟨x, hx, ha⟩ := hr.mp h
        rw [b2 x hx] at ha; cases ha
      simp [b1, this]
    · have : rd1 c s (k + 1) < k + 1 := hr.mpr ⟨_, by omega, b3⟩
      have b4 : ¬ bkJ (dCd c s) (k + 1) = 0 := by omega
      simp [b4, this]
  unfold rdV
  by_cases hst : stF c s < 99
  · rw [if_pos hst, if_pos (by have := h2 hst; omega)]
  · rw [if_neg hst, hrd]
    by_cases hlt : wrF c s < 99
    · rw [if_pos hlt]
      have hne : ¬ bkJ (dCd c s) (wrF c s + 1) = 0 := (wrF_sp c s hlt).1
      have hB : wrB c s = bkJ (dCd c s) (wrF c s + 1) := by unfold wrB; rw [if_pos hlt]
      have hb1 : ¬ wrB c s = 1 := fun h => hst (h1 h).1
      rw [if_neg (by omega), hB]
      rcases bk_sp c s hc hs (wrF c s + 1) with ⟨b1, -⟩ | ⟨b1, b2, b3, b4⟩
      · exact absurd b1 hne
      · generalize bkJ (dCd c s) (wrF c s + 1) = b at *
        have hk : rd1 c s (wrF c s + 1) = wrF c s + 1 - b := by
          unfold rd1
          refine sp_first_eq (p := fun k => alk c s k (wrF c s + 1)) (k := wrF c s + 1 - b) (n := wrF c s + 1) b3 (fun x hx => ?_) (by omega)
          cases ha : alk c s x (wrF c s + 1)
          · rfl
          · have ht := alk_trans ha (alk_symm b3)
            have hj : wrF c s - b < wrF c s := by omega
            have h0 : bkJ (dCd c s) (wrF c s - b + 1) = 0 := (wrF_sp c s hlt).2 (wrF c s - b) hj
            rcases bk_sp c s hc hs (wrF c s - b + 1) with ⟨-, q2⟩ | ⟨q1, -⟩
            · have := q2 x (by omega)
              rw [show wrF c s - b + 1 = wrF c s + 1 - b by omega, ht] at this
              cases this
            · omega
        rw [hk, show wrF c s + 1 - (wrF c s + 1 - b) = b by omega]
    · rw [if_neg hlt, if_pos (by unfold wrB; rw [if_neg hlt]; omega)]
