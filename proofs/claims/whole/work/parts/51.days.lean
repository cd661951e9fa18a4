/-! DAYS, as numbers: what stays (WORDS, SORTS, FAR, CAP, DRIFT), what moves (RENTS, HOLDERS, MEANINGS, DAYS) -/
abbrev dC : Type := Int32 × (Nat → Nat) × (Nat → Nat) × Nat × Nat
abbrev dS : Type := (Nat → Nat) × (Nat → Nat) × (Nat → Nat) × Nat
def uc (c : dC) (s : dS) (w k : Nat) : Bool := sp_bt c.1 k && (decide (c.2.1 k = c.2.1 w) && (!decide (s.2.1 k = s.2.1 w) && (decide ((if s.2.1 k = 4 then 0 else s.1 k) < s.1 w) && decide (c.2.2.1 (s.2.2.1 w * 5 + s.2.2.1 k) < 2))))
def nxt (c : dC) (s : dS) (k : Nat) : Nat := if sp_bt c.1 k = false ∨ s.2.1 k = 4 then s.1 k else if sp_any (uc c s k) 8 = true then s.1 k - 1 else if c.2.2.2.1 ≤ s.1 k then s.1 k else s.1 k + 1
def dMove (c : dC) (s : dS) : dS := (fun k => if k < 8 then nxt c s k else 0, s.2)
def dDrift (c : dC) (s : dS) : dS := (s.1, s.2.1, fun k => if k < 8 then (if sp_bt c.1 k = true ∧ s.2.1 k = 4 then (s.2.2.1 k + 1) % 5 else s.2.2.1 k) else s.2.2.1 k, s.2.2.2)
def dNext (s : dS) : dS := (s.1, s.2.1, s.2.2.1, s.2.2.2 + 1)
def dPass (c : dC) (s : dS) : dS := if (s.2.2.2 + 1) % c.2.2.2.2 = 0 then dDrift c (dNext (dMove c s)) else dNext (dMove c s)
def dAct (s : dS) (f k : Nat) (a : Int32) : dS := if a = nI 43 then (s.1, va_up s.2.1 k f, s.2.2) else if a = nI 45 then (s.1, va_up s.2.1 k 4, s.2.2) else (va_up s.1 k (if a = nI 94 then s.1 k + 1 else s.1 k - 1), s.2)
def cOK (c : dC) : Prop := (∀ k, c.2.1 k ≤ 2) ∧ (∀ k, c.2.2.1 k ≤ 9) ∧ c.2.2.2.1 ≤ 99 ∧ 0 < c.2.2.2.2 ∧ c.2.2.2.2 ≤ 9
def dOK (s : dS) : Prop := (∀ k, s.1 k ≤ 99) ∧ (∀ k, s.2.1 k ≤ 4) ∧ (∀ k, s.2.2.1 k < 5)
theorem nxt_le (c : dC) (s : dS) (hc : cOK c) (hs : dOK s) (k : Nat) : nxt c s k ≤ 99 := by
  have h1 := hs.1 k
  have h2 := hc.2.2.1
  unfold nxt
  repeat' split
  all_goals omega
theorem dOK_move {c : dC} {s : dS} (hc : cOK c) (hs : dOK s) : dOK (dMove c s) := by
  refine ⟨fun k => ?_, hs.2.1, hs.2.2⟩
  show (if k < 8 then nxt c s k else 0) ≤ 99
  split
  · exact nxt_le c s hc hs k
  · omega
theorem dOK_pass {c : dC} {s : dS} (hc : cOK c) (hs : dOK s) : dOK (dPass c s) := by
  have h := dOK_move hc hs
  unfold dPass
  split
  · refine ⟨h.1, h.2.1, fun k => ?_⟩
    show (if k < 8 then (if sp_bt c.1 k = true ∧ s.2.1 k = 4 then (s.2.2.1 k + 1) % 5 else s.2.2.1 k) else s.2.2.1 k) < 5
    have := hs.2.2 k
    repeat' split
    all_goals omega
  · exact h
theorem dPass_dy (c : dC) (s : dS) : (dPass c s).2.2.2 = s.2.2.2 + 1 := by unfold dPass; split <;> rfl
theorem dOK_act {s : dS} (hs : dOK s) {f k : Nat} {a : Int32} (hf : f ≤ 4) (ha : a = nI 94 → s.1 k < 99) : dOK (dAct s f k a) := by
  unfold dAct
  split
  · refine ⟨hs.1, fun j => ?_, hs.2.2⟩
    show va_up s.2.1 k f j ≤ 4
    by_cases e : j = k
    · subst e; rw [up_s]; exact hf
    · rw [up_n _ _ _ _ e]; exact hs.2.1 j
  · split
    · refine ⟨hs.1, fun j => ?_, hs.2.2⟩
      show va_up s.2.1 k 4 j ≤ 4
      by_cases e : j = k
      · subst e; rw [up_s]; omega
      · rw [up_n _ _ _ _ e]; exact hs.2.1 j
    · refine ⟨fun j => ?_, hs.2.1, hs.2.2⟩
      show va_up s.1 k _ j ≤ 99
      by_cases e : j = k
      · subst e; rw [up_s]; have := hs.1 j
        split
        · rename_i h; have := ha h; omega
        · omega
      · rw [up_n _ _ _ _ e]; exact hs.1 j
/-! the same in the machine's numbers -/
theorem sp_any_c {p q : Nat → Bool} : ∀ {n : Nat}, (∀ k, k < n → p k = q k) → sp_any p n = sp_any q n
  | 0, _ => rfl
  | n + 1, h => by rw [sp_any, sp_any, sp_any_c (fun k hk => h k (by omega)), h n (by omega)]
theorem sp_all_c {p q : Nat → Bool} : ∀ {n : Nat}, (∀ k, k < n → p k = q k) → sp_all p n = sp_all q n
  | 0, _ => rfl
  | n + 1, h => by rw [sp_all, sp_all, sp_all_c (fun k hk => h k (by omega)), h n (by omega)]
theorem btw_nat {fa : Nat → Nat} {a b : Nat} (ha : a < 5) (hb : b < 5) : sp_btw (nR fa) (nI a) (nI b) = nI (fa (a * 5 + b)) := by
  rw [sp_btw, sp_lt_in (by decide) ha, sp_lt_in (by decide) hb]
  simp only [Bool.and_self, if_true]
  rw [nI_clamp (by omega), nI_clamp (by omega)]
  rfl
theorem uc_eq {c : dC} {s : dS} (hc : cOK c) (hs : dOK s) (w k : Nat) : sp_uc1 c.1 (nR c.2.1) (nR s.2.2.1) (nR s.1) (nR s.2.1) (nR c.2.2.1) w k = uc c s w k := by
  have a1 := hc.1 k
  have a2 := hc.1 w
  have b1 := hs.1 k
  have b2 := hs.1 w
  have c1 := hs.2.1 k
  have c2 := hs.2.1 w
  have d1 := hs.2.2 k
  have d2 := hs.2.2 w
  have e1 := hc.2.1 (s.2.2.1 w * 5 + s.2.2.1 k)
  unfold sp_uc1 uc
  simp only [nR_k]
  rw [btw_nat d2 d1]
  have hite : (if s.2.1 k = 4 then 0 else s.1 k) < 2147483648 := by split <;> omega
  simp (disch := omega) only [am_neq, am_nlt, nI_ite, hite]
theorem nx_eq {c : dC} {s : dS} (hc : cOK c) (hs : dOK s) (k : Nat) : sp_nx c.1 (nR c.2.1) (nR s.2.2.1) (nR s.1) (nR s.2.1) (nR c.2.2.1) (nI c.2.2.2.1) k = nI (nxt c s k) := by
  have b1 := hs.1 k
  have c1 := hs.2.1 k
  have e1 := hc.2.2.1
  unfold sp_nx nxt
  rw [sp_any_c (fun j _ => uc_eq hc hs k j)]
  simp only [nR_k]
  have h0 : (nI (s.1 k) ≤ 0) = (s.1 k ≤ 0) := am_nle _ 0 (by omega) (by omega)
  simp (disch := omega) only [am_neq, am_nle, h0]
  split
  · rfl
  · split
    · split
      · rw [show s.1 k - 1 = 0 by omega]
      · rw [show nI (s.1 k) = nI (s.1 k - 1) + nI 1 by rw [nI_add]; congr 1; omega]
        exact Int32.add_sub_cancel _ _
    · split
      · rfl
      · rw [nI_add]
theorem dr_eq {c : dC} {s : dS} (hs : dOK s) (k : Nat) : sp_dr c.1 (nR s.2.2.1) (nR s.2.1) k = nI (if sp_bt c.1 k = true ∧ s.2.1 k = 4 then (s.2.2.1 k + 1) % 5 else s.2.2.1 k) := by
  have d1 := hs.2.2 k
  have c1 := hs.2.1 k
  unfold sp_dr
  simp only [nR_k]
  simp (disch := omega) only [am_neq]
  split
  · rw [sp_rem, nI_add, am_ndv _ _ (by omega) (by omega) (by omega), am_nml, am_nr2]
  · rfl
/-- the trial republic of I1 stands as s, over the republic of I -/
def trl (I I1 : Nat → Nat → Int32) (s : dS) : Prop := (∀ a, (a < 14 ∨ 24 < a) → a ≠ 57 → a ≠ 58 → I1 a = I a) ∧ (I1 14 0 = I 3 0 ∧ I1 14 8 = I 3 8 ∧ I1 14 9 = I 3 9 ∧ I1 14 12 = I 3 12 ∧ I1 14 15 = I 3 15 ∧ I1 14 10 = nI s.2.2.2) ∧ (I1 15 = I 4 ∧ I1 17 = I 6 ∧ I1 21 = I 10 ∧ I1 22 = I 11 ∧ I1 23 = I 12 ∧ I1 24 = I 13) ∧ (I1 16 = nR s.2.2.1 ∧ I1 18 = nR s.1 ∧ I1 19 = nR s.2.1) ∧ ∀ k, 8 ≤ k → I1 20 k = 0
/-- the republic of I has c -/
def crep (I : Nat → Nat → Int32) (c : dC) : Prop := I 3 0 = c.1 ∧ I 4 = nR c.2.1 ∧ I 10 = nR c.2.2.1 ∧ I 3 8 = nI c.2.2.2.1 ∧ I 3 9 = nI c.2.2.2.2
theorem am_fl8 {f g : Nat → Int32} (h : ∀ k, 8 ≤ k → g k = 0) : am_fl f g 8 = fun k => if k < 8 then f k else 0 := by
  funext k
  by_cases hk : k < 8
  · simp [am_fl, hk]
  · simp [am_fl, hk, h k (by omega)]
theorem am_nr_eq {I I1 : Nat → Nat → Int32} {c : dC} {s : dS} (hI : crep I c) (hc : cOK c) (hs : dOK s) (h : trl I I1 s) : am_nr I1 14 8 = nR (dMove c s).1 := by
  obtain ⟨h0, ⟨a1, a2, a3, a4, a5, a6⟩, ⟨b1, b2, b3, b4, b5, b6⟩, ⟨c1, c2, c3⟩, hz⟩ := h
  obtain ⟨g1, g2, g3, g4, g5⟩ := hI
  rw [am_nr, am_fl8 hz]
  funext k
  show (if k < 8 then sp_nx (I1 14 0) (I1 15) (I1 16) (I1 18) (I1 19) (I1 21) (I1 14 8) k else 0) = nI (if k < 8 then nxt c s k else 0)
  rw [a1, b1, c1, c2, c3, b3, a2, g1, g2, g3, g4, nx_eq hc hs k]
  split <;> rfl
theorem trl_move {I I1 : Nat → Nat → Int32} {c : dC} {s : dS} (hI : crep I c) (hc : cOK c) (hs : dOK s) (h : trl I I1 s) : trl I (am_mv I1 14) (dMove c s) := by
  have hr := am_nr_eq hI hc hs h
  obtain ⟨h0, ⟨a1, a2, a3, a4, a5, a6⟩, ⟨b1, b2, b3, b4, b5, b6⟩, ⟨c1, c2, c3⟩, hz⟩ := h
  have hn : ∀ a, a ≠ 18 → a ≠ 20 → am_mv I1 14 a = I1 a := fun a h1 h2 => by
    rw [am_mv, up_n _ _ _ _ (by omega), up_n _ _ _ _ (by omega)]
  refine ⟨fun a h1 h2 h3 => ?_, ?_, ?_, ?_, ?_⟩
  · rw [hn a (by omega) (by omega)]; exact h0 a h1 h2 h3
  · rw [hn 14 (by omega) (by omega)]; exact ⟨a1, a2, a3, a4, a5, a6⟩
  · rw [hn 15 (by omega) (by omega), hn 17 (by omega) (by omega), hn 21 (by omega) (by omega), hn 22 (by omega) (by omega), hn 23 (by omega) (by omega), hn 24 (by omega) (by omega)]
    exact ⟨b1, b2, b3, b4, b5, b6⟩
  · rw [hn 16 (by omega) (by omega), hn 19 (by omega) (by omega)]
    refine ⟨c1, ?_, c3⟩
    rw [am_mv, up_s]; exact hr
  · intro k hk
    rw [am_mv, up_n _ _ _ _ (by omega), up_s, hr]
    show nI (if k < 8 then _ else 0) = 0
    rw [if_neg (by omega)]; rfl
theorem trl_day {I I1 : Nat → Nat → Int32} {c : dC} {s : dS} (hI : crep I c) (hc : cOK c) (hs : dOK s) (h : trl I I1 s) : trl I (am_dy I1 14) (dNext (dMove c s)) := by
  have hm := trl_move hI hc hs h
  have hd := h.2.1.2.2.2.2.2
  have h14 := am_mv_r I1 14
  obtain ⟨h0, ⟨a1, a2, a3, a4, a5, a6⟩, ⟨b1, b2, b3, b4, b5, b6⟩, ⟨c1, c2, c3⟩, hz⟩ := hm
  have hn : ∀ a, a ≠ 14 → am_dy I1 14 a = am_mv I1 14 a := fun a h1 => by
    rw [am_dy, up_n _ _ _ _ h1]
  have hy : ∀ j, j ≠ 10 → am_dy I1 14 14 j = am_mv I1 14 14 j := fun j hj => by
    rw [am_dy, up_s, ud_n _ _ _ _ hj, h14]
  refine ⟨fun a h1 h2 h3 => ?_, ?_, ?_, ?_, ?_⟩
  · rw [hn a (by omega)]; exact h0 a h1 h2 h3
  · rw [hy 0 (by omega), hy 8 (by omega), hy 9 (by omega), hy 12 (by omega), hy 15 (by omega)]
    refine ⟨a1, a2, a3, a4, a5, ?_⟩
    rw [am_dy, up_s, ud_s, hd, nI_add]; rfl
  · rw [hn 15 (by omega), hn 17 (by omega), hn 21 (by omega), hn 22 (by omega), hn 23 (by omega), hn 24 (by omega)]
    exact ⟨b1, b2, b3, b4, b5, b6⟩
  · rw [hn 16 (by omega), hn 18 (by omega), hn 19 (by omega)]
    exact ⟨c1, c2, c3⟩
  · rw [hn 20 (by omega)]; exact hz
theorem trl_pass {I I1 : Nat → Nat → Int32} {c : dC} {s : dS} (hI : crep I c) (hc : cOK c) (hs : dOK s) (hd : s.2.2.2 < 1000000) (h : trl I I1 s) : trl I (am_ps I1 14) (dPass c s) := by
  have hy := trl_day hI hc hs h
  have hs2 : dOK (dNext (dMove c s)) := dOK_move hc hs
  have g5 := hI.2.2.2.2
  have hc0 := hc.2.2.2.1
  have hc9 := hc.2.2.2.2
  have hcond : (sp_rem (I1 14 10 + nI 1) (I1 14 9) = 0) = ((s.2.2.2 + 1) % c.2.2.2.2 = 0) := by
    rw [h.2.1.2.2.2.2.2, h.2.1.2.2.1, g5, nI_add, sp_rem, am_ndv _ _ (by omega) hc0 (by omega), am_nml, am_nr2]
    have := Nat.mod_lt (s.2.2.2 + 1) hc0
    exact am_neq _ 0 (by omega) (by omega)
  unfold am_ps dPass
  simp only [hcond]
  split
  · obtain ⟨h0, ⟨a1, a2, a3, a4, a5, a6⟩, ⟨b1, b2, b3, b4, b5, b6⟩, ⟨c1, c2, c3⟩, hz⟩ := hy
    refine ⟨fun a h1 h2 h3 => ?_, ?_, ?_, ?_, ?_⟩
    · rw [up_n _ _ _ _ (by omega)]; exact h0 a h1 h2 h3
    · rw [up_n _ _ _ _ (by omega)]; exact ⟨a1, a2, a3, a4, a5, a6⟩
    · rw [up_n _ _ _ _ (by omega), up_n _ _ _ _ (by omega), up_n _ _ _ _ (by omega), up_n _ _ _ _ (by omega), up_n _ _ _ _ (by omega), up_n _ _ _ _ (by omega)]
      exact ⟨b1, b2, b3, b4, b5, b6⟩
    · refine ⟨?_, ?_, ?_⟩
      · rw [up_s, am_df]
        funext k
        show am_fl (sp_dr (am_dy I1 14 14 0) (am_dy I1 14 16) (am_dy I1 14 19)) (am_dy I1 14 16) 8 k = _
        rw [a1, c1, c3, hI.1, am_fl, dr_eq hs2 k]
        show _ = nI (if k < 8 then (if sp_bt c.1 k = true ∧ s.2.1 k = 4 then (s.2.2.1 k + 1) % 5 else s.2.2.1 k) else s.2.2.1 k)
        split <;> rfl
      · rw [up_n _ _ _ _ (by omega)]; exact c2
      · rw [up_n _ _ _ _ (by omega)]; exact c3
    · rw [up_n _ _ _ _ (by omega)]; exact hz
  · exact hy
theorem nR_ext {f g : Nat → Nat} (h : ∀ k, f k = g k) : nR f = nR g := by funext k; rw [nR_k, nR_k, h k]
theorem nI_prd {n : Nat} (h : 0 < n) : nI n + (-1) = nI (n - 1) := by
  have h1 : nI n = nI (n - 1) + nI 1 := by rw [nI_add]; congr 1; omega
  rw [h1, Int32.add_assoc, show nI 1 + (-1) = 0 by decide, Int32.add_zero]
theorem trl_act {I I1 : Nat → Nat → Int32} {s : dS} (f k : Nat) (a : Int32) (ha : a = nI 43 ∨ a = nI 45 ∨ a = nI 94 ∨ 0 < s.1 k) (h : trl I I1 s) : trl I (am_act I1 14 (nI f) k a) (dAct s f k a) := by
  obtain ⟨h0, ⟨a1, a2, a3, a4, a5, a6⟩, ⟨b1, b2, b3, b4, b5, b6⟩, ⟨c1, c2, c3⟩, hz⟩ := h
  have hgen : ∀ (b : Nat) (f : Nat → Int32), b = 18 ∨ b = 19 → (∀ a, (a < 14 ∨ 24 < a) → a ≠ 57 → a ≠ 58 → va_up I1 b f a = I a) ∧ (va_up I1 b f 14 0 = I 3 0 ∧ va_up I1 b f 14 8 = I 3 8 ∧ va_up I1 b f 14 9 = I 3 9 ∧ va_up I1 b f 14 12 = I 3 12 ∧ va_up I1 b f 14 15 = I 3 15 ∧ va_up I1 b f 14 10 = nI s.2.2.2) ∧ (va_up I1 b f 15 = I 4 ∧ va_up I1 b f 17 = I 6 ∧ va_up I1 b f 21 = I 10 ∧ va_up I1 b f 22 = I 11 ∧ va_up I1 b f 23 = I 12 ∧ va_up I1 b f 24 = I 13) ∧ (va_up I1 b f 16 = nR s.2.2.1) ∧ ∀ k, 8 ≤ k → va_up I1 b f 20 k = 0 := by
    intro b f hb
    refine ⟨fun a h1 h2 h3 => ?_, ?_, ?_, ?_, ?_⟩
    · rw [up_n _ _ _ _ (by omega)]; exact h0 a h1 h2 h3
    · rw [up_n _ _ _ _ (by omega)]; exact ⟨a1, a2, a3, a4, a5, a6⟩
    · rw [up_n _ _ _ _ (by omega), up_n _ _ _ _ (by omega), up_n _ _ _ _ (by omega), up_n _ _ _ _ (by omega), up_n _ _ _ _ (by omega), up_n _ _ _ _ (by omega)]
      exact ⟨b1, b2, b3, b4, b5, b6⟩
    · rw [up_n _ _ _ _ (by omega)]; exact c1
    · rw [up_n _ _ _ _ (by omega)]; exact hz
  unfold am_act dAct
  split
  · obtain ⟨p1, p2, p3, p4, p5⟩ := hgen 19 (upd (I1 19) k (nI f)) (by omega)
    refine ⟨p1, p2, p3, ⟨p4, ?_, ?_⟩, p5⟩
    · rw [up_n _ _ _ _ (by omega)]; exact c2
    · rw [up_s, c3, nR_u]
  · split
    · obtain ⟨p1, p2, p3, p4, p5⟩ := hgen 19 (upd (I1 19) k (nI 4)) (by omega)
      refine ⟨p1, p2, p3, ⟨p4, ?_, ?_⟩, p5⟩
      · rw [up_n _ _ _ _ (by omega)]; exact c2
      · rw [up_s, c3, nR_u]
    · rename_i n1 n2
      have hv : I1 18 k + (if a = nI 94 then nI 1 else -1) = nI (if a = nI 94 then s.1 k + 1 else s.1 k - 1) := by
        rw [c2, nR_k]
        split
        · rw [nI_add]
        · rename_i n3
          have : 0 < s.1 k := by
            rcases ha with h | h | h | h
            · exact absurd h n1
            · exact absurd h n2
            · exact absurd h n3
            · exact h
          exact nI_prd this
      obtain ⟨p1, p2, p3, p4, p5⟩ := hgen 18 (upd (I1 18) k (I1 18 k + (if a = nI 94 then nI 1 else -1))) (by omega)
      refine ⟨p1, p2, p3, ⟨p4, ?_, ?_⟩, p5⟩
      · rw [up_s, hv, c2, nR_u]
      · rw [up_n _ _ _ _ (by omega)]; exact c3
/-- the republic is copied for a trial -/
theorem trl_cpy {I : Nat → Nat → Int32} {s : dS} (hm : I 5 = nR s.2.2.1) (hr : I 7 = nR s.1) (hh : I 8 = nR s.2.1) (hd : I 3 10 = nI s.2.2.2) (hz : ∀ k, 8 ≤ k → I 20 k = 0) : trl I (am_cpy I 14 3) s := by
  refine ⟨fun a h1 h2 h3 => ?_, ?_, ?_, ?_, ?_⟩
  · simp only [am_cpy]
    rw [if_neg (by omega), if_neg (by omega), if_neg (by omega), if_neg (by omega), if_neg (by omega), if_neg (by omega), if_neg (by omega), if_neg (by omega), if_neg (by omega), if_neg (by omega)]
  · simp [am_cpy, ud_s, ud_n, hd]
  · simp [am_cpy]
  · simp [am_cpy, hm, hr, hh]
  · intro k hk
    simp [am_cpy]
    exact hz k hk
