/-! the WALK goes through the codes in order -/
/-- may WORD x stand at place p? -/
def vP (t : Int32) (so : Nat → Int32) (p x : Nat) : Bool := sp_ios t so (nI x) (sp_srt (nI p))
theorem fos_p (t : Int32) (so : Nat → Int32) (s : Int32) : ∀ n k, n + k = 8 → (∀ x, k ≤ x → x < fos t so s n k → x < 8 → sp_ios t so (nI x) s = false) ∧ (fos t so s n k < 8 → sp_ios t so (nI (fos t so s n k)) s = true ∧ k ≤ fos t so s n k)
  | 0, k, h => ⟨fun x h1 _ h3 => absurd h3 (by omega), fun h1 => by rw [fos] at h1; omega⟩
  | n + 1, k, h => by
    have ih := fos_p t so s n (k + 1) (by omega)
    rw [fos]
    by_cases hc : sp_ios t so (nI k) s = true
    · rw [if_pos hc]
      exact ⟨fun x h1 h2 => by omega, fun _ => ⟨hc, Nat.le_refl _⟩⟩
    · rw [if_neg hc]
      refine ⟨fun x h1 h2 h3 => ?_, fun h1 => ⟨(ih.2 h1).1, by have := (ih.2 h1).2; omega⟩⟩
      by_cases e : x = k
      · subst e; simpa using hc
      · exact ih.1 x (by omega) h2 h3
theorem wf_no {t : Int32} {so : Nat → Int32} {p k x : Nat} (hk : k ≤ 8) (h1 : k ≤ x) (h2 : x < wf t so p k) (h3 : x < 8) : vP t so p x = false := (fos_p t so _ (8 - k) k (by omega)).1 x h1 h2 h3
theorem wf_yes {t : Int32} {so : Nat → Int32} {p k : Nat} (hk : k ≤ 8) (h : wf t so p k < 8) : vP t so p (wf t so p k) = true ∧ k ≤ wf t so p k := (fos_p t so _ (8 - k) k (by omega)).2 h
/-- codes from c on, k of them -/
def cfr2 {β : Type} (vl : Nat → Bool) (G : Nat → β → β) : Nat → Nat → β → β
  | 0, _, b => b
  | k + 1, c, b => cfr2 vl G k (c + 1) (if vl c = true then G c b else b)
theorem cfr2_skip {β : Type} (vl : Nat → Bool) (G : Nat → β → β) : ∀ i k c b, (∀ x, c ≤ x → x < c + i → vl x = false) → cfr2 vl G (i + k) c b = cfr2 vl G k (c + i) b
  | 0, k, c, b, _ => by rw [Nat.zero_add, Nat.add_zero]
  | i + 1, k, c, b, h => by
    rw [show i + 1 + k = (i + k) + 1 by omega, cfr2, if_neg (by rw [h c (Nat.le_refl _) (by omega)]; simp), cfr2_skip vl G i k (c + 1) b (fun x h1 h2 => h x (by omega) (by omega)), show c + 1 + i = c + (i + 1) by omega]
theorem cfr2_none {β : Type} (vl : Nat → Bool) (G : Nat → β → β) (k c : Nat) (b : β) (h : ∀ x, c ≤ x → x < c + k → vl x = false) : cfr2 vl G k c b = b := by
  have := cfr2_skip vl G k 0 c b h
  rw [Nat.add_zero] at this
  rw [this]; rfl
/-- what a walk's row stands for -/
def rowOK (t : Int32) (so : Nat → Int32) (n : Nat) (w : Nat → Nat) : Prop := ∀ p, p < n → w p < 8 ∧ vP t so p (w p) = true
/-- how the walk must go: from a row to the next code that is a SENTENCE -/
def wgo (t : Int32) (so : Nat → Int32) (n N : Nat) (cd : (Nat → Nat) → Nat) (vl : Nat → Bool) : Prop := ∀ w, rowOK t so n w → cd w < N ∧ vl (cd w) = true ∧ (∀ j, j < n → dgR n (cd w) j = w j) ∧ ((wstp (wf t so) n w 5).1 = true → rowOK t so n (wstp (wf t so) n w 5).2 ∧ cd w < cd (wstp (wf t so) n w 5).2 ∧ ∀ x, cd w < x → x < cd (wstp (wf t so) n w 5).2 → vl x = false) ∧ ((wstp (wf t so) n w 5).1 = false → ∀ x, cd w < x → x < N → vl x = false)
theorem wit_sim {α β : Type} {t : Int32} {so : Nat → Int32} {n N : Nat} {cd : (Nat → Nat) → Nat} {vl : Nat → Bool} (hgo : wgo t so n N cd vl) (B : (Nat → Nat) → α → α) (G : Nat → β → β) (Rl : α → β → Prop) (hst : ∀ w a b, rowOK t so n w → Rl a b → Rl (B w a) (G (cd w) b)) : ∀ m w a b, rowOK t so n w → N - cd w ≤ m → Rl a b → Rl (wit (wf t so) n B m true w a) (cfr2 vl G (N - cd w) (cd w) b)
  | 0, w, a, b, hw, hm, _ => by
    have := (hgo w hw).1
    omega
  | m + 1, w, a, b, hw, hm, hr => by
    obtain ⟨h1, h2, h3, h4, h5⟩ := hgo w hw
    rw [wit, if_pos rfl, show N - cd w = (N - cd w - 1) + 1 by omega, cfr2, if_pos h2]
    have hr2 := hst w a b hw hr
    cases hb : (wstp (wf t so) n w 5).1
    · rw [wit_f, cfr2_none _ _ _ _ _ (fun x x1 x2 => h5 hb x (by omega) (by omega))]
      exact hr2
    · obtain ⟨g1, g2, g3⟩ := h4 hb
      have g4 := (hgo _ g1).1
      have ih := wit_sim hgo B G Rl hst m (wstp (wf t so) n w 5).2 (B w a) (G (cd w) b) g1 (by omega) hr2
      have hs := cfr2_skip vl G (cd (wstp (wf t so) n w 5).2 - cd w - 1) (N - cd (wstp (wf t so) n w 5).2) (cd w + 1) (G (cd w) b) (fun x x1 x2 => g3 x (by omega) (by omega))
      rw [show cd (wstp (wf t so) n w 5).2 - cd w - 1 + (N - cd (wstp (wf t so) n w 5).2) = N - cd w - 1 by omega, show cd w + 1 + (cd (wstp (wf t so) n w 5).2 - cd w - 1) = cd (wstp (wf t so) n w 5).2 by omega] at hs
      rw [hs]
      exact ih
def cd3 (w : Nat → Nat) : Nat := 64 * w 0 + 8 * w 1 + w 2
def cd5 (w : Nat → Nat) : Nat := 4096 * w 0 + 512 * w 1 + 64 * w 2 + 8 * w 3 + w 4
theorem vld3 (t : Int32) (so : Nat → Int32) (c : Nat) : vldR t so 3 c = (vP t so 2 (c % 8) && (vP t so 1 (c / 8 % 8) && vP t so 0 (c / 64 % 8))) := by
  unfold vldR okR dgR vP
  simp [sp_all, Bool.and_assoc]
theorem vld5 (t : Int32) (so : Nat → Int32) (c : Nat) : vldR t so 5 c = (vP t so 4 (c % 8) && (vP t so 3 (c / 8 % 8) && (vP t so 2 (c / 64 % 8) && (vP t so 1 (c / 512 % 8) && vP t so 0 (c / 4096 % 8))))) := by
  unfold vldR okR dgR vP
  simp [sp_all, Bool.and_assoc]
theorem up_e (w : Nat → Nat) (p x q : Nat) : va_up w p x q = if q = p then x else w q := rfl
theorem wstp3 (f : Nat → Nat → Nat) (w : Nat → Nat) : wstp f 3 w 5 = (if f 2 (w 2 + 1) < 8 then (true, va_up w 2 (f 2 (w 2 + 1))) else if f 1 (w 1 + 1) < 8 then (true, va_up (va_up w 2 (f 2 0)) 1 (f 1 (w 1 + 1))) else if f 0 (w 0 + 1) < 8 then (true, va_up (va_up (va_up w 2 (f 2 0)) 1 (f 1 0)) 0 (f 0 (w 0 + 1))) else (false, va_up (va_up (va_up w 2 (f 2 0)) 1 (f 1 0)) 0 (f 0 0))) := by
  by_cases h2 : f 2 (w 2 + 1) < 8 <;> by_cases h1 : f 1 (w 1 + 1) < 8 <;> by_cases h0 : f 0 (w 0 + 1) < 8 <;> simp [wstp, up_e, h2, h1, h0]
theorem wgo3 (t : Int32) (so : Nat → Int32) (hV : wfok t so 3) : wgo t so 3 512 cd3 (vldR t so 3) := by
  intro w hw
  obtain ⟨a0, v0⟩ := hw 0 (by omega)
  obtain ⟨a1, v1⟩ := hw 1 (by omega)
  obtain ⟨a2, v2⟩ := hw 2 (by omega)
  have m0 := hV 0 (by omega)
  have m1 := hV 1 (by omega)
  have m2 := hV 2 (by omega)
  have y0 := wf_yes (t := t) (so := so) (p := 0) (by omega) m0
  have y1 := wf_yes (t := t) (so := so) (p := 1) (by omega) m1
  have y2 := wf_yes (t := t) (so := so) (p := 2) (by omega) m2
  have n2 : ∀ x, x < 8 → vP t so 2 x = true → w 2 < x → wf t so 2 (w 2 + 1) ≤ x := fun x hx hv h => Nat.le_of_not_lt (fun h2 => by rw [wf_no (by omega) (by omega) h2 hx] at hv; cases hv)
  have n1 : ∀ x, x < 8 → vP t so 1 x = true → w 1 < x → wf t so 1 (w 1 + 1) ≤ x := fun x hx hv h => Nat.le_of_not_lt (fun h2 => by rw [wf_no (by omega) (by omega) h2 hx] at hv; cases hv)
  have n0 : ∀ x, x < 8 → vP t so 0 x = true → w 0 < x → wf t so 0 (w 0 + 1) ≤ x := fun x hx hv h => Nat.le_of_not_lt (fun h2 => by rw [wf_no (by omega) (by omega) h2 hx] at hv; cases hv)
  have l2 : ∀ x, x < 8 → vP t so 2 x = true → wf t so 2 0 ≤ x := fun x hx hv => Nat.le_of_not_lt (fun h2 => by rw [wf_no (by omega) (by omega) h2 hx] at hv; cases hv)
  have l1 : ∀ x, x < 8 → vP t so 1 x = true → wf t so 1 0 ≤ x := fun x hx hv => Nat.le_of_not_lt (fun h2 => by rw [wf_no (by omega) (by omega) h2 hx] at hv; cases hv)
  have dg : ∀ x, x < 512 → vldR t so 3 x = true → ∃ b0 b1 b2, b0 < 8 ∧ b1 < 8 ∧ b2 < 8 ∧ vP t so 0 b0 = true ∧ vP t so 1 b1 = true ∧ vP t so 2 b2 = true ∧ x = 64 * b0 + 8 * b1 + b2 := fun x hx hv => by
    rw [vld3] at hv
    simp only [Bool.and_eq_true] at hv
    exact ⟨x / 64 % 8, x / 8 % 8, x % 8, by omega, by omega, by omega, hv.2.2, hv.2.1, hv.1, by omega⟩
  have hno : ∀ c', c' ≤ 512 → (∀ b0 b1 b2, b0 < 8 → b1 < 8 → b2 < 8 → vP t so 0 b0 = true → vP t so 1 b1 = true → vP t so 2 b2 = true → cd3 w < 64 * b0 + 8 * b1 + b2 → 64 * b0 + 8 * b1 + b2 < c' → False) → ∀ x, cd3 w < x → x < c' → vldR t so 3 x = false := fun c' hc' H x x1 x2 => by
    cases hv : vldR t so 3 x
    · rfl
    · obtain ⟨b0, b1, b2, d0, d1, d2, e0, e1, e2, rfl⟩ := dg x (by omega) hv
      exact (H b0 b1 b2 d0 d1 d2 e0 e1 e2 x1 x2).elim
  rw [wstp3]
  refine ⟨by unfold cd3; omega, ?_, fun j hj => ?_, ?_, ?_⟩
  · rw [vld3]
    unfold cd3
    rw [show (64 * w 0 + 8 * w 1 + w 2) % 8 = w 2 by omega, show (64 * w 0 + 8 * w 1 + w 2) / 8 % 8 = w 1 by omega, show (64 * w 0 + 8 * w 1 + w 2) / 64 % 8 = w 0 by omega, v0, v1, v2]; rfl
  · unfold dgR cd3
    rcases (by omega : j = 0 ∨ j = 1 ∨ j = 2) with rfl | rfl | rfl
    · show (64 * w 0 + 8 * w 1 + w 2) / 64 % 8 = w 0; omega
    · show (64 * w 0 + 8 * w 1 + w 2) / 8 % 8 = w 1; omega
    · show (64 * w 0 + 8 * w 1 + w 2) / 1 % 8 = w 2; omega
  · by_cases c2 : wf t so 2 (w 2 + 1) < 8
    · rw [if_pos c2]
      have z2 := wf_yes (t := t) (so := so) (p := 2) (by omega) c2
      intro _
      refine ⟨fun p hp => ?_, ?_, hno _ ?_ ?_⟩
      · rcases (by omega : p = 0 ∨ p = 1 ∨ p = 2) with rfl | rfl | rfl
        · exact ⟨a0, v0⟩
        · exact ⟨a1, v1⟩
        · exact ⟨c2, z2.1⟩
      · show cd3 w < cd3 (va_up w 2 _)
        simp only [cd3, up_e]; simp; omega
      · show cd3 (va_up w 2 _) ≤ 512
        simp only [cd3, up_e]; simp; omega
      · intro b0 b1 b2 d0 d1 d2 e0 e1 e2 x1 x2
        have q2 := n2 b2 d2 e2
        simp only [cd3, up_e] at x1 x2
        simp at x2
        omega
    · rw [if_neg c2]
      by_cases c1 : wf t so 1 (w 1 + 1) < 8
      · rw [if_pos c1]
        have z1 := wf_yes (t := t) (so := so) (p := 1) (by omega) c1
        intro _
        refine ⟨fun p hp => ?_, ?_, hno _ ?_ ?_⟩
        · rcases (by omega : p = 0 ∨ p = 1 ∨ p = 2) with rfl | rfl | rfl
          · exact ⟨a0, v0⟩
          · exact ⟨c1, z1.1⟩
          · exact ⟨m2, y2.1⟩
        · show cd3 w < cd3 (va_up (va_up w 2 _) 1 _)
          simp only [cd3, up_e]; simp; omega
        · show cd3 (va_up (va_up w 2 _) 1 _) ≤ 512
          simp only [cd3, up_e]; simp; omega
        · intro b0 b1 b2 d0 d1 d2 e0 e1 e2 x1 x2
          have q2 := n2 b2 d2 e2
          have q1 := n1 b1 d1 e1
          have k2 := l2 b2 d2 e2
          simp only [cd3, up_e] at x1 x2
          simp at x2
          omega
      · rw [if_neg c1]
        by_cases c0 : wf t so 0 (w 0 + 1) < 8
        · rw [if_pos c0]
          have z0 := wf_yes (t := t) (so := so) (p := 0) (by omega) c0
          intro _
          refine ⟨fun p hp => ?_, ?_, hno _ ?_ ?_⟩
          · rcases (by omega : p = 0 ∨ p = 1 ∨ p = 2) with rfl | rfl | rfl
            · exact ⟨c0, z0.1⟩
            · exact ⟨m1, y1.1⟩
            · exact ⟨m2, y2.1⟩
          · show cd3 w < cd3 (va_up (va_up (va_up w 2 _) 1 _) 0 _)
            simp only [cd3, up_e]; simp; omega
          · show cd3 (va_up (va_up (va_up w 2 _) 1 _) 0 _) ≤ 512
            simp only [cd3, up_e]; simp; omega
          · intro b0 b1 b2 d0 d1 d2 e0 e1 e2 x1 x2
            have q2 := n2 b2 d2 e2
            have q1 := n1 b1 d1 e1
            have q0 := n0 b0 d0 e0
            have k2 := l2 b2 d2 e2
            have k1 := l1 b1 d1 e1
            simp only [cd3, up_e] at x1 x2
            simp at x2
            omega
        · rw [if_neg c0]
          intro h; cases h
  · by_cases c2 : wf t so 2 (w 2 + 1) < 8
    · rw [if_pos c2]; intro h; cases h
    · rw [if_neg c2]
      by_cases c1 : wf t so 1 (w 1 + 1) < 8
      · rw [if_pos c1]; intro h; cases h
      · rw [if_neg c1]
        by_cases c0 : wf t so 0 (w 0 + 1) < 8
        · rw [if_pos c0]; intro h; cases h
        · intro _
          refine hno 512 (Nat.le_refl _) ?_
          intro b0 b1 b2 d0 d1 d2 e0 e1 e2 x1 x2
          have q2 := n2 b2 d2 e2
          have q1 := n1 b1 d1 e1
          have q0 := n0 b0 d0 e0
          simp only [cd3] at x1
          omega
