/-! the WALK of 5 goes through the codes in order; where it begins -/
theorem wstp5 (f : Nat → Nat → Nat) (w : Nat → Nat) : wstp f 5 w 5 = (if f 4 (w 4 + 1) < 8 then (true, va_up w 4 (f 4 (w 4 + 1))) else if f 3 (w 3 + 1) < 8 then (true, va_up (va_up w 4 (f 4 0)) 3 (f 3 (w 3 + 1))) else if f 2 (w 2 + 1) < 8 then (true, va_up (va_up (va_up w 4 (f 4 0)) 3 (f 3 0)) 2 (f 2 (w 2 + 1))) else if f 1 (w 1 + 1) < 8 then (true, va_up (va_up (va_up (va_up w 4 (f 4 0)) 3 (f 3 0)) 2 (f 2 0)) 1 (f 1 (w 1 + 1))) else if f 0 (w 0 + 1) < 8 then (true, va_up (va_up (va_up (va_up (va_up w 4 (f 4 0)) 3 (f 3 0)) 2 (f 2 0)) 1 (f 1 0)) 0 (f 0 (w 0 + 1))) else (false, va_up (va_up (va_up (va_up (va_up w 4 (f 4 0)) 3 (f 3 0)) 2 (f 2 0)) 1 (f 1 0)) 0 (f 0 0))) := by
  by_cases h4 : f 4 (w 4 + 1) < 8
  · simp [wstp, up_e, h4]
  · by_cases h3 : f 3 (w 3 + 1) < 8
    · simp [wstp, up_e, h4, h3]
    · by_cases h2 : f 2 (w 2 + 1) < 8
      · simp [wstp, up_e, h4, h3, h2]
      · by_cases h1 : f 1 (w 1 + 1) < 8
        · simp [wstp, up_e, h4, h3, h2, h1]
        · by_cases h0 : f 0 (w 0 + 1) < 8
          · simp [wstp, up_e, h4, h3, h2, h1, h0]
          · simp [wstp, up_e, h4, h3, h2, h1, h0]
theorem wgo5 (t : Int32) (so : Nat → Int32) (hV : wfok t so 5) : wgo t so 5 32768 cd5 (vldR t so 5) := by
  intro w hw
  obtain ⟨a0, v0⟩ := hw 0 (by omega)
  obtain ⟨a1, v1⟩ := hw 1 (by omega)
  obtain ⟨a2, v2⟩ := hw 2 (by omega)
  obtain ⟨a3, v3⟩ := hw 3 (by omega)
  obtain ⟨a4, v4⟩ := hw 4 (by omega)
  have m0 := hV 0 (by omega)
  have m1 := hV 1 (by omega)
  have m2 := hV 2 (by omega)
  have m3 := hV 3 (by omega)
  have m4 := hV 4 (by omega)
  have y0 := wf_yes (t := t) (so := so) (p := 0) (by omega) m0
  have y1 := wf_yes (t := t) (so := so) (p := 1) (by omega) m1
  have y2 := wf_yes (t := t) (so := so) (p := 2) (by omega) m2
  have y3 := wf_yes (t := t) (so := so) (p := 3) (by omega) m3
  have y4 := wf_yes (t := t) (so := so) (p := 4) (by omega) m4
  have n0 : ∀ x, x < 8 → vP t so 0 x = true → w 0 < x → wf t so 0 (w 0 + 1) ≤ x := fun x hx hv h => Nat.le_of_not_lt (fun h2 => by rw [wf_no (by omega) (by omega) h2 hx] at hv; cases hv)
  have n1 : ∀ x, x < 8 → vP t so 1 x = true → w 1 < x → wf t so 1 (w 1 + 1) ≤ x := fun x hx hv h => Nat.le_of_not_lt (fun h2 => by rw [wf_no (by omega) (by omega) h2 hx] at hv; cases hv)
  have n2 : ∀ x, x < 8 → vP t so 2 x = true → w 2 < x → wf t so 2 (w 2 + 1) ≤ x := fun x hx hv h => Nat.le_of_not_lt (fun h2 => by rw [wf_no (by omega) (by omega) h2 hx] at hv; cases hv)
  have n3 : ∀ x, x < 8 → vP t so 3 x = true → w 3 < x → wf t so 3 (w 3 + 1) ≤ x := fun x hx hv h => Nat.le_of_not_lt (fun h2 => by rw [wf_no (by omega) (by omega) h2 hx] at hv; cases hv)
  have n4 : ∀ x, x < 8 → vP t so 4 x = true → w 4 < x → wf t so 4 (w 4 + 1) ≤ x := fun x hx hv h => Nat.le_of_not_lt (fun h2 => by rw [wf_no (by omega) (by omega) h2 hx] at hv; cases hv)
  have l0 : ∀ x, x < 8 → vP t so 0 x = true → wf t so 0 0 ≤ x := fun x hx hv => Nat.le_of_not_lt (fun h2 => by rw [wf_no (by omega) (by omega) h2 hx] at hv; cases hv)
  have l1 : ∀ x, x < 8 → vP t so 1 x = true → wf t so 1 0 ≤ x := fun x hx hv => Nat.le_of_not_lt (fun h2 => by rw [wf_no (by omega) (by omega) h2 hx] at hv; cases hv)
  have l2 : ∀ x, x < 8 → vP t so 2 x = true → wf t so 2 0 ≤ x := fun x hx hv => Nat.le_of_not_lt (fun h2 => by rw [wf_no (by omega) (by omega) h2 hx] at hv; cases hv)
  have l3 : ∀ x, x < 8 → vP t so 3 x = true → wf t so 3 0 ≤ x := fun x hx hv => Nat.le_of_not_lt (fun h2 => by rw [wf_no (by omega) (by omega) h2 hx] at hv; cases hv)
  have l4 : ∀ x, x < 8 → vP t so 4 x = true → wf t so 4 0 ≤ x := fun x hx hv => Nat.le_of_not_lt (fun h2 => by rw [wf_no (by omega) (by omega) h2 hx] at hv; cases hv)
  have dg : ∀ x, x < 32768 → vldR t so 5 x = true → ∃ b0 b1 b2 b3 b4, b0 < 8 ∧ b1 < 8 ∧ b2 < 8 ∧ b3 < 8 ∧ b4 < 8 ∧ vP t so 0 b0 = true ∧ vP t so 1 b1 = true ∧ vP t so 2 b2 = true ∧ vP t so 3 b3 = true ∧ vP t so 4 b4 = true ∧ x = 4096 * b0 + 512 * b1 + 64 * b2 + 8 * b3 + b4 := fun x hx hv => by
    rw [vld5] at hv
    simp only [Bool.and_eq_true] at hv
    exact ⟨x / 4096 % 8, x / 512 % 8, x / 64 % 8, x / 8 % 8, x % 8, by omega, by omega, by omega, by omega, by omega, hv.2.2.2.2, hv.2.2.2.1, hv.2.2.1, hv.2.1, hv.1, by omega⟩
  have hno : ∀ c', c' ≤ 32768 → (∀ b0 b1 b2 b3 b4, b0 < 8 → b1 < 8 → b2 < 8 → b3 < 8 → b4 < 8 → vP t so 0 b0 = true → vP t so 1 b1 = true → vP t so 2 b2 = true → vP t so 3 b3 = true → vP t so 4 b4 = true → cd5 w < 4096 * b0 + 512 * b1 + 64 * b2 + 8 * b3 + b4 → 4096 * b0 + 512 * b1 + 64 * b2 + 8 * b3 + b4 < c' → False) → ∀ x, cd5 w < x → x < c' → vldR t so 5 x = false := fun c' hc' H x x1 x2 => by
    cases hv : vldR t so 5 x
    · rfl
    · obtain ⟨b0, b1, b2, b3, b4, d0, d1, d2, d3, d4, e0, e1, e2, e3, e4, rfl⟩ := dg x (by omega) hv
      exact (H b0 b1 b2 b3 b4 d0 d1 d2 d3 d4 e0 e1 e2 e3 e4 x1 x2).elim
  rw [wstp5]
  refine ⟨by unfold cd5; omega, ?_, fun j hj => ?_, ?_, ?_⟩
  · rw [vld5]
    unfold cd5
    rw [show (4096 * w 0 + 512 * w 1 + 64 * w 2 + 8 * w 3 + w 4) % 8 = w 4 by omega, show (4096 * w 0 + 512 * w 1 + 64 * w 2 + 8 * w 3 + w 4) / 8 % 8 = w 3 by omega, show (4096 * w 0 + 512 * w 1 + 64 * w 2 + 8 * w 3 + w 4) / 64 % 8 = w 2 by omega, show (4096 * w 0 + 512 * w 1 + 64 * w 2 + 8 * w 3 + w 4) / 512 % 8 = w 1 by omega, show (4096 * w 0 + 512 * w 1 + 64 * w 2 + 8 * w 3 + w 4) / 4096 % 8 = w 0 by omega, v0, v1, v2, v3, v4]; rfl
  · unfold dgR cd5
    rcases (by omega : j = 0 ∨ j = 1 ∨ j = 2 ∨ j = 3 ∨ j = 4) with rfl | rfl | rfl | rfl | rfl
    · show (4096 * w 0 + 512 * w 1 + 64 * w 2 + 8 * w 3 + w 4) / 4096 % 8 = w 0; omega
    · show (4096 * w 0 + 512 * w 1 + 64 * w 2 + 8 * w 3 + w 4) / 512 % 8 = w 1; omega
    · show (4096 * w 0 + 512 * w 1 + 64 * w 2 + 8 * w 3 + w 4) / 64 % 8 = w 2; omega
    · show (4096 * w 0 + 512 * w 1 + 64 * w 2 + 8 * w 3 + w 4) / 8 % 8 = w 3; omega
    · show (4096 * w 0 + 512 * w 1 + 64 * w 2 + 8 * w 3 + w 4) / 1 % 8 = w 4; omega
  · by_cases c4 : wf t so 4 (w 4 + 1) < 8
    · rw [if_pos c4]
      have z4 := wf_yes (t := t) (so := so) (p := 4) (by omega) c4
      intro _
      refine ⟨fun p hp => ?_, ?_, hno _ ?_ ?_⟩
      · rcases (by omega : p = 0 ∨ p = 1 ∨ p = 2 ∨ p = 3 ∨ p = 4) with rfl | rfl | rfl | rfl | rfl
        · exact ⟨a0, v0⟩
        · exact ⟨a1, v1⟩
        · exact ⟨a2, v2⟩
        · exact ⟨a3, v3⟩
        · exact ⟨c4, z4.1⟩
      · show cd5 w < cd5 (va_up w 4 _)
        simp only [cd5, up_e]; simp; omega
      · show cd5 (va_up w 4 _) ≤ 32768
        simp only [cd5, up_e]; simp; omega
      · intro b0 b1 b2 b3 b4 d0 d1 d2 d3 d4 e0 e1 e2 e3 e4 x1 x2
        have q4 := n4 b4 d4 e4
        simp only [cd5, up_e] at x1 x2
        simp at x2
        clear hno dg n0 l0 y0 v0 e0 n1 l1 y1 v1 e1 n2 l2 y2 v2 e2 n3 l3 y3 v3 e3 n4 l4 y4 v4 e4
        omega
    · rw [if_neg c4]
      by_cases c3 : wf t so 3 (w 3 + 1) < 8
      · rw [if_pos c3]
        have z3 := wf_yes (t := t) (so := so) (p := 3) (by omega) c3
        intro _
        refine ⟨fun p hp => ?_, ?_, hno _ ?_ ?_⟩
        · rcases (by omega : p = 0 ∨ p = 1 ∨ p = 2 ∨ p = 3 ∨ p = 4) with rfl | rfl | rfl | rfl | rfl
          · exact ⟨a0, v0⟩
          · exact ⟨a1, v1⟩
          · exact ⟨a2, v2⟩
          · exact ⟨c3, z3.1⟩
          · exact ⟨m4, y4.1⟩
        · show cd5 w < cd5 (va_up (va_up w 4 _) 3 _)
          simp only [cd5, up_e]; simp; omega
        · show cd5 (va_up (va_up w 4 _) 3 _) ≤ 32768
          simp only [cd5, up_e]; simp; omega
        · intro b0 b1 b2 b3 b4 d0 d1 d2 d3 d4 e0 e1 e2 e3 e4 x1 x2
          have q4 := n4 b4 d4 e4
          have q3 := n3 b3 d3 e3
          have k4 := l4 b4 d4 e4
          simp only [cd5, up_e] at x1 x2
          simp at x2
          clear hno dg n0 l0 y0 v0 e0 n1 l1 y1 v1 e1 n2 l2 y2 v2 e2 n3 l3 y3 v3 e3 n4 l4 y4 v4 e4
          omega
      · rw [if_neg c3]
        by_cases c2 : wf t so 2 (w 2 + 1) < 8
        · rw [if_pos c2]
          have z2 := wf_yes (t := t) (so := so) (p := 2) (by omega) c2
          intro _
          refine ⟨fun p hp => ?_, ?_, hno _ ?_ ?_⟩
          · rcases (by omega : p = 0 ∨ p = 1 ∨ p = 2 ∨ p = 3 ∨ p = 4) with rfl | rfl | rfl | rfl | rfl
            · exact ⟨a0, v0⟩
            · exact ⟨a1, v1⟩
            · exact ⟨c2, z2.1⟩
            · exact ⟨m3, y3.1⟩
            · exact ⟨m4, y4.1⟩
          · show cd5 w < cd5 (va_up (va_up (va_up w 4 _) 3 _) 2 _)
            simp only [cd5, up_e]; simp; omega
          · show cd5 (va_up (va_up (va_up w 4 _) 3 _) 2 _) ≤ 32768
            simp only [cd5, up_e]; simp; omega
          · intro b0 b1 b2 b3 b4 d0 d1 d2 d3 d4 e0 e1 e2 e3 e4 x1 x2
            have q4 := n4 b4 d4 e4
            have q3 := n3 b3 d3 e3
            have q2 := n2 b2 d2 e2
            have k4 := l4 b4 d4 e4
            have k3 := l3 b3 d3 e3
            simp only [cd5, up_e] at x1 x2
            simp at x2
            clear hno dg n0 l0 y0 v0 e0 n1 l1 y1 v1 e1 n2 l2 y2 v2 e2 n3 l3 y3 v3 e3 n4 l4 y4 v4 e4
            omega
        · rw [if_neg c2]
          by_cases c1 : wf t so 1 (w 1 + 1) < 8
          · rw [if_pos c1]
            have z1 := wf_yes (t := t) (so := so) (p := 1) (by omega) c1
            intro _
            refine ⟨fun p hp => ?_, ?_, hno _ ?_ ?_⟩
            · rcases (by omega : p = 0 ∨ p = 1 ∨ p = 2 ∨ p = 3 ∨ p = 4) with rfl | rfl | rfl | rfl | rfl
              · exact ⟨a0, v0⟩
              · exact ⟨c1, z1.1⟩
              · exact ⟨m2, y2.1⟩
              · exact ⟨m3, y3.1⟩
              · exact ⟨m4, y4.1⟩
            · show cd5 w < cd5 (va_up (va_up (va_up (va_up w 4 _) 3 _) 2 _) 1 _)
              simp only [cd5, up_e]; simp; omega
            · show cd5 (va_up (va_up (va_up (va_up w 4 _) 3 _) 2 _) 1 _) ≤ 32768
              simp only [cd5, up_e]; simp; omega
            · intro b0 b1 b2 b3 b4 d0 d1 d2 d3 d4 e0 e1 e2 e3 e4 x1 x2
              have q4 := n4 b4 d4 e4
              have q3 := n3 b3 d3 e3
              have q2 := n2 b2 d2 e2
              have q1 := n1 b1 d1 e1
              have k4 := l4 b4 d4 e4
              have k3 := l3 b3 d3 e3
              have k2 := l2 b2 d2 e2
              simp only [cd5, up_e] at x1 x2
              simp at x2
              clear hno dg n0 l0 y0 v0 e0 n1 l1 y1 v1 e1 n2 l2 y2 v2 e2 n3 l3 y3 v3 e3 n4 l4 y4 v4 e4
              omega
          · rw [if_neg c1]
            by_cases c0 : wf t so 0 (w 0 + 1) < 8
            · rw [if_pos c0]
              have z0 := wf_yes (t := t) (so := so) (p := 0) (by omega) c0
              intro _
              refine ⟨fun p hp => ?_, ?_, hno _ ?_ ?_⟩
              · rcases (by omega : p = 0 ∨ p = 1 ∨ p = 2 ∨ p = 3 ∨ p = 4) with rfl | rfl | rfl | rfl | rfl
                · exact ⟨c0, z0.1⟩
                · exact ⟨m1, y1.1⟩
                · exact ⟨m2, y2.1⟩
                · exact ⟨m3, y3.1⟩
                · exact ⟨m4, y4.1⟩
              · show cd5 w < cd5 (va_up (va_up (va_up (va_up (va_up w 4 _) 3 _) 2 _) 1 _) 0 _)
                simp only [cd5, up_e]; simp; omega
              · show cd5 (va_up (va_up (va_up (va_up (va_up w 4 _) 3 _) 2 _) 1 _) 0 _) ≤ 32768
                simp only [cd5, up_e]; simp; omega
              · intro b0 b1 b2 b3 b4 d0 d1 d2 d3 d4 e0 e1 e2 e3 e4 x1 x2
                have q4 := n4 b4 d4 e4
                have q3 := n3 b3 d3 e3
                have q2 := n2 b2 d2 e2
                have q1 := n1 b1 d1 e1
                have q0 := n0 b0 d0 e0
                have k4 := l4 b4 d4 e4
                have k3 := l3 b3 d3 e3
                have k2 := l2 b2 d2 e2
                have k1 := l1 b1 d1 e1
                simp only [cd5, up_e] at x1 x2
                simp at x2
                clear hno dg n0 l0 y0 v0 e0 n1 l1 y1 v1 e1 n2 l2 y2 v2 e2 n3 l3 y3 v3 e3 n4 l4 y4 v4 e4
                omega
            · rw [if_neg c0]
              intro h; cases h
  · by_cases c4 : wf t so 4 (w 4 + 1) < 8
    · rw [if_pos c4]; intro h; cases h
    · rw [if_neg c4]
      by_cases c3 : wf t so 3 (w 3 + 1) < 8
      · rw [if_pos c3]; intro h; cases h
      · rw [if_neg c3]
        by_cases c2 : wf t so 2 (w 2 + 1) < 8
        · rw [if_pos c2]; intro h; cases h
        · rw [if_neg c2]
          by_cases c1 : wf t so 1 (w 1 + 1) < 8
          · rw [if_pos c1]; intro h; cases h
          · rw [if_neg c1]
            by_cases c0 : wf t so 0 (w 0 + 1) < 8
            · rw [if_pos c0]; intro h; cases h
            · rw [if_neg c0]
              intro _
              refine hno 32768 (Nat.le_refl _) ?_
              intro b0 b1 b2 b3 b4 d0 d1 d2 d3 d4 e0 e1 e2 e3 e4 x1 x2
              have q0 := n0 b0 d0 e0
              have q1 := n1 b1 d1 e1
              have q2 := n2 b2 d2 e2
              have q3 := n3 b3 d3 e3
              have q4 := n4 b4 d4 e4
              simp only [cd5] at x1
              omega
theorem wst_ok (t : Int32) (so : Nat → Int32) (n : Nat) (hV : wfok t so n) (w : Nat → Nat) : rowOK t so n (wstart (wf t so) w n) := fun p hp => by
  have m := hV p hp
  have y := wf_yes (t := t) (so := so) (p := p) (by omega) m
  show (if p < n then wf t so p 0 else w p) < 8 ∧ vP t so p (if p < n then wf t so p 0 else w p) = true
  rw [if_pos hp]
  exact ⟨m, y.1⟩
theorem wst_lo (t : Int32) (so : Nat → Int32) (p x : Nat) (hx : x < 8) (h : vP t so p x = true) : wf t so p 0 ≤ x := Nat.le_of_not_lt (fun h2 => by rw [wf_no (by omega) (by omega) h2 hx] at h; cases h)
theorem wst3 (t : Int32) (so : Nat → Int32) (w : Nat → Nat) (x : Nat) (hx : x < 512) (hv : vldR t so 3 x = true) : wfok t so 3 ∧ cd3 (wstart (wf t so) w 3) ≤ x := by
  rw [vld3] at hv
  simp only [Bool.and_eq_true] at hv
  have k0 := wst_lo t so 0 (x / 64 % 8) (by omega) hv.2.2
  have k1 := wst_lo t so 1 (x / 8 % 8) (by omega) hv.2.1
  have k2 := wst_lo t so 2 (x % 8) (by omega) hv.1
  refine ⟨fun p hp => ?_, ?_⟩
  · rcases (by omega : p = 0 ∨ p = 1 ∨ p = 2) with rfl | rfl | rfl <;> omega
  · simp only [cd3, wstart]; simp; omega
theorem wst5 (t : Int32) (so : Nat → Int32) (w : Nat → Nat) (x : Nat) (hx : x < 32768) (hv : vldR t so 5 x = true) : wfok t so 5 ∧ cd5 (wstart (wf t so) w 5) ≤ x := by
  rw [vld5] at hv
  simp only [Bool.and_eq_true] at hv
  have k0 := wst_lo t so 0 (x / 4096 % 8) (by omega) hv.2.2.2.2
  have k1 := wst_lo t so 1 (x / 512 % 8) (by omega) hv.2.2.2.1
  have k2 := wst_lo t so 2 (x / 64 % 8) (by omega) hv.2.2.1
  have k3 := wst_lo t so 3 (x / 8 % 8) (by omega) hv.2.1
  have k4 := wst_lo t so 4 (x % 8) (by omega) hv.1
  refine ⟨fun p hp => ?_, ?_⟩
  · rcases (by omega : p = 0 ∨ p = 1 ∨ p = 2 ∨ p = 3 ∨ p = 4) with rfl | rfl | rfl | rfl | rfl <;> omega
  · simp only [cd5, wstart]; simp; omega
/-- the code of a row of n -/
def cdn (n : Nat) (w : Nat → Nat) : Nat := if n = 3 then cd3 w else cd5 w
theorem wgon (t : Int32) (so : Nat → Int32) (n : Nat) (hn : n = 3 ∨ n = 5) (hV : wfok t so n) : wgo t so n (cdN n) (cdn n) (vldR t so n) := by
  rcases hn with rfl | rfl
  · exact wgo3 t so hV
  · exact wgo5 t so hV
theorem wstn (t : Int32) (so : Nat → Int32) (n : Nat) (hn : n = 3 ∨ n = 5) (w : Nat → Nat) (x : Nat) (hx : x < cdN n) (hv : vldR t so n x = true) : wfok t so n ∧ cdn n (wstart (wf t so) w n) ≤ x := by
  rcases hn with rfl | rfl
  · exact wst3 t so w x hx hv
  · exact wst5 t so w x hx hv
/-- all that a walk does is all that the codes do -/
theorem wit_all {α β : Type} (t : Int32) (so : Nat → Int32) (n : Nat) (hn : n = 3 ∨ n = 5) (w : Nat → Nat) (B : (Nat → Nat) → α → α) (G : Nat → β → β) (Rl : α → β → Prop) (a : α) (b : β) (hr : Rl a b) (hst : ∀ w a b, rowOK t so n w → (∀ j, j < n → dgR n (cdn n w) j = w j) → cdn n w < cdN n → vldR t so n (cdn n w) = true → Rl a b → Rl (B w a) (G (cdn n w) b)) : Rl (wit (wf t so) n B 32768 (decide (wsn (wf t so) n = n)) (wstart (wf t so) w n) a) (cfr2 (vldR t so n) G (cdN n) 0 b) := by
  by_cases hV : wfok t so n
  · rw [wsn_ok hV, show decide (n = n) = true by simp]
    have hgo := wgon t so n hn hV
    have hw := wst_ok t so n hV w
    have hg := hgo _ hw
    have hs := cfr2_skip (vldR t so n) G (cdn n (wstart (wf t so) w n)) (cdN n - cdn n (wstart (wf t so) w n)) 0 b (fun x _ x2 => by
      cases hv : vldR t so n x
      · rfl
      · have := (wstn t so n hn w x (by omega) hv).2
        omega)
    rw [show cdn n (wstart (wf t so) w n) + (cdN n - cdn n (wstart (wf t so) w n)) = cdN n by omega, Nat.zero_add] at hs
    rw [hs]
    exact wit_sim hgo B G Rl (fun w a b h1 h2 => hst w a b h1 (hgo w h1).2.2.1 (hgo w h1).1 (hgo w h1).2.1 h2) 32768 _ a b hw (by have := cdN_le n; omega) hr
  · rw [wsn_no hV, wit_f, cfr2_none _ _ _ _ _ (fun x _ x2 => by
      cases hv : vldR t so n x
      · rfl
      · exact absurd (wstn t so n hn w x (by omega) hv).1 hV)]
    exact hr
/-- the reference's loops as codes in order -/
theorem cfr2_fwd {β : Type} (vl : Nat → Bool) (G : Nat → β → β) (F : Nat → β) (hF : ∀ c, F (c + 1) = if vl c = true then G c (F c) else F c) : ∀ k c, cfr2 vl G k c (F c) = F (c + k)
  | 0, c => rfl
  | k + 1, c => by rw [cfr2, ← hF c, cfr2_fwd vl G F hF k (c + 1), show c + 1 + k = c + (k + 1) by omega]
