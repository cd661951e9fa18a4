/-! THE LAW: the first state -/
def fa0 (k : Nat) : Nat := if k < 25 then (if k / 5 = k % 5 then 0 else 1) else 0
def S0 : gS := (((0, fun _ => 0, fa0, 20, 3), fun _ => 0, (fun _ => 0, fun _ => 0, fun _ => 0, 0), (fun _ => 0, fun _ => 0, 0), (fun _ => 0, fun _ => 0, 0)), 0, fun _ => 0, fun _ => none)
theorem fa0_le (k : Nat) : fa0 k ≤ 9 := by unfold fa0; split <;> (try split) <;> omega
theorem fa0_d : ∀ m, m < 5 → fa0 (6 * m) = 0 := by decide +kernel
theorem so0 : sOK 0 S0 := by
  refine ⟨⟨⟨⟨⟨fun _ => Nat.zero_le _, fa0_le, by decide, by decide, by decide⟩, by decide⟩, fun i _ _ => b_0 i, fun _ => (show 0 < 4 from by decide), ⟨⟨fun _ => Nat.zero_le _, fun _ => Nat.zero_le _, fun _ => (show 0 < 5 from by decide)⟩, Nat.le_refl _⟩, ⟨fun _ _ => ⟨rfl, rfl, rfl, rfl, rfl⟩, fun k hk => ?_⟩, ⟨Nat.zero_le _, fun i hi => absurd hi (Nat.not_lt_zero _)⟩, ⟨Nat.zero_le _, fun i hi => absurd hi (Nat.not_lt_zero _)⟩⟩, Nat.zero_le _, fun _ => (show 0 < 127 from by decide), fun k hk => absurd hk (Nat.not_lt_zero _), fun j B hB => by cases hB⟩, fa0_d, fun j B hB => by cases hB⟩
  show fa0 k = 0
  unfold fa0
  rw [if_neg (by omega)]
theorem ap_row : am_apF 25 = nR fa0 := by
  funext k
  show am_apF 25 k = nI (fa0 k)
  unfold am_apF fa0
  split
  · split <;> rfl
  · rfl
theorem z_row : (fun _ => 0 : Nat → Int32) = nR (fun _ => 0) := rfl
set_option maxRecDepth 100000 in
theorem i0_10 : am_I0 10 = am_apF 25 := by rfl
set_option maxRecDepth 100000 in
theorem i0_68 : am_I0 68 = am_apF 25 := by rfl
set_option maxRecDepth 100000 in
theorem i0_z : (am_I0 4 = fun _ => 0) ∧ (am_I0 5 = fun _ => 0) ∧ (am_I0 6 = fun _ => 0) ∧ (am_I0 7 = fun _ => 0) ∧ (am_I0 8 = fun _ => 0) ∧ (am_I0 2 = fun _ => 0) ∧ (am_I0 48 = fun _ => 0) ∧ (am_I0 53 = fun _ => 0) ∧ (am_I0 20 = fun _ => 0) := ⟨rfl, rfl, rfl, rfl, rfl, rfl, rfl, rfl, rfl⟩
set_option maxRecDepth 100000 in
theorem i0_m : (am_I0 63 = fun _ => 0) ∧ (am_I0 64 = fun _ => 0) ∧ (am_I0 65 = fun _ => 0) ∧ (am_I0 66 = fun _ => 0) ∧ (am_I0 67 = fun _ => 0) ∧ (am_I0 72 = fun _ => 0) ∧ (am_I0 81 = fun _ => 0) ∧ (am_I0 75 = fun _ => 0) ∧ (am_I0 76 = fun _ => 0) ∧ (am_I0 77 = fun _ => 0) := ⟨rfl, rfl, rfl, rfl, rfl, rfl, rfl, rfl, rfl, rfl⟩
theorem i0_3 : (am_I0 3 0 = 0 ∧ am_I0 3 8 = nI 20 ∧ am_I0 3 9 = nI 3 ∧ am_I0 3 10 = nI 0 ∧ am_I0 3 12 = nI 0 ∧ am_I0 3 15 = nI 0) ∧ am_I0 1 1 = nI 0 := by decide +kernel
theorem i0_62 : (am_I0 62 0 = 0 ∧ am_I0 62 7 = nI 20 ∧ am_I0 62 8 = nI 3 ∧ am_I0 62 9 = nI 0 ∧ am_I0 62 10 = nI 0 ∧ am_I0 62 13 = nI 0) ∧ am_I0 62 15 = nI 0 := by decide +kernel
theorem ci0 : cInv am_I0 S0 := by
  obtain ⟨z1, z2, z3, z4, z5, z6, z7, z8, z9⟩ := i0_z
  exact ⟨⟨i0_3.1, ⟨z1, z2, z3, z4, z5, i0_10.trans ap_row⟩, fun i hi => absurd hi (Nat.not_lt_zero _), fun i hi => absurd hi (Nat.not_lt_zero _)⟩, i0_3.2, z6, fun j _ => congrFun z7 j, ⟨fun _ => 0, z8⟩, fun k _ => congrFun z9 k⟩
theorem mi0 : mInv am_I0 S0 := by
  obtain ⟨z1, z2, z3, z4, z5, z6, z7, z8, z9, z10⟩ := i0_m
  exact ⟨⟨i0_62.1, ⟨z1, z2, z3, z4, z5, i0_68.trans ap_row⟩, fun i hi => absurd hi (Nat.not_lt_zero _), fun i hi => absurd hi (Nat.not_lt_zero _)⟩, ⟨i0_62.2, z6⟩, fun j _ => congrFun z7 j, fun k _ => ⟨congrFun z8 k, congrFun z9 k, congrFun z10 k⟩⟩
