/-! THE LAW: the first state -/
theorem i0_cap : am_I0 3 8 = nI 20 := by decide +kernel
theorem i0_dr : am_I0 3 9 = nI 3 := by decide +kernel
set_option maxRecDepth 100000 in
theorem i0_so : am_I0 4 = fun _ => 0 := by rfl
set_option maxRecDepth 100000 in
theorem i0_x : am_I0 63 = fun _ => 0 := by rfl
