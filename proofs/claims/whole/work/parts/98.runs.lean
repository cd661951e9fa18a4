theorem law_runs {L : Nat} (hL : L ≤ 384) (xs : Nat → Int32) : am_law xs L := sorry
