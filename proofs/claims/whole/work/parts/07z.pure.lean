theorem tw_pure (base L : Nat) (xs : Nat → Int32) (hL : L ≤ 2048) : fL_law xs L (tw_0 base) = some 1 := by
  sorry
