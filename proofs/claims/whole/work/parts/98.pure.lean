theorem law_pure {L : Nat} {xs : Nat → Int32} (hL : L ≤ 2560) : f_Law_law xs L [] = some 1 := by
  sorry
