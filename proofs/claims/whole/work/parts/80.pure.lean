/-! what is left: the walker's run of the law ends with 1 -/
theorem pure_law (xs : Nat → Int) (L : Nat) (hx : ∀ j, zR (xs j)) (hL : L ≤ 3584) : zPure xs L := by
  sorry
