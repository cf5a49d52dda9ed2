/-! the walker's run of the law ends with 1 -/
theorem pure_law (xs : Nat → Int) (L : Nat) (hx : ∀ j, zR (xs j)) (hL : L ≤ 3584) : zPure xs L := by
  obtain ⟨N, r, n2, s2, h1, h2, h3⟩ := run240 (xs := xs) (L := L) hx hL
  subst h2
  exact ⟨N, n2, s2, by omega, h1⟩
