/-- THE PURE PART: to be proved -/
theorem law_pure (L : Nat) (hL : L ≤ 3072) (xs : Nat → Int32) : wL_law L xs := by
  sorry
