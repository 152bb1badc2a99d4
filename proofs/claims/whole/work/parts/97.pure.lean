theorem pure_law (xL : Nat) (hL : xL ≤ 384) (xS : Nat → Int32) : ∃ N, fLaw_18 N xL xS N w0 0 = some 1 := by
  sorry
