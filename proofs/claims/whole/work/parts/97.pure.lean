theorem pure_law (xL : Nat) (hL : xL ≤ 384) (xS : Nat → Int32) : ∃ N, fLaw_18 N xL xS N w0 0 = some 1 := ⟨20000, law_loop (N := 20000) (Nat.le_refl _) hL xS 19999 0 w0 (by omega) (by omega) inv_w0⟩
