/-! alone: the first berth -/
theorem gos_fB {r : Nat → Int32} {s M : Nat} (hM : shM r s = (M : Int)) : ∀ j : Nat, j ≤ 960 → (M : Int) + (gos r [] s j).1 = (fB r s (M + 960) j : Nat)
  | 0, _ => by
    rw [gos, fB]
    show (M : Int) + 960 = _
    omega
  | j + 1, hj => by
    have ih := gos_fB hM j (by omega)
    have e : takn r [] s (fro r s (shM r s + (959 - (j : Int)))) (shM r s + (959 - (j : Int))) = false := rfl
    have e2 : shM r s + (959 - (j : Int)) = ((M + 960 - (j + 1) : Nat) : Int) := by omega
    rw [gos, fB, e]
    rw [e2]
    by_cases a : okAt r s ((M + 960 - (j + 1) : Nat) : Int) = true
    · rw [if_pos ⟨a, rfl⟩, if_pos a]
      show (M : Int) + (959 - (j : Int)) = _
      omega
    · rw [if_neg (fun q => a q.1), if_neg a]
      exact ih
