/-! the search: what can't be better may be left out -/
section PRUNE
variable {r : Nat → Int32}
theorem gos_ge (ah : List (Nat × Int × Int)) (s : Nat) : ∀ j : Nat, 960 - (j : Int) ≤ (gos r ah s j).1
  | 0 => by show (960 : Int) - ((0 : Nat) : Int) ≤ 960; omega
  | j + 1 => by
    have := gos_ge ah s j
    rw [gos]
    split
    · show (960 : Int) - ((j + 1 : Nat) : Int) ≤ 959 - (j : Int)
      omega
    · omega
theorem gos_alone (ah : List (Nat × Int × Int)) (s : Nat) : ∀ j, (gos r [] s j).1 ≤ (gos r ah s j).1
  | 0 => Int.le_refl _
  | j + 1 => by
    have h1 := gos_alone ah s j
    have h2 := gos_ge (r := r) ah s j
    have e : takn r [] s (fro r s (shM r s + (959 - (j : Int)))) (shM r s + (959 - (j : Int))) = false := rfl
    rw [gos, gos, e]
    by_cases a : okAt r s (shM r s + (959 - (j : Int))) = true
    · rw [if_pos ⟨a, rfl⟩]
      split
      · exact Int.le_refl _
      · show (959 : Int) - (j : Int) ≤ _
        omega
    · rw [if_neg (fun q => a q.1), if_neg (fun q => a q.1)]
      exact h1
def inA (ah : List (Nat × Int × Int)) (s : Nat) : Bool := ah.any (fun o => Nat.beq o.1 s)
def al (r : Nat → Int32) (s : Nat) : Int := (gos r [] s 960).1
def rest (r : Nat → Int32) (ah : List (Nat × Int × Int)) (m : Nat) : Int := Sm (fun s => if inA ah s = true then 0 else al r s) m
def outs (ah : List (Nat × Int × Int)) (m : Nat) : Nat := cnt (fun s => !(inA ah s)) m
theorem inA_add (ah : List (Nat × Int × Int)) (s : Nat) (e : Int × Int) (c : Nat) : inA (ah ++ [(s, e)]) c = (inA ah c || decide (s = c)) := by
  unfold inA
  rw [List.any_append]
  congr 1
  by_cases z : s = c
  · subst z
    simp
  · rw [decide_eq_false z]
    have : Nat.beq s c = false := by
      cases hb : Nat.beq s c with
      | false => rfl
      | true => exact absurd (Nat.eq_of_beq_eq_true hb) z
    simp [this]
theorem rest_add (ah : List (Nat × Int × Int)) {s : Nat} (e : Int × Int) (hs : inA ah s = false) : ∀ m, rest r (ah ++ [(s, e)]) m = rest r ah m - if s < m then al r s else 0
  | 0 => rfl
  | m + 1 => by
    have ih := rest_add ah e hs m
    unfold rest at ih ⊢
    rw [Sm, Sm, ih, inA_add]
    by_cases z : s = m
    · subst z
      rw [hs, decide_eq_true rfl, Bool.false_or, if_pos rfl, if_neg (show ¬ false = true by decide), if_neg (Nat.lt_irrefl s), if_pos (Nat.lt_succ_self s)]
      omega
    · rw [decide_eq_false z, Bool.or_false]
      by_cases y : s < m
      · rw [if_pos y, if_pos (show s < m + 1 by omega)]
        omega
      · rw [if_neg y, if_neg (show ¬ s < m + 1 by omega)]
        omega
theorem outs_add (ah : List (Nat × Int × Int)) {s : Nat} (e : Int × Int) (hs : inA ah s = false) : ∀ m, outs ah m = outs (ah ++ [(s, e)]) m + if s < m then 1 else 0
  | 0 => rfl
  | m + 1 => by
    have ih := outs_add ah e hs m
    unfold outs at ih ⊢
    rw [cnt, cnt, ih, inA_add]
    by_cases z : s = m
    · subst z
      rw [hs, decide_eq_true rfl, if_neg (Nat.lt_irrefl s), if_pos (Nat.lt_succ_self s)]
      rfl
    · rw [decide_eq_false z, Bool.or_false]
      by_cases y : s < m
      · rw [if_pos y, if_pos (show s < m + 1 by omega)]
        omega
      · rw [if_neg y, if_neg (show ¬ s < m + 1 by omega)]
        omega
theorem rest_none (ah : List (Nat × Int × Int)) : ∀ m, outs ah m = 0 → rest r ah m = 0
  | 0, _ => rfl
  | m + 1, h => by
    unfold outs at h
    rw [cnt] at h
    have ih := rest_none ah m (by unfold outs; omega)
    unfold rest at ih ⊢
    rw [Sm, ih]
    cases hb : inA ah m with
    | true => rfl
    | false =>
      rw [hb] at h
      simp at h
end PRUNE
