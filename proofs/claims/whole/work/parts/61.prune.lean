/-! a node that can't be better: the best stays -/
theorem fold_fix {α β : Type} {f : β → α → β} {b : β} : ∀ l : List α, (∀ x, x ∈ l → f b x = b) → l.foldl f b = b
  | [], _ => rfl
  | x :: l, h => by
    rw [List.foldl_cons, h x (List.mem_cons_self ..)]
    exact fold_fix l (fun y hy => h y (List.mem_cons_of_mem _ hy))
theorem prune {r : Nat → Int32} {m : Nat} {B : Int} {l' : List (Nat × Int × Int)} : ∀ (d : Nat) (ah : List (Nat × Int × Int)) (sum : Int), ah.length + outs ah m = m → B ≤ sum + rest r ah m → srch r m d ah sum (some (B, l')) = some (B, l')
  | 0, _, _, _, _ => rfl
  | d + 1, ah, sum, hc, hB => by
    rw [srch]
    by_cases a : bLe (some (B, l')) sum = true
    · rw [if_pos a]
    · rw [if_neg a]
      by_cases b : ah.length = m
      · have h0 := rest_none (r := r) ah m (by omega)
        exact absurd (decide_eq_true (show B ≤ sum by omega)) a
      · rw [if_neg b]
        refine fold_fix _ (fun s hs => ?_)
        have hs := List.mem_range.mp hs
        show (if inA ah s = true then _ else _) = _
        cases hi : inA ah s with
        | true => rw [if_pos rfl]
        | false =>
          rw [if_neg (show ¬ false = true by decide)]
          have e1 := outs_add ah (gos r ah s 960) hi m
          have e2 := rest_add (r := r) ah (gos r ah s 960) hi m
          rw [if_pos hs] at e1 e2
          have e3 : al r s ≤ (gos r ah s 960).1 := gos_alone ah s 960
          refine prune d _ _ ?_ ?_
          · rw [List.length_append]
            show ah.length + 1 + _ = m
            omega
          · rw [e2]
            omega
