/-! houses and ships: what is told of them, and changed -/
section HS
variable {w : xW} {N : Nat}
theorem ix_2 : ∀ j : Nat, j < 2 → ∀ n : Nat, n < 8 → ibd ((11 + (2 * iZ (n : Int))) + iZ (j : Int)) 51 = true ∧ ((11 + (2 * iZ (n : Int))) + iZ (j : Int)).toNatClampNeg = 11 + 2 * n + j := by decide +kernel
theorem P_houseOf (h : Inv w) (x y : Int32) : Both (fun w => fX7_houseOf w x y) (fun w => fX8_houseOf w x y) w := by
  have e7 : fX7_houseOf w x y = if (dHouse (w.1 56) x && dR 0 1 y) = true then (if y = 0 then (if ibd x 8 = true then some (w, w.1 5 x.toNatClampNeg) else none) else (if ibd x 8 = true then some (w, w.1 6 x.toNatClampNeg) else none)) else fX7_refuse w (cd 0) := by
    unfold fX7_houseOf fX7_houseOf_0 fX7_houseOf_17
    rw [house7 h, lohi1 y, bind_id, c_0]
    cases dHouse (w.1 56) x <;> cases dR 0 1 y <;> rfl
  have e8 : ∀ u, WFr (u.1 56) → fX8_houseOf u x y = if (dHouse (u.1 56) x && dR 0 1 y) = true then (if ibd ((11 + (2 * x)) + y) 51 = true then some (u, u.1 56 (((11 + (2 * x)) + y).toNatClampNeg)) else none) else fX8_finding u (cd 0) := by
    intro u hu
    unfold fX8_houseOf fX8_houseOf_0 fX8_houseOf_33
    rw [house8 hu, win8, bind_id, c_0]
    cases dHouse (u.1 56) x <;> cases dR 0 1 y <;> rfl
  refine Both.guard h (dHouse (w.1 56) x && dR 0 1 y) 0 (by omega) (fun q => by show fX7_houseOf w x y = _; rw [e7, q, if_neg (by decide)]) (fun q => by show fX8_houseOf _ x y = _; rw [e8 _ (by rw [RF_r w 0 (by omega)]; exact h.1.1.2), RF_r w 0 (by omega), q, if_neg (by decide)]) (fun q => ?_)
  obtain ⟨q1, q2⟩ := Bool.and_eq_true_iff.mp q
  have q2 := of_decide_eq_true q2
  rw [i_0, i_1] at q2
  obtain ⟨n, rfl, n8, nh⟩ := dHouse_of h.1.1.2 q1
  obtain ⟨j, rfl, j2⟩ : ∃ k : Nat, y = iZ k ∧ k < 2 := ⟨y.toInt.toNat, by rw [Int.toNat_of_nonneg q2.1, iZ_self], by omega⟩
  obtain ⟨-, -, i5, i6⟩ := ix_h n n8
  obtain ⟨i1, i2⟩ := ix_2 j j2 n n8
  have hh := h.1.1.1.2.2.2.2.2.2.1 n nh
  refine Both.act w w (w.1 56 (11 + 2 * n + j)) (w.1 56 (11 + 2 * n + j)) ?_ ?_ rfl h
  · show fX7_houseOf w _ _ = _
    rw [e7, if_pos q, if_pos i5, i6]
    rcases (show j = 0 ∨ j = 1 by omega) with rfl | rfl
    · rw [if_pos (show iZ ((0 : Nat) : Int) = 0 from rfl)]
      exact congrArg (fun v => some (w, v)) hh.1
    · rw [if_neg (show ¬ iZ ((1 : Nat) : Int) = 0 by decide), if_pos i5, show 11 + 2 * n + 1 = 12 + 2 * n by omega]
      exact congrArg (fun v => some (w, v)) hh.2
  · show fX8_houseOf w _ _ = _
    rw [e8 w h.1.1.2, if_pos q, if_pos i1, i2]
theorem P_turn (h : Inv w) (x y : Int32) : Both (fun w => fX7_turn w x y) (fun w => fX8_turn w x y) w := by
  have e7 : fX7_turn w x y = if (dHouse (w.1 56) x && dSide y) = true then (if ibd x 8 = true then some (sI w 6 x.toNatClampNeg y, w.1 6 x.toNatClampNeg) else none) else fX7_refuse w (cd 0) := by
    unfold fX7_turn fX7_turn_0 fX7_turn_15
    rw [house7 h, side7, bind_id, c_0]
    cases dHouse (w.1 56) x <;> cases dSide y <;> rfl
  have e8 : ∀ u, WFr (u.1 56) → fX8_turn u x y = if (dHouse (u.1 56) x && dSide y) = true then (fX8_become u ((11 + (2 * x)) + 1) y) else fX8_finding u (cd 0) := by
    intro u hu
    unfold fX8_turn fX8_turn_0 fX8_turn_31
    rw [house8 hu, side8, bind_id, bind_id, c_0]
    cases dHouse (u.1 56) x <;> cases dSide y <;> rfl
  refine Both.guard h (dHouse (w.1 56) x && dSide y) 0 (by omega) (fun q => by show fX7_turn w x y = _; rw [e7, q, if_neg (by decide)]) (fun q => by show fX8_turn _ x y = _; rw [e8 _ (by rw [RF_r w 0 (by omega)]; exact h.1.1.2), RF_r w 0 (by omega), q, if_neg (by decide)]) (fun q => ?_)
  obtain ⟨q1, q2⟩ := Bool.and_eq_true_iff.mp q
  obtain ⟨n, rfl, n8, nh⟩ := dHouse_of h.1.1.2 q1
  obtain ⟨-, ⟨i3, i4⟩, i5, i6⟩ := ix_h n n8
  have hh := h.1.1
  have r56 : (sI w 6 n y).1 56 = w.1 56 := funext fun k => by rw [sI_r, if_neg (by omega)]
  refine Both.act (sI w 6 n y) (sI (sI w 6 n y) 56 (12 + 2 * n) y) (w.1 6 n) (w.1 56 (12 + 2 * n)) ?_ ?_ (hh.1.2.2.2.2.2.2.1 n nh).2.symm ?_
  · show fX7_turn w _ _ = _
    rw [e7, if_pos q, if_pos i5, i6]
  · show fX8_turn _ _ _ = _
    rw [e8 _ (by rw [r56]; exact hh.2), r56, if_pos q]
    unfold fX8_become fX8_become_0
    rw [if_pos i3, i4, r56]
  · have b := hh.2.2.2.2.1
    generalize hw2 : sI (sI w 6 n y) 56 (12 + 2 * n) y = w2
    have d2 : w2.2 = w.2 := by rw [← hw2]; rfl
    have af : w2.1 56 (12 + 2 * n) = y := by rw [← hw2, sI_r, if_pos ⟨rfl, rfl⟩]
    have a56 : ∀ j, j ≠ 12 + 2 * n → w2.1 56 j = w.1 56 j := fun j g1 => by rw [← hw2, sI_r, if_neg (by omega), sI_r, if_neg (by omega)]
    have a6 : ∀ j, w2.1 6 j = if j = n then y else w.1 6 j := fun j => by rw [← hw2]; simp [sI_r]
    have ao : ∀ q k, q ≠ 6 → q ≠ 56 → w2.1 q k = w.1 q k := fun q k g1 g2 => by rw [← hw2, sI_r, if_neg (by omega), sI_r, if_neg (by omega)]
    clear hw2
    refine h.now (fun q k hq => ao q k (by omega) (by omega)) d2 (fun k hk => a56 k (by omega)) ?_ ?_
    · refine hh.1.hs (fun j hj => a56 j (by omega)) (fun j k g1 g2 g3 g4 g5 => ao _ _ (by omega) (by omega)) (by rw [ao 1 3 (by omega) (by omega), a56 _ (by omega)]; exact hh.1.2.2.2.2.1) (fun m hm => ?_)
      rw [a56 9 (by omega)] at hm
      have g := hh.1.2.2.2.2.2.2.1 m hm
      rw [ao 5 m (by omega) (by omega), a56 (11 + 2 * m) (by omega), a6]
      by_cases z : m = n
      · subst z
        rw [if_pos rfl, af]
        exact ⟨g.1, rfl⟩
      · rw [if_neg z, a56 _ (by omega)]
        exact g
    · refine hh.2.hs (fun j hj => a56 j (by omega)) (by rw [a56 9 (by omega)]; exact hh.2.2.2.2.1) (fun m hm => ?_)
      rw [a56 9 (by omega)] at hm
      have g := hh.2.2.2.2.2.2.1 m hm
      rw [a56 (11 + 2 * m) (by omega)]
      by_cases z : m = n
      · subst z
        rw [af]
        exact ⟨g.1, of_decide_eq_true q2⟩
      · rw [a56 _ (by omega)]
        exact g
/-- a kind under another -/
def uLast : Nat → Int32 → Int32 → Option Int32
  | 0, _, _ => none
  | n + 1, a, b => if a < 0 then some a else if a = b then some a else uLast n (fX8_above a) b
def uU (a b : Int32) : Bool := decide (uLast 7 a b = some b)
theorem under_fact : ∀ a : Nat, a < 6 → ∀ b : Nat, b < 6 → fX1_isUnder_4 0 7 (iZ b) (iZ a) 0 = some (bi (uU (iZ a) (iZ b))) ∧ uLast 7 (iZ a) (iZ b) = some (if uU (iZ a) (iZ b) = true then iZ b else iZ (-1)) := by decide +kernel
theorem under_mono (N : Nat) : ∀ (n m : Nat) (x1 x2 x3 : Int32) (v : Int32), fX1_isUnder_4 0 n x1 x2 x3 = some v → fX1_isUnder_4 N (n + m) x1 x2 x3 = some v
  | 0, _, _, _, _, _, q => by cases q
  | n + 1, m, x1, x2, x3, v, q => by
    rw [fX1_isUnder_4] at q
    rw [show n + 1 + m = n + m + 1 by omega, fX1_isUnder_4]
    unfold fX1_isUnder_4b at q ⊢
    by_cases a : 6 ≤ x3
    · rw [if_pos a] at q ⊢
      exact q
    · rw [if_neg a] at q ⊢
      by_cases b : fX1_isKind x2 = 0
      · rw [if_pos b] at q ⊢
        exact q
      · rw [if_neg b] at q ⊢
        by_cases c : x2 = x1
        · rw [if_pos c] at q ⊢
          exact q
        · rw [if_neg c] at q ⊢
          by_cases d : ibd x2 6 = true
          · rw [if_pos d] at q ⊢
            exact under_mono N n m _ _ _ _ q
          · rw [if_neg d] at q
            cases q
theorem as_mono (N : Nat) (w : xW) (x1 x2 : Int32) : ∀ (n m : Nat) (x3 v : Int32), uLast n x3 x2 = some v → fX8_as_30 N (n + m) w x1 x2 x3 = fX8_as_47 N w x1 v
  | 0, _, _, _, q => by cases q
  | n + 1, m, x3, v, q => by
    rw [uLast] at q
    rw [show n + 1 + m = n + m + 1 by omega, fX8_as_30]
    unfold fX8_as_30b
    by_cases a : x3 < 0
    · rw [if_pos a] at q ⊢
      cases q
      rfl
    · rw [if_neg a] at q ⊢
      by_cases b : x3 = x2
      · rw [if_pos b] at q ⊢
        cases q
        rfl
      · rw [if_neg b] at q ⊢
        exact as_mono N w x1 x2 n m _ _ q
theorem P_as (hN : 20000 ≤ N) (h : Inv w) (x y : Int32) : Both (fun w => fX7_as N w x y) (fun w => fX8_as N w x y) w := by
  have e7 : fX7_as N w x y = if (dHouse (w.1 56) x && dKind y) = true then (if ibd x 8 = true then (fX1_isUnder N (w.1 5 x.toNatClampNeg) y).bind fun z2 => if z2 = 0 then fX7_refuse w (cd 2) else some (w, w.1 6 x.toNatClampNeg) else none) else fX7_refuse w (cd 0) := by
    unfold fX7_as fX7_as_0 fX7_as_15
    rw [house7 h, kind7, bind_id, bind_id, c_0, c_2]
    cases dHouse (w.1 56) x <;> cases dKind y <;> rfl
  have e8 : ∀ u, WFr (u.1 56) → fX8_as N u x y = if (dHouse (u.1 56) x && dKind y) = true then (fX8_kindOf u x).bind fun z1 => fX8_as_30 N N u x y z1 else fX8_finding u (cd 0) := by
    intro u hu
    unfold fX8_as fX8_as_0 fX8_as_17
    rw [house8 hu, kind8, bind_id, c_0]
    cases dHouse (u.1 56) x <;> cases dKind y <;> rfl
  have wr : ∀ i, WFr ((RF w i).1 56) := fun i => by rw [RF_r w i (by omega)]; exact h.1.1.2
  refine Both.guard h (dHouse (w.1 56) x && dKind y) 0 (by omega) (fun q => by show fX7_as N w x y = _; rw [e7, q, if_neg (by decide)]) (fun q => by show fX8_as N _ x y = _; rw [e8 _ (wr 0), RF_r w 0 (by omega), q, if_neg (by decide)]) (fun q => ?_)
  obtain ⟨q1, q2⟩ := Bool.and_eq_true_iff.mp q
  obtain ⟨n, rfl, n8, nh⟩ := dHouse_of h.1.1.2 q1
  have q2 := of_decide_eq_true q2
  obtain ⟨b, rfl, b6⟩ : ∃ k : Nat, y = iZ k ∧ k < 6 := ⟨y.toInt.toNat, by rw [Int.toNat_of_nonneg q2.1, iZ_self], by omega⟩
  obtain ⟨⟨i1, i2⟩, ⟨i3, i4⟩, i5, i6⟩ := ix_h n n8
  have hh := h.1.1.1.2.2.2.2.2.2.1 n nh
  have hk := (h.1.1.2.2.2.2.2.2.1 n nh).1
  obtain ⟨a, ha, a6⟩ : ∃ k : Nat, w.1 56 (11 + 2 * n) = iZ k ∧ k < 6 := ⟨(w.1 56 (11 + 2 * n)).toInt.toNat, by rw [Int.toNat_of_nonneg hk.1, iZ_self], by omega⟩
  have h5 : w.1 5 n = iZ a := hh.1.trans ha
  obtain ⟨f1, f2⟩ := under_fact a a6 b b6
  obtain ⟨M, rfl⟩ := Nat.exists_eq_add_of_le hN
  have g1 : fX1_isUnder (20000 + M) (iZ a) (iZ b) = some (bi (uU (iZ a) (iZ b))) := by
    unfold fX1_isUnder fX1_isUnder_0
    have := under_mono (20000 + M) 7 (19993 + M) _ _ _ _ f1
    rw [show 7 + (19993 + M) = 20000 + M by omega] at this
    exact this
  have g2 : ∀ u, u.1 56 (11 + 2 * n) = iZ a → (fX8_kindOf u (iZ n)).bind (fun z1 => fX8_as_30 (20000 + M) (20000 + M) u (iZ n) (iZ b) z1) = fX8_as_47 (20000 + M) u (iZ n) (if uU (iZ a) (iZ b) = true then iZ b else iZ (-1)) := by
    intro u hu
    unfold fX8_kindOf fX8_kindOf_0
    rw [if_pos i1, i2, hu, Option.bind_some]
    have := as_mono (20000 + M) u (iZ n) (iZ b) 7 (19993 + M) _ _ f2
    rw [show 7 + (19993 + M) = 20000 + M by omega] at this
    exact this
  refine Both.guard h (uU (iZ a) (iZ b)) 2 (by omega) (fun z => ?_) (fun z => ?_) (fun z => ?_)
  · show fX7_as _ w _ _ = _
    rw [e7, if_pos q, if_pos i5, i6, h5, g1, z]
    rfl
  · show fX8_as _ _ _ _ = _
    rw [e8 _ (wr 2), RF_r w 2 (by omega), if_pos q, g2 _ (by rw [RF_r w 2 (by omega), ha]), z, if_neg (by decide)]
    unfold fX8_as_47
    rw [if_neg (show ¬ (0 : Int32) ≤ iZ (-1) by decide), bind_id, c_2]
  · refine Both.act w w (w.1 6 n) (w.1 56 (12 + 2 * n)) ?_ ?_ hh.2.symm h
    · show fX7_as _ w _ _ = _
      rw [e7, if_pos q, if_pos i5, i6, h5, g1, z]
      rfl
    · show fX8_as _ w _ _ = _
      rw [e8 _ h.1.1.2, if_pos q, g2 _ ha, z, if_pos rfl]
      unfold fX8_as_47 fX8_frontOf fX8_frontOf_0
      have b0 : (0 : Int32) ≤ iZ (b : Int) := by
        rw [show (0 : Int32) = iZ 0 from rfl, iZ_le (by omega) (by omega) (by omega) (by omega)]
        omega
      rw [if_pos b0, if_pos i3, i4]
      rfl
/-! ships -/
def dShip (r : Nat → Int32) (x : Int32) : Bool := decide (0 ≤ x.toInt ∧ x.toInt < (r 10).toInt)
theorem ship7 (h : Inv w) (x : Int32) : fX7_isShip w x = bi (dShip (w.1 56) x) := by
  unfold fX7_isShip fX7_isShip_0 dShip
  rw [h.1.1.1.2.2.2.2.2.1]
  by_cases a : x < 0
  · rw [if_pos a, decide_eq_false (by rw [Int32.lt_iff_toInt_lt, i_0] at a; omega)]
    rfl
  · rw [if_neg a]
    rw [Int32.lt_iff_toInt_lt, i_0] at a
    by_cases b : w.1 56 10 ≤ x
    · rw [if_pos b, decide_eq_false (by rw [Int32.le_iff_toInt_le] at b; omega)]
      rfl
    · rw [if_neg b, decide_eq_true (by rw [Int32.le_iff_toInt_le] at b; omega)]
      rfl
theorem ship8 (hw : WFr (w.1 56)) (x : Int32) : fX8_isShip w x = bi (dShip (w.1 56) x) := by
  unfold fX8_isShip fX8_isShip_0 dShip
  have hh := hw.2.2.2.2.1
  have e : (w.1 56 10 - 1).toInt = (w.1 56 10).toInt - 1 := by
    have e0 : w.1 56 10 - 1 = iZ ((w.1 56 10).toInt - 1) := by
      rw [← iZ_sub, iZ_self]
      rfl
    rw [e0, iZ_toInt (by omega) (by omega)]
  rw [within8, e, i_0]
  congr 1
  rw [decide_eq_decide]
  omega
theorem dShip_of {r : Nat → Int32} (hw : WFr r) {x : Int32} (h : dShip r x = true) : ∃ n : Nat, x = iZ n ∧ n < 6 ∧ (n : Int) < (r 10).toInt := by
  have := of_decide_eq_true h
  have hh := hw.2.2.2.2.1
  exact ⟨x.toInt.toNat, by rw [Int.toNat_of_nonneg this.1, iZ_self], by omega, by omega⟩
theorem ix_s : ∀ n : Nat, n < 6 → (∀ j : Nat, j < 4 → ibd ((27 + (4 * iZ (n : Int))) + iZ (j : Int)) 51 = true ∧ ((27 + (4 * iZ (n : Int))) + iZ (j : Int)).toNatClampNeg = 27 + 4 * n + j) ∧ ibd (iZ (n : Int)) 6 = true ∧ (iZ (n : Int)).toNatClampNeg = n := by decide +kernel
theorem P_shipOf (h : Inv w) (x y : Int32) : Both (fun w => fX7_shipOf w x y) (fun w => fX8_shipOf w x y) w := by
  have e8 : ∀ u, WFr (u.1 56) → fX8_shipOf u x y = if (dShip (u.1 56) x && dSide y) = true then (fX8_shipIs u x y).bind (fun z1 => some (u, z1)) else fX8_finding u (cd 0) := by
    intro u hu
    unfold fX8_shipOf fX8_shipOf_0 fX8_shipOf_26
    rw [ship8 hu, show fX8_within y 0 3 = bi (dSide y) from side8 y, bind_id, c_0]
    cases dShip (u.1 56) x <;> cases dSide y <;> rfl
  refine Both.guard h (dShip (w.1 56) x && dSide y) 0 (by omega) (fun q => ?_) (fun q => by show fX8_shipOf _ x y = _; rw [e8 _ (by rw [RF_r w 0 (by omega)]; exact h.1.1.2), RF_r w 0 (by omega), q, if_neg (by decide)]) (fun q => ?_)
  · show fX7_shipOf w x y = _
    unfold fX7_shipOf fX7_shipOf_0
    rw [ship7 h, bind_id, c_0]
    cases q1 : dShip (w.1 56) x with
    | false => rfl
    | true =>
      rw [q1, Bool.true_and] at q
      have q := of_decide_eq_false q
      rw [if_neg (show ¬ bi true = 0 by decide), if_neg (fun e => by rw [e] at q; exact q (by decide)), if_neg (fun e => by rw [e] at q; exact q (by decide)), if_neg (fun e => by rw [e] at q; exact q (by decide)), if_neg (fun e => by rw [e] at q; exact q (by decide))]
  · obtain ⟨q1, q2⟩ := Bool.and_eq_true_iff.mp q
    obtain ⟨n, rfl, n6, nh⟩ := dShip_of h.1.1.2 q1
    obtain ⟨j, j4, rfl⟩ := side_k q2
    obtain ⟨i1, i2, i3⟩ := ix_s n n6
    have hh := h.1.1.1.2.2.2.2.2.2.2 n nh
    refine Both.act w w (w.1 56 (27 + 4 * n + j)) (w.1 56 (27 + 4 * n + j)) ?_ ?_ rfl h
    · show fX7_shipOf w _ _ = _
      unfold fX7_shipOf fX7_shipOf_0
      rw [ship7 h, q1, if_neg (show ¬ bi true = 0 by decide), if_pos i2, i3, if_pos i2, if_pos i2, if_pos i2]
      rcases (show j = 0 ∨ j = 1 ∨ j = 2 ∨ j = 3 by omega) with rfl | rfl | rfl | rfl
      · rw [if_pos (show iZ ((0 : Nat) : Int) = 0 from rfl)]
        exact congrArg (fun v => some (w, v)) hh.1
      · rw [if_neg (show ¬ iZ ((1 : Nat) : Int) = 0 by decide), if_pos (show iZ ((1 : Nat) : Int) = 1 from rfl), show 27 + 4 * n + 1 = 28 + 4 * n by omega]
        exact congrArg (fun v => some (w, v)) hh.2.1
      · rw [if_neg (show ¬ iZ ((2 : Nat) : Int) = 0 by decide), if_neg (show ¬ iZ ((2 : Nat) : Int) = 1 by decide), if_pos (show iZ ((2 : Nat) : Int) = 2 from rfl), show 27 + 4 * n + 2 = 29 + 4 * n by omega]
        exact congrArg (fun v => some (w, v)) hh.2.2.1
      · rw [if_neg (show ¬ iZ ((3 : Nat) : Int) = 0 by decide), if_neg (show ¬ iZ ((3 : Nat) : Int) = 1 by decide), if_neg (show ¬ iZ ((3 : Nat) : Int) = 2 by decide), if_pos (show iZ ((3 : Nat) : Int) = 3 from rfl), show 27 + 4 * n + 3 = 30 + 4 * n by omega]
        exact congrArg (fun v => some (w, v)) hh.2.2.2
    · show fX8_shipOf w _ _ = _
      rw [e8 w h.1.1.2, if_pos q]
      unfold fX8_shipIs fX8_shipIs_0
      rw [if_pos (i1 j j4).1, (i1 j j4).2]
      rfl
/-- a change of ships -/
theorem Inv.ship (h : Inv w) {w2 : xW} (e1 : ∀ q k, ¬ (q = 1 ∧ k = 6) → ¬ (7 ≤ q ∧ q ≤ 10) → ¬ (q = 34 ∧ k = 0) → q ≠ 56 → w2.1 q k = w.1 q k) (e2 : w2.2 = w.2) (hK : w2.1 34 0 = 0) (e56 : ∀ j, j < 27 → j ≠ 10 → w2.1 56 j = w.1 56 j) (h3 : w2.1 1 6 = w2.1 56 10) (hh : ∀ s : Nat, (s : Int) < (w2.1 56 10).toInt → w2.1 7 s = w2.1 56 (27 + 4 * s) ∧ w2.1 8 s = w2.1 56 (28 + 4 * s) ∧ w2.1 9 s = w2.1 56 (29 + 4 * s) ∧ w2.1 10 s = w2.1 56 (30 + 4 * s)) (b10 : 0 ≤ (w2.1 56 10).toInt ∧ (w2.1 56 10).toInt ≤ 6) (bs : ∀ s : Nat, (s : Int) < (w2.1 56 10).toInt → (0 ≤ shC (w2.1 56) s ∧ shC (w2.1 56) s ≤ 3) ∧ (0 ≤ shM (w2.1 56) s ∧ shM (w2.1 56) s ≤ 9999) ∧ (1 ≤ shS (w2.1 56) s ∧ shS (w2.1 56) s ≤ 40) ∧ (-1 ≤ shQ (w2.1 56) s ∧ shQ (w2.1 56) s ≤ 3)) : Inv w2 := by
  have row : ∀ q, q ≠ 1 → ¬ (7 ≤ q ∧ q ≤ 10) → q ≠ 34 → q ≠ 56 → w2.1 q = w.1 q := fun q g1 g2 g3 g4 => funext fun k => e1 q k (by omega) g2 (by omega) g4
  refine Inv.new h.1 (fun q k hs hq => e1 q k (by omega) (by omega) (fun z => hs (by unfold Sc; omega)) (by omega)) (fun q _ => by rw [e2]) ?_ hK ?_ ?_
  · exact h.2.1.ships (by rw [row 55 (by omega) (by omega) (by omega) (by omega)]) (row 61 (by omega) (by omega) (by omega) (by omega)) (row 62 (by omega) (by omega) (by omega) (by omega)) (fun k hk => e56 k (by omega) (by omega))
  · exact h.1.1.1.sh e56 (fun j k g1 g2 g3 => e1 _ _ (by omega) (by omega) (by omega) (by omega)) h3 hh h.1.1.2.2.2.2.1.2
  · exact h.1.1.2.sh e56 b10 bs
theorem P_clear (h : Inv w) : Both (fun w => some (fX7_clear w)) (fun w => fX8_clear w) w := by
  refine Both.act (sI (sI w 34 0 0) 1 6 0) (sI (sI (sI w 34 0 0) 1 6 0) 56 10 0) (w.1 1 6) (w.1 56 10) ?_ ?_ h.1.1.1.2.2.2.2.2.1.symm ?_
  · rfl
  · show fX8_clear _ = _
    unfold fX8_clear fX8_clear_0 fX8_become fX8_become_0
    rw [if_pos (show ibd (10 : Int32) 51 = true by decide +kernel), show (10 : Int32).toNatClampNeg = 10 by decide +kernel]
    rfl
  · refine h.ship (fun q k g1 g2 g3 g4 => ?_) rfl ?_ (fun j g1 g2 => ?_) ?_ (fun s hs => ?_) ?_ (fun s hs => ?_)
    · rw [sI_r, if_neg (by omega), sI_r, if_neg (by omega), sI_r, if_neg (by omega)]
    · simp [sI_r]
    · rw [sI_r, if_neg (by omega), sI_r, if_neg (by omega), sI_r, if_neg (by omega)]
    · simp [sI_r]
    · rw [sI_r, if_pos ⟨rfl, rfl⟩, i_0] at hs
      omega
    · rw [sI_r, if_pos ⟨rfl, rfl⟩, i_0]
      omega
    · rw [sI_r, if_pos ⟨rfl, rfl⟩, i_0] at hs
      omega
def dQuay (y : Int32) : Bool := dR (-1) 3 y
theorem P_quay (h : Inv w) (x y : Int32) : Both (fun w => fX7_quay w x y) (fun w => fX8_quay w x y) w := by
  have e7 : fX7_quay w x y = if (dShip (w.1 56) x && dR (-1) 3 y) = true then (if ibd x 6 = true then some (sI (sI w 34 0 0) 10 x.toNatClampNeg y, w.1 10 x.toNatClampNeg) else none) else fX7_refuse w (cd 0) := by
    unfold fX7_quay fX7_quay_0 fX7_quay_18 fX0_forget fX0_forget_0
    have lt : ∀ {α : Type} {A B : α}, (if y < -1 then A else if y < 4 then B else A) = if dR (-1) 3 y = true then B else A := by
      intro α A B
      unfold dR
      simp only [Int32.lt_iff_toInt_lt, decide_eq_true_eq, i_4, i_3]
      split <;> (try split) <;> (try split) <;> first | rfl | omega
    rw [ship7 h, lt, bind_id, c_0]
    cases dShip (w.1 56) x <;> cases dR (-1) 3 y <;> rfl
  have e8 : ∀ u, WFr (u.1 56) → fX8_quay u x y = if (dShip (u.1 56) x && dR (-1) 3 y) = true then (fX8_become u ((27 + (4 * x)) + 3) y) else fX8_finding u (cd 0) := by
    intro u hu
    unfold fX8_quay fX8_quay_0 fX8_quay_33
    rw [ship8 hu, win8, bind_id, bind_id, c_0]
    cases dShip (u.1 56) x <;> cases dR (-1) 3 y <;> rfl
  refine Both.guard h (dShip (w.1 56) x && dR (-1) 3 y) 0 (by omega) (fun q => by show fX7_quay w x y = _; rw [e7, q, if_neg (by decide)]) (fun q => by show fX8_quay _ x y = _; rw [e8 _ (by rw [RF_r w 0 (by omega)]; exact h.1.1.2), RF_r w 0 (by omega), q, if_neg (by decide)]) (fun q => ?_)
  obtain ⟨q1, q2⟩ := Bool.and_eq_true_iff.mp q
  obtain ⟨n, rfl, n6, nh⟩ := dShip_of h.1.1.2 q1
  obtain ⟨i1, i2, i3⟩ := ix_s n n6
  have hh := h.1.1
  have r56 : (sI (sI w 34 0 0) 10 n y).1 56 = w.1 56 := funext fun k => by rw [sI_r, if_neg (by omega), sI_r, if_neg (by omega)]
  refine Both.act (sI (sI w 34 0 0) 10 n y) (sI (sI (sI w 34 0 0) 10 n y) 56 (27 + 4 * n + 3) y) (w.1 10 n) (w.1 56 (27 + 4 * n + 3)) ?_ ?_ (by rw [show 27 + 4 * n + 3 = 30 + 4 * n by omega]; exact (hh.1.2.2.2.2.2.2.2 n nh).2.2.2.symm) ?_
  · show fX7_quay w _ _ = _
    rw [e7, if_pos q, if_pos i2, i3]
  · show fX8_quay _ _ _ = _
    rw [e8 _ (by rw [r56]; exact hh.2), r56, if_pos q]
    unfold fX8_become fX8_become_0
    have e3 := i1 3 (by omega)
    rw [show iZ ((3 : Nat) : Int) = 3 from rfl] at e3
    rw [if_pos e3.1, e3.2, r56]
  · generalize hw2 : sI (sI (sI w 34 0 0) 10 n y) 56 (27 + 4 * n + 3) y = w2
    have d2 : w2.2 = w.2 := by rw [← hw2]; rfl
    have af : w2.1 56 (27 + 4 * n + 3) = y := by rw [← hw2, sI_r, if_pos ⟨rfl, rfl⟩]
    have a56 : ∀ j, j ≠ 27 + 4 * n + 3 → w2.1 56 j = w.1 56 j := fun j g1 => by rw [← hw2, sI_r, if_neg (by omega), sI_r, if_neg (by omega), sI_r, if_neg (by omega)]
    have aq : ∀ j, w2.1 10 j = if j = n then y else w.1 10 j := fun j => by rw [← hw2]; simp [sI_r]
    have ah : w2.1 34 0 = 0 := by rw [← hw2]; simp [sI_r]
    have ao : ∀ q k, q ≠ 10 → q ≠ 56 → ¬ (q = 34 ∧ k = 0) → w2.1 q k = w.1 q k := fun q k g1 g2 g3 => by rw [← hw2, sI_r, if_neg (by omega), sI_r, if_neg (by omega), sI_r, if_neg (by omega)]
    clear hw2
    refine h.ship (fun q k g1 g2 g3 g4 => ao q k (by omega) (by omega) (by omega)) d2 ah (fun j g1 g2 => a56 j (by omega)) (by rw [ao 1 6 (by omega) (by omega) (by omega), a56 10 (by omega)]; exact hh.1.2.2.2.2.2.1) (fun s hs => ?_) (by rw [a56 10 (by omega)]; exact hh.2.2.2.2.2.1) (fun s hs => ?_)
    · rw [a56 10 (by omega)] at hs
      have g := hh.1.2.2.2.2.2.2.2 s hs
      rw [ao 7 s (by omega) (by omega) (by omega), ao 8 s (by omega) (by omega) (by omega), ao 9 s (by omega) (by omega) (by omega), a56 (27 + 4 * s) (by omega), a56 (28 + 4 * s) (by omega), a56 (29 + 4 * s) (by omega), aq]
      by_cases z : s = n
      · subst z
        rw [if_pos rfl, show 30 + 4 * s = 27 + 4 * s + 3 by omega, af]
        exact ⟨g.1, g.2.1, g.2.2.1, rfl⟩
      · rw [if_neg z, a56 _ (by omega)]
        exact g
    · rw [a56 10 (by omega)] at hs
      have g := hh.2.2.2.2.2.2.2 s hs
      unfold shC shM shS shQ at g ⊢
      rw [a56 (27 + 4 * s) (by omega), a56 (28 + 4 * s) (by omega), a56 (29 + 4 * s) (by omega)]
      by_cases z : s = n
      · subst z
        rw [show 30 + 4 * s = 27 + 4 * s + 3 by omega, af]
        have q2 := dR_iff.mp q2
        exact ⟨g.1, g.2.1, g.2.2.1, q2⟩
      · rw [a56 _ (by omega)]
        exact g
theorem cnt6 (h : Inv w) : ∃ n : Nat, w.1 56 10 = iZ n ∧ n ≤ 6 ∧ w.1 1 6 = iZ n := by
  have b := h.1.1.2.2.2.2.2.1
  exact ⟨(w.1 56 10).toInt.toNat, by rw [Int.toNat_of_nonneg b.1, iZ_self], by omega, by rw [Int.toNat_of_nonneg b.1, iZ_self]; exact h.1.1.1.2.2.2.2.2.1⟩
def dNew (x y z : Int32) : Bool := dSide x && (dTick y && dR 1 40 z)
theorem e_ship7 (u : xW) (x y z : Int32) : fX7_ship u x y z = if dNew x y z = true then (if (u.1 1 6) < 6 then fX1_addShip (sI u 34 0 0) x y z (-1) else fX7_refuse u (cd 1)) else fX7_refuse u (cd 0) := by
  unfold fX7_ship fX7_ship_0 fX7_ship_25 dNew fX0_forget fX0_forget_0
  rw [side7, tick7, lohi1 z, bind_id, bind_id, bind_id, c_0, c_1]
  cases dSide x <;> cases dTick y <;> cases dR 1 40 z <;> rfl
theorem e_ship8 (u : xW) (x y z : Int32) : fX8_ship u x y z = if dNew x y z = true then (if (u.1 56 10) = 6 then fX8_finding u (cd 1) else fX8_sails u x y z (-1)) else fX8_finding u (cd 0) := by
  unfold fX8_ship fX8_ship_0 fX8_ship_24 dNew
  rw [side8, tick8, win8, bind_id, bind_id, bind_id, c_0, c_1]
  cases dSide x <;> cases dTick y <;> cases dR 1 40 z <;> rfl
theorem P_ship (h : Inv w) (x y v : Int32) : Both (fun w => fX7_ship w x y v) (fun w => fX8_ship w x y v) w := by
  refine Both.guard h (dNew x y v) 0 (by omega) (fun q => by show fX7_ship w x y v = _; rw [e_ship7, q, if_neg (by decide)]) (fun q => by show fX8_ship _ x y v = _; rw [e_ship8, q, if_neg (by decide)]) (fun q => ?_)
  obtain ⟨n, hn, hn6, h16⟩ := cnt6 h
  obtain ⟨q1, q23⟩ := Bool.and_eq_true_iff.mp q
  obtain ⟨q2, q3⟩ := Bool.and_eq_true_iff.mp q23
  refine Both.guard h (decide (n < 6)) 1 (by omega) (fun z => ?_) (fun z => ?_) (fun z => ?_)
  · have z := of_decide_eq_false z
    show fX7_ship w x y v = _
    rw [e_ship7, if_pos q, h16, if_neg (by rw [show (6 : Int32) = iZ 6 from rfl, iZ_lt (by omega) (by omega) (by omega) (by omega)]; omega)]
  · have z := of_decide_eq_false z
    obtain rfl : n = 6 := by omega
    show fX8_ship _ x y v = _
    rw [e_ship8, if_pos q, RF_r w 1 (by omega), hn, if_pos (show iZ ((6 : Nat) : Int) = 6 from rfl)]
  · have z := of_decide_eq_true z
    obtain ⟨i1, i2, i3⟩ := ix_s n z
    have lt : (iZ (n : Int)) < 6 := by rw [show (6 : Int32) = iZ 6 from rfl, iZ_lt (by omega) (by omega) (by omega) (by omega)]; omega
    have j0 := i1 0 (by omega)
    have j1 := i1 1 (by omega)
    have j2 := i1 2 (by omega)
    have j3 := i1 3 (by omega)
    rw [show iZ ((0 : Nat) : Int) = 0 from rfl] at j0
    rw [show iZ ((1 : Nat) : Int) = 1 from rfl] at j1
    rw [show iZ ((2 : Nat) : Int) = 2 from rfl] at j2
    rw [show iZ ((3 : Nat) : Int) = 3 from rfl] at j3
    have w1e : ∃ w1, w1 = sI (sI (sI (sI (sI (sI w 34 0 0) 7 n x) 8 n y) 9 n v) 10 n (-1)) 1 6 (iZ n + 1) := ⟨_, rfl⟩
    obtain ⟨w1, hw1⟩ := w1e
    have r0 : w1.1 56 10 = iZ n := by rw [hw1, sI_r, if_neg (by omega), sI_r, if_neg (by omega), sI_r, if_neg (by omega), sI_r, if_neg (by omega), sI_r, if_neg (by omega), sI_r, if_neg (by omega), hn]
    refine Both.act w1 (sI (sI (sI (sI (sI w1 56 (27 + 4 * n + 0) x) 56 (27 + 4 * n + 1) y) 56 (27 + 4 * n + 2) v) 56 (27 + 4 * n + 3) (-1)) 56 10 (iZ n + 1)) (iZ n) (iZ n) ?_ ?_ rfl ?_
    · show fX7_ship w x y v = _
      have r1 : (sI w 34 0 0).1 1 6 = iZ n := by rw [sI_r, if_neg (by omega), h16]
      have r2 : (sI (sI w 34 0 0) 7 n x).1 1 6 = iZ n := by rw [sI_r, if_neg (by omega), r1]
      have r3 : (sI (sI (sI w 34 0 0) 7 n x) 8 n y).1 1 6 = iZ n := by rw [sI_r, if_neg (by omega), r2]
      have r4 : (sI (sI (sI (sI w 34 0 0) 7 n x) 8 n y) 9 n v).1 1 6 = iZ n := by rw [sI_r, if_neg (by omega), r3]
      have r5 : (sI (sI (sI (sI (sI w 34 0 0) 7 n x) 8 n y) 9 n v) 10 n (-1)).1 1 6 = iZ n := by rw [sI_r, if_neg (by omega), r4]
      rw [e_ship7, if_pos q, h16, if_pos lt]
      unfold fX1_addShip fX1_addShip_0 fX1_addShip_50
      rw [r1, if_pos lt, if_pos i2, i3, r2, if_pos i2, i3, r3, if_pos i2, i3, r4, if_pos i2, i3, r5, hw1]
    · show fX8_ship w1 x y v = _
      rw [e_ship8, if_pos q, r0, if_neg (fun e => by rw [e] at lt; exact absurd lt (by decide))]
      unfold fX8_sails fX8_sails_0 fX8_sails_67
      have r3 : (sI (sI (sI (sI w1 56 (27 + 4 * n + 0) x) 56 (27 + 4 * n + 1) y) 56 (27 + 4 * n + 2) v) 56 (27 + 4 * n + 3) (-1)).1 56 10 = iZ n := by rw [sI_r, if_neg (by omega), sI_r, if_neg (by omega), sI_r, if_neg (by omega), sI_r, if_neg (by omega), r0]
      rw [r0, if_pos j0.1, if_pos j1.1, if_pos j2.1, if_pos j3.1, j0.2, j1.2, j2.2, j3.2, r3, if_pos (show ibd (10 : Int32) 51 = true by decide +kernel), show (10 : Int32).toNatClampNeg = 10 by decide +kernel]
    · have hh := h.1.1
      have e1 : iZ n + 1 = iZ ((n + 1 : Nat) : Int) := by rw [show (1 : Int32) = iZ 1 from rfl, iZ_add]; rfl
      have e2 : (iZ ((n + 1 : Nat) : Int)).toInt = n + 1 := by rw [iZ_toInt (by omega) (by omega)]; rfl
      have e3 : (w.1 56 10).toInt = n := by rw [hn, iZ_toInt (by omega) (by omega)]
      rw [e1] at hw1 ⊢
      generalize hw2 : sI (sI (sI (sI (sI w1 56 (27 + 4 * n + 0) x) 56 (27 + 4 * n + 1) y) 56 (27 + 4 * n + 2) v) 56 (27 + 4 * n + 3) (-1)) 56 10 (iZ ((n + 1 : Nat) : Int)) = w2
      have b1 : ∀ q k, q ≠ 56 → w2.1 q k = w1.1 q k := fun q k g => by rw [← hw2, sI_r, if_neg (by omega), sI_r, if_neg (by omega), sI_r, if_neg (by omega), sI_r, if_neg (by omega), sI_r, if_neg (by omega)]
      have b2 : ∀ j, w1.1 56 j = w.1 56 j := fun j => by rw [hw1, sI_r, if_neg (by omega), sI_r, if_neg (by omega), sI_r, if_neg (by omega), sI_r, if_neg (by omega), sI_r, if_neg (by omega), sI_r, if_neg (by omega)]
      have d2 : w2.2 = w.2 := by rw [← hw2, hw1]; rfl
      have a10 : w2.1 56 10 = iZ ((n + 1 : Nat) : Int) := by rw [← hw2, sI_r, if_pos ⟨rfl, rfl⟩]
      have p3 : w2.1 56 (30 + 4 * n) = -1 := by rw [← hw2, sI_r, if_neg (by omega), sI_r, if_pos (by omega)]
      have p2 : w2.1 56 (29 + 4 * n) = v := by rw [← hw2, sI_r, if_neg (by omega), sI_r, if_neg (by omega), sI_r, if_pos (by omega)]
      have p1 : w2.1 56 (28 + 4 * n) = y := by rw [← hw2, sI_r, if_neg (by omega), sI_r, if_neg (by omega), sI_r, if_neg (by omega), sI_r, if_pos (by omega)]
      have p0 : w2.1 56 (27 + 4 * n) = x := by rw [← hw2, sI_r, if_neg (by omega), sI_r, if_neg (by omega), sI_r, if_neg (by omega), sI_r, if_neg (by omega), sI_r, if_pos (by omega)]
      have a56 : ∀ j, j ≠ 10 → ¬ (27 + 4 * n ≤ j ∧ j ≤ 30 + 4 * n) → w2.1 56 j = w.1 56 j := fun j g1 g2 => by rw [← b2, ← hw2, sI_r, if_neg (by omega), sI_r, if_neg (by omega), sI_r, if_neg (by omega), sI_r, if_neg (by omega), sI_r, if_neg (by omega)]
      have a16 : w2.1 1 6 = iZ ((n + 1 : Nat) : Int) := by rw [b1 1 6 (by omega), hw1, sI_r, if_pos ⟨rfl, rfl⟩]
      have a34 : w2.1 34 0 = 0 := by rw [b1 34 0 (by omega), hw1]; simp [sI_r]
      have c7 : ∀ j, w2.1 7 j = if j = n then x else w.1 7 j := fun j => by rw [b1 7 j (by omega), hw1]; simp [sI_r]
      have c8 : ∀ j, w2.1 8 j = if j = n then y else w.1 8 j := fun j => by rw [b1 8 j (by omega), hw1]; simp [sI_r]
      have c9 : ∀ j, w2.1 9 j = if j = n then v else w.1 9 j := fun j => by rw [b1 9 j (by omega), hw1]; simp [sI_r]
      have c10 : ∀ j, w2.1 10 j = if j = n then -1 else w.1 10 j := fun j => by rw [b1 10 j (by omega), hw1]; simp [sI_r]
      have ao : ∀ q k, ¬ (7 ≤ q ∧ q ≤ 10) → q ≠ 56 → ¬ (q = 34 ∧ k = 0) → ¬ (q = 1 ∧ k = 6) → w2.1 q k = w.1 q k := fun q k g1 g2 g3 g4 => by rw [b1 q k g2, hw1, sI_r, if_neg (by omega), sI_r, if_neg (by omega), sI_r, if_neg (by omega), sI_r, if_neg (by omega), sI_r, if_neg (by omega), sI_r, if_neg (by omega)]
      clear hw2 hw1 b1 b2 r0
      have key : ∀ m : Nat, (m : Int) < (w2.1 56 10).toInt → m = n ∨ (m < n ∧ (m : Int) < (w.1 56 10).toInt) := fun m hm => by
        rw [a10, e2] at hm
        rw [e3]
        omega
      refine h.ship (fun q k g1 g2 g3 g4 => ao q k g2 g4 g3 g1) d2 a34 (fun j g1 g2 => a56 j (by omega) (by omega)) (by rw [a16, a10]) (fun m hm => ?_) (by rw [a10, e2]; omega) (fun m hm => ?_)
      · rcases key m hm with rfl | ⟨g1, g2⟩
        · rw [c7, c8, c9, c10, if_pos rfl, if_pos rfl, if_pos rfl, if_pos rfl, p0, p1, p2, p3]
          exact ⟨rfl, rfl, rfl, rfl⟩
        · rw [c7, c8, c9, c10, if_neg (by omega), if_neg (by omega), if_neg (by omega), if_neg (by omega), a56 _ (by omega) (by omega), a56 _ (by omega) (by omega), a56 _ (by omega) (by omega), a56 _ (by omega) (by omega)]
          exact hh.1.2.2.2.2.2.2.2 m g2
      · unfold shC shM shS shQ
        rcases key m hm with rfl | ⟨g1, g2⟩
        · rw [p0, p1, p2, p3]
          exact ⟨of_decide_eq_true q1, of_decide_eq_true q2, dR_iff.mp q3, by decide⟩
        · rw [a56 _ (by omega) (by omega), a56 _ (by omega) (by omega), a56 _ (by omega) (by omega), a56 _ (by omega) (by omega)]
          exact hh.2.2.2.2.2.2.2 m g2
end HS
