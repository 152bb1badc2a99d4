/-! the small calls that tell or change tides, wind, houses -/
def dR (lo hi x : Int32) : Bool := decide (lo.toInt ≤ x.toInt ∧ x.toInt ≤ hi.toInt)
theorem lohi1 {α : Type} {A B : α} (x lo hi : Int32) : (if x < lo then A else if x ≤ hi then B else A) = if dR lo hi x = true then B else A := by
  unfold dR
  simp only [Int32.lt_iff_toInt_lt, Int32.le_iff_toInt_le, decide_eq_true_eq]
  split <;> (try split) <;> (try split) <;> first | rfl | omega
theorem lohi2 {α : Type} {A B : α} (x lo hi : Int32) : (if x < lo then A else if hi < x then A else B) = if dR lo hi x = true then B else A := by
  unfold dR
  simp only [Int32.lt_iff_toInt_lt, decide_eq_true_eq]
  split <;> (try split) <;> (try split) <;> first | rfl | omega
theorem lohi3 {α : Type} {A B : α} (x lo hi h1 : Int32) (e : h1.toInt = hi.toInt - 1) : (if x < lo then A else if hi ≤ x then A else B) = if dR lo h1 x = true then B else A := by
  unfold dR
  simp only [Int32.lt_iff_toInt_lt, Int32.le_iff_toInt_le, decide_eq_true_eq, e]
  split <;> (try split) <;> (try split) <;> first | rfl | omega
theorem win8 (x lo hi : Int32) : fX8_within x lo hi = bi (dR lo hi x) := within8 x lo hi
def bnd : Nat → Int32 → Prop
  | 0, x => 0 ≤ x.toInt ∧ x.toInt ≤ 400
  | 1, x => 16 ≤ x.toInt ∧ x.toInt ≤ 400
  | 2, x => 1 ≤ x.toInt ∧ x.toInt ≤ 7
  | 3, x => 0 ≤ x.toInt ∧ x.toInt ≤ 8
  | 4, x => 0 ≤ x.toInt ∧ x.toInt < 1073741824
  | 5, x => 0 ≤ x.toInt ∧ x.toInt < 1073741824
  | 6, x => 0 ≤ x.toInt ∧ x.toInt < 1073741824
  | 7, x => 0 ≤ x.toInt ∧ x.toInt ≤ 3
  | 8, x => 0 ≤ x.toInt ∧ x.toInt ≤ 9
  | _, _ => True
theorem WFr.b {r : Nat → Int32} (h : WFr r) : ∀ j, j < 9 → bnd j (r j)
  | 0, _ => h.1.1
  | 1, _ => h.1.2.1
  | 2, _ => h.1.2.2.1
  | 3, _ => h.1.2.2.2.1
  | 4, _ => h.1.2.2.2.2.1
  | 5, _ => h.1.2.2.2.2.2.1
  | 6, _ => h.1.2.2.2.2.2.2
  | 7, _ => h.2.1
  | 8, _ => h.2.2.1
  | j + 9, q => absurd q (by omega)
theorem WFr.set {r r' : Nat → Int32} (h : WFr r) (e : ∀ j, 9 ≤ j → r' j = r j) (hb : ∀ j, j < 9 → bnd j (r' j)) : WFr r' := by
  obtain ⟨-, -, -, b9, b10, bh, bs⟩ := h
  refine ⟨⟨hb 0 (by omega), hb 1 (by omega), hb 2 (by omega), hb 3 (by omega), hb 4 (by omega), hb 5 (by omega), hb 6 (by omega)⟩, hb 7 (by omega), hb 8 (by omega), ?_, ?_, ?_, ?_⟩
  · rw [e 9 (by omega)]; exact b9
  · rw [e 10 (by omega)]; exact b10
  · intro n hn
    rw [e 9 (by omega)] at hn
    rw [e _ (by omega), e _ (by omega)]
    exact bh n hn
  · intro n hn
    rw [e 10 (by omega)] at hn
    unfold shC shM shS shQ
    rw [e _ (by omega), e _ (by omega), e _ (by omega), e _ (by omega)]
    exact bs n hn
/-- one of the first nine numbers told anew -/
theorem IsR.set {w w2 : xW} {r r' : Nat → Int32} {q : Nat} (h : IsR w q r) (e : ∀ j, 9 ≤ j → r' j = r j) (h0 : ∀ i, i < 4 → w2.1 (q + 2) i = r' i) (h1 : ∀ i, i < 3 → w2.1 (q + 3) i = r' (4 + i)) (h2 : w2.1 q 1 = r' 7) (h3 : w2.1 q 2 = r' 8) (h4 : w2.1 q 3 = w.1 q 3) (h5 : w2.1 q 6 = w.1 q 6) (h6 : ∀ j, 4 ≤ j → j < 10 → w2.1 (q + j) = w.1 (q + j)) : IsR w2 q r' := by
  obtain ⟨-, -, -, -, g4, g5, g6, g7⟩ := h
  refine ⟨h0, h1, h2, h3, by rw [h4, g4, e 9 (by omega)], by rw [h5, g5, e 10 (by omega)], fun n hn => ?_, fun n hn => ?_⟩
  · rw [e 9 (by omega)] at hn
    rw [h6 4 (by omega) (by omega), h6 5 (by omega) (by omega), e _ (by omega), e _ (by omega)]
    exact g6 n hn
  · rw [e 10 (by omega)] at hn
    rw [h6 6 (by omega) (by omega), h6 7 (by omega) (by omega), h6 8 (by omega) (by omega), h6 9 (by omega) (by omega), e _ (by omega), e _ (by omega), e _ (by omega), e _ (by omega)]
    exact g7 n hn
section ST
variable {w : xW} {N : Nat}
theorem P_wind (h : Inv w) (x y : Int32) : Both (fun w => fX7_wind w x y) (fun w => fX8_wind w x y) w := by
  have e7 : ∀ u, fX7_wind u x y = if (dSide x && dR 0 9 y) = true then some (sI (sI u 1 1 x) 1 2 y, u.1 1 2) else fX7_refuse u (cd 0) := by
    intro u
    unfold fX7_wind fX7_wind_0 fX7_wind_17
    rw [side7, lohi1, bind_id, c_0]
    cases dSide x <;> cases dR 0 9 y <;> rfl
  have e8 : ∀ u, fX8_wind u x y = if (dSide x && dR 0 9 y) = true then some (sI (sI u 56 7 x) 56 8 y, u.1 56 8) else fX8_finding u (cd 0) := by
    intro u
    unfold fX8_wind fX8_wind_0 fX8_wind_17 fX8_become fX8_become_0
    rw [side8, win8, bind_id, bind_id, c_0, if_pos (show ibd (8 : Int32) 51 = true by decide +kernel), show (8 : Int32).toNatClampNeg = 8 by decide +kernel, sI_r u 56 7 x 56 8, if_neg (show ¬ ((56 : Nat) = 56 ∧ (8 : Nat) = 7) by omega)]
    cases dSide x <;> cases dR 0 9 y <;> rfl
  refine Both.guard h (dSide x && dR 0 9 y) 0 (by omega) (fun q => ?_) (fun q => ?_) (fun q => ?_)
  · show fX7_wind w x y = _
    rw [e7, q, if_neg (by decide)]
  · show fX8_wind (RF w 0) x y = _
    rw [e8, q, if_neg (by decide)]
  · obtain ⟨q1, q2⟩ := Bool.and_eq_true_iff.mp q
    refine ⟨_, _, w.1 1 2, by show fX7_wind w x y = _; rw [e7, if_pos q], by show fX8_wind _ x y = _; rw [e8, if_pos q, sI_r, if_neg (by omega), sI_r, if_neg (by omega), ← h.1.1.1.2.2.2.1], ?_⟩
    have r56 : ∀ j, (sI (sI (sI (sI w 1 1 x) 1 2 y) 56 7 x) 56 8 y).1 56 j = if j = 8 then y else if j = 7 then x else w.1 56 j := by
      intro j
      rw [sI_r, sI_r, sI_r, sI_r]
      by_cases a : j = 8
      · subst a
        rfl
      · rw [if_neg (by omega), if_neg a]
        by_cases b : j = 7
        · subst b
          rfl
        · rw [if_neg (by omega), if_neg b, if_neg (by omega), if_neg (by omega)]
    have oth : ∀ q k, ¬ (q = 1 ∧ (k = 1 ∨ k = 2)) → q ≠ 56 → (sI (sI (sI (sI w 1 1 x) 1 2 y) 56 7 x) 56 8 y).1 q k = w.1 q k := by
      intro q k h1 h2
      rw [sI_r, if_neg (by omega), sI_r, if_neg (by omega), sI_r, if_neg (by omega), sI_r, if_neg (by omega)]
    have row : ∀ q, q ≠ 1 → q ≠ 56 → (sI (sI (sI (sI w 1 1 x) 1 2 y) 56 7 x) 56 8 y).1 q = w.1 q := fun q h1 h2 => funext fun k => oth q k (by omega) h2
    have hh := h.1.1
    refine h.now (fun q k hq => oth q k (by omega) (by omega)) rfl (fun k hk => by rw [r56, if_neg (by omega), if_neg (by omega)]) ?_ ?_
    · refine hh.1.set (fun j hj => by rw [r56, if_neg (by omega), if_neg (by omega)]) (fun i hi => ?_) (fun i hi => ?_) ?_ ?_ (oth 1 3 (by omega) (by omega)) (oth 1 6 (by omega) (by omega)) (fun j h1 h2 => row _ (by omega) (by omega))
      · rw [row _ (by omega) (by omega), r56, if_neg (by omega), if_neg (by omega)]
        exact hh.1.1 i hi
      · rw [row _ (by omega) (by omega), r56, if_neg (by omega), if_neg (by omega)]
        exact hh.1.2.1 i hi
      · rw [r56, if_neg (by omega), if_pos rfl, sI_r, if_neg (by omega), sI_r, if_neg (by omega), sI_r, if_neg (by omega), sI_r, if_pos ⟨rfl, rfl⟩]
      · rw [r56, if_pos rfl, sI_r, if_neg (by omega), sI_r, if_neg (by omega), sI_r, if_pos ⟨rfl, rfl⟩]
    · refine hh.2.set (fun j hj => by rw [r56, if_neg (by omega), if_neg (by omega)]) (fun j hj => ?_)
      rw [r56]
      by_cases a : j = 8
      · subst a
        exact (of_decide_eq_true q2 : (0 : Int32).toInt ≤ y.toInt ∧ y.toInt ≤ (9 : Int32).toInt)
      · rw [if_neg a]
        by_cases b : j = 7
        · subst b
          exact (of_decide_eq_true q1 : (0 : Int32).toInt ≤ x.toInt ∧ x.toInt ≤ (3 : Int32).toInt)
        · rw [if_neg b]
          exact hh.2.b j hj
theorem P_tide (h : Inv w) (x y : Int32) : Both (fun w => fX7_tide w x y) (fun w => fX8_tide w x y) w := by
  have e7 : ∀ u, fX7_tide u x y = if (dR 0 199 x && dR 0 1 y) = true then (if y = 0 then some (u, fX6_begins u x) else some (u, fX6_ends u x)) else fX7_refuse u (cd 0) := by
    intro u
    unfold fX7_tide fX7_tide_0 fX7_tide_20
    rw [lohi1 y, lohi2 x, bind_id, c_0]
    cases dR 0 199 x <;> cases dR 0 1 y <;> rfl
  have e8 : ∀ u, fX8_tide u x y = if (dR 0 199 x && dR 0 1 y) = true then some (u, (fX8_beginOf u x) + (y * (u.1 56 2))) else fX8_finding u (cd 0) := by
    intro u
    unfold fX8_tide fX8_tide_0 fX8_tide_20
    rw [win8, win8, bind_id, c_0]
    cases dR 0 199 x <;> cases dR 0 1 y <;> rfl
  refine Both.guard h (dR 0 199 x && dR 0 1 y) 0 (by omega) (fun q => ?_) (fun q => ?_) (fun q => ?_)
  · show fX7_tide w x y = _
    rw [e7, q, if_neg (by decide)]
  · show fX8_tide (RF w 0) x y = _
    rw [e8, q, if_neg (by decide)]
  · obtain ⟨q1, q2⟩ := Bool.and_eq_true_iff.mp q
    have q1 := of_decide_eq_true q1
    have q2 := of_decide_eq_true q2
    rw [i_0, show (199 : Int32).toInt = 199 from rfl] at q1
    rw [i_0, i_1] at q2
    obtain ⟨k, rfl, hk⟩ : ∃ k : Nat, x = iZ k ∧ k < 200 := ⟨x.toInt.toNat, by rw [Int.toNat_of_nonneg q1.1, iZ_self], by omega⟩
    refine Both.ask h (iZ (tbeg (w.1 56) k + y.toInt * tLn (w.1 56))) ⟨w, ?_, G.rf⟩ (fun u hu e => ⟨u, ?_, G.rf⟩)
    · rw [e7, if_pos q]
      by_cases z : y = 0
      · rw [if_pos z, begins_eq h.ist (by omega), z]
        simp
      · have : y.toInt = 1 := by
          have : y.toInt ≠ 0 := fun e => z (Int32.toInt_inj.mp e)
          omega
        rw [if_neg z, this]
        unfold fX6_ends fX6_ends_0
        rw [begins_eq h.ist (by omega), h.ist.f.2.2.1, iZ_add, Int.one_mul]
    · rw [e8, if_pos q, beginOf_eq rfl (by omega), e]
      have e2 : w.1 56 2 = iZ (tLn (w.1 56)) := (iZ_self _).symm
      rw [e2, ← iZ_add, ← iZ_mul, iZ_self]
end ST
