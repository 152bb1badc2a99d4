/-! tides and sets told anew; houses and ships added and changed -/
theorem WFr.hs {r r' : Nat → Int32} (h : WFr r) (e : ∀ j, j < 9 ∨ j = 10 ∨ 27 ≤ j → r' j = r j) (b9 : 0 ≤ (r' 9).toInt ∧ (r' 9).toInt ≤ 8) (bh : ∀ n : Nat, (n : Int) < (r' 9).toInt → (0 ≤ (r' (11 + 2 * n)).toInt ∧ (r' (11 + 2 * n)).toInt ≤ 5) ∧ (0 ≤ (r' (12 + 2 * n)).toInt ∧ (r' (12 + 2 * n)).toInt ≤ 3)) : WFr r' := by
  have hb := h.b
  obtain ⟨-, -, -, -, b10, -, bs⟩ := h
  have hb' : ∀ j, j < 9 → bnd j (r' j) := fun j hj => by rw [e j (by omega)]; exact hb j hj
  refine ⟨⟨hb' 0 (by omega), hb' 1 (by omega), hb' 2 (by omega), hb' 3 (by omega), hb' 4 (by omega), hb' 5 (by omega), hb' 6 (by omega)⟩, hb' 7 (by omega), hb' 8 (by omega), b9, ?_, bh, ?_⟩
  · rw [e 10 (by omega)]; exact b10
  · intro n hn
    rw [e 10 (by omega)] at hn
    unfold shC shM shS shQ
    rw [e _ (by omega), e _ (by omega), e _ (by omega), e _ (by omega)]
    exact bs n hn
theorem WFr.sh {r r' : Nat → Int32} (h : WFr r) (e : ∀ j, j < 27 → j ≠ 10 → r' j = r j) (b10 : 0 ≤ (r' 10).toInt ∧ (r' 10).toInt ≤ 6) (bs : ∀ s : Nat, (s : Int) < (r' 10).toInt → (0 ≤ shC r' s ∧ shC r' s ≤ 3) ∧ (0 ≤ shM r' s ∧ shM r' s ≤ 9999) ∧ (1 ≤ shS r' s ∧ shS r' s ≤ 40) ∧ (-1 ≤ shQ r' s ∧ shQ r' s ≤ 3)) : WFr r' := by
  have hb := h.b
  obtain ⟨-, -, -, b9, -, bh, -⟩ := h
  have hb' : ∀ j, j < 9 → bnd j (r' j) := fun j hj => by rw [e j (by omega) (by omega)]; exact hb j hj
  refine ⟨⟨hb' 0 (by omega), hb' 1 (by omega), hb' 2 (by omega), hb' 3 (by omega), hb' 4 (by omega), hb' 5 (by omega), hb' 6 (by omega)⟩, hb' 7 (by omega), hb' 8 (by omega), ?_, b10, ?_, bs⟩
  · rw [e 9 (by omega) (by omega)]; exact b9
  · intro n hn
    rw [e 9 (by omega) (by omega)] at hn
    rw [e _ (by omega) (by omega), e _ (by omega) (by omega)]
    exact bh n hn
theorem IsR.hs {w w2 : xW} {r r' : Nat → Int32} {q : Nat} (h : IsR w q r) (er : ∀ j, j < 9 ∨ j = 10 ∨ 27 ≤ j → r' j = r j) (ew : ∀ j k, j < 10 → j ≠ 1 → ¬ (j = 0 ∧ k = 3) → j ≠ 4 → j ≠ 5 → w2.1 (q + j) k = w.1 (q + j) k) (h3 : w2.1 q 3 = r' 9) (hh : ∀ n : Nat, (n : Int) < (r' 9).toInt → w2.1 (q + 4) n = r' (11 + 2 * n) ∧ w2.1 (q + 5) n = r' (12 + 2 * n)) : IsR w2 q r' := by
  obtain ⟨g0, g1, g2, g3, -, g5, -, g7⟩ := h
  refine ⟨fun i hi => by rw [ew 2 i (by omega) (by omega) (by omega) (by omega) (by omega), g0 i hi, er _ (by omega)], fun i hi => by rw [ew 3 i (by omega) (by omega) (by omega) (by omega) (by omega), g1 i hi, er _ (by omega)], ?_, ?_, h3, ?_, hh, fun n hn => ?_⟩
  · exact (ew 0 1 (by omega) (by omega) (by omega) (by omega) (by omega)).trans (g2.trans (er _ (by omega)).symm)
  · exact (ew 0 2 (by omega) (by omega) (by omega) (by omega) (by omega)).trans (g3.trans (er _ (by omega)).symm)
  · exact (ew 0 6 (by omega) (by omega) (by omega) (by omega) (by omega)).trans (g5.trans (er _ (by omega)).symm)
  · rw [er 10 (by omega)] at hn
    rw [ew 6 n (by omega) (by omega) (by omega) (by omega) (by omega), ew 7 n (by omega) (by omega) (by omega) (by omega) (by omega), ew 8 n (by omega) (by omega) (by omega) (by omega) (by omega), ew 9 n (by omega) (by omega) (by omega) (by omega) (by omega), er _ (by omega), er _ (by omega), er _ (by omega), er _ (by omega)]
    exact g7 n hn
theorem IsR.sh {w w2 : xW} {r r' : Nat → Int32} {q : Nat} (h : IsR w q r) (er : ∀ j, j < 27 → j ≠ 10 → r' j = r j) (ew : ∀ j k, j < 6 → j ≠ 1 → ¬ (j = 0 ∧ k = 6) → w2.1 (q + j) k = w.1 (q + j) k) (h3 : w2.1 q 6 = r' 10) (hh : ∀ s : Nat, (s : Int) < (r' 10).toInt → w2.1 (q + 6) s = r' (27 + 4 * s) ∧ w2.1 (q + 7) s = r' (28 + 4 * s) ∧ w2.1 (q + 8) s = r' (29 + 4 * s) ∧ w2.1 (q + 9) s = r' (30 + 4 * s)) (h9 : (r 9).toInt ≤ 8) : IsR w2 q r' := by
  obtain ⟨g0, g1, g2, g3, g4, -, g6, -⟩ := h
  refine ⟨fun i hi => by rw [ew 2 i (by omega) (by omega) (by omega), g0 i hi, er _ (by omega) (by omega)], fun i hi => by rw [ew 3 i (by omega) (by omega) (by omega), g1 i hi, er _ (by omega) (by omega)], ?_, ?_, ?_, h3, fun n hn => ?_, hh⟩
  · exact (ew 0 1 (by omega) (by omega) (by omega)).trans (g2.trans (er _ (by omega) (by omega)).symm)
  · exact (ew 0 2 (by omega) (by omega) (by omega)).trans (g3.trans (er _ (by omega) (by omega)).symm)
  · exact (ew 0 3 (by omega) (by omega) (by omega)).trans (g4.trans (er _ (by omega) (by omega)).symm)
  · rw [er 9 (by omega) (by omega)] at hn
    rw [ew 4 n (by omega) (by omega) (by omega), ew 5 n (by omega) (by omega) (by omega), er _ (by omega) (by omega), er _ (by omega) (by omega)]
    exact g6 n hn
theorem Both.act {a b : xW → Option (xW × Int32)} {w : xW} (w1 w2 : xW) (v v2 : Int32) (ha : a w = some (w1, v)) (hb : b w1 = some (w2, v2)) (hv : v2 = v) (hi : Inv w2) : Both a b w := ⟨w1, w2, v, ha, by rw [hb, hv], hi⟩
theorem k_4 {k : Nat} (hk : k < 4) : (ibd (iZ (k : Int)) 4 = true ∧ (iZ (k : Int)).toNatClampNeg = k) ∧ (ibd (0 + iZ (k : Int)) 51 = true ∧ (0 + iZ (k : Int)).toNatClampNeg = k) := by
  revert k
  decide +kernel
theorem k_3 {k : Nat} (hk : k < 3) : (ibd (iZ (k : Int)) 3 = true ∧ (iZ (k : Int)).toNatClampNeg = k) ∧ (ibd (4 + iZ (k : Int)) 51 = true ∧ (4 + iZ (k : Int)).toNatClampNeg = 4 + k) := by
  revert k
  decide +kernel
theorem side_k {x : Int32} (h : dSide x = true) : ∃ k : Nat, k < 4 ∧ x = iZ (k : Int) := by
  obtain ⟨f, rfl, f0, f3⟩ := dSide_of h
  exact ⟨f.toNat, by omega, by rw [Int.toNat_of_nonneg f0]⟩
theorem side_no {α : Type} {x : Int32} {A B : α} (h : dSide x = false) : (if x < 0 then A else if 4 ≤ x then A else B) = A := by
  have := of_decide_eq_false h
  by_cases a : x < 0
  · rw [if_pos a]
  · rw [if_neg a, if_pos]
    rw [Int32.lt_iff_toInt_lt, i_0] at a
    rw [Int32.le_iff_toInt_le, i_4]
    omega
theorem side_yes {α : Type} {x : Int32} {A B : α} (h : dSide x = true) : (if x < 0 then A else if 4 ≤ x then A else B) = B := by
  have := of_decide_eq_true h
  rw [if_neg (by rw [Int32.lt_iff_toInt_lt, i_0]; omega), if_neg (by rw [Int32.le_iff_toInt_le, i_4]; omega)]
def dTd (x y : Int32) : Bool := dSide x && dR (kLEAST x.toNatClampNeg) (kMOST x.toNatClampNeg) y
theorem mayBe_eq (x y : Int32) : fX6_mayBe x y = some (bi (dTd x y)) := by
  unfold fX6_mayBe fX6_mayBe_0 dTd
  cases hs : dSide x with
  | false => rw [side_no hs]; rfl
  | true =>
    rw [side_yes hs]
    obtain ⟨k, hk, rfl⟩ := side_k hs
    rw [if_pos (k_4 hk).1.1, lohi2]
    cases dR (kLEAST (iZ (k : Int)).toNatClampNeg) (kMOST (iZ (k : Int)).toNatClampNeg) y <;> rfl
section ST2
variable {w : xW} {N : Nat}
/-- one of the seven numbers of tides told anew -/
theorem told_inv (h : Inv w) (k : Nat) (hk : k < 7) (y : Int32) (hb : bnd k y) {w2 : xW} (e2 : w2.2 = w.2) (e34 : w2.1 34 0 = 0) (e55 : w2.1 55 8 = 0) (e : ∀ q j, ¬ (q = 34 ∧ j = 0) → ¬ (q = 55 ∧ j = 8) → q ≠ 3 → q ≠ 4 → q ≠ 56 → w2.1 q j = w.1 q j) (e56 : ∀ j, w2.1 56 j = if j = k then y else w.1 56 j) (e3 : ∀ j, j < 4 → w2.1 3 j = if j = k then y else w.1 3 j) (e4 : ∀ j, j < 3 → w2.1 4 j = if 4 + j = k then y else w.1 4 j) : Inv w2 := by
  have hh := h.1.1
  refine Inv.new h.1 (fun q j hs hq => e q j (fun z => hs (by unfold Sc; omega)) (fun z => hs (by unfold Sc; omega)) (by omega) (by omega) (by omega)) (fun q _ => by rw [e2]) (Or.inl e55) e34 ?_ ?_
  · refine hh.1.set (fun j hj => by rw [e56, if_neg (by omega)]) (fun i hi => ?_) (fun i hi => ?_) ?_ ?_ (e 1 3 (by omega) (by omega) (by omega) (by omega) (by omega)) (e 1 6 (by omega) (by omega) (by omega) (by omega) (by omega)) (fun j h1 h2 => funext fun k => e _ k (by omega) (by omega) (by omega) (by omega) (by omega))
    · rw [e3 i hi, e56]
      by_cases a : i = k
      · rw [if_pos a, if_pos a]
      · rw [if_neg a, if_neg a]
        exact hh.1.1 i hi
    · rw [e4 i hi, e56]
      by_cases a : 4 + i = k
      · rw [if_pos a, if_pos a]
      · rw [if_neg a, if_neg a]
        exact hh.1.2.1 i hi
    · rw [e56, if_neg (by omega), e 1 1 (by omega) (by omega) (by omega) (by omega) (by omega)]
      exact hh.1.2.2.1
    · rw [e56, if_neg (by omega), e 1 2 (by omega) (by omega) (by omega) (by omega) (by omega)]
      exact hh.1.2.2.2.1
  · refine hh.2.set (fun j hj => by rw [e56, if_neg (by omega)]) (fun j hj => ?_)
    rw [e56]
    by_cases a : j = k
    · subst a
      rw [if_pos rfl]
      exact hb
    · rw [if_neg a]
      exact hh.2.b j hj
theorem bnd_k {k : Nat} (hk : k < 4) {y : Int32} (h : dR (kLEAST k) (kMOST k) y = true) : bnd k y := by
  have := of_decide_eq_true h
  rcases (show k = 0 ∨ k = 1 ∨ k = 2 ∨ k = 3 by omega) with rfl | rfl | rfl | rfl <;> exact this
theorem P_tides (h : Inv w) (x y : Int32) : Both (fun w => fX7_tides w x y) (fun w => fX8_tides w x y) w := by
  have e7 : ∀ u, dTd x y = false → fX7_tides u x y = fX7_refuse u (cd 0) := by
    intro u c
    unfold fX7_tides fX7_tides_0
    rw [mayBe_eq, Option.bind_some, c, if_pos (show bi false = 0 from rfl), bind_id, c_0]
  have e8 : ∀ u, TabOK u → dTd x y = false → fX8_tides u x y = fX8_finding u (cd 0) := by
    intro u hu c
    unfold fX8_tides fX8_tides_0 fX8_tides_28
    rw [win8, show dR 0 3 x = dSide x from rfl]
    unfold dTd at c
    cases hs : dSide x with
    | false => rw [if_pos (show bi false = 0 from rfl), bind_id, c_0]
    | true =>
      rw [if_neg (show ¬ bi true = 0 by decide)]
      obtain ⟨k, hk, rfl⟩ := side_k hs
      rw [if_pos (k_4 hk).1.1, win8]
      rw [hs, (k_4 hk).1.2] at c
      rw [(k_4 hk).1.2, (hu k hk).1, (hu k hk).2, show dR (kLEAST k) (kMOST k) y = false from c, if_pos (show bi false = 0 from rfl), bind_id, c_0]
  have tb := h.1.2.2.2.2.2
  have tbr : ∀ i, TabOK (RF w i) := fun i => by
    unfold TabOK
    rw [RF_r w i (by omega), RF_r w i (by omega)]
    exact tb
  refine Both.guard h (dTd x y) 0 (by omega) (fun q => e7 _ q) (fun q => e8 _ (tbr 0) q) (fun q => ?_)
  unfold dTd at q
  obtain ⟨q1, q2⟩ := Bool.and_eq_true_iff.mp q
  obtain ⟨k, hk, rfl⟩ := side_k q1
  rw [(k_4 hk).1.2] at q2
  refine Both.act (sI (sI w 34 0 0) 3 k y) (sI (sI (sI (sI w 34 0 0) 3 k y) 55 8 0) 56 k y) (w.1 3 k) (w.1 56 k) ?_ ?_ (h.1.1.1.1 k hk).symm ?_
  · show fX7_tides w _ y = _
    unfold fX7_tides fX7_tides_0 fX0_forget fX0_forget_0
    rw [mayBe_eq, Option.bind_some, dTd, q1, (k_4 hk).1.2, q2, if_neg (by decide), if_pos (k_4 hk).1.1, sI_r, if_neg (by omega)]
  · show fX8_tides _ _ y = _
    unfold fX8_tides fX8_tides_0 fX8_become fX8_become_0
    have r59 : (sI (sI w 34 0 0) 3 k y).1 59 k = kLEAST k := by
      rw [sI_r, if_neg (by omega), sI_r, if_neg (by omega)]
      exact (tb k hk).1
    have r60 : (sI (sI w 34 0 0) 3 k y).1 60 k = kMOST k := by
      rw [sI_r, if_neg (by omega), sI_r, if_neg (by omega)]
      exact (tb k hk).2
    have r56 : (sI (sI (sI w 34 0 0) 3 k y) 55 8 0).1 56 k = w.1 56 k := by
      rw [sI_r, if_neg (by omega), sI_r, if_neg (by omega), sI_r, if_neg (by omega)]
    rw [win8, show dR 0 3 (iZ (k : Int)) = true from q1, if_neg (show ¬ bi true = 0 by decide), if_pos (k_4 hk).1.1, win8, (k_4 hk).1.2, r59, r60, q2, if_neg (show ¬ bi true = 0 by decide), if_pos (k_4 hk).2.1, (k_4 hk).2.2, Option.bind_some, r56]
  · refine told_inv h k (by omega) y (bnd_k hk q2) rfl ?_ ?_ (fun q j h1 h2 h3 h4 h5 => ?_) (fun j => ?_) (fun j hj => ?_) (fun j hj => ?_)
    · simp [sI_r]
    · simp [sI_r]
    · rw [sI_r, if_neg (by omega), sI_r, if_neg (by omega), sI_r, if_neg (by omega), sI_r, if_neg (by omega)]
    · simp [sI_r]
    · simp [sI_r]
    · rw [sI_r, if_neg (by omega), sI_r, if_neg (by omega), sI_r, if_neg (by omega), sI_r, if_neg (by omega), if_neg (by omega)]
/-- no bit above 29 -/
def dSet (x y : Int32) : Bool := dR 0 2 x && dR 0 1073741823 y
theorem ushr30 (y : Int32) : (iushr y 30 = 0) ↔ dR 0 1073741823 y = true := by
  unfold dR
  rw [decide_eq_true_eq, i_0, show (1073741823 : Int32).toInt = 1073741823 from rfl]
  unfold iushr
  rw [← Int32.toBitVec_inj]
  have e : ((y.toUInt32 >>> (Int32.toUInt32 30 &&& Int32.toUInt32 31)).toInt32).toBitVec = y.toBitVec >>> 30 := rfl
  rw [e]
  have e2 : y.toInt = y.toBitVec.toInt := rfl
  rw [e2, ← BitVec.toNat_inj, BitVec.toNat_ushiftRight, Nat.shiftRight_eq_div_pow, BitVec.toInt_eq_toNat_cond]
  have := y.toBitVec.isLt
  show _ / 2 ^ 30 = 0 ↔ _
  split <;> omega
theorem e_sets7 (u : xW) (x y : Int32) : fX7_sets u x y = if dSet x y = true then (if ibd x 3 = true then some (sI (sI u 34 0 0) 4 x.toNatClampNeg y, u.1 4 x.toNatClampNeg) else none) else fX7_refuse u (cd 0) := by
  unfold fX7_sets fX7_sets_0 fX7_sets_16 fX0_forget fX0_forget_0 dSet
  rw [lohi3 x 0 3 2 (by decide), bind_id, c_0]
  by_cases a : iushr y 30 = 0
  · rw [if_pos a, (ushr30 y).mp a]
    cases dR 0 2 x <;> rfl
  · rw [if_neg a]
    cases hd : dR 0 1073741823 y with
    | true => exact absurd ((ushr30 y).mpr hd) a
    | false => cases dR 0 2 x <;> rfl
theorem e_sets8 (u : xW) (x y : Int32) : fX8_sets u x y = if dSet x y = true then (fX8_become (sI u 55 8 0) (4 + x) y).bind (fun z1 => some (z1.1, z1.2)) else fX8_finding u (cd 0) := by
  unfold fX8_sets fX8_sets_0 fX8_sets_19 dSet
  rw [win8, win8, bind_id, c_0]
  cases dR 0 2 x <;> cases dR 0 1073741823 y <;> rfl
theorem P_sets (h : Inv w) (x y : Int32) : Both (fun w => fX7_sets w x y) (fun w => fX8_sets w x y) w := by
  refine Both.guard h (dSet x y) 0 (by omega) (fun q => by show fX7_sets w x y = _; rw [e_sets7, q, if_neg (by decide)]) (fun q => by show fX8_sets _ x y = _; rw [e_sets8, q, if_neg (by decide)]) (fun q => ?_)
  obtain ⟨q1, q2⟩ := Bool.and_eq_true_iff.mp q
  have q1 := of_decide_eq_true q1
  have q2 := of_decide_eq_true q2
  rw [i_0, i_2] at q1
  rw [i_0, show (1073741823 : Int32).toInt = 1073741823 from rfl] at q2
  obtain ⟨k, rfl, hk⟩ : ∃ k : Nat, x = iZ k ∧ k < 3 := ⟨x.toInt.toNat, by rw [Int.toNat_of_nonneg q1.1, iZ_self], by omega⟩
  refine Both.act (sI (sI w 34 0 0) 4 k y) (sI (sI (sI (sI w 34 0 0) 4 k y) 55 8 0) 56 (4 + k) y) (w.1 4 k) (w.1 56 (4 + k)) ?_ ?_ (h.1.1.1.2.1 k hk).symm ?_
  · show fX7_sets w _ y = _
    rw [e_sets7, if_pos q, if_pos (k_3 hk).1.1, (k_3 hk).1.2]
  · show fX8_sets _ _ y = _
    rw [e_sets8, if_pos q]
    unfold fX8_become fX8_become_0
    have r56 : (sI (sI (sI w 34 0 0) 4 k y) 55 8 0).1 56 (4 + k) = w.1 56 (4 + k) := by
      rw [sI_r, if_neg (by omega), sI_r, if_neg (by omega), sI_r, if_neg (by omega)]
    rw [if_pos (k_3 hk).2.1, (k_3 hk).2.2, Option.bind_some, r56]
  · refine told_inv h (4 + k) (by omega) y ?_ rfl ?_ ?_ (fun q j h1 h2 h3 h4 h5 => ?_) (fun j => ?_) (fun j hj => ?_) (fun j hj => ?_)
    · have : 0 ≤ y.toInt ∧ y.toInt < 1073741824 := by omega
      rcases (show k = 0 ∨ k = 1 ∨ k = 2 by omega) with rfl | rfl | rfl <;> exact this
    · simp [sI_r]
    · simp [sI_r]
    · rw [sI_r, if_neg (by omega), sI_r, if_neg (by omega), sI_r, if_neg (by omega), sI_r, if_neg (by omega)]
    · simp [sI_r]
    · rw [sI_r, if_neg (by omega), sI_r, if_neg (by omega), sI_r, if_neg (by omega), sI_r, if_neg (by omega), if_neg (by omega)]
    · rw [sI_r, if_neg (by omega), sI_r, if_neg (by omega), sI_r]
      by_cases a : j = k
      · rw [if_pos ⟨rfl, a⟩, if_pos (by omega)]
      · rw [if_neg (by omega), if_neg (by omega), sI_r, if_neg (by omega)]
theorem dR_iff {lo hi x : Int32} : dR lo hi x = true ↔ lo.toInt ≤ x.toInt ∧ x.toInt ≤ hi.toInt := by unfold dR; rw [decide_eq_true_eq]
theorem kind8 (x : Int32) : fX8_within x 0 5 = bi (dKind x) := by rw [within8]; rfl
/-- houses added -/
theorem ix_hn : ∀ h : Nat, h ≤ 8 → (ibd (11 + (2 * iZ (h : Int))) 51 = true ∧ (11 + (2 * iZ (h : Int))).toNatClampNeg = 11 + 2 * h) ∧ (ibd ((11 + (2 * iZ (h : Int))) + 1) 51 = true ∧ ((11 + (2 * iZ (h : Int))) + 1).toNatClampNeg = 12 + 2 * h) := by decide +kernel
theorem cnt8 (h : Inv w) : ∃ n : Nat, w.1 56 9 = iZ n ∧ n ≤ 8 ∧ w.1 1 3 = iZ n := by
  have b := h.1.1.2.2.2.2.1
  exact ⟨(w.1 56 9).toInt.toNat, by rw [Int.toNat_of_nonneg b.1, iZ_self], by omega, by rw [Int.toNat_of_nonneg b.1, iZ_self]; exact h.1.1.1.2.2.2.2.1⟩
theorem e_house7 (u : xW) (x y : Int32) : fX7_house u x y = if (dKind x && dSide y) = true then (if (u.1 1 3) < 8 then fX1_addHouse u x y else fX7_refuse u (cd 1)) else fX7_refuse u (cd 0) := by
  unfold fX7_house fX7_house_0 fX7_house_14
  rw [kind7, side7, bind_id, bind_id, bind_id, c_0, c_1]
  cases dKind x <;> cases dSide y <;> rfl
theorem e_house8 (u : xW) (x y : Int32) : fX8_house u x y = if (dKind x && dSide y) = true then (if (u.1 56 9) = 8 then fX8_finding u (cd 1) else fX8_built u x y) else fX8_finding u (cd 0) := by
  unfold fX8_house fX8_house_0 fX8_house_16
  rw [kind8, side8, bind_id, bind_id, bind_id, c_0, c_1]
  cases dKind x <;> cases dSide y <;> rfl
theorem P_house (h : Inv w) (x y : Int32) : Both (fun w => fX7_house w x y) (fun w => fX8_house w x y) w := by
  refine Both.guard h (dKind x && dSide y) 0 (by omega) (fun q => by show fX7_house w x y = _; rw [e_house7, q, if_neg (by decide)]) (fun q => by show fX8_house _ x y = _; rw [e_house8, q, if_neg (by decide)]) (fun q => ?_)
  obtain ⟨n, hn, hn8, h13⟩ := cnt8 h
  obtain ⟨q1, q2⟩ := Bool.and_eq_true_iff.mp q
  refine Both.guard h (decide (n < 8)) 1 (by omega) (fun z => ?_) (fun z => ?_) (fun z => ?_)
  · have z := of_decide_eq_false z
    show fX7_house w x y = _
    rw [e_house7, if_pos q, h13, if_neg (by rw [show (8 : Int32) = iZ 8 from rfl, iZ_lt (by omega) (by omega) (by omega) (by omega)]; omega)]
  · have z := of_decide_eq_false z
    obtain rfl : n = 8 := by omega
    show fX8_house _ x y = _
    rw [e_house8, if_pos q, RF_r w 1 (by omega), hn, if_pos (show iZ ((8 : Nat) : Int) = 8 from rfl)]
  · have z := of_decide_eq_true z
    obtain ⟨⟨i1, i2⟩, ⟨i3, i4⟩⟩ := ix_hn n hn8
    obtain ⟨-, -, i5, i6⟩ := ix_h n z
    have lt : (iZ (n : Int)) < 8 := by rw [show (8 : Int32) = iZ 8 from rfl, iZ_lt (by omega) (by omega) (by omega) (by omega)]; omega
    refine Both.act (sI (sI (sI w 5 n x) 6 n y) 1 3 (iZ n + 1)) (sI (sI (sI (sI (sI (sI w 5 n x) 6 n y) 1 3 (iZ n + 1)) 56 (11 + 2 * n) x) 56 (12 + 2 * n) y) 56 9 (iZ n + 1)) (iZ n) (iZ n) ?_ ?_ rfl ?_
    · show fX7_house w x y = _
      have r1 : (sI w 5 n x).1 1 3 = iZ n := by rw [sI_r, if_neg (by omega), h13]
      have r2 : (sI (sI w 5 n x) 6 n y).1 1 3 = iZ n := by rw [sI_r, if_neg (by omega), r1]
      rw [e_house7, if_pos q, h13, if_pos lt]
      unfold fX1_addHouse fX1_addHouse_0
      rw [h13, if_pos lt, if_pos i5, i6, r1, if_pos i5, i6, r2]
    · show fX8_house _ x y = _
      have r0 : (sI (sI (sI w 5 n x) 6 n y) 1 3 (iZ n + 1)).1 56 9 = iZ n := by rw [sI_r, if_neg (by omega), sI_r, if_neg (by omega), sI_r, if_neg (by omega), hn]
      rw [e_house8, if_pos q, r0, if_neg (fun e => by rw [e] at lt; exact absurd lt (by decide))]
      unfold fX8_built fX8_built_0
      have r3 : (sI (sI (sI (sI (sI w 5 n x) 6 n y) 1 3 (iZ n + 1)) 56 (11 + 2 * n) x) 56 (12 + 2 * n) y).1 56 9 = iZ n := by rw [sI_r, if_neg (by omega), sI_r, if_neg (by omega), r0]
      rw [r0, if_pos i1, if_pos i3, i2, i4, r3]
    · have hh := h.1.1
      have e1 : iZ n + 1 = iZ ((n + 1 : Nat) : Int) := by rw [show (1 : Int32) = iZ 1 from rfl, iZ_add]; rfl
      have e2 : (iZ ((n + 1 : Nat) : Int)).toInt = n + 1 := by rw [iZ_toInt (by omega) (by omega)]; rfl
      have e3 : (w.1 56 9).toInt = n := by rw [hn, iZ_toInt (by omega) (by omega)]
      rw [e1]
      generalize hw2 : sI (sI (sI (sI (sI (sI w 5 n x) 6 n y) 1 3 (iZ ((n + 1 : Nat) : Int))) 56 (11 + 2 * n) x) 56 (12 + 2 * n) y) 56 9 (iZ ((n + 1 : Nat) : Int)) = w2
      have d2 : w2.2 = w.2 := by rw [← hw2]; rfl
      have a9 : w2.1 56 9 = iZ ((n + 1 : Nat) : Int) := by rw [← hw2, sI_r, if_pos ⟨rfl, rfl⟩]
      have ak : w2.1 56 (11 + 2 * n) = x := by rw [← hw2, sI_r, if_neg (by omega), sI_r, if_neg (by omega), sI_r, if_pos ⟨rfl, rfl⟩]
      have af : w2.1 56 (12 + 2 * n) = y := by rw [← hw2, sI_r, if_neg (by omega), sI_r, if_pos ⟨rfl, rfl⟩]
      have a56 : ∀ j, j ≠ 9 → j ≠ 11 + 2 * n → j ≠ 12 + 2 * n → w2.1 56 j = w.1 56 j := fun j g1 g2 g3 => by rw [← hw2, sI_r, if_neg (by omega), sI_r, if_neg (by omega), sI_r, if_neg (by omega), sI_r, if_neg (by omega), sI_r, if_neg (by omega), sI_r, if_neg (by omega)]
      have a13 : w2.1 1 3 = iZ ((n + 1 : Nat) : Int) := by rw [← hw2, sI_r, if_neg (by omega), sI_r, if_neg (by omega), sI_r, if_neg (by omega), sI_r, if_pos ⟨rfl, rfl⟩]
      have a5 : ∀ j, w2.1 5 j = if j = n then x else w.1 5 j := fun j => by rw [← hw2]; simp [sI_r]
      have a6 : ∀ j, w2.1 6 j = if j = n then y else w.1 6 j := fun j => by rw [← hw2]; simp [sI_r]
      have ao : ∀ q k, q ≠ 5 → q ≠ 6 → q ≠ 56 → ¬ (q = 1 ∧ k = 3) → w2.1 q k = w.1 q k := fun q k g1 g2 g3 g4 => by rw [← hw2, sI_r, if_neg (by omega), sI_r, if_neg (by omega), sI_r, if_neg (by omega), sI_r, if_neg (by omega), sI_r, if_neg (by omega), sI_r, if_neg (by omega)]
      clear hw2
      have key : ∀ m : Nat, (m : Int) < (w2.1 56 9).toInt → m = n ∨ (m < n ∧ (m : Int) < (w.1 56 9).toInt) := fun m hm => by
        rw [a9, e2] at hm
        rw [e3]
        omega
      refine h.now (fun q k hq => ao q k (by omega) (by omega) (by omega) (by omega)) d2 (fun k hk => a56 k (by omega) (by omega) (by omega)) ?_ ?_
      · refine hh.1.hs (fun j hj => a56 j (by omega) (by omega) (by omega)) (fun j k g1 g2 g3 g4 g5 => ao _ _ (by omega) (by omega) (by omega) (by omega)) (by rw [a13, a9]) (fun m hm => ?_)
        rcases key m hm with rfl | ⟨g1, g2⟩
        · rw [a5, a6, if_pos rfl, if_pos rfl, ak, af]
          exact ⟨rfl, rfl⟩
        · rw [a5, a6, if_neg (by omega), if_neg (by omega), a56 _ (by omega) (by omega) (by omega), a56 _ (by omega) (by omega) (by omega)]
          exact hh.1.2.2.2.2.2.2.1 m g2
      · refine hh.2.hs (fun j hj => a56 j (by omega) (by omega) (by omega)) (by rw [a9, e2]; omega) (fun m hm => ?_)
        rcases key m hm with rfl | ⟨g1, g2⟩
        · rw [ak, af]
          exact ⟨of_decide_eq_true q1, of_decide_eq_true q2⟩
        · rw [a56 _ (by omega) (by omega) (by omega), a56 _ (by omega) (by omega) (by omega)]
          exact hh.2.2.2.2.2.2.1 m g2
end ST2
