/-! sheets -/
section SHEET
variable {w : xW} {N : Nat}
theorem Inv.sheets {w2 : xW} (h : Inv w) (e1 : ∀ q k, ¬ (47 ≤ q ∧ q ≤ 54) → q ≠ 74 → q ≠ 75 → w2.1 q k = w.1 q k) (hS : SheetOK w2) : Inv w2 := by
  have row : ∀ q, ¬ (47 ≤ q ∧ q ≤ 54) → q ≠ 74 → q ≠ 75 → w2.1 q = w.1 q := fun q g1 g2 g3 => funext fun k => e1 q k g1 g2 g3
  obtain ⟨⟨⟨c1, c2⟩, c3, c6, c7, c8, c9⟩, t, hk⟩ := h
  have isr : ∀ q r, (q = 1 ∨ q = 21) → IsR w q r → IsR w2 q r := by
    intro q r hq c
    have er : ∀ j, j < 10 → w2.1 (q + j) = w.1 (q + j) := fun j hj => row _ (by omega) (by omega) (by omega)
    have e0 := er 0 (by omega)
    rw [Nat.add_zero] at e0
    unfold IsR
    rw [er 2 (by omega), er 3 (by omega), er 4 (by omega), er 5 (by omega), er 6 (by omega), er 7 (by omega), er 8 (by omega), er 9 (by omega), e0]
    exact c
  refine ⟨⟨⟨by rw [row 56 (by omega) (by omega) (by omega)]; exact isr 1 _ (Or.inl rfl) c1, by rw [row 56 (by omega) (by omega) (by omega)]; exact c2⟩, ?_, ?_, ?_, hS, ?_⟩, ?_, ?_⟩
  · unfold KeptOK
    rw [row 0 (by omega) (by omega) (by omega), row 55 (by omega) (by omega) (by omega), row 57 (by omega) (by omega) (by omega)]
    exact ⟨c3.1, c3.2.1, fun q => ⟨isr 21 _ (Or.inr rfl) (c3.2.2 q).1, (c3.2.2 q).2⟩⟩
  · unfold FoundOK
    rw [row 46 (by omega) (by omega) (by omega), row 58 (by omega) (by omega) (by omega)]
    exact c6
  · unfold TapeOK
    rw [row 42 (by omega) (by omega) (by omega), row 55 (by omega) (by omega) (by omega), row 43 (by omega) (by omega) (by omega), row 70 (by omega) (by omega) (by omega)]
    exact c7
  · unfold TabOK
    rw [row 59 (by omega) (by omega) (by omega), row 60 (by omega) (by omega) (by omega)]
    exact c9
  · unfold TOK at t ⊢
    rw [row 55 (by omega) (by omega) (by omega), row 56 (by omega) (by omega) (by omega), row 61 (by omega) (by omega) (by omega), row 62 (by omega) (by omega) (by omega)]
    exact t
  · unfold HOK at hk ⊢
    rw [row 34 (by omega) (by omega) (by omega), row 56 (by omega) (by omega) (by omega), row 35 (by omega) (by omega) (by omega), row 36 (by omega) (by omega) (by omega), row 37 (by omega) (by omega) (by omega)]
    exact hk
theorem isSheet7 (x : Int32) : fX7_isSheet x = bi (dSide x) := by
  unfold fX7_isSheet fX7_isSheet_0
  cases hs : dSide x with
  | false => rw [side_no hs]; rfl
  | true => rw [side_yes hs]; rfl
theorem isSheet8 (x : Int32) : fX8_isSheet x = bi (dSide x) := side8 x
def dBits (x : Int32) : Bool := decide (x = 0) || (decide (x = 8) || (decide (x = 16) || decide (x = 64)))
theorem bits7 (x : Int32) : fX2_mayBe x = bi (dBits x) := by
  unfold fX2_mayBe fX2_mayBe_0 dBits
  by_cases a : x = 0
  · rw [if_pos a, decide_eq_true a]; rfl
  · rw [if_neg a, decide_eq_false a]
    by_cases b : x = 8
    · rw [if_pos b, decide_eq_true b]; rfl
    · rw [if_neg b, decide_eq_false b]
      by_cases c : x = 16
      · rw [if_pos c, decide_eq_true c]; rfl
      · rw [if_neg c, decide_eq_false c]
        by_cases d : x = 64
        · rw [if_pos d, decide_eq_true d]; rfl
        · rw [if_neg d, decide_eq_false d]; rfl
theorem bits8 {α : Type} (x : Int32) (A B : α) : (if x = 0 then A else if x = 8 then A else if x = 16 then A else if x = 64 then A else B) = if dBits x = true then A else B := by
  unfold dBits
  by_cases a : x = 0
  · rw [if_pos a, decide_eq_true a]; rfl
  · rw [if_neg a, decide_eq_false a]
    by_cases b : x = 8
    · rw [if_pos b, decide_eq_true b]; rfl
    · rw [if_neg b, decide_eq_false b]
      by_cases c : x = 16
      · rw [if_pos c, decide_eq_true c]; rfl
      · rw [if_neg c, decide_eq_false c]
        by_cases d : x = 64
        · rw [if_pos d, decide_eq_true d]; rfl
        · rw [if_neg d, decide_eq_false d]; rfl
theorem dBits_of {x : Int32} (h : dBits x = true) : x = 0 ∨ x = 8 ∨ x = 16 ∨ x = 64 := by
  unfold dBits at h
  simpa using h
theorem ix_c : ∀ k : Nat, k < 4 → ∀ i : Nat, i < 40 → ibd ((40 * iZ (k : Int)) + iZ (i : Int)) 160 = true ∧ ((40 * iZ (k : Int)) + iZ (i : Int)).toNatClampNeg = 40 * k + i := by
  intro k hk i hi
  have e : (40 * iZ (k : Int)) + iZ (i : Int) = iZ ((40 * k + i : Nat) : Int) := by
    rw [show (40 : Int32) = iZ 40 from rfl, iZ_mul, iZ_add]
    congr 1
  rw [e, iZ_clamp (by omega) (by omega), Int.toNat_natCast]
  exact ⟨(ibd_iZ (by omega) (by omega)).mpr (by omega), rfl⟩
theorem zero7_loop {k : Nat} : ∀ (j m i : Nat) (u : xW), j < m → i + j = 40 → ∃ u', fJ7_fill_d0a16_6 N k m u 0 (iZ (i : Int)) 40 = some u' ∧ u'.1 = u.1 ∧ (∀ q, q ≠ 48 + 2 * k → u'.2 q = u.2 q) ∧ (∀ c, i ≤ c → c < 40 → u'.2 (48 + 2 * k) c = 0) ∧ ∀ c, c < i → u'.2 (48 + 2 * k) c = u.2 (48 + 2 * k) c
  | _, 0, _, _, hm, _ => absurd hm (by omega)
  | 0, m + 1, i, u, _, hi => by
    obtain rfl : i = 40 := by omega
    rw [fJ7_fill_d0a16_6]
    unfold fJ7_fill_d0a16_6b
    rw [if_pos (show (40 : Int32) ≤ iZ ((40 : Nat) : Int) by decide)]
    exact ⟨u, rfl, rfl, fun _ _ => rfl, fun c g1 g2 => absurd g1 (by omega), fun _ _ => rfl⟩
  | j + 1, m + 1, i, u, hm, hi => by
    rw [fJ7_fill_d0a16_6]
    unfold fJ7_fill_d0a16_6b
    rw [if_neg (by rw [show (40 : Int32) = iZ 40 from rfl, iZ_le (by omega) (by omega) (by omega) (by omega)]; omega), if_pos ((ibd_iZ (by omega) (by omega)).mpr (by omega)), iZ_clamp (by omega) (by omega), Int.toNat_natCast, iZ_s1]
    obtain ⟨u', p1, p2, p3, p4, p5⟩ := zero7_loop j m (i + 1) (sL u (48 + 2 * k) i 0) (by omega) (by omega)
    refine ⟨u', p1, p2, fun q g => (p3 q g).trans (funext fun c => by rw [sL_r, if_neg (by omega)]), fun c g1 g2 => ?_, fun c g => ?_⟩
    · rcases Nat.lt_or_ge i c with z | z
      · exact p4 c (by omega) g2
      · obtain rfl : c = i := by omega
        rw [p5 c (by omega), sL_r, if_pos ⟨rfl, rfl⟩]
    · rw [p5 c (by omega), sL_r, if_neg (by omega)]
theorem zero8_loop {k : Nat} (hk : k < 4) : ∀ (j m i : Nat) (u : xW), j < m → i + j = 40 → ∃ u', fX8_sheet_86 N m u (iZ (k : Int)) (iZ (i : Int)) = some (u', u.1 75 k) ∧ u'.1 = u.1 ∧ (∀ q, q ≠ 76 → u'.2 q = u.2 q) ∧ (∀ c, 40 * k + i ≤ c → c < 40 * k + 40 → u'.2 76 c = 0) ∧ ∀ c, ¬ (40 * k + i ≤ c ∧ c < 40 * k + 40) → u'.2 76 c = u.2 76 c
  | _, 0, _, _, hm, _ => absurd hm (by omega)
  | 0, m + 1, i, u, _, hi => by
    obtain rfl : i = 40 := by omega
    rw [fX8_sheet_86]
    unfold fX8_sheet_86b
    rw [if_pos (show (40 : Int32) ≤ iZ ((40 : Nat) : Int) by decide), if_pos (k_4 hk).1.1, (k_4 hk).1.2]
    exact ⟨u, rfl, rfl, fun _ _ => rfl, fun c g1 g2 => absurd g1 (by omega), fun _ _ => rfl⟩
  | j + 1, m + 1, i, u, hm, hi => by
    obtain ⟨x1, x2⟩ := ix_c k hk i (by omega)
    rw [fX8_sheet_86]
    unfold fX8_sheet_86b
    rw [if_neg (by rw [show (40 : Int32) = iZ 40 from rfl, iZ_le (by omega) (by omega) (by omega) (by omega)]; omega), if_pos x1, x2, iZ_s1]
    obtain ⟨u', p1, p2, p3, p4, p5⟩ := zero8_loop hk j m (i + 1) (sL u 76 (40 * k + i) 0) (by omega) (by omega)
    refine ⟨u', p1, p2, fun q g => (p3 q g).trans (funext fun c => by rw [sL_r, if_neg (by omega)]), fun c g1 g2 => ?_, fun c g => ?_⟩
    · rcases Nat.lt_or_ge (40 * k + i) c with z | z
      · exact p4 c (by omega) g2
      · obtain rfl : c = 40 * k + i := by omega
        rw [p5 _ (by omega), sL_r, if_pos ⟨rfl, rfl⟩]
    · rw [p5 c (by omega), sL_r, if_neg (by omega)]
theorem e_sheet7 (u : xW) (x y v : Int32) : fX7_sheet N u x y v = if (dSide x && dBits y) = true then (if 0 ≤ v then (if v ≤ 40 then (if ibd x 4 = true then fX2_lay N u x.toNatClampNeg y v else none) else fX7_refuse u (cd 0)) else fX7_refuse u (cd 6)) else fX7_refuse u (cd 0) := by
  unfold fX7_sheet fX7_sheet_0 fX7_sheet_14
  rw [isSheet7, bits7, bind_id, bind_id, bind_id, c_0, c_6]
  cases dSide x <;> cases dBits y <;> rfl
theorem e_sheet8 (u : xW) (x y v : Int32) : fX8_sheet N u x y v = if (dSide x && dBits y) = true then (if 0 ≤ v then (if v ≤ 40 then (if ibd x 4 = true then fX8_sheet_82 N (sI u 74 x.toNatClampNeg y) x (if y = 0 then 0 else v) x else none) else fX8_finding u (cd 0)) else fX8_finding u (cd 6)) else fX8_finding u (cd 0) := by
  unfold fX8_sheet fX8_sheet_0 fX8_sheet_29 fX8_sheet_36
  rw [isSheet8, bits8, bind_id, bind_id, c_0, c_6]
  have e : (if y = 0 then fX8_sheet_82 N (sI u 74 x.toNatClampNeg y) x 0 x else fX8_sheet_82 N (sI u 74 x.toNatClampNeg y) x v x) = fX8_sheet_82 N (sI u 74 x.toNatClampNeg y) x (if y = 0 then 0 else v) x := by
    by_cases z : y = 0
    · rw [if_pos z, if_pos z]
    · rw [if_neg z, if_neg z]
  rw [e]
  cases dSide x <;> cases dBits y <;> rfl
theorem P_sheet (hN : 20000 ≤ N) (h : Inv w) (x y v : Int32) : Both (fun w => fX7_sheet N w x y v) (fun w => fX8_sheet N w x y v) w := by
  refine Both.guard h (dSide x && dBits y) 0 (by omega) (fun q => by show fX7_sheet N w x y v = _; rw [e_sheet7, q, if_neg (by decide)]) (fun q => by show fX8_sheet N _ x y v = _; rw [e_sheet8, q, if_neg (by decide)]) (fun q => ?_)
  have l0 : (0 ≤ v) ↔ 0 ≤ v.toInt := by rw [Int32.le_iff_toInt_le, i_0]
  have l40 : (v ≤ 40) ↔ v.toInt ≤ 40 := by rw [Int32.le_iff_toInt_le]; rfl
  refine Both.guard h (decide (0 ≤ v.toInt)) 6 (by omega) (fun z => ?_) (fun z => ?_) (fun z => ?_)
  · show fX7_sheet N w x y v = _
    rw [e_sheet7, if_pos q, if_neg (fun e => of_decide_eq_false z (l0.mp e))]
  · show fX8_sheet N _ x y v = _
    rw [e_sheet8, if_pos q, if_neg (fun e => of_decide_eq_false z (l0.mp e))]
  have z0 := of_decide_eq_true z
  refine Both.guard h (decide (v.toInt ≤ 40)) 0 (by omega) (fun z => ?_) (fun z => ?_) (fun z => ?_)
  · show fX7_sheet N w x y v = _
    rw [e_sheet7, if_pos q, if_pos (l0.mpr z0), if_neg (fun e => of_decide_eq_false z (l40.mp e))]
  · show fX8_sheet N _ x y v = _
    rw [e_sheet8, if_pos q, if_pos (l0.mpr z0), if_neg (fun e => of_decide_eq_false z (l40.mp e))]
  have z40 := of_decide_eq_true z
  obtain ⟨q1, q2⟩ := Bool.and_eq_true_iff.mp q
  obtain ⟨k, hk, rfl⟩ := side_k q1
  have hb := dBits_of q2
  have hS := h.1.2.2.2.2.1
  obtain ⟨mn, hmn⟩ : ∃ mn : Int32, mn = if y = 0 then 0 else v := ⟨_, rfl⟩
  have mr : 0 ≤ mn.toInt ∧ mn.toInt ≤ 40 := by
    rw [hmn]
    by_cases c : y = 0
    · rw [if_pos c]; decide
    · rw [if_neg c]; exact ⟨z0, z40⟩
  obtain ⟨u1, p1, p2, p3, p4, -⟩ := zero7_loop (N := N) (k := k) 40 N 0 w (by omega) (by omega)
  obtain ⟨w1, hw1⟩ : ∃ w1, w1 = sI (sI u1 (47 + 2 * k) 0 y) (47 + 2 * k) 1 mn := ⟨_, rfl⟩
  obtain ⟨u2, o1, o2, o3, o4, o5⟩ := zero8_loop (N := N) hk 40 N 0 (sI (sI w1 74 k y) 75 k mn) (by omega) (by omega)
  have r75 : (sI (sI w1 74 k y) 75 k mn).1 75 k = mn := by rw [sI_r, if_pos ⟨rfl, rfl⟩]
  rw [r75] at o1
  refine Both.act w1 u2 mn mn ?_ ?_ rfl ?_
  · show fX7_sheet N w _ y v = _
    rw [e_sheet7, if_pos q, if_pos (l0.mpr z0), if_pos (l40.mpr z40), if_pos (k_4 hk).1.1, (k_4 hk).1.2]
    unfold fX2_lay fX2_lay_0 fX2_lay_23 fJ7_fill_d0a16 fJ7_fill_d0a16_0
    rw [if_pos hk, if_pos hk, show (0 : Int32) = iZ ((0 : Nat) : Int) from rfl, p1, Option.bind_some, show iZ ((0 : Nat) : Int) = 0 from rfl, hw1, hmn]
    by_cases c : y = 0
    · rw [if_pos c, if_pos c, sI_r, if_pos ⟨rfl, rfl⟩]
    · rw [if_neg c, if_neg c, sI_r, if_pos ⟨rfl, rfl⟩]
  · show fX8_sheet N w1 _ y v = _
    rw [e_sheet8, if_pos q, if_pos (l0.mpr z0), if_pos (l40.mpr z40), if_pos (k_4 hk).1.1, (k_4 hk).1.2, ← hmn]
    unfold fX8_sheet_82
    rw [if_pos (k_4 hk).1.1, (k_4 hk).1.2]
    exact o1
  · have a1 : ∀ a b, ¬ (a = 47 + 2 * k ∧ (b = 0 ∨ b = 1)) → ¬ (a = 74 ∧ b = k) → ¬ (a = 75 ∧ b = k) → u2.1 a b = w.1 a b := fun a b g1 g2 g3 => by
      rw [o2, sI_r, if_neg g3, sI_r, if_neg g2, hw1, sI_r, if_neg (by omega), sI_r, if_neg (by omega), p2]
    have a2 : ∀ a, a ≠ 48 + 2 * k → a ≠ 76 → u2.2 a = w.2 a := fun a g1 g2 => by
      rw [o3 a g2]
      show w1.2 a = _
      rw [hw1]
      exact p3 a g1
    have b0 : u2.1 (47 + 2 * k) 0 = y := by rw [o2, sI_r, if_neg (by omega), sI_r, if_neg (by omega), hw1, sI_r, if_neg (by omega), sI_r, if_pos ⟨rfl, rfl⟩]
    have b1 : u2.1 (47 + 2 * k) 1 = mn := by rw [o2, sI_r, if_neg (by omega), sI_r, if_neg (by omega), hw1, sI_r, if_pos ⟨rfl, rfl⟩]
    have b2 : u2.1 74 k = y := by rw [o2, sI_r, if_neg (by omega), sI_r, if_pos ⟨rfl, rfl⟩]
    have b3 : u2.1 75 k = mn := by rw [o2, sI_r, if_pos ⟨rfl, rfl⟩]
    have n1 : ∀ i, i < 40 → u2.2 (48 + 2 * k) i = 0 := fun i hi => by
      rw [o3 _ (by omega)]
      show w1.2 _ i = _
      rw [hw1]
      exact p4 i (by omega) hi
    have n2 : ∀ c, ¬ (40 * k ≤ c ∧ c < 40 * k + 40) → u2.2 76 c = w.2 76 c := fun c g => by
      rw [o5 c (by omega)]
      show w1.2 76 c = _
      rw [hw1]
      exact congrFun (p3 76 (by omega)) c
    refine h.sheets (fun a b g1 g2 g3 => a1 a b (by omega) (by omega) (by omega)) (fun k' hk' => ?_)
    by_cases c : k' = k
    · subst c
      refine ⟨b0.trans b2.symm, b1.trans b3.symm, by rw [b2]; exact hb, by rw [b3]; exact mr, fun i hi => ?_⟩
      rw [n1 i hi, o4 _ (by omega) (by omega)]
    · rw [a1 (47 + 2 * k') 0 (by omega) (by omega) (by omega), a1 (47 + 2 * k') 1 (by omega) (by omega) (by omega), a1 74 k' (by omega) (by omega) (by omega), a1 75 k' (by omega) (by omega) (by omega), a2 (48 + 2 * k') (by omega) (by omega)]
      obtain ⟨s1, s2, s3, s4, s5⟩ := hS k' hk'
      exact ⟨s1, s2, s3, s4, fun i hi => by rw [n2 _ (by omega)]; exact s5 i hi⟩
end SHEET
