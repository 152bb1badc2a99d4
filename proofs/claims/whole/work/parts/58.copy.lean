/-! copies of numbers -/
section COPY
variable {w : xW} {N : Nat}
theorem add64 (a b : Int32) : (a.toInt64 + b.toInt64).toInt = a.toInt + b.toInt := by
  have h1 := Int32.le_toInt a
  have h2 := Int32.toInt_lt a
  have h3 := Int32.le_toInt b
  have h4 := Int32.toInt_lt b
  rw [Int64.toInt_add, Int32.toInt_toInt64, Int32.toInt_toInt64, Int.bmod_def]
  omega
def hasB (n : Nat) (x m : Int32) : Bool := decide (0 ≤ x.toInt ∧ 0 ≤ m.toInt ∧ x.toInt + m.toInt ≤ n)
theorem has7 {k n : Nat} (hk : k < 4) (hn : n ≤ 40) (e : w.1 (47 + 2 * k) 1 = iZ n) (x m : Int32) : fX2_has w k x m = some (bi (hasB n x m)) := by
  unfold fX2_has fX2_has_0 hasB
  rw [if_pos hk, e]
  have ln : (iZ (n : Int)).toInt = n := iZ_toInt (by omega) (by omega)
  by_cases a : x.toInt < 0
  · rw [if_pos (by rw [Int32.lt_iff_toInt_lt, i_0]; exact a), decide_eq_false (by omega)]; rfl
  · rw [if_neg (by rw [Int32.lt_iff_toInt_lt, i_0]; exact a)]
    by_cases b : m.toInt < 0
    · rw [if_pos (by rw [Int32.lt_iff_toInt_lt, i_0]; exact b), decide_eq_false (by omega)]; rfl
    · rw [if_neg (by rw [Int32.lt_iff_toInt_lt, i_0]; exact b)]
      by_cases c : (n : Int) < x.toInt
      · rw [if_pos (by rw [Int32.lt_iff_toInt_lt, ln]; exact c), decide_eq_false (by omega)]; rfl
      · rw [if_neg (by rw [Int32.lt_iff_toInt_lt, ln]; exact c)]
        have ex : iZ (n : Int) - x = iZ ((n : Int) - x.toInt) := by rw [← iZ_sub, iZ_self]
        have lx : (iZ ((n : Int) - x.toInt)).toInt = n - x.toInt := iZ_toInt (by omega) (by omega)
        rw [ex]
        by_cases d : (n : Int) - x.toInt < m.toInt
        · rw [if_pos (by rw [Int32.lt_iff_toInt_lt, lx]; exact d), decide_eq_false (by omega)]; rfl
        · rw [if_neg (by rw [Int32.lt_iff_toInt_lt, lx]; exact d), decide_eq_true (by omega)]; rfl
theorem has8 {α : Type} {n n' : Nat} (hn : n ≤ 40) (hn' : n' ≤ 40) (x y m : Int32) (A B : α) : (if x < 0 then A else if y < 0 then A else if m < 0 then A else if 0 < (lg_cmp (x.toInt64 + m.toInt64) (iZ (n : Int)).toInt64) then A else if (lg_cmp (y.toInt64 + m.toInt64) (iZ (n' : Int)).toInt64) ≤ 0 then B else A) = if (hasB n x m && hasB n' y m) = true then B else A := by
  have l1 : (iZ (n : Int)).toInt64.toInt = n := by rw [Int32.toInt_toInt64]; exact iZ_toInt (by omega) (by omega)
  have l2 : (iZ (n' : Int)).toInt64.toInt = n' := by rw [Int32.toInt_toInt64]; exact iZ_toInt (by omega) (by omega)
  have c1 : (0 < (lg_cmp (x.toInt64 + m.toInt64) (iZ (n : Int)).toInt64)) ↔ (n : Int) < x.toInt + m.toInt := by rw [lg_cmp_gt, Int64.lt_iff_toInt_lt, add64, l1]
  have c2 : ((lg_cmp (y.toInt64 + m.toInt64) (iZ (n' : Int)).toInt64) ≤ 0) ↔ y.toInt + m.toInt ≤ n' := by rw [lg_cmp_le, Int64.le_iff_toInt_le, add64, l2]
  have c3 : ∀ z : Int32, (z < 0) ↔ z.toInt < 0 := fun z => by rw [Int32.lt_iff_toInt_lt, i_0]
  unfold hasB
  simp only [c3, c1, c2, Bool.and_eq_true, decide_eq_true_eq]
  clear c1 c2 c3 l1 l2
  by_cases a1 : x.toInt < 0
  · rw [if_pos a1, if_neg (by omega)]
  · rw [if_neg a1]
    by_cases a2 : y.toInt < 0
    · rw [if_pos a2, if_neg (by omega)]
    · rw [if_neg a2]
      by_cases a3 : m.toInt < 0
      · rw [if_pos a3, if_neg (by omega)]
      · rw [if_neg a3]
        by_cases a4 : (n : Int) < x.toInt + m.toInt
        · rw [if_pos a4, if_neg (by omega)]
        · rw [if_neg a4]
          by_cases a5 : y.toInt + m.toInt ≤ n'
          · rw [if_pos a5, if_pos (by omega)]
          · rw [if_neg a5, if_neg (by omega)]
theorem hasB_of {n : Nat} {x m : Int32} (h : hasB n x m = true) : ∃ a c : Nat, x = iZ a ∧ m = iZ c ∧ a + c ≤ n := by
  have h := of_decide_eq_true h
  exact ⟨x.toInt.toNat, m.toInt.toNat, by rw [Int.toNat_of_nonneg h.1, iZ_self], by rw [Int.toNat_of_nonneg h.2.1, iZ_self], by omega⟩
theorem cp1_loop {k p n : Nat} (hk : k < 4) (hp : p + n ≤ 40) (x3 x4 : Int32) : ∀ (j m i : Nat) (u : xW), j < m → i + j = n → ∃ u', fX8_copy_128 N m u (iZ k) (iZ p) x3 x4 (iZ n) (iZ i) = fX8_copy_165 N N u' x3 x4 (iZ n) 0 ∧ u'.1 = u.1 ∧ (∀ q, q ≠ 77 → u'.2 q = u.2 q) ∧ (∀ c, i ≤ c → c < n → u'.2 77 c = u.2 76 (40 * k + p + c)) ∧ ∀ c, c < i → u'.2 77 c = u.2 77 c
  | _, 0, _, _, hm, _ => absurd hm (by omega)
  | 0, m + 1, i, u, _, hi => by
    obtain rfl : i = n := by omega
    rw [fX8_copy_128]
    unfold fX8_copy_128b
    rw [if_pos (by rw [iZ_le (by omega) (by omega) (by omega) (by omega)]; omega)]
    exact ⟨u, rfl, rfl, fun _ _ => rfl, fun c g1 g2 => absurd g1 (by omega), fun _ _ => rfl⟩
  | j + 1, m + 1, i, u, hm, hi => by
    have e : (40 * iZ (k : Int) + iZ (p : Int)) + iZ (i : Int) = iZ ((40 * k + p + i : Nat) : Int) := by
      rw [show (40 : Int32) = iZ 40 from rfl, iZ_mul, iZ_add, iZ_add]
      congr 1
    rw [fX8_copy_128]
    unfold fX8_copy_128b
    rw [if_neg (by rw [iZ_le (by omega) (by omega) (by omega) (by omega)]; omega), e, if_pos ((ibd_iZ (by omega) (by omega)).mpr (by omega)), if_pos ((ibd_iZ (by omega) (by omega)).mpr (by omega)), iZ_clamp (by omega) (by omega), iZ_clamp (by omega) (by omega), Int.toNat_natCast, Int.toNat_natCast, iZ_s1]
    obtain ⟨u', p1, p2, p3, p4, p5⟩ := cp1_loop hk hp x3 x4 j m (i + 1) (sL u 77 i (u.2 76 (40 * k + p + i))) (by omega) (by omega)
    refine ⟨u', p1, p2, fun q g => (p3 q g).trans (funext fun c => by rw [sL_r, if_neg (by omega)]), fun c g1 g2 => ?_, fun c g => ?_⟩
    · rcases Nat.lt_or_ge i c with z | z
      · rw [p4 c (by omega) g2, sL_r, if_neg (by omega)]
      · obtain rfl : c = i := by omega
        rw [p5 c (by omega), sL_r, if_pos ⟨rfl, rfl⟩]
    · rw [p5 c (by omega), sL_r, if_neg (by omega)]
theorem cp2_loop {k p n : Nat} (hk : k < 4) (hp : p + n ≤ 40) : ∀ (j m i : Nat) (u : xW), j < m → i + j = n → ∃ u', fX8_copy_165 N m u (iZ k) (iZ p) (iZ n) (iZ i) = some (u', iZ n) ∧ u'.1 = u.1 ∧ (∀ q, q ≠ 76 → u'.2 q = u.2 q) ∧ (∀ c, i ≤ c → c < n → u'.2 76 (40 * k + p + c) = u.2 77 c) ∧ ∀ d, ¬ (40 * k + p + i ≤ d ∧ d < 40 * k + p + n) → u'.2 76 d = u.2 76 d
  | _, 0, _, _, hm, _ => absurd hm (by omega)
  | 0, m + 1, i, u, _, hi => by
    obtain rfl : i = n := by omega
    rw [fX8_copy_165]
    unfold fX8_copy_165b
    rw [if_pos (by rw [iZ_le (by omega) (by omega) (by omega) (by omega)]; omega)]
    exact ⟨u, rfl, rfl, fun _ _ => rfl, fun c g1 g2 => absurd g1 (by omega), fun _ _ => rfl⟩
  | j + 1, m + 1, i, u, hm, hi => by
    have e : (40 * iZ (k : Int) + iZ (p : Int)) + iZ (i : Int) = iZ ((40 * k + p + i : Nat) : Int) := by
      rw [show (40 : Int32) = iZ 40 from rfl, iZ_mul, iZ_add, iZ_add]
      congr 1
    rw [fX8_copy_165]
    unfold fX8_copy_165b
    rw [if_neg (by rw [iZ_le (by omega) (by omega) (by omega) (by omega)]; omega), e, if_pos ((ibd_iZ (by omega) (by omega)).mpr (by omega)), if_pos ((ibd_iZ (by omega) (by omega)).mpr (by omega)), iZ_clamp (by omega) (by omega), iZ_clamp (by omega) (by omega), Int.toNat_natCast, Int.toNat_natCast, iZ_s1]
    obtain ⟨u', p1, p2, p3, p4, p5⟩ := cp2_loop hk hp j m (i + 1) (sL u 76 (40 * k + p + i) (u.2 77 i)) (by omega) (by omega)
    refine ⟨u', p1, p2, fun q g => (p3 q g).trans (funext fun c => by rw [sL_r, if_neg (by omega)]), fun c g1 g2 => ?_, fun c g => ?_⟩
    · rcases Nat.lt_or_ge i c with z | z
      · rw [p4 c (by omega) g2, sL_r, if_neg (by omega)]
      · obtain rfl : c = i := by omega
        rw [p5 _ (by omega), sL_r, if_pos ⟨rfl, rfl⟩]
    · rw [p5 c (by omega), sL_r, if_neg (by omega)]
theorem P_copy (hN : 20000 ≤ N) (h : Inv w) (x p y q m : Int32) : Both (fun w => fX7_copy w x p y q m) (fun w => fX8_copy N w x p y q m) w := by
  refine Both.guard h (dSide x && dSide y) 0 (by omega) (fun g => ?_) (fun g => ?_) (fun g => ?_)
  · show fX7_copy w x p y q m = _
    unfold fX7_copy fX7_copy_0 fX7_copy_14
    rw [isSheet7, isSheet7, bind_id, c_0]
    cases hx : dSide x with
    | false => rw [if_pos bF]
    | true =>
      rw [hx, Bool.true_and] at g
      rw [g, if_neg bT, if_pos bF]
  · show fX8_copy N _ x p y q m = _
    unfold fX8_copy fX8_copy_0 fX8_copy_14
    rw [isSheet8, isSheet8, bind_id, c_0]
    cases hx : dSide x with
    | false => rw [if_pos bF]
    | true =>
      rw [hx, Bool.true_and] at g
      rw [g, if_neg bT, if_pos bF]
  obtain ⟨g1, g2⟩ := Bool.and_eq_true_iff.mp g
  obtain ⟨k, hk, rfl⟩ := side_k g1
  obtain ⟨l, hl, rfl⟩ := side_k g2
  obtain ⟨s1, s2, s3, s4, s5⟩ := h.1.2.2.2.2.1 k hk
  obtain ⟨t1, t2, t3, t4, t5⟩ := h.1.2.2.2.2.1 l hl
  obtain ⟨n, n1, n40, n2⟩ := sheetK h hk
  obtain ⟨n', m1, m40, m2⟩ := sheetK h hl
  have a7 : fX7_copy w (iZ k) p (iZ l) q m = if bi (decide (w.1 74 k = 0)) = 0 then (if bi (decide (w.1 74 l = 0)) = 0 then (if w.1 74 k = w.1 74 l then (if bi (hasB n p m) = 0 then fX7_refuse w (cd 0) else if bi (hasB n' q m) = 0 then fX7_refuse w (cd 0) else if xcp p q m 40 40 = true then some (sB w (48 + 2 * l) (va_cpy (w.2 (48 + 2 * k)) (w.2 (48 + 2 * l)) (Int32.toNatClampNeg p) (Int32.toNatClampNeg q) (Int32.toNatClampNeg m)), m) else none) else fX7_refuse w (cd 2)) else fX7_refuse w (cd 5)) else fX7_refuse w (cd 5) := by
    unfold fX7_copy fX7_copy_0 fX7_copy_45 fX7_copy_112
    rw [isSheet7, isSheet7, g1, g2, if_neg bT, if_neg bT, if_pos (k_4 hk).1.1, if_pos (k_4 hl).1.1, (k_4 hk).1.2, (k_4 hl).1.2, isMis hk, isMis hl, Option.bind_some, Option.bind_some, has7 hk n40 n2, has7 hl m40 m2, Option.bind_some, Option.bind_some, s1, t1, bind_id, bind_id, bind_id, c_0, c_2, c_5]
  have a8 : ∀ u : xW, u.1 74 = w.1 74 → u.1 75 = w.1 75 → fX8_copy N u (iZ k) p (iZ l) q m = if w.1 74 k = 0 then fX8_finding u (cd 5) else if w.1 74 l = 0 then fX8_finding u (cd 5) else if w.1 74 k = w.1 74 l then (if (hasB n p m && hasB n' q m) = true then fX8_copy_128 N N u (iZ k) p (iZ l) q m 0 else fX8_finding u (cd 0)) else fX8_finding u (cd 2) := by
    intro u e4 e5
    unfold fX8_copy fX8_copy_0 fX8_copy_39 fX8_copy_118
    rw [isSheet8, isSheet8, g1, g2, if_neg bT, if_neg bT, if_pos (k_4 hk).1.1, if_pos (k_4 hl).1.1, (k_4 hk).1.2, (k_4 hl).1.2, e4, e5, n1, m1, has8 n40 m40, bind_id, bind_id, bind_id, c_0, c_2, c_5]
  have rf : ∀ i, fX8_copy N (RF w i) (iZ k) p (iZ l) q m = if w.1 74 k = 0 then fX8_finding (RF w i) (cd 5) else if w.1 74 l = 0 then fX8_finding (RF w i) (cd 5) else if w.1 74 k = w.1 74 l then (if (hasB n p m && hasB n' q m) = true then fX8_copy_128 N N (RF w i) (iZ k) p (iZ l) q m 0 else fX8_finding (RF w i) (cd 0)) else fX8_finding (RF w i) (cd 2) := fun i => a8 _ (RF_r w i (by omega)) (RF_r w i (by omega))
  refine Both.guard h (!(decide (w.1 74 k = 0))) 5 (by omega) (fun z => ?_) (fun z => ?_) (fun z => ?_)
  · have z : w.1 74 k = 0 := by simpa using z
    show fX7_copy w _ _ _ _ _ = _
    rw [a7, decide_eq_true z, if_neg bT]
  · have z : w.1 74 k = 0 := by simpa using z
    show fX8_copy N _ _ _ _ _ _ = _
    rw [rf, if_pos z]
  have z : ¬ w.1 74 k = 0 := by simpa using z
  refine Both.guard h (!(decide (w.1 74 l = 0))) 5 (by omega) (fun v => ?_) (fun v => ?_) (fun v => ?_)
  · have v : w.1 74 l = 0 := by simpa using v
    show fX7_copy w _ _ _ _ _ = _
    rw [a7, decide_eq_false z, if_pos bF, decide_eq_true v, if_neg bT]
  · have v : w.1 74 l = 0 := by simpa using v
    show fX8_copy N _ _ _ _ _ _ = _
    rw [rf, if_neg z, if_pos v]
  have v : ¬ w.1 74 l = 0 := by simpa using v
  refine Both.guard h (decide (w.1 74 k = w.1 74 l)) 2 (by omega) (fun c => ?_) (fun c => ?_) (fun c => ?_)
  · show fX7_copy w _ _ _ _ _ = _
    rw [a7, decide_eq_false z, if_pos bF, decide_eq_false v, if_pos bF, if_neg (of_decide_eq_false c)]
  · show fX8_copy N _ _ _ _ _ _ = _
    rw [rf, if_neg z, if_neg v, if_neg (of_decide_eq_false c)]
  have c := of_decide_eq_true c
  refine Both.guard h (hasB n p m && hasB n' q m) 0 (by omega) (fun b => ?_) (fun b => ?_) (fun b => ?_)
  · show fX7_copy w _ _ _ _ _ = _
    rw [a7, decide_eq_false z, if_pos bF, decide_eq_false v, if_pos bF, if_pos c]
    cases hx : hasB n p m with
    | false => rw [if_pos bF]
    | true =>
      rw [hx, Bool.true_and] at b
      rw [b, if_neg bT, if_pos bF]
  · show fX8_copy N _ _ _ _ _ _ = _
    rw [rf, if_neg z, if_neg v, if_pos c, b, if_neg (by decide)]
  obtain ⟨b1, b2⟩ := Bool.and_eq_true_iff.mp b
  have b1' := of_decide_eq_true b1
  have b2' := of_decide_eq_true b2
  obtain ⟨p', rfl, hp'⟩ : ∃ a : Nat, p = iZ a ∧ p.toInt = a := ⟨p.toInt.toNat, by rw [Int.toNat_of_nonneg b1'.1, iZ_self], by rw [Int.toNat_of_nonneg b1'.1]⟩
  obtain ⟨q', rfl, hq'⟩ : ∃ a : Nat, q = iZ a ∧ q.toInt = a := ⟨q.toInt.toNat, by rw [Int.toNat_of_nonneg b2'.1, iZ_self], by rw [Int.toNat_of_nonneg b2'.1]⟩
  obtain ⟨m', rfl, hm'⟩ : ∃ a : Nat, m = iZ a ∧ m.toInt = a := ⟨m.toInt.toNat, by rw [Int.toNat_of_nonneg b1'.2.1, iZ_self], by rw [Int.toNat_of_nonneg b1'.2.1]⟩
  rw [hp', hm'] at b1'
  rw [hq', hm'] at b2'
  have ep : (iZ (p' : Int)).toNatClampNeg = p' := by rw [iZ_clamp (by omega) (by omega), Int.toNat_natCast]
  have eq : (iZ (q' : Int)).toNatClampNeg = q' := by rw [iZ_clamp (by omega) (by omega), Int.toNat_natCast]
  have em : (iZ (m' : Int)).toNatClampNeg = m' := by rw [iZ_clamp (by omega) (by omega), Int.toNat_natCast]
  have hx : xcp (iZ (p' : Int)) (iZ (q' : Int)) (iZ (m' : Int)) 40 40 = true := by
    unfold xcp
    rw [ep, eq, em, decide_eq_false (k_neg (by omega)), decide_eq_false (k_neg (by omega)), decide_eq_false (k_neg (by omega)), decide_eq_true (by omega), decide_eq_true (by omega)]
    rfl
  obtain ⟨w1, hw1⟩ : ∃ w1, w1 = sB w (48 + 2 * l) (va_cpy (w.2 (48 + 2 * k)) (w.2 (48 + 2 * l)) p' q' m') := ⟨_, rfl⟩
  have w11 : w1.1 = w.1 := by rw [hw1]; rfl
  have w12 : ∀ a, a ≠ 48 + 2 * l → w1.2 a = w.2 a := fun a g => by rw [hw1, sB_r, if_neg g]
  have w13 : ∀ c, w1.2 (48 + 2 * l) c = if q' ≤ c ∧ c < q' + m' then w.2 (48 + 2 * k) (p' + (c - q')) else w.2 (48 + 2 * l) c := fun c => by rw [hw1, sB_r, if_pos rfl]; rfl
  obtain ⟨u1, o1, o2, o3, o4, -⟩ := cp1_loop (N := N) hk (show p' + m' ≤ 40 by omega) (iZ l) (iZ q') m' N 0 w1 (by omega) (by omega)
  obtain ⟨u2, r1, r2, r3, r4, r5⟩ := cp2_loop (N := N) hl (show q' + m' ≤ 40 by omega) m' N 0 u1 (by omega) (by omega)
  refine Both.act w1 u2 (iZ m') (iZ m') ?_ ?_ rfl ?_
  · show fX7_copy w _ _ _ _ _ = _
    rw [a7, decide_eq_false z, if_pos bF, decide_eq_false v, if_pos bF, if_pos c, b1, if_neg bT, b2, if_neg bT, if_pos hx, ep, eq, em, hw1]
  · show fX8_copy N w1 _ _ _ _ _ = _
    rw [a8 w1 (by rw [w11]) (by rw [w11]), if_neg z, if_neg v, if_pos c, if_pos b]
    exact o1.trans r1
  · have f1 : u2.1 = w.1 := by rw [r2, o2, w11]
    have f76 : ∀ d, ¬ (40 * l + q' ≤ d ∧ d < 40 * l + q' + m') → u2.2 76 d = w.2 76 d := fun d g => by rw [r5 d (by omega), o3 76 (by omega), w12 76 (by omega)]
    have f2 : ∀ a, a ≠ 76 → a ≠ 77 → u2.2 a = w1.2 a := fun a g1 g2 => by rw [r3 a g1, o3 a g2]
    refine h.sheets (fun a d _ _ _ => by rw [f1]) (fun k' hk' => ?_)
    obtain ⟨v1, v2, v3, v4, v5⟩ := h.1.2.2.2.2.1 k' hk'
    rw [f1]
    refine ⟨v1, v2, v3, v4, fun i hi => ?_⟩
    rw [f2 (48 + 2 * k') (by omega) (by omega)]
    by_cases e : k' = l
    · subst e
      rw [w13]
      by_cases y : q' ≤ i ∧ i < q' + m'
      · rw [if_pos y]
        have g := r4 (i - q') (by omega) (by omega)
        rw [show 40 * k' + q' + (i - q') = 40 * k' + i by omega] at g
        rw [g, o4 (i - q') (by omega) (by omega), w12 76 (by omega), s5 (p' + (i - q')) (by omega), show 40 * k + p' + (i - q') = 40 * k + (p' + (i - q')) by omega]
      · rw [if_neg y, f76 _ (by omega)]
        exact v5 i hi
    · rw [w12 (48 + 2 * k') (by omega), f76 _ (by omega)]
      exact v5 i hi
end COPY
