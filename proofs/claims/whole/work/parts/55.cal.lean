/-! calendars -/
section CAL
variable {w : xW} {N : Nat}
theorem cut_side : ∀ m : Nat, m < 5 → ∀ b : Int32, (b = 0 ∨ b = 8 ∨ b = 16 ∨ b = 64) → cut (iZ ((m : Int) - 1)).toInt64 b = (iZ ((m : Int) - 1)).toInt64 := by
  intro m hm b hb
  rcases hb with rfl | rfl | rfl | rfl
  · rfl
  · revert m
    decide +kernel
  · revert m
    decide +kernel
  · rfl
theorem cut_tSide (r : Nat → Int32) (f t : Int) {b : Int32} (hb : b = 0 ∨ b = 8 ∨ b = 16 ∨ b = 64) : cut (iZ (tSide r f t)).toInt64 b = (iZ (tSide r f t)).toInt64 := by
  have := tSide_rng r f t
  have e := cut_side (tSide r f t + 1).toNat (by omega) b hb
  rw [show (((tSide r f t + 1).toNat : Nat) : Int) - 1 = tSide r f t by omega] at e
  exact e
def dCal (y v g : Int32) : Bool := dSide y && (dTick v && dR 1 96 g)
theorem cr7 (u : xW) (x y v g : Int32) : fX7_calendarRefusal u x y v g = if dSide x = true then (if ibd x 4 = true then (fX2_isMissing u x.toNatClampNeg).bind fun z2 => if z2 = 0 then some (if dCal y v g = true then 0 else cd 0) else some (cd 5) else none) else some (cd 0) := by
  unfold fX7_calendarRefusal fX7_calendarRefusal_0 dCal
  rw [isSheet7, side7, tick7, lohi2 g, c_0, c_5]
  cases dSide x <;> cases dSide y <;> cases dTick v <;> cases dR 1 96 g <;> rfl
theorem cr8 (u : xW) (x y v g : Int32) : fX8_refuses u x y v g = if dSide x = true then (if ibd x 4 = true then (if u.1 74 x.toNatClampNeg = 0 then some (cd 5) else some (if dCal y v g = true then 0 else cd 0)) else none) else some (cd 0) := by
  unfold fX8_refuses fX8_refuses_0 dCal
  rw [isSheet8, side8, tick8, win8, c_0, c_5]
  cases dSide x <;> cases dSide y <;> cases dTick v <;> cases dR 1 96 g <;> rfl
theorem cal7_loop (hN : 20000 ≤ N) {r : Nat → Int32} (hw : WFt r) {k n : Nat} (hk : k < 4) (hn : n ≤ 40) {b : Int32} {f : Int} {t g : Nat} (ht : t ≤ 9999) (hg : g ≤ 96) : ∀ (j m i : Nat) (u : xW), j < m → i + j = n → IsT u r → u.1 (47 + 2 * k) 0 = b → u.1 (47 + 2 * k) 1 = iZ n → ∃ u', fX7_calendar_26 N m u (iZ k) (iZ f) (iZ t) (iZ g) (iZ i) = some (u', iZ n) ∧ (∀ q, q ≠ 2 → u'.1 q = u.1 q) ∧ (∀ q, q ≠ 48 + 2 * k → u'.2 q = u.2 q) ∧ (∀ c : Nat, i ≤ c → c < n → u'.2 (48 + 2 * k) c = cut (iZ (tSide r f ((t + c * g : Nat) : Int))).toInt64 b) ∧ ∀ c, ¬ (i ≤ c ∧ c < n) → u'.2 (48 + 2 * k) c = u.2 (48 + 2 * k) c
  | _, 0, _, _, hm, _, _, _, _ => absurd hm (by omega)
  | 0, m + 1, i, u, _, hi, hT, h0, h1 => by
    obtain rfl : i = n := by omega
    rw [fX7_calendar_26]
    unfold fX7_calendar_26b
    rw [if_pos (k_4 hk).1.1, (k_4 hk).1.2, h1, if_pos (by rw [iZ_le (by omega) (by omega) (by omega) (by omega)]; omega)]
    exact ⟨u, rfl, fun _ _ => rfl, fun _ _ => rfl, fun c g1 g2 => absurd g1 (by omega), fun _ _ => rfl⟩
  | j + 1, m + 1, i, u, hm, hi, hT, h0, h1 => by
    have mg : i * g ≤ 39 * 96 := Nat.mul_le_mul (by omega) hg
    obtain ⟨w1, p1, p2, p3, p4, p5⟩ := at_eq hN hT hw (t := ((t + i * g : Nat) : Int)) (by omega) (by omega)
    have e : iZ (t : Int) + iZ (i : Int) * iZ (g : Int) = iZ ((t + i * g : Nat) : Int) := by
      rw [iZ_mul, iZ_add]
      congr 1
    rw [fX7_calendar_26]
    unfold fX7_calendar_26b
    rw [if_pos (k_4 hk).1.1, (k_4 hk).1.2, h1, if_neg (by rw [iZ_le (by omega) (by omega) (by omega) (by omega)]; omega), e, p1, Option.bind_some, sideOf6_eq p4 p5, put_eq (b := b) hk ((congrFun (p2.2 (47 + 2 * k) (by omega)) 0).trans h0) (by omega), Option.bind_some, iZ_s1]
    obtain ⟨u', o1, o2, o3, o4, o5⟩ := cal7_loop hN hw hk hn ht hg (f := f) (b := b) j m (i + 1) (sL w1 (48 + 2 * k) i (cut (iZ (tSide r f ((t + i * g : Nat) : Int))).toInt64 b)) (by omega) (by omega) (hT.r2 p2 : IsT w1 r) (by show w1.1 _ 0 = b; rw [p2.2 _ (by omega)]; exact h0) (by show w1.1 _ 1 = _; rw [p2.2 _ (by omega)]; exact h1)
    refine ⟨u', o1, fun q g1 => (o2 q g1).trans (p2.2 q g1), fun q g1 => by rw [o3 q g1]; show (sL w1 _ i _).2 q = _; rw [← p2.1]; exact funext fun c => by rw [sL_r, if_neg (by omega)], fun c g1 g2 => ?_, fun c g1 => ?_⟩
    · rcases Nat.lt_or_ge i c with z | z
      · exact o4 c (by omega) g2
      · obtain rfl : c = i := by omega
        rw [o5 c (by omega), sL_r, if_pos ⟨rfl, rfl⟩]
    · rw [o5 c (by omega), sL_r, if_neg (by omega), p2.1]
theorem cal8_loop (hN : 20000 ≤ N) {r : Nat → Int32} (hw : WFt r) {k n : Nat} (hk : k < 4) (hn : n ≤ 40) {f : Int} (f0 : 0 ≤ f) (f3 : f ≤ 3) {t g : Nat} (ht : t ≤ 9999) (hg : g ≤ 96) : ∀ (j m i : Nat) (u : xW), j < m → i + j = n → u.1 56 = r → TOK u → u.1 75 k = iZ n → ∃ u', fX8_calendar_26 N m u (iZ k) (iZ f) (iZ t) (iZ g) (iZ i) = some (u', iZ n) ∧ (∀ q c, q ≠ 61 → q ≠ 62 → ¬ (q = 55 ∧ c = 8) → u'.1 q c = u.1 q c) ∧ TOK u' ∧ (∀ q, q ≠ 76 → u'.2 q = u.2 q) ∧ (∀ c : Nat, i ≤ c → c < n → u'.2 76 (40 * k + c) = (iZ (tSide r f ((t + c * g : Nat) : Int))).toInt64) ∧ ∀ d, ¬ (40 * k + i ≤ d ∧ d < 40 * k + n) → u'.2 76 d = u.2 76 d
  | _, 0, _, _, hm, _, _, _, _ => absurd hm (by omega)
  | 0, m + 1, i, u, _, hi, hr', hT, h1 => by
    obtain rfl : i = n := by omega
    rw [fX8_calendar_26]
    unfold fX8_calendar_26b
    rw [if_pos (k_4 hk).1.1, (k_4 hk).1.2, h1, if_pos (by rw [iZ_le (by omega) (by omega) (by omega) (by omega)]; omega)]
    exact ⟨u, rfl, fun _ _ _ _ _ => rfl, hT, fun _ _ => rfl, fun c g1 g2 => absurd g1 (by omega), fun _ _ => rfl⟩
  | j + 1, m + 1, i, u, hm, hi, hr', hT, h1 => by
    have mg : i * g ≤ 39 * 96 := Nat.mul_le_mul (by omega) hg
    obtain ⟨w1, p1, p2, p3⟩ := sideOf8R hN (by rw [hr']; exact hw) hT f0 f3 (t := t + i * g) (by omega)
    rw [hr'] at p1
    obtain ⟨x1, x2⟩ := ix_c k hk i (by omega)
    have e : iZ (t : Int) + iZ (g : Int) * iZ (i : Int) = iZ ((t + i * g : Nat) : Int) := by
      rw [iZ_mul, iZ_add, Int.mul_comm]
      congr 1
    rw [fX8_calendar_26]
    unfold fX8_calendar_26b
    rw [if_pos (k_4 hk).1.1, (k_4 hk).1.2, h1, if_neg (by rw [iZ_le (by omega) (by omega) (by omega) (by omega)]; omega), e, p1, Option.bind_some, if_pos x1, x2, iZ_s1]
    obtain ⟨u', o1, o2, o3, o4, o5, o6⟩ := cal8_loop hN hw hk hn f0 f3 ht hg j m (i + 1) (sL w1 76 (40 * k + i) (iZ (tSide r f ((t + i * g : Nat) : Int))).toInt64) (by omega) (by omega) (p2.row.trans hr') p3 (by show w1.1 75 k = _; rw [p2.2 75 k (by omega) (by omega) (by omega)]; exact h1)
    refine ⟨u', o1, fun q c g1 g2 g3 => (o2 q c g1 g2 g3).trans (p2.2 q c g1 g2 g3), o3, fun q g1 => by rw [o4 q g1]; show (sL w1 _ _ _).2 q = _; rw [← p2.1]; exact funext fun c => by rw [sL_r, if_neg (by omega)], fun c g1 g2 => ?_, fun d g1 => ?_⟩
    · rcases Nat.lt_or_ge i c with z | z
      · exact o5 c (by omega) g2
      · obtain rfl : c = i := by omega
        rw [o6 _ (by omega), sL_r, if_pos ⟨rfl, rfl⟩]
    · rw [o6 d (by omega), sL_r, if_neg (by omega), p2.1]
theorem P_calendar (hN : 20000 ≤ N) (h : Inv w) (x y v g : Int32) : Both (fun w => fX7_calendar N w x y v g) (fun w => fX8_calendar N w x y v g) w := by
  have nz : ∀ i, i < 7 → ¬ cd i = 0 := by decide +kernel
  refine Both.guard h (dSide x) 0 (by omega) (fun q => ?_) (fun q => ?_) (fun q => ?_)
  · show fX7_calendar N w x y v g = _
    unfold fX7_calendar fX7_calendar_0
    rw [cr7, q, if_neg (by decide), Option.bind_some, if_neg (nz 0 (by omega)), bind_id]
  · show fX8_calendar N _ x y v g = _
    unfold fX8_calendar fX8_calendar_0
    rw [cr8, q, if_neg (by decide), Option.bind_some, if_neg (nz 0 (by omega)), bind_id]
  obtain ⟨k, hk, rfl⟩ := side_k q
  obtain ⟨s1, s2, s3, s4, s5⟩ := h.1.2.2.2.2.1 k hk
  obtain ⟨n, n1, n40, n2⟩ := sheetK h hk
  have rf : ∀ i q, q ≠ 46 → (RF w i).1 q = w.1 q := fun i q g => RF_r w i g
  refine Both.guard h (!(decide (w.1 74 k = 0))) 5 (by omega) (fun z => ?_) (fun z => ?_) (fun z => ?_)
  · have z : w.1 74 k = 0 := by simpa using z
    show fX7_calendar N w _ y v g = _
    unfold fX7_calendar fX7_calendar_0
    rw [cr7, if_pos q, if_pos (k_4 hk).1.1, (k_4 hk).1.2, isMis hk, Option.bind_some, s1, decide_eq_true z, if_neg bT, Option.bind_some, if_neg (nz 5 (by omega)), bind_id]
  · have z : w.1 74 k = 0 := by simpa using z
    show fX8_calendar N _ _ y v g = _
    unfold fX8_calendar fX8_calendar_0
    rw [cr8, if_pos q, if_pos (k_4 hk).1.1, (k_4 hk).1.2, rf 5 74 (by omega), if_pos z, Option.bind_some, if_neg (nz 5 (by omega)), bind_id]
  have z : ¬ w.1 74 k = 0 := by simpa using z
  refine Both.guard h (dCal y v g) 0 (by omega) (fun c => ?_) (fun c => ?_) (fun c => ?_)
  · show fX7_calendar N w _ y v g = _
    unfold fX7_calendar fX7_calendar_0
    rw [cr7, if_pos q, if_pos (k_4 hk).1.1, (k_4 hk).1.2, isMis hk, Option.bind_some, s1, decide_eq_false z, if_pos bF, c, Option.bind_some, if_neg (show ¬ false = true by decide), if_neg (nz 0 (by omega)), bind_id]
  · show fX8_calendar N _ _ y v g = _
    unfold fX8_calendar fX8_calendar_0
    rw [cr8, if_pos q, if_pos (k_4 hk).1.1, (k_4 hk).1.2, rf 0 74 (by omega), if_neg z, c, Option.bind_some, if_neg (show ¬ false = true by decide), if_neg (nz 0 (by omega)), bind_id]
  obtain ⟨c1, c'⟩ := Bool.and_eq_true_iff.mp c
  obtain ⟨c2, c3⟩ := Bool.and_eq_true_iff.mp c'
  obtain ⟨f, rfl, f0, f3⟩ := dSide_of c1
  obtain ⟨t, rfl, ht⟩ := dTick_of c2
  have c3 := dR_iff.mp c3
  rw [i_1, show (96 : Int32).toInt = 96 from rfl] at c3
  obtain ⟨g, rfl, hg⟩ : ∃ m : Nat, g = iZ m ∧ m ≤ 96 := ⟨g.toInt.toNat, by rw [Int.toNat_of_nonneg (by omega), iZ_self], by omega⟩
  obtain ⟨u1, p1, p2, p3, p4, p5⟩ := cal7_loop hN h.wt hk n40 (b := w.1 74 k) (f := f) ht hg n N 0 w (by omega) (by omega) h.ist s1 n2
  have hT1 : TOK u1 := by
    have := h.2.1
    unfold TOK at this ⊢
    rw [p2 55 (by omega), p2 56 (by omega), p2 61 (by omega), p2 62 (by omega)]
    exact this
  obtain ⟨u2, o1, o2, o3, o4, o5, o6⟩ := cal8_loop hN h.wt hk n40 f0 f3 ht hg n N 0 u1 (by omega) (by omega) (p2 56 (by omega)) hT1 (by rw [p2 75 (by omega)]; exact n1)
  refine Both.act u1 u2 (iZ n) (iZ n) ?_ ?_ rfl ?_
  · show fX7_calendar N w _ _ _ _ = _
    unfold fX7_calendar fX7_calendar_0
    rw [cr7, if_pos q, if_pos (k_4 hk).1.1, (k_4 hk).1.2, isMis hk, Option.bind_some, s1, decide_eq_false z, if_pos bF, c, Option.bind_some, if_pos rfl, if_pos rfl]
    exact p1
  · show fX8_calendar N u1 _ _ _ _ = _
    unfold fX8_calendar fX8_calendar_0
    rw [cr8, if_pos q, if_pos (k_4 hk).1.1, (k_4 hk).1.2, p2 74 (by omega), if_neg z, c, Option.bind_some, if_pos rfl, if_pos rfl]
    exact o1
  · have a1 : ∀ a d, a ≠ 2 → a ≠ 61 → a ≠ 62 → ¬ (a = 55 ∧ d = 8) → u2.1 a d = w.1 a d := fun a d g1 g2 g3 g4 => by rw [o2 a d g2 g3 g4, p2 a g1]
    have row : ∀ a, a ≠ 2 → a ≠ 61 → a ≠ 62 → a ≠ 55 → u2.1 a = w.1 a := fun a g1 g2 g3 g4 => funext fun d => a1 a d g1 g2 g3 (by omega)
    have h3 : Inv (u2.1, w.2) := by
      refine ⟨Fr.Core (w := w) ⟨fun a d hs => a1 a d (fun e => hs (by unfold Sc; omega)) (fun e => hs (by unfold Sc; omega)) (fun e => hs (by unfold Sc; omega)) (fun e => hs (by unfold Sc; omega)), fun _ _ => rfl⟩ h.1, o3, ?_⟩
      have := h.2.2
      unfold HOK at this ⊢
      show u2.1 34 0 = 0 ∨ (u2.1 34 0 = 1 ∧ BestOK (u2.1 56) (u2.1 34 1) (u2.1 35) (u2.1 36) (u2.1 37))
      rw [row 34 (by omega) (by omega) (by omega) (by omega), row 56 (by omega) (by omega) (by omega) (by omega), row 35 (by omega) (by omega) (by omega) (by omega), row 36 (by omega) (by omega) (by omega) (by omega), row 37 (by omega) (by omega) (by omega) (by omega)]
      exact this
    refine h3.sheets (fun _ _ _ _ _ => rfl) (fun k' hk' => ?_)
    obtain ⟨t1, t2, t3, t4, t5⟩ := h.1.2.2.2.2.1 k' hk'
    rw [row (47 + 2 * k') (by omega) (by omega) (by omega) (by omega), row 74 (by omega) (by omega) (by omega) (by omega), row 75 (by omega) (by omega) (by omega) (by omega)]
    refine ⟨t1, t2, t3, t4, fun i hi => ?_⟩
    rw [o4 (48 + 2 * k') (by omega)]
    by_cases e : k' = k
    · subst e
      rcases Nat.lt_or_ge i n with g1 | g1
      · rw [p4 i (by omega) g1, o5 i (by omega) g1]
        exact cut_tSide _ _ _ t3
      · rw [p5 i (by omega), o6 _ (by omega), p3 76 (by omega)]
        exact t5 i hi
    · rw [p3 (48 + 2 * k') (by omega), o6 _ (by omega), p3 76 (by omega)]
      exact t5 i hi
end CAL
