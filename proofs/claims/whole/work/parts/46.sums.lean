/-! what houses gain: the calls -/
section SUMS
variable {w : xW} {N : Nat}
theorem hdata (h : Inv w) {n : Nat} (nh : (n : Int) < (w.1 56 9).toInt) : ∃ (k : Nat) (f : Int), k < 6 ∧ 0 ≤ f ∧ f ≤ 3 ∧ w.1 56 (11 + 2 * n) = iZ k ∧ w.1 56 (12 + 2 * n) = iZ f ∧ w.1 5 n = iZ k ∧ w.1 6 n = iZ f := by
  have b := h.1.1.2.2.2.2.2.2.1 n nh
  have g := h.1.1.1.2.2.2.2.2.2.1 n nh
  have e1 : w.1 56 (11 + 2 * n) = iZ ((w.1 56 (11 + 2 * n)).toInt.toNat : Nat) := by rw [Int.toNat_of_nonneg b.1.1, iZ_self]
  have e2 : w.1 56 (12 + 2 * n) = iZ ((w.1 56 (12 + 2 * n)).toInt) := by rw [iZ_self]
  exact ⟨_, _, by omega, b.2.1, b.2.2, e1, e2, g.1.trans e1, g.2.trans e2⟩
theorem hrow (h : Inv w) {n : Nat} (nh : (n : Int) < (w.1 56 9).toInt) : n < 8 := by
  have := h.1.1.2.2.2.2.1
  omega
theorem e_gain7 (h : Inv w) (x y : Int32) : fX7_gain N w x y = if (dHouse (w.1 56) x && dTick y) = true then ((fX6_at N w y).bind fun z1 => if ibd x 8 = true then some (z1, (fX1_gainOf z1 (z1.1 5 x.toNatClampNeg) (fX6_sideOf z1 (z1.1 6 x.toNatClampNeg)) (fX7_hourOf y))) else none) else fX7_refuse w (cd 0) := by
  unfold fX7_gain fX7_gain_0 fX7_gain_15
  rw [house7 h, tick7, bind_id, c_0]
  cases dHouse (w.1 56) x <;> cases dTick y <;> rfl
theorem e_gain8 (hw : WFr (w.1 56)) (x y : Int32) : fX8_gain N w x y = if (dHouse (w.1 56) x && dTick y) = true then ((fX8_kindOf w x).bind fun z1 => (fX8_frontOf w x).bind fun z3 => (fX8_gainOf N w z1 z3 y).bind fun z5 => some (z5.1, z5.2)) else fX8_finding w (cd 0) := by
  unfold fX8_gain fX8_gain_0 fX8_gain_33
  rw [house8 hw, tick8, bind_id, c_0]
  cases dHouse (w.1 56) x <;> cases dTick y <;> rfl
theorem wrRF (h : Inv w) (i : Nat) : WFr ((RF w i).1 56) := by rw [RF_r w i (by omega)]; exact h.1.1.2
theorem kOf {u : xW} {n k : Nat} (n8 : n < 8) (e : u.1 56 (11 + 2 * n) = iZ k) : fX8_kindOf u (iZ n) = some (iZ k) := by
  obtain ⟨⟨i1, i2⟩, -, -, -⟩ := ix_h n n8
  unfold fX8_kindOf fX8_kindOf_0
  rw [if_pos i1, i2, e]
theorem fOf {u : xW} {n : Nat} {f : Int} (n8 : n < 8) (e : u.1 56 (12 + 2 * n) = iZ f) : fX8_frontOf u (iZ n) = some (iZ f) := by
  obtain ⟨-, ⟨i1, i2⟩, -, -⟩ := ix_h n n8
  unfold fX8_frontOf fX8_frontOf_0
  rw [if_pos i1, i2, e]
theorem P_gain (hN : 20000 ≤ N) (h : Inv w) (x y : Int32) : Both (fun w => fX7_gain N w x y) (fun w => fX8_gain N w x y) w := by
  refine Both.guard h (dHouse (w.1 56) x && dTick y) 0 (by omega) (fun q => by show fX7_gain N w x y = _; rw [e_gain7 h, q, if_neg (by decide)]) (fun q => by show fX8_gain N _ x y = _; rw [e_gain8 (wrRF h 0), RF_r w 0 (by omega), q, if_neg (by decide)]) (fun q => ?_)
  obtain ⟨q1, q2⟩ := Bool.and_eq_true_iff.mp q
  obtain ⟨n, rfl, n8, nh⟩ := dHouse_of h.1.1.2 q1
  obtain ⟨t, rfl, ht⟩ := dTick_of q2
  obtain ⟨-, -, i5, i6⟩ := ix_h n n8
  obtain ⟨k, f, k6, f0, f3, e1, e2, e3, e4⟩ := hdata h nh
  refine Both.ask h (iZ (gaT (w.1 56) k f t)) ?_ (fun w1 h1 e => ?_)
  · obtain ⟨w1, p1, p2, p3, p4, p5⟩ := at_eq hN h.ist h.wt (t := t) (by omega) (by omega)
    refine ⟨w1, ?_, p2.toG⟩
    rw [e_gain7 h, if_pos q, p1, Option.bind_some, if_pos i5, i6, p2.2 5 (by omega), p2.2 6 (by omega), e3, e4, sideOf6_eq p4 p5, hour7 (by omega), gain7 (r := w.1 56) (by rw [p2.2 1 (by omega)]; exact h.1.1.1.2.2.1) (by rw [p2.2 1 (by omega)]; exact h.1.1.1.2.2.2.1)]
    unfold gaT gaZ
    rw [iZ_self]
  · obtain ⟨w2, p1, p2, p3⟩ := gain8 hN e h.wt h1.2.1 k6 f0 f3 (t := t) (by omega)
    refine ⟨w2, ?_, p2⟩
    rw [e_gain8 h1.1.1.2, e, if_pos q, kOf n8 (by rw [e]; exact e1), fOf n8 (by rw [e]; exact e2), Option.bind_some, Option.bind_some, p1, Option.bind_some]
theorem isSpan7 (x y : Int32) : fX7_isSpan x y = bi (dTick x && dN y) := by
  unfold fX7_isSpan fX7_isSpan_0
  rw [tick7]
  have : (if y < 1 then (0 : Int32) else if 960 < y then 0 else 1) = if dR 1 960 y = true then 1 else 0 := lohi2 y 1 960
  rw [this, show dR 1 960 y = dN y from rfl]
  cases dTick x <;> cases dN y <;> rfl
theorem e_sum7 (h : Inv w) (x y v : Int32) : fX7_sum N w x y v = if (dHouse (w.1 56) x && (dTick y && dN v)) = true then ((fX3_watch N w y v).bind fun z1 => if ibd x 8 = true then (fX3_sumOf N z1 (z1.1 5 x.toNatClampNeg) (z1.1 6 x.toNatClampNeg)).bind fun z4 => some (z1, z4) else none) else fX7_refuse w (cd 0) := by
  unfold fX7_sum fX7_sum_0 fX7_sum_16
  rw [house7 h, isSpan7, bind_id, c_0]
  cases dHouse (w.1 56) x <;> cases dTick y <;> cases dN v <;> rfl
theorem e_sum8 (hw : WFr (w.1 56)) (x y v : Int32) : fX8_sum N w x y v = if (dHouse (w.1 56) x && (dTick y && dN v)) = true then ((fX8_frontOf w x).bind fun z1 => (fX8_sumOf N w x z1 y v).bind fun z3 => some (z3.1, z3.2)) else fX8_finding w (cd 0) := by
  unfold fX8_sum fX8_sum_0 fX8_sum_37
  rw [house8 hw, tick8, span8, bind_id, c_0]
  cases dHouse (w.1 56) x <;> cases dTick y <;> cases dN v <;> rfl
theorem P_sum (hN : 20000 ≤ N) (h : Inv w) (x y v : Int32) : Both (fun w => fX7_sum N w x y v) (fun w => fX8_sum N w x y v) w := by
  refine Both.guard h (dHouse (w.1 56) x && (dTick y && dN v)) 0 (by omega) (fun q => by show fX7_sum N w x y v = _; rw [e_sum7 h, q, if_neg (by decide)]) (fun q => by show fX8_sum N _ x y v = _; rw [e_sum8 (wrRF h 0), RF_r w 0 (by omega), q, if_neg (by decide)]) (fun q => ?_)
  obtain ⟨q1, q23⟩ := Bool.and_eq_true_iff.mp q
  obtain ⟨q2, q3⟩ := Bool.and_eq_true_iff.mp q23
  obtain ⟨n, rfl, n8, nh⟩ := dHouse_of h.1.1.2 q1
  obtain ⟨t, rfl, ht⟩ := dTick_of q2
  obtain ⟨c, rfl, c1, c960⟩ := dN_of q3
  obtain ⟨-, -, i5, i6⟩ := ix_h n n8
  obtain ⟨k, f, k6, f0, f3, e1, e2, e3, e4⟩ := hdata h nh
  refine Both.ask h (iZ (gaS (w.1 56) k f t c)) ?_ (fun w1 h1 e => ?_)
  · obtain ⟨w1, p1, p2, p3⟩ := watch_eq hN (a := t) (n := c) (by omega) h
    refine ⟨w1, ?_, p2.toG⟩
    rw [e_sum7 h, if_pos q, p1, Option.bind_some, if_pos i5, i6, p2.2 5 (by omega) (by omega) (by omega), p2.2 6 (by omega) (by omega) (by omega), e3, e4, sumOf_eq hN (r := w.1 56) (by rw [p2.2 1 (by omega) (by omega) (by omega)]; exact h.1.1.1.2.2.1) (by rw [p2.2 1 (by omega) (by omega) (by omega)]; exact h.1.1.1.2.2.2.1) p3 f0 f3, Option.bind_some]
  · obtain ⟨w2, p1, p2, p3⟩ := sum8 hN e h.1.1.2 h1.2.1 n8 k6 e1 f0 f3 (a := t) (n := c) (by omega)
    refine ⟨w2, ?_, p2⟩
    rw [e_sum8 h1.1.1.2, e, if_pos q, fOf n8 (by rw [e]; exact e2), Option.bind_some, p1, Option.bind_some]
/-- the first best of several -/
def bstF (S : Nat → Int) : Nat → Nat → Nat → Nat
  | 0, _, b => b
  | j + 1, f, b => bstF S j (f + 1) (if S f ≤ S b then b else f)
theorem e_best7 (h : Inv w) (x y v : Int32) : fX7_best N w x y v = if (dHouse (w.1 56) x && (dTick y && dN v)) = true then ((fX3_watch N w y v).bind fun z1 => if ibd x 8 = true then (fX3_sumOf N z1 (z1.1 5 x.toNatClampNeg) 0).bind fun z4 => fX7_best_68 N N z1 x 0 z4 1 else none) else fX7_refuse w (cd 0) := by
  unfold fX7_best fX7_best_0 fX7_best_16
  rw [house7 h, isSpan7, bind_id, c_0]
  cases dHouse (w.1 56) x <;> cases dTick y <;> cases dN v <;> rfl
theorem e_best8 (hw : WFr (w.1 56)) (x y v : Int32) : fX8_best N w x y v = if (dHouse (w.1 56) x && (dTick y && dN v)) = true then fX8_best_35 N N w x y v 0 1 else fX8_finding w (cd 0) := by
  unfold fX8_best fX8_best_0 fX8_best_22
  rw [house8 hw, tick8, span8, bind_id, c_0]
  cases dHouse (w.1 56) x <;> cases dTick y <;> cases dN v <;> rfl
theorem best7_loop (hN : 20000 ≤ N) {r : Nat → Int32} (hw1 : w.1 1 1 = r 7) (hw2 : w.1 1 2 = r 8) {a n : Nat} (hC : ∀ c, c < 120 → w.1 32 c = iZ (gcn r a n c)) {h k : Nat} (h8 : h < 8) (hk : w.1 5 h = iZ k) (hb : ∀ f : Int, 0 ≤ gaS r k f a n ∧ gaS r k f a n ≤ 17280) : ∀ (j m f b : Nat), j < m → f + j = 4 → fX7_best_68 N m w (iZ h) (iZ b) (iZ (gaS r k b a n)) (iZ f) = some (w, iZ (bstF (fun f => gaS r k f a n) j f b : Nat))
  | _, 0, _, _, hm, _ => absurd hm (by omega)
  | 0, m + 1, f, b, _, hf => by
    obtain rfl : f = 4 := by omega
    rw [fX7_best_68]
    unfold fX7_best_68b
    rw [if_pos (show (4 : Int32) ≤ iZ ((4 : Nat) : Int) by decide)]
    rfl
  | j + 1, m + 1, f, b, hm, hf => by
    obtain ⟨-, -, i5, i6⟩ := ix_h h h8
    rw [fX7_best_68]
    unfold fX7_best_68b fX7_best_113
    have b1 := hb f
    have b2 := hb b
    rw [if_neg (by rw [show (4 : Int32) = iZ 4 from rfl, iZ_le (by omega) (by omega) (by omega) (by omega)]; omega), if_pos i5, i6, hk, sumOf_eq hN hw1 hw2 hC (by omega) (by omega), Option.bind_some, iZ_s1, bstF]
    by_cases z : gaS r k f a n ≤ gaS r k b a n
    · rw [if_pos ((iZ_le (by omega) (by omega) (by omega) (by omega)).mpr z), if_pos z]
      exact best7_loop hN hw1 hw2 hC h8 hk hb j m (f + 1) b (by omega) (by omega)
    · rw [if_neg (fun q => z ((iZ_le (by omega) (by omega) (by omega) (by omega)).mp q)), if_neg z]
      exact best7_loop hN hw1 hw2 hC h8 hk hb j m (f + 1) f (by omega) (by omega)
theorem best8_loop (hN : 20000 ≤ N) {r : Nat → Int32} (hw : WFr r) {a n : Nat} (ha : a + n < 14000) {h k : Nat} (h8 : h < 8) (k6 : k < 6) (ek : r (11 + 2 * h) = iZ k) (hb : ∀ f : Int, 0 ≤ gaS r k f a n ∧ gaS r k f a n ≤ 17280) : ∀ (j m f b : Nat) (w : xW), j < m → f + j = 4 → b < 4 → w.1 56 = r → TOK w → ∃ w', fX8_best_35 N m w (iZ h) (iZ a) (iZ n) (iZ b) (iZ f) = some (w', iZ (bstF (fun f => gaS r k f a n) j f b : Nat)) ∧ G w w'
  | _, 0, _, _, _, hm, _, _, _, _ => absurd hm (by omega)
  | 0, m + 1, f, b, w, _, hf, _, _, _ => by
    obtain rfl : f = 4 := by omega
    rw [fX8_best_35]
    unfold fX8_best_35b
    rw [if_pos (show (4 : Int32) ≤ iZ ((4 : Nat) : Int) by decide)]
    exact ⟨w, rfl, G.rf⟩
  | j + 1, m + 1, f, b, w, hm, hf, hb4, e, hT => by
    rw [fX8_best_35]
    unfold fX8_best_35b fX8_best_69
    have b1 := hb f
    have b2 := hb b
    obtain ⟨u1, p1, p2, p3⟩ := sum8 hN e hw hT h8 k6 ek (f := f) (by omega) (by omega) ha
    obtain ⟨u2, q1, q2, q3⟩ := sum8 hN (p2.r.trans e) hw p3 h8 k6 ek (f := b) (by omega) (by omega) ha
    rw [if_neg (by rw [show (4 : Int32) = iZ 4 from rfl, iZ_le (by omega) (by omega) (by omega) (by omega)]; omega), p1, Option.bind_some]
    show ∃ w', (fX8_sumOf N u1 (iZ h) (iZ b) (iZ a) (iZ n)).bind _ = _ ∧ _
    rw [q1, Option.bind_some, iZ_s1, bstF]
    show ∃ w', (if iZ (gaS r k f a n) ≤ iZ (gaS r k b a n) then _ else _) = _ ∧ _
    by_cases z : gaS r k f a n ≤ gaS r k b a n
    · rw [if_pos ((iZ_le (by omega) (by omega) (by omega) (by omega)).mpr z), if_pos z]
      obtain ⟨w', g1, g2⟩ := best8_loop hN hw ha h8 k6 ek hb j m (f + 1) b u2 (by omega) (by omega) hb4 (q2.r.trans (p2.r.trans e)) q3
      exact ⟨w', g1, (p2.tr q2).tr g2⟩
    · rw [if_neg (fun q => z ((iZ_le (by omega) (by omega) (by omega) (by omega)).mp q)), if_neg z]
      obtain ⟨w', g1, g2⟩ := best8_loop hN hw ha h8 k6 ek hb j m (f + 1) f u2 (by omega) (by omega) (by omega) (q2.r.trans (p2.r.trans e)) q3
      exact ⟨w', g1, (p2.tr q2).tr g2⟩
theorem P_best (hN : 20000 ≤ N) (h : Inv w) (x y v : Int32) : Both (fun w => fX7_best N w x y v) (fun w => fX8_best N w x y v) w := by
  refine Both.guard h (dHouse (w.1 56) x && (dTick y && dN v)) 0 (by omega) (fun q => by show fX7_best N w x y v = _; rw [e_best7 h, q, if_neg (by decide)]) (fun q => by show fX8_best N _ x y v = _; rw [e_best8 (wrRF h 0), RF_r w 0 (by omega), q, if_neg (by decide)]) (fun q => ?_)
  obtain ⟨q1, q23⟩ := Bool.and_eq_true_iff.mp q
  obtain ⟨q2, q3⟩ := Bool.and_eq_true_iff.mp q23
  obtain ⟨n, rfl, n8, nh⟩ := dHouse_of h.1.1.2 q1
  obtain ⟨t, rfl, ht⟩ := dTick_of q2
  obtain ⟨c, rfl, c1, c960⟩ := dN_of q3
  obtain ⟨-, -, i5, i6⟩ := ix_h n n8
  obtain ⟨k, f, k6, f0, f3, e1, e2, e3, e4⟩ := hdata h nh
  have hb : ∀ f : Int, 0 ≤ gaS (w.1 56) k f t c ∧ gaS (w.1 56) k f t c ≤ 17280 := fun f => gaS_rng h.1.1.2 k6 f t c960
  refine Both.ask h (iZ (bstF (fun f => gaS (w.1 56) k f t c) 3 1 0 : Nat)) ?_ (fun w1 h1 e => ?_)
  · obtain ⟨w1, p1, p2, p3⟩ := watch_eq hN (a := t) (n := c) (by omega) h
    have g1 : w1.1 1 1 = w.1 56 7 := by rw [p2.2 1 (by omega) (by omega) (by omega)]; exact h.1.1.1.2.2.1
    have g2 : w1.1 1 2 = w.1 56 8 := by rw [p2.2 1 (by omega) (by omega) (by omega)]; exact h.1.1.1.2.2.2.1
    have g3 : w1.1 5 n = iZ k := by rw [p2.2 5 (by omega) (by omega) (by omega)]; exact e3
    refine ⟨w1, ?_, p2.toG⟩
    rw [e_best7 h, if_pos q, p1, Option.bind_some, if_pos i5, i6, g3, show (0 : Int32) = iZ 0 from rfl, sumOf_eq hN (r := w.1 56) g1 g2 p3 (by omega) (by omega), Option.bind_some]
    exact best7_loop hN g1 g2 p3 n8 g3 hb 3 N 1 0 (by omega) (by omega)
  · rw [e_best8 h1.1.1.2, e, if_pos q]
    exact best8_loop hN h.1.1.2 (by omega) n8 k6 e1 hb 3 N 1 0 w1 (by omega) (by omega) (by omega) e h1.2.1
end SUMS
