/-! the bridge; where a ship can lie; the first berth -/
section LIES
variable {w : xW} {r : Nat → Int32} {N : Nat}
theorem P_fast (hN : 20000 ≤ N) (h : Inv w) (x : Int32) : Both (fun w => fX7_fast N w x) (fun w => fX8_fast N w x) w := by
  cases hd : dTick x with
  | false =>
    refine Both.ref h 0 (by omega) (w1 := w) (w2 := RF w 0) ?_ G.rf ?_ G.rf
    · show fX7_fast N w x = _
      unfold fX7_fast fX7_fast_0
      rw [tick7, hd, if_pos bF, bind_id, c_0]
    · show fX8_fast N (RF w 0) x = _
      unfold fX8_fast fX8_fast_0
      rw [tick8, hd, if_pos bF, bind_id, c_0]
  | true =>
    obtain ⟨t, rfl, ht⟩ := dTick_of hd
    refine Both.ask h (iZ (min (tSt (w.1 56) t : Nat) 960)) ?_ (fun w1 h1 e => ?_)
    · obtain ⟨w1, p1, p2, p3, p4, p5⟩ := at_eq hN h.ist h.wt (t := t) (by omega) (by omega)
      unfold fX7_fast fX7_fast_0
      rw [tick7, hd, if_neg bT, p1, Option.bind_some, p5]
      refine ⟨w1, ?_, p2.toG⟩
      cases hb : tBe (w.1 56) t with
      | true =>
        rw [if_neg bT, (tSt_0 (by omega)).mpr hb, show min (((0 : Nat)) : Int) 960 = 0 by omega]
        exact congrArg (fun v => some (w1, v)) (show (0 : Int32) = iZ 0 from rfl)
      | false =>
        have nd := tnd_le h.wt (t := t) (by omega)
        obtain ⟨s1, s2, s3, s4⟩ := tct_spec (w.1 56) (tnd (w.1 56) t)
        have tb := tbeg_rng h.wt (k := tct (w.1 56) (tnd (w.1 56) t)) (by omega)
        have sc := tSt_calm h.wt (t := t) (by omega) hb
        rw [if_pos bF, calmTill_eq hN (h.ist.r2 p2) (n := tnd (w.1 56) t) (by omega) p3, Option.bind_some, show (960 : Int32) = iZ 960 from rfl, iZ_sub]
        by_cases z : tbeg (w.1 56) (tct (w.1 56) (tnd (w.1 56) t)) - t < 960
        · rw [if_pos ((iZ_lt (by omega) (by omega) (by omega) (by omega)).mpr z)]
          exact congrArg (fun v => some (w1, iZ v)) (by omega)
        · rw [if_neg (fun q => z ((iZ_lt (by omega) (by omega) (by omega) (by omega)).mp q))]
          exact congrArg (fun v => some (w1, iZ v)) (by omega)
    · obtain ⟨w2, p1, p2, p3⟩ := still8 hN h1.wt h1.2.1 (t := t) (by omega)
      have b := tSt_le2 (w.1 56) t
      unfold fX8_fast fX8_fast_0
      rw [tick8, hd, if_neg bT, p1, e, Option.bind_some]
      refine ⟨w2, ?_, p2⟩
      simp only [show (960 : Int32) = iZ 960 from rfl]
      by_cases z : ((tSt (w.1 56) t : Nat) : Int) < 960
      · rw [if_pos ((iZ_lt (by omega) (by omega) (by omega) (by omega)).mpr z)]
        exact congrArg (fun v => some (w2, iZ v)) (by omega)
      · rw [if_neg (fun q => z ((iZ_lt (by omega) (by omega) (by omega) (by omega)).mp q))]
        exact congrArg (fun v => some (w2, iZ v)) (by omega)
def offN (r : Nat → Int32) (a : Nat) (i : Nat) : Int := Sm (fun i => if tBe r ((a + i : Nat) : Int) = true then 1 else 0) i
theorem off7_loop (hN : 20000 ≤ N) {a n : Nat} (ha : a + n < 14000) (h0 : Inv w) : ∀ (j m i : Nat) (u : xW), j < m → i + j = n → RT w u → ∃ w', fX7_off_20 N m u (iZ a) (iZ n) (iZ (offN (w.1 56) a i)) (iZ ((a + i : Nat) : Int)) = some (w', iZ (offN (w.1 56) a n)) ∧ RT w w'
  | _, 0, _, _, hm, _, _ => absurd hm (by omega)
  | 0, m + 1, i, u, _, hi, hR => by
    obtain rfl : i = n := by omega
    rw [fX7_off_20]
    unfold fX7_off_20b
    rw [iZ_add, if_pos (by rw [iZ_le (by omega) (by omega) (by omega) (by omega)]; omega)]
    exact ⟨u, rfl, hR⟩
  | j + 1, m + 1, i, u, hm, hi, hR => by
    have hu := hR.toG.Inv h0
    have er : u.1 56 = w.1 56 := hR.2 56 (by omega) (by omega) (by omega)
    obtain ⟨w1, p1, p2, p3, p4, p5⟩ := at_eq hN (r := w.1 56) (by rw [← er]; exact hu.ist) h0.wt (t := ((a + i : Nat) : Int)) (by omega) (by omega)
    rw [fX7_off_20]
    unfold fX7_off_20b fX7_off_56
    obtain ⟨w2, q1, q2⟩ := off7_loop hN ha h0 j m (i + 1) w1 (by omega) (by omega) (hR.tr ⟨p2.1, fun q g _ _ => p2.2 q g⟩)
    refine ⟨w2, ?_, q2⟩
    unfold offN at q1 ⊢
    rw [Sm] at q1
    rw [iZ_add, if_neg (by rw [iZ_le (by omega) (by omega) (by omega) (by omega)]; omega), p1, Option.bind_some, p5, iZ_s1]
    cases hb : tBe (w.1 56) ((a + i : Nat) : Int) with
    | true =>
      rw [hb, if_pos rfl] at q1
      rw [if_neg bT, show (1 : Int32) = iZ 1 from rfl, iZ_add]
      exact q1
    | false =>
      rw [hb, if_neg (by decide), Int.add_zero] at q1
      rw [if_pos bF]
      exact q1
theorem off8_loop (hN : 20000 ≤ N) {a n : Nat} (ha : a + n < 14000) (hw : WFt r) : ∀ (j m i : Nat) (u : xW), j < m → i + j = n → u.1 56 = r → TOK u → ∃ w', fX8_off_26 N m u (iZ a) (iZ n) (iZ (offN r a i)) (iZ ((a + i : Nat) : Int)) = some (w', iZ (offN r a n)) ∧ G u w'
  | _, 0, _, _, hm, _, _, _ => absurd hm (by omega)
  | 0, m + 1, i, u, _, hi, e, hT => by
    obtain rfl : i = n := by omega
    rw [fX8_off_26]
    unfold fX8_off_26b
    rw [iZ_add, if_pos (by rw [iZ_le (by omega) (by omega) (by omega) (by omega)]; omega)]
    exact ⟨u, rfl, G.rf⟩
  | j + 1, m + 1, i, u, hm, hi, e, hT => by
    obtain ⟨w1, p1, p2, p3⟩ := still8 hN (by rw [e]; exact hw) hT (t := a + i) (by omega)
    rw [fX8_off_26]
    unfold fX8_off_26b fX8_off_49
    obtain ⟨w2, q1, q2⟩ := off8_loop hN ha hw j m (i + 1) w1 (by omega) (by omega) (p2.r.trans e) p3
    refine ⟨w2, ?_, p2.tr q2⟩
    unfold offN at q1 ⊢
    rw [Sm] at q1
    rw [iZ_add, if_neg (by rw [iZ_le (by omega) (by omega) (by omega) (by omega)]; omega), p1, Option.bind_some, e, iZ_s1]
    show (if iZ (tSt r (a + i) : Nat) = 0 then _ else _) = _
    cases hb : tBe r ((a + i : Nat) : Int) with
    | true =>
      rw [hb, if_pos rfl] at q1
      rw [if_pos ((st_z (by omega)).mpr hb), show (1 : Int32) = iZ 1 from rfl, iZ_add]
      exact q1
    | false =>
      rw [hb, if_neg (by decide), Int.add_zero] at q1
      rw [if_neg (fun q => by rw [(st_z (by omega)).mp q] at hb; cases hb), Int32.add_zero]
      exact q1
theorem P_off (hN : 20000 ≤ N) (h : Inv w) (x y : Int32) : Both (fun w => fX7_off N w x y) (fun w => fX8_off N w x y) w := by
  have e7 : fX7_off N w x y = if (dTick x && dN y) = true then fX7_off_20 N N w x y 0 x else fX7_refuse w (cd 0) := by
    unfold fX7_off fX7_off_0
    rw [isSpan7, bind_id, c_0]
    cases dTick x <;> cases dN y <;> rfl
  have e8 : ∀ u, fX8_off N u x y = if (dTick x && dN y) = true then fX8_off_26 N N u x y 0 x else fX8_finding u (cd 0) := by
    intro u
    unfold fX8_off fX8_off_0 fX8_off_14
    rw [tick8, span8, bind_id, c_0]
    cases dTick x <;> cases dN y <;> rfl
  refine Both.guard h (dTick x && dN y) 0 (by omega) (fun q => by show fX7_off N w x y = _; rw [e7, q, if_neg (by decide)]) (fun q => by show fX8_off N _ x y = _; rw [e8, q, if_neg (by decide)]) (fun q => ?_)
  obtain ⟨q2, q3⟩ := Bool.and_eq_true_iff.mp q
  obtain ⟨t, rfl, ht⟩ := dTick_of q2
  obtain ⟨c, rfl, c1, c960⟩ := dN_of q3
  refine Both.ask h (iZ (offN (w.1 56) t c)) ?_ (fun w1 h1 e => ?_)
  · obtain ⟨w1, p1, p2⟩ := off7_loop hN (a := t) (n := c) (by omega) h c N 0 w (by omega) (by omega) RT.rf
    exact ⟨w1, by rw [e7, if_pos q]; exact p1, p2.toG⟩
  · rw [e8, if_pos q]
    exact off8_loop hN (a := t) (n := c) (by omega) h.wt c N 0 w1 (by omega) (by omega) e h1.2.1
/-! ships -/
theorem sdata (h : Inv w) {n : Nat} (nh : (n : Int) < (w.1 56 10).toInt) : (w.1 7 n = iZ (shC (w.1 56) n) ∧ w.1 8 n = iZ (shM (w.1 56) n) ∧ w.1 9 n = iZ (shS (w.1 56) n) ∧ w.1 10 n = iZ (shQ (w.1 56) n)) ∧ (0 ≤ shC (w.1 56) n ∧ shC (w.1 56) n ≤ 3) ∧ (0 ≤ shM (w.1 56) n ∧ shM (w.1 56) n ≤ 9999) ∧ (1 ≤ shS (w.1 56) n ∧ shS (w.1 56) n ≤ 40) ∧ (-1 ≤ shQ (w.1 56) n ∧ shQ (w.1 56) n ≤ 3) := by
  have g := h.1.1.1.2.2.2.2.2.2.2 n nh
  refine ⟨?_, h.1.1.2.2.2.2.2.2.2 n nh⟩
  unfold shC shM shS shQ
  rw [iZ_self, iZ_self, iZ_self, iZ_self]
  exact g
theorem shIs (hr' : w.1 56 = r) {n : Nat} (n6 : n < 6) : fX8_shipIs w (iZ n) 0 = some (iZ (shC r n)) ∧ fX8_shipIs w (iZ n) 1 = some (iZ (shM r n)) ∧ fX8_shipIs w (iZ n) 2 = some (iZ (shS r n)) ∧ fX8_shipIs w (iZ n) 3 = some (iZ (shQ r n)) := by
  obtain ⟨i1, i2, i3⟩ := ix_s n n6
  have j0 := i1 0 (by omega)
  have j1 := i1 1 (by omega)
  have j2 := i1 2 (by omega)
  have j3 := i1 3 (by omega)
  rw [show iZ ((0 : Nat) : Int) = 0 from rfl] at j0
  rw [show iZ ((1 : Nat) : Int) = 1 from rfl] at j1
  rw [show iZ ((2 : Nat) : Int) = 2 from rfl] at j2
  rw [show iZ ((3 : Nat) : Int) = 3 from rfl] at j3
  unfold fX8_shipIs fX8_shipIs_0 shC shM shS shQ
  rw [if_pos j0.1, if_pos j1.1, if_pos j2.1, if_pos j3.1, j0.2, j1.2, j2.2, j3.2, hr', iZ_self, iZ_self, iZ_self, iZ_self, show 27 + 4 * n + 1 = 28 + 4 * n by omega, show 27 + 4 * n + 2 = 29 + 4 * n by omega, show 27 + 4 * n + 3 = 30 + 4 * n by omega]
  exact ⟨rfl, rfl, rfl, rfl⟩
def lieB (r : Nat → Int32) (s : Nat) (f : Int) (t : Nat) : Bool := decide (tSide r f t = shC r s) && decide (shS r s ≤ tSt r t)
def WFs (r : Nat → Int32) (s : Nat) : Prop := (0 ≤ shC r s ∧ shC r s ≤ 3) ∧ (0 ≤ shM r s ∧ shM r s ≤ 9999) ∧ (1 ≤ shS r s ∧ shS r s ≤ 40) ∧ (-1 ≤ shQ r s ∧ shQ r s ≤ 3)
theorem canLie8 (hN : 20000 ≤ N) (hr' : w.1 56 = r) (hw : WFt r) (hT : TOK w) {s : Nat} (s6 : s < 6) (hs : WFs r s) {f : Int} (f0 : 0 ≤ f) (f3 : f ≤ 3) {t : Nat} (ht : t < 14000) : ∃ w', fX8_canLie N w (iZ s) (iZ f) (iZ t) = some (w', bi (lieB r s f t)) ∧ R8 w w' ∧ TOK w' := by
  obtain ⟨⟨c0, c3⟩, -, ⟨t1, t2⟩, -⟩ := hs
  obtain ⟨w1, p1, p2, p3⟩ := sideOf8R hN (by rw [hr']; exact hw) hT f0 f3 ht
  rw [hr'] at p1
  have e1 : w1.1 56 = r := p2.row.trans hr'
  have b := tSide_rng r f t
  unfold fX8_canLie fX8_canLie_0 lieB
  rw [p1, Option.bind_some]
  show ∃ w', ((fX8_shipIs w1 (iZ s) 0).bind fun z3 => if iZ (tSide r f t) = z3 then _ else _) = _ ∧ _
  rw [(shIs e1 s6).1, Option.bind_some]
  by_cases z : tSide r f t = shC r s
  · obtain ⟨w2, q1, q2, q3⟩ := stillAt_eq hN (by rw [e1]; exact hw) p3 ht
    rw [e1] at q1
    have bs := tSt_le2 r t
    rw [if_pos (by rw [z]), q1, Option.bind_some]
    show ∃ w', ((fX8_shipIs w2 (iZ s) 2).bind fun z7 => if iZ (tSt r t : Nat) < z7 then _ else _) = _ ∧ _
    rw [(shIs (q2.row.trans e1) s6).2.2.1, Option.bind_some, decide_eq_true z, Bool.true_and]
    refine ⟨w2, ?_, p2.tr q2, q3⟩
    by_cases y : shS r s ≤ tSt r t
    · rw [if_neg (by rw [iZ_lt (by omega) (by omega) (by omega) (by omega)]; omega), decide_eq_true y]
      rfl
    · rw [if_pos (by rw [iZ_lt (by omega) (by omega) (by omega) (by omega)]; omega), decide_eq_false y]
      rfl
  · rw [if_neg (fun q => z ((iZ_eq (by omega) (by omega) (by omega) (by omega)).mp q)), decide_eq_false z, Bool.false_and]
    exact ⟨w1, rfl, p2, p3⟩
theorem lie_fro {s : Nat} (hs : WFs r s) {t : Nat} (ht : t < 14000) : lieB r s (fro r s t) t = (!(tBe r t) && decide (shS r s ≤ tSt r t)) := by
  obtain ⟨⟨c0, c3⟩, -, ⟨t1, t2⟩, -⟩ := hs
  unfold lieB tSide fro
  cases hb : tBe r t with
  | true =>
    rw [if_pos rfl, decide_eq_false (by omega)]
    rfl
  | false =>
    rw [if_neg (by decide), decide_eq_true (by omega)]
    rfl
theorem quayAt8 (hN : 20000 ≤ N) (hr' : w.1 56 = r) (hw : WFt r) (hT : TOK w) {s : Nat} (s6 : s < 6) (hs : WFs r s) {t : Nat} (ht : t < 14000) : ∃ w', fX8_quayAt N w (iZ s) (iZ t) = some (w', if okAt r s t = true then iZ (fro r s t) else iZ (-1)) ∧ R8 w w' ∧ TOK w' := by
  have hs' := hs
  obtain ⟨⟨c0, c3⟩, -, -, ⟨q0, q3⟩⟩ := hs
  have hl := tTu_le hw (t := t) (by omega)
  obtain ⟨w1, p1, p2, p3⟩ := turnedAt_eq hN (by rw [hr']; exact hw) hT ht
  rw [hr'] at p1
  have fr : 0 ≤ fro r s t ∧ fro r s t ≤ 3 := by unfold fro; omega
  have pf : fX8_frontTo N w (iZ (shC r s)) (iZ t) = some (w1, iZ (fro r s t)) := by
    unfold fX8_frontTo fX8_frontTo_0
    rw [p1, Option.bind_some]
    show some (w1, irem (iZ (shC r s) + 4 - irem (iZ (tTu r t : Nat)) 4) 4) = _
    rw [show (4 : Int32) = iZ 4 from rfl, iZ_rem (by omega) (by omega) (by omega) (by omega), iZ_add, iZ_sub, iZ_rem (by omega) (by omega) (by omega) (by omega)]
    unfold fro
    congr 3
    omega
  have e1 : w1.1 56 = r := p2.row.trans hr'
  have tail : ∀ b : Bool, ∃ w', fX8_quayAt_36 N w1 (iZ s) (iZ t) (iZ (fro r s t)) (bi b) = some (w', if (b && (!(tBe r t) && decide (shS r s ≤ tSt r t))) = true then iZ (fro r s t) else iZ (-1)) ∧ R8 w w' ∧ TOK w' := by
    intro b
    unfold fX8_quayAt_36
    cases b with
    | false =>
      rw [if_pos bF]
      exact ⟨w1, rfl, p2, p3⟩
    | true =>
      obtain ⟨w2, g1, g2, g3⟩ := canLie8 hN e1 hw p3 s6 hs' fr.1 fr.2 ht
      rw [lie_fro hs' ht] at g1
      rw [if_neg bT, g1, Option.bind_some, Bool.true_and]
      refine ⟨w2, ?_, p2.tr g2, g3⟩
      cases hb : (!(tBe r t) && decide (shS r s ≤ tSt r t)) with
      | true => rw [if_neg (show ¬ bi true = 0 by decide), if_pos rfl]
      | false => rw [if_pos (show bi false = 0 from rfl), if_neg (by decide)]; rfl
  have eo : okAt r s t = ((decide (shQ r s < 0) || decide (shQ r s = fro r s t)) && (!(tBe r t) && decide (shS r s ≤ tSt r t))) := by
    unfold okAt
    rw [show ((t : Nat) : Int).toNat = t from Int.toNat_natCast t]
    cases tBe r t <;> cases (decide (shQ r s < 0) || decide (shQ r s = fro r s t)) <;> rfl
  unfold fX8_quayAt fX8_quayAt_0
  rw [(shIs hr' s6).1, Option.bind_some, pf, Option.bind_some]
  show ∃ w', ((fX8_shipIs w1 (iZ s) 3).bind fun z5 => if z5 < 0 then fX8_quayAt_36 N w1 (iZ s) (iZ t) (iZ (fro r s t)) 1 else (fX8_shipIs w1 (iZ s) 3).bind fun z7 => if z7 = iZ (fro r s t) then _ else _) = _ ∧ _
  rw [(shIs e1 s6).2.2.2, Option.bind_some, Option.bind_some, eo]
  by_cases z : shQ r s < 0
  · rw [if_pos ((iZ_neg0 (by omega) (by omega)).mpr z), decide_eq_true z, Bool.true_or]
    exact tail true
  · rw [if_neg (fun q => z ((iZ_neg0 (by omega) (by omega)).mp q)), decide_eq_false z, Bool.false_or]
    by_cases y : shQ r s = fro r s t
    · rw [if_pos (by rw [y]), decide_eq_true y]
      exact tail true
    · rw [if_neg (fun q => y ((iZ_eq (by omega) (by omega) (by omega) (by omega)).mp q)), decide_eq_false y]
      exact tail false
theorem e_lies7 (h : Inv w) (x y z : Int32) : fX7_lies N w x y z = if (dShip (w.1 56) x && (dSide y && dTick z)) = true then ((fX6_at N w z).bind fun z1 => if ibd x 6 = true then if (fX6_sideOf z1 y) = (z1.1 7 x.toNatClampNeg) then fX7_lies_68 N z1 x z 1 else fX7_lies_68 N z1 x z 0 else none) else fX7_refuse w (cd 0) := by
  unfold fX7_lies fX7_lies_0 fX7_lies_22
  rw [ship7 h, side7, tick7, bind_id, c_0]
  cases dShip (w.1 56) x <;> cases dSide y <;> cases dTick z <;> rfl
theorem e_lies8 (hw : WFr (w.1 56)) (x y z : Int32) : fX8_lies N w x y z = if (dShip (w.1 56) x && (dSide y && dTick z)) = true then ((fX8_canLie N w x y z).bind fun z1 => if z1.2 = 0 then some (z1.1, 0) else some (z1.1, 1)) else fX8_finding w (cd 0) := by
  unfold fX8_lies fX8_lies_0 fX8_lies_22
  rw [ship8 hw, side8, tick8, bind_id, c_0]
  cases dShip (w.1 56) x <;> cases dSide y <;> cases dTick z <;> rfl
theorem P_lies (hN : 20000 ≤ N) (h : Inv w) (x y z : Int32) : Both (fun w => fX7_lies N w x y z) (fun w => fX8_lies N w x y z) w := by
  refine Both.guard h (dShip (w.1 56) x && (dSide y && dTick z)) 0 (by omega) (fun q => by show fX7_lies N w x y z = _; rw [e_lies7 h, q, if_neg (by decide)]) (fun q => by show fX8_lies N _ x y z = _; rw [e_lies8 (wrRF h 0), RF_r w 0 (by omega), q, if_neg (by decide)]) (fun q => ?_)
  obtain ⟨q1, q'⟩ := Bool.and_eq_true_iff.mp q
  obtain ⟨q2, q3⟩ := Bool.and_eq_true_iff.mp q'
  obtain ⟨s, rfl, s6, nh⟩ := dShip_of h.1.1.2 q1
  obtain ⟨f, rfl, f0, f3⟩ := dSide_of q2
  obtain ⟨t, rfl, ht⟩ := dTick_of q3
  obtain ⟨-, i5, i6⟩ := ix_s s s6
  obtain ⟨⟨d1, d2, d3, d4⟩, hs⟩ := sdata h nh
  refine Both.ask h (bi (lieB (w.1 56) s f t)) ?_ (fun w1 h1 e => ?_)
  · obtain ⟨w1, p1, p2, p3, p4, p5⟩ := at_eq hN h.ist h.wt (t := t) (by omega) (by omega)
    refine ⟨w1, ?_, p2.toG⟩
    have b := tSide_rng (w.1 56) f t
    rw [e_lies7 h, if_pos q, p1, Option.bind_some, if_pos i5, i6, p2.2 7 (by omega), d1, sideOf6_eq p4 p5]
    unfold lieB fX7_lies_68
    by_cases z : tSide (w.1 56) f t = shC (w.1 56) s
    · have hb : tBe (w.1 56) t = false := by
        cases hb : tBe (w.1 56) t with
        | false => rfl
        | true =>
          unfold tSide at z
          rw [hb, if_pos rfl] at z
          omega
      have nd := tnd_le h.wt (t := t) (by omega)
      obtain ⟨s1, s2, s3, s4⟩ := tct_spec (w.1 56) (tnd (w.1 56) t)
      have tb := tbeg_rng h.wt (k := tct (w.1 56) (tnd (w.1 56) t)) (by omega)
      have sc := tSt_calm h.wt (t := t) (by omega) hb
      rw [if_pos (by rw [z]), if_neg (by decide), calmTill_eq hN (h.ist.r2 p2) (n := tnd (w.1 56) t) (by omega) p3, Option.bind_some, if_pos i5, i6, p2.2 9 (by omega), d3, iZ_sub, decide_eq_true z, Bool.true_and]
      by_cases y : shS (w.1 56) s ≤ tSt (w.1 56) t
      · rw [if_neg (by rw [iZ_lt (by omega) (by omega) (by omega) (by omega)]; omega), decide_eq_true y]
        rfl
      · rw [if_pos (by rw [iZ_lt (by omega) (by omega) (by omega) (by omega)]; omega), decide_eq_false y]
        rfl
    · rw [if_neg (fun q => z ((iZ_eq (by omega) (by omega) (by omega) (by omega)).mp q)), if_pos rfl, decide_eq_false z]
      rfl
  · obtain ⟨w2, p1, p2, p3⟩ := canLie8 hN e h.wt h1.2.1 s6 hs f0 f3 (t := t) (by omega)
    refine ⟨w2, ?_, p2.toG (fun _ => p3)⟩
    rw [e_lies8 h1.1.1.2, e, if_pos q, p1, Option.bind_some]
    cases lieB (w.1 56) s f t <;> rfl
end LIES
