/-! the first berth, the entry -/
def fB (r : Nat → Int32) (s L : Nat) : Nat → Nat
  | 0 => L
  | j + 1 => if okAt r s ((L - (j + 1) : Nat) : Int) = true then L - (j + 1) else fB r s L j
section ENTRY
variable {w : xW} {r : Nat → Int32} {N : Nat}
theorem fB_at {s L t : Nat} (h : t < L) : fB r s L (L - t) = if okAt r s (t : Int) = true then t else fB r s L (L - (t + 1)) := by
  obtain ⟨j, hj⟩ : ∃ j, L - t = j + 1 := ⟨L - t - 1, by omega⟩
  rw [hj, fB, show L - (j + 1) = t by omega, show L - (t + 1) = j by omega]
theorem fB_skip {s L : Nat} : ∀ (d t : Nat), (∀ u : Nat, t ≤ u → u < t + d → u < L → okAt r s (u : Int) = false) → fB r s L (L - t) = fB r s L (L - (t + d))
  | 0, t, _ => rfl
  | d + 1, t, h => by
    rcases Nat.lt_or_ge t L with q | q
    · rw [fB_at q, h t (by omega) (by omega) q, if_neg (by decide), fB_skip d (t + 1) (fun u a b c => h u (by omega) (by omega) c), show t + 1 + d = t + (d + 1) by omega]
    · rw [show L - t = 0 by omega, show L - (t + (d + 1)) = 0 by omega]
theorem fB_le {s L : Nat} : ∀ j, fB r s L j ≤ L
  | 0 => Nat.le_refl _
  | j + 1 => by
    rw [fB]
    split
    · omega
    · exact fB_le j
theorem okAt_eq (s t : Nat) : okAt r s (t : Int) = (!(tBe r t) && ((decide (shQ r s < 0) || decide (shQ r s = fro r s t)) && decide (shS r s ≤ tSt r t))) := by
  unfold okAt
  rw [show ((t : Nat) : Int).toNat = t from Int.toNat_natCast t]
theorem ten_bound (hw : WFt r) {t : Nat} (ht : t < 11000) : ten r (trt r (tnd r t)) < 13000 := by
  obtain ⟨s1, s2, s3, s4⟩ := trt_spec r (tnd r t)
  obtain ⟨g1, g2⟩ := tnd_spec hw t
  have hw' := hw
  obtain ⟨hF, hP, hl, hG, -⟩ := hw'
  have small : ∀ k : Nat, k ≤ 30 → ten r k < 13000 := by
    intro k hk
    have b := tbeg_lo hw k
    have m : (k : Int) * tP r ≤ 30 * 400 := Int.mul_le_mul (by omega) hP.2 (by omega) (by omega)
    unfold ten
    omega
  rcases s4 with q | q
  · exact small _ q
  · rw [q]
    rcases Nat.lt_or_ge (tnd r t) 31 with z | z
    · exact small _ (by omega)
    · obtain ⟨k, hk⟩ : ∃ k, tnd r t = k + 1 := ⟨tnd r t - 1, by omega⟩
      have h1 := g1 k (by omega)
      have b1 := tbeg_lo hw k
      have b2 := tbeg_lo hw (k + 1)
      have e : ((k + 1 : Nat) : Int) * tP r = k * tP r + tP r := by
        rw [Int.natCast_add, Int.add_mul]
        simp
      rw [hk]
      unfold ten at h1 ⊢
      omega
/-- a calm tick that won't do: none will till the next tide -/
theorem calm_no (hw : WFt r) {s t : Nat} (ht : t < 13000) (hc : tBe r t = false) (ho : okAt r s (t : Int) = false) {u : Nat} (h1 : t ≤ u) (h2 : (u : Int) < tbeg r (tct r (tnd r t))) (h3 : u < 14000) : okAt r s (u : Int) = false := by
  obtain ⟨c1, c2, c3⟩ := calm_run hw hc
  obtain ⟨d, rfl⟩ := Nat.exists_eq_add_of_le h1
  obtain ⟨e1, e2⟩ := c2 ((t + d : Nat) : Int) (by omega) h2
  have e3 := tSt_run (r := r) d t (by omega) (fun v a b => (c2 v (by omega) (by omega)).1)
  have ef : fro r s ((t + d : Nat) : Int) = fro r s t := by unfold fro; rw [e2]
  rw [okAt_eq] at ho ⊢
  rw [hc, Bool.not_false, Bool.true_and] at ho
  rw [e1, Bool.not_false, Bool.true_and, ef]
  cases hq : (decide (shQ r s < 0) || decide (shQ r s = fro r s t)) with
  | false => rfl
  | true =>
    rw [hq, Bool.true_and] at ho
    have := of_decide_eq_false ho
    rw [Bool.true_and]
    exact decide_eq_false (by omega)
def SD (w : xW) (r : Nat → Int32) (s : Nat) : Prop := w.1 7 s = iZ (shC r s) ∧ w.1 8 s = iZ (shM r s) ∧ w.1 9 s = iZ (shS r s) ∧ w.1 10 s = iZ (shQ r s)
theorem SD.r2 {w u : xW} {s : Nat} (h : SD w r s) (g : R2 w u) : SD u r s := by
  unfold SD
  rw [g.2 7 (by omega), g.2 8 (by omega), g.2 9 (by omega), g.2 10 (by omega)]
  exact h
theorem berth_loop (hN : 20000 ≤ N) (hT : IsT w r) (hw : WFt r) {s : Nat} (s6 : s < 6) (hd : SD w r s) (hs : WFs r s) {M : Nat} (hM : M ≤ 9999) : ∀ (j m c t : Nat) (u : xW), j < m → c + j = 960 → M + c ≤ t → t ≤ 2100000 → R2 w u → ∃ w', fX1_firstBerth_17 N m u (iZ s) (iZ ((M + 960 : Nat) : Int)) (iZ t) (iZ c) = some (w', iZ (fB r s (M + 960) (M + 960 - t) : Nat)) ∧ R2 w w'
  | _, 0, _, _, _, hm, _, _, _, _ => absurd hm (by omega)
  | 0, m + 1, c, t, u, _, hc, h1, h2, hR => by
    obtain rfl : c = 960 := by omega
    rw [fX1_firstBerth_17]
    unfold fX1_firstBerth_17b
    rw [if_pos (show (960 : Int32) ≤ iZ ((960 : Nat) : Int) by decide), show M + 960 - t = 0 by omega]
    exact ⟨u, rfl, hR⟩
  | j + 1, m + 1, c, t, u, hm, hc, h1, h2, hR => by
    rw [fX1_firstBerth_17]
    unfold fX1_firstBerth_17b
    rw [if_neg (by rw [show (960 : Int32) = iZ 960 from rfl, iZ_le (by omega) (by omega) (by omega) (by omega)]; omega)]
    rcases Nat.lt_or_ge t (M + 960) with q | q
    · obtain ⟨i1, i5, i6⟩ := ix_s s s6
      have hs' := hs
      obtain ⟨⟨c0, c3⟩, -, ⟨t1, t2⟩, ⟨q0, q3⟩⟩ := hs'
      have calm : ∀ (t' : Nat) (u' : xW), R2 w u' → u'.1 2 2 = iZ (tnd r t' : Nat) → u'.1 2 3 = iZ (tTu r t' : Nat) → tBe r t' = false → t ≤ t' → t' < 13000 → ∃ w', fX1_firstBerth_68 N (fX1_firstBerth_17 N m) u' (iZ s) (iZ ((M + 960 : Nat) : Int)) (iZ t') (iZ c) = some (w', iZ (fB r s (M + 960) (M + 960 - t') : Nat)) ∧ R2 w w' := by
        intro t' u' hR' p3 p4 hb ht1 ht2
        have nd := tnd_le hw (t := t') (by omega)
        obtain ⟨s1, s2, s3, s4⟩ := tct_spec r (tnd r t')
        have tb := tbeg_rng hw (k := tct r (tnd r t')) (by omega)
        have sc := tSt_calm hw (t := t') (by omega) hb
        obtain ⟨cr1, -, -⟩ := calm_run hw hb
        obtain ⟨d1, d2, d3, d4⟩ := hd.r2 hR'
        have eo := okAt_eq (r := r) s t'
        rw [hb, Bool.not_false, Bool.true_and] at eo
        have go : okAt r s (t' : Int) = false → ∃ w', fX1_firstBerth_17 N m u' (iZ s) (iZ ((M + 960 : Nat) : Int)) (iZ (tbeg r (tct r (tnd r t')))) (iZ c + 1) = some (w', iZ (fB r s (M + 960) (M + 960 - t') : Nat)) ∧ R2 w w' := by
          intro ho
          obtain ⟨b, hb2⟩ : ∃ b : Nat, tbeg r (tct r (tnd r t')) = ((t' + b : Nat) : Int) := ⟨(tbeg r (tct r (tnd r t')) - t').toNat, by omega⟩
          have sk := fB_skip (r := r) (s := s) (L := M + 960) b t' (fun v a1 a2 a3 => calm_no hw ht2 hb ho a1 (by omega) (by omega))
          obtain ⟨w', g1, g2⟩ := berth_loop hN hT hw s6 hd hs hM j m (c + 1) (t' + b) u' (by omega) (by omega) (by omega) (by omega) hR'
          rw [sk, hb2, iZ_s1]
          exact ⟨w', g1, g2⟩
        have t118 : ∀ b : Bool, (decide (shQ r s < 0) || decide (shQ r s = fro r s t')) = b → ∃ w', fX1_firstBerth_118 N (fX1_firstBerth_17 N m) u' (iZ s) (iZ ((M + 960 : Nat) : Int)) (iZ t') (iZ c) (iZ (tbeg r (tct r (tnd r t')))) (bi b) = some (w', iZ (fB r s (M + 960) (M + 960 - t') : Nat)) ∧ R2 w w' := by
          intro b hb3
          rw [hb3] at eo
          unfold fX1_firstBerth_118 fX1_firstBerth_146
          cases b with
          | false =>
            rw [if_pos bF]
            exact go eo
          | true =>
            rw [Bool.true_and] at eo
            rw [if_neg bT, if_pos i5, i6, d3, iZ_sub]
            by_cases y : shS r s ≤ tSt r t'
            · rw [decide_eq_true y] at eo
              rw [if_neg (by rw [iZ_lt (by omega) (by omega) (by omega) (by omega)]; omega)]
              refine ⟨u', ?_, hR'⟩
              rcases Nat.lt_or_ge t' (M + 960) with z | z
              · rw [fB_at z, eo, if_pos rfl, if_neg (by rw [iZ_lt (by omega) (by omega) (by omega) (by omega)]; omega)]
              · rw [show M + 960 - t' = 0 by omega, fB]
                by_cases x : M + 960 < t'
                · rw [if_pos (by rw [iZ_lt (by omega) (by omega) (by omega) (by omega)]; omega)]
                · rw [if_neg (by rw [iZ_lt (by omega) (by omega) (by omega) (by omega)]; omega), show t' = M + 960 by omega]
            · rw [decide_eq_false y] at eo
              rw [if_pos (by rw [iZ_lt (by omega) (by omega) (by omega) (by omega)]; omega)]
              exact go eo
        unfold fX1_firstBerth_68
        rw [if_pos i5, i6, calmTill_eq hN (hT.r2 hR') (n := tnd r t') (by omega) p3, Option.bind_some, d4, d1, frontTo6_eq p4, show (-1 : Int32) = iZ (-1) from rfl]
        have fr : (shC r s - (tTu r t' : Nat)) % 4 = fro r s t' := rfl
        rw [fr]
        have frr : 0 ≤ fro r s t' ∧ fro r s t' ≤ 3 := by unfold fro; omega
        by_cases z : shQ r s < 0
        · rw [if_pos (by rw [iZ_eq (by omega) (by omega) (by omega) (by omega)]; omega)]
          exact t118 true (by rw [decide_eq_true z, Bool.true_or])
        · rw [if_neg (by rw [iZ_eq (by omega) (by omega) (by omega) (by omega)]; omega)]
          by_cases y : shQ r s = fro r s t'
          · rw [if_pos (by rw [y])]
            exact t118 true (by rw [decide_eq_true y, Bool.or_true])
          · rw [if_neg (fun q => y ((iZ_eq (by omega) (by omega) (by omega) (by omega)).mp q))]
            exact t118 false (by rw [decide_eq_false z, decide_eq_false y]; rfl)
      obtain ⟨w1, p1, p2, p3, p4, p5⟩ := at_eq hN (hT.r2 hR) hw (t := t) (by omega) (by omega)
      rw [if_neg (by rw [iZ_le (by omega) (by omega) (by omega) (by omega)]; omega), p1, Option.bind_some, p5]
      cases hb : tBe r t with
      | false =>
        rw [if_pos bF]
        exact calm t w1 (hR.tr p2) p3 p4 hb (Nat.le_refl _) (by omega)
      | true =>
        have nd := tnd_le hw (t := t) (by omega)
        have tbd := ten_bound hw (t := t) (by omega)
        obtain ⟨b1, b2, b3⟩ := betw_run hw hb
        obtain ⟨b, hb2⟩ : ∃ b : Nat, ten r (trt r (tnd r t)) = ((t + b : Nat) : Int) := ⟨(ten r (trt r (tnd r t)) - t).toNat, by omega⟩
        rw [hb2] at b1 b2 b3 tbd
        obtain ⟨w2, o1, o2, o3, o4, o5⟩ := at_eq hN (hT.r2 (hR.tr p2)) hw (t := ((t + b : Nat) : Int)) (by omega) (by omega)
        rw [if_neg bT, rightAt_eq hN (hT.r2 (hR.tr p2)) (n := tnd r t) (by omega) p3, Option.bind_some, hb2, o1, Option.bind_some]
        have sk := fB_skip (r := r) (s := s) (L := M + 960) b t (fun v a1 a2 a3 => by rw [okAt_eq, b2 v (by omega) (by omega)]; rfl)
        rw [sk]
        exact calm (t + b) w2 ((hR.tr p2).tr o2) o3 o4 b3 (by omega) (by omega)
    · rw [if_pos (by rw [iZ_le (by omega) (by omega) (by omega) (by omega)]; omega), show M + 960 - t = 0 by omega]
      exact ⟨u, rfl, hR⟩
theorem berth_eq (hN : 20000 ≤ N) (hT : IsT w r) (hw : WFt r) {s : Nat} (s6 : s < 6) (hd : SD w r s) (hs : WFs r s) {t : Nat} (h1 : (shM r s).toNat ≤ t) (h2 : t ≤ 2100000) : ∃ w', fX1_firstBerth N w (iZ s) (iZ t) = some (w', iZ (fB r s ((shM r s).toNat + 960) ((shM r s).toNat + 960 - t) : Nat)) ∧ R2 w w' := by
  obtain ⟨i1, i5, i6⟩ := ix_s s s6
  have hs' := hs
  obtain ⟨-, ⟨m0, m9⟩, -⟩ := hs'
  unfold fX1_firstBerth fX1_firstBerth_0
  have e : iZ (shM r s) + 960 = iZ (((shM r s).toNat + 960 : Nat) : Int) := by
    rw [show (960 : Int32) = iZ 960 from rfl, iZ_add]
    congr 1
    omega
  rw [if_pos i5, i6, hd.2.1, e]
  exact berth_loop hN hT hw s6 hd hs (M := (shM r s).toNat) (by omega) 960 N 0 t w (by omega) (by omega) (by omega) h2 R2.rf
theorem e_entry7 (h : Inv w) (x y : Int32) : fX7_entry N w x y = if (dShip (w.1 56) x && dR 0 1 y) = true then (if ibd x 6 = true then (fX1_firstBerth N w x (w.1 8 x.toNatClampNeg)).bind fun z2 => if z2.2 < ((z2.1.1 8 x.toNatClampNeg) + 960) then (if y = 0 then some (z2.1, z2.2) else (fX1_frontAt N z2.1 x z2.2).bind fun z4 => some (z4.1, z4.2)) else fX7_refuse z2.1 (cd 3) else none) else fX7_refuse w (cd 0) := by
  have b : ∀ (o : Option (xW × Int32)), (o.bind fun z2 => if z2.2 < ((z2.1.1 8 x.toNatClampNeg) + 960) then (if y = 0 then some (z2.1, z2.2) else (fX1_frontAt N z2.1 x z2.2).bind fun z4 => some (z4.1, z4.2)) else (fX7_refuse z2.1 (-1000000004)).bind fun z6 => some (z6.1, z6.2)) = o.bind fun z2 => if z2.2 < ((z2.1.1 8 x.toNatClampNeg) + 960) then (if y = 0 then some (z2.1, z2.2) else (fX1_frontAt N z2.1 x z2.2).bind fun z4 => some (z4.1, z4.2)) else fX7_refuse z2.1 (cd 3) := by
    intro o
    cases o with
    | none => rfl
    | some z => simp only [Option.bind_some, bind_id, c_3]
  unfold fX7_entry fX7_entry_0 fX7_entry_17
  rw [ship7 h, lohi1 y, bind_id, c_0, b]
  cases dShip (w.1 56) x <;> cases dR 0 1 y <;> rfl
theorem e_entry8 (hw : WFr (w.1 56)) (x y : Int32) : fX8_entry N w x y = if (dShip (w.1 56) x && dR 0 1 y) = true then (fX8_shipIs w x 1).bind (fun z1 => fX8_entry_34 N N w x y z1 z1) else fX8_finding w (cd 0) := by
  unfold fX8_entry fX8_entry_0 fX8_entry_17
  rw [ship8 hw, win8, bind_id, c_0]
  cases dShip (w.1 56) x <;> cases dR 0 1 y <;> rfl
theorem entry8_loop (hN : 20000 ≤ N) (hw : WFt r) {s : Nat} (s6 : s < 6) (hs : WFs r s) (y : Int32) {M : Nat} (hM : M ≤ 9999) : ∀ (j m t : Nat) (u : xW), j < m → t + j = M + 960 → u.1 56 = r → TOK u → ∃ w', fX8_entry_34 N m u (iZ s) y (iZ M) (iZ t) = (if fB r s (M + 960) (M + 960 - t) < M + 960 then some (w', if y = 0 then iZ (fB r s (M + 960) (M + 960 - t) : Nat) else iZ (fro r s (fB r s (M + 960) (M + 960 - t) : Nat))) else fX8_finding w' (cd 3)) ∧ G u w'
  | _, 0, _, _, hm, _, _, _ => absurd hm (by omega)
  | 0, m + 1, t, u, _, ht, e, hT => by
    obtain rfl : t = M + 960 := by omega
    rw [fX8_entry_34]
    unfold fX8_entry_34b
    refine ⟨u, ?_, G.rf⟩
    rw [show (960 : Int32) = iZ 960 from rfl, iZ_add, if_pos (by rw [iZ_le (by omega) (by omega) (by omega) (by omega)]; omega), bind_id, c_3, Nat.sub_self, fB, if_neg (Nat.lt_irrefl _)]
  | j + 1, m + 1, t, u, hm, ht, e, hT => by
    have hs' := hs
    obtain ⟨⟨c0, c3⟩, -, -, -⟩ := hs'
    obtain ⟨w1, p1, p2, p3⟩ := quayAt8 hN e hw hT s6 hs (t := t) (by omega)
    have g1 : G u w1 := p2.toG (fun _ => p3)
    have frr : 0 ≤ fro r s t ∧ fro r s t ≤ 3 := by unfold fro; omega
    rw [fX8_entry_34]
    unfold fX8_entry_34b
    rw [show (960 : Int32) = iZ 960 from rfl, iZ_add, if_neg (by rw [iZ_le (by omega) (by omega) (by omega) (by omega)]; omega), p1, Option.bind_some, fB_at (by omega)]
    cases ho : okAt r s (t : Int) with
    | true =>
      refine ⟨w1, ?_, g1⟩
      have tl : t < M + 960 := by omega
      simp only [if_true]
      rw [if_pos tl, if_neg (fun q => by have := (iZ_neg0 (by omega) (by omega)).mp q; omega)]
      by_cases z : y = 0
      · rw [if_pos z, if_pos z]
      · rw [if_neg z, if_neg z]
    | false =>
      obtain ⟨w', q1, q2⟩ := entry8_loop hN hw s6 hs y hM j m (t + 1) w1 (by omega) (by omega) (p2.row.trans e) p3
      refine ⟨w', ?_, g1.tr q2⟩
      simp only [Bool.false_eq_true, if_false]
      rw [if_pos (show iZ (-1) < 0 by decide), iZ_s1]
      exact q1
theorem P_entry (hN : 20000 ≤ N) (h : Inv w) (x y : Int32) : Both (fun w => fX7_entry N w x y) (fun w => fX8_entry N w x y) w := by
  refine Both.guard h (dShip (w.1 56) x && dR 0 1 y) 0 (by omega) (fun q => by show fX7_entry N w x y = _; rw [e_entry7 h, q, if_neg (by decide)]) (fun q => by show fX8_entry N _ x y = _; rw [e_entry8 (wrRF h 0), RF_r w 0 (by omega), q, if_neg (by decide)]) (fun q => ?_)
  obtain ⟨q1, q2⟩ := Bool.and_eq_true_iff.mp q
  obtain ⟨s, rfl, s6, nh⟩ := dShip_of h.1.1.2 q1
  obtain ⟨i1, i5, i6⟩ := ix_s s s6
  obtain ⟨hd, hs⟩ := sdata h nh
  have hs' := hs
  obtain ⟨⟨c0, c3⟩, ⟨m0, m9⟩, -, -⟩ := hs'
  obtain ⟨M, hM, hM9⟩ : ∃ M : Nat, shM (w.1 56) s = (M : Int) ∧ M ≤ 9999 := ⟨(shM (w.1 56) s).toNat, by omega, by omega⟩
  have hMn : (shM (w.1 56) s).toNat = M := by omega
  have e8 : w.1 8 s = iZ M := by rw [← hM]; exact hd.2.1
  obtain ⟨w1, p1, p2⟩ := berth_eq hN h.ist h.wt s6 hd hs (t := M) (by omega) (by omega)
  rw [hMn, show M + 960 - M = 960 by omega] at p1
  have B : ∀ u, Inv u → u.1 56 = w.1 56 → ∃ w', fX8_entry N u (iZ s) y = (if fB (w.1 56) s (M + 960) 960 < M + 960 then some (w', if y = 0 then iZ (fB (w.1 56) s (M + 960) 960 : Nat) else iZ (fro (w.1 56) s (fB (w.1 56) s (M + 960) 960 : Nat))) else fX8_finding w' (cd 3)) ∧ G u w' := by
    intro u hu e
    rw [e_entry8 hu.1.1.2, e, if_pos q, (shIs e s6).2.1, Option.bind_some, hM]
    obtain ⟨w', g1, g2⟩ := entry8_loop hN h.wt s6 hs y hM9 960 N M u (by omega) (by omega) e hu.2.1
    rw [show M + 960 - M = 960 by omega] at g1
    exact ⟨w', g1, g2⟩
  have fl := fB_le (r := w.1 56) (s := s) (L := M + 960) 960
  have hi : Inv w1 := p2.toG.Inv h
  have e9 : iZ (M : Int) + 960 = iZ ((M + 960 : Nat) : Int) := by
    rw [show (960 : Int32) = iZ 960 from rfl, iZ_add]
    rfl
  have A : fX7_entry N w (iZ s) y = if iZ (fB (w.1 56) s (M + 960) 960 : Nat) < iZ ((M + 960 : Nat) : Int) then (if y = 0 then some (w1, iZ (fB (w.1 56) s (M + 960) 960 : Nat)) else (fX1_frontAt N w1 (iZ s) (iZ (fB (w.1 56) s (M + 960) 960 : Nat))).bind fun z4 => some (z4.1, z4.2)) else fX7_refuse w1 (cd 3) := by
    rw [e_entry7 h, if_pos q, if_pos i5, i6, e8, p1, Option.bind_some]
    show (if iZ (fB (w.1 56) s (M + 960) 960 : Nat) < w1.1 8 s + 960 then _ else _) = _
    rw [p2.2 8 (by omega), e8, e9]
  by_cases z : fB (w.1 56) s (M + 960) 960 < M + 960
  · rw [if_pos (by rw [iZ_lt (by omega) (by omega) (by omega) (by omega)]; omega)] at A
    by_cases y0 : y = 0
    · rw [if_pos y0] at A
      obtain ⟨w2, b1, b2⟩ := B w1 hi p2.toG.r
      rw [if_pos z, if_pos y0] at b1
      exact ⟨w1, w2, _, A, b1, b2.Inv hi⟩
    · obtain ⟨w3, o1, o2, o3, o4, o5⟩ := at_eq hN (h.ist.r2 p2) h.wt (t := ((fB (w.1 56) s (M + 960) 960 : Nat) : Int)) (by omega) (by omega)
      have fa : fX1_frontAt N w1 (iZ s) (iZ (fB (w.1 56) s (M + 960) 960 : Nat)) = some (w3, iZ (fro (w.1 56) s (fB (w.1 56) s (M + 960) 960 : Nat))) := by
        unfold fX1_frontAt fX1_frontAt_0
        rw [o1, Option.bind_some, if_pos i5, i6, o2.2 7 (by omega), p2.2 7 (by omega), hd.1, frontTo6_eq o4]
        rfl
      rw [if_neg y0, fa, Option.bind_some] at A
      have hi3 : Inv w3 := (p2.tr o2).toG.Inv h
      obtain ⟨w2, b1, b2⟩ := B w3 hi3 (p2.tr o2).toG.r
      rw [if_pos z, if_neg y0] at b1
      exact ⟨w3, w2, _, A, b1, b2.Inv hi3⟩
  · rw [if_neg (by rw [iZ_lt (by omega) (by omega) (by omega) (by omega)]; omega)] at A
    have o := RF_oth w1 3
    have hq : TOK (RF w1 3) := o.toTOK hi.2.1
    have e : (RF w1 3).1 56 = w.1 56 := by rw [RF_r w1 3 (by omega)]; exact p2.toG.r
    have b0 : ∃ w', fX8_entry N (RF w1 3) (iZ s) y = fX8_finding w' (cd 3) ∧ G (RF w1 3) w' := by
      rw [e_entry8 (by rw [e]; exact h.1.1.2), e, if_pos q, (shIs e s6).2.1, Option.bind_some, hM]
      obtain ⟨w', g1, g2⟩ := entry8_loop hN h.wt s6 hs y hM9 960 N M (RF w1 3) (by omega) (by omega) e hq
      rw [show M + 960 - M = 960 by omega, if_neg z] at g1
      exact ⟨w', g1, g2⟩
    obtain ⟨w2, b1, b2⟩ := b0
    exact Both.ref h 3 (by omega) A p2.toG b1 b2
end ENTRY
