/-! the reference reads an item; what it does with the items it has read -/
section READ8
variable {B : Nat → Int} {U N : Nat} {w : xW} {r : Nat → Int32} {its : List It}
theorem b_some {α : Type} (o : Option α) : (o.bind fun z => some z) = o := by cases o <;> rfl
theorem wSet (hl : its.length < 120) {q : Nat} (h : ST B U q true its w) (m : Nat) (x1 x2 x3 : Int32) : Wr8 B U q w (fX8_readSet_28 N (m + 1) w x1 x2 x3) := by
  rw [fX8_readSet_28]
  unfold fX8_readSet_28b fX8_readSet_73
  rw [h.2.2.1.2, if_neg bT]
  exact item8w hl h _ _ _ _ _
theorem ap3 (s b : Int) (hs : 0 ≤ s ∧ s ≤ 2) : ap (3, s, b, 0, 0) r 9 = r 9 ∧ ap (3, s, b, 0, 0) r 10 = r 10 := by
  constructor
  · show up r (4 + s.toNat) (iZ b) 9 = _
    exact up_ne (by omega)
  · show up r (4 + s.toNat) (iZ b) 10 = _
    exact up_ne (by omega)
theorem set8_loop (hN : 20000 ≤ N) (hl : its.length < 120) {s : Nat} (hs : s < 3) : ∀ (n m : Nat) (v : Int) (bits q : Nat) (w : xW), 29 - v < n → n < m → 0 ≤ v → v ≤ 29 → bits < 2 ^ 30 → ST B U q false its w → CN r w → Out8 B U r its w (fX8_readSet_28 N m w (iZ (s : Nat)) (iZ v) (iZ (bits : Nat))) (pb (if ty B U q = 2 then pSet B U n (v + 1) bits q else .inr ((bits : Int), q)) fun b q1 => .inr ((3, (s : Int), b, 0, 0), q1))
  | 0, _, v, _, _, _, hn, _, _, h29, _, _, _ => absurd hn (by omega)
  | n + 1, 0, _, _, _, _, _, hm, _, _, _, _, _ => absurd hm (by omega)
  | n + 1, m + 1, v, bits, q, w, hn, hm, v0, v29, hb, h, hC => by
    have tr := ty_rng (B := B) (U := U) q
    have t8 : ty8 B U q = 2 ↔ ty B U q = 2 := by unfold ty8; split <;> omega
    have t8r : ty8 B U q ≤ 3 := by unfold ty8; split <;> omega
    have ap3' := fun b => ap3 (r := r) (s : Int) b (by omega)
    rw [fX8_readSet_28]
    unfold fX8_readSet_28b fX8_readSet_68
    rw [h.2.2.1.2, if_pos bF, h.2.2.1.1.2.2.1]
    by_cases a : ty B U q = 2
    · rw [if_pos (by rw [t8.mpr a]; rfl), if_pos a, pSet]
      have e29 : iZ v + 1 = iZ (v + 1) := by rw [show (1 : Int32) = iZ 1 from rfl, iZ_add]
      rw [e29]
      by_cases c : nmB B U (v + 1) 29 q = true
      · have e1 : nm B U (v + 1) 29 q = .inr (vl B U q, nxt B U q) := by unfold nm; rw [if_pos c]
        obtain ⟨-, -, -, d1, d2, -⟩ := nm_yes e1
        obtain ⟨w', g1, g2, g3⟩ := s_numy hN (lo := v + 1) (hi := 29) (by omega) (by omega) h e1
        have g1' : fX8_number N w (iZ (v + 1)) 29 = some (w', iZ (vl B U q)) := g1
        obtain ⟨sb1, sb2⟩ := set_bit hb (v := vl B U q) (by omega) d2
        rw [g1', Option.bind_some, if_pos c, g3.2.2.1.2, if_pos bF]
        show Out8 B U r its w (fX8_readSet_28 N m w' (iZ (s : Nat)) (iZ (vl B U q)) (iZ (bits : Nat) ||| ((1 : Int32) <<< (iZ (vl B U q) &&& 31)))) _
        rw [sb1]
        exact (set8_loop hN hl hs n m (vl B U q) (bits ||| 2 ^ (vl B U q).toNat) (nxt B U q) w' (by omega) (by omega) (by omega) d2 sb2 g3 (hC.rn g2)).pre g2.q
      · have e1 : nm B U (v + 1) 29 q = .inl q := by unfold nm; rw [if_neg c]
        obtain ⟨w', x, g1, g2, g3⟩ := s_numn (N := N) (lo := v + 1) (hi := 29) (by omega) (by omega) h e1
        have g1' : fX8_number N w (iZ (v + 1)) 29 = some (w', x) := g1
        obtain ⟨m', rfl⟩ : ∃ m', m = m' + 1 := ⟨m - 1, by omega⟩
        rw [g1', Option.bind_some, if_neg c, g3.2.2.1.2, if_neg bT]
        exact (wSet hl g3 m' _ _ _).pre g2.q
    · rw [if_neg (by rw [show (2 : Int32) = iZ 2 from rfl, iZ_eq (by omega) (by omega) (by omega) (by omega)]; intro y; exact a (t8.mp (by omega))), if_neg a]
      unfold fX8_readSet_73
      exact item8y hl h (3, (s : Int), (bits : Int), 0, 0) (by rw [(ap3' _).1, (ap3' _).2]; exact hC)
theorem set8 (hN : 20000 ≤ N) (hl : its.length < 120) {s : Nat} (hs : s < 3) {q : Nat} (h : ST B U q false its w) (hC : CN r w) : Out8 B U r its w (fX8_readSet N w (iZ (s : Nat))) (pb (pSet B U 31 0 0 (nxt B U q)) fun b q1 => .inr ((3, (s : Int), b, 0, 0), q1)) := by
  unfold fX8_readSet fX8_readSet_0 fX8_readSet_27
  obtain ⟨w1, a1, a2, a3⟩ := s_musty hN h
  rw [a1, Option.bind_some, pSet]
  have C1 := hC.rn a2
  generalize nxt B U q = q1 at a3
  by_cases c : nmB B U 0 29 q1 = true
  · have e1 : nm B U 0 29 q1 = .inr (vl B U q1, nxt B U q1) := by unfold nm; rw [if_pos c]
    obtain ⟨-, -, -, d1, d2, -⟩ := nm_yes e1
    obtain ⟨w', g1, g2, g3⟩ := s_numy hN (lo := 0) (hi := 29) (by omega) (by omega) a3 e1
    have g1' : fX8_number N w1 0 29 = some (w', iZ (vl B U q1)) := g1
    have sb : (1 : Int32) <<< (iZ (vl B U q1) &&& 31) = iZ ((0 ||| 2 ^ (vl B U q1).toNat : Nat) : Int) := by
      have := shl_bit (vl B U q1).toNat (by omega)
      rw [show (((vl B U q1).toNat : Nat) : Int) = vl B U q1 by omega] at this
      rw [this, Nat.zero_or]
    have sb2 : 0 ||| 2 ^ (vl B U q1).toNat < 2 ^ 30 := (set_bit (bits := 0) (by decide) (v := vl B U q1) (by omega) d2).2
    rw [g1', Option.bind_some, if_pos c, g3.2.2.1.2, if_pos bF]
    show Out8 B U r its w (fX8_readSet_28 N N w' (iZ (s : Nat)) (iZ (vl B U q1)) ((1 : Int32) <<< (iZ (vl B U q1) &&& 31))) _
    rw [sb]
    exact (set8_loop hN hl hs 30 N (vl B U q1) (0 ||| 2 ^ (vl B U q1).toNat) (nxt B U q1) w' (by omega) (by omega) (by omega) d2 sb2 g3 (C1.rn g2)).pre (a2.tr g2).q
  · have e1 : nm B U 0 29 q1 = .inl q1 := by unfold nm; rw [if_neg c]
    obtain ⟨w', x, g1, g2, g3⟩ := s_numn (N := N) (lo := 0) (hi := 29) (by omega) (by omega) a3 e1
    have g1' : fX8_number N w1 0 29 = some (w', x) := g1
    obtain ⟨n, hn⟩ : ∃ n, N = n + 1 := ⟨N - 1, by omega⟩
    have ws : ∀ M, M = n + 1 → ∀ x1 x2 x3, Wr8 B U q1 w' (fX8_readSet_28 N M w' x1 x2 x3) := fun M hM x1 x2 x3 => by
      rw [hM]
      exact wSet hl g3 n x1 x2 x3
    rw [g1', Option.bind_some, if_neg c, g3.2.2.1.2, if_neg bT]
    exact (ws N hn _ _ _).pre (a2.tr g2).q
theorem ST.w29 {q k : Nat} {b : Bool} {v : Int32} (h : ST B U q b its w) (hk : k = 28 ∨ k = 29) : ST B U q b its (sI w 55 k v) := by
  obtain ⟨h1, h2, ⟨⟨t1, t2, t3, t4⟩, t5⟩, h4, h5⟩ := h
  refine ⟨h1, h2.rq (Rq.w55 (by omega)), ⟨⟨?_, ?_, ?_, ?_⟩, ?_⟩, ?_, ?_⟩
  · rw [sI_r, if_neg (by omega)]
    exact t1
  · rw [sI_r, if_neg (by omega)]
    exact t2
  · rw [sI_r, if_neg (by omega)]
    exact t3
  · rw [sI_r, if_neg (by omega)]
    exact t4
  · rw [sI_r, if_neg (by omega)]
    exact t5
  · rw [sI_r, if_neg (by omega)]
    exact h4
  · rw [sI_ne1 (by omega)]
    exact h5
theorem readItem8 (hN : 20000 ≤ N) (hl : its.length < 120) {q : Nat} (h : ST B U q false its w) (hC : CN r w) (hW : WFr r) : Out8 B U r its w (fX8_readItem N w) (pItem B U r q) := by
  have le := wj_le (B := B) (U := U) q
  have b9 := hW.2.2.2.1
  have b10 := hW.2.2.2.2.1
  have wh : fX8_which N w = some (iZ (if 0 ≤ wj B U q ∧ wj B U q < 6 then (wj B U q : Int) else -1)) := by
    unfold fX8_which fX8_which_0
    rw [show (-1 : Int32) = iZ (-1) from rfl, show (0 : Int32) = iZ ((0 : Nat) : Int) from rfl]
    exact which8_loop hN h.1 h.2.1 h.2.2.1.1 6 N 0 (-1) (by omega) (by omega)
  have wi : fX8_which_i1 N w = some (iZ (if 6 + 0 ≤ wj B U q ∧ wj B U q < 9 then (wj B U q : Int) - 6 else -1)) := by
    unfold fX8_which_i1 fX8_which_i1_0
    rw [show (-1 : Int32) = iZ (-1) from rfl, show (0 : Int32) = iZ ((0 : Nat) : Int) from rfl]
    exact which8i_loop hN h.1 h.2.1 h.2.2.1.1 3 N 0 (-1) (by omega) (by omega)
  unfold fX8_readItem fX8_readItem_0 pItem
  simp only [b_some]
  rw [wh, wi, Option.bind_some, Option.bind_some]
  by_cases c1 : wj B U q < 6
  · rw [if_pos c1, if_pos (show 0 ≤ wj B U q ∧ wj B U q < 6 by omega), if_neg (k_neg (by omega)), hC.1]
    unfold fX8_readItem_45
    by_cases a : (r 9).toInt < 8
    · rw [if_neg (by rw [Int32.le_iff_toInt_le, show (8 : Int32).toInt = 8 from rfl]; omega), if_pos a]
      obtain ⟨w1, a1, a2, a3⟩ := s_musty hN h
      rw [a1, Option.bind_some]
      have C1 := hC.rn a2
      refine Out8.pre (w1 := sI w1 55 28 (w1.1 55 28 + 1)) ?_ (a2.q.tr (Rq.w55 (by omega)))
      simp only [b_some]
      have o := oH (r := r) hN hl (a3.w29 (k := 28) (v := w1.1 55 28 + 1) (by omega)) (wj B U q : Int) ⟨by rw [sI_ne1 (by omega), sI_r, if_pos ⟨rfl, rfl⟩, ← Int32.add_assoc, C1.1], by rw [sI_ne1 (by omega), sI_r, if_neg (by omega)]; exact C1.2⟩ ⟨b9.1, a⟩
      unfold rH at o
      simp only [b_some] at o
      exact o
    · rw [if_pos (by rw [Int32.le_iff_toInt_le, show (8 : Int32).toInt = 8 from rfl]; omega), if_neg a]
      obtain ⟨w1, a1, a2, a3⟩ := s_mustn (N := N) h
      rw [a1, Option.bind_some]
      have o := (wH (N := N) hl (a3.w29 (k := 28) (v := w1.1 55 28 + 1) (by omega)) (iZ (wj B U q : Nat))).pre (a2.q.tr (Rq.w55 (by omega)))
      exact o
  · rw [if_neg c1, if_neg (show ¬ (0 ≤ wj B U q ∧ wj B U q < 6) by omega), if_pos (show iZ (-1) < 0 by decide)]
    by_cases c2 : wj B U q < 9
    · rw [if_pos c2, if_pos (show 6 + 0 ≤ wj B U q ∧ wj B U q < 9 by omega), if_neg (by rw [show (0 : Int32) = iZ 0 from rfl, iZ_lt (by omega) (by omega) (by omega) (by omega)]; omega)]
      obtain ⟨s, hs⟩ : ∃ s : Nat, wj B U q = s + 6 := ⟨wj B U q - 6, by omega⟩
      rw [show ((wj B U q : Nat) : Int) - 6 = (s : Int) by omega]
      exact set8 hN hl (by omega) h hC
    · rw [if_neg c2, if_neg (show ¬ (6 + 0 ≤ wj B U q ∧ wj B U q < 9) by omega), if_pos (show iZ (-1) < 0 by decide), s_isw hN (by omega) h, Option.bind_some, isW_eq q (by omega)]
      by_cases c3 : wj B U q = 9
      · rw [decide_eq_true c3, if_neg bT, if_pos c3]
        unfold fX8_readShip fX8_readShip_0 fX8_readShip_23
        simp only [b_some]
        rw [hC.2]
        by_cases a : (r 10).toInt < 6
        · rw [if_neg (by rw [Int32.le_iff_toInt_le, show (6 : Int32).toInt = 6 from rfl]; omega), if_pos a]
          obtain ⟨w1, a1, a2, a3⟩ := s_musty hN h
          rw [a1, Option.bind_some]
          have C1 := hC.rn a2
          refine Out8.pre (w1 := sI w1 55 29 (w1.1 55 29 + 1)) ?_ (a2.q.tr (Rq.w55 (by omega)))
          have o := oS1 (r := r) hN hl (a3.w29 (k := 29) (v := w1.1 55 29 + 1) (by omega)) ⟨by rw [sI_ne1 (by omega), sI_r, if_neg (by omega)]; exact C1.1, by rw [sI_ne1 (by omega), sI_r, if_pos ⟨rfl, rfl⟩, ← Int32.add_assoc, C1.2]⟩
          unfold rS1 rS2 rS3 rS4 rS5 rS6 at o
          simp only [b_some] at o
          exact o
        · rw [if_pos (by rw [Int32.le_iff_toInt_le, show (6 : Int32).toInt = 6 from rfl]; omega), if_neg a]
          obtain ⟨w1, a1, a2, a3⟩ := s_mustn (N := N) h
          rw [a1, Option.bind_some]
          have o := (wS1 hN hl (a3.w29 (k := 29) (v := w1.1 55 29 + 1) (by omega))).pre (a2.q.tr (Rq.w55 (by omega)))
          unfold rS1 rS2 rS3 rS4 rS5 rS6 at o
          simp only [b_some] at o
          exact o
      · rw [decide_eq_false c3, if_pos bF, if_neg c3, s_isw hN (by omega) h, Option.bind_some, isW_eq q (by omega)]
        by_cases c4 : wj B U q = 13
        · rw [decide_eq_true c4, if_neg bT, if_pos c4]
          obtain ⟨w1, a1, a2, a3⟩ := s_musty hN h
          rw [a1, Option.bind_some]
          have o := (oF1 (r := r) hN hl a3 (hC.rn a2)).pre a2.q
          unfold rF1 rF2 rF3 at o
          simp only [b_some] at o
          exact o
        · rw [decide_eq_false c4, if_pos bF, if_neg c4, s_isw hN (by omega) h, Option.bind_some, isW_eq q (by omega)]
          by_cases c5 : wj B U q = 16
          · rw [decide_eq_true c5, if_pos c5]
            obtain ⟨w1, a1, a2, a3⟩ := s_musty hN h
            rw [show bi true = 1 from rfl, a1, Option.bind_some]
            have o := (oW1 (r := r) hN hl a3 (hC.rn a2)).pre a2.q
            unfold rW1 rW2 at o
            simp only [b_some] at o
            exact o
          · rw [decide_eq_false c5, if_neg c5]
            obtain ⟨w1, a1, a2, a3⟩ := s_mustn (N := N) h
            rw [show bi false = 0 from rfl, a1, Option.bind_some]
            have o := (wW1 (N := N) hl a3).pre a2.q
            unfold rW1 rW2 at o
            simp only [b_some] at o
            exact o
/-! an item is so -/
theorem up_self (r : Nat → Int32) (j : Nat) : up r j (r j) = r := funext fun k => by
  unfold up
  by_cases z : k = j
  · rw [if_pos z, z]
  · rw [if_neg z]
theorem sI_up (u : xW) (j : Nat) (v : Int32) : (sI u 56 j v).1 56 = up (u.1 56) j v := sI_eq1
theorem built8 {u : xW} (hr : u.1 56 = r) {n : Nat} (h9 : r 9 = iZ (n : Nat)) (n8 : n < 8) (x y : Int32) : ∃ u' v, fX8_built u x y = some (u', v) ∧ u'.1 56 = aH r x y ∧ u'.2 = u.2 ∧ ∀ q, q ≠ 56 → u'.1 q = u.1 q := by
  have hn : (r 9).toInt.toNat = n := by rw [h9, iZ_toInt (by omega) (by omega)]; omega
  obtain ⟨⟨i1, i2⟩, i3, i4⟩ := ix_hn n (by omega)
  have e9 : u.1 56 9 = iZ (n : Nat) := by rw [hr]; exact h9
  unfold fX8_built fX8_built_0
  rw [e9, if_pos i1, if_pos i3, i2, i4]
  have f9 : (sI (sI u 56 (11 + 2 * n) x) 56 (12 + 2 * n) y).1 56 9 = r 9 := by
    rw [sI_up, sI_up, up_ne (by omega), up_ne (by omega), hr]
  rw [f9]
  refine ⟨_, _, rfl, ?_, rfl, fun q hq => by rw [sI_ne1 hq, sI_ne1 hq, sI_ne1 hq]⟩
  rw [sI_up, sI_up, sI_up, hr]
  unfold aH
  rw [hn]
theorem sails8 {u : xW} (hr : u.1 56 = r) {n : Nat} (h10 : r 10 = iZ (n : Nat)) (n6 : n < 6) (x y z v : Int32) : ∃ u' a, fX8_sails u x y z v = some (u', a) ∧ u'.1 56 = aS r x y z v ∧ u'.2 = u.2 ∧ ∀ q, q ≠ 56 → u'.1 q = u.1 q := by
  have hn : (r 10).toInt.toNat = n := by rw [h10, iZ_toInt (by omega) (by omega)]; omega
  have ix := (ix_s n n6).1
  have i0 : ibd ((27 + (4 * iZ (n : Int))) + 0) 51 = true ∧ ((27 + (4 * iZ (n : Int))) + 0).toNatClampNeg = 27 + 4 * n := ix 0 (by omega)
  have i1 : ibd ((27 + (4 * iZ (n : Int))) + 1) 51 = true ∧ ((27 + (4 * iZ (n : Int))) + 1).toNatClampNeg = 28 + 4 * n := by
    have := ix 1 (by omega)
    exact ⟨this.1, this.2.trans (by omega)⟩
  have i2 : ibd ((27 + (4 * iZ (n : Int))) + 2) 51 = true ∧ ((27 + (4 * iZ (n : Int))) + 2).toNatClampNeg = 29 + 4 * n := by
    have := ix 2 (by omega)
    exact ⟨this.1, this.2.trans (by omega)⟩
  have i3 : ibd ((27 + (4 * iZ (n : Int))) + 3) 51 = true ∧ ((27 + (4 * iZ (n : Int))) + 3).toNatClampNeg = 30 + 4 * n := by
    have := ix 3 (by omega)
    exact ⟨this.1, this.2.trans (by omega)⟩
  have e10 : u.1 56 10 = iZ (n : Nat) := by rw [hr]; exact h10
  unfold fX8_sails fX8_sails_0 fX8_sails_67
  rw [e10, if_pos i0.1, if_pos i1.1, if_pos i2.1, if_pos i3.1, i0.2, i1.2, i2.2, i3.2, if_pos (show ibd 10 51 = true by decide +kernel), show (10 : Int32).toNatClampNeg = 10 by decide +kernel]
  have f10 : (sI (sI (sI (sI u 56 (27 + 4 * n) x) 56 (28 + 4 * n) y) 56 (29 + 4 * n) z) 56 (30 + 4 * n) v).1 56 10 = r 10 := by
    rw [sI_up, sI_up, sI_up, sI_up, up_ne (by omega), up_ne (by omega), up_ne (by omega), up_ne (by omega), hr]
  rw [f10]
  refine ⟨_, _, rfl, ?_, rfl, fun q hq => by rw [sI_ne1 hq, sI_ne1 hq, sI_ne1 hq, sI_ne1 hq, sI_ne1 hq]⟩
  rw [sI_up, sI_up, sI_up, sI_up, sI_up, hr]
  unfold aS
  rw [hn]
theorem isSo8 {u : xW} {it : It} (hr : u.1 56 = r) (hW : WFr r) (hW2 : WFr (ap it r)) (hB : IB it) {k : Nat} (hk : k < 119) (h0 : u.1 73 (5 * k) = iZ it.1) (h1 : u.1 73 (5 * k + 1) = iZ it.2.1) (h2 : u.1 73 (5 * k + 2) = iZ it.2.2.1) (h3 : u.1 73 (5 * k + 3) = iZ it.2.2.2.1) (h4 : u.1 73 (5 * k + 4) = iZ it.2.2.2.2) : ∃ u', fX8_isSo u (5 * iZ (k : Nat)) = some u' ∧ u'.1 56 = ap it r ∧ u'.2 = u.2 ∧ ∀ q, q ≠ 56 → u'.1 q = u.1 q := by
  have e0 : (5 : Int32) * iZ (k : Nat) = iZ ((5 * k : Nat) : Int) := by
    rw [show (5 : Int32) = iZ 5 from rfl, iZ_mul]
    congr 1
  have e1 : iZ ((5 * k : Nat) : Int) + 1 = iZ ((5 * k + 1 : Nat) : Int) := by rw [show (1 : Int32) = iZ 1 from rfl, iZ_add]; congr 1
  have e2 : iZ ((5 * k : Nat) : Int) + 2 = iZ ((5 * k + 2 : Nat) : Int) := by rw [show (2 : Int32) = iZ 2 from rfl, iZ_add]; congr 1
  have e3 : iZ ((5 * k : Nat) : Int) + 3 = iZ ((5 * k + 3 : Nat) : Int) := by rw [show (3 : Int32) = iZ 3 from rfl, iZ_add]; congr 1
  have e4 : iZ ((5 * k : Nat) : Int) + 4 = iZ ((5 * k + 4 : Nat) : Int) := by rw [show (4 : Int32) = iZ 4 from rfl, iZ_add]; congr 1
  obtain ⟨a0, c0⟩ := ix_i (n := k) (by omega) 0 (by omega)
  obtain ⟨a1, c1⟩ := ix_i (n := k) (by omega) 1 (by omega)
  obtain ⟨a2, c2⟩ := ix_i (n := k) (by omega) 2 (by omega)
  obtain ⟨a3, c3⟩ := ix_i (n := k) (by omega) 3 (by omega)
  obtain ⟨a4, c4⟩ := ix_i (n := k) (by omega) 4 (by omega)
  rw [Nat.add_zero] at a0 c0
  unfold fX8_isSo fX8_isSo_0
  rw [e0, e1, e2, e3, e4, if_pos a1, if_pos a2, if_pos a3, if_pos a0, c0, c1, c2, c3, c4, h0, h1, h2, h3, h4]
  rcases hB with q | q | ⟨q, q1, q2⟩ | ⟨q, q1, q2⟩ | q
  · rw [if_pos (by rw [q]; rfl)]
    have ea : ap it r = aH r (iZ it.2.1) (iZ it.2.2.1) := by unfold ap; rw [if_pos q]
    rw [ea] at hW2 ⊢
    have b9 := hW.2.2.2.1
    obtain ⟨n, hn, n8⟩ : ∃ n : Nat, r 9 = iZ (n : Nat) ∧ n ≤ 8 := ⟨(r 9).toInt.toNat, by rw [Int.toNat_of_nonneg b9.1, iZ_self], by omega⟩
    have b9' := hW2.2.2.2.1.2
    have e9 : aH r (iZ it.2.1) (iZ it.2.2.1) 9 = iZ ((n + 1 : Nat) : Int) := by
      unfold aH
      rw [up_eq, hn, iZ_s1]
    rw [e9, iZ_toInt (by omega) (by omega)] at b9'
    obtain ⟨u', v, g1, g2, g3, g4⟩ := built8 hr hn (by omega) (iZ it.2.1) (iZ it.2.2.1)
    rw [g1]
    exact ⟨u', rfl, g2, g3, g4⟩
  · rw [if_neg (by rw [q]; decide), if_pos (by rw [q]; rfl), if_pos a4]
    have ea : ap it r = aS r (iZ it.2.1) (iZ it.2.2.1) (iZ it.2.2.2.1) (iZ it.2.2.2.2) := by unfold ap; rw [if_neg (by omega), if_pos q]
    rw [ea] at hW2 ⊢
    have b10 := hW.2.2.2.2.1
    obtain ⟨n, hn, n6⟩ : ∃ n : Nat, r 10 = iZ (n : Nat) ∧ n ≤ 6 := ⟨(r 10).toInt.toNat, by rw [Int.toNat_of_nonneg b10.1, iZ_self], by omega⟩
    have b10' := hW2.2.2.2.2.1.2
    have e10 : aS r (iZ it.2.1) (iZ it.2.2.1) (iZ it.2.2.2.1) (iZ it.2.2.2.2) 10 = iZ ((n + 1 : Nat) : Int) := by
      unfold aS
      rw [up_eq, hn, iZ_s1]
    rw [e10, iZ_toInt (by omega) (by omega)] at b10'
    obtain ⟨u', v, g1, g2, g3, g4⟩ := sails8 hr hn (by omega) (iZ it.2.1) (iZ it.2.2.1) (iZ it.2.2.2.1) (iZ it.2.2.2.2)
    rw [g1]
    exact ⟨u', rfl, g2, g3, g4⟩
  · rw [if_neg (by rw [q]; decide), if_neg (by rw [q]; decide), if_pos (by rw [q]; rfl)]
    have ea : ap it r = aF r it.2.1 it.2.2.1 it.2.2.2.1 := by unfold ap; rw [if_neg (by omega), if_neg (by omega), if_pos q]
    rw [ea]
    have fin : ∀ (x : Int32), ∃ u', fX8_isSo_122 (sI u 56 0 (iZ it.2.1)) (iZ it.2.2.2.1) x 1 = some u' ∧ u'.1 56 = aO (up (up r 0 (iZ it.2.1)) 1 x) 2 it.2.2.2.1 ∧ u'.2 = u.2 ∧ ∀ q, q ≠ 56 → u'.1 q = u.1 q := by
      intro x
      unfold fX8_isSo_122 fX8_isSo_144
      rw [if_pos (show ibd 1 51 = true by decide +kernel), if_pos (show ibd 2 51 = true by decide +kernel), show (1 : Int32).toNatClampNeg = 1 by decide +kernel, show (2 : Int32).toNatClampNeg = 2 by decide +kernel]
      unfold aO
      by_cases z : it.2.2.2.1 < 0
      · rw [if_neg (by rw [show (0 : Int32) = iZ 0 from rfl, iZ_le (by omega) (by omega) (by omega) (by omega)]; omega), if_pos (show ibd 2 51 = true by decide +kernel), if_pos z]
        refine ⟨_, rfl, ?_, rfl, fun q hq => by rw [sI_ne1 hq, sI_ne1 hq, sI_ne1 hq]⟩
        rw [sI_up, sI_up, sI_up, hr]
        exact up_self _ 2
      · rw [if_pos (by rw [show (0 : Int32) = iZ 0 from rfl, iZ_le (by omega) (by omega) (by omega) (by omega)]; omega), if_neg z]
        refine ⟨_, rfl, ?_, rfl, fun q hq => by rw [sI_ne1 hq, sI_ne1 hq, sI_ne1 hq]⟩
        rw [sI_up, sI_up, sI_up, hr]
    unfold aF
    by_cases z : it.2.2.1 < 0
    · rw [if_neg (by rw [show (0 : Int32) = iZ 0 from rfl, iZ_le (by omega) (by omega) (by omega) (by omega)]; omega)]
      have f := fin ((sI u 56 0 (iZ it.2.1)).1 56 1)
      have ex : aO (up r 0 (iZ it.2.1)) 1 it.2.2.1 = up (up r 0 (iZ it.2.1)) 1 ((sI u 56 0 (iZ it.2.1)).1 56 1) := by
        unfold aO
        rw [if_pos z, sI_up, hr]
        exact (up_self _ 1).symm
      rw [ex]
      exact f
    · rw [if_pos (by rw [show (0 : Int32) = iZ 0 from rfl, iZ_le (by omega) (by omega) (by omega) (by omega)]; omega)]
      have ex : aO (up r 0 (iZ it.2.1)) 1 it.2.2.1 = up (up r 0 (iZ it.2.1)) 1 (iZ it.2.2.1) := by
        unfold aO
        rw [if_neg z]
      rw [ex]
      exact fin _
  · rw [if_neg (by rw [q]; decide), if_neg (by rw [q]; decide), if_neg (by rw [q]; decide), if_pos (by rw [q]; rfl)]
    have ea : ap it r = up r (4 + it.2.1.toNat) (iZ it.2.2.1) := by unfold ap; rw [if_neg (by omega), if_neg (by omega), if_neg (by omega), if_pos q]
    have e4' : (4 : Int32) + iZ it.2.1 = iZ (4 + it.2.1) := by rw [show (4 : Int32) = iZ 4 from rfl, iZ_add]
    rw [ea, e4', if_pos ((ibd_iZ (by omega) (by omega)).mpr (by omega)), iZ_clamp (by omega) (by omega), show (4 + it.2.1).toNat = 4 + it.2.1.toNat by omega]
    refine ⟨_, rfl, ?_, rfl, fun q hq => sI_ne1 hq⟩
    rw [sI_up, hr]
  · rw [if_neg (by rw [q]; decide), if_neg (by rw [q]; decide), if_neg (by rw [q]; decide), if_neg (by rw [q]; decide)]
    have ea : ap it r = up (up r 7 (iZ it.2.1)) 8 (iZ it.2.2.1) := by unfold ap; rw [if_neg (by omega), if_neg (by omega), if_neg (by omega), if_neg (by omega)]
    rw [ea]
    refine ⟨_, rfl, ?_, rfl, fun q hq => by rw [sI_ne1 hq, sI_ne1 hq]⟩
    rw [sI_up, sI_up, hr]
end READ8
