/-! sunniest, days, exchange -/
section EX
variable {w : xW} {N : Nat}
/-- of house h: kind, front, as whole numbers -/
def hK (r : Nat → Int32) (h : Nat) : Nat := (r (11 + 2 * h)).toInt.toNat
def hF (r : Nat → Int32) (h : Nat) : Int := (r (12 + 2 * h)).toInt
def hS (r : Nat → Int32) (a n h : Nat) : Int := gaS r (hK r h) (hF r h) a n
theorem hd2 (h : Inv w) {n : Nat} (nh : (n : Int) < (w.1 56 9).toInt) : hK (w.1 56) n < 6 ∧ (0 ≤ hF (w.1 56) n ∧ hF (w.1 56) n ≤ 3) ∧ (w.1 56 (11 + 2 * n) = iZ (hK (w.1 56) n) ∧ w.1 56 (12 + 2 * n) = iZ (hF (w.1 56) n)) ∧ w.1 5 n = iZ (hK (w.1 56) n) ∧ w.1 6 n = iZ (hF (w.1 56) n) := by
  have b := h.1.1.2.2.2.2.2.2.1 n nh
  have g := h.1.1.1.2.2.2.2.2.2.1 n nh
  have e1 : w.1 56 (11 + 2 * n) = iZ (hK (w.1 56) n) := by unfold hK; rw [Int.toNat_of_nonneg b.1.1, iZ_self]
  have e2 : w.1 56 (12 + 2 * n) = iZ (hF (w.1 56) n) := by unfold hF; rw [iZ_self]
  exact ⟨by unfold hK; omega, b.2, ⟨e1, e2⟩, g.1.trans e1, g.2.trans e2⟩
theorem sun7_loop (hN : 20000 ≤ N) {r : Nat → Int32} (hw1 : w.1 1 1 = r 7) (hw2 : w.1 1 2 = r 8) {a n H : Nat} (h8 : H ≤ 8) (h13 : w.1 1 3 = iZ H) (hC : ∀ c, c < 120 → w.1 32 c = iZ (gcn r a n c)) (hd : ∀ h, h < H → (0 ≤ hF r h ∧ hF r h ≤ 3) ∧ w.1 5 h = iZ (hK r h) ∧ w.1 6 h = iZ (hF r h) ∧ 0 ≤ hS r a n h ∧ hS r a n h ≤ 17280) : ∀ (j m f b : Nat), j < m → f + j = H → b < H → fX7_sunniest_84 N m w (iZ b) (iZ (hS r a n b)) (iZ f) = some (w, iZ (bstF (hS r a n) j f b : Nat))
  | _, 0, _, _, hm, _, _ => absurd hm (by omega)
  | 0, m + 1, f, b, _, hf, _ => by
    obtain rfl : f = H := by omega
    rw [fX7_sunniest_84]
    unfold fX7_sunniest_84b
    rw [h13, if_pos (by rw [iZ_le (by omega) (by omega) (by omega) (by omega)]; omega)]
    rfl
  | j + 1, m + 1, f, b, hm, hf, hb => by
    obtain ⟨-, -, i5, i6⟩ := ix_h f (by omega)
    obtain ⟨d1, d2, d3, d4⟩ := hd f (by omega)
    obtain ⟨-, -, -, d5⟩ := hd b hb
    rw [fX7_sunniest_84]
    unfold fX7_sunniest_84b fX7_sunniest_143
    rw [h13, if_neg (by rw [iZ_le (by omega) (by omega) (by omega) (by omega)]; omega), if_pos i5, i6, d2, d3, sumOf_eq hN hw1 hw2 hC d1.1 d1.2, Option.bind_some, iZ_s1, bstF]
    show (if iZ (hS r a n f) ≤ iZ (hS r a n b) then _ else _) = _
    by_cases z : hS r a n f ≤ hS r a n b
    · rw [if_pos ((iZ_le (by omega) (by omega) (by omega) (by omega)).mpr z), if_pos z]
      exact sun7_loop hN hw1 hw2 h8 h13 hC hd j m (f + 1) b (by omega) (by omega) hb
    · rw [if_neg (fun q => z ((iZ_le (by omega) (by omega) (by omega) (by omega)).mp q)), if_neg z]
      exact sun7_loop hN hw1 hw2 h8 h13 hC hd j m (f + 1) f (by omega) (by omega) (by omega)
theorem sun8_loop (hN : 20000 ≤ N) {r : Nat → Int32} (hw : WFr r) {a n H : Nat} (ha : a + n < 14000) (h8 : H ≤ 8) (h9 : r 9 = iZ H) (hd : ∀ h, h < H → hK r h < 6 ∧ (0 ≤ hF r h ∧ hF r h ≤ 3) ∧ (r (11 + 2 * h) = iZ (hK r h) ∧ r (12 + 2 * h) = iZ (hF r h)) ∧ 0 ≤ hS r a n h ∧ hS r a n h ≤ 17280) : ∀ (j m f b : Nat) (w : xW), j < m → f + j = H → b < H → w.1 56 = r → TOK w → ∃ w', fX8_sunniest_29 N m w (iZ a) (iZ n) (iZ b) (iZ (hS r a n b)) (iZ f) = some (w', iZ (bstF (hS r a n) j f b : Nat)) ∧ G w w'
  | _, 0, _, _, _, hm, _, _, _, _ => absurd hm (by omega)
  | 0, m + 1, f, b, w, _, hf, hb, e, _ => by
    obtain rfl : f = H := by omega
    rw [fX8_sunniest_29]
    unfold fX8_sunniest_29b
    rw [e, h9, if_pos (by rw [iZ_le (by omega) (by omega) (by omega) (by omega)]; omega), if_pos (by rw [show (0 : Int32) = iZ 0 from rfl, iZ_le (by omega) (by omega) (by omega) (by omega)]; omega)]
    exact ⟨w, rfl, G.rf⟩
  | j + 1, m + 1, f, b, w, hm, hf, hb, e, hT => by
    obtain ⟨d1, d2, d3, d4⟩ := hd f (by omega)
    obtain ⟨-, -, -, d5⟩ := hd b hb
    obtain ⟨u1, p1, p2, p3⟩ := sum8 hN e hw hT (show f < 8 by omega) d1 d3.1 d2.1 d2.2 ha
    rw [fX8_sunniest_29]
    unfold fX8_sunniest_29b fX8_sunniest_68 fX8_sunniest_75
    rw [e, h9, if_neg (by rw [iZ_le (by omega) (by omega) (by omega) (by omega)]; omega), fOf (by omega) (by rw [e]; exact d3.2), Option.bind_some, p1, Option.bind_some, if_neg (k_neg (by omega)), iZ_s1, bstF]
    show ∃ w', (if iZ (hS r a n f) ≤ iZ (hS r a n b) then _ else _) = _ ∧ _
    by_cases z : hS r a n f ≤ hS r a n b
    · rw [if_pos ((iZ_le (by omega) (by omega) (by omega) (by omega)).mpr z), if_pos z]
      obtain ⟨w', g1, g2⟩ := sun8_loop hN hw ha h8 h9 hd j m (f + 1) b u1 (by omega) (by omega) hb (p2.r.trans e) p3
      exact ⟨w', g1, p2.tr g2⟩
    · rw [if_neg (fun q => z ((iZ_le (by omega) (by omega) (by omega) (by omega)).mp q)), if_neg z]
      obtain ⟨w', g1, g2⟩ := sun8_loop hN hw ha h8 h9 hd j m (f + 1) f u1 (by omega) (by omega) (by omega) (p2.r.trans e) p3
      exact ⟨w', g1, p2.tr g2⟩
theorem e_sun7 (x y : Int32) : fX7_sunniest N w x y = if (dTick x && dN y) = true then (if (w.1 1 3) = 0 then fX7_refuse w (cd 3) else (fX3_watch N w x y).bind fun z1 => (fX3_sumOf N z1 (z1.1 5 0) (z1.1 6 0)).bind fun z3 => fX7_sunniest_84 N N z1 0 z3 1) else fX7_refuse w (cd 0) := by
  unfold fX7_sunniest fX7_sunniest_0
  rw [isSpan7, bind_id, bind_id, c_0, c_3]
  cases dTick x <;> cases dN y <;> rfl
theorem e_sun8 (x y : Int32) : fX8_sunniest N w x y = if (dTick x && dN y) = true then fX8_sunniest_29 N N w x y (-1) 0 0 else fX8_finding w (cd 0) := by
  unfold fX8_sunniest fX8_sunniest_0 fX8_sunniest_14
  rw [tick8, span8, bind_id, c_0]
  cases dTick x <;> cases dN y <;> rfl
theorem P_sunniest (hN : 20000 ≤ N) (h : Inv w) (x y : Int32) : Both (fun w => fX7_sunniest N w x y) (fun w => fX8_sunniest N w x y) w := by
  refine Both.guard h (dTick x && dN y) 0 (by omega) (fun q => by show fX7_sunniest N w x y = _; rw [e_sun7, q, if_neg (by decide)]) (fun q => by show fX8_sunniest N _ x y = _; rw [e_sun8, q, if_neg (by decide)]) (fun q => ?_)
  obtain ⟨q2, q3⟩ := Bool.and_eq_true_iff.mp q
  obtain ⟨t, rfl, ht⟩ := dTick_of q2
  obtain ⟨c, rfl, c1, c960⟩ := dN_of q3
  obtain ⟨H, hH, H8, h13⟩ := cnt8 h
  have hHi : (w.1 56 9).toInt = H := by rw [hH, iZ_toInt (by omega) (by omega)]
  obtain ⟨M, rfl⟩ := Nat.exists_eq_add_of_le hN
  refine Both.guard h (decide (0 < H)) 3 (by omega) (fun z => ?_) (fun z => ?_) (fun z => ?_)
  · have z := of_decide_eq_false z
    obtain rfl : H = 0 := by omega
    show fX7_sunniest _ w _ _ = _
    rw [e_sun7, if_pos q, h13, if_pos (show iZ ((0 : Nat) : Int) = 0 from rfl)]
  · have z := of_decide_eq_false z
    obtain rfl : H = 0 := by omega
    show fX8_sunniest _ _ _ _ = _
    rw [e_sun8, if_pos q, show 20000 + M = (19999 + M) + 1 by omega, fX8_sunniest_29]
    unfold fX8_sunniest_29b
    rw [RF_r w 3 (by omega), hH, if_pos (show iZ ((0 : Nat) : Int) ≤ 0 by decide), if_neg (show ¬ (0 : Int32) ≤ -1 by decide), bind_id, c_3]
  · have z := of_decide_eq_true z
    have hd : ∀ m, m < H → hK (w.1 56) m < 6 ∧ (0 ≤ hF (w.1 56) m ∧ hF (w.1 56) m ≤ 3) ∧ (w.1 56 (11 + 2 * m) = iZ (hK (w.1 56) m) ∧ w.1 56 (12 + 2 * m) = iZ (hF (w.1 56) m)) ∧ w.1 5 m = iZ (hK (w.1 56) m) ∧ w.1 6 m = iZ (hF (w.1 56) m) := fun m hm => hd2 h (by omega)
    have hb : ∀ m, m < H → 0 ≤ hS (w.1 56) t c m ∧ hS (w.1 56) t c m ≤ 17280 := fun m hm => gaS_rng h.1.1.2 (hd m hm).1 _ t c960
    refine Both.ask h (iZ (bstF (hS (w.1 56) t c) (H - 1) 1 0 : Nat)) ?_ (fun w1 h1 e => ?_)
    · obtain ⟨w1, p1, p2, p3⟩ := watch_eq hN (a := t) (n := c) (by omega) h
      have r1 : w1.1 1 = w.1 1 := p2.2 1 (by omega) (by omega) (by omega)
      have r5 : w1.1 5 = w.1 5 := p2.2 5 (by omega) (by omega) (by omega)
      have r6 : w1.1 6 = w.1 6 := p2.2 6 (by omega) (by omega) (by omega)
      have g1 : w1.1 1 1 = w.1 56 7 := by rw [r1]; exact h.1.1.1.2.2.1
      have g2 : w1.1 1 2 = w.1 56 8 := by rw [r1]; exact h.1.1.1.2.2.2.1
      have d0 := hd 0 z
      refine ⟨w1, ?_, p2.toG⟩
      rw [e_sun7, if_pos q, h13, if_neg (by rw [show (0 : Int32) = iZ 0 from rfl, iZ_eq (by omega) (by omega) (by omega) (by omega)]; omega), p1, Option.bind_some, r5, r6, d0.2.2.2.1, d0.2.2.2.2, sumOf_eq hN (r := w.1 56) g1 g2 p3 d0.2.1.1 d0.2.1.2, Option.bind_some]
      exact sun7_loop hN g1 g2 H8 (by rw [r1]; exact h13) p3 (fun m hm => ⟨(hd m hm).2.1, by rw [r5]; exact (hd m hm).2.2.2.1, by rw [r6]; exact (hd m hm).2.2.2.2, hb m hm⟩) (H - 1) _ 1 0 (by omega) (by omega) z
    · have d0 := hd 0 z
      obtain ⟨u1, p1, p2, p3⟩ := sum8 hN e h.1.1.2 h1.2.1 (show 0 < 8 by omega) d0.1 d0.2.2.1.1 d0.2.1.1 d0.2.1.2 (a := t) (n := c) (by omega)
      have f0 := fOf (u := w1) (n := 0) (by omega) (by rw [e]; exact d0.2.2.1.2)
      rw [show iZ ((0 : Nat) : Int) = 0 from rfl] at p1 f0
      rw [e_sun8, if_pos q]
      have st : fX8_sunniest_29 (20000 + M) (20000 + M) w1 (iZ t) (iZ c) (-1) 0 0 = fX8_sunniest_29 (20000 + M) (19999 + M) u1 (iZ t) (iZ c) (iZ ((0 : Nat) : Int)) (iZ (hS (w.1 56) t c 0)) (iZ ((1 : Nat) : Int)) := by
        conv => lhs; rw [show 20000 + M = (19999 + M) + 1 by omega, fX8_sunniest_29]
        unfold fX8_sunniest_29b fX8_sunniest_68 fX8_sunniest_75
        rw [show 19999 + M + 1 = 20000 + M by omega, e, hH, if_neg (by rw [show (0 : Int32) = iZ 0 from rfl, iZ_le (by omega) (by omega) (by omega) (by omega)]; omega), f0, Option.bind_some, p1, Option.bind_some, if_pos (show (-1 : Int32) < 0 by decide)]
        rfl
      rw [st]
      obtain ⟨w', g1, g2⟩ := sun8_loop hN h.1.1.2 (a := t) (n := c) (by omega) H8 hH (fun m hm => ⟨(hd m hm).1, (hd m hm).2.1, (hd m hm).2.2.1, hb m hm⟩) (H - 1) (19999 + M) 1 0 u1 (by omega) (by omega) z (p2.r.trans e) p3
      exact ⟨w', g1, p2.tr g2⟩
/-! days -/
def anyL (r : Nat → Int32) (f s : Int) (b : Nat) : Nat → Bool
  | 0 => false
  | j + 1 => decide (tSide r f ((b + (3 - j) : Nat) : Int) = s) || anyL r f s b j
def dayN (r : Nat → Int32) (f s : Int) (b : Nat) : Nat → Int
  | 0 => 0
  | d + 1 => dayN r f s b d + (if anyL r f s (b + d * 96) 4 = true then 1 else 0)
theorem dayN_rng (r : Nat → Int32) (f s : Int) (b : Nat) : ∀ d, 0 ≤ dayN r f s b d ∧ dayN r f s b d ≤ d
  | 0 => by rw [dayN]; omega
  | d + 1 => by
    have := dayN_rng r f s b d
    rw [dayN]
    split <;> omega
theorem lk7 (hN : 20000 ≤ N) (h0 : Inv w) {f s : Int} (s0 : -1 ≤ s) (s3 : s ≤ 3) {b : Nat} (hb : b + 4 < 14000) : ∀ (j m : Nat) (u : xW), j < m → j ≤ 4 → RT w u → ∃ w', fX7_looksInHour_3 N m u (iZ f) (iZ s) (iZ b) (iZ ((b + (4 - j) : Nat) : Int)) = some (w', bi (anyL (w.1 56) f s b j)) ∧ RT w w'
  | _, 0, _, hm, _, _ => absurd hm (by omega)
  | 0, m + 1, u, _, _, hR => by
    rw [fX7_looksInHour_3]
    unfold fX7_looksInHour_3b
    rw [show (4 : Int32) = iZ 4 from rfl, iZ_add, if_pos (by rw [iZ_le (by omega) (by omega) (by omega) (by omega)]; omega)]
    exact ⟨u, rfl, hR⟩
  | j + 1, m + 1, u, hm, hj, hR => by
    have hu := hR.toG.Inv h0
    have er : u.1 56 = w.1 56 := hR.2 56 (by omega) (by omega) (by omega)
    obtain ⟨w1, p1, p2, p3, p4, p5⟩ := at_eq hN (r := w.1 56) (by rw [← er]; exact hu.ist) h0.wt (t := ((b + (4 - (j + 1)) : Nat) : Int)) (by omega) (by omega)
    have g1 : RT w w1 := hR.tr ⟨p2.1, fun q g _ _ => p2.2 q g⟩
    have rg := tSide_rng (w.1 56) f ((b + (4 - (j + 1)) : Nat) : Int)
    rw [fX7_looksInHour_3]
    unfold fX7_looksInHour_3b
    rw [show (4 : Int32) = iZ 4 from rfl, iZ_add, if_neg (by rw [iZ_le (by omega) (by omega) (by omega) (by omega)]; omega), p1, Option.bind_some, sideOf6_eq p4 p5, iZ_s1, anyL, show b + (3 - j) = b + (4 - (j + 1)) by omega]
    by_cases z : tSide (w.1 56) f ((b + (4 - (j + 1)) : Nat) : Int) = s
    · rw [if_pos (by rw [z]), decide_eq_true z]
      exact ⟨w1, rfl, g1⟩
    · rw [if_neg (fun q => z ((iZ_eq (by omega) (by omega) (by omega) (by omega)).mp q)), decide_eq_false z, Bool.false_or]
      have := lk7 hN h0 (f := f) s0 s3 hb j m w1 (by omega) (by omega) g1
      rw [show b + (4 - j) = b + (4 - (j + 1)) + 1 by omega] at this
      exact this
theorem days7_loop (hN : 20000 ≤ N) (h0 : Inv w) {n : Nat} (n8 : n < 8) {f s : Int} (h6 : w.1 6 n = iZ f) (s0 : -1 ≤ s) (s3 : s ≤ 3) {b : Nat} (hb : b + 3000 < 14000) : ∀ (j m d : Nat) (u : xW), j < m → d + j = 30 → RT w u → ∃ w', fX7_days_60 N m u (iZ n) (iZ s) (iZ b) (iZ (dayN (w.1 56) f s b d)) (iZ d) = some (w', iZ (dayN (w.1 56) f s b 30)) ∧ RT w w'
  | _, 0, _, _, hm, _, _ => absurd hm (by omega)
  | 0, m + 1, d, u, _, hd, hR => by
    obtain rfl : d = 30 := by omega
    rw [fX7_days_60]
    unfold fX7_days_60b
    rw [if_pos (show (30 : Int32) ≤ iZ ((30 : Nat) : Int) by decide)]
    exact ⟨u, rfl, hR⟩
  | j + 1, m + 1, d, u, hm, hd, hR => by
    obtain ⟨-, -, i5, i6⟩ := ix_h n n8
    rw [fX7_days_60]
    unfold fX7_days_60b fX7_days_95 fX7_looksInHour fX7_looksInHour_0
    obtain ⟨w1, p1, p2⟩ := lk7 hN h0 (f := f) s0 s3 (b := b + d * 96) (by omega) 4 N u (by omega) (by omega) hR
    rw [show b + d * 96 + (4 - 4) = b + d * 96 by omega] at p1
    have eb : iZ (b : Int) + iZ (d : Int) * 96 = iZ ((b + d * 96 : Nat) : Int) := by
      rw [show (96 : Int32) = iZ 96 from rfl, iZ_mul, iZ_add]
      congr 1
    rw [if_neg (by rw [show (30 : Int32) = iZ 30 from rfl, iZ_le (by omega) (by omega) (by omega) (by omega)]; omega), if_pos i5, i6, hR.2 6 (by omega) (by omega) (by omega), h6, eb, p1, Option.bind_some, iZ_s1]
    obtain ⟨w2, q1, q2⟩ := days7_loop hN h0 n8 h6 s0 s3 hb j m (d + 1) w1 (by omega) (by omega) p2
    rw [dayN] at q1
    cases hz : anyL (w.1 56) f s (b + d * 96) 4 with
    | true =>
      rw [hz, if_pos rfl] at q1
      rw [if_neg (show ¬ bi true = 0 by decide), show (1 : Int32) = iZ 1 from rfl, iZ_add]
      exact ⟨w2, q1, q2⟩
    | false =>
      rw [hz, if_neg (by decide), Int.add_zero] at q1
      rw [if_pos (show bi false = 0 from rfl)]
      exact ⟨w2, q1, q2⟩
theorem lk8 (hN : 20000 ≤ N) {r : Nat → Int32} (hw : WFt r) {n : Nat} (n8 : n < 8) {f s : Int} (f0 : 0 ≤ f) (f3 : f ≤ 3) (ef : r (12 + 2 * n) = iZ f) (s0 : -1 ≤ s) (s3 : s ≤ 3) {b d : Nat} (hb : b + 96 * d + 4 < 14000) (K : xW → Int32 → Int32 → Int32 → Int32 → Int32 → Option (xW × Int32)) (acc : Int32) : ∀ (j m : Nat) (u : xW) (fl : Bool), j < m → j ≤ 4 → u.1 56 = r → TOK u → ∃ w', fX8_days_80 N K m u (iZ n) (iZ s) (iZ b) acc (iZ d) (bi fl) (iZ ((b + 96 * d + (4 - j) : Nat) : Int)) = K w' (iZ n) (iZ s) (iZ b) (acc + bi (fl || anyL r f s (b + 96 * d) j)) (iZ d + 1) ∧ G u w' ∧ TOK w'
  | _, 0, _, _, hm, _, _, _ => absurd hm (by omega)
  | 0, m + 1, u, fl, _, _, e, hT => by
    rw [fX8_days_80]
    unfold fX8_days_80b fX8_days_140
    rw [show (96 : Int32) = iZ 96 from rfl, show (4 : Int32) = iZ 4 from rfl, iZ_mul, iZ_add, iZ_add, if_pos (by rw [iZ_le (by omega) (by omega) (by omega) (by omega)]; omega), anyL, Bool.or_false]
    cases fl with
    | true => rw [if_neg (show ¬ bi true = 0 by decide)]; exact ⟨u, rfl, G.rf, hT⟩
    | false => rw [if_pos (show bi false = 0 from rfl)]; exact ⟨u, rfl, G.rf, hT⟩
  | j + 1, m + 1, u, fl, hm, hj, e, hT => by
    rw [fX8_days_80]
    unfold fX8_days_80b fX8_days_120
    rw [show (96 : Int32) = iZ 96 from rfl, show (4 : Int32) = iZ 4 from rfl, iZ_mul, iZ_add, iZ_add, if_neg (by rw [iZ_le (by omega) (by omega) (by omega) (by omega)]; omega), anyL, show b + 96 * d + (3 - j) = b + 96 * d + (4 - (j + 1)) by omega]
    cases fl with
    | true =>
      rw [if_neg (show ¬ bi true = 0 by decide), Bool.true_or]
      obtain ⟨w', q1, q2, q3⟩ := lk8 hN hw n8 f0 f3 ef s0 s3 hb K acc j m u true (by omega) (by omega) e hT
      rw [Bool.true_or, show b + 96 * d + (4 - j) = b + 96 * d + (4 - (j + 1)) + 1 by omega] at q1
      rw [iZ_s1]
      exact ⟨w', q1, q2, q3⟩
    | false =>
      obtain ⟨w1, p1, p2, p3⟩ := sideOf8 hN (by rw [e]; exact hw) hT f0 f3 (t := b + 96 * d + (4 - (j + 1))) (by omega)
      rw [e] at p1
      have rg := tSide_rng r f ((b + 96 * d + (4 - (j + 1)) : Nat) : Int)
      rw [if_pos (show bi false = 0 from rfl), fOf n8 (by rw [e]; exact ef), Option.bind_some, p1, Option.bind_some, iZ_s1, Bool.false_or]
      show ∃ w', (if iZ (tSide r f ((b + 96 * d + (4 - (j + 1)) : Nat) : Int)) = iZ s then _ else _) = _ ∧ _
      by_cases z : tSide r f ((b + 96 * d + (4 - (j + 1)) : Nat) : Int) = s
      · rw [if_pos (by rw [z]), decide_eq_true z, Bool.true_or]
        obtain ⟨w', q1, q2, q3⟩ := lk8 hN hw n8 f0 f3 ef s0 s3 hb K acc j m w1 true (by omega) (by omega) (p2.r.trans e) p3
        rw [Bool.true_or, show b + 96 * d + (4 - j) = b + 96 * d + (4 - (j + 1)) + 1 by omega] at q1
        exact ⟨w', q1, p2.tr q2, q3⟩
      · rw [if_neg (fun q => z ((iZ_eq (by omega) (by omega) (by omega) (by omega)).mp q)), decide_eq_false z, Bool.false_or]
        obtain ⟨w', q1, q2, q3⟩ := lk8 hN hw n8 f0 f3 ef s0 s3 hb K acc j m w1 false (by omega) (by omega) (p2.r.trans e) p3
        rw [Bool.false_or, show b + 96 * d + (4 - j) = b + 96 * d + (4 - (j + 1)) + 1 by omega] at q1
        exact ⟨w', q1, p2.tr q2, q3⟩
theorem days8_loop (hN : 20000 ≤ N) {r : Nat → Int32} (hw : WFt r) {n : Nat} (n8 : n < 8) {f s : Int} (f0 : 0 ≤ f) (f3 : f ≤ 3) (ef : r (12 + 2 * n) = iZ f) (s0 : -1 ≤ s) (s3 : s ≤ 3) {b : Nat} (hb : b + 3000 < 14000) : ∀ (j m d : Nat) (u : xW), j < m → d + j = 30 → u.1 56 = r → TOK u → ∃ w', fX8_days_60 N m u (iZ n) (iZ s) (iZ b) (iZ (dayN r f s b d)) (iZ d) = some (w', iZ (dayN r f s b 30)) ∧ G u w'
  | _, 0, _, _, hm, _, _, _ => absurd hm (by omega)
  | 0, m + 1, d, u, _, hd, _, _ => by
    obtain rfl : d = 30 := by omega
    rw [fX8_days_60]
    unfold fX8_days_60b
    rw [if_pos (show (30 : Int32) ≤ iZ ((30 : Nat) : Int) by decide)]
    exact ⟨u, rfl, G.rf⟩
  | j + 1, m + 1, d, u, hm, hd, e, hT => by
    rw [fX8_days_60]
    unfold fX8_days_60b
    obtain ⟨w1, p1, p2, p3⟩ := lk8 hN hw n8 f0 f3 ef s0 s3 (b := b) (d := d) (by omega) (fX8_days_60 N m) (iZ (dayN r f s b d)) 4 N u false (by omega) (by omega) e hT
    rw [show b + 96 * d + (4 - 4) = b + 96 * d by omega, show bi false = 0 from rfl] at p1
    have eb : iZ (b : Int) + 96 * iZ (d : Int) = iZ ((b + 96 * d : Nat) : Int) := by
      rw [show (96 : Int32) = iZ 96 from rfl, iZ_mul, iZ_add]
      congr 1
    rw [if_neg (by rw [show (30 : Int32) = iZ 30 from rfl, iZ_le (by omega) (by omega) (by omega) (by omega)]; omega), eb, p1, iZ_s1, Bool.false_or]
    obtain ⟨w2, q1, q2⟩ := days8_loop hN hw n8 f0 f3 ef s0 s3 hb j m (d + 1) w1 (by omega) (by omega) (p2.r.trans e) p3
    rw [dayN, show b + d * 96 = b + 96 * d by omega] at q1
    refine ⟨w2, ?_, p2.tr q2⟩
    rw [← q1]
    congr 1
    cases anyL r f s (b + 96 * d) 4 with
    | true => rw [if_pos rfl, show bi true = iZ 1 from rfl, iZ_add]
    | false => rw [if_neg (by decide), show bi false = iZ 0 from rfl, iZ_add]
def dDays (r : Nat → Int32) (x y v z : Int32) : Bool := dHouse r x && (dSide y && (dR 0 23 v && dTick z))
theorem e_days7 (h : Inv w) (x y v z : Int32) : fX7_days N w x y v z = if dDays (w.1 56) x y v z = true then fX7_days_60 N N w x y ((z - (irem z 96)) + (v * 4)) 0 0 else fX7_refuse w (cd 0) := by
  unfold fX7_days fX7_days_0 fX7_days_33 dDays
  rw [house7 h, side7, tick7, lohi3 v 0 24 23 (by decide), bind_id, c_0]
  cases dHouse (w.1 56) x <;> cases dSide y <;> cases dR 0 23 v <;> cases dTick z <;> rfl
theorem e_days8 (hw : WFr (w.1 56)) (x y v z : Int32) : fX8_days N w x y v z = if dDays (w.1 56) x y v z = true then fX8_days_60 N N w x y ((z - (irem z 96)) + (4 * v)) 0 0 else fX8_finding w (cd 0) := by
  unfold fX8_days fX8_days_0 fX8_days_33 dDays
  rw [house8 hw, side8, tick8, win8, bind_id, c_0]
  cases dHouse (w.1 56) x <;> cases dSide y <;> cases dR 0 23 v <;> cases dTick z <;> rfl
theorem P_days (hN : 20000 ≤ N) (h : Inv w) (x y v z : Int32) : Both (fun w => fX7_days N w x y v z) (fun w => fX8_days N w x y v z) w := by
  refine Both.guard h (dDays (w.1 56) x y v z) 0 (by omega) (fun q => by show fX7_days N w x y v z = _; rw [e_days7 h, q, if_neg (by decide)]) (fun q => by show fX8_days N _ x y v z = _; rw [e_days8 (wrRF h 0), RF_r w 0 (by omega), q, if_neg (by decide)]) (fun q => ?_)
  obtain ⟨q1, q'⟩ := Bool.and_eq_true_iff.mp q
  obtain ⟨q2, q'⟩ := Bool.and_eq_true_iff.mp q'
  obtain ⟨q3, q4⟩ := Bool.and_eq_true_iff.mp q'
  obtain ⟨n, rfl, n8, nh⟩ := dHouse_of h.1.1.2 q1
  obtain ⟨s, rfl, s0, s3⟩ := dSide_of q2
  have q3 := dR_iff.mp q3
  rw [i_0, show (23 : Int32).toInt = 23 from rfl] at q3
  obtain ⟨g, rfl, g24⟩ : ∃ k : Nat, v = iZ k ∧ k < 24 := ⟨v.toInt.toNat, by rw [Int.toNat_of_nonneg q3.1, iZ_self], by omega⟩
  obtain ⟨t, rfl, ht⟩ := dTick_of q4
  obtain ⟨k, f, k6, f0, f3, e1, e2, e3, e4⟩ := hdata h nh
  have e5 : (iZ (t : Int) - irem (iZ (t : Int)) 96) + iZ (g : Int) * 4 = iZ ((t - t % 96 + g * 4 : Nat) : Int) := by
    rw [show (96 : Int32) = iZ 96 from rfl, show (4 : Int32) = iZ 4 from rfl, iZ_rem (by omega) (by omega) (by omega) (by omega), iZ_sub, iZ_mul, iZ_add]
    congr 1
    omega
  have e6 : (iZ (t : Int) - irem (iZ (t : Int)) 96) + 4 * iZ (g : Int) = iZ ((t - t % 96 + g * 4 : Nat) : Int) := by rw [← e5, Int32.mul_comm 4]
  refine Both.ask h (iZ (dayN (w.1 56) f s (t - t % 96 + g * 4) 30)) ?_ (fun w1 h1 e => ?_)
  · obtain ⟨w1, p1, p2⟩ := days7_loop hN h n8 (f := f) (s := s) e4 (by omega) s3 (b := t - t % 96 + g * 4) (by omega) 30 N 0 w (by omega) (by omega) RT.rf
    refine ⟨w1, ?_, p2.toG⟩
    rw [e_days7 h, if_pos q, e5]
    exact p1
  · rw [e_days8 h1.1.1.2, e, if_pos q, e6]
    exact days8_loop hN h.wt n8 f0 f3 e2 (by omega) s3 (b := t - t % 96 + g * 4) (by omega) 30 N 0 w1 (by omega) (by omega) e h1.2.1
end EX
