/-! the questions about tides -/
theorem bF : bi false = 0 := rfl
theorem bT : ¬ bi true = 0 := by decide
theorem c_0 : (-1000000001 : Int32) = cd 0 := rfl
theorem c_1 : (-1000000002 : Int32) = cd 1 := rfl
theorem c_2 : (-1000000003 : Int32) = cd 2 := rfl
theorem c_3 : (-1000000004 : Int32) = cd 3 := rfl
theorem c_5 : (-1000000006 : Int32) = cd 5 := rfl
theorem c_6 : (-1000000007 : Int32) = cd 6 := rfl
section TQ
variable {w : xW} {N : Nat}
theorem at7 (hN : 20000 ≤ N) (h : Inv w) {t : Int} (h0 : 0 ≤ t) (h1 : t < 20000) : ∃ w', fX6_at N w (iZ t) = some w' ∧ G w w' ∧ w'.1 2 2 = iZ (tnd (w.1 56) t : Nat) ∧ w'.1 2 3 = iZ (tTu (w.1 56) t : Nat) ∧ w'.1 2 4 = bi (tBe (w.1 56) t) := by
  obtain ⟨w', p1, p2, p3⟩ := at_eq hN h.ist h.wt h0 h1
  exact ⟨w', p1, p2.toG, p3⟩
theorem still8 (hN : 20000 ≤ N) (hw : WFt (w.1 56)) (hT : TOK w) {t : Nat} (ht : t < 14000) : ∃ w', fX8_stillAt N w (iZ t) = some (w', iZ (tSt (w.1 56) t : Nat)) ∧ G w w' ∧ TOK w' := by
  obtain ⟨w', p1, p2, p3⟩ := stillAt_eq hN hw hT ht
  exact ⟨w', p1, p2.toG (fun _ => p3), p3⟩
theorem turned8 (hN : 20000 ≤ N) (hw : WFt (w.1 56)) (hT : TOK w) {t : Nat} (ht : t < 14000) : ∃ w', fX8_turnedAt N w (iZ t) = some (w', iZ (tTu (w.1 56) t : Nat)) ∧ G w w' ∧ TOK w' := by
  obtain ⟨w', p1, p2, p3⟩ := turnedAt_eq hN hw hT ht
  exact ⟨w', p1, p2.toG (fun _ => p3), p3⟩
theorem cnt_mono (f : Nat → Bool) {a b : Nat} (h : a ≤ b) : cnt f a ≤ cnt f b := by
  obtain ⟨d, rfl⟩ := Nat.exists_eq_add_of_le h
  rw [cnt_add]
  omega
theorem tTu_le {r : Nat → Int32} (hw : WFt r) {t : Int} (ht : t < 20000) : tTu r t ≤ 1250 := by
  have h1 := tnd_le hw ht
  have h2 := rt_le (r := r) (tnd r t)
  have h3 := cnt_le (fun k => !(tfa r k)) (rt r (tnd r t)).1
  unfold tTu tQ
  omega
theorem tSt_le (r : Nat → Int32) : ∀ m, sti r m ≤ m
  | 0 => Nat.le_refl 0
  | m + 1 => by
    have := tSt_le r m
    rw [sti]
    split <;> omega
theorem tSt_le2 (r : Nat → Int32) (t : Nat) : tSt r t ≤ 14000 := by
  have := tSt_le r (14000 - t)
  unfold tSt
  omega
theorem st_z {r : Nat → Int32} {t : Nat} (ht : t < 14000) : iZ (tSt r t : Nat) = 0 ↔ tBe r t = true := by
  have h1 := tSt_le2 r t
  rw [show (0 : Int32) = iZ 0 from rfl, iZ_eq (by omega) (by omega) (by omega) (by omega)]
  have h2 := tSt_0 (r := r) ht
  constructor
  · intro q
    exact h2.mp (by omega)
  · intro q
    have := h2.mpr q
    omega
theorem sideOf8 (hN : 20000 ≤ N) (hw : WFt (w.1 56)) (hT : TOK w) {f : Int} (f0 : 0 ≤ f) (f3 : f ≤ 3) {t : Nat} (ht : t < 14000) : ∃ w', fX8_sideOf N w (iZ f) (iZ t) = some (w', iZ (tSide (w.1 56) f t)) ∧ G w w' ∧ TOK w' := by
  unfold fX8_sideOf fX8_sideOf_0 tSide
  obtain ⟨w1, p1, p2, p3⟩ := still8 hN hw hT ht
  rw [p1]
  simp only [Option.bind_some]
  cases hb : tBe (w.1 56) t with
  | true =>
    rw [if_pos ((st_z ht).mpr hb), if_pos rfl]
    exact ⟨w1, rfl, p2, p3⟩
  | false =>
    rw [if_neg (fun q => by rw [(st_z ht).mp q] at hb; cases hb), if_neg (by decide)]
    obtain ⟨w2, q1, q2, q3⟩ := turned8 hN (by rw [p2.r]; exact hw) p3 ht
    have hl := tTu_le hw (t := t) (by omega)
    rw [q1]
    simp only [Option.bind_some]
    rw [p2.r, iZ_add, show (4 : Int32) = iZ 4 from rfl, iZ_rem (by omega) (by omega) (by omega) (by omega)]
    exact ⟨w2, rfl, p2.tr q2, q3⟩
theorem frontTo8 (hN : 20000 ≤ N) (hw : WFt (w.1 56)) (hT : TOK w) {f : Int} (f0 : 0 ≤ f) (f3 : f ≤ 3) {t : Nat} (ht : t < 14000) : ∃ w', fX8_frontTo N w (iZ f) (iZ t) = some (w', iZ ((f - tTu (w.1 56) t) % 4)) ∧ G w w' ∧ TOK w' := by
  unfold fX8_frontTo fX8_frontTo_0
  obtain ⟨w1, p1, p2, p3⟩ := turned8 hN hw hT ht
  have hl := tTu_le hw (t := t) (by omega)
  rw [p1]
  simp only [Option.bind_some]
  rw [show (4 : Int32) = iZ 4 from rfl, iZ_rem (by omega) (by omega) (by omega) (by omega), iZ_add, iZ_sub, iZ_rem (by omega) (by omega) (by omega) (by omega)]
  refine ⟨w1, ?_, p2, p3⟩
  congr 3
  omega
theorem P_turned (hN : 20000 ≤ N) (h : Inv w) (x : Int32) : Both (fun w => fX7_turned N w x) (fun w => fX8_turned N w x) w := by
  cases hd : dTick x with
  | false =>
    refine Both.ref h 0 (by omega) (w1 := w) (w2 := RF w 0) ?_ G.rf ?_ G.rf
    · show fX7_turned N w x = _
      unfold fX7_turned fX7_turned_0
      rw [tick7, hd, if_pos bF, bind_id, c_0]
    · show fX8_turned N (RF w 0) x = _
      unfold fX8_turned fX8_turned_0
      rw [tick8, hd, if_pos bF, bind_id, c_0]
  | true =>
    obtain ⟨t, rfl, ht⟩ := dTick_of hd
    refine Both.ask h (iZ (tTu (w.1 56) t : Nat)) ?_ (fun w1 h1 e => ?_)
    · obtain ⟨w1, p1, p2, p3, p4, p5⟩ := at7 hN h (t := t) (by omega) (by omega)
      unfold fX7_turned fX7_turned_0
      rw [tick7, hd, if_neg bT, p1]
      exact ⟨w1, by simp only [Option.bind_some]; rw [p4], p2⟩
    · obtain ⟨w2, p1, p2, p3⟩ := turned8 hN h1.wt h1.2.1 (t := t) (by omega)
      unfold fX8_turned fX8_turned_0
      rw [tick8, hd, if_neg bT, p1, e]
      exact ⟨w2, rfl, p2⟩
theorem P_between (hN : 20000 ≤ N) (h : Inv w) (x : Int32) : Both (fun w => fX7_between N w x) (fun w => fX8_between N w x) w := by
  cases hd : dTick x with
  | false =>
    refine Both.ref h 0 (by omega) (w1 := w) (w2 := RF w 0) ?_ G.rf ?_ G.rf
    · show fX7_between N w x = _
      unfold fX7_between fX7_between_0
      rw [tick7, hd, if_pos bF, bind_id, c_0]
    · show fX8_between N (RF w 0) x = _
      unfold fX8_between fX8_between_0
      rw [tick8, hd, if_pos bF, bind_id, c_0]
  | true =>
    obtain ⟨t, rfl, ht⟩ := dTick_of hd
    refine Both.ask h (bi (tBe (w.1 56) t)) ?_ (fun w1 h1 e => ?_)
    · obtain ⟨w1, p1, p2, p3, p4, p5⟩ := at7 hN h (t := t) (by omega) (by omega)
      unfold fX7_between fX7_between_0
      rw [tick7, hd, if_neg bT, p1]
      simp only [Option.bind_some]
      rw [p5]
      cases tBe (w.1 56) t with
      | true => exact ⟨w1, by rw [if_neg bT]; rfl, p2⟩
      | false => exact ⟨w1, by rw [if_pos bF]; rfl, p2⟩
    · obtain ⟨w2, p1, p2, p3⟩ := still8 hN h1.wt h1.2.1 (t := t) (by omega)
      unfold fX8_between fX8_between_0
      rw [tick8, hd, if_neg bT, p1, e]
      simp only [Option.bind_some]
      cases hb : tBe (w.1 56) t with
      | true => exact ⟨w2, by rw [if_pos ((st_z (by omega)).mpr hb)]; rfl, p2⟩
      | false => exact ⟨w2, by rw [if_neg (fun q => by rw [(st_z (by omega)).mp q] at hb; cases hb)]; rfl, p2⟩
theorem P_looks (hN : 20000 ≤ N) (h : Inv w) (y x : Int32) : Both (fun w => fX7_looks N w y x) (fun w => fX8_looks N w y x) w := by
  cases hs : dSide y with
  | false =>
    refine Both.ref h 0 (by omega) (w1 := w) (w2 := RF w 0) ?_ G.rf ?_ G.rf
    · show fX7_looks N w y x = _
      unfold fX7_looks fX7_looks_0 fX7_looks_14
      rw [side7, hs, if_pos bF, bind_id, c_0]
    · show fX8_looks N (RF w 0) y x = _
      unfold fX8_looks fX8_looks_0 fX8_looks_23
      rw [side8, hs, if_pos bF, bind_id, c_0]
  | true =>
  cases hd : dTick x with
  | false =>
    refine Both.ref h 0 (by omega) (w1 := w) (w2 := RF w 0) ?_ G.rf ?_ G.rf
    · show fX7_looks N w y x = _
      unfold fX7_looks fX7_looks_0 fX7_looks_14
      rw [side7, hs, if_neg bT, tick7, hd, if_pos bF, bind_id, c_0]
    · show fX8_looks N (RF w 0) y x = _
      unfold fX8_looks fX8_looks_0 fX8_looks_23
      rw [side8, hs, if_neg bT, tick8, hd, if_pos bF, bind_id, c_0]
  | true =>
    obtain ⟨t, rfl, ht⟩ := dTick_of hd
    obtain ⟨f, rfl, f0, f3⟩ := dSide_of hs
    refine Both.ask h (iZ (tSide (w.1 56) f t)) ?_ (fun w1 h1 e => ?_)
    · obtain ⟨w1, p1, p2, p3, p4, p5⟩ := at7 hN h (t := t) (by omega) (by omega)
      unfold fX7_looks fX7_looks_0
      rw [side7, hs, if_neg bT, tick7, hd, if_neg bT, p1]
      exact ⟨w1, by simp only [Option.bind_some]; rw [sideOf6_eq p4 p5], p2⟩
    · obtain ⟨w2, p1, p2, p3⟩ := sideOf8 hN h1.wt h1.2.1 f0 f3 (t := t) (by omega)
      unfold fX8_looks fX8_looks_0
      rw [side8, hs, if_neg bT, tick8, hd, if_neg bT, p1, e]
      exact ⟨w2, rfl, p2⟩
theorem P_front (hN : 20000 ≤ N) (h : Inv w) (y x : Int32) : Both (fun w => fX7_front N w y x) (fun w => fX8_front N w y x) w := by
  cases hs : dSide y with
  | false =>
    refine Both.ref h 0 (by omega) (w1 := w) (w2 := RF w 0) ?_ G.rf ?_ G.rf
    · show fX7_front N w y x = _
      unfold fX7_front fX7_front_0 fX7_front_14
      rw [side7, hs, if_pos bF, bind_id, c_0]
    · show fX8_front N (RF w 0) y x = _
      unfold fX8_front fX8_front_0 fX8_front_14
      rw [side8, hs, if_pos bF, bind_id, c_0]
  | true =>
  cases hd : dTick x with
  | false =>
    refine Both.ref h 0 (by omega) (w1 := w) (w2 := RF w 0) ?_ G.rf ?_ G.rf
    · show fX7_front N w y x = _
      unfold fX7_front fX7_front_0 fX7_front_14
      rw [side7, hs, if_neg bT, tick7, hd, if_pos bF, bind_id, c_0]
    · show fX8_front N (RF w 0) y x = _
      unfold fX8_front fX8_front_0 fX8_front_14
      rw [side8, hs, if_neg bT, tick8, hd, if_pos bF, bind_id, c_0]
  | true =>
    obtain ⟨t, rfl, ht⟩ := dTick_of hd
    obtain ⟨f, rfl, f0, f3⟩ := dSide_of hs
    obtain ⟨w1, p1, p2, p3, p4, p5⟩ := at7 hN h (t := t) (by omega) (by omega)
    have h7 : fX7_front N w (iZ f) (iZ t) = if bi (tBe (w.1 56) t) = 0 then some (w1, iZ ((f - tTu (w.1 56) t) % 4)) else fX7_refuse w1 (cd 3) := by
      unfold fX7_front fX7_front_0
      rw [side7, hs, if_neg bT, tick7, hd, if_neg bT, p1]
      simp only [Option.bind_some]
      rw [p5, frontTo6_eq p4, bind_id, c_3]
    cases hb : tBe (w.1 56) t with
    | true =>
      have hw1 : WFt ((RF w1 3).1 56) := by rw [(RF_oth w1 3).row (by omega) (by omega)]; exact (p2.Inv h).wt
      have e56 : (RF w1 3).1 56 = w.1 56 := by rw [(RF_oth w1 3).row (by omega) (by omega)]; exact p2.r
      obtain ⟨w2, q1, q2, q3⟩ := still8 hN hw1 ((RF_oth w1 3).toTOK (p2.Inv h).2.1) (t := t) (by omega)
      refine Both.ref h 3 (by omega) (w1 := w1) (w2 := w2) ?_ p2 ?_ q2
      · rw [h7, hb, if_neg bT]
      · show fX8_front N (RF w1 3) (iZ f) (iZ t) = _
        unfold fX8_front fX8_front_0
        rw [side8, hs, if_neg bT, tick8, hd, if_neg bT, q1]
        simp only [Option.bind_some]
        rw [e56, if_pos ((st_z (by omega)).mpr hb), bind_id, c_3]
    | false =>
      refine Both.ask h (iZ ((f - tTu (w.1 56) t) % 4)) ⟨w1, by rw [h7, hb, if_pos bF], p2⟩ (fun u hu e => ?_)
      obtain ⟨w2, q1, q2, q3⟩ := still8 hN hu.wt hu.2.1 (t := t) (by omega)
      obtain ⟨w3, s1, s2, s3⟩ := frontTo8 hN (by rw [q2.r]; exact hu.wt) q3 f0 f3 (t := t) (by omega)
      unfold fX8_front fX8_front_0
      rw [side8, hs, if_neg bT, tick8, hd, if_neg bT, q1]
      simp only [Option.bind_some]
      rw [e, if_neg (fun q => by rw [(st_z (by omega)).mp q] at hb; cases hb), s1, q2.r, e]
      exact ⟨w3, rfl, q2.tr s2⟩
/-! the first tick at which a front looks to a side -/
def whn (r : Nat → Int32) (f s : Int) : Nat → Int → Option Int
  | 0, _ => none
  | j + 1, t => if tSide r f t = s then some t else whn r f s j (t + 1)
theorem tSide_rng (r : Nat → Int32) (f t : Int) : -1 ≤ tSide r f t ∧ tSide r f t ≤ 3 := by
  unfold tSide
  split <;> omega
theorem when7 (hN : 20000 ≤ N) {f s x : Int} (s0 : 0 ≤ s) (s3 : s ≤ 3) (x0 : 0 ≤ x) (x9 : x ≤ 9999) : ∀ (j m : Nat) (t : Int) (w : xW), j < m → x + 960 = t + j → x ≤ t → Inv w → ∃ w', G w w' ∧ fX7_when_31 N m w (iZ f) (iZ s) (iZ x) (iZ t) = (match whn (w.1 56) f s j t with | some u => some (w', iZ u) | none => fX7_refuse w' (cd 3))
  | _, 0, _, _, hm, _, _, _ => absurd hm (by omega)
  | 0, m + 1, t, w, _, he, hx, h => by
    rw [fX7_when_31]
    unfold fX7_when_31b
    rw [show (960 : Int32) = iZ 960 from rfl, iZ_add, if_pos ((iZ_le (by omega) (by omega) (by omega) (by omega)).mpr (by omega)), bind_id, c_3]
    exact ⟨w, G.rf, rfl⟩
  | j + 1, m + 1, t, w, hm, he, hx, h => by
    rw [fX7_when_31]
    unfold fX7_when_31b
    obtain ⟨w1, p1, p2, p3, p4, p5⟩ := at7 hN h (t := t) (by omega) (by omega)
    rw [show (960 : Int32) = iZ 960 from rfl, iZ_add, if_neg (fun q => absurd ((iZ_le (by omega) (by omega) (by omega) (by omega)).mp q) (by omega)), p1]
    simp only [Option.bind_some]
    have hr := tSide_rng (w.1 56) f t
    rw [sideOf6_eq p4 p5, whn]
    by_cases c : tSide (w.1 56) f t = s
    · rw [if_pos ((iZ_eq (by omega) (by omega) (by omega) (by omega)).mpr c), if_pos c]
      exact ⟨w1, p2, rfl⟩
    · rw [if_neg (fun q => c ((iZ_eq (by omega) (by omega) (by omega) (by omega)).mp q)), if_neg c, show (1 : Int32) = iZ 1 from rfl, iZ_add]
      obtain ⟨w2, q1, q2⟩ := when7 hN s0 s3 x0 x9 j m (t + 1) w1 (by omega) (by omega) (by omega) (p2.Inv h)
      rw [p2.r] at q2
      exact ⟨w2, p2.tr q1, q2⟩
theorem when8 (hN : 20000 ≤ N) {f s x : Int} (f0 : 0 ≤ f) (f3 : f ≤ 3) (s0 : 0 ≤ s) (s3 : s ≤ 3) (x0 : 0 ≤ x) (x9 : x ≤ 9999) : ∀ (j m : Nat) (t : Int) (w : xW), j < m → x + 960 = t + j → x ≤ t → WFt (w.1 56) → TOK w → ∃ w', G w w' ∧ fX8_when_31 N m w (iZ f) (iZ s) (iZ x) (iZ t) = (match whn (w.1 56) f s j t with | some u => some (w', iZ u) | none => fX8_finding w' (cd 3))
  | _, 0, _, _, hm, _, _, _, _ => absurd hm (by omega)
  | 0, m + 1, t, w, _, he, hx, h, hT => by
    rw [fX8_when_31]
    unfold fX8_when_31b
    rw [show (960 : Int32) = iZ 960 from rfl, iZ_add, if_pos ((iZ_le (by omega) (by omega) (by omega) (by omega)).mpr (by omega)), bind_id, c_3]
    exact ⟨w, G.rf, rfl⟩
  | j + 1, m + 1, t, w, hm, he, hx, h, hT => by
    rw [fX8_when_31]
    unfold fX8_when_31b
    obtain ⟨n, rfl⟩ : ∃ n : Nat, t = n := ⟨t.toNat, by omega⟩
    obtain ⟨w1, p1, p2, p3⟩ := sideOf8 hN h hT f0 f3 (t := n) (by omega)
    rw [show (960 : Int32) = iZ 960 from rfl, iZ_add, if_neg (fun q => absurd ((iZ_le (by omega) (by omega) (by omega) (by omega)).mp q) (by omega)), p1]
    simp only [Option.bind_some]
    have hr := tSide_rng (w.1 56) f n
    rw [whn]
    by_cases c : tSide (w.1 56) f n = s
    · rw [if_pos ((iZ_eq (by omega) (by omega) (by omega) (by omega)).mpr c), if_pos c]
      exact ⟨w1, p2, rfl⟩
    · rw [if_neg (fun q => c ((iZ_eq (by omega) (by omega) (by omega) (by omega)).mp q)), if_neg c, show (1 : Int32) = iZ 1 from rfl, iZ_add]
      obtain ⟨w2, q1, q2⟩ := when8 hN f0 f3 s0 s3 x0 x9 j m (n + 1) w1 (by omega) (by omega) (by omega) (by rw [p2.r]; exact h) p3
      rw [p2.r] at q2
      exact ⟨w2, p2.tr q1, q2⟩
theorem P_when (hN : 20000 ≤ N) (h : Inv w) (y z x : Int32) : Both (fun w => fX7_when N w y z x) (fun w => fX8_when N w y z x) w := by
  cases hs : dSide y with
  | false =>
    refine Both.ref h 0 (by omega) (w1 := w) (w2 := RF w 0) ?_ G.rf ?_ G.rf
    · show fX7_when N w y z x = _
      unfold fX7_when fX7_when_0 fX7_when_21
      rw [side7, hs, if_pos bF, bind_id, c_0]
    · show fX8_when N (RF w 0) y z x = _
      unfold fX8_when fX8_when_0 fX8_when_21
      rw [side8, hs, if_pos bF, bind_id, c_0]
  | true =>
  cases hz : dSide z with
  | false =>
    refine Both.ref h 0 (by omega) (w1 := w) (w2 := RF w 0) ?_ G.rf ?_ G.rf
    · show fX7_when N w y z x = _
      unfold fX7_when fX7_when_0 fX7_when_21
      rw [side7, hs, if_neg bT, side7, hz, if_pos bF, bind_id, c_0]
    · show fX8_when N (RF w 0) y z x = _
      unfold fX8_when fX8_when_0 fX8_when_21
      rw [side8, hs, if_neg bT, side8, hz, if_pos bF, bind_id, c_0]
  | true =>
  cases hd : dTick x with
  | false =>
    refine Both.ref h 0 (by omega) (w1 := w) (w2 := RF w 0) ?_ G.rf ?_ G.rf
    · show fX7_when N w y z x = _
      unfold fX7_when fX7_when_0 fX7_when_21
      rw [side7, hs, if_neg bT, side7, hz, if_neg bT, tick7, hd, if_pos bF, bind_id, c_0]
    · show fX8_when N (RF w 0) y z x = _
      unfold fX8_when fX8_when_0 fX8_when_21
      rw [side8, hs, if_neg bT, side8, hz, if_neg bT, tick8, hd, if_pos bF, bind_id, c_0]
  | true =>
    obtain ⟨t, rfl, ht⟩ := dTick_of hd
    obtain ⟨f, rfl, f0, f3⟩ := dSide_of hs
    obtain ⟨s, rfl, s0, s3⟩ := dSide_of hz
    obtain ⟨w1, p1, p2⟩ := when7 hN (f := f) s0 s3 (x := t) (by omega) (by omega) 960 N t w (by omega) (by omega) (by omega) h
    have h7 : ∀ u, fX7_when N u (iZ f) (iZ s) (iZ t) = fX7_when_31 N N u (iZ f) (iZ s) (iZ t) (iZ t) := by
      intro u
      unfold fX7_when fX7_when_0
      rw [side7, hs, if_neg bT, side7, hz, if_neg bT, tick7, hd, if_neg bT]
    have h8 : ∀ u, fX8_when N u (iZ f) (iZ s) (iZ t) = fX8_when_31 N N u (iZ f) (iZ s) (iZ t) (iZ t) := by
      intro u
      unfold fX8_when fX8_when_0
      rw [side8, hs, if_neg bT, side8, hz, if_neg bT, tick8, hd, if_neg bT]
    cases hq : whn (w.1 56) f s 960 t with
    | none =>
      rw [hq] at p2
      have o := RF_oth w1 3
      have e56 : (RF w1 3).1 56 = w.1 56 := by rw [o.row (by omega) (by omega)]; exact p1.r
      obtain ⟨w2, q1, q2⟩ := when8 hN f0 f3 s0 s3 (x := t) (by omega) (by omega) 960 N t (RF w1 3) (by omega) (by omega) (by omega) (by rw [e56]; exact h.wt) (o.toTOK (p1.Inv h).2.1)
      rw [e56, hq] at q2
      exact Both.ref h 3 (by omega) (w1 := w1) (w2 := w2) ((h7 w).trans p2) p1 ((h8 _).trans q2) q1
    | some u =>
      rw [hq] at p2
      refine Both.ask h (iZ u) ⟨w1, (h7 w).trans p2, p1⟩ (fun v hv e => ?_)
      obtain ⟨w2, q1, q2⟩ := when8 hN f0 f3 s0 s3 (x := t) (by omega) (by omega) 960 N t v (by omega) (by omega) (by omega) hv.wt hv.2.1
      rw [e, hq] at q2
      exact ⟨w2, (h8 v).trans q2, q1⟩
end TQ
