/-! the tape, what is counted and found -/
theorem T_T (v : Int32) : (v.toInt8.toInt32).toInt8.toInt32 = v.toInt8.toInt32 := by
  have : (v.toInt8.toInt32).toInt8 = v.toInt8 := by simp
  rw [this]
theorem T_and (v : Int32) : (v &&& 255).toInt8.toInt32 = v.toInt8.toInt32 := by
  have : (v &&& 255).toInt8 = v.toInt8 := by
    refine Int8.toBitVec_inj.mp ?_
    rw [Int32.toBitVec_toInt8, Int32.toBitVec_toInt8, Int32.toBitVec_and, BitVec.signExtend_eq_setWidth_of_le _ (by decide), BitVec.signExtend_eq_setWidth_of_le _ (by decide), BitVec.setWidth_and]
    show _ &&& BitVec.setWidth 8 255#32 = _
    rw [show BitVec.setWidth 8 255#32 = BitVec.allOnes 8 by decide, BitVec.and_allOnes]
  rw [this]
theorem and_rng (v : Int32) : 0 ≤ (v &&& 255).toInt ∧ (v &&& 255).toInt ≤ 255 := by
  have e : (v &&& 255).toInt = (v.toBitVec &&& 255#32).toInt := rfl
  have h : (v.toBitVec &&& 255#32).toNat ≤ 255 := by
    rw [BitVec.toNat_and]
    exact Nat.and_le_right
  rw [e, BitVec.toInt_eq_toNat_cond, if_pos (by omega)]
  omega
section TAPE
variable {w : xW} {N : Nat}
theorem Inv.tape {w2 : xW} (h : Inv w) (e1 : ∀ q k, ¬ (q = 42 ∧ k = 1) → q ≠ 43 → q ≠ 70 → ¬ (q = 55 ∧ k = 18) → w2.1 q k = w.1 q k) (e2 : w2.2 = w.2) (hT : TapeOK w2) : Inv w2 := by
  have row : ∀ q, q ≠ 42 → q ≠ 43 → q ≠ 70 → q ≠ 55 → w2.1 q = w.1 q := fun q g1 g2 g3 g4 => funext fun k => e1 q k (by omega) g2 g3 (by omega)
  obtain ⟨⟨⟨c1, c2⟩, c3, c6, c7, c8, c9⟩, t, hk⟩ := h
  have isr : ∀ q r, (q = 1 ∨ q = 21) → IsR w q r → IsR w2 q r := by
    intro q r hq c
    have er : ∀ j, j < 10 → w2.1 (q + j) = w.1 (q + j) := fun j hj => row _ (by omega) (by omega) (by omega) (by omega)
    have e0 := er 0 (by omega)
    rw [Nat.add_zero] at e0
    unfold IsR
    rw [er 2 (by omega), er 3 (by omega), er 4 (by omega), er 5 (by omega), er 6 (by omega), er 7 (by omega), er 8 (by omega), er 9 (by omega), e0]
    exact c
  refine ⟨⟨⟨by rw [row 56 (by omega) (by omega) (by omega) (by omega)]; exact isr 1 _ (Or.inl rfl) c1, by rw [row 56 (by omega) (by omega) (by omega) (by omega)]; exact c2⟩, ?_, ?_, hT, ?_, ?_⟩, ?_, ?_⟩
  · unfold KeptOK
    rw [row 0 (by omega) (by omega) (by omega) (by omega), e1 55 2 (by omega) (by omega) (by omega) (by omega), row 57 (by omega) (by omega) (by omega) (by omega)]
    exact ⟨c3.1, c3.2.1, fun q => ⟨isr 21 _ (Or.inr rfl) (c3.2.2 q).1, (c3.2.2 q).2⟩⟩
  · unfold FoundOK
    rw [row 46 (by omega) (by omega) (by omega) (by omega), row 58 (by omega) (by omega) (by omega) (by omega)]
    exact c6
  · intro k hk'
    rw [row (47 + 2 * k) (by omega) (by omega) (by omega) (by omega), row 74 (by omega) (by omega) (by omega) (by omega), row 75 (by omega) (by omega) (by omega) (by omega), e2]
    exact c8 k hk'
  · unfold TabOK
    rw [row 59 (by omega) (by omega) (by omega) (by omega), row 60 (by omega) (by omega) (by omega) (by omega)]
    exact c9
  · unfold TOK at t ⊢
    rw [e1 55 8 (by omega) (by omega) (by omega) (by omega), row 56 (by omega) (by omega) (by omega) (by omega), row 61 (by omega) (by omega) (by omega) (by omega), row 62 (by omega) (by omega) (by omega) (by omega)]
    exact t
  · unfold HOK at hk ⊢
    rw [row 34 (by omega) (by omega) (by omega) (by omega), row 56 (by omega) (by omega) (by omega) (by omega), row 35 (by omega) (by omega) (by omega) (by omega), row 36 (by omega) (by omega) (by omega) (by omega), row 37 (by omega) (by omega) (by omega) (by omega)]
    exact hk
theorem P_wipe (h : Inv w) : Both (fun w => some (fX7_wipe w)) (fun w => some (fX8_wipe w)) w := by
  refine Both.act (sI w 42 1 0) (sI (sI w 42 1 0) 55 18 0) (w.1 42 1) (w.1 55 18) rfl rfl h.1.2.2.2.1.1.symm ?_
  refine h.tape (fun q k g1 g2 g3 g4 => by rw [sI_r, if_neg g4, sI_r, if_neg g1]) rfl ⟨?_, ?_, fun i hi => ?_⟩
  · simp [sI_r]
  · rw [sI_r, if_pos ⟨rfl, rfl⟩]
    decide
  · rw [sI_r, if_pos ⟨rfl, rfl⟩, i_0] at hi
    omega
def bv (v : Int32) (y : Nat) : Int32 := v >>> ((8 * iZ (y : Int)) &&& 31)
theorem feed7_loop (v : Int32) : ∀ (j m k : Nat) (u : xW), j < m → u.1 42 1 = iZ (k : Int) → k + j ≤ 120 → ∃ u', fX7_feed_42 N m u v (iZ ((j : Int) - 1)) = some (u', iZ ((k + j : Nat) : Int)) ∧ u'.2 = u.2 ∧ (∀ q i, ¬ (q = 42 ∧ i = 1) → q ≠ 43 → u'.1 q i = u.1 q i) ∧ u'.1 42 1 = iZ ((k + j : Nat) : Int) ∧ (∀ i, i < k → u'.1 43 i = u.1 43 i) ∧ ∀ i, i < j → u'.1 43 (k + i) = (bv v (j - 1 - i)).toInt8.toInt32
  | _, 0, _, _, hm, _, _ => absurd hm (by omega)
  | 0, m + 1, k, u, _, e, _ => by
    rw [fX7_feed_42]
    unfold fX7_feed_42b
    rw [if_pos (show iZ (((0 : Nat) : Int) - 1) < 0 by decide), e]
    exact ⟨u, rfl, rfl, fun _ _ _ _ => rfl, e, fun _ _ => rfl, fun i hi => absurd hi (by omega)⟩
  | j + 1, m + 1, k, u, hm, e, hk => by
    rw [fX7_feed_42]
    unfold fX7_feed_42b fX4_add fX4_add_0
    have e0 : iZ (((j + 1 : Nat) : Int) - 1) = iZ (j : Int) := by congr 1; omega
    have r1 : (sI u 43 k ((bv v j).toInt8.toInt32).toInt8.toInt32).1 42 1 = iZ (k : Int) := by rw [sI_r, if_neg (by omega), e]
    rw [e0, if_neg (k_neg (by omega)), e, if_neg (by rw [show (120 : Int32) = iZ 120 from rfl, iZ_le (by omega) (by omega) (by omega) (by omega)]; omega), if_pos ((ibd_iZ (by omega) (by omega)).mpr (by omega)), iZ_clamp (by omega) (by omega), Int.toNat_natCast]
    rw [show v >>> ((8 * iZ (j : Int)) &&& 31) = bv v j from rfl, r1, T_T, iZ_s1, Option.bind_some, show iZ (j : Int) + -1 = iZ ((j : Int) - 1) by rw [show (-1 : Int32) = iZ (-1) from rfl, iZ_add]; rfl]
    obtain ⟨u', p1, p2, p3, p4, p5, p6⟩ := feed7_loop v j m (k + 1) (sI (sI u 43 k (bv v j).toInt8.toInt32) 42 1 (iZ ((k + 1 : Nat) : Int))) (by omega) (by rw [sI_r, if_pos ⟨rfl, rfl⟩]) (by omega)
    refine ⟨u', by rw [p1, show k + 1 + j = k + (j + 1) by omega], p2, fun q i g1 g2 => by rw [p3 q i g1 g2, sI_r, if_neg g1, sI_r, if_neg (by omega)], by rw [p4, show k + 1 + j = k + (j + 1) by omega], fun i hi => by rw [p5 i (by omega), sI_r, if_neg (by omega), sI_r, if_neg (by omega)], fun i hi => ?_⟩
    rcases Nat.eq_zero_or_pos i with z | z
    · subst z
      rw [p5 (k + 0) (by omega), sI_r, if_neg (by omega), sI_r, if_pos ⟨rfl, by omega⟩, show j + 1 - 1 - 0 = j by omega]
    · have := p6 (i - 1) (by omega)
      rw [show k + 1 + (i - 1) = k + i by omega, show j - 1 - (i - 1) = j + 1 - 1 - i by omega] at this
      exact this
theorem feed8_loop (v : Int32) : ∀ (j m k : Nat) (u : xW), j < m → u.1 55 18 = iZ (k : Int) → k + j ≤ 120 → ∃ u', fX8_feed_38 N m u v (iZ ((j : Int) - 1)) = some (u', iZ ((k + j : Nat) : Int)) ∧ u'.2 = u.2 ∧ (∀ q i, ¬ (q = 55 ∧ i = 18) → q ≠ 70 → u'.1 q i = u.1 q i) ∧ u'.1 55 18 = iZ ((k + j : Nat) : Int) ∧ (∀ i, i < k → u'.1 70 i = u.1 70 i) ∧ ∀ i, i < j → u'.1 70 (k + i) = bv v (j - 1 - i) &&& 255
  | _, 0, _, _, hm, _, _ => absurd hm (by omega)
  | 0, m + 1, k, u, _, e, _ => by
    rw [fX8_feed_38]
    unfold fX8_feed_38b
    rw [if_pos (show iZ (((0 : Nat) : Int) - 1) < 0 by decide), e]
    exact ⟨u, rfl, rfl, fun _ _ _ _ => rfl, e, fun _ _ => rfl, fun i hi => absurd hi (by omega)⟩
  | j + 1, m + 1, k, u, hm, e, hk => by
    rw [fX8_feed_38]
    unfold fX8_feed_38b
    have e0 : iZ (((j + 1 : Nat) : Int) - 1) = iZ (j : Int) := by congr 1; omega
    have r1 : (sI u 70 k (bv v j &&& 255)).1 55 18 = iZ (k : Int) := by rw [sI_r, if_neg (by omega), e]
    rw [e0, if_neg (k_neg (by omega)), e, if_pos ((ibd_iZ (by omega) (by omega)).mpr (by omega)), iZ_clamp (by omega) (by omega), Int.toNat_natCast]
    rw [show v >>> ((8 * iZ (j : Int)) &&& 31) = bv v j from rfl, r1, iZ_s1, show iZ (j : Int) + -1 = iZ ((j : Int) - 1) by rw [show (-1 : Int32) = iZ (-1) from rfl, iZ_add]; rfl]
    obtain ⟨u', p1, p2, p3, p4, p5, p6⟩ := feed8_loop v j m (k + 1) (sI (sI u 70 k (bv v j &&& 255)) 55 18 (iZ ((k + 1 : Nat) : Int))) (by omega) (by rw [sI_r, if_pos ⟨rfl, rfl⟩]) (by omega)
    refine ⟨u', by rw [p1, show k + 1 + j = k + (j + 1) by omega], p2, fun q i g1 g2 => by rw [p3 q i g1 g2, sI_r, if_neg g1, sI_r, if_neg (by omega)], by rw [p4, show k + 1 + j = k + (j + 1) by omega], fun i hi => by rw [p5 i (by omega), sI_r, if_neg (by omega), sI_r, if_neg (by omega)], fun i hi => ?_⟩
    rcases Nat.eq_zero_or_pos i with z | z
    · subst z
      rw [p5 (k + 0) (by omega), sI_r, if_neg (by omega), sI_r, if_pos ⟨rfl, by omega⟩, show j + 1 - 1 - 0 = j by omega]
    · have := p6 (i - 1) (by omega)
      rw [show k + 1 + (i - 1) = k + i by omega, show j - 1 - (i - 1) = j + 1 - 1 - i by omega] at this
      exact this
theorem e_feed7 (u : xW) (x y : Int32) : fX7_feed N u x y = if dR 1 4 y = true then (if (u.1 42 1) + y ≤ 120 then fX7_feed_42 N N u x (y - 1) else fX7_refuse u (cd 1)) else fX7_refuse u (cd 0) := by
  unfold fX7_feed fX7_feed_0 fX7_feed_10
  rw [lohi1 y, bind_id, bind_id, c_0, c_1]
theorem e_feed8 (u : xW) (x y : Int32) : fX8_feed N u x y = if dR 1 4 y = true then (if (u.1 55 18) + y ≤ 120 then fX8_feed_38 N N u x (y - 1) else fX8_finding u (cd 1)) else fX8_finding u (cd 0) := by
  unfold fX8_feed fX8_feed_0
  rw [win8, bind_id, bind_id, c_0, c_1]
  cases dR 1 4 y <;> rfl
theorem P_feed (hN : 20000 ≤ N) (h : Inv w) (x y : Int32) : Both (fun w => fX7_feed N w x y) (fun w => fX8_feed N w x y) w := by
  refine Both.guard h (dR 1 4 y) 0 (by omega) (fun q => by show fX7_feed N w x y = _; rw [e_feed7, q, if_neg (by decide)]) (fun q => by show fX8_feed N _ x y = _; rw [e_feed8, q, if_neg (by decide)]) (fun q => ?_)
  have q' := dR_iff.mp q
  rw [i_1, i_4] at q'
  obtain ⟨n, rfl, n1, n4⟩ : ∃ n : Nat, y = iZ n ∧ 1 ≤ n ∧ n ≤ 4 := ⟨y.toInt.toNat, by rw [Int.toNat_of_nonneg (by omega), iZ_self], by omega, by omega⟩
  obtain ⟨t1, t2, t3⟩ := h.1.2.2.2.1
  obtain ⟨k, hk, hk2⟩ : ∃ k : Nat, w.1 55 18 = iZ k ∧ k ≤ 120 := ⟨(w.1 55 18).toInt.toNat, by rw [Int.toNat_of_nonneg t2.1, iZ_self], by omega⟩
  have hk1 : w.1 42 1 = iZ k := t1.trans hk
  have hki : (w.1 55 18).toInt = k := by rw [hk, iZ_toInt (by omega) (by omega)]
  have lt : iZ (k : Int) + iZ (n : Int) ≤ 120 ↔ k + n ≤ 120 := by
    rw [iZ_add, show (120 : Int32) = iZ 120 from rfl, iZ_le (by omega) (by omega) (by omega) (by omega)]
    omega
  have e1 : iZ (n : Int) - 1 = iZ ((n : Int) - 1) := by rw [show (1 : Int32) = iZ 1 from rfl, iZ_sub]
  refine Both.guard h (decide (k + n ≤ 120)) 1 (by omega) (fun z => ?_) (fun z => ?_) (fun z => ?_)
  · show fX7_feed N w x _ = _
    rw [e_feed7, if_pos q, hk1, if_neg (fun e => of_decide_eq_false z (lt.mp e))]
  · show fX8_feed N _ x _ = _
    rw [e_feed8, if_pos q, RF_r w 1 (by omega), hk, if_neg (fun e => of_decide_eq_false z (lt.mp e))]
  · have z := of_decide_eq_true z
    obtain ⟨u1, p1, p2, p3, p4, p5, p6⟩ := feed7_loop (N := N) x n N k w (by omega) hk1 z
    obtain ⟨u2, o1, o2, o3, o4, o5, o6⟩ := feed8_loop (N := N) x n N k u1 (by omega) (by rw [p3 55 18 (by omega) (by omega), hk]) z
    refine Both.act u1 u2 _ _ (by show fX7_feed N w x _ = _; rw [e_feed7, if_pos q, hk1, if_pos (lt.mpr z), e1]; exact p1) (by show fX8_feed N u1 x _ = _; rw [e_feed8, if_pos q, p3 55 18 (by omega) (by omega), hk, if_pos (lt.mpr z), e1]; exact o1) rfl ?_
    have e42 : u2.1 42 1 = iZ ((k + n : Nat) : Int) := by rw [o3 42 1 (by omega) (by omega), p4]
    have e2 : (iZ ((k + n : Nat) : Int)).toInt = k + n := by rw [iZ_toInt (by omega) (by omega)]; rfl
    refine h.tape (fun q i g1 g2 g3 g4 => by rw [o3 q i g4 g3, p3 q i g1 g2]) (o2.trans p2) ⟨by rw [e42, o4], by rw [o4, e2]; omega, fun i hi => ?_⟩
    rw [o4, e2] at hi
    rw [o3 43 i (by omega) (by omega)]
    rcases Nat.lt_or_ge i k with g | g
    · rw [p5 i g, o5 i g, p3 70 i (by omega) (by omega)]
      exact t3 i (by omega)
    · obtain ⟨d, rfl⟩ := Nat.exists_eq_add_of_le g
      rw [p6 d (by omega), o6 d (by omega), T_and]
      exact ⟨rfl, and_rng _⟩
theorem P_count (h : Inv w) (x : Int32) : Both (fun w => fX7_count w x) (fun w => fX8_count w x) w := by
  have hh := h.1.1.1
  by_cases a0 : x = 0
  · exact Both.act w w (w.1 1 3) (w.1 56 9) (by show fX7_count w x = _; unfold fX7_count fX7_count_0; rw [if_pos a0]) (by show fX8_count w x = _; unfold fX8_count fX8_count_0; rw [if_pos a0]) hh.2.2.2.2.1.symm h
  by_cases a1 : x = 1
  · exact Both.act w w (w.1 1 6) (w.1 56 10) (by show fX7_count w x = _; unfold fX7_count fX7_count_0; rw [if_neg a0, if_pos a1]) (by show fX8_count w x = _; unfold fX8_count fX8_count_0; rw [if_neg a0, if_pos a1]) hh.2.2.2.2.2.1.symm h
  by_cases a2 : x = 2
  · exact Both.act w w (w.1 1 2) (w.1 56 8) (by show fX7_count w x = _; unfold fX7_count fX7_count_0; rw [if_neg a0, if_neg a1, if_pos a2]) (by show fX8_count w x = _; unfold fX8_count fX8_count_0; rw [if_neg a0, if_neg a1, if_pos a2]) hh.2.2.2.1.symm h
  by_cases a3 : x = 3
  · exact Both.act w w (w.1 42 1) (w.1 55 18) (by show fX7_count w x = _; unfold fX7_count fX7_count_0; rw [if_neg a0, if_neg a1, if_neg a2, if_pos a3]) (by show fX8_count w x = _; unfold fX8_count fX8_count_0; rw [if_neg a0, if_neg a1, if_neg a2, if_pos a3]) h.1.2.2.2.1.1.symm h
  by_cases a4 : x = 4
  · exact Both.act w w (w.1 1 1) (w.1 56 7) (by show fX7_count w x = _; unfold fX7_count fX7_count_0; rw [if_neg a0, if_neg a1, if_neg a2, if_neg a3, if_pos a4]) (by show fX8_count w x = _; unfold fX8_count fX8_count_0; rw [if_neg a0, if_neg a1, if_neg a2, if_neg a3, if_pos a4]) hh.2.2.1.symm h
  refine Both.ref h 0 (by omega) (w1 := w) (w2 := RF w 0) ?_ G.rf ?_ G.rf
  · show fX7_count w x = _
    unfold fX7_count fX7_count_0
    rw [if_neg a0, if_neg a1, if_neg a2, if_neg a3, if_neg a4, bind_id, c_0]
  · show fX8_count _ x = _
    unfold fX8_count fX8_count_0
    rw [if_neg a0, if_neg a1, if_neg a2, if_neg a3, if_neg a4, bind_id, c_0]
theorem found_step (m : Nat) (acc : Int32) (i : Nat) (hi : i < 7) : fX7_allFound_4 N w (m + 1) acc (iZ (i : Int)) = fX7_allFound_4 N w m (acc + w.1 46 i) (iZ ((i + 1 : Nat) : Int)) := by
  rw [fX7_allFound_4]
  unfold fX7_allFound_4b
  rw [if_neg (by rw [show (7 : Int32) = iZ 7 from rfl, iZ_le (by omega) (by omega) (by omega) (by omega)]; omega), if_pos ((ibd_iZ (by omega) (by omega)).mpr (by omega)), iZ_clamp (by omega) (by omega), Int.toNat_natCast, iZ_s1]
theorem allFound_eq (hN : 20000 ≤ N) (h : FoundOK w) : fX7_allFound N w = some (w.1 58 0) := by
  obtain ⟨h1, h2⟩ := h
  unfold fX7_allFound fX7_allFound_0
  obtain ⟨m, hm⟩ : ∃ m, N = m + 1 + 1 + 1 + 1 + 1 + 1 + 1 + 1 := ⟨N - 8, by omega⟩
  have e : ∀ K, K = m + 1 + 1 + 1 + 1 + 1 + 1 + 1 + 1 → fX7_allFound_4 N w K 0 (iZ ((0 : Nat) : Int)) = some (w.1 58 0) := by
    intro K hK
    rw [hK, found_step _ _ 0 (by omega), found_step _ _ 1 (by omega), found_step _ _ 2 (by omega), found_step _ _ 3 (by omega), found_step _ _ 4 (by omega), found_step _ _ 5 (by omega), found_step _ _ 6 (by omega), fX7_allFound_4]
    unfold fX7_allFound_4b
    rw [if_pos (show (7 : Int32) ≤ iZ ((6 + 1 : Nat) : Int) by decide), h1 0 (by omega), h1 1 (by omega), h1 2 (by omega), h1 3 (by omega), h1 4 (by omega), h1 5 (by omega), h1 6 (by omega), h2, Int32.zero_add]
  exact e N hm
theorem ix_f : ∀ n : Nat, n < 7 → (ibd (iZ (n : Int)) 7 = true ∧ (iZ (n : Int)).toNatClampNeg = n) ∧ (ibd (iZ (n : Int) + 1) 8 = true ∧ (iZ (n : Int) + 1).toNatClampNeg = n + 1) := by decide +kernel
theorem P_status (hN : 20000 ≤ N) (h : Inv w) (x : Int32) : Both (fun w => fX7_status N w x) (fun w => fX8_status w x) w := by
  have e7 : fX7_status N w x = if dR (-1) 6 x = true then (if x = -1 then (fX7_allFound N w).bind (fun z2 => some (w, z2)) else if ibd x 7 = true then some (w, w.1 46 x.toNatClampNeg) else none) else fX7_refuse w (cd 0) := by
    unfold fX7_status fX7_status_0 fX7_status_11
    have lt : ∀ {α : Type} {A B : α}, (if x < -1 then A else if x < 7 then B else A) = if dR (-1) 6 x = true then B else A := by
      intro α A B
      unfold dR
      simp only [Int32.lt_iff_toInt_lt, decide_eq_true_eq, show (7 : Int32).toInt = 7 from rfl, show (6 : Int32).toInt = 6 from rfl]
      split <;> (try split) <;> (try split) <;> first | rfl | omega
    rw [lt, bind_id, c_0]
  have e8 : ∀ u, fX8_status u x = if dR (-1) 6 x = true then (if ibd (x + 1) 8 = true then some (u, u.1 58 ((x + 1).toNatClampNeg)) else none) else fX8_finding u (cd 0) := by
    intro u
    unfold fX8_status fX8_status_0
    rw [win8, bind_id, c_0]
    cases dR (-1) 6 x <;> rfl
  refine Both.guard h (dR (-1) 6 x) 0 (by omega) (fun q => by show fX7_status N w x = _; rw [e7, q, if_neg (by decide)]) (fun q => by show fX8_status _ x = _; rw [e8, q, if_neg (by decide)]) (fun q => ?_)
  have q' := dR_iff.mp q
  rw [show (-1 : Int32).toInt = -1 from rfl, show (6 : Int32).toInt = 6 from rfl] at q'
  have f := h.1.2.2.1
  by_cases z : x = -1
  · subst z
    refine Both.act w w (w.1 58 0) (w.1 58 0) ?_ ?_ rfl h
    · show fX7_status N w _ = _
      rw [e7, if_pos q, if_pos rfl, allFound_eq hN f]
      rfl
    · show fX8_status w _ = _
      rw [e8, if_pos q, if_pos (show ibd (-1 + 1 : Int32) 8 = true by decide +kernel), show (-1 + 1 : Int32).toNatClampNeg = 0 by decide +kernel]
  · have x0 : 0 ≤ x.toInt := by
      have : x.toInt ≠ (-1 : Int32).toInt := fun e => z (Int32.toInt_inj.mp e)
      rw [show (-1 : Int32).toInt = -1 from rfl] at this
      omega
    obtain ⟨n, rfl, n7⟩ : ∃ n : Nat, x = iZ n ∧ n < 7 := ⟨x.toInt.toNat, by rw [Int.toNat_of_nonneg x0, iZ_self], by omega⟩
    obtain ⟨⟨i1, i2⟩, i3, i4⟩ := ix_f n n7
    refine Both.act w w (w.1 46 n) (w.1 58 (n + 1)) ?_ ?_ (f.1 n n7).symm h
    · show fX7_status N w _ = _
      rw [e7, if_pos q, if_neg z, if_pos i1, i2]
    · show fX8_status w _ = _
      rw [e8, if_pos q, if_pos i3, i4]
end TAPE
