/-! numbers of sheets: write, read, calendar -/
section WR
variable {w : xW} {N : Nat}
def BothL (a b : xW → Option (xW × Int64)) (w : xW) : Prop := ∃ (w1 w2 : xW) (v : Int64), a w = some (w1, v) ∧ b w1 = some (w2, v) ∧ Inv w2
theorem BothL.guard {a b : xW → Option (xW × Int64)} (h : Inv w) (c : Bool) (i : Nat) (hi : i < 7) (ha : c = false → a w = (fX7_refuse w (cd i)).bind fun z => some (z.1, z.2.toInt64)) (hb : c = false → b (RF w i) = (fX8_finding (RF w i) (cd i)).bind fun z => some (z.1, z.2.toInt64)) (k : c = true → BothL a b w) : BothL a b w := by
  cases hc : c with
  | true => exact k hc
  | false => exact ⟨RF w i, FI (RF w i) i, (cd i).toInt64, by rw [ha hc, refuse7 w hi]; rfl, by rw [hb hc, finding8 (RF w i) hi]; rfl, ref_inv h hi G.rf G.rf⟩
def cut (x : Int64) (b : Int32) : Int64 := if b = 8 then x.toInt32.toInt8.toInt32.toInt64 else if b = 16 then x.toInt32.toInt16.toInt32.toInt64 else x
theorem put_eq {k : Nat} (hk : k < 4) {b : Int32} (hb : w.1 (47 + 2 * k) 0 = b) {i : Nat} (hi : i < 40) (v : Int64) : fX2_put w k (iZ (i : Int)) v = some (sL w (48 + 2 * k) i (cut v b)) := by
  unfold fX2_put fX2_put_0 cut
  have ib : ibd (iZ (i : Int)) 40 = true := (ibd_iZ (by omega) (by omega)).mpr (by omega)
  rw [if_pos hk, hb, if_pos ib, if_pos ib, if_pos ib, iZ_clamp (by omega) (by omega), Int.toNat_natCast]
  by_cases a : b = 8
  · rw [if_pos a, if_pos a]
  · rw [if_neg a, if_neg a]
    by_cases c : b = 16
    · rw [if_pos c, if_pos c]
    · rw [if_neg c, if_neg c]
theorem cutTo_eq (v : Int64) (b : Int32) : fX8_cutTo v b = cut v b := rfl
theorem sheetK (h : Inv w) {k : Nat} (hk : k < 4) : ∃ n : Nat, w.1 75 k = iZ n ∧ n ≤ 40 ∧ w.1 (47 + 2 * k) 1 = iZ n := by
  obtain ⟨s1, s2, s3, s4, s5⟩ := h.1.2.2.2.2.1 k hk
  have e : w.1 75 k = iZ ((w.1 75 k).toInt.toNat : Nat) := by rw [Int.toNat_of_nonneg s4.1, iZ_self]
  exact ⟨_, e, by omega, s2.trans e⟩
/-- one number of a sheet told anew -/
theorem put_inv (h : Inv w) {k : Nat} (hk : k < 4) {i : Nat} (hi : i < 40) (v : Int64) : Inv (sL (sL w (48 + 2 * k) i v) 76 (40 * k + i) v) := by
  refine h.sheets (fun a b _ _ _ => rfl) (fun k' hk' => ?_)
  obtain ⟨s1, s2, s3, s4, s5⟩ := h.1.2.2.2.2.1 k' hk'
  refine ⟨s1, s2, s3, s4, fun c hc => ?_⟩
  rw [sL_r, if_neg (by omega), sL_r, sL_r]
  by_cases z : k' = k ∧ c = i
  · obtain ⟨rfl, rfl⟩ := z
    rw [if_pos ⟨rfl, rfl⟩, if_pos ⟨rfl, rfl⟩]
  · rw [if_neg (by omega), if_neg (by omega), sL_r, if_neg (by omega)]
    exact s5 c hc
theorem isMis {k : Nat} (hk : k < 4) : fX2_isMissing w k = some (bi (decide (w.1 (47 + 2 * k) 0 = 0))) := by
  unfold fX2_isMissing fX2_isMissing_0
  rw [if_pos hk]
  by_cases z : w.1 (47 + 2 * k) 0 = 0
  · rw [if_pos z, decide_eq_true z]; rfl
  · rw [if_neg z, decide_eq_false z]; rfl
theorem P_write (h : Inv w) (x y : Int32) (v : Int64) : BothL (fun w => fX7_write w x y v) (fun w => fX8_write w x y v) w := by
  refine BothL.guard h (dSide x) 0 (by omega) (fun q => ?_) (fun q => ?_) (fun q => ?_)
  · show fX7_write w x y v = _
    unfold fX7_write fX7_write_0
    rw [isSheet7, q, if_pos bF, c_0]
  · show fX8_write _ x y v = _
    unfold fX8_write fX8_write_0
    rw [isSheet8, q, if_pos bF, c_0]
  obtain ⟨k, hk, rfl⟩ := side_k q
  obtain ⟨s1, s2, s3, s4, s5⟩ := h.1.2.2.2.2.1 k hk
  obtain ⟨n, n1, n40, n2⟩ := sheetK h hk
  have ni : (w.1 75 k).toInt = n := by rw [n1, iZ_toInt (by omega) (by omega)]
  have a7 : ∀ u : xW, fX7_write u (iZ k) y v = if bi (decide (u.1 (47 + 2 * k) 0 = 0)) = 0 then (if y < 0 then fX7_write_53 u else if y < u.1 (47 + 2 * k) 1 then (if ibd y 40 = true then (fX2_put u k y v).bind fun z5 => some (z5, u.2 (48 + 2 * k) y.toNatClampNeg) else none) else fX7_write_53 u) else (fX7_refuse u (cd 5)).bind fun z => some (z.1, z.2.toInt64) := by
    intro u
    unfold fX7_write fX7_write_0
    rw [isSheet7, q, if_neg bT, if_pos (k_4 hk).1.1, (k_4 hk).1.2, isMis hk, Option.bind_some, c_5]
  have a8 : ∀ u : xW, fX8_write u (iZ k) y v = if u.1 74 k = 0 then (fX8_finding u (cd 5)).bind fun z => some (z.1, z.2.toInt64) else if bi (dR 0 (u.1 75 k - 1) y) = 0 then (fX8_finding u (cd 0)).bind fun z => some (z.1, z.2.toInt64) else if ibd ((40 * iZ k) + y) 160 = true then some (sL u 76 (((40 * iZ k) + y).toNatClampNeg) (fX8_cutTo v (u.1 74 k)), u.2 76 (((40 * iZ k) + y).toNatClampNeg)) else none := by
    intro u
    unfold fX8_write fX8_write_0
    rw [isSheet8, q, if_neg bT, if_pos (k_4 hk).1.1, (k_4 hk).1.2, win8, c_5, c_0]
  have rf : ∀ i q, q ≠ 46 → (RF w i).1 q = w.1 q := fun i q g => RF_r w i g
  refine BothL.guard h (!(decide (w.1 74 k = 0))) 5 (by omega) (fun z => ?_) (fun z => ?_) (fun z => ?_)
  · have z : w.1 74 k = 0 := by simpa using z
    show fX7_write w _ y v = _
    rw [a7, s1, decide_eq_true z, if_neg bT]
  · have z : w.1 74 k = 0 := by simpa using z
    show fX8_write _ _ y v = _
    rw [a8, rf 5 74 (by omega), if_pos z]
  have z : ¬ w.1 74 k = 0 := by simpa using z
  refine BothL.guard h (decide (0 ≤ y.toInt ∧ y.toInt < n)) 0 (by omega) (fun g => ?_) (fun g => ?_) (fun g => ?_)
  · have g := of_decide_eq_false g
    show fX7_write w _ y v = _
    rw [a7, s1, decide_eq_false z, if_pos bF]
    unfold fX7_write_53
    by_cases a : y < 0
    · rw [if_pos a, c_0]
    · rw [if_neg a, if_neg, c_0]
      rw [Int32.lt_iff_toInt_lt, i_0] at a
      rw [s2, Int32.lt_iff_toInt_lt, ni]
      omega
  · have g := of_decide_eq_false g
    show fX8_write _ _ y v = _
    have e : (iZ (n : Int) - 1).toInt = n - 1 := by rw [show (1 : Int32) = iZ 1 from rfl, iZ_sub, iZ_toInt (by omega) (by omega)]
    have d : dR 0 (iZ (n : Int) - 1) y = false := by
      unfold dR
      rw [e, i_0]
      exact decide_eq_false (by omega)
    rw [a8, rf 0 74 (by omega), if_neg z, rf 0 75 (by omega), n1, d, if_pos bF]
  have g := of_decide_eq_true g
  obtain ⟨i, rfl, hi⟩ : ∃ i : Nat, y = iZ i ∧ i < n := ⟨y.toInt.toNat, by rw [Int.toNat_of_nonneg g.1, iZ_self], by omega⟩
  have e : (iZ (n : Int) - 1).toInt = n - 1 := by rw [show (1 : Int32) = iZ 1 from rfl, iZ_sub, iZ_toInt (by omega) (by omega)]
  have d : dR 0 (iZ (n : Int) - 1) (iZ i) = true := by
    unfold dR
    rw [e, i_0, iZ_toInt (by omega) (by omega)]
    exact decide_eq_true (by omega)
  obtain ⟨x1, x2⟩ := ix_c k hk i (by omega)
  have lt : iZ (i : Int) < iZ (n : Int) := (iZ_lt (by omega) (by omega) (by omega) (by omega)).mpr (by omega)
  refine ⟨sL w (48 + 2 * k) i (cut v (w.1 74 k)), sL (sL w (48 + 2 * k) i (cut v (w.1 74 k))) 76 (40 * k + i) (cut v (w.1 74 k)), w.2 (48 + 2 * k) i, ?_, ?_, put_inv h hk (by omega) _⟩
  · show fX7_write w _ _ v = _
    rw [a7, s1, decide_eq_false z, if_pos bF, if_neg (k_neg (by omega)), n2, if_pos lt, if_pos ((ibd_iZ (by omega) (by omega)).mpr (by omega)), put_eq hk s1 (by omega), iZ_clamp (by omega) (by omega), Int.toNat_natCast]
    rfl
  · show fX8_write _ _ _ v = _
    rw [a8]
    show (if w.1 74 k = 0 then _ else if bi (dR 0 (w.1 75 k - 1) (iZ i)) = 0 then _ else if ibd ((40 * iZ k) + iZ i) 160 = true then some (sL (sL w (48 + 2 * k) i (cut v (w.1 74 k))) 76 (((40 * iZ k) + iZ i).toNatClampNeg) (cut v (w.1 74 k)), (sL w (48 + 2 * k) i (cut v (w.1 74 k))).2 76 (((40 * iZ k) + iZ i).toNatClampNeg)) else none) = _
    rw [if_neg z, n1, d, if_neg bT, if_pos x1, x2, sL_r, if_neg (by omega), s5 i (by omega)]
end WR
