/-! the reader of calendars -/
section READ
variable {w : xW} {N : Nat}
def rdF (a b : Nat → Int64) : Nat → Nat → Int
  | 0, _ => 0
  | j + 1, i => if lg_cmp (a i) (b i) = 0 then rdF a b j (i + 1) else 1 + (i : Int)
def sdF (r : Nat → Int32) (f : Int) (t g : Nat) (i : Nat) : Int64 := (iZ (tSide r f ((t + i * g : Nat) : Int))).toInt64
theorem read7_loop (hN : 20000 ≤ N) {r : Nat → Int32} (hw : WFt r) {k n : Nat} (hk : k < 4) (hn : n ≤ 40) {f : Int} {t g : Nat} (ht : t ≤ 9999) (hg : g ≤ 96) {a : Nat → Int64} : ∀ (j m i : Nat) (u : xW), j < m → i + j = n → IsT u r → u.1 (47 + 2 * k) 1 = iZ n → u.2 (48 + 2 * k) = a → ∃ u', fX7_read_26 N m u (iZ k) (iZ f) (iZ t) (iZ g) (iZ i) = some (u', iZ (rdF a (sdF r f t g) j i)) ∧ R2 u u'
  | _, 0, _, _, hm, _, _, _, _ => absurd hm (by omega)
  | 0, m + 1, i, u, _, hi, hT, h1, ha => by
    obtain rfl : i = n := by omega
    rw [fX7_read_26]
    unfold fX7_read_26b
    rw [if_pos (k_4 hk).1.1, (k_4 hk).1.2, h1, if_pos (by rw [iZ_le (by omega) (by omega) (by omega) (by omega)]; omega)]
    exact ⟨u, rfl, R2.rf⟩
  | j + 1, m + 1, i, u, hm, hi, hT, h1, ha => by
    have mg : i * g ≤ 39 * 96 := Nat.mul_le_mul (by omega) hg
    obtain ⟨w1, p1, p2, p3, p4, p5⟩ := at_eq hN hT hw (t := ((t + i * g : Nat) : Int)) (by omega) (by omega)
    have e : iZ (t : Int) + iZ (i : Int) * iZ (g : Int) = iZ ((t + i * g : Nat) : Int) := by
      rw [iZ_mul, iZ_add]
      congr 1
    rw [fX7_read_26]
    unfold fX7_read_26b
    rw [if_pos (k_4 hk).1.1, (k_4 hk).1.2, h1, if_neg (by rw [iZ_le (by omega) (by omega) (by omega) (by omega)]; omega), e, p1, Option.bind_some, if_pos ((ibd_iZ (by omega) (by omega)).mpr (by omega)), sideOf6_eq p4 p5, iZ_clamp (by omega) (by omega), Int.toNat_natCast, p2.1, ha, iZ_s1, rdF]
    by_cases z : lg_cmp (a i) (sdF r f t g i) = 0
    · have z' : lg_cmp (a i) (iZ (tSide r f ((t + i * g : Nat) : Int))).toInt64 = 0 := z
      rw [if_pos z', if_pos z]
      obtain ⟨u', o1, o2⟩ := read7_loop hN hw hk hn ht hg (f := f) (a := a) j m (i + 1) w1 (by omega) (by omega) (hT.r2 p2) ((congrFun (p2.2 (47 + 2 * k) (by omega)) 1).trans h1) (by rw [p2.1]; exact ha)
      exact ⟨u', o1, p2.tr o2⟩
    · have z' : ¬ lg_cmp (a i) (iZ (tSide r f ((t + i * g : Nat) : Int))).toInt64 = 0 := z
      rw [if_neg z', if_neg z, show (1 : Int32) = iZ 1 from rfl, iZ_add]
      exact ⟨w1, rfl, p2⟩
theorem read8_loop (hN : 20000 ≤ N) {r : Nat → Int32} (hw : WFt r) {k n : Nat} (hk : k < 4) (hn : n ≤ 40) {f : Int} (f0 : 0 ≤ f) (f3 : f ≤ 3) {t g : Nat} (ht : t ≤ 9999) (hg : g ≤ 96) {a : Nat → Int64} : ∀ (j m i : Nat) (u : xW), j < m → i + j = n → u.1 56 = r → TOK u → u.1 75 k = iZ n → (∀ i, i < 40 → u.2 76 (40 * k + i) = a i) → ∃ u', fX8_read_26 N m u (iZ k) (iZ f) (iZ t) (iZ g) (iZ i) = some (u', iZ (rdF a (sdF r f t g) j i)) ∧ R8 u u' ∧ TOK u'
  | _, 0, _, _, hm, _, _, _, _, _ => absurd hm (by omega)
  | 0, m + 1, i, u, _, hi, hr', hT, h1, ha => by
    obtain rfl : i = n := by omega
    rw [fX8_read_26]
    unfold fX8_read_26b
    rw [if_pos (k_4 hk).1.1, (k_4 hk).1.2, h1, if_pos (by rw [iZ_le (by omega) (by omega) (by omega) (by omega)]; omega)]
    exact ⟨u, rfl, R8.rf, hT⟩
  | j + 1, m + 1, i, u, hm, hi, hr', hT, h1, ha => by
    have mg : i * g ≤ 39 * 96 := Nat.mul_le_mul (by omega) hg
    obtain ⟨w1, p1, p2, p3⟩ := sideOf8R hN (by rw [hr']; exact hw) hT f0 f3 (t := t + i * g) (by omega)
    rw [hr'] at p1
    obtain ⟨x1, x2⟩ := ix_c k hk i (by omega)
    have e : iZ (t : Int) + iZ (g : Int) * iZ (i : Int) = iZ ((t + i * g : Nat) : Int) := by
      rw [iZ_mul, iZ_add, Int.mul_comm]
      congr 1
    rw [fX8_read_26]
    unfold fX8_read_26b
    rw [if_pos (k_4 hk).1.1, (k_4 hk).1.2, h1, if_neg (by rw [iZ_le (by omega) (by omega) (by omega) (by omega)]; omega), if_pos x1, x2, e, p1, Option.bind_some, ha i (by omega), iZ_s1, rdF]
    by_cases z : lg_cmp (a i) (sdF r f t g i) = 0
    · have z' : lg_cmp (a i) (iZ (tSide r f ((t + i * g : Nat) : Int))).toInt64 = 0 := z
      rw [if_pos z', if_pos z]
      obtain ⟨u', o1, o2, o3⟩ := read8_loop hN hw hk hn f0 f3 ht hg (a := a) j m (i + 1) w1 (by omega) (by omega) (p2.row.trans hr') p3 ((p2.2 75 k (by omega) (by omega) (by omega)).trans h1) (fun c hc => by rw [p2.1]; exact ha c hc)
      exact ⟨u', o1, p2.tr o2, o3⟩
    · have z' : ¬ lg_cmp (a i) (iZ (tSide r f ((t + i * g : Nat) : Int))).toInt64 = 0 := z
      rw [if_neg z', if_neg z, show (1 : Int32) = iZ 1 from rfl, iZ_add]
      exact ⟨w1, rfl, p2, p3⟩
theorem rdF_congr {a a' b : Nat → Int64} : ∀ (j i : Nat), (∀ c, i ≤ c → c < i + j → a c = a' c) → rdF a b j i = rdF a' b j i
  | 0, _, _ => rfl
  | j + 1, i, h => by rw [rdF, rdF, h i (by omega) (by omega), rdF_congr j (i + 1) (fun c g1 g2 => h c (by omega) (by omega))]
theorem P_read (hN : 20000 ≤ N) (h : Inv w) (x y v g : Int32) : Both (fun w => fX7_read N w x y v g) (fun w => fX8_read N w x y v g) w := by
  have nz : ∀ i, i < 7 → ¬ cd i = 0 := by decide +kernel
  refine Both.guard h (dSide x) 0 (by omega) (fun q => ?_) (fun q => ?_) (fun q => ?_)
  · show fX7_read N w x y v g = _
    unfold fX7_read fX7_read_0
    rw [cr7, q, if_neg (by decide), Option.bind_some, if_neg (nz 0 (by omega)), bind_id]
  · show fX8_read N _ x y v g = _
    unfold fX8_read fX8_read_0
    rw [cr8, q, if_neg (by decide), Option.bind_some, if_neg (nz 0 (by omega)), bind_id]
  obtain ⟨k, hk, rfl⟩ := side_k q
  obtain ⟨s1, s2, s3, s4, s5⟩ := h.1.2.2.2.2.1 k hk
  obtain ⟨n, n1, n40, n2⟩ := sheetK h hk
  have rf : ∀ i q, q ≠ 46 → (RF w i).1 q = w.1 q := fun i q g => RF_r w i g
  refine Both.guard h (!(decide (w.1 74 k = 0))) 5 (by omega) (fun z => ?_) (fun z => ?_) (fun z => ?_)
  · have z : w.1 74 k = 0 := by simpa using z
    show fX7_read N w _ y v g = _
    unfold fX7_read fX7_read_0
    rw [cr7, if_pos q, if_pos (k_4 hk).1.1, (k_4 hk).1.2, isMis hk, Option.bind_some, s1, decide_eq_true z, if_neg bT, Option.bind_some, if_neg (nz 5 (by omega)), bind_id]
  · have z : w.1 74 k = 0 := by simpa using z
    show fX8_read N _ _ y v g = _
    unfold fX8_read fX8_read_0
    rw [cr8, if_pos q, if_pos (k_4 hk).1.1, (k_4 hk).1.2, rf 5 74 (by omega), if_pos z, Option.bind_some, if_neg (nz 5 (by omega)), bind_id]
  have z : ¬ w.1 74 k = 0 := by simpa using z
  refine Both.guard h (dCal y v g) 0 (by omega) (fun c => ?_) (fun c => ?_) (fun c => ?_)
  · show fX7_read N w _ y v g = _
    unfold fX7_read fX7_read_0
    rw [cr7, if_pos q, if_pos (k_4 hk).1.1, (k_4 hk).1.2, isMis hk, Option.bind_some, s1, decide_eq_false z, if_pos bF, c, Option.bind_some, if_neg (show ¬ false = true by decide), if_neg (nz 0 (by omega)), bind_id]
  · show fX8_read N _ _ y v g = _
    unfold fX8_read fX8_read_0
    rw [cr8, if_pos q, if_pos (k_4 hk).1.1, (k_4 hk).1.2, rf 0 74 (by omega), if_neg z, c, Option.bind_some, if_neg (show ¬ false = true by decide), if_neg (nz 0 (by omega)), bind_id]
  obtain ⟨c1, c'⟩ := Bool.and_eq_true_iff.mp c
  obtain ⟨c2, c3⟩ := Bool.and_eq_true_iff.mp c'
  obtain ⟨f, rfl, f0, f3⟩ := dSide_of c1
  obtain ⟨t, rfl, ht⟩ := dTick_of c2
  have c3 := dR_iff.mp c3
  rw [i_1, show (96 : Int32).toInt = 96 from rfl] at c3
  obtain ⟨g, rfl, hg⟩ : ∃ m : Nat, g = iZ m ∧ m ≤ 96 := ⟨g.toInt.toNat, by rw [Int.toNat_of_nonneg (by omega), iZ_self], by omega⟩
  obtain ⟨u1, p1, p2⟩ := read7_loop hN h.wt hk n40 (f := f) ht hg n N 0 w (by omega) (by omega) h.ist n2 rfl
  have hi := p2.toG.Inv h
  obtain ⟨u2, o1, o2, o3⟩ := read8_loop hN h.wt hk n40 f0 f3 ht hg (a := fun i => w.2 76 (40 * k + i)) n N 0 u1 (by omega) (by omega) p2.toG.r hi.2.1 ((congrFun (p2.2 75 (by omega)) k).trans n1) (fun i _ => by rw [p2.1])
  have ec : rdF (w.2 (48 + 2 * k)) (sdF (w.1 56) f t g) n 0 = rdF (fun i => w.2 76 (40 * k + i)) (sdF (w.1 56) f t g) n 0 := rdF_congr n 0 (fun c _ g2 => s5 c (by omega))
  refine ⟨u1, u2, iZ (rdF (w.2 (48 + 2 * k)) (sdF (w.1 56) f t g) n 0), ?_, ?_, (o2.toG (fun _ => o3)).Inv hi⟩
  · show fX7_read N w _ _ _ _ = _
    unfold fX7_read fX7_read_0
    rw [cr7, if_pos q, if_pos (k_4 hk).1.1, (k_4 hk).1.2, isMis hk, Option.bind_some, s1, decide_eq_false z, if_pos bF, c, Option.bind_some, if_pos rfl, if_pos rfl]
    exact p1
  · show fX8_read N u1 _ _ _ _ = _
    unfold fX8_read fX8_read_0
    rw [cr8, if_pos q, if_pos (k_4 hk).1.1, (k_4 hk).1.2, p2.2 74 (by omega), if_neg z, c, Option.bind_some, if_pos rfl, if_pos rfl, ec]
    exact o1
end READ
