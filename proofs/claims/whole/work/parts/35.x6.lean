/-! TideQuarter.Tides, tied to the tides as whole numbers -/
def IsT (w : xW) (r : Nat → Int32) : Prop := (∀ i, i < 4 → w.1 3 i = r i) ∧ ∀ i, i < 3 → w.1 4 i = r (4 + i)
def R2 (w w' : xW) : Prop := w'.2 = w.2 ∧ ∀ q, q ≠ 2 → w'.1 q = w.1 q
theorem R2.rf {w : xW} : R2 w w := ⟨rfl, fun _ _ => rfl⟩
theorem R2.tr {a b c : xW} (h : R2 a b) (g : R2 b c) : R2 a c := ⟨g.1.trans h.1, fun q hq => (g.2 q hq).trans (h.2 q hq)⟩
theorem R2.sI {w : xW} {k : Nat} {v : Int32} : R2 w (sI w 2 k v) := ⟨rfl, fun _ hq => sI_ne1 hq⟩
theorem IsT.r2 {w w' : xW} {r : Nat → Int32} (h : IsT w r) (g : R2 w w') : IsT w' r := ⟨fun i hi => by rw [g.2 3 (by omega)]; exact h.1 i hi, fun i hi => by rw [g.2 4 (by omega)]; exact h.2 i hi⟩
theorem bt_1 : ∀ i, i < 32 → bt 1 i = decide (i = 0) := by decide +kernel
theorem and1_0 (y : Int32) : y &&& 1 = 0 ↔ bt y 0 = false := by
  constructor
  · intro h
    have e := congrArg (fun z => bt z 0) h
    simp only [b_and, b_0, bt_1 0 (by omega)] at e
    simpa using e
  · intro h
    refine b_ext (fun i hi => ?_)
    rw [b_and, b_0, bt_1 i hi]
    by_cases q : i = 0
    · subst q
      rw [h]
      rfl
    · rw [decide_eq_false q, Bool.and_false]
theorem and1_1 (y : Int32) : y &&& 1 = 1 ↔ bt y 0 = true := by
  constructor
  · intro h
    have e := congrArg (fun z => bt z 0) h
    simp only [b_and, bt_1 0 (by omega)] at e
    simpa using e
  · intro h
    refine b_ext (fun i hi => ?_)
    rw [b_and, bt_1 i hi]
    by_cases q : i = 0
    · subst q
      rw [h]
      rfl
    · rw [decide_eq_false q, Bool.and_false]
theorem sbit (x : Int32) {k : Nat} (hk : k < 32) : (x >>> (iZ k &&& 31)) &&& 1 = 0 ↔ bt x k = false := by
  rw [and1_0, ← iZ_nI, b_sshr k hk x (by omega : 0 < 32), Nat.add_zero, if_pos hk]
theorem sbit1 (x : Int32) {k : Nat} (hk : k < 32) : (x >>> (iZ k &&& 31)) &&& 1 = 1 ↔ bt x k = true := by
  rw [and1_1, ← iZ_nI, b_sshr k hk x (by omega : 0 < 32), Nat.add_zero, if_pos hk]
theorem inB_lt {x : Int32} {k : Nat} (h : k < 30) : inB x k = bt x k := by
  unfold inB
  rw [decide_eq_true h, Bool.true_and]
theorem xB_bi (b : Bool) : xB (bi b) = true := by cases b <;> rfl
theorem bi_0 {b : Bool} : bi b = 0 ↔ b = false := by cases b <;> simp [bi]
theorem bi_1 {b : Bool} : bi b = 1 ↔ b = true := by cases b <;> simp [bi]
theorem k_neg {k : Nat} (h : k < 2147483648) : ¬ iZ (k : Int) < 0 := by
  rw [show (0 : Int32) = iZ 0 from rfl, iZ_lt (by omega) (by omega) (by omega) (by omega)]
  omega
theorem k_30 {k : Nat} (h : k < 2147483648) : (30 ≤ iZ (k : Int)) ↔ 30 ≤ k := by
  rw [show (30 : Int32) = iZ 30 from rfl, iZ_le (by omega) (by omega) (by omega) (by omega)]
  omega
section X6
variable {w : xW} {r : Nat → Int32} {N : Nat}
theorem IsT.f (h : IsT w r) : w.1 3 0 = iZ (tF r) ∧ w.1 3 1 = iZ (tP r) ∧ w.1 3 2 = iZ (tLn r) ∧ w.1 3 3 = iZ (tG r) ∧ w.1 4 0 = r 4 ∧ w.1 4 1 = r 5 ∧ w.1 4 2 = r 6 :=
  ⟨(h.1 0 (by omega)).trans (iZ_self _).symm, (h.1 1 (by omega)).trans (iZ_self _).symm, (h.1 2 (by omega)).trans (iZ_self _).symm, (h.1 3 (by omega)).trans (iZ_self _).symm, h.2 0 (by omega), h.2 1 (by omega), h.2 2 (by omega)⟩
theorem begins_eq (h : IsT w r) {k : Nat} (hk : k < 100000) : fX6_begins w (iZ k) = iZ (tbeg r k) := by
  obtain ⟨e0, e1, e2, e3, e4, -, -⟩ := h.f
  unfold fX6_begins fX6_begins_0 fX6_begins_28 tbeg tla
  rw [if_neg (k_neg (by omega)), e0, e1, e3, e4]
  have z0 : (0 : Int32) = iZ 0 := rfl
  by_cases c : 30 ≤ k
  · rw [if_pos ((k_30 (by omega)).mpr c), if_pos rfl, inB_30 c, iZ_mul, iZ_add, z0, iZ_add]
    rfl
  · rw [if_neg (fun q => c ((k_30 (by omega)).mp q)), inB_lt (by omega)]
    cases hb : bt (r 4) k with
    | true =>
      rw [if_neg (fun q => by rw [(sbit _ (by omega)).mp q] at hb; cases hb), if_neg (by decide), iZ_mul, iZ_add, iZ_add]
      rfl
    | false =>
      rw [if_pos ((sbit _ (by omega)).mpr hb), if_pos rfl, iZ_mul, iZ_add, z0, iZ_add]
      rfl
theorem turnsWhole_eq (h : IsT w r) {k : Nat} (hk : k < 100000) : fX6_turnsWhole w (iZ k) = bi (twh r k) := by
  obtain ⟨-, -, -, -, -, e5, e6⟩ := h.f
  unfold fX6_turnsWhole fX6_turnsWhole_0
  rw [if_neg (k_neg (by omega)), e5, e6]
  by_cases c : 30 ≤ k
  · rw [if_pos ((k_30 (by omega)).mpr c), twh_30 c]
    rfl
  · rw [if_neg (fun q => c ((k_30 (by omega)).mp q))]
    unfold twh tfa tha
    rw [inB_lt (by omega), inB_lt (by omega)]
    cases h5 : bt (r 5) k with
    | true =>
      rw [if_neg (fun q => by have := (sbit _ (by omega)).mp q; rw [b_or, h5] at this; cases this)]
      rfl
    | false =>
      cases h6 : bt (r 6) k with
      | true =>
        rw [if_neg (fun q => by have := (sbit _ (by omega)).mp q; rw [b_or, h5, h6] at this; cases this)]
        rfl
      | false =>
        rw [if_pos ((sbit _ (by omega)).mpr (by rw [b_or, h5, h6]; rfl))]
        rfl
theorem isIn1_eq (h : IsT w r) {k : Nat} (hk : k < 100000) : fX6_isIn w 1 (iZ k) = some (bi (tfa r k)) := by
  obtain ⟨-, -, -, -, -, e5, -⟩ := h.f
  unfold fX6_isIn fX6_isIn_0
  rw [if_neg (k_neg (by omega))]
  by_cases c : 30 ≤ k
  · rw [if_pos ((k_30 (by omega)).mpr c)]
    unfold tfa
    rw [inB_30 c]
    rfl
  · rw [if_neg (fun q => c ((k_30 (by omega)).mp q)), if_pos (by decide +kernel), show (Int32.toNatClampNeg 1) = 1 from by decide +kernel, e5]
    unfold tfa
    rw [inB_lt (by omega)]
    cases hb : bt (r 5) k with
    | true => rw [if_neg (fun q => by rw [(sbit _ (by omega)).mp q] at hb; cases hb)]; rfl
    | false => rw [if_pos ((sbit _ (by omega)).mpr hb)]; rfl
theorem iZ_pred (n : Nat) : iZ ((n + 1 : Nat) : Int) - 1 = iZ (n : Int) := by
  rw [show (1 : Int32) = iZ 1 from rfl, iZ_sub]
  congr 1
  omega
theorem iZ_m1 (n : Nat) : iZ ((n + 1 : Nat) : Int) + (-1) = iZ (n : Int) := by
  rw [show (-1 : Int32) = iZ (-1) from rfl, iZ_add]
  congr 1
  omega
theorem iZ_s1 (n : Nat) : iZ (n : Int) + 1 = iZ ((n + 1 : Nat) : Int) := by
  rw [show (1 : Int32) = iZ 1 from rfl, iZ_add]
  congr 1
theorem at_loop (h : IsT w r) (T : Int32) : ∀ (n m : Nat) (hb : Bool), n < m → n < 50000 → fX6_at_74 N m w T (iZ n) (bi hb) = fX6_at_119 N w T (iZ (rt r n).1) (bi (hb || (rt r n).2))
  | 0, 0, _, hm, _ => absurd hm (by omega)
  | 0, m + 1, hb, _, _ => by
    rw [fX6_at_74]
    unfold fX6_at_74b
    rw [if_pos (show iZ ((0 : Nat) : Int) ≤ 0 from by decide +kernel)]
    simp [rt]
  | n + 1, 0, _, hm, _ => absurd hm (by omega)
  | n + 1, m + 1, hb, hm, hn => by
    rw [fX6_at_74]
    unfold fX6_at_74b
    have z0 : (0 : Int32) = iZ 0 := rfl
    have z30 : (30 : Int32) = iZ 30 := rfl
    rw [if_neg (show ¬ iZ ((n + 1 : Nat) : Int) ≤ 0 from by rw [z0, iZ_le (by omega) (by omega) (by omega) (by omega)]; omega)]
    by_cases c : 30 < n + 1
    · rw [if_pos (show (30 : Int32) < iZ ((n + 1 : Nat) : Int) from by rw [z30, iZ_lt (by omega) (by omega) (by omega) (by omega)]; omega), rt, if_pos (twh_30 (by omega)), Bool.or_false]
    · rw [if_neg (show ¬ (30 : Int32) < iZ ((n + 1 : Nat) : Int) from by rw [z30, iZ_lt (by omega) (by omega) (by omega) (by omega)]; omega), iZ_pred, turnsWhole_eq h (by omega)]
      cases hw : twh r n with
      | true =>
        rw [if_neg (by decide), rt, if_pos hw, Bool.or_false]
      | false =>
        rw [if_pos (show bi false = 0 from rfl), rt, hw, if_neg (show ¬ (false = true) from by decide), iZ_m1]
        unfold fX6_at_115
        cases hb with
        | true =>
          rw [if_neg (by decide), show (1 : Int32) = bi true from rfl, at_loop h T n m true (by omega) (by omega)]
          simp
        | false =>
          rw [if_pos (show bi false = 0 from rfl), isIn1_eq h (by omega)]
          simp only [Option.bind_some]
          cases hf : tfa r n with
          | true =>
            rw [if_neg (by decide), show (0 : Int32) = bi false from rfl, at_loop h T n m false (by omega) (by omega)]
            simp
          | false =>
            rw [if_pos (show bi false = 0 from rfl), show (1 : Int32) = bi true from rfl, at_loop h T n m true (by omega) (by omega)]
            simp
theorem cnt_not (f : Nat → Bool) : ∀ n, cnt (fun k => !(f k)) n + cnt f n = n
  | 0 => rfl
  | n + 1 => by
    have := cnt_not f n
    rw [cnt, cnt]
    cases f n <;> simp <;> omega
theorem cnt_zero {f : Nat → Bool} : ∀ (n : Nat), (∀ k, k < n → f k = false) → cnt f n = 0
  | 0, _ => rfl
  | n + 1, h => by rw [cnt, cnt_zero n (fun k hk => h k (by omega)), h n (by omega)]; rfl
theorem cnt_to {f : Nat → Bool} {a b : Nat} (hab : a ≤ b) (h : ∀ k, a ≤ k → k < b → f k = false) : cnt f b = cnt f a := by
  obtain ⟨d, rfl⟩ := Nat.exists_eq_add_of_le hab
  rw [cnt_add, cnt_zero d (fun k hk => h _ (by omega) (by omega)), Nat.add_zero]
theorem below_bt {n : Nat} (hn : n < 50000) {k : Nat} (hk : k < 32) : bt (fX6_below (iZ n)) k = (decide (30 ≤ n) || decide (k < n)) := by
  unfold fX6_below fX6_below_0
  by_cases c : n < 30
  · rw [if_pos (show iZ (n : Int) < 30 from by rw [show (30 : Int32) = iZ 30 from rfl, iZ_lt (by omega) (by omega) (by omega) (by omega)]; omega), decide_eq_false (show ¬ 30 ≤ n by omega), Bool.false_or]
    have key : ∀ n : Nat, n < 30 → ∀ k : Nat, k < 32 → bt (((1 : Int32) <<< (iZ (n : Int) &&& 31)) - 1) k = decide (k < n) := by decide +kernel
    exact key n c k hk
  · rw [if_neg (show ¬ iZ (n : Int) < 30 from by rw [show (30 : Int32) = iZ 30 from rfl, iZ_lt (by omega) (by omega) (by omega) (by omega)]; omega), b_m1 k hk, decide_eq_true (show 30 ≤ n by omega), Bool.true_or]
theorem bt_hi {x : Int32} (h1 : 0 ≤ x.toInt) (h2 : x.toInt < 1073741824) {k : Nat} (hk : 30 ≤ k) : bt x k = false := by
  have e : x = nI x.toInt.toNat := by
    rw [iZ_nI, Int.toNat_of_nonneg h1, iZ_self]
  rw [e, bt_nI, Nat.testBit_lt_two_pow (Nat.lt_of_lt_of_le (show x.toInt.toNat < 2 ^ 30 by omega) (Nat.pow_le_pow_right (n := 2) (by decide) hk)), Bool.and_false]
theorem right_eq (h : IsT w r) (hw : WFt r) {n : Nat} (hn : n < 50000) : iZ n - (fJ6_bitCount_0f7a4 ((w.1 4 1) &&& (fX6_below (iZ n)))) = iZ (cnt (fun k => !(tfa r k)) n : Nat) := by
  obtain ⟨-, -, -, -, -, e5, -⟩ := h.f
  obtain ⟨-, -, -, -, -, ⟨h51, h52⟩, -⟩ := hw
  rw [e5]
  generalize hv : (r 5 &&& fX6_below (iZ n)) = v
  have hb : ∀ k, k < 32 → bt v k = (bt (r 5) k && (decide (30 ≤ n) || decide (k < n))) := fun k hk => by rw [← hv, b_and, below_bt hn hk]
  obtain ⟨m, hm, rfl⟩ : ∃ m : Nat, m < 1073741824 ∧ v = nI m := by
    refine ⟨v.toBitVec.toNat, ?_, ?_⟩
    · have : v.toBitVec.toNat < 2 ^ 30 := by
        refine Nat.lt_pow_two_of_testBit _ (fun i hi => ?_)
        by_cases q : i < 32
        · have e : bt v i = v.toBitVec.toNat.testBit i := rfl
          rw [← e, hb i q, bt_hi h51 h52 hi, Bool.false_and]
        · exact Nat.testBit_lt_two_pow (Nat.lt_of_lt_of_le v.toBitVec.isLt (Nat.pow_le_pow_right (n := 2) (by decide) (show 32 ≤ i by omega)))
      omega
    · refine Int32.toBitVec_inj.mp ?_
      show v.toBitVec = BitVec.ofNat 32 v.toBitVec.toNat
      simp
  rw [bitCount_eq hm]
  have c1 : cnt (fun k => m.testBit k) 32 = cnt (fun k => tfa r k) n := by
    have hk : ∀ k, k < 32 → m.testBit k = (bt (r 5) k && (decide (30 ≤ n) || decide (k < n))) := fun k hk => by
      have := hb k hk
      rw [bt_nI, decide_eq_true hk, Bool.true_and] at this
      exact this
    rcases Nat.lt_or_ge n 32 with q | q
    · rw [cnt_to (a := n) (b := 32) (by omega) (fun k h1 h2 => by
        rw [hk k h2]
        by_cases q2 : 30 ≤ n
        · rw [bt_hi h51 h52 (by omega), Bool.false_and]
        · rw [decide_eq_false q2, decide_eq_false (show ¬ k < n by omega)]
          simp)]
      refine cnt_cong n (fun k h1 => ?_)
      rw [hk k (by omega), decide_eq_true h1, Bool.or_true, Bool.and_true]
      unfold tfa inB
      by_cases q2 : k < 30
      · rw [decide_eq_true q2, Bool.true_and]
      · rw [decide_eq_false q2, Bool.false_and, bt_hi h51 h52 (by omega)]
    · rw [cnt_to (f := fun k => tfa r k) (a := 32) (b := n) q (fun k h1 h2 => inB_30 (by omega))]
      refine cnt_cong 32 (fun k h1 => ?_)
      rw [hk k h1, decide_eq_true (show 30 ≤ n by omega), Bool.true_or, Bool.and_true]
      unfold tfa inB
      by_cases q2 : k < 30
      · rw [decide_eq_true q2, Bool.true_and]
      · rw [decide_eq_false q2, Bool.false_and, bt_hi h51 h52 (by omega)]
  rw [c1, iZ_nI, iZ_sub]
  congr 1
  have := cnt_not (fun k => tfa r k) n
  omega
/-- at(): what stands at a tick -/
theorem at_eq (hN : 20000 ≤ N) (h : IsT w r) (hw : WFt r) {t : Int} (h0 : 0 ≤ t) (h1 : t < 20000) : ∃ w', fX6_at N w (iZ t) = some w' ∧ R2 w w' ∧ w'.1 2 2 = iZ (tnd r t : Nat) ∧ w'.1 2 3 = iZ (tTu r t : Nat) ∧ w'.1 2 4 = bi (tBe r t) := by
  have hnd := tnd_le hw h1
  -- behind the first part
  have tail : ∀ u : xW, R2 w u → u.1 2 2 = iZ (tnd r t : Nat) → ∃ w', fX6_at_67 N u (iZ t) = some w' ∧ R2 w w' ∧ w'.1 2 2 = iZ (tnd r t : Nat) ∧ w'.1 2 3 = iZ (tTu r t : Nat) ∧ w'.1 2 4 = bi (tBe r t) := by
    intro u hu e
    have hT := h.r2 hu
    unfold fX6_at_67
    rw [e, show (0 : Int32) = bi false from rfl, at_loop hT (iZ t) (tnd r t) N false (by omega) (by omega), Bool.false_or]
    have hrt := rt_le (r := r) (tnd r t)
    unfold fX6_at_119
    rw [right_eq hT hw (by omega)]
    generalize hu3 : sI u 2 3 (iZ (cnt (fun k => !(tfa r k)) (rt r (tnd r t)).1 : Nat)) = u3
    have r3 : R2 w u3 := by rw [← hu3]; exact hu.tr R2.sI
    have hT3 := h.r2 r3
    have a2 : u3.1 2 2 = iZ (tnd r t : Nat) := by rw [← hu3, sI_r, if_neg (by omega)]; exact e
    have a3 : u3.1 2 3 = iZ (tTu r t : Nat) := by rw [← hu3, sI_r, if_pos ⟨rfl, rfl⟩]; rfl
    have fin : ∀ b : Bool, tBe r t = b → ∃ w', fX6_at_173 N u3 (bi b) = some w' ∧ R2 w w' ∧ w'.1 2 2 = iZ (tnd r t : Nat) ∧ w'.1 2 3 = iZ (tTu r t : Nat) ∧ w'.1 2 4 = bi (tBe r t) := by
      intro b hb
      unfold fX6_at_173
      rw [if_pos (xB_bi b)]
      exact ⟨_, rfl, r3.tr R2.sI, by rw [sI_r, if_neg (by omega)]; exact a2, by rw [sI_r, if_neg (by omega)]; exact a3, by rw [sI_r, if_pos ⟨rfl, rfl⟩, hb]⟩
    have eB : tBe r t = ((rt r (tnd r t)).2 || (decide (tbeg r (tnd r t) ≤ t) && !(tfa r (tnd r t)))) := rfl
    have hbg := tbeg_lo hw (tnd r t)
    have hbr : tbeg r (tnd r t) < 2147483648 ∧ -2147483648 ≤ tbeg r (tnd r t) := by
      have hp := hw.2.1
      have hF := hw.1
      have hg := hw.2.2.2.1
      have hm : ((tnd r t : Nat) : Int) * tP r ≤ 1250 * 400 := Int.mul_le_mul (by omega) (by omega) (by omega) (by omega)
      have hm0 : 0 ≤ ((tnd r t : Nat) : Int) * tP r := Int.mul_nonneg (by omega) (by omega)
      omega
    cases hH : (rt r (tnd r t)).2 with
    | true =>
      rw [if_neg (by decide)]
      exact fin true (by rw [eB, hH]; rfl)
    | false =>
      rw [if_pos (show bi false = 0 from rfl), a2, begins_eq hT3 (by omega)]
      by_cases c : t < tbeg r (tnd r t)
      · rw [if_pos ((iZ_lt (by omega) (by omega) (by omega) (by omega)).mpr c)]
        exact fin false (by rw [eB, hH, decide_eq_false (by omega)]; rfl)
      · rw [if_neg (fun q => c ((iZ_lt (by omega) (by omega) (by omega) (by omega)).mp q)), isIn1_eq hT3 (by omega)]
        simp only [Option.bind_some]
        cases hf : tfa r (tnd r t) with
        | true =>
          rw [if_neg (by decide)]
          exact fin false (by rw [eB, hH, hf]; simp)
        | false =>
          rw [if_pos (show bi false = 0 from rfl)]
          exact fin true (by rw [eB, hH, hf, decide_eq_true (by omega)]; rfl)
  unfold fX6_at fX6_at_0
  have hT0 : IsT (sI w 2 2 0) r := h.r2 R2.sI
  obtain ⟨e0, e1, e2, -⟩ := hT0.f
  obtain ⟨⟨hF1, hF2⟩, ⟨hP1, hP2⟩, ⟨hL1, hL2⟩, -⟩ := id hw
  rw [e0, e1, e2]
  have z0 : (0 : Int32) = iZ 0 := rfl
  by_cases c : t < tF r
  · rw [if_pos ((iZ_lt (by omega) (by omega) (by omega) (by omega)).mpr c)]
    refine tail _ R2.sI ?_
    rw [sI_r, if_pos ⟨rfl, rfl⟩]
    unfold tnd
    rw [if_pos c]
    rfl
  · rw [if_neg (fun q => c ((iZ_lt (by omega) (by omega) (by omega) (by omega)).mp q)), if_neg (show ¬ iZ (tP r) ≤ 0 from fun q => absurd ((iZ_le (a := tP r) (b := 0) (by omega) (by omega) (by omega) (by omega)).mp q) (by omega)), if_neg (show ¬ iZ (tP r) = 0 from fun q => absurd ((iZ_eq (a := tP r) (b := 0) (by omega) (by omega) (by omega) (by omega)).mp q) (by omega))]
    rw [iZ_sub, iZ_div (by omega) (by omega) (by omega) (by omega)]
    have hq0 : 0 ≤ (t - tF r) / tP r := Int.ediv_nonneg (by omega) (by omega)
    have hq1 : (t - tF r) / tP r ≤ t - tF r := Int.ediv_le_self _ (by omega)
    have hqe : iZ ((t - tF r) / tP r) = iZ ((((t - tF r) / tP r).toNat : Nat) : Int) := by rw [Int.toNat_of_nonneg hq0]
    rw [hqe]
    have hnd2 : tnd r t = if ten r ((t - tF r) / tP r).toNat ≤ t then ((t - tF r) / tP r).toNat + 1 else ((t - tF r) / tP r).toNat := by
      show (if t < tF r then 0 else _) = _
      rw [if_neg c]
    have hq2 : ((t - tF r) / tP r).toNat < 20000 := by omega
    generalize ((t - tF r) / tP r).toNat = q at *
    rw [begins_eq hT0 (by omega), iZ_add]
    have hbr : tbeg r q + tLn r < 2147483648 ∧ -2147483648 ≤ tbeg r q + tLn r := by
      have hg := hw.2.2.2.1
      have hbg := tbeg_lo hw q
      have hm : (q : Int) * tP r ≤ 20000 * 400 := Int.mul_le_mul (by omega) (by omega) (by omega) (by omega)
      have hm0 : 0 ≤ (q : Int) * tP r := Int.mul_nonneg (by omega) (by omega)
      omega
    unfold fX6_at_64
    by_cases d : ten r q ≤ t
    · rw [if_neg (fun z => absurd ((iZ_lt (by omega) (by omega) (by omega) (by omega)).mp z) (by unfold ten at d; omega)), iZ_s1]
      refine tail _ (R2.sI.tr R2.sI) ?_
      rw [sI_r, if_pos ⟨rfl, rfl⟩, hnd2, if_pos d]
    · rw [if_pos ((iZ_lt (by omega) (by omega) (by omega) (by omega)).mpr (by unfold ten at d; omega))]
      refine tail _ (R2.sI.tr R2.sI) ?_
      rw [sI_r, if_pos ⟨rfl, rfl⟩, hnd2, if_neg d]
end X6
