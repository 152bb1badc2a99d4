/-! Integer.bitCount, by bytes -/
def cnt (f : Nat → Bool) : Nat → Nat
  | 0 => 0
  | n + 1 => cnt f n + (if f n = true then 1 else 0)
theorem cnt_cong {f g : Nat → Bool} : ∀ (n : Nat), (∀ k, k < n → f k = g k) → cnt f n = cnt g n
  | 0, _ => rfl
  | n + 1, h => by rw [cnt, cnt, cnt_cong n (fun k hk => h k (by omega)), h n (by omega)]
theorem cnt_add (f : Nat → Bool) (a : Nat) : ∀ b, cnt f (a + b) = cnt f a + cnt (fun k => f (a + k)) b
  | 0 => rfl
  | b + 1 => by
    show cnt f (a + b) + (if f (a + b) = true then 1 else 0) = cnt f a + (cnt (fun k => f (a + k)) b + (if f (a + b) = true then 1 else 0))
    rw [cnt_add f a b, Nat.add_assoc]
theorem cnt_le (f : Nat → Bool) : ∀ n, cnt f n ≤ n
  | 0 => Nat.le_refl 0
  | n + 1 => by
    have h := cnt_le f n
    rw [cnt]
    split <;> omega
theorem bt_nI (n i : Nat) : bt (nI n) i = (decide (i < 32) && n.testBit i) := by
  show (BitVec.ofNat 32 n).getLsbD i = _
  rw [BitVec.getLsbD_ofNat]
theorem iushr_nI {n k : Nat} (hn : n < 4294967296) (hk : k < 32) : iushr (nI n) (nI k) = nI (n / 2 ^ k) := by
  refine b_ext (fun i hi => ?_)
  show bt (((nI n).toUInt32 >>> ((nI k).toUInt32 &&& Int32.toUInt32 31)).toInt32) i = _
  rw [b_ushr k hk, bt_nI, bt_nI, Nat.testBit_div_two_pow, Nat.add_comm i k]
  by_cases h : k + i < 32
  · simp [h, hi]
  · have : n.testBit (k + i) = false := Nat.testBit_lt_two_pow (Nat.lt_of_lt_of_le hn (Nat.pow_le_pow_right (n := 2) (by decide) (show 32 ≤ k + i by omega)))
    simp [this]
theorem and2 {a m : Nat} (c k : Nat) (ha : a < 256) (hm : m < 256) : (a + 256 * c) &&& (m + 256 * k) = (a &&& m) + 256 * (c &&& k) := by
  have hlt : a &&& m < 2 ^ 8 := Nat.lt_of_le_of_lt Nat.and_le_left ha
  refine Nat.eq_of_testBit_eq (fun i => ?_)
  rw [Nat.testBit_and, Nat.add_comm a, Nat.add_comm m, Nat.add_comm (a &&& m)]
  show ((2 ^ 8 * c + a).testBit i && (2 ^ 8 * k + m).testBit i) = (2 ^ 8 * (c &&& k) + (a &&& m)).testBit i
  rw [Nat.testBit_two_pow_mul_add _ ha, Nat.testBit_two_pow_mul_add _ hm, Nat.testBit_two_pow_mul_add _ hlt]
  by_cases h : i < 8
  · rw [if_pos h, if_pos h, if_pos h, Nat.testBit_and]
  · rw [if_neg h, if_neg h, if_neg h, Nat.testBit_and]
theorem and4 {a0 a1 a2 a3 m0 m1 m2 m3 : Nat} (h0 : a0 < 256) (h1 : a1 < 256) (h2 : a2 < 256) (g0 : m0 < 256) (g1 : m1 < 256) (g2 : m2 < 256) : (a0 + 256 * a1 + 65536 * a2 + 16777216 * a3) &&& (m0 + 256 * m1 + 65536 * m2 + 16777216 * m3) = (a0 &&& m0) + 256 * (a1 &&& m1) + 65536 * (a2 &&& m2) + 16777216 * (a3 &&& m3) := by
  rw [show a0 + 256 * a1 + 65536 * a2 + 16777216 * a3 = a0 + 256 * (a1 + 256 * (a2 + 256 * a3)) by omega, show m0 + 256 * m1 + 65536 * m2 + 16777216 * m3 = m0 + 256 * (m1 + 256 * (m2 + 256 * m3)) by omega, and2 _ _ h0 g0, and2 _ _ h1 g1, and2 _ _ h2 g2]
  omega
def q1 (b : Nat) : Nat := b - ((b / 2) &&& 85)
def q2 (b : Nat) : Nat := (b &&& 51) + ((b / 4) &&& 51)
def q3 (b : Nat) : Nat := (b + b / 16) &&& 15
theorem q1_ok : ∀ b, b < 256 → ∀ p, p < 2 → (b / 2 + 128 * p) &&& 85 = (b / 2) &&& 85 ∧ ((b / 2) &&& 85) ≤ b := by decide +kernel
theorem q2_ok : ∀ b, b < 256 → ∀ p, p < 4 → (b / 4 + 64 * p) &&& 51 = (b / 4) &&& 51 := by decide +kernel
theorem q2_lt : ∀ b, b < 256 → q2 (q1 b) ≤ 68 ∧ q2 (q1 b) % 16 ≤ 4 ∧ q1 b < 256 := by decide +kernel
theorem q3_ok : ∀ b, b < 69 → ∀ p, p < 5 → (b + b / 16 + 16 * p) &&& 15 = q3 b := by decide +kernel
theorem q3_pc : ∀ b, b < 256 → q3 (q2 (q1 b)) = cnt (fun k => b.testBit k) 8 := by decide +kernel
theorem q3_le : ∀ b, b < 256 → q3 (q2 (q1 b)) ≤ 8 := by decide +kernel
def qB (n : Nat) : Nat :=
  let m1 := n - ((n / 2) &&& 1431655765)
  let m2 := (m1 &&& 858993459) + ((m1 / 4) &&& 858993459)
  let m3 := (m2 + m2 / 16) &&& 252645135
  let m4 := m3 + m3 / 256
  (m4 + m4 / 65536) &&& 63
theorem qB_eq {b0 b1 b2 b3 : Nat} (h0 : b0 < 256) (h1 : b1 < 256) (h2 : b2 < 256) (h3 : b3 < 256) : qB (b0 + 256 * b1 + 65536 * b2 + 16777216 * b3) = cnt (fun k => b0.testBit k) 8 + cnt (fun k => b1.testBit k) 8 + cnt (fun k => b2.testBit k) 8 + cnt (fun k => b3.testBit k) 8 := by
  have e1 : ((b0 + 256 * b1 + 65536 * b2 + 16777216 * b3) / 2) &&& 1431655765 = ((b0 / 2) &&& 85) + 256 * ((b1 / 2) &&& 85) + 65536 * ((b2 / 2) &&& 85) + 16777216 * ((b3 / 2) &&& 85) := by
    rw [show (b0 + 256 * b1 + 65536 * b2 + 16777216 * b3) / 2 = (b0 / 2 + 128 * (b1 % 2)) + 256 * (b1 / 2 + 128 * (b2 % 2)) + 65536 * (b2 / 2 + 128 * (b3 % 2)) + 16777216 * (b3 / 2) by omega, show 1431655765 = 85 + 256 * 85 + 65536 * 85 + 16777216 * 85 by rfl, and4 (by omega) (by omega) (by omega) (by omega) (by omega) (by omega), (q1_ok b0 h0 _ (by omega)).1, (q1_ok b1 h1 _ (by omega)).1, (q1_ok b2 h2 _ (by omega)).1]
  have u0 := (q1_ok b0 h0 0 (by omega)).2
  have u1 := (q1_ok b1 h1 0 (by omega)).2
  have u2 := (q1_ok b2 h2 0 (by omega)).2
  have u3 := (q1_ok b3 h3 0 (by omega)).2
  have e2 : (b0 + 256 * b1 + 65536 * b2 + 16777216 * b3) - (((b0 + 256 * b1 + 65536 * b2 + 16777216 * b3) / 2) &&& 1431655765) = q1 b0 + 256 * q1 b1 + 65536 * q1 b2 + 16777216 * q1 b3 := by
    rw [e1]
    unfold q1
    omega
  obtain ⟨v0, w0', x0⟩ := q2_lt b0 h0
  obtain ⟨v1, w1', x1⟩ := q2_lt b1 h1
  obtain ⟨v2, w2', x2⟩ := q2_lt b2 h2
  obtain ⟨v3, w3', x3⟩ := q2_lt b3 h3
  have e3 : ((q1 b0 + 256 * q1 b1 + 65536 * q1 b2 + 16777216 * q1 b3) &&& 858993459) + (((q1 b0 + 256 * q1 b1 + 65536 * q1 b2 + 16777216 * q1 b3) / 4) &&& 858993459) = q2 (q1 b0) + 256 * q2 (q1 b1) + 65536 * q2 (q1 b2) + 16777216 * q2 (q1 b3) := by
    rw [show (q1 b0 + 256 * q1 b1 + 65536 * q1 b2 + 16777216 * q1 b3) / 4 = (q1 b0 / 4 + 64 * (q1 b1 % 4)) + 256 * (q1 b1 / 4 + 64 * (q1 b2 % 4)) + 65536 * (q1 b2 / 4 + 64 * (q1 b3 % 4)) + 16777216 * (q1 b3 / 4) by omega, show 858993459 = 51 + 256 * 51 + 65536 * 51 + 16777216 * 51 by rfl, and4 x0 x1 x2 (by omega) (by omega) (by omega), and4 (by omega) (by omega) (by omega) (by omega) (by omega) (by omega), q2_ok _ x0 _ (by omega), q2_ok _ x1 _ (by omega), q2_ok _ x2 _ (by omega)]
    unfold q2
    omega
  have e4 : ((q2 (q1 b0) + 256 * q2 (q1 b1) + 65536 * q2 (q1 b2) + 16777216 * q2 (q1 b3)) + (q2 (q1 b0) + 256 * q2 (q1 b1) + 65536 * q2 (q1 b2) + 16777216 * q2 (q1 b3)) / 16) &&& 252645135 = q3 (q2 (q1 b0)) + 256 * q3 (q2 (q1 b1)) + 65536 * q3 (q2 (q1 b2)) + 16777216 * q3 (q2 (q1 b3)) := by
    rw [show (q2 (q1 b0) + 256 * q2 (q1 b1) + 65536 * q2 (q1 b2) + 16777216 * q2 (q1 b3)) + (q2 (q1 b0) + 256 * q2 (q1 b1) + 65536 * q2 (q1 b2) + 16777216 * q2 (q1 b3)) / 16 = (q2 (q1 b0) + q2 (q1 b0) / 16 + 16 * (q2 (q1 b1) % 16)) + 256 * (q2 (q1 b1) + q2 (q1 b1) / 16 + 16 * (q2 (q1 b2) % 16)) + 65536 * (q2 (q1 b2) + q2 (q1 b2) / 16 + 16 * (q2 (q1 b3) % 16)) + 16777216 * (q2 (q1 b3) + q2 (q1 b3) / 16) by omega, show 252645135 = 15 + 256 * 15 + 65536 * 15 + 16777216 * 15 by rfl, and4 (by omega) (by omega) (by omega) (by omega) (by omega) (by omega), q3_ok _ (by omega) _ (by omega), q3_ok _ (by omega) _ (by omega), q3_ok _ (by omega) _ (by omega)]
    rfl
  have y0 := q3_le b0 h0
  have y1 := q3_le b1 h1
  have y2 := q3_le b2 h2
  have y3 := q3_le b3 h3
  have e5 : ∀ x, x &&& 63 = x % 64 := fun x => Nat.and_two_pow_sub_one_eq_mod x 6
  rw [← q3_pc b0 h0, ← q3_pc b1 h1, ← q3_pc b2 h2, ← q3_pc b3 h3]
  unfold qB
  simp only [e2, e3, e4, e5]
  generalize q3 (q2 (q1 b0)) = p0 at *
  generalize q3 (q2 (q1 b1)) = p1 at *
  generalize q3 (q2 (q1 b2)) = p2 at *
  generalize q3 (q2 (q1 b3)) = p3 at *
  clear e1 e2 e3 e4 e5 u0 u1 u2 u3 v0 v1 v2 v3 w0' w1' w2' w3' x0 x1 x2 x3
  rw [show (p0 + 256 * p1 + 65536 * p2 + 16777216 * p3) / 256 = p1 + 256 * p2 + 65536 * p3 by omega]
  rw [show (p0 + 256 * p1 + 65536 * p2 + 16777216 * p3 + (p1 + 256 * p2 + 65536 * p3)) / 65536 = p2 + p3 + 256 * p3 by omega]
  omega
theorem bitCount_eq {n : Nat} (hn : n < 1073741824) : fJ6_bitCount_0f7a4 (nI n) = nI (cnt (fun k => n.testBit k) 32) := by
  have hq : fJ6_bitCount_0f7a4 (nI n) = nI (qB n) := by
    have l1 : ((n / 2) &&& 1431655765) ≤ n := Nat.le_trans Nat.and_le_left (Nat.div_le_self n 2)
    unfold fJ6_bitCount_0f7a4 fJ6_bitCount_0f7a4_0 fJ6_bitCount_0f7a4_29 qB
    have c1 : (1 : Int32) = nI 1 := rfl
    have c2 : (2 : Int32) = nI 2 := rfl
    have c4 : (4 : Int32) = nI 4 := rfl
    have c8 : (8 : Int32) = nI 8 := rfl
    have c16 : (16 : Int32) = nI 16 := rfl
    have c63 : (63 : Int32) = nI 63 := rfl
    have k1 : (1431655765 : Int32) = nI 1431655765 := rfl
    have k2 : (858993459 : Int32) = nI 858993459 := rfl
    have k3 : (252645135 : Int32) = nI 252645135 := rfl
    rw [c1, c2, c4, c8, c16, c63, k1, k2, k3]
    have d1 : n - ((n / 2) &&& 1431655765) < 4294967296 := by omega
    have a1 : ∀ x, x &&& 858993459 ≤ 858993459 := fun x => Nat.and_le_right
    have a2 : ∀ x, x &&& 252645135 ≤ 252645135 := fun x => Nat.and_le_right
    rw [iushr_nI (by omega) (by omega), nx_and, pk_sub (by exact l1), iushr_nI (by exact d1) (by omega), nx_and, nx_and, nI_add]
    have b1 := a1 (n - ((n / 2 ^ 1) &&& 1431655765))
    have b2 := a1 ((n - ((n / 2 ^ 1) &&& 1431655765)) / 2 ^ 2)
    rw [iushr_nI (by omega) (by omega), nI_add, nx_and]
    have b3 := a2 ((n - (n / 2 ^ 1 &&& 1431655765) &&& 858993459) + ((n - (n / 2 ^ 1 &&& 1431655765)) / 2 ^ 2 &&& 858993459) + ((n - (n / 2 ^ 1 &&& 1431655765) &&& 858993459) + ((n - (n / 2 ^ 1 &&& 1431655765)) / 2 ^ 2 &&& 858993459)) / 2 ^ 4)
    rw [iushr_nI (by omega) (by omega), nI_add, iushr_nI (by omega) (by omega), nI_add, nx_and]
  rw [hq]
  congr 1
  obtain ⟨b0, b1, b2, b3, h0, h1, h2, h3, e⟩ : ∃ b0 b1 b2 b3, b0 < 256 ∧ b1 < 256 ∧ b2 < 256 ∧ b3 < 256 ∧ n = b0 + 256 * b1 + 65536 * b2 + 16777216 * b3 := ⟨n % 256, n / 256 % 256, n / 65536 % 256, n / 16777216, by omega, by omega, by omega, by omega, by omega⟩
  rw [e, qB_eq h0 h1 h2 h3]
  have t : ∀ (a c i : Nat), a < 256 → (a + 256 * c).testBit i = if i < 8 then a.testBit i else c.testBit (i - 8) := by
    intro a c i ha
    rw [Nat.add_comm]
    exact Nat.testBit_two_pow_mul_add c (i := 8) ha i
  rw [show b0 + 256 * b1 + 65536 * b2 + 16777216 * b3 = b0 + 256 * (b1 + 256 * (b2 + 256 * b3)) by omega]
  have k0 : cnt (fun k => (b0 + 256 * (b1 + 256 * (b2 + 256 * b3))).testBit k) 8 = cnt (fun k => b0.testBit k) 8 := cnt_cong 8 (fun k hk => by
    rw [t _ _ _ h0, if_pos hk])
  have k1 : cnt (fun k => (b0 + 256 * (b1 + 256 * (b2 + 256 * b3))).testBit (8 + k)) 8 = cnt (fun k => b1.testBit k) 8 := cnt_cong 8 (fun k hk => by
    rw [t _ _ _ h0, if_neg (by omega), show 8 + k - 8 = k by omega, t _ _ _ h1, if_pos hk])
  have k2 : cnt (fun k => (b0 + 256 * (b1 + 256 * (b2 + 256 * b3))).testBit (8 + (8 + k))) 8 = cnt (fun k => b2.testBit k) 8 := cnt_cong 8 (fun k hk => by
    rw [t _ _ _ h0, if_neg (by omega), show 8 + (8 + k) - 8 = 8 + k by omega, t _ _ _ h1, if_neg (by omega), show 8 + k - 8 = k by omega, t _ _ _ h2, if_pos hk])
  have k3 : cnt (fun k => (b0 + 256 * (b1 + 256 * (b2 + 256 * b3))).testBit (8 + (8 + (8 + k)))) 8 = cnt (fun k => b3.testBit k) 8 := cnt_cong 8 (fun k hk => by
    rw [t _ _ _ h0, if_neg (by omega), show 8 + (8 + (8 + k)) - 8 = 8 + (8 + k) by omega, t _ _ _ h1, if_neg (by omega), show 8 + (8 + k) - 8 = 8 + k by omega, t _ _ _ h2, if_neg (by omega), show 8 + k - 8 = k by omega])
  have k4 : cnt (fun k => (b0 + 256 * (b1 + 256 * (b2 + 256 * b3))).testBit k) 32 = cnt (fun k => (b0 + 256 * (b1 + 256 * (b2 + 256 * b3))).testBit k) 8 + (cnt (fun k => (b0 + 256 * (b1 + 256 * (b2 + 256 * b3))).testBit (8 + k)) 8 + (cnt (fun k => (b0 + 256 * (b1 + 256 * (b2 + 256 * b3))).testBit (8 + (8 + k))) 8 + cnt (fun k => (b0 + 256 * (b1 + 256 * (b2 + 256 * b3))).testBit (8 + (8 + (8 + k)))) 8)) := by
    rw [show (32 : Nat) = 8 + (8 + (8 + 8)) from rfl, cnt_add _ 8 (8 + (8 + 8)), cnt_add _ 8 (8 + 8), cnt_add _ 8 8]
  rw [k4, k0, k1, k2, k3]
  omega
