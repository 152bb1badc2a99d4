/-! numbers of the machine as whole numbers -/
def iZ (z : Int) : Int32 := Int32.ofInt z
theorem iZ_add (a b : Int) : iZ a + iZ b = iZ (a + b) := (Int32.ofInt_add a b).symm
theorem iZ_sub (a b : Int) : iZ a - iZ b = iZ (a - b) := (Int32.ofInt_sub a b).symm
theorem iZ_mul (a b : Int) : iZ a * iZ b = iZ (a * b) := (Int32.ofInt_mul a b).symm
theorem iZ_neg (a : Int) : -(iZ a) = iZ (-a) := (Int32.ofInt_neg a).symm
theorem iZ_lit (n : Nat) : (@OfNat.ofNat Int32 n Int32.instOfNat) = iZ (n : Int) := rfl
theorem iZ_nI (n : Nat) : nI n = iZ (n : Int) := rfl
theorem iZ_toInt {z : Int} (h1 : -2147483648 ≤ z) (h2 : z < 2147483648) : (iZ z).toInt = z := Int32.toInt_ofInt_of_le (by exact h1) (by exact h2)
theorem iZ_self (x : Int32) : iZ x.toInt = x := Int32.ofInt_toInt x
theorem iZ_lt {a b : Int} (h1 : -2147483648 ≤ a) (h2 : a < 2147483648) (h3 : -2147483648 ≤ b) (h4 : b < 2147483648) : iZ a < iZ b ↔ a < b := by
  rw [Int32.lt_iff_toInt_lt, iZ_toInt h1 h2, iZ_toInt h3 h4]
theorem iZ_le {a b : Int} (h1 : -2147483648 ≤ a) (h2 : a < 2147483648) (h3 : -2147483648 ≤ b) (h4 : b < 2147483648) : iZ a ≤ iZ b ↔ a ≤ b := by
  rw [Int32.le_iff_toInt_le, iZ_toInt h1 h2, iZ_toInt h3 h4]
theorem iZ_eq {a b : Int} (h1 : -2147483648 ≤ a) (h2 : a < 2147483648) (h3 : -2147483648 ≤ b) (h4 : b < 2147483648) : iZ a = iZ b ↔ a = b := by
  constructor
  · intro h
    have e := congrArg Int32.toInt h
    rwa [iZ_toInt h1 h2, iZ_toInt h3 h4] at e
  · intro h
    rw [h]
theorem iZ_clamp {a : Int} (h1 : 0 ≤ a) (h2 : a < 2147483648) : (iZ a).toNatClampNeg = a.toNat := by
  show (iZ a).toInt.toNat = a.toNat
  rw [iZ_toInt (by omega) h2]
theorem iZ_div {a b : Int} (h1 : 0 ≤ a) (h2 : a < 2147483648) (h3 : 0 < b) (h4 : b < 2147483648) : iZ a / iZ b = iZ (a / b) := by
  refine Int32.toInt_inj.mp ?_
  have hq : 0 ≤ a / b := Int.ediv_nonneg h1 (by omega)
  have hq2 : a / b ≤ a := Int.ediv_le_self b h1
  rw [Int32.toInt_div, iZ_toInt (by omega) h2, iZ_toInt (by omega) h4, iZ_toInt (by omega) (by omega), Int.tdiv_eq_ediv_of_nonneg h1]
  rw [Int.bmod_def]
  omega
theorem iZ_rem {a b : Int} (h1 : 0 ≤ a) (h2 : a < 2147483648) (h3 : 0 < b) (h4 : b < 2147483648) : irem (iZ a) (iZ b) = iZ (a % b) := by
  unfold irem
  rw [iZ_div h1 h2 h3 h4, iZ_mul, iZ_sub]
  congr 1
  have := Int.emod_add_mul_ediv a b
  rw [Int.mul_comm] at this
  omega
theorem iZ_and3 (a : Int) : iZ a &&& 3 = iZ (a % 4) := by
  refine Int32.toBitVec_inj.mp ?_
  rw [Int32.toBitVec_and]
  show BitVec.ofInt 32 a &&& 3#32 = BitVec.ofInt 32 (a % 4)
  refine BitVec.eq_of_toNat_eq ?_
  rw [BitVec.toNat_and, BitVec.toNat_ofInt, BitVec.toNat_ofInt]
  show _ &&& (2 ^ 2 - 1) = _
  rw [Nat.and_two_pow_sub_one_eq_mod]
  omega
/-- a number within bounds, by its whole number -/
theorem iZ_of (x : Int32) : ∃ z : Int, x = iZ z ∧ -2147483648 ≤ z ∧ z < 2147483648 ∧ x.toInt = z := ⟨x.toInt, (iZ_self x).symm, Int32.le_toInt x, Int32.toInt_lt x, rfl⟩
theorem ibd_iZ {a : Int} {n : Nat} (h1 : -2147483648 ≤ a) (h2 : a < 2147483648) : ibd (iZ a) n = true ↔ 0 ≤ a ∧ a < n := by
  unfold ibd
  have e0 : (0 : Int32) = iZ 0 := rfl
  rw [Bool.and_eq_true, Bool.not_eq_true', decide_eq_false_iff_not, decide_eq_true_eq, e0, iZ_lt h1 h2 (by omega) (by omega)]
  constructor
  · rintro ⟨q1, q2⟩
    rw [iZ_clamp (by omega) h2] at q2
    omega
  · rintro ⟨q1, q2⟩
    refine ⟨by omega, ?_⟩
    rw [iZ_clamp q1 h2]
    omega
/-! reading behind writing -/
theorem sI_r (w : xW) (a k : Nat) (v : Int32) (b j : Nat) : (sI w a k v).1 b j = if b = a ∧ j = k then v else w.1 b j := rfl
theorem sI_2 (w : xW) (a k : Nat) (v : Int32) : (sI w a k v).2 = w.2 := rfl
theorem sL_1 (w : xW) (a k : Nat) (v : Int64) : (sL w a k v).1 = w.1 := rfl
theorem sL_r (w : xW) (a k : Nat) (v : Int64) (b j : Nat) : (sL w a k v).2 b j = if b = a ∧ j = k then v else w.2 b j := rfl
theorem sA_r (w : xW) (a : Nat) (f : Nat → Int32) (b : Nat) : (sA w a f).1 b = if b = a then f else w.1 b := rfl
theorem sA_2 (w : xW) (a : Nat) (f : Nat → Int32) : (sA w a f).2 = w.2 := rfl
theorem sB_1 (w : xW) (a : Nat) (f : Nat → Int64) : (sB w a f).1 = w.1 := rfl
theorem sB_r (w : xW) (a : Nat) (f : Nat → Int64) (b : Nat) : (sB w a f).2 b = if b = a then f else w.2 b := rfl
