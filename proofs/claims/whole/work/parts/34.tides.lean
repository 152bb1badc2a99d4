/-! the tides, as whole numbers: over a row r of numbers (0 flood, 1 period, 2 length, 3 lag, 4 late, 5 fails, 6 halves) -/
def tF (r : Nat → Int32) : Int := (r 0).toInt
def tP (r : Nat → Int32) : Int := (r 1).toInt
def tLn (r : Nat → Int32) : Int := (r 2).toInt
def tG (r : Nat → Int32) : Int := (r 3).toInt
def inB (x : Int32) (k : Nat) : Bool := decide (k < 30) && bt x k
def tla (r : Nat → Int32) (k : Nat) : Bool := inB (r 4) k
def tfa (r : Nat → Int32) (k : Nat) : Bool := inB (r 5) k
def tha (r : Nat → Int32) (k : Nat) : Bool := inB (r 6) k
def twh (r : Nat → Int32) (k : Nat) : Bool := !(tfa r k) && !(tha r k)
def tbeg (r : Nat → Int32) (k : Nat) : Int := tF r + k * tP r + (if tla r k = true then tG r else 0)
def ten (r : Nat → Int32) (k : Nat) : Int := tbeg r k + tLn r
def WFt (r : Nat → Int32) : Prop := (0 ≤ tF r ∧ tF r ≤ 400) ∧ (16 ≤ tP r ∧ tP r ≤ 400) ∧ (1 ≤ tLn r ∧ tLn r ≤ 7) ∧ (0 ≤ tG r ∧ tG r ≤ 8) ∧ (0 ≤ (r 4).toInt ∧ (r 4).toInt < 1073741824) ∧ (0 ≤ (r 5).toInt ∧ (r 5).toInt < 1073741824) ∧ (0 ≤ (r 6).toInt ∧ (r 6).toInt < 1073741824)
def tnd (r : Nat → Int32) (t : Int) : Nat := if t < tF r then 0 else if ten r ((t - tF r) / tP r).toNat ≤ t then ((t - tF r) / tP r).toNat + 1 else ((t - tF r) / tP r).toNat
def rt (r : Nat → Int32) : Nat → Nat × Bool
  | 0 => (0, false)
  | n + 1 => if twh r n = true then (n + 1, false) else ((rt r n).1, (rt r n).2 || !(tfa r n))
def tQ (r : Nat → Int32) (n : Nat) : Nat := cnt (fun k => !(tfa r k)) (rt r n).1
def tH (r : Nat → Int32) (n : Nat) : Bool := (rt r n).2
def tTu (r : Nat → Int32) (t : Int) : Nat := tQ r (tnd r t)
def tBe (r : Nat → Int32) (t : Int) : Bool := tH r (tnd r t) || (decide (tbeg r (tnd r t) ≤ t) && !(tfa r (tnd r t)))
theorem inB_30 {x : Int32} {k : Nat} (h : 30 ≤ k) : inB x k = false := by
  unfold inB
  rw [decide_eq_false (by omega), Bool.false_and]
theorem twh_30 {r : Nat → Int32} {k : Nat} (h : 30 ≤ k) : twh r k = true := by
  unfold twh tfa tha
  rw [inB_30 h, inB_30 h]
  rfl
section TID
variable {r : Nat → Int32}
theorem tbeg_lo (h : WFt r) (k : Nat) : tF r + k * tP r ≤ tbeg r k ∧ tbeg r k ≤ tF r + k * tP r + tG r := by
  obtain ⟨-, -, -, h4, -⟩ := h
  unfold tbeg
  split <;> omega
theorem ten_next (h : WFt r) (k : Nat) : ten r k < tbeg r (k + 1) := by
  have h1 := tbeg_lo h k
  have h2 := tbeg_lo h (k + 1)
  obtain ⟨-, hp, hl, hg, -⟩ := h
  unfold ten
  have e : ((k + 1 : Nat) : Int) * tP r = k * tP r + tP r := by
    rw [Int.natCast_add, Int.add_mul]
    simp
  omega
theorem tbeg_ten (h : WFt r) (k : Nat) : tbeg r k < ten r k := by
  obtain ⟨-, -, hl, -⟩ := h
  unfold ten
  omega
theorem tbeg_step (h : WFt r) (k : Nat) : tbeg r k < tbeg r (k + 1) := Int.lt_trans (tbeg_ten h k) (ten_next h k)
theorem tbeg_mono (h : WFt r) {a b : Nat} (hab : a ≤ b) : tbeg r a ≤ tbeg r b := by
  induction b with
  | zero =>
    obtain rfl : a = 0 := by omega
    exact Int.le_refl _
  | succ b ih =>
    rcases Nat.lt_or_ge a (b + 1) with q | q
    · exact Int.le_trans (ih (by omega)) (Int.le_of_lt (tbeg_step h b))
    · obtain rfl : a = b + 1 := by omega
      exact Int.le_refl _
theorem ten_lt (h : WFt r) {a b : Nat} (hab : a < b) : ten r a < tbeg r b := Int.lt_of_lt_of_le (ten_next h a) (tbeg_mono h hab)
theorem ten_mono (h : WFt r) {a b : Nat} (hab : a ≤ b) : ten r a ≤ ten r b := by
  have := tbeg_mono h hab
  unfold ten
  omega
theorem tnd_spec (h : WFt r) (t : Int) : (∀ k, k < tnd r t → ten r k ≤ t) ∧ t < ten r (tnd r t) := by
  have hF := h.1
  obtain ⟨hp1, hp2⟩ := h.2.1
  have hl := h.2.2.1
  unfold tnd
  by_cases c : t < tF r
  · rw [if_pos c]
    refine ⟨fun k hk => absurd hk (by omega), ?_⟩
    have h1 := tbeg_lo h 0
    unfold ten
    simp only [Int.natCast_zero, Int.zero_mul] at h1
    omega
  · rw [if_neg c]
    generalize hq : ((t - tF r) / tP r).toNat = q
    have hq0 : 0 ≤ (t - tF r) / tP r := Int.ediv_nonneg (by omega) (by omega)
    have hqi : (q : Int) = (t - tF r) / tP r := by omega
    have hm : (q : Int) * tP r ≤ t - tF r := by rw [hqi]; exact Int.ediv_mul_le _ (by omega)
    have hm2 : t - tF r < ((q : Int) + 1) * tP r := by rw [hqi]; exact Int.lt_ediv_add_one_mul_self _ (by omega)
    have hlo : ∀ k, k < q → ten r k ≤ t := by
      intro k hk
      have h1 := ten_next h k
      have h2 := tbeg_mono h (show k + 1 ≤ q by omega)
      have h3 := tbeg_lo h k
      have hk1 : ((k + 1 : Nat) : Int) * tP r ≤ (q : Int) * tP r := Int.mul_le_mul_of_nonneg_right (by omega) (by omega)
      have e : ((k + 1 : Nat) : Int) * tP r = k * tP r + tP r := by
        rw [Int.natCast_add, Int.add_mul]
        simp
      unfold ten
      have hg := h.2.2.2.1
      omega
    have hhi : t < tbeg r (q + 1) := by
      have h1 := tbeg_lo h (q + 1)
      have e : ((q + 1 : Nat) : Int) * tP r = ((q : Int) + 1) * tP r := by rw [Int.natCast_add]; rfl
      omega
    by_cases d : ten r q ≤ t
    · rw [if_pos d]
      refine ⟨fun k hk => ?_, Int.lt_trans hhi (tbeg_ten h _)⟩
      rcases Nat.lt_or_ge k q with z | z
      · exact hlo k z
      · obtain rfl : k = q := by omega
        exact d
    · rw [if_neg d]
      exact ⟨hlo, by omega⟩
theorem tnd_of (h : WFt r) {t : Int} {n : Nat} (h1 : ∀ k, k < n → ten r k ≤ t) (h2 : t < ten r n) : tnd r t = n := by
  obtain ⟨g1, g2⟩ := tnd_spec h t
  rcases Nat.lt_trichotomy (tnd r t) n with q | q | q
  · have := h1 _ q
    omega
  · exact q
  · have := g1 _ q
    omega
theorem tnd_mono (h : WFt r) {t u : Int} (htu : t ≤ u) : tnd r t ≤ tnd r u := by
  obtain ⟨g1, g2⟩ := tnd_spec h t
  obtain ⟨g3, g4⟩ := tnd_spec h u
  rcases Nat.lt_or_ge (tnd r u) (tnd r t) with q | q
  · have := g1 _ q
    omega
  · exact q
theorem tnd_le (h : WFt r) {t : Int} (ht : t < 20000) : tnd r t ≤ 1250 := by
  obtain ⟨g1, -⟩ := tnd_spec h t
  rcases Nat.lt_or_ge 1250 (tnd r t) with q | q
  · have h1 := g1 1250 q
    have h2 := tbeg_lo h 1250
    have hp := h.2.1
    have hl := h.2.2.1
    have hF := h.1
    unfold ten at h1
    have e : ((1250 : Nat) : Int) * tP r ≥ 1250 * 16 := by
      have : (1250 : Int) * 16 ≤ 1250 * tP r := Int.mul_le_mul_of_nonneg_left hp.1 (by omega)
      simpa using this
    omega
  · exact q
theorem rt_le : ∀ n, (rt r n).1 ≤ n
  | 0 => Nat.le_refl 0
  | n + 1 => by
    have := rt_le n
    rw [rt]
    split
    · exact Nat.le_refl _
    · exact Nat.le_trans this (by omega)
/-- a failing tide changes nothing -/
theorem tQ_fail {n : Nat} (hf : tfa r n = true) : tQ r (n + 1) = tQ r n ∧ tH r (n + 1) = tH r n := by
  have : twh r n = false := by
    unfold twh
    rw [hf]
    rfl
  unfold tQ tH
  rw [rt, this]
  simp [hf]
theorem tQ_half {n : Nat} (hf : tfa r n = false) (hh : tha r n = true) : tQ r (n + 1) = tQ r n ∧ tH r (n + 1) = true := by
  have : twh r n = false := by
    unfold twh
    rw [hh, Bool.not_true, Bool.and_false]
  unfold tQ tH
  rw [rt, this]
  simp [hf]
theorem tQ_whole {n : Nat} (hf : tfa r n = false) (hh : tha r n = false) : tQ r (n + 1) = cnt (fun k => !(tfa r k)) (n + 1) ∧ tH r (n + 1) = false := by
  have : twh r n = true := by
    unfold twh
    rw [hf, hh]
    rfl
  unfold tQ tH
  rw [rt, if_pos this]
  exact ⟨rfl, rfl⟩
end TID
