/-! refusals; the small questions -/
def RF (w : xW) (i : Nat) : xW := sI w 46 i (w.1 46 i + 1)
def FI (w : xW) (i : Nat) : xW := sI (sI w 58 (i + 1) (w.1 58 (i + 1) + 1)) 58 0 (w.1 58 0 + 1)
def cd (i : Nat) : Int32 := iZ (-1000000001 - i)
theorem refuse7 (w : xW) {i : Nat} (hi : i < 7) : fX7_refuse w (cd i) = some (RF w i, cd i) := by
  unfold fX7_refuse fX7_refuse_0 cd
  have e : (-1000000001 : Int32) - iZ (-1000000001 - i) = iZ (i : Int) := by
    rw [show (-1000000001 : Int32) = iZ (-1000000001) from rfl, iZ_sub]
    congr 1
    omega
  have e7 : ¬ (7 : Int32) ≤ iZ (i : Int) := by
    rw [show (7 : Int32) = iZ 7 from rfl, iZ_le (by omega) (by omega) (by omega) (by omega)]
    omega
  rw [e, if_neg (k_neg (by omega)), if_neg e7, if_pos ((ibd_iZ (by omega) (by omega)).mpr (by omega)), iZ_clamp (by omega) (by omega), Int.toNat_natCast]
  rfl
theorem finding8 (w : xW) {i : Nat} (hi : i < 7) : fX8_finding w (cd i) = some (FI w i, cd i) := by
  unfold fX8_finding fX8_finding_0 cd
  have e : (-1000000001 : Int32) - iZ (-1000000001 - i) + 1 = iZ ((i + 1 : Nat) : Int) := by
    rw [show (-1000000001 : Int32) = iZ (-1000000001) from rfl, show (1 : Int32) = iZ 1 from rfl, iZ_sub, iZ_add]
    congr 1
    omega
  rw [e, if_pos ((ibd_iZ (by omega) (by omega)).mpr (by omega)), iZ_clamp (by omega) (by omega), Int.toNat_natCast]
  unfold FI
  rw [sI_r (b := 58) (j := 0), if_neg (by omega)]
theorem FI_found {w : xW} (h : FoundOK w) {i : Nat} (hi : i < 7) : FoundOK (FI (RF w i) i) := by
  obtain ⟨h1, h2⟩ := h
  have r46 : ∀ j, (FI (RF w i) i).1 46 j = if j = i then w.1 46 i + 1 else w.1 46 j := by
    intro j
    unfold FI RF
    rw [sI_r, if_neg (by omega), sI_r, if_neg (by omega), sI_r]
    by_cases q : j = i
    · subst q
      rw [if_pos ⟨rfl, rfl⟩, if_pos rfl]
    · rw [if_neg (by omega), if_neg q]
  have r58 : ∀ j, j ≠ 0 → (FI (RF w i) i).1 58 j = if j = i + 1 then w.1 58 (i + 1) + 1 else w.1 58 j := by
    intro j hj
    unfold FI RF
    rw [sI_r, if_neg (by omega), sI_r]
    by_cases q : j = i + 1
    · subst q
      rw [if_pos ⟨rfl, rfl⟩, if_pos rfl, sI_r, if_neg (by omega)]
    · rw [if_neg (by omega), if_neg q, sI_r, if_neg (by omega)]
  have r0 : (FI (RF w i) i).1 58 0 = w.1 58 0 + 1 := by
    unfold FI RF
    rw [sI_r, if_pos ⟨rfl, rfl⟩, sI_r, if_neg (by omega)]
  constructor
  · intro j hj
    rw [r46, r58 _ (by omega)]
    by_cases q : j = i
    · subst q
      rw [if_pos rfl, if_pos rfl, h1 j hj]
    · rw [if_neg q, if_neg (by omega), h1 j hj]
  · rw [r0, r58 1 (by omega), r58 2 (by omega), r58 3 (by omega), r58 4 (by omega), r58 5 (by omega), r58 6 (by omega), r58 7 (by omega), h2]
    rcases (show i = 0 ∨ i = 1 ∨ i = 2 ∨ i = 3 ∨ i = 4 ∨ i = 5 ∨ i = 6 by omega) with rfl | rfl | rfl | rfl | rfl | rfl | rfl <;> simp <;> ac_rfl
/-- all that isn't found -/
def Oth (w w' : xW) : Prop := (∀ q k, q ≠ 46 → q ≠ 58 → w'.1 q k = w.1 q k) ∧ w'.2 = w.2
theorem Oth.row {w w' : xW} (h : Oth w w') {q : Nat} (h1 : q ≠ 46) (h2 : q ≠ 58) : w'.1 q = w.1 q := funext fun k => h.1 q k h1 h2
theorem Oth.Core {w w' : xW} (h : Oth w w') (c : Core w) (f : FoundOK w') : Core w' := by
  obtain ⟨⟨c1, c2⟩, c3, c6, c7, c8, c9⟩ := c
  have isr : ∀ q r, (q = 1 ∨ q = 21) → IsR w q r → IsR w' q r := by
    intro q r hq c
    have er : ∀ j, j < 10 → w'.1 (q + j) = w.1 (q + j) := fun j hj => h.row (by omega) (by omega)
    have e0 := er 0 (by omega)
    rw [Nat.add_zero] at e0
    unfold IsR
    rw [er 2 (by omega), er 3 (by omega), er 4 (by omega), er 5 (by omega), er 6 (by omega), er 7 (by omega), er 8 (by omega), er 9 (by omega), e0]
    exact c
  refine ⟨⟨by rw [h.row (q := 56) (by omega) (by omega)]; exact isr 1 _ (Or.inl rfl) c1, by rw [h.row (q := 56) (by omega) (by omega)]; exact c2⟩, ?_, f, ?_, ?_, ?_⟩
  · unfold KeptOK
    rw [h.row (q := 0) (by omega) (by omega), h.row (q := 55) (by omega) (by omega), h.row (q := 57) (by omega) (by omega)]
    exact ⟨c3.1, c3.2.1, fun q => ⟨isr 21 _ (Or.inr rfl) (c3.2.2 q).1, (c3.2.2 q).2⟩⟩
  · unfold TapeOK
    rw [h.row (q := 42) (by omega) (by omega), h.row (q := 55) (by omega) (by omega), h.row (q := 43) (by omega) (by omega), h.row (q := 70) (by omega) (by omega)]
    exact c7
  · intro k hk
    rw [h.row (q := 47 + 2 * k) (by omega) (by omega), h.row (q := 74) (by omega) (by omega), h.row (q := 75) (by omega) (by omega), h.2]
    exact c8 k hk
  · unfold TabOK
    rw [h.row (q := 59) (by omega) (by omega), h.row (q := 60) (by omega) (by omega)]
    exact c9
theorem Oth.toTOK {w w' : xW} (h : Oth w w') (c : TOK w) : TOK w' := by
  unfold TOK at c ⊢
  rw [h.row (q := 55) (by omega) (by omega), h.row (q := 56) (by omega) (by omega), h.row (q := 61) (by omega) (by omega), h.row (q := 62) (by omega) (by omega)]
  exact c
theorem Oth.toHOK {w w' : xW} (h : Oth w w') (c : HOK w) : HOK w' := by
  unfold HOK at c ⊢
  rw [h.row (q := 34) (by omega) (by omega), h.row (q := 56) (by omega) (by omega), h.row (q := 35) (by omega) (by omega), h.row (q := 36) (by omega) (by omega), h.row (q := 37) (by omega) (by omega)]
  exact c
theorem RF_oth (w : xW) (i : Nat) : Oth w (RF w i) := ⟨fun q k h1 h2 => by unfold RF; rw [sI_r, if_neg (by omega)], rfl⟩
theorem FI_oth (w : xW) (i : Nat) : Oth w (FI w i) := ⟨fun q k h1 h2 => by unfold FI; rw [sI_r, if_neg (by omega), sI_r, if_neg (by omega)], rfl⟩
theorem Oth.tr {a b c : xW} (h : Oth a b) (g : Oth b c) : Oth a c := ⟨fun q k h1 h2 => (g.1 q k h1 h2).trans (h.1 q k h1 h2), g.2.trans h.2⟩
/-- a refusal of both: behind questions of either -/
theorem ref_inv {w w1 w2 : xW} {i : Nat} (h : Inv w) (hi : i < 7) (g : G w w1) (g2 : G (RF w1 i) w2) : Inv (FI w2 i) := by
  have h1 := g.Inv h
  have hu : Inv (FI (RF w1 i) i) := by
    have o := (RF_oth w1 i).tr (FI_oth (RF w1 i) i)
    exact ⟨o.Core h1.1 (FI_found h1.1.2.2.1 hi), o.toTOK h1.2.1, o.toHOK h1.2.2⟩
  have hF : Fr (FI (RF w1 i) i) (FI w2 i) := by
    refine ⟨fun q k hs => ?_, fun q hq => ?_⟩
    · have e : w2.1 q k = (RF w1 i).1 q k := g2.1.1 q k hs
      have e58 : ∀ j, w2.1 58 j = (RF w1 i).1 58 j := fun j => g2.1.1 58 j (by unfold Sc; omega)
      unfold FI
      rw [sI_r, sI_r, sI_r, sI_r, e, e58, e58]
    · exact g2.1.2 q hq
  refine ⟨hF.Core hu.1, ?_, ?_⟩
  · exact (FI_oth w2 i).toTOK (g2.2.1 ((RF_oth w1 i).toTOK h1.2.1))
  · exact (FI_oth w2 i).toHOK (g2.2.2 ((RF_oth w1 i).toHOK h1.2.2))
/-! what is asked of the arguments -/
theorem within8 (x lo hi : Int32) : fX8_within x lo hi = bi (decide (lo.toInt ≤ x.toInt ∧ x.toInt ≤ hi.toInt)) := by
  unfold fX8_within fX8_within_0
  by_cases a : x < lo
  · rw [if_pos a, decide_eq_false (by rw [Int32.lt_iff_toInt_lt] at a; omega)]
    rfl
  · rw [if_neg a]
    rw [Int32.lt_iff_toInt_lt] at a
    by_cases b : hi < x
    · rw [if_pos b, decide_eq_false (by rw [Int32.lt_iff_toInt_lt] at b; omega)]
      rfl
    · rw [if_neg b, decide_eq_true (by rw [Int32.lt_iff_toInt_lt] at b; omega)]
      rfl
theorem i_0 : (0 : Int32).toInt = 0 := rfl
theorem i_1 : (1 : Int32).toInt = 1 := rfl
theorem i_2 : (2 : Int32).toInt = 2 := rfl
theorem i_3 : (3 : Int32).toInt = 3 := rfl
theorem i_4 : (4 : Int32).toInt = 4 := rfl
theorem i_9999 : (9999 : Int32).toInt = 9999 := rfl
theorem i_960 : (960 : Int32).toInt = 960 := rfl
def dSide (x : Int32) : Bool := decide (0 ≤ x.toInt ∧ x.toInt ≤ 3)
def dTick (x : Int32) : Bool := decide (0 ≤ x.toInt ∧ x.toInt ≤ 9999)
def dN (x : Int32) : Bool := decide (1 ≤ x.toInt ∧ x.toInt ≤ 960)
theorem side8 (x : Int32) : fX8_isSide x = bi (dSide x) := by
  unfold fX8_isSide fX8_isSide_0
  rw [within8]
  rfl
theorem tick8 (x : Int32) : fX8_isTick x = bi (dTick x) := by
  unfold fX8_isTick fX8_isTick_0
  rw [within8]
  rfl
theorem span8 (x : Int32) : fX8_isSpan x = bi (dN x) := by
  unfold fX8_isSpan fX8_isSpan_0
  rw [within8]
  rfl
theorem side7 (x : Int32) : fX7_isSide x = bi (dSide x) := by
  unfold fX7_isSide fX7_isSide_0 dSide
  by_cases a : x < 0
  · rw [if_pos a, decide_eq_false (by rw [Int32.lt_iff_toInt_lt, i_0] at a; omega)]
    rfl
  · rw [if_neg a]
    rw [Int32.lt_iff_toInt_lt, i_0] at a
    by_cases b : 4 ≤ x
    · rw [if_pos b, decide_eq_false (by rw [Int32.le_iff_toInt_le, i_4] at b; omega)]
      rfl
    · rw [if_neg b, decide_eq_true (by rw [Int32.le_iff_toInt_le, i_4] at b; omega)]
      rfl
theorem tick7 (x : Int32) : fX7_isTick x = bi (dTick x) := by
  unfold fX7_isTick fX7_isTick_0 dTick
  by_cases a : x < 0
  · rw [if_pos a, decide_eq_false (by rw [Int32.lt_iff_toInt_lt, i_0] at a; omega)]
    rfl
  · rw [if_neg a]
    rw [Int32.lt_iff_toInt_lt, i_0] at a
    by_cases b : 9999 < x
    · rw [if_pos b, decide_eq_false (by rw [Int32.lt_iff_toInt_lt, i_9999] at b; omega)]
      rfl
    · rw [if_neg b, decide_eq_true (by rw [Int32.lt_iff_toInt_lt, i_9999] at b; omega)]
      rfl
theorem dSide_of {x : Int32} (h : dSide x = true) : ∃ f : Int, x = iZ f ∧ 0 ≤ f ∧ f ≤ 3 := ⟨x.toInt, (iZ_self x).symm, (of_decide_eq_true h).1, (of_decide_eq_true h).2⟩
theorem dTick_of {x : Int32} (h : dTick x = true) : ∃ t : Nat, x = iZ t ∧ t ≤ 9999 := by
  have := of_decide_eq_true h
  exact ⟨x.toInt.toNat, by rw [Int.toNat_of_nonneg this.1, iZ_self], by omega⟩
theorem dN_of {x : Int32} (h : dN x = true) : ∃ t : Nat, x = iZ t ∧ 1 ≤ t ∧ t ≤ 960 := by
  have := of_decide_eq_true h
  exact ⟨x.toInt.toNat, by rw [Int.toNat_of_nonneg (by omega), iZ_self], by omega, by omega⟩
theorem Inv.wt {w : xW} (h : Inv w) : WFt (w.1 56) := h.1.1.2.1
theorem Inv.ist {w : xW} (h : Inv w) : IsT w (w.1 56) := ⟨h.1.1.1.1, h.1.1.1.2.1⟩
/-- what is to be shown of a call: both answer alike, and what holds, holds behind them -/
def Both (a : xW → Option (xW × Int32)) (b : xW → Option (xW × Int32)) (w : xW) : Prop := ∃ (w1 w2 : xW) (v : Int32), a w = some (w1, v) ∧ b w1 = some (w2, v) ∧ Inv w2
theorem Both.ref {a b : xW → Option (xW × Int32)} {w w1 w2 : xW} (h : Inv w) (i : Nat) (hi : i < 7) (ha : a w = fX7_refuse w1 (cd i)) (g : G w w1) (hb : b (RF w1 i) = fX8_finding w2 (cd i)) (g2 : G (RF w1 i) w2) : Both a b w := ⟨RF w1 i, FI w2 i, cd i, by rw [ha, refuse7 w1 hi], by rw [hb, finding8 w2 hi], ref_inv h hi g g2⟩
theorem Both.ask {a b : xW → Option (xW × Int32)} {w : xW} (h : Inv w) (v : Int32) (ha : ∃ w1, a w = some (w1, v) ∧ G w w1) (hb : ∀ w1, Inv w1 → w1.1 56 = w.1 56 → ∃ w2, b w1 = some (w2, v) ∧ G w1 w2) : Both a b w := by
  obtain ⟨w1, a1, a2⟩ := ha
  obtain ⟨w2, b1, b2⟩ := hb w1 (a2.Inv h) a2.r
  exact ⟨w1, w2, v, a1, b1, b2.Inv (a2.Inv h)⟩
theorem bind_id (o : Option (xW × Int32)) : (o.bind fun z => some (z.1, z.2)) = o := by cases o <;> rfl
