/-! what depends on what -/
theorem Core.now {w w2 : xW} (h : Core w) (e1 : ∀ q k, ¬ Sc q k → ¬ (q = 1 ∨ (3 ≤ q ∧ q ≤ 10) ∨ q = 56) → w2.1 q k = w.1 q k) (e2 : ∀ q, q ≠ 77 → w2.2 q = w.2 q) (hR : IsR w2 1 (w2.1 56)) (hW : WFr (w2.1 56)) : Core w2 := by
  have row : ∀ q, (∀ k, ¬ Sc q k) → ¬ (q = 1 ∨ (3 ≤ q ∧ q ≤ 10) ∨ q = 56) → w2.1 q = w.1 q := fun q h1 h2 => funext fun k => e1 q k (h1 k) h2
  obtain ⟨-, c3, c6, c7, c8, c9⟩ := h
  refine ⟨⟨hR, hW⟩, ?_, ?_, ?_, ?_, ?_⟩
  · have er : ∀ j, j < 10 → j ≠ 1 → w2.1 (21 + j) = w.1 (21 + j) := fun j hj h1 => row _ (fun k => by unfold Sc; omega) (by omega)
    have e21 : w2.1 21 = w.1 21 := row _ (fun k => by unfold Sc; omega) (by omega)
    unfold KeptOK
    rw [e1 0 3 (by unfold Sc; omega) (by omega), e1 55 2 (by unfold Sc; omega) (by omega), row 57 (fun k => by unfold Sc; omega) (by omega)]
    refine ⟨c3.1, c3.2.1, fun q => ⟨?_, (c3.2.2 q).2⟩⟩
    have := (c3.2.2 q).1
    unfold IsR at this ⊢
    rw [er 2 (by omega) (by omega), er 3 (by omega) (by omega), er 4 (by omega) (by omega), er 5 (by omega) (by omega), er 6 (by omega) (by omega), er 7 (by omega) (by omega), er 8 (by omega) (by omega), er 9 (by omega) (by omega), e21]
    exact this
  · unfold FoundOK
    rw [row 46 (fun k => by unfold Sc; omega) (by omega), row 58 (fun k => by unfold Sc; omega) (by omega)]
    exact c6
  · unfold TapeOK
    rw [e1 42 1 (by unfold Sc; omega) (by omega), e1 55 18 (by unfold Sc; omega) (by omega), row 43 (fun k => by unfold Sc; omega) (by omega), row 70 (fun k => by unfold Sc; omega) (by omega)]
    exact c7
  · intro k hk
    rw [row (47 + 2 * k) (fun k => by unfold Sc; omega) (by omega), row 74 (fun k => by unfold Sc; omega) (by omega), row 75 (fun k => by unfold Sc; omega) (by omega), e2 (48 + 2 * k) (by omega), e2 76 (by omega)]
    exact c8 k hk
  · unfold TabOK
    rw [row 59 (fun k => by unfold Sc; omega) (by omega), row 60 (fun k => by unfold Sc; omega) (by omega)]
    exact c9
section CONG
variable {r r' : Nat → Int32}
theorem T_cong (h : ∀ k, k < 7 → r k = r' k) : tTu r = tTu r' ∧ tBe r = tBe r' ∧ tSt r = tSt r' := by
  have eF : tF r = tF r' := congrArg Int32.toInt (h 0 (by omega))
  have eP : tP r = tP r' := congrArg Int32.toInt (h 1 (by omega))
  have eL : tLn r = tLn r' := congrArg Int32.toInt (h 2 (by omega))
  have eG : tG r = tG r' := congrArg Int32.toInt (h 3 (by omega))
  have el : tla r = tla r' := funext fun k => by unfold tla; rw [h 4 (by omega)]
  have ef : tfa r = tfa r' := funext fun k => by unfold tfa; rw [h 5 (by omega)]
  have eh : tha r = tha r' := funext fun k => by unfold tha; rw [h 6 (by omega)]
  have ew : twh r = twh r' := funext fun k => by unfold twh; rw [ef, eh]
  have eb : tbeg r = tbeg r' := funext fun k => by unfold tbeg; rw [eF, eP, el, eG]
  have ee : ten r = ten r' := funext fun k => by unfold ten; rw [eb, eL]
  have en : tnd r = tnd r' := funext fun t => by unfold tnd; rw [eF, eP, ee]
  have er : ∀ n, rt r n = rt r' n := by
    intro n
    induction n with
    | zero => rfl
    | succ n ih => rw [rt, rt, ew, ih, ef]
  have eQ : tQ r = tQ r' := funext fun n => by unfold tQ; rw [er, ef]
  have eH : tH r = tH r' := funext fun n => by unfold tH; rw [er]
  have eT : tTu r = tTu r' := funext fun t => by unfold tTu; rw [eQ, en]
  have eB : tBe r = tBe r' := funext fun t => by unfold tBe; rw [eH, en, eb, ef]
  refine ⟨eT, eB, ?_⟩
  have es : ∀ m, sti r m = sti r' m := by
    intro m
    induction m with
    | zero => rfl
    | succ m ih => rw [sti, sti, eB, ih]
  exact funext fun t => es _
theorem B_cong (h : ∀ k, k < 7 → r k = r' k) (h10 : r 10 = r' 10) (h2 : ∀ k, 27 ≤ k → r k = r' k) {ls : Int32} {od wa fo : Nat → Int32} (hb : BestOK r ls od wa fo) : BestOK r' ls od wa fo := by
  obtain ⟨eT, eB, eS⟩ := T_cong h
  have eC : shC r = shC r' := funext fun s => by unfold shC; rw [h2 _ (by omega)]
  have eM : shM r = shM r' := funext fun s => by unfold shM; rw [h2 _ (by omega)]
  have eSt : shS r = shS r' := funext fun s => by unfold shS; rw [h2 _ (by omega)]
  have eQ : shQ r = shQ r' := funext fun s => by unfold shQ; rw [h2 _ (by omega)]
  have ef : fro r = fro r' := funext fun s => funext fun t => by unfold fro; rw [eC, eT]
  have eo : okAt r = okAt r' := funext fun s => funext fun t => by unfold okAt; rw [eB, eQ, ef, eSt, eS]
  have et : takn r = takn r' := funext fun a => funext fun s => funext fun f => funext fun t => by unfold takn; rw [eM, eSt]
  have eg : ∀ j a s, gos r a s j = gos r' a s j := by
    intro j a s
    induction j with
    | zero => rfl
    | succ j ih => rw [gos, gos, eo, et, ef, eM, ih]
  have es : ∀ d m a s b, srch r m d a s b = srch r' m d a s b := by
    intro d
    induction d with
    | zero => intro m a s b; rfl
    | succ d ih =>
      intro m a s b
      rw [srch, srch]
      simp only [eg, ih]
  obtain ⟨B, l, q1, q2⟩ := hb
  exact ⟨B, l, by rw [← es, ← h10]; exact q1, q2⟩
end CONG
/-- a change of wind or houses: tides and ships stay -/
theorem Inv.now {w w2 : xW} (h : Inv w) (e1 : ∀ q k, ¬ (q = 1 ∨ (5 ≤ q ∧ q ≤ 6) ∨ q = 56) → w2.1 q k = w.1 q k) (e2 : w2.2 = w.2) (e3 : ∀ k, k < 7 ∨ k = 10 ∨ 27 ≤ k → w2.1 56 k = w.1 56 k) (hR : IsR w2 1 (w2.1 56)) (hW : WFr (w2.1 56)) : Inv w2 := by
  have row : ∀ q, ¬ (q = 1 ∨ (5 ≤ q ∧ q ≤ 6) ∨ q = 56) → w2.1 q = w.1 q := fun q hq => funext fun k => e1 q k hq
  obtain ⟨eT, eB, eS⟩ := T_cong (r := w.1 56) (r' := w2.1 56) (fun k hk => (e3 k (by omega)).symm)
  refine ⟨h.1.now (fun q k _ hq => e1 q k (by omega)) (fun q _ => by rw [e2]) hR hW, ?_, ?_⟩
  · have := h.2.1
    unfold TOK at this ⊢
    rw [row 55 (by omega), row 61 (by omega), row 62 (by omega), ← eT, ← eS]
    exact this
  · have := h.2.2
    unfold HOK at this ⊢
    rw [row 34 (by omega), row 35 (by omega), row 36 (by omega), row 37 (by omega)]
    exact this.elim Or.inl (fun q => Or.inr ⟨q.1, B_cong (fun k hk => (e3 k (by omega)).symm) (e3 10 (by omega)).symm (fun k hk => (e3 k (by omega)).symm) q.2⟩)
/-- a change of tides or ships: nothing is known any more -/
theorem Inv.new {w w2 : xW} (h : Core w) (e1 : ∀ q k, ¬ Sc q k → ¬ (q = 1 ∨ (3 ≤ q ∧ q ≤ 10) ∨ q = 56) → w2.1 q k = w.1 q k) (e2 : ∀ q, q ≠ 77 → w2.2 q = w.2 q) (hT : TOK w2) (hK : w2.1 34 0 = 0) (hR : IsR w2 1 (w2.1 56)) (hW : WFr (w2.1 56)) : Inv w2 := ⟨h.now e1 e2 hR hW, hT, Or.inl hK⟩
theorem TOK.ships {w w2 : xW} (h : TOK w) (e1 : w2.1 55 8 = w.1 55 8) (e2 : w2.1 61 = w.1 61) (e3 : w2.1 62 = w.1 62) (e : ∀ k, k < 7 → w2.1 56 k = w.1 56 k) : TOK w2 := by
  obtain ⟨eT, eB, eS⟩ := T_cong (r := w.1 56) (r' := w2.1 56) (fun k hk => (e k hk).symm)
  unfold TOK at h ⊢
  rw [e1, e2, e3, ← eT, ← eS]
  exact h
/-- refusals, by one decision -/
theorem Both.guard {a b : xW → Option (xW × Int32)} {w : xW} (h : Inv w) (c : Bool) (i : Nat) (hi : i < 7) (ha : c = false → a w = fX7_refuse w (cd i)) (hb : c = false → b (RF w i) = fX8_finding (RF w i) (cd i)) (k : c = true → Both a b w) : Both a b w := by
  cases hc : c with
  | true => exact k hc
  | false => exact Both.ref h i hi (w1 := w) (w2 := RF w i) (ha hc) G.rf (hb hc) G.rf
theorem RF_r (w : xW) (i : Nat) {q : Nat} (hq : q ≠ 46) : (RF w i).1 q = w.1 q := funext fun k => by unfold RF; rw [sI_r, if_neg (by omega)]
theorem bi_t {b : Bool} (h : b = true) : ¬ bi b = 0 := by rw [h]; decide
theorem bi_f {b : Bool} (h : b = false) : bi b = 0 := by rw [h]; rfl
def dHouse (r : Nat → Int32) (x : Int32) : Bool := decide (0 ≤ x.toInt ∧ x.toInt < (r 9).toInt)
theorem house7 {w : xW} (h : Inv w) (x : Int32) : fX7_isHouse w x = bi (dHouse (w.1 56) x) := by
  unfold fX7_isHouse fX7_isHouse_0 dHouse
  rw [h.1.1.1.2.2.2.2.1]
  by_cases a : x < 0
  · rw [if_pos a, decide_eq_false (by rw [Int32.lt_iff_toInt_lt, i_0] at a; omega)]
    rfl
  · rw [if_neg a]
    rw [Int32.lt_iff_toInt_lt, i_0] at a
    by_cases b : w.1 56 9 ≤ x
    · rw [if_pos b, decide_eq_false (by rw [Int32.le_iff_toInt_le] at b; omega)]
      rfl
    · rw [if_neg b, decide_eq_true (by rw [Int32.le_iff_toInt_le] at b; omega)]
      rfl
theorem house8 {w : xW} (hw : WFr (w.1 56)) (x : Int32) : fX8_isHouse w x = bi (dHouse (w.1 56) x) := by
  unfold fX8_isHouse fX8_isHouse_0 dHouse
  have hh := hw.2.2.2.1
  have e : (w.1 56 9 - 1).toInt = (w.1 56 9).toInt - 1 := by
    have e0 : w.1 56 9 - 1 = iZ ((w.1 56 9).toInt - 1) := by
      rw [← iZ_sub, iZ_self]
      rfl
    rw [e0, iZ_toInt (by omega) (by omega)]
  rw [within8, e, i_0]
  congr 1
  rw [decide_eq_decide]
  omega
theorem dHouse_of {r : Nat → Int32} (hw : WFr r) {x : Int32} (h : dHouse r x = true) : ∃ n : Nat, x = iZ n ∧ n < 8 ∧ (n : Int) < (r 9).toInt := by
  have := of_decide_eq_true h
  have hh := hw.2.2.2.1
  exact ⟨x.toInt.toNat, by rw [Int.toNat_of_nonneg this.1, iZ_self], by omega, by omega⟩
theorem ix_h : ∀ h : Nat, h < 8 → (ibd (11 + (2 * iZ (h : Int))) 51 = true ∧ (11 + (2 * iZ (h : Int))).toNatClampNeg = 11 + 2 * h) ∧ (ibd ((11 + (2 * iZ (h : Int))) + 1) 51 = true ∧ ((11 + (2 * iZ (h : Int))) + 1).toNatClampNeg = 12 + 2 * h) ∧ ibd (iZ (h : Int)) 8 = true ∧ (iZ (h : Int)).toNatClampNeg = h := by decide +kernel
def dKind (x : Int32) : Bool := decide (0 ≤ x.toInt ∧ x.toInt ≤ 5)
theorem kind7 (x : Int32) : fX1_isKind x = bi (dKind x) := by
  unfold fX1_isKind fX1_isKind_0 dKind
  by_cases a : x < 0
  · rw [if_pos a, decide_eq_false (by rw [Int32.lt_iff_toInt_lt, i_0] at a; omega)]
    rfl
  · rw [if_neg a]
    rw [Int32.lt_iff_toInt_lt, i_0] at a
    by_cases b : 6 ≤ x
    · rw [if_pos b, decide_eq_false (by rw [Int32.le_iff_toInt_le, show (6 : Int32).toInt = 6 from rfl] at b; omega)]
      rfl
    · rw [if_neg b, decide_eq_true (by rw [Int32.le_iff_toInt_le, show (6 : Int32).toInt = 6 from rfl] at b; omega)]
      rfl
