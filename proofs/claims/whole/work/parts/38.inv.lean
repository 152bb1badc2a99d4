/-! ships, as whole numbers; the best order -/
def shC (r : Nat → Int32) (s : Nat) : Int := (r (27 + 4 * s)).toInt
def shM (r : Nat → Int32) (s : Nat) : Int := (r (28 + 4 * s)).toInt
def shS (r : Nat → Int32) (s : Nat) : Int := (r (29 + 4 * s)).toInt
def shQ (r : Nat → Int32) (s : Nat) : Int := (r (30 + 4 * s)).toInt
def fro (r : Nat → Int32) (s : Nat) (t : Int) : Int := (shC r s - tTu r t) % 4
def okAt (r : Nat → Int32) (s : Nat) (t : Int) : Bool := !(tBe r t) && ((decide (shQ r s < 0) || decide (shQ r s = fro r s t)) && decide (shS r s ≤ tSt r t.toNat))
def takn (r : Nat → Int32) (ah : List (Nat × Int × Int)) (s : Nat) (f t : Int) : Bool := ah.any (fun o => decide (o.2.2 = f) && (decide (shM r o.1 + o.2.1 < t + shS r s) && decide (t < shM r o.1 + o.2.1 + shS r o.1)))
def gos (r : Nat → Int32) (ah : List (Nat × Int × Int)) (s : Nat) : Nat → Int × Int
  | 0 => (960, -1)
  | j + 1 => if okAt r s (shM r s + (959 - (j : Int))) = true ∧ takn r ah s (fro r s (shM r s + (959 - (j : Int)))) (shM r s + (959 - (j : Int))) = false then (959 - (j : Int), fro r s (shM r s + (959 - (j : Int)))) else gos r ah s j
def bLe : Option (Int × List (Nat × Int × Int)) → Int → Bool
  | some x, s => decide (x.1 ≤ s)
  | none, _ => false
def srch (r : Nat → Int32) (m : Nat) : Nat → List (Nat × Int × Int) → Int → Option (Int × List (Nat × Int × Int)) → Option (Int × List (Nat × Int × Int))
  | 0, _, _, b => b
  | d + 1, ah, sum, b => if bLe b sum = true then b else if ah.length = m then some (sum, ah) else (List.range m).foldl (fun b s => if ah.any (fun o => Nat.beq o.1 s) = true then b else srch r m d (ah ++ [(s, gos r ah s 960)]) (sum + (gos r ah s 960).1) b) b
def BestOK (r : Nat → Int32) (ls : Int32) (od wa fo : Nat → Int32) : Prop := ∃ (B : Int) (l : List (Nat × Int × Int)), srch r (r 10).toInt.toNat 8 [] 0 none = some (B, l) ∧ ls = iZ B ∧ (∀ (i : Nat) (e : Nat × Int × Int), l[i]? = some e → od i = iZ (e.1 : Nat) ∧ wa e.1 = iZ e.2.1 ∧ fo e.1 = iZ e.2.2)
/-! what holds between the calls -/
def WFr (r : Nat → Int32) : Prop := WFt r ∧ (0 ≤ (r 7).toInt ∧ (r 7).toInt ≤ 3) ∧ (0 ≤ (r 8).toInt ∧ (r 8).toInt ≤ 9) ∧ (0 ≤ (r 9).toInt ∧ (r 9).toInt ≤ 8) ∧ (0 ≤ (r 10).toInt ∧ (r 10).toInt ≤ 6) ∧ (∀ h : Nat, (h : Int) < (r 9).toInt → (0 ≤ (r (11 + 2 * h)).toInt ∧ (r (11 + 2 * h)).toInt ≤ 5) ∧ (0 ≤ (r (12 + 2 * h)).toInt ∧ (r (12 + 2 * h)).toInt ≤ 3)) ∧ ∀ s : Nat, (s : Int) < (r 10).toInt → (0 ≤ shC r s ∧ shC r s ≤ 3) ∧ (0 ≤ shM r s ∧ shM r s ≤ 9999) ∧ (1 ≤ shS r s ∧ shS r s ≤ 40) ∧ (-1 ≤ shQ r s ∧ shQ r s ≤ 3)
/-- the Isle at q is told by the row r -/
def IsR (w : xW) (q : Nat) (r : Nat → Int32) : Prop := (∀ i, i < 4 → w.1 (q + 2) i = r i) ∧ (∀ i, i < 3 → w.1 (q + 3) i = r (4 + i)) ∧ w.1 q 1 = r 7 ∧ w.1 q 2 = r 8 ∧ w.1 q 3 = r 9 ∧ w.1 q 6 = r 10 ∧ (∀ h : Nat, (h : Int) < (r 9).toInt → w.1 (q + 4) h = r (11 + 2 * h) ∧ w.1 (q + 5) h = r (12 + 2 * h)) ∧ ∀ s : Nat, (s : Int) < (r 10).toInt → w.1 (q + 6) s = r (27 + 4 * s) ∧ w.1 (q + 7) s = r (28 + 4 * s) ∧ w.1 (q + 8) s = r (29 + 4 * s) ∧ w.1 (q + 9) s = r (30 + 4 * s)
def KeptOK (w : xW) : Prop := w.1 0 3 = w.1 55 2 ∧ (w.1 55 2 = 0 ∨ w.1 55 2 = 1) ∧ (w.1 55 2 = 1 → IsR w 21 (w.1 57) ∧ WFr (w.1 57))
def FoundOK (w : xW) : Prop := (∀ i, i < 7 → w.1 46 i = w.1 58 (i + 1)) ∧ w.1 58 0 = w.1 58 1 + w.1 58 2 + w.1 58 3 + w.1 58 4 + w.1 58 5 + w.1 58 6 + w.1 58 7
def TapeOK (w : xW) : Prop := w.1 42 1 = w.1 55 18 ∧ (0 ≤ (w.1 55 18).toInt ∧ (w.1 55 18).toInt ≤ 120) ∧ ∀ i : Nat, (i : Int) < (w.1 55 18).toInt → w.1 43 i = (w.1 70 i).toInt8.toInt32 ∧ 0 ≤ (w.1 70 i).toInt ∧ (w.1 70 i).toInt ≤ 255
def SheetOK (w : xW) : Prop := ∀ k, k < 4 → w.1 (47 + 2 * k) 0 = w.1 74 k ∧ w.1 (47 + 2 * k) 1 = w.1 75 k ∧ (w.1 74 k = 0 ∨ w.1 74 k = 8 ∨ w.1 74 k = 16 ∨ w.1 74 k = 64) ∧ (0 ≤ (w.1 75 k).toInt ∧ (w.1 75 k).toInt ≤ 40) ∧ ∀ i, i < 40 → w.2 (48 + 2 * k) i = w.2 76 (40 * k + i)
def TabOK (w : xW) : Prop := ∀ i, i < 4 → w.1 59 i = kLEAST i ∧ w.1 60 i = kMOST i
def Core (w : xW) : Prop := (IsR w 1 (w.1 56) ∧ WFr (w.1 56)) ∧ KeptOK w ∧ FoundOK w ∧ TapeOK w ∧ SheetOK w ∧ TabOK w
def HOK (w : xW) : Prop := w.1 34 0 = 0 ∨ (w.1 34 0 = 1 ∧ BestOK (w.1 56) (w.1 34 1) (w.1 35) (w.1 36) (w.1 37))
def Inv (w : xW) : Prop := Core w ∧ TOK w ∧ HOK w
/-! what a call may use up -/
def Sc (q k : Nat) : Prop := q = 2 ∨ (11 ≤ q ∧ q ≤ 20) ∨ q = 32 ∨ q = 33 ∨ (34 ≤ q ∧ q ≤ 41) ∨ (q = 42 ∧ k ≠ 1) ∨ q = 44 ∨ (q = 55 ∧ k ≠ 2 ∧ k ≠ 18) ∨ (61 ≤ q ∧ q ≤ 69) ∨ q = 73
def Fr (w w' : xW) : Prop := (∀ q k, ¬ Sc q k → w'.1 q k = w.1 q k) ∧ ∀ q, q ≠ 77 → w'.2 q = w.2 q
theorem Fr.rf {w : xW} : Fr w w := ⟨fun _ _ _ => rfl, fun _ _ => rfl⟩
theorem Fr.tr {a b c : xW} (h : Fr a b) (g : Fr b c) : Fr a c := ⟨fun q k hs => (g.1 q k hs).trans (h.1 q k hs), fun q hq => (g.2 q hq).trans (h.2 q hq)⟩
theorem Fr.row {w w' : xW} (h : Fr w w') {q : Nat} (hq : ∀ k, ¬ Sc q k) : w'.1 q = w.1 q := funext fun k => h.1 q k (hq k)
theorem Fr.Core {w w' : xW} (h : Fr w w') (c : Core w) : Core w' := by
  have e56 : w'.1 56 = w.1 56 := h.row (fun k => by unfold Sc; omega)
  have e57 : w'.1 57 = w.1 57 := h.row (fun k => by unfold Sc; omega)
  have e58 : w'.1 58 = w.1 58 := h.row (fun k => by unfold Sc; omega)
  have e59 : w'.1 59 = w.1 59 := h.row (fun k => by unfold Sc; omega)
  have e60 : w'.1 60 = w.1 60 := h.row (fun k => by unfold Sc; omega)
  have e46 : w'.1 46 = w.1 46 := h.row (fun k => by unfold Sc; omega)
  have e43 : w'.1 43 = w.1 43 := h.row (fun k => by unfold Sc; omega)
  have e70 : w'.1 70 = w.1 70 := h.row (fun k => by unfold Sc; omega)
  have e74 : w'.1 74 = w.1 74 := h.row (fun k => by unfold Sc; omega)
  have e75 : w'.1 75 = w.1 75 := h.row (fun k => by unfold Sc; omega)
  have e42 : w'.1 42 1 = w.1 42 1 := h.1 42 1 (by unfold Sc; omega)
  have e18 : w'.1 55 18 = w.1 55 18 := h.1 55 18 (by unfold Sc; omega)
  have e2 : w'.1 55 2 = w.1 55 2 := h.1 55 2 (by unfold Sc; omega)
  have e03 : w'.1 0 3 = w.1 0 3 := h.1 0 3 (by unfold Sc; omega)
  have f76 : w'.2 76 = w.2 76 := h.2 76 (by omega)
  have isr : ∀ q r, (q = 1 ∨ q = 21) → IsR w q r → IsR w' q r := by
    intro q r hq c
    have er : ∀ j, j < 10 → j ≠ 1 → w'.1 (q + j) = w.1 (q + j) := fun j hj hj1 => h.row (fun k => by unfold Sc; omega)
    have e0 := er 0 (by omega) (by omega)
    rw [Nat.add_zero] at e0
    unfold IsR
    rw [er 2 (by omega) (by omega), er 3 (by omega) (by omega), er 4 (by omega) (by omega), er 5 (by omega) (by omega), er 6 (by omega) (by omega), er 7 (by omega) (by omega), er 8 (by omega) (by omega), er 9 (by omega) (by omega), e0]
    exact c
  obtain ⟨⟨c1, c2⟩, ⟨c3, c4, c5⟩, c6, c7, c8, c9⟩ := c
  refine ⟨⟨by rw [e56]; exact isr 1 _ (Or.inl rfl) c1, by rw [e56]; exact c2⟩, ⟨by rw [e03, e2]; exact c3, by rw [e2]; exact c4, fun q => ?_⟩, ?_, ?_, ?_, ?_⟩
  · rw [e2] at q
    rw [e57]
    exact ⟨isr 21 _ (Or.inr rfl) (c5 q).1, (c5 q).2⟩
  · unfold FoundOK
    rw [e46, e58]
    exact c6
  · unfold TapeOK
    rw [e42, e18, e43, e70]
    exact c7
  · intro k hk
    have e1 : w'.1 (47 + 2 * k) = w.1 (47 + 2 * k) := h.row (fun j => by unfold Sc; omega)
    have e3 : w'.2 (48 + 2 * k) = w.2 (48 + 2 * k) := h.2 _ (by omega)
    rw [e1, e3, f76, e74, e75]
    exact c8 k hk
  · unfold TabOK
    rw [e59, e60]
    exact c9
/-- one call's whole effect, where it asks only -/
def G (w w' : xW) : Prop := Fr w w' ∧ (TOK w → TOK w') ∧ (HOK w → HOK w')
theorem G.rf {w : xW} : G w w := ⟨Fr.rf, id, id⟩
theorem G.tr {a b c : xW} (h : G a b) (g : G b c) : G a c := ⟨h.1.tr g.1, fun x => g.2.1 (h.2.1 x), fun x => g.2.2 (h.2.2 x)⟩
theorem G.Inv {w w' : xW} (h : G w w') (c : Inv w) : Inv w' := ⟨h.1.Core c.1, h.2.1 c.2.1, h.2.2 c.2.2⟩
theorem G.r {w w' : xW} (h : G w w') : w'.1 56 = w.1 56 := h.1.row (fun k => by unfold Sc; omega)
/-- from agreement outside the class's own scratch cells -/
theorem G.of7 {w w' : xW} (h2 : w'.2 = w.2) (h : ∀ q k, ¬ (q = 2 ∨ (11 ≤ q ∧ q ≤ 20) ∨ q = 32 ∨ q = 33 ∨ (q = 42 ∧ k ≠ 1) ∨ q = 44) → w'.1 q k = w.1 q k) : G w w' := by
  have row : ∀ q, ¬ (q = 2 ∨ (11 ≤ q ∧ q ≤ 20) ∨ q = 32 ∨ q = 33 ∨ q = 42 ∨ q = 44) → w'.1 q = w.1 q := fun q hq => funext fun k => h q k (by omega)
  refine ⟨⟨fun q k hs => h q k (by unfold Sc at hs; omega), fun q _ => by rw [h2]⟩, ?_, ?_⟩
  · unfold TOK
    rw [row 55 (by omega), row 56 (by omega), row 61 (by omega), row 62 (by omega)]
    exact id
  · unfold HOK
    rw [row 34 (by omega), row 56 (by omega), row 35 (by omega), row 36 (by omega), row 37 (by omega)]
    exact id
theorem R2.toG {w w' : xW} (h : R2 w w') : G w w' := G.of7 h.1 (fun q k hq => by rw [h.2 q (by omega)])
theorem R8.toG {w w' : xW} (h : R8 w w') (hT : TOK w → TOK w') : G w w' := by
  refine ⟨⟨fun q k hs => h.2 q k (by unfold Sc at hs; omega) (by unfold Sc at hs; omega) (by unfold Sc at hs; omega), fun q _ => by rw [h.1]⟩, hT, ?_⟩
  have row : ∀ q, q ≠ 61 → q ≠ 62 → q ≠ 55 → w'.1 q = w.1 q := fun q h1 h2 h3 => funext fun k => h.2 q k h1 h2 (by omega)
  unfold HOK
  rw [row 34 (by omega) (by omega) (by omega), row 56 (by omega) (by omega) (by omega), row 35 (by omega) (by omega) (by omega), row 36 (by omega) (by omega) (by omega), row 37 (by omega) (by omega) (by omega)]
  exact id
