/-! the class's search -/
theorem bitF : ∀ k : Nat, k < 64 → ∀ s : Nat, s < 6 → (((iZ (k : Int)) >>> (iZ (s : Int) &&& 31)) &&& 1 = 0 ↔ k.testBit s = false) ∧ ((iZ (k : Int)) ||| (1 <<< (iZ (s : Int) &&& 31)) = iZ ((k ||| 2 ^ s : Nat) : Int)) ∧ ((iZ (k : Int)) &&& ((1 <<< (iZ (s : Int) &&& 31)) ^^^ (-1)) = iZ ((k &&& (63 - 2 ^ s) : Nat) : Int)) ∧ k ||| 2 ^ s < 64 ∧ k &&& (63 - 2 ^ s) < 64 := by decide +kernel
theorem bitG : ∀ k : Nat, k < 64 → ∀ s : Nat, s < 6 → ∀ c : Nat, c < 6 → (k ||| 2 ^ s).testBit c = (k.testBit c || decide (s = c)) ∧ (k &&& (63 - 2 ^ s)).testBit c = (k.testBit c && !(decide (s = c))) := by decide +kernel
def BT (x : Int32) (ah : List (Nat × Int × Int)) : Prop := ∃ k : Nat, k < 64 ∧ x = iZ (k : Int) ∧ ∀ s, s < 6 → k.testBit s = inA ah s
theorem BT.get {x : Int32} {ah : List (Nat × Int × Int)} {s : Nat} (h : BT x ah) (s6 : s < 6) : (x >>> (iZ (s : Int) &&& 31)) &&& 1 = 0 ↔ inA ah s = false := by
  obtain ⟨k, hk, e, hb⟩ := h
  rw [e, (bitF k hk s s6).1, hb s s6]
theorem BT.add {x : Int32} {ah : List (Nat × Int × Int)} {s : Nat} (v : Int × Int) (h : BT x ah) (s6 : s < 6) : BT (x ||| (1 <<< (iZ (s : Int) &&& 31))) (ah ++ [(s, v)]) := by
  obtain ⟨k, hk, e, hb⟩ := h
  obtain ⟨-, f2, -, f4, -⟩ := bitF k hk s s6
  refine ⟨k ||| 2 ^ s, f4, by rw [e, f2], fun c hc => ?_⟩
  rw [(bitG k hk s s6 c hc).1, inA_add, hb c hc]
theorem BT.sub {x : Int32} {ah : List (Nat × Int × Int)} {s : Nat} {v : Int × Int} (h : BT x (ah ++ [(s, v)])) (hs : inA ah s = false) (s6 : s < 6) : BT (x &&& ((1 <<< (iZ (s : Int) &&& 31)) ^^^ (-1))) ah := by
  obtain ⟨k, hk, e, hb⟩ := h
  obtain ⟨-, -, f3, -, f5⟩ := bitF k hk s s6
  refine ⟨k &&& (63 - 2 ^ s), f5, by rw [e, f3], fun c hc => ?_⟩
  rw [(bitG k hk s s6 c hc).2, hb c hc, inA_add]
  by_cases z : s = c
  · rw [← z, hs]
    simp
  · rw [decide_eq_false z]
    cases inA ah c <;> rfl
def BS (z : Int32) (b : Option (Int × List (Nat × Int × Int))) (ls : Int32) (od wa fo : Nat → Int32) : Prop := (b = none ∧ ls = z) ∨ ∃ (B : Int) (l : List (Nat × Int × Int)), b = some (B, l) ∧ (0 ≤ B ∧ B ≤ 5760) ∧ ls = iZ B ∧ ∀ (i : Nat) (e : Nat × Int × Int), l[i]? = some e → od i = iZ (e.1 : Nat) ∧ wa e.1 = iZ e.2.1 ∧ fo e.1 = iZ e.2.2
def S7 (w w' : xW) : Prop := w'.2 = w.2 ∧ ∀ q, q ≠ 2 → q < 34 ∨ q = 38 ∨ 41 < q → w'.1 q = w.1 q
theorem S7.rf {w : xW} : S7 w w := ⟨rfl, fun _ _ _ => rfl⟩
theorem S7.tr {a b c : xW} (h : S7 a b) (g : S7 b c) : S7 a c := ⟨g.1.trans h.1, fun q h1 h2 => (g.2 q h1 h2).trans (h.2 q h1 h2)⟩
theorem R2.s7 {w w' : xW} (h : R2 w w') : S7 w w' := ⟨h.1, fun q h1 _ => h.2 q h1⟩
theorem S7.sI {w : xW} {a k : Nat} {v : Int32} (h : 34 ≤ a ∧ a ≠ 38 ∧ a ≤ 41) : S7 w (sI w a k v) := ⟨rfl, fun q _ h2 => sI_ne1 (by omega)⟩
theorem S7.sA {w : xW} {a : Nat} {f : Nat → Int32} (h : 34 ≤ a ∧ a ≠ 38 ∧ a ≤ 41) : S7 w (sA w a f) := ⟨rfl, fun q _ h2 => sA_ne1 (by omega)⟩
def St7 (ah : List (Nat × Int × Int)) (b : Option (Int × List (Nat × Int × Int))) (w0 w : xW) : Prop := S7 w0 w ∧ AH7 w ah ∧ BT (w.1 34 9) ah ∧ BS (iZ 5761) b (w.1 34 1) (w.1 35) (w.1 36) (w.1 37)
/-- what all ships' data are, for the class's now -/
def Sh7 (r : Nat → Int32) (m : Nat) (w : xW) : Prop := WFt r ∧ m ≤ 6 ∧ w.1 1 6 = iZ (m : Nat) ∧ IsT w r ∧ (∀ s, s < m → SD w r s) ∧ (∀ s, s < m → WFs r s) ∧ ∀ s, s < m → w.1 38 s = iZ (shM r s + al r s)
theorem Sh7.s7 {r : Nat → Int32} {m : Nat} {w w' : xW} (h : Sh7 r m w) (g : S7 w w') : Sh7 r m w' := by
  obtain ⟨h1, h2, h3, h4, h5, h6, h7⟩ := h
  refine ⟨h1, h2, by rw [g.2 1 (by omega) (by omega)]; exact h3, ?_, ?_, h6, by rw [g.2 38 (by omega) (by omega)]; exact h7⟩
  · unfold IsT
    rw [g.2 3 (by omega) (by omega), g.2 4 (by omega) (by omega)]
    exact h4
  · unfold SD
    rw [g.2 7 (by omega) (by omega), g.2 8 (by omega) (by omega), g.2 9 (by omega) (by omega), g.2 10 (by omega) (by omega)]
    exact h5
theorem inA_mem {ah : List (Nat × Int × Int)} {e : Nat × Int × Int} (h : e ∈ ah) : inA ah e.1 = true := by
  unfold inA
  exact List.any_eq_true.mpr ⟨e, h, Nat.beq_refl _⟩
theorem AH7.add {w w' : xW} {ah : List (Nat × Int × Int)} {s : Nat} {v : Int × Int} (h : AH7 w ah) (hs : inA ah s = false) (e39 : ∀ i, i < ah.length → w'.1 39 i = w.1 39 i) (e40 : ∀ c, c ≠ s → w'.1 40 c = w.1 40 c ∧ w'.1 41 c = w.1 41 c) (n39 : w'.1 39 ah.length = iZ (s : Nat)) (n40 : w'.1 40 s = iZ v.1) (n41 : w'.1 41 s = iZ v.2) : AH7 w' (ah ++ [(s, v)]) := by
  intro i e he
  rcases Nat.lt_or_ge i ah.length with z | z
  · rw [List.getElem?_append_left z] at he
    obtain ⟨a1, a2, a3⟩ := h i e he
    have ne : e.1 ≠ s := fun q => by
      have := inA_mem (List.mem_of_getElem? he)
      rw [q, hs] at this
      cases this
    obtain ⟨b1, b2⟩ := e40 e.1 ne
    exact ⟨(e39 i z).trans a1, b1.trans a2, b2.trans a3⟩
  · rw [List.getElem?_append_right z] at he
    have hi : i = ah.length := by
      cases hd : i - ah.length with
      | zero => omega
      | succ n => rw [hd] at he; cases he
    subst hi
    rw [Nat.sub_self] at he
    have : e = (s, v) := (Option.some.inj he).symm
    rw [this]
    exact ⟨n39, n40, n41⟩
theorem AH7.pre {w : xW} {ah l : List (Nat × Int × Int)} (h : AH7 w (ah ++ l)) : AH7 w ah := by
  intro i e he
  have hi : i < ah.length := by
    rcases Nat.lt_or_ge i ah.length with z | z
    · exact z
    · rw [List.getElem?_eq_none z] at he
      cases he
  exact h i e (by rw [List.getElem?_append_left hi]; exact he)
section SEARCH7
variable {r : Nat → Int32} {m N : Nat}
theorem gos_rng (ah : List (Nat × Int × Int)) (s : Nat) : ∀ j : Nat, j ≤ 960 → (0 ≤ (gos r ah s j).1 ∧ (gos r ah s j).1 ≤ 960) ∧ ((gos r ah s j).2 = -1 ∨ (okAt r s (shM r s + (gos r ah s j).1) = true ∧ (gos r ah s j).2 = fro r s (shM r s + (gos r ah s j).1)))
  | 0, _ => ⟨by rw [gos]; exact ⟨by omega, by omega⟩, Or.inl rfl⟩
  | j + 1, hj => by
    rw [gos]
    split
    · rename_i h
      exact ⟨⟨by show (0 : Int) ≤ 959 - (j : Int); omega, by show (959 : Int) - (j : Int) ≤ 960; omega⟩, Or.inr ⟨h.1, rfl⟩⟩
    · exact gos_rng ah s j (by omega)
theorem OKE_gos (ah : List (Nat × Int × Int)) {s : Nat} (hs : s < m) : OKE r m (s, gos r ah s 960) := ⟨hs, (gos_rng (r := r) ah s 960 (Nat.le_refl _)).1, (gos_rng (r := r) ah s 960 (Nat.le_refl _)).2⟩
theorem rest_rng (ah : List (Nat × Int × Int)) : ∀ k, 0 ≤ rest r ah k ∧ rest r ah k ≤ 960 * (outs ah k : Int)
  | 0 => by
    unfold rest outs
    rw [Sm, cnt]
    omega
  | k + 1 => by
    have ih := rest_rng ah k
    have a : 0 ≤ al r k ∧ al r k ≤ 960 := (gos_rng (r := r) [] k 960 (Nat.le_refl _)).1
    unfold rest outs at ih ⊢
    rw [Sm, cnt]
    cases inA ah k with
    | true =>
      rw [if_pos rfl, if_neg (by decide)]
      omega
    | false =>
      rw [if_neg (by decide), if_pos (show (!false) = true from rfl)]
      omega
theorem keep7 (hm : m ≤ 6) {ah : List (Nat × Int × Int)} {b : Option (Int × List (Nat × Int × Int))} {w0 w : xW} (hA : ∀ e, e ∈ ah → OKE r m e) (la : ah.length = m) {sum : Int} (h0 : 0 ≤ sum) (h1 : sum ≤ 5760) (h : St7 ah b w0 w) : ∃ w', fX0_keep w (iZ (m : Nat)) (iZ sum) = some w' ∧ St7 ah (some (sum, ah)) w0 w' := by
  have xc : xcp 0 0 (iZ (m : Nat)) 6 6 = true := (by decide +kernel : ∀ m : Nat, m < 7 → xcp 0 0 (iZ (m : Nat)) 6 6 = true) m (by omega)
  have cl : (iZ (m : Nat)).toNatClampNeg = m := by rw [iZ_clamp (by omega) (by omega)]; omega
  obtain ⟨g1, g2, g3, g4⟩ := h
  unfold fX0_keep fX0_keep_0 fX0_keep_33
  rw [if_pos xc, if_pos xc, if_pos xc]
  refine ⟨_, rfl, (((g1.tr (S7.sI (by omega))).tr (S7.sA (by omega))).tr (S7.sA (by omega))).tr (S7.sA (by omega)), ?_, ?_, Or.inr ⟨sum, ah, rfl, ⟨h0, h1⟩, ?_, ?_⟩⟩
  · unfold AH7
    rw [sA_ne1 (by omega), sA_ne1 (by omega), sA_ne1 (by omega), sI_ne1 (by omega), sA_ne1 (by omega), sA_ne1 (by omega), sA_ne1 (by omega), sI_ne1 (by omega), sA_ne1 (by omega), sA_ne1 (by omega), sA_ne1 (by omega), sI_ne1 (by omega)]
    exact g2
  · rw [sA_ne1 (by omega), sA_ne1 (by omega), sA_ne1 (by omega), sI_r, if_neg (by omega)]
    exact g3
  · rw [sA_ne1 (by omega), sA_ne1 (by omega), sA_ne1 (by omega), sI_r, if_pos ⟨rfl, rfl⟩]
  · intro i e he
    have hi : i < ah.length := (List.getElem?_eq_some_iff.mp he).1
    have em := (hA e (List.mem_of_getElem? he)).1
    obtain ⟨a1, a2, a3⟩ := g2 i e he
    refine ⟨?_, ?_, ?_⟩
    · rw [sA_ne1 (by omega), sA_ne1 (by omega), sA_eq1, cpy_in _ _ _ (by omega), sI_ne1 (by omega)]
      exact a1
    · rw [sA_ne1 (by omega), sA_eq1, cpy_in _ _ _ (by omega), sA_ne1 (by omega), sI_ne1 (by omega)]
      exact a2
    · rw [sA_eq1, cpy_in _ _ _ (by omega), sA_ne1 (by omega), sA_ne1 (by omega), sI_ne1 (by omega)]
      exact a3
def stp (r : Nat → Int32) (m d : Nat) (ah : List (Nat × Int × Int)) (sum : Int) : Option (Int × List (Nat × Int × Int)) → Nat → Option (Int × List (Nat × Int × Int)) := fun b s => if inA ah s = true then b else srch r m d (ah ++ [(s, gos r ah s 960)]) (sum + (gos r ah s 960).1) b
/-- what is known of a node -/
def Nd (r : Nat → Int32) (m : Nat) (ah : List (Nat × Int × Int)) (sum : Int) : Prop := (∀ e, e ∈ ah → OKE r m e) ∧ ah.length + outs ah m = m ∧ 0 ≤ sum ∧ sum ≤ 960 * (ah.length : Int)
theorem Nd.add {ah : List (Nat × Int × Int)} {sum : Int} (h : Nd r m ah sum) {s : Nat} (hs : s < m) (hi : inA ah s = false) : Nd r m (ah ++ [(s, gos r ah s 960)]) (sum + (gos r ah s 960).1) := by
  obtain ⟨h1, h2, h3, h4⟩ := h
  have g := (gos_rng (r := r) ah s 960 (Nat.le_refl _)).1
  have e1 := outs_add ah (gos r ah s 960) hi m
  rw [if_pos hs] at e1
  refine ⟨fun e he => ?_, ?_, by omega, ?_⟩
  · rcases List.mem_append.mp he with q | q
    · exact h1 e q
    · rw [List.mem_singleton.mp q]
      exact OKE_gos ah hs
  · rw [List.length_append]
    show ah.length + 1 + _ = m
    omega
  · rw [List.length_append]
    show sum + _ ≤ 960 * ((ah.length + 1 : Nat) : Int)
    omega
theorem search7 (hN : 20000 ≤ N) {w0 : xW} (hS : Sh7 r m w0) : ∀ (k : Nat) (ah : List (Nat × Int × Int)) (sum : Int) (b : Option (Int × List (Nat × Int × Int))) (w : xW), ah.length + k = 8 → Nd r m ah sum → St7 ah b w0 w → ∃ w', fX0_search N k w (iZ (ah.length : Nat)) (iZ sum) (iZ (rest r ah m)) = some w' ∧ St7 ah (srch r m k ah sum b) w0 w'
  | 0, ah, sum, b, w, hk, hn, h => by
    have := hS.2.1
    have := hn.2.1
    omega
  | k + 1, ah, sum, b, w, hk, hn, h => by
    have hm := hS.2.1
    have hnn := hn
    obtain ⟨hA, hl, n0, n1⟩ := hnn
    have rr := rest_rng (r := r) ah m
    have h' := h
    obtain ⟨g1, g2, g3, g4⟩ := h'
    have h16 := (hS.s7 g1).2.2.1
    rw [fX0_search]
    unfold fX0_search_0
    rw [iZ_add, h16]
    by_cases c : iZ (sum + rest r ah m) < w.1 34 1
    · rw [if_pos c, srch]
      have nb : bLe b sum = false := by
        rcases g4 with ⟨hb, -⟩ | ⟨B, l, hb, hB, hls, -⟩
        · rw [hb]
          rfl
        · rw [hls, iZ_lt (by omega) (by omega) (by omega) (by omega)] at c
          rw [hb]
          exact decide_eq_false (show ¬ B ≤ sum by omega)
      rw [nb, if_neg (show ¬ (false = true) by decide)]
      by_cases z : ah.length = m
      · rw [if_pos (by rw [iZ_le (by omega) (by omega) (by omega) (by omega)]; omega), if_pos z]
        obtain ⟨w', q1, q2⟩ := keep7 hm hA z n0 (by omega) h
        refine ⟨w', ?_, q2⟩
        unfold fX0_search_26
        rw [h16, q1]
        rfl
      · rw [if_neg (by rw [iZ_le (by omega) (by omega) (by omega) (by omega)]; omega), if_pos (by rw [show (6 : Int32) = iZ 6 from rfl, iZ_lt (by omega) (by omega) (by omega) (by omega)]; omega), if_neg z]
        have loop : ∀ (j n s : Nat) (b : Option (Int × List (Nat × Int × Int))) (w : xW), j < n → s + j = m → St7 ah b w0 w → ∃ w', fX0_search_39 N (fX0_search N k) n w (iZ (ah.length : Nat)) (iZ sum) (iZ (rest r ah m)) (iZ (s : Nat)) = some w' ∧ St7 ah ((List.range' s j).foldl (stp r m k ah sum) b) w0 w' := by
          intro j
          induction j with
          | zero =>
            intro n s b w hjn hsj h
            obtain ⟨n, rfl⟩ : ∃ n', n = n' + 1 := ⟨n - 1, by omega⟩
            rw [fX0_search_39]
            unfold fX0_search_39b
            rw [(hS.s7 h.1).2.2.1, if_pos (by rw [iZ_le (by omega) (by omega) (by omega) (by omega)]; omega)]
            exact ⟨w, rfl, h⟩
          | succ j ih =>
            intro n s b w hjn hsj h
            obtain ⟨n, rfl⟩ : ∃ n', n = n' + 1 := ⟨n - 1, by omega⟩
            obtain ⟨-, i5, i6⟩ := ix_s s (by omega)
            obtain ⟨-, l5, l6⟩ := ix_s ah.length (by omega)
            obtain ⟨g1, g2, g3, g4⟩ := h
            have Sw := hS.s7 g1
            rw [fX0_search_39, List.range'_succ, List.foldl_cons]
            unfold fX0_search_39b
            rw [Sw.2.2.1, if_neg (by rw [iZ_le (by omega) (by omega) (by omega) (by omega)]; omega)]
            cases hi : inA ah s with
            | true =>
              rw [if_neg (fun q => by rw [g3.get (by omega), hi] at q; cases q)]
              unfold fX0_search_143
              rw [iZ_s1, show stp r m k ah sum b s = b by unfold stp; rw [hi, if_pos rfl]]
              exact ih n (s + 1) b w (by omega) (by omega) ⟨g1, g2, g3, g4⟩
            | false =>
              rw [if_pos ((g3.get (by omega)).mpr hi)]
              obtain ⟨w1, p1, p2⟩ := place_eq hN Sw.1 hm hA (by omega) Sw.2.2.2.2.2.1 (s := s) (by omega) Sw.2.2.2.1 Sw.2.2.2.2.1 g2 (Sw.2.2.2.2.2.2 s (by omega))
              have ea := hn.add (s := s) (by omega) hi
              have er := rest_add (r := r) ah (gos r ah s 960) hi m
              rw [if_pos (by omega)] at er
              rw [p1, Option.bind_some, if_pos l5, if_pos i5, i6, l6]
              unfold fX0_search_104
              rw [if_pos i5]
              have s1 : S7 w w1 := p2.s7
              have sX : S7 w (sI (sI w1 40 s (iZ (gos r ah s 960).1)) 41 s (iZ (gos r ah s 960).2)) := (s1.tr (S7.sI (by omega))).tr (S7.sI (by omega))
              have x40 : (sI (sI w1 40 s (iZ (gos r ah s 960).1)) 41 s (iZ (gos r ah s 960).2)).1 40 s = iZ (gos r ah s 960).1 := by rw [sI_r, if_neg (by omega), sI_r, if_pos ⟨rfl, rfl⟩]
              have x41 : (sI (sI w1 40 s (iZ (gos r ah s 960).1)) 41 s (iZ (gos r ah s 960).2)).1 41 s = iZ (gos r ah s 960).2 := by rw [sI_r, if_pos ⟨rfl, rfl⟩]
              have xo : ∀ c, c ≠ s → (sI (sI w1 40 s (iZ (gos r ah s 960).1)) 41 s (iZ (gos r ah s 960).2)).1 40 c = w.1 40 c ∧ (sI (sI w1 40 s (iZ (gos r ah s 960).1)) 41 s (iZ (gos r ah s 960).2)).1 41 c = w.1 41 c := fun c hc => ⟨by rw [sI_r, if_neg (by omega), sI_r, if_neg (by omega), p2.2 40 (by omega)], by rw [sI_r, if_neg (by omega), sI_r, if_neg (by omega), p2.2 41 (by omega)]⟩
              have xr : ∀ q, q ≠ 2 → q ≠ 40 → q ≠ 41 → (sI (sI w1 40 s (iZ (gos r ah s 960).1)) 41 s (iZ (gos r ah s 960).2)).1 q = w.1 q := fun q a1 a2 a3 => by rw [sI_ne1 a3, sI_ne1 a2, p2.2 q a1]
              generalize sI (sI w1 40 s (iZ (gos r ah s 960).1)) 41 s (iZ (gos r ah s 960).2) = u at sX x40 x41 xo xr
              have y34 : (sI u 39 ah.length (iZ (s : Nat))).1 34 9 = w.1 34 9 := by rw [sI_ne1 (by omega), xr 34 (by omega) (by omega) (by omega)]
              have y38 : ∀ v, (sI (sI u 39 ah.length (iZ (s : Nat))) 34 9 v).1 38 s = iZ (shM r s + al r s) := fun v => by rw [sI_ne1 (by omega), sI_ne1 (by omega), xr 38 (by omega) (by omega) (by omega)]; exact Sw.2.2.2.2.2.2 s (by omega)
              have y8 : ∀ v, (sI (sI u 39 ah.length (iZ (s : Nat))) 34 9 v).1 8 s = iZ (shM r s) := fun v => by rw [sI_ne1 (by omega), sI_ne1 (by omega), xr 8 (by omega) (by omega) (by omega)]; exact (Sw.2.2.2.2.1 s (by omega)).2.1
              have y40 : ∀ v, (sI (sI u 39 ah.length (iZ (s : Nat))) 34 9 v).1 40 s = iZ (gos r ah s 960).1 := fun v => by rw [sI_ne1 (by omega), sI_ne1 (by omega)]; exact x40
              rw [y34, y38, y8, i6, y40, iZ_sub, iZ_sub, iZ_add, iZ_s1, show rest r ah m - (shM r s + al r s - shM r s) = rest r (ah ++ [(s, gos r ah s 960)]) m by omega]
              have st : St7 (ah ++ [(s, gos r ah s 960)]) b w0 (sI (sI u 39 ah.length (iZ (s : Nat))) 34 9 ((w.1 34 9) ||| (1 <<< (iZ (s : Int) &&& 31)))) := by
                refine ⟨((g1.tr sX).tr (S7.sI (by omega))).tr (S7.sI (by omega)), ?_, ?_, ?_⟩
                · refine g2.add hi (fun i hil => ?_) (fun c hc => ?_) ?_ ?_ ?_
                  · rw [sI_ne1 (by omega), sI_r, if_neg (by omega), xr 39 (by omega) (by omega) (by omega)]
                  · rw [sI_ne1 (by omega), sI_ne1 (by omega), sI_ne1 (by omega), sI_ne1 (by omega)]
                    exact xo c hc
                  · rw [sI_ne1 (by omega), sI_r, if_pos ⟨rfl, rfl⟩]
                  · exact y40 _
                  · rw [sI_ne1 (by omega), sI_ne1 (by omega)]
                    exact x41
                · rw [sI_r, if_pos ⟨rfl, rfl⟩]
                  exact g3.add _ (by omega)
                · rw [sI_r, if_neg (by omega), sI_ne1 (by omega), sI_ne1 (by omega), sI_ne1 (by omega), sI_ne1 (by omega), sI_ne1 (by omega), sI_ne1 (by omega), sI_ne1 (by omega), xr 34 (by omega) (by omega) (by omega), xr 35 (by omega) (by omega) (by omega), xr 36 (by omega) (by omega) (by omega), xr 37 (by omega) (by omega) (by omega)]
                  exact g4
              have el : ((ah.length + 1 : Nat)) = (ah ++ [(s, gos r ah s 960)]).length := by rw [List.length_append]; rfl
              rw [el]
              obtain ⟨w3, v1, v2, v3, v4, v5⟩ := search7 hN hS k (ah ++ [(s, gos r ah s 960)]) (sum + (gos r ah s 960).1) b _ (by rw [← el]; omega) ea st
              rw [v1, Option.bind_some]
              unfold fX0_search_143
              rw [iZ_s1, show stp r m k ah sum b s = srch r m k (ah ++ [(s, gos r ah s 960)]) (sum + (gos r ah s 960).1) b by unfold stp; rw [hi, if_neg (by decide)]]
              refine ih n (s + 1) _ _ (by omega) (by omega) ⟨v2.tr (S7.sI (by omega)), ?_, ?_, ?_⟩
              · unfold AH7
                rw [sI_ne1 (by omega), sI_ne1 (by omega), sI_ne1 (by omega)]
                exact v3.pre
              · rw [sI_r, if_pos ⟨rfl, rfl⟩]
                exact v4.sub hi (by omega)
              · rw [sI_r, if_neg (by omega), sI_ne1 (by omega), sI_ne1 (by omega), sI_ne1 (by omega)]
                exact v5
        have lp := loop m N 0 b w (by omega) (by omega) h
        rw [← List.range_eq_range'] at lp
        exact lp
    · rw [if_neg c]
      refine ⟨w, rfl, ?_⟩
      have eb : srch r m (k + 1) ah sum b = b := by
        rcases g4 with ⟨hb, hls⟩ | ⟨B, l, hb, hB, hls, -⟩
        · rw [hls, iZ_lt (by omega) (by omega) (by omega) (by omega)] at c
          omega
        · rw [hls, iZ_lt (by omega) (by omega) (by omega) (by omega)] at c
          rw [hb]
          exact prune (k + 1) ah sum hl (by omega)
      rw [eb]
      exact h
end SEARCH7
