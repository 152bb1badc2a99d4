/-! the reference's search -/
theorem BT.has {x : Int32} {ah : List (Nat × Int × Int)} {s : Nat} (h : BT x ah) (s6 : s < 6) : fX8_has x (iZ (s : Nat)) = bi (inA ah s) := by
  rw [has_eq x (k := s) (by omega)]
  have g := h.get s6
  rw [sbit x (k := s) (by omega)] at g
  cases hb : bt x s with
  | false => rw [g.mp hb]
  | true =>
    cases hi : inA ah s with
    | true => rfl
    | false =>
      have := g.mpr hi
      rw [hb] at this
      cases this
def R9 (w w' : xW) : Prop := w'.2 = w.2 ∧ ∀ q k, ¬ (61 ≤ q ∧ q ≤ 69) → ¬ (q = 55 ∧ (k = 8 ∨ k = 16)) → w'.1 q k = w.1 q k
theorem R9.rf {w : xW} : R9 w w := ⟨rfl, fun _ _ _ _ => rfl⟩
theorem R9.tr {a b c : xW} (h : R9 a b) (g : R9 b c) : R9 a c := ⟨g.1.trans h.1, fun q k h1 h2 => (g.2 q k h1 h2).trans (h.2 q k h1 h2)⟩
theorem R8.r9 {w w' : xW} (h : R8 w w') : R9 w w' := ⟨h.1, fun q k h1 h2 => h.2 q k (by omega) (by omega) (by omega)⟩
theorem R9.wr {w : xW} {a k : Nat} {v : Int32} (h : 63 ≤ a ∧ a ≤ 69) : R9 w (sI w a k v) := ⟨rfl, fun q j h1 _ => by rw [sI_r, if_neg (by omega)]⟩
theorem R9.s16 {w : xW} {v : Int32} : R9 w (sI w 55 16 v) := ⟨rfl, fun q j _ h2 => by rw [sI_r, if_neg (by omega)]⟩
theorem R9.row {w w' : xW} (h : R9 w w') : w'.1 56 = w.1 56 := funext fun k => h.2 56 k (by omega) (by omega)
theorem R8.rowq {w w' : xW} (h : R8 w w') {q : Nat} (h1 : q ≠ 61) (h2 : q ≠ 62) (h3 : q ≠ 55) : w'.1 q = w.1 q := funext fun k => h.2 q k h1 h2 (by omega)
theorem TOK.keep {w w' : xW} (h : TOK w) (e8 : w'.1 55 8 = w.1 55 8) (e56 : w'.1 56 = w.1 56) (e61 : w'.1 61 = w.1 61) (e62 : w'.1 62 = w.1 62) : TOK w' := by
  unfold TOK at h ⊢
  rw [e8, e56, e61, e62]
  exact h
def AH8 (r : Nat → Int32) (w : xW) (ah : List (Nat × Int × Int)) : Prop := ∀ (i : Nat) (e : Nat × Int × Int), ah[i]? = some e → w.1 64 i = iZ (e.1 : Nat) ∧ w.1 67 e.1 = iZ e.2.2 ∧ ((e.2.2 = -1 ∧ e.2.1 = 960) ∨ (0 ≤ e.2.2 ∧ w.1 66 e.1 = iZ (shM r e.1 + e.2.1)))
theorem AH8.of {r : Nat → Int32} {w w' : xW} {ah : List (Nat × Int × Int)} (h : AH8 r w ah) (e64 : w'.1 64 = w.1 64) (e66 : w'.1 66 = w.1 66) (e67 : w'.1 67 = w.1 67) : AH8 r w' ah := by
  unfold AH8
  rw [e64, e66, e67]
  exact h
theorem AH8.pre {r : Nat → Int32} {w : xW} {ah l : List (Nat × Int × Int)} (h : AH8 r w (ah ++ l)) : AH8 r w ah := by
  intro i e he
  have hi : i < ah.length := by
    rcases Nat.lt_or_ge i ah.length with z | z
    · exact z
    · rw [List.getElem?_eq_none z] at he
      cases he
  exact h i e (by rw [List.getElem?_append_left hi]; exact he)
theorem AH8.add {r : Nat → Int32} {w w' : xW} {ah : List (Nat × Int × Int)} {s : Nat} {v : Int × Int} (h : AH8 r w ah) (hs : inA ah s = false) (e64 : ∀ i, i < ah.length → w'.1 64 i = w.1 64 i) (eo : ∀ c, c ≠ s → w'.1 66 c = w.1 66 c ∧ w'.1 67 c = w.1 67 c) (n64 : w'.1 64 ah.length = iZ (s : Nat)) (n67 : w'.1 67 s = iZ v.2) (n66 : (v.2 = -1 ∧ v.1 = 960) ∨ (0 ≤ v.2 ∧ w'.1 66 s = iZ (shM r s + v.1))) : AH8 r w' (ah ++ [(s, v)]) := by
  intro i e he
  rcases Nat.lt_or_ge i ah.length with z | z
  · rw [List.getElem?_append_left z] at he
    obtain ⟨a1, a2, a3⟩ := h i e he
    have ne : e.1 ≠ s := fun q => by
      have := inA_mem (List.mem_of_getElem? he)
      rw [q, hs] at this
      cases this
    obtain ⟨b1, b2⟩ := eo e.1 ne
    exact ⟨(e64 i z).trans a1, b2.trans a2, a3.imp id (fun q => ⟨q.1, b1.trans q.2⟩)⟩
  · rw [List.getElem?_append_right z] at he
    have hi : i = ah.length := by
      cases hd : i - ah.length with
      | zero => omega
      | succ n => rw [hd] at he; cases he
    subst hi
    rw [Nat.sub_self] at he
    have : e = (s, v) := (Option.some.inj he).symm
    rw [this]
    exact ⟨n64, n67, n66⟩
section SEARCH8
variable {r : Nat → Int32} {w : xW} {m N : Nat}
theorem taken_loop (hr' : w.1 56 = r) (hm : m ≤ 6) (hW : ∀ s, s < m → WFs r s) {ah : List (Nat × Int × Int)} (hA : ∀ e, e ∈ ah → OKE r m e) (h8 : AH8 r w ah) (la : ah.length ≤ 6) {s t : Nat} {f : Int} (s6 : s < 6) (hs : WFs r s) (ht : t < 11000) (hf : 0 ≤ f ∧ f ≤ 3) : ∀ (l : List (Nat × Int × Int)) (i n : Nat) (b : Bool), ah.drop i = l → i ≤ 6 → l.length < n → fX8_isTaken_6 N w n (iZ (ah.length : Nat)) (iZ (s : Nat)) (iZ f) (iZ (t : Nat)) (bi b) (iZ (i : Nat)) = some (bi (b || l.any (cfl r s f t)))
  | _, _, 0, _, _, _, hn => absurd hn (by omega)
  | [], i, n + 1, b, hd, hi6, _ => by
    have hi : ah.length ≤ i := by
      have := congrArg List.length hd
      rw [List.length_drop] at this
      simp only [List.length_nil] at this
      omega
    rw [fX8_isTaken_6]
    unfold fX8_isTaken_6b
    rw [if_pos (by rw [iZ_le (by omega) (by omega) (by omega) (by omega)]; omega), if_pos (xB_bi b), List.any_nil, Bool.or_false]
  | e :: l, i, n + 1, b, hd, hi6, hn => by
    have hl : i + (l.length + 1) = ah.length := by
      have := congrArg List.length hd
      rw [List.length_drop, List.length_cons] at this
      omega
    have he : ah[i]? = some e := by
      have : (ah.drop i)[0]? = some e := by rw [hd]; rfl
      rw [List.getElem?_drop] at this
      exact this
    have hd' : ah.drop (i + 1) = l := by
      have : (ah.drop i).drop 1 = l := by rw [hd]; rfl
      rw [List.drop_drop] at this
      exact this
    have hmem : e ∈ ah := List.mem_of_getElem? he
    obtain ⟨a1, a2, a3⟩ := h8 i e he
    obtain ⟨em, ⟨e0, e9⟩, e3⟩ := hA e hmem
    obtain ⟨⟨c0, c3⟩, ⟨m0, m9⟩, ⟨t1, t2⟩, -⟩ := hW e.1 em
    have hs' := hs
    obtain ⟨-, -, ⟨s1, s2⟩, -⟩ := hs'
    obtain ⟨-, i5, i6⟩ := ix_s i (by omega)
    obtain ⟨-, j5, j6⟩ := ix_s e.1 (by omega)
    have ef : -1 ≤ e.2.2 ∧ e.2.2 ≤ 3 := by
      rcases e3 with z | ⟨-, z⟩
      · omega
      · unfold fro at z
        omega
    have next : ∀ b' : Bool, fX8_isTaken_81 N w (fX8_isTaken_6 N w n) (iZ (ah.length : Nat)) (iZ (s : Nat)) (iZ f) (iZ (t : Nat)) (iZ (i : Nat)) (bi b') = some (bi (b' || l.any (cfl r s f t))) := by
      intro b'
      unfold fX8_isTaken_81
      rw [iZ_s1]
      exact taken_loop hr' hm hW hA h8 la s6 hs ht hf l (i + 1) n b' hd' (by omega) (by simp only [List.length_cons] at hn; omega)
    rw [fX8_isTaken_6, List.any_cons]
    unfold fX8_isTaken_6b
    rw [if_neg (by rw [iZ_le (by omega) (by omega) (by omega) (by omega)]; omega), if_pos i5, i6, a1]
    cases b with
    | true =>
      rw [if_neg bT]
      exact next true
    | false =>
      rw [if_pos bF, if_pos j5, j6, a2, (shIs hr' s6).2.2.1, (shIs hr' (n := e.1) (by omega)).2.2.1, Bool.false_or]
      unfold cfl
      by_cases z : e.2.2 = f
      · have a66 : w.1 66 e.1 = iZ (shM r e.1 + e.2.1) := by
          rcases a3 with q | q
          · omega
          · exact q.2
        rw [if_pos (by rw [z]), decide_eq_true z, Bool.true_and, a66, Option.bind_some, Option.bind_some, iZ_add, iZ_add]
        by_cases y : shM r e.1 + e.2.1 < t + shS r s
        · rw [if_neg (by rw [iZ_le (by omega) (by omega) (by omega) (by omega)]; omega), decide_eq_true y, Bool.true_and]
          by_cases x : (t : Int) < shM r e.1 + e.2.1 + shS r e.1
          · rw [if_neg (by rw [iZ_le (by omega) (by omega) (by omega) (by omega)]; omega), decide_eq_true x]
            exact next true
          · rw [if_pos (by rw [iZ_le (by omega) (by omega) (by omega) (by omega)]; omega), decide_eq_false x]
            exact next false
        · rw [if_pos (by rw [iZ_le (by omega) (by omega) (by omega) (by omega)]; omega), decide_eq_false y]
          exact next false
      · rw [if_neg (fun q => z ((iZ_eq (by omega) (by omega) (by omega) (by omega)).mp q)), decide_eq_false z]
        exact next false
theorem goes_loop (hN : 20000 ≤ N) (hw : WFt r) (hm : m ≤ 6) (hW : ∀ s, s < m → WFs r s) {ah : List (Nat × Int × Int)} (hA : ∀ e, e ∈ ah → OKE r m e) (la : ah.length ≤ 6) {s M : Nat} (hs : s < m) (hM : shM r s = (M : Int)) : ∀ (j n c : Nat) (u : xW), j < n → c + j = 960 → u.1 56 = r → TOK u → AH8 r u ah → ∃ (w' : xW) (v : Int32), fX8_goesIn_10 N n u (iZ (ah.length : Nat)) (iZ (s : Nat)) (iZ (M : Nat)) (iZ (c : Nat)) = some (sI (sI w' 67 s (iZ (gos r ah s j).2)) 66 s v, iZ (gos r ah s j).1) ∧ R8 u w' ∧ TOK w' ∧ (((gos r ah s j).2 = -1 ∧ (gos r ah s j).1 = 960) ∨ (0 ≤ (gos r ah s j).2 ∧ v = iZ (shM r s + (gos r ah s j).1)))
  | _, 0, _, _, hn, _, _, _, _ => absurd hn (by omega)
  | 0, n + 1, c, u, _, hc, hr', hT, h8 => by
    obtain rfl : c = 960 := by omega
    obtain ⟨-, i5, i6⟩ := ix_s s (by omega)
    rw [fX8_goesIn_10, gos]
    unfold fX8_goesIn_10b
    rw [if_pos (by decide), if_pos i5, i6]
    exact ⟨u, _, rfl, R8.rf, hT, Or.inl ⟨rfl, rfl⟩⟩
  | j + 1, n + 1, c, u, hn, hc, hr', hT, h8 => by
    have hWs := hW s hs
    obtain ⟨⟨c0, c3⟩, ⟨m0, m9⟩, ⟨t1, t2⟩, -⟩ := hWs
    obtain ⟨-, i5, i6⟩ := ix_s s (by omega)
    obtain ⟨w1, p1, p2, p3⟩ := quayAt8 hN hr' hw hT (s := s) (by omega) (hW s hs) (t := M + c) (by omega)
    have e1 : w1.1 56 = r := p2.row.trans hr'
    have h81 : AH8 r w1 ah := h8.of (p2.rowq (by omega) (by omega) (by omega)) (p2.rowq (by omega) (by omega) (by omega)) (p2.rowq (by omega) (by omega) (by omega))
    have ga := gos_at (r := r) ah hM (t := M + c) (by omega) (by omega)
    rw [show M + 960 - (M + c) = j + 1 by omega, show M + 960 - (M + c + 1) = j by omega] at ga
    have fr : 0 ≤ fro r s ((M + c : Nat) : Int) ∧ fro r s ((M + c : Nat) : Int) ≤ 3 := by unfold fro; omega
    have ih : okG r ah s (M + c) = false → ∃ (w' : xW) (v : Int32), fX8_goesIn_10 N n w1 (iZ (ah.length : Nat)) (iZ (s : Nat)) (iZ (M : Nat)) (iZ (c : Nat) + 1) = some (sI (sI w' 67 s (iZ (gos r ah s (j + 1)).2)) 66 s v, iZ (gos r ah s (j + 1)).1) ∧ R8 u w' ∧ TOK w' ∧ (((gos r ah s (j + 1)).2 = -1 ∧ (gos r ah s (j + 1)).1 = 960) ∨ (0 ≤ (gos r ah s (j + 1)).2 ∧ v = iZ (shM r s + (gos r ah s (j + 1)).1))) := by
      intro hg
      rw [ga, hg, if_neg (by decide), iZ_s1]
      obtain ⟨w', v, q1, q2, q3, q4⟩ := goes_loop hN hw hm hW hA la hs hM j n (c + 1) w1 (by omega) (by omega) e1 p3 h81
      exact ⟨w', v, q1, p2.tr q2, q3, q4⟩
    rw [fX8_goesIn_10]
    unfold fX8_goesIn_10b fX8_goesIn_70
    rw [if_neg (by rw [show (960 : Int32) = iZ 960 from rfl, iZ_le (by omega) (by omega) (by omega) (by omega)]; omega), iZ_add, show (M : Int) + (c : Int) = ((M + c : Nat) : Int) by omega, p1, Option.bind_some]
    cases ho : okAt r s ((M + c : Nat) : Int) with
    | false =>
      simp only [Bool.false_eq_true, if_false]
      rw [if_pos (show iZ (-1) < 0 by decide)]
      exact ih (by unfold okG; rw [ho]; rfl)
    | true =>
      have tk : fX8_isTaken N w1 (iZ (ah.length : Nat)) (iZ (s : Nat)) (iZ (fro r s ((M + c : Nat) : Int))) (iZ ((M + c : Nat) : Int)) = some (bi (takn r ah s (fro r s ((M + c : Nat) : Int)) ((M + c : Nat) : Int))) := by
        have := taken_loop (N := N) e1 hm hW hA h81 la (s := s) (t := M + c) (f := fro r s ((M + c : Nat) : Int)) (by omega) (hW s hs) (by omega) fr ah 0 N false rfl (by omega) (by omega)
        exact this
      simp only [if_true]
      rw [if_neg (fun q => by have := (iZ_neg0 (by omega) (by omega)).mp q; omega), tk, Option.bind_some]
      cases ht : takn r ah s (fro r s ((M + c : Nat) : Int)) ((M + c : Nat) : Int) with
      | true =>
        rw [if_neg bT]
        exact ih (by unfold okG; rw [ho, ht]; rfl)
      | false =>
        have hg : okG r ah s (M + c) = true := by unfold okG; rw [ho, ht]; rfl
        rw [if_pos bF, if_pos i5, i6, ga, hg, if_pos rfl]
        refine ⟨w1, iZ ((M + c : Nat) : Int), ?_, p2, p3, Or.inr ⟨fr.1, ?_⟩⟩
        · show some (sI (sI w1 67 s _) 66 s _, iZ (c : Int)) = some (sI (sI w1 67 s _) 66 s _, iZ (((M + c : Nat) : Int) - M))
          rw [show ((M + c : Nat) : Int) - M = c by omega]
        · show iZ ((M + c : Nat) : Int) = iZ (shM r s + (((M + c : Nat) : Int) - M))
          congr 1
          omega
theorem goes_eq (hN : 20000 ≤ N) (hw : WFt r) (hm : m ≤ 6) (hW : ∀ s, s < m → WFs r s) {ah : List (Nat × Int × Int)} (hA : ∀ e, e ∈ ah → OKE r m e) (la : ah.length ≤ 6) {s : Nat} (hs : s < m) (hr' : w.1 56 = r) (hT : TOK w) (h8 : AH8 r w ah) : ∃ (w' : xW) (v : Int32), fX8_goesIn N w (iZ (ah.length : Nat)) (iZ (s : Nat)) = some (sI (sI w' 67 s (iZ (gos r ah s 960).2)) 66 s v, iZ (gos r ah s 960).1) ∧ R8 w w' ∧ TOK w' ∧ (((gos r ah s 960).2 = -1 ∧ (gos r ah s 960).1 = 960) ∨ (0 ≤ (gos r ah s 960).2 ∧ v = iZ (shM r s + (gos r ah s 960).1))) := by
  have hWs := hW s hs
  obtain ⟨-, ⟨m0, m9⟩, -⟩ := hWs
  obtain ⟨M, hM⟩ : ∃ M : Nat, shM r s = (M : Int) := ⟨(shM r s).toNat, by omega⟩
  unfold fX8_goesIn fX8_goesIn_0
  rw [(shIs hr' (n := s) (by omega)).2.1, Option.bind_some, hM]
  rw [← hM]
  obtain ⟨w', v, q⟩ := goes_loop hN hw hm hW hA la hs hM 960 N 0 w (by omega) (by omega) hr' hT h8
  rw [← hM] at q
  exact ⟨w', v, q⟩
end SEARCH8
