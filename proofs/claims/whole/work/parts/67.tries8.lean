/-! the reference's search: the walk over all orders -/
def St8 (r : Nat → Int32) (ah : List (Nat × Int × Int)) (b : Option (Int × List (Nat × Int × Int))) (w0 w : xW) : Prop := R9 w0 w ∧ TOK w ∧ AH8 r w ah ∧ BS (iZ (-1)) b (w.1 55 16) (w.1 65) (w.1 68) (w.1 69)
def K8 (w w' : xW) : Prop := w'.2 = w.2 ∧ ∀ q, q ≠ 65 → q ≠ 68 → q ≠ 69 → w'.1 q = w.1 q
theorem K8.tr {a b c : xW} (h : K8 a b) (g : K8 b c) : K8 a c := ⟨g.1.trans h.1, fun q h1 h2 h3 => (g.2 q h1 h2 h3).trans (h.2 q h1 h2 h3)⟩
theorem K8.sI {w : xW} {a k : Nat} {v : Int32} (h : a = 65 ∨ a = 68 ∨ a = 69) : K8 w (sI w a k v) := ⟨rfl, fun q h1 h2 h3 => sI_ne1 (by omega)⟩
theorem K8.r9 {w w' : xW} (h : K8 w w') : R9 w w' := ⟨h.1, fun q k h1 _ => by rw [h.2 q (by omega) (by omega) (by omega)]⟩
section TRIES8
variable {r : Nat → Int32} {m N : Nat}
theorem keep8_loop (hm : m ≤ 6) (hW : ∀ s, s < m → WFs r s) {ah : List (Nat × Int × Int)} (hA : ∀ e, e ∈ ah → OKE r m e) (la : ah.length = m) (rec' : xW → Int32 → Int32 → Int32 → Option xW) : ∀ (j n i : Nat) (u : xW), j < n → i + j = m → u.1 56 = r → AH8 r u ah → (∀ (c : Nat) (e : Nat × Int × Int), c < i → ah[c]? = some e → u.1 65 c = iZ (e.1 : Nat) ∧ u.1 68 e.1 = iZ e.2.1 ∧ u.1 69 e.1 = iZ e.2.2) → ∃ w', fX8_tries_35 N rec' n u (iZ (m : Nat)) (iZ (i : Nat)) = some w' ∧ K8 u w' ∧ ∀ (c : Nat) (e : Nat × Int × Int), ah[c]? = some e → w'.1 65 c = iZ (e.1 : Nat) ∧ w'.1 68 e.1 = iZ e.2.1 ∧ w'.1 69 e.1 = iZ e.2.2
  | _, 0, _, _, hn, _, _, _, _ => absurd hn (by omega)
  | 0, n + 1, i, u, _, hi, hr', h8, hd => by
    rw [fX8_tries_35]
    unfold fX8_tries_35b
    rw [if_pos (by rw [iZ_le (by omega) (by omega) (by omega) (by omega)]; omega)]
    exact ⟨u, rfl, ⟨rfl, fun _ _ _ _ => rfl⟩, fun c e he => hd c e (by have := (List.getElem?_eq_some_iff.mp he).1; omega) he⟩
  | j + 1, n + 1, i, u, hn, hi, hr', h8, hd => by
    obtain ⟨e, he⟩ : ∃ e, ah[i]? = some e := ⟨ah[i]'(by omega), List.getElem?_eq_getElem (by omega)⟩
    obtain ⟨a1, a2, a3⟩ := h8 i e he
    obtain ⟨em, ⟨e0, e9⟩, e3⟩ := hA e (List.mem_of_getElem? he)
    obtain ⟨-, ⟨m0, m9⟩, -, -⟩ := hW e.1 em
    obtain ⟨-, i5, i6⟩ := ix_s i (by omega)
    obtain ⟨-, j5, j6⟩ := ix_s e.1 (by omega)
    have ef : -1 ≤ e.2.2 ∧ e.2.2 ≤ 3 := by
      rcases e3 with z | ⟨-, z⟩
      · omega
      · unfold fro at z
        omega
    rw [fX8_tries_35]
    unfold fX8_tries_35b
    have r67 : ∀ v v2, (sI (sI u 65 i v) 69 e.1 v2).1 67 e.1 = iZ e.2.2 := fun v v2 => by rw [sI_ne1 (by omega), sI_ne1 (by omega)]; exact a2
    have r67' : ∀ v, (sI u 65 i v).1 67 e.1 = iZ e.2.2 := fun v => by rw [sI_ne1 (by omega)]; exact a2
    rw [if_neg (by rw [iZ_le (by omega) (by omega) (by omega) (by omega)]; omega), if_pos i5, i6, a1, if_pos j5, j6, r67', r67]
    have fin : fX8_tries_86 N rec' (fX8_tries_35 N rec' n) (sI (sI u 65 i (iZ (e.1 : Nat))) 69 e.1 (iZ e.2.2)) (iZ (m : Nat)) (iZ (i : Nat)) (iZ (e.1 : Nat)) (iZ e.2.2) (iZ (e.1 : Nat)) = fX8_tries_35 N rec' n (sI (sI (sI u 65 i (iZ (e.1 : Nat))) 69 e.1 (iZ e.2.2)) 68 e.1 (iZ e.2.1)) (iZ (m : Nat)) (iZ ((i + 1 : Nat) : Int)) := by
      unfold fX8_tries_86 fX8_tries_110
      simp only [j5, if_true]
      rw [j6, iZ_s1]
      rcases a3 with ⟨q1, q2⟩ | ⟨q1, q2⟩
      · rw [q1, q2, if_neg (show ¬ (0 : Int32) ≤ iZ (-1) by decide)]
        rfl
      · have e56 : (sI (sI u 65 i (iZ (e.1 : Nat))) 69 e.1 (iZ e.2.2)).1 56 = r := by rw [sI_ne1 (by omega), sI_ne1 (by omega)]; exact hr'
        have e66 : (sI (sI u 65 i (iZ (e.1 : Nat))) 69 e.1 (iZ e.2.2)).1 66 e.1 = iZ (shM r e.1 + e.2.1) := by rw [sI_ne1 (by omega), sI_ne1 (by omega)]; exact q2
        rw [if_pos (show (0 : Int32) ≤ iZ e.2.2 by rw [show (0 : Int32) = iZ 0 from rfl, iZ_le (by omega) (by omega) (by omega) (by omega)]; omega), (shIs e56 (n := e.1) (by omega)).2.1, Option.bind_some, e66, iZ_sub, show shM r e.1 + e.2.1 - shM r e.1 = e.2.1 by omega]
    rw [fin]
    have k8 : K8 u (sI (sI (sI u 65 i (iZ (e.1 : Nat))) 69 e.1 (iZ e.2.2)) 68 e.1 (iZ e.2.1)) := ((K8.sI (by omega)).tr (K8.sI (by omega))).tr (K8.sI (by omega))
    have h8' : AH8 r (sI (sI (sI u 65 i (iZ (e.1 : Nat))) 69 e.1 (iZ e.2.2)) 68 e.1 (iZ e.2.1)) ah := h8.of (k8.2 64 (by omega) (by omega) (by omega)) (k8.2 66 (by omega) (by omega) (by omega)) (k8.2 67 (by omega) (by omega) (by omega))
    obtain ⟨w', g1, g2, g3⟩ := keep8_loop hm hW hA la rec' j n (i + 1) _ (by omega) (by omega) ((k8.2 56 (by omega) (by omega) (by omega)).trans hr') h8' (fun c y hc hy => by
      have same : y.1 = e.1 → iZ y.2.1 = iZ e.2.1 ∧ iZ y.2.2 = iZ e.2.2 := by
        intro q
        obtain ⟨-, b2, b3⟩ := h8 c y hy
        obtain ⟨ym, ⟨y0, y9⟩, y3⟩ := hA y (List.mem_of_getElem? hy)
        have yf : -1 ≤ y.2.2 ∧ y.2.2 ≤ 3 := by
          rcases y3 with z | ⟨-, z⟩
          · omega
          · unfold fro at z
            omega
        rw [q] at b2 b3
        have ee : y.2.2 = e.2.2 := (iZ_eq (by omega) (by omega) (by omega) (by omega)).mp (b2.symm.trans a2)
        rw [ee] at b3 ⊢
        refine ⟨?_, rfl⟩
        rcases b3 with ⟨x1, x2⟩ | ⟨x1, x2⟩
        · rcases a3 with ⟨z1, z2⟩ | ⟨z1, z2⟩
          · rw [x2, z2]
          · omega
        · rcases a3 with ⟨z1, z2⟩ | ⟨z1, z2⟩
          · omega
          · have := (iZ_eq (by omega) (by omega) (by omega) (by omega)).mp (x2.symm.trans z2)
            rw [show y.2.1 = e.2.1 by omega]
      refine ⟨?_, ?_, ?_⟩
      · rw [sI_r, if_neg (by omega), sI_r, if_neg (by omega), sI_r]
        by_cases z : c = i
        · rw [if_pos ⟨rfl, z⟩]
          rw [z, he] at hy
          rw [Option.some.inj hy]
        · rw [if_neg (by omega)]
          exact (hd c y (by omega) hy).1
      · rw [sI_r]
        by_cases z : y.1 = e.1
        · rw [if_pos ⟨rfl, z⟩]
          exact (same z).1.symm
        · rw [if_neg (by omega), sI_r, if_neg (by omega), sI_r, if_neg (by omega)]
          have ci : c ≠ i := fun q => by
            rw [q, he] at hy
            rw [Option.some.inj hy] at z
            exact z rfl
          exact (hd c y (by omega) hy).2.1
      · rw [sI_r, if_neg (by omega), sI_r]
        by_cases z : y.1 = e.1
        · rw [if_pos ⟨rfl, z⟩]
          exact (same z).2.symm
        · rw [if_neg (by omega), sI_r, if_neg (by omega)]
          have ci : c ≠ i := fun q => by
            rw [q, he] at hy
            rw [Option.some.inj hy] at z
            exact z rfl
          exact (hd c y (by omega) hy).2.2)
    exact ⟨w', g1, k8.tr g2, g3⟩
theorem tries8 (hN : 20000 ≤ N) (hw : WFt r) (hm : m ≤ 6) (hW : ∀ s, s < m → WFs r s) (h10 : r 10 = iZ (m : Nat)) {w0 : xW} (hr0 : w0.1 56 = r) : ∀ (k : Nat) (ah : List (Nat × Int × Int)) (x : Int32) (sum : Int) (b : Option (Int × List (Nat × Int × Int))) (w : xW), ah.length + k = 8 → Nd r m ah sum → BT x ah → St8 r ah b w0 w → ∃ w', fX8_tries N k w (iZ (ah.length : Nat)) x (iZ sum) = some w' ∧ St8 r ah (srch r m k ah sum b) w0 w'
  | 0, ah, x, sum, b, w, hk, hn, _, _ => by
    have := hn.2.1
    omega
  | k + 1, ah, x, sum, b, w, hk, hn, hx, h => by
    have hnn := hn
    obtain ⟨hA, hl, n0, n1⟩ := hnn
    have h' := h
    obtain ⟨g1, g2, g3, g4⟩ := h'
    have h56 : w.1 56 10 = iZ (m : Nat) := by rw [g1.row, hr0]; exact h10
    rw [fX8_tries, srch]
    unfold fX8_tries_0
    have go : bLe b sum = false → ∃ w', fX8_tries_16 N (fX8_tries N k) w (iZ (ah.length : Nat)) x (iZ sum) = some w' ∧ St8 r ah (if bLe b sum = true then b else if ah.length = m then some (sum, ah) else (List.range m).foldl (fun b s => if ah.any (fun o => Nat.beq o.1 s) = true then b else srch r m k (ah ++ [(s, gos r ah s 960)]) (sum + (gos r ah s 960).1) b) b) w0 w' := by
      intro nb
      unfold fX8_tries_16
      rw [nb, if_neg (show ¬ (false = true) by decide), h56]
      by_cases z : ah.length = m
      · rw [if_pos (by rw [z]), if_pos z, z]
        obtain ⟨w', q1, q2, q3⟩ := keep8_loop (N := N) hm hW hA z (fX8_tries N k) m N 0 (sI w 55 16 (iZ sum)) (by omega) (by omega) (by rw [sI_ne1 (by omega), g1.row, hr0]) (g3.of (sI_ne1 (by omega)) (sI_ne1 (by omega)) (sI_ne1 (by omega))) (fun c e hc => absurd hc (by omega))
        have e55 : w'.1 55 = (sI w 55 16 (iZ sum)).1 55 := q2.2 55 (by omega) (by omega) (by omega)
        refine ⟨w', q1, (g1.tr R9.s16).tr q2.r9, ?_, ?_, Or.inr ⟨sum, ah, rfl, ⟨n0, by omega⟩, ?_, q3⟩⟩
        · refine g2.keep ?_ ?_ ?_ ?_
          · rw [e55, sI_r, if_neg (by omega)]
          · rw [q2.2 56 (by omega) (by omega) (by omega), sI_ne1 (by omega)]
          · rw [q2.2 61 (by omega) (by omega) (by omega), sI_ne1 (by omega)]
          · rw [q2.2 62 (by omega) (by omega) (by omega), sI_ne1 (by omega)]
        · refine g3.of ?_ ?_ ?_
          · rw [q2.2 64 (by omega) (by omega) (by omega), sI_ne1 (by omega)]
          · rw [q2.2 66 (by omega) (by omega) (by omega), sI_ne1 (by omega)]
          · rw [q2.2 67 (by omega) (by omega) (by omega), sI_ne1 (by omega)]
        · rw [e55, sI_r, if_pos ⟨rfl, rfl⟩]
      · rw [if_neg (by rw [iZ_eq (by omega) (by omega) (by omega) (by omega)]; omega), if_neg z]
        have loop : ∀ (j n s : Nat) (b : Option (Int × List (Nat × Int × Int))) (w : xW), j < n → s + j = m → St8 r ah b w0 w → ∃ w', fX8_tries_121 N (fX8_tries N k) n w (iZ (ah.length : Nat)) x (iZ sum) (iZ (s : Nat)) = some w' ∧ St8 r ah ((List.range' s j).foldl (stp r m k ah sum) b) w0 w' := by
          intro j
          induction j with
          | zero =>
            intro n s b w hjn hsj h
            obtain ⟨n, rfl⟩ : ∃ n', n = n' + 1 := ⟨n - 1, by omega⟩
            rw [fX8_tries_121]
            unfold fX8_tries_121b
            rw [h.1.row, hr0, h10, if_pos (by rw [iZ_le (by omega) (by omega) (by omega) (by omega)]; omega)]
            exact ⟨w, rfl, h⟩
          | succ j ih =>
            intro n s b w hjn hsj h
            obtain ⟨n, rfl⟩ : ∃ n', n = n' + 1 := ⟨n - 1, by omega⟩
            obtain ⟨-, l5, l6⟩ := ix_s ah.length (by omega)
            obtain ⟨g1, g2, g3, g4⟩ := h
            rw [fX8_tries_121, List.range'_succ, List.foldl_cons]
            unfold fX8_tries_121b
            rw [g1.row, hr0, h10, if_neg (by rw [iZ_le (by omega) (by omega) (by omega) (by omega)]; omega), hx.has (by omega)]
            cases hi : inA ah s with
            | true =>
              rw [if_neg bT]
              unfold fX8_tries_176
              rw [iZ_s1, show stp r m k ah sum b s = b by unfold stp; rw [hi, if_pos rfl]]
              exact ih n (s + 1) b w (by omega) (by omega) ⟨g1, g2, g3, g4⟩
            | false =>
              have rA : R9 w (sI w 64 ah.length (iZ (s : Nat))) := R9.wr (by omega)
              have tA : TOK (sI w 64 ah.length (iZ (s : Nat))) := g2.keep (by rw [sI_ne1 (by omega)]) (sI_ne1 (by omega)) (sI_ne1 (by omega)) (sI_ne1 (by omega))
              have hA8 : AH8 r (sI w 64 ah.length (iZ (s : Nat))) ah := by
                intro i e he
                have hil := (List.getElem?_eq_some_iff.mp he).1
                rw [sI_r, if_neg (by omega), sI_ne1 (by omega), sI_ne1 (by omega)]
                exact g3 i e he
              obtain ⟨w1, v, p1, p2, p3, p4⟩ := goes_eq hN hw hm hW hA (by omega) (s := s) (by omega) (w := sI w 64 ah.length (iZ (s : Nat))) (by rw [sI_ne1 (by omega), g1.row, hr0]) tA hA8
              have ea := hn.add (s := s) (by omega) hi
              rw [if_pos bF, if_pos l5, l6, p1, Option.bind_some, iZ_add, iZ_s1]
              have el : ((ah.length + 1 : Nat)) = (ah ++ [(s, gos r ah s 960)]).length := by rw [List.length_append]; rfl
              rw [el]
              have rB : R9 w (sI (sI w1 67 s (iZ (gos r ah s 960).2)) 66 s v) := ((rA.tr p2.r9).tr (R9.wr (by omega))).tr (R9.wr (by omega))
              have st : St8 r (ah ++ [(s, gos r ah s 960)]) b w0 (sI (sI w1 67 s (iZ (gos r ah s 960).2)) 66 s v) := by
                refine ⟨g1.tr rB, ?_, ?_, ?_⟩
                · exact p3.keep (by rw [sI_ne1 (by omega), sI_ne1 (by omega)]) (by rw [sI_ne1 (by omega), sI_ne1 (by omega)]) (by rw [sI_ne1 (by omega), sI_ne1 (by omega)]) (by rw [sI_ne1 (by omega), sI_ne1 (by omega)])
                · refine g3.add hi (fun i hil => ?_) (fun c hc => ⟨?_, ?_⟩) ?_ ?_ ?_
                  · rw [sI_ne1 (by omega), sI_ne1 (by omega), p2.rowq (by omega) (by omega) (by omega), sI_r, if_neg (by omega)]
                  · rw [sI_r, if_neg (by omega), sI_ne1 (by omega), p2.rowq (by omega) (by omega) (by omega), sI_ne1 (by omega)]
                  · rw [sI_ne1 (by omega), sI_r, if_neg (by omega), p2.rowq (by omega) (by omega) (by omega), sI_ne1 (by omega)]
                  · rw [sI_ne1 (by omega), sI_ne1 (by omega), p2.rowq (by omega) (by omega) (by omega), sI_r, if_pos ⟨rfl, rfl⟩]
                  · rw [sI_ne1 (by omega), sI_r, if_pos ⟨rfl, rfl⟩]
                  · refine p4.imp id (fun q => ⟨q.1, ?_⟩)
                    rw [sI_r, if_pos ⟨rfl, rfl⟩]
                    exact q.2
                · have e16 : w1.1 55 16 = w.1 55 16 := by rw [p2.2 55 16 (by omega) (by omega) (by omega), sI_ne1 (by omega)]
                  rw [sI_ne1 (by omega), sI_ne1 (by omega), sI_ne1 (by omega), sI_ne1 (by omega), sI_ne1 (by omega), sI_ne1 (by omega), sI_ne1 (by omega), sI_ne1 (by omega), e16, p2.rowq (q := 65) (by omega) (by omega) (by omega), p2.rowq (q := 68) (by omega) (by omega) (by omega), p2.rowq (q := 69) (by omega) (by omega) (by omega), sI_ne1 (by omega), sI_ne1 (by omega), sI_ne1 (by omega)]
                  exact g4
              obtain ⟨w3, v1, v2, v3, v4, v5⟩ := tries8 hN hw hm hW h10 hr0 k (ah ++ [(s, gos r ah s 960)]) _ (sum + (gos r ah s 960).1) b _ (by rw [← el]; omega) ea (hx.add (gos r ah s 960) (by omega)) st
              rw [v1, Option.bind_some]
              unfold fX8_tries_176
              rw [iZ_s1, show stp r m k ah sum b s = srch r m k (ah ++ [(s, gos r ah s 960)]) (sum + (gos r ah s 960).1) b by unfold stp; rw [hi, if_neg (by decide)]]
              exact ih n (s + 1) _ _ (by omega) (by omega) ⟨v2, v3, v4.pre, v5⟩
        have lp := loop m N 0 b w (by omega) (by omega) h
        rw [← List.range_eq_range'] at lp
        exact lp
    have g4' := g4
    rcases g4' with ⟨hb, hls⟩ | ⟨B, l, hb, hB, hls, -⟩
    · rw [hls, if_pos (show iZ (-1) < 0 by decide)]
      exact go (by rw [hb]; rfl)
    · rw [hls, if_neg (fun q => by have := (iZ_neg0 (by omega) (by omega)).mp q; omega)]
      by_cases c : sum < B
      · rw [if_pos (by rw [iZ_lt (by omega) (by omega) (by omega) (by omega)]; omega)]
        exact go (by rw [hb]; exact decide_eq_false (show ¬ B ≤ sum by omega))
      · rw [if_neg (by rw [iZ_lt (by omega) (by omega) (by omega) (by omega)]; omega), if_pos (by rw [hb]; exact decide_eq_true (show B ≤ sum by omega))]
        exact ⟨w, rfl, h⟩
end TRIES8
