/-! order and waits -/
theorem fold_some {α β : Type} {f : Option β → α → Option β} (hf : ∀ b s, b.isSome = true → (f b s).isSome = true) : ∀ (l : List α) (b : Option β), (b.isSome = true ∨ ∃ s, s ∈ l ∧ ∀ b, (f b s).isSome = true) → (l.foldl f b).isSome = true
  | [], b, h => by
    rcases h with h | ⟨s, hs, -⟩
    · exact h
    · cases hs
  | x :: l, b, h => by
    rw [List.foldl_cons]
    refine fold_some hf l _ ?_
    rcases h with h | ⟨s, hs, h⟩
    · exact Or.inl (hf b x h)
    · rcases List.mem_cons.mp hs with q | q
      · rw [← q]
        exact Or.inl (h b)
      · exact Or.inr ⟨s, q, h⟩
theorem fold_inv {α β : Type} {f : β → α → β} {P : β → Prop} : ∀ (l : List α), (∀ b s, s ∈ l → P b → P (f b s)) → ∀ b, P b → P (l.foldl f b)
  | [], _, _, h => h
  | x :: l, hf, b, h => by
    rw [List.foldl_cons]
    exact fold_inv l (fun b s hs => hf b s (List.mem_cons_of_mem _ hs)) _ (hf b x List.mem_cons_self h)
theorem cnt_none {f : Nat → Bool} : ∀ {n : Nat}, cnt f n = 0 → ∀ k, k < n → f k = false
  | 0, _, k, hk => absurd hk (by omega)
  | n + 1, h, k, hk => by
    rw [cnt] at h
    rcases Nat.lt_or_ge k n with q | q
    · exact cnt_none (n := n) (by omega) k q
    · have : k = n := by omega
      rw [this]
      cases hb : f n with
      | false => rfl
      | true =>
        rw [hb] at h
        simp at h
def FL8 (m : Nat) (l : List (Nat × Int × Int)) : Prop := l.length = m ∧ ∀ s, s < m → inA l s = true
section ORDER
variable {r : Nat → Int32} {w : xW} {m N : Nat}
theorem Nd.full {ah : List (Nat × Int × Int)} {sum : Int} (h : Nd r m ah sum) (hl : ah.length = m) : FL8 m ah := by
  refine ⟨hl, fun s hs => ?_⟩
  have h0 : cnt (fun s => !(inA ah s)) m = 0 := by
    have := h.2.1
    unfold outs at this
    omega
  have := cnt_none h0 s hs
  cases hb : inA ah s with
  | true => rfl
  | false =>
    rw [hb] at this
    cases this
theorem srch_full : ∀ (d : Nat) (ah : List (Nat × Int × Int)) (sum : Int) (b : Option (Int × List (Nat × Int × Int))), Nd r m ah sum → (∀ x, b = some x → FL8 m x.2) → ∀ x, srch r m d ah sum b = some x → FL8 m x.2
  | 0, _, _, _, _, hb => hb
  | d + 1, ah, sum, b, hn, hb => by
    rw [srch]
    by_cases a : bLe b sum = true
    · rw [if_pos a]
      exact hb
    · rw [if_neg a]
      by_cases c : ah.length = m
      · rw [if_pos c]
        intro x hx
        rw [← Option.some.inj hx]
        exact hn.full c
      · rw [if_neg c]
        refine fold_inv (P := fun b => ∀ x, b = some x → FL8 m x.2) (List.range m) (fun b s hs hb => ?_) b hb
        have hs := List.mem_range.mp hs
        show ∀ x, (if inA ah s = true then b else srch r m d (ah ++ [(s, gos r ah s 960)]) (sum + (gos r ah s 960).1) b) = some x → FL8 m x.2
        cases hi : inA ah s with
        | true =>
          rw [if_pos rfl]
          exact hb
        | false =>
          rw [if_neg (by decide)]
          exact srch_full d _ _ b (hn.add hs hi) hb
theorem srch_some : ∀ (d : Nat) (ah : List (Nat × Int × Int)) (sum : Int) (b : Option (Int × List (Nat × Int × Int))), Nd r m ah sum → (b.isSome = true ∨ m < ah.length + d) → (srch r m d ah sum b).isSome = true
  | 0, ah, sum, b, hn, h => by
    rw [srch]
    have := hn.2.1
    rcases h with h | h
    · exact h
    · omega
  | d + 1, ah, sum, b, hn, h => by
    rw [srch]
    by_cases a : bLe b sum = true
    · rw [if_pos a]
      cases b with
      | none => cases a
      | some x => rfl
    · rw [if_neg a]
      by_cases c : ah.length = m
      · rw [if_pos c]
        rfl
      · rw [if_neg c]
        have st : ∀ b s, b.isSome = true → s < m → (if inA ah s = true then b else srch r m d (ah ++ [(s, gos r ah s 960)]) (sum + (gos r ah s 960).1) b).isSome = true := by
          intro b s hb hs
          cases hi : inA ah s with
          | true =>
            rw [if_pos rfl]
            exact hb
          | false =>
            rw [if_neg (by decide)]
            exact srch_some d _ _ b (hn.add hs hi) (Or.inl hb)
        have fi : ∀ (l : List Nat) (b : Option (Int × List (Nat × Int × Int))), (∀ s, s ∈ l → s < m) → (b.isSome = true ∨ ∃ s, s ∈ l ∧ inA ah s = false ∧ m < ah.length + (d + 1)) → (l.foldl (fun b s => if inA ah s = true then b else srch r m d (ah ++ [(s, gos r ah s 960)]) (sum + (gos r ah s 960).1) b) b).isSome = true := by
          intro l
          induction l with
          | nil =>
            intro b _ h
            rcases h with h | ⟨s, hs, -⟩
            · exact h
            · cases hs
          | cons y l ih =>
            intro b hl h
            rw [List.foldl_cons]
            refine ih _ (fun s hs => hl s (List.mem_cons_of_mem _ hs)) ?_
            have hy := hl y List.mem_cons_self
            rcases h with h | ⟨s, hs, hi, hd⟩
            · exact Or.inl (st b y h hy)
            · rcases List.mem_cons.mp hs with q | q
              · rw [q] at hi
                refine Or.inl ?_
                rw [hi, if_neg (by decide)]
                refine srch_some d _ _ b (hn.add hy hi) (Or.inr ?_)
                rw [List.length_append]
                show m < ah.length + 1 + d
                omega
              · exact Or.inr ⟨s, q, hi, hd⟩
        refine fi (List.range m) b (fun s hs => List.mem_range.mp hs) ?_
        rcases h with h | h
        · exact Or.inl h
        · refine Or.inr ?_
          have ho : outs ah m ≠ 0 := by
            have := hn.2.1
            omega
          refine Classical.byContradiction (fun q => ho ?_)
          refine cnt_zero m (fun s hs => ?_)
          cases hi : inA ah s with
          | true => rfl
          | false => exact absurd ⟨s, List.mem_range.mpr hs, hi, h⟩ q
theorem outs_nil : ∀ m, outs [] m = m
  | 0 => rfl
  | m + 1 => by
    have := outs_nil m
    unfold outs at this ⊢
    rw [cnt, this]
    rfl
theorem Nd.nil : Nd r m [] 0 := ⟨fun e he => (by cases he), by rw [outs_nil]; exact Nat.zero_add m, Int.le_refl _, by simp⟩
theorem best_get (hm : m < 8) : ∃ (B : Int) (l : List (Nat × Int × Int)), srch r m 8 [] 0 none = some (B, l) ∧ FL8 m l := by
  have h1 := srch_some (r := r) (m := m) 8 [] 0 none Nd.nil (Or.inr (by simp only [List.length_nil]; omega))
  have h2 := srch_full (r := r) (m := m) 8 [] 0 none Nd.nil (fun x hx => by cases hx)
  cases hb : srch r m 8 [] 0 none with
  | none =>
    rw [hb] at h1
    cases h1
  | some x => exact ⟨x.1, x.2, rfl, h2 x hb⟩
theorem BestOK.det {ls ls' : Int32} {od wa fo od' wa' fo' : Nat → Int32} (hm : m < 8) (h10 : (r 10).toInt.toNat = m) (h : BestOK r ls od wa fo) (h' : BestOK r ls' od' wa' fo') : ls = ls' ∧ ∀ i, i < m → od i = od' i ∧ wa i = wa' i ∧ fo i = fo' i := by
  obtain ⟨B, l, e1, e2, e3⟩ := h
  obtain ⟨B', l', e1', e2', e3'⟩ := h'
  rw [h10] at e1 e1'
  obtain ⟨B2, l2, g1, g2, g3⟩ := best_get (r := r) hm
  rw [g1] at e1 e1'
  obtain ⟨rfl, rfl⟩ := Prod.mk.inj (Option.some.inj e1)
  obtain ⟨rfl, rfl⟩ := Prod.mk.inj (Option.some.inj e1')
  refine ⟨e2.trans e2'.symm, fun i hi => ⟨?_, ?_⟩⟩
  · have he : l2[i]? = some (l2[i]'(by omega)) := List.getElem?_eq_getElem (by omega)
    exact (e3 i _ he).1.trans (e3' i _ he).1.symm
  · have hin := g3 i hi
    unfold inA at hin
    obtain ⟨e, he, hb⟩ := List.any_eq_true.mp hin
    have eb := Nat.eq_of_beq_eq_true hb
    obtain ⟨c, hc⟩ := List.mem_iff_getElem?.mp he
    have a := e3 c e hc
    have b := e3' c e hc
    rw [eb] at a b
    exact ⟨a.2.1.trans b.2.1.symm, a.2.2.trans b.2.2.symm⟩
def F7 (w w' : xW) : Prop := w'.2 = w.2 ∧ ∀ q, q ≠ 2 → q < 34 ∨ 41 < q → w'.1 q = w.1 q
theorem F7.tr {a b c : xW} (h : F7 a b) (g : F7 b c) : F7 a c := ⟨g.1.trans h.1, fun q h1 h2 => (g.2 q h1 h2).trans (h.2 q h1 h2)⟩
theorem F7.inv {w' : xW} (h : Inv w) (g : F7 w w') (hk : HOK w') : Inv w' := by
  have f : Fr w w' := ⟨fun q k hs => by rw [g.2 q (by unfold Sc at hs; omega) (by unfold Sc at hs; omega)], fun q _ => by rw [g.1]⟩
  refine ⟨f.Core h.1, ?_, hk⟩
  have ht := h.2.1
  unfold TOK at ht ⊢
  rw [g.2 55 (by omega) (by omega), g.2 56 (by omega) (by omega), g.2 61 (by omega) (by omega), g.2 62 (by omega) (by omega)]
  exact ht
theorem find_loop7 (hN : 20000 ≤ N) (hw : WFt r) (hm : m ≤ 6) (hW : ∀ s, s < m → WFs r s) (hT : IsT w r) (hD : ∀ s, s < m → SD w r s) (h16 : w.1 1 6 = iZ (m : Nat)) : ∀ (j n i : Nat) (u : xW), j < n → i + j = m → F7 w u → (∀ c, c < i → u.1 38 c = iZ (shM r c + al r c)) → ∃ w', fX0_find_12 N n u (iZ (rest r [] i)) (iZ (i : Nat)) = some (sI w' 34 0 1) ∧ F7 w w' ∧ BS (iZ 5761) (srch r m 8 [] 0 none) (w'.1 34 1) (w'.1 35) (w'.1 36) (w'.1 37)
  | _, 0, _, _, hn, _, _, _ => absurd hn (by omega)
  | j, n + 1, i, u, hn, hi, hF, h38 => by
    have u16 : u.1 1 6 = iZ (m : Nat) := by rw [hF.2 1 (by omega) (by omega)]; exact h16
    have uT : IsT u r := by
      unfold IsT
      rw [hF.2 3 (by omega) (by omega), hF.2 4 (by omega) (by omega)]
      exact hT
    have uD : ∀ s, s < m → SD u r s := by
      unfold SD
      rw [hF.2 7 (by omega) (by omega), hF.2 8 (by omega) (by omega), hF.2 9 (by omega) (by omega), hF.2 10 (by omega) (by omega)]
      exact hD
    rw [fX0_find_12]
    unfold fX0_find_12b
    rw [u16]
    rcases Nat.lt_or_ge i m with q | q
    · obtain ⟨-, i5, i6⟩ := ix_s i (by omega)
      have hWi := hW i q
      obtain ⟨-, ⟨m0, m9⟩, -⟩ := hWi
      obtain ⟨M, hM⟩ : ∃ M : Nat, shM r i = (M : Int) := ⟨(shM r i).toNat, by omega⟩
      obtain ⟨w1, b1, b2⟩ := berth_eq hN uT hw (s := i) (by omega) (uD i q) (hW i q) (t := M) (by omega) (by omega)
      have g := gos_fB (r := r) hM 960 (Nat.le_refl _)
      rw [show (shM r i).toNat = M by omega, show M + 960 - M = 960 by omega, ← g] at b1
      rw [if_neg (by rw [iZ_le (by omega) (by omega) (by omega) (by omega)]; omega), if_pos i5, i6, (uD i q).2.1, hM, b1, Option.bind_some]
      show ∃ w', fX0_find_12 N n (sI w1 38 i (iZ ((M : Int) + (gos r [] i 960).1))) (iZ (rest r [] i) + ((sI w1 38 i (iZ ((M : Int) + (gos r [] i 960).1))).1 38 i - (sI w1 38 i (iZ ((M : Int) + (gos r [] i 960).1))).1 8 i)) (iZ (i : Nat) + 1) = _ ∧ _
      rw [sI_r, if_pos ⟨rfl, rfl⟩, sI_ne1 (by omega), b2.2 8 (by omega), (uD i q).2.1, hM, iZ_sub, iZ_add, iZ_s1, show rest r [] i + ((M : Int) + (gos r [] i 960).1 - M) = rest r [] (i + 1) by
        have e : rest r [] (i + 1) = rest r [] i + al r i := rfl
        rw [e]
        unfold al
        omega]
      refine find_loop7 hN hw hm hW hT hD h16 (j - 1) n (i + 1) _ (by omega) (by omega) (hF.tr ⟨b2.1, fun q h1 h2 => by rw [sI_ne1 (by omega)]; exact b2.2 q h1⟩) (fun c hc => ?_)
      rw [sI_r]
      by_cases z : c = i
      · rw [if_pos ⟨rfl, z⟩, z, hM]
        rfl
      · rw [if_neg (by omega), b2.2 38 (by omega)]
        exact h38 c (by omega)
    · obtain rfl : i = m := by omega
      rw [if_pos (by rw [iZ_le (by omega) (by omega) (by omega) (by omega)]; omega)]
      have st : St7 [] none (sI (sI u 34 1 5761) 34 9 0) (sI (sI u 34 1 5761) 34 9 0) := by
        refine ⟨S7.rf, fun i e he => (by cases he), ⟨0, by omega, ?_, fun s _ => ?_⟩, Or.inl ⟨rfl, ?_⟩⟩
        · rw [sI_r, if_pos ⟨rfl, rfl⟩]
          rfl
        · rw [Nat.zero_testBit]
          rfl
        · rw [sI_r, if_neg (by omega), sI_r, if_pos ⟨rfl, rfl⟩]
          rfl
      have ne : ∀ q, q ≠ 34 → (sI (sI u 34 1 5761) 34 9 0).1 q = u.1 q := fun q hq => by rw [sI_ne1 hq, sI_ne1 hq]
      have Sh : Sh7 r i (sI (sI u 34 1 5761) 34 9 0) := by
        refine ⟨hw, hm, by rw [ne 1 (by omega)]; exact u16, ?_, ?_, hW, by rw [ne 38 (by omega)]; exact h38⟩
        · unfold IsT
          rw [ne 3 (by omega), ne 4 (by omega)]
          exact uT
        · unfold SD
          rw [ne 7 (by omega), ne 8 (by omega), ne 9 (by omega), ne 10 (by omega)]
          exact uD
      obtain ⟨w', s1, s2, s3, s4, s5⟩ := search7 hN Sh 8 [] 0 none _ rfl Nd.nil st
      have s1' : fX0_search N 8 (sI (sI u 34 1 5761) 34 9 0) 0 0 (iZ (rest r [] i)) = some w' := s1
      rw [s1', Option.bind_some]
      refine ⟨w', rfl, hF.tr ⟨s2.1, fun q h1 h2 => ?_⟩, s5⟩
      rw [s2.2 q h1 (by omega), ne q (by omega)]
theorem BS.ok {z ls : Int32} {od wa fo : Nat → Int32} (hm : m < 8) (h10 : (r 10).toInt.toNat = m) (h : BS z (srch r m 8 [] 0 none) ls od wa fo) : BestOK r ls od wa fo := by
  rcases h with ⟨h, -⟩ | ⟨B, l, h1, -, h2, h3⟩
  · obtain ⟨B, l, g, -⟩ := best_get (r := r) hm
    rw [g] at h
    cases h
  · unfold BestOK
    rw [h10]
    exact ⟨B, l, h1, h2, h3⟩
theorem find7 (hN : 20000 ≤ N) (h : Inv w) : ∃ w', fX0_find N w = some w' ∧ Inv w' ∧ w'.1 56 = w.1 56 ∧ BestOK (w.1 56) (w'.1 34 1) (w'.1 35) (w'.1 36) (w'.1 37) := by
  unfold fX0_find fX0_find_0
  obtain ⟨m, hm, m6, h16⟩ := cnt6 h
  have h10 : (w.1 56 10).toInt.toNat = m := by rw [hm, iZ_toInt (by omega) (by omega)]; omega
  have lt : ∀ s, s < m → (s : Int) < (w.1 56 10).toInt := fun s hs => by rw [hm, iZ_toInt (by omega) (by omega)]; omega
  by_cases z : w.1 34 0 = 0
  · rw [if_pos z]
    obtain ⟨w', p1, p2, p3⟩ := find_loop7 hN h.wt m6 (fun s hs => (sdata h (lt s hs)).2) h.ist (fun s hs => (sdata h (lt s hs)).1) h16 m N 0 w (by omega) (by omega) ⟨rfl, fun _ _ _ => rfl⟩ (fun c hc => absurd hc (by omega))
    have hb := p3.ok (by omega) h10
    have e56 : (sI w' 34 0 1).1 56 = w.1 56 := by rw [sI_ne1 (by omega), p2.2 56 (by omega) (by omega)]
    have hb' : BestOK (w.1 56) ((sI w' 34 0 1).1 34 1) ((sI w' 34 0 1).1 35) ((sI w' 34 0 1).1 36) ((sI w' 34 0 1).1 37) := by
      rw [sI_r, if_neg (by omega), sI_ne1 (by omega), sI_ne1 (by omega), sI_ne1 (by omega)]
      exact hb
    refine ⟨_, p1, F7.inv h (p2.tr ⟨rfl, fun q _ h2 => sI_ne1 (by omega)⟩) (Or.inr ⟨?_, ?_⟩), e56, hb'⟩
    · rw [sI_r, if_pos ⟨rfl, rfl⟩]
    · rw [e56]
      exact hb'
  · rw [if_neg z]
    refine ⟨w, rfl, h, rfl, ?_⟩
    rcases h.2.2 with q | q
    · exact absurd q z
    · exact q.2
theorem find8 (hN : 20000 ≤ N) (h : Inv w) : ∃ w', fX8_findOrder N w = some w' ∧ Inv w' ∧ w'.1 56 = w.1 56 ∧ BestOK (w.1 56) (w'.1 55 16) (w'.1 65) (w'.1 68) (w'.1 69) := by
  unfold fX8_findOrder fX8_findOrder_0
  obtain ⟨m, hm, m6, h16⟩ := cnt6 h
  have h10 : (w.1 56 10).toInt.toNat = m := by rw [hm, iZ_toInt (by omega) (by omega)]; omega
  have lt : ∀ s, s < m → (s : Int) < (w.1 56 10).toInt := fun s hs => by rw [hm, iZ_toInt (by omega) (by omega)]; omega
  have e56 : (sI w 55 16 (-1)).1 56 = w.1 56 := sI_ne1 (by omega)
  have st : St8 (w.1 56) [] none (sI w 55 16 (-1)) (sI w 55 16 (-1)) := by
    refine ⟨R9.rf, h.2.1.keep ?_ e56 (sI_ne1 (by omega)) (sI_ne1 (by omega)), fun i e he => (by cases he), Or.inl ⟨rfl, ?_⟩⟩
    · rw [sI_r, if_neg (by omega)]
    · rw [sI_r, if_pos ⟨rfl, rfl⟩]
      rfl
  have bt0 : BT 0 [] := ⟨0, by omega, rfl, fun s _ => by rw [Nat.zero_testBit]; rfl⟩
  obtain ⟨w', p1, p2, p3, p4, p5⟩ := tries8 hN h.wt m6 (fun s hs => (sdata h (lt s hs)).2) hm e56 8 [] 0 0 none _ rfl Nd.nil bt0 st
  have p1' : fX8_tries N 8 (sI w 55 16 (-1)) 0 0 0 = some w' := p1
  rw [p1', Option.bind_some]
  have r9 : R9 w w' := R9.s16.tr p2
  have f : Fr w w' := ⟨fun q k hs => r9.2 q k (by unfold Sc at hs; omega) (by unfold Sc at hs; omega), fun q _ => by rw [r9.1]⟩
  have row : ∀ q, ¬ (61 ≤ q ∧ q ≤ 69) → q ≠ 55 → w'.1 q = w.1 q := fun q h1 h2 => funext fun k => r9.2 q k h1 (by omega)
  refine ⟨w', rfl, ⟨f.Core h.1, p3, ?_⟩, r9.row, p5.ok (by omega) h10⟩
  have hk := h.2.2
  unfold HOK at hk ⊢
  rw [row 34 (by omega) (by omega), row 56 (by omega) (by omega), row 35 (by omega) (by omega), row 36 (by omega) (by omega), row 37 (by omega) (by omega)]
  exact hk
theorem lohi4 {α : Type} {A B : α} (x lo hi h1 : Int32) (e : h1.toInt = hi.toInt - 1) : (if x < lo then A else if x < hi then B else A) = if dR lo h1 x = true then B else A := by
  unfold dR
  by_cases a : x < lo
  · rw [if_pos a, if_neg]
    rw [Int32.lt_iff_toInt_lt] at a
    rw [decide_eq_true_eq]
    omega
  · rw [if_neg a]
    rw [Int32.lt_iff_toInt_lt] at a
    by_cases b : x < hi
    · rw [if_pos b, if_pos]
      rw [Int32.lt_iff_toInt_lt] at b
      rw [decide_eq_true_eq]
      omega
    · rw [if_neg b, if_neg]
      rw [Int32.lt_iff_toInt_lt] at b
      rw [decide_eq_true_eq]
      omega
theorem ltD {α : Type} {A B : α} (x y : Int32) : (if x < y then A else B) = if decide (x.toInt < y.toInt) = true then A else B := by
  by_cases a : x < y
  · rw [if_pos a, if_pos (decide_eq_true (Int32.lt_iff_toInt_lt.mp a))]
  · rw [if_neg a, if_neg (fun q => a (Int32.lt_iff_toInt_lt.mpr (of_decide_eq_true q)))]
theorem e_order7 (h : Inv w) (x : Int32) : fX7_order N w x = if dR (-1) 5 x = true then (if decide (x.toInt < (w.1 56 10).toInt) = true then ((fX0_find N w).bind fun z1 => if x = (-1) then some (z1, z1.1 34 1) else if ibd x 6 = true then some (z1, z1.1 35 x.toNatClampNeg) else none) else fX7_refuse w (cd 3)) else fX7_refuse w (cd 0) := by
  obtain ⟨m, hm, m6, h16⟩ := cnt6 h
  unfold fX7_order fX7_order_0 fX7_order_11
  simp only [bind_id, c_0, c_3]
  rw [lohi4 x (-1) 6 5 rfl, ltD, h16, hm]
theorem e_order8 (x : Int32) : fX8_order N w x = if dR (-1) 5 x = true then (if decide (x.toInt < (w.1 56 10).toInt) = true then ((fX8_findOrder N w).bind fun z1 => if 0 ≤ x then if ibd x 6 = true then some (z1, z1.1 65 x.toNatClampNeg) else none else some (z1, z1.1 55 16)) else fX8_finding w (cd 3)) else fX8_finding w (cd 0) := by
  unfold fX8_order fX8_order_0
  simp only [bind_id, c_0, c_3]
  rw [win8, ltD]
  cases dR (-1) 5 x <;> rfl
theorem P_order (hN : 20000 ≤ N) (h : Inv w) (x : Int32) : Both (fun w => fX7_order N w x) (fun w => fX8_order N w x) w := by
  refine Both.guard h (dR (-1) 5 x) 0 (by omega) (fun q => by show fX7_order N w x = _; rw [e_order7 h, q, if_neg (by decide)]) (fun q => by show fX8_order N _ x = _; rw [e_order8, q, if_neg (by decide)]) (fun q => ?_)
  refine Both.guard h (decide (x.toInt < (w.1 56 10).toInt)) 3 (by omega) (fun p => by show fX7_order N w x = _; rw [e_order7 h, q, if_pos rfl, p, if_neg (by decide)]) (fun p => by show fX8_order N _ x = _; rw [e_order8, q, if_pos rfl, RF_r w 3 (by omega), p, if_neg (by decide)]) (fun p => ?_)
  obtain ⟨m, hm, m6, h16⟩ := cnt6 h
  have h10 : (w.1 56 10).toInt.toNat = m := by rw [hm, iZ_toInt (by omega) (by omega)]; omega
  obtain ⟨w1, a1, a2, a3, a4⟩ := find7 hN h
  obtain ⟨w2, b1, b2, b3, b4⟩ := find8 hN a2
  rw [a3] at b4
  obtain ⟨d1, d2⟩ := BestOK.det (by omega) h10 a4 b4
  have p' := of_decide_eq_true p
  rw [hm, iZ_toInt (by omega) (by omega)] at p'
  have q' := dR_iff.mp q
  have A : fX7_order N w x = if x = (-1) then some (w1, w1.1 34 1) else if ibd x 6 = true then some (w1, w1.1 35 x.toNatClampNeg) else none := by
    rw [e_order7 h, q, if_pos rfl, p, if_pos rfl, a1, Option.bind_some]
  have Bq : fX8_order N w1 x = if 0 ≤ x then if ibd x 6 = true then some (w2, w2.1 65 x.toNatClampNeg) else none else some (w2, w2.1 55 16) := by
    rw [e_order8, q, if_pos rfl, a3, p, if_pos rfl, b1, Option.bind_some]
  have lo : (-1 : Int32).toInt = -1 := rfl
  rw [lo] at q'
  by_cases z : x = -1
  · refine Both.act w1 w2 (w1.1 34 1) (w2.1 55 16) ?_ ?_ d1.symm b2
    · show fX7_order N w x = _
      rw [A, if_pos z]
    · show fX8_order N w1 x = _
      rw [Bq, if_neg (by rw [z]; decide)]
  · have x0 : 0 ≤ x.toInt := by
      rcases Int.lt_or_le x.toInt 0 with y | y
      · exact absurd (Int32.toInt_inj.mp (show x.toInt = (-1 : Int32).toInt by rw [lo]; omega)) z
      · exact y
    obtain ⟨n, hn, nb⟩ : ∃ n : Nat, x = iZ (n : Nat) ∧ n < m := ⟨x.toInt.toNat, by rw [Int.toNat_of_nonneg x0, iZ_self], by omega⟩
    subst hn
    obtain ⟨-, i5, i6⟩ := ix_s n (by omega)
    refine Both.act w1 w2 (w1.1 35 n) (w2.1 65 n) ?_ ?_ (d2 n nb).1.symm b2
    · show fX7_order N w (iZ (n : Nat)) = _
      rw [A, if_neg z, if_pos i5, i6]
    · show fX8_order N w1 (iZ (n : Nat)) = _
      rw [Bq, if_pos (by rw [show (0 : Int32) = iZ 0 from rfl, iZ_le (by omega) (by omega) (by omega) (by omega)]; omega), if_pos i5, i6]
theorem e_waits7 (h : Inv w) (x y : Int32) : fX7_waits N w x y = if (dShip (w.1 56) x && dR 0 1 y) = true then ((fX0_find N w).bind fun z1 => if y = 0 then if ibd x 6 = true then some (z1, z1.1 36 x.toNatClampNeg) else none else if ibd x 6 = true then some (z1, z1.1 37 x.toNatClampNeg) else none) else fX7_refuse w (cd 0) := by
  unfold fX7_waits fX7_waits_0 fX7_waits_17
  rw [ship7 h, lohi1 y, bind_id, c_0]
  cases dShip (w.1 56) x <;> cases dR 0 1 y <;> rfl
theorem e_waits8 (hw : WFr (w.1 56)) (x y : Int32) : fX8_waits N w x y = if (dShip (w.1 56) x && dR 0 1 y) = true then ((fX8_findOrder N w).bind fun z1 => if y = 0 then if ibd x 6 = true then some (z1, z1.1 68 x.toNatClampNeg) else none else if ibd x 6 = true then some (z1, z1.1 69 x.toNatClampNeg) else none) else fX8_finding w (cd 0) := by
  unfold fX8_waits fX8_waits_0 fX8_waits_17
  rw [ship8 hw, win8, bind_id, c_0]
  cases dShip (w.1 56) x <;> cases dR 0 1 y <;> rfl
theorem P_waits (hN : 20000 ≤ N) (h : Inv w) (x y : Int32) : Both (fun w => fX7_waits N w x y) (fun w => fX8_waits N w x y) w := by
  refine Both.guard h (dShip (w.1 56) x && dR 0 1 y) 0 (by omega) (fun q => by show fX7_waits N w x y = _; rw [e_waits7 h, q, if_neg (by decide)]) (fun q => by show fX8_waits N _ x y = _; rw [e_waits8 (wrRF h 0), RF_r w 0 (by omega), q, if_neg (by decide)]) (fun q => ?_)
  obtain ⟨q1, q2⟩ := Bool.and_eq_true_iff.mp q
  obtain ⟨s, rfl, s6, nh⟩ := dShip_of h.1.1.2 q1
  obtain ⟨-, i5, i6⟩ := ix_s s s6
  obtain ⟨m, hm, m6, h16⟩ := cnt6 h
  have h10 : (w.1 56 10).toInt.toNat = m := by rw [hm, iZ_toInt (by omega) (by omega)]; omega
  have sm : s < m := by rw [hm, iZ_toInt (by omega) (by omega)] at nh; omega
  obtain ⟨w1, a1, a2, a3, a4⟩ := find7 hN h
  obtain ⟨w2, b1, b2, b3, b4⟩ := find8 hN a2
  rw [a3] at b4
  obtain ⟨d1, d2⟩ := BestOK.det (by omega) h10 a4 b4
  have A : fX7_waits N w (iZ s) y = if y = 0 then some (w1, w1.1 36 s) else some (w1, w1.1 37 s) := by
    rw [e_waits7 h, q, if_pos rfl, a1, Option.bind_some, if_pos i5, if_pos i5, i6]
  have Bq : fX8_waits N w1 (iZ s) y = if y = 0 then some (w2, w2.1 68 s) else some (w2, w2.1 69 s) := by
    rw [e_waits8 a2.1.1.2, a3, q, if_pos rfl, b1, Option.bind_some, if_pos i5, if_pos i5, i6]
  by_cases z : y = 0
  · refine Both.act w1 w2 (w1.1 36 s) (w2.1 68 s) ?_ ?_ (d2 s sm).2.1.symm b2
    · show fX7_waits N w (iZ s) y = _
      rw [A, if_pos z]
    · show fX8_waits N w1 (iZ s) y = _
      rw [Bq, if_pos z]
  · refine Both.act w1 w2 (w1.1 37 s) (w2.1 69 s) ?_ ?_ (d2 s sm).2.2.symm b2
    · show fX7_waits N w (iZ s) y = _
      rw [A, if_neg z]
    · show fX8_waits N w1 (iZ s) y = _
      rw [Bq, if_neg z]
end ORDER
