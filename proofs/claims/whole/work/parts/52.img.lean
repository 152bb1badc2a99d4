/-! images -/
section IMG
variable {w : xW} {N : Nat}
theorem cpy_in {α : Type} (f g : Nat → α) (n : Int32) {i : Nat} (h : i < n.toNatClampNeg) : va_cpy f g (Int32.toNatClampNeg 0) (Int32.toNatClampNeg 0) (Int32.toNatClampNeg n) i = f i := by
  unfold va_cpy
  rw [show Int32.toNatClampNeg 0 = 0 by decide, if_pos (by omega), Nat.zero_add, Nat.sub_zero]
theorem WFr.c {r r' : Nat → Int32} (h : WFr r) (e : ∀ j, j < 51 → r' j = r j) : WFr r' := by
  have hb := h.b
  have b9 := h.2.2.2.1
  have b10 := h.2.2.2.2.1
  have bh := h.2.2.2.2.2.1
  have bs := h.2.2.2.2.2.2
  have hb' : ∀ j, j < 9 → bnd j (r' j) := fun j hj => by rw [e j (by omega)]; exact hb j hj
  refine ⟨⟨hb' 0 (by omega), hb' 1 (by omega), hb' 2 (by omega), hb' 3 (by omega), hb' 4 (by omega), hb' 5 (by omega), hb' 6 (by omega)⟩, hb' 7 (by omega), hb' 8 (by omega), ?_, ?_, ?_, ?_⟩
  · rw [e 9 (by omega)]; exact b9
  · rw [e 10 (by omega)]; exact b10
  · intro n hn
    rw [e 9 (by omega)] at hn
    rw [e _ (by omega), e _ (by omega)]
    exact bh n hn
  · intro n hn
    rw [e 10 (by omega)] at hn
    unfold shC shM shS shQ
    rw [e _ (by omega), e _ (by omega), e _ (by omega), e _ (by omega)]
    exact bs n hn
/-- the Isle at q copied to p, its row to r' -/
theorem IsR.c {w w2 : xW} {p q : Nat} {r r' : Nat → Int32} (h : IsR w q r) (hw : WFr r) (e : ∀ j, j < 51 → r' j = r j) (h0 : ∀ i, i < 4 → w2.1 (p + 2) i = w.1 (q + 2) i) (h1 : ∀ i, i < 3 → w2.1 (p + 3) i = w.1 (q + 3) i) (h2 : w2.1 p 1 = w.1 q 1) (h3 : w2.1 p 2 = w.1 q 2) (h4 : w2.1 p 3 = w.1 q 3) (h5 : w2.1 p 6 = w.1 q 6) (h6 : ∀ i, i < 8 → w2.1 (p + 4) i = w.1 (q + 4) i ∧ w2.1 (p + 5) i = w.1 (q + 5) i) (h7 : ∀ i, i < 6 → w2.1 (p + 6) i = w.1 (q + 6) i ∧ w2.1 (p + 7) i = w.1 (q + 7) i ∧ w2.1 (p + 8) i = w.1 (q + 8) i ∧ w2.1 (p + 9) i = w.1 (q + 9) i) : IsR w2 p r' := by
  have b9 := hw.2.2.2.1
  have b10 := hw.2.2.2.2.1
  obtain ⟨g0, g1, g2, g3, g4, g5, g6, g7⟩ := h
  refine ⟨fun i hi => by rw [h0 i hi, g0 i hi, e _ (by omega)], fun i hi => by rw [h1 i hi, g1 i hi, e _ (by omega)], by rw [h2, g2, e _ (by omega)], by rw [h3, g3, e _ (by omega)], by rw [h4, g4, e _ (by omega)], by rw [h5, g5, e _ (by omega)], fun n hn => ?_, fun n hn => ?_⟩
  · rw [e 9 (by omega)] at hn
    rw [(h6 n (by omega)).1, (h6 n (by omega)).2, e _ (by omega), e _ (by omega)]
    exact g6 n hn
  · rw [e 10 (by omega)] at hn
    rw [(h7 n (by omega)).1, (h7 n (by omega)).2.1, (h7 n (by omega)).2.2.1, (h7 n (by omega)).2.2.2, e _ (by omega), e _ (by omega), e _ (by omega), e _ (by omega)]
    exact g7 n hn
theorem Inv.kept {w2 : xW} (h : Inv w) (e1 : ∀ q k, ¬ (q = 0 ∧ k = 3) → ¬ (21 ≤ q ∧ q ≤ 30) → q ≠ 57 → ¬ (q = 55 ∧ k = 2) → w2.1 q k = w.1 q k) (e2 : w2.2 = w.2) (hK : KeptOK w2) : Inv w2 := by
  have row : ∀ q, q ≠ 0 → ¬ (21 ≤ q ∧ q ≤ 30) → q ≠ 57 → q ≠ 55 → w2.1 q = w.1 q := fun q g1 g2 g3 g4 => funext fun k => e1 q k (by omega) g2 g3 (by omega)
  obtain ⟨⟨⟨c1, c2⟩, c3, c6, c7, c8, c9⟩, t, hk⟩ := h
  refine ⟨⟨⟨?_, by rw [row 56 (by omega) (by omega) (by omega) (by omega)]; exact c2⟩, hK, ?_, ?_, ?_, ?_⟩, ?_, ?_⟩
  · rw [row 56 (by omega) (by omega) (by omega) (by omega)]
    have er : ∀ j, j < 10 → w2.1 (1 + j) = w.1 (1 + j) := fun j hj => row _ (by omega) (by omega) (by omega) (by omega)
    have e0 := er 0 (by omega)
    rw [Nat.add_zero] at e0
    unfold IsR
    rw [er 2 (by omega), er 3 (by omega), er 4 (by omega), er 5 (by omega), er 6 (by omega), er 7 (by omega), er 8 (by omega), er 9 (by omega), e0]
    exact c1
  · unfold FoundOK
    rw [row 46 (by omega) (by omega) (by omega) (by omega), row 58 (by omega) (by omega) (by omega) (by omega)]
    exact c6
  · unfold TapeOK
    rw [row 42 (by omega) (by omega) (by omega) (by omega), e1 55 18 (by omega) (by omega) (by omega) (by omega), row 43 (by omega) (by omega) (by omega) (by omega), row 70 (by omega) (by omega) (by omega) (by omega)]
    exact c7
  · intro k hk'
    rw [row (47 + 2 * k) (by omega) (by omega) (by omega) (by omega), row 74 (by omega) (by omega) (by omega) (by omega), row 75 (by omega) (by omega) (by omega) (by omega), e2]
    exact c8 k hk'
  · unfold TabOK
    rw [row 59 (by omega) (by omega) (by omega) (by omega), row 60 (by omega) (by omega) (by omega) (by omega)]
    exact c9
  · unfold TOK at t ⊢
    rw [e1 55 8 (by omega) (by omega) (by omega) (by omega), row 56 (by omega) (by omega) (by omega) (by omega), row 61 (by omega) (by omega) (by omega) (by omega), row 62 (by omega) (by omega) (by omega) (by omega)]
    exact t
  · unfold HOK at hk ⊢
    rw [row 34 (by omega) (by omega) (by omega) (by omega), row 56 (by omega) (by omega) (by omega) (by omega), row 35 (by omega) (by omega) (by omega) (by omega), row 36 (by omega) (by omega) (by omega) (by omega), row 37 (by omega) (by omega) (by omega) (by omega)]
    exact hk
theorem P_tear (h : Inv w) : Both (fun w => some (fX7_tear w)) (fun w => some (fX8_tear w)) w := by
  obtain ⟨k1, k2, k3⟩ := h.1.2.1
  have r1 : (sI w 0 3 0).1 55 2 = w.1 55 2 := by rw [sI_r, if_neg (by omega)]
  have fin : Inv (sI (sI w 0 3 0) 55 2 0) := by
    refine h.kept (fun q k g1 g2 g3 g4 => by rw [sI_r, if_neg g4, sI_r, if_neg g1]) rfl ⟨?_, ?_, fun q => ?_⟩
    · simp [sI_r]
    · simp [sI_r]
    · rw [sI_r, if_pos ⟨rfl, rfl⟩] at q
      exact absurd q (by decide)
  by_cases z : w.1 55 2 = 0
  · refine Both.act (sI w 0 3 0) (sI (sI w 0 3 0) 55 2 0) 0 0 ?_ ?_ rfl fin
    · show some (fX7_tear w) = _
      unfold fX7_tear fX7_tear_0 fX7_tear_12
      rw [k1, if_pos z]
    · show some (fX8_tear _) = _
      unfold fX8_tear fX8_tear_0 fX8_tear_12
      rw [r1, if_pos z]
  · refine Both.act (sI w 0 3 0) (sI (sI w 0 3 0) 55 2 0) 1 1 ?_ ?_ rfl fin
    · show some (fX7_tear w) = _
      unfold fX7_tear fX7_tear_0 fX7_tear_12
      rw [k1, if_neg z]
    · show some (fX8_tear _) = _
      unfold fX8_tear fX8_tear_0 fX8_tear_12
      rw [r1, if_neg z]
theorem row_loop : ∀ (j m i : Nat) (u : xW), j < m → i + j = 51 → ∃ u', fX8_copyRow_2 N m u (iZ (i : Int)) = some u' ∧ u'.2 = u.2 ∧ (∀ q, q ≠ 57 → u'.1 q = u.1 q) ∧ (∀ c, i ≤ c → c < 51 → u'.1 57 c = u.1 56 c) ∧ ∀ c, c < i → u'.1 57 c = u.1 57 c
  | _, 0, _, _, hm, _ => absurd hm (by omega)
  | 0, m + 1, i, u, _, hi => by
    obtain rfl : i = 51 := by omega
    rw [fX8_copyRow_2]
    unfold fX8_copyRow_2b
    rw [if_pos (show (51 : Int32) ≤ iZ ((51 : Nat) : Int) by decide)]
    exact ⟨u, rfl, rfl, fun _ _ => rfl, fun c g1 g2 => absurd g1 (by omega), fun _ _ => rfl⟩
  | j + 1, m + 1, i, u, hm, hi => by
    rw [fX8_copyRow_2]
    unfold fX8_copyRow_2b
    rw [if_neg (by rw [show (51 : Int32) = iZ 51 from rfl, iZ_le (by omega) (by omega) (by omega) (by omega)]; omega), if_pos ((ibd_iZ (by omega) (by omega)).mpr (by omega)), iZ_clamp (by omega) (by omega), Int.toNat_natCast, iZ_s1]
    obtain ⟨u', p1, p2, p3, p4, p5⟩ := row_loop j m (i + 1) (sI u 57 i (u.1 56 i)) (by omega) (by omega)
    have row : ∀ q, q ≠ 57 → (sI u 57 i (u.1 56 i)).1 q = u.1 q := fun q g => funext fun k => by rw [sI_r, if_neg (by omega)]
    refine ⟨u', p1, p2, fun q g => (p3 q g).trans (row q g), fun c g1 g2 => ?_, fun c g => ?_⟩
    · rcases Nat.lt_or_ge i c with z | z
      · rw [p4 c (by omega) g2, row 56 (by omega)]
      · obtain rfl : c = i := by omega
        rw [p5 c (by omega), sI_r, if_pos ⟨rfl, rfl⟩]
    · rw [p5 c (by omega), sI_r, if_neg (by omega)]
theorem row_loop1 : ∀ (j m i : Nat) (u : xW), j < m → i + j = 51 → ∃ u', fX8_copyRow_i1_2 N m u (iZ (i : Int)) = some u' ∧ u'.2 = u.2 ∧ (∀ q, q ≠ 56 → u'.1 q = u.1 q) ∧ (∀ c, i ≤ c → c < 51 → u'.1 56 c = u.1 57 c) ∧ ∀ c, c < i → u'.1 56 c = u.1 56 c
  | _, 0, _, _, hm, _ => absurd hm (by omega)
  | 0, m + 1, i, u, _, hi => by
    obtain rfl : i = 51 := by omega
    rw [fX8_copyRow_i1_2]
    unfold fX8_copyRow_i1_2b
    rw [if_pos (show (51 : Int32) ≤ iZ ((51 : Nat) : Int) by decide)]
    exact ⟨u, rfl, rfl, fun _ _ => rfl, fun c g1 g2 => absurd g1 (by omega), fun _ _ => rfl⟩
  | j + 1, m + 1, i, u, hm, hi => by
    rw [fX8_copyRow_i1_2]
    unfold fX8_copyRow_i1_2b
    rw [if_neg (by rw [show (51 : Int32) = iZ 51 from rfl, iZ_le (by omega) (by omega) (by omega) (by omega)]; omega), if_pos ((ibd_iZ (by omega) (by omega)).mpr (by omega)), iZ_clamp (by omega) (by omega), Int.toNat_natCast, iZ_s1]
    obtain ⟨u', p1, p2, p3, p4, p5⟩ := row_loop1 j m (i + 1) (sI u 56 i (u.1 57 i)) (by omega) (by omega)
    have row : ∀ q, q ≠ 56 → (sI u 56 i (u.1 57 i)).1 q = u.1 q := fun q g => funext fun k => by rw [sI_r, if_neg (by omega)]
    refine ⟨u', p1, p2, fun q g => (p3 q g).trans (row q g), fun c g1 g2 => ?_, fun c g => ?_⟩
    · rcases Nat.lt_or_ge i c with z | z
      · rw [p4 c (by omega) g2, row 57 (by omega)]
      · obtain rfl : c = i := by omega
        rw [p5 c (by omega), sI_r, if_pos ⟨rfl, rfl⟩]
    · rw [p5 c (by omega), sI_r, if_neg (by omega)]
theorem b2_row {q : Nat} (hq : ¬ (21 ≤ q ∧ q ≤ 30)) : (fX1_become_i2 w).1 q = w.1 q := by
  funext k
  have h21 : ¬ q = 21 := by omega
  have h23 : ¬ q = 23 := by omega
  have h24 : ¬ q = 24 := by omega
  have h25 : ¬ q = 25 := by omega
  have h26 : ¬ q = 26 := by omega
  have h27 : ¬ q = 27 := by omega
  have h28 : ¬ q = 28 := by omega
  have h29 : ¬ q = 29 := by omega
  have h30 : ¬ q = 30 := by omega
  simp [fX1_become_i2, fX1_become_i2_0, fX1_become_i2_35, fX1_become_i2_65, fX1_become_i2_103, fX1_become_i2_133, fX6_become_i2, fX6_become_i2_0, fX6_become_i2_32, sA_r, sI_r, h21, h23, h24, h25, h26, h27, h28, h29, h30]
theorem b3_row {q : Nat} (hq : ¬ (q = 1 ∨ (3 ≤ q ∧ q ≤ 10))) : (fX1_become_i3 w).1 q = w.1 q := by
  funext k
  have h1 : ¬ q = 1 := by omega
  have h3 : ¬ q = 3 := by omega
  have h4 : ¬ q = 4 := by omega
  have h5 : ¬ q = 5 := by omega
  have h6 : ¬ q = 6 := by omega
  have h7 : ¬ q = 7 := by omega
  have h8 : ¬ q = 8 := by omega
  have h9 : ¬ q = 9 := by omega
  have h10 : ¬ q = 10 := by omega
  simp [fX1_become_i3, fX1_become_i3_0, fX1_become_i3_35, fX1_become_i3_65, fX1_become_i3_103, fX1_become_i3_133, fX6_become_i3, fX6_become_i3_0, fX6_become_i3_32, sA_r, sI_r, h1, h3, h4, h5, h6, h7, h8, h9, h10]
theorem P_image (hN : 20000 ≤ N) (h : Inv w) : Both (fun w => some (fX7_image w)) (fun w => fX8_image N w) w := by
  obtain ⟨u, p1, p2, p3, p4, -⟩ := row_loop (N := N) 51 N 0 (sI (fX1_become_i2 w) 0 3 1) (by omega) (by omega)
  have hh := h.1.1
  have c0 : ∀ q k, ¬ (q = 0 ∧ k = 3) → ¬ (21 ≤ q ∧ q ≤ 30) → (sI (fX1_become_i2 w) 0 3 1).1 q k = w.1 q k := fun q k g1 g2 => by rw [sI_r, if_neg g1, b2_row g2]
  have c1 : ∀ q k, ¬ (q = 0 ∧ k = 3) → (sI (fX1_become_i2 w) 0 3 1).1 q k = (fX1_become_i2 w).1 q k := fun q k g1 => by rw [sI_r, if_neg g1]
  have d0 : ∀ q k, q ≠ 57 → ¬ (q = 55 ∧ k = 2) → (sI u 55 2 1).1 q k = (sI (fX1_become_i2 w) 0 3 1).1 q k := fun q k g1 g2 => by rw [sI_r, if_neg g2, p3 q g1]
  have d1 : ∀ q k, 21 ≤ q → q ≤ 30 → (sI u 55 2 1).1 q k = (fX1_become_i2 w).1 q k := fun q k g1 g2 => by rw [d0 q k (by omega) (by omega), c1 q k (by omega)]
  have e57 : ∀ j, j < 51 → (sI u 55 2 1).1 57 j = w.1 56 j := fun j hj => by rw [sI_r, if_neg (by omega), p4 j (by omega) hj, c0 56 j (by omega) (by omega)]
  refine Both.act (sI (fX1_become_i2 w) 0 3 1) (sI u 55 2 1) 1 1 rfl ?_ rfl ?_
  · show fX8_image N _ = _
    unfold fX8_image fX8_image_0 fX8_copyRow fX8_copyRow_0
    rw [show (0 : Int32) = iZ ((0 : Nat) : Int) from rfl, p1]
    rfl
  · refine h.kept (fun q k g1 g2 g3 g4 => by rw [d0 q k g3 g4, c0 q k g1 g2]) p2 ⟨?_, ?_, fun _ => ⟨?_, ?_⟩⟩
    · rw [d0 0 3 (by omega) (by omega), sI_r, if_pos ⟨rfl, rfl⟩, sI_r, if_pos ⟨rfl, rfl⟩]
    · rw [sI_r, if_pos ⟨rfl, rfl⟩]
      exact Or.inr rfl
    · refine hh.1.c (p := 21) hh.2 e57 (fun i hi => ?_) (fun i hi => ?_) ?_ ?_ ?_ ?_ (fun i hi => ⟨?_, ?_⟩) (fun i hi => ⟨?_, ?_, ?_, ?_⟩)
      · rw [d1 _ _ (by omega) (by omega)]
        exact cpy_in (w.1 3) (w.1 23) 4 hi
      · rw [d1 _ _ (by omega) (by omega)]
        exact cpy_in (w.1 4) (w.1 24) 3 hi
      · rw [d1 _ _ (by omega) (by omega)]; rfl
      · rw [d1 _ _ (by omega) (by omega)]; rfl
      · rw [d1 _ _ (by omega) (by omega)]; rfl
      · rw [d1 _ _ (by omega) (by omega)]; rfl
      · rw [d1 _ _ (by omega) (by omega)]
        exact cpy_in (w.1 5) (w.1 25) 8 hi
      · rw [d1 _ _ (by omega) (by omega)]
        exact cpy_in (w.1 6) (w.1 26) 8 hi
      · rw [d1 _ _ (by omega) (by omega)]
        exact cpy_in (w.1 7) (w.1 27) 6 hi
      · rw [d1 _ _ (by omega) (by omega)]
        exact cpy_in (w.1 8) (w.1 28) 6 hi
      · rw [d1 _ _ (by omega) (by omega)]
        exact cpy_in (w.1 9) (w.1 29) 6 hi
      · rw [d1 _ _ (by omega) (by omega)]
        exact cpy_in (w.1 10) (w.1 30) 6 hi
    · exact hh.2.c e57
theorem P_undo (hN : 20000 ≤ N) (h : Inv w) : Both (fun w => fX7_undo w) (fun w => fX8_undo N w) w := by
  obtain ⟨k1, k2, k3⟩ := h.1.2.1
  refine Both.guard h (!(decide (w.1 55 2 = 0))) 3 (by omega) (fun q => ?_) (fun q => ?_) (fun q => ?_)
  · have q : w.1 55 2 = 0 := by simpa using q
    show fX7_undo w = _
    unfold fX7_undo fX7_undo_0
    rw [k1, if_pos q, bind_id, c_3]
  · have q : w.1 55 2 = 0 := by simpa using q
    show fX8_undo N _ = _
    unfold fX8_undo fX8_undo_0
    rw [RF_r w 3 (by omega), if_pos q, bind_id, c_3]
  · have q : ¬ w.1 55 2 = 0 := by simpa using q
    obtain ⟨i21, w57⟩ := k3 (k2.resolve_left q)
    have g34 : ∀ a b, ¬ (a = 34 ∧ b = 0) → (fX0_forget w).1 a b = w.1 a b := fun a b g => by unfold fX0_forget fX0_forget_0; rw [sI_r, if_neg g]
    obtain ⟨u, p1, p2, p3, p4, -⟩ := row_loop1 (N := N) 51 N 0 (fX1_become_i3 (fX0_forget w)) (by omega) (by omega)
    have d0 : ∀ a b, a ≠ 56 → ¬ (a = 55 ∧ b = 8) → (sI u 55 8 0).1 a b = (fX1_become_i3 (fX0_forget w)).1 a b := fun a b g1 g2 => by rw [sI_r, if_neg g2, p3 a g1]
    have d2 : ∀ a b, ¬ (a = 1 ∨ (3 ≤ a ∧ a ≤ 10)) → a ≠ 56 → ¬ (a = 55 ∧ b = 8) → ¬ (a = 34 ∧ b = 0) → (sI u 55 8 0).1 a b = w.1 a b := fun a b g1 g2 g3 g4 => by rw [d0 a b g2 g3, b3_row g1, g34 a b g4]
    have e56 : ∀ j, j < 51 → (sI u 55 8 0).1 56 j = w.1 57 j := fun j hj => by rw [sI_r, if_neg (by omega), p4 j (by omega) hj, b3_row (by omega), g34 57 j (by omega)]
    have hR : IsR (sI u 55 8 0) 1 ((sI u 55 8 0).1 56) := by
      refine i21.c (p := 1) w57 e56 (fun i hi => ?_) (fun i hi => ?_) ?_ ?_ ?_ ?_ (fun i hi => ⟨?_, ?_⟩) (fun i hi => ⟨?_, ?_, ?_, ?_⟩)
      · rw [d0 _ _ (by omega) (by omega)]
        exact (cpy_in ((fX0_forget w).1 23) ((fX0_forget w).1 3) 4 hi).trans (g34 _ _ (by omega))
      · rw [d0 _ _ (by omega) (by omega)]
        exact (cpy_in ((fX0_forget w).1 24) ((fX0_forget w).1 4) 3 hi).trans (g34 _ _ (by omega))
      · rw [d0 _ _ (by omega) (by omega)]; rfl
      · rw [d0 _ _ (by omega) (by omega)]; rfl
      · rw [d0 _ _ (by omega) (by omega)]; rfl
      · rw [d0 _ _ (by omega) (by omega)]; rfl
      · rw [d0 _ _ (by omega) (by omega)]
        exact (cpy_in ((fX0_forget w).1 25) ((fX0_forget w).1 5) 8 hi).trans (g34 _ _ (by omega))
      · rw [d0 _ _ (by omega) (by omega)]
        exact (cpy_in ((fX0_forget w).1 26) ((fX0_forget w).1 6) 8 hi).trans (g34 _ _ (by omega))
      · rw [d0 _ _ (by omega) (by omega)]
        exact (cpy_in ((fX0_forget w).1 27) ((fX0_forget w).1 7) 6 hi).trans (g34 _ _ (by omega))
      · rw [d0 _ _ (by omega) (by omega)]
        exact (cpy_in ((fX0_forget w).1 28) ((fX0_forget w).1 8) 6 hi).trans (g34 _ _ (by omega))
      · rw [d0 _ _ (by omega) (by omega)]
        exact (cpy_in ((fX0_forget w).1 29) ((fX0_forget w).1 9) 6 hi).trans (g34 _ _ (by omega))
      · rw [d0 _ _ (by omega) (by omega)]
        exact (cpy_in ((fX0_forget w).1 30) ((fX0_forget w).1 10) 6 hi).trans (g34 _ _ (by omega))
    have hA : fX7_undo w = some (fX1_become_i3 (fX0_forget w), (fX1_become_i3 (fX0_forget w)).1 1 3) := by
      unfold fX7_undo fX7_undo_0
      rw [k1, if_neg q]
    have hB : fX8_undo N (fX1_become_i3 (fX0_forget w)) = some (sI u 55 8 0, (sI u 55 8 0).1 56 9) := by
      unfold fX8_undo fX8_undo_0 fX8_copyRow_i1 fX8_copyRow_i1_0
      rw [b3_row (q := 55) (by omega), g34 55 2 (by omega), if_neg q]
      show ((fX8_copyRow_i1_2 N N (fX1_become_i3 (fX0_forget w)) (iZ ((0 : Nat) : Int))).bind fun z1 => _) = _
      rw [p1]
      rfl
    refine Both.act _ _ _ _ hA hB ?_ ?_
    · rw [← d0 1 3 (by omega) (by omega)]
      exact hR.2.2.2.2.1.symm
    · refine Inv.new h.1 (fun a b hs g => d2 a b (by omega) (by omega) (fun z => hs (by unfold Sc; omega)) (fun z => hs (by unfold Sc; omega))) (fun a _ => ?_) (Or.inl (by rw [sI_r, if_pos ⟨rfl, rfl⟩])) ?_ hR (w57.c e56)
      · show u.2 a = _
        rw [p2]
        rfl
      · rw [d0 34 0 (by omega) (by omega), b3_row (by omega)]
        unfold fX0_forget fX0_forget_0
        rw [sI_r, if_pos ⟨rfl, rfl⟩]
end IMG
