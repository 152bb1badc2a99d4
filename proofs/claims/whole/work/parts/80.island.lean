/-! island -/
section PISLAND
variable {w : xW} {N : Nat}
theorem b0_row {q : Nat} (hq : ¬ (11 ≤ q ∧ q ≤ 20)) : (fX1_become w).1 q = w.1 q := by
  funext k
  have h11 : ¬ q = 11 := by omega
  have h13 : ¬ q = 13 := by omega
  have h14 : ¬ q = 14 := by omega
  have h15 : ¬ q = 15 := by omega
  have h16 : ¬ q = 16 := by omega
  have h17 : ¬ q = 17 := by omega
  have h18 : ¬ q = 18 := by omega
  have h19 : ¬ q = 19 := by omega
  have h20 : ¬ q = 20 := by omega
  simp [fX1_become, fX1_become_0, fX1_become_50, fX1_become_88, fX1_become_118, fX6_become, fX6_become_0, fX6_become_32, sA_r, sI_r, h11, h13, h14, h15, h16, h17, h18, h19, h20]
theorem b1_row {q : Nat} (hq : ¬ (q = 1 ∨ (3 ≤ q ∧ q ≤ 10))) : (fX1_become_i1 w).1 q = w.1 q := by
  funext k
  have h1 : ¬ q = 1 := by omega
  have h3 : ¬ q = 3 := by omega
  have h4 : ¬ q = 4 := by omega
  have h5 : ¬ q = 5 := by omega
  have h6 : ¬ q = 6 := by omega
  have h7 : ¬ q = 7 := by omega
  have h8 : ¬ q = 8 := by omega
  have h9 : ¬ q = 9 := by omega
  have h10 : ¬ q = 10 := by omega
  simp [fX1_become_i1, fX1_become_i1_0, fX1_become_i1_35, fX1_become_i1_65, fX1_become_i1_103, fX1_become_i1_133, fX6_become_i1, fX6_become_i1_0, fX6_become_i1_32, sA_r, sI_r, h1, h3, h4, h5, h6, h7, h8, h9, h10]
theorem b0_R {r : Nat → Int32} (h : IsR w 1 r) (hw : WFr r) : IsR (fX1_become w) 11 r := by
  refine h.c (p := 11) hw (fun _ _ => rfl) (fun i hi => ?_) (fun i hi => ?_) ?_ ?_ ?_ ?_ (fun i hi => ⟨?_, ?_⟩) (fun i hi => ⟨?_, ?_, ?_, ?_⟩)
  · exact cpy_in (w.1 3) (w.1 13) 4 hi
  · exact cpy_in (w.1 4) (w.1 14) 3 hi
  · rfl
  · rfl
  · rfl
  · rfl
  · exact cpy_in (w.1 5) (w.1 15) 8 hi
  · exact cpy_in (w.1 6) (w.1 16) 8 hi
  · exact cpy_in (w.1 7) (w.1 17) 6 hi
  · exact cpy_in (w.1 8) (w.1 18) 6 hi
  · exact cpy_in (w.1 9) (w.1 19) 6 hi
  · exact cpy_in (w.1 10) (w.1 20) 6 hi
theorem b1_R {r : Nat → Int32} (h : IsR w 11 r) (hw : WFr r) : IsR (fX1_become_i1 w) 1 r := by
  refine h.c (p := 1) hw (fun _ _ => rfl) (fun i hi => ?_) (fun i hi => ?_) ?_ ?_ ?_ ?_ (fun i hi => ⟨?_, ?_⟩) (fun i hi => ⟨?_, ?_, ?_, ?_⟩)
  · exact cpy_in (w.1 13) (w.1 3) 4 hi
  · exact cpy_in (w.1 14) (w.1 4) 3 hi
  · rfl
  · rfl
  · rfl
  · rfl
  · exact cpy_in (w.1 15) (w.1 5) 8 hi
  · exact cpy_in (w.1 16) (w.1 6) 8 hi
  · exact cpy_in (w.1 17) (w.1 7) 6 hi
  · exact cpy_in (w.1 18) (w.1 8) 6 hi
  · exact cpy_in (w.1 19) (w.1 9) 6 hi
  · exact cpy_in (w.1 20) (w.1 10) 6 hi
theorem sgn_byte : ∀ b : Nat, b < 256 → (iZ (b : Nat)).toInt8.toInt32 = iZ (sgn (b : Nat)) := by decide +kernel
theorem wiped (h : Inv w) : Inv (sI (sI w 42 1 0) 55 18 0) := by
  refine h.tape (fun q k g1 g2 g3 g4 => by rw [sI_r, if_neg g4, sI_r, if_neg g1]) rfl ⟨?_, ?_, fun i hi => ?_⟩
  · simp [sI_r]
  · rw [sI_r, if_pos ⟨rfl, rfl⟩]
    decide
  · rw [sI_r, if_pos ⟨rfl, rfl⟩, i_0] at hi
    omega
theorem P_island (hN : 20000 ≤ N) (h : Inv w) : Both (fun w => fX7_island N w) (fun w => fX8_island N w) w := by
  obtain ⟨t1, t2, t3⟩ := h.1.2.2.2.1
  have hIs := h.1.1.1
  have hWr := h.1.1.2
  obtain ⟨U, hU, hU2⟩ : ∃ U : Nat, w.1 55 18 = iZ (U : Nat) ∧ U ≤ 120 := ⟨(w.1 55 18).toInt.toNat, by rw [Int.toNat_of_nonneg t2.1, iZ_self], by omega⟩
  have hUi : (w.1 55 18).toInt = U := by rw [hU, iZ_toInt (by omega) (by omega)]
  obtain ⟨B, hB⟩ : ∃ B : Nat → Int, B = fun i => (w.1 70 i).toInt := ⟨_, rfl⟩
  have hB1 : ∀ i, i < U → 0 ≤ B i ∧ B i ≤ 255 := fun i hi => by
    rw [hB]
    exact (t3 i (by omega)).2
  have hB2 : ∀ i, w.1 70 i = iZ (B i) := fun i => by
    rw [hB]
    exact (iZ_self _).symm
  have hB3 : ∀ i, i < U → w.1 43 i = iZ (sgn (B i)) := fun i hi => by
    have b := hB1 i hi
    rw [(t3 i (by omega)).1, hB2]
    have := sgn_byte (B i).toNat (by omega)
    rw [show (((B i).toNat : Nat) : Int) = B i by omega] at this
    exact this
  -- the class
  have hC : TapC B U (sI (fX1_become w) 42 4 0) := by
    refine ⟨?_, hU2, hB1, fun i hi => ?_⟩
    · rw [sI_r, if_neg (by omega), b0_row (by omega), t1]
      exact hU
    · rw [sI_ne1 (by omega), b0_row (by omega)]
      exact hB3 i hi
  obtain ⟨v1, s1, s2, s3⟩ := step7 (p := 0) hN (by omega) hC (by rw [sI_r, if_pos ⟨rfl, rfl⟩]; rfl)
  have sp := sk_spec (B := B) (U := U) (p := 0) (by omega)
  have g0 : Ru (fX1_become w) v1 := (Rt.w42 (k := 4) (v := 0) (by omega)).u.tr s2.u
  have tl := tell7_loop (r0 := w.1 56) hN 121 N [] (sk B U 0) v1 (by omega) (by omega) (by simp) sp.2 (hC.rt s2) s3 ((b0_R hIs hWr).ru g0) hWr
  have et : fX5_tell N (fX1_become w) = fX5_tell_9 N N v1 (iZ ((([] : List It).length + 1 : Nat) : Int)) := by
    unfold fX5_tell fX5_tell_0 fX4_rewind fX4_rewind_0
    rw [s1]
    rfl
  have hi := wiped h
  have mo : ∀ u1 : xW, u1.1 55 18 = w.1 55 18 → u1.1 70 = w.1 70 → u1.1 56 = w.1 56 → Fin8 (w.1 56) u1 (fX8_island N u1) (pTell B U (w.1 56) 121 [] (sk B U 0)) := by
    intro u1 e18 e70 e56
    have hM : TapM B U u1 := ⟨by rw [e18]; exact hU, hU2, hB1, fun i _ => by rw [e70]; exact hB2 i⟩
    have := island8 hN hM (by rw [e56]; exact hWr)
    rw [e56] at this
    exact this
  cases hp : pTell B U (w.1 56) 121 [] (sk B U 0) with
  | inl qf =>
    rw [hp] at tl mo
    obtain ⟨v2, a1, a2, a3⟩ := tl
    have g : ∀ q k, ¬ (q = 42 ∧ k ≠ 1) → ¬ (q = 44 ∧ k = 1) → ¬ (11 ≤ q ∧ q ≤ 20) → v2.1 q k = w.1 q k := fun q k h1 h2 h3 => by rw [a2.2 q k h1 h2 h3, g0.2 q k h1 h2, b0_row h3]
    have g2 : v2.2 = w.2 := a2.1.trans (g0.1.trans rfl)
    have gx : ∀ q k, ¬ (q = 42) → ¬ (q = 44 ∧ k = 1) → ¬ (11 ≤ q ∧ q ≤ 20) → (sI v2 42 1 0).1 q k = w.1 q k := fun q k h1 h2 h3 => by rw [sI_r, if_neg (by omega), g q k (by omega) h2 h3]
    obtain ⟨w2, m1, m2, m3, m4, m5⟩ := mo (sI v2 42 1 0) (gx 55 18 (by omega) (by omega) (by omega)) (funext fun k => gx 70 k (by omega) (by omega) (by omega)) (funext fun k => gx 56 k (by omega) (by omega) (by omega))
    refine Both.act (sI v2 42 1 0) w2 _ _ ?_ m1 rfl ?_
    · show fX7_island N w = _
      unfold fX7_island fX7_island_0
      rw [et, a1, Option.bind_some, if_pos ((iZ_neg0 (by omega) (by omega)).mpr (by omega))]
    · have all : ∀ q k, q ≠ 73 → ¬ (q = 55 ∧ 18 ≤ k ∧ k ≤ 29) → ¬ (q = 42) → ¬ (q = 44 ∧ k = 1) → ¬ (11 ≤ q ∧ q ≤ 20) → w2.1 q k = w.1 q k := by
        intro q k h1 h2 h3 h4 h5
        by_cases z : q = 56
        · rw [z, m4]
          exact gx 56 k (by omega) (by omega) (by omega)
        · by_cases y : q = 55 ∧ k = 8
          · rw [y.1, y.2, m5]
            exact gx 55 8 (by omega) (by omega) (by omega)
          · rw [m2.2 q k h1 z (by omega)]
            exact gx q k h3 h4 h5
      have w42 : w2.1 42 1 = 0 := by rw [m2.2 42 1 (by omega) (by omega) (by omega), sI_r, if_pos ⟨rfl, rfl⟩]
      have row : ∀ q, q ≠ 73 → q ≠ 55 → q ≠ 42 → q ≠ 44 → ¬ (11 ≤ q ∧ q ≤ 20) → w2.1 q = (sI (sI w 42 1 0) 55 18 0).1 q := fun q h1 h2 h3 h4 h5 => by
        rw [sI_ne1 h2, sI_ne1 h3]
        exact funext fun k => all q k h1 (by omega) h3 (by omega) h5
      have f : Fr (sI (sI w 42 1 0) 55 18 0) w2 := by
        refine ⟨fun q k hs => ?_, fun q _ => ?_⟩
        · by_cases z : q = 55 ∧ k = 18
          · rw [z.1, z.2, m3, sI_r, if_pos ⟨rfl, rfl⟩]
          · by_cases y : q = 42 ∧ k = 1
            · rw [y.1, y.2, w42, sI_r, if_neg (by omega), sI_r, if_pos ⟨rfl, rfl⟩]
            · rw [sI_r, if_neg z, sI_r, if_neg y]
              unfold Sc at hs
              exact all q k (by omega) (by omega) (by omega) (by omega) (by omega)
        · show w2.2 q = w.2 q
          rw [m2.1]
          show v2.2 q = w.2 q
          rw [g2]
      refine ⟨f.Core hi.1, ?_, ?_⟩
      · have ht := hi.2.1
        unfold TOK at ht ⊢
        rw [all 55 8 (by omega) (by omega) (by omega) (by omega) (by omega), row 56 (by omega) (by omega) (by omega) (by omega) (by omega), row 61 (by omega) (by omega) (by omega) (by omega) (by omega), row 62 (by omega) (by omega) (by omega) (by omega) (by omega)]
        rw [sI_r, if_neg (by omega), sI_r, if_neg (by omega)] at ht
        exact ht
      · have hk := hi.2.2
        unfold HOK at hk ⊢
        rw [row 34 (by omega) (by omega) (by omega) (by omega) (by omega), row 56 (by omega) (by omega) (by omega) (by omega) (by omega), row 35 (by omega) (by omega) (by omega) (by omega) (by omega), row 36 (by omega) (by omega) (by omega) (by omega) (by omega), row 37 (by omega) (by omega) (by omega) (by omega) (by omega)]
        exact hk
  | inr its =>
    rw [hp] at tl mo
    obtain ⟨v2, a1, a2, a3, a4, a5⟩ := tl
    have g : ∀ q k, ¬ (q = 42 ∧ k ≠ 1) → ¬ (q = 44 ∧ k = 1) → ¬ (11 ≤ q ∧ q ≤ 20) → v2.1 q k = w.1 q k := fun q k h1 h2 h3 => by rw [a2.2 q k h1 h2 h3, g0.2 q k h1 h2, b0_row h3]
    have g2 : v2.2 = w.2 := a2.1.trans (g0.1.trans rfl)
    have fr : ∀ q, (fX0_forget (sI v2 42 1 0)).1 q = (sI (sI v2 42 1 0) 34 0 0).1 q := fun q => rfl
    have gx : ∀ q k, ¬ (q = 42) → ¬ (q = 44 ∧ k = 1) → ¬ (11 ≤ q ∧ q ≤ 20) → ¬ (q = 1 ∨ (3 ≤ q ∧ q ≤ 10)) → ¬ (q = 34) → (fX1_become_i1 (fX0_forget (sI v2 42 1 0))).1 q k = w.1 q k := fun q k h1 h2 h3 h4 h5 => by rw [b1_row h4, fr, sI_r, if_neg (by omega), sI_r, if_neg (by omega), g q k (by omega) h2 h3]
    have i2 : IsR (sI (sI v2 42 1 0) 34 0 0) 11 (aps its (w.1 56)) := by
      unfold IsR at a3 ⊢
      rw [sI_ne1 (by omega), sI_ne1 (by omega), sI_ne1 (by omega), sI_ne1 (by omega), sI_ne1 (by omega), sI_ne1 (by omega), sI_ne1 (by omega), sI_ne1 (by omega), sI_ne1 (by omega), sI_ne1 (by omega), sI_ne1 (by omega), sI_ne1 (by omega), sI_ne1 (by omega), sI_ne1 (by omega), sI_ne1 (by omega), sI_ne1 (by omega), sI_ne1 (by omega), sI_ne1 (by omega)]
      exact a3
    have i3 := b1_R i2 a4
    obtain ⟨w2, m1, m2, m3, m4, m5⟩ := mo (fX1_become_i1 (fX0_forget (sI v2 42 1 0))) (gx 55 18 (by omega) (by omega) (by omega) (by omega) (by omega)) (funext fun k => gx 70 k (by omega) (by omega) (by omega) (by omega) (by omega)) (funext fun k => gx 56 k (by omega) (by omega) (by omega) (by omega) (by omega))
    refine Both.act (fX1_become_i1 (fX0_forget (sI v2 42 1 0))) w2 _ _ ?_ m1 rfl ?_
    · show fX7_island N w = _
      unfold fX7_island fX7_island_0
      rw [et, a1, Option.bind_some, if_neg (fun z => by have := (iZ_neg0 (by omega) (by omega)).mp z; omega)]
    · have ze : ∀ q k, q ≠ 73 → q ≠ 56 → ¬ (q = 55 ∧ (k = 8 ∨ (18 ≤ k ∧ k ≤ 29))) → w2.1 q k = (fX1_become_i1 (fX0_forget (sI v2 42 1 0))).1 q k := m2.2
      have w42 : w2.1 42 1 = 0 := by rw [ze 42 1 (by omega) (by omega) (by omega), b1_row (by omega), fr, sI_r, if_neg (by omega), sI_r, if_pos ⟨rfl, rfl⟩]
      refine Inv.new hi.1 (fun q k hs hq => ?_) (fun q _ => ?_) (Or.inl m5) ?_ ?_ (by rw [m4]; exact a4)
      · by_cases z : q = 55 ∧ k = 18
        · rw [z.1, z.2, m3, sI_r, if_pos ⟨rfl, rfl⟩]
        · by_cases y : q = 42 ∧ k = 1
          · rw [y.1, y.2, w42, sI_r, if_neg (by omega), sI_r, if_pos ⟨rfl, rfl⟩]
          · rw [sI_r, if_neg z, sI_r, if_neg y]
            unfold Sc at hs
            rw [ze q k (by omega) (by omega) (by omega)]
            exact gx q k (by omega) (by omega) (by omega) (by omega) (by omega)
      · show w2.2 q = w.2 q
        rw [m2.1]
        show v2.2 q = w.2 q
        rw [g2]
      · rw [ze 34 0 (by omega) (by omega) (by omega), b1_row (by omega), fr, sI_r, if_pos ⟨rfl, rfl⟩]
      · rw [m4]
        have er : ∀ q, q = 1 ∨ (3 ≤ q ∧ q ≤ 10) → w2.1 q = (fX1_become_i1 (sI (sI v2 42 1 0) 34 0 0)).1 q := fun q hq => funext fun k => ze q k (by omega) (by omega) (by omega)
        unfold IsR at i3 ⊢
        rw [er (1 + 2) (by omega), er (1 + 3) (by omega), er 1 (by omega), er (1 + 4) (by omega), er (1 + 5) (by omega), er (1 + 6) (by omega), er (1 + 7) (by omega), er (1 + 8) (by omega), er (1 + 9) (by omega)]
        exact i3
end PISLAND
