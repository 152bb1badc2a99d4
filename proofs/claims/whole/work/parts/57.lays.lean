/-! numbers of a sheet as fronts -/
section LAYS
variable {w : xW} {N : Nat}
def okF (v : Int64) : Bool := decide (0 ≤ v.toInt ∧ v.toInt < 4)
theorem okF_if {α : Type} (v : Int64) (A B : α) : (if lg_cmp v 0 < 0 then A else if 0 ≤ lg_cmp v 4 then A else B) = if okF v = true then B else A := by
  have e0 : (lg_cmp v 0 < 0) ↔ v.toInt < 0 := by rw [lg_cmp_lt, Int64.lt_iff_toInt_lt]; rfl
  have e4 : (0 ≤ lg_cmp v 4) ↔ 4 ≤ v.toInt := by rw [lg_cmp_ge, Int64.le_iff_toInt_le]; rfl
  unfold okF
  by_cases a : v.toInt < 0
  · rw [if_pos (e0.mpr a), decide_eq_false (by omega), if_neg (by decide)]
  · rw [if_neg (fun q => a (e0.mp q))]
    by_cases b : 4 ≤ v.toInt
    · rw [if_pos (e4.mpr b), decide_eq_false (by omega), if_neg (by decide)]
    · rw [if_neg (fun q => b (e4.mp q)), decide_eq_true (by omega), if_pos rfl]
theorem okF_rng {v : Int64} (h : okF v = true) : 0 ≤ v.toInt32.toInt ∧ v.toInt32.toInt ≤ 3 := by
  have h := of_decide_eq_true h
  have e : v.toInt32.toInt = v.toInt.bmod (2 ^ 32) := by rw [Int64.toInt_toInt32]
  rw [e, Int.bmod_def]
  omega
def cF (a : Nat → Int64) : Nat → Int
  | 0 => 0
  | i + 1 => cF a i + (if okF (a i) = true then 1 else 0)
theorem lays7_loop {k n H L : Nat} (hk : k < 4) (hn : n ≤ 40) (h8 : H ≤ 8) (hL : L = min n H) {a : Nat → Int64} : ∀ (j m i : Nat) (u : xW), j < m → i + j = L → u.1 (47 + 2 * k) 1 = iZ n → u.1 1 3 = iZ H → u.2 (48 + 2 * k) = a → ∃ u', fX7_lays_38 N m u (iZ k) (iZ (cF a i)) (iZ i) = some (u', iZ (cF a L)) ∧ u'.2 = u.2 ∧ (∀ q, q ≠ 6 → u'.1 q = u.1 q) ∧ ∀ c, u'.1 6 c = if i ≤ c ∧ c < L ∧ okF (a c) = true then (a c).toInt32 else u.1 6 c
  | _, 0, _, _, hm, _, _, _, _ => absurd hm (by omega)
  | 0, m + 1, i, u, _, hi, h1, h2, ha => by
    obtain rfl : i = L := by omega
    refine ⟨u, ?_, rfl, fun _ _ => rfl, fun c => by rw [if_neg (by omega)]⟩
    rw [fX7_lays_38]
    unfold fX7_lays_38b
    rw [if_pos (k_4 hk).1.1, (k_4 hk).1.2, h1, h2]
    by_cases z : n ≤ i
    · rw [if_pos (by rw [iZ_le (by omega) (by omega) (by omega) (by omega)]; omega)]
    · rw [if_neg (by rw [iZ_le (by omega) (by omega) (by omega) (by omega)]; omega), if_pos (by rw [iZ_le (by omega) (by omega) (by omega) (by omega)]; omega)]
  | j + 1, m + 1, i, u, hm, hi, h1, h2, ha => by
    obtain ⟨-, -, i5, i6⟩ := ix_h i (by omega)
    rw [fX7_lays_38]
    unfold fX7_lays_38b fX7_lays_106
    rw [if_pos (k_4 hk).1.1, (k_4 hk).1.2, h1, if_neg (by rw [iZ_le (by omega) (by omega) (by omega) (by omega)]; omega), h2, if_neg (by rw [iZ_le (by omega) (by omega) (by omega) (by omega)]; omega), if_pos ((ibd_iZ (by omega) (by omega)).mpr (by omega)), okF_if, if_pos i5, i6, iZ_s1, ha]
    cases hz : okF (a i) with
    | true =>
      obtain ⟨u', p1, p2, p3, p4⟩ := lays7_loop hk hn h8 hL (a := a) j m (i + 1) (sI u 6 i (a i).toInt32) (by omega) (by omega) (by rw [sI_r, if_neg (by omega)]; exact h1) (by rw [sI_r, if_neg (by omega)]; exact h2) ha
      rw [cF, hz, if_pos rfl] at p1
      refine ⟨u', ?_, p2, fun q g => (p3 q g).trans (funext fun c => by rw [sI_r, if_neg (by omega)]), fun c => ?_⟩
      · rw [if_pos rfl, show (1 : Int32) = iZ 1 from rfl, iZ_add]
        exact p1
      · rw [p4, sI_r]
        by_cases y : c = i
        · subst y
          rw [if_neg (by omega), if_pos ⟨rfl, rfl⟩, if_pos ⟨by omega, by omega, hz⟩]
        · rw [if_neg (show ¬ ((6 : Nat) = 6 ∧ c = i) by omega)]
          by_cases x : i + 1 ≤ c ∧ c < L ∧ okF (a c) = true
          · rw [if_pos x, if_pos ⟨by omega, x.2⟩]
          · rw [if_neg x, if_neg (fun g => x ⟨by omega, g.2⟩)]
    | false =>
      obtain ⟨u', p1, p2, p3, p4⟩ := lays7_loop hk hn h8 hL (a := a) j m (i + 1) u (by omega) (by omega) h1 h2 ha
      rw [cF, hz, if_neg (show ¬ false = true by decide), Int.add_zero] at p1
      refine ⟨u', ?_, p2, p3, fun c => ?_⟩
      · rw [if_neg (show ¬ false = true by decide)]
        exact p1
      · rw [p4]
        by_cases x : i + 1 ≤ c ∧ c < L ∧ okF (a c) = true
        · rw [if_pos x, if_pos ⟨by omega, x.2⟩]
        · rw [if_neg x, if_neg (fun g => x ⟨by
            rcases Nat.eq_or_lt_of_le g.1 with y | y
            · subst y
              rw [hz] at g
              exact absurd g.2.2 (by decide)
            · omega, g.2⟩)]
theorem lays8_loop {k n H L : Nat} (hk : k < 4) (hn : n ≤ 40) (h8 : H ≤ 8) (hL : L = min n H) {a : Nat → Int64} : ∀ (j m i : Nat) (u : xW), j < m → i + j = L → u.1 75 k = iZ n → u.1 56 9 = iZ H → (∀ i, i < 40 → u.2 76 (40 * k + i) = a i) → ∃ u', fX8_lays_35 N m u (iZ k) (iZ (cF a i)) (iZ i) = some (u', iZ (cF a L)) ∧ u'.2 = u.2 ∧ (∀ q, q ≠ 56 → u'.1 q = u.1 q) ∧ (∀ d, (∀ c, c < 8 → d ≠ 12 + 2 * c) → u'.1 56 d = u.1 56 d) ∧ ∀ c, u'.1 56 (12 + 2 * c) = if i ≤ c ∧ c < L ∧ okF (a c) = true then (a c).toInt32 else u.1 56 (12 + 2 * c)
  | _, 0, _, _, hm, _, _, _, _ => absurd hm (by omega)
  | 0, m + 1, i, u, _, hi, h1, h2, ha => by
    obtain rfl : i = L := by omega
    refine ⟨u, ?_, rfl, fun _ _ => rfl, fun _ _ => rfl, fun c => by rw [if_neg (by omega)]⟩
    rw [fX8_lays_35]
    unfold fX8_lays_35b
    rw [if_pos (k_4 hk).1.1, (k_4 hk).1.2, h1, h2]
    by_cases z : n ≤ i
    · rw [if_pos (by rw [iZ_le (by omega) (by omega) (by omega) (by omega)]; omega)]
    · rw [if_neg (by rw [iZ_le (by omega) (by omega) (by omega) (by omega)]; omega), if_pos (by rw [iZ_le (by omega) (by omega) (by omega) (by omega)]; omega)]
  | j + 1, m + 1, i, u, hm, hi, h1, h2, ha => by
    obtain ⟨-, ⟨i3, i4⟩, -, -⟩ := ix_h i (by omega)
    obtain ⟨x1, x2⟩ := ix_c k hk i (by omega)
    rw [fX8_lays_35]
    unfold fX8_lays_35b fX8_lays_104
    rw [if_pos (k_4 hk).1.1, (k_4 hk).1.2, h1, if_neg (by rw [iZ_le (by omega) (by omega) (by omega) (by omega)]; omega), h2, if_neg (by rw [iZ_le (by omega) (by omega) (by omega) (by omega)]; omega), if_pos x1, x2, okF_if, if_pos i3, i4, iZ_s1, ha i (by omega)]
    cases hz : okF (a i) with
    | true =>
      obtain ⟨u', p1, p2, p3, p4, p5⟩ := lays8_loop hk hn h8 hL (a := a) j m (i + 1) (sI u 56 (12 + 2 * i) (a i).toInt32) (by omega) (by omega) (by rw [sI_r, if_neg (by omega)]; exact h1) (by rw [sI_r, if_neg (by omega)]; exact h2) ha
      rw [cF, hz, if_pos rfl] at p1
      refine ⟨u', ?_, p2, fun q g => (p3 q g).trans (funext fun c => by rw [sI_r, if_neg (by omega)]), fun d g => ?_, fun c => ?_⟩
      · rw [if_pos rfl, show (1 : Int32) = iZ 1 from rfl, iZ_add]
        exact p1
      · rw [p4 d g, sI_r, if_neg (fun e => g i (by omega) e.2)]
      · rw [p5, sI_r]
        by_cases y : c = i
        · subst y
          rw [if_neg (by omega), if_pos ⟨rfl, rfl⟩, if_pos ⟨by omega, by omega, hz⟩]
        · rw [if_neg (show ¬ ((56 : Nat) = 56 ∧ 12 + 2 * c = 12 + 2 * i) by omega)]
          by_cases x : i + 1 ≤ c ∧ c < L ∧ okF (a c) = true
          · rw [if_pos x, if_pos ⟨by omega, x.2⟩]
          · rw [if_neg x, if_neg (fun g => x ⟨by omega, g.2⟩)]
    | false =>
      obtain ⟨u', p1, p2, p3, p4, p5⟩ := lays8_loop hk hn h8 hL (a := a) j m (i + 1) u (by omega) (by omega) h1 h2 ha
      rw [cF, hz, if_neg (show ¬ false = true by decide), Int.add_zero] at p1
      refine ⟨u', ?_, p2, p3, p4, fun c => ?_⟩
      · rw [if_neg (show ¬ false = true by decide)]
        exact p1
      · rw [p5]
        by_cases x : i + 1 ≤ c ∧ c < L ∧ okF (a c) = true
        · rw [if_pos x, if_pos ⟨by omega, x.2⟩]
        · rw [if_neg x, if_neg (fun g => x ⟨by
            rcases Nat.eq_or_lt_of_le g.1 with y | y
            · subst y
              rw [hz] at g
              exact absurd g.2.2 (by decide)
            · omega, g.2⟩)]
theorem cF_congr {a b : Nat → Int64} : ∀ n, (∀ i, i < n → a i = b i) → cF a n = cF b n
  | 0, _ => rfl
  | n + 1, h => by rw [cF, cF, cF_congr n (fun i hi => h i (by omega)), h n (by omega)]
theorem P_lays (h : Inv w) (hN : 20000 ≤ N) (x : Int32) : Both (fun w => fX7_lays N w x) (fun w => fX8_lays N w x) w := by
  refine Both.guard h (dSide x) 0 (by omega) (fun q => ?_) (fun q => ?_) (fun q => ?_)
  · show fX7_lays N w x = _
    unfold fX7_lays fX7_lays_0
    rw [isSheet7, q, if_pos bF, bind_id, c_0]
  · show fX8_lays N _ x = _
    unfold fX8_lays fX8_lays_0
    rw [isSheet8, q, if_pos bF, bind_id, c_0]
  obtain ⟨k, hk, rfl⟩ := side_k q
  obtain ⟨s1, s2, s3, s4, s5⟩ := h.1.2.2.2.2.1 k hk
  obtain ⟨n, n1, n40, n2⟩ := sheetK h hk
  obtain ⟨H, hH, H8, h13⟩ := cnt8 h
  have a7 : ∀ u : xW, fX7_lays N u (iZ k) = if bi (decide (u.1 (47 + 2 * k) 0 = 0)) = 0 then fX7_lays_38 N N u (iZ k) 0 0 else fX7_refuse u (cd 5) := by
    intro u
    unfold fX7_lays fX7_lays_0
    rw [isSheet7, q, if_neg bT, if_pos (k_4 hk).1.1, (k_4 hk).1.2, isMis hk, Option.bind_some, bind_id, c_5]
  have a8 : ∀ u : xW, fX8_lays N u (iZ k) = if u.1 74 k = 0 then fX8_finding u (cd 5) else fX8_lays_35 N N u (iZ k) 0 0 := by
    intro u
    unfold fX8_lays fX8_lays_0
    rw [isSheet8, q, if_neg bT, if_pos (k_4 hk).1.1, (k_4 hk).1.2, bind_id, c_5]
  refine Both.guard h (!(decide (w.1 74 k = 0))) 5 (by omega) (fun z => ?_) (fun z => ?_) (fun z => ?_)
  · have z : w.1 74 k = 0 := by simpa using z
    show fX7_lays N w _ = _
    rw [a7, s1, decide_eq_true z, if_neg bT]
  · have z : w.1 74 k = 0 := by simpa using z
    show fX8_lays N _ _ = _
    rw [a8, RF_r w 5 (by omega), if_pos z]
  have z : ¬ w.1 74 k = 0 := by simpa using z
  obtain ⟨u1, p1, p2, p3, p4⟩ := lays7_loop (N := N) hk n40 H8 rfl (a := w.2 (48 + 2 * k)) (min n H) N 0 w (by omega) (by omega) n2 h13 rfl
  obtain ⟨u2, o1, o2, o3, o4, o5⟩ := lays8_loop (N := N) hk n40 H8 rfl (a := fun i => w.2 76 (40 * k + i)) (min n H) N 0 u1 (by omega) (by omega) ((congrFun (p3 75 (by omega)) k).trans n1) ((congrFun (p3 56 (by omega)) 9).trans hH) (fun i _ => by rw [p2])
  have ec : cF (fun i => w.2 76 (40 * k + i)) (min n H) = cF (w.2 (48 + 2 * k)) (min n H) := cF_congr _ (fun i hi => (s5 i (by omega)).symm)
  refine Both.act u1 u2 _ _ (by show fX7_lays N w _ = _; rw [a7, s1, decide_eq_false z, if_pos bF]; exact p1) (by show fX8_lays N u1 _ = _; rw [a8, p3 74 (by omega), if_neg z]; exact o1) (by rw [ec]) ?_
  have hh := h.1.1
  have e9 : u2.1 56 9 = w.1 56 9 := by rw [o4 9 (by omega), p3 56 (by omega)]
  have e56 : ∀ d, (∀ c, c < 8 → d ≠ 12 + 2 * c) → u2.1 56 d = w.1 56 d := fun d g => by rw [o4 d g, p3 56 (by omega)]
  have ec2 : ∀ c, u2.1 56 (12 + 2 * c) = if 0 ≤ c ∧ c < min n H ∧ okF (w.2 76 (40 * k + c)) = true then (w.2 76 (40 * k + c)).toInt32 else w.1 56 (12 + 2 * c) := fun c => by rw [o5 c, p3 56 (by omega)]
  have ec1 : ∀ c, c < 8 → u2.1 6 c = if 0 ≤ c ∧ c < min n H ∧ okF (w.2 76 (40 * k + c)) = true then (w.2 76 (40 * k + c)).toInt32 else w.1 6 c := fun c hc => by rw [o3 6 (by omega), p4 c, s5 c (by omega)]
  have ao : ∀ a b, a ≠ 6 → a ≠ 56 → u2.1 a b = w.1 a b := fun a b g1 g2 => by rw [o3 a g2, p3 a g1]
  have hb := hh.2.2.2.2.1
  refine h.now (fun a b g => ao a b (by omega) (by omega)) (o2.trans p2) (fun d g => e56 d (fun c hc => by omega)) ?_ ?_
  · refine hh.1.hs (fun d g => e56 d (fun c hc => by omega)) (fun j b g1 g2 g3 g4 g5 => ao _ _ (by omega) (by omega)) ?_ (fun c hc => ?_)
    · rw [ao 1 3 (by omega) (by omega), e9]
      exact hh.1.2.2.2.2.1
    · rw [e9] at hc
      have g := hh.1.2.2.2.2.2.2.1 c hc
      refine ⟨?_, ?_⟩
      · rw [ao 5 c (by omega) (by omega), e56 (11 + 2 * c) (fun c' _ => by omega)]
        exact g.1
      · rw [ec2, ec1 c (by omega)]
        by_cases y : 0 ≤ c ∧ c < min n H ∧ okF (w.2 76 (40 * k + c)) = true
        · rw [if_pos y, if_pos y]
        · rw [if_neg y, if_neg y]
          exact g.2
  · refine hh.2.hs (fun d g => e56 d (fun c hc => by omega)) (by rw [e9]; exact hb) (fun c hc => ?_)
    rw [e9] at hc
    have g := hh.2.2.2.2.2.2.1 c hc
    rw [e56 (11 + 2 * c) (fun c' _ => by omega), ec2]
    refine ⟨g.1, ?_⟩
    by_cases y : 0 ≤ c ∧ c < min n H ∧ okF (w.2 76 (40 * k + c)) = true
    · rw [if_pos y]
      exact okF_rng y.2.2
    · rw [if_neg y]
      exact g.2
end LAYS
