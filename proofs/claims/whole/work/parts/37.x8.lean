/-! the reference's tides, tied to the same whole numbers -/
def R8 (w w' : xW) : Prop := w'.2 = w.2 ∧ ∀ q k, q ≠ 61 → q ≠ 62 → ¬ (q = 55 ∧ k = 8) → w'.1 q k = w.1 q k
theorem R8.rf {w : xW} : R8 w w := ⟨rfl, fun _ _ _ _ _ => rfl⟩
theorem R8.tr {a b c : xW} (h : R8 a b) (g : R8 b c) : R8 a c := ⟨g.1.trans h.1, fun q k h1 h2 h3 => (g.2 q k h1 h2 h3).trans (h.2 q k h1 h2 h3)⟩
theorem R8.row {w w' : xW} (h : R8 w w') : w'.1 56 = w.1 56 := funext fun k => h.2 56 k (by omega) (by omega) (by omega)
def TOK (w : xW) : Prop := w.1 55 8 = 0 ∨ (w.1 55 8 = 1 ∧ ∀ t : Nat, t < 14000 → w.1 61 t = iZ (tTu (w.1 56) t : Nat) ∧ w.1 62 t = iZ (tSt (w.1 56) t : Nat))
section X8
variable {w : xW} {r : Nat → Int32} {N : Nat}
theorem has_eq (x : Int32) {k : Nat} (hk : k < 32) : fX8_has x (iZ k) = bi (bt x k) := by
  unfold fX8_has fX8_has_0
  cases hb : bt x k with
  | true => rw [if_pos ((sbit1 x hk).mpr hb)]; rfl
  | false => rw [if_neg (fun q => by rw [(sbit1 x hk).mp q] at hb; cases hb)]; rfl
theorem beginOf_eq (hr : w.1 56 = r) {k : Nat} (hk : k < 100000) : fX8_beginOf w (iZ k) = iZ (tbeg r k) := by
  unfold fX8_beginOf fX8_beginOf_0 tbeg tla tF tP tG
  rw [hr]
  have z0 : (0 : Int32) = iZ 0 := rfl
  by_cases c : 30 ≤ k
  · rw [if_pos ((k_30 (by omega)).mpr c), inB_30 c, if_neg (by decide), ← iZ_add, ← iZ_add, ← iZ_mul, iZ_self, iZ_self, z0]
  · rw [if_neg (fun q => c ((k_30 (by omega)).mp q)), has_eq _ (by omega), inB_lt (by omega)]
    cases hb : bt (r 4) k with
    | true => rw [if_neg (show ¬ bi true = 0 by decide), if_pos rfl, ← iZ_add, ← iZ_add, ← iZ_mul, iZ_self, iZ_self, iZ_self]
    | false => rw [if_pos (show bi false = 0 from rfl), if_neg (by decide), ← iZ_add, ← iZ_add, ← iZ_mul, iZ_self, iZ_self, z0]
theorem isIn8_eq (hr : w.1 56 = r) {k : Nat} (hk : k < 100000) : fX8_isIn w 1 (iZ k) = some (bi (tfa r k)) ∧ fX8_isIn w 2 (iZ k) = some (bi (tha r k)) := by
  unfold fX8_isIn fX8_isIn_0 tfa tha
  rw [hr, show ((4 : Int32) + 1).toNatClampNeg = 5 from by decide +kernel, show ((4 : Int32) + 2).toNatClampNeg = 6 from by decide +kernel]
  by_cases c : 30 ≤ k
  · rw [if_pos ((k_30 (by omega)).mpr c), if_pos ((k_30 (by omega)).mpr c), inB_30 c, inB_30 c]
    exact ⟨rfl, rfl⟩
  · rw [if_neg (fun q => c ((k_30 (by omega)).mp q)), if_neg (fun q => c ((k_30 (by omega)).mp q)), if_pos (show ibd ((4 : Int32) + 1) 51 = true from by decide +kernel), if_pos (show ibd ((4 : Int32) + 2) 51 = true from by decide +kernel), has_eq _ (by omega), has_eq _ (by omega), inB_lt (by omega), inB_lt (by omega)]
    constructor
    · cases bt (r 5) k with
      | true => rw [if_neg (show ¬ bi true = 0 by decide)]; rfl
      | false => rw [if_pos (show bi false = 0 from rfl)]; rfl
    · cases bt (r 6) k with
      | true => rw [if_neg (show ¬ bi true = 0 by decide)]; rfl
      | false => rw [if_pos (show bi false = 0 from rfl)]; rfl
/-- the rows of ticks, filled from a to e -/
def FL (w w' : xW) (a e : Nat) (d v : Int32) : Prop := R8 w w' ∧ w'.1 55 8 = w.1 55 8 ∧ ∀ k : Nat, (a ≤ k ∧ k < e → w'.1 61 k = d ∧ w'.1 62 k = v) ∧ (¬ (a ≤ k ∧ k < e) → w'.1 61 k = w.1 61 k ∧ w'.1 62 k = w.1 62 k)
theorem fills_loop (b : Int) (h0 : 0 ≤ b) (hb : b < 100000000) (d : Int32) (s : Bool) : ∀ (j m a : Nat) (w : xW), j < m → a ≤ 14000 → 14000 ≤ a + j → ∃ (w' : xW) (e : Nat), fX8_fills_3 N m w (iZ b) d (bi s) (iZ a) = some (w', iZ e) ∧ e ≤ 14000 ∧ (e : Int) = max (a : Int) (min b 14000) ∧ FL w w' a e d (bi (!s))
  | j, 0, _, _, hm, _, _ => absurd hm (by omega)
  | j, m + 1, a, w, hm, ha, hj => by
    rw [fX8_fills_3]
    unfold fX8_fills_3b
    have stop : ∀ k : Nat, ¬ (a ≤ k ∧ k < a) := fun k => by omega
    by_cases c : b ≤ a
    · rw [if_pos ((iZ_le (by omega) (by omega) (by omega) (by omega)).mpr c)]
      exact ⟨w, a, rfl, ha, by omega, R8.rf, rfl, fun k => ⟨fun h => absurd h (stop k), fun _ => ⟨rfl, rfl⟩⟩⟩
    · rw [if_neg (fun q => c ((iZ_le (by omega) (by omega) (by omega) (by omega)).mp q))]
      have z14 : (14000 : Int32) = iZ 14000 := rfl
      by_cases c2 : 14000 ≤ a
      · rw [if_pos (by rw [z14, iZ_le (by omega) (by omega) (by omega) (by omega)]; omega)]
        exact ⟨w, a, rfl, ha, by omega, R8.rf, rfl, fun k => ⟨fun h => absurd h (stop k), fun _ => ⟨rfl, rfl⟩⟩⟩
      · rw [if_neg (by rw [z14, iZ_le (by omega) (by omega) (by omega) (by omega)]; omega), if_pos ((ibd_iZ (by omega) (by omega)).mpr (by omega)), iZ_clamp (by omega) (by omega), Int.toNat_natCast]
        obtain ⟨j', rfl⟩ : ∃ j', j = j' + 1 := ⟨j - 1, by omega⟩
        have go : ∀ v : Int32, v = bi (!s) → ∃ (w' : xW) (e : Nat), fX8_fills_41 N (fX8_fills_3 N m) (sI w 61 a d) (iZ b) d (bi s) (iZ a) v (iZ a) = some (w', iZ e) ∧ e ≤ 14000 ∧ (e : Int) = max (a : Int) (min b 14000) ∧ FL w w' a e d (bi (!s)) := by
          intro v hv
          unfold fX8_fills_41
          rw [if_pos ((ibd_iZ (by omega) (by omega)).mpr (by omega)), iZ_clamp (by omega) (by omega), Int.toNat_natCast, iZ_s1]
          obtain ⟨w', e, h1, h2, h3, h4, h5, h6⟩ := fills_loop b h0 hb d s j' m (a + 1) (sI (sI w 61 a d) 62 a v) (by omega) (by omega) (by omega)
          refine ⟨w', e, h1, h2, by omega, ?_, ?_, fun k => ?_⟩
          · refine R8.tr (b := sI (sI w 61 a d) 62 a v) ⟨rfl, fun q k g1 g2 _ => ?_⟩ h4
            rw [sI_r, if_neg (by omega), sI_r, if_neg (by omega)]
          · rw [h5, sI_r, if_neg (by omega), sI_r, if_neg (by omega)]
          · obtain ⟨g1, g2⟩ := h6 k
            constructor
            · intro hk
              rcases Nat.lt_or_ge a k with q | q
              · exact g1 (by omega)
              · obtain rfl : k = a := by omega
                obtain ⟨p1, p2⟩ := g2 (by omega)
                rw [p1, p2, sI_r, if_neg (by omega), sI_r, if_pos ⟨rfl, rfl⟩, sI_r, if_pos ⟨rfl, rfl⟩]
                exact ⟨rfl, hv⟩
            · intro hk
              have hne : k ≠ a := by omega
              obtain ⟨p1, p2⟩ := g2 (by omega)
              rw [p1, p2, sI_r, if_neg (by omega), sI_r, if_neg (by omega), sI_r, if_neg (by omega), sI_r, if_neg (by omega)]
              exact ⟨rfl, rfl⟩
        cases s with
        | true =>
          rw [if_neg (show ¬ bi true = 0 by decide)]
          exact go 0 rfl
        | false =>
          rw [if_pos (show bi false = 0 from rfl)]
          exact go 1 rfl
theorem fills_eq (hN : 20000 ≤ N) {b : Int} (h0 : 0 ≤ b) (hb : b < 100000000) (d : Int32) (s : Bool) {a : Nat} (ha : a ≤ 14000) (w : xW) : ∃ (w' : xW) (e : Nat), fX8_fills N w (iZ a) (iZ b) d (bi s) = some (w', iZ e) ∧ e ≤ 14000 ∧ (e : Int) = max (a : Int) (min b 14000) ∧ FL w w' a e d (bi (!s)) := by
  unfold fX8_fills fX8_fills_0
  exact fills_loop b h0 hb d s (14000 - a) N a w (by omega) ha (by omega)
/-- what holds ahead of tide k, with the rows filled till tick a -/
def MI (r : Nat → Int32) (w : xW) (k a d hv : Nat) : Prop := d = tQ r k ∧ (0 < hv ↔ tH r k = true) ∧ d + hv = cnt (fun j => !(tfa r j)) k ∧ (a : Int) ≤ tbeg r k ∧ a ≤ 14000 ∧ (31 ≤ k → min (ten r (k - 1)) 14000 ≤ a) ∧ (∀ t : Nat, t < a → w.1 61 t = iZ (tTu r t : Nat) ∧ w.1 62 t = bi (!(tBe r t))) ∧ ∀ t : Int, a ≤ t → t < tbeg r k → t < 14000 → tTu r t = tQ r k ∧ tBe r t = tH r k
theorem tQ_cnt (r : Nat → Int32) (k : Nat) (h : tH r k = false) : tQ r k = cnt (fun j => !(tfa r j)) k := by
  induction k with
  | zero => rfl
  | succ k ih =>
    cases hf : tfa r k with
    | true =>
      obtain ⟨e1, e2⟩ := tQ_fail hf
      rw [e1, ih (by rw [← e2]; exact h), cnt, hf]
      rfl
    | false =>
      cases hh : tha r k with
      | true =>
        rw [(tQ_half hf hh).2] at h
        cases h
      | false => exact (tQ_whole hf hh).1
theorem at_same (hw : WFt r) {k : Nat} {t : Int} (h1 : tbeg r k ≤ t) (h2 : t < ten r k) : tnd r t = k := tnd_of hw (fun _ hk => Int.le_trans (Int.le_of_lt (ten_lt hw hk)) h1) h2
/-- between tide k's begin and the next tide's, by what tide k is -/
theorem after_k (hw : WFt r) {k : Nat} {t : Int} (h1 : tbeg r k ≤ t) (h2 : t < tbeg r (k + 1)) : tnd r t = k ∨ tnd r t = k + 1 := by
  rcases Int.lt_or_le t (ten r k) with q | q
  · exact Or.inl (at_same hw h1 q)
  · exact Or.inr (tnd_of hw (fun j hj => Int.le_trans (ten_mono hw (by omega)) q) (Int.lt_trans h2 (tbeg_ten hw _)))
theorem MI_fail (hw : WFt r) {w : xW} {k a d hv : Nat} (h : MI r w k a d hv) (hf : tfa r k = true) : MI r w (k + 1) a d hv := by
  obtain ⟨h1, h2, h3, h4, h5, h6, h7, h8⟩ := h
  obtain ⟨e1, e2⟩ := tQ_fail hf
  refine ⟨by rw [e1]; exact h1, by rw [e2]; exact h2, ?_, Int.le_trans h4 (Int.le_of_lt (tbeg_step hw k)), h5, fun q => ?_, h7, fun t g1 g2 g3 => ?_⟩
  · rw [cnt, hf]
    exact h3
  · have : tfa r k = false := inB_30 (by omega)
    rw [this] at hf
    cases hf
  · rw [e1, e2]
    rcases Int.lt_or_le t (tbeg r k) with q | q
    · exact h8 t g1 q g3
    · have hB : ∀ n, n = k ∨ n = k + 1 → tnd r t = n → tTu r t = tQ r k ∧ tBe r t = tH r k := by
        intro n hn e
        unfold tTu tBe
        rw [e]
        rcases hn with rfl | rfl
        · rw [hf]
          simp
        · rw [e1, e2, decide_eq_false (by omega)]
          simp
      rcases after_k hw q g2 with e | e
      · exact hB _ (Or.inl rfl) e
      · exact hB _ (Or.inr rfl) e
theorem FL.at {w w' : xW} {a e : Nat} {d v : Int32} (h : FL w w' a e d v) {k : Nat} : (k < a → w'.1 61 k = w.1 61 k ∧ w'.1 62 k = w.1 62 k) ∧ (a ≤ k → k < e → w'.1 61 k = d ∧ w'.1 62 k = v) := ⟨fun q => (h.2.2 k).2 (by omega), fun q1 q2 => (h.2.2 k).1 ⟨q1, q2⟩⟩
/-- filled till tide k begins -/
theorem MI_fill {w w' : xW} {k a d hv e : Nat} (h : MI r w k a d hv) (he : (e : Int) = max (a : Int) (min (tbeg r k) 14000)) (hF : FL w w' a e (iZ d) (bi (!(tH r k)))) : (∀ t : Nat, t < e → w'.1 61 t = iZ (tTu r t : Nat) ∧ w'.1 62 t = bi (!(tBe r t))) := by
  obtain ⟨h1, h2, h3, h4, h5, h6, h7, h8⟩ := h
  intro t ht
  rcases Nat.lt_or_ge t a with q | q
  · obtain ⟨p1, p2⟩ := hF.at.1 q
    rw [p1, p2]
    exact h7 t q
  · obtain ⟨p1, p2⟩ := hF.at.2 q ht
    obtain ⟨g1, g2⟩ := h8 t (by omega) (by omega) (by omega)
    rw [p1, p2, g1, g2, h1]
    exact ⟨rfl, rfl⟩
theorem MI_half (hw : WFt r) {w w' : xW} {k a d hv e : Nat} (h : MI r w k a d hv) (hf : tfa r k = false) (hh : tha r k = true) (he : (e : Int) = max (a : Int) (min (tbeg r k) 14000)) (hel : e ≤ 14000) (hF : FL w w' a e (iZ d) (bi (!(tH r k)))) : MI r w' (k + 1) e d (hv + 1) := by
  have h0 := MI_fill h he hF
  obtain ⟨h1, h2, h3, h4, h5, h6, h7, h8⟩ := h
  obtain ⟨e1, e2⟩ := tQ_half hf hh
  have hs := tbeg_step hw k
  refine ⟨by rw [e1]; exact h1, by rw [e2]; exact ⟨fun _ => rfl, fun _ => by omega⟩, ?_, by omega, hel, fun q => ?_, h0, fun t g1 g2 g3 => ?_⟩
  · rw [cnt, hf, if_pos (by decide)]
    omega
  · have : tha r k = false := inB_30 (by omega)
    rw [this] at hh
    cases hh
  · rw [e1, e2]
    rcases Int.lt_or_le t (tbeg r k) with q | q
    · omega
    · have hB : ∀ n, n = k ∨ n = k + 1 → tnd r t = n → tTu r t = tQ r k ∧ tBe r t = true := by
        intro n hn e
        unfold tTu tBe
        rw [e]
        rcases hn with rfl | rfl
        · rw [hf, decide_eq_true q]
          simp
        · rw [e1, e2]
          simp
      rcases after_k hw q g2 with e | e
      · exact hB _ (Or.inl rfl) e
      · exact hB _ (Or.inr rfl) e
theorem MI_whole (hw : WFt r) {w w' w2 : xW} {k a d hv e e2 : Nat} (h : MI r w k a d hv) (hf : tfa r k = false) (hh : tha r k = false) (he : (e : Int) = max (a : Int) (min (tbeg r k) 14000)) (hel : e ≤ 14000) (hF : FL w w' a e (iZ d) (bi (!(tH r k)))) (he2 : (e2 : Int) = max (e : Int) (min (ten r k) 14000)) (hel2 : e2 ≤ 14000) (hF2 : FL w' w2 e e2 (iZ d) (bi (!true))) : MI r w2 (k + 1) e2 (d + (1 + hv)) 0 := by
  have h0 := MI_fill h he hF
  obtain ⟨h1, h2, h3, h4, h5, h6, h7, h8⟩ := h
  obtain ⟨e1, e3⟩ := tQ_whole hf hh
  have hs := tbeg_step hw k
  have hs2 := tbeg_ten hw k
  have hs3 := ten_next hw k
  have hc : cnt (fun j => !(tfa r j)) (k + 1) = cnt (fun j => !(tfa r j)) k + 1 := by rw [cnt, hf]; rfl
  refine ⟨by rw [e1, hc]; omega, by rw [e3]; exact ⟨fun q => absurd q (by omega), fun q => by cases q⟩, by rw [hc]; omega, by omega, hel2, fun q => by rw [show k + 1 - 1 = k by omega]; omega, fun t ht => ?_, fun t g1 g2 g3 => ?_⟩
  · rcases Nat.lt_or_ge t e with q | q
    · obtain ⟨p1, p2⟩ := hF2.at.1 q
      rw [p1, p2]
      exact h0 t q
    · obtain ⟨p1, p2⟩ := hF2.at.2 q ht
      have hnd : tnd r (t : Int) = k := at_same hw (by omega) (by omega)
      rw [p1, p2]
      unfold tTu tBe
      rw [hnd, hf, decide_eq_true (show tbeg r k ≤ (t : Int) by omega), h1]
      simp
  · have hnd : tnd r t = k + 1 := tnd_of hw (fun j hj => Int.le_trans (ten_mono hw (show j ≤ k by omega)) (by omega)) (Int.lt_trans g2 (tbeg_ten hw _))
    unfold tTu tBe
    rw [hnd, e3, decide_eq_false (by omega)]
    simp
/-- the second loop: runs of calm ticks, from behind -/
theorem still_loop : ∀ (j m : Nat) (w : xW), j < m → j ≤ 14000 → (∀ t : Nat, t < j → w.1 62 t = bi (!(tBe r t))) → ∃ w', fX8_findTides_111 N m w (iZ (tSt r j : Nat)) (iZ ((j : Int) - 1)) = some w' ∧ R8 w w' ∧ w'.1 55 8 = 1 ∧ (∀ t, w'.1 61 t = w.1 61 t) ∧ (∀ t : Nat, t < j → w'.1 62 t = iZ (tSt r t : Nat)) ∧ ∀ t : Nat, j ≤ t → w'.1 62 t = w.1 62 t
  | _, 0, _, hm, _, _ => absurd hm (by omega)
  | 0, m + 1, w, _, _, _ => by
    rw [fX8_findTides_111]
    unfold fX8_findTides_111b
    rw [if_pos (show iZ (((0 : Nat) : Int) - 1) < 0 from by decide +kernel)]
    exact ⟨_, rfl, ⟨rfl, fun q k g1 g2 g3 => by rw [sI_r, if_neg (by omega)]⟩, by rw [sI_r, if_pos ⟨rfl, rfl⟩], fun t => by rw [sI_r, if_neg (by omega)], fun t h => absurd h (by omega), fun t _ => by rw [sI_r, if_neg (by omega)]⟩
  | j + 1, m + 1, w, hm, hj, hw => by
    rw [fX8_findTides_111]
    unfold fX8_findTides_111b
    have ej : iZ (((j + 1 : Nat) : Int) - 1) = iZ (j : Int) := by congr 1; omega
    rw [ej, if_neg (k_neg (by omega)), if_pos ((ibd_iZ (by omega) (by omega)).mpr (by omega)), iZ_clamp (by omega) (by omega), Int.toNat_natCast, hw j (by omega)]
    have go : ∀ v : Int32, v = iZ (tSt r j : Nat) → ∃ w', fX8_findTides_134 N (fX8_findTides_111 N m) w (iZ j) v = some w' ∧ R8 w w' ∧ w'.1 55 8 = 1 ∧ (∀ t, w'.1 61 t = w.1 61 t) ∧ (∀ t : Nat, t < j + 1 → w'.1 62 t = iZ (tSt r t : Nat)) ∧ ∀ t : Nat, j + 1 ≤ t → w'.1 62 t = w.1 62 t := by
      intro v hv
      unfold fX8_findTides_134
      have em : iZ (j : Int) + (-1) = iZ ((j : Int) - 1) := by rw [show (-1 : Int32) = iZ (-1) from rfl, iZ_add]; congr 1
      rw [if_pos ((ibd_iZ (by omega) (by omega)).mpr (by omega)), iZ_clamp (by omega) (by omega), Int.toNat_natCast, em, hv]
      obtain ⟨w', p1, p2, p3, p4, p5, p6⟩ := still_loop j m (sI w 62 j (iZ (tSt r j : Nat))) (by omega) (by omega) (fun t ht => by rw [sI_r, if_neg (by omega)]; exact hw t (by omega))
      refine ⟨w', p1, R8.tr (b := sI w 62 j (iZ (tSt r j : Nat))) ⟨rfl, fun q k g1 g2 _ => by rw [sI_r, if_neg (by omega)]⟩ p2, p3, fun t => by rw [p4, sI_r, if_neg (by omega)], fun t ht => ?_, fun t ht => by rw [p6 t (by omega), sI_r, if_neg (by omega)]⟩
      rcases Nat.lt_or_ge t j with q | q
      · exact p5 t q
      · obtain rfl : t = j := by omega
        rw [p6 t (by omega), sI_r, if_pos ⟨rfl, rfl⟩]
    cases hb : tBe r j with
    | true =>
      rw [if_pos (show bi (!true) = 0 from rfl)]
      refine go 0 ?_
      rw [tSt_step (by omega), hb, if_pos rfl]
      rfl
    | false =>
      rw [if_neg (show ¬ bi (!false) = 0 by decide)]
      refine go _ ?_
      rw [iZ_s1, tSt_step (t := j) (by omega), hb, if_neg (by decide)]
theorem find_loop (hN : 20000 ≤ N) (hw : WFt r) : ∀ (j m k a d hv : Nat) (w : xW), k + j = 1250 → j < m → w.1 56 = r → MI r w k a d hv → ∃ w', fX8_findTides_9 N m w (iZ d) (iZ a) (iZ hv) (iZ k) = some w' ∧ R8 w w' ∧ w'.1 55 8 = 1 ∧ ∀ t : Nat, t < 14000 → w'.1 61 t = iZ (tTu r t : Nat) ∧ w'.1 62 t = iZ (tSt r t : Nat)
  | _, 0, _, _, _, _, _, _, hm, _, _ => absurd hm (by omega)
  | j, m + 1, k, a, d, hv, w, hk, hm, hr, h => by
    rw [fX8_findTides_9]
    unfold fX8_findTides_9b
    have hd : d ≤ k ∧ hv ≤ k := by
      have := h.2.2.1
      have := cnt_le (fun j => !(tfa r j)) k
      omega
    have z14 : (14000 : Int32) = iZ 14000 := rfl
    have ha := h.2.2.2.2.1
    by_cases c : 14000 ≤ a
    · rw [if_pos (by rw [z14, iZ_le (by omega) (by omega) (by omega) (by omega)]; omega)]
      obtain ⟨w', p1, p2, p3, p4, p5, -⟩ := still_loop (r := r) (N := N) 14000 N w (by omega) (by omega) (fun t ht => (h.2.2.2.2.2.2.1 t (by omega)).2)
      refine ⟨w', ?_, p2, p3, fun t ht => ⟨by rw [p4]; exact (h.2.2.2.2.2.2.1 t (by omega)).1, p5 t ht⟩⟩
      have e0 : iZ ((tSt r 14000 : Nat) : Int) = 0 := by
        show iZ ((0 : Nat) : Int) = 0
        rfl
      rw [e0] at p1
      exact p1
    · have hk2 : k < 1250 := by
        rcases Nat.lt_or_ge k 1250 with q | q
        · exact q
        · obtain rfl : k = 1250 := by omega
          have h6 := h.2.2.2.2.2.1 (by omega)
          have := tbeg_lo hw 1249
          have hp := hw.2.1
          have hl := hw.2.2.1
          have hF := hw.1
          have : (1249 : Int) * 16 ≤ ((1249 : Nat) : Int) * tP r := Int.mul_le_mul_of_nonneg_left hp.1 (by omega)
          unfold ten at h6
          simp only [show 1250 - 1 = 1249 from rfl] at h6
          omega
      obtain ⟨j', rfl⟩ : ∃ j', j = j' + 1 := ⟨j - 1, by omega⟩
      rw [if_neg (by rw [z14, iZ_le (by omega) (by omega) (by omega) (by omega)]; omega), (isIn8_eq hr (by omega)).1]
      simp only [Option.bind_some]
      cases hf : tfa r k with
      | true =>
        rw [if_neg (show ¬ bi true = 0 by decide)]
        unfold fX8_findTides_97
        rw [iZ_s1]
        exact find_loop hN hw j' m (k + 1) a d hv w (by omega) (by omega) hr (MI_fail hw h hf)
      | false =>
        rw [if_pos (show bi false = 0 from rfl)]
        have hbr := tbeg_rng hw (k := k) (by omega)
        have hl := hw.2.2.1
        have e2 : w.1 56 2 = iZ (tLn r) := by rw [hr]; exact (iZ_self _).symm
        rw [beginOf_eq hr (by omega), e2, iZ_add]
        have go : ∃ w', fX8_findTides_59 N (fX8_findTides_9 N m) w (iZ d) (iZ hv) (iZ k) (iZ (tbeg r k + tLn r)) (bi (tH r k)) (iZ d) (iZ (tbeg r k)) (iZ a) = some w' ∧ R8 w w' ∧ w'.1 55 8 = 1 ∧ ∀ t : Nat, t < 14000 → w'.1 61 t = iZ (tTu r t : Nat) ∧ w'.1 62 t = iZ (tSt r t : Nat) := by
          unfold fX8_findTides_59
          obtain ⟨w1, e, f1, f2, f3, f4⟩ := fills_eq (N := N) hN hbr.1 (by omega) (iZ d) (tH r k) h.2.2.2.2.1 w
          have hr1 : w1.1 56 = r := by rw [f4.1.row]; exact hr
          rw [f1]
          simp only [Option.bind_some]
          rw [(isIn8_eq hr1 (by omega)).2]
          simp only [Option.bind_some]
          unfold fX8_findTides_97
          cases hh : tha r k with
          | true =>
            rw [if_neg (show ¬ bi true = 0 by decide), iZ_s1, iZ_s1]
            obtain ⟨w', p1, p2, p3, p4⟩ := find_loop hN hw j' m (k + 1) e d (hv + 1) w1 (by omega) (by omega) hr1 (MI_half hw h hf hh f3 f2 f4)
            exact ⟨w', p1, f4.1.tr p2, p3, p4⟩
          | false =>
            rw [if_pos (show bi false = 0 from rfl)]
            obtain ⟨w2, e', g1, g2, g3, g4⟩ := fills_eq (N := N) hN (b := tbeg r k + tLn r) (by omega) (by omega) (iZ d) true f2 w1
            have g1' : fX8_fills N w1 (iZ (e : Int)) (iZ (tbeg r k + tLn r)) (iZ (d : Int)) 1 = some (w2, iZ (e' : Int)) := g1
            rw [g1']
            simp only [Option.bind_some]
            obtain ⟨w', p1, p2, p3, p4⟩ := find_loop hN hw j' m (k + 1) e' (d + (1 + hv)) 0 w2 (by omega) (by omega) (by rw [g4.1.row]; exact hr1) (MI_whole hw h hf hh f3 f2 f4 g3 g2 g4)
            refine ⟨w', ?_, (f4.1.tr g4.1).tr p2, p3, p4⟩
            have e5 : iZ (d : Int) + (1 + iZ (hv : Int)) = iZ ((d + (1 + hv) : Nat) : Int) := by
              rw [show (1 : Int32) = iZ 1 from rfl, iZ_add, iZ_add]
              congr 1
            have e6 : (0 : Int32) = iZ ((0 : Nat) : Int) := rfl
            rw [e5, iZ_s1, e6]
            exact p1
        cases hH : tH r k with
        | true =>
          have hv0 := h.2.1.mpr hH
          rw [hH] at go
          rw [if_neg (show ¬ iZ (hv : Int) ≤ 0 from by rw [show (0 : Int32) = iZ 0 from rfl, iZ_le (by omega) (by omega) (by omega) (by omega)]; omega)]
          exact go
        | false =>
          have hv0 : hv = 0 := by
            rcases Nat.eq_zero_or_pos hv with q | q
            · exact q
            · rw [h.2.1.mp q] at hH
              cases hH
          rw [hH] at go
          rw [if_pos (show iZ (hv : Int) ≤ 0 from by rw [show (0 : Int32) = iZ 0 from rfl, iZ_le (by omega) (by omega) (by omega) (by omega)]; omega)]
          exact go
/-- findTides() -/
theorem findTides_eq (hN : 20000 ≤ N) (hw : WFt r) (hr : w.1 56 = r) : ∃ w', fX8_findTides N w = some w' ∧ R8 w w' ∧ TOK w' ∧ w'.1 55 8 = 1 := by
  unfold fX8_findTides fX8_findTides_0
  have hF := hw.1
  have hb0 := tbeg_lo hw 0
  have h0 : MI r w 0 0 0 0 := by
    refine ⟨rfl, ⟨fun q => absurd q (by omega), fun q => by cases q⟩, rfl, ?_, by omega, fun q => absurd q (by omega), fun t q => absurd q (by omega), fun t g1 g2 g3 => ?_⟩
    · simp only [Int.natCast_zero, Int.zero_mul] at hb0
      show (0 : Int) ≤ _
      omega
    · have hnd : tnd r t = 0 := tnd_of hw (fun j hj => absurd hj (by omega)) (Int.lt_trans g2 (tbeg_ten hw 0))
      unfold tTu tBe
      rw [hnd, decide_eq_false (by omega)]
      simp
  obtain ⟨w', p1, p2, p3, p4⟩ := find_loop (N := N) hN hw 1250 N 0 0 0 0 w (by omega) (by omega) hr h0
  refine ⟨w', p1, p2, Or.inr ⟨p3, ?_⟩, p3⟩
  rw [p2.row, hr]
  exact p4
theorem stillAt_eq (hN : 20000 ≤ N) (hw : WFt (w.1 56)) (hT : TOK w) {t : Nat} (ht : t < 14000) : ∃ w', fX8_stillAt N w (iZ t) = some (w', iZ (tSt (w.1 56) t : Nat)) ∧ R8 w w' ∧ TOK w' := by
  unfold fX8_stillAt fX8_stillAt_0 fX8_stillAt_11
  have c : ibd (iZ (t : Int)) 14000 = true := (ibd_iZ (by omega) (by omega)).mpr (by omega)
  have ec : (iZ (t : Int)).toNatClampNeg = t := by rw [iZ_clamp (by omega) (by omega), Int.toNat_natCast]
  simp only [if_pos c, ec]
  rcases hT with q | q
  · obtain ⟨w', p1, p2, p3, p4⟩ := findTides_eq (N := N) hN hw rfl
    rw [if_pos q, p1]
    refine ⟨w', ?_, p2, p3⟩
    rcases p3 with z | z
    · rw [p4] at z
      exact absurd z (by decide)
    · simp only [Option.bind_some]
      rw [(z.2 t ht).2, p2.row]
  · rw [if_neg (by rw [q.1]; decide), (q.2 t ht).2]
    exact ⟨w, rfl, R8.rf, Or.inr q⟩
theorem turnedAt_eq (hN : 20000 ≤ N) (hw : WFt (w.1 56)) (hT : TOK w) {t : Nat} (ht : t < 14000) : ∃ w', fX8_turnedAt N w (iZ t) = some (w', iZ (tTu (w.1 56) t : Nat)) ∧ R8 w w' ∧ TOK w' := by
  unfold fX8_turnedAt fX8_turnedAt_0 fX8_turnedAt_11
  have c : ibd (iZ (t : Int)) 14000 = true := (ibd_iZ (by omega) (by omega)).mpr (by omega)
  have ec : (iZ (t : Int)).toNatClampNeg = t := by rw [iZ_clamp (by omega) (by omega), Int.toNat_natCast]
  simp only [if_pos c, ec]
  rcases hT with q | q
  · obtain ⟨w', p1, p2, p3, p4⟩ := findTides_eq (N := N) hN hw rfl
    rw [if_pos q, p1]
    refine ⟨w', ?_, p2, p3⟩
    rcases p3 with z | z
    · rw [p4] at z
      exact absurd z (by decide)
    · simp only [Option.bind_some]
      rw [(z.2 t ht).1, p2.row]
  · rw [if_neg (by rw [q.1]; decide), (q.2 t ht).1]
    exact ⟨w, rfl, R8.rf, Or.inr q⟩
end X8
