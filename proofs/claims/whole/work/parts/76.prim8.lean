/-! the reference's steps over tokens: it goes on where something is wrong, but stands still -/
def TS (B : Nat → Int) (U q : Nat) (wr : Bool) (w : xW) : Prop := TM B U q w ∧ w.1 55 23 = bi wr
def Rn (w w' : xW) : Prop := w'.2 = w.2 ∧ ∀ q k, ¬ (q = 55 ∧ 19 ≤ k ∧ k ≤ 23) → w'.1 q k = w.1 q k
theorem Rn.rf {w : xW} : Rn w w := ⟨rfl, fun _ _ _ => rfl⟩
theorem Rn.tr {a b c : xW} (h : Rn a b) (g : Rn b c) : Rn a c := ⟨g.1.trans h.1, fun q k h1 => (g.2 q k h1).trans (h.2 q k h1)⟩
theorem Rm.n {w w' : xW} (h : Rm w w') : Rn w w' := ⟨h.1, fun q k h1 => h.2 q k (by omega)⟩
theorem Rn.w23 {w : xW} {v : Int32} : Rn w (sI w 55 23 v) := ⟨rfl, fun q j h1 => by rw [sI_r, if_neg (by omega)]⟩
theorem TapM.rn {B : Nat → Int} {U : Nat} {w w' : xW} (h : TapM B U w) (g : Rn w w') : TapM B U w' := ⟨by rw [g.2 55 18 (by omega)]; exact h.1, h.2.1, h.2.2.1, fun i hi => by rw [g.2 70 i (by omega)]; exact h.2.2.2 i hi⟩
theorem TM.w23 {B : Nat → Int} {U q : Nat} {w : xW} {v : Int32} (h : TM B U q w) : TM B U q (sI w 55 23 v) := by
  obtain ⟨h1, h2, h3, h4⟩ := h
  exact ⟨by rw [sI_r, if_neg (by omega)]; exact h1, by rw [sI_r, if_neg (by omega)]; exact h2, by rw [sI_r, if_neg (by omega)]; exact h3, by rw [sI_r, if_neg (by omega)]; exact h4⟩
section PRIM8
variable {B : Nat → Int} {U N : Nat} {w : xW}
theorem must17t {q : Nat} (h : TM B U q w) : ∃ w', fX8_must_17 N w 1 = some w' ∧ Rn w w' ∧ TS B U q true w' := by
  unfold fX8_must_17
  have e : (sI w 55 23 1).1 55 23 = 1 := by rw [sI_r, if_pos ⟨rfl, rfl⟩]
  rw [if_pos (show xB 1 = true from rfl), e, if_neg n10]
  exact ⟨_, rfl, Rn.w23, h.w23, e⟩
theorem must8n {q : Nat} (h : TS B U q false w) : ∃ w', fX8_must N w 0 = some w' ∧ Rn w w' ∧ TS B U q true w' := by
  unfold fX8_must fX8_must_0
  rw [h.2, if_pos bF, if_pos rfl]
  exact must17t h.1
theorem must8y (hN : 20000 ≤ N) {q : Nat} (hq : TQ B U q) (hT : TapM B U w) (h : TS B U q false w) : ∃ w', fX8_must N w 1 = some w' ∧ Rn w w' ∧ TS B U (nxt B U q) false w' := by
  unfold fX8_must fX8_must_0 fX8_must_17
  have e : (sI w 55 23 0).1 55 23 = 0 := by rw [sI_r, if_pos ⟨rfl, rfl⟩]
  rw [h.2, if_pos bF, if_neg n10, if_pos (show xB 0 = true from rfl), e, if_pos rfl]
  obtain ⟨w', g1, g2, g3⟩ := next8 hN (te_spec hq).1 (hT.rn Rn.w23) (w := sI w 55 23 0) (h.1.w23).2.1
  rw [g1]
  refine ⟨w', rfl, Rn.w23.tr g2.n, g3, ?_⟩
  rw [g2.2 55 23 (by omega), e]
  rfl
theorem must8w {q : Nat} (b : Int32) (h : TS B U q true w) : ∃ w', fX8_must N w b = some w' ∧ Rn w w' ∧ TS B U q true w' := by
  unfold fX8_must fX8_must_0
  rw [h.2, if_neg bT]
  exact must17t h.1
theorem isW8_loop {q j : Nat} (hj : j < 17) (hT : TapM B U w) (h3 : w.1 55 19 = iZ (q : Nat)) (hl : q + kln j ≤ U) : ∀ (n m k : Nat), n < m → k + n = kln j → fX8_isWord_32 N w j m 1 (iZ (k : Nat)) = some (bi (isC B j q n k))
  | _, 0, _, hm, _ => absurd hm (by omega)
  | 0, m + 1, k, _, hk => by
    obtain ⟨k6, kx⟩ := klen_s j hj
    rw [fX8_isWord_32, isC]
    unfold fX8_isWord_32b
    rw [kx, if_pos (by rw [iZ_le (by omega) (by omega) (by omega) (by omega)]; omega), if_pos (show xB 1 = true from rfl)]
    rfl
  | n + 1, m + 1, k, hm, hk => by
    obtain ⟨k6, kx⟩ := klen_s j hj
    have hU := hT.2.1
    have x := xch_s j hj k (by omega)
    have b := hT.2.2.1 (q + k) (by omega)
    have xc : xchar j (iZ (k : Nat)) = some (xch j k) := by
      unfold xchar
      rw [if_pos ((ibd_iZ (by omega) (by omega)).mpr ⟨by omega, by show ((k : Nat) : Int) < ((kln j : Nat) : Int); omega⟩), iZ_clamp (by omega) (by omega), Int.toNat_natCast]
    rw [fX8_isWord_32, isC]
    unfold fX8_isWord_32b fX8_isWord_68
    rw [kx, if_neg (by rw [iZ_le (by omega) (by omega) (by omega) (by omega)]; omega), if_neg n10, h3, iZ_add, show (q : Int) + (k : Int) = ((q + k : Nat) : Int) by omega, if_pos ((ibd_iZ (by omega) (by omega)).mpr (by omega)), xc, Option.bind_some, iZ_clamp (by omega) (by omega), Int.toNat_natCast, hT.2.2.2 (q + k) (by omega), iZ_s1]
    by_cases z : B (q + k) = (xch j k).toInt
    · rw [if_pos (by rw [z, iZ_self]), decide_eq_true z, Bool.true_and]
      exact isW8_loop hj hT h3 hl n m (k + 1) (by omega) (by omega)
    · rw [if_neg (fun e => z (by rw [← e, iZ_toInt (by omega) (by omega)])), decide_eq_false z, Bool.false_and]
      obtain ⟨m', rfl⟩ : ∃ m', m = m' + 1 := ⟨m - 1, by omega⟩
      rw [fX8_isWord_32]
      unfold fX8_isWord_32b
      by_cases y : iZ (kln j : Nat) ≤ iZ ((k + 1 : Nat) : Int)
      · rw [kx, if_pos y, if_pos (show xB 0 = true from rfl)]
        rfl
      · rw [kx, if_neg y, if_pos rfl, if_pos (show xB 0 = true from rfl)]
        rfl
theorem isW8_no {j : Nat} (hj : j < 17) {m : Nat} (hm : 0 < m) : fX8_isWord_32 N w j m 0 0 = some 0 := by
  obtain ⟨m', rfl⟩ : ∃ m', m = m' + 1 := ⟨m - 1, by omega⟩
  rw [fX8_isWord_32]
  unfold fX8_isWord_32b
  split
  · rw [if_pos (show xB 0 = true from rfl)]
  · rw [if_pos rfl, if_pos (show xB 0 = true from rfl)]
theorem isWord8 (hN : 20000 ≤ N) {q j : Nat} (hj : j < 17) (hq : TQ B U q) (hT : TapM B U w) (h : TM B U q w) : fX8_isWord N w j = some (bi (isW B U j q)) := by
  obtain ⟨k6, kx⟩ := klen_s j hj
  have hU := hT.2.1
  have tr := ty_rng (B := B) (U := U) q
  obtain ⟨e1, e2, e3, e4⟩ := te_spec hq
  obtain ⟨h3, h4, h2, -⟩ := h
  have t8 : ty8 B U q = 1 ↔ ty B U q = 1 := by unfold ty8; split <;> omega
  have t8r : ty8 B U q ≤ 3 := by unfold ty8; split <;> omega
  unfold fX8_isWord fX8_isWord_0 fX8_isWord_29 isW
  rw [if_pos hj, h2, h3, h4, iZ_sub, kx]
  by_cases a : ty B U q = 1
  · rw [if_pos (by rw [t8.mpr a]; rfl), decide_eq_true a, Bool.true_and]
    by_cases b : te B U q - q = kln j
    · rw [if_pos (by congr 1; omega), decide_eq_true b, Bool.true_and]
      exact isW8_loop hj hT h3 (by omega) (kln j) N 0 (by omega) (by omega)
    · rw [if_neg (by rw [iZ_eq (by omega) (by omega) (by omega) (by omega)]; omega), decide_eq_false b, Bool.false_and]
      exact isW8_no hj (by omega)
  · rw [if_neg (by rw [show (1 : Int32) = iZ 1 from rfl, iZ_eq (by omega) (by omega) (by omega) (by omega)]; intro y; exact a (t8.mp (by omega))), decide_eq_false a, Bool.false_and]
    exact isW8_no hj (by omega)
theorem num8_gen {q : Nat} {lo hi : Int} (l0 : -1000 ≤ lo ∧ lo ≤ 20000) (h0 : -1000 ≤ hi ∧ hi ≤ 20000) (hq : TQ B U q) (hT : TapM B U w) (h : TM B U q w) : fX8_number N w (iZ lo) (iZ hi) = (fX8_must N w (bi (nmB B U lo hi q))).bind fun z1 => some (z1, iZ (vl8 B U q)) := by
  have tr := ty_rng (B := B) (U := U) q
  obtain ⟨-, -, h2, h4⟩ := h
  have t8 : ty8 B U q = 2 ↔ ty B U q = 2 := by unfold ty8; split <;> omega
  have t8r : ty8 B U q ≤ 3 := by unfold ty8; split <;> omega
  unfold fX8_number fX8_number_0 fX8_number_28 nmB
  rw [h2, h4]
  by_cases a : ty B U q = 2
  · have v := vl_rng hT.2.2.1 hq a
    have e8 : vl8 B U q = vl B U q := by unfold vl8; rw [if_pos a]
    rw [if_pos (by rw [t8.mpr a]; rfl), decide_eq_true a, Bool.true_and, e8, win_b lo hi (by omega) (by omega) (by omega)]
    by_cases b : lo ≤ vl B U q ∧ vl B U q ≤ hi
    · rw [decide_eq_true b, decide_eq_true b.1, decide_eq_true b.2, if_neg bT]
      rfl
    · rw [decide_eq_false b, if_pos bF]
      by_cases c : lo ≤ vl B U q
      · rw [decide_eq_true c, decide_eq_false (fun y => b ⟨c, y⟩)]
        rfl
      · rw [decide_eq_false c]
        rfl
  · rw [if_neg (by rw [show (2 : Int32) = iZ 2 from rfl, iZ_eq (by omega) (by omega) (by omega) (by omega)]; intro y; exact a (t8.mp (by omega))), decide_eq_false a, Bool.false_and]
    rfl
theorem num8n {lo hi : Int} (l0 : -1000 ≤ lo ∧ lo ≤ 20000) (h0 : -1000 ≤ hi ∧ hi ≤ 20000) {q qf : Nat} (hq : TQ B U q) (hT : TapM B U w) (h : TS B U q false w) (e : nm B U lo hi q = .inl qf) : ∃ w' v, fX8_number N w (iZ lo) (iZ hi) = some (w', v) ∧ Rn w w' ∧ TS B U qf true w' ∧ qf = q := by
  obtain ⟨e1, rfl⟩ := nm_no e
  obtain ⟨w', g1, g2, g3⟩ := must8n (N := N) h
  refine ⟨w', iZ (vl8 B U qf), ?_, g2, g3, rfl⟩
  rw [num8_gen l0 h0 hq hT h.1, e1, show bi false = 0 from rfl, g1]
  rfl
theorem num8y (hN : 20000 ≤ N) {lo hi : Int} (l0 : -1000 ≤ lo ∧ lo ≤ 20000) (h0 : -1000 ≤ hi ∧ hi ≤ 20000) {q q1 : Nat} {v : Int} (hq : TQ B U q) (hT : TapM B U w) (h : TS B U q false w) (e : nm B U lo hi q = .inr (v, q1)) : ∃ w', fX8_number N w (iZ lo) (iZ hi) = some (w', iZ v) ∧ Rn w w' ∧ TS B U q1 false w' ∧ TQ B U q1 := by
  obtain ⟨e1, rfl, rfl, -, -, ht⟩ := nm_yes e
  obtain ⟨w', g1, g2, g3⟩ := must8y hN hq hT h
  refine ⟨w', ?_, g2, g3, (nxt_spec hq).1⟩
  rw [num8_gen l0 h0 hq hT h.1, e1, show bi true = 1 from rfl, g1]
  unfold vl8
  rw [if_pos ht]
  rfl
theorem num8w {lo hi : Int} (l0 : -1000 ≤ lo ∧ lo ≤ 20000) (h0 : -1000 ≤ hi ∧ hi ≤ 20000) {q : Nat} (hq : TQ B U q) (hT : TapM B U w) (h : TS B U q true w) : ∃ w' v, fX8_number N w (iZ lo) (iZ hi) = some (w', v) ∧ Rn w w' ∧ TS B U q true w' := by
  obtain ⟨w', g1, g2, g3⟩ := must8w (N := N) (bi (nmB B U lo hi q)) h
  refine ⟨w', iZ (vl8 B U q), ?_, g2, g3⟩
  rw [num8_gen l0 h0 hq hT h.1, g1]
  rfl
theorem per8 (hN : 20000 ≤ N) {j : Nat} (hj : j < 17) {lo hi : Int} (l0 : -1000 ≤ lo ∧ lo ≤ 20000) (h0 : -1000 ≤ hi ∧ hi ≤ 20000) {q : Nat} (hq : TQ B U q) (hT : TapM B U w) (h : TS B U q false w) : match opn B U j lo hi q with | .inl qf => ∃ w' v, fX8_perhaps N w j (iZ lo) (iZ hi) (-1) = some (w', v) ∧ Rn w w' ∧ TS B U qf true w' ∧ TQ B U qf | .inr (v, q1) => ∃ w', fX8_perhaps N w j (iZ lo) (iZ hi) (-1) = some (w', iZ v) ∧ Rn w w' ∧ TS B U q1 false w' ∧ TQ B U q1 := by
  unfold fX8_perhaps fX8_perhaps_0 opn
  rw [if_pos hj, h.2, if_pos bF, isWord8 hN hj hq hT h.1, Option.bind_some]
  cases isW B U j q with
  | false =>
    rw [if_neg (show ¬ (false = true) by decide), if_pos bF]
    exact ⟨w, rfl, Rn.rf, h, hq⟩
  | true =>
    obtain ⟨w1, a1, a2, a3⟩ := must8y hN hq hT h
    have tq := (nxt_spec hq).1
    rw [if_pos (show true = true from rfl), if_neg bT, a1, Option.bind_some]
    cases e : nm B U lo hi (nxt B U q) with
    | inl qf =>
      obtain ⟨w2, v, b1, b2, b3, b4⟩ := num8n (N := N) l0 h0 tq (hT.rn a2) a3 e
      rw [b1, Option.bind_some]
      exact ⟨w2, v, rfl, a2.tr b2, b3, by rw [b4]; exact tq⟩
    | inr z =>
      obtain ⟨v, q1⟩ := z
      obtain ⟨w2, b1, b2, b3, b4⟩ := num8y hN l0 h0 tq (hT.rn a2) a3 e
      rw [b1, Option.bind_some]
      exact ⟨w2, rfl, a2.tr b2, b3, b4⟩
theorem per8w {j : Nat} (hj : j < 17) {lo hi : Int32} {q : Nat} (h : TS B U q true w) : fX8_perhaps N w j lo hi (-1) = some (w, -1) := by
  unfold fX8_perhaps fX8_perhaps_0
  rw [if_pos hj, h.2, if_neg bT]
theorem which8_loop (hN : 20000 ≤ N) {q : Nat} (hq : TQ B U q) (hT : TapM B U w) (h : TM B U q w) : ∀ (j m k : Nat) (acc : Int), j < m → k + j = 6 → fX8_which_4 N w m (iZ acc) (iZ (k : Nat)) = some (iZ (if k ≤ wj B U q ∧ wj B U q < 6 then (wj B U q : Int) else acc))
  | _, 0, _, _, hm, _ => absurd hm (by omega)
  | 0, m + 1, k, acc, _, hk => by
    obtain rfl : k = 6 := by omega
    rw [fX8_which_4]
    unfold fX8_which_4b
    rw [if_pos (by decide), if_neg (by omega)]
  | j + 1, m + 1, k, acc, hm, hk => by
    rw [fX8_which_4]
    unfold fX8_which_4b fX8_which_25
    rw [if_neg (by rw [show (6 : Int32) = iZ 6 from rfl, iZ_le (by omega) (by omega) (by omega) (by omega)]; omega), if_pos ((ibd_iZ (by omega) (by omega)).mpr (by omega)), iZ_clamp (by omega) (by omega), Int.toNat_natCast, isWord8 hN (by omega) hq hT h, Option.bind_some, isW_eq q (by omega), iZ_s1]
    by_cases z : wj B U q = k
    · rw [decide_eq_true z, if_neg bT, which8_loop hN hq hT h j m (k + 1) k (by omega) (by omega), if_neg (by omega), if_pos (by omega), z]
    · rw [decide_eq_false z, if_pos bF, which8_loop hN hq hT h j m (k + 1) acc (by omega) (by omega)]
      by_cases y : k ≤ wj B U q ∧ wj B U q < 6
      · rw [if_pos y, if_pos (by omega)]
      · rw [if_neg y, if_neg (by omega)]
theorem which8i_loop (hN : 20000 ≤ N) {q : Nat} (hq : TQ B U q) (hT : TapM B U w) (h : TM B U q w) : ∀ (j m k : Nat) (acc : Int), j < m → k + j = 3 → fX8_which_i1_4 N w m (iZ acc) (iZ (k : Nat)) = some (iZ (if 6 + k ≤ wj B U q ∧ wj B U q < 9 then (wj B U q : Int) - 6 else acc))
  | _, 0, _, _, hm, _ => absurd hm (by omega)
  | 0, m + 1, k, acc, _, hk => by
    obtain rfl : k = 3 := by omega
    rw [fX8_which_i1_4]
    unfold fX8_which_i1_4b
    rw [if_pos (by decide), if_neg (by omega)]
  | j + 1, m + 1, k, acc, hm, hk => by
    rw [fX8_which_i1_4]
    unfold fX8_which_i1_4b fX8_which_i1_25
    rw [if_neg (by rw [show (3 : Int32) = iZ 3 from rfl, iZ_le (by omega) (by omega) (by omega) (by omega)]; omega), if_pos ((ibd_iZ (by omega) (by omega)).mpr (by omega)), iZ_clamp (by omega) (by omega), Int.toNat_natCast, isWord8 hN (by omega) hq hT h, Option.bind_some, isW_eq q (by omega), iZ_s1]
    by_cases z : wj B U q = 6 + k
    · rw [decide_eq_true z, if_neg bT, which8i_loop hN hq hT h j m (k + 1) k (by omega) (by omega), if_neg (by omega), if_pos (by omega), z]
      congr 2
      omega
    · rw [decide_eq_false z, if_pos bF, which8i_loop hN hq hT h j m (k + 1) acc (by omega) (by omega)]
      by_cases y : 6 + k ≤ wj B U q ∧ wj B U q < 9
      · rw [if_pos y, if_pos (by omega)]
      · rw [if_neg y, if_neg (by omega)]
end PRIM8
