/-! exchange -/
section R8S
variable {w : xW} {r : Nat → Int32} {N : Nat}
theorem sideOf8R (hN : 20000 ≤ N) (hw : WFt (w.1 56)) (hT : TOK w) {f : Int} (f0 : 0 ≤ f) (f3 : f ≤ 3) {t : Nat} (ht : t < 14000) : ∃ w', fX8_sideOf N w (iZ f) (iZ t) = some (w', iZ (tSide (w.1 56) f t)) ∧ R8 w w' ∧ TOK w' := by
  unfold fX8_sideOf fX8_sideOf_0 tSide
  obtain ⟨w1, p1, p2, p3⟩ := stillAt_eq hN hw hT ht
  rw [p1]
  simp only [Option.bind_some]
  cases hb : tBe (w.1 56) t with
  | true =>
    rw [if_pos ((st_z ht).mpr hb), if_pos rfl]
    exact ⟨w1, rfl, p2, p3⟩
  | false =>
    rw [if_neg (fun q => by rw [(st_z ht).mp q] at hb; cases hb), if_neg (by decide)]
    obtain ⟨w2, q1, q2, q3⟩ := turnedAt_eq hN (by rw [p2.row]; exact hw) p3 ht
    have hl := tTu_le hw (t := t) (by omega)
    rw [q1]
    simp only [Option.bind_some]
    rw [p2.row, iZ_add, show (4 : Int32) = iZ 4 from rfl, iZ_rem (by omega) (by omega) (by omega) (by omega)]
    exact ⟨w2, rfl, p2.tr q2, q3⟩
theorem gain8R (hN : 20000 ≤ N) (hr' : w.1 56 = r) (hw : WFt r) (hT : TOK w) {k : Nat} (hk : k < 6) {f : Int} (f0 : 0 ≤ f) (f3 : f ≤ 3) {t : Nat} (ht : t < 14000) : ∃ w', fX8_gainOf N w (iZ k) (iZ f) (iZ t) = some (w', iZ (gaT r k f t)) ∧ R8 w w' ∧ TOK w' := by
  subst hr'
  obtain ⟨w1, p1, p2, p3⟩ := sideOf8R hN hw hT f0 f3 ht
  have b := tSide_rng (w.1 56) f t
  refine ⟨w1, ?_, p2, p3⟩
  unfold fX8_gainOf fX8_gainOf_0
  rw [p1, Option.bind_some, hour8 (by omega)]
  show (if fX8_sun (iZ (tSide (w.1 56) f t)) (iZ (hr t)) ≤ 0 then _ else _) = _
  rw [mid8 p2.row hk b.1 b.2 (hr_lt t)]
  unfold gaT gaZ
  rw [iZ_self]
theorem sum8R_loop (hN : 20000 ≤ N) (hw : WFt r) {k : Nat} (hk : k < 6) {x1 : Int32} {f : Int} (f0 : 0 ≤ f) (f3 : f ≤ 3) {a n : Nat} (ha : a + n < 14000) (hkd : ∀ u : xW, u.1 56 = r → fX8_kindOf u x1 = some (iZ k)) : ∀ (j m i : Nat) (w : xW), j < m → i + j = n → w.1 56 = r → TOK w → ∃ w', fX8_sumOf_6 N m w x1 (iZ f) (iZ a) (iZ n) (iZ (gaS r k f a i)) (iZ ((a + i : Nat) : Int)) = some (w', iZ (gaS r k f a n)) ∧ R8 w w' ∧ TOK w'
  | _, 0, _, _, hm, _, _, _ => absurd hm (by omega)
  | 0, m + 1, i, w, _, hi, hr', hT => by
    obtain rfl : i = n := by omega
    rw [fX8_sumOf_6]
    unfold fX8_sumOf_6b
    rw [iZ_add, if_pos (by rw [iZ_le (by omega) (by omega) (by omega) (by omega)]; omega)]
    exact ⟨w, rfl, R8.rf, hT⟩
  | j + 1, m + 1, i, w, hm, hi, hr', hT => by
    rw [fX8_sumOf_6]
    unfold fX8_sumOf_6b
    rw [iZ_add, if_neg (by rw [iZ_le (by omega) (by omega) (by omega) (by omega)]; omega), hkd w hr', Option.bind_some]
    obtain ⟨w1, p1, p2, p3⟩ := gain8R hN hr' hw hT hk f0 f3 (t := a + i) (by omega)
    rw [p1, Option.bind_some]
    show ∃ w', fX8_sumOf_6 N m w1 x1 (iZ f) (iZ a) (iZ n) (iZ (gaS r k f a i) + iZ (gaT r k f (a + i))) (iZ ((a + i : Nat) : Int) + 1) = some (w', iZ (gaS r k f a n)) ∧ R8 w w' ∧ TOK w'
    obtain ⟨w2, q1, q2, q3⟩ := sum8R_loop hN hw hk f0 f3 ha hkd j m (i + 1) w1 (by omega) (by omega) (p2.row.trans hr') p3
    rw [iZ_add, iZ_s1]
    exact ⟨w2, q1, p2.tr q2, q3⟩
theorem sum8R (hN : 20000 ≤ N) (hr' : w.1 56 = r) (hw : WFr r) (hT : TOK w) {h : Nat} (h8 : h < 8) {k : Nat} (hk : k < 6) (ek : r (11 + 2 * h) = iZ k) {f : Int} (f0 : 0 ≤ f) (f3 : f ≤ 3) {a n : Nat} (ha : a + n < 14000) : ∃ w', fX8_sumOf N w (iZ h) (iZ f) (iZ a) (iZ n) = some (w', iZ (gaS r k f a n)) ∧ R8 w w' ∧ TOK w' := by
  obtain ⟨⟨i1, i2⟩, -, -, -⟩ := ix_h h h8
  unfold fX8_sumOf fX8_sumOf_0
  refine sum8R_loop hN hw.1 hk f0 f3 ha (fun u hu => ?_) n N 0 w (by omega) (by omega) hr' hT
  unfold fX8_kindOf fX8_kindOf_0
  rw [if_pos i1, i2, hu, ek]
end R8S
section EXC
variable {w : xW} {N : Nat}
def exI (D : Nat → Nat → Int) (i : Nat) : Nat → Nat → Int × Int → Int × Int
  | 0, _, s => s
  | n + 1, j, s => exI D i n (j + 1) (if D i j ≤ s.2 then s else (10 * (i : Int) + j, D i j))
def exO (D : Nat → Nat → Int) (H : Nat) : Nat → Nat → Int × Int → Int × Int
  | 0, _, s => s
  | n + 1, i, s => exO D H n (i + 1) (exI D i (H - (i + 1)) (i + 1) s)
def exS (r : Nat → Int32) (a n i j : Nat) : Int := gaS r (hK r i) (hF r j) a n
def exD (r : Nat → Int32) (a n i j : Nat) : Int := if exS r a n i j < exS r a n i i then 0 else if exS r a n j i < exS r a n j j then 0 else (exS r a n i j - exS r a n i i) + (exS r a n j i - exS r a n j j)
def exB (s : Int × Int) : Prop := (-1 ≤ s.1 ∧ s.1 ≤ 1000) ∧ 0 ≤ s.2 ∧ s.2 ≤ 100000
def exG (D : Nat → Nat → Int) (H : Nat) : Prop := ∀ i j, i < H → j < H → 0 ≤ D i j ∧ D i j ≤ 100000
theorem exI_b {D : Nat → Nat → Int} {H : Nat} (hD : exG D H) (h8 : H ≤ 8) {i : Nat} (hi : i < H) : ∀ (n j : Nat) (s : Int × Int), j + n = H → exB s → exB (exI D i n j s)
  | 0, _, _, _, h => h
  | n + 1, j, s, hj, h => by
    rw [exI]
    refine exI_b hD h8 hi n (j + 1) _ (by omega) ?_
    have := hD i j hi (by omega)
    split
    · exact h
    · exact ⟨⟨by show (-1 : Int) ≤ 10 * (i : Int) + j; omega, by show 10 * (i : Int) + (j : Int) ≤ 1000; omega⟩, this⟩
theorem reck_loop (hN : 20000 ≤ N) {a n : Nat} {r : Nat → Int32} (e1 : w.1 1 1 = r 7) (e2 : w.1 1 2 = r 8) : ∀ (j m i : Nat) (u : xW), j < m → i + j = 24 → RT w u → (∀ c, c < 120 → u.1 32 c = iZ (gcn r a n c)) → (∀ c, c < i → u.1 33 c = iZ (gaS r (c / 4) ((c % 4 : Nat) : Int) a n)) → ∃ w', fX3_reckonAll_2 N m u (iZ i) = some w' ∧ RT w w' ∧ ∀ c, c < 24 → w'.1 33 c = iZ (gaS r (c / 4) ((c % 4 : Nat) : Int) a n)
  | _, 0, _, _, hm, _, _, _, _ => absurd hm (by omega)
  | 0, m + 1, i, u, _, hi, hR, hc, hd => by
    obtain rfl : i = 24 := by omega
    rw [fX3_reckonAll_2]
    unfold fX3_reckonAll_2b
    rw [if_pos (show (24 : Int32) ≤ iZ ((24 : Nat) : Int) by decide)]
    exact ⟨u, rfl, hR, hd⟩
  | j + 1, m + 1, i, u, hm, hi, hR, hc, hd => by
    rw [fX3_reckonAll_2]
    unfold fX3_reckonAll_2b
    have r1 : u.1 1 = w.1 1 := hR.2 1 (by omega) (by omega) (by omega)
    have s := sumOf_eq hN (w := u) (r := r) (by rw [r1]; exact e1) (by rw [r1]; exact e2) hc (k := i / 4) (f := ((i % 4 : Nat) : Int)) (by omega) (by omega)
    rw [if_neg (by rw [show (24 : Int32) = iZ 24 from rfl, iZ_le (by omega) (by omega) (by omega) (by omega)]; omega), show (4 : Int32) = iZ 4 from rfl, iZ_div (by omega) (by omega) (by omega) (by omega), iZ_rem (by omega) (by omega) (by omega) (by omega), show ((i : Int) / 4) = ((i / 4 : Nat) : Int) by omega, show ((i : Int) % 4) = ((i % 4 : Nat) : Int) by omega, s, Option.bind_some, if_pos ((ibd_iZ (by omega) (by omega)).mpr (by omega)), iZ_clamp (by omega) (by omega), Int.toNat_natCast, iZ_s1]
    refine reck_loop hN e1 e2 j m (i + 1) _ (by omega) (by omega) (hR.tr ⟨rfl, fun q _ _ g => funext fun k => by rw [sI_r, if_neg (by omega)]⟩) (fun c g => by rw [sI_r, if_neg (by omega)]; exact hc c g) (fun c g => ?_)
    rw [sI_r]
    by_cases z : c = i
    · subst z
      rw [if_pos ⟨rfl, rfl⟩]
    · rw [if_neg (by omega)]
      exact hd c (by omega)
theorem cell33 {r : Nat → Int32} {a n : Nat} (h : ∀ c, c < 24 → w.1 33 c = iZ (gaS r (c / 4) ((c % 4 : Nat) : Int) a n)) {k : Nat} (hk : k < 6) {f : Int} (f0 : 0 ≤ f) (f3 : f ≤ 3) : ibd (iZ (k : Int) * 4 + iZ f) 24 = true ∧ w.1 33 (iZ (k : Int) * 4 + iZ f).toNatClampNeg = iZ (gaS r k f a n) := by
  obtain ⟨g, rfl, g4⟩ : ∃ g : Nat, f = g ∧ g < 4 := ⟨f.toNat, by omega, by omega⟩
  have e : iZ (k : Int) * 4 + iZ (g : Int) = iZ ((4 * k + g : Nat) : Int) := by
    rw [show (4 : Int32) = iZ 4 from rfl, iZ_mul, iZ_add]
    congr 1
    omega
  rw [e, iZ_clamp (by omega) (by omega), Int.toNat_natCast, h _ (by omega), show (4 * k + g) / 4 = k by omega, show (4 * k + g) % 4 = g by omega]
  exact ⟨(ibd_iZ (by omega) (by omega)).mpr (by omega), rfl⟩
theorem iZ_neg0 {a : Int} (h1 : -2147483648 ≤ a) (h2 : a < 2147483648) : iZ a < 0 ↔ a < 0 := by rw [show (0 : Int32) = iZ 0 from rfl, iZ_lt h1 h2 (by omega) (by omega)]
theorem iZ_nn0 {a : Int} (h1 : -2147483648 ≤ a) (h2 : a < 2147483648) : 0 ≤ iZ a ↔ 0 ≤ a := by rw [show (0 : Int32) = iZ 0 from rfl, iZ_le (by omega) (by omega) h1 h2]
theorem more_eq {r : Nat → Int32} {a n H : Nat} (h8 : H ≤ 8) (h : ∀ c, c < 24 → w.1 33 c = iZ (gaS r (c / 4) ((c % 4 : Nat) : Int) a n)) (hd : ∀ h, h < H → hK r h < 6 ∧ (0 ≤ hF r h ∧ hF r h ≤ 3) ∧ w.1 5 h = iZ (hK r h) ∧ w.1 6 h = iZ (hF r h)) (hb : ∀ i j, i < H → j < H → 0 ≤ exS r a n i j ∧ exS r a n i j ≤ 17280) {i j : Nat} (hi : i < H) (hj : j < H) : fX7_moreByExchange w (iZ i) (iZ j) = some (iZ (exD r a n i j)) := by
  obtain ⟨-, -, i5, i6⟩ := ix_h i (by omega)
  obtain ⟨-, -, j5, j6⟩ := ix_h j (by omega)
  obtain ⟨a1, ⟨a2, a3⟩, a4, a5⟩ := hd i hi
  obtain ⟨b1, ⟨b2, b3⟩, b4, b5⟩ := hd j hj
  obtain ⟨ij1, ij2⟩ := cell33 h a1 b2 b3
  obtain ⟨ii1, ii2⟩ := cell33 h a1 a2 a3
  obtain ⟨ji1, ji2⟩ := cell33 h b1 a2 a3
  obtain ⟨jj1, jj2⟩ := cell33 h b1 b2 b3
  have m1 := hb i j hi hj
  have m2 := hb i i hi hi
  have m3 := hb j i hj hi
  have m4 := hb j j hj hj
  unfold fX7_moreByExchange fX7_moreByExchange_0 fX7_moreByExchange_132
  rw [if_pos i5, if_pos j5, i6, j6, a4, a5, b4, b5, if_pos ij1, if_pos ii1, if_pos ji1, if_pos jj1, ij2, ii2, ji2, jj2]
  change (if iZ (exS r a n i j) - iZ (exS r a n i i) < 0 then _ else if 0 ≤ iZ (exS r a n j i) - iZ (exS r a n j j) then some (iZ (exS r a n i j) - iZ (exS r a n i i) + (iZ (exS r a n j i) - iZ (exS r a n j j))) else _) = _
  rw [iZ_sub, iZ_sub, iZ_add]
  unfold exD
  by_cases z : exS r a n i j < exS r a n i i
  · rw [if_pos ((iZ_neg0 (by omega) (by omega)).mpr (by omega)), if_pos z]
    rfl
  · rw [if_neg (fun q => by have := (iZ_neg0 (by omega) (by omega)).mp q; omega), if_neg z]
    by_cases y : exS r a n j i < exS r a n j j
    · rw [if_neg (fun q => by have := (iZ_nn0 (by omega) (by omega)).mp q; omega), if_pos y]
      rfl
    · rw [if_pos ((iZ_nn0 (by omega) (by omega)).mpr (by omega)), if_neg y]
def c7 (p : Int) : Int32 := if p < 0 then iZ (-1000000004) else iZ p
theorem exI7 {D : Nat → Nat → Int} {H : Nat} (hD : exG D H) (h8 : H ≤ 8) (h13 : w.1 1 3 = iZ H) {i : Nat} (hi : i < H) (hm : ∀ j, j < H → fX7_moreByExchange w (iZ i) (iZ j) = some (iZ (D i j))) (K : xW → Int32 → Int32 → Int32 → Option (xW × Int32)) : ∀ (n m j : Nat) (s : Int × Int), n < m → j + n = H → exB s → fX7_exchange_69 N K m w (c7 s.1) (iZ s.2) (iZ i) (iZ j) = K w (c7 (exI D i n j s).1) (iZ (exI D i n j s).2) (iZ ((i + 1 : Nat) : Int))
  | _, 0, _, _, hm, _, _ => absurd hm (by omega)
  | 0, m + 1, j, s, _, hj, _ => by
    obtain rfl : j = H := by omega
    rw [fX7_exchange_69]
    unfold fX7_exchange_69b
    rw [h13, if_pos (by rw [iZ_le (by omega) (by omega) (by omega) (by omega)]; omega), iZ_s1]
    rfl
  | n + 1, m + 1, j, s, hn, hj, hs => by
    have d := hD i j hi (by omega)
    obtain ⟨⟨s1, s2⟩, s3, s4⟩ := hs
    rw [fX7_exchange_69]
    unfold fX7_exchange_69b fX7_exchange_111
    rw [h13, if_neg (by rw [iZ_le (by omega) (by omega) (by omega) (by omega)]; omega), hm j (by omega), Option.bind_some, iZ_s1, exI]
    by_cases z : D i j ≤ s.2
    · rw [if_pos ((iZ_le (by omega) (by omega) (by omega) (by omega)).mpr z), if_pos z]
      exact exI7 hD h8 h13 hi hm K n m (j + 1) s (by omega) (by omega) ⟨⟨s1, s2⟩, s3, s4⟩
    · rw [if_neg (fun q => z ((iZ_le (by omega) (by omega) (by omega) (by omega)).mp q)), if_neg z]
      have := exI7 hD h8 h13 hi hm K n m (j + 1) (10 * (i : Int) + j, D i j) (by omega) (by omega) ⟨⟨by show (-1 : Int) ≤ 10 * (i : Int) + j; omega, by show 10 * (i : Int) + (j : Int) ≤ 1000; omega⟩, d⟩
      rw [← this, show c7 (10 * (i : Int) + j, D i j).1 = 10 * iZ (i : Int) + iZ (j : Int) by show c7 (10 * (i : Int) + j) = _; unfold c7; rw [if_neg (by omega), show (10 : Int32) = iZ 10 from rfl, iZ_mul, iZ_add]]
theorem exO7 {D : Nat → Nat → Int} {H : Nat} (hN : 20000 ≤ N) (hD : exG D H) (h8 : H ≤ 8) (h13 : w.1 1 3 = iZ H) (hm : ∀ i j, i < H → j < H → fX7_moreByExchange w (iZ i) (iZ j) = some (iZ (D i j))) : ∀ (n m i : Nat) (s : Int × Int), n < m → i + n = H → exB s → fX7_exchange_51 N m w (c7 s.1) (iZ s.2) (iZ i) = if (exO D H n i s).1 < 0 then fX7_refuse w (cd 3) else some (w, iZ (exO D H n i s).1)
  | _, 0, _, _, hm, _, _ => absurd hm (by omega)
  | 0, m + 1, i, s, _, hi, hs => by
    obtain rfl : i = H := by omega
    obtain ⟨⟨s1, s2⟩, s3, s4⟩ := hs
    rw [fX7_exchange_51]
    unfold fX7_exchange_51b
    rw [h13, if_pos (by rw [iZ_le (by omega) (by omega) (by omega) (by omega)]; omega), bind_id, exO, show (-1000000004 : Int32) = iZ (-1000000004) from rfl]
    unfold c7
    by_cases z : s.1 < 0
    · rw [if_pos z, if_pos rfl, if_pos z]
      rfl
    · rw [if_neg z, if_neg (by rw [iZ_eq (by omega) (by omega) (by omega) (by omega)]; omega), if_neg z]
  | n + 1, m + 1, i, s, hn, hi, hs => by
    rw [fX7_exchange_51]
    unfold fX7_exchange_51b
    rw [h13, if_neg (by rw [iZ_le (by omega) (by omega) (by omega) (by omega)]; omega), iZ_s1, exI7 hD h8 h13 (by omega) (fun j hj => hm i j (by omega) hj) _ (H - (i + 1)) N (i + 1) s (by omega) (by omega) hs, exO]
    exact exO7 hN hD h8 h13 hm n m (i + 1) _ (by omega) (by omega) (exI_b hD h8 (by omega) _ _ _ (by omega) hs)
/-! the reference -/
theorem tab8_loop (hN : 20000 ≤ N) {r : Nat → Int32} (hw : WFr r) {a n H : Nat} (ha : a + n < 14000) (h8 : H ≤ 8) (h9 : r 9 = iZ H) (hd : ∀ h, h < H → hK r h < 6 ∧ r (11 + 2 * h) = iZ (hK r h)) : ∀ (j m i : Nat) (u : xW), j < m → i + j = 4 * H → u.1 56 = r → TOK u → (∀ c, c < i → u.1 63 c = iZ (gaS r (hK r (c / 4)) ((c % 4 : Nat) : Int) a n)) → ∃ w', fX8_exchange_23 N m u (iZ a) (iZ n) (iZ i) = fX8_exchange_68 N N w' (-1) 0 0 ∧ G u w' ∧ w'.1 56 = r ∧ ∀ c, c < 4 * H → w'.1 63 c = iZ (gaS r (hK r (c / 4)) ((c % 4 : Nat) : Int) a n)
  | _, 0, _, _, hm, _, _, _, _ => absurd hm (by omega)
  | 0, m + 1, i, u, _, hi, e, hT, hc => by
    obtain rfl : i = 4 * H := by omega
    rw [fX8_exchange_23]
    unfold fX8_exchange_23b
    rw [e, h9, show (4 : Int32) = iZ 4 from rfl, iZ_mul, if_pos (by rw [iZ_le (by omega) (by omega) (by omega) (by omega)]; omega)]
    exact ⟨u, rfl, G.rf, e, hc⟩
  | j + 1, m + 1, i, u, hm, hi, e, hT, hc => by
    obtain ⟨d1, d2⟩ := hd (i / 4) (by omega)
    obtain ⟨u1, p1, p2, p3⟩ := sum8R hN e hw hT (show i / 4 < 8 by omega) d1 d2 (f := ((i % 4 : Nat) : Int)) (by omega) (by omega) ha
    rw [fX8_exchange_23]
    unfold fX8_exchange_23b
    rw [e, h9, show (4 : Int32) = iZ 4 from rfl, iZ_mul, if_neg (by rw [iZ_le (by omega) (by omega) (by omega) (by omega)]; omega), iZ_div (by omega) (by omega) (by omega) (by omega), iZ_rem (by omega) (by omega) (by omega) (by omega), show ((i : Int) / 4) = ((i / 4 : Nat) : Int) by omega, show ((i : Int) % 4) = ((i % 4 : Nat) : Int) by omega, p1, Option.bind_some, if_pos ((ibd_iZ (by omega) (by omega)).mpr (by omega)), iZ_clamp (by omega) (by omega), Int.toNat_natCast, iZ_s1]
    have row : ∀ q, q ≠ 63 → (sI u1 63 i (iZ (gaS r (hK r (i / 4)) ((i % 4 : Nat) : Int) a n))).1 q = u1.1 q := fun q g => funext fun k => by rw [sI_r, if_neg (by omega)]
    have g1 : G u1 (sI u1 63 i (iZ (gaS r (hK r (i / 4)) ((i % 4 : Nat) : Int) a n))) := by
      refine ⟨⟨fun q k hs => ?_, fun q _ => rfl⟩, fun h => ?_, fun h => ?_⟩
      · rw [sI_r, if_neg (fun z => hs (by unfold Sc; omega))]
      · unfold TOK at h ⊢
        rw [row 55 (by omega), row 56 (by omega), row 61 (by omega), row 62 (by omega)]
        exact h
      · unfold HOK at h ⊢
        rw [row 34 (by omega), row 56 (by omega), row 35 (by omega), row 36 (by omega), row 37 (by omega)]
        exact h
    have g0 : G u u1 := p2.toG (fun _ => p3)
    obtain ⟨w', q1, q2, q3, q4⟩ := tab8_loop hN hw ha h8 h9 hd j m (i + 1) _ (by omega) (by omega) (by rw [row 56 (by omega), p2.row, e]) (g1.2.1 p3) (fun c g => by
      rw [sI_r]
      by_cases z : c = i
      · subst z
        rw [if_pos ⟨rfl, rfl⟩]
      · rw [if_neg (by omega), p2.2 63 c (by omega) (by omega) (by omega)]
        exact hc c (by omega))
    exact ⟨w', q1, (g0.tr g1).tr q2, q3, q4⟩
theorem cell63 {r : Nat → Int32} {a n H : Nat} (h8 : H ≤ 8) (h : ∀ c, c < 4 * H → w.1 63 c = iZ (gaS r (hK r (c / 4)) ((c % 4 : Nat) : Int) a n)) {i : Nat} (hi : i < H) {f : Int} (f0 : 0 ≤ f) (f3 : f ≤ 3) : ibd (4 * iZ (i : Int) + iZ f) 32 = true ∧ w.1 63 (4 * iZ (i : Int) + iZ f).toNatClampNeg = iZ (gaS r (hK r i) f a n) := by
  obtain ⟨g, rfl, g4⟩ : ∃ g : Nat, f = g ∧ g < 4 := ⟨f.toNat, by omega, by omega⟩
  have e : 4 * iZ (i : Int) + iZ (g : Int) = iZ ((4 * i + g : Nat) : Int) := by
    rw [show (4 : Int32) = iZ 4 from rfl, iZ_mul, iZ_add]
    congr 1
  rw [e, iZ_clamp (by omega) (by omega), Int.toNat_natCast, h _ (by omega), show (4 * i + g) / 4 = i by omega, show (4 * i + g) % 4 = g by omega]
  exact ⟨(ibd_iZ (by omega) (by omega)).mpr (by omega), rfl⟩
theorem exI8 {r : Nat → Int32} {a n' H : Nat} (hD : exG (exD r a n') H) (h8 : H ≤ 8) (e : w.1 56 = r) (h9 : r 9 = iZ H) (h : ∀ c, c < 4 * H → w.1 63 c = iZ (gaS r (hK r (c / 4)) ((c % 4 : Nat) : Int) a n')) (hd : ∀ h, h < H → (0 ≤ hF r h ∧ hF r h ≤ 3) ∧ r (12 + 2 * h) = iZ (hF r h)) (hb : ∀ i j, i < H → j < H → 0 ≤ exS r a n' i j ∧ exS r a n' i j ≤ 17280) {i : Nat} (hi : i < H) (K : xW → Int32 → Int32 → Int32 → Option (xW × Int32)) : ∀ (n m j : Nat) (s : Int × Int), n < m → j + n = H → exB s → fX8_exchange_86 N K m w (iZ s.1) (iZ s.2) (iZ i) (iZ j) = K w (iZ (exI (exD r a n') i n j s).1) (iZ (exI (exD r a n') i n j s).2) (iZ ((i + 1 : Nat) : Int))
  | _, 0, _, _, hm, _, _ => absurd hm (by omega)
  | 0, m + 1, j, s, _, hj, _ => by
    obtain rfl : j = H := by omega
    rw [fX8_exchange_86]
    unfold fX8_exchange_86b
    rw [e, h9, if_pos (by rw [iZ_le (by omega) (by omega) (by omega) (by omega)]; omega), iZ_s1]
    rfl
  | n + 1, m + 1, j, s, hn, hj, hs => by
    have d := hD i j hi (by omega)
    have hs' := hs
    obtain ⟨⟨s1, s2⟩, s3, s4⟩ := hs
    obtain ⟨⟨a2, a3⟩, a5⟩ := hd i hi
    obtain ⟨⟨b2, b3⟩, b5⟩ := hd j (by omega)
    obtain ⟨ij1, ij2⟩ := cell63 h8 h hi b2 b3
    obtain ⟨ii1, ii2⟩ := cell63 h8 h hi a2 a3
    obtain ⟨ji1, ji2⟩ := cell63 h8 h (show j < H by omega) a2 a3
    obtain ⟨jj1, jj2⟩ := cell63 h8 h (show j < H by omega) b2 b3
    have m1 := hb i j hi (by omega)
    have m2 := hb i i hi hi
    have m3 := hb j i (by omega) hi
    have m4 := hb j j (by omega) (by omega)
    have fi := fOf (u := w) (n := i) (by omega) (by rw [e]; exact a5)
    have fj := fOf (u := w) (n := j) (by omega) (by rw [e]; exact b5)
    have ih := exI8 hD h8 e h9 h hd hb hi K n m (j + 1)
    rw [fX8_exchange_86]
    unfold fX8_exchange_86b fX8_exchange_217
    rw [e, h9, if_neg (by rw [iZ_le (by omega) (by omega) (by omega) (by omega)]; omega), fi, Option.bind_some, if_pos ii1, fj, Option.bind_some, if_pos jj1, Option.bind_some, if_pos ij1, Option.bind_some, if_pos ji1, ii2, jj2, ij2, ji2, iZ_s1, exI]
    change (if iZ (exS r a n' i j) < iZ (exS r a n' i i) then _ else if iZ (exS r a n' j i) < iZ (exS r a n' j j) then _ else if iZ (exS r a n' i j) + iZ (exS r a n' j i) - iZ (exS r a n' i i) - iZ (exS r a n' j j) ≤ iZ s.2 then _ else fX8_exchange_86 N K m w (10 * iZ (i : Int) + iZ (j : Int)) (iZ (exS r a n' i j) + iZ (exS r a n' j i) - iZ (exS r a n' i i) - iZ (exS r a n' j j)) (iZ (i : Int)) (iZ ((j + 1 : Nat) : Int))) = _
    rw [iZ_add, iZ_sub, iZ_sub]
    have eD : exD r a n' i j = if exS r a n' i j < exS r a n' i i then 0 else if exS r a n' j i < exS r a n' j j then 0 else (exS r a n' i j - exS r a n' i i) + (exS r a n' j i - exS r a n' j j) := rfl
    by_cases z : exS r a n' i j < exS r a n' i i
    · rw [if_pos z] at eD
      rw [if_pos ((iZ_lt (by omega) (by omega) (by omega) (by omega)).mpr z), if_pos (by omega)]
      exact ih s (by omega) (by omega) hs'
    · rw [if_neg z] at eD
      rw [if_neg (fun q => z ((iZ_lt (by omega) (by omega) (by omega) (by omega)).mp q))]
      by_cases y : exS r a n' j i < exS r a n' j j
      · rw [if_pos y] at eD
        rw [if_pos ((iZ_lt (by omega) (by omega) (by omega) (by omega)).mpr y), if_pos (by omega)]
        exact ih s (by omega) (by omega) hs'
      · rw [if_neg y] at eD
        have eD2 : exS r a n' i j + exS r a n' j i - exS r a n' i i - exS r a n' j j = exD r a n' i j := by omega
        rw [if_neg (fun q => y ((iZ_lt (by omega) (by omega) (by omega) (by omega)).mp q)), eD2]
        by_cases x : exD r a n' i j ≤ s.2
        · rw [if_pos ((iZ_le (by omega) (by omega) (by omega) (by omega)).mpr x), if_pos x]
          exact ih s (by omega) (by omega) hs'
        · rw [if_neg (fun q => x ((iZ_le (by omega) (by omega) (by omega) (by omega)).mp q)), if_neg x]
          rw [show 10 * iZ (i : Int) + iZ (j : Int) = iZ (10 * (i : Int) + j) by rw [show (10 : Int32) = iZ 10 from rfl, iZ_mul, iZ_add]]
          exact ih (10 * (i : Int) + j, exD r a n' i j) (by omega) (by omega) ⟨⟨by show (-1 : Int) ≤ 10 * (i : Int) + j; omega, by show 10 * (i : Int) + (j : Int) ≤ 1000; omega⟩, d⟩
theorem exO8 {r : Nat → Int32} {a n' H : Nat} (hN : 20000 ≤ N) (hD : exG (exD r a n') H) (h8 : H ≤ 8) (e : w.1 56 = r) (h9 : r 9 = iZ H) (h : ∀ c, c < 4 * H → w.1 63 c = iZ (gaS r (hK r (c / 4)) ((c % 4 : Nat) : Int) a n')) (hd : ∀ h, h < H → (0 ≤ hF r h ∧ hF r h ≤ 3) ∧ r (12 + 2 * h) = iZ (hF r h)) (hb : ∀ i j, i < H → j < H → 0 ≤ exS r a n' i j ∧ exS r a n' i j ≤ 17280) : ∀ (n m i : Nat) (s : Int × Int), n < m → i + n = H → exB s → fX8_exchange_68 N m w (iZ s.1) (iZ s.2) (iZ i) = if (exO (exD r a n') H n i s).1 < 0 then fX8_finding w (cd 3) else some (w, iZ (exO (exD r a n') H n i s).1)
  | _, 0, _, _, hm, _, _ => absurd hm (by omega)
  | 0, m + 1, i, s, _, hi, hs => by
    obtain rfl : i = H := by omega
    obtain ⟨⟨s1, s2⟩, s3, s4⟩ := hs
    rw [fX8_exchange_68]
    unfold fX8_exchange_68b
    rw [e, h9, if_pos (by rw [iZ_le (by omega) (by omega) (by omega) (by omega)]; omega), bind_id, exO, c_3]
    by_cases z : s.1 < 0
    · rw [if_neg (fun q => by have := (iZ_nn0 (by omega) (by omega)).mp q; omega), if_pos z]
    · rw [if_pos ((iZ_nn0 (by omega) (by omega)).mpr (by omega)), if_neg z]
  | n + 1, m + 1, i, s, hn, hi, hs => by
    rw [fX8_exchange_68]
    unfold fX8_exchange_68b
    rw [e, h9, if_neg (by rw [iZ_le (by omega) (by omega) (by omega) (by omega)]; omega), iZ_s1, exI8 hD h8 e h9 h hd hb (by omega) _ (H - (i + 1)) N (i + 1) s (by omega) (by omega) hs, exO]
    exact exO8 hN hD h8 e h9 h hd hb n m (i + 1) _ (by omega) (by omega) (exI_b hD h8 (by omega) _ _ _ (by omega) hs)
theorem e_ex7 (x y : Int32) : fX7_exchange N w x y = if (dTick x && dN y) = true then ((fX3_watch N w x y).bind fun z1 => (fX3_reckonAll N z1).bind fun z3 => fX7_exchange_51 N N z3 (-1000000004) 0 0) else fX7_refuse w (cd 0) := by
  unfold fX7_exchange fX7_exchange_0
  rw [isSpan7, bind_id, c_0]
  cases dTick x <;> cases dN y <;> rfl
theorem e_ex8 (x y : Int32) : fX8_exchange N w x y = if (dTick x && dN y) = true then fX8_exchange_23 N N w x y 0 else fX8_finding w (cd 0) := by
  unfold fX8_exchange fX8_exchange_0 fX8_exchange_14
  rw [tick8, span8, bind_id, c_0]
  cases dTick x <;> cases dN y <;> rfl
theorem P_exchange (hN : 20000 ≤ N) (h : Inv w) (x y : Int32) : Both (fun w => fX7_exchange N w x y) (fun w => fX8_exchange N w x y) w := by
  refine Both.guard h (dTick x && dN y) 0 (by omega) (fun q => by show fX7_exchange N w x y = _; rw [e_ex7, q, if_neg (by decide)]) (fun q => by show fX8_exchange N _ x y = _; rw [e_ex8, q, if_neg (by decide)]) (fun q => ?_)
  obtain ⟨q2, q3⟩ := Bool.and_eq_true_iff.mp q
  obtain ⟨t, rfl, ht⟩ := dTick_of q2
  obtain ⟨c, rfl, c1, c960⟩ := dN_of q3
  obtain ⟨H, hH, H8, h13⟩ := cnt8 h
  have hHi : (w.1 56 9).toInt = H := by rw [hH, iZ_toInt (by omega) (by omega)]
  have hd : ∀ m, m < H → hK (w.1 56) m < 6 ∧ (0 ≤ hF (w.1 56) m ∧ hF (w.1 56) m ≤ 3) ∧ (w.1 56 (11 + 2 * m) = iZ (hK (w.1 56) m) ∧ w.1 56 (12 + 2 * m) = iZ (hF (w.1 56) m)) ∧ w.1 5 m = iZ (hK (w.1 56) m) ∧ w.1 6 m = iZ (hF (w.1 56) m) := fun m hm => hd2 h (by omega)
  have hb : ∀ i j, i < H → j < H → 0 ≤ exS (w.1 56) t c i j ∧ exS (w.1 56) t c i j ≤ 17280 := fun i j hi hj => gaS_rng h.1.1.2 (hd i hi).1 _ t c960
  have hD : exG (exD (w.1 56) t c) H := fun i j hi hj => by
    have m1 := hb i j hi hj
    have m2 := hb i i hi hi
    have m3 := hb j i hj hi
    have m4 := hb j j hj hj
    unfold exD
    split
    · omega
    · split <;> omega
  have b0 : exB (-1, 0) := ⟨⟨by decide, by decide⟩, by decide, by decide⟩
  have A : ∃ w1, fX7_exchange N w (iZ t) (iZ c) = (if (exO (exD (w.1 56) t c) H H 0 (-1, 0)).1 < 0 then fX7_refuse w1 (cd 3) else some (w1, iZ (exO (exD (w.1 56) t c) H H 0 (-1, 0)).1)) ∧ G w w1 := by
    obtain ⟨w1, p1, p2, p3⟩ := watch_eq hN (a := t) (n := c) (by omega) h
    have r1 : w1.1 1 = w.1 1 := p2.2 1 (by omega) (by omega) (by omega)
    obtain ⟨w2, o1, o2, o3⟩ := reck_loop hN (w := w) (r := w.1 56) (a := t) (n := c) h.1.1.1.2.2.1 h.1.1.1.2.2.2.1 24 N 0 w1 (by omega) (by omega) p2 p3 (fun c g => absurd g (by omega))
    refine ⟨w2, ?_, o2.toG⟩
    rw [e_ex7, if_pos q, p1, Option.bind_some]
    unfold fX3_reckonAll fX3_reckonAll_0
    rw [show (0 : Int32) = iZ ((0 : Nat) : Int) from rfl, o1, Option.bind_some]
    have s1 : w2.1 1 = w.1 1 := o2.2 1 (by omega) (by omega) (by omega)
    have s5 : w2.1 5 = w.1 5 := o2.2 5 (by omega) (by omega) (by omega)
    have s6 : w2.1 6 = w.1 6 := o2.2 6 (by omega) (by omega) (by omega)
    exact exO7 hN hD H8 (by rw [s1]; exact h13) (fun i j hi hj => more_eq H8 o3 (fun m hm => ⟨(hd m hm).1, (hd m hm).2.1, by rw [s5]; exact (hd m hm).2.2.2.1, by rw [s6]; exact (hd m hm).2.2.2.2⟩) hb hi hj) H N 0 (-1, 0) (by omega) (by omega) b0
  have B : ∀ u, u.1 56 = w.1 56 → TOK u → ∃ w1, fX8_exchange N u (iZ t) (iZ c) = (if (exO (exD (w.1 56) t c) H H 0 (-1, 0)).1 < 0 then fX8_finding w1 (cd 3) else some (w1, iZ (exO (exD (w.1 56) t c) H H 0 (-1, 0)).1)) ∧ G u w1 := by
    intro u e hT
    obtain ⟨w', g1, g2, g3, g4⟩ := tab8_loop hN h.1.1.2 (a := t) (n := c) (by omega) H8 hH (fun m hm => ⟨(hd m hm).1, (hd m hm).2.2.1.1⟩) (4 * H) N 0 u (by omega) (by omega) e hT (fun c g => absurd g (by omega))
    refine ⟨w', ?_, g2⟩
    rw [e_ex8, if_pos q, show (0 : Int32) = iZ ((0 : Nat) : Int) from rfl, g1]
    exact exO8 hN hD H8 g3 hH g4 (fun m hm => ⟨(hd m hm).2.1, (hd m hm).2.2.1.2⟩) hb H N 0 (-1, 0) (by omega) (by omega) b0
  obtain ⟨w1, a1, a2⟩ := A
  by_cases z : (exO (exD (w.1 56) t c) H H 0 (-1, 0)).1 < 0
  · obtain ⟨w2, b1, b2⟩ := B (RF w1 3) (by rw [RF_r w1 3 (by omega)]; exact a2.r) ((RF_oth w1 3).toTOK (a2.Inv h).2.1)
    rw [if_pos z] at a1 b1
    exact Both.ref h 3 (by omega) a1 a2 b1 b2
  · obtain ⟨w2, b1, b2⟩ := B w1 a2.r (a2.Inv h).2.1
    rw [if_neg z] at a1 b1
    exact ⟨w1, w2, _, a1, b1, b2.Inv (a2.Inv h)⟩
end EXC
