/-! gains, and their sums -/
def Sm (f : Nat → Int) : Nat → Int
  | 0 => 0
  | n + 1 => Sm f n + f n
theorem Sm_congr {f g : Nat → Int} : ∀ n, (∀ i, i < n → f i = g i) → Sm f n = Sm g n
  | 0, _ => rfl
  | n + 1, h => by rw [Sm, Sm, Sm_congr n (fun i hi => h i (by omega)), h n (by omega)]
theorem Sm_add (f g : Nat → Int) : ∀ n, Sm (fun i => f i + g i) n = Sm f n + Sm g n
  | 0 => rfl
  | n + 1 => by rw [Sm, Sm, Sm, Sm_add f g n]; omega
theorem Sm_one (G : Nat → Int) (j : Nat) : ∀ m, Sm (fun c => (if j = c then 1 else 0) * G c) m = if j < m then G j else 0
  | 0 => rfl
  | m + 1 => by
    rw [Sm, Sm_one G j m]
    by_cases a : j < m
    · rw [if_pos a, if_neg (by omega), if_pos (by omega), Int.zero_mul, Int.add_zero]
    · rw [if_neg a]
      by_cases b : j = m
      · rw [if_pos b, if_pos (by omega), Int.one_mul, Int.zero_add, b]
      · rw [if_neg b, if_neg (by omega), Int.zero_mul, Int.add_zero]
theorem Sm_zero (G : Nat → Int) : ∀ m, Sm (fun c => 0 * G c) m = 0
  | 0 => rfl
  | m + 1 => by rw [Sm, Sm_zero G m, Int.zero_mul, Int.add_zero]
theorem Sm_tally (G : Nat → Int) (idx : Nat → Nat) (M : Nat) : ∀ n, (∀ i, i < n → idx i < M) → Sm (fun c => Sm (fun i => if idx i = c then 1 else 0) n * G c) M = Sm (fun i => G (idx i)) n
  | 0, _ => Sm_zero G M
  | n + 1, h => by
    rw [Sm, ← Sm_tally G idx M n (fun i hi => h i (by omega))]
    have e : ∀ c, Sm (fun i => if idx i = c then 1 else 0) (n + 1) * G c = Sm (fun i => if idx i = c then 1 else 0) n * G c + (if idx n = c then 1 else 0) * G c := fun c => by rw [Sm, Int.add_mul]
    rw [Sm_congr M (fun c _ => e c), Sm_add, Sm_one, if_pos (h n (by omega))]
theorem Sm_bound {f : Nat → Int} {B : Int} : ∀ n, (∀ i, i < n → 0 ≤ f i ∧ f i ≤ B) → 0 ≤ Sm f n ∧ Sm f n ≤ n * B
  | 0, _ => by rw [Sm]; omega
  | n + 1, h => by
    have h1 := Sm_bound n (fun i hi => h i (by omega))
    have h2 := h n (by omega)
    rw [Sm, Int.natCast_succ, Int.add_mul, Int.one_mul]
    omega
def hr (t : Nat) : Nat := t % 96 / 4
theorem hr_lt (t : Nat) : hr t < 24 := by unfold hr; omega
theorem hour7 {t : Nat} (ht : t < 20000) : fX7_hourOf (iZ t) = iZ (hr t : Nat) := by
  unfold fX7_hourOf fX7_hourOf_0 hr
  rw [show (96 : Int32) = iZ 96 from rfl, show (4 : Int32) = iZ 4 from rfl, iZ_rem (by omega) (by omega) (by omega) (by omega), iZ_div (by omega) (by omega) (by omega) (by omega)]
  rfl
theorem hour8 {t : Nat} (ht : t < 20000) : fX8_hourOf (iZ t) = iZ (hr t : Nat) := hour7 ht
/-- what a house of a kind gains -/
def gn (r : Nat → Int32) (k s h : Int32) : Int32 := fX1_gainOf ((fun _ j => r (6 + j)), (fun _ _ => 0)) k s h
theorem gain7 {w : xW} {r : Nat → Int32} (h1 : w.1 1 1 = r 7) (h2 : w.1 1 2 = r 8) (k s h : Int32) : fX1_gainOf w k s h = gn r k s h := by
  unfold gn fX1_gainOf fX1_gainOf_0 fX1_millGain fX1_millGain_0
  rw [h1, h2]
theorem sun_all : ∀ s : Nat, s < 5 → ∀ h : Nat, h < 24 → fX8_sun (iZ ((s : Int) - 1)) (iZ h) = fX1_sun (iZ ((s : Int) - 1)) (iZ h) ∧ (fX1_sun (iZ ((s : Int) - 1)) (iZ h) = 0 ∨ fX1_sun (iZ ((s : Int) - 1)) (iZ h) = 1) := by decide +kernel
def gaZ (r : Nat → Int32) (k : Nat) (s : Int) (h : Nat) : Int := (gn r (iZ k) (iZ s) (iZ h)).toInt
def gaT (r : Nat → Int32) (k : Nat) (f : Int) (t : Nat) : Int := gaZ r k (tSide r f t) (hr t)
section GAIN
variable {w : xW} {r : Nat → Int32} {N : Nat}
theorem mid8 (hr : w.1 56 = r) {k : Nat} (hk : k < 6) {s : Int} (s0 : -1 ≤ s) (s3 : s ≤ 3) {h : Nat} (hh : h < 24) : (if fX8_sun (iZ s) (iZ h) ≤ 0 then fX8_gainOf_44 N w (iZ k) (iZ s) (iZ h) (fX8_sun (iZ s) (iZ h)) (fX8_sun (iZ s) (iZ h)) else if iZ h < 12 then fX8_gainOf_44 N w (iZ k) (iZ s) (iZ h) (fX8_sun (iZ s) (iZ h)) (fX8_sun (iZ s) (iZ h)) else fX8_gainOf_44 N w (iZ k) (iZ s) (iZ h) (fX8_sun (iZ s) (iZ h)) (fX8_sun (iZ s) (iZ h) + 1)) = some (w, gn r (iZ k) (iZ s) (iZ h)) := by
  obtain ⟨m, rfl, m5⟩ : ∃ m : Nat, s = (m : Int) - 1 ∧ m < 5 := ⟨(s + 1).toNat, by omega, by omega⟩
  obtain ⟨e, z⟩ := sun_all m m5 h hh
  rw [e]
  unfold fX8_gainOf_44 fX8_gainOf_63 gn fX1_gainOf fX1_gainOf_0 fX1_millGain fX1_millGain_0 fX1_innGain fX1_innGain_0
  generalize fX1_sun (iZ ((m : Int) - 1)) (iZ h) = x at z
  rw [hr]
  show _ = some (w, if iZ k = 0 then x else if iZ k = 1 then (if iZ ((m : Int) - 1) = r 7 then 2 else 0) else if iZ k = 2 then 1 - x else if iZ k = 3 then (if x = 0 then x else if iZ h < 12 then x else x + 1) else if iZ k = 4 then r 8 * (if iZ ((m : Int) - 1) = r 7 then 2 else 0) else if iZ k = 5 then (if 9 ≤ iZ h then 0 else 3 * (if x = 0 then x else if iZ h < 12 then x else x + 1)) else 0)
  generalize iZ ((m : Int) - 1) = s
  generalize iZ (h : Int) = h'
  rcases (show k = 0 ∨ k = 1 ∨ k = 2 ∨ k = 3 ∨ k = 4 ∨ k = 5 by omega) with rfl | rfl | rfl | rfl | rfl | rfl <;> rcases z with rfl | rfl <;> by_cases a : s = r 7 <;> by_cases b : h' < 12 <;> by_cases c : 9 ≤ h' <;> simp [a, b, c, iZ] <;> rfl
theorem force_all : ∀ f : Nat, f < 10 → (0 ≤ (iZ (f : Int) * 2).toInt ∧ (iZ (f : Int) * 2).toInt ≤ 18) ∧ (0 ≤ (iZ (f : Int) * 0).toInt ∧ (iZ (f : Int) * 0).toInt ≤ 18) := by decide +kernel
theorem gaZ_rng (hw : WFr r) {k : Nat} (hk : k < 6) {s : Int} (s0 : -1 ≤ s) (s3 : s ≤ 3) {h : Nat} (hh : h < 24) : 0 ≤ gaZ r k s h ∧ gaZ r k s h ≤ 18 := by
  obtain ⟨m, rfl, m5⟩ : ∃ m : Nat, s = (m : Int) - 1 ∧ m < 5 := ⟨(s + 1).toNat, by omega, by omega⟩
  obtain ⟨-, z⟩ := sun_all m m5 h hh
  have b := hw.2.2.1
  obtain ⟨fo, ef, f10⟩ : ∃ fo : Nat, r 8 = iZ (fo : Int) ∧ fo < 10 := ⟨(r 8).toInt.toNat, by rw [Int.toNat_of_nonneg b.1, iZ_self], by omega⟩
  have fa := force_all fo f10
  unfold gaZ gn fX1_gainOf fX1_gainOf_0 fX1_millGain fX1_millGain_0 fX1_innGain fX1_innGain_0
  generalize fX1_sun (iZ ((m : Int) - 1)) (iZ h) = x at z
  show 0 ≤ (if iZ k = 0 then x else if iZ k = 1 then (if iZ ((m : Int) - 1) = r 7 then 2 else 0) else if iZ k = 2 then 1 - x else if iZ k = 3 then (if x = 0 then x else if iZ h < 12 then x else x + 1) else if iZ k = 4 then r 8 * (if iZ ((m : Int) - 1) = r 7 then 2 else 0) else if iZ k = 5 then (if 9 ≤ iZ h then 0 else 3 * (if x = 0 then x else if iZ h < 12 then x else x + 1)) else 0).toInt ∧ (if iZ k = 0 then x else if iZ k = 1 then (if iZ ((m : Int) - 1) = r 7 then 2 else 0) else if iZ k = 2 then 1 - x else if iZ k = 3 then (if x = 0 then x else if iZ h < 12 then x else x + 1) else if iZ k = 4 then r 8 * (if iZ ((m : Int) - 1) = r 7 then 2 else 0) else if iZ k = 5 then (if 9 ≤ iZ h then 0 else 3 * (if x = 0 then x else if iZ h < 12 then x else x + 1)) else 0).toInt ≤ 18
  rw [ef]
  generalize iZ ((m : Int) - 1) = s
  generalize iZ (h : Int) = h'
  generalize iZ (fo : Int) = fo' at fa
  rcases (show k = 0 ∨ k = 1 ∨ k = 2 ∨ k = 3 ∨ k = 4 ∨ k = 5 by omega) with rfl | rfl | rfl | rfl | rfl | rfl
  · rw [if_pos (show iZ ((0 : Nat) : Int) = 0 by decide)]
    rcases z with rfl | rfl <;> decide
  · rw [if_neg (show ¬ iZ ((1 : Nat) : Int) = 0 by decide), if_pos (show iZ ((1 : Nat) : Int) = 1 by decide)]
    by_cases a : s = r 7
    · rw [if_pos a]; decide
    · rw [if_neg a]; decide
  · rw [if_neg (show ¬ iZ ((2 : Nat) : Int) = 0 by decide), if_neg (show ¬ iZ ((2 : Nat) : Int) = 1 by decide), if_pos (show iZ ((2 : Nat) : Int) = 2 by decide)]
    rcases z with rfl | rfl <;> decide
  · rw [if_neg (show ¬ iZ ((3 : Nat) : Int) = 0 by decide), if_neg (show ¬ iZ ((3 : Nat) : Int) = 1 by decide), if_neg (show ¬ iZ ((3 : Nat) : Int) = 2 by decide), if_pos (show iZ ((3 : Nat) : Int) = 3 by decide)]
    by_cases a : h' < 12
    · rw [if_pos a]; rcases z with rfl | rfl <;> decide
    · rw [if_neg a]; rcases z with rfl | rfl <;> decide
  · rw [if_neg (show ¬ iZ ((4 : Nat) : Int) = 0 by decide), if_neg (show ¬ iZ ((4 : Nat) : Int) = 1 by decide), if_neg (show ¬ iZ ((4 : Nat) : Int) = 2 by decide), if_neg (show ¬ iZ ((4 : Nat) : Int) = 3 by decide), if_pos (show iZ ((4 : Nat) : Int) = 4 by decide)]
    by_cases a : s = r 7
    · rw [if_pos a]; exact fa.1
    · rw [if_neg a]; exact fa.2
  · rw [if_neg (show ¬ iZ ((5 : Nat) : Int) = 0 by decide), if_neg (show ¬ iZ ((5 : Nat) : Int) = 1 by decide), if_neg (show ¬ iZ ((5 : Nat) : Int) = 2 by decide), if_neg (show ¬ iZ ((5 : Nat) : Int) = 3 by decide), if_neg (show ¬ iZ ((5 : Nat) : Int) = 4 by decide), if_pos (show iZ ((5 : Nat) : Int) = 5 by decide)]
    by_cases c : 9 ≤ h'
    · rw [if_pos c]; decide
    · rw [if_neg c]
      by_cases a : h' < 12
      · rw [if_pos a]; rcases z with rfl | rfl <;> decide
      · rw [if_neg a]; rcases z with rfl | rfl <;> decide
theorem gain8 (hN : 20000 ≤ N) (hr' : w.1 56 = r) (hw : WFt r) (hT : TOK w) {k : Nat} (hk : k < 6) {f : Int} (f0 : 0 ≤ f) (f3 : f ≤ 3) {t : Nat} (ht : t < 14000) : ∃ w', fX8_gainOf N w (iZ k) (iZ f) (iZ t) = some (w', iZ (gaT r k f t)) ∧ G w w' ∧ TOK w' := by
  subst hr'
  obtain ⟨w1, p1, p2, p3⟩ := sideOf8 hN hw hT f0 f3 ht
  have b := tSide_rng (w.1 56) f t
  refine ⟨w1, ?_, p2, p3⟩
  unfold fX8_gainOf fX8_gainOf_0
  rw [p1, Option.bind_some, hour8 (by omega)]
  show (if fX8_sun (iZ (tSide (w.1 56) f t)) (iZ (hr t)) ≤ 0 then _ else _) = _
  rw [mid8 p2.r hk b.1 b.2 (hr_lt t)]
  unfold gaT gaZ
  rw [iZ_self]
/-- a house's sum -/
def gaS (r : Nat → Int32) (k : Nat) (f : Int) (a n : Nat) : Int := Sm (fun i => gaT r k f (a + i)) n
theorem gaS_rng (hw : WFr r) {k : Nat} (hk : k < 6) (f : Int) (a : Nat) {n : Nat} (hn : n ≤ 960) : 0 ≤ gaS r k f a n ∧ gaS r k f a n ≤ 17280 := by
  have := Sm_bound (f := fun i => gaT r k f (a + i)) (B := 18) n (fun i _ => gaZ_rng hw hk (tSide_rng r f _).1 (tSide_rng r f _).2 (hr_lt _))
  unfold gaS
  omega
theorem sum8_loop (hN : 20000 ≤ N) (hw : WFt r) {k : Nat} (hk : k < 6) {x1 : Int32} {f : Int} (f0 : 0 ≤ f) (f3 : f ≤ 3) {a n : Nat} (ha : a + n < 14000) (hkd : ∀ u : xW, u.1 56 = r → fX8_kindOf u x1 = some (iZ k)) : ∀ (j m i : Nat) (w : xW), j < m → i + j = n → w.1 56 = r → TOK w → ∃ w', fX8_sumOf_6 N m w x1 (iZ f) (iZ a) (iZ n) (iZ (gaS r k f a i)) (iZ ((a + i : Nat) : Int)) = some (w', iZ (gaS r k f a n)) ∧ G w w' ∧ TOK w'
  | _, 0, _, _, hm, _, _, _ => absurd hm (by omega)
  | 0, m + 1, i, w, _, hi, hr', hT => by
    obtain rfl : i = n := by omega
    rw [fX8_sumOf_6]
    unfold fX8_sumOf_6b
    rw [iZ_add, if_pos (by rw [iZ_le (by omega) (by omega) (by omega) (by omega)]; omega)]
    exact ⟨w, rfl, G.rf, hT⟩
  | j + 1, m + 1, i, w, hm, hi, hr', hT => by
    rw [fX8_sumOf_6]
    unfold fX8_sumOf_6b
    rw [iZ_add, if_neg (by rw [iZ_le (by omega) (by omega) (by omega) (by omega)]; omega), hkd w hr', Option.bind_some]
    obtain ⟨w1, p1, p2, p3⟩ := gain8 hN hr' hw hT hk f0 f3 (t := a + i) (by omega)
    rw [p1, Option.bind_some]
    show ∃ w', fX8_sumOf_6 N m w1 x1 (iZ f) (iZ a) (iZ n) (iZ (gaS r k f a i) + iZ (gaT r k f (a + i))) (iZ ((a + i : Nat) : Int) + 1) = some (w', iZ (gaS r k f a n)) ∧ G w w' ∧ TOK w'
    obtain ⟨w2, q1, q2, q3⟩ := sum8_loop hN hw hk f0 f3 ha hkd j m (i + 1) w1 (by omega) (by omega) (p2.r.trans hr') p3
    rw [iZ_add, iZ_s1]
    exact ⟨w2, q1, p2.tr q2, q3⟩
theorem kind8_of (hr' : w.1 56 = r) (hw : WFr r) {n : Nat} (nh : (n : Int) < (r 9).toInt) : ∃ k : Nat, k < 6 ∧ r (11 + 2 * n) = iZ k := by
  have := (hw.2.2.2.2.2.1 n nh).1
  exact ⟨(r (11 + 2 * n)).toInt.toNat, by omega, by rw [Int.toNat_of_nonneg this.1, iZ_self]⟩
theorem sum8 (hN : 20000 ≤ N) (hr' : w.1 56 = r) (hw : WFr r) (hT : TOK w) {h : Nat} (h8 : h < 8) {k : Nat} (hk : k < 6) (ek : r (11 + 2 * h) = iZ k) {f : Int} (f0 : 0 ≤ f) (f3 : f ≤ 3) {a n : Nat} (ha : a + n < 14000) : ∃ w', fX8_sumOf N w (iZ h) (iZ f) (iZ a) (iZ n) = some (w', iZ (gaS r k f a n)) ∧ G w w' ∧ TOK w' := by
  obtain ⟨⟨i1, i2⟩, -, -, -⟩ := ix_h h h8
  unfold fX8_sumOf fX8_sumOf_0
  refine sum8_loop hN hw.1 hk f0 f3 ha (fun u hu => ?_) n N 0 w (by omega) (by omega) hr' hT
  unfold fX8_kindOf fX8_kindOf_0
  rw [if_pos i1, i2, hu, ek]
/-! the class: counted, by side and hour -/
def gid (r : Nat → Int32) (t : Nat) : Nat := ((1 + tSide r 0 t) * 24).toNat + hr t
theorem gid_lt (r : Nat → Int32) (t : Nat) : gid r t < 120 := by
  have := tSide_rng r 0 t
  have := hr_lt t
  unfold gid
  omega
theorem gid_iZ (r : Nat → Int32) (t : Nat) : (1 + iZ (tSide r 0 t)) * 24 + iZ (hr t : Nat) = iZ (gid r t : Nat) := by
  have := tSide_rng r 0 t
  rw [show (1 : Int32) = iZ 1 from rfl, show (24 : Int32) = iZ 24 from rfl, iZ_add, iZ_mul, iZ_add]
  congr 1
  unfold gid
  rw [Int.natCast_add, Int.toNat_of_nonneg (by omega)]
def gcn (r : Nat → Int32) (a n c : Nat) : Int := Sm (fun i => if gid r (a + i) = c then 1 else 0) n
theorem fill_loop : ∀ (j m i : Nat) (w : xW), j < m → i + j = 120 → ∃ w', fJ7_fill_53178_5 N m w 0 (iZ (i : Int)) 120 = some w' ∧ w'.2 = w.2 ∧ (∀ q, q ≠ 32 → w'.1 q = w.1 q) ∧ (∀ c, i ≤ c → c < 120 → w'.1 32 c = 0) ∧ ∀ c, c < i → w'.1 32 c = w.1 32 c
  | _, 0, _, _, hm, _ => absurd hm (by omega)
  | 0, m + 1, i, w, _, hi => by
    obtain rfl : i = 120 := by omega
    rw [fJ7_fill_53178_5]
    unfold fJ7_fill_53178_5b
    rw [if_pos (show (120 : Int32) ≤ iZ ((120 : Nat) : Int) by decide)]
    exact ⟨w, rfl, rfl, fun _ _ => rfl, fun c g1 g2 => absurd g1 (by omega), fun _ _ => rfl⟩
  | j + 1, m + 1, i, w, hm, hi => by
    rw [fJ7_fill_53178_5]
    unfold fJ7_fill_53178_5b
    rw [if_neg (by rw [show (120 : Int32) = iZ 120 from rfl, iZ_le (by omega) (by omega) (by omega) (by omega)]; omega), if_pos ((ibd_iZ (by omega) (by omega)).mpr (by omega)), iZ_clamp (by omega) (by omega), Int.toNat_natCast, iZ_s1]
    obtain ⟨w', p1, p2, p3, p4, p5⟩ := fill_loop j m (i + 1) (sI w 32 i 0) (by omega) (by omega)
    refine ⟨w', p1, p2, fun q hq => (p3 q hq).trans (funext fun k => by rw [sI_r, if_neg (by omega)]), fun c g1 g2 => ?_, fun c g => ?_⟩
    · rcases Nat.lt_or_ge i c with z | z
      · exact p4 c (by omega) g2
      · obtain rfl : c = i := by omega
        rw [p5 c (by omega), sI_r, if_pos ⟨rfl, rfl⟩]
    · rw [p5 c (by omega), sI_r, if_neg (by omega)]
/-- what only cells 2 and 32, 33 may change -/
def RT (w w' : xW) : Prop := w'.2 = w.2 ∧ ∀ q, q ≠ 2 → q ≠ 32 → q ≠ 33 → w'.1 q = w.1 q
theorem RT.rf {w : xW} : RT w w := ⟨rfl, fun _ _ _ _ => rfl⟩
theorem RT.tr {a b c : xW} (h : RT a b) (g : RT b c) : RT a c := ⟨g.1.trans h.1, fun q h1 h2 h3 => (g.2 q h1 h2 h3).trans (h.2 q h1 h2 h3)⟩
theorem RT.toG {w w' : xW} (h : RT w w') : G w w' := G.of7 h.1 (fun q k hq => by rw [h.2 q (by omega) (by omega) (by omega)])
theorem watch_loop (hN : 20000 ≤ N) {a n : Nat} (ha : a + n < 14000) (hr' : w.1 56 = r) (h0 : Inv w) : ∀ (j m i : Nat) (u : xW), j < m → i + j = n → RT w u → (∀ c, c < 120 → u.1 32 c = iZ (gcn r a i c)) → ∃ w', fX3_watch_11 N m u (iZ a) (iZ n) (iZ ((a + i : Nat) : Int)) = some w' ∧ RT w w' ∧ ∀ c, c < 120 → w'.1 32 c = iZ (gcn r a n c)
  | _, 0, _, _, hm, _, _, _ => absurd hm (by omega)
  | 0, m + 1, i, u, _, hi, hR, hc => by
    obtain rfl : i = n := by omega
    rw [fX3_watch_11]
    unfold fX3_watch_11b
    rw [iZ_add, if_pos (by rw [iZ_le (by omega) (by omega) (by omega) (by omega)]; omega)]
    exact ⟨u, rfl, hR, hc⟩
  | j + 1, m + 1, i, u, hm, hi, hR, hc => by
    rw [fX3_watch_11]
    unfold fX3_watch_11b
    have hu := hR.toG.Inv h0
    have er : u.1 56 = r := (hR.2 56 (by omega) (by omega) (by omega)).trans hr'
    obtain ⟨w1, p1, p2, p3, p4, p5⟩ := at_eq hN (r := r) (by rw [← er]; exact hu.ist) (by rw [← er]; exact hu.wt) (t := ((a + i : Nat) : Int)) (by omega) (by omega)
    rw [iZ_add, if_neg (by rw [iZ_le (by omega) (by omega) (by omega) (by omega)]; omega), p1, Option.bind_some, show (0 : Int32) = iZ 0 from rfl, sideOf6_eq p4 p5, hour7 (by omega)]
    have b := tSide_rng r 0 ((a + i : Nat) : Int)
    have bh := hr_lt (a + i)
    have ei := gid_iZ r (a + i)
    have gl := gid_lt r (a + i)
    rw [ei, if_pos ((ibd_iZ (by omega) (by omega)).mpr (by omega)), iZ_clamp (by omega) (by omega), Int.toNat_natCast, iZ_s1]
    refine watch_loop hN ha hr' h0 j m (i + 1) _ (by omega) (by omega) ?_ (fun c hc' => ?_)
    · refine hR.tr (RT.tr (b := w1) ⟨p2.1, fun q g1 _ _ => p2.2 q g1⟩ ⟨rfl, fun q g1 g2 _ => funext fun k => by rw [sI_r, if_neg (by omega)]⟩)
    · rw [sI_r, p2.2 32 (by omega), hc _ gl, hc c hc']
      unfold gcn
      rw [Sm]
      by_cases z : c = gid r (a + i)
      · subst z
        rw [if_pos ⟨rfl, rfl⟩, if_pos rfl, show (1 : Int32) = iZ 1 from rfl, iZ_add]
      · rw [if_neg (by omega), if_neg (by omega), Int.add_zero]
theorem watch_eq (hN : 20000 ≤ N) {a n : Nat} (ha : a + n < 14000) (h0 : Inv w) : ∃ w', fX3_watch N w (iZ a) (iZ n) = some w' ∧ RT w w' ∧ ∀ c, c < 120 → w'.1 32 c = iZ (gcn (w.1 56) a n c) := by
  unfold fX3_watch fX3_watch_0 fJ7_fill_53178 fJ7_fill_53178_0
  obtain ⟨w1, p1, p2, p3, p4, -⟩ := fill_loop (N := N) 120 N 0 w (by omega) (by omega)
  rw [show (iZ ((0 : Nat) : Int)) = 0 from rfl] at p1
  rw [p1, Option.bind_some]
  exact watch_loop hN ha rfl h0 n N 0 w1 (by omega) (by omega) ⟨p2, fun q _ g _ => p3 q g⟩ (fun c hc => p4 c (by omega) hc)
/-- the side and the hour of a cell -/
def gsd (f : Int) (c : Nat) : Int := if c / 24 = 0 then -1 else (((c / 24 : Nat) : Int) - 1 + f) % 4
theorem gsd_gid (r : Nat → Int32) (f : Int) (t : Nat) : gsd f (gid r t) = tSide r f t ∧ gid r t % 24 = hr t := by
  have b := tSide_rng r 0 t
  have bh := hr_lt t
  have e : gid r t / 24 = (1 + tSide r 0 t).toNat := by unfold gid; omega
  refine ⟨?_, by unfold gid; omega⟩
  unfold gsd
  rw [e]
  cases hb : tBe r t with
  | true =>
    have e1 : ∀ g, tSide r g t = -1 := fun g => by unfold tSide; rw [hb]; rfl
    rw [e1, e1]
    rfl
  | false =>
    have e1 : ∀ g, tSide r g t = (g + tTu r t) % 4 := fun g => by unfold tSide; rw [hb]; rfl
    rw [e1, e1, if_neg (by omega)]
    omega
theorem sumOf_loop (hw1 : w.1 1 1 = r 7) (hw2 : w.1 1 2 = r 8) {C : Nat → Int} (hC : ∀ c, c < 120 → w.1 32 c = iZ (C c)) {k : Nat} {f : Int} (f0 : 0 ≤ f) (f3 : f ≤ 3) : ∀ (j m c : Nat), j < m → c + j = 120 → fX3_sumOf_6 N w m (iZ k) (iZ f) (iZ (Sm (fun c => C c * gaZ r k (gsd f c) (c % 24)) c)) (iZ c) = some (iZ (Sm (fun c => C c * gaZ r k (gsd f c) (c % 24)) 120))
  | _, 0, _, hm, _ => absurd hm (by omega)
  | 0, m + 1, c, _, hi => by
    obtain rfl : c = 120 := by omega
    rw [fX3_sumOf_6]
    unfold fX3_sumOf_6b
    rw [if_pos (show (120 : Int32) ≤ iZ ((120 : Nat) : Int) by decide)]
  | j + 1, m + 1, c, hm, hi => by
    have ih := sumOf_loop hw1 hw2 hC (k := k) f0 f3 j m (c + 1) (by omega) (by omega)
    rw [Sm] at ih
    rw [fX3_sumOf_6]
    unfold fX3_sumOf_6b fX3_sumOf_50 fX3_sumOf_77
    rw [if_neg (by rw [show (120 : Int32) = iZ 120 from rfl, iZ_le (by omega) (by omega) (by omega) (by omega)]; omega), if_pos ((ibd_iZ (by omega) (by omega)).mpr (by omega)), iZ_clamp (by omega) (by omega), Int.toNat_natCast, hC c (by omega), show (24 : Int32) = iZ 24 from rfl, iZ_div (by omega) (by omega) (by omega) (by omega), iZ_rem (by omega) (by omega) (by omega) (by omega), iZ_s1, gain7 hw1 hw2]
    have en : iZ (Sm (fun c => C c * gaZ r k (gsd f c) (c % 24)) c) + iZ (C c) * gn r (iZ k) (iZ (gsd f c)) (iZ ((c % 24 : Nat) : Int)) = iZ (Sm (fun c => C c * gaZ r k (gsd f c) (c % 24)) c + C c * gaZ r k (gsd f c) (c % 24)) := by
      rw [← iZ_add, ← iZ_mul]
      unfold gaZ
      rw [iZ_self]
    by_cases z : iZ (C c) = 0
    · rw [if_pos z]
      rw [z, Int32.zero_mul, Int32.add_zero] at en
      rw [en]
      exact ih
    · rw [if_neg z]
      have ib : ibd (iZ (c : Int)) 120 = true := (ibd_iZ (by omega) (by omega)).mpr (by omega)
      by_cases y : c / 24 = 0
      · have ge : gsd f c = -1 := by unfold gsd; rw [if_pos y]
        rw [if_pos (by rw [show (0 : Int32) = iZ 0 from rfl, iZ_eq (by omega) (by omega) (by omega) (by omega)]; omega), if_pos ib, show (-1 : Int32) = iZ (gsd f c) by rw [ge]; rfl, show ((c : Int) % 24) = ((c % 24 : Nat) : Int) by omega, en]
        exact ih
      · have ge : gsd f c = (((c : Int) / 24) - 1 + f) % 4 := by unfold gsd; rw [if_neg y]; congr 1
        rw [if_neg (by rw [show (0 : Int32) = iZ 0 from rfl, iZ_eq (by omega) (by omega) (by omega) (by omega)]; omega), if_pos ib, gain7 hw1 hw2, show (1 : Int32) = iZ 1 from rfl, iZ_sub, iZ_add, iZ_and3, ← ge, show ((c : Int) % 24) = ((c % 24 : Nat) : Int) by omega, en]
        exact ih
/-- counted, then summed: the same -/
theorem sumOf_eq (hN : 20000 ≤ N) (hw1 : w.1 1 1 = r 7) (hw2 : w.1 1 2 = r 8) {a n : Nat} (hC : ∀ c, c < 120 → w.1 32 c = iZ (gcn r a n c)) {k : Nat} {f : Int} (f0 : 0 ≤ f) (f3 : f ≤ 3) : fX3_sumOf N w (iZ k) (iZ f) = some (iZ (gaS r k f a n)) := by
  have h := sumOf_loop (N := N) hw1 hw2 hC (k := k) f0 f3 120 N 0 (by omega) (by omega)
  unfold fX3_sumOf fX3_sumOf_0
  have e : Sm (fun c => gcn r a n c * gaZ r k (gsd f c) (c % 24)) 120 = gaS r k f a n := by
    have := Sm_tally (fun c => gaZ r k (gsd f c) (c % 24)) (fun i => gid r (a + i)) 120 n (fun i _ => gid_lt r _)
    unfold gcn
    rw [this]
    unfold gaS gaT
    refine Sm_congr n (fun i _ => ?_)
    obtain ⟨e1, e2⟩ := gsd_gid r f (a + i)
    rw [e1, e2]
  rw [e] at h
  exact h
end GAIN
