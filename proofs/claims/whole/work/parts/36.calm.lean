/-! calm and between: how far -/
def nx (p : Nat → Bool) : Nat → Nat → Nat
  | 0, n => n
  | m + 1, n => if p n = true then n else nx p m (n + 1)
def tct (r : Nat → Int32) (n : Nat) : Nat := nx (fun k => !(tfa r k)) 31 n
def trt (r : Nat → Int32) (n : Nat) : Nat := nx (twh r) 31 n
theorem nx_spec (p : Nat → Bool) (hp : ∀ k, 30 ≤ k → p k = true) : ∀ (m n : Nat), 30 ≤ n + m → n ≤ nx p m n ∧ p (nx p m n) = true ∧ (∀ k, n ≤ k → k < nx p m n → p k = false) ∧ (nx p m n ≤ 30 ∨ nx p m n = n)
  | 0, n, h => ⟨Nat.le_refl _, hp _ (by show 30 ≤ n; omega), fun k h1 h2 => absurd h2 (by show ¬ k < n; omega), Or.inr rfl⟩
  | m + 1, n, h => by
    rw [nx]
    by_cases q : p n = true
    · rw [if_pos q]
      exact ⟨Nat.le_refl _, q, fun k h1 h2 => absurd h2 (by omega), Or.inr rfl⟩
    · rw [if_neg q]
      obtain ⟨h1, h2, h3, h4⟩ := nx_spec p hp m (n + 1) (by omega)
      have hn : n < 30 := by
        rcases Nat.lt_or_ge n 30 with z | z
        · exact z
        · exact absurd (hp n z) q
      refine ⟨by omega, h2, fun k g1 g2 => ?_, ?_⟩
      · rcases Nat.lt_or_ge k (n + 1) with z | z
        · obtain rfl : k = n := by omega
          cases hb : p k with
          | true => exact absurd hb q
          | false => rfl
        · exact h3 k z g2
      · rcases h4 with z | z
        · exact Or.inl z
        · exact Or.inl (by rw [z]; omega)
theorem tct_spec (r : Nat → Int32) (n : Nat) : n ≤ tct r n ∧ tfa r (tct r n) = false ∧ (∀ k, n ≤ k → k < tct r n → tfa r k = true) ∧ (tct r n ≤ 30 ∨ tct r n = n) := by
  obtain ⟨h1, h2, h3, h4⟩ := nx_spec (fun k => !(tfa r k)) (fun k hk => by show (!(inB _ _)) = true; rw [inB_30 hk]; rfl) 31 n (by omega)
  have e2 : (!(tfa r (tct r n))) = true := h2
  exact ⟨h1, by simpa using e2, fun k a b => by simpa using h3 k a b, h4⟩
theorem trt_spec (r : Nat → Int32) (n : Nat) : n ≤ trt r n ∧ twh r (trt r n) = true ∧ (∀ k, n ≤ k → k < trt r n → twh r k = false) ∧ (trt r n ≤ 30 ∨ trt r n = n) := nx_spec (twh r) (fun k hk => twh_30 hk) 31 n (by omega)
section CALM
variable {r : Nat → Int32}
theorem tQ_fails {n : Nat} : ∀ d, (∀ k, n ≤ k → k < n + d → tfa r k = true) → tQ r (n + d) = tQ r n ∧ tH r (n + d) = tH r n
  | 0, _ => ⟨rfl, rfl⟩
  | d + 1, h => by
    obtain ⟨h1, h2⟩ := tQ_fails d (fun k a b => h k a (by omega))
    obtain ⟨g1, g2⟩ := tQ_fail (h (n + d) (by omega) (by omega))
    exact ⟨g1.trans h1, g2.trans h2⟩
theorem tH_stays {n : Nat} (hn : tH r n = true) : ∀ d, (∀ k, n ≤ k → k < n + d → twh r k = false) → tH r (n + d) = true
  | 0, _ => hn
  | d + 1, h => by
    have h1 := tH_stays hn d (fun k a b => h k a (by omega))
    have h2 := h (n + d) (by omega) (by omega)
    show (rt r (n + d + 1)).2 = true
    rw [rt, h2, if_neg (by decide)]
    show ((rt r (n + d)).2 || _) = true
    rw [show (rt r (n + d)).2 = true from h1, Bool.true_or]
theorem tnd_beg (h : WFt r) (c : Nat) : tnd r (tbeg r c) = c := tnd_of h (fun _ hk => Int.le_of_lt (ten_lt h hk)) (tbeg_ten h c)
theorem tnd_end (h : WFt r) (c : Nat) : tnd r (ten r c) = c + 1 := tnd_of h (fun _ hk => ten_mono h (by omega)) (Int.lt_trans (ten_next h c) (tbeg_ten h _))
/-- from a calm tick on: all is as it is till the next tide that doesn't fail begins -/
theorem calm_run (h : WFt r) {t : Int} (hc : tBe r t = false) : t < tbeg r (tct r (tnd r t)) ∧ (∀ u, t ≤ u → u < tbeg r (tct r (tnd r t)) → tBe r u = false ∧ tTu r u = tTu r t) ∧ tBe r (tbeg r (tct r (tnd r t))) = true := by
  obtain ⟨s1, s2, s3, -⟩ := tct_spec r (tnd r t)
  generalize tct r (tnd r t) = c at *
  obtain ⟨g1, g2⟩ := tnd_spec h t
  have hB : tH r (tnd r t) = false ∧ (decide (tbeg r (tnd r t) ≤ t) && !(tfa r (tnd r t))) = false := by
    have := hc
    unfold tBe at this
    exact Bool.or_eq_false_iff.mp this
  have hlt : t < tbeg r c := by
    rcases Nat.lt_or_ge (tnd r t) c with q | q
    · exact Int.lt_trans g2 (ten_lt h q)
    · obtain rfl : c = tnd r t := by omega
      rw [s2] at hB
      simpa using hB.2
  refine ⟨hlt, fun u h1 h2 => ?_, ?_⟩
  · have m1 := tnd_mono h h1
    obtain ⟨u1, u2⟩ := tnd_spec h u
    have m2 : tnd r u ≤ c := by
      rcases Nat.lt_or_ge c (tnd r u) with q | q
      · have := u1 c q
        have := tbeg_ten h c
        omega
      · exact q
    obtain ⟨d, hd⟩ := Nat.exists_eq_add_of_le m1
    obtain ⟨f1, f2⟩ := tQ_fails (r := r) (n := tnd r t) d (fun k a b => s3 k a (by omega))
    rw [← hd] at f1 f2
    refine ⟨?_, f1⟩
    unfold tBe
    rw [f2, hB.1, Bool.false_or]
    rcases Nat.lt_or_ge (tnd r u) c with q | q
    · rw [s3 _ m1 q]
      simp
    · obtain e : tnd r u = c := by omega
      rw [e, decide_eq_false (by omega), Bool.false_and]
  · unfold tBe
    rw [tnd_beg h, s2, decide_eq_true (Int.le_refl _)]
    simp
/-- from a tick between on: it is between till a whole tide ends -/
theorem betw_run (h : WFt r) {t : Int} (hc : tBe r t = true) : t < ten r (trt r (tnd r t)) ∧ (∀ u, t ≤ u → u < ten r (trt r (tnd r t)) → tBe r u = true) ∧ tBe r (ten r (trt r (tnd r t))) = false := by
  obtain ⟨s1, s2, s3, -⟩ := trt_spec r (tnd r t)
  generalize trt r (tnd r t) = c at *
  obtain ⟨g1, g2⟩ := tnd_spec h t
  refine ⟨Int.lt_of_lt_of_le g2 (ten_mono h s1), fun u h1 h2 => ?_, ?_⟩
  · have m1 := tnd_mono h h1
    obtain ⟨u1, u2⟩ := tnd_spec h u
    have m2 : tnd r u ≤ c := by
      rcases Nat.lt_or_ge c (tnd r u) with q | q
      · have := u1 c q
        omega
      · exact q
    unfold tBe at hc ⊢
    rcases Bool.or_eq_true_iff.mp hc with z | z
    · obtain ⟨d, hd⟩ := Nat.exists_eq_add_of_le m1
      have := tH_stays z d (fun k a b => s3 k a (by omega))
      rw [hd, this, Bool.true_or]
    · rw [Bool.and_eq_true, decide_eq_true_eq] at z
      rcases Nat.lt_or_ge (tnd r t) (tnd r u) with q | q
      · have hw := s3 _ (Nat.le_refl _) (by omega)
        have hf : tfa r (tnd r t) = false := by simpa using z.2
        have hh : tha r (tnd r t) = true := by
          unfold twh at hw
          rw [hf] at hw
          simpa using hw
        have h3 := (tQ_half hf hh).2
        obtain ⟨d, hd⟩ := Nat.exists_eq_add_of_le (show tnd r t + 1 ≤ tnd r u by omega)
        have := tH_stays h3 d (fun k a b => s3 k (by omega) (by omega))
        rw [hd, this, Bool.true_or]
      · obtain e : tnd r u = tnd r t := by omega
        rw [e, decide_eq_true (show tbeg r (tnd r t) ≤ u by omega), z.2]
        simp
  · unfold tBe
    have e1 : tH r (c + 1) = false := by
      show (rt r (c + 1)).2 = false
      rw [rt, if_pos s2]
    rw [tnd_end h, e1, decide_eq_false (by have := ten_next h c; omega)]
    simp
/-- for how many ticks it is calm, told from behind (of 14000 ticks) -/
def sti (r : Nat → Int32) : Nat → Nat
  | 0 => 0
  | m + 1 => if tBe r (14000 - (m + 1 : Nat)) = true then 0 else sti r m + 1
def tSt (r : Nat → Int32) (t : Nat) : Nat := sti r (14000 - t)
theorem tSt_0 {t : Nat} (ht : t < 14000) : tSt r t = 0 ↔ tBe r t = true := by
  obtain ⟨m, hm⟩ : ∃ m, 14000 - t = m + 1 := ⟨14000 - t - 1, by omega⟩
  unfold tSt
  rw [hm, sti, show (14000 : Int) - (m + 1 : Nat) = (t : Int) by omega]
  by_cases q : tBe r t = true
  · rw [if_pos q]
    exact ⟨fun _ => q, fun _ => rfl⟩
  · rw [if_neg q]
    exact ⟨fun z => absurd z (by omega), fun z => absurd z q⟩
theorem tSt_step {t : Nat} (ht : t < 14000) : tSt r t = if tBe r t = true then 0 else tSt r (t + 1) + 1 := by
  obtain ⟨m, hm⟩ : ∃ m, 14000 - t = m + 1 := ⟨14000 - t - 1, by omega⟩
  unfold tSt
  rw [hm, sti, show (14000 : Int) - (m + 1 : Nat) = (t : Int) by omega, show 14000 - (t + 1) = m by omega]
theorem tSt_run : ∀ (d t : Nat), t + d ≤ 14000 → (∀ u : Nat, t ≤ u → u < t + d → tBe r u = false) → tSt r t = d + tSt r (t + d)
  | 0, t, _, _ => by rw [Nat.add_zero, Nat.zero_add]
  | d + 1, t, h, hu => by
    rw [tSt_step (by omega), hu t (by omega) (by omega), if_neg (by decide), tSt_run d (t + 1) (by omega) (fun u a b => hu u (by omega) (by omega)), show t + 1 + d = t + (d + 1) by omega]
    omega
/-- a calm tick's run, by the next tide that doesn't fail -/
theorem tSt_calm (h : WFt r) {t : Nat} (ht : t < 14000) (hc : tBe r t = false) : (tSt r t : Int) = min (tbeg r (tct r (tnd r t))) 14000 - t := by
  obtain ⟨h1, h2, h3⟩ := calm_run h hc
  generalize tbeg r (tct r (tnd r t)) = c at *
  rcases Int.lt_or_le c 14000 with q | q
  · obtain ⟨d, hd⟩ : ∃ d : Nat, c = ((t + d : Nat) : Int) := ⟨(c - t).toNat, by omega⟩
    rw [tSt_run d t (by omega) (fun u a b => (h2 u (by omega) (by omega)).1), (tSt_0 (by omega)).mpr (by rw [← hd]; exact h3)]
    omega
  · obtain ⟨d, hd⟩ : ∃ d : Nat, t + d = 14000 := ⟨14000 - t, by omega⟩
    rw [tSt_run d t (by omega) (fun u a b => (h2 u (by omega) (by omega)).1), hd]
    have : tSt r 14000 = 0 := rfl
    omega
def tSide (r : Nat → Int32) (f : Int) (t : Int) : Int := if tBe r t = true then -1 else (f + tTu r t) % 4
end CALM
section CALM6
variable {w : xW} {r : Nat → Int32} {N : Nat}
theorem tbeg_rng (h : WFt r) {k : Nat} (hk : k < 5000) : 0 ≤ tbeg r k ∧ tbeg r k ≤ 2001000 := by
  have hp := h.2.1
  have hF := h.1
  have hg := h.2.2.2.1
  have hb := tbeg_lo h k
  have hm : (k : Int) * tP r ≤ 5000 * 400 := Int.mul_le_mul (by omega) (by omega) (by omega) (by omega)
  have hm0 : 0 ≤ (k : Int) * tP r := Int.mul_nonneg (by omega) (by omega)
  omega
theorem calm_loop (hT : IsT w r) : ∀ (j m n : Nat), j < m → 30 ≤ n + j → n < 50000 → fX6_calmTill_5 N w m (iZ n) = some (iZ (tbeg r (nx (fun k => !(tfa r k)) j n)))
  | _, 0, _, hm, _, _ => absurd hm (by omega)
  | 0, m + 1, n, _, hj, hn => by
    rw [fX6_calmTill_5]
    unfold fX6_calmTill_5b fX6_calmTill_26
    rw [if_pos ((k_30 (by omega)).mpr (by omega)), begins_eq hT (by omega), nx]
  | j + 1, m + 1, n, hm, hj, hn => by
    rw [fX6_calmTill_5]
    unfold fX6_calmTill_5b fX6_calmTill_26
    rw [nx]
    by_cases c : 30 ≤ n
    · rw [if_pos ((k_30 (by omega)).mpr c), begins_eq hT (by omega), if_pos (by show (!(inB _ _)) = true; rw [inB_30 c]; rfl)]
    · rw [if_neg (fun q => c ((k_30 (by omega)).mp q)), isIn1_eq hT (by omega)]
      simp only [Option.bind_some]
      cases hf : tfa r n with
      | false => rw [if_pos (show bi false = 0 from rfl), begins_eq hT (by omega), if_pos (show (!false) = true from rfl)]
      | true => rw [if_neg (show ¬ bi true = 0 by decide), if_neg (show ¬ (!true) = true by decide), iZ_s1, calm_loop hT j m (n + 1) (by omega) (by omega) (by omega)]
theorem calmTill_eq (hN : 20000 ≤ N) (hT : IsT w r) {n : Nat} (hn : n < 50000) (e : w.1 2 2 = iZ n) : fX6_calmTill N w = some (iZ (tbeg r (tct r n))) := by
  unfold fX6_calmTill fX6_calmTill_0
  rw [e]
  exact calm_loop hT 31 N n (by omega) (by omega) hn
theorem right_loop (hT : IsT w r) : ∀ (j m n : Nat), j < m → 30 ≤ n + j → n < 50000 → fX6_rightAt_5 N w m (iZ n) = some (iZ (ten r (nx (twh r) j n)))
  | _, 0, _, hm, _, _ => absurd hm (by omega)
  | 0, m + 1, n, _, hj, hn => by
    rw [fX6_rightAt_5]
    unfold fX6_rightAt_5b fX6_rightAt_25
    rw [if_pos ((k_30 (by omega)).mpr (by omega)), begins_eq hT (by omega), nx, hT.f.2.2.1, iZ_add]
    rfl
  | j + 1, m + 1, n, hm, hj, hn => by
    rw [fX6_rightAt_5]
    unfold fX6_rightAt_5b fX6_rightAt_25
    rw [nx]
    by_cases c : 30 ≤ n
    · rw [if_pos ((k_30 (by omega)).mpr c), begins_eq hT (by omega), if_pos (twh_30 c), hT.f.2.2.1, iZ_add]
      rfl
    · rw [if_neg (fun q => c ((k_30 (by omega)).mp q)), turnsWhole_eq hT (by omega)]
      cases hf : twh r n with
      | false => rw [if_pos (show bi false = 0 from rfl), if_neg (show ¬ false = true by decide), iZ_s1, right_loop hT j m (n + 1) (by omega) (by omega) (by omega)]
      | true =>
        rw [if_neg (show ¬ bi true = 0 by decide), if_pos rfl, begins_eq hT (by omega), hT.f.2.2.1, iZ_add]
        rfl
theorem rightAt_eq (hN : 20000 ≤ N) (hT : IsT w r) {n : Nat} (hn : n < 50000) (e : w.1 2 2 = iZ n) : fX6_rightAt N w = some (iZ (ten r (trt r n))) := by
  unfold fX6_rightAt fX6_rightAt_0
  rw [e]
  exact right_loop hT 31 N n (by omega) (by omega) hn
theorem sideOf6_eq {f t : Int} (e3 : w.1 2 3 = iZ (tTu r t : Nat)) (e4 : w.1 2 4 = bi (tBe r t)) : fX6_sideOf w (iZ f) = iZ (tSide r f t) := by
  unfold fX6_sideOf fX6_sideOf_0 tSide
  rw [e3, e4]
  cases tBe r t with
  | true =>
    rw [if_neg (show ¬ bi true = 0 by decide), if_pos rfl]
    rfl
  | false => rw [if_pos (show bi false = 0 from rfl), if_neg (show ¬ false = true by decide), iZ_add, iZ_and3]
theorem frontTo6_eq {f t : Int} (e3 : w.1 2 3 = iZ (tTu r t : Nat)) : fX6_frontTo w (iZ f) = iZ ((f - tTu r t) % 4) := by
  unfold fX6_frontTo fX6_frontTo_0
  rw [e3, iZ_sub, iZ_and3]
end CALM6
