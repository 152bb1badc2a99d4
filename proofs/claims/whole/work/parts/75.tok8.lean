/-! the reference's tokens -/
def TapM (B : Nat → Int) (U : Nat) (w : xW) : Prop := w.1 55 18 = iZ (U : Nat) ∧ U ≤ 120 ∧ (∀ i, i < U → 0 ≤ B i ∧ B i ≤ 255) ∧ ∀ i, i < U → w.1 70 i = iZ (B i)
def ty8 (B : Nat → Int) (U q : Nat) : Nat := if ty B U q < 3 then ty B U q else 3
def vl8 (B : Nat → Int) (U q : Nat) : Int := if ty B U q = 2 then vl B U q else 0
def TM (B : Nat → Int) (U q : Nat) (w : xW) : Prop := w.1 55 19 = iZ (q : Nat) ∧ w.1 55 20 = iZ (te B U q : Nat) ∧ w.1 55 21 = iZ (ty8 B U q : Nat) ∧ w.1 55 22 = iZ (vl8 B U q)
def Rm (w w' : xW) : Prop := w'.2 = w.2 ∧ ∀ q k, ¬ (q = 55 ∧ 19 ≤ k ∧ k ≤ 22) → w'.1 q k = w.1 q k
theorem Rm.rf {w : xW} : Rm w w := ⟨rfl, fun _ _ _ => rfl⟩
theorem Rm.tr {a b c : xW} (h : Rm a b) (g : Rm b c) : Rm a c := ⟨g.1.trans h.1, fun q k h1 => (g.2 q k h1).trans (h.2 q k h1)⟩
theorem Rm.wr {w : xW} {k : Nat} {v : Int32} (h : 19 ≤ k ∧ k ≤ 22) : Rm w (sI w 55 k v) := ⟨rfl, fun q j h1 => by rw [sI_r, if_neg (by omega)]⟩
theorem TapM.rm {B : Nat → Int} {U : Nat} {w w' : xW} (h : TapM B U w) (g : Rm w w') : TapM B U w' := ⟨by rw [g.2 55 18 (by omega)]; exact h.1, h.2.1, h.2.2.1, fun i hi => by rw [g.2 70 i (by omega)]; exact h.2.2.2 i hi⟩
def bq (B : Nat → Int) (U p : Nat) : Int := if p < U then B p else -1
section TOK8
variable {B : Nat → Int} {U N : Nat} {w : xW}
theorem byte8 (h : TapM B U w) {p : Nat} (hp : p ≤ 1000) : fX8_byteAt w (iZ (p : Nat)) = some (iZ (bq B U p)) := by
  obtain ⟨h1, h2, h3, h4⟩ := h
  unfold fX8_byteAt fX8_byteAt_0 bq
  rw [h1]
  by_cases a : p < U
  · rw [if_neg (by rw [iZ_le (by omega) (by omega) (by omega) (by omega)]; omega), if_pos ((ibd_iZ (by omega) (by omega)).mpr (by omega)), iZ_clamp (by omega) (by omega), Int.toNat_natCast, h4 p a, if_pos a]
  · rw [if_pos (by rw [iZ_le (by omega) (by omega) (by omega) (by omega)]; omega), if_neg a]
    rfl
theorem bq_rng (h : TapM B U w) (p : Nat) : -1 ≤ bq B U p ∧ bq B U p ≤ 255 := by
  unfold bq
  by_cases a : p < U
  · rw [if_pos a]
    have := h.2.2.1 p a
    omega
  · rw [if_neg a]
    omega
theorem bq_ty (h : TapM B U w) (p : Nat) : (ty B U p = 1 ↔ 97 ≤ bq B U p ∧ bq B U p ≤ 122) ∧ (ty B U p = 2 ↔ 48 ≤ bq B U p ∧ bq B U p ≤ 57) ∧ (ty B U p = 4 ↔ bq B U p = 32) ∧ (ty B U p = 0 ↔ bq B U p < 0) ∧ (ty B U p = 3 ↔ bq B U p = 59) := by
  unfold ty bq
  by_cases a : p < U
  · have := h.2.2.1 p a
    rw [if_pos a, if_pos a]
    unfold tcl
    by_cases c1 : 97 ≤ B p ∧ B p ≤ 122
    · rw [if_pos c1]
      omega
    · rw [if_neg c1]
      by_cases c2 : 48 ≤ B p ∧ B p ≤ 57
      · rw [if_pos c2]
        omega
      · rw [if_neg c2]
        by_cases c3 : B p = 59
        · rw [if_pos c3]
          omega
        · rw [if_neg c3]
          by_cases c4 : B p = 32
          · rw [if_pos c4]
            omega
          · rw [if_neg c4]
            omega
  · rw [if_neg a, if_neg a]
    omega
theorem win_b (lo hi : Int) {x : Int} (hx : -2147483648 ≤ x ∧ x < 2147483648) (hl : -2147483648 ≤ lo ∧ lo < 2147483648) (hh : -2147483648 ≤ hi ∧ hi < 2147483648) : fX8_within (iZ x) (iZ lo) (iZ hi) = bi (decide (lo ≤ x ∧ x ≤ hi)) := by
  rw [within8, iZ_toInt hx.1 hx.2, iZ_toInt hl.1 hl.2, iZ_toInt hh.1 hh.2]
theorem win1 (h : TapM B U w) (p : Nat) : fX8_within (iZ (bq B U p)) 97 122 = bi (decide (ty B U p = 1)) := by
  have r := bq_rng h p
  have e := win_b 97 122 (x := bq B U p) (by omega) (by omega) (by omega)
  rw [show fX8_within (iZ (bq B U p)) 97 122 = fX8_within (iZ (bq B U p)) (iZ 97) (iZ 122) from rfl, e]
  have b := (bq_ty h p).1
  by_cases z : ty B U p = 1
  · rw [decide_eq_true z, decide_eq_true (b.mp z)]
  · rw [decide_eq_false z, decide_eq_false (fun y => z (b.mpr y))]
theorem win2 (h : TapM B U w) (p : Nat) : fX8_within (iZ (bq B U p)) 48 57 = bi (decide (ty B U p = 2)) := by
  have r := bq_rng h p
  have e := win_b 48 57 (x := bq B U p) (by omega) (by omega) (by omega)
  rw [show fX8_within (iZ (bq B U p)) 48 57 = fX8_within (iZ (bq B U p)) (iZ 48) (iZ 57) from rfl, e]
  have b := (bq_ty h p).2.1
  by_cases z : ty B U p = 2
  · rw [decide_eq_true z, decide_eq_true (b.mp z)]
  · rw [decide_eq_false z, decide_eq_false (fun y => z (b.mpr y))]
theorem word8_loop : ∀ (j m p : Nat) (u : xW), j < m → p + j = U → TapM B U u → u.1 55 20 = iZ (p : Nat) → ∃ w', fX8_next_84 N m u = some w' ∧ Rm u w' ∧ w'.1 55 20 = iZ (rnp B U 1 j p : Nat) ∧ ∀ k, k ≠ 20 → w'.1 55 k = u.1 55 k
  | _, 0, _, _, hm, _, _, _ => absurd hm (by omega)
  | j, m + 1, p, u, hm, hp, hT, h4 => by
    have hU := hT.2.1
    rw [fX8_next_84]
    unfold fX8_next_84b
    rw [h4, byte8 hT (by omega), Option.bind_some, win1 hT]
    cases j with
    | zero =>
      rw [decide_eq_false (by rw [ty_out (by omega)]; decide), if_pos bF, rnp]
      exact ⟨u, rfl, Rm.rf, h4, fun _ _ => rfl⟩
    | succ j =>
      rw [rnp]
      by_cases z : ty B U p = 1
      · rw [decide_eq_true z, if_neg bT, if_pos z, iZ_s1]
        have g : Rm u (sI u 55 20 (iZ ((p + 1 : Nat) : Int))) := Rm.wr (by omega)
        obtain ⟨w', q1, q2, q3, q4⟩ := word8_loop j m (p + 1) _ (by omega) (by omega) (hT.rm g) (by rw [sI_r, if_pos ⟨rfl, rfl⟩])
        exact ⟨w', q1, g.tr q2, q3, fun k hk => by rw [q4 k hk, sI_r, if_neg (by omega)]⟩
      · rw [decide_eq_false z, if_pos bF, if_neg z]
        exact ⟨u, rfl, Rm.rf, h4, fun _ _ => rfl⟩
theorem numb8_loop : ∀ (j m p : Nat) (a : Int) (u : xW), j < m → p + j = U → TapM B U u → u.1 55 20 = iZ (p : Nat) → u.1 55 22 = iZ a → 0 ≤ a → a ≤ 10000 → ∃ w', fX8_next_131 N m u = some w' ∧ Rm u w' ∧ w'.1 55 20 = iZ (rnp B U 2 j p : Nat) ∧ w'.1 55 22 = iZ (vlp B (rnp B U 2 j p - p) p a) ∧ w'.1 55 19 = u.1 55 19 ∧ w'.1 55 21 = u.1 55 21
  | _, 0, _, _, _, hm, _, _, _, _, _, _ => absurd hm (by omega)
  | j, m + 1, p, a, u, hm, hp, hT, h4, h22, a0, a1 => by
    have hU := hT.2.1
    rw [fX8_next_131]
    unfold fX8_next_131b
    rw [h4, byte8 hT (by omega), Option.bind_some, win2 hT]
    cases j with
    | zero =>
      rw [decide_eq_false (by rw [ty_out (by omega)]; decide), if_pos bF, rnp, Nat.sub_self, vlp]
      exact ⟨u, rfl, Rm.rf, h4, h22, rfl, rfl⟩
    | succ j =>
      rw [rnp]
      by_cases z : ty B U p = 2
      · have b := ((bq_ty hT p).2.1).mp z
        have pU : p < U := by
          rcases Nat.lt_or_ge p U with y | y
          · exact y
          · rw [ty_out y] at z
            cases z
        have e : bq B U p = B p := by unfold bq; rw [if_pos pU]
        rw [e] at b
        have rs := rnp_spec (B := B) (U := U) 2 j (p + 1) (by omega)
        have nv : ∀ n : Nat, p + 1 ≤ n → vlp B (n - p) p a = vlp B (n - (p + 1)) (p + 1) (if a * 10 + B p - 48 < 10000 then a * 10 + B p - 48 else 10000) := by
          intro n hn
          rw [show n - p = (n - (p + 1)) + 1 by omega, vlp]
        rw [decide_eq_true z, if_neg bT, if_pos z, Option.bind_some, h22, e, nv _ rs.1, show (10 : Int32) = iZ 10 from rfl, show (48 : Int32) = iZ 48 from rfl, iZ_mul, iZ_add, iZ_sub, show (10 : Int) * a + B p - 48 = a * 10 + B p - 48 by omega]
        have ev : (if iZ (a * 10 + B p - 48) < 10000 then iZ (a * 10 + B p - 48) else 10000) = iZ (if a * 10 + B p - 48 < 10000 then a * 10 + B p - 48 else 10000) := by
          by_cases y : a * 10 + B p - 48 < 10000
          · rw [if_pos (by rw [show (10000 : Int32) = iZ 10000 from rfl, iZ_lt (by omega) (by omega) (by omega) (by omega)]; omega), if_pos y]
          · rw [if_neg (by rw [show (10000 : Int32) = iZ 10000 from rfl, iZ_lt (by omega) (by omega) (by omega) (by omega)]; omega), if_neg y]
            rfl
        rw [ev]
        have vr : 0 ≤ (if a * 10 + B p - 48 < 10000 then a * 10 + B p - 48 else 10000) ∧ (if a * 10 + B p - 48 < 10000 then a * 10 + B p - 48 else 10000) ≤ 10000 := by split <;> omega
        generalize (if a * 10 + B p - 48 < 10000 then a * 10 + B p - 48 else 10000) = v at vr
        have e20 : (sI u 55 22 (iZ v)).1 55 20 = iZ (p : Nat) := by rw [sI_r, if_neg (by omega)]; exact h4
        rw [e20, iZ_s1]
        have g : Rm u (sI (sI u 55 22 (iZ v)) 55 20 (iZ ((p + 1 : Nat) : Int))) := (Rm.wr (by omega)).tr (Rm.wr (by omega))
        obtain ⟨w', q1, q2, q3, q4, q5, q6⟩ := numb8_loop j m (p + 1) v _ (by omega) (by omega) (hT.rm g) (by rw [sI_r, if_pos ⟨rfl, rfl⟩]) (by rw [sI_r, if_neg (by omega), sI_r, if_pos ⟨rfl, rfl⟩]) vr.1 vr.2
        exact ⟨w', q1, g.tr q2, q3, q4, by rw [q5, sI_r, if_neg (by omega), sI_r, if_neg (by omega)], by rw [q6, sI_r, if_neg (by omega), sI_r, if_neg (by omega)]⟩
      · rw [decide_eq_false z, if_pos bF, if_neg z, Nat.sub_self, vlp]
        exact ⟨u, rfl, Rm.rf, h4, h22, rfl, rfl⟩
theorem rnp_te {q : Nat} (hq : q < U) (h : ty B U q = 1 ∨ ty B U q = 2) : rnp B U (ty B U q) (U - q) q = te B U q := by
  obtain ⟨n, hn⟩ : ∃ n, U - q = n + 1 := ⟨U - q - 1, by omega⟩
  unfold te
  rw [hn, rnp, if_pos rfl, if_neg (by omega), if_pos h, show U - (q + 1) = n by omega]
theorem skip8_loop (hN : 20000 ≤ N) : ∀ (j m p : Nat) (u : xW), j < m → p + j = U → TapM B U u → u.1 55 19 = iZ (p : Nat) → ∃ w', fX8_next_8 N m u = some w' ∧ Rm u w' ∧ TM B U (skp B U j p) w'
  | _, 0, _, _, hm, _, _, _ => absurd hm (by omega)
  | j, m + 1, p, u, hm, hp, hT, h3 => by
    have hU := hT.2.1
    have br := bq_rng hT p
    obtain ⟨t1, t2, t4, t0, t3⟩ := bq_ty hT p
    have fin : ty B U p ≠ 4 → ∃ w', (if 0 ≤ iZ (bq B U p) then if (fX8_within (iZ (bq B U p)) 97 122) = 0 then if (fX8_within (iZ (bq B U p)) 48 57) = 0 then some (sI (sI (sI (sI u 55 20 (u.1 55 19)) 55 22 0) 55 21 3) 55 20 (((sI (sI (sI u 55 20 (u.1 55 19)) 55 22 0) 55 21 3).1 55 20) + 1)) else fX8_next_131 N N (sI (sI (sI u 55 20 (u.1 55 19)) 55 22 0) 55 21 2) else fX8_next_84 N N (sI (sI (sI u 55 20 (u.1 55 19)) 55 22 0) 55 21 1) else some (sI (sI (sI u 55 20 (u.1 55 19)) 55 22 0) 55 21 0)) = some w' ∧ Rm u w' ∧ TM B U p w' := by
      intro n4
      have g0 : ∀ v, Rm u (sI (sI (sI u 55 20 (u.1 55 19)) 55 22 0) 55 21 v) := fun v => ((Rm.wr (by omega)).tr (Rm.wr (by omega))).tr (Rm.wr (by omega))
      have f19 : ∀ v, (sI (sI (sI u 55 20 (u.1 55 19)) 55 22 0) 55 21 v).1 55 19 = iZ (p : Nat) := fun v => by rw [sI_r, if_neg (by omega), sI_r, if_neg (by omega), sI_r, if_neg (by omega)]; exact h3
      have f20 : ∀ v, (sI (sI (sI u 55 20 (u.1 55 19)) 55 22 0) 55 21 v).1 55 20 = iZ (p : Nat) := fun v => by rw [sI_r, if_neg (by omega), sI_r, if_neg (by omega), sI_r, if_pos ⟨rfl, rfl⟩]; exact h3
      have f21 : ∀ v, (sI (sI (sI u 55 20 (u.1 55 19)) 55 22 0) 55 21 v).1 55 21 = v := fun v => by rw [sI_r, if_pos ⟨rfl, rfl⟩]
      have f22 : ∀ v, (sI (sI (sI u 55 20 (u.1 55 19)) 55 22 0) 55 21 v).1 55 22 = iZ 0 := fun v => by rw [sI_r, if_neg (by omega), sI_r, if_pos ⟨rfl, rfl⟩]; rfl
      by_cases c0 : ty B U p = 0
      · rw [if_neg (by rw [show (0 : Int32) = iZ 0 from rfl, iZ_le (by omega) (by omega) (by omega) (by omega)]; omega)]
        refine ⟨_, rfl, g0 0, f19 0, ?_, ?_, ?_⟩
        · rw [f20]
          unfold te
          rw [if_pos c0]
        · rw [f21]
          unfold ty8
          rw [c0]
          rfl
        · rw [f22]
          unfold vl8
          rw [c0]
          rfl
      · have pU : p < U := by
          rcases Nat.lt_or_ge p U with y | y
          · exact y
          · exact absurd (ty_out y) c0
        rw [if_pos (by rw [show (0 : Int32) = iZ 0 from rfl, iZ_le (by omega) (by omega) (by omega) (by omega)]; omega), win1 hT, win2 hT]
        by_cases c1 : ty B U p = 1
        · rw [decide_eq_true c1, if_neg bT]
          obtain ⟨w', q1, q2, q3, q4⟩ := word8_loop (B := B) (N := N) (U - p) N p _ (by omega) (by omega) (hT.rm (g0 1)) (f20 1)
          have rt := rnp_te pU (Or.inl c1)
          rw [c1] at rt
          refine ⟨w', q1, (g0 1).tr q2, ?_, ?_, ?_, ?_⟩
          · rw [q4 19 (by omega)]
            exact f19 1
          · rw [q3, rt]
          · rw [q4 21 (by omega), f21]
            unfold ty8
            rw [c1]
            rfl
          · rw [q4 22 (by omega), f22]
            unfold vl8
            rw [c1]
            rfl
        · rw [decide_eq_false c1, if_pos bF]
          by_cases c2 : ty B U p = 2
          · rw [decide_eq_true c2, if_neg bT]
            obtain ⟨w', q1, q2, q3, q4, q5, q6⟩ := numb8_loop (B := B) (N := N) (U - p) N p 0 _ (by omega) (by omega) (hT.rm (g0 2)) (f20 2) (f22 2) (by omega) (by omega)
            have rt := rnp_te pU (Or.inr c2)
            rw [c2] at rt
            refine ⟨w', q1, (g0 2).tr q2, ?_, ?_, ?_, ?_⟩
            · rw [q5]
              exact f19 2
            · rw [q3, rt]
            · rw [q6, f21]
              unfold ty8
              rw [c2]
              rfl
            · rw [q4, rt]
              unfold vl8
              rw [if_pos c2]
              rfl
          · rw [decide_eq_false c2, if_pos bF, f20, iZ_s1]
            have tr := ty_rng (B := B) (U := U) p
            refine ⟨_, rfl, (g0 3).tr (Rm.wr (by omega)), ?_, ?_, ?_, ?_⟩
            · rw [sI_r, if_neg (by omega)]
              exact f19 3
            · rw [sI_r, if_pos ⟨rfl, rfl⟩]
              unfold te
              rw [if_neg c0, if_neg (by omega)]
            · rw [sI_r, if_neg (by omega), f21]
              unfold ty8
              rw [if_neg (by omega)]
              rfl
            · rw [sI_r, if_neg (by omega), f22]
              unfold vl8
              rw [if_neg c2]
    rw [fX8_next_8]
    unfold fX8_next_8b
    rw [h3, byte8 hT (by omega), Option.bind_some, Option.bind_some]
    rw [h3] at fin
    cases j with
    | zero =>
      have o := ty_out (B := B) (U := U) (p := p) (by omega)
      rw [if_neg (by rw [show (32 : Int32) = iZ 32 from rfl, iZ_eq (by omega) (by omega) (by omega) (by omega)]; omega), skp]
      exact fin (by rw [o]; decide)
    | succ j =>
      rw [skp]
      by_cases z : ty B U p = 4
      · rw [if_pos (by rw [t4.mp z]; rfl), if_pos z, iZ_s1]
        have g : Rm u (sI u 55 19 (iZ ((p + 1 : Nat) : Int))) := Rm.wr (by omega)
        obtain ⟨w', q1, q2, q3⟩ := skip8_loop hN j m (p + 1) _ (by omega) (by omega) (hT.rm g) (by rw [sI_r, if_pos ⟨rfl, rfl⟩])
        exact ⟨w', q1, g.tr q2, q3⟩
      · rw [if_neg (by rw [show (32 : Int32) = iZ 32 from rfl, iZ_eq (by omega) (by omega) (by omega) (by omega)]; exact fun y => z (t4.mpr y)), if_neg z]
        exact fin z
theorem next8 (hN : 20000 ≤ N) {p : Nat} (hp : p ≤ U) (hT : TapM B U w) (h4 : w.1 55 20 = iZ (p : Nat)) : ∃ w', fX8_next N w = some w' ∧ Rm w w' ∧ TM B U (sk B U p) w' := by
  have hU := hT.2.1
  unfold fX8_next fX8_next_0
  rw [h4]
  have g : Rm w (sI w 55 19 (iZ (p : Nat))) := Rm.wr (by omega)
  obtain ⟨w', q1, q2, q3⟩ := skip8_loop hN (U - p) N p _ (by omega) (by omega) (hT.rm g) (by rw [sI_r, if_pos ⟨rfl, rfl⟩])
  exact ⟨w', q1, g.tr q2, q3⟩
end TOK8
