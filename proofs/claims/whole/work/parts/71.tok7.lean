/-! the class's tokens -/
def sgn (b : Int) : Int := if b < 128 then b else b - 256
def TapC (B : Nat → Int) (U : Nat) (w : xW) : Prop := w.1 42 1 = iZ (U : Nat) ∧ U ≤ 120 ∧ (∀ i, i < U → 0 ≤ B i ∧ B i ≤ 255) ∧ ∀ i, i < U → w.1 43 i = iZ (sgn (B i))
def TC (B : Nat → Int) (U q : Nat) (w : xW) : Prop := w.1 42 2 = iZ (ty B U q : Nat) ∧ w.1 42 3 = iZ (q : Nat) ∧ w.1 42 4 = iZ (te B U q : Nat)
def Rt (w w' : xW) : Prop := w'.2 = w.2 ∧ ∀ q k, ¬ (q = 42 ∧ k ≠ 1) → w'.1 q k = w.1 q k
theorem Rt.rf {w : xW} : Rt w w := ⟨rfl, fun _ _ _ => rfl⟩
theorem Rt.tr {a b c : xW} (h : Rt a b) (g : Rt b c) : Rt a c := ⟨g.1.trans h.1, fun q k h1 => (g.2 q k h1).trans (h.2 q k h1)⟩
theorem Rt.w42 {w : xW} {k : Nat} {v : Int32} (h : k ≠ 1) : Rt w (sI w 42 k v) := ⟨rfl, fun q j h1 => by rw [sI_r, if_neg (by omega)]⟩
def Ru (w w' : xW) : Prop := w'.2 = w.2 ∧ ∀ q k, ¬ (q = 42 ∧ k ≠ 1) → ¬ (q = 44 ∧ k = 1) → w'.1 q k = w.1 q k
theorem Ru.rf {w : xW} : Ru w w := ⟨rfl, fun _ _ _ _ => rfl⟩
theorem Ru.tr {a b c : xW} (h : Ru a b) (g : Ru b c) : Ru a c := ⟨g.1.trans h.1, fun q k h1 h2 => (g.2 q k h1 h2).trans (h.2 q k h1 h2)⟩
theorem Rt.u {w w' : xW} (h : Rt w w') : Ru w w' := ⟨h.1, fun q k h1 _ => h.2 q k h1⟩
theorem Ru.w44 {w : xW} {v : Int32} : Ru w (sI w 44 1 v) := ⟨rfl, fun q j _ h2 => by rw [sI_r, if_neg (by omega)]⟩
theorem TapC.ru {B : Nat → Int} {U : Nat} {w w' : xW} (h : TapC B U w) (g : Ru w w') : TapC B U w' := ⟨by rw [g.2 42 1 (by omega) (by omega)]; exact h.1, h.2.1, h.2.2.1, fun i hi => by rw [g.2 43 i (by omega) (by omega)]; exact h.2.2.2 i hi⟩
theorem TapC.rt {B : Nat → Int} {U : Nat} {w w' : xW} (h : TapC B U w) (g : Rt w w') : TapC B U w' := h.ru g.u
theorem TC.w44 {B : Nat → Int} {U q : Nat} {w : xW} {v : Int32} (h : TC B U q w) : TC B U q (sI w 44 1 v) := by
  unfold TC
  rw [sI_ne1 (by omega)]
  exact h
section TOK7
variable {B : Nat → Int} {U N : Nat} {w : xW}
theorem sgn_cl {b : Int} (h0 : 0 ≤ b) (h1 : b ≤ 255) : fX4_typeAt_41 w (iZ (sgn b)) = some (iZ (tcl b : Nat)) ∨ (97 ≤ b ∧ b ≤ 122) := by
  by_cases z : 97 ≤ b ∧ b ≤ 122
  · exact Or.inr z
  · refine Or.inl ?_
    unfold fX4_typeAt_41 fX4_typeAt_55 tcl
    have r : -128 ≤ sgn b ∧ sgn b ≤ 127 := by unfold sgn; split <;> omega
    rw [if_neg z]
    by_cases y : 48 ≤ b ∧ b ≤ 57
    · have e : sgn b = b := by unfold sgn; rw [if_pos (by omega)]
      rw [if_pos y, e, if_neg (by rw [show (48 : Int32) = iZ 48 from rfl, iZ_lt (by omega) (by omega) (by omega) (by omega)]; omega), if_neg (by rw [show (57 : Int32) = iZ 57 from rfl, iZ_lt (by omega) (by omega) (by omega) (by omega)]; omega)]
      rfl
    · rw [if_neg y]
      have t55 : (if iZ (sgn b) = 59 then some (3 : Int32) else if iZ (sgn b) = 32 then some 4 else some 5) = some (iZ ((if b = 59 then 3 else if b = 32 then 4 else 5 : Nat) : Int)) := by
        by_cases x : b = 59
        · rw [x]
          rfl
        · rw [if_neg (by rw [show (59 : Int32) = iZ 59 from rfl, iZ_eq (by omega) (by omega) (by omega) (by omega)]; unfold sgn; split <;> omega), if_neg x]
          by_cases v : b = 32
          · rw [v]
            rfl
          · rw [if_neg (by rw [show (32 : Int32) = iZ 32 from rfl, iZ_eq (by omega) (by omega) (by omega) (by omega)]; unfold sgn; split <;> omega), if_neg v]
            rfl
      by_cases x : iZ (sgn b) < 48
      · rw [if_pos x]
        exact t55
      · rw [if_neg x]
        rw [show (48 : Int32) = iZ 48 from rfl, iZ_lt (by omega) (by omega) (by omega) (by omega)] at x
        rw [if_pos (by rw [show (57 : Int32) = iZ 57 from rfl, iZ_lt (by omega) (by omega) (by omega) (by omega)]; revert x; unfold sgn; split <;> omega)]
        exact t55
theorem typeAt_eq (h : TapC B U w) {p : Nat} (hp : p ≤ 1000) : fX4_typeAt w (iZ (p : Nat)) = some (iZ (ty B U p : Nat)) := by
  obtain ⟨h1, h2, h3, h4⟩ := h
  unfold fX4_typeAt fX4_typeAt_0
  rw [if_neg (k_neg (by omega)), h1]
  by_cases a : p < U
  · have b := h3 p a
    have r : -128 ≤ sgn (B p) ∧ sgn (B p) ≤ 127 := by unfold sgn; split <;> omega
    rw [if_neg (by rw [iZ_le (by omega) (by omega) (by omega) (by omega)]; omega), if_pos (by rw [show (120 : Int32) = iZ 120 from rfl, iZ_lt (by omega) (by omega) (by omega) (by omega)]; omega), if_pos ((ibd_iZ (by omega) (by omega)).mpr (by omega)), iZ_clamp (by omega) (by omega), Int.toNat_natCast, h4 p a]
    have t : ty B U p = tcl (B p) := by unfold ty; rw [if_pos a]
    rw [t]
    rcases sgn_cl (w := w) b.1 b.2 with c | c
    · by_cases z : 97 ≤ B p ∧ B p ≤ 122
      · have e : sgn (B p) = B p := by unfold sgn; rw [if_pos (by omega)]
        rw [e, if_neg (by rw [show (97 : Int32) = iZ 97 from rfl, iZ_lt (by omega) (by omega) (by omega) (by omega)]; omega), if_neg (by rw [show (122 : Int32) = iZ 122 from rfl, iZ_lt (by omega) (by omega) (by omega) (by omega)]; omega)]
        unfold tcl
        rw [if_pos z]
        rfl
      · by_cases y : iZ (sgn (B p)) < 97
        · rw [if_pos y, c]
        · rw [if_neg y]
          rw [show (97 : Int32) = iZ 97 from rfl, iZ_lt (by omega) (by omega) (by omega) (by omega)] at y
          rw [if_pos (by rw [show (122 : Int32) = iZ 122 from rfl, iZ_lt (by omega) (by omega) (by omega) (by omega)]; revert y; unfold sgn; split <;> omega), c]
    · have e : sgn (B p) = B p := by unfold sgn; rw [if_pos (by omega)]
      rw [e, if_neg (by rw [show (97 : Int32) = iZ 97 from rfl, iZ_lt (by omega) (by omega) (by omega) (by omega)]; omega), if_neg (by rw [show (122 : Int32) = iZ 122 from rfl, iZ_lt (by omega) (by omega) (by omega) (by omega)]; omega)]
      unfold tcl
      rw [if_pos c]
      rfl
  · rw [if_pos (by rw [iZ_le (by omega) (by omega) (by omega) (by omega)]; omega), ty_out (by omega)]
    rfl
theorem run7_loop {t : Nat} (ht : t = 1 ∨ t = 2) : ∀ (j m p : Nat) (u : xW), j < m → p + j = U → TapC B U u → u.1 42 2 = iZ (t : Nat) → u.1 42 4 = iZ (p : Nat) → ∃ w', fX4_step_80 N m u = some w' ∧ Rt u w' ∧ w'.1 42 2 = u.1 42 2 ∧ w'.1 42 3 = u.1 42 3 ∧ w'.1 42 4 = iZ (rnp B U t j p : Nat)
  | _, 0, _, _, hm, _, _, _, _ => absurd hm (by omega)
  | 0, m + 1, p, u, _, hp, hT, h2, h4 => by
    have hU := hT.2.1
    rw [fX4_step_80, rnp]
    unfold fX4_step_80b
    rw [hT.1, h4, if_pos (by rw [iZ_le (by omega) (by omega) (by omega) (by omega)]; omega)]
    exact ⟨u, rfl, Rt.rf, rfl, rfl, h4⟩
  | j + 1, m + 1, p, u, hm, hp, hT, h2, h4 => by
    have hU := hT.2.1
    have tr := ty_rng (B := B) (U := U) p
    rw [fX4_step_80, rnp]
    unfold fX4_step_80b
    have body : ∃ w', fX4_step_107 N (fX4_step_80 N m) u = some w' ∧ Rt u w' ∧ w'.1 42 2 = u.1 42 2 ∧ w'.1 42 3 = u.1 42 3 ∧ w'.1 42 4 = iZ ((if ty B U p = t then rnp B U t j (p + 1) else p : Nat) : Int) := by
      unfold fX4_step_107
      rw [h4, typeAt_eq hT (by omega), Option.bind_some, h2]
      by_cases z : ty B U p = t
      · rw [if_pos (by rw [z]), if_pos z, iZ_s1]
        have g : Rt u (sI u 42 4 (iZ ((p + 1 : Nat) : Int))) := Rt.w42 (by omega)
        obtain ⟨w', q1, q2, q3, q4, q5⟩ := run7_loop ht j m (p + 1) (sI u 42 4 (iZ ((p + 1 : Nat) : Int))) (by omega) (by omega) (hT.rt g) (by rw [sI_r, if_neg (by omega)]; exact h2) (by rw [sI_r, if_pos ⟨rfl, rfl⟩])
        exact ⟨w', q1, g.tr q2, by rw [q3, sI_r, if_neg (by omega)]; exact h2, by rw [q4, sI_r, if_neg (by omega)], q5⟩
      · rw [if_neg (by rw [iZ_eq (by omega) (by omega) (by omega) (by omega)]; omega), if_neg z]
        exact ⟨u, rfl, Rt.rf, h2, rfl, h4⟩
    rw [hT.1]
    rw [show u.1 42 4 = iZ (p : Nat) from h4, if_neg (by rw [iZ_le (by omega) (by omega) (by omega) (by omega)]; omega)]
    by_cases z : t = 1
    · rw [if_pos (by rw [h2, z]; rfl)]
      exact body
    · rw [if_neg (by rw [h2, show (1 : Int32) = iZ 1 from rfl, iZ_eq (by omega) (by omega) (by omega) (by omega)]; omega), if_pos (by rw [h2, show t = 2 by omega]; rfl)]
      exact body
theorem step44 (hN : 20000 ≤ N) {q : Nat} (hq : q ≤ U) {u : xW} (hT : TapC B U u) (h3 : u.1 42 3 = iZ (q : Nat)) : ∃ w', fX4_step_44 N u = some w' ∧ Rt u w' ∧ TC B U q w' := by
  have hU := hT.2.1
  have tr := ty_rng (B := B) (U := U) q
  unfold fX4_step_44
  rw [h3, typeAt_eq hT (by omega), Option.bind_some]
  have e2 : (sI u 42 2 (iZ (ty B U q : Nat))).1 42 2 = iZ (ty B U q : Nat) := by rw [sI_r, if_pos ⟨rfl, rfl⟩]
  have e3 : (sI u 42 2 (iZ (ty B U q : Nat))).1 42 3 = iZ (q : Nat) := by rw [sI_r, if_neg (by omega)]; exact h3
  have g : Rt u (sI u 42 2 (iZ (ty B U q : Nat))) := Rt.w42 (by omega)
  rw [e2, e3]
  generalize sI u 42 2 (iZ (ty B U q : Nat)) = v at e2 e3 g
  have hv := hT.rt g
  unfold fX4_step_77
  obtain ⟨n, hn⟩ : ∃ n, N = n + 1 := ⟨N - 1, by omega⟩
  by_cases a : ty B U q = 0
  · rw [if_pos (by rw [a]; rfl)]
    have g2 : Rt v (sI v 42 4 (iZ (q : Nat))) := Rt.w42 (by omega)
    have f1 : (sI v 42 4 (iZ (q : Nat))).1 42 1 = iZ (U : Nat) := (hv.rt g2).1
    have f2 : (sI v 42 4 (iZ (q : Nat))).1 42 2 = iZ (ty B U q : Nat) := by rw [sI_r, if_neg (by omega)]; exact e2
    have f3 : (sI v 42 4 (iZ (q : Nat))).1 42 3 = iZ (q : Nat) := by rw [sI_r, if_neg (by omega)]; exact e3
    have f4 : (sI v 42 4 (iZ (q : Nat))).1 42 4 = iZ (q : Nat) := by rw [sI_r, if_pos ⟨rfl, rfl⟩]
    refine ⟨_, ?_, g.tr g2, f2, f3, ?_⟩
    · have q' : U ≤ q := by
        rcases Nat.lt_or_ge q U with z | z
        · exact absurd a (ty_in z)
        · exact z
      have : ∀ M, M = n + 1 → fX4_step_80 N M (sI v 42 4 (iZ (q : Nat))) = some (sI v 42 4 (iZ (q : Nat))) := by
        intro M hM
        rw [hM, fX4_step_80]
        unfold fX4_step_80b
        rw [f1, f4, if_pos (by rw [iZ_le (by omega) (by omega) (by omega) (by omega)]; omega)]
      exact this N hn
    · rw [f4]
      unfold te
      rw [if_pos a]
  · have ql : q < U := by
      rcases Nat.lt_or_ge q U with z | z
      · exact z
      · exact absurd (ty_out z) a
    rw [if_neg (by rw [show (0 : Int32) = iZ 0 from rfl, iZ_eq (by omega) (by omega) (by omega) (by omega)]; omega), iZ_s1]
    have g2 : Rt v (sI v 42 4 (iZ ((q + 1 : Nat) : Int))) := Rt.w42 (by omega)
    have f2 : (sI v 42 4 (iZ ((q + 1 : Nat) : Int))).1 42 2 = iZ (ty B U q : Nat) := by rw [sI_r, if_neg (by omega)]; exact e2
    have f3 : (sI v 42 4 (iZ ((q + 1 : Nat) : Int))).1 42 3 = iZ (q : Nat) := by rw [sI_r, if_neg (by omega)]; exact e3
    have f4 : (sI v 42 4 (iZ ((q + 1 : Nat) : Int))).1 42 4 = iZ ((q + 1 : Nat) : Int) := by rw [sI_r, if_pos ⟨rfl, rfl⟩]
    by_cases b : ty B U q = 1 ∨ ty B U q = 2
    · obtain ⟨w', r1, r2, r3, r4, r5⟩ := run7_loop (N := N) b (U - (q + 1)) N (q + 1) _ (by omega) (by omega) (hv.rt g2) f2 f4
      refine ⟨w', r1, (g.tr g2).tr r2, r3.trans f2, r4.trans f3, ?_⟩
      rw [r5]
      unfold te
      rw [if_neg a, if_pos b]
    · refine ⟨_, ?_, g.tr g2, f2, f3, ?_⟩
      · have : ∀ M, M = n + 1 → fX4_step_80 N M (sI v 42 4 (iZ ((q + 1 : Nat) : Int))) = some (sI v 42 4 (iZ ((q + 1 : Nat) : Int))) := by
          intro M hM
          rw [hM, fX4_step_80]
          unfold fX4_step_80b
          rw [f2]
          split
          · rfl
          · rw [if_neg (by rw [show (1 : Int32) = iZ 1 from rfl, iZ_eq (by omega) (by omega) (by omega) (by omega)]; omega), if_neg (by rw [show (2 : Int32) = iZ 2 from rfl, iZ_eq (by omega) (by omega) (by omega) (by omega)]; omega)]
        exact this N hn
      · rw [f4]
        unfold te
        rw [if_neg a, if_neg b]
theorem skip7_loop (hN : 20000 ≤ N) : ∀ (j m p : Nat) (u : xW), j < m → p + j = U → TapC B U u → u.1 42 3 = iZ (p : Nat) → ∃ w', fX4_step_8 N m u = some w' ∧ Rt u w' ∧ TC B U (skp B U j p) w'
  | _, 0, _, _, hm, _, _, _ => absurd hm (by omega)
  | 0, m + 1, p, u, _, hp, hT, h3 => by
    have hU := hT.2.1
    rw [fX4_step_8, skp]
    unfold fX4_step_8b
    rw [hT.1, show u.1 42 3 = iZ (p : Nat) from h3, if_pos (by rw [iZ_le (by omega) (by omega) (by omega) (by omega)]; omega)]
    exact step44 hN (by omega) hT h3
  | j + 1, m + 1, p, u, hm, hp, hT, h3 => by
    have hU := hT.2.1
    have tr := ty_rng (B := B) (U := U) p
    rw [fX4_step_8, skp]
    unfold fX4_step_8b
    rw [hT.1, show u.1 42 3 = iZ (p : Nat) from h3, if_neg (by rw [iZ_le (by omega) (by omega) (by omega) (by omega)]; omega), typeAt_eq hT (by omega), Option.bind_some]
    by_cases z : ty B U p = 4
    · rw [if_pos (by rw [z]; rfl), if_pos z, iZ_s1]
      have g : Rt u (sI u 42 3 (iZ ((p + 1 : Nat) : Int))) := Rt.w42 (by omega)
      obtain ⟨w', q1, q2, q3⟩ := skip7_loop hN j m (p + 1) _ (by omega) (by omega) (hT.rt g) (by rw [sI_r, if_pos ⟨rfl, rfl⟩])
      exact ⟨w', q1, g.tr q2, q3⟩
    · rw [if_neg (by rw [show (4 : Int32) = iZ 4 from rfl, iZ_eq (by omega) (by omega) (by omega) (by omega)]; omega), if_neg z]
      exact step44 hN (by omega) hT h3
theorem step7 (hN : 20000 ≤ N) {p : Nat} (hp : p ≤ U) (hT : TapC B U w) (h4 : w.1 42 4 = iZ (p : Nat)) : ∃ w', fX4_step N w = some w' ∧ Rt w w' ∧ TC B U (sk B U p) w' := by
  have hU := hT.2.1
  unfold fX4_step fX4_step_0
  rw [h4]
  have g : Rt w (sI w 42 3 (iZ (p : Nat))) := Rt.w42 (by omega)
  obtain ⟨w', q1, q2, q3⟩ := skip7_loop hN (U - p) N p _ (by omega) (by omega) (hT.rt g) (by rw [sI_r, if_pos ⟨rfl, rfl⟩])
  exact ⟨w', q1, g.tr q2, q3⟩
theorem next7 (hN : 20000 ≤ N) {q : Nat} (hq : TQ B U q) (hT : TapC B U w) (h : TC B U q w) : ∃ w', fX4_step N w = some w' ∧ Rt w w' ∧ TC B U (nxt B U q) w' := step7 hN (te_spec hq).1 hT h.2.2
theorem sgn_id {b : Int} (h : b < 128) : sgn b = b := by unfold sgn; rw [if_pos h]
theorem cl1 {b : Int} (h : tcl b = 1) : 97 ≤ b ∧ b ≤ 122 := by
  unfold tcl at h
  split at h
  · assumption
  · split at h
    · omega
    · split at h
      · omega
      · split at h <;> omega
theorem cl2 {b : Int} (h : tcl b = 2) : 48 ≤ b ∧ b ≤ 57 := by
  unfold tcl at h
  split at h
  · omega
  · split at h
    · assumption
    · split at h
      · omega
      · split at h <;> omega
theorem ty_cl {p : Nat} (h : ty B U p ≠ 0) : p < U ∧ ty B U p = tcl (B p) := by
  unfold ty at h ⊢
  by_cases z : p < U
  · rw [if_pos z]
    exact ⟨z, rfl⟩
  · rw [if_neg z] at h
    exact absurd rfl h
theorem klen_s : ∀ j : Nat, j < 17 → kln j ≤ 6 ∧ xlen j = iZ (kln j : Nat) := by decide +kernel
theorem xch_s : ∀ j : Nat, j < 17 → ∀ k : Nat, k < kln j → 97 ≤ (xch j k).toInt ∧ (xch j k).toInt ≤ 122 := by decide +kernel
theorem isW7_loop {q j : Nat} (hj : j < 17) (hT : TapC B U w) (h3 : w.1 42 3 = iZ (q : Nat)) (hl : q + kln j ≤ U) (hc : ∀ k, q ≤ k → k < q + kln j → ty B U k = 1) : ∀ (n m k : Nat), n < m → k + n = kln j → fX4_isWord_28 N w j m (iZ (k : Nat)) = some (bi (isC B j q n k))
  | _, 0, _, hm, _ => absurd hm (by omega)
  | 0, m + 1, k, _, hk => by
    obtain ⟨k6, kx⟩ := klen_s j hj
    rw [fX4_isWord_28, isC]
    unfold fX4_isWord_28b
    rw [kx, if_pos (by rw [iZ_le (by omega) (by omega) (by omega) (by omega)]; omega)]
    rfl
  | n + 1, m + 1, k, hm, hk => by
    obtain ⟨k6, kx⟩ := klen_s j hj
    have hU := hT.2.1
    have x := xch_s j hj k (by omega)
    have t1 := hc (q + k) (by omega) (by omega)
    obtain ⟨c1, c2⟩ := ty_cl (B := B) (U := U) (p := q + k) (by rw [t1]; decide)
    have b := cl1 (c2.symm.trans t1)
    have xc : xchar j (iZ (k : Nat)) = some (xch j k) := by
      unfold xchar
      rw [if_pos ((ibd_iZ (by omega) (by omega)).mpr ⟨by omega, by show ((k : Nat) : Int) < ((kln j : Nat) : Int); omega⟩), iZ_clamp (by omega) (by omega), Int.toNat_natCast]
    rw [fX4_isWord_28, isC]
    unfold fX4_isWord_28b
    rw [kx, if_neg (by rw [iZ_le (by omega) (by omega) (by omega) (by omega)]; omega), h3, iZ_add, show (q : Int) + (k : Int) = ((q + k : Nat) : Int) by omega, if_pos ((ibd_iZ (by omega) (by omega)).mpr (by omega)), xc, Option.bind_some, iZ_clamp (by omega) (by omega), Int.toNat_natCast, hT.2.2.2 (q + k) c1, sgn_id (by omega), iZ_s1]
    by_cases z : B (q + k) = (xch j k).toInt
    · rw [if_pos (by rw [z, iZ_self]), decide_eq_true z, Bool.true_and]
      exact isW7_loop hj hT h3 hl hc n m (k + 1) (by omega) (by omega)
    · rw [if_neg (fun e => z (by rw [← e, iZ_toInt (by omega) (by omega)])), decide_eq_false z, Bool.false_and]
      rfl
theorem isWord7 (hN : 20000 ≤ N) {q j : Nat} (hj : j < 17) (hq : TQ B U q) (hT : TapC B U w) (h : TC B U q w) : fX4_isWord N w j = some (bi (isW B U j q)) := by
  obtain ⟨k6, kx⟩ := klen_s j hj
  have hU := hT.2.1
  have tr := ty_rng (B := B) (U := U) q
  obtain ⟨e1, e2, e3, e4⟩ := te_spec hq
  obtain ⟨h2, h3, h4⟩ := h
  unfold fX4_isWord fX4_isWord_0 isW
  rw [if_pos hj, h2, h3, h4, iZ_sub, kx]
  by_cases a : ty B U q = 1
  · rw [if_pos (by rw [a]; rfl), decide_eq_true a, Bool.true_and]
    by_cases b : te B U q - q = kln j
    · rw [if_pos (by congr 1; omega), decide_eq_true b, Bool.true_and]
      exact isW7_loop hj hT h3 (by omega) (fun k a1 a2 => by rw [e4 (Or.inl a) k a1 (by omega), a]) (kln j) N 0 (by omega) (by omega)
    · rw [if_neg (by rw [iZ_eq (by omega) (by omega) (by omega) (by omega)]; omega), decide_eq_false b, Bool.false_and]
      rfl
  · rw [if_neg (by rw [show (1 : Int32) = iZ 1 from rfl, iZ_eq (by omega) (by omega) (by omega) (by omega)]; omega), decide_eq_false a, Bool.false_and]
    rfl
theorem value7_loop (hT : TapC B U w) : ∀ (n m p : Nat) (a : Int), n < m → p + n ≤ U → w.1 42 4 = iZ ((p + n : Nat) : Int) → (∀ k, p ≤ k → k < p + n → ty B U k = 2) → 0 ≤ a → a ≤ 10000 → fX4_value_7 N w m (iZ a) (iZ (p : Nat)) = some (iZ (vlp B n p a))
  | _, 0, _, _, hm, _, _, _, _, _ => absurd hm (by omega)
  | 0, m + 1, p, a, _, hp, h4, _, _, _ => by
    have hU := hT.2.1
    rw [fX4_value_7, vlp]
    unfold fX4_value_7b
    rw [h4, if_pos (by rw [iZ_le (by omega) (by omega) (by omega) (by omega)]; omega)]
  | n + 1, m + 1, p, a, hm, hp, h4, ht, a0, a1 => by
    have hU := hT.2.1
    have t1 := ht p (by omega) (by omega)
    obtain ⟨c1, c2⟩ := ty_cl (B := B) (U := U) (p := p) (by rw [t1]; decide)
    have b := cl2 (c2.symm.trans t1)
    rw [fX4_value_7, vlp]
    unfold fX4_value_7b
    rw [h4, if_neg (by rw [iZ_le (by omega) (by omega) (by omega) (by omega)]; omega), if_pos ((ibd_iZ (by omega) (by omega)).mpr (by omega)), iZ_clamp (by omega) (by omega), Int.toNat_natCast, hT.2.2.2 p c1, sgn_id (by omega), show (10 : Int32) = iZ 10 from rfl, show (48 : Int32) = iZ 48 from rfl, iZ_mul, iZ_add, iZ_sub, iZ_s1]
    by_cases z : a * 10 + B p - 48 < 10000
    · rw [if_pos (by rw [show (10000 : Int32) = iZ 10000 from rfl, iZ_lt (by omega) (by omega) (by omega) (by omega)]; omega), if_pos z]
      exact value7_loop hT n m (p + 1) _ (by omega) (by omega) (by rw [h4]; congr 1; omega) (fun k g1 g2 => ht k (by omega) (by omega)) (by omega) (by omega)
    · rw [if_neg (by rw [show (10000 : Int32) = iZ 10000 from rfl, iZ_lt (by omega) (by omega) (by omega) (by omega)]; omega), if_neg z]
      exact value7_loop hT n m (p + 1) 10000 (by omega) (by omega) (by rw [h4]; congr 1; omega) (fun k g1 g2 => ht k (by omega) (by omega)) (by omega) (by omega)
theorem word7 (hN : 20000 ≤ N) {q j : Nat} (hj : j < 17) (hq : TQ B U q) (hT : TapC B U w) (h : TC B U q w) : ∃ w', fX5_word N w j = some (w', bi (isW B U j q)) ∧ Rt w w' ∧ TC B U (if isW B U j q = true then nxt B U q else q) w' := by
  unfold fX5_word fX5_word_0
  rw [if_pos hj, isWord7 hN hj hq hT h, Option.bind_some]
  cases isW B U j q with
  | false =>
    rw [if_pos bF, if_neg (by decide)]
    exact ⟨w, rfl, Rt.rf, h⟩
  | true =>
    obtain ⟨w', g1, g2, g3⟩ := next7 hN hq hT h
    rw [if_neg bT, g1, if_pos rfl]
    exact ⟨w', rfl, g2, g3⟩
theorem number7 (hN : 20000 ≤ N) {q : Nat} {lo hi : Int} (l0 : -1000 ≤ lo ∧ lo ≤ 20000) (h0 : -1000 ≤ hi ∧ hi ≤ 20000) (hq : TQ B U q) (hT : TapC B U w) (h : TC B U q w) : ∃ w', fX5_number N w (iZ lo) (iZ hi) = some (w', bi (nmB B U lo hi q)) ∧ Ru w w' ∧ TC B U (if nmB B U lo hi q = true then nxt B U q else q) w' ∧ (nmB B U lo hi q = true → w'.1 44 1 = iZ (vl B U q)) := by
  have hU := hT.2.1
  have tr := ty_rng (B := B) (U := U) q
  obtain ⟨e1, e2, e3, e4⟩ := te_spec hq
  have hh := h
  obtain ⟨h2, h3, h4⟩ := hh
  unfold fX5_number fX5_number_0 nmB
  rw [h2]
  by_cases a : ty B U q = 2
  · have v := vl_rng hT.2.2.1 hq a
    have hv : fX4_value N w = some (iZ (vl B U q)) := by
      unfold fX4_value fX4_value_0
      rw [h3]
      exact value7_loop hT (te B U q - q) N q 0 (by omega) (by omega) (by rw [h4]; congr 1; omega) (fun k a1 a2 => by rw [e4 (Or.inr a) k a1 (by omega), a]) (by omega) (by omega)
    rw [if_pos (by rw [a]; rfl), hv, Option.bind_some, decide_eq_true a, Bool.true_and]
    have e44 : (sI w 44 1 (iZ (vl B U q))).1 44 1 = iZ (vl B U q) := by rw [sI_r, if_pos ⟨rfl, rfl⟩]
    rw [e44]
    by_cases b : lo ≤ vl B U q
    · rw [if_neg (by rw [iZ_lt (by omega) (by omega) (by omega) (by omega)]; omega), decide_eq_true b, Bool.true_and]
      by_cases c : vl B U q ≤ hi
      · obtain ⟨w', g1, g2, g3⟩ := next7 hN hq (hT.ru Ru.w44) (h.w44 (v := iZ (vl B U q)))
        rw [if_pos (by rw [iZ_le (by omega) (by omega) (by omega) (by omega)]; omega), decide_eq_true c, g1, if_pos rfl]
        exact ⟨w', rfl, Ru.w44.tr g2.u, g3, fun _ => (g2.2 44 1 (by omega)).trans e44⟩
      · rw [if_neg (by rw [iZ_le (by omega) (by omega) (by omega) (by omega)]; omega), decide_eq_false c, if_neg (by decide)]
        exact ⟨_, rfl, Ru.w44, h.w44, fun z => by cases z⟩
    · rw [if_pos (by rw [iZ_lt (by omega) (by omega) (by omega) (by omega)]; omega), decide_eq_false b, Bool.false_and, if_neg (by decide)]
      exact ⟨_, rfl, Ru.w44, h.w44, fun z => by cases z⟩
  · rw [if_neg (by rw [show (2 : Int32) = iZ 2 from rfl, iZ_eq (by omega) (by omega) (by omega) (by omega)]; omega), decide_eq_false a, Bool.false_and, if_neg (by decide)]
    exact ⟨w, rfl, Ru.rf, h, fun z => by cases z⟩
end TOK7
