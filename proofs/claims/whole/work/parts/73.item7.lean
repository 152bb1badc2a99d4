/-! the class's items, one by one -/
def Out7 (B : Nat → Int) (U : Nat) (r : Nat → Int32) (w : xW) (x : Option (xW × Int32)) (res : Nat ⊕ (It × Nat)) : Prop := match res with
  | .inl qf => ∃ w', x = some (w', 0) ∧ Rd w w' ∧ w'.1 42 3 = iZ (qf : Nat)
  | .inr (it, q1) => ∃ w', x = some (w', 1) ∧ Rd w w' ∧ TC B U q1 w' ∧ IsR w' 11 (ap it r)
theorem Out7.pre {B : Nat → Int} {U : Nat} {r : Nat → Int32} {w w1 : xW} {x : Option (xW × Int32)} {res : Nat ⊕ (It × Nat)} (h : Out7 B U r w1 x res) (g : Rd w w1) : Out7 B U r w x res := by
  unfold Out7 at h ⊢
  cases res with
  | inl q =>
    obtain ⟨w', h1, h2, h3⟩ := h
    exact ⟨w', h1, g.tr h2, h3⟩
  | inr z =>
    obtain ⟨w', h1, h2, h3⟩ := h
    exact ⟨w', h1, g.tr h2, h3⟩
theorem n10 : ¬ (1 : Int32) = 0 := by decide
section ITEMS7
variable {B : Nat → Int} {U N : Nat} {w : xW} {r : Nat → Int32}
theorem nm_yes {lo hi v : Int} {q q1 : Nat} (e : nm B U lo hi q = .inr (v, q1)) : nmB B U lo hi q = true ∧ v = vl B U q ∧ q1 = nxt B U q ∧ lo ≤ v ∧ v ≤ hi ∧ ty B U q = 2 := by
  unfold nm at e
  by_cases a : nmB B U lo hi q = true
  · rw [if_pos a] at e
    obtain ⟨rfl, rfl⟩ := Prod.mk.inj (Sum.inr.inj e)
    have a' := a
    unfold nmB at a'
    obtain ⟨b1, b2⟩ := Bool.and_eq_true_iff.mp a'
    obtain ⟨b2, b3⟩ := Bool.and_eq_true_iff.mp b2
    exact ⟨a, rfl, rfl, of_decide_eq_true b2, of_decide_eq_true b3, of_decide_eq_true b1⟩
  · rw [if_neg a] at e
    cases e
theorem nm_no {lo hi : Int} {q qf : Nat} (e : nm B U lo hi q = .inl qf) : nmB B U lo hi q = false ∧ qf = q := by
  unfold nm at e
  by_cases a : nmB B U lo hi q = true
  · rw [if_pos a] at e
    cases e
  · rw [if_neg a] at e
    exact ⟨Bool.eq_false_iff.mpr a, (Sum.inl.inj e).symm⟩
theorem wd_yes {j q q1 : Nat} {v : Int} (e : wd B U j q = .inr (v, q1)) : isW B U j q = true ∧ q1 = nxt B U q := by
  unfold wd at e
  by_cases a : isW B U j q = true
  · rw [if_pos a] at e
    obtain ⟨rfl, rfl⟩ := Prod.mk.inj (Sum.inr.inj e)
    exact ⟨a, rfl⟩
  · rw [if_neg a] at e
    cases e
theorem wd_no {j q qf : Nat} (e : wd B U j q = .inl qf) : isW B U j q = false ∧ qf = q := by
  unfold wd at e
  by_cases a : isW B U j q = true
  · rw [if_pos a] at e
    cases e
  · rw [if_neg a] at e
    exact ⟨Bool.eq_false_iff.mpr a, (Sum.inl.inj e).symm⟩
theorem num7n (hN : 20000 ≤ N) {lo hi : Int} (l0 : -1000 ≤ lo ∧ lo ≤ 20000) (h0 : -1000 ≤ hi ∧ hi ≤ 20000) {q qf : Nat} (hq : TQ B U q) (hT : TapC B U w) (h : TC B U q w) (e : nm B U lo hi q = .inl qf) : ∃ w', fX5_number N w (iZ lo) (iZ hi) = some (w', 0) ∧ Ru w w' ∧ w'.1 42 3 = iZ (qf : Nat) := by
  obtain ⟨w', g1, g2, g3, -⟩ := number7 hN l0 h0 hq hT h
  obtain ⟨e1, rfl⟩ := nm_no e
  rw [e1] at g1 g3
  exact ⟨w', g1, g2, g3.2.1⟩
theorem num7y (hN : 20000 ≤ N) {lo hi : Int} (l0 : -1000 ≤ lo ∧ lo ≤ 20000) (h0 : -1000 ≤ hi ∧ hi ≤ 20000) {q q1 : Nat} {v : Int} (hq : TQ B U q) (hT : TapC B U w) (h : TC B U q w) (e : nm B U lo hi q = .inr (v, q1)) : ∃ w', fX5_number N w (iZ lo) (iZ hi) = some (w', 1) ∧ Ru w w' ∧ TC B U q1 w' ∧ w'.1 44 1 = iZ v ∧ TQ B U q1 := by
  obtain ⟨w', g1, g2, g3, g4⟩ := number7 hN l0 h0 hq hT h
  obtain ⟨e1, rfl, rfl, -⟩ := nm_yes e
  rw [e1] at g1 g3
  exact ⟨w', g1, g2, g3, g4 e1, (nxt_spec hq).1⟩
theorem wrd7n (hN : 20000 ≤ N) {j : Nat} (hj : j < 17) {q : Nat} (hq : TQ B U q) (hT : TapC B U w) (h : TC B U q w) (e : isW B U j q = false) : ∃ w', fX5_word N w j = some (w', 0) ∧ Ru w w' ∧ TC B U q w' := by
  obtain ⟨w', g1, g2, g3⟩ := word7 hN hj hq hT h
  rw [e] at g1 g3
  exact ⟨w', g1, g2.u, g3⟩
theorem wrd7y (hN : 20000 ≤ N) {j : Nat} (hj : j < 17) {q : Nat} (hq : TQ B U q) (hT : TapC B U w) (h : TC B U q w) (e : isW B U j q = true) : ∃ w', fX5_word N w j = some (w', 1) ∧ Ru w w' ∧ TC B U (nxt B U q) w' ∧ TQ B U (nxt B U q) := by
  obtain ⟨w', g1, g2, g3⟩ := word7 hN hj hq hT h
  rw [e] at g1 g3
  exact ⟨w', g1, g2.u, g3, (nxt_spec hq).1⟩
theorem wind7 (hN : 20000 ≤ N) {q : Nat} (hq : TQ B U q) (hT : TapC B U w) (h : TC B U q w) (hI : IsR w 11 r) : Out7 B U r w (fX5_windItem N w) (pWind B U q) := by
  unfold fX5_windItem fX5_windItem_0 pWind
  cases e1 : nm B U 0 3 q with
  | inl qf =>
    obtain ⟨w1, a1, a2, a3⟩ := num7n hN (by omega) (by omega) hq hT h e1
    have a1' : fX5_number N w 0 3 = some (w1, 0) := a1
    rw [a1', Option.bind_some, if_pos rfl]
    exact ⟨w1, rfl, a2.d, a3⟩
  | inr z =>
    obtain ⟨s, q1⟩ := z
    obtain ⟨w1, a1, a2, a3, a4, a5⟩ := num7y hN (by omega) (by omega) hq hT h e1
    have a1' : fX5_number N w 0 3 = some (w1, 1) := a1
    rw [a1', Option.bind_some, if_neg n10, a4]
    have b1 : Rd w (sI w1 11 1 (iZ s)) := a2.d.tr (Rd.wr (by omega))
    show Out7 B U r w _ (pb (nm B U 0 9 q1) _)
    have t1 : TC B U q1 (sI w1 11 1 (iZ s)) := a3.wr (by omega)
    have i1 : IsR (sI w1 11 1 (iZ s)) 11 (up r 7 (iZ s)) := (hI.ru a2).w1 _
    cases e2 : nm B U 0 9 q1 with
    | inl qf =>
      obtain ⟨w2, c1, c2, c3⟩ := num7n hN (by omega) (by omega) a5 (hT.rd b1) t1 e2
      have c1' : fX5_number N (sI w1 11 1 (iZ s)) 0 9 = some (w2, 0) := c1
      rw [c1', Option.bind_some, if_pos rfl]
      exact ⟨w2, rfl, b1.tr c2.d, c3⟩
    | inr z =>
      obtain ⟨f, q2⟩ := z
      obtain ⟨w2, c1, c2, c3, c4, c5⟩ := num7y hN (by omega) (by omega) a5 (hT.rd b1) t1 e2
      have c1' : fX5_number N (sI w1 11 1 (iZ s)) 0 9 = some (w2, 1) := c1
      rw [c1', Option.bind_some, if_neg n10, c4]
      exact ⟨_, rfl, (b1.tr c2.d).tr (Rd.wr (by omega)), c3.wr (by omega), (i1.ru c2).w2 _⟩
theorem flood67 (hN : 20000 ≤ N) {q : Nat} (hq : TQ B U q) (hT : TapC B U w) (h : TC B U q w) (hI : IsR w 11 r) : match opn B U 15 1 7 q with | .inl qf => ∃ w', fX5_floodItem_67 N w = some (w', 0) ∧ Rd w w' ∧ w'.1 42 3 = iZ (qf : Nat) | .inr (l, q1) => ∃ w', fX5_floodItem_67 N w = some (w', 1) ∧ Rd w w' ∧ TC B U q1 w' ∧ IsR w' 11 (aO r 2 l) := by
  unfold fX5_floodItem_67 opn
  cases hw : isW B U 15 q with
  | false =>
    obtain ⟨w1, a1, a2, a3⟩ := wrd7n hN (by omega) hq hT h hw
    rw [if_neg (by decide), a1, Option.bind_some, if_pos rfl]
    exact ⟨w1, rfl, a2.d, a3, hI.ru a2⟩
  | true =>
    obtain ⟨w1, a1, a2, a3, a4⟩ := wrd7y hN (by omega) hq hT h hw
    rw [if_pos rfl, a1, Option.bind_some, if_neg n10]
    cases e2 : nm B U 1 7 (nxt B U q) with
    | inl qf =>
      obtain ⟨w2, c1, c2, c3⟩ := num7n hN (by omega) (by omega) a4 (hT.ru a2) a3 e2
      have c1' : fX5_number N w1 (kLEAST 2) (kMOST 2) = some (w2, 0) := c1
      rw [c1', Option.bind_some, if_pos rfl]
      exact ⟨w2, rfl, a2.d.tr c2.d, c3⟩
    | inr z =>
      obtain ⟨l, q2⟩ := z
      obtain ⟨-, -, -, d1, d2, -⟩ := nm_yes e2
      obtain ⟨w2, c1, c2, c3, c4, c5⟩ := num7y hN (by omega) (by omega) a4 (hT.ru a2) a3 e2
      have c1' : fX5_number N w1 (kLEAST 2) (kMOST 2) = some (w2, 1) := c1
      rw [c1', Option.bind_some, if_neg n10, c4]
      refine ⟨_, rfl, (a2.d.tr c2.d).tr (Rd.wr (by omega)), c3.wr (by omega), ?_⟩
      unfold aO
      rw [if_neg (by omega)]
      exact ((hI.ru a2).ru c2).t (by omega) _
theorem flood7 (hN : 20000 ≤ N) {q : Nat} (hq : TQ B U q) (hT : TapC B U w) (h : TC B U q w) (hI : IsR w 11 r) : Out7 B U r w (fX5_floodItem N w) (pFlood B U q) := by
  unfold fX5_floodItem fX5_floodItem_0 pFlood
  cases e1 : nm B U 0 400 q with
  | inl qf =>
    obtain ⟨w1, a1, a2, a3⟩ := num7n hN (by omega) (by omega) hq hT h e1
    have a1' : fX5_number N w (kLEAST 0) (kMOST 0) = some (w1, 0) := a1
    rw [a1', Option.bind_some, if_pos rfl]
    exact ⟨w1, rfl, a2.d, a3⟩
  | inr z =>
    obtain ⟨f, q1⟩ := z
    obtain ⟨w1, a1, a2, a3, a4, a5⟩ := num7y hN (by omega) (by omega) hq hT h e1
    have a1' : fX5_number N w (kLEAST 0) (kMOST 0) = some (w1, 1) := a1
    rw [a1', Option.bind_some, if_neg n10, a4]
    have b1 : Rd w (sI w1 13 0 (iZ f)) := a2.d.tr (Rd.wr (by omega))
    have t1 : TC B U q1 (sI w1 13 0 (iZ f)) := a3.wr (by omega)
    have i1 : IsR (sI w1 13 0 (iZ f)) 11 (up r 0 (iZ f)) := (hI.ru a2).t (by omega) _
    show Out7 B U r w _ (pb (opn B U 14 16 400 q1) fun p q2 => pb (opn B U 15 1 7 q2) fun l q3 => .inr ((2, f, p, l, 0), q3))
    generalize sI w1 13 0 (iZ f) = u at b1 t1 i1
    have fin : ∀ (p : Int) (q2 : Nat) (v : xW), TQ B U q2 → Rd w v → TC B U q2 v → IsR v 11 (aO (up r 0 (iZ f)) 1 p) → Out7 B U r w (fX5_floodItem_67 N v) (pb (opn B U 15 1 7 q2) fun l q3 => .inr ((2, f, p, l, 0), q3)) := by
      intro p q2 v hq2 hv ht hi
      have g := flood67 hN hq2 (hT.rd hv) ht hi
      cases e3 : opn B U 15 1 7 q2 with
      | inl qf =>
        rw [e3] at g
        obtain ⟨w', g1, g2, g3⟩ := g
        exact ⟨w', g1, hv.tr g2, g3⟩
      | inr z =>
        obtain ⟨l, q3⟩ := z
        rw [e3] at g
        obtain ⟨w', g1, g2, g3, g4⟩ := g
        exact ⟨w', g1, hv.tr g2, g3, g4⟩
    unfold opn
    cases hw : isW B U 14 q1 with
    | false =>
      obtain ⟨w2, c1, c2, c3⟩ := wrd7n hN (by omega) a5 (hT.rd b1) t1 hw
      rw [if_neg (show ¬ (false = true) by decide), c1, Option.bind_some, if_pos rfl]
      exact fin (-1) q1 w2 a5 (b1.tr c2.d) c3 (i1.ru c2)
    | true =>
      obtain ⟨w2, c1, c2, c3, c4⟩ := wrd7y hN (by omega) a5 (hT.rd b1) t1 hw
      rw [if_pos (show true = true from rfl), c1, Option.bind_some, if_neg n10]
      have b2 := b1.tr c2.d
      cases e2 : nm B U 16 400 (nxt B U q1) with
      | inl qf =>
        obtain ⟨w3, d1, d2, d3⟩ := num7n hN (by omega) (by omega) c4 (hT.rd b2) c3 e2
        have d1' : fX5_number N w2 (kLEAST 1) (kMOST 1) = some (w3, 0) := d1
        rw [d1', Option.bind_some, if_pos rfl]
        exact ⟨w3, rfl, b2.tr d2.d, d3⟩
      | inr z =>
        obtain ⟨p, q3⟩ := z
        obtain ⟨-, -, -, l1, l2, -⟩ := nm_yes e2
        obtain ⟨w3, d1, d2, d3, d4, d5⟩ := num7y hN (by omega) (by omega) c4 (hT.rd b2) c3 e2
        have d1' : fX5_number N w2 (kLEAST 1) (kMOST 1) = some (w3, 1) := d1
        rw [d1', Option.bind_some, if_neg n10, d4]
        refine fin p q3 _ d5 ((b2.tr d2.d).tr (Rd.wr (by omega))) (d3.wr (by omega)) ?_
        unfold aO
        rw [if_neg (by omega)]
        exact ((i1.ru c2).ru d2).t (by omega) _
theorem nI_or (a b : Nat) : iZ (a : Nat) ||| iZ (b : Nat) = iZ ((a ||| b : Nat) : Int) := by
  show nI a ||| nI b = nI (a ||| b)
  apply Int32.toBitVec_inj.1
  show BitVec.ofNat 32 a ||| BitVec.ofNat 32 b = BitVec.ofNat 32 (a ||| b)
  apply BitVec.eq_of_getLsbD_eq
  intro i hi
  simp [hi]
theorem shl_bit : ∀ v : Nat, v < 30 → (1 : Int32) <<< (iZ (v : Nat) &&& 31) = iZ ((2 ^ v : Nat) : Int) := by decide +kernel
theorem set_bit {bits : Nat} {v : Int} (hb : bits < 2 ^ 30) (v0 : 0 ≤ v) (v1 : v ≤ 29) : iZ (bits : Nat) ||| ((1 : Int32) <<< (iZ v &&& 31)) = iZ ((bits ||| 2 ^ v.toNat : Nat) : Int) ∧ bits ||| 2 ^ v.toNat < 2 ^ 30 := by
  have e : v = (v.toNat : Int) := by omega
  constructor
  · have s := shl_bit v.toNat (by omega)
    rw [← e] at s
    rw [s, nI_or]
  · refine Nat.or_lt_two_pow hb ?_
    exact Nat.pow_lt_pow_right (by omega) (by omega)
theorem set7_loop (hN : 20000 ≤ N) {s : Nat} (hs : s < 3) : ∀ (n m : Nat) (lo : Int) (bits q : Nat) (u : xW), 30 - lo < n → n ≤ m → 0 ≤ lo → lo ≤ 30 → bits < 2 ^ 30 → TQ B U q → TapC B U u → TC B U q u → IsR u 11 r → match pSet B U n lo bits q with | .inl qf => ∃ w', fX5_setItem_5 N m u (iZ (s : Nat)) (iZ (bits : Nat)) (iZ lo) = some (w', 0) ∧ Rd u w' ∧ w'.1 42 3 = iZ (qf : Nat) | .inr (b, q1) => ∃ w', fX5_setItem_5 N m u (iZ (s : Nat)) (iZ (bits : Nat)) (iZ lo) = some (w', 1) ∧ Rd u w' ∧ TC B U q1 w' ∧ IsR w' 11 (up r (4 + s) (iZ b))
  | 0, _, lo, _, _, _, hn, _, _, h30, _, _, _, _, _ => absurd hn (by omega)
  | n + 1, 0, _, _, _, _, _, hm, _, _, _, _, _, _, _ => absurd hm (by omega)
  | n + 1, m + 1, lo, bits, q, u, hn, hm, l0, l30, hb, hq, hT, h, hI => by
    rw [fX5_setItem_5, pSet]
    unfold fX5_setItem_5b
    obtain ⟨w', g1, g2, g3, g4⟩ := number7 hN (lo := lo) (hi := 29) (by omega) (by omega) hq hT h
    have g1' : fX5_number N u (iZ lo) 29 = some (w', bi (nmB B U lo 29 q)) := g1
    rw [g1', Option.bind_some]
    cases hx : nmB B U lo 29 q with
    | false =>
      rw [hx] at g3
      rw [if_pos bF, if_neg (by decide)]
      exact ⟨w', rfl, g2.d, g3.2.1⟩
    | true =>
      rw [hx] at g3
      have g4 := g4 hx
      have nxq := (nxt_spec hq).1
      have tr := ty_rng (B := B) (U := U) (nxt B U q)
      have e1 : nm B U lo 29 q = .inr (vl B U q, nxt B U q) := by unfold nm; rw [if_pos hx]
      obtain ⟨-, -, -, d1, d2, -⟩ := nm_yes e1
      obtain ⟨sb1, sb2⟩ := set_bit hb (v := vl B U q) (by omega) d2
      have g3' : TC B U (nxt B U q) w' := g3
      rw [if_neg bT, if_pos rfl, g4, g3'.1, sb1]
      have fin : ∃ w2, fX5_setItem_53 N w' (iZ (s : Nat)) (iZ ((bits ||| 2 ^ (vl B U q).toNat : Nat) : Int)) = some (w2, 1) ∧ Rd u w2 ∧ TC B U (nxt B U q) w2 ∧ IsR w2 11 (up r (4 + s) (iZ ((bits ||| 2 ^ (vl B U q).toNat : Nat) : Int))) := by
        unfold fX5_setItem_53
        rw [if_pos ((ibd_iZ (by omega) (by omega)).mpr (by omega)), iZ_clamp (by omega) (by omega), Int.toNat_natCast]
        exact ⟨_, rfl, g2.d.tr (Rd.wr (by omega)), g3'.wr (by omega), (hI.ru g2).b hs _⟩
      by_cases y : ty B U (nxt B U q) = 2
      · have e44 : iZ (vl B U q) + 1 = iZ (vl B U q + 1) := by rw [show (1 : Int32) = iZ 1 from rfl, iZ_add]
        rw [if_pos y, if_pos (show iZ (ty B U (nxt B U q) : Nat) = 2 by rw [y]; rfl), e44, if_pos (show iZ (vl B U q + 1) ≤ 30 by rw [show (30 : Int32) = iZ 30 from rfl, iZ_le (by omega) (by omega) (by omega) (by omega)]; omega)]
        have ih := set7_loop hN hs n m (vl B U q + 1) (bits ||| 2 ^ (vl B U q).toNat) (nxt B U q) w' (by omega) (by omega) (by omega) (by omega) sb2 nxq (hT.ru g2) g3' (hI.ru g2)
        cases e3 : pSet B U n (vl B U q + 1) (bits ||| 2 ^ (vl B U q).toNat) (nxt B U q) with
        | inl qf =>
          rw [e3] at ih
          obtain ⟨w2, f1, f2, f3⟩ := ih
          exact ⟨w2, f1, g2.d.tr f2, f3⟩
        | inr z =>
          obtain ⟨b, q2⟩ := z
          rw [e3] at ih
          obtain ⟨w2, f1, f2, f3, f4⟩ := ih
          exact ⟨w2, f1, g2.d.tr f2, f3, f4⟩
      · rw [if_neg y, if_neg (show ¬ iZ (ty B U (nxt B U q) : Nat) = 2 by rw [show (2 : Int32) = iZ 2 from rfl, iZ_eq (by omega) (by omega) (by omega) (by omega)]; omega)]
        exact fin
theorem set7 (hN : 20000 ≤ N) {s : Nat} (hs : s < 3) {q : Nat} (hq : TQ B U q) (hT : TapC B U w) (h : TC B U q w) (hI : IsR w 11 r) : Out7 B U r w (fX5_setItem N w (iZ (s : Nat))) (pb (pSet B U 31 0 0 q) fun b q1 => .inr ((3, (s : Int), b, 0, 0), q1)) := by
  have g := set7_loop (N := N) hN hs 31 N 0 0 q w (by omega) (by omega) (by omega) (by omega) (by decide) hq hT h hI
  unfold fX5_setItem fX5_setItem_0
  cases e : pSet B U 31 0 0 q with
  | inl qf =>
    rw [e] at g
    exact g
  | inr z =>
    obtain ⟨b, q1⟩ := z
    rw [e] at g
    exact g
theorem house7i (hN : 20000 ≤ N) {q k : Nat} (hq : TQ B U q) (hT : TapC B U w) (h : TC B U q w) (hI : IsR w 11 r) (hW : WFr r) : Out7 B U r w (fX5_houseItem N w (iZ (k : Nat))) (if (r 9).toInt < 8 then pb (nm B U 0 3 (nxt B U q)) fun f q1 => .inr ((0, (k : Int), f, 0, 0), q1) else .inl q) := by
  have b9 := hW.2.2.2.1
  unfold fX5_houseItem fX5_houseItem_0
  have e3 : w.1 11 3 = r 9 := hI.2.2.2.2.1
  obtain ⟨n, hn⟩ : ∃ n : Nat, r 9 = iZ (n : Nat) := ⟨(r 9).toInt.toNat, by rw [Int.toNat_of_nonneg b9.1, iZ_self]⟩
  have ni : (r 9).toInt = n ∨ ¬ n < 2147483648 := by
    rcases Nat.lt_or_ge n 2147483648 with z | z
    · exact Or.inl (by rw [hn, iZ_toInt (by omega) (by omega)])
    · exact Or.inr (by omega)
  rw [e3]
  by_cases a : (r 9).toInt < 8
  · rw [if_pos (by rw [Int32.lt_iff_toInt_lt]; exact a), if_pos a]
    obtain ⟨w1, a1, a2, a3⟩ := next7 hN hq hT h
    have tq := (nxt_spec hq).1
    rw [a1, Option.bind_some]
    cases e1 : nm B U 0 3 (nxt B U q) with
    | inl qf =>
      obtain ⟨w2, c1, c2, c3⟩ := num7n hN (by omega) (by omega) tq (hT.rt a2) a3 e1
      have c1' : fX5_number N w1 0 3 = some (w2, 0) := c1
      rw [c1', Option.bind_some, if_pos rfl]
      exact ⟨w2, rfl, a2.u.d.tr c2.d, c3⟩
    | inr z =>
      obtain ⟨f, q1⟩ := z
      obtain ⟨w2, c1, c2, c3, c4, c5⟩ := num7y hN (by omega) (by omega) tq (hT.rt a2) a3 e1
      have c1' : fX5_number N w1 0 3 = some (w2, 1) := c1
      rw [c1', Option.bind_some, if_neg n10, c4]
      have n8 : (r 9).toInt.toNat < 8 := by omega
      obtain ⟨w3, v, d1, d2, d3, d4⟩ := addH ((hI.ru a2.u).ru c2) (n := (r 9).toInt.toNat) (by rw [Int.toNat_of_nonneg b9.1, iZ_self]) n8 (iZ (k : Nat)) (iZ f)
      rw [d1, Option.bind_some]
      refine ⟨w3, rfl, (a2.u.d.tr c2.d).tr d2, ?_, d4⟩
      unfold TC
      rw [d3 42 (by omega)]
      exact c3
  · rw [if_neg (by rw [Int32.lt_iff_toInt_lt]; exact a), if_neg a]
    exact ⟨w, rfl, Rd.rf, h.2.1⟩
theorem ship117 {q : Nat} (hT : TapC B U w) (h : TC B U q w) (hI : IsR w 11 r) (hW : WFr r) (h6 : (r 10).toInt < 6) (c m s v : Int) : ∃ w', fX5_shipItem_117 N w (iZ c) (iZ m) (iZ s) (iZ v) = some (w', 1) ∧ Rd w w' ∧ TC B U q w' ∧ IsR w' 11 (aS r (iZ c) (iZ m) (iZ s) (iZ v)) := by
  have b10 := hW.2.2.2.2.1
  unfold fX5_shipItem_117
  obtain ⟨w3, a, d1, d2, d3, d4⟩ := addS hI hW.2.2.2.1.2 (n := (r 10).toInt.toNat) (by rw [Int.toNat_of_nonneg b10.1, iZ_self]) (by omega) (iZ c) (iZ m) (iZ s) (iZ v)
  rw [d1, Option.bind_some]
  refine ⟨w3, rfl, d2, ?_, d4⟩
  unfold TC
  rw [d3 42 (by omega)]
  exact h
theorem ship7i (hN : 20000 ≤ N) {q : Nat} (hq : TQ B U q) (hT : TapC B U w) (h : TC B U q w) (hI : IsR w 11 r) (hW : WFr r) : Out7 B U r w (fX5_shipItem N w) (if (r 10).toInt < 6 then pShip B U (nxt B U q) else .inl q) := by
  unfold fX5_shipItem fX5_shipItem_0
  rw [show w.1 11 6 = r 10 from hI.2.2.2.2.2.1]
  by_cases a : (r 10).toInt < 6
  · rw [if_pos (by rw [Int32.lt_iff_toInt_lt]; exact a), if_pos a]
    obtain ⟨w1, a1, a2, a3⟩ := next7 hN hq hT h
    have tq := (nxt_spec hq).1
    rw [a1, Option.bind_some]
    unfold pShip
    cases e1 : nm B U 0 3 (nxt B U q) with
    | inl qf =>
      obtain ⟨w2, c1, c2, c3⟩ := num7n hN (by omega) (by omega) tq (hT.rt a2) a3 e1
      have c1' : fX5_number N w1 0 3 = some (w2, 0) := c1
      rw [c1', Option.bind_some, if_pos rfl]
      exact ⟨w2, rfl, a2.u.d.tr c2.d, c3⟩
    | inr z =>
      obtain ⟨c, q1⟩ := z
      obtain ⟨w2, c1, c2, c3, c4, c5⟩ := num7y hN (by omega) (by omega) tq (hT.rt a2) a3 e1
      have c1' : fX5_number N w1 0 3 = some (w2, 1) := c1
      have u2 : Ru w w2 := a2.u.tr c2
      rw [c1', Option.bind_some, if_neg n10]
      show Out7 B U r w _ (pb (wd B U 10 q1) _)
      cases e2 : wd B U 10 q1 with
      | inl qf =>
        obtain ⟨x1, rfl⟩ := wd_no e2
        obtain ⟨w3, d1, d2, d3⟩ := wrd7n hN (by omega) c5 (hT.ru u2) c3 x1
        rw [d1, Option.bind_some, if_pos rfl]
        exact ⟨w3, rfl, (u2.tr d2).d, d3.2.1⟩
      | inr z =>
        obtain ⟨v2, q2⟩ := z
        obtain ⟨x1, rfl⟩ := wd_yes e2
        obtain ⟨w3, d1, d2, d3, d4⟩ := wrd7y hN (by omega) c5 (hT.ru u2) c3 x1
        have u3 := u2.tr d2
        rw [d1, Option.bind_some, if_neg n10]
        show Out7 B U r w _ (pb (nm B U 0 9999 (nxt B U q1)) _)
        cases e3 : nm B U 0 9999 (nxt B U q1) with
        | inl qf =>
          obtain ⟨w4, f1, f2, f3⟩ := num7n hN (by omega) (by omega) d4 (hT.ru u3) d3 e3
          have f1' : fX5_number N w3 0 9999 = some (w4, 0) := f1
          rw [f1', Option.bind_some, if_pos rfl]
          exact ⟨w4, rfl, (u3.tr f2).d, f3⟩
        | inr z =>
          obtain ⟨m, q3⟩ := z
          obtain ⟨w4, f1, f2, f3, f4, f5⟩ := num7y hN (by omega) (by omega) d4 (hT.ru u3) d3 e3
          have f1' : fX5_number N w3 0 9999 = some (w4, 1) := f1
          have u4 := u3.tr f2
          rw [f1', Option.bind_some, if_neg n10]
          show Out7 B U r w _ (pb (wd B U 11 q3) _)
          cases e4 : wd B U 11 q3 with
          | inl qf =>
            obtain ⟨x1, rfl⟩ := wd_no e4
            obtain ⟨w5, g1, g2, g3⟩ := wrd7n hN (by omega) f5 (hT.ru u4) f3 x1
            rw [g1, Option.bind_some, if_pos rfl]
            exact ⟨w5, rfl, (u4.tr g2).d, g3.2.1⟩
          | inr z =>
            obtain ⟨v4, q4⟩ := z
            obtain ⟨x1, rfl⟩ := wd_yes e4
            obtain ⟨w5, g1, g2, g3, g4⟩ := wrd7y hN (by omega) f5 (hT.ru u4) f3 x1
            have u5 := u4.tr g2
            rw [g1, Option.bind_some, if_neg n10]
            show Out7 B U r w _ (pb (nm B U 1 40 (nxt B U q3)) _)
            cases e5 : nm B U 1 40 (nxt B U q3) with
            | inl qf =>
              obtain ⟨w6, k1, k2, k3⟩ := num7n hN (by omega) (by omega) g4 (hT.ru u5) g3 e5
              have k1' : fX5_number N w5 1 40 = some (w6, 0) := k1
              rw [k1', Option.bind_some, if_pos rfl]
              exact ⟨w6, rfl, (u5.tr k2).d, k3⟩
            | inr z =>
              obtain ⟨s, q5⟩ := z
              obtain ⟨w6, k1, k2, k3, k4, k5⟩ := num7y hN (by omega) (by omega) g4 (hT.ru u5) g3 e5
              have k1' : fX5_number N w5 1 40 = some (w6, 1) := k1
              have u6 := u5.tr k2
              rw [k1', Option.bind_some, if_neg n10, c4, f4, k4]
              show Out7 B U r w _ (pb (opn B U 12 0 3 q5) _)
              unfold opn
              cases hw : isW B U 12 q5 with
              | false =>
                obtain ⟨w7, l1, l2, l3⟩ := wrd7n hN (by omega) k5 (hT.ru u6) k3 hw
                have u7 := u6.tr l2
                rw [if_neg (show ¬ (false = true) by decide), l1, Option.bind_some, if_pos rfl]
                obtain ⟨w8, o1, o2, o3, o4⟩ := ship117 (N := N) (hT.ru u7) l3 (hI.ru u7) hW a c m s (-1)
                exact ⟨w8, o1, u7.d.tr o2, o3, o4⟩
              | true =>
                obtain ⟨w7, l1, l2, l3, l4⟩ := wrd7y hN (by omega) k5 (hT.ru u6) k3 hw
                have u7 := u6.tr l2
                rw [if_pos (show true = true from rfl), l1, Option.bind_some, if_neg n10]
                cases e6 : nm B U 0 3 (nxt B U q5) with
                | inl qf =>
                  obtain ⟨w8, o1, o2, o3⟩ := num7n hN (by omega) (by omega) l4 (hT.ru u7) l3 e6
                  have o1' : fX5_number N w7 0 3 = some (w8, 0) := o1
                  rw [o1', Option.bind_some, if_pos rfl]
                  exact ⟨w8, rfl, (u7.tr o2).d, o3⟩
                | inr z =>
                  obtain ⟨v, q6⟩ := z
                  obtain ⟨w8, o1, o2, o3, o4, o5⟩ := num7y hN (by omega) (by omega) l4 (hT.ru u7) l3 e6
                  have o1' : fX5_number N w7 0 3 = some (w8, 1) := o1
                  have u8 := u7.tr o2
                  rw [o1', Option.bind_some, if_neg n10, o4]
                  obtain ⟨w9, r1, r2, r3, r4⟩ := ship117 (N := N) (hT.ru u8) o3 (hI.ru u8) hW a c m s v
                  exact ⟨w9, r1, u8.d.tr r2, r3, r4⟩
  · rw [if_neg (by rw [Int32.lt_iff_toInt_lt]; exact a), if_neg a]
    exact ⟨w, rfl, Rd.rf, h.2.1⟩
end ITEMS7
