/-! the items of a text; the class's -/
abbrev It : Type := Int × Int × Int × Int × Int
def pb {α β : Type} (x : Nat ⊕ (α × Nat)) (f : α → Nat → Nat ⊕ (β × Nat)) : Nat ⊕ (β × Nat) := match x with
  | .inl q => .inl q
  | .inr (a, q) => f a q
def nm (B : Nat → Int) (U : Nat) (lo hi : Int) (q : Nat) : Nat ⊕ (Int × Nat) := if nmB B U lo hi q = true then .inr (vl B U q, nxt B U q) else .inl q
def wd (B : Nat → Int) (U j q : Nat) : Nat ⊕ (Int × Nat) := if isW B U j q = true then .inr (0, nxt B U q) else .inl q
def opn (B : Nat → Int) (U j : Nat) (lo hi : Int) (q : Nat) : Nat ⊕ (Int × Nat) := if isW B U j q = true then nm B U lo hi (nxt B U q) else .inr (-1, q)
def pSet (B : Nat → Int) (U : Nat) : Nat → Int → Nat → Nat → Nat ⊕ (Int × Nat)
  | 0, _, _, q => .inl q
  | n + 1, lo, bits, q => if nmB B U lo 29 q = true then (if ty B U (nxt B U q) = 2 then pSet B U n (vl B U q + 1) (bits ||| 2 ^ (vl B U q).toNat) (nxt B U q) else .inr (((bits ||| 2 ^ (vl B U q).toNat : Nat) : Int), nxt B U q)) else .inl q
def pFlood (B : Nat → Int) (U q : Nat) : Nat ⊕ (It × Nat) := pb (nm B U 0 400 q) fun f q1 => pb (opn B U 14 16 400 q1) fun p q2 => pb (opn B U 15 1 7 q2) fun l q3 => .inr ((2, f, p, l, 0), q3)
def pShip (B : Nat → Int) (U q : Nat) : Nat ⊕ (It × Nat) := pb (nm B U 0 3 q) fun c q1 => pb (wd B U 10 q1) fun _ q2 => pb (nm B U 0 9999 q2) fun m q3 => pb (wd B U 11 q3) fun _ q4 => pb (nm B U 1 40 q4) fun s q5 => pb (opn B U 12 0 3 q5) fun v q6 => .inr ((1, c, m, s, v), q6)
def pWind (B : Nat → Int) (U q : Nat) : Nat ⊕ (It × Nat) := pb (nm B U 0 3 q) fun s q1 => pb (nm B U 0 9 q1) fun f q2 => .inr ((4, s, f, 0, 0), q2)
def pItem (B : Nat → Int) (U : Nat) (r : Nat → Int32) (q : Nat) : Nat ⊕ (It × Nat) :=
  if wj B U q < 6 then (if (r 9).toInt < 8 then pb (nm B U 0 3 (nxt B U q)) fun f q1 => .inr ((0, (wj B U q : Int), f, 0, 0), q1) else .inl q)
  else if wj B U q < 9 then pb (pSet B U 31 0 0 (nxt B U q)) fun b q1 => .inr ((3, (wj B U q : Int) - 6, b, 0, 0), q1)
  else if wj B U q = 9 then (if (r 10).toInt < 6 then pShip B U (nxt B U q) else .inl q)
  else if wj B U q = 13 then pFlood B U (nxt B U q)
  else if wj B U q = 16 then pWind B U (nxt B U q)
  else .inl q
def up (r : Nat → Int32) (j : Nat) (v : Int32) : Nat → Int32 := fun k => if k = j then v else r k
def aH (r : Nat → Int32) (x y : Int32) : Nat → Int32 := up (up (up r (11 + 2 * (r 9).toInt.toNat) x) (12 + 2 * (r 9).toInt.toNat) y) 9 (r 9 + 1)
def aS (r : Nat → Int32) (c m s v : Int32) : Nat → Int32 := up (up (up (up (up r (27 + 4 * (r 10).toInt.toNat) c) (28 + 4 * (r 10).toInt.toNat) m) (29 + 4 * (r 10).toInt.toNat) s) (30 + 4 * (r 10).toInt.toNat) v) 10 (r 10 + 1)
def aO (r : Nat → Int32) (j : Nat) (p : Int) : Nat → Int32 := if p < 0 then r else up r j (iZ p)
def aF (r : Nat → Int32) (f p l : Int) : Nat → Int32 := aO (aO (up r 0 (iZ f)) 1 p) 2 l
def ap (it : It) (r : Nat → Int32) : Nat → Int32 :=
  if it.1 = 0 then aH r (iZ it.2.1) (iZ it.2.2.1)
  else if it.1 = 1 then aS r (iZ it.2.1) (iZ it.2.2.1) (iZ it.2.2.2.1) (iZ it.2.2.2.2)
  else if it.1 = 2 then aF r it.2.1 it.2.2.1 it.2.2.2.1
  else if it.1 = 3 then up r (4 + it.2.1.toNat) (iZ it.2.2.1)
  else up (up r 7 (iZ it.2.1)) 8 (iZ it.2.2.1)
def Rd (w w' : xW) : Prop := w'.2 = w.2 ∧ ∀ q k, ¬ (q = 42 ∧ k ≠ 1) → ¬ (q = 44 ∧ k = 1) → ¬ (11 ≤ q ∧ q ≤ 20) → w'.1 q k = w.1 q k
theorem Rd.rf {w : xW} : Rd w w := ⟨rfl, fun _ _ _ _ _ => rfl⟩
theorem Rd.tr {a b c : xW} (h : Rd a b) (g : Rd b c) : Rd a c := ⟨g.1.trans h.1, fun q k h1 h2 h3 => (g.2 q k h1 h2 h3).trans (h.2 q k h1 h2 h3)⟩
theorem Ru.d {w w' : xW} (h : Ru w w') : Rd w w' := ⟨h.1, fun q k h1 h2 _ => h.2 q k h1 h2⟩
theorem Rd.wr {w : xW} {a k : Nat} {v : Int32} (h : 11 ≤ a ∧ a ≤ 20) : Rd w (sI w a k v) := ⟨rfl, fun q j _ _ h3 => by rw [sI_r, if_neg (by omega)]⟩
theorem TapC.rd {B : Nat → Int} {U : Nat} {w w' : xW} (h : TapC B U w) (g : Rd w w') : TapC B U w' := ⟨by rw [g.2 42 1 (by omega) (by omega) (by omega)]; exact h.1, h.2.1, h.2.2.1, fun i hi => by rw [g.2 43 i (by omega) (by omega) (by omega)]; exact h.2.2.2 i hi⟩
theorem TC.wr {B : Nat → Int} {U q : Nat} {w : xW} {a k : Nat} {v : Int32} (h : TC B U q w) (ha : 11 ≤ a ∧ a ≤ 20) : TC B U q (sI w a k v) := by
  unfold TC
  rw [sI_ne1 (by omega)]
  exact h
theorem IsR.ru {w w' : xW} {r : Nat → Int32} (h : IsR w 11 r) (g : Ru w w') : IsR w' 11 r := by
  have e : ∀ q, 11 ≤ q ∧ q ≤ 20 → w'.1 q = w.1 q := fun q hq => funext fun k => g.2 q k (by omega) (by omega)
  unfold IsR at h ⊢
  rw [e (11 + 2) (by omega), e (11 + 3) (by omega), e 11 (by omega), e (11 + 4) (by omega), e (11 + 5) (by omega), e (11 + 6) (by omega), e (11 + 7) (by omega), e (11 + 8) (by omega), e (11 + 9) (by omega)]
  exact h
theorem up_eq {r : Nat → Int32} {j : Nat} {v : Int32} : up r j v j = v := if_pos rfl
theorem up_ne {r : Nat → Int32} {j k : Nat} {v : Int32} (h : k ≠ j) : up r j v k = r k := if_neg h
section ITEM7
variable {B : Nat → Int} {U N : Nat} {w : xW} {r : Nat → Int32}
theorem IsR.t (h : IsR w 11 r) {k : Nat} (hk : k < 4) (v : Int32) : IsR (sI w 13 k v) 11 (up r k v) := by
  refine IsR.set h (fun j hj => up_ne (by omega)) (fun i hi => ?_) (fun i hi => ?_) ?_ ?_ ?_ ?_ (fun j h1 h2 => sI_ne1 (by omega))
  · show (sI w 13 k v).1 13 i = _
    rw [sI_r]
    unfold up
    by_cases z : i = k
    · rw [if_pos ⟨rfl, z⟩, if_pos z]
    · rw [if_neg (by omega), if_neg z]
      exact h.1 i hi
  · rw [sI_ne1 (by omega), up_ne (by omega)]
    exact h.2.1 i hi
  · rw [sI_ne1 (by omega), up_ne (by omega)]
    exact h.2.2.1
  · rw [sI_ne1 (by omega), up_ne (by omega)]
    exact h.2.2.2.1
  · rw [sI_ne1 (by omega)]
  · rw [sI_ne1 (by omega)]
theorem IsR.b (h : IsR w 11 r) {k : Nat} (hk : k < 3) (v : Int32) : IsR (sI w 14 k v) 11 (up r (4 + k) v) := by
  refine IsR.set h (fun j hj => up_ne (by omega)) (fun i hi => ?_) (fun i hi => ?_) ?_ ?_ ?_ ?_ (fun j h1 h2 => sI_ne1 (by omega))
  · rw [sI_ne1 (by omega), up_ne (by omega)]
    exact h.1 i hi
  · show (sI w 14 k v).1 14 i = _
    rw [sI_r]
    unfold up
    by_cases z : i = k
    · rw [if_pos ⟨rfl, z⟩, if_pos (by omega)]
    · rw [if_neg (by omega), if_neg (by omega)]
      exact h.2.1 i hi
  · rw [sI_ne1 (by omega), up_ne (by omega)]
    exact h.2.2.1
  · rw [sI_ne1 (by omega), up_ne (by omega)]
    exact h.2.2.2.1
  · rw [sI_ne1 (by omega)]
  · rw [sI_ne1 (by omega)]
theorem IsR.w1 (h : IsR w 11 r) (v : Int32) : IsR (sI w 11 1 v) 11 (up r 7 v) := by
  refine IsR.set h (fun j hj => up_ne (by omega)) (fun i hi => ?_) (fun i hi => ?_) ?_ ?_ ?_ ?_ (fun j h1 h2 => sI_ne1 (by omega))
  · rw [sI_ne1 (by omega), up_ne (by omega)]
    exact h.1 i hi
  · rw [sI_ne1 (by omega), up_ne (by omega)]
    exact h.2.1 i hi
  · rw [sI_r, if_pos ⟨rfl, rfl⟩, up_eq]
  · rw [sI_r, if_neg (by omega), up_ne (by omega)]
    exact h.2.2.2.1
  · rw [sI_r, if_neg (by omega)]
  · rw [sI_r, if_neg (by omega)]
theorem IsR.w2 (h : IsR w 11 r) (v : Int32) : IsR (sI w 11 2 v) 11 (up r 8 v) := by
  refine IsR.set h (fun j hj => up_ne (by omega)) (fun i hi => ?_) (fun i hi => ?_) ?_ ?_ ?_ ?_ (fun j h1 h2 => sI_ne1 (by omega))
  · rw [sI_ne1 (by omega), up_ne (by omega)]
    exact h.1 i hi
  · rw [sI_ne1 (by omega), up_ne (by omega)]
    exact h.2.1 i hi
  · rw [sI_r, if_neg (by omega), up_ne (by omega)]
    exact h.2.2.1
  · rw [sI_r, if_pos ⟨rfl, rfl⟩, up_eq]
  · rw [sI_r, if_neg (by omega)]
  · rw [sI_r, if_neg (by omega)]
theorem addH (h : IsR w 11 r) {n : Nat} (h9 : r 9 = iZ (n : Nat)) (n8 : n < 8) (x y : Int32) : ∃ w' v, fX1_addHouse_i1 w x y = some (w', v) ∧ Rd w w' ∧ (∀ q, 21 ≤ q → w'.1 q = w.1 q) ∧ IsR w' 11 (aH r x y) := by
  have e3 : w.1 11 3 = iZ (n : Nat) := h.2.2.2.2.1.trans h9
  have hn : (r 9).toInt.toNat = n := by rw [h9, iZ_toInt (by omega) (by omega)]; omega
  have ib : ibd (iZ (n : Nat)) 8 = true := (ibd_iZ (by omega) (by omega)).mpr (by omega)
  have cl : (iZ (n : Nat)).toNatClampNeg = n := by rw [iZ_clamp (by omega) (by omega)]; omega
  have f1 : (sI w 15 n x).1 11 3 = iZ (n : Nat) := by rw [sI_ne1 (by omega)]; exact e3
  have f2 : (sI (sI w 15 n x) 16 n y).1 11 3 = iZ (n : Nat) := by rw [sI_ne1 (by omega)]; exact f1
  unfold fX1_addHouse_i1 fX1_addHouse_i1_0
  rw [e3, if_pos (by rw [show (8 : Int32) = iZ 8 from rfl, iZ_lt (by omega) (by omega) (by omega) (by omega)]; omega), if_pos ib, cl, f1, if_pos ib, cl, f2, iZ_s1]
  have r9 : r 9 + 1 = iZ ((n + 1 : Nat) : Int) := by rw [h9, iZ_s1]
  refine ⟨_, _, rfl, ((Rd.wr (by omega)).tr (Rd.wr (by omega))).tr (Rd.wr (by omega)), fun q hq => by rw [sI_ne1 (by omega), sI_ne1 (by omega), sI_ne1 (by omega)], ?_⟩
  refine IsR.hs h (fun j hj => ?_) (fun j k j1 j2 j3 j4 j5 => ?_) ?_ (fun c hc => ?_)
  · unfold aH
    rw [hn, up_ne (by omega), up_ne (by omega), up_ne (by omega)]
  · rw [sI_r, if_neg (by omega), sI_ne1 (by omega), sI_ne1 (by omega)]
  · rw [sI_r, if_pos ⟨rfl, rfl⟩]
    unfold aH
    rw [up_eq, r9]
  · unfold aH at hc ⊢
    rw [up_eq, r9, iZ_toInt (by omega) (by omega)] at hc
    rw [hn]
    by_cases z : c = n
    · subst z
      constructor
      · rw [sI_ne1 (by omega), sI_ne1 (by omega), sI_r, if_pos ⟨rfl, rfl⟩, up_ne (by omega), up_ne (by omega), up_eq]
      · rw [sI_ne1 (by omega), sI_r, if_pos ⟨rfl, rfl⟩, up_ne (by omega), up_eq]
    · have g := h.2.2.2.2.2.2.1 c (by rw [h9, iZ_toInt (by omega) (by omega)]; omega)
      constructor
      · rw [sI_ne1 (by omega), sI_ne1 (by omega), sI_r, if_neg (by omega), up_ne (by omega), up_ne (by omega), up_ne (by omega)]
        exact g.1
      · rw [sI_ne1 (by omega), sI_r, if_neg (by omega), sI_ne1 (by omega), up_ne (by omega), up_ne (by omega), up_ne (by omega)]
        exact g.2
theorem addS (h : IsR w 11 r) (h9 : (r 9).toInt ≤ 8) {n : Nat} (h10 : r 10 = iZ (n : Nat)) (n6 : n < 6) (x y z v : Int32) : ∃ w' a, fX1_addShip_i1 w x y z v = some (w', a) ∧ Rd w w' ∧ (∀ q, 21 ≤ q → w'.1 q = w.1 q) ∧ IsR w' 11 (aS r x y z v) := by
  have e6 : w.1 11 6 = iZ (n : Nat) := h.2.2.2.2.2.1.trans h10
  have hn : (r 10).toInt.toNat = n := by rw [h10, iZ_toInt (by omega) (by omega)]; omega
  have ib : ibd (iZ (n : Nat)) 6 = true := (ibd_iZ (by omega) (by omega)).mpr (by omega)
  have cl : (iZ (n : Nat)).toNatClampNeg = n := by rw [iZ_clamp (by omega) (by omega)]; omega
  have f1 : (sI w 17 n x).1 11 6 = iZ (n : Nat) := by rw [sI_ne1 (by omega)]; exact e6
  have f2 : (sI (sI w 17 n x) 18 n y).1 11 6 = iZ (n : Nat) := by rw [sI_ne1 (by omega)]; exact f1
  have f3 : (sI (sI (sI w 17 n x) 18 n y) 19 n z).1 11 6 = iZ (n : Nat) := by rw [sI_ne1 (by omega)]; exact f2
  have f4 : (sI (sI (sI (sI w 17 n x) 18 n y) 19 n z) 20 n v).1 11 6 = iZ (n : Nat) := by rw [sI_ne1 (by omega)]; exact f3
  unfold fX1_addShip_i1 fX1_addShip_i1_0 fX1_addShip_i1_42
  rw [e6, if_pos (by rw [show (6 : Int32) = iZ 6 from rfl, iZ_lt (by omega) (by omega) (by omega) (by omega)]; omega), if_pos ib, cl, f1, if_pos ib, cl, f2, if_pos ib, cl, f3, if_pos ib, cl, f4, iZ_s1]
  have r10 : r 10 + 1 = iZ ((n + 1 : Nat) : Int) := by rw [h10, iZ_s1]
  refine ⟨_, _, rfl, ((((Rd.wr (by omega)).tr (Rd.wr (by omega))).tr (Rd.wr (by omega))).tr (Rd.wr (by omega))).tr (Rd.wr (by omega)), fun q hq => by rw [sI_ne1 (by omega), sI_ne1 (by omega), sI_ne1 (by omega), sI_ne1 (by omega), sI_ne1 (by omega)], ?_⟩
  refine IsR.sh h (fun j hj1 hj2 => ?_) (fun j k j1 j2 j3 => ?_) ?_ (fun c hc => ?_) h9
  · unfold aS
    rw [hn, up_ne (by omega), up_ne (by omega), up_ne (by omega), up_ne (by omega), up_ne (by omega)]
  · rw [sI_r, if_neg (by omega), sI_ne1 (by omega), sI_ne1 (by omega), sI_ne1 (by omega), sI_ne1 (by omega)]
  · rw [sI_r, if_pos ⟨rfl, rfl⟩]
    unfold aS
    rw [up_eq, r10]
  · unfold aS at hc ⊢
    rw [up_eq, r10, iZ_toInt (by omega) (by omega)] at hc
    rw [hn]
    by_cases y0 : c = n
    · subst y0
      refine ⟨?_, ?_, ?_, ?_⟩
      · rw [sI_ne1 (by omega), sI_ne1 (by omega), sI_ne1 (by omega), sI_ne1 (by omega), sI_r, if_pos ⟨rfl, rfl⟩, up_ne (by omega), up_ne (by omega), up_ne (by omega), up_ne (by omega), up_eq]
      · rw [sI_ne1 (by omega), sI_ne1 (by omega), sI_ne1 (by omega), sI_r, if_pos ⟨rfl, rfl⟩, up_ne (by omega), up_ne (by omega), up_ne (by omega), up_eq]
      · rw [sI_ne1 (by omega), sI_ne1 (by omega), sI_r, if_pos ⟨rfl, rfl⟩, up_ne (by omega), up_ne (by omega), up_eq]
      · rw [sI_ne1 (by omega), sI_r, if_pos ⟨rfl, rfl⟩, up_ne (by omega), up_eq]
    · have g := h.2.2.2.2.2.2.2 c (by rw [h10, iZ_toInt (by omega) (by omega)]; omega)
      refine ⟨?_, ?_, ?_, ?_⟩
      · rw [sI_ne1 (by omega), sI_ne1 (by omega), sI_ne1 (by omega), sI_ne1 (by omega), sI_r, if_neg (by omega), up_ne (by omega), up_ne (by omega), up_ne (by omega), up_ne (by omega), up_ne (by omega)]
        exact g.1
      · rw [sI_ne1 (by omega), sI_ne1 (by omega), sI_ne1 (by omega), sI_r, if_neg (by omega), sI_ne1 (by omega), up_ne (by omega), up_ne (by omega), up_ne (by omega), up_ne (by omega), up_ne (by omega)]
        exact g.2.1
      · rw [sI_ne1 (by omega), sI_ne1 (by omega), sI_r, if_neg (by omega), sI_ne1 (by omega), sI_ne1 (by omega), up_ne (by omega), up_ne (by omega), up_ne (by omega), up_ne (by omega), up_ne (by omega)]
        exact g.2.2.1
      · rw [sI_ne1 (by omega), sI_r, if_neg (by omega), sI_ne1 (by omega), sI_ne1 (by omega), sI_ne1 (by omega), up_ne (by omega), up_ne (by omega), up_ne (by omega), up_ne (by omega), up_ne (by omega)]
        exact g.2.2.2
end ITEM7
