/-! the reference's items -/
def IT (its : List It) (w : xW) : Prop := w.1 55 27 = iZ (its.length : Nat) ∧ ∀ (i : Nat) (it : It), its[i]? = some it → w.1 73 (5 * i) = iZ it.1 ∧ w.1 73 (5 * i + 1) = iZ it.2.1 ∧ w.1 73 (5 * i + 2) = iZ it.2.2.1 ∧ w.1 73 (5 * i + 3) = iZ it.2.2.2.1 ∧ w.1 73 (5 * i + 4) = iZ it.2.2.2.2
def CN (r : Nat → Int32) (w : xW) : Prop := w.1 56 9 + w.1 55 28 = r 9 ∧ w.1 56 10 + w.1 55 29 = r 10
def Rq (w w' : xW) : Prop := w'.2 = w.2 ∧ ∀ q k, ¬ (q = 55 ∧ 19 ≤ k ∧ k ≤ 23) → ¬ (q = 55 ∧ 27 ≤ k ∧ k ≤ 29) → q ≠ 73 → w'.1 q k = w.1 q k
theorem Rq.rf {w : xW} : Rq w w := ⟨rfl, fun _ _ _ _ _ => rfl⟩
theorem Rq.tr {a b c : xW} (h : Rq a b) (g : Rq b c) : Rq a c := ⟨g.1.trans h.1, fun q k h1 h2 h3 => (g.2 q k h1 h2 h3).trans (h.2 q k h1 h2 h3)⟩
theorem Rn.q {w w' : xW} (h : Rn w w') : Rq w w' := ⟨h.1, fun q k h1 _ _ => h.2 q k h1⟩
theorem Rq.w55 {w : xW} {k : Nat} {v : Int32} (h : 27 ≤ k ∧ k ≤ 29) : Rq w (sI w 55 k v) := ⟨rfl, fun q j _ h2 _ => by rw [sI_r, if_neg (by omega)]⟩
theorem TapM.rq {B : Nat → Int} {U : Nat} {w w' : xW} (h : TapM B U w) (g : Rq w w') : TapM B U w' := ⟨by rw [g.2 55 18 (by omega) (by omega) (by omega)]; exact h.1, h.2.1, h.2.2.1, fun i hi => by rw [g.2 70 i (by omega) (by omega) (by omega)]; exact h.2.2.2 i hi⟩
theorem IT.rn {its : List It} {w w' : xW} (h : IT its w) (g : Rn w w') : IT its w' := by
  refine ⟨by rw [g.2 55 27 (by omega)]; exact h.1, fun i it hi => ?_⟩
  rw [g.2 73 _ (by omega), g.2 73 _ (by omega), g.2 73 _ (by omega), g.2 73 _ (by omega), g.2 73 _ (by omega)]
  exact h.2 i it hi
theorem CN.rn {r : Nat → Int32} {w w' : xW} (h : CN r w) (g : Rn w w') : CN r w' := by
  unfold CN
  rw [g.2 56 9 (by omega), g.2 56 10 (by omega), g.2 55 28 (by omega), g.2 55 29 (by omega)]
  exact h
def ST (B : Nat → Int) (U q : Nat) (wr : Bool) (its : List It) (w : xW) : Prop := TQ B U q ∧ TapM B U w ∧ TS B U q wr w ∧ IT its w
def Out8 (B : Nat → Int) (U : Nat) (r : Nat → Int32) (its : List It) (w : xW) (x : Option xW) (res : Nat ⊕ (It × Nat)) : Prop := match res with
  | .inl qf => ∃ w', x = some w' ∧ Rq w w' ∧ TS B U qf true w'
  | .inr (it, q1) => ∃ w', x = some w' ∧ Rq w w' ∧ TS B U q1 false w' ∧ IT (its ++ [it]) w' ∧ CN (ap it r) w'
def Wr8 (B : Nat → Int) (U q : Nat) (w : xW) (x : Option xW) : Prop := ∃ w', x = some w' ∧ Rq w w' ∧ TS B U q true w'
section ITEM8
variable {B : Nat → Int} {U N : Nat} {w : xW} {r : Nat → Int32} {its : List It}
theorem Out8.pre {w1 : xW} {x : Option xW} {res : Nat ⊕ (It × Nat)} (h : Out8 B U r its w1 x res) (g : Rq w w1) : Out8 B U r its w x res := by
  cases res with
  | inl q =>
    obtain ⟨w', h1, h2, h3⟩ := h
    exact ⟨w', h1, g.tr h2, h3⟩
  | inr z =>
    obtain ⟨w', h1, h2, h3⟩ := h
    exact ⟨w', h1, g.tr h2, h3⟩
theorem Wr8.pre {q : Nat} {w1 : xW} {x : Option xW} (h : Wr8 B U q w1 x) (g : Rq w w1) : Wr8 B U q w x := by
  obtain ⟨w', h1, h2, h3⟩ := h
  exact ⟨w', h1, g.tr h2, h3⟩
theorem ST.rn {q q1 : Nat} {a b : Bool} {w' : xW} (h : ST B U q a its w) (g : Rn w w') (hq : TQ B U q1) (t : TS B U q1 b w') : ST B U q1 b its w' := ⟨hq, h.2.1.rn g, t, h.2.2.2.rn g⟩
theorem s_numn {lo hi : Int} (l0 : -1000 ≤ lo ∧ lo ≤ 20000) (h0 : -1000 ≤ hi ∧ hi ≤ 20000) {q qf : Nat} (h : ST B U q false its w) (e : nm B U lo hi q = .inl qf) : ∃ w' v, fX8_number N w (iZ lo) (iZ hi) = some (w', v) ∧ Rn w w' ∧ ST B U qf true its w' := by
  obtain ⟨w', v, g1, g2, g3, g4⟩ := num8n (N := N) l0 h0 h.1 h.2.1 h.2.2.1 e
  exact ⟨w', v, g1, g2, h.rn g2 (by rw [g4]; exact h.1) g3⟩
theorem s_numy (hN : 20000 ≤ N) {lo hi : Int} (l0 : -1000 ≤ lo ∧ lo ≤ 20000) (h0 : -1000 ≤ hi ∧ hi ≤ 20000) {q q1 : Nat} {v : Int} (h : ST B U q false its w) (e : nm B U lo hi q = .inr (v, q1)) : ∃ w', fX8_number N w (iZ lo) (iZ hi) = some (w', iZ v) ∧ Rn w w' ∧ ST B U q1 false its w' := by
  obtain ⟨w', g1, g2, g3, g4⟩ := num8y hN l0 h0 h.1 h.2.1 h.2.2.1 e
  exact ⟨w', g1, g2, h.rn g2 g4 g3⟩
theorem s_numw {lo hi : Int} (l0 : -1000 ≤ lo ∧ lo ≤ 20000) (h0 : -1000 ≤ hi ∧ hi ≤ 20000) {q : Nat} (h : ST B U q true its w) : ∃ w' v, fX8_number N w (iZ lo) (iZ hi) = some (w', v) ∧ Rn w w' ∧ ST B U q true its w' := by
  obtain ⟨w', v, g1, g2, g3⟩ := num8w (N := N) l0 h0 h.1 h.2.1 h.2.2.1
  exact ⟨w', v, g1, g2, h.rn g2 h.1 g3⟩
theorem s_mustn {q : Nat} (h : ST B U q false its w) : ∃ w', fX8_must N w 0 = some w' ∧ Rn w w' ∧ ST B U q true its w' := by
  obtain ⟨w', g1, g2, g3⟩ := must8n (N := N) h.2.2.1
  exact ⟨w', g1, g2, h.rn g2 h.1 g3⟩
theorem s_musty (hN : 20000 ≤ N) {q : Nat} (h : ST B U q false its w) : ∃ w', fX8_must N w 1 = some w' ∧ Rn w w' ∧ ST B U (nxt B U q) false its w' := by
  obtain ⟨w', g1, g2, g3⟩ := must8y hN h.1 h.2.1 h.2.2.1
  exact ⟨w', g1, g2, h.rn g2 (nxt_spec h.1).1 g3⟩
theorem s_mustw {q : Nat} (b : Int32) (h : ST B U q true its w) : ∃ w', fX8_must N w b = some w' ∧ Rn w w' ∧ ST B U q true its w' := by
  obtain ⟨w', g1, g2, g3⟩ := must8w (N := N) b h.2.2.1
  exact ⟨w', g1, g2, h.rn g2 h.1 g3⟩
theorem s_isw (hN : 20000 ≤ N) {j : Nat} (hj : j < 17) {q : Nat} {b : Bool} (h : ST B U q b its w) : fX8_isWord N w j = some (bi (isW B U j q)) := isWord8 hN hj h.1 h.2.1 h.2.2.1.1
theorem ix_i {n : Nat} (hn : n < 120) (j : Nat) (hj : j < 5) : ibd (iZ ((5 * n + j : Nat) : Int)) 600 = true ∧ (iZ ((5 * n + j : Nat) : Int)).toNatClampNeg = 5 * n + j := ⟨(ibd_iZ (by omega) (by omega)).mpr (by omega), by rw [iZ_clamp (by omega) (by omega), Int.toNat_natCast]⟩
theorem item8_gen (hl : its.length < 120) {q : Nat} {b : Bool} (h : ST B U q b its w) (x1 x2 x3 x4 x5 : Int32) : ∃ w', fX8_item w x1 x2 x3 x4 x5 = some w' ∧ Rq w w' ∧ TS B U q b w' ∧ w'.1 55 27 = iZ ((its.length + 1 : Nat) : Int) ∧ w'.1 55 28 = w.1 55 28 ∧ w'.1 55 29 = w.1 55 29 ∧ (∀ k, k < 5 * its.length → w'.1 73 k = w.1 73 k) ∧ w'.1 73 (5 * its.length) = x1 ∧ w'.1 73 (5 * its.length + 1) = x2 ∧ w'.1 73 (5 * its.length + 2) = x3 ∧ w'.1 73 (5 * its.length + 3) = x4 ∧ w'.1 73 (5 * its.length + 4) = x5 := by
  have h27 := h.2.2.2.1
  have e5 : (5 : Int32) * iZ (its.length : Nat) = iZ ((5 * its.length + 0 : Nat) : Int) := by
    rw [show (5 : Int32) = iZ 5 from rfl, iZ_mul]
    congr 1
  have e5j : ∀ j : Nat, iZ ((5 * its.length + 0 : Nat) : Int) + iZ (j : Nat) = iZ ((5 * its.length + j : Nat) : Int) := fun j => by
    rw [iZ_add]
    congr 1
  have e1 : iZ (its.length : Nat) + iZ ((1 : Nat) : Int) = iZ ((its.length + 1 : Nat) : Int) := iZ_s1 _
  obtain ⟨a0, c0⟩ := ix_i hl 0 (by omega)
  obtain ⟨a1, c1⟩ := ix_i hl 1 (by omega)
  obtain ⟨a2, c2⟩ := ix_i hl 2 (by omega)
  obtain ⟨a3, c3⟩ := ix_i hl 3 (by omega)
  obtain ⟨a4, c4⟩ := ix_i hl 4 (by omega)
  unfold fX8_item fX8_item_0 fX8_item_63
  rw [h27, e5, show (1 : Int32) = iZ ((1 : Nat) : Int) from rfl, show (2 : Int32) = iZ ((2 : Nat) : Int) from rfl, show (3 : Int32) = iZ ((3 : Nat) : Int) from rfl, show (4 : Int32) = iZ ((4 : Nat) : Int) from rfl, e5j 1, e5j 2, e5j 3, e5j 4, if_pos a0, if_pos a1, if_pos a2, if_pos a3, if_pos a4, c0, c1, c2, c3, c4]
  have f27 : (sI (sI (sI (sI (sI w 73 (5 * its.length + 0) x1) 73 (5 * its.length + 1) x2) 73 (5 * its.length + 2) x3) 73 (5 * its.length + 3) x4) 73 (5 * its.length + 4) x5).1 55 = w.1 55 := by
    rw [sI_ne1 (by omega), sI_ne1 (by omega), sI_ne1 (by omega), sI_ne1 (by omega), sI_ne1 (by omega)]
  rw [f27, h27, e1]
  refine ⟨_, rfl, ⟨rfl, fun q k h1 h2 h3 => ?_⟩, ?_, ?_, ?_, ?_, fun k hk => ?_, ?_, ?_, ?_, ?_, ?_⟩
  · rw [sI_r, if_neg (by omega), sI_r, if_neg (by omega), sI_r, if_neg (by omega), sI_r, if_neg (by omega), sI_r, if_neg (by omega), sI_r, if_neg (by omega)]
  · obtain ⟨⟨t1, t2, t3, t4⟩, t5⟩ := h.2.2.1
    refine ⟨⟨?_, ?_, ?_, ?_⟩, ?_⟩
    · rw [sI_r, if_neg (by omega), f27]
      exact t1
    · rw [sI_r, if_neg (by omega), f27]
      exact t2
    · rw [sI_r, if_neg (by omega), f27]
      exact t3
    · rw [sI_r, if_neg (by omega), f27]
      exact t4
    · rw [sI_r, if_neg (by omega), f27]
      exact t5
  · rw [sI_r, if_pos ⟨rfl, rfl⟩]
  · rw [sI_r, if_neg (by omega), f27]
  · rw [sI_r, if_neg (by omega), f27]
  · rw [sI_r, if_neg (by omega), sI_r, if_neg (by omega), sI_r, if_neg (by omega), sI_r, if_neg (by omega), sI_r, if_neg (by omega), sI_r, if_neg (by omega)]
  · rw [sI_r, if_neg (by omega), sI_r, if_neg (by omega), sI_r, if_neg (by omega), sI_r, if_neg (by omega), sI_r, if_neg (by omega), sI_r, if_pos (by omega)]
  · rw [sI_r, if_neg (by omega), sI_r, if_neg (by omega), sI_r, if_neg (by omega), sI_r, if_neg (by omega), sI_r, if_pos (by omega)]
  · rw [sI_r, if_neg (by omega), sI_r, if_neg (by omega), sI_r, if_neg (by omega), sI_r, if_pos (by omega)]
  · rw [sI_r, if_neg (by omega), sI_r, if_neg (by omega), sI_r, if_pos (by omega)]
  · rw [sI_r, if_neg (by omega), sI_r, if_pos (by omega)]
theorem item8w (hl : its.length < 120) {q : Nat} (h : ST B U q true its w) (x1 x2 x3 x4 x5 : Int32) : Wr8 B U q w ((fX8_item w x1 x2 x3 x4 x5).bind fun z => some z) := by
  obtain ⟨w', g1, g2, g3, -⟩ := item8_gen hl h x1 x2 x3 x4 x5
  rw [g1]
  exact ⟨w', rfl, g2, g3⟩
theorem item8y (hl : its.length < 120) {q : Nat} (h : ST B U q false its w) (it : It) (hC : w.1 56 9 + w.1 55 28 = ap it r 9 ∧ w.1 56 10 + w.1 55 29 = ap it r 10) : Out8 B U r its w ((fX8_item w (iZ it.1) (iZ it.2.1) (iZ it.2.2.1) (iZ it.2.2.2.1) (iZ it.2.2.2.2)).bind fun z => some z) (.inr (it, q)) := by
  obtain ⟨w', g1, g2, g3, g4, g5, g6, g7, k1, k2, k3, k4, k5⟩ := item8_gen hl h (iZ it.1) (iZ it.2.1) (iZ it.2.2.1) (iZ it.2.2.2.1) (iZ it.2.2.2.2)
  rw [g1]
  refine ⟨w', rfl, g2, g3, ⟨?_, fun i y hy => ?_⟩, ?_⟩
  · rw [g4, List.length_append]
    rfl
  · rcases Nat.lt_or_ge i its.length with z | z
    · rw [List.getElem?_append_left z] at hy
      rw [g7 _ (by omega), g7 _ (by omega), g7 _ (by omega), g7 _ (by omega), g7 _ (by omega)]
      exact h.2.2.2.2 i y hy
    · rw [List.getElem?_append_right z] at hy
      have hi : i = its.length := by
        cases hd : i - its.length with
        | zero => omega
        | succ n => rw [hd] at hy; cases hy
      subst hi
      rw [Nat.sub_self] at hy
      have : y = it := (Option.some.inj hy).symm
      rw [this]
      exact ⟨k1, k2, k3, k4, k5⟩
  · unfold CN
    rw [g2.2 56 9 (by omega) (by omega) (by omega), g2.2 56 10 (by omega) (by omega) (by omega), g5, g6]
    exact hC
/-! wind, flood, house -/
def rW2 (N : Nat) (w : xW) (s : Int32) : Option xW := (fX8_number N w 0 9).bind fun z15 => (fX8_item z15.1 4 s z15.2 0 0).bind fun z17 => some z17
def rW1 (N : Nat) (w : xW) : Option xW := (fX8_number N w 0 3).bind fun z13 => rW2 N z13.1 z13.2
def rF3 (N : Nat) (w : xW) (f p : Int32) : Option xW := (fX8_perhaps N w 15 1 7 (-1)).bind fun z25 => (fX8_item z25.1 2 f p z25.2 0).bind fun z27 => some z27
def rF2 (N : Nat) (w : xW) (f : Int32) : Option xW := (fX8_perhaps N w 14 16 400 (-1)).bind fun z23 => rF3 N z23.1 f z23.2
def rF1 (N : Nat) (w : xW) : Option xW := (fX8_number N w 0 400).bind fun z21 => rF2 N z21.1 z21.2
def rH (N : Nat) (w : xW) (k : Int32) : Option xW := (fX8_number N w 0 3).bind fun z35 => (fX8_item z35.1 0 k z35.2 0 0).bind fun z37 => some z37
def rS6 (N : Nat) (w : xW) (c m s : Int32) : Option xW := (fX8_perhaps N w 12 0 3 (-1)).bind fun z17 => (fX8_item z17.1 1 c m s z17.2).bind fun z19 => some z19
def rS5 (N : Nat) (w : xW) (c m : Int32) : Option xW := (fX8_number N w 1 40).bind fun z15 => rS6 N z15.1 c m z15.2
def rS4 (N : Nat) (w : xW) (c m : Int32) : Option xW := (fX8_isWord N w 11).bind fun z11 => (fX8_must N w z11).bind fun z13 => rS5 N z13 c m
def rS3 (N : Nat) (w : xW) (c : Int32) : Option xW := (fX8_number N w 0 9999).bind fun z9 => rS4 N z9.1 c z9.2
def rS2 (N : Nat) (w : xW) (c : Int32) : Option xW := (fX8_isWord N w 10).bind fun z5 => (fX8_must N w z5).bind fun z7 => rS3 N z7 c
def rS1 (N : Nat) (w : xW) : Option xW := (fX8_number N w 0 3).bind fun z3 => rS2 N z3.1 z3.2
theorem Wr8.num {lo hi : Int} (l0 : -1000 ≤ lo ∧ lo ≤ 20000) (h0 : -1000 ≤ hi ∧ hi ≤ 20000) {q : Nat} (h : ST B U q true its w) {f : xW × Int32 → Option xW} (k : ∀ u v, ST B U q true its u → Wr8 B U q u (f (u, v))) : Wr8 B U q w ((fX8_number N w (iZ lo) (iZ hi)).bind f) := by
  obtain ⟨w', v, g1, g2, g3⟩ := s_numw (N := N) l0 h0 h
  rw [g1]
  exact (k w' v g3).pre g2.q
theorem Wr8.per {j : Nat} (hj : j < 17) {lo hi : Int32} {q : Nat} (h : ST B U q true its w) {f : xW × Int32 → Option xW} (k : ∀ u v, ST B U q true its u → Wr8 B U q u (f (u, v))) : Wr8 B U q w ((fX8_perhaps N w j lo hi (-1)).bind f) := by
  rw [per8w hj h.2.2.1]
  exact k w (-1) h
theorem Wr8.wm (hN : 20000 ≤ N) {j : Nat} (hj : j < 17) {q : Nat} (h : ST B U q true its w) {f : xW → Option xW} (k : ∀ u, ST B U q true its u → Wr8 B U q u (f u)) : Wr8 B U q w ((fX8_isWord N w j).bind fun z => (fX8_must N w z).bind f) := by
  rw [s_isw hN hj h, Option.bind_some]
  obtain ⟨w', g1, g2, g3⟩ := s_mustw (N := N) (bi (isW B U j q)) h
  rw [g1]
  exact (k w' g3).pre g2.q
theorem wW2 (hl : its.length < 120) {q : Nat} (h : ST B U q true its w) (s : Int32) : Wr8 B U q w (rW2 N w s) := Wr8.num (lo := 0) (hi := 9) (by omega) (by omega) h (fun u v hu => item8w hl hu _ _ _ _ _)
theorem wW1 (hl : its.length < 120) {q : Nat} (h : ST B U q true its w) : Wr8 B U q w (rW1 N w) := Wr8.num (lo := 0) (hi := 3) (by omega) (by omega) h (fun u v hu => wW2 hl hu v)
theorem wF3 (hl : its.length < 120) {q : Nat} (h : ST B U q true its w) (f p : Int32) : Wr8 B U q w (rF3 N w f p) := Wr8.per (by omega) h (fun u v hu => item8w hl hu _ _ _ _ _)
theorem wF2 (hl : its.length < 120) {q : Nat} (h : ST B U q true its w) (f : Int32) : Wr8 B U q w (rF2 N w f) := Wr8.per (by omega) h (fun u v hu => wF3 hl hu f v)
theorem wH (hl : its.length < 120) {q : Nat} (h : ST B U q true its w) (k : Int32) : Wr8 B U q w (rH N w k) := Wr8.num (lo := 0) (hi := 3) (by omega) (by omega) h (fun u v hu => item8w hl hu _ _ _ _ _)
theorem wS6 (hl : its.length < 120) {q : Nat} (h : ST B U q true its w) (c m s : Int32) : Wr8 B U q w (rS6 N w c m s) := Wr8.per (by omega) h (fun u v hu => item8w hl hu _ _ _ _ _)
theorem wS5 (hl : its.length < 120) {q : Nat} (h : ST B U q true its w) (c m : Int32) : Wr8 B U q w (rS5 N w c m) := Wr8.num (lo := 1) (hi := 40) (by omega) (by omega) h (fun u v hu => wS6 hl hu c m v)
theorem wS4 (hN : 20000 ≤ N) (hl : its.length < 120) {q : Nat} (h : ST B U q true its w) (c m : Int32) : Wr8 B U q w (rS4 N w c m) := Wr8.wm hN (by omega) h (fun u hu => wS5 hl hu c m)
theorem wS3 (hN : 20000 ≤ N) (hl : its.length < 120) {q : Nat} (h : ST B U q true its w) (c : Int32) : Wr8 B U q w (rS3 N w c) := Wr8.num (lo := 0) (hi := 9999) (by omega) (by omega) h (fun u v hu => wS4 hN hl hu c v)
theorem wS2 (hN : 20000 ≤ N) (hl : its.length < 120) {q : Nat} (h : ST B U q true its w) (c : Int32) : Wr8 B U q w (rS2 N w c) := Wr8.wm hN (by omega) h (fun u hu => wS3 hN hl hu c)
theorem wS1 (hN : 20000 ≤ N) (hl : its.length < 120) {q : Nat} (h : ST B U q true its w) : Wr8 B U q w (rS1 N w) := Wr8.num (lo := 0) (hi := 3) (by omega) (by omega) h (fun u v hu => wS2 hN hl hu v)
/-! where all is right -/
theorem Out8.num (hN : 20000 ≤ N) {lo hi : Int} (l0 : -1000 ≤ lo ∧ lo ≤ 20000) (h0 : -1000 ≤ hi ∧ hi ≤ 20000) {q : Nat} (h : ST B U q false its w) {f : xW × Int32 → Option xW} {g : Int → Nat → Nat ⊕ (It × Nat)} (kw : ∀ u v q, Rn w u → ST B U q true its u → Wr8 B U q u (f (u, v))) (k : ∀ u v q1, Rn w u → ST B U q1 false its u → Out8 B U r its u (f (u, iZ v)) (g v q1)) : Out8 B U r its w ((fX8_number N w (iZ lo) (iZ hi)).bind f) (pb (nm B U lo hi q) g) := by
  cases e : nm B U lo hi q with
  | inl qf =>
    obtain ⟨w', v, g1, g2, g3⟩ := s_numn (N := N) l0 h0 h e
    rw [g1]
    exact (kw w' v qf g2 g3).pre g2.q
  | inr z =>
    obtain ⟨v, q1⟩ := z
    obtain ⟨w', g1, g2, g3⟩ := s_numy hN l0 h0 h e
    rw [g1]
    exact (k w' v q1 g2 g3).pre g2.q
theorem Out8.per (hN : 20000 ≤ N) {j : Nat} (hj : j < 17) {lo hi : Int} (l0 : -1000 ≤ lo ∧ lo ≤ 20000) (h0 : -1000 ≤ hi ∧ hi ≤ 20000) {q : Nat} (h : ST B U q false its w) {f : xW × Int32 → Option xW} {g : Int → Nat → Nat ⊕ (It × Nat)} (kw : ∀ u v q, Rn w u → ST B U q true its u → Wr8 B U q u (f (u, v))) (k : ∀ u v q1, Rn w u → ST B U q1 false its u → Out8 B U r its u (f (u, iZ v)) (g v q1)) : Out8 B U r its w ((fX8_perhaps N w j (iZ lo) (iZ hi) (-1)).bind f) (pb (opn B U j lo hi q) g) := by
  have o := per8 hN hj l0 h0 h.1 h.2.1 h.2.2.1
  cases e : opn B U j lo hi q with
  | inl qf =>
    rw [e] at o
    obtain ⟨w', v, g1, g2, g3, g4⟩ := o
    rw [g1]
    exact (kw w' v qf g2 (h.rn g2 g4 g3)).pre g2.q
  | inr z =>
    obtain ⟨v, q1⟩ := z
    rw [e] at o
    obtain ⟨w', g1, g2, g3, g4⟩ := o
    rw [g1]
    exact (k w' v q1 g2 (h.rn g2 g4 g3)).pre g2.q
theorem Out8.wm (hN : 20000 ≤ N) {j : Nat} (hj : j < 17) {q : Nat} (h : ST B U q false its w) {f : xW → Option xW} {g : Int → Nat → Nat ⊕ (It × Nat)} (kw : ∀ u q, Rn w u → ST B U q true its u → Wr8 B U q u (f u)) (k : ∀ u v q1, Rn w u → ST B U q1 false its u → Out8 B U r its u (f u) (g v q1)) : Out8 B U r its w ((fX8_isWord N w j).bind fun z => (fX8_must N w z).bind f) (pb (wd B U j q) g) := by
  rw [s_isw hN hj h, Option.bind_some]
  cases e : wd B U j q with
  | inl qf =>
    obtain ⟨e1, rfl⟩ := wd_no e
    obtain ⟨w', g1, g2, g3⟩ := s_mustn (N := N) h
    rw [e1, show bi false = 0 from rfl, g1]
    exact (kw w' _ g2 g3).pre g2.q
  | inr z =>
    obtain ⟨v, q1⟩ := z
    obtain ⟨e1, rfl⟩ := wd_yes e
    obtain ⟨w', g1, g2, g3⟩ := s_musty hN h
    rw [e1, show bi true = 1 from rfl, g1]
    exact (k w' v _ g2 g3).pre g2.q
theorem oW1 (hN : 20000 ≤ N) (hl : its.length < 120) {q : Nat} (h : ST B U q false its w) (hC : CN r w) : Out8 B U r its w (rW1 N w) (pWind B U q) :=
  Out8.num hN (lo := 0) (hi := 3) (by omega) (by omega) h (fun u v q _ hu => wW2 hl hu v) (fun u s q1 g hu => Out8.num hN (lo := 0) (hi := 9) (by omega) (by omega) hu (fun u v q _ hu => item8w hl hu _ _ _ _ _) (fun u2 f q2 g2 hu2 => item8y hl hu2 (4, s, f, 0, 0) ((hC.rn g).rn g2)))
theorem oF1 (hN : 20000 ≤ N) (hl : its.length < 120) {q : Nat} (h : ST B U q false its w) (hC : CN r w) : Out8 B U r its w (rF1 N w) (pFlood B U q) :=
  Out8.num hN (lo := 0) (hi := 400) (by omega) (by omega) h (fun u v q _ hu => wF2 hl hu v) (fun u f q1 g hu => Out8.per hN (j := 14) (lo := 16) (hi := 400) (by omega) (by omega) (by omega) hu (fun u v q _ hu => wF3 hl hu _ v) (fun u2 p q2 g2 hu2 => Out8.per hN (j := 15) (lo := 1) (hi := 7) (by omega) (by omega) (by omega) hu2 (fun u v q _ hu => item8w hl hu _ _ _ _ _) (fun u3 l q3 g3 hu3 => item8y hl hu3 (2, f, p, l, 0) (by
    have c := ((hC.rn g).rn g2).rn g3
    have e : ∀ k, 2 < k → ap (2, f, p, l, 0) r k = r k := fun k hk => by
      show aF r f p l k = r k
      unfold aF aO
      split <;> split <;> (try rw [up_ne (by omega)]) <;> (try rw [up_ne (by omega)]) <;> (try rw [up_ne (by omega)])
    rw [e 9 (by omega), e 10 (by omega)]
    exact c))))
theorem oH (hN : 20000 ≤ N) (hl : its.length < 120) {q : Nat} (h : ST B U q false its w) (k : Int) (hC : w.1 56 9 + w.1 55 28 = r 9 + 1 ∧ w.1 56 10 + w.1 55 29 = r 10) (hr : 0 ≤ (r 9).toInt ∧ (r 9).toInt < 8) : Out8 B U r its w (rH N w (iZ k)) (pb (nm B U 0 3 q) fun f q1 => .inr ((0, k, f, 0, 0), q1)) :=
  Out8.num hN (lo := 0) (hi := 3) (by omega) (by omega) h (fun u v q _ hu => item8w hl hu _ _ _ _ _) (fun u f q1 g hu => item8y hl hu (0, k, f, 0, 0) (by
    have e9 : ap (0, k, f, 0, 0) r 9 = r 9 + 1 := by
      show aH r (iZ k) (iZ f) 9 = _
      unfold aH
      exact up_eq
    have e10 : ap (0, k, f, 0, 0) r 10 = r 10 := by
      show aH r (iZ k) (iZ f) 10 = _
      unfold aH
      rw [up_ne (by omega), up_ne (by omega), up_ne (by omega)]
    rw [e9, e10, g.2 56 9 (by omega), g.2 56 10 (by omega), g.2 55 28 (by omega), g.2 55 29 (by omega)]
    exact hC))
theorem oS1 (hN : 20000 ≤ N) (hl : its.length < 120) {q : Nat} (h : ST B U q false its w) (hC : w.1 56 9 + w.1 55 28 = r 9 ∧ w.1 56 10 + w.1 55 29 = r 10 + 1) : Out8 B U r its w (rS1 N w) (pShip B U q) :=
  Out8.num hN (lo := 0) (hi := 3) (by omega) (by omega) h (fun u v q _ hu => wS2 hN hl hu v) (fun u1 c q1 g1 hu1 => Out8.wm hN (j := 10) (by omega) hu1 (fun u q _ hu => wS3 hN hl hu _) (fun u2 _ q2 g2 hu2 => Out8.num hN (lo := 0) (hi := 9999) (by omega) (by omega) hu2 (fun u v q _ hu => wS4 hN hl hu _ v) (fun u3 m q3 g3 hu3 => Out8.wm hN (j := 11) (by omega) hu3 (fun u q _ hu => wS5 hl hu _ _) (fun u4 _ q4 g4 hu4 => Out8.num hN (lo := 1) (hi := 40) (by omega) (by omega) hu4 (fun u v q _ hu => wS6 hl hu _ _ v) (fun u5 s q5 g5 hu5 => Out8.per hN (j := 12) (lo := 0) (hi := 3) (by omega) (by omega) (by omega) hu5 (fun u v q _ hu => item8w hl hu _ _ _ _ _) (fun u6 v q6 g6 hu6 => item8y hl hu6 (1, c, m, s, v) (by
    have g : Rn w u6 := ((((g1.tr g2).tr g3).tr g4).tr g5).tr g6
    have e10 : ap (1, c, m, s, v) r 10 = r 10 + 1 := by
      show aS r (iZ c) (iZ m) (iZ s) (iZ v) 10 = _
      unfold aS
      exact up_eq
    have e9 : ap (1, c, m, s, v) r 9 = r 9 := by
      show aS r (iZ c) (iZ m) (iZ s) (iZ v) 9 = _
      unfold aS
      rw [up_ne (by omega), up_ne (by omega), up_ne (by omega), up_ne (by omega), up_ne (by omega)]
    rw [e9, e10, g.2 56 9 (by omega), g.2 56 10 (by omega), g.2 55 28 (by omega), g.2 55 29 (by omega)]
    exact hC)))))))
end ITEM8
