/-! the reference reads the whole text -/
def Rz (w w' : xW) : Prop := w'.2 = w.2 ∧ ∀ q k, q ≠ 73 → q ≠ 56 → ¬ (q = 55 ∧ (k = 8 ∨ (18 ≤ k ∧ k ≤ 29))) → w'.1 q k = w.1 q k
theorem Rz.tr {a b c : xW} (h : Rz a b) (g : Rz b c) : Rz a c := ⟨g.1.trans h.1, fun q k h1 h2 h3 => (g.2 q k h1 h2 h3).trans (h.2 q k h1 h2 h3)⟩
theorem Rq.z {w w' : xW} (h : Rq w w') : Rz w w' := ⟨h.1, fun q k h1 _ h3 => h.2 q k (by omega) (by omega) h1⟩
def Fin8 (r0 : Nat → Int32) (w : xW) (x : Option (xW × Int32)) (res : Nat ⊕ List It) : Prop := match res with
  | .inl qf => ∃ w', x = some (w', iZ (-1 - (qf : Int))) ∧ Rz w w' ∧ w'.1 55 18 = 0 ∧ w'.1 56 = w.1 56 ∧ w'.1 55 8 = w.1 55 8
  | .inr its => ∃ w', x = some (w', iZ (its.length : Nat)) ∧ Rz w w' ∧ w'.1 55 18 = 0 ∧ w'.1 56 = aps its r0 ∧ w'.1 55 8 = 0
def Pre8 (r0 : Nat → Int32) (its : List It) : Prop := (∀ k, k ≤ its.length → WFr (aps (its.take k) r0)) ∧ ∀ it, it ∈ its → IB it
section ISLAND
variable {B : Nat → Int} {U N : Nat} {w : xW} {r0 : Nat → Int32}
theorem Fin8.pre {w1 : xW} {x : Option (xW × Int32)} {res : Nat ⊕ List It} (h : Fin8 r0 w1 x res) (g : Rq w w1) : Fin8 r0 w x res := by
  cases res with
  | inl q =>
    obtain ⟨w', h1, h2, h3, h4, h5⟩ := h
    exact ⟨w', h1, g.z.tr h2, h3, h4.trans (funext fun k => g.2 56 k (by omega) (by omega) (by omega)), h5.trans (g.2 55 8 (by omega) (by omega) (by omega))⟩
  | inr z =>
    obtain ⟨w', h1, h2, h3⟩ := h
    exact ⟨w', h1, g.z.tr h2, h3⟩
theorem m1Z (k : Nat) : (-1 : Int32) - iZ (k : Nat) = iZ (-1 - (k : Int)) := by rw [show (-1 : Int32) = iZ (-1) from rfl, iZ_sub]
theorem end87w {q : Nat} {s0 : Int32} (g : ∃ w1, fX8_must N w s0 = some w1 ∧ Rn w w1 ∧ TS B U q true w1) : Fin8 r0 w (fX8_island_87 N w s0) (.inl q) := by
  obtain ⟨w1, a1, a2, a3⟩ := g
  unfold fX8_island_87
  have e23 : (sI w1 55 18 0).1 55 23 = 1 := by rw [sI_r, if_neg (by omega)]; exact a3.2
  have e19 : (sI w1 55 18 0).1 55 19 = iZ (q : Nat) := by rw [sI_r, if_neg (by omega)]; exact a3.1.1
  rw [a1, Option.bind_some, e23, if_neg n10, e19, m1Z]
  refine ⟨_, rfl, ⟨a2.1, fun q k h1 h2 h3 => ?_⟩, ?_, ?_, ?_⟩
  · rw [sI_r, if_neg (by omega)]
    exact a2.2 q k (by omega)
  · rw [sI_r, if_pos ⟨rfl, rfl⟩]
  · rw [sI_ne1 (by omega)]
    exact funext fun k => a2.2 56 k (by omega)
  · rw [sI_r, if_neg (by omega)]
    exact a2.2 55 8 (by omega)
theorem end74w {q : Nat} (h : TS B U q true w) : Fin8 r0 w (fX8_island_74 N w) (.inl q) := by
  unfold fX8_island_74
  split
  · exact end87w (must8w 1 h)
  · exact end87w (must8w 0 h)
theorem end33w {q : Nat} (m : Nat) (h : TS B U q true w) : Fin8 r0 w (fX8_island_33 N (m + 1) w) (.inl q) := by
  rw [fX8_island_33]
  unfold fX8_island_33b
  rw [h.2, if_neg bT]
  exact end74w h
theorem apply_loop {its : List It} (hP : Pre8 r0 its) (hl : its.length < 119) : ∀ (j m k : Nat) (u : xW), j < m → k + j = its.length → u.1 56 = aps (its.take k) r0 → IT its u → ∃ w', fX8_island_111 N m u (iZ (k : Nat)) = some (w', iZ (its.length : Nat)) ∧ w'.2 = u.2 ∧ (∀ q k, q ≠ 56 → ¬ (q = 55 ∧ k = 8) → w'.1 q k = u.1 q k) ∧ w'.1 56 = aps its r0 ∧ w'.1 55 8 = 0
  | _, 0, _, _, hm, _, _, _ => absurd hm (by omega)
  | 0, m + 1, k, u, _, hk, hr, hI => by
    obtain rfl : k = its.length := by omega
    rw [fX8_island_111]
    unfold fX8_island_111b
    have e : (sI u 55 8 0).1 55 27 = iZ (its.length : Nat) := by rw [sI_r, if_neg (by omega)]; exact hI.1
    rw [hI.1, if_pos (by rw [iZ_le (by omega) (by omega) (by omega) (by omega)]; omega), e]
    refine ⟨_, rfl, rfl, fun q k h1 h2 => by rw [sI_r, if_neg (by omega)], ?_, by rw [sI_r, if_pos ⟨rfl, rfl⟩]⟩
    rw [sI_ne1 (by omega), hr, List.take_length]
  | j + 1, m + 1, k, u, hm, hk, hr, hI => by
    obtain ⟨it, hit⟩ : ∃ it, its[k]? = some it := ⟨its[k]'(by omega), List.getElem?_eq_getElem (by omega)⟩
    obtain ⟨i0, i1, i2, i3, i4⟩ := hI.2 k it hit
    have tk : its.take (k + 1) = its.take k ++ [it] := by
      rw [List.take_succ, hit]
      rfl
    have hW := hP.1 k (by omega)
    have hW2 := hP.1 (k + 1) (by omega)
    rw [tk, aps_add] at hW2
    rw [fX8_island_111]
    unfold fX8_island_111b
    obtain ⟨u', g1, g2, g3, g4⟩ := isSo8 hr hW hW2 (hP.2 it (List.mem_of_getElem? hit)) (k := k) (by omega) i0 i1 i2 i3 i4
    rw [hI.1, if_neg (by rw [iZ_le (by omega) (by omega) (by omega) (by omega)]; omega), g1, Option.bind_some, iZ_s1]
    obtain ⟨w', q1, q2, q3, q4, q5⟩ := apply_loop hP hl j m (k + 1) u' (by omega) (by omega) (by rw [g2, tk, aps_add]) (by
      unfold IT
      rw [g4 55 (by omega), g4 73 (by omega)]
      exact hI)
    exact ⟨w', q1, q2.trans g3, fun q k h1 h2 => (q3 q k h1 h2).trans (by rw [g4 q h1]), q4, q5⟩
theorem Pre8.add {its : List It} {it : It} (h : Pre8 r0 its) (hW : WFr (aps (its ++ [it]) r0)) (hB : IB it) : Pre8 r0 (its ++ [it]) := by
  refine ⟨fun k hk => ?_, fun y hy => ?_⟩
  · rw [List.length_append] at hk
    rcases Nat.lt_or_ge k (its.length + 1) with z | z
    · rw [List.take_append_of_le_length (by omega)]
      exact h.1 k (by omega)
    · have : k = (its ++ [it]).length := by
        rw [List.length_append]
        simp only [List.length_cons, List.length_nil] at hk ⊢
        omega
      rw [this, List.take_length]
      exact hW
  · rcases List.mem_append.mp hy with z | z
    · exact h.2 y z
    · rw [List.mem_singleton.mp z]
      exact hB
theorem island_loop (hN : 20000 ≤ N) : ∀ (n m : Nat) (its : List It) (q : Nat) (u : xW), U - q < n → n < m → 2 * its.length ≤ q → ST B U q false its u → CN (aps its r0) u → Pre8 r0 its → u.1 56 = r0 → Fin8 r0 u ((fX8_readItem N u).bind fun z8 => fX8_island_33 N m z8) (pTell B U r0 n its q)
  | 0, _, _, _, _, hn, _, _, _, _, _, _ => absurd hn (by omega)
  | n + 1, 0, _, _, _, _, hm, _, _, _, _, _ => absurd hm (by omega)
  | n + 1, m + 1, its, q, u, hn, hm, hl, h, hC, hP, hr => by
    have hU := h.2.1.2.1
    have hqU := h.1.1
    have hW : WFr (aps its r0) := by
      have := hP.1 its.length (Nat.le_refl _)
      rw [List.take_length] at this
      exact this
    have o := readItem8 hN (by omega) h hC hW
    have gd := pItem_gd h.1 hW
    rw [pTell]
    cases hp : pItem B U (aps its r0) q with
    | inl qf =>
      rw [hp] at o
      obtain ⟨w', h1, h2, h3⟩ := o
      rw [h1, Option.bind_some]
      exact (end33w m h3).pre h2
    | inr z =>
      obtain ⟨it, q1⟩ := z
      rw [hp] at o gd
      obtain ⟨w', h1, h2, h3, h4, h5⟩ := o
      obtain ⟨g1, g2, g3, g4⟩ := gd
      have tr := ty_rng (B := B) (U := U) q1
      have g1U := g1.1
      have el : (its ++ [it]).length = its.length + 1 := by rw [List.length_append]; rfl
      have st : ST B U q1 false (its ++ [it]) w' := ⟨g1, h.2.1.rq h2, h3, h4⟩
      have hr' : w'.1 56 = r0 := (funext fun k => h2.2 56 k (by omega) (by omega) (by omega) : w'.1 56 = u.1 56).trans hr
      have hP' : Pre8 r0 (its ++ [it]) := hP.add (by rw [aps_add]; exact g3) g4
      have t8r : ty8 B U q1 ≤ 3 := by unfold ty8; split <;> omega
      have t83 : ty8 B U q1 = 3 ↔ 3 ≤ ty B U q1 := by unfold ty8; split <;> omega
      have t80 : ty8 B U q1 = 0 ↔ ty B U q1 = 0 := by unfold ty8; split <;> omega
      have n4 := g1.2
      rw [h1, Option.bind_some]
      refine Fin8.pre ?_ h2
      show Fin8 r0 w' _ (if ty B U q1 = 0 then .inr (its ++ [it]) else if ty B U q1 = 3 then pTell B U r0 n (its ++ [it]) (nxt B U q1) else .inl q1)
      rw [fX8_island_33]
      unfold fX8_island_33b
      rw [h3.2, if_pos bF, h3.1.2.2.1]
      have not0 : ty B U q1 ≠ 0 → ty B U q1 ≠ 3 → Fin8 r0 w' (fX8_island_74 N w') (.inl q1) := by
        intro y x
        unfold fX8_island_74
        rw [h3.1.2.2.1, if_neg (by rw [show (0 : Int32) = iZ 0 from rfl, iZ_eq (by omega) (by omega) (by omega) (by omega)]; intro v; exact y (t80.mp (by omega)))]
        exact end87w (must8n h3)
      by_cases y : ty B U q1 = 0
      · rw [if_pos y, if_neg (by rw [show (3 : Int32) = iZ 3 from rfl, iZ_eq (by omega) (by omega) (by omega) (by omega)]; intro v; have := t83.mp (by omega); omega)]
        unfold fX8_island_74 fX8_island_87
        obtain ⟨w2, s1, s2, s3⟩ := s_musty hN st
        have e23 : (sI w2 55 18 0).1 55 23 = 0 := by rw [sI_r, if_neg (by omega)]; exact s3.2.2.1.2
        rw [h3.1.2.2.1, if_pos (by rw [t80.mpr y]; rfl), s1, Option.bind_some, e23, if_pos rfl]
        obtain ⟨w3, k1, k2, k3, k4, k5⟩ := apply_loop (N := N) hP' (by omega) (its ++ [it]).length N 0 (sI w2 55 18 0) (by omega) (by omega) (by
          rw [sI_ne1 (by omega), show w2.1 56 = w'.1 56 from funext fun k => s2.2 56 k (by omega), hr']
          rfl) (by
          obtain ⟨x1, x2⟩ := s3.2.2.2
          refine ⟨?_, ?_⟩
          · rw [sI_r, if_neg (by omega)]
            exact x1
          · rw [sI_ne1 (by omega)]
            exact x2)
        refine ⟨w3, k1, ⟨k2.trans s2.1, fun q k a1 a2 a3 => ?_⟩, ?_, k4, k5⟩
        · rw [k3 q k a2 (by omega), sI_r, if_neg (by omega)]
          exact s2.2 q k (by omega)
        · rw [k3 55 18 (by omega) (by omega), sI_r, if_pos ⟨rfl, rfl⟩]
      · rw [if_neg y]
        have q1U : q1 < U := by
          rcases Nat.lt_or_ge q1 U with v | v
          · exact v
          · exact absurd (ty_out v) y
        by_cases c : 3 ≤ ty B U q1
        · rw [if_pos (by rw [t83.mpr c]; rfl), h3.1.1, if_pos ((ibd_iZ (by omega) (by omega)).mpr (by omega)), iZ_clamp (by omega) (by omega), Int.toNat_natCast, st.2.1.2.2.2 q1 q1U]
          have b3 := (bq_ty st.2.1 q1).2.2.2.2
          have bB : bq B U q1 = B q1 := by unfold bq; rw [if_pos q1U]
          have br := bq_rng st.2.1 q1
          rw [bB] at b3 br
          by_cases x : ty B U q1 = 3
          · rw [if_pos x, if_pos (by rw [b3.mp x]; rfl)]
            obtain ⟨w2, s1, s2, s3⟩ := s_musty hN st
            have nx := nxt_spec g1
            have lt := nx.2.2 y
            rw [s1, Option.bind_some]
            have ih := island_loop hN n m (its ++ [it]) (nxt B U q1) w2 (by omega) (by omega) (by rw [el]; omega) s3 (by rw [aps_add]; exact h5.rn s2) hP' ((funext fun k => s2.2 56 k (by omega) : w2.1 56 = w'.1 56).trans hr')
            exact ih.pre s2.q
          · rw [if_neg x, if_neg (by rw [show (59 : Int32) = iZ 59 from rfl, iZ_eq (by omega) (by omega) (by omega) (by omega)]; exact fun v => x (b3.mpr v))]
            exact not0 y x
        · rw [if_neg (by rw [show (3 : Int32) = iZ 3 from rfl, iZ_eq (by omega) (by omega) (by omega) (by omega)]; intro v; exact c (t83.mp (by omega))), if_neg (show ¬ ty B U q1 = 3 by omega)]
          exact not0 y (by omega)
theorem island8 (hN : 20000 ≤ N) (hT : TapM B U w) (hW : WFr (w.1 56)) : Fin8 (w.1 56) w (fX8_island N w) (pTell B U (w.1 56) 121 [] (sk B U 0)) := by
  have hU := hT.2.1
  unfold fX8_island fX8_island_0
  have g0 : Rz w (sI (sI (sI (sI (sI w 55 20 0) 55 23 0) 55 27 0) 55 28 0) 55 29 0) := ⟨rfl, fun q k h1 h2 h3 => by rw [sI_r, if_neg (by omega), sI_r, if_neg (by omega), sI_r, if_neg (by omega), sI_r, if_neg (by omega), sI_r, if_neg (by omega)]⟩
  have e55 : ∀ k, ¬ (k = 20 ∨ k = 23 ∨ k = 27 ∨ k = 28 ∨ k = 29) → (sI (sI (sI (sI (sI w 55 20 0) 55 23 0) 55 27 0) 55 28 0) 55 29 0).1 55 k = w.1 55 k := fun k hk => by rw [sI_r, if_neg (by omega), sI_r, if_neg (by omega), sI_r, if_neg (by omega), sI_r, if_neg (by omega), sI_r, if_neg (by omega)]
  have e20 : (sI (sI (sI (sI (sI w 55 20 0) 55 23 0) 55 27 0) 55 28 0) 55 29 0).1 55 20 = iZ ((0 : Nat) : Int) := by rw [sI_r, if_neg (by omega), sI_r, if_neg (by omega), sI_r, if_neg (by omega), sI_r, if_neg (by omega), sI_r, if_pos ⟨rfl, rfl⟩]; rfl
  have e23 : (sI (sI (sI (sI (sI w 55 20 0) 55 23 0) 55 27 0) 55 28 0) 55 29 0).1 55 23 = 0 := by rw [sI_r, if_neg (by omega), sI_r, if_neg (by omega), sI_r, if_neg (by omega), sI_r, if_pos ⟨rfl, rfl⟩]
  have e27 : (sI (sI (sI (sI (sI w 55 20 0) 55 23 0) 55 27 0) 55 28 0) 55 29 0).1 55 27 = 0 := by rw [sI_r, if_neg (by omega), sI_r, if_neg (by omega), sI_r, if_pos ⟨rfl, rfl⟩]
  have e28 : (sI (sI (sI (sI (sI w 55 20 0) 55 23 0) 55 27 0) 55 28 0) 55 29 0).1 55 28 = 0 := by rw [sI_r, if_neg (by omega), sI_r, if_pos ⟨rfl, rfl⟩]
  have e29 : (sI (sI (sI (sI (sI w 55 20 0) 55 23 0) 55 27 0) 55 28 0) 55 29 0).1 55 29 = 0 := by rw [sI_r, if_pos ⟨rfl, rfl⟩]
  have eo : ∀ q, q ≠ 55 → (sI (sI (sI (sI (sI w 55 20 0) 55 23 0) 55 27 0) 55 28 0) 55 29 0).1 q = w.1 q := fun q hq => by rw [sI_ne1 hq, sI_ne1 hq, sI_ne1 hq, sI_ne1 hq, sI_ne1 hq]
  generalize sI (sI (sI (sI (sI w 55 20 0) 55 23 0) 55 27 0) 55 28 0) 55 29 0 = u at g0 e55 e20 e23 e27 e28 e29 eo
  have hTu : TapM B U u := ⟨by rw [e55 18 (by omega)]; exact hT.1, hT.2.1, hT.2.2.1, fun i hi => by rw [eo 70 (by omega)]; exact hT.2.2.2 i hi⟩
  obtain ⟨w1, a1, a2, a3⟩ := next8 hN (p := 0) (by omega) hTu e20
  rw [a1, Option.bind_some]
  have sp := sk_spec (B := B) (U := U) (p := 0) (by omega)
  have r1 : w1.1 56 = w.1 56 := (funext fun k => a2.2 56 k (by omega) : w1.1 56 = u.1 56).trans (eo 56 (by omega))
  have st : ST B U (sk B U 0) false [] w1 := ⟨sp.2, hTu.rm a2, ⟨a3, by rw [a2.2 55 23 (by omega), e23]; rfl⟩, ⟨by rw [a2.2 55 27 (by omega), e27]; rfl, fun i it hi => by cases hi⟩⟩
  have cn : CN (aps [] (w.1 56)) w1 := by
    refine ⟨?_, ?_⟩
    · rw [r1, a2.2 55 28 (by omega), e28, Int32.add_zero]
      rfl
    · rw [r1, a2.2 55 29 (by omega), e29, Int32.add_zero]
      rfl
  have hP : Pre8 (w.1 56) [] := ⟨fun k hk => by
    rw [List.take_nil]
    exact hW, fun it hi => by cases hi⟩
  have o := island_loop (r0 := w.1 56) hN 121 N [] (sk B U 0) w1 (by omega) (by omega) (by simp) st cn hP r1
  cases hp : pTell B U (w.1 56) 121 [] (sk B U 0) with
  | inl q =>
    rw [hp] at o
    obtain ⟨w', h1, h2, h3, h4, h5⟩ := o
    exact ⟨w', h1, (g0.tr a2.n.q.z).tr h2, h3, h4.trans r1, by rw [h5, a2.2 55 8 (by omega), e55 8 (by omega)]⟩
  | inr z =>
    rw [hp] at o
    obtain ⟨w', h1, h2, h3, h4, h5⟩ := o
    exact ⟨w', h1, (g0.tr a2.n.q.z).tr h2, h3, h4, h5⟩
end ISLAND
