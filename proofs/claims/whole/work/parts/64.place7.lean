/-! freeFrom and place -/
section PLACE7
variable {r : Nat → Int32} {w : xW} {N m : Nat}
theorem free_loop (hm : m ≤ 6) (hD : ∀ s, s < m → SD w r s ∧ WFs r s) {ah : List (Nat × Int × Int)} (hA : ∀ e, e ∈ ah → OKE r m e) (h7 : AH7 w ah) (la : ah.length ≤ 6) {s t : Nat} {f : Int} (hs : WFs r s) (ht : t < 11000) (hf : 0 ≤ f ∧ f ≤ 3) : ∀ (l : List (Nat × Int × Int)) (i n : Nat) (g : Int), ah.drop i = l → i ≤ 6 → l.length < n → (0 ≤ g ∧ g < 13000) → fX0_freeFrom_6 N w n (iZ f) (iZ t) (iZ (shS r s)) (iZ ah.length) (iZ g) (iZ i) = some (iZ (frF r s f t l g))
  | _, _, 0, _, _, _, hn, _ => absurd hn (by omega)
  | [], i, n + 1, g, hd, hi6, _, _ => by
    have hi : ah.length ≤ i := by
      have := congrArg List.length hd
      rw [List.length_drop] at this
      simp only [List.length_nil] at this
      omega
    rw [fX0_freeFrom_6]
    unfold fX0_freeFrom_6b
    rw [if_pos (by rw [iZ_le (by omega) (by omega) (by omega) (by omega)]; omega)]
    rfl
  | e :: l, i, n + 1, g, hd, hi6, hn, hg => by
    have hl : i + (l.length + 1) = ah.length := by
      have := congrArg List.length hd
      rw [List.length_drop, List.length_cons] at this
      omega
    have he : ah[i]? = some e := by
      have : (ah.drop i)[0]? = some e := by rw [hd]; rfl
      rw [List.getElem?_drop] at this
      exact this
    have hd' : ah.drop (i + 1) = l := by
      have : (ah.drop i).drop 1 = l := by rw [hd]; rfl
      rw [List.drop_drop] at this
      exact this
    have hmem : e ∈ ah := List.mem_of_getElem? he
    obtain ⟨a1, a2, a3⟩ := h7 i e he
    have hE := hA e hmem
    obtain ⟨em, ⟨e0, e9⟩, e3⟩ := hE
    obtain ⟨⟨d1, d2, d3, d4⟩, ⟨⟨c0, c3⟩, ⟨m0, m9⟩, ⟨t1, t2⟩, -⟩⟩ := hD e.1 em
    have hs' : WFs r s := hs
    obtain ⟨-, -, ⟨s1, s2⟩, -⟩ := hs
    obtain ⟨-, i5, i6⟩ := ix_s i (by omega)
    obtain ⟨-, j5, j6⟩ := ix_s e.1 (by omega)
    have ef : -1 ≤ e.2.2 ∧ e.2.2 ≤ 3 := by
      rcases e3 with z | ⟨-, z⟩
      · omega
      · unfold fro at z
        omega
    have ge : goe r e = shM r e.1 + e.2.1 + shS r e.1 := rfl
    have next : ∀ g' : Int, 0 ≤ g' ∧ g' < 13000 → fX0_freeFrom_86 N w (fX0_freeFrom_6 N w n) (iZ f) (iZ t) (iZ (shS r s)) (iZ ah.length) (iZ g') (iZ i) = some (iZ (frF r s f t l g')) := by
      intro g' hg'
      unfold fX0_freeFrom_86
      rw [iZ_s1]
      exact free_loop hm hD hA h7 la hs' ht hf l (i + 1) n g' hd' (by omega) (by simp only [List.length_cons] at hn; omega) hg'
    rw [fX0_freeFrom_6, frF]
    unfold fX0_freeFrom_6b
    rw [if_neg (by rw [iZ_le (by omega) (by omega) (by omega) (by omega)]; omega), if_pos i5, i6, a1, if_pos j5, j6, a2, a3, d2, d3, iZ_add, iZ_add, iZ_add]
    unfold cfl
    by_cases z : e.2.2 = f
    · rw [if_pos (by rw [z]), decide_eq_true z, Bool.true_and]
      by_cases y : shM r e.1 + e.2.1 < t + shS r s
      · rw [if_neg (by rw [iZ_le (by omega) (by omega) (by omega) (by omega)]; omega), decide_eq_true y, Bool.true_and]
        by_cases x : (t : Int) < shM r e.1 + e.2.1 + shS r e.1
        · rw [if_neg (by rw [iZ_le (by omega) (by omega) (by omega) (by omega)]; omega), decide_eq_true x, if_pos rfl]
          unfold fX0_freeFrom_84
          by_cases v : g < goe r e
          · rw [if_pos (by rw [iZ_lt (by omega) (by omega) (by omega) (by omega)]; omega), if_pos v]
            exact next _ (by omega)
          · rw [if_neg (by rw [iZ_lt (by omega) (by omega) (by omega) (by omega)]; omega), if_neg v]
            exact next _ hg
        · rw [if_pos (by rw [iZ_le (by omega) (by omega) (by omega) (by omega)]; omega), decide_eq_false x, if_neg (by decide)]
          exact next _ hg
      · rw [if_pos (by rw [iZ_le (by omega) (by omega) (by omega) (by omega)]; omega), decide_eq_false y, Bool.false_and, if_neg (by decide)]
        exact next _ hg
    · rw [if_neg (fun q => z ((iZ_eq (by omega) (by omega) (by omega) (by omega)).mp q)), decide_eq_false z, Bool.false_and, if_neg (by decide)]
      exact next _ hg
theorem frontAt_eq (hN : 20000 ≤ N) (hT : IsT w r) (hw : WFt r) {s t : Nat} (s6 : s < 6) (hd : SD w r s) (ht : t < 20000) : ∃ w', fX1_frontAt N w (iZ s) (iZ t) = some (w', iZ (fro r s t)) ∧ R2 w w' := by
  obtain ⟨-, i5, i6⟩ := ix_s s s6
  obtain ⟨w3, o1, o2, o3, o4, o5⟩ := at_eq hN hT hw (t := t) (by omega) (by omega)
  refine ⟨w3, ?_, o2⟩
  unfold fX1_frontAt fX1_frontAt_0
  rw [o1, Option.bind_some, if_pos i5, i6, o2.2 7 (by omega), hd.1, frontTo6_eq o4]
  rfl
theorem AH7.r2 {u : xW} {ah : List (Nat × Int × Int)} (h : AH7 w ah) (g : R2 w u) : AH7 u ah := by
  unfold AH7
  rw [g.2 39 (by omega), g.2 40 (by omega), g.2 41 (by omega)]
  exact h
theorem place_loop (hN : 20000 ≤ N) (hw : WFt r) (hm : m ≤ 6) {ah : List (Nat × Int × Int)} (hA : ∀ e, e ∈ ah → OKE r m e) (la : ah.length ≤ 6) (hW : ∀ s, s < m → WFs r s) {s M : Nat} (hs : s < m) (hM : shM r s = (M : Int)) : ∀ (n j c t : Nat) (u : xW), j < n → c + j = ah.length → M ≤ t → t ≤ M + 960 → (t < M + 960 → okAt r s (t : Int) = true) → (t < M + 960 → ah.countP (fun e => decide ((t : Int) < goe r e)) ≤ j) → IsT u r → (∀ s, s < m → SD u r s) → AH7 u ah → ∃ w', fX0_place_23 N n u (iZ s) (iZ ah.length) (iZ ((M + 960 : Nat) : Int)) (iZ t) (iZ c) = some (sI (sI w' 40 s (iZ (gos r ah s (M + 960 - t)).1)) 41 s (iZ (gos r ah s (M + 960 - t)).2)) ∧ R2 u w'
  | 0, _, _, _, _, hn, _, _, _, _, _, _, _, _ => absurd hn (by omega)
  | n + 1, j, c, t, u, hn, hc, ht0, ht1, ho, hk, hT, hD, h7 => by
    have hWs := hW s hs
    obtain ⟨⟨c0, c3⟩, ⟨m0, m9⟩, ⟨t1, t2⟩, ⟨q0, q3⟩⟩ := hWs
    obtain ⟨-, i5, i6⟩ := ix_s s (by omega)
    rw [fX0_place_23]
    unfold fX0_place_23b
    rw [if_neg (by rw [iZ_lt (by omega) (by omega) (by omega) (by omega)]; omega)]
    rcases Nat.lt_or_ge t (M + 960) with q | q
    · obtain ⟨w1, p1, p2⟩ := frontAt_eq hN hT hw (s := s) (t := t) (by omega) (hD s hs) (by omega)
      have hD1 : ∀ s, s < m → SD w1 r s ∧ WFs r s := fun s hs => ⟨(hD s hs).r2 p2, hW s hs⟩
      have fr : 0 ≤ fro r s t ∧ fro r s t ≤ 3 := by unfold fro; omega
      have fl := free_loop (w := w1) (N := N) hm hD1 hA (h7.r2 p2) la (s := s) (t := t) (f := fro r s t) (hW s hs) (by omega) fr ah 0 N t rfl (by omega) (by omega) (by omega)
      have fe : fX0_freeFrom N w1 (iZ (fro r s t)) (iZ t) (w1.1 9 s) (iZ ah.length) = some (iZ (frF r s (fro r s t) t ah t)) := by
        rw [(hD1 s hs).1.2.2.1]
        exact fl
      rw [if_neg (by rw [iZ_le (by omega) (by omega) (by omega) (by omega)]; omega), p1, Option.bind_some, if_pos i5, i6, fe, Option.bind_some]
      cases htk : takn r ah s (fro r s t) t with
      | false =>
        rw [frF_no htk, if_pos rfl, (hD1 s hs).1.2.1, hM, iZ_sub, gos_at ah hM ht0 q]
        have hg : okG r ah s t = true := by unfold okG; rw [ho q, htk]; rfl
        rw [if_pos hg]
        exact ⟨w1, rfl, p2⟩
      | true =>
        obtain ⟨e, he, hce, hf, hlt⟩ := frF_yes htk
        rw [hf]
        have hE := hA e he
        have hWe := hW e.1 hE.1
        have bl := blocked hw (m := m) (t := t) (by omega) he hE hWe (hW s hs) (ho q) hce
        obtain ⟨g, hg⟩ : ∃ g : Nat, goe r e = (g : Int) := ⟨(goe r e).toNat, by omega⟩
        have gb : g ≤ 11000 := by
          obtain ⟨-, ⟨x1, x2⟩, -⟩ := hE
          obtain ⟨-, ⟨x3, x4⟩, ⟨x5, x6⟩, -⟩ := hWe
          unfold goe at hg
          omega
        have kc := hk q
        have kpos : 0 < ah.countP (fun e => decide ((t : Int) < goe r e)) := List.countP_pos_iff.mpr ⟨e, he, decide_eq_true hlt⟩
        obtain ⟨j', rfl⟩ : ∃ j', j = j' + 1 := ⟨j - 1, by omega⟩
        obtain ⟨w2, b1, b2⟩ := berth_eq hN (hT.r2 p2) hw (s := s) (by omega) (hD1 s hs).1 (hW s hs) (t := g) (by omega) (by omega)
        rw [show (shM r s).toNat + 960 = M + 960 by omega] at b1
        rw [hg, if_neg (by rw [iZ_eq (by omega) (by omega) (by omega) (by omega)]; omega), b1, Option.bind_some, iZ_s1]
        have lo := fB_lo (r := r) (s := s) (L := M + 960) (M + 960 - g)
        have hi := fB_le (r := r) (s := s) (L := M + 960) (M + 960 - g)
        have ok' := fB_ok (r := r) (s := s) (L := M + 960) (M + 960 - g)
        have no := fB_none (r := r) (s := s) (L := M + 960) (M + 960 - g)
        generalize fB r s (M + 960) (M + 960 - g) = t' at lo hi ok' no
        have sk : gos r ah s (M + 960 - t) = gos r ah s (M + 960 - t') := by
          have := gos_skip (r := r) ah hM (t' - t) t ht0 (fun u a1 a2 a3 => by
            rcases Nat.lt_or_ge u g with z | z
            · exact bl u a1 (by omega)
            · unfold okG
              rw [no u (by omega) (by omega)]
              rfl)
          rw [this, show t + (t' - t) = t' by omega]
        have g2 := p2.tr b2
        obtain ⟨w', r1, r2⟩ := place_loop hN hw hm hA la hW hs hM n j' (c + 1) t' w2 (by omega) (by omega) (by omega) (by omega) ok' (fun z => by
          have lt := cntP_lt (p := fun e => decide ((t' : Int) < goe r e)) (q := fun e => decide ((t : Int) < goe r e)) (l := ah) (fun x hx => decide_eq_true (by have := of_decide_eq_true hx; omega)) ⟨e, he, decide_eq_true hlt, decide_eq_false (by omega)⟩
          omega) (hT.r2 g2) (fun s hs => (hD s hs).r2 g2) (h7.r2 g2)
        rw [sk]
        exact ⟨w', r1, g2.tr r2⟩
    · rw [if_pos (by rw [iZ_le (by omega) (by omega) (by omega) (by omega)]; omega)]
      unfold fX0_place_109
      rw [if_pos i5, i6, show M + 960 - t = 0 by omega, gos]
      exact ⟨u, rfl, R2.rf⟩
theorem place_eq (hN : 20000 ≤ N) (hw : WFt r) (hm : m ≤ 6) {ah : List (Nat × Int × Int)} (hA : ∀ e, e ∈ ah → OKE r m e) (la : ah.length ≤ 6) (hW : ∀ s, s < m → WFs r s) {s : Nat} (hs : s < m) (hT : IsT w r) (hD : ∀ s, s < m → SD w r s) (h7 : AH7 w ah) (h38 : w.1 38 s = iZ (shM r s + al r s)) : ∃ w', fX0_place N w (iZ s) (iZ ah.length) = some (sI (sI w' 40 s (iZ (gos r ah s 960).1)) 41 s (iZ (gos r ah s 960).2)) ∧ R2 w w' := by
  have hWs := hW s hs
  obtain ⟨-, ⟨m0, m9⟩, -⟩ := hWs
  obtain ⟨M, hM⟩ : ∃ M : Nat, shM r s = (M : Int) := ⟨(shM r s).toNat, by omega⟩
  obtain ⟨-, i5, i6⟩ := ix_s s (by omega)
  have h0 := gos_fB (r := r) hM 960 (Nat.le_refl _)
  have e38 : w.1 38 s = iZ (fB r s (M + 960) 960 : Nat) := by
    rw [h38, hM]
    unfold al
    rw [h0]
  have lo := fB_lo (r := r) (s := s) (L := M + 960) 960
  have hi := fB_le (r := r) (s := s) (L := M + 960) 960
  have ok' := fB_ok (r := r) (s := s) (L := M + 960) 960
  have no := fB_none (r := r) (s := s) (L := M + 960) 960
  rw [show M + 960 - 960 = M by omega] at lo no
  unfold fX0_place fX0_place_0
  rw [if_pos i5, i6, e38, (hD s hs).2.1, hM, show (960 : Int32) = iZ 960 from rfl, iZ_add]
  generalize fB r s (M + 960) 960 = t at lo hi ok' no
  have sk := gos_skip (r := r) ah hM (t - M) M (Nat.le_refl _) (fun u a1 a2 a3 => by
    unfold okG
    rw [no u (by omega) (by omega)]
    rfl)
  rw [show M + 960 - M = 960 by omega, show M + (t - M) = t by omega] at sk
  rw [sk]
  exact place_loop hN hw hm hA la hW hs hM N ah.length 0 t w (by omega) (by omega) lo hi ok' (fun _ => List.countP_le_length) hT hD h7
end PLACE7
