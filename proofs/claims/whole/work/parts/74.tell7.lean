/-! what a text that is read leaves behind is well formed; the class's reading of the whole text -/
def IB (it : It) : Prop := it.1 = 0 ∨ it.1 = 1 ∨ (it.1 = 2 ∧ (-1 ≤ it.2.2.1 ∧ it.2.2.1 ≤ 400) ∧ (-1 ≤ it.2.2.2.1 ∧ it.2.2.2.1 ≤ 7)) ∨ (it.1 = 3 ∧ 0 ≤ it.2.1 ∧ it.2.1 ≤ 2) ∨ it.1 = 4
def GD {α : Type} (B : Nat → Int) (U q : Nat) (x : Nat ⊕ (α × Nat)) (P : α → Prop) : Prop := match x with
  | .inl qf => TQ B U qf
  | .inr (a, q1) => TQ B U q1 ∧ q ≤ q1 ∧ P a
def aps (its : List It) (r : Nat → Int32) : Nat → Int32 := its.foldl (fun r it => ap it r) r
def pTell (B : Nat → Int) (U : Nat) (r0 : Nat → Int32) : Nat → List It → Nat → Nat ⊕ List It
  | 0, _, q => .inl q
  | n + 1, its, q => match pItem B U (aps its r0) q with
    | .inl qf => .inl qf
    | .inr (it, q1) => if ty B U q1 = 0 then .inr (its ++ [it]) else if ty B U q1 = 3 then pTell B U r0 n (its ++ [it]) (nxt B U q1) else .inl q1
section TELL7
variable {B : Nat → Int} {U N : Nat} {w : xW} {r : Nat → Int32}
theorem GD.pb {α β : Type} {q : Nat} {x : Nat ⊕ (α × Nat)} {P : α → Prop} {P' : β → Prop} {f : α → Nat → Nat ⊕ (β × Nat)} (h : GD B U q x P) (g : ∀ a q1, P a → TQ B U q1 → q ≤ q1 → GD B U q1 (f a q1) P') : GD B U q (pb x f) P' := by
  cases x with
  | inl qf => exact h
  | inr z =>
    obtain ⟨a, q1⟩ := z
    obtain ⟨h1, h2, h3⟩ := h
    have k := g a q1 h3 h1 h2
    show GD B U q (f a q1) P'
    cases hx : f a q1 with
    | inl qf =>
      rw [hx] at k
      exact k
    | inr z =>
      obtain ⟨b, q2⟩ := z
      rw [hx] at k
      exact ⟨k.1, Nat.le_trans h2 k.2.1, k.2.2⟩
theorem nm_gd {lo hi : Int} {q : Nat} (hq : TQ B U q) : GD B U q (nm B U lo hi q) (fun v => lo ≤ v ∧ v ≤ hi) := by
  cases e : nm B U lo hi q with
  | inl qf =>
    rw [(nm_no e).2]
    exact hq
  | inr z =>
    obtain ⟨v, q1⟩ := z
    obtain ⟨-, -, rfl, h1, h2, -⟩ := nm_yes e
    exact ⟨(nxt_spec hq).1, (nxt_spec hq).2.1, h1, h2⟩
theorem wd_gd {j q : Nat} (hq : TQ B U q) : GD B U q (wd B U j q) (fun _ => True) := by
  cases e : wd B U j q with
  | inl qf =>
    rw [(wd_no e).2]
    exact hq
  | inr z =>
    obtain ⟨v, q1⟩ := z
    obtain ⟨-, rfl⟩ := wd_yes e
    exact ⟨(nxt_spec hq).1, (nxt_spec hq).2.1, trivial⟩
theorem opn_gd {j : Nat} {lo hi : Int} {q : Nat} (hq : TQ B U q) : GD B U q (opn B U j lo hi q) (fun v => v = -1 ∨ (lo ≤ v ∧ v ≤ hi)) := by
  unfold opn
  cases hw : isW B U j q with
  | false =>
    rw [if_neg (by decide)]
    exact ⟨hq, Nat.le_refl _, Or.inl rfl⟩
  | true =>
    rw [if_pos rfl]
    have h2 := nxt_spec hq
    have g := nm_gd (lo := lo) (hi := hi) h2.1
    cases e : nm B U lo hi (nxt B U q) with
    | inl qf =>
      rw [e] at g
      exact g
    | inr z =>
      rw [e] at g
      exact ⟨g.1, Nat.le_trans h2.2.1 g.2.1, Or.inr g.2.2⟩
theorem pSet_gd : ∀ (n : Nat) (lo : Int) (bits q : Nat), 0 ≤ lo → bits < 2 ^ 30 → TQ B U q → GD B U q (pSet B U n lo bits q) (fun b => 0 ≤ b ∧ b < 1073741824)
  | 0, _, _, q, _, _, hq => hq
  | n + 1, lo, bits, q, l0, hb, hq => by
    rw [pSet]
    by_cases a : nmB B U lo 29 q = true
    · have e1 : nm B U lo 29 q = .inr (vl B U q, nxt B U q) := by unfold nm; rw [if_pos a]
      obtain ⟨-, -, -, d1, d2, -⟩ := nm_yes e1
      obtain ⟨-, sb2⟩ := set_bit hb (v := vl B U q) (by omega) d2
      have h2 := nxt_spec hq
      rw [if_pos a]
      by_cases y : ty B U (nxt B U q) = 2
      · rw [if_pos y]
        have ih := pSet_gd n (vl B U q + 1) (bits ||| 2 ^ (vl B U q).toNat) (nxt B U q) (by omega) sb2 h2.1
        cases e : pSet B U n (vl B U q + 1) (bits ||| 2 ^ (vl B U q).toNat) (nxt B U q) with
        | inl qf =>
          rw [e] at ih
          exact ih
        | inr z =>
          rw [e] at ih
          exact ⟨ih.1, Nat.le_trans h2.2.1 ih.2.1, ih.2.2⟩
      · rw [if_neg y]
        exact ⟨h2.1, h2.2.1, by omega, by
          have : bits ||| 2 ^ (vl B U q).toNat < 1073741824 := sb2
          omega⟩
    · rw [if_neg a]
      exact hq
theorem up_WFr (h : WFr r) {j : Nat} {v : Int32} (hj : j < 9) (hb : bnd j v) : WFr (up r j v) := by
  refine h.set (fun k hk => up_ne (by omega)) (fun k hk => ?_)
  unfold up
  by_cases z : k = j
  · rw [if_pos z, z]
    exact hb
  · rw [if_neg z]
    exact h.b k hk
theorem aO_WFr (h : WFr r) {j : Nat} {p lo hi : Int} (hj : j < 9) (hp : p = -1 ∨ (lo ≤ p ∧ p ≤ hi)) (hb : ∀ v, lo ≤ v → v ≤ hi → bnd j (iZ v)) : WFr (aO r j p) := by
  unfold aO
  by_cases z : p < 0
  · rw [if_pos z]
    exact h
  · rw [if_neg z]
    exact up_WFr h hj (hb p (by omega) (by omega))
theorem aH_WFr (h : WFr r) (h8 : (r 9).toInt < 8) {k f : Int} (hk : 0 ≤ k ∧ k ≤ 5) (hf : 0 ≤ f ∧ f ≤ 3) : WFr (aH r (iZ k) (iZ f)) := by
  have b9 := h.2.2.2.1
  obtain ⟨n, hn, n8⟩ : ∃ n : Nat, r 9 = iZ (n : Nat) ∧ n < 8 := ⟨(r 9).toInt.toNat, by rw [Int.toNat_of_nonneg b9.1, iZ_self], by omega⟩
  have hnn : (r 9).toInt.toNat = n := by rw [hn, iZ_toInt (by omega) (by omega)]; omega
  unfold aH
  rw [hnn, hn, iZ_s1]
  refine h.hs (fun j hj => by rw [up_ne (by omega), up_ne (by omega), up_ne (by omega)]) ?_ (fun c hc => ?_)
  · rw [up_eq, iZ_toInt (by omega) (by omega)]
    omega
  · rw [up_eq, iZ_toInt (by omega) (by omega)] at hc
    by_cases z : c = n
    · subst z
      rw [up_ne (by omega), up_ne (by omega), up_eq, up_ne (by omega), up_eq, iZ_toInt (by omega) (by omega), iZ_toInt (by omega) (by omega)]
      exact ⟨hk, hf⟩
    · rw [up_ne (by omega), up_ne (by omega), up_ne (by omega), up_ne (by omega), up_ne (by omega), up_ne (by omega)]
      exact h.2.2.2.2.2.1 c (by rw [hn, iZ_toInt (by omega) (by omega)]; omega)
theorem aS_WFr (h : WFr r) (h6 : (r 10).toInt < 6) {c m s v : Int} (hc : 0 ≤ c ∧ c ≤ 3) (hm : 0 ≤ m ∧ m ≤ 9999) (hs : 1 ≤ s ∧ s ≤ 40) (hv : -1 ≤ v ∧ v ≤ 3) : WFr (aS r (iZ c) (iZ m) (iZ s) (iZ v)) := by
  have b10 := h.2.2.2.2.1
  obtain ⟨n, hn, n6⟩ : ∃ n : Nat, r 10 = iZ (n : Nat) ∧ n < 6 := ⟨(r 10).toInt.toNat, by rw [Int.toNat_of_nonneg b10.1, iZ_self], by omega⟩
  have hnn : (r 10).toInt.toNat = n := by rw [hn, iZ_toInt (by omega) (by omega)]; omega
  unfold aS
  rw [hnn, hn, iZ_s1]
  refine h.sh (fun j hj1 hj2 => by rw [up_ne (by omega), up_ne (by omega), up_ne (by omega), up_ne (by omega), up_ne (by omega)]) ?_ (fun k hk => ?_)
  · rw [up_eq, iZ_toInt (by omega) (by omega)]
    omega
  · rw [up_eq, iZ_toInt (by omega) (by omega)] at hk
    unfold shC shM shS shQ
    by_cases z : k = n
    · subst z
      refine ⟨?_, ?_, ?_, ?_⟩
      · rw [up_ne (by omega), up_ne (by omega), up_ne (by omega), up_ne (by omega), up_eq, iZ_toInt (by omega) (by omega)]
        exact hc
      · rw [up_ne (by omega), up_ne (by omega), up_ne (by omega), up_eq, iZ_toInt (by omega) (by omega)]
        exact hm
      · rw [up_ne (by omega), up_ne (by omega), up_eq, iZ_toInt (by omega) (by omega)]
        exact hs
      · rw [up_ne (by omega), up_eq, iZ_toInt (by omega) (by omega)]
        exact hv
    · have g := h.2.2.2.2.2.2 k (by rw [hn, iZ_toInt (by omega) (by omega)]; omega)
      unfold shC shM shS shQ at g
      refine ⟨?_, ?_, ?_, ?_⟩
      · rw [up_ne (by omega), up_ne (by omega), up_ne (by omega), up_ne (by omega), up_ne (by omega)]
        exact g.1
      · rw [up_ne (by omega), up_ne (by omega), up_ne (by omega), up_ne (by omega), up_ne (by omega)]
        exact g.2.1
      · rw [up_ne (by omega), up_ne (by omega), up_ne (by omega), up_ne (by omega), up_ne (by omega)]
        exact g.2.2.1
      · rw [up_ne (by omega), up_ne (by omega), up_ne (by omega), up_ne (by omega), up_ne (by omega)]
        exact g.2.2.2
theorem bnd_all : (∀ v : Int, 0 ≤ v → v ≤ 400 → bnd 0 (iZ v)) ∧ (∀ v : Int, 16 ≤ v → v ≤ 400 → bnd 1 (iZ v)) ∧ (∀ v : Int, 1 ≤ v → v ≤ 7 → bnd 2 (iZ v)) ∧ (∀ v : Int, ∀ j : Nat, 4 ≤ j → j ≤ 6 → 0 ≤ v → v < 1073741824 → bnd j (iZ v)) ∧ (∀ v : Int, 0 ≤ v → v ≤ 3 → bnd 7 (iZ v)) ∧ (∀ v : Int, 0 ≤ v → v ≤ 9 → bnd 8 (iZ v)) := by
  refine ⟨fun v h1 h2 => ?_, fun v h1 h2 => ?_, fun v h1 h2 => ?_, fun v j h1 h2 h3 h4 => ?_, fun v h1 h2 => ?_, fun v h1 h2 => ?_⟩
  · show 0 ≤ (iZ v).toInt ∧ (iZ v).toInt ≤ 400
    rw [iZ_toInt (by omega) (by omega)]
    omega
  · show 16 ≤ (iZ v).toInt ∧ (iZ v).toInt ≤ 400
    rw [iZ_toInt (by omega) (by omega)]
    omega
  · show 1 ≤ (iZ v).toInt ∧ (iZ v).toInt ≤ 7
    rw [iZ_toInt (by omega) (by omega)]
    omega
  · have e : 0 ≤ (iZ v).toInt ∧ (iZ v).toInt < 1073741824 := by
      rw [iZ_toInt (by omega) (by omega)]
      omega
    rcases (show j = 4 ∨ j = 5 ∨ j = 6 by omega) with rfl | rfl | rfl
    · exact e
    · exact e
    · exact e
  · show 0 ≤ (iZ v).toInt ∧ (iZ v).toInt ≤ 3
    rw [iZ_toInt (by omega) (by omega)]
    omega
  · show 0 ≤ (iZ v).toInt ∧ (iZ v).toInt ≤ 9
    rw [iZ_toInt (by omega) (by omega)]
    omega
theorem pItem_gd {q : Nat} (hq : TQ B U q) (hW : WFr r) : match pItem B U r q with | .inl qf => TQ B U qf | .inr (it, q1) => TQ B U q1 ∧ q < q1 ∧ WFr (ap it r) ∧ IB it := by
  have nx := nxt_spec hq
  have fin : ∀ res : Nat ⊕ (It × Nat), wj B U q < 17 → GD B U (nxt B U q) res (fun it => WFr (ap it r) ∧ IB it) → match res with | .inl qf => TQ B U qf | .inr (it, q1) => TQ B U q1 ∧ q < q1 ∧ WFr (ap it r) ∧ IB it := by
    intro res hj g
    have lt := nx.2.2 (by rw [wj_ty hj]; decide)
    cases res with
    | inl qf => exact g
    | inr z => exact ⟨g.1, Nat.lt_of_lt_of_le lt g.2.1, g.2.2⟩
  obtain ⟨bd0, bd1, bd2, bd4, bd7, bd8⟩ := bnd_all
  unfold pItem
  by_cases c1 : wj B U q < 6
  · rw [if_pos c1]
    by_cases a : (r 9).toInt < 8
    · rw [if_pos a]
      refine fin _ (by omega) (GD.pb (nm_gd nx.1) (fun f q1 hf hq1 hle => ⟨hq1, Nat.le_refl _, ?_, Or.inl rfl⟩))
      exact aH_WFr (k := (wj B U q : Int)) (f := f) hW a (by omega) hf
    · rw [if_neg a]
      exact hq
  · rw [if_neg c1]
    by_cases c2 : wj B U q < 9
    · rw [if_pos c2]
      refine fin _ (by omega) (GD.pb (pSet_gd 31 0 0 (nxt B U q) (by omega) (by decide) nx.1) (fun b q1 hb hq1 hle => ⟨hq1, Nat.le_refl _, ?_, Or.inr (Or.inr (Or.inr (Or.inl ⟨rfl, ?_, ?_⟩)))⟩))
      · exact up_WFr hW (by show 4 + ((wj B U q : Int) - 6).toNat < 9; omega) (bd4 b _ (by omega) (by show 4 + ((wj B U q : Int) - 6).toNat ≤ 6; omega) hb.1 hb.2)
      · show 0 ≤ (wj B U q : Int) - 6
        omega
      · show (wj B U q : Int) - 6 ≤ 2
        omega
    · rw [if_neg c2]
      by_cases c3 : wj B U q = 9
      · rw [if_pos c3]
        by_cases a : (r 10).toInt < 6
        · rw [if_pos a]
          refine fin _ (by omega) (GD.pb (nm_gd nx.1) (fun c q1 hc hq1 hle => GD.pb (wd_gd hq1) (fun _ q2 _ hq2 _ => GD.pb (nm_gd hq2) (fun m q3 hm hq3 _ => GD.pb (wd_gd hq3) (fun _ q4 _ hq4 _ => GD.pb (nm_gd hq4) (fun s q5 hs hq5 _ => GD.pb (opn_gd hq5) (fun v q6 hv hq6 _ => ⟨hq6, Nat.le_refl _, ?_, Or.inr (Or.inl rfl)⟩)))))))
          exact aS_WFr (c := c) (m := m) (s := s) (v := v) hW a hc hm hs (by omega)
        · rw [if_neg a]
          exact hq
      · rw [if_neg c3]
        by_cases c4 : wj B U q = 13
        · rw [if_pos c4]
          refine fin _ (by omega) (GD.pb (nm_gd nx.1) (fun f q1 hf hq1 hle => GD.pb (opn_gd hq1) (fun p q2 hp hq2 _ => GD.pb (opn_gd hq2) (fun l q3 hl hq3 _ => ⟨hq3, Nat.le_refl _, ?_, Or.inr (Or.inr (Or.inl ⟨rfl, ?_, ?_⟩))⟩))))
          · exact aO_WFr (aO_WFr (up_WFr hW (by omega) (bd0 f hf.1 hf.2)) (by omega) hp bd1) (by omega) hl bd2
          · show -1 ≤ p ∧ p ≤ 400
            omega
          · show -1 ≤ l ∧ l ≤ 7
            omega
        · rw [if_neg c4]
          by_cases c5 : wj B U q = 16
          · rw [if_pos c5]
            refine fin _ (by omega) (GD.pb (nm_gd nx.1) (fun s q1 hs hq1 hle => GD.pb (nm_gd hq1) (fun f q2 hf hq2 _ => ⟨hq2, Nat.le_refl _, ?_, Or.inr (Or.inr (Or.inr (Or.inr rfl)))⟩)))
            exact up_WFr (up_WFr hW (by omega) (bd7 s hs.1 hs.2)) (by omega) (bd8 f hf.1 hf.2)
          · rw [if_neg c5]
            exact hq
theorem kind7_loop (hN : 20000 ≤ N) {q : Nat} (hq : TQ B U q) (hT : TapC B U w) (h : TC B U q w) : ∀ (j m k : Nat), j < m → k + j = 6 → (∀ c, c < k → wj B U q ≠ c) → fX5_namedKind_2 N w m (iZ (k : Nat)) = some (if wj B U q < 6 then iZ (wj B U q : Nat) else iZ (-1))
  | _, 0, _, hm, _, _ => absurd hm (by omega)
  | 0, m + 1, k, _, hk, hc => by
    obtain rfl : k = 6 := by omega
    rw [fX5_namedKind_2]
    unfold fX5_namedKind_2b
    rw [if_pos (by decide), if_neg (fun z => hc _ z rfl)]
    rfl
  | j + 1, m + 1, k, hm, hk, hc => by
    rw [fX5_namedKind_2]
    unfold fX5_namedKind_2b
    have nk : ∀ k : Nat, k < 6 → fX5_nameOf (iZ (k : Nat)) = k := by decide +kernel
    rw [if_neg (by rw [show (6 : Int32) = iZ 6 from rfl, iZ_le (by omega) (by omega) (by omega) (by omega)]; omega), nk k (by omega), isWord7 hN (by omega) hq hT h, Option.bind_some, isW_eq q (by omega)]
    by_cases z : wj B U q = k
    · rw [decide_eq_true z, if_neg bT, z, if_pos (by omega)]
    · rw [decide_eq_false z, if_pos bF, iZ_s1]
      exact kind7_loop hN hq hT h j m (k + 1) (by omega) (by omega) (fun c hc' => by
        rcases Nat.lt_or_ge c k with y | y
        · exact hc c y
        · rw [show c = k by omega]
          exact z)
theorem Out7.wrap {x : Option (xW × Int32)} {res : Nat ⊕ (It × Nat)} (h : Out7 B U r w x res) : Out7 B U r w (x.bind fun z => if xB z.2 = true then some (z.1, z.2) else none) res := by
  cases res with
  | inl q =>
    obtain ⟨w', h1, h2, h3⟩ := h
    rw [h1]
    exact ⟨w', rfl, h2, h3⟩
  | inr z =>
    obtain ⟨w', h1, h2, h3⟩ := h
    rw [h1]
    exact ⟨w', rfl, h2, h3⟩
theorem item7 (hN : 20000 ≤ N) {q : Nat} (hq : TQ B U q) (hT : TapC B U w) (h : TC B U q w) (hI : IsR w 11 r) (hW : WFr r) : Out7 B U r w (fX5_item N w) (pItem B U r q) := by
  have le := wj_le (B := B) (U := U) q
  have nk : fX5_namedKind N w = some (if wj B U q < 6 then iZ (wj B U q : Nat) else iZ (-1)) := kind7_loop hN hq hT h 6 N 0 (by omega) (by omega) (fun c hc => absurd hc (by omega))
  unfold fX5_item fX5_item_0 pItem
  rw [nk, Option.bind_some]
  by_cases c1 : wj B U q < 6
  · simp only [if_pos c1]
    rw [if_neg (k_neg (by omega))]
    exact (house7i hN hq hT h hI hW).wrap
  · simp only [if_neg c1]
    rw [if_pos (show iZ (-1) < 0 by decide), isWord7 hN (by omega) hq hT h, Option.bind_some, isW_eq q (by omega)]
    by_cases c3 : wj B U q = 9
    · rw [decide_eq_true c3, if_neg bT, if_neg (by omega), if_pos c3]
      exact (ship7i hN hq hT h hI hW).wrap
    · rw [decide_eq_false c3, if_pos bF]
      have no : ∀ (j : Nat) (v : xW), j < 17 → wj B U q ≠ j → Ru w v → TC B U q v → ∃ w', fX5_word N v j = some (w', 0) ∧ Ru w w' ∧ TC B U q w' := by
        intro j v hj hne g t
        obtain ⟨w', a1, a2, a3⟩ := wrd7n hN hj hq (hT.ru g) t (by rw [isW_eq q hj, decide_eq_false hne])
        exact ⟨w', a1, g.tr a2, a3⟩
      have yes : ∀ (j : Nat) (v : xW), j < 17 → wj B U q = j → Ru w v → TC B U q v → ∃ w', fX5_word N v j = some (w', 1) ∧ Ru w w' ∧ TC B U (nxt B U q) w' ∧ TQ B U (nxt B U q) := by
        intro j v hj hne g t
        obtain ⟨w', a1, a2, a3, a4⟩ := wrd7y hN hj hq (hT.ru g) t (by rw [isW_eq q hj, decide_eq_true hne])
        exact ⟨w', a1, g.tr a2, a3, a4⟩
      by_cases d1 : wj B U q = 13
      · obtain ⟨w1, a1, a2, a3, a4⟩ := yes 13 w (by omega) d1 Ru.rf h
        rw [a1, Option.bind_some, if_neg n10, if_neg (by omega), if_neg c3, if_pos d1]
        exact (flood7 hN a4 (hT.ru a2) a3 (hI.ru a2)).wrap.pre a2.d
      · obtain ⟨w1, a1, a2, a3⟩ := no 13 w (by omega) d1 Ru.rf h
        rw [a1, Option.bind_some, if_pos rfl]
        by_cases d2 : wj B U q = 6
        · obtain ⟨w2, b1, b2, b3, b4⟩ := yes 6 w1 (by omega) d2 a2 a3
          rw [b1, Option.bind_some, if_neg n10, if_pos (by omega), d2]
          exact (set7 hN (s := 0) (by omega) b4 (hT.ru b2) b3 (hI.ru b2)).wrap.pre b2.d
        · obtain ⟨w2, b1, b2, b3⟩ := no 6 w1 (by omega) d2 a2 a3
          rw [b1, Option.bind_some, if_pos rfl]
          by_cases d3 : wj B U q = 7
          · obtain ⟨w3, e1, e2, e3, e4⟩ := yes 7 w2 (by omega) d3 b2 b3
            rw [e1, Option.bind_some, if_neg n10, if_pos (by omega), d3]
            exact (set7 hN (s := 1) (by omega) e4 (hT.ru e2) e3 (hI.ru e2)).wrap.pre e2.d
          · obtain ⟨w3, e1, e2, e3⟩ := no 7 w2 (by omega) d3 b2 b3
            rw [e1, Option.bind_some, if_pos rfl]
            by_cases d4 : wj B U q = 8
            · obtain ⟨w4, f1, f2, f3, f4⟩ := yes 8 w3 (by omega) d4 e2 e3
              rw [f1, Option.bind_some, if_neg n10, if_pos (by omega), d4]
              exact (set7 hN (s := 2) (by omega) f4 (hT.ru f2) f3 (hI.ru f2)).wrap.pre f2.d
            · obtain ⟨w4, f1, f2, f3⟩ := no 8 w3 (by omega) d4 e2 e3
              rw [f1, Option.bind_some, if_pos rfl]
              by_cases d5 : wj B U q = 16
              · obtain ⟨w5, g1, g2, g3, g4⟩ := yes 16 w4 (by omega) d5 f2 f3
                rw [g1, Option.bind_some, if_neg n10, if_neg (by omega), if_neg c3, if_neg d1, if_pos d5]
                have o := (wind7 hN g4 (hT.ru g2) g3 (hI.ru g2)).pre g2.d
                cases hp : pWind B U (nxt B U q) with
                | inl qf =>
                  rw [hp] at o
                  obtain ⟨w', h1, h2, h3⟩ := o
                  rw [h1]
                  exact ⟨w', rfl, h2, h3⟩
                | inr z =>
                  rw [hp] at o
                  obtain ⟨w', h1, h2, h3⟩ := o
                  rw [h1]
                  exact ⟨w', rfl, h2, h3⟩
              · obtain ⟨w5, g1, g2, g3⟩ := no 16 w4 (by omega) d5 f2 f3
                rw [g1, Option.bind_some, if_pos rfl, if_neg (by omega), if_neg c3, if_neg d1, if_neg d5]
                exact ⟨w5, rfl, g2.d, g3.2.1⟩
theorem aps_add (its : List It) (it : It) : aps (its ++ [it]) r = ap it (aps its r) := by
  unfold aps
  rw [List.foldl_append]
  rfl
theorem tell7_loop (hN : 20000 ≤ N) {r0 : Nat → Int32} : ∀ (n m : Nat) (its : List It) (q : Nat) (u : xW), U - q < n → n ≤ m → 2 * its.length ≤ q → TQ B U q → TapC B U u → TC B U q u → IsR u 11 (aps its r0) → WFr (aps its r0) → match pTell B U r0 n its q with | .inl qf => ∃ w', fX5_tell_9 N m u (iZ ((its.length + 1 : Nat) : Int)) = some (w', iZ (-1 - (qf : Int))) ∧ Rd u w' ∧ qf ≤ U | .inr its' => ∃ w', fX5_tell_9 N m u (iZ ((its.length + 1 : Nat) : Int)) = some (w', iZ (its'.length : Nat)) ∧ Rd u w' ∧ IsR w' 11 (aps its' r0) ∧ WFr (aps its' r0) ∧ its'.length ≤ 61
  | 0, _, _, _, _, hn, _, _, _, _, _, _, _ => absurd hn (by omega)
  | n + 1, 0, _, _, _, _, hm, _, _, _, _, _, _ => absurd hm (by omega)
  | n + 1, m + 1, its, q, u, hn, hm, hl, hq, hT, h, hI, hW => by
    have hU := hT.2.1
    have hqU := hq.1
    rw [fX5_tell_9, pTell]
    unfold fX5_tell_9b fX5_tell_65
    have m1 : ∀ k : Nat, (-1 : Int32) - iZ (k : Nat) = iZ (-1 - (k : Int)) := fun k => by rw [show (-1 : Int32) = iZ (-1) from rfl, iZ_sub]
    rw [if_neg (by rw [show (120 : Int32) = iZ 120 from rfl, iZ_lt (by omega) (by omega) (by omega) (by omega)]; omega)]
    have o := item7 hN hq hT h hI hW
    have gd := pItem_gd hq hW
    cases hp : pItem B U (aps its r0) q with
    | inl qf =>
      rw [hp] at o gd
      obtain ⟨w', h1, h2, h3⟩ := o
      rw [h1, Option.bind_some, if_pos rfl]
      refine ⟨w', ?_, h2, gd.1⟩
      show some (w', -1 - w'.1 42 3) = _
      rw [h3, m1]
    | inr z =>
      obtain ⟨it, q1⟩ := z
      rw [hp] at o gd
      obtain ⟨w', h1, h2, h3, h4⟩ := o
      obtain ⟨g1, g2, g3, g4⟩ := gd
      have tr := ty_rng (B := B) (U := U) q1
      have g1U := g1.1
      rw [h1, Option.bind_some, if_neg n10]
      show match (if ty B U q1 = 0 then .inr (its ++ [it]) else if ty B U q1 = 3 then pTell B U r0 n (its ++ [it]) (nxt B U q1) else .inl q1 : Nat ⊕ List It) with | .inl qf => ∃ w2, (if w'.1 42 2 = 0 then some (w', iZ ((its.length + 1 : Nat) : Int)) else if w'.1 42 2 = 3 then (fX4_step N w').bind fun z5 => fX5_tell_9 N m z5 (iZ ((its.length + 1 : Nat) : Int) + 1) else some (w', -1 - w'.1 42 3)) = some (w2, iZ (-1 - (qf : Int))) ∧ Rd u w2 ∧ qf ≤ U | .inr its' => ∃ w2, (if w'.1 42 2 = 0 then some (w', iZ ((its.length + 1 : Nat) : Int)) else if w'.1 42 2 = 3 then (fX4_step N w').bind fun z5 => fX5_tell_9 N m z5 (iZ ((its.length + 1 : Nat) : Int) + 1) else some (w', -1 - w'.1 42 3)) = some (w2, iZ (its'.length : Nat)) ∧ Rd u w2 ∧ IsR w2 11 (aps its' r0) ∧ WFr (aps its' r0) ∧ its'.length ≤ 61
      rw [h3.1]
      have el : (its ++ [it]).length = its.length + 1 := by rw [List.length_append]; rfl
      by_cases y : ty B U q1 = 0
      · rw [if_pos y, if_pos (by rw [y]; rfl)]
        refine ⟨w', ?_, h2, ?_, ?_, by rw [el]; omega⟩
        · rw [el]
        · rw [aps_add]
          exact h4
        · rw [aps_add]
          exact g3
      · rw [if_neg y, if_neg (show ¬ iZ (ty B U q1 : Nat) = 0 by rw [show (0 : Int32) = iZ 0 from rfl, iZ_eq (by omega) (by omega) (by omega) (by omega)]; omega)]
        by_cases x : ty B U q1 = 3
        · rw [if_pos x, if_pos (show iZ (ty B U q1 : Nat) = 3 by rw [x]; rfl)]
          obtain ⟨w2, s1, s2, s3⟩ := next7 hN g1 (hT.rd h2) h3
          have nx := nxt_spec g1
          have lt := nx.2.2 y
          rw [s1, Option.bind_some, iZ_s1]
          have ih := tell7_loop hN (r0 := r0) n m (its ++ [it]) (nxt B U q1) w2 (by omega) (by omega) (by rw [el]; omega) nx.1 ((hT.rd h2).rt s2) s3 (by rw [aps_add]; exact h4.ru s2.u) (by rw [aps_add]; exact g3)
          rw [el] at ih
          cases hx : pTell B U r0 n (its ++ [it]) (nxt B U q1) with
          | inl qf =>
            rw [hx] at ih
            obtain ⟨w3, i1, i2, i3⟩ := ih
            exact ⟨w3, i1, (h2.tr s2.u.d).tr i2, i3⟩
          | inr its' =>
            rw [hx] at ih
            obtain ⟨w3, i1, i2, i3, i4, i5⟩ := ih
            exact ⟨w3, i1, (h2.tr s2.u.d).tr i2, i3, i4, i5⟩
        · rw [if_neg x, if_neg (show ¬ iZ (ty B U q1 : Nat) = 3 by rw [show (3 : Int32) = iZ 3 from rfl, iZ_eq (by omega) (by omega) (by omega) (by omega)]; omega)]
          refine ⟨w', ?_, h2, g1U⟩
          rw [h3.2.1, m1]
end TELL7
