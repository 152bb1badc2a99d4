/-! where the class puts a ship: from berth to berth, none is passed over -/
def okG (r : Nat → Int32) (ah : List (Nat × Int × Int)) (s t : Nat) : Bool := okAt r s (t : Int) && !(takn r ah s (fro r s (t : Int)) (t : Int))
def goe (r : Nat → Int32) (e : Nat × Int × Int) : Int := shM r e.1 + e.2.1 + shS r e.1
def cfl (r : Nat → Int32) (s : Nat) (f t : Int) (o : Nat × Int × Int) : Bool := decide (o.2.2 = f) && (decide (shM r o.1 + o.2.1 < t + shS r s) && decide (t < shM r o.1 + o.2.1 + shS r o.1))
def frF (r : Nat → Int32) (s : Nat) (f t : Int) : List (Nat × Int × Int) → Int → Int
  | [], g => g
  | e :: l, g => frF r s f t l (if cfl r s f t e = true then (if g < goe r e then goe r e else g) else g)
def OKE (r : Nat → Int32) (m : Nat) (e : Nat × Int × Int) : Prop := e.1 < m ∧ (0 ≤ e.2.1 ∧ e.2.1 ≤ 960) ∧ (e.2.2 = -1 ∨ (okAt r e.1 (shM r e.1 + e.2.1) = true ∧ e.2.2 = fro r e.1 (shM r e.1 + e.2.1)))
def AH7 (w : xW) (ah : List (Nat × Int × Int)) : Prop := ∀ (i : Nat) (e : Nat × Int × Int), ah[i]? = some e → w.1 39 i = iZ (e.1 : Nat) ∧ w.1 40 e.1 = iZ e.2.1 ∧ w.1 41 e.1 = iZ e.2.2
theorem cntP_lt {α : Type} {p q : α → Bool} (h : ∀ x, p x = true → q x = true) : ∀ {l : List α}, (∃ x, x ∈ l ∧ q x = true ∧ p x = false) → l.countP p < l.countP q
  | [], hx => by
    obtain ⟨x, hx, -⟩ := hx
    cases hx
  | y :: l, hx => by
    obtain ⟨x, hx, h1, h2⟩ := hx
    have mono : l.countP p ≤ l.countP q := List.countP_mono_left (fun x _ => h x)
    rw [List.countP_cons, List.countP_cons]
    rcases List.mem_cons.mp hx with e | hx'
    · rw [← e, h1, h2, if_pos rfl, if_neg (by decide)]
      omega
    · have ih := cntP_lt h ⟨x, hx', h1, h2⟩
      by_cases z : p y = true
      · rw [if_pos z, if_pos (h y z)]
        omega
      · rw [if_neg z]
        omega
section PLACE
variable {r : Nat → Int32} {w : xW} {N m : Nat}
theorem frF_all {s : Nat} {f t : Int} : ∀ (l : List (Nat × Int × Int)) (g : Int), (frF r s f t l g = g ∨ ∃ e, e ∈ l ∧ cfl r s f t e = true ∧ frF r s f t l g = goe r e) ∧ g ≤ frF r s f t l g ∧ (∀ e, e ∈ l → cfl r s f t e = true → goe r e ≤ frF r s f t l g)
  | [], g => ⟨Or.inl rfl, Int.le_refl _, fun e he => by cases he⟩
  | y :: l, g => by
    rw [frF]
    by_cases c : cfl r s f t y = true
    · rw [if_pos c]
      by_cases d : g < goe r y
      · rw [if_pos d]
        obtain ⟨h1, h2, h3⟩ := frF_all (s := s) (f := f) (t := t) l (goe r y)
        refine ⟨Or.inr ?_, by omega, fun e he hc => ?_⟩
        · rcases h1 with h1 | ⟨e, he, hc, h1⟩
          · exact ⟨y, List.mem_cons_self, c, h1⟩
          · exact ⟨e, List.mem_cons_of_mem _ he, hc, h1⟩
        · rcases List.mem_cons.mp he with q | q
          · rw [q]
            exact h2
          · exact h3 e q hc
      · rw [if_neg d]
        obtain ⟨h1, h2, h3⟩ := frF_all (s := s) (f := f) (t := t) l g
        refine ⟨?_, h2, fun e he hc => ?_⟩
        · rcases h1 with h1 | ⟨e, he, hc, h1⟩
          · exact Or.inl h1
          · exact Or.inr ⟨e, List.mem_cons_of_mem _ he, hc, h1⟩
        · rcases List.mem_cons.mp he with q | q
          · rw [q]
            omega
          · exact h3 e q hc
    · rw [if_neg c]
      obtain ⟨h1, h2, h3⟩ := frF_all (s := s) (f := f) (t := t) l g
      refine ⟨?_, h2, fun e he hc => ?_⟩
      · rcases h1 with h1 | ⟨e, he, hc, h1⟩
        · exact Or.inl h1
        · exact Or.inr ⟨e, List.mem_cons_of_mem _ he, hc, h1⟩
      · rcases List.mem_cons.mp he with q | q
        · rw [q] at hc
          exact absurd hc c
        · exact h3 e q hc
theorem frF_no {ah : List (Nat × Int × Int)} {s : Nat} {f t : Int} (h : takn r ah s f t = false) : frF r s f t ah t = t := by
  have h' : ah.any (cfl r s f t) = false := h
  rcases (frF_all (r := r) (s := s) (f := f) (t := t) ah t).1 with q | ⟨e, he, hc, -⟩
  · exact q
  · have := List.any_eq_false.mp h' e he
    exact absurd hc this
theorem frF_yes {ah : List (Nat × Int × Int)} {s : Nat} {f t : Int} (h : takn r ah s f t = true) : ∃ e, e ∈ ah ∧ cfl r s f t e = true ∧ frF r s f t ah t = goe r e ∧ t < goe r e := by
  have h' : ah.any (cfl r s f t) = true := h
  obtain ⟨e, he, hc⟩ := List.any_eq_true.mp h'
  obtain ⟨h1, h2, h3⟩ := frF_all (r := r) (s := s) (f := f) (t := t) ah t
  have g1 := h3 e he hc
  have g2 : t < goe r e := by
    have hc' := hc
    unfold cfl at hc'
    obtain ⟨-, q⟩ := Bool.and_eq_true_iff.mp hc'
    obtain ⟨-, q⟩ := Bool.and_eq_true_iff.mp q
    exact of_decide_eq_true q
  rcases h1 with q | ⟨e', he', hc', q⟩
  · omega
  · exact ⟨e', he', hc', q, by omega⟩
theorem gos_at (ah : List (Nat × Int × Int)) {s M t : Nat} (hM : shM r s = (M : Int)) (h1 : M ≤ t) (h2 : t < M + 960) : gos r ah s (M + 960 - t) = if okG r ah s t = true then ((t : Int) - M, fro r s t) else gos r ah s (M + 960 - (t + 1)) := by
  obtain ⟨j, hj⟩ : ∃ j, M + 960 - t = j + 1 := ⟨M + 960 - t - 1, by omega⟩
  have e : shM r s + (959 - (j : Int)) = (t : Int) := by omega
  have e2 : (959 : Int) - (j : Int) = (t : Int) - M := by omega
  rw [hj, gos, e, e2, show M + 960 - (t + 1) = j by omega]
  unfold okG
  cases okAt r s t <;> cases takn r ah s (fro r s t) t <;> simp
theorem gos_skip (ah : List (Nat × Int × Int)) {s M : Nat} (hM : shM r s = (M : Int)) : ∀ (d t : Nat), M ≤ t → (∀ u : Nat, t ≤ u → u < t + d → u < M + 960 → okG r ah s u = false) → gos r ah s (M + 960 - t) = gos r ah s (M + 960 - (t + d))
  | 0, _, _, _ => rfl
  | d + 1, t, h0, h => by
    rcases Nat.lt_or_ge t (M + 960) with q | q
    · rw [gos_at ah hM h0 q, h t (by omega) (by omega) q, if_neg (by decide), gos_skip ah hM d (t + 1) (by omega) (fun u a b c => h u (by omega) (by omega) c), show t + 1 + d = t + (d + 1) by omega]
    · rw [show M + 960 - t = 0 by omega, show M + 960 - (t + (d + 1)) = 0 by omega]
theorem fB_none {s L : Nat} : ∀ (j u : Nat), L - j ≤ u → u < fB r s L j → okAt r s (u : Int) = false
  | 0, u, h1, h2 => by
    rw [fB] at h2
    omega
  | j + 1, u, h1, h2 => by
    rw [fB] at h2
    by_cases a : okAt r s ((L - (j + 1) : Nat) : Int) = true
    · rw [if_pos a] at h2
      omega
    · rw [if_neg a] at h2
      rcases Nat.lt_or_ge u (L - j) with q | q
      · have : u = L - (j + 1) := by omega
        rw [this]
        exact Bool.not_eq_true _ ▸ (by simpa using a)
      · exact fB_none j u q h2
theorem fB_lo {s L : Nat} : ∀ j, L - j ≤ fB r s L j
  | 0 => by rw [fB]; omega
  | j + 1 => by
    have := fB_lo (s := s) (L := L) j
    rw [fB]
    split
    · omega
    · omega
theorem fB_ok {s L : Nat} : ∀ j, fB r s L j < L → okAt r s ((fB r s L j : Nat) : Int) = true
  | 0, h => by
    rw [fB] at h
    omega
  | j + 1, h => by
    rw [fB] at h ⊢
    by_cases a : okAt r s ((L - (j + 1) : Nat) : Int) = true
    · rw [if_pos a]
      exact a
    · rw [if_neg a] at h ⊢
      exact fB_ok j h
/-- who may lie lies still -/
theorem hold (hw : WFt r) {s t : Nat} (ht : t < 13000) (ho : okAt r s t = true) : ∀ u : Int, t ≤ u → u < t + shS r s → tTu r u = tTu r t := by
  rw [okAt_eq] at ho
  obtain ⟨o1, o2⟩ := Bool.and_eq_true_iff.mp ho
  obtain ⟨-, o3⟩ := Bool.and_eq_true_iff.mp o2
  have hc : tBe r t = false := by
    cases hb : tBe r t with
    | false => rfl
    | true =>
      rw [hb] at o1
      cases o1
  have h3 := of_decide_eq_true o3
  have sc := tSt_calm hw (t := t) (by omega) hc
  obtain ⟨-, c2, -⟩ := calm_run hw hc
  intro u h1 h2
  exact (c2 u h1 (by omega)).2
theorem blocked (hw : WFt r) {ah : List (Nat × Int × Int)} {s t : Nat} {e : Nat × Int × Int} (ht : t < 11000) (he : e ∈ ah) (hE : OKE r m e) (hWe : WFs r e.1) (hs : WFs r s) (ho : okAt r s t = true) (hc : cfl r s (fro r s t) t e = true) : ∀ u : Nat, t ≤ u → (u : Int) < goe r e → okG r ah s u = false := by
  intro u h1 h2
  unfold cfl at hc
  obtain ⟨c1, c'⟩ := Bool.and_eq_true_iff.mp hc
  obtain ⟨c2, c3⟩ := Bool.and_eq_true_iff.mp c'
  have c1 := of_decide_eq_true c1
  have c2 := of_decide_eq_true c2
  have c3 := of_decide_eq_true c3
  obtain ⟨-, ⟨e0, e9⟩, e3⟩ := hE
  obtain ⟨-, ⟨m0, m9⟩, ⟨t1, t2⟩, -⟩ := hWe
  obtain ⟨-, -, ⟨s1, s2⟩, -⟩ := hs
  unfold goe at h2
  obtain ⟨C, hC⟩ : ∃ C : Nat, shM r e.1 + e.2.1 = (C : Int) := ⟨(shM r e.1 + e.2.1).toNat, by omega⟩
  rw [hC] at c2 c3 h2 e3
  have hf : fro r s t = fro r e.1 C ∧ okAt r e.1 C = true := by
    rcases e3 with z | ⟨z1, z2⟩
    · rw [z] at c1
      unfold fro at c1
      omega
    · exact ⟨c1.symm.trans z2, z1⟩
  have k1 := hold hw (t := C) (by omega) hf.2
  have k2 := hold hw (t := t) (by omega) ho
  have eu : tTu r u = tTu r t := by
    rcases Int.lt_or_le (t : Int) C with z | z
    · have a1 := k2 C (by omega) (by omega)
      rcases Int.lt_or_le (u : Int) C with y | y
      · exact k2 u (by omega) (by omega)
      · exact (k1 u y (by omega)).trans a1
    · have a1 := k1 t (by omega) (by omega)
      exact (k1 u (by omega) (by omega)).trans a1.symm
  have ef : fro r s u = fro r s t := by unfold fro; rw [eu]
  have tk : takn r ah s (fro r s u) u = true := by
    unfold takn
    refine List.any_eq_true.mpr ⟨e, he, ?_⟩
    rw [hC, ef, decide_eq_true c1, decide_eq_true (show (C : Int) < (u : Int) + shS r s by omega), decide_eq_true h2]
    rfl
  unfold okG
  rw [tk]
  cases okAt r s u <;> rfl
end PLACE
