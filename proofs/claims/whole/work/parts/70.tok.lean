/-! the text, cut into tokens -/
def tcl (b : Int) : Nat := if 97 ≤ b ∧ b ≤ 122 then 1 else if 48 ≤ b ∧ b ≤ 57 then 2 else if b = 59 then 3 else if b = 32 then 4 else 5
def ty (B : Nat → Int) (U p : Nat) : Nat := if p < U then tcl (B p) else 0
def skp (B : Nat → Int) (U : Nat) : Nat → Nat → Nat
  | 0, p => p
  | n + 1, p => if ty B U p = 4 then skp B U n (p + 1) else p
def sk (B : Nat → Int) (U p : Nat) : Nat := skp B U (U - p) p
def rnp (B : Nat → Int) (U t : Nat) : Nat → Nat → Nat
  | 0, p => p
  | n + 1, p => if ty B U p = t then rnp B U t n (p + 1) else p
def te (B : Nat → Int) (U q : Nat) : Nat := if ty B U q = 0 then q else if ty B U q = 1 ∨ ty B U q = 2 then rnp B U (ty B U q) (U - (q + 1)) (q + 1) else q + 1
def nxt (B : Nat → Int) (U q : Nat) : Nat := sk B U (te B U q)
def vlp (B : Nat → Int) : Nat → Nat → Int → Int
  | 0, _, a => a
  | n + 1, p, a => vlp B n (p + 1) (if a * 10 + B p - 48 < 10000 then a * 10 + B p - 48 else 10000)
def vl (B : Nat → Int) (U q : Nat) : Int := vlp B (te B U q - q) q 0
def kln (j : Nat) : Nat := kLEN.getD j 0
def isC (B : Nat → Int) (j q : Nat) : Nat → Nat → Bool
  | 0, _ => true
  | n + 1, k => decide (B (q + k) = (xch j k).toInt) && isC B j q n (k + 1)
def isW (B : Nat → Int) (U j q : Nat) : Bool := decide (ty B U q = 1) && (decide (te B U q - q = kln j) && isC B j q (kln j) 0)
def wjp (B : Nat → Int) (U q : Nat) : Nat → Nat → Nat
  | 0, _ => 17
  | n + 1, j => if isW B U j q = true then j else wjp B U q n (j + 1)
def wj (B : Nat → Int) (U q : Nat) : Nat := wjp B U q 17 0
def nmB (B : Nat → Int) (U : Nat) (lo hi : Int) (q : Nat) : Bool := decide (ty B U q = 2) && (decide (lo ≤ vl B U q) && decide (vl B U q ≤ hi))
/-- a place where a token begins -/
def TQ (B : Nat → Int) (U q : Nat) : Prop := q ≤ U ∧ ty B U q ≠ 4
section TOKENS
variable {B : Nat → Int} {U : Nat}
theorem ty_rng (p : Nat) : ty B U p ≤ 5 := by
  unfold ty tcl
  split <;> (try split) <;> (try split) <;> (try split) <;> (try split) <;> omega
theorem ty_out {p : Nat} (h : U ≤ p) : ty B U p = 0 := by unfold ty; rw [if_neg (by omega)]
theorem ty_in {p : Nat} (h : p < U) : ty B U p ≠ 0 := by
  unfold ty tcl
  rw [if_pos h]
  split <;> (try split) <;> (try split) <;> (try split) <;> omega
theorem skp_spec : ∀ (n p : Nat), p + n = U → p ≤ skp B U n p ∧ skp B U n p ≤ U ∧ ty B U (skp B U n p) ≠ 4
  | 0, p, h => by
    rw [skp]
    refine ⟨Nat.le_refl _, by omega, ?_⟩
    rw [ty_out (by omega)]
    decide
  | n + 1, p, h => by
    rw [skp]
    by_cases a : ty B U p = 4
    · rw [if_pos a]
      have ih := skp_spec n (p + 1) (by omega)
      exact ⟨by omega, ih.2⟩
    · rw [if_neg a]
      exact ⟨Nat.le_refl _, by omega, a⟩
theorem sk_spec {p : Nat} (h : p ≤ U) : p ≤ sk B U p ∧ TQ B U (sk B U p) := by
  have := skp_spec (B := B) (U := U) (U - p) p (by omega)
  exact ⟨this.1, this.2⟩
theorem sk_at {p : Nat} (h : p < U) : sk B U p = if ty B U p = 4 then sk B U (p + 1) else p := by
  unfold sk
  obtain ⟨n, hn⟩ : ∃ n, U - p = n + 1 := ⟨U - p - 1, by omega⟩
  rw [hn, skp, show U - (p + 1) = n by omega]
theorem rnp_spec (t : Nat) : ∀ (n p : Nat), p + n = U → p ≤ rnp B U t n p ∧ rnp B U t n p ≤ U ∧ ∀ k, p ≤ k → k < rnp B U t n p → ty B U k = t
  | 0, p, h => by
    rw [rnp]
    exact ⟨Nat.le_refl _, by omega, fun k h1 h2 => by omega⟩
  | n + 1, p, h => by
    rw [rnp]
    by_cases a : ty B U p = t
    · rw [if_pos a]
      have ih := rnp_spec t n (p + 1) (by omega)
      refine ⟨by omega, ih.2.1, fun k h1 h2 => ?_⟩
      rcases Nat.lt_or_ge p k with z | z
      · exact ih.2.2 k z h2
      · rw [show k = p by omega]
        exact a
    · rw [if_neg a]
      exact ⟨Nat.le_refl _, by omega, fun k h1 h2 => by omega⟩
theorem te_spec {q : Nat} (h : TQ B U q) : te B U q ≤ U ∧ q ≤ te B U q ∧ (ty B U q ≠ 0 → q < te B U q) ∧ (ty B U q = 1 ∨ ty B U q = 2 → ∀ k, q ≤ k → k < te B U q → ty B U k = ty B U q) := by
  obtain ⟨hq, h4⟩ := h
  unfold te
  by_cases a : ty B U q = 0
  · rw [if_pos a]
    exact ⟨hq, Nat.le_refl _, fun z => absurd a z, fun z k h1 h2 => by omega⟩
  · have hlt : q < U := by
      rcases Nat.lt_or_ge q U with z | z
      · exact z
      · exact absurd (ty_out z) a
    rw [if_neg a]
    by_cases b : ty B U q = 1 ∨ ty B U q = 2
    · rw [if_pos b]
      have r := rnp_spec (B := B) (U := U) (ty B U q) (U - (q + 1)) (q + 1) (by omega)
      refine ⟨r.2.1, by omega, fun _ => by omega, fun _ k h1 h2 => ?_⟩
      rcases Nat.lt_or_ge q k with z | z
      · exact r.2.2 k z h2
      · rw [show k = q by omega]
    · rw [if_neg b]
      exact ⟨by omega, by omega, fun _ => by omega, fun z => absurd z b⟩
theorem nxt_spec {q : Nat} (h : TQ B U q) : TQ B U (nxt B U q) ∧ q ≤ nxt B U q ∧ (ty B U q ≠ 0 → q < nxt B U q) := by
  obtain ⟨h1, h2, h3, -⟩ := te_spec h
  obtain ⟨g1, g2⟩ := sk_spec (B := B) h1
  unfold nxt
  exact ⟨g2, by omega, fun z => by have := h3 z; omega⟩
theorem isC_get {j q : Nat} : ∀ (n k : Nat), isC B j q n k = true → ∀ c, k ≤ c → c < k + n → B (q + c) = (xch j c).toInt
  | 0, k, _, c, h1, h2 => by omega
  | n + 1, k, h, c, h1, h2 => by
    rw [isC] at h
    obtain ⟨a, b⟩ := Bool.and_eq_true_iff.mp h
    rcases Nat.lt_or_ge k c with z | z
    · exact isC_get n (k + 1) b c z (by omega)
    · rw [show c = k by omega]
      exact of_decide_eq_true a
theorem words_differ : ∀ i : Nat, i < 17 → ∀ j : Nat, j < 17 → kln i = kln j → (∀ k : Nat, k < kln i → xch i k = xch j k) → i = j := by decide +kernel
theorem isW_uniq {i j q : Nat} (hi : i < 17) (hj : j < 17) (h1 : isW B U i q = true) (h2 : isW B U j q = true) : i = j := by
  unfold isW at h1 h2
  obtain ⟨-, a⟩ := Bool.and_eq_true_iff.mp h1
  obtain ⟨a1, a2⟩ := Bool.and_eq_true_iff.mp a
  obtain ⟨-, b⟩ := Bool.and_eq_true_iff.mp h2
  obtain ⟨b1, b2⟩ := Bool.and_eq_true_iff.mp b
  have a1 := of_decide_eq_true a1
  have b1 := of_decide_eq_true b1
  refine words_differ i hi j hj (a1.symm.trans b1) (fun k hk => ?_)
  have c1 := isC_get _ 0 a2 k (by omega) (by omega)
  have c2 := isC_get _ 0 b2 k (by omega) (by omega)
  exact Int32.toInt_inj.mp (c1.symm.trans c2)
theorem wjp_spec (q : Nat) : ∀ (n j : Nat), j + n = 17 → (wjp B U q n j = 17 ∧ ∀ c, j ≤ c → c < 17 → isW B U c q = false) ∨ (wjp B U q n j < 17 ∧ isW B U (wjp B U q n j) q = true)
  | 0, j, h => Or.inl ⟨rfl, fun c h1 h2 => by omega⟩
  | n + 1, j, h => by
    rw [wjp]
    by_cases a : isW B U j q = true
    · rw [if_pos a]
      exact Or.inr ⟨by omega, a⟩
    · rw [if_neg a]
      refine (wjp_spec q n (j + 1) (by omega)).imp (fun z => ⟨z.1, fun c h1 h2 => ?_⟩) id
      rcases Nat.lt_or_ge j c with y | y
      · exact z.2 c y h2
      · rw [show c = j by omega]
        exact Bool.eq_false_iff.mpr a
theorem wj_le (q : Nat) : wj B U q ≤ 17 := by
  rcases wjp_spec (B := B) (U := U) q 17 0 rfl with z | z
  · unfold wj
    omega
  · unfold wj
    omega
theorem isW_eq (q : Nat) {j : Nat} (hj : j < 17) : isW B U j q = decide (wj B U q = j) := by
  rcases wjp_spec (B := B) (U := U) q 17 0 rfl with z | z
  · have e : wj B U q = 17 := z.1
    rw [z.2 j (by omega) hj, e, decide_eq_false (by omega)]
  · have e : isW B U (wj B U q) q = true := z.2
    cases hb : isW B U j q with
    | true =>
      exact (decide_eq_true (isW_uniq (show wj B U q < 17 from z.1) hj e hb)).symm
    | false =>
      by_cases y : wj B U q = j
      · rw [y, hb] at e
        cases e
      · exact (decide_eq_false y).symm
theorem wj_ty {q : Nat} (h : wj B U q < 17) : ty B U q = 1 := by
  have := isW_eq (B := B) (U := U) q h
  rw [decide_eq_true rfl] at this
  unfold isW at this
  exact of_decide_eq_true (Bool.and_eq_true_iff.mp this).1
theorem vlp_rng (hB : ∀ i, i < U → 0 ≤ B i ∧ B i ≤ 255) : ∀ (n p : Nat) (a : Int), (∀ k, p ≤ k → k < p + n → ty B U k = 2) → 0 ≤ a → a ≤ 10000 → 0 ≤ vlp B n p a ∧ vlp B n p a ≤ 10000
  | 0, p, a, _, h1, h2 => ⟨h1, h2⟩
  | n + 1, p, a, ht, h1, h2 => by
    rw [vlp]
    have hp := ht p (Nat.le_refl _) (by omega)
    have d : 48 ≤ B p ∧ B p ≤ 57 := by
      unfold ty tcl at hp
      split at hp
      · split at hp
        · omega
        · split at hp
          · assumption
          · split at hp
            · omega
            · split at hp <;> omega
      · omega
    refine vlp_rng hB n (p + 1) _ (fun k a1 a2 => ht k (by omega) (by omega)) ?_ ?_
    · split <;> omega
    · split <;> omega
theorem vl_rng (hB : ∀ i, i < U → 0 ≤ B i ∧ B i ≤ 255) {q : Nat} (h : TQ B U q) (ht : ty B U q = 2) : 0 ≤ vl B U q ∧ vl B U q ≤ 10000 := by
  obtain ⟨h1, h2, h3, h4⟩ := te_spec h
  unfold vl
  refine vlp_rng hB _ q 0 (fun k a1 a2 => ?_) (by omega) (by omega)
  rw [h4 (Or.inr ht) k a1 (by omega), ht]
end TOKENS
