/-! the law's loop -/
theorem g_ite {α : Type} {c : Prop} [Decidable c] {A B o : α} (h1 : c → A = o) (h2 : ¬ c → B = o) : (if c then A else B) = o := by
  by_cases z : c
  · rw [if_pos z]
    exact h1 z
  · rw [if_neg z]
    exact h2 z
theorem cmp_self (v : Int64) : lg_cmp v v = 0 := by
  unfold lg_cmp
  rw [if_neg (fun h : v > v => Int64.lt_irrefl h), if_pos rfl]
set_option maxRecDepth 4000 in
theorem law_step {N xL : Nat} (hN : 20000 ≤ N) {xS : Nat → Int32} {K : xW → Int32 → Option Int32} {w : xW} (h : Inv w) {x3 : Int32} (hx : ¬ (nI xL) - 6 < x3) (i0 : ibd x3 xL = true) (i1 : ibd (x3 + 1) xL = true) (i2 : ibd (x3 + 2) xL = true) (i3 : ibd (x3 + 3) xL = true) (i4 : ibd (x3 + 4) xL = true) (i5 : ibd (x3 + 5) xL = true) (k : ∀ w', Inv w' → fLaw_1640 N xL xS K w' x3 = some 1) : fLaw_18b N xL xS K w x3 = some 1 := by
  unfold fLaw_18b
  rw [if_neg hx, if_pos i0]
  refine g_ite (fun _ => ?_) (fun _ => ?_)
  · obtain ⟨w1, w2, v, e1, e2, hi⟩ := P_tides h (xS (x3 + 1).toNatClampNeg) (xS (x3 + 2).toNatClampNeg)
    have e1 : fX7_tides w (xS (x3 + 1).toNatClampNeg) (xS (x3 + 2).toNatClampNeg) = some (w1, v) := e1
    have e2 : fX8_tides w1 (xS (x3 + 1).toNatClampNeg) (xS (x3 + 2).toNatClampNeg) = some (w2, v) := e2
    rw [if_pos i1, if_pos i2, e1, Option.bind_some]
    rw [e2, Option.bind_some, if_pos rfl]
    exact k w2 hi
  refine g_ite (fun _ => ?_) (fun _ => ?_)
  · obtain ⟨w1, w2, v, e1, e2, hi⟩ := P_sets h (xS (x3 + 1).toNatClampNeg) (xS (x3 + 2).toNatClampNeg)
    have e1 : fX7_sets w (xS (x3 + 1).toNatClampNeg) (xS (x3 + 2).toNatClampNeg) = some (w1, v) := e1
    have e2 : fX8_sets w1 (xS (x3 + 1).toNatClampNeg) (xS (x3 + 2).toNatClampNeg) = some (w2, v) := e2
    rw [if_pos i1, if_pos i2, e1, Option.bind_some]
    rw [e2, Option.bind_some, if_pos rfl]
    exact k w2 hi
  refine g_ite (fun _ => ?_) (fun _ => ?_)
  · obtain ⟨w1, w2, v, e1, e2, hi⟩ := P_wind h (xS (x3 + 1).toNatClampNeg) (xS (x3 + 2).toNatClampNeg)
    have e1 : fX7_wind w (xS (x3 + 1).toNatClampNeg) (xS (x3 + 2).toNatClampNeg) = some (w1, v) := e1
    have e2 : fX8_wind w1 (xS (x3 + 1).toNatClampNeg) (xS (x3 + 2).toNatClampNeg) = some (w2, v) := e2
    rw [if_pos i1, if_pos i2, e1, Option.bind_some]
    rw [e2, Option.bind_some, if_pos rfl]
    exact k w2 hi
  refine g_ite (fun _ => ?_) (fun _ => ?_)
  · obtain ⟨w1, w2, v, e1, e2, hi⟩ := P_tide h (xS (x3 + 1).toNatClampNeg) (xS (x3 + 2).toNatClampNeg)
    have e1 : fX7_tide w (xS (x3 + 1).toNatClampNeg) (xS (x3 + 2).toNatClampNeg) = some (w1, v) := e1
    have e2 : fX8_tide w1 (xS (x3 + 1).toNatClampNeg) (xS (x3 + 2).toNatClampNeg) = some (w2, v) := e2
    rw [if_pos i1, if_pos i2, e1, Option.bind_some]
    rw [e2, Option.bind_some, if_pos rfl]
    exact k w2 hi
  refine g_ite (fun _ => ?_) (fun _ => ?_)
  · obtain ⟨w1, w2, v, e1, e2, hi⟩ := P_turned hN h (xS (x3 + 1).toNatClampNeg)
    have e1 : fX7_turned N w (xS (x3 + 1).toNatClampNeg) = some (w1, v) := e1
    have e2 : fX8_turned N w1 (xS (x3 + 1).toNatClampNeg) = some (w2, v) := e2
    rw [if_pos i1, e1, Option.bind_some]
    rw [e2, Option.bind_some, if_pos rfl]
    exact k w2 hi
  refine g_ite (fun _ => ?_) (fun _ => ?_)
  · obtain ⟨w1, w2, v, e1, e2, hi⟩ := P_between hN h (xS (x3 + 1).toNatClampNeg)
    have e1 : fX7_between N w (xS (x3 + 1).toNatClampNeg) = some (w1, v) := e1
    have e2 : fX8_between N w1 (xS (x3 + 1).toNatClampNeg) = some (w2, v) := e2
    rw [if_pos i1, e1, Option.bind_some]
    rw [e2, Option.bind_some, if_pos rfl]
    exact k w2 hi
  refine g_ite (fun _ => ?_) (fun _ => ?_)
  · obtain ⟨w1, w2, v, e1, e2, hi⟩ := P_looks hN h (xS (x3 + 1).toNatClampNeg) (xS (x3 + 2).toNatClampNeg)
    have e1 : fX7_looks N w (xS (x3 + 1).toNatClampNeg) (xS (x3 + 2).toNatClampNeg) = some (w1, v) := e1
    have e2 : fX8_looks N w1 (xS (x3 + 1).toNatClampNeg) (xS (x3 + 2).toNatClampNeg) = some (w2, v) := e2
    rw [if_pos i1, if_pos i2, e1, Option.bind_some]
    rw [e2, Option.bind_some, if_pos rfl]
    exact k w2 hi
  refine g_ite (fun _ => ?_) (fun _ => ?_)
  · obtain ⟨w1, w2, v, e1, e2, hi⟩ := P_front hN h (xS (x3 + 1).toNatClampNeg) (xS (x3 + 2).toNatClampNeg)
    have e1 : fX7_front N w (xS (x3 + 1).toNatClampNeg) (xS (x3 + 2).toNatClampNeg) = some (w1, v) := e1
    have e2 : fX8_front N w1 (xS (x3 + 1).toNatClampNeg) (xS (x3 + 2).toNatClampNeg) = some (w2, v) := e2
    rw [if_pos i1, if_pos i2, e1, Option.bind_some]
    rw [e2, Option.bind_some, if_pos rfl]
    exact k w2 hi
  refine g_ite (fun _ => ?_) (fun _ => ?_)
  · obtain ⟨w1, w2, v, e1, e2, hi⟩ := P_when hN h (xS (x3 + 1).toNatClampNeg) (xS (x3 + 2).toNatClampNeg) (xS (x3 + 3).toNatClampNeg)
    have e1 : fX7_when N w (xS (x3 + 1).toNatClampNeg) (xS (x3 + 2).toNatClampNeg) (xS (x3 + 3).toNatClampNeg) = some (w1, v) := e1
    have e2 : fX8_when N w1 (xS (x3 + 1).toNatClampNeg) (xS (x3 + 2).toNatClampNeg) (xS (x3 + 3).toNatClampNeg) = some (w2, v) := e2
    rw [if_pos i1, if_pos i2, if_pos i3, e1, Option.bind_some]
    rw [e2, Option.bind_some, if_pos rfl]
    exact k w2 hi
  refine g_ite (fun _ => ?_) (fun _ => ?_)
  · obtain ⟨w1, w2, v, e1, e2, hi⟩ := P_house h (xS (x3 + 1).toNatClampNeg) (xS (x3 + 2).toNatClampNeg)
    have e1 : fX7_house w (xS (x3 + 1).toNatClampNeg) (xS (x3 + 2).toNatClampNeg) = some (w1, v) := e1
    have e2 : fX8_house w1 (xS (x3 + 1).toNatClampNeg) (xS (x3 + 2).toNatClampNeg) = some (w2, v) := e2
    rw [if_pos i1, if_pos i2, e1, Option.bind_some]
    rw [e2, Option.bind_some, if_pos rfl]
    exact k w2 hi
  refine g_ite (fun _ => ?_) (fun _ => ?_)
  · obtain ⟨w1, w2, v, e1, e2, hi⟩ := P_houseOf h (xS (x3 + 1).toNatClampNeg) (xS (x3 + 2).toNatClampNeg)
    have e1 : fX7_houseOf w (xS (x3 + 1).toNatClampNeg) (xS (x3 + 2).toNatClampNeg) = some (w1, v) := e1
    have e2 : fX8_houseOf w1 (xS (x3 + 1).toNatClampNeg) (xS (x3 + 2).toNatClampNeg) = some (w2, v) := e2
    rw [if_pos i1, if_pos i2, e1, Option.bind_some]
    rw [e2, Option.bind_some, if_pos rfl]
    exact k w2 hi
  refine g_ite (fun _ => ?_) (fun _ => ?_)
  · obtain ⟨w1, w2, v, e1, e2, hi⟩ := P_turn h (xS (x3 + 1).toNatClampNeg) (xS (x3 + 2).toNatClampNeg)
    have e1 : fX7_turn w (xS (x3 + 1).toNatClampNeg) (xS (x3 + 2).toNatClampNeg) = some (w1, v) := e1
    have e2 : fX8_turn w1 (xS (x3 + 1).toNatClampNeg) (xS (x3 + 2).toNatClampNeg) = some (w2, v) := e2
    rw [if_pos i1, if_pos i2, e1, Option.bind_some]
    rw [e2, Option.bind_some, if_pos rfl]
    exact k w2 hi
  refine g_ite (fun _ => ?_) (fun _ => ?_)
  · obtain ⟨w1, w2, v, e1, e2, hi⟩ := P_as hN h (xS (x3 + 1).toNatClampNeg) (xS (x3 + 2).toNatClampNeg)
    have e1 : fX7_as N w (xS (x3 + 1).toNatClampNeg) (xS (x3 + 2).toNatClampNeg) = some (w1, v) := e1
    have e2 : fX8_as N w1 (xS (x3 + 1).toNatClampNeg) (xS (x3 + 2).toNatClampNeg) = some (w2, v) := e2
    rw [if_pos i1, if_pos i2, e1, Option.bind_some]
    rw [e2, Option.bind_some, if_pos rfl]
    exact k w2 hi
  refine g_ite (fun _ => ?_) (fun _ => ?_)
  · obtain ⟨w1, w2, v, e1, e2, hi⟩ := P_gain hN h (xS (x3 + 1).toNatClampNeg) (xS (x3 + 2).toNatClampNeg)
    have e1 : fX7_gain N w (xS (x3 + 1).toNatClampNeg) (xS (x3 + 2).toNatClampNeg) = some (w1, v) := e1
    have e2 : fX8_gain N w1 (xS (x3 + 1).toNatClampNeg) (xS (x3 + 2).toNatClampNeg) = some (w2, v) := e2
    rw [if_pos i1, if_pos i2, e1, Option.bind_some]
    rw [e2, Option.bind_some, if_pos rfl]
    exact k w2 hi
  refine g_ite (fun _ => ?_) (fun _ => ?_)
  · obtain ⟨w1, w2, v, e1, e2, hi⟩ := P_sum hN h (xS (x3 + 1).toNatClampNeg) (xS (x3 + 2).toNatClampNeg) (xS (x3 + 3).toNatClampNeg)
    have e1 : fX7_sum N w (xS (x3 + 1).toNatClampNeg) (xS (x3 + 2).toNatClampNeg) (xS (x3 + 3).toNatClampNeg) = some (w1, v) := e1
    have e2 : fX8_sum N w1 (xS (x3 + 1).toNatClampNeg) (xS (x3 + 2).toNatClampNeg) (xS (x3 + 3).toNatClampNeg) = some (w2, v) := e2
    rw [if_pos i1, if_pos i2, if_pos i3, e1, Option.bind_some]
    rw [e2, Option.bind_some, if_pos rfl]
    exact k w2 hi
  refine g_ite (fun _ => ?_) (fun _ => ?_)
  · obtain ⟨w1, w2, v, e1, e2, hi⟩ := P_best hN h (xS (x3 + 1).toNatClampNeg) (xS (x3 + 2).toNatClampNeg) (xS (x3 + 3).toNatClampNeg)
    have e1 : fX7_best N w (xS (x3 + 1).toNatClampNeg) (xS (x3 + 2).toNatClampNeg) (xS (x3 + 3).toNatClampNeg) = some (w1, v) := e1
    have e2 : fX8_best N w1 (xS (x3 + 1).toNatClampNeg) (xS (x3 + 2).toNatClampNeg) (xS (x3 + 3).toNatClampNeg) = some (w2, v) := e2
    rw [if_pos i1, if_pos i2, if_pos i3, e1, Option.bind_some]
    rw [e2, Option.bind_some, if_pos rfl]
    exact k w2 hi
  refine g_ite (fun _ => ?_) (fun _ => ?_)
  · obtain ⟨w1, w2, v, e1, e2, hi⟩ := P_sunniest hN h (xS (x3 + 1).toNatClampNeg) (xS (x3 + 2).toNatClampNeg)
    have e1 : fX7_sunniest N w (xS (x3 + 1).toNatClampNeg) (xS (x3 + 2).toNatClampNeg) = some (w1, v) := e1
    have e2 : fX8_sunniest N w1 (xS (x3 + 1).toNatClampNeg) (xS (x3 + 2).toNatClampNeg) = some (w2, v) := e2
    rw [if_pos i1, if_pos i2, e1, Option.bind_some]
    rw [e2, Option.bind_some, if_pos rfl]
    exact k w2 hi
  refine g_ite (fun _ => ?_) (fun _ => ?_)
  · obtain ⟨w1, w2, v, e1, e2, hi⟩ := P_days hN h (xS (x3 + 1).toNatClampNeg) (xS (x3 + 2).toNatClampNeg) (xS (x3 + 3).toNatClampNeg) (xS (x3 + 4).toNatClampNeg)
    have e1 : fX7_days N w (xS (x3 + 1).toNatClampNeg) (xS (x3 + 2).toNatClampNeg) (xS (x3 + 3).toNatClampNeg) (xS (x3 + 4).toNatClampNeg) = some (w1, v) := e1
    have e2 : fX8_days N w1 (xS (x3 + 1).toNatClampNeg) (xS (x3 + 2).toNatClampNeg) (xS (x3 + 3).toNatClampNeg) (xS (x3 + 4).toNatClampNeg) = some (w2, v) := e2
    rw [if_pos i1, if_pos i2, if_pos i3, if_pos i4, e1, Option.bind_some]
    rw [e2, Option.bind_some, if_pos rfl]
    exact k w2 hi
  refine g_ite (fun _ => ?_) (fun _ => ?_)
  · obtain ⟨w1, w2, v, e1, e2, hi⟩ := P_exchange hN h (xS (x3 + 1).toNatClampNeg) (xS (x3 + 2).toNatClampNeg)
    have e1 : fX7_exchange N w (xS (x3 + 1).toNatClampNeg) (xS (x3 + 2).toNatClampNeg) = some (w1, v) := e1
    have e2 : fX8_exchange N w1 (xS (x3 + 1).toNatClampNeg) (xS (x3 + 2).toNatClampNeg) = some (w2, v) := e2
    rw [if_pos i1, if_pos i2, e1, Option.bind_some]
    rw [e2, Option.bind_some, if_pos rfl]
    exact k w2 hi
  refine g_ite (fun _ => ?_) (fun _ => ?_)
  · obtain ⟨w1, w2, v, e1, e2, hi⟩ := P_ship h (xS (x3 + 1).toNatClampNeg) (xS (x3 + 2).toNatClampNeg) (xS (x3 + 3).toNatClampNeg)
    have e1 : fX7_ship w (xS (x3 + 1).toNatClampNeg) (xS (x3 + 2).toNatClampNeg) (xS (x3 + 3).toNatClampNeg) = some (w1, v) := e1
    have e2 : fX8_ship w1 (xS (x3 + 1).toNatClampNeg) (xS (x3 + 2).toNatClampNeg) (xS (x3 + 3).toNatClampNeg) = some (w2, v) := e2
    rw [if_pos i1, if_pos i2, if_pos i3, e1, Option.bind_some]
    rw [e2, Option.bind_some, if_pos rfl]
    exact k w2 hi
  refine g_ite (fun _ => ?_) (fun _ => ?_)
  · obtain ⟨w1, w2, v, e1, e2, hi⟩ := P_shipOf h (xS (x3 + 1).toNatClampNeg) (xS (x3 + 2).toNatClampNeg)
    have e1 : fX7_shipOf w (xS (x3 + 1).toNatClampNeg) (xS (x3 + 2).toNatClampNeg) = some (w1, v) := e1
    have e2 : fX8_shipOf w1 (xS (x3 + 1).toNatClampNeg) (xS (x3 + 2).toNatClampNeg) = some (w2, v) := e2
    rw [if_pos i1, if_pos i2, e1, Option.bind_some]
    rw [e2, Option.bind_some, if_pos rfl]
    exact k w2 hi
  refine g_ite (fun _ => ?_) (fun _ => ?_)
  · obtain ⟨w1, w2, v, e1, e2, hi⟩ := P_quay h (xS (x3 + 1).toNatClampNeg) (xS (x3 + 2).toNatClampNeg)
    have e1 : fX7_quay w (xS (x3 + 1).toNatClampNeg) (xS (x3 + 2).toNatClampNeg) = some (w1, v) := e1
    have e2 : fX8_quay w1 (xS (x3 + 1).toNatClampNeg) (xS (x3 + 2).toNatClampNeg) = some (w2, v) := e2
    rw [if_pos i1, if_pos i2, e1, Option.bind_some]
    rw [e2, Option.bind_some, if_pos rfl]
    exact k w2 hi
  refine g_ite (fun _ => ?_) (fun _ => ?_)
  · obtain ⟨w1, w2, v, e1, e2, hi⟩ := P_clear h
    have e1 : fX7_clear w = (w1, v) := Option.some.inj e1
    have e2 : fX8_clear w1 = some (w2, v) := e2
    rw [e1]
    show _ = some 1
    rw [e2, Option.bind_some, if_pos rfl]
    exact k w2 hi
  refine g_ite (fun _ => ?_) (fun _ => ?_)
  · obtain ⟨w1, w2, v, e1, e2, hi⟩ := P_lies hN h (xS (x3 + 1).toNatClampNeg) (xS (x3 + 2).toNatClampNeg) (xS (x3 + 3).toNatClampNeg)
    have e1 : fX7_lies N w (xS (x3 + 1).toNatClampNeg) (xS (x3 + 2).toNatClampNeg) (xS (x3 + 3).toNatClampNeg) = some (w1, v) := e1
    have e2 : fX8_lies N w1 (xS (x3 + 1).toNatClampNeg) (xS (x3 + 2).toNatClampNeg) (xS (x3 + 3).toNatClampNeg) = some (w2, v) := e2
    rw [if_pos i1, if_pos i2, if_pos i3, e1, Option.bind_some]
    rw [e2, Option.bind_some, if_pos rfl]
    exact k w2 hi
  refine g_ite (fun _ => ?_) (fun _ => ?_)
  · obtain ⟨w1, w2, v, e1, e2, hi⟩ := P_entry hN h (xS (x3 + 1).toNatClampNeg) (xS (x3 + 2).toNatClampNeg)
    have e1 : fX7_entry N w (xS (x3 + 1).toNatClampNeg) (xS (x3 + 2).toNatClampNeg) = some (w1, v) := e1
    have e2 : fX8_entry N w1 (xS (x3 + 1).toNatClampNeg) (xS (x3 + 2).toNatClampNeg) = some (w2, v) := e2
    rw [if_pos i1, if_pos i2, e1, Option.bind_some]
    rw [e2, Option.bind_some, if_pos rfl]
    exact k w2 hi
  refine g_ite (fun _ => ?_) (fun _ => ?_)
  · obtain ⟨w1, w2, v, e1, e2, hi⟩ := P_order hN h (xS (x3 + 1).toNatClampNeg)
    have e1 : fX7_order N w (xS (x3 + 1).toNatClampNeg) = some (w1, v) := e1
    have e2 : fX8_order N w1 (xS (x3 + 1).toNatClampNeg) = some (w2, v) := e2
    rw [if_pos i1, e1, Option.bind_some]
    rw [e2, Option.bind_some, if_pos rfl]
    exact k w2 hi
  refine g_ite (fun _ => ?_) (fun _ => ?_)
  · obtain ⟨w1, w2, v, e1, e2, hi⟩ := P_waits hN h (xS (x3 + 1).toNatClampNeg) (xS (x3 + 2).toNatClampNeg)
    have e1 : fX7_waits N w (xS (x3 + 1).toNatClampNeg) (xS (x3 + 2).toNatClampNeg) = some (w1, v) := e1
    have e2 : fX8_waits N w1 (xS (x3 + 1).toNatClampNeg) (xS (x3 + 2).toNatClampNeg) = some (w2, v) := e2
    rw [if_pos i1, if_pos i2, e1, Option.bind_some]
    rw [e2, Option.bind_some, if_pos rfl]
    exact k w2 hi
  refine g_ite (fun _ => ?_) (fun _ => ?_)
  · obtain ⟨w1, w2, v, e1, e2, hi⟩ := P_fast hN h (xS (x3 + 1).toNatClampNeg)
    have e1 : fX7_fast N w (xS (x3 + 1).toNatClampNeg) = some (w1, v) := e1
    have e2 : fX8_fast N w1 (xS (x3 + 1).toNatClampNeg) = some (w2, v) := e2
    rw [if_pos i1, e1, Option.bind_some]
    rw [e2, Option.bind_some, if_pos rfl]
    exact k w2 hi
  refine g_ite (fun _ => ?_) (fun _ => ?_)
  · obtain ⟨w1, w2, v, e1, e2, hi⟩ := P_off hN h (xS (x3 + 1).toNatClampNeg) (xS (x3 + 2).toNatClampNeg)
    have e1 : fX7_off N w (xS (x3 + 1).toNatClampNeg) (xS (x3 + 2).toNatClampNeg) = some (w1, v) := e1
    have e2 : fX8_off N w1 (xS (x3 + 1).toNatClampNeg) (xS (x3 + 2).toNatClampNeg) = some (w2, v) := e2
    rw [if_pos i1, if_pos i2, e1, Option.bind_some]
    rw [e2, Option.bind_some, if_pos rfl]
    exact k w2 hi
  refine g_ite (fun _ => ?_) (fun _ => ?_)
  · obtain ⟨w1, w2, v, e1, e2, hi⟩ := P_feed hN h (xS (x3 + 1).toNatClampNeg) (xS (x3 + 2).toNatClampNeg)
    have e1 : fX7_feed N w (xS (x3 + 1).toNatClampNeg) (xS (x3 + 2).toNatClampNeg) = some (w1, v) := e1
    have e2 : fX8_feed N w1 (xS (x3 + 1).toNatClampNeg) (xS (x3 + 2).toNatClampNeg) = some (w2, v) := e2
    rw [if_pos i1, if_pos i2, e1, Option.bind_some]
    rw [e2, Option.bind_some, if_pos rfl]
    exact k w2 hi
  refine g_ite (fun _ => ?_) (fun _ => ?_)
  · obtain ⟨w1, w2, v, e1, e2, hi⟩ := P_wipe h
    have e1 : fX7_wipe w = (w1, v) := Option.some.inj e1
    have e2 : fX8_wipe w1 = (w2, v) := Option.some.inj e2
    rw [e1]
    show _ = some 1
    rw [e2, if_pos rfl]
    exact k w2 hi
  refine g_ite (fun _ => ?_) (fun _ => ?_)
  · obtain ⟨w1, w2, v, e1, e2, hi⟩ := P_island hN h
    have e1 : fX7_island N w = some (w1, v) := e1
    have e2 : fX8_island N w1 = some (w2, v) := e2
    rw [e1, Option.bind_some]
    rw [e2, Option.bind_some, if_pos rfl]
    exact k w2 hi
  refine g_ite (fun _ => ?_) (fun _ => ?_)
  · obtain ⟨w1, w2, v, e1, e2, hi⟩ := P_sheet hN h (xS (x3 + 1).toNatClampNeg) (xS (x3 + 2).toNatClampNeg) (xS (x3 + 3).toNatClampNeg)
    have e1 : fX7_sheet N w (xS (x3 + 1).toNatClampNeg) (xS (x3 + 2).toNatClampNeg) (xS (x3 + 3).toNatClampNeg) = some (w1, v) := e1
    have e2 : fX8_sheet N w1 (xS (x3 + 1).toNatClampNeg) (xS (x3 + 2).toNatClampNeg) (xS (x3 + 3).toNatClampNeg) = some (w2, v) := e2
    rw [if_pos i1, if_pos i2, if_pos i3, e1, Option.bind_some]
    rw [e2, Option.bind_some, if_pos rfl]
    exact k w2 hi
  refine g_ite (fun _ => ?_) (fun _ => ?_)
  · obtain ⟨w1, w2, v, e1, e2, hi⟩ := P_write h (xS (x3 + 1).toNatClampNeg) (xS (x3 + 2).toNatClampNeg) ((((xS (x3 + 3).toNatClampNeg : Int32).toInt64) <<< ((32 : Int32).toInt64 &&& 63)) ||| (((xS (x3 + 4).toNatClampNeg : Int32).toInt64) &&& 4294967295))
    have e1 : fX7_write w (xS (x3 + 1).toNatClampNeg) (xS (x3 + 2).toNatClampNeg) ((((xS (x3 + 3).toNatClampNeg : Int32).toInt64) <<< ((32 : Int32).toInt64 &&& 63)) ||| (((xS (x3 + 4).toNatClampNeg : Int32).toInt64) &&& 4294967295)) = some (w1, v) := e1
    have e2 : fX8_write w1 (xS (x3 + 1).toNatClampNeg) (xS (x3 + 2).toNatClampNeg) ((((xS (x3 + 3).toNatClampNeg : Int32).toInt64) <<< ((32 : Int32).toInt64 &&& 63)) ||| (((xS (x3 + 4).toNatClampNeg : Int32).toInt64) &&& 4294967295)) = some (w2, v) := e2
    rw [if_pos i1, if_pos i2, if_pos i3, if_pos i4, e1, Option.bind_some]
    rw [e2, Option.bind_some, if_pos (cmp_self v)]
    exact k w2 hi
  refine g_ite (fun _ => ?_) (fun _ => ?_)
  · obtain ⟨w1, w2, v, e1, e2, hi⟩ := P_copy hN h (xS (x3 + 1).toNatClampNeg) (xS (x3 + 2).toNatClampNeg) (xS (x3 + 3).toNatClampNeg) (xS (x3 + 4).toNatClampNeg) (xS (x3 + 5).toNatClampNeg)
    have e1 : fX7_copy w (xS (x3 + 1).toNatClampNeg) (xS (x3 + 2).toNatClampNeg) (xS (x3 + 3).toNatClampNeg) (xS (x3 + 4).toNatClampNeg) (xS (x3 + 5).toNatClampNeg) = some (w1, v) := e1
    have e2 : fX8_copy N w1 (xS (x3 + 1).toNatClampNeg) (xS (x3 + 2).toNatClampNeg) (xS (x3 + 3).toNatClampNeg) (xS (x3 + 4).toNatClampNeg) (xS (x3 + 5).toNatClampNeg) = some (w2, v) := e2
    rw [if_pos i1, if_pos i2, if_pos i3, if_pos i4, if_pos i5, e1, Option.bind_some]
    rw [e2, Option.bind_some, if_pos rfl]
    exact k w2 hi
  refine g_ite (fun _ => ?_) (fun _ => ?_)
  · obtain ⟨w1, w2, v, e1, e2, hi⟩ := P_lays h hN (xS (x3 + 1).toNatClampNeg)
    have e1 : fX7_lays N w (xS (x3 + 1).toNatClampNeg) = some (w1, v) := e1
    have e2 : fX8_lays N w1 (xS (x3 + 1).toNatClampNeg) = some (w2, v) := e2
    rw [if_pos i1, e1, Option.bind_some]
    rw [e2, Option.bind_some, if_pos rfl]
    exact k w2 hi
  refine g_ite (fun _ => ?_) (fun _ => ?_)
  · obtain ⟨w1, w2, v, e1, e2, hi⟩ := P_calendar hN h (xS (x3 + 1).toNatClampNeg) (xS (x3 + 2).toNatClampNeg) (xS (x3 + 3).toNatClampNeg) (xS (x3 + 4).toNatClampNeg)
    have e1 : fX7_calendar N w (xS (x3 + 1).toNatClampNeg) (xS (x3 + 2).toNatClampNeg) (xS (x3 + 3).toNatClampNeg) (xS (x3 + 4).toNatClampNeg) = some (w1, v) := e1
    have e2 : fX8_calendar N w1 (xS (x3 + 1).toNatClampNeg) (xS (x3 + 2).toNatClampNeg) (xS (x3 + 3).toNatClampNeg) (xS (x3 + 4).toNatClampNeg) = some (w2, v) := e2
    rw [if_pos i1, if_pos i2, if_pos i3, if_pos i4, e1, Option.bind_some]
    rw [e2, Option.bind_some, if_pos rfl]
    exact k w2 hi
  refine g_ite (fun _ => ?_) (fun _ => ?_)
  · obtain ⟨w1, w2, v, e1, e2, hi⟩ := P_read hN h (xS (x3 + 1).toNatClampNeg) (xS (x3 + 2).toNatClampNeg) (xS (x3 + 3).toNatClampNeg) (xS (x3 + 4).toNatClampNeg)
    have e1 : fX7_read N w (xS (x3 + 1).toNatClampNeg) (xS (x3 + 2).toNatClampNeg) (xS (x3 + 3).toNatClampNeg) (xS (x3 + 4).toNatClampNeg) = some (w1, v) := e1
    have e2 : fX8_read N w1 (xS (x3 + 1).toNatClampNeg) (xS (x3 + 2).toNatClampNeg) (xS (x3 + 3).toNatClampNeg) (xS (x3 + 4).toNatClampNeg) = some (w2, v) := e2
    rw [if_pos i1, if_pos i2, if_pos i3, if_pos i4, e1, Option.bind_some]
    rw [e2, Option.bind_some, if_pos rfl]
    exact k w2 hi
  refine g_ite (fun _ => ?_) (fun _ => ?_)
  · obtain ⟨w1, w2, v, e1, e2, hi⟩ := P_image hN h
    have e1 : fX7_image w = (w1, v) := Option.some.inj e1
    have e2 : fX8_image N w1 = some (w2, v) := e2
    rw [e1]
    show _ = some 1
    rw [e2, Option.bind_some, if_pos rfl]
    exact k w2 hi
  refine g_ite (fun _ => ?_) (fun _ => ?_)
  · obtain ⟨w1, w2, v, e1, e2, hi⟩ := P_undo hN h
    have e1 : fX7_undo w = some (w1, v) := e1
    have e2 : fX8_undo N w1 = some (w2, v) := e2
    rw [e1, Option.bind_some]
    rw [e2, Option.bind_some, if_pos rfl]
    exact k w2 hi
  refine g_ite (fun _ => ?_) (fun _ => ?_)
  · obtain ⟨w1, w2, v, e1, e2, hi⟩ := P_tear h
    have e1 : fX7_tear w = (w1, v) := Option.some.inj e1
    have e2 : fX8_tear w1 = (w2, v) := Option.some.inj e2
    rw [e1]
    show _ = some 1
    rw [e2, if_pos rfl]
    exact k w2 hi
  refine g_ite (fun _ => ?_) (fun _ => ?_)
  · obtain ⟨w1, w2, v, e1, e2, hi⟩ := P_count h (xS (x3 + 1).toNatClampNeg)
    have e1 : fX7_count w (xS (x3 + 1).toNatClampNeg) = some (w1, v) := e1
    have e2 : fX8_count w1 (xS (x3 + 1).toNatClampNeg) = some (w2, v) := e2
    rw [if_pos i1, e1, Option.bind_some]
    rw [e2, Option.bind_some, if_pos rfl]
    exact k w2 hi
  refine g_ite (fun _ => ?_) (fun _ => ?_)
  · obtain ⟨w1, w2, v, e1, e2, hi⟩ := P_status hN h (xS (x3 + 1).toNatClampNeg)
    have e1 : fX7_status N w (xS (x3 + 1).toNatClampNeg) = some (w1, v) := e1
    have e2 : fX8_status w1 (xS (x3 + 1).toNatClampNeg) = some (w2, v) := e2
    rw [if_pos i1, e1, Option.bind_some]
    rw [e2, Option.bind_some, if_pos rfl]
    exact k w2 hi
  exact k w h
theorem law_loop {N xL : Nat} (hN : 20000 ≤ N) (hL : xL ≤ 384) (xS : Nat → Int32) : ∀ (n i : Nat) (w : xW), xL < i + n + 1 → i ≤ 1000 → Inv w → fLaw_18 N xL xS (n + 1) w (iZ (i : Nat)) = some 1
  | n, i, w, hn, hi, h => by
    rw [fLaw_18]
    have e6 : nI xL - 6 = iZ ((xL : Int) - 6) := by rw [iZ_nI, show (6 : Int32) = iZ 6 from rfl, iZ_sub]
    by_cases z : (xL : Int) - 6 < i
    · unfold fLaw_18b
      rw [e6, if_pos (by rw [iZ_lt (by omega) (by omega) (by omega) (by omega)]; exact z)]
    · have ix : ∀ j : Nat, j < 6 → ibd (iZ (i : Nat) + iZ (j : Nat)) xL = true := fun j hj => by
        rw [iZ_add]
        exact (ibd_iZ (by omega) (by omega)).mpr (by omega)
      obtain ⟨n', rfl⟩ : ∃ n', n = n' + 1 := ⟨n - 1, by omega⟩
      refine law_step hN h (by rw [e6, iZ_lt (by omega) (by omega) (by omega) (by omega)]; exact z) ((ibd_iZ (by omega) (by omega)).mpr (by omega)) (ix 1 (by omega)) (ix 2 (by omega)) (ix 3 (by omega)) (ix 4 (by omega)) (ix 5 (by omega)) (fun w' h' => ?_)
      unfold fLaw_1640
      rw [show (6 : Int32) = iZ 6 from rfl, iZ_add, show (i : Int) + 6 = ((i + 6 : Nat) : Int) by omega]
      exact law_loop hN hL xS n' (i + 6) w' (by omega) (by omega) h'
