/-! from the law's entry to its loop (laid by wip/whole/gen/genstart.py) -/
def iW : List (Nat → Int32) := [(fun k => ([0, 0, 0, 0, 0, 0, 0, 0, 0, 0] : List Int32).getD k 0),
  (fun k => ([0, 0, 3, 0, 0, 0, 0, 0, 0, 0, 0] : List Int32).getD k 0),
  (fun k => ([0, 0, 0, 0, 0] : List Int32).getD k 0),
  (upd (upd (upd (upd (fun _ => 0) 0 20) 1 50) 2 3) 3 0),
  (fun _ => 0),
  (fun _ => 0),
  (fun _ => 0),
  (fun _ => 0),
  (fun _ => 0),
  (fun _ => 0),
  (fun _ => 0),
  (fun k => ([0, 0, 3, 0, 0, 0, 0, 0, 0, 0, 0] : List Int32).getD k 0),
  (fun k => ([0, 0, 0, 0, 0] : List Int32).getD k 0),
  (upd (upd (upd (upd (fun _ => 0) 0 20) 1 50) 2 3) 3 0),
  (fun _ => 0),
  (fun _ => 0),
  (fun _ => 0),
  (fun _ => 0),
  (fun _ => 0),
  (fun _ => 0),
  (fun _ => 0),
  (fun k => ([0, 0, 3, 0, 0, 0, 0, 0, 0, 0, 0] : List Int32).getD k 0),
  (fun k => ([0, 0, 0, 0, 0] : List Int32).getD k 0),
  (upd (upd (upd (upd (fun _ => 0) 0 20) 1 50) 2 3) 3 0),
  (fun _ => 0),
  (fun _ => 0),
  (fun _ => 0),
  (fun _ => 0),
  (fun _ => 0),
  (fun _ => 0),
  (fun _ => 0),
  (fun k => ([0, 0] : List Int32).getD k 0),
  (fun _ => 0),
  (fun _ => 0),
  (fun k => ([0, 0, 0, 0, 0, 0, 0, 0, 0, 0] : List Int32).getD k 0),
  (fun _ => 0),
  (fun _ => 0),
  (fun _ => 0),
  (fun _ => 0),
  (fun _ => 0),
  (fun _ => 0),
  (fun _ => 0),
  (fun k => ([0, 0, 0, 0, 0] : List Int32).getD k 0),
  (fun _ => 0),
  (fun k => ([0, 0] : List Int32).getD k 0),
  (fun _ => 0),
  (fun _ => 0),
  (fun k => ([0, 0, 0] : List Int32).getD k 0),
  (fun _ => 0),
  (fun k => ([0, 0, 0] : List Int32).getD k 0),
  (fun _ => 0),
  (fun k => ([0, 0, 0] : List Int32).getD k 0),
  (fun _ => 0),
  (fun k => ([0, 0, 0] : List Int32).getD k 0),
  (fun _ => 0),
  (fun k => ([0, 0, 0, 0, 0, 0, 0, 0, 0, 0, 0, 0, 0, 0, 0, 0, 0, 0, 0, 0, 0, 0, 0, 0, 0, 0, 0, 0, 0, 0, 0, 0, 0, 0] : List Int32).getD k 0),
  (upd (upd (upd (upd (fun _ => 0) 0 20) 1 50) 2 3) 8 3),
  (fun _ => 0),
  (fun _ => 0),
  (upd (upd (upd (upd (fun _ => 0) 0 0) 1 16) 2 1) 3 0),
  (upd (upd (upd (upd (fun _ => 0) 0 400) 1 400) 2 7) 3 8),
  (fun _ => 0),
  (fun _ => 0),
  (fun _ => 0),
  (fun _ => 0),
  (fun _ => 0),
  (fun _ => 0),
  (fun _ => 0),
  (fun _ => 0),
  (fun _ => 0),
  (fun _ => 0),
  (fun _ => 0),
  (fun _ => 0),
  (fun _ => 0),
  (fun _ => 0),
  (fun _ => 0),
  (fun _ => 0),
  (fun _ => 0)]
def w0 : xW := (fun q => iW.getD q (fun _ => 0), fun _ _ => 0)
abbrev iAd (a b : Nat → Nat) : Nat → Nat := fun i => [a 0, a 1, a 2, a 3, a 4, a 5, a 6, a 7, a 8, a 9, a 10, a 11, a 12, a 13, a 14, a 15, a 16, a 17, a 18, a 19, a 20, a 21, a 22, a 23, a 24, a 25, a 26, a 27, a 28, a 29, a 30, a 31, a 32, a 33, a 34, a 35, a 36, a 37, a 38, a 39, a 40, a 41, a 43, a 44, a 42, a 45, a 46, a 47, a 48, a 49, a 50, a 51, a 52, a 53, a 54, b 0, b 1, b 2, b 3, b 4, b 5, b 6, b 7, b 8, b 9, b 10, b 11, b 12, b 13, b 14, b 15, b 16, b 17, b 18, b 19, b 20, b 21, b 22].getD i 0
theorem arrV_ext {c : ClassId} {N : Nat} {f g : Nat → Value} (h : ∀ j, j < N → f j = g j) : arrV c N f = arrV c N g := by
  unfold arrV
  congr 2
  funext j
  exact h j.val j.isLt
def xMI (f : Nat → Option Nat → Value) : Nat → List (Option Nat) → List Value
  | _, [] => []
  | k, o :: r => f k o :: xMI f (k + 1) r
theorem xMI_eq (f : Nat → Option Nat → Value) : ∀ (l : List (Option Nat)) (k : Nat), l.mapIdx (fun i o => f (i + k) o) = xMI f k l
  | [], _ => by rw [List.mapIdx_nil, xMI]
  | o :: r, k => by
    rw [List.mapIdx_cons, xMI, ← xMI_eq f r (k + 1), Nat.zero_add]
    congr 1
    congr 1
    funext i o
    rw [Nat.add_assoc, Nat.add_comm 1 k]
theorem xWs_getO {ad : Nat → Nat} {G : gEnv} {w : xW} {q ci : Nat} {fs : List (Option Nat)} (h : xSH[q]? = some (.inr (ci, fs))) : (xWs ad G w)[q]? = some (ad q, .inr (ci, xMI (fun k o => xFld ad w q k o) 0 fs)) := by
  rw [xWs_get h, ← xMI_eq]
  rfl
abbrev iL (G : gEnv) (a b : Nat → Nat) : va_W := nW_X7_init G a ++ nW_X8_init G b
/-- a cell's number -> its place in the world that the constructors make -/
def iPm (k : Nat) : Nat := if k = 42 then 43 else if k = 43 then 44 else if k = 44 then 42 else k
theorem iPm_inj {i j : Nat} (h : iPm i = iPm j) : i = j := by
  unfold iPm at h
  repeat' split at h
  all_goals omega
set_option maxRecDepth 100000 in
set_option maxHeartbeats 4000000 in
theorem i_cells (G : gEnv) (a b : Nat → Nat) (H : Heap) : ∀ k, k < 78 → ∃ e e1 : va_E, (xWs (iAd a b) G w0)[k]? = some (iAd a b k, e) ∧ (iL G a b)[iPm k]? = some (iAd a b k, e1) ∧ (va_at (gD G) vwCl (iAd a b k, e1) H → va_at (gD G) vwCl (iAd a b k, e) H)
  | 0, _ => ⟨_, _, xWs_getO (q := 0) rfl, rfl, id⟩
  | 1, _ => ⟨_, _, xWs_getO (q := 1) rfl, rfl, id⟩
  | 2, _ => ⟨_, _, xWs_getO (q := 2) rfl, rfl, id⟩
  | 3, _ => ⟨_, _, xWs_get (q := 3) rfl, rfl, id⟩
  | 4, _ => ⟨_, _, xWs_get (q := 4) rfl, rfl, id⟩
  | 5, _ => ⟨_, _, xWs_get (q := 5) rfl, rfl, id⟩
  | 6, _ => ⟨_, _, xWs_get (q := 6) rfl, rfl, id⟩
  | 7, _ => ⟨_, _, xWs_get (q := 7) rfl, rfl, id⟩
  | 8, _ => ⟨_, _, xWs_get (q := 8) rfl, rfl, id⟩
  | 9, _ => ⟨_, _, xWs_get (q := 9) rfl, rfl, id⟩
  | 10, _ => ⟨_, _, xWs_get (q := 10) rfl, rfl, id⟩
  | 11, _ => ⟨_, _, xWs_getO (q := 11) rfl, rfl, id⟩
  | 12, _ => ⟨_, _, xWs_getO (q := 12) rfl, rfl, id⟩
  | 13, _ => ⟨_, _, xWs_get (q := 13) rfl, rfl, id⟩
  | 14, _ => ⟨_, _, xWs_get (q := 14) rfl, rfl, id⟩
  | 15, _ => ⟨_, _, xWs_get (q := 15) rfl, rfl, id⟩
  | 16, _ => ⟨_, _, xWs_get (q := 16) rfl, rfl, id⟩
  | 17, _ => ⟨_, _, xWs_get (q := 17) rfl, rfl, id⟩
  | 18, _ => ⟨_, _, xWs_get (q := 18) rfl, rfl, id⟩
  | 19, _ => ⟨_, _, xWs_get (q := 19) rfl, rfl, id⟩
  | 20, _ => ⟨_, _, xWs_get (q := 20) rfl, rfl, id⟩
  | 21, _ => ⟨_, _, xWs_getO (q := 21) rfl, rfl, id⟩
  | 22, _ => ⟨_, _, xWs_getO (q := 22) rfl, rfl, id⟩
  | 23, _ => ⟨_, _, xWs_get (q := 23) rfl, rfl, id⟩
  | 24, _ => ⟨_, _, xWs_get (q := 24) rfl, rfl, id⟩
  | 25, _ => ⟨_, _, xWs_get (q := 25) rfl, rfl, id⟩
  | 26, _ => ⟨_, _, xWs_get (q := 26) rfl, rfl, id⟩
  | 27, _ => ⟨_, _, xWs_get (q := 27) rfl, rfl, id⟩
  | 28, _ => ⟨_, _, xWs_get (q := 28) rfl, rfl, id⟩
  | 29, _ => ⟨_, _, xWs_get (q := 29) rfl, rfl, id⟩
  | 30, _ => ⟨_, _, xWs_get (q := 30) rfl, rfl, id⟩
  | 31, _ => ⟨_, _, xWs_getO (q := 31) rfl, rfl, id⟩
  | 32, _ => ⟨_, _, xWs_get (q := 32) rfl, rfl, id⟩
  | 33, _ => ⟨_, _, xWs_get (q := 33) rfl, rfl, id⟩
  | 34, _ => ⟨_, _, xWs_getO (q := 34) rfl, rfl, id⟩
  | 35, _ => ⟨_, _, xWs_get (q := 35) rfl, rfl, id⟩
  | 36, _ => ⟨_, _, xWs_get (q := 36) rfl, rfl, id⟩
  | 37, _ => ⟨_, _, xWs_get (q := 37) rfl, rfl, id⟩
  | 38, _ => ⟨_, _, xWs_get (q := 38) rfl, rfl, id⟩
  | 39, _ => ⟨_, _, xWs_get (q := 39) rfl, rfl, id⟩
  | 40, _ => ⟨_, _, xWs_get (q := 40) rfl, rfl, id⟩
  | 41, _ => ⟨_, _, xWs_get (q := 41) rfl, rfl, id⟩
  | 42, _ => ⟨_, _, xWs_getO (q := 42) rfl, rfl, id⟩
  | 43, _ => ⟨_, _, xWs_get (q := 43) rfl, rfl, id⟩
  | 44, _ => ⟨_, _, xWs_getO (q := 44) rfl, rfl, id⟩
  | 45, _ => ⟨_, _, xWs_get (q := 45) rfl, rfl, fun h => h.trans (congrArg some (by
      show vp_cell _ (_, Sum.inr (Sum.inr (Sum.inr (Sum.inr _)))) = vp_cell _ (_, Sum.inr (Sum.inr (Sum.inr (Sum.inr _))))
      rw [vp_cell_q, vp_cell_q]
      exact arrV_ext (fun j hj => by
        rcases (show j = 0 ∨ j = 1 ∨ j = 2 ∨ j = 3 by omega) with rfl | rfl | rfl | rfl <;> rfl)))⟩
  | 46, _ => ⟨_, _, xWs_get (q := 46) rfl, rfl, id⟩
  | 47, _ => ⟨_, _, xWs_getO (q := 47) rfl, rfl, id⟩
  | 48, _ => ⟨_, _, xWs_get (q := 48) rfl, rfl, id⟩
  | 49, _ => ⟨_, _, xWs_getO (q := 49) rfl, rfl, id⟩
  | 50, _ => ⟨_, _, xWs_get (q := 50) rfl, rfl, id⟩
  | 51, _ => ⟨_, _, xWs_getO (q := 51) rfl, rfl, id⟩
  | 52, _ => ⟨_, _, xWs_get (q := 52) rfl, rfl, id⟩
  | 53, _ => ⟨_, _, xWs_getO (q := 53) rfl, rfl, id⟩
  | 54, _ => ⟨_, _, xWs_get (q := 54) rfl, rfl, id⟩
  | 55, _ => ⟨_, _, xWs_getO (q := 55) rfl, rfl, id⟩
  | 56, _ => ⟨_, _, xWs_get (q := 56) rfl, rfl, id⟩
  | 57, _ => ⟨_, _, xWs_get (q := 57) rfl, rfl, id⟩
  | 58, _ => ⟨_, _, xWs_get (q := 58) rfl, rfl, id⟩
  | 59, _ => ⟨_, _, xWs_get (q := 59) rfl, rfl, id⟩
  | 60, _ => ⟨_, _, xWs_get (q := 60) rfl, rfl, id⟩
  | 61, _ => ⟨_, _, xWs_get (q := 61) rfl, rfl, id⟩
  | 62, _ => ⟨_, _, xWs_get (q := 62) rfl, rfl, id⟩
  | 63, _ => ⟨_, _, xWs_get (q := 63) rfl, rfl, id⟩
  | 64, _ => ⟨_, _, xWs_get (q := 64) rfl, rfl, id⟩
  | 65, _ => ⟨_, _, xWs_get (q := 65) rfl, rfl, id⟩
  | 66, _ => ⟨_, _, xWs_get (q := 66) rfl, rfl, id⟩
  | 67, _ => ⟨_, _, xWs_get (q := 67) rfl, rfl, id⟩
  | 68, _ => ⟨_, _, xWs_get (q := 68) rfl, rfl, id⟩
  | 69, _ => ⟨_, _, xWs_get (q := 69) rfl, rfl, id⟩
  | 70, _ => ⟨_, _, xWs_get (q := 70) rfl, rfl, id⟩
  | 71, _ => ⟨_, _, xWs_get (q := 71) rfl, rfl, fun h => h.trans (congrArg some (by
      show vp_cell _ (_, Sum.inr (Sum.inr (Sum.inr (Sum.inr _)))) = vp_cell _ (_, Sum.inr (Sum.inr (Sum.inr (Sum.inr _))))
      rw [vp_cell_q, vp_cell_q]
      exact arrV_ext (fun j hj => by
        rcases (show j = 0 ∨ j = 1 ∨ j = 2 ∨ j = 3 ∨ j = 4 ∨ j = 5 by omega) with rfl | rfl | rfl | rfl | rfl | rfl <;> rfl)))⟩
  | 72, _ => ⟨_, _, xWs_get (q := 72) rfl, rfl, fun h => h.trans (congrArg some (by
      show vp_cell _ (_, Sum.inr (Sum.inr (Sum.inr (Sum.inr _)))) = vp_cell _ (_, Sum.inr (Sum.inr (Sum.inr (Sum.inr _))))
      rw [vp_cell_q, vp_cell_q]
      exact arrV_ext (fun j hj => by
        rcases (show j = 0 ∨ j = 1 ∨ j = 2 by omega) with rfl | rfl | rfl <;> rfl)))⟩
  | 73, _ => ⟨_, _, xWs_get (q := 73) rfl, rfl, id⟩
  | 74, _ => ⟨_, _, xWs_get (q := 74) rfl, rfl, id⟩
  | 75, _ => ⟨_, _, xWs_get (q := 75) rfl, rfl, id⟩
  | 76, _ => ⟨_, _, xWs_get (q := 76) rfl, rfl, id⟩
  | 77, _ => ⟨_, _, xWs_get (q := 77) rfl, rfl, id⟩
  | k + 78, h => absurd h (by omega)
theorem i_len (ad : Nat → Nat) (G : gEnv) (w : xW) : (xWs ad G w).length = 78 := by
  unfold xWs
  rw [List.length_mapIdx]
  rfl
theorem i_P {G : gEnv} {a b : Nat → Nat} {H : Heap} (h : va_P (gD G) vwCl (iL G a b) H) : va_P (gD G) vwCl (xWs (iAd a b) G w0) H := by
  intro k q hq
  have hk : k < 78 := by rw [← i_len (iAd a b) G w0]; exact (List.getElem?_eq_some_iff.mp hq).1
  obtain ⟨e, e1, h1, h2, h3⟩ := i_cells G a b H k hk
  cases h1.symm.trans hq
  exact h3 (h (iPm k) _ h2)
theorem i_D {G : gEnv} {a b : Nat → Nat} {A : Nat → Prop} (h : va_D A (iL G a b)) (w : xW) : va_D A (xWs (iAd a b) G w) := by
  refine g_addr (ws := xWs (iAd a b) G w0) ?_ xWs_fst
  have at' : ∀ (k : Nat) (q : Nat × va_E), (xWs (iAd a b) G w0)[k]? = some q → ∃ q' : Nat × va_E, (iL G a b)[iPm k]? = some q' ∧ q'.1 = q.1 := by
    intro k q hq
    have hk : k < 78 := by rw [← i_len (iAd a b) G w0]; exact (List.getElem?_eq_some_iff.mp hq).1
    obtain ⟨e, e1, h1, h2, -⟩ := i_cells G a b #[] k hk
    cases h1.symm.trans hq
    exact ⟨_, h2, rfl⟩
  refine ⟨fun i j p q hi hj hpq => ?_, fun k q hk => ?_⟩
  · obtain ⟨p', h1, e1⟩ := at' i p hi
    obtain ⟨q', h2, e2⟩ := at' j q hj
    exact iPm_inj (h.1 _ _ p' q' h1 h2 (by rw [e1, e2]; exact hpq))
  · obtain ⟨q', h1, e1⟩ := at' k q hk
    rw [← e1]
    exact h.2 _ q' h1
theorem nw_L_7 : Cond.classLink RL 7 RX7 ∈ gW ∧ Cond.instantiable RX7 10 ∈ gW ∧ Cond.initialized RX7 ∈ gW := ⟨gW_of (List.mem_of_getElem? (i := 78) (by decide +kernel)) (by decide +kernel), gW_of (List.mem_of_getElem? (i := 79) (by decide +kernel)) (by decide +kernel), gW_of (List.mem_of_getElem? (i := 61) (by decide +kernel)) (by decide +kernel)⟩
theorem nw_L_10 : Cond.classLink RL 10 RX8 ∈ gW ∧ Cond.instantiable RX8 34 ∈ gW ∧ Cond.initialized RX8 ∈ gW := ⟨gW_of (List.mem_of_getElem? (i := 866) (by decide +kernel)) (by decide +kernel), gW_of (List.mem_of_getElem? (i := 867) (by decide +kernel)) (by decide +kernel), gW_of (List.mem_of_getElem? (i := 69) (by decide +kernel)) (by decide +kernel)⟩
theorem nv_X7_init : nV yX7_init cX7_init 2 0 := ⟨gW_of (List.mem_of_getElem? (i := 82) (by decide +kernel)) (by decide +kernel), gW_of (List.mem_of_getElem? (i := 61) (by decide +kernel)) (by decide +kernel), by decide +kernel, gW_of (List.mem_of_getElem? (i := 81) (by decide +kernel)) (by decide +kernel), rfl⟩
theorem nv_X8_init : nV yX8_init cX8_init 1 0 := ⟨gW_of (List.mem_of_getElem? (i := 870) (by decide +kernel)) (by decide +kernel), gW_of (List.mem_of_getElem? (i := 69) (by decide +kernel)) (by decide +kernel), by decide +kernel, gW_of (List.mem_of_getElem? (i := 869) (by decide +kernel)) (by decide +kernel), rfl⟩
theorem ml_L_9 : Cond.methodLink RL 9 yX7_init ∈ gW := gW_of (List.mem_of_getElem? (i := 80) (by decide +kernel)) (by decide +kernel)
theorem ml_L_12 : Cond.methodLink RL 12 yX8_init ∈ gW := gW_of (List.mem_of_getElem? (i := 868) (by decide +kernel)) (by decide +kernel)
set_option maxRecDepth 100000 in
set_option maxHeartbeats 8000000 in
/-- the law up to its loop -/
theorem law_entry {l : Launch} {p : Program} {e : Env} {s : State} {m : MethodId} {below : List Frame} {meth : Method} {c : Code} {b L : Nat} {xs : Nat → Int32} (C0 : lw_At p s m meth c b L xs) {N : Nat} (hlaw : fLaw_18 N L xs N w0 0 = some 1) : W p l e room_1 s m #[Value.ref b] below meth c s.heap [] 0 0 (lw_Z below #[Value.ref b] s) (entryFrame m ([Value.ref b] : List Value).toArray 4) := by
  obtain ⟨hx, hb, hr, hml, hown, hts, hX, hbl, hlocks, hgv⟩ := C0
  obtain ⟨G, hK, hE⟩ := st_env hts (flat_of_before _ hgv)
  have hl := lv_entry ([.ref b]) (n := 4) (Nat.le_of_ble_eq_true rfl)
  rw [lg_entry_eq]
  generalize (lg_sl ([.ref b]) ++ List.replicate (4 - (lg_sl ([.ref b])).length) Slot.unset).toArray = ls at hl ⊢
  have hA : ∀ q, s.heap.size ≤ q → (fun q : Nat => s.heap.size ≤ q) q := fun _ h => h
  have key : ∀ Γ : xΓ, Γ = (l, (fun q => q), G, p, e, room_1, s, m, #[Value.ref b], below, meth, c, lw_Z below #[Value.ref b] s, (fun q : Nat => s.heap.size ≤ q), 4, 0, 0) → nOK Γ cL_law RL 20 600000 7302250 → xN Γ 0 0 [] 0 [(0, .ref b)] [] := by
    intro Γ hΓ C
    have hL : xn Γ = 4 := by rw [hΓ]
    refine xn_new C 0 1 10 rfl rfl xk7 [.null, .null, .null, .int 0, .null, .null, .null, .null, .null, .null] (fun j hj => by
    rcases (show j = 0 ∨ j = 1 ∨ j = 2 ∨ j = 3 ∨ j = 4 ∨ j = 5 ∨ j = 6 ∨ j = 7 ∨ j = 8 ∨ j = 9 by omega) with rfl | rfl | rfl | rfl | rfl | rfl | rfl | rfl | rfl | rfl <;> rfl) nw_L_7 (Nat.le_of_ble_eq_true rfl) (Nat.le_of_ble_eq_true rfl) dL_law_0 (fun q0 => ?_)
    show xN Γ 1 10 [(q0, .inr (7, [.null, .null, .null, .int 0, .null, .null, .null, .null, .null, .null]))] 3 _ _
    refine xn_dup C 3 rfl dL_law_3 ?_
    refine xn_ctor C 4 55 707 [] [0] [] (nX7_init q0) nv_X7_init ml_L_9 (Nat.le_of_ble_eq_true rfl) (Nat.le_of_ble_eq_true rfl) rfl rfl (Nat.le_of_ble_eq_true rfl) (Nat.le_of_ble_eq_true rfl) rfl rfl rfl rfl (by decide) rfl rfl (Nat.le_of_ble_eq_true rfl) dL_law_4 (fun a ha => ?_)
    subst ha
    show xN Γ 55 707 (nW_X7_init (xE Γ) a) 7 _ _
    refine xn_astore_n C 7 dL_law_7 (xnb hL rfl) ?_
    refine xn_new C 8 56 741 rfl rfl xk8 [.null, .null, .int 0, .null, .null, .null, .null, .null, .int 0, .null, .null, .null, .null, .null, .null, .null, .int 0, .null, .int 0, .int 0, .int 0, .int 0, .int 0, .int 0, .null, .null, .null, .int 0, .int 0, .int 0, .null, .null, .null, .null] (fun j hj => by
    rcases (show j = 0 ∨ j = 1 ∨ j = 2 ∨ j = 3 ∨ j = 4 ∨ j = 5 ∨ j = 6 ∨ j = 7 ∨ j = 8 ∨ j = 9 ∨ j = 10 ∨ j = 11 ∨ j = 12 ∨ j = 13 ∨ j = 14 ∨ j = 15 ∨ j = 16 ∨ j = 17 ∨ j = 18 ∨ j = 19 ∨ j = 20 ∨ j = 21 ∨ j = 22 ∨ j = 23 ∨ j = 24 ∨ j = 25 ∨ j = 26 ∨ j = 27 ∨ j = 28 ∨ j = 29 ∨ j = 30 ∨ j = 31 ∨ j = 32 ∨ j = 33 by omega) with rfl | rfl | rfl | rfl | rfl | rfl | rfl | rfl | rfl | rfl | rfl | rfl | rfl | rfl | rfl | rfl | rfl | rfl | rfl | rfl | rfl | rfl | rfl | rfl | rfl | rfl | rfl | rfl | rfl | rfl | rfl | rfl | rfl | rfl <;> rfl) nw_L_10 (Nat.le_of_ble_eq_true rfl) (Nat.le_of_ble_eq_true rfl) dL_law_8 (fun q1 => ?_)
    refine xn_dup C 11 rfl dL_law_11 ?_
    refine xn_ctor C 12 78 29864 (nW_X7_init (xE Γ) a) [55] [0, 1, 2, 3, 4, 5, 6, 7, 8, 9, 10, 11, 12, 13, 14, 15, 16, 17, 18, 19, 20, 21, 22, 23, 24, 25, 26, 27, 28, 29, 30, 31, 32, 33, 34, 35, 36, 37, 38, 39, 40, 41, 42, 43, 44, 45, 46, 47, 48, 49, 50, 51, 52, 53, 54] (nX8_init q1) nv_X8_init ml_L_12 (Nat.le_of_ble_eq_true rfl) (Nat.le_of_ble_eq_true rfl) rfl rfl (Nat.le_of_ble_eq_true rfl) (Nat.le_of_ble_eq_true rfl) rfl rfl rfl rfl (by decide) rfl rfl (Nat.le_of_ble_eq_true rfl) dL_law_12 (fun b' hb' => ?_)
    subst hb'
    refine xn_astore_n C 15 dL_law_15 (xnb hL rfl) ?_
    refine xn_iconst C 16 0 (by decide +kernel) dL_law_16 ?_
    refine xn_istore_n C 17 dL_law_17 (xnb hL rfl) ?_
    intro H locs ls hP hD hS hl
    subst hΓ
    have C1 : xOK (l, iAd a b', G, p, e, room_1, s, m, #[Value.ref b], below, meth, c, lw_Z below #[Value.ref b] s, (fun q : Nat => s.heap.size ≤ q), 4, 78, 29864) cL_law RL 20 := ⟨C.x, C.b, C.ml, C.o, C.t, C.a, C.k, fun w => i_D hD w, C.e, C.f, C.l, (Nat.le_of_ble_eq_true rfl), (Nat.le_of_ble_eq_true rfl)⟩
    have E1 : xLaw (l, iAd a b', G, p, e, room_1, s, m, #[Value.ref b], below, meth, c, lw_Z below #[Value.ref b] s, (fun q : Nat => s.heap.size ≤ q), 4, 78, 29864) b L xs := ⟨rfl, rfl, rfl, hr, hlocks, (Nat.le_of_ble_eq_true rfl), (Nat.le_of_ble_eq_true rfl), hX, hbl, fun _ h => h⟩
    exact xG.sub (bLaw_18 C1 rfl E1 N w0 0 hlaw) ⟨rfl, rfl, rfl, rfl, trivial⟩ H locs ls (i_P hP) hS hl
  exact key _ rfl ⟨hx, hb, hml, hown, goodW hts, hA, hK, hE, (Nat.le_of_ble_eq_true rfl), (Nat.le_of_ble_eq_true rfl), (Nat.le_of_ble_eq_true rfl), (Nat.le_of_ble_eq_true rfl)⟩ s.heap [] ls (fun k q h => by simp at h) ⟨fun i j p q h => by simp at h, fun k q h => by simp at h⟩ va_S.rf hl
