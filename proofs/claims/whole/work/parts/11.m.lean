def fX8_turned_0 (N : Nat) (w : xW) (x1 : Int32) : Option (xW × Int32) :=
  if (fX8_isTick x1) = 0 then
    (fX8_finding w (-1000000001)).bind fun z1 =>
    some (z1.1, z1.2)
  else
  (fX8_turnedAt N w x1).bind fun z3 =>
  some (z3.1, z3.2)
def fX8_turned (N : Nat) (w : xW) (x1 : Int32) : Option (xW × Int32) := fX8_turned_0 N w x1
set_option maxRecDepth 100000 in
set_option maxHeartbeats 4000000 in
theorem bX8_turned_0 {Γ : xΓ} (C : xOK Γ cX8_turned RX8 5) (hL : xn Γ = 2) {N : Nat} {w : xW} {x1 : Int32} {r : xW × Int32} (E : xEnd Γ (some .int) r.1 (some (.int r.2))) (h : fX8_turned_0 N w x1 = some r) : xG Γ w 0 [(0, .ref (xad Γ 55)), (1, .int x1)] [] := by
  unfold fX8_turned_0 at h
  refine xr_iload_n C 0 rfl dX8_turned_0 ?_
  refine xr_callS C 1 (mX8_isTick rfl) v_X8_isTick ml_X8_137 (Nat.le_of_ble_eq_true rfl) (Nat.le_of_ble_eq_true rfl) rfl rfl (Nat.le_of_ble_eq_true rfl) rfl dX8_turned_1 ?_
  refine xr_if_eq C 4 15 dX8_turned_4 rfl (fun q => ?_) (fun q => ?_)
  · have h := g_it h q
    refine xr_aload_n C 15 rfl dX8_turned_15 ?_
    refine xr_ldc C 16 k_X8_98 dX8_turned_16 ?_
    obtain ⟨z1, q2, h⟩ := g_bind h
    refine xr_callV C 18 (mX8_finding q2) v_X8_finding ml_X8_125 (Nat.le_of_ble_eq_true rfl) (Nat.le_of_ble_eq_true rfl) (xrecv C rfl rfl) rfl rfl (Nat.le_of_ble_eq_true rfl) rfl dX8_turned_18 ?_
    cases h
    exact xr_iret C 21 E dX8_turned_21
  · have h := g_if h q
    refine xr_aload_n C 7 rfl dX8_turned_7 ?_
    refine xr_iload_n C 8 rfl dX8_turned_8 ?_
    obtain ⟨z3, q4, h⟩ := g_bind h
    refine xr_callV C 9 (mX8_turnedAt q4) v_X8_turnedAt ml_X8_140 (Nat.le_of_ble_eq_true rfl) (Nat.le_of_ble_eq_true rfl) (xrecv C rfl rfl) rfl rfl (Nat.le_of_ble_eq_true rfl) rfl dX8_turned_9 ?_
    refine xr_goto C 12 21 dX8_turned_12 rfl ?_
    cases h
    exact xr_iret C 21 E dX8_turned_21
set_option maxRecDepth 100000 in
set_option maxHeartbeats 4000000 in
theorem mX8_turned {l : Launch} {ad : Nat → Nat} {G : gEnv} {N : Nat} {w : xW} {x1 : Int32} {r : xW × Int32} (h : fX8_turned N w x1 = some r) : xCt l ad G 5 yX8_turned cX8_turned 2 (some .int) [.ref (ad 55), .int x1] w r.1 (some (.int r.2)) := xCt.of RX8 rfl (by decide +kernel) (Nat.le_of_ble_eq_true rfl) (fun Γ el ea eG eL C E => by
    subst el
    subst ea
    subst eG
    unfold fX8_turned at h
    exact xG.sub (bX8_turned_0 C eL  E h) ⟨rfl, rfl, trivial⟩)
def fX7_between_0 (N : Nat) (w : xW) (x1 : Int32) : Option (xW × Int32) :=
  if (fX7_isTick x1) = 0 then
    (fX7_refuse w (-1000000001)).bind fun z3 =>
    some (z3.1, z3.2)
  else
  (fX6_at N w x1).bind fun z1 =>
  if (z1.1 2 4) = 0 then
    some (z1, 0)
  else
  some (z1, 1)
def fX7_between (N : Nat) (w : xW) (x1 : Int32) : Option (xW × Int32) := fX7_between_0 N w x1
set_option maxRecDepth 100000 in
set_option maxHeartbeats 4000000 in
theorem bX7_between_0 {Γ : xΓ} (C : xOK Γ cX7_between RX7 3) (hL : xn Γ = 2) {N : Nat} {w : xW} {x1 : Int32} {r : xW × Int32} (E : xEnd Γ (some .int) r.1 (some (.int r.2))) (h : fX7_between_0 N w x1 = some r) : xG Γ w 0 [(0, .ref (xad Γ 0)), (1, .int x1)] [] := by
  unfold fX7_between_0 at h
  refine xr_iload_n C 0 rfl dX7_between_0 ?_
  refine xr_callS C 1 (mX7_isTick rfl) v_X7_isTick ml_X7_104 (Nat.le_of_ble_eq_true rfl) (Nat.le_of_ble_eq_true rfl) rfl rfl (Nat.le_of_ble_eq_true rfl) rfl dX7_between_1 ?_
  refine xr_if_ne C 4 14 dX7_between_4 rfl (fun q => ?_) (fun q => ?_)
  · have h := g_if h q
    refine xr_aload_n C 14 rfl dX7_between_14 ?_
    refine xr_getR C 15 dX7_between_15 fl_X7_10 rfl rfl ?_
    refine xr_getR C 18 dX7_between_18 fl_X7_77 rfl rfl ?_
    refine xr_iload_n C 21 rfl dX7_between_21 ?_
    obtain ⟨z1, q2, h⟩ := g_bind h
    refine xr_callV C 22 (mX6_at q2) v_X6_at ml_X7_107 (Nat.le_of_ble_eq_true rfl) (Nat.le_of_ble_eq_true rfl) (xrecv C rfl rfl) rfl rfl (Nat.le_of_ble_eq_true rfl) rfl dX7_between_22 ?_
    refine xr_aload_n C 25 rfl dX7_between_25 ?_
    refine xr_getR C 26 dX7_between_26 fl_X7_10 rfl rfl ?_
    refine xr_getR C 29 dX7_between_29 fl_X7_77 rfl rfl ?_
    refine xr_getI C 32 dX7_between_32 fl_X7_114 rfl rfl ?_
    refine xr_if_eq C 35 42 dX7_between_35 rfl (fun q => ?_) (fun q => ?_)
    · have h := g_it h q
      refine xr_iconst C 42 0 (by decide +kernel) dX7_between_42 ?_
      cases h
      exact xr_iret C 43 E dX7_between_43
    · have h := g_if h q
      refine xr_iconst C 38 1 (by decide +kernel) dX7_between_38 ?_
      refine xr_goto C 39 43 dX7_between_39 rfl ?_
      cases h
      exact xr_iret C 43 E dX7_between_43
  · have h := g_it h q
    refine xr_aload_n C 7 rfl dX7_between_7 ?_
    refine xr_ldc C 8 k_X7_69 dX7_between_8 ?_
    obtain ⟨z3, q4, h⟩ := g_bind h
    refine xr_callV C 10 (mX7_refuse q4) v_X7_refuse ml_X7_70 (Nat.le_of_ble_eq_true rfl) (Nat.le_of_ble_eq_true rfl) (xrecv C rfl rfl) rfl rfl (Nat.le_of_ble_eq_true rfl) rfl dX7_between_10 ?_
    cases h
    exact xr_iret C 13 E dX7_between_13
set_option maxRecDepth 100000 in
set_option maxHeartbeats 4000000 in
theorem mX7_between {l : Launch} {ad : Nat → Nat} {G : gEnv} {N : Nat} {w : xW} {x1 : Int32} {r : xW × Int32} (h : fX7_between N w x1 = some r) : xCt l ad G 3 yX7_between cX7_between 2 (some .int) [.ref (ad 0), .int x1] w r.1 (some (.int r.2)) := xCt.of RX7 rfl (by decide +kernel) (Nat.le_of_ble_eq_true rfl) (fun Γ el ea eG eL C E => by
    subst el
    subst ea
    subst eG
    unfold fX7_between at h
    exact xG.sub (bX7_between_0 C eL  E h) ⟨rfl, rfl, trivial⟩)
def fX8_stillAt_11 (N : Nat) (w : xW) (x1 : Int32) : Option (xW × Int32) :=
  if ibd x1 14000 = true then
  some (w, w.1 62 x1.toNatClampNeg)
  else none
def fX8_stillAt_0 (N : Nat) (w : xW) (x1 : Int32) : Option (xW × Int32) :=
  if (w.1 55 8) = 0 then
    (fX8_findTides N w).bind fun z1 =>
    fX8_stillAt_11 N z1 x1
  else
  fX8_stillAt_11 N w x1
def fX8_stillAt (N : Nat) (w : xW) (x1 : Int32) : Option (xW × Int32) := fX8_stillAt_0 N w x1
set_option maxRecDepth 100000 in
set_option maxHeartbeats 4000000 in
theorem bX8_stillAt_11 {Γ : xΓ} (C : xOK Γ cX8_stillAt RX8 4) (hL : xn Γ = 2) {N : Nat} {w : xW} {x1 : Int32} {r : xW × Int32} (E : xEnd Γ (some .int) r.1 (some (.int r.2))) (h : fX8_stillAt_11 N w x1 = some r) : xG Γ w 11 [(0, .ref (xad Γ 55)), (1, .int x1)] [] := by
  unfold fX8_stillAt_11 at h
  refine xr_aload_n C 11 rfl dX8_stillAt_11 ?_
  refine xr_getR C 12 dX8_stillAt_12 fl_X8_28 rfl rfl ?_
  refine xr_iload_n C 15 rfl dX8_stillAt_15 ?_
  obtain ⟨q3, h⟩ := g_ib h
  refine xr_iald C 16 x1.toNatClampNeg rfl dX8_stillAt_16 rfl (ibd_in q3) ?_
  cases h
  exact xr_iret C 17 E dX8_stillAt_17
set_option maxRecDepth 100000 in
set_option maxHeartbeats 4000000 in
theorem bX8_stillAt_0 {Γ : xΓ} (C : xOK Γ cX8_stillAt RX8 4) (hL : xn Γ = 2) {N : Nat} {w : xW} {x1 : Int32} {r : xW × Int32} (E : xEnd Γ (some .int) r.1 (some (.int r.2))) (h : fX8_stillAt_0 N w x1 = some r) : xG Γ w 0 [(0, .ref (xad Γ 55)), (1, .int x1)] [] := by
  unfold fX8_stillAt_0 at h
  refine xr_aload_n C 0 rfl dX8_stillAt_0 ?_
  refine xr_getI C 1 dX8_stillAt_1 fl_X8_114 rfl rfl ?_
  refine xr_if_ne C 4 11 dX8_stillAt_4 rfl (fun q => ?_) (fun q => ?_)
  · have h := g_if h q
    exact xG.sub (bX8_stillAt_11 C hL E h) ⟨rfl, rfl, trivial⟩
  · have h := g_it h q
    refine xr_aload_n C 7 rfl dX8_stillAt_7 ?_
    obtain ⟨z1, q2, h⟩ := g_bind h
    refine xr_callV C 8 (mX8_findTides q2) v_X8_findTides ml_X8_118 (Nat.le_of_ble_eq_true rfl) (Nat.le_of_ble_eq_true rfl) (xrecv C rfl rfl) rfl rfl (Nat.le_of_ble_eq_true rfl) rfl dX8_stillAt_8 ?_
    exact xG.sub (bX8_stillAt_11 C hL E h) ⟨rfl, rfl, trivial⟩
set_option maxRecDepth 100000 in
set_option maxHeartbeats 4000000 in
theorem mX8_stillAt {l : Launch} {ad : Nat → Nat} {G : gEnv} {N : Nat} {w : xW} {x1 : Int32} {r : xW × Int32} (h : fX8_stillAt N w x1 = some r) : xCt l ad G 4 yX8_stillAt cX8_stillAt 2 (some .int) [.ref (ad 55), .int x1] w r.1 (some (.int r.2)) := xCt.of RX8 rfl (by decide +kernel) (Nat.le_of_ble_eq_true rfl) (fun Γ el ea eG eL C E => by
    subst el
    subst ea
    subst eG
    unfold fX8_stillAt at h
    exact xG.sub (bX8_stillAt_0 C eL  E h) ⟨rfl, rfl, trivial⟩)
def fX8_between_0 (N : Nat) (w : xW) (x1 : Int32) : Option (xW × Int32) :=
  if (fX8_isTick x1) = 0 then
    (fX8_finding w (-1000000001)).bind fun z1 =>
    some (z1.1, z1.2)
  else
  (fX8_stillAt N w x1).bind fun z3 =>
  if z3.2 = 0 then
    some (z3.1, 1)
  else
  some (z3.1, 0)
def fX8_between (N : Nat) (w : xW) (x1 : Int32) : Option (xW × Int32) := fX8_between_0 N w x1
set_option maxRecDepth 100000 in
set_option maxHeartbeats 4000000 in
theorem bX8_between_0 {Γ : xΓ} (C : xOK Γ cX8_between RX8 5) (hL : xn Γ = 2) {N : Nat} {w : xW} {x1 : Int32} {r : xW × Int32} (E : xEnd Γ (some .int) r.1 (some (.int r.2))) (h : fX8_between_0 N w x1 = some r) : xG Γ w 0 [(0, .ref (xad Γ 55)), (1, .int x1)] [] := by
  unfold fX8_between_0 at h
  refine xr_iload_n C 0 rfl dX8_between_0 ?_
  refine xr_callS C 1 (mX8_isTick rfl) v_X8_isTick ml_X8_137 (Nat.le_of_ble_eq_true rfl) (Nat.le_of_ble_eq_true rfl) rfl rfl (Nat.le_of_ble_eq_true rfl) rfl dX8_between_1 ?_
  refine xr_if_eq C 4 23 dX8_between_4 rfl (fun q => ?_) (fun q => ?_)
  · have h := g_it h q
    refine xr_aload_n C 23 rfl dX8_between_23 ?_
    refine xr_ldc C 24 k_X8_98 dX8_between_24 ?_
    obtain ⟨z1, q2, h⟩ := g_bind h
    refine xr_callV C 26 (mX8_finding q2) v_X8_finding ml_X8_125 (Nat.le_of_ble_eq_true rfl) (Nat.le_of_ble_eq_true rfl) (xrecv C rfl rfl) rfl rfl (Nat.le_of_ble_eq_true rfl) rfl dX8_between_26 ?_
    cases h
    exact xr_iret C 29 E dX8_between_29
  · have h := g_if h q
    refine xr_aload_n C 7 rfl dX8_between_7 ?_
    refine xr_iload_n C 8 rfl dX8_between_8 ?_
    obtain ⟨z3, q4, h⟩ := g_bind h
    refine xr_callV C 9 (mX8_stillAt q4) v_X8_stillAt ml_X8_143 (Nat.le_of_ble_eq_true rfl) (Nat.le_of_ble_eq_true rfl) (xrecv C rfl rfl) rfl rfl (Nat.le_of_ble_eq_true rfl) rfl dX8_between_9 ?_
    refine xr_if_ne C 12 19 dX8_between_12 rfl (fun q => ?_) (fun q => ?_)
    · have h := g_if h q
      refine xr_iconst C 19 0 (by decide +kernel) dX8_between_19 ?_
      refine xr_goto C 20 29 dX8_between_20 rfl ?_
      cases h
      exact xr_iret C 29 E dX8_between_29
    · have h := g_it h q
      refine xr_iconst C 15 1 (by decide +kernel) dX8_between_15 ?_
      refine xr_goto C 16 29 dX8_between_16 rfl ?_
      cases h
      exact xr_iret C 29 E dX8_between_29
set_option maxRecDepth 100000 in
set_option maxHeartbeats 4000000 in
theorem mX8_between {l : Launch} {ad : Nat → Nat} {G : gEnv} {N : Nat} {w : xW} {x1 : Int32} {r : xW × Int32} (h : fX8_between N w x1 = some r) : xCt l ad G 5 yX8_between cX8_between 2 (some .int) [.ref (ad 55), .int x1] w r.1 (some (.int r.2)) := xCt.of RX8 rfl (by decide +kernel) (Nat.le_of_ble_eq_true rfl) (fun Γ el ea eG eL C E => by
    subst el
    subst ea
    subst eG
    unfold fX8_between at h
    exact xG.sub (bX8_between_0 C eL  E h) ⟨rfl, rfl, trivial⟩)
def fX6_sideOf_0 (w : xW) (x1 : Int32) : Int32 :=
  if (w.1 2 4) = 0 then
    (x1 + (w.1 2 3)) &&& 3
  else
  (-1)
def fX6_sideOf (w : xW) (x1 : Int32) : Int32 := fX6_sideOf_0 w x1
set_option maxRecDepth 100000 in
set_option maxHeartbeats 4000000 in
theorem bX6_sideOf_0 {Γ : xΓ} (C : xOK Γ cX6_sideOf RX6 1) (hL : xn Γ = 2) {w : xW} {x1 : Int32} {r : Int32} (E : xEnd Γ (some .int) w (some (.int r))) (h : fX6_sideOf_0 w x1 = r) : xG Γ w 0 [(0, .ref (xad Γ 2)), (1, .int x1)] [] := by
  unfold fX6_sideOf_0 at h
  refine xr_aload_n C 0 rfl dX6_sideOf_0 ?_
  refine xr_getI C 1 dX6_sideOf_1 fl_X6_57 rfl rfl ?_
  refine xr_if_eq C 4 11 dX6_sideOf_4 rfl (fun q => ?_) (fun q => ?_)
  · have h := g_it h q
    refine xr_iload_n C 11 rfl dX6_sideOf_11 ?_
    refine xr_aload_n C 12 rfl dX6_sideOf_12 ?_
    refine xr_getI C 13 dX6_sideOf_13 fl_X6_54 rfl rfl ?_
    refine xr_iadd C 16 dX6_sideOf_16 ?_
    refine xr_iconst C 17 3 (by decide +kernel) dX6_sideOf_17 ?_
    refine xr_iand C 18 dX6_sideOf_18 ?_
    cases h
    exact xr_iret C 19 E dX6_sideOf_19
  · have h := g_if h q
    refine xr_iconst C 7 (-1) (by decide +kernel) dX6_sideOf_7 ?_
    refine xr_goto C 8 19 dX6_sideOf_8 rfl ?_
    cases h
    exact xr_iret C 19 E dX6_sideOf_19
set_option maxRecDepth 100000 in
set_option maxHeartbeats 4000000 in
theorem mX6_sideOf {l : Launch} {ad : Nat → Nat} {G : gEnv} {w : xW} {x1 : Int32} {r : Int32} (h : fX6_sideOf w x1 = r) : xCt l ad G 1 yX6_sideOf cX6_sideOf 2 (some .int) [.ref (ad 2), .int x1] w w (some (.int r)) := xCt.of RX6 rfl (by decide +kernel) (Nat.le_of_ble_eq_true rfl) (fun Γ el ea eG eL C E => by
    subst el
    subst ea
    subst eG
    unfold fX6_sideOf at h
    exact xG.sub (bX6_sideOf_0 C eL  E h) ⟨rfl, rfl, trivial⟩)
def fX7_looks_14 (N : Nat) (w : xW) : Option (xW × Int32) :=
  (fX7_refuse w (-1000000001)).bind fun z3 =>
  some (z3.1, z3.2)
def fX7_looks_0 (N : Nat) (w : xW) (x1 : Int32) (x2 : Int32) : Option (xW × Int32) :=
  if (fX7_isSide x1) = 0 then
    fX7_looks_14 N w
  else
  if (fX7_isTick x2) = 0 then
    fX7_looks_14 N w
  else
  (fX6_at N w x2).bind fun z1 =>
  some (z1, (fX6_sideOf z1 x1))
def fX7_looks (N : Nat) (w : xW) (x1 : Int32) (x2 : Int32) : Option (xW × Int32) := fX7_looks_0 N w x1 x2
set_option maxRecDepth 100000 in
set_option maxHeartbeats 4000000 in
theorem bX7_looks_14 {Γ : xΓ} (C : xOK Γ cX7_looks RX7 3) (hL : xn Γ = 3) {N : Nat} {w : xW} {r : xW × Int32} (E : xEnd Γ (some .int) r.1 (some (.int r.2))) (h : fX7_looks_14 N w = some r) : xG Γ w 14 [(0, .ref (xad Γ 0))] [] := by
  unfold fX7_looks_14 at h
  refine xr_aload_n C 14 rfl dX7_looks_14 ?_
  refine xr_ldc C 15 k_X7_69 dX7_looks_15 ?_
  obtain ⟨z3, q4, h⟩ := g_bind h
  refine xr_callV C 17 (mX7_refuse q4) v_X7_refuse ml_X7_70 (Nat.le_of_ble_eq_true rfl) (Nat.le_of_ble_eq_true rfl) (xrecv C rfl rfl) rfl rfl (Nat.le_of_ble_eq_true rfl) rfl dX7_looks_17 ?_
  cases h
  exact xr_iret C 20 E dX7_looks_20
set_option maxRecDepth 100000 in
set_option maxHeartbeats 4000000 in
theorem bX7_looks_0 {Γ : xΓ} (C : xOK Γ cX7_looks RX7 3) (hL : xn Γ = 3) {N : Nat} {w : xW} {x1 : Int32} {x2 : Int32} {r : xW × Int32} (E : xEnd Γ (some .int) r.1 (some (.int r.2))) (h : fX7_looks_0 N w x1 x2 = some r) : xG Γ w 0 [(0, .ref (xad Γ 0)), (1, .int x1), (2, .int x2)] [] := by
  unfold fX7_looks_0 at h
  refine xr_iload_n C 0 rfl dX7_looks_0 ?_
  refine xr_callS C 1 (mX7_isSide rfl) v_X7_isSide ml_X7_87 (Nat.le_of_ble_eq_true rfl) (Nat.le_of_ble_eq_true rfl) rfl rfl (Nat.le_of_ble_eq_true rfl) rfl dX7_looks_1 ?_
  refine xr_if_eq C 4 14 dX7_looks_4 rfl (fun q => ?_) (fun q => ?_)
  · have h := g_it h q
    exact xG.sub (bX7_looks_14 C hL E h) ⟨rfl, trivial⟩
  · have h := g_if h q
    refine xr_iload_n C 7 rfl dX7_looks_7 ?_
    refine xr_callS C 8 (mX7_isTick rfl) v_X7_isTick ml_X7_104 (Nat.le_of_ble_eq_true rfl) (Nat.le_of_ble_eq_true rfl) rfl rfl (Nat.le_of_ble_eq_true rfl) rfl dX7_looks_8 ?_
    refine xr_if_ne C 11 21 dX7_looks_11 rfl (fun q => ?_) (fun q => ?_)
    · have h := g_if h q
      refine xr_aload_n C 21 rfl dX7_looks_21 ?_
      refine xr_getR C 22 dX7_looks_22 fl_X7_10 rfl rfl ?_
      refine xr_getR C 25 dX7_looks_25 fl_X7_77 rfl rfl ?_
      refine xr_iload_n C 28 rfl dX7_looks_28 ?_
      obtain ⟨z1, q2, h⟩ := g_bind h
      refine xr_callV C 29 (mX6_at q2) v_X6_at ml_X7_107 (Nat.le_of_ble_eq_true rfl) (Nat.le_of_ble_eq_true rfl) (xrecv C rfl rfl) rfl rfl (Nat.le_of_ble_eq_true rfl) rfl dX7_looks_29 ?_
      refine xr_aload_n C 32 rfl dX7_looks_32 ?_
      refine xr_getR C 33 dX7_looks_33 fl_X7_10 rfl rfl ?_
      refine xr_getR C 36 dX7_looks_36 fl_X7_77 rfl rfl ?_
      refine xr_iload_n C 39 rfl dX7_looks_39 ?_
      refine xr_callV C 40 (mX6_sideOf rfl) v_X6_sideOf ml_X7_117 (Nat.le_of_ble_eq_true rfl) (Nat.le_of_ble_eq_true rfl) (xrecv C rfl rfl) rfl rfl (Nat.le_of_ble_eq_true rfl) rfl dX7_looks_40 ?_
      cases h
      exact xr_iret C 43 E dX7_looks_43
    · have h := g_it h q
      exact xG.sub (bX7_looks_14 C hL E h) ⟨rfl, trivial⟩
set_option maxRecDepth 100000 in
set_option maxHeartbeats 4000000 in
theorem mX7_looks {l : Launch} {ad : Nat → Nat} {G : gEnv} {N : Nat} {w : xW} {x1 : Int32} {x2 : Int32} {r : xW × Int32} (h : fX7_looks N w x1 x2 = some r) : xCt l ad G 3 yX7_looks cX7_looks 3 (some .int) [.ref (ad 0), .int x1, .int x2] w r.1 (some (.int r.2)) := xCt.of RX7 rfl (by decide +kernel) (Nat.le_of_ble_eq_true rfl) (fun Γ el ea eG eL C E => by
    subst el
    subst ea
    subst eG
    unfold fX7_looks at h
    exact xG.sub (bX7_looks_0 C eL  E h) ⟨rfl, rfl, rfl, trivial⟩)
def fX8_sideOf_0 (N : Nat) (w : xW) (x1 : Int32) (x2 : Int32) : Option (xW × Int32) :=
  (fX8_stillAt N w x2).bind fun z1 =>
  if z1.2 = 0 then
    some (z1.1, (-1))
  else
  (fX8_turnedAt N z1.1 x2).bind fun z3 =>
  some (z3.1, irem (x1 + z3.2) 4)
def fX8_sideOf (N : Nat) (w : xW) (x1 : Int32) (x2 : Int32) : Option (xW × Int32) := fX8_sideOf_0 N w x1 x2
set_option maxRecDepth 100000 in
set_option maxHeartbeats 4000000 in
theorem bX8_sideOf_0 {Γ : xΓ} (C : xOK Γ cX8_sideOf RX8 5) (hL : xn Γ = 3) {N : Nat} {w : xW} {x1 : Int32} {x2 : Int32} {r : xW × Int32} (E : xEnd Γ (some .int) r.1 (some (.int r.2))) (h : fX8_sideOf_0 N w x1 x2 = some r) : xG Γ w 0 [(0, .ref (xad Γ 55)), (1, .int x1), (2, .int x2)] [] := by
  unfold fX8_sideOf_0 at h
  refine xr_aload_n C 0 rfl dX8_sideOf_0 ?_
  refine xr_iload_n C 1 rfl dX8_sideOf_1 ?_
  obtain ⟨z1, q2, h⟩ := g_bind h
  refine xr_callV C 2 (mX8_stillAt q2) v_X8_stillAt ml_X8_143 (Nat.le_of_ble_eq_true rfl) (Nat.le_of_ble_eq_true rfl) (xrecv C rfl rfl) rfl rfl (Nat.le_of_ble_eq_true rfl) rfl dX8_sideOf_2 ?_
  refine xr_if_ne C 5 12 dX8_sideOf_5 rfl (fun q => ?_) (fun q => ?_)
  · have h := g_if h q
    refine xr_iload_n C 12 rfl dX8_sideOf_12 ?_
    refine xr_aload_n C 13 rfl dX8_sideOf_13 ?_
    refine xr_iload_n C 14 rfl dX8_sideOf_14 ?_
    obtain ⟨z3, q4, h⟩ := g_bind h
    refine xr_callV C 15 (mX8_turnedAt q4) v_X8_turnedAt ml_X8_140 (Nat.le_of_ble_eq_true rfl) (Nat.le_of_ble_eq_true rfl) (xrecv C rfl rfl) rfl rfl (Nat.le_of_ble_eq_true rfl) rfl dX8_sideOf_15 ?_
    refine xr_iadd C 18 dX8_sideOf_18 ?_
    refine xr_iconst C 19 4 (by decide +kernel) dX8_sideOf_19 ?_
    refine xr_irem C 20 (by decide +kernel) dX8_sideOf_20 ?_
    cases h
    exact xr_iret C 21 E dX8_sideOf_21
  · have h := g_it h q
    refine xr_iconst C 8 (-1) (by decide +kernel) dX8_sideOf_8 ?_
    refine xr_goto C 9 21 dX8_sideOf_9 rfl ?_
    cases h
    exact xr_iret C 21 E dX8_sideOf_21
set_option maxRecDepth 100000 in
set_option maxHeartbeats 4000000 in
theorem mX8_sideOf {l : Launch} {ad : Nat → Nat} {G : gEnv} {N : Nat} {w : xW} {x1 : Int32} {x2 : Int32} {r : xW × Int32} (h : fX8_sideOf N w x1 x2 = some r) : xCt l ad G 5 yX8_sideOf cX8_sideOf 3 (some .int) [.ref (ad 55), .int x1, .int x2] w r.1 (some (.int r.2)) := xCt.of RX8 rfl (by decide +kernel) (Nat.le_of_ble_eq_true rfl) (fun Γ el ea eG eL C E => by
    subst el
    subst ea
    subst eG
    unfold fX8_sideOf at h
    exact xG.sub (bX8_sideOf_0 C eL  E h) ⟨rfl, rfl, rfl, trivial⟩)
def fX8_looks_23 (N : Nat) (w : xW) : Option (xW × Int32) :=
  (fX8_finding w (-1000000001)).bind fun z3 =>
  some (z3.1, z3.2)
def fX8_looks_0 (N : Nat) (w : xW) (x1 : Int32) (x2 : Int32) : Option (xW × Int32) :=
  if (fX8_isSide x1) = 0 then
    fX8_looks_23 N w
  else
  if (fX8_isTick x2) = 0 then
    fX8_looks_23 N w
  else
  (fX8_sideOf N w x1 x2).bind fun z1 =>
  some (z1.1, z1.2)
def fX8_looks (N : Nat) (w : xW) (x1 : Int32) (x2 : Int32) : Option (xW × Int32) := fX8_looks_0 N w x1 x2
set_option maxRecDepth 100000 in
set_option maxHeartbeats 4000000 in
theorem bX8_looks_23 {Γ : xΓ} (C : xOK Γ cX8_looks RX8 6) (hL : xn Γ = 3) {N : Nat} {w : xW} {r : xW × Int32} (E : xEnd Γ (some .int) r.1 (some (.int r.2))) (h : fX8_looks_23 N w = some r) : xG Γ w 23 [(0, .ref (xad Γ 55))] [] := by
  unfold fX8_looks_23 at h
  refine xr_aload_n C 23 rfl dX8_looks_23 ?_
  refine xr_ldc C 24 k_X8_98 dX8_looks_24 ?_
  obtain ⟨z3, q4, h⟩ := g_bind h
  refine xr_callV C 26 (mX8_finding q4) v_X8_finding ml_X8_125 (Nat.le_of_ble_eq_true rfl) (Nat.le_of_ble_eq_true rfl) (xrecv C rfl rfl) rfl rfl (Nat.le_of_ble_eq_true rfl) rfl dX8_looks_26 ?_
  cases h
  exact xr_iret C 29 E dX8_looks_29
set_option maxRecDepth 100000 in
set_option maxHeartbeats 4000000 in
theorem bX8_looks_0 {Γ : xΓ} (C : xOK Γ cX8_looks RX8 6) (hL : xn Γ = 3) {N : Nat} {w : xW} {x1 : Int32} {x2 : Int32} {r : xW × Int32} (E : xEnd Γ (some .int) r.1 (some (.int r.2))) (h : fX8_looks_0 N w x1 x2 = some r) : xG Γ w 0 [(0, .ref (xad Γ 55)), (1, .int x1), (2, .int x2)] [] := by
  unfold fX8_looks_0 at h
  refine xr_iload_n C 0 rfl dX8_looks_0 ?_
  refine xr_callS C 1 (mX8_isSide rfl) v_X8_isSide ml_X8_133 (Nat.le_of_ble_eq_true rfl) (Nat.le_of_ble_eq_true rfl) rfl rfl (Nat.le_of_ble_eq_true rfl) rfl dX8_looks_1 ?_
  refine xr_if_eq C 4 23 dX8_looks_4 rfl (fun q => ?_) (fun q => ?_)
  · have h := g_it h q
    exact xG.sub (bX8_looks_23 C hL E h) ⟨rfl, trivial⟩
  · have h := g_if h q
    refine xr_iload_n C 7 rfl dX8_looks_7 ?_
    refine xr_callS C 8 (mX8_isTick rfl) v_X8_isTick ml_X8_137 (Nat.le_of_ble_eq_true rfl) (Nat.le_of_ble_eq_true rfl) rfl rfl (Nat.le_of_ble_eq_true rfl) rfl dX8_looks_8 ?_
    refine xr_if_eq C 11 23 dX8_looks_11 rfl (fun q => ?_) (fun q => ?_)
    · have h := g_it h q
      exact xG.sub (bX8_looks_23 C hL E h) ⟨rfl, trivial⟩
    · have h := g_if h q
      refine xr_aload_n C 14 rfl dX8_looks_14 ?_
      refine xr_iload_n C 15 rfl dX8_looks_15 ?_
      refine xr_iload_n C 16 rfl dX8_looks_16 ?_
      obtain ⟨z1, q2, h⟩ := g_bind h
      refine xr_callV C 17 (mX8_sideOf q2) v_X8_sideOf ml_X8_146 (Nat.le_of_ble_eq_true rfl) (Nat.le_of_ble_eq_true rfl) (xrecv C rfl rfl) rfl rfl (Nat.le_of_ble_eq_true rfl) rfl dX8_looks_17 ?_
      refine xr_goto C 20 29 dX8_looks_20 rfl ?_
      cases h
      exact xr_iret C 29 E dX8_looks_29
set_option maxRecDepth 100000 in
set_option maxHeartbeats 4000000 in
theorem mX8_looks {l : Launch} {ad : Nat → Nat} {G : gEnv} {N : Nat} {w : xW} {x1 : Int32} {x2 : Int32} {r : xW × Int32} (h : fX8_looks N w x1 x2 = some r) : xCt l ad G 6 yX8_looks cX8_looks 3 (some .int) [.ref (ad 55), .int x1, .int x2] w r.1 (some (.int r.2)) := xCt.of RX8 rfl (by decide +kernel) (Nat.le_of_ble_eq_true rfl) (fun Γ el ea eG eL C E => by
    subst el
    subst ea
    subst eG
    unfold fX8_looks at h
    exact xG.sub (bX8_looks_0 C eL  E h) ⟨rfl, rfl, rfl, trivial⟩)
def fX6_frontTo_0 (w : xW) (x1 : Int32) : Int32 :=
  (x1 - (w.1 2 3)) &&& 3
def fX6_frontTo (w : xW) (x1 : Int32) : Int32 := fX6_frontTo_0 w x1
set_option maxRecDepth 100000 in
set_option maxHeartbeats 4000000 in
theorem bX6_frontTo_0 {Γ : xΓ} (C : xOK Γ cX6_frontTo RX6 1) (hL : xn Γ = 2) {w : xW} {x1 : Int32} {r : Int32} (E : xEnd Γ (some .int) w (some (.int r))) (h : fX6_frontTo_0 w x1 = r) : xG Γ w 0 [(0, .ref (xad Γ 2)), (1, .int x1)] [] := by
  unfold fX6_frontTo_0 at h
  refine xr_iload_n C 0 rfl dX6_frontTo_0 ?_
  refine xr_aload_n C 1 rfl dX6_frontTo_1 ?_
  refine xr_getI C 2 dX6_frontTo_2 fl_X6_54 rfl rfl ?_
  refine xr_isub C 5 dX6_frontTo_5 ?_
  refine xr_iconst C 6 3 (by decide +kernel) dX6_frontTo_6 ?_
  refine xr_iand C 7 dX6_frontTo_7 ?_
  cases h
  exact xr_iret C 8 E dX6_frontTo_8
set_option maxRecDepth 100000 in
set_option maxHeartbeats 4000000 in
theorem mX6_frontTo {l : Launch} {ad : Nat → Nat} {G : gEnv} {w : xW} {x1 : Int32} {r : Int32} (h : fX6_frontTo w x1 = r) : xCt l ad G 1 yX6_frontTo cX6_frontTo 2 (some .int) [.ref (ad 2), .int x1] w w (some (.int r)) := xCt.of RX6 rfl (by decide +kernel) (Nat.le_of_ble_eq_true rfl) (fun Γ el ea eG eL C E => by
    subst el
    subst ea
    subst eG
    unfold fX6_frontTo at h
    exact xG.sub (bX6_frontTo_0 C eL  E h) ⟨rfl, rfl, trivial⟩)
def fX7_front_14 (N : Nat) (w : xW) : Option (xW × Int32) :=
  (fX7_refuse w (-1000000001)).bind fun z5 =>
  some (z5.1, z5.2)
def fX7_front_0 (N : Nat) (w : xW) (x1 : Int32) (x2 : Int32) : Option (xW × Int32) :=
  if (fX7_isSide x1) = 0 then
    fX7_front_14 N w
  else
  if (fX7_isTick x2) = 0 then
    fX7_front_14 N w
  else
  (fX6_at N w x2).bind fun z1 =>
  if (z1.1 2 4) = 0 then
    some (z1, (fX6_frontTo z1 x1))
  else
  (fX7_refuse z1 (-1000000004)).bind fun z3 =>
  some (z3.1, z3.2)
def fX7_front (N : Nat) (w : xW) (x1 : Int32) (x2 : Int32) : Option (xW × Int32) := fX7_front_0 N w x1 x2
set_option maxRecDepth 100000 in
set_option maxHeartbeats 4000000 in
theorem bX7_front_14 {Γ : xΓ} (C : xOK Γ cX7_front RX7 3) (hL : xn Γ = 3) {N : Nat} {w : xW} {r : xW × Int32} (E : xEnd Γ (some .int) r.1 (some (.int r.2))) (h : fX7_front_14 N w = some r) : xG Γ w 14 [(0, .ref (xad Γ 0))] [] := by
  unfold fX7_front_14 at h
  refine xr_aload_n C 14 rfl dX7_front_14 ?_
  refine xr_ldc C 15 k_X7_69 dX7_front_15 ?_
  obtain ⟨z5, q6, h⟩ := g_bind h
  refine xr_callV C 17 (mX7_refuse q6) v_X7_refuse ml_X7_70 (Nat.le_of_ble_eq_true rfl) (Nat.le_of_ble_eq_true rfl) (xrecv C rfl rfl) rfl rfl (Nat.le_of_ble_eq_true rfl) rfl dX7_front_17 ?_
  cases h
  exact xr_iret C 20 E dX7_front_20
set_option maxRecDepth 100000 in
set_option maxHeartbeats 4000000 in
theorem bX7_front_0 {Γ : xΓ} (C : xOK Γ cX7_front RX7 3) (hL : xn Γ = 3) {N : Nat} {w : xW} {x1 : Int32} {x2 : Int32} {r : xW × Int32} (E : xEnd Γ (some .int) r.1 (some (.int r.2))) (h : fX7_front_0 N w x1 x2 = some r) : xG Γ w 0 [(0, .ref (xad Γ 0)), (1, .int x1), (2, .int x2)] [] := by
  unfold fX7_front_0 at h
  refine xr_iload_n C 0 rfl dX7_front_0 ?_
  refine xr_callS C 1 (mX7_isSide rfl) v_X7_isSide ml_X7_87 (Nat.le_of_ble_eq_true rfl) (Nat.le_of_ble_eq_true rfl) rfl rfl (Nat.le_of_ble_eq_true rfl) rfl dX7_front_1 ?_
  refine xr_if_eq C 4 14 dX7_front_4 rfl (fun q => ?_) (fun q => ?_)
  · have h := g_it h q
    exact xG.sub (bX7_front_14 C hL E h) ⟨rfl, trivial⟩
  · have h := g_if h q
    refine xr_iload_n C 7 rfl dX7_front_7 ?_
    refine xr_callS C 8 (mX7_isTick rfl) v_X7_isTick ml_X7_104 (Nat.le_of_ble_eq_true rfl) (Nat.le_of_ble_eq_true rfl) rfl rfl (Nat.le_of_ble_eq_true rfl) rfl dX7_front_8 ?_
    refine xr_if_ne C 11 21 dX7_front_11 rfl (fun q => ?_) (fun q => ?_)
    · have h := g_if h q
      refine xr_aload_n C 21 rfl dX7_front_21 ?_
      refine xr_getR C 22 dX7_front_22 fl_X7_10 rfl rfl ?_
      refine xr_getR C 25 dX7_front_25 fl_X7_77 rfl rfl ?_
      refine xr_iload_n C 28 rfl dX7_front_28 ?_
      obtain ⟨z1, q2, h⟩ := g_bind h
      refine xr_callV C 29 (mX6_at q2) v_X6_at ml_X7_107 (Nat.le_of_ble_eq_true rfl) (Nat.le_of_ble_eq_true rfl) (xrecv C rfl rfl) rfl rfl (Nat.le_of_ble_eq_true rfl) rfl dX7_front_29 ?_
      refine xr_aload_n C 32 rfl dX7_front_32 ?_
      refine xr_getR C 33 dX7_front_33 fl_X7_10 rfl rfl ?_
      refine xr_getR C 36 dX7_front_36 fl_X7_77 rfl rfl ?_
      refine xr_getI C 39 dX7_front_39 fl_X7_114 rfl rfl ?_
      refine xr_if_eq C 42 54 dX7_front_42 rfl (fun q => ?_) (fun q => ?_)
      · have h := g_it h q
        refine xr_aload_n C 54 rfl dX7_front_54 ?_
        refine xr_getR C 55 dX7_front_55 fl_X7_10 rfl rfl ?_
        refine xr_getR C 58 dX7_front_58 fl_X7_77 rfl rfl ?_
        refine xr_iload_n C 61 rfl dX7_front_61 ?_
        refine xr_callV C 62 (mX6_frontTo rfl) v_X6_frontTo ml_X7_121 (Nat.le_of_ble_eq_true rfl) (Nat.le_of_ble_eq_true rfl) (xrecv C rfl rfl) rfl rfl (Nat.le_of_ble_eq_true rfl) rfl dX7_front_62 ?_
        cases h
        exact xr_iret C 65 E dX7_front_65
      · have h := g_if h q
        refine xr_aload_n C 45 rfl dX7_front_45 ?_
        refine xr_ldc C 46 k_X7_120 dX7_front_46 ?_
        obtain ⟨z3, q4, h⟩ := g_bind h
        refine xr_callV C 48 (mX7_refuse q4) v_X7_refuse ml_X7_70 (Nat.le_of_ble_eq_true rfl) (Nat.le_of_ble_eq_true rfl) (xrecv C rfl rfl) rfl rfl (Nat.le_of_ble_eq_true rfl) rfl dX7_front_48 ?_
        refine xr_goto C 51 65 dX7_front_51 rfl ?_
        cases h
        exact xr_iret C 65 E dX7_front_65
    · have h := g_it h q
      exact xG.sub (bX7_front_14 C hL E h) ⟨rfl, trivial⟩
set_option maxRecDepth 100000 in
set_option maxHeartbeats 4000000 in
theorem mX7_front {l : Launch} {ad : Nat → Nat} {G : gEnv} {N : Nat} {w : xW} {x1 : Int32} {x2 : Int32} {r : xW × Int32} (h : fX7_front N w x1 x2 = some r) : xCt l ad G 3 yX7_front cX7_front 3 (some .int) [.ref (ad 0), .int x1, .int x2] w r.1 (some (.int r.2)) := xCt.of RX7 rfl (by decide +kernel) (Nat.le_of_ble_eq_true rfl) (fun Γ el ea eG eL C E => by
    subst el
    subst ea
    subst eG
    unfold fX7_front at h
    exact xG.sub (bX7_front_0 C eL  E h) ⟨rfl, rfl, rfl, trivial⟩)
def fX8_frontTo_0 (N : Nat) (w : xW) (x1 : Int32) (x2 : Int32) : Option (xW × Int32) :=
  (fX8_turnedAt N w x2).bind fun z1 =>
  some (z1.1, irem ((x1 + 4) - (irem z1.2 4)) 4)
def fX8_frontTo (N : Nat) (w : xW) (x1 : Int32) (x2 : Int32) : Option (xW × Int32) := fX8_frontTo_0 N w x1 x2
set_option maxRecDepth 100000 in
set_option maxHeartbeats 4000000 in
theorem bX8_frontTo_0 {Γ : xΓ} (C : xOK Γ cX8_frontTo RX8 5) (hL : xn Γ = 3) {N : Nat} {w : xW} {x1 : Int32} {x2 : Int32} {r : xW × Int32} (E : xEnd Γ (some .int) r.1 (some (.int r.2))) (h : fX8_frontTo_0 N w x1 x2 = some r) : xG Γ w 0 [(0, .ref (xad Γ 55)), (1, .int x1), (2, .int x2)] [] := by
  unfold fX8_frontTo_0 at h
  refine xr_iload_n C 0 rfl dX8_frontTo_0 ?_
  refine xr_iconst C 1 4 (by decide +kernel) dX8_frontTo_1 ?_
  refine xr_iadd C 2 dX8_frontTo_2 ?_
  refine xr_aload_n C 3 rfl dX8_frontTo_3 ?_
  refine xr_iload_n C 4 rfl dX8_frontTo_4 ?_
  obtain ⟨z1, q2, h⟩ := g_bind h
  refine xr_callV C 5 (mX8_turnedAt q2) v_X8_turnedAt ml_X8_140 (Nat.le_of_ble_eq_true rfl) (Nat.le_of_ble_eq_true rfl) (xrecv C rfl rfl) rfl rfl (Nat.le_of_ble_eq_true rfl) rfl dX8_frontTo_5 ?_
  refine xr_iconst C 8 4 (by decide +kernel) dX8_frontTo_8 ?_
  refine xr_irem C 9 (by decide +kernel) dX8_frontTo_9 ?_
  refine xr_isub C 10 dX8_frontTo_10 ?_
  refine xr_iconst C 11 4 (by decide +kernel) dX8_frontTo_11 ?_
  refine xr_irem C 12 (by decide +kernel) dX8_frontTo_12 ?_
  cases h
  exact xr_iret C 13 E dX8_frontTo_13
set_option maxRecDepth 100000 in
set_option maxHeartbeats 4000000 in
theorem mX8_frontTo {l : Launch} {ad : Nat → Nat} {G : gEnv} {N : Nat} {w : xW} {x1 : Int32} {x2 : Int32} {r : xW × Int32} (h : fX8_frontTo N w x1 x2 = some r) : xCt l ad G 5 yX8_frontTo cX8_frontTo 3 (some .int) [.ref (ad 55), .int x1, .int x2] w r.1 (some (.int r.2)) := xCt.of RX8 rfl (by decide +kernel) (Nat.le_of_ble_eq_true rfl) (fun Γ el ea eG eL C E => by
    subst el
    subst ea
    subst eG
    unfold fX8_frontTo at h
    exact xG.sub (bX8_frontTo_0 C eL  E h) ⟨rfl, rfl, rfl, trivial⟩)
def fX8_front_14 (N : Nat) (w : xW) : Option (xW × Int32) :=
  (fX8_finding w (-1000000001)).bind fun z7 =>
  some (z7.1, z7.2)
def fX8_front_0 (N : Nat) (w : xW) (x1 : Int32) (x2 : Int32) : Option (xW × Int32) :=
  if (fX8_isSide x1) = 0 then
    fX8_front_14 N w
  else
  if (fX8_isTick x2) = 0 then
    fX8_front_14 N w
  else
  (fX8_stillAt N w x2).bind fun z1 =>
  if z1.2 = 0 then
    (fX8_finding z1.1 (-1000000004)).bind fun z5 =>
    some (z5.1, z5.2)
  else
  (fX8_frontTo N z1.1 x1 x2).bind fun z3 =>
  some (z3.1, z3.2)
def fX8_front (N : Nat) (w : xW) (x1 : Int32) (x2 : Int32) : Option (xW × Int32) := fX8_front_0 N w x1 x2
set_option maxRecDepth 100000 in
set_option maxHeartbeats 4000000 in
theorem bX8_front_14 {Γ : xΓ} (C : xOK Γ cX8_front RX8 6) (hL : xn Γ = 3) {N : Nat} {w : xW} {r : xW × Int32} (E : xEnd Γ (some .int) r.1 (some (.int r.2))) (h : fX8_front_14 N w = some r) : xG Γ w 14 [(0, .ref (xad Γ 55))] [] := by
  unfold fX8_front_14 at h
  refine xr_aload_n C 14 rfl dX8_front_14 ?_
  refine xr_ldc C 15 k_X8_98 dX8_front_15 ?_
  obtain ⟨z7, q8, h⟩ := g_bind h
  refine xr_callV C 17 (mX8_finding q8) v_X8_finding ml_X8_125 (Nat.le_of_ble_eq_true rfl) (Nat.le_of_ble_eq_true rfl) (xrecv C rfl rfl) rfl rfl (Nat.le_of_ble_eq_true rfl) rfl dX8_front_17 ?_
  cases h
  exact xr_iret C 20 E dX8_front_20
set_option maxRecDepth 100000 in
set_option maxHeartbeats 4000000 in
theorem bX8_front_0 {Γ : xΓ} (C : xOK Γ cX8_front RX8 6) (hL : xn Γ = 3) {N : Nat} {w : xW} {x1 : Int32} {x2 : Int32} {r : xW × Int32} (E : xEnd Γ (some .int) r.1 (some (.int r.2))) (h : fX8_front_0 N w x1 x2 = some r) : xG Γ w 0 [(0, .ref (xad Γ 55)), (1, .int x1), (2, .int x2)] [] := by
  unfold fX8_front_0 at h
  refine xr_iload_n C 0 rfl dX8_front_0 ?_
  refine xr_callS C 1 (mX8_isSide rfl) v_X8_isSide ml_X8_133 (Nat.le_of_ble_eq_true rfl) (Nat.le_of_ble_eq_true rfl) rfl rfl (Nat.le_of_ble_eq_true rfl) rfl dX8_front_1 ?_
  refine xr_if_eq C 4 14 dX8_front_4 rfl (fun q => ?_) (fun q => ?_)
  · have h := g_it h q
    exact xG.sub (bX8_front_14 C hL E h) ⟨rfl, trivial⟩
  · have h := g_if h q
    refine xr_iload_n C 7 rfl dX8_front_7 ?_
    refine xr_callS C 8 (mX8_isTick rfl) v_X8_isTick ml_X8_137 (Nat.le_of_ble_eq_true rfl) (Nat.le_of_ble_eq_true rfl) rfl rfl (Nat.le_of_ble_eq_true rfl) rfl dX8_front_8 ?_
    refine xr_if_ne C 11 21 dX8_front_11 rfl (fun q => ?_) (fun q => ?_)
    · have h := g_if h q
      refine xr_aload_n C 21 rfl dX8_front_21 ?_
      refine xr_iload_n C 22 rfl dX8_front_22 ?_
      obtain ⟨z1, q2, h⟩ := g_bind h
      refine xr_callV C 23 (mX8_stillAt q2) v_X8_stillAt ml_X8_143 (Nat.le_of_ble_eq_true rfl) (Nat.le_of_ble_eq_true rfl) (xrecv C rfl rfl) rfl rfl (Nat.le_of_ble_eq_true rfl) rfl dX8_front_23 ?_
      refine xr_if_ne C 26 38 dX8_front_26 rfl (fun q => ?_) (fun q => ?_)
      · have h := g_if h q
        refine xr_aload_n C 38 rfl dX8_front_38 ?_
        refine xr_iload_n C 39 rfl dX8_front_39 ?_
        refine xr_iload_n C 40 rfl dX8_front_40 ?_
        obtain ⟨z3, q4, h⟩ := g_bind h
        refine xr_callV C 41 (mX8_frontTo q4) v_X8_frontTo ml_X8_150 (Nat.le_of_ble_eq_true rfl) (Nat.le_of_ble_eq_true rfl) (xrecv C rfl rfl) rfl rfl (Nat.le_of_ble_eq_true rfl) rfl dX8_front_41 ?_
        cases h
        exact xr_iret C 44 E dX8_front_44
      · have h := g_it h q
        refine xr_aload_n C 29 rfl dX8_front_29 ?_
        refine xr_ldc C 30 k_X8_149 dX8_front_30 ?_
        obtain ⟨z5, q6, h⟩ := g_bind h
        refine xr_callV C 32 (mX8_finding q6) v_X8_finding ml_X8_125 (Nat.le_of_ble_eq_true rfl) (Nat.le_of_ble_eq_true rfl) (xrecv C rfl rfl) rfl rfl (Nat.le_of_ble_eq_true rfl) rfl dX8_front_32 ?_
        refine xr_goto C 35 44 dX8_front_35 rfl ?_
        cases h
        exact xr_iret C 44 E dX8_front_44
    · have h := g_it h q
      exact xG.sub (bX8_front_14 C hL E h) ⟨rfl, trivial⟩
set_option maxRecDepth 100000 in
set_option maxHeartbeats 4000000 in
theorem mX8_front {l : Launch} {ad : Nat → Nat} {G : gEnv} {N : Nat} {w : xW} {x1 : Int32} {x2 : Int32} {r : xW × Int32} (h : fX8_front N w x1 x2 = some r) : xCt l ad G 6 yX8_front cX8_front 3 (some .int) [.ref (ad 55), .int x1, .int x2] w r.1 (some (.int r.2)) := xCt.of RX8 rfl (by decide +kernel) (Nat.le_of_ble_eq_true rfl) (fun Γ el ea eG eL C E => by
    subst el
    subst ea
    subst eG
    unfold fX8_front at h
    exact xG.sub (bX8_front_0 C eL  E h) ⟨rfl, rfl, rfl, trivial⟩)
def fX7_when_21 (N : Nat) (w : xW) : Option (xW × Int32) :=
  (fX7_refuse w (-1000000001)).bind fun z5 =>
  some (z5.1, z5.2)
def fX7_when_31b (N : Nat) (K31 : xW → Int32 → Int32 → Int32 → Int32 → Option (xW × Int32)) (w : xW) (x1 : Int32) (x2 : Int32) (x3 : Int32) (x4 : Int32) : Option (xW × Int32) :=
  if (x3 + 960) ≤ x4 then
    (fX7_refuse w (-1000000004)).bind fun z1 =>
    some (z1.1, z1.2)
  else
  (fX6_at N w x4).bind fun z3 =>
  if (fX6_sideOf z3 x1) = x2 then
    some (z3, x4)
  else
  K31 z3 x1 x2 x3 (x4 + 1)
def fX7_when_31 (N : Nat) : Nat → xW → Int32 → Int32 → Int32 → Int32 → Option (xW × Int32)
  | 0, _, _, _, _, _ => none
  | n + 1, w, x1, x2, x3, x4 => fX7_when_31b N (fX7_when_31 N n) w x1 x2 x3 x4
def fX7_when_0 (N : Nat) (w : xW) (x1 : Int32) (x2 : Int32) (x3 : Int32) : Option (xW × Int32) :=
  if (fX7_isSide x1) = 0 then
    fX7_when_21 N w
  else
  if (fX7_isSide x2) = 0 then
    fX7_when_21 N w
  else
  if (fX7_isTick x3) = 0 then
    fX7_when_21 N w
  else
  fX7_when_31 N N w x1 x2 x3 x3
def fX7_when (N : Nat) (w : xW) (x1 : Int32) (x2 : Int32) (x3 : Int32) : Option (xW × Int32) := fX7_when_0 N w x1 x2 x3
set_option maxRecDepth 100000 in
set_option maxHeartbeats 4000000 in
theorem bX7_when_21 {Γ : xΓ} (C : xOK Γ cX7_when RX7 3) (hL : xn Γ = 5) {N : Nat} {w : xW} {r : xW × Int32} (E : xEnd Γ (some .int) r.1 (some (.int r.2))) (h : fX7_when_21 N w = some r) : xG Γ w 21 [(0, .ref (xad Γ 0))] [] := by
  unfold fX7_when_21 at h
  refine xr_aload_n C 21 rfl dX7_when_21 ?_
  refine xr_ldc C 22 k_X7_69 dX7_when_22 ?_
  obtain ⟨z5, q6, h⟩ := g_bind h
  refine xr_callV C 24 (mX7_refuse q6) v_X7_refuse ml_X7_70 (Nat.le_of_ble_eq_true rfl) (Nat.le_of_ble_eq_true rfl) (xrecv C rfl rfl) rfl rfl (Nat.le_of_ble_eq_true rfl) rfl dX7_when_24 ?_
  cases h
  exact xr_iret C 27 E dX7_when_27
set_option maxRecDepth 100000 in
set_option maxHeartbeats 4000000 in
theorem bX7_when_31b {Γ : xΓ} (C : xOK Γ cX7_when RX7 3) (hL : xn Γ = 5) {N : Nat} {K31 : xW → Int32 → Int32 → Int32 → Int32 → Option (xW × Int32)} {w : xW} {x1 : Int32} {x2 : Int32} {x3 : Int32} {x4 : Int32} {r : xW × Int32} (E : xEnd Γ (some .int) r.1 (some (.int r.2))) (hK31 : ∀ (w : xW) (x1 : Int32) (x2 : Int32) (x3 : Int32) (x4 : Int32), K31 w x1 x2 x3 x4 = some r → xG Γ w 31 [(0, .ref (xad Γ 0)), (1, .int x1), (2, .int x2), (3, .int x3), (4, .int x4)] []) (h : fX7_when_31b N K31 w x1 x2 x3 x4 = some r) : xG Γ w 31 [(0, .ref (xad Γ 0)), (1, .int x1), (2, .int x2), (3, .int x3), (4, .int x4)] [] := by
  unfold fX7_when_31b at h
  refine xr_iload C 31 rfl dX7_when_31 ?_
  refine xr_iload_n C 33 rfl dX7_when_33 ?_
  refine xr_sipush C 34 960 (by decide +kernel) dX7_when_34 ?_
  refine xr_iadd C 37 dX7_when_37 ?_
  refine xr_icmp_ge C 38 77 dX7_when_38 rfl (fun q => ?_) (fun q => ?_)
  · have h := g_it h q
    refine xr_aload_n C 77 rfl dX7_when_77 ?_
    refine xr_ldc C 78 k_X7_120 dX7_when_78 ?_
    obtain ⟨z1, q2, h⟩ := g_bind h
    refine xr_callV C 80 (mX7_refuse q2) v_X7_refuse ml_X7_70 (Nat.le_of_ble_eq_true rfl) (Nat.le_of_ble_eq_true rfl) (xrecv C rfl rfl) rfl rfl (Nat.le_of_ble_eq_true rfl) rfl dX7_when_80 ?_
    cases h
    exact xr_iret C 83 E dX7_when_83
  · have h := g_if h q
    refine xr_aload_n C 41 rfl dX7_when_41 ?_
    refine xr_getR C 42 dX7_when_42 fl_X7_10 rfl rfl ?_
    refine xr_getR C 45 dX7_when_45 fl_X7_77 rfl rfl ?_
    refine xr_iload C 48 rfl dX7_when_48 ?_
    obtain ⟨z3, q4, h⟩ := g_bind h
    refine xr_callV C 50 (mX6_at q4) v_X6_at ml_X7_107 (Nat.le_of_ble_eq_true rfl) (Nat.le_of_ble_eq_true rfl) (xrecv C rfl rfl) rfl rfl (Nat.le_of_ble_eq_true rfl) rfl dX7_when_50 ?_
    refine xr_aload_n C 53 rfl dX7_when_53 ?_
    refine xr_getR C 54 dX7_when_54 fl_X7_10 rfl rfl ?_
    refine xr_getR C 57 dX7_when_57 fl_X7_77 rfl rfl ?_
    refine xr_iload_n C 60 rfl dX7_when_60 ?_
    refine xr_callV C 61 (mX6_sideOf rfl) v_X6_sideOf ml_X7_117 (Nat.le_of_ble_eq_true rfl) (Nat.le_of_ble_eq_true rfl) (xrecv C rfl rfl) rfl rfl (Nat.le_of_ble_eq_true rfl) rfl dX7_when_61 ?_
    refine xr_iload_n C 64 rfl dX7_when_64 ?_
    refine xr_icmp_ne C 65 71 dX7_when_65 rfl (fun q => ?_) (fun q => ?_)
    · have h := g_if h q
      refine xr_iinc C 71 1 (by decide +kernel) rfl dX7_when_71 (xnb hL rfl) ?_
      refine xr_goto C 74 31 dX7_when_74 rfl ?_
      exact xG.sub (hK31 _ _ _ _ _ h) ⟨rfl, rfl, rfl, rfl, rfl, trivial⟩
    · have h := g_it h q
      refine xr_iload C 68 rfl dX7_when_68 ?_
      cases h
      exact xr_iret C 70 E dX7_when_70
set_option maxRecDepth 100000 in
set_option maxHeartbeats 4000000 in
theorem bX7_when_31 {Γ : xΓ} (C : xOK Γ cX7_when RX7 3) (hL : xn Γ = 5) {N : Nat} {r : xW × Int32} (E : xEnd Γ (some .int) r.1 (some (.int r.2))) : ∀ (n : Nat) (w : xW) (x1 : Int32) (x2 : Int32) (x3 : Int32) (x4 : Int32), fX7_when_31 N n w x1 x2 x3 x4 = some r → xG Γ w 31 [(0, .ref (xad Γ 0)), (1, .int x1), (2, .int x2), (3, .int x3), (4, .int x4)] []
  | 0, _, _, _, _, _, h => by cases h
  | n + 1, w, x1, x2, x3, x4, h => bX7_when_31b C hL E (bX7_when_31 C hL E n) h
set_option maxRecDepth 100000 in
set_option maxHeartbeats 4000000 in
theorem bX7_when_0 {Γ : xΓ} (C : xOK Γ cX7_when RX7 3) (hL : xn Γ = 5) {N : Nat} {w : xW} {x1 : Int32} {x2 : Int32} {x3 : Int32} {r : xW × Int32} (E : xEnd Γ (some .int) r.1 (some (.int r.2))) (h : fX7_when_0 N w x1 x2 x3 = some r) : xG Γ w 0 [(0, .ref (xad Γ 0)), (1, .int x1), (2, .int x2), (3, .int x3)] [] := by
  unfold fX7_when_0 at h
  refine xr_iload_n C 0 rfl dX7_when_0 ?_
  refine xr_callS C 1 (mX7_isSide rfl) v_X7_isSide ml_X7_87 (Nat.le_of_ble_eq_true rfl) (Nat.le_of_ble_eq_true rfl) rfl rfl (Nat.le_of_ble_eq_true rfl) rfl dX7_when_1 ?_
  refine xr_if_eq C 4 21 dX7_when_4 rfl (fun q => ?_) (fun q => ?_)
  · have h := g_it h q
    exact xG.sub (bX7_when_21 C hL E h) ⟨rfl, trivial⟩
  · have h := g_if h q
    refine xr_iload_n C 7 rfl dX7_when_7 ?_
    refine xr_callS C 8 (mX7_isSide rfl) v_X7_isSide ml_X7_87 (Nat.le_of_ble_eq_true rfl) (Nat.le_of_ble_eq_true rfl) rfl rfl (Nat.le_of_ble_eq_true rfl) rfl dX7_when_8 ?_
    refine xr_if_eq C 11 21 dX7_when_11 rfl (fun q => ?_) (fun q => ?_)
    · have h := g_it h q
      exact xG.sub (bX7_when_21 C hL E h) ⟨rfl, trivial⟩
    · have h := g_if h q
      refine xr_iload_n C 14 rfl dX7_when_14 ?_
      refine xr_callS C 15 (mX7_isTick rfl) v_X7_isTick ml_X7_104 (Nat.le_of_ble_eq_true rfl) (Nat.le_of_ble_eq_true rfl) rfl rfl (Nat.le_of_ble_eq_true rfl) rfl dX7_when_15 ?_
      refine xr_if_ne C 18 28 dX7_when_18 rfl (fun q => ?_) (fun q => ?_)
      · have h := g_if h q
        refine xr_iload_n C 28 rfl dX7_when_28 ?_
        refine xr_istore C 29 dX7_when_29 (xnb hL rfl) ?_
        exact xG.sub (bX7_when_31 C hL E N _ _ _ _ _ h) ⟨rfl, rfl, rfl, rfl, rfl, trivial⟩
      · have h := g_it h q
        exact xG.sub (bX7_when_21 C hL E h) ⟨rfl, trivial⟩
set_option maxRecDepth 100000 in
set_option maxHeartbeats 4000000 in
theorem mX7_when {l : Launch} {ad : Nat → Nat} {G : gEnv} {N : Nat} {w : xW} {x1 : Int32} {x2 : Int32} {x3 : Int32} {r : xW × Int32} (h : fX7_when N w x1 x2 x3 = some r) : xCt l ad G 3 yX7_when cX7_when 5 (some .int) [.ref (ad 0), .int x1, .int x2, .int x3] w r.1 (some (.int r.2)) := xCt.of RX7 rfl (by decide +kernel) (Nat.le_of_ble_eq_true rfl) (fun Γ el ea eG eL C E => by
    subst el
    subst ea
    subst eG
    unfold fX7_when at h
    exact xG.sub (bX7_when_0 C eL  E h) ⟨rfl, rfl, rfl, rfl, trivial⟩)
def fX8_when_21 (N : Nat) (w : xW) : Option (xW × Int32) :=
  (fX8_finding w (-1000000001)).bind fun z5 =>
  some (z5.1, z5.2)
def fX8_when_31b (N : Nat) (K31 : xW → Int32 → Int32 → Int32 → Int32 → Option (xW × Int32)) (w : xW) (x1 : Int32) (x2 : Int32) (x3 : Int32) (x4 : Int32) : Option (xW × Int32) :=
  if (x3 + 960) ≤ x4 then
    (fX8_finding w (-1000000004)).bind fun z1 =>
    some (z1.1, z1.2)
  else
  (fX8_sideOf N w x1 x4).bind fun z3 =>
  if z3.2 = x2 then
    some (z3.1, x4)
  else
  K31 z3.1 x1 x2 x3 (x4 + 1)
def fX8_when_31 (N : Nat) : Nat → xW → Int32 → Int32 → Int32 → Int32 → Option (xW × Int32)
  | 0, _, _, _, _, _ => none
  | n + 1, w, x1, x2, x3, x4 => fX8_when_31b N (fX8_when_31 N n) w x1 x2 x3 x4
def fX8_when_0 (N : Nat) (w : xW) (x1 : Int32) (x2 : Int32) (x3 : Int32) : Option (xW × Int32) :=
  if (fX8_isSide x1) = 0 then
    fX8_when_21 N w
  else
  if (fX8_isSide x2) = 0 then
    fX8_when_21 N w
  else
  if (fX8_isTick x3) = 0 then
    fX8_when_21 N w
  else
  fX8_when_31 N N w x1 x2 x3 x3
def fX8_when (N : Nat) (w : xW) (x1 : Int32) (x2 : Int32) (x3 : Int32) : Option (xW × Int32) := fX8_when_0 N w x1 x2 x3
set_option maxRecDepth 100000 in
set_option maxHeartbeats 4000000 in
theorem bX8_when_21 {Γ : xΓ} (C : xOK Γ cX8_when RX8 6) (hL : xn Γ = 5) {N : Nat} {w : xW} {r : xW × Int32} (E : xEnd Γ (some .int) r.1 (some (.int r.2))) (h : fX8_when_21 N w = some r) : xG Γ w 21 [(0, .ref (xad Γ 55))] [] := by
  unfold fX8_when_21 at h
  refine xr_aload_n C 21 rfl dX8_when_21 ?_
  refine xr_ldc C 22 k_X8_98 dX8_when_22 ?_
  obtain ⟨z5, q6, h⟩ := g_bind h
  refine xr_callV C 24 (mX8_finding q6) v_X8_finding ml_X8_125 (Nat.le_of_ble_eq_true rfl) (Nat.le_of_ble_eq_true rfl) (xrecv C rfl rfl) rfl rfl (Nat.le_of_ble_eq_true rfl) rfl dX8_when_24 ?_
  cases h
  exact xr_iret C 27 E dX8_when_27
set_option maxRecDepth 100000 in
set_option maxHeartbeats 4000000 in
theorem bX8_when_31b {Γ : xΓ} (C : xOK Γ cX8_when RX8 6) (hL : xn Γ = 5) {N : Nat} {K31 : xW → Int32 → Int32 → Int32 → Int32 → Option (xW × Int32)} {w : xW} {x1 : Int32} {x2 : Int32} {x3 : Int32} {x4 : Int32} {r : xW × Int32} (E : xEnd Γ (some .int) r.1 (some (.int r.2))) (hK31 : ∀ (w : xW) (x1 : Int32) (x2 : Int32) (x3 : Int32) (x4 : Int32), K31 w x1 x2 x3 x4 = some r → xG Γ w 31 [(0, .ref (xad Γ 55)), (1, .int x1), (2, .int x2), (3, .int x3), (4, .int x4)] []) (h : fX8_when_31b N K31 w x1 x2 x3 x4 = some r) : xG Γ w 31 [(0, .ref (xad Γ 55)), (1, .int x1), (2, .int x2), (3, .int x3), (4, .int x4)] [] := by
  unfold fX8_when_31b at h
  refine xr_iload C 31 rfl dX8_when_31 ?_
  refine xr_iload_n C 33 rfl dX8_when_33 ?_
  refine xr_sipush C 34 960 (by decide +kernel) dX8_when_34 ?_
  refine xr_iadd C 37 dX8_when_37 ?_
  refine xr_icmp_ge C 38 61 dX8_when_38 rfl (fun q => ?_) (fun q => ?_)
  · have h := g_it h q
    refine xr_aload_n C 61 rfl dX8_when_61 ?_
    refine xr_ldc C 62 k_X8_149 dX8_when_62 ?_
    obtain ⟨z1, q2, h⟩ := g_bind h
    refine xr_callV C 64 (mX8_finding q2) v_X8_finding ml_X8_125 (Nat.le_of_ble_eq_true rfl) (Nat.le_of_ble_eq_true rfl) (xrecv C rfl rfl) rfl rfl (Nat.le_of_ble_eq_true rfl) rfl dX8_when_64 ?_
    cases h
    exact xr_iret C 67 E dX8_when_67
  · have h := g_if h q
    refine xr_aload_n C 41 rfl dX8_when_41 ?_
    refine xr_iload_n C 42 rfl dX8_when_42 ?_
    refine xr_iload C 43 rfl dX8_when_43 ?_
    obtain ⟨z3, q4, h⟩ := g_bind h
    refine xr_callV C 45 (mX8_sideOf q4) v_X8_sideOf ml_X8_146 (Nat.le_of_ble_eq_true rfl) (Nat.le_of_ble_eq_true rfl) (xrecv C rfl rfl) rfl rfl (Nat.le_of_ble_eq_true rfl) rfl dX8_when_45 ?_
    refine xr_iload_n C 48 rfl dX8_when_48 ?_
    refine xr_icmp_ne C 49 55 dX8_when_49 rfl (fun q => ?_) (fun q => ?_)
    · have h := g_if h q
      refine xr_iinc C 55 1 (by decide +kernel) rfl dX8_when_55 (xnb hL rfl) ?_
      refine xr_goto C 58 31 dX8_when_58 rfl ?_
      exact xG.sub (hK31 _ _ _ _ _ h) ⟨rfl, rfl, rfl, rfl, rfl, trivial⟩
    · have h := g_it h q
      refine xr_iload C 52 rfl dX8_when_52 ?_
      cases h
      exact xr_iret C 54 E dX8_when_54
set_option maxRecDepth 100000 in
set_option maxHeartbeats 4000000 in
theorem bX8_when_31 {Γ : xΓ} (C : xOK Γ cX8_when RX8 6) (hL : xn Γ = 5) {N : Nat} {r : xW × Int32} (E : xEnd Γ (some .int) r.1 (some (.int r.2))) : ∀ (n : Nat) (w : xW) (x1 : Int32) (x2 : Int32) (x3 : Int32) (x4 : Int32), fX8_when_31 N n w x1 x2 x3 x4 = some r → xG Γ w 31 [(0, .ref (xad Γ 55)), (1, .int x1), (2, .int x2), (3, .int x3), (4, .int x4)] []
  | 0, _, _, _, _, _, h => by cases h
  | n + 1, w, x1, x2, x3, x4, h => bX8_when_31b C hL E (bX8_when_31 C hL E n) h
set_option maxRecDepth 100000 in
set_option maxHeartbeats 4000000 in
theorem bX8_when_0 {Γ : xΓ} (C : xOK Γ cX8_when RX8 6) (hL : xn Γ = 5) {N : Nat} {w : xW} {x1 : Int32} {x2 : Int32} {x3 : Int32} {r : xW × Int32} (E : xEnd Γ (some .int) r.1 (some (.int r.2))) (h : fX8_when_0 N w x1 x2 x3 = some r) : xG Γ w 0 [(0, .ref (xad Γ 55)), (1, .int x1), (2, .int x2), (3, .int x3)] [] := by
  unfold fX8_when_0 at h
  refine xr_iload_n C 0 rfl dX8_when_0 ?_
  refine xr_callS C 1 (mX8_isSide rfl) v_X8_isSide ml_X8_133 (Nat.le_of_ble_eq_true rfl) (Nat.le_of_ble_eq_true rfl) rfl rfl (Nat.le_of_ble_eq_true rfl) rfl dX8_when_1 ?_
  refine xr_if_eq C 4 21 dX8_when_4 rfl (fun q => ?_) (fun q => ?_)
  · have h := g_it h q
    exact xG.sub (bX8_when_21 C hL E h) ⟨rfl, trivial⟩
  · have h := g_if h q
    refine xr_iload_n C 7 rfl dX8_when_7 ?_
    refine xr_callS C 8 (mX8_isSide rfl) v_X8_isSide ml_X8_133 (Nat.le_of_ble_eq_true rfl) (Nat.le_of_ble_eq_true rfl) rfl rfl (Nat.le_of_ble_eq_true rfl) rfl dX8_when_8 ?_
    refine xr_if_eq C 11 21 dX8_when_11 rfl (fun q => ?_) (fun q => ?_)
    · have h := g_it h q
      exact xG.sub (bX8_when_21 C hL E h) ⟨rfl, trivial⟩
    · have h := g_if h q
      refine xr_iload_n C 14 rfl dX8_when_14 ?_
      refine xr_callS C 15 (mX8_isTick rfl) v_X8_isTick ml_X8_137 (Nat.le_of_ble_eq_true rfl) (Nat.le_of_ble_eq_true rfl) rfl rfl (Nat.le_of_ble_eq_true rfl) rfl dX8_when_15 ?_
      refine xr_if_ne C 18 28 dX8_when_18 rfl (fun q => ?_) (fun q => ?_)
      · have h := g_if h q
        refine xr_iload_n C 28 rfl dX8_when_28 ?_
        refine xr_istore C 29 dX8_when_29 (xnb hL rfl) ?_
        exact xG.sub (bX8_when_31 C hL E N _ _ _ _ _ h) ⟨rfl, rfl, rfl, rfl, rfl, trivial⟩
      · have h := g_it h q
        exact xG.sub (bX8_when_21 C hL E h) ⟨rfl, trivial⟩
set_option maxRecDepth 100000 in
set_option maxHeartbeats 4000000 in
theorem mX8_when {l : Launch} {ad : Nat → Nat} {G : gEnv} {N : Nat} {w : xW} {x1 : Int32} {x2 : Int32} {x3 : Int32} {r : xW × Int32} (h : fX8_when N w x1 x2 x3 = some r) : xCt l ad G 6 yX8_when cX8_when 5 (some .int) [.ref (ad 55), .int x1, .int x2, .int x3] w r.1 (some (.int r.2)) := xCt.of RX8 rfl (by decide +kernel) (Nat.le_of_ble_eq_true rfl) (fun Γ el ea eG eL C E => by
    subst el
    subst ea
    subst eG
    unfold fX8_when at h
    exact xG.sub (bX8_when_0 C eL  E h) ⟨rfl, rfl, rfl, rfl, trivial⟩)
def fX1_isKind_0 (x0 : Int32) : Int32 :=
  if x0 < 0 then
    0
  else
  if 6 ≤ x0 then
    0
  else
  1
def fX1_isKind (x0 : Int32) : Int32 := fX1_isKind_0 x0
theorem xb_fX1_isKind {x0 : Int32} : xB (fX1_isKind x0) = true := by
  unfold fX1_isKind fX1_isKind_0
  repeat' split
  all_goals first | rfl | exact xb_fX1_isKind
set_option maxRecDepth 100000 in
set_option maxHeartbeats 4000000 in
theorem bX1_isKind_0 {Γ : xΓ} (C : xOK Γ cX1_isKind RX1 1) (hL : xn Γ = 1) {w : xW} {x0 : Int32} {r : Int32} (E : xEnd Γ (some .boolean) w (some (.int r))) (h : fX1_isKind_0  x0 = r) : xG Γ w 0 [(0, .int x0)] [] := by
  unfold fX1_isKind_0 at h
  refine xr_iload_n C 0 rfl dX1_isKind_0 ?_
  refine xr_if_lt C 1 14 dX1_isKind_1 rfl (fun q => ?_) (fun q => ?_)
  · have h := g_it h q
    refine xr_iconst C 14 0 (by decide +kernel) dX1_isKind_14 ?_
    cases h
    exact xr_zret C 15 E dX1_isKind_15 (by decide +kernel)
  · have h := g_if h q
    refine xr_iload_n C 4 rfl dX1_isKind_4 ?_
    refine xr_bipush C 5 6 (by decide +kernel) dX1_isKind_5 ?_
    refine xr_icmp_ge C 7 14 dX1_isKind_7 rfl (fun q => ?_) (fun q => ?_)
    · have h := g_it h q
      refine xr_iconst C 14 0 (by decide +kernel) dX1_isKind_14 ?_
      cases h
      exact xr_zret C 15 E dX1_isKind_15 (by decide +kernel)
    · have h := g_if h q
      refine xr_iconst C 10 1 (by decide +kernel) dX1_isKind_10 ?_
      refine xr_goto C 11 15 dX1_isKind_11 rfl ?_
      cases h
      exact xr_zret C 15 E dX1_isKind_15 (by decide +kernel)
set_option maxRecDepth 100000 in
set_option maxHeartbeats 4000000 in
theorem mX1_isKind {l : Launch} {ad : Nat → Nat} {G : gEnv} {w : xW} {x0 : Int32} {r : Int32} (h : fX1_isKind x0 = r) : xCt l ad G 1 yX1_isKind cX1_isKind 1 (some .boolean) [.int x0] w w (some (.int r)) := xCt.of RX1 rfl (by decide +kernel) (Nat.le_of_ble_eq_true rfl) (fun Γ el ea eG eL C E => by
    subst el
    subst ea
    subst eG
    unfold fX1_isKind at h
    exact xG.sub (bX1_isKind_0 C eL  E h) ⟨rfl, trivial⟩)
def fX1_addHouse_0 (w : xW) (x1 : Int32) (x2 : Int32) : Option (xW × Int32) :=
  if (w.1 1 3) < 8 then
    if ibd (w.1 1 3) 8 = true then
    if ibd ((sI w 5 ((w.1 1 3).toNatClampNeg) x1).1 1 3) 8 = true then
    some (sI (sI (sI w 5 ((w.1 1 3).toNatClampNeg) x1) 6 (((sI w 5 ((w.1 1 3).toNatClampNeg) x1).1 1 3).toNatClampNeg) x2) 1 3 (((sI (sI w 5 ((w.1 1 3).toNatClampNeg) x1) 6 (((sI w 5 ((w.1 1 3).toNatClampNeg) x1).1 1 3).toNatClampNeg) x2).1 1 3) + 1), (sI (sI w 5 ((w.1 1 3).toNatClampNeg) x1) 6 (((sI w 5 ((w.1 1 3).toNatClampNeg) x1).1 1 3).toNatClampNeg) x2).1 1 3)
    else none
    else none
  else
  some (w, (-1000000002))
def fX1_addHouse (w : xW) (x1 : Int32) (x2 : Int32) : Option (xW × Int32) := fX1_addHouse_0 w x1 x2
set_option maxRecDepth 100000 in
set_option maxHeartbeats 4000000 in
theorem bX1_addHouse_0 {Γ : xΓ} (C : xOK Γ cX1_addHouse RX1 1) (hL : xn Γ = 3) {w : xW} {x1 : Int32} {x2 : Int32} {r : xW × Int32} (E : xEnd Γ (some .int) r.1 (some (.int r.2))) (h : fX1_addHouse_0  w x1 x2 = some r) : xG Γ w 0 [(0, .ref (xad Γ 1)), (1, .int x1), (2, .int x2)] [] := by
  unfold fX1_addHouse_0 at h
  refine xr_aload_n C 0 rfl dX1_addHouse_0 ?_
  refine xr_getI C 1 dX1_addHouse_1 fl_X1_25 rfl rfl ?_
  refine xr_bipush C 4 8 (by decide +kernel) dX1_addHouse_4 ?_
  refine xr_icmp_lt C 6 12 dX1_addHouse_6 rfl (fun q => ?_) (fun q => ?_)
  · have h := g_it h q
    refine xr_aload_n C 12 rfl dX1_addHouse_12 ?_
    refine xr_getR C 13 dX1_addHouse_13 fl_X1_28 rfl rfl ?_
    refine xr_aload_n C 16 rfl dX1_addHouse_16 ?_
    refine xr_getI C 17 dX1_addHouse_17 fl_X1_25 rfl rfl ?_
    refine xr_iload_n C 20 rfl dX1_addHouse_20 ?_
    obtain ⟨q1, h⟩ := g_ib h
    refine xr_iast C 21 ((w.1 1 3).toNatClampNeg) rfl dX1_addHouse_21 rfl (ibd_in q1) ?_
    refine xr_aload_n C 22 rfl dX1_addHouse_22 ?_
    refine xr_getR C 23 dX1_addHouse_23 fl_X1_32 rfl rfl ?_
    refine xr_aload_n C 26 rfl dX1_addHouse_26 ?_
    refine xr_getI C 27 dX1_addHouse_27 fl_X1_25 rfl rfl ?_
    refine xr_iload_n C 30 rfl dX1_addHouse_30 ?_
    obtain ⟨q2, h⟩ := g_ib h
    refine xr_iast C 31 (((sI w 5 ((w.1 1 3).toNatClampNeg) x1).1 1 3).toNatClampNeg) rfl dX1_addHouse_31 rfl (ibd_in q2) ?_
    refine xr_aload_n C 32 rfl dX1_addHouse_32 ?_
    refine xr_dup C 33 rfl dX1_addHouse_33 ?_
    refine xr_getI C 34 dX1_addHouse_34 fl_X1_25 rfl rfl ?_
    refine xr_dup_x1 C 37 rfl rfl dX1_addHouse_37 ?_
    refine xr_iconst C 38 1 (by decide +kernel) dX1_addHouse_38 ?_
    refine xr_iadd C 39 dX1_addHouse_39 ?_
    refine xr_putI C 40 dX1_addHouse_40 fp_X1_25 rfl rfl ?_
    cases h
    exact xr_iret C 43 E dX1_addHouse_43
  · have h := g_if h q
    refine xr_ldc C 9 k_X1_67 dX1_addHouse_9 ?_
    cases h
    exact xr_iret C 11 E dX1_addHouse_11
set_option maxRecDepth 100000 in
set_option maxHeartbeats 4000000 in
theorem mX1_addHouse {l : Launch} {ad : Nat → Nat} {G : gEnv} {w : xW} {x1 : Int32} {x2 : Int32} {r : xW × Int32} (h : fX1_addHouse w x1 x2 = some r) : xCt l ad G 1 yX1_addHouse cX1_addHouse 3 (some .int) [.ref (ad 1), .int x1, .int x2] w r.1 (some (.int r.2)) := xCt.of RX1 rfl (by decide +kernel) (Nat.le_of_ble_eq_true rfl) (fun Γ el ea eG eL C E => by
    subst el
    subst ea
    subst eG
    unfold fX1_addHouse at h
    exact xG.sub (bX1_addHouse_0 C eL  E h) ⟨rfl, rfl, rfl, trivial⟩)
def fX7_house_14 (w : xW) : Option (xW × Int32) :=
  (fX7_refuse w (-1000000001)).bind fun z5 =>
  some (z5.1, z5.2)
def fX7_house_0 (w : xW) (x1 : Int32) (x2 : Int32) : Option (xW × Int32) :=
  if (fX1_isKind x1) = 0 then
    fX7_house_14 w
  else
  if (fX7_isSide x2) = 0 then
    fX7_house_14 w
  else
  if (w.1 1 3) < 8 then
    (fX1_addHouse w x1 x2).bind fun z1 =>
    some (z1.1, z1.2)
  else
  (fX7_refuse w (-1000000002)).bind fun z3 =>
  some (z3.1, z3.2)
def fX7_house (w : xW) (x1 : Int32) (x2 : Int32) : Option (xW × Int32) := fX7_house_0 w x1 x2
set_option maxRecDepth 100000 in
set_option maxHeartbeats 4000000 in
theorem bX7_house_14 {Γ : xΓ} (C : xOK Γ cX7_house RX7 2) (hL : xn Γ = 3) {w : xW} {r : xW × Int32} (E : xEnd Γ (some .int) r.1 (some (.int r.2))) (h : fX7_house_14  w = some r) : xG Γ w 14 [(0, .ref (xad Γ 0))] [] := by
  unfold fX7_house_14 at h
  refine xr_aload_n C 14 rfl dX7_house_14 ?_
  refine xr_ldc C 15 k_X7_69 dX7_house_15 ?_
  obtain ⟨z5, q6, h⟩ := g_bind h
  refine xr_callV C 17 (mX7_refuse q6) v_X7_refuse ml_X7_70 (Nat.le_of_ble_eq_true rfl) (Nat.le_of_ble_eq_true rfl) (xrecv C rfl rfl) rfl rfl (Nat.le_of_ble_eq_true rfl) rfl dX7_house_17 ?_
  cases h
  exact xr_iret C 20 E dX7_house_20
set_option maxRecDepth 100000 in
set_option maxHeartbeats 4000000 in
theorem bX7_house_0 {Γ : xΓ} (C : xOK Γ cX7_house RX7 2) (hL : xn Γ = 3) {w : xW} {x1 : Int32} {x2 : Int32} {r : xW × Int32} (E : xEnd Γ (some .int) r.1 (some (.int r.2))) (h : fX7_house_0  w x1 x2 = some r) : xG Γ w 0 [(0, .ref (xad Γ 0)), (1, .int x1), (2, .int x2)] [] := by
  unfold fX7_house_0 at h
  refine xr_iload_n C 0 rfl dX7_house_0 ?_
  refine xr_callS C 1 (mX1_isKind rfl) v_X1_isKind ml_X7_124 (Nat.le_of_ble_eq_true rfl) (Nat.le_of_ble_eq_true rfl) rfl rfl (Nat.le_of_ble_eq_true rfl) rfl dX7_house_1 ?_
  refine xr_if_eq C 4 14 dX7_house_4 rfl (fun q => ?_) (fun q => ?_)
  · have h := g_it h q
    exact xG.sub (bX7_house_14 C hL E h) ⟨rfl, trivial⟩
  · have h := g_if h q
    refine xr_iload_n C 7 rfl dX7_house_7 ?_
    refine xr_callS C 8 (mX7_isSide rfl) v_X7_isSide ml_X7_87 (Nat.le_of_ble_eq_true rfl) (Nat.le_of_ble_eq_true rfl) rfl rfl (Nat.le_of_ble_eq_true rfl) rfl dX7_house_8 ?_
    refine xr_if_ne C 11 21 dX7_house_11 rfl (fun q => ?_) (fun q => ?_)
    · have h := g_if h q
      refine xr_aload_n C 21 rfl dX7_house_21 ?_
      refine xr_getR C 22 dX7_house_22 fl_X7_10 rfl rfl ?_
      refine xr_getI C 25 dX7_house_25 fl_X7_127 rfl rfl ?_
      refine xr_bipush C 28 8 (by decide +kernel) dX7_house_28 ?_
      refine xr_icmp_lt C 30 40 dX7_house_30 rfl (fun q => ?_) (fun q => ?_)
      · have h := g_it h q
        refine xr_aload_n C 40 rfl dX7_house_40 ?_
        refine xr_getR C 41 dX7_house_41 fl_X7_10 rfl rfl ?_
        refine xr_iload_n C 44 rfl dX7_house_44 ?_
        refine xr_iload_n C 45 rfl dX7_house_45 ?_
        obtain ⟨z1, q2, h⟩ := g_bind h
        refine xr_callV C 46 (mX1_addHouse q2) v_X1_addHouse ml_X7_131 (Nat.le_of_ble_eq_true rfl) (Nat.le_of_ble_eq_true rfl) (xrecv C rfl rfl) rfl rfl (Nat.le_of_ble_eq_true rfl) rfl dX7_house_46 ?_
        cases h
        exact xr_iret C 49 E dX7_house_49
      · have h := g_if h q
        refine xr_aload_n C 33 rfl dX7_house_33 ?_
        refine xr_ldc C 34 k_X7_130 dX7_house_34 ?_
        obtain ⟨z3, q4, h⟩ := g_bind h
        refine xr_callV C 36 (mX7_refuse q4) v_X7_refuse ml_X7_70 (Nat.le_of_ble_eq_true rfl) (Nat.le_of_ble_eq_true rfl) (xrecv C rfl rfl) rfl rfl (Nat.le_of_ble_eq_true rfl) rfl dX7_house_36 ?_
        cases h
        exact xr_iret C 39 E dX7_house_39
    · have h := g_it h q
      exact xG.sub (bX7_house_14 C hL E h) ⟨rfl, trivial⟩
set_option maxRecDepth 100000 in
set_option maxHeartbeats 4000000 in
theorem mX7_house {l : Launch} {ad : Nat → Nat} {G : gEnv} {w : xW} {x1 : Int32} {x2 : Int32} {r : xW × Int32} (h : fX7_house w x1 x2 = some r) : xCt l ad G 2 yX7_house cX7_house 3 (some .int) [.ref (ad 0), .int x1, .int x2] w r.1 (some (.int r.2)) := xCt.of RX7 rfl (by decide +kernel) (Nat.le_of_ble_eq_true rfl) (fun Γ el ea eG eL C E => by
    subst el
    subst ea
    subst eG
    unfold fX7_house at h
    exact xG.sub (bX7_house_0 C eL  E h) ⟨rfl, rfl, rfl, trivial⟩)
def fX8_built_0 (w : xW) (x1 : Int32) (x2 : Int32) : Option (xW × Int32) :=
  if ibd (11 + (2 * (w.1 56 9))) 51 = true then
  if ibd ((11 + (2 * (w.1 56 9))) + 1) 51 = true then
  some (sI (sI (sI w 56 ((11 + (2 * (w.1 56 9))).toNatClampNeg) x1) 56 (((11 + (2 * (w.1 56 9))) + 1).toNatClampNeg) x2) 56 9 (((sI (sI w 56 ((11 + (2 * (w.1 56 9))).toNatClampNeg) x1) 56 (((11 + (2 * (w.1 56 9))) + 1).toNatClampNeg) x2).1 56 9) + 1), w.1 56 9)
  else none
  else none
def fX8_built (w : xW) (x1 : Int32) (x2 : Int32) : Option (xW × Int32) := fX8_built_0 w x1 x2
set_option maxRecDepth 100000 in
set_option maxHeartbeats 4000000 in
theorem bX8_built_0 {Γ : xΓ} (C : xOK Γ cX8_built RX8 1) (hL : xn Γ = 4) {w : xW} {x1 : Int32} {x2 : Int32} {r : xW × Int32} (E : xEnd Γ (some .int) r.1 (some (.int r.2))) (h : fX8_built_0  w x1 x2 = some r) : xG Γ w 0 [(0, .ref (xad Γ 55)), (1, .int x1), (2, .int x2)] [] := by
  unfold fX8_built_0 at h
  refine xr_aload_n C 0 rfl dX8_built_0 ?_
  refine xr_getR C 1 dX8_built_1 fl_X8_9 rfl rfl ?_
  refine xr_bipush C 4 9 (by decide +kernel) dX8_built_4 ?_
  refine xr_iald C 6 9 (by decide +kernel) dX8_built_6 rfl (ibd_in (by decide +kernel)) ?_
  refine xr_istore_n C 7 dX8_built_7 (xnb hL rfl) ?_
  refine xr_aload_n C 8 rfl dX8_built_8 ?_
  refine xr_getR C 9 dX8_built_9 fl_X8_9 rfl rfl ?_
  refine xr_bipush C 12 11 (by decide +kernel) dX8_built_12 ?_
  refine xr_iconst C 14 2 (by decide +kernel) dX8_built_14 ?_
  refine xr_iload_n C 15 rfl dX8_built_15 ?_
  refine xr_imul C 16 dX8_built_16 ?_
  refine xr_iadd C 17 dX8_built_17 ?_
  refine xr_iload_n C 18 rfl dX8_built_18 ?_
  obtain ⟨q1, h⟩ := g_ib h
  refine xr_iast C 19 ((11 + (2 * (w.1 56 9))).toNatClampNeg) rfl dX8_built_19 rfl (ibd_in q1) ?_
  refine xr_aload_n C 20 rfl dX8_built_20 ?_
  refine xr_getR C 21 dX8_built_21 fl_X8_9 rfl rfl ?_
  refine xr_bipush C 24 11 (by decide +kernel) dX8_built_24 ?_
  refine xr_iconst C 26 2 (by decide +kernel) dX8_built_26 ?_
  refine xr_iload_n C 27 rfl dX8_built_27 ?_
  refine xr_imul C 28 dX8_built_28 ?_
  refine xr_iadd C 29 dX8_built_29 ?_
  refine xr_iconst C 30 1 (by decide +kernel) dX8_built_30 ?_
  refine xr_iadd C 31 dX8_built_31 ?_
  refine xr_iload_n C 32 rfl dX8_built_32 ?_
  obtain ⟨q2, h⟩ := g_ib h
  refine xr_iast C 33 (((11 + (2 * (w.1 56 9))) + 1).toNatClampNeg) rfl dX8_built_33 rfl (ibd_in q2) ?_
  refine xr_aload_n C 34 rfl dX8_built_34 ?_
  refine xr_getR C 35 dX8_built_35 fl_X8_9 rfl rfl ?_
  refine xr_bipush C 38 9 (by decide +kernel) dX8_built_38 ?_
  refine xr_dup2 C 40 rfl rfl dX8_built_40 ?_
  refine xr_iald C 41 9 (by decide +kernel) dX8_built_41 rfl (ibd_in (by decide +kernel)) ?_
  refine xr_iconst C 42 1 (by decide +kernel) dX8_built_42 ?_
  refine xr_iadd C 43 dX8_built_43 ?_
  refine xr_iast C 44 9 (by decide +kernel) dX8_built_44 rfl (ibd_in (by decide +kernel)) ?_
  refine xr_iload_n C 45 rfl dX8_built_45 ?_
  cases h
  exact xr_iret C 46 E dX8_built_46
set_option maxRecDepth 100000 in
set_option maxHeartbeats 4000000 in
theorem mX8_built {l : Launch} {ad : Nat → Nat} {G : gEnv} {w : xW} {x1 : Int32} {x2 : Int32} {r : xW × Int32} (h : fX8_built w x1 x2 = some r) : xCt l ad G 1 yX8_built cX8_built 4 (some .int) [.ref (ad 55), .int x1, .int x2] w r.1 (some (.int r.2)) := xCt.of RX8 rfl (by decide +kernel) (Nat.le_of_ble_eq_true rfl) (fun Γ el ea eG eL C E => by
    subst el
    subst ea
    subst eG
    unfold fX8_built at h
    exact xG.sub (bX8_built_0 C eL  E h) ⟨rfl, rfl, rfl, trivial⟩)
def fX8_house_16 (w : xW) : Option (xW × Int32) :=
  (fX8_finding w (-1000000001)).bind fun z5 =>
  some (z5.1, z5.2)
def fX8_house_0 (w : xW) (x1 : Int32) (x2 : Int32) : Option (xW × Int32) :=
  if (fX8_within x1 0 5) = 0 then
    fX8_house_16 w
  else
  if (fX8_isSide x2) = 0 then
    fX8_house_16 w
  else
  if (w.1 56 9) = 8 then
    (fX8_finding w (-1000000002)).bind fun z3 =>
    some (z3.1, z3.2)
  else
  (fX8_built w x1 x2).bind fun z1 =>
  some (z1.1, z1.2)
def fX8_house (w : xW) (x1 : Int32) (x2 : Int32) : Option (xW × Int32) := fX8_house_0 w x1 x2
set_option maxRecDepth 100000 in
set_option maxHeartbeats 4000000 in
theorem bX8_house_16 {Γ : xΓ} (C : xOK Γ cX8_house RX8 3) (hL : xn Γ = 3) {w : xW} {r : xW × Int32} (E : xEnd Γ (some .int) r.1 (some (.int r.2))) (h : fX8_house_16  w = some r) : xG Γ w 16 [(0, .ref (xad Γ 55))] [] := by
  unfold fX8_house_16 at h
  refine xr_aload_n C 16 rfl dX8_house_16 ?_
  refine xr_ldc C 17 k_X8_98 dX8_house_17 ?_
  obtain ⟨z5, q6, h⟩ := g_bind h
  refine xr_callV C 19 (mX8_finding q6) v_X8_finding ml_X8_125 (Nat.le_of_ble_eq_true rfl) (Nat.le_of_ble_eq_true rfl) (xrecv C rfl rfl) rfl rfl (Nat.le_of_ble_eq_true rfl) rfl dX8_house_19 ?_
  cases h
  exact xr_iret C 22 E dX8_house_22
set_option maxRecDepth 100000 in
set_option maxHeartbeats 4000000 in
theorem bX8_house_0 {Γ : xΓ} (C : xOK Γ cX8_house RX8 3) (hL : xn Γ = 3) {w : xW} {x1 : Int32} {x2 : Int32} {r : xW × Int32} (E : xEnd Γ (some .int) r.1 (some (.int r.2))) (h : fX8_house_0  w x1 x2 = some r) : xG Γ w 0 [(0, .ref (xad Γ 55)), (1, .int x1), (2, .int x2)] [] := by
  unfold fX8_house_0 at h
  refine xr_iload_n C 0 rfl dX8_house_0 ?_
  refine xr_iconst C 1 0 (by decide +kernel) dX8_house_1 ?_
  refine xr_iconst C 2 5 (by decide +kernel) dX8_house_2 ?_
  refine xr_callS C 3 (mX8_within rfl) v_X8_within ml_X8_121 (Nat.le_of_ble_eq_true rfl) (Nat.le_of_ble_eq_true rfl) rfl rfl (Nat.le_of_ble_eq_true rfl) rfl dX8_house_3 ?_
  refine xr_if_eq C 6 16 dX8_house_6 rfl (fun q => ?_) (fun q => ?_)
  · have h := g_it h q
    exact xG.sub (bX8_house_16 C hL E h) ⟨rfl, trivial⟩
  · have h := g_if h q
    refine xr_iload_n C 9 rfl dX8_house_9 ?_
    refine xr_callS C 10 (mX8_isSide rfl) v_X8_isSide ml_X8_133 (Nat.le_of_ble_eq_true rfl) (Nat.le_of_ble_eq_true rfl) rfl rfl (Nat.le_of_ble_eq_true rfl) rfl dX8_house_10 ?_
    refine xr_if_ne C 13 23 dX8_house_13 rfl (fun q => ?_) (fun q => ?_)
    · have h := g_if h q
      refine xr_aload_n C 23 rfl dX8_house_23 ?_
      refine xr_getR C 24 dX8_house_24 fl_X8_9 rfl rfl ?_
      refine xr_bipush C 27 9 (by decide +kernel) dX8_house_27 ?_
      refine xr_iald C 29 9 (by decide +kernel) dX8_house_29 rfl (ibd_in (by decide +kernel)) ?_
      refine xr_bipush C 30 8 (by decide +kernel) dX8_house_30 ?_
      refine xr_icmp_ne C 32 44 dX8_house_32 rfl (fun q => ?_) (fun q => ?_)
      · have h := g_if h q
        refine xr_aload_n C 44 rfl dX8_house_44 ?_
        refine xr_iload_n C 45 rfl dX8_house_45 ?_
        refine xr_iload_n C 46 rfl dX8_house_46 ?_
        obtain ⟨z1, q2, h⟩ := g_bind h
        refine xr_callV C 47 (mX8_built q2) v_X8_built ml_X8_154 (Nat.le_of_ble_eq_true rfl) (Nat.le_of_ble_eq_true rfl) (xrecv C rfl rfl) rfl rfl (Nat.le_of_ble_eq_true rfl) rfl dX8_house_47 ?_
        cases h
        exact xr_iret C 50 E dX8_house_50
      · have h := g_it h q
        refine xr_aload_n C 35 rfl dX8_house_35 ?_
        refine xr_ldc C 36 k_X8_153 dX8_house_36 ?_
        obtain ⟨z3, q4, h⟩ := g_bind h
        refine xr_callV C 38 (mX8_finding q4) v_X8_finding ml_X8_125 (Nat.le_of_ble_eq_true rfl) (Nat.le_of_ble_eq_true rfl) (xrecv C rfl rfl) rfl rfl (Nat.le_of_ble_eq_true rfl) rfl dX8_house_38 ?_
        refine xr_goto C 41 50 dX8_house_41 rfl ?_
        cases h
        exact xr_iret C 50 E dX8_house_50
    · have h := g_it h q
      exact xG.sub (bX8_house_16 C hL E h) ⟨rfl, trivial⟩
set_option maxRecDepth 100000 in
set_option maxHeartbeats 4000000 in
theorem mX8_house {l : Launch} {ad : Nat → Nat} {G : gEnv} {w : xW} {x1 : Int32} {x2 : Int32} {r : xW × Int32} (h : fX8_house w x1 x2 = some r) : xCt l ad G 3 yX8_house cX8_house 3 (some .int) [.ref (ad 55), .int x1, .int x2] w r.1 (some (.int r.2)) := xCt.of RX8 rfl (by decide +kernel) (Nat.le_of_ble_eq_true rfl) (fun Γ el ea eG eL C E => by
    subst el
    subst ea
    subst eG
    unfold fX8_house at h
    exact xG.sub (bX8_house_0 C eL  E h) ⟨rfl, rfl, rfl, trivial⟩)
def fX7_isHouse_0 (w : xW) (x1 : Int32) : Int32 :=
  if x1 < 0 then
    0
  else
  if (w.1 1 3) ≤ x1 then
    0
  else
  1
def fX7_isHouse (w : xW) (x1 : Int32) : Int32 := fX7_isHouse_0 w x1
theorem xb_fX7_isHouse {w : xW} {x1 : Int32} : xB (fX7_isHouse w x1) = true := by
  unfold fX7_isHouse fX7_isHouse_0
  repeat' split
  all_goals first | rfl | exact xb_fX7_isHouse
set_option maxRecDepth 100000 in
set_option maxHeartbeats 4000000 in
theorem bX7_isHouse_0 {Γ : xΓ} (C : xOK Γ cX7_isHouse RX7 1) (hL : xn Γ = 2) {w : xW} {x1 : Int32} {r : Int32} (E : xEnd Γ (some .boolean) w (some (.int r))) (h : fX7_isHouse_0 w x1 = r) : xG Γ w 0 [(0, .ref (xad Γ 0)), (1, .int x1)] [] := by
  unfold fX7_isHouse_0 at h
  refine xr_iload_n C 0 rfl dX7_isHouse_0 ?_
  refine xr_if_lt C 1 19 dX7_isHouse_1 rfl (fun q => ?_) (fun q => ?_)
  · have h := g_it h q
    refine xr_iconst C 19 0 (by decide +kernel) dX7_isHouse_19 ?_
    cases h
    exact xr_zret C 20 E dX7_isHouse_20 (by decide +kernel)
  · have h := g_if h q
    refine xr_iload_n C 4 rfl dX7_isHouse_4 ?_
    refine xr_aload_n C 5 rfl dX7_isHouse_5 ?_
    refine xr_getR C 6 dX7_isHouse_6 fl_X7_10 rfl rfl ?_
    refine xr_getI C 9 dX7_isHouse_9 fl_X7_127 rfl rfl ?_
    refine xr_icmp_ge C 12 19 dX7_isHouse_12 rfl (fun q => ?_) (fun q => ?_)
    · have h := g_it h q
      refine xr_iconst C 19 0 (by decide +kernel) dX7_isHouse_19 ?_
      cases h
      exact xr_zret C 20 E dX7_isHouse_20 (by decide +kernel)
    · have h := g_if h q
      refine xr_iconst C 15 1 (by decide +kernel) dX7_isHouse_15 ?_
      refine xr_goto C 16 20 dX7_isHouse_16 rfl ?_
      cases h
      exact xr_zret C 20 E dX7_isHouse_20 (by decide +kernel)
set_option maxRecDepth 100000 in
set_option maxHeartbeats 4000000 in
theorem mX7_isHouse {l : Launch} {ad : Nat → Nat} {G : gEnv} {w : xW} {x1 : Int32} {r : Int32} (h : fX7_isHouse w x1 = r) : xCt l ad G 1 yX7_isHouse cX7_isHouse 2 (some .boolean) [.ref (ad 0), .int x1] w w (some (.int r)) := xCt.of RX7 rfl (by decide +kernel) (Nat.le_of_ble_eq_true rfl) (fun Γ el ea eG eL C E => by
    subst el
    subst ea
    subst eG
    unfold fX7_isHouse at h
    exact xG.sub (bX7_isHouse_0 C eL  E h) ⟨rfl, rfl, trivial⟩)
def fX7_houseOf_17 (w : xW) : Option (xW × Int32) :=
  (fX7_refuse w (-1000000001)).bind fun z3 =>
  some (z3.1, z3.2)
def fX7_houseOf_0 (w : xW) (x1 : Int32) (x2 : Int32) : Option (xW × Int32) :=
  if (fX7_isHouse w x1) = 0 then
    fX7_houseOf_17 w
  else
  if x2 < 0 then
    fX7_houseOf_17 w
  else
  if x2 ≤ 1 then
    if x2 = 0 then
      if ibd x1 8 = true then
      some (w, w.1 5 x1.toNatClampNeg)
      else none
    else
    if ibd x1 8 = true then
    some (w, w.1 6 x1.toNatClampNeg)
    else none
  else
  fX7_houseOf_17 w
def fX7_houseOf (w : xW) (x1 : Int32) (x2 : Int32) : Option (xW × Int32) := fX7_houseOf_0 w x1 x2
set_option maxRecDepth 100000 in
set_option maxHeartbeats 4000000 in
theorem bX7_houseOf_17 {Γ : xΓ} (C : xOK Γ cX7_houseOf RX7 2) (hL : xn Γ = 3) {w : xW} {r : xW × Int32} (E : xEnd Γ (some .int) r.1 (some (.int r.2))) (h : fX7_houseOf_17  w = some r) : xG Γ w 17 [(0, .ref (xad Γ 0))] [] := by
  unfold fX7_houseOf_17 at h
  refine xr_aload_n C 17 rfl dX7_houseOf_17 ?_
  refine xr_ldc C 18 k_X7_69 dX7_houseOf_18 ?_
  obtain ⟨z3, q4, h⟩ := g_bind h
  refine xr_callV C 20 (mX7_refuse q4) v_X7_refuse ml_X7_70 (Nat.le_of_ble_eq_true rfl) (Nat.le_of_ble_eq_true rfl) (xrecv C rfl rfl) rfl rfl (Nat.le_of_ble_eq_true rfl) rfl dX7_houseOf_20 ?_
  cases h
  exact xr_iret C 23 E dX7_houseOf_23
set_option maxRecDepth 100000 in
set_option maxHeartbeats 4000000 in
theorem bX7_houseOf_0 {Γ : xΓ} (C : xOK Γ cX7_houseOf RX7 2) (hL : xn Γ = 3) {w : xW} {x1 : Int32} {x2 : Int32} {r : xW × Int32} (E : xEnd Γ (some .int) r.1 (some (.int r.2))) (h : fX7_houseOf_0  w x1 x2 = some r) : xG Γ w 0 [(0, .ref (xad Γ 0)), (1, .int x1), (2, .int x2)] [] := by
  unfold fX7_houseOf_0 at h
  refine xr_aload_n C 0 rfl dX7_houseOf_0 ?_
  refine xr_iload_n C 1 rfl dX7_houseOf_1 ?_
  refine xr_callV C 2 (mX7_isHouse rfl) v_X7_isHouse ml_X7_135 (Nat.le_of_ble_eq_true rfl) (Nat.le_of_ble_eq_true rfl) (xrecv C rfl rfl) rfl rfl (Nat.le_of_ble_eq_true rfl) rfl dX7_houseOf_2 ?_
  refine xr_if_eq C 5 17 dX7_houseOf_5 rfl (fun q => ?_) (fun q => ?_)
  · have h := g_it h q
    exact xG.sub (bX7_houseOf_17 C hL E h) ⟨rfl, trivial⟩
  · have h := g_if h q
    refine xr_iload_n C 8 rfl dX7_houseOf_8 ?_
    refine xr_if_lt C 9 17 dX7_houseOf_9 rfl (fun q => ?_) (fun q => ?_)
    · have h := g_it h q
      exact xG.sub (bX7_houseOf_17 C hL E h) ⟨rfl, trivial⟩
    · have h := g_if h q
      refine xr_iload_n C 12 rfl dX7_houseOf_12 ?_
      refine xr_iconst C 13 1 (by decide +kernel) dX7_houseOf_13 ?_
      refine xr_icmp_le C 14 24 dX7_houseOf_14 rfl (fun q => ?_) (fun q => ?_)
      · have h := g_it h q
        refine xr_iload_n C 24 rfl dX7_houseOf_24 ?_
        refine xr_if_ne C 25 40 dX7_houseOf_25 rfl (fun q => ?_) (fun q => ?_)
        · have h := g_if h q
          refine xr_aload_n C 40 rfl dX7_houseOf_40 ?_
          refine xr_getR C 41 dX7_houseOf_41 fl_X7_10 rfl rfl ?_
          refine xr_getR C 44 dX7_houseOf_44 fl_X7_141 rfl rfl ?_
          refine xr_iload_n C 47 rfl dX7_houseOf_47 ?_
          obtain ⟨q1, h⟩ := g_ib h
          refine xr_iald C 48 x1.toNatClampNeg rfl dX7_houseOf_48 rfl (ibd_in q1) ?_
          cases h
          exact xr_iret C 49 E dX7_houseOf_49
        · have h := g_it h q
          refine xr_aload_n C 28 rfl dX7_houseOf_28 ?_
          refine xr_getR C 29 dX7_houseOf_29 fl_X7_10 rfl rfl ?_
          refine xr_getR C 32 dX7_houseOf_32 fl_X7_138 rfl rfl ?_
          refine xr_iload_n C 35 rfl dX7_houseOf_35 ?_
          obtain ⟨q2, h⟩ := g_ib h
          refine xr_iald C 36 x1.toNatClampNeg rfl dX7_houseOf_36 rfl (ibd_in q2) ?_
          refine xr_goto C 37 49 dX7_houseOf_37 rfl ?_
          cases h
          exact xr_iret C 49 E dX7_houseOf_49
      · have h := g_if h q
        exact xG.sub (bX7_houseOf_17 C hL E h) ⟨rfl, trivial⟩
set_option maxRecDepth 100000 in
set_option maxHeartbeats 4000000 in
theorem mX7_houseOf {l : Launch} {ad : Nat → Nat} {G : gEnv} {w : xW} {x1 : Int32} {x2 : Int32} {r : xW × Int32} (h : fX7_houseOf w x1 x2 = some r) : xCt l ad G 2 yX7_houseOf cX7_houseOf 3 (some .int) [.ref (ad 0), .int x1, .int x2] w r.1 (some (.int r.2)) := xCt.of RX7 rfl (by decide +kernel) (Nat.le_of_ble_eq_true rfl) (fun Γ el ea eG eL C E => by
    subst el
    subst ea
    subst eG
    unfold fX7_houseOf at h
    exact xG.sub (bX7_houseOf_0 C eL  E h) ⟨rfl, rfl, rfl, trivial⟩)
def fX8_isHouse_0 (w : xW) (x1 : Int32) : Int32 :=
  (fX8_within x1 0 ((w.1 56 9) - 1))
def fX8_isHouse (w : xW) (x1 : Int32) : Int32 := fX8_isHouse_0 w x1
theorem xb_fX8_isHouse {w : xW} {x1 : Int32} : xB (fX8_isHouse w x1) = true := by
  unfold fX8_isHouse fX8_isHouse_0
  repeat' split
  all_goals first | rfl | exact xb_fX8_within
set_option maxRecDepth 100000 in
set_option maxHeartbeats 4000000 in
theorem bX8_isHouse_0 {Γ : xΓ} (C : xOK Γ cX8_isHouse RX8 2) (hL : xn Γ = 2) {w : xW} {x1 : Int32} {r : Int32} (E : xEnd Γ (some .boolean) w (some (.int r))) (h : fX8_isHouse_0 w x1 = r) : xG Γ w 0 [(0, .ref (xad Γ 55)), (1, .int x1)] [] := by
  unfold fX8_isHouse_0 at h
  refine xr_iload_n C 0 rfl dX8_isHouse_0 ?_
  refine xr_iconst C 1 0 (by decide +kernel) dX8_isHouse_1 ?_
  refine xr_aload_n C 2 rfl dX8_isHouse_2 ?_
  refine xr_getR C 3 dX8_isHouse_3 fl_X8_9 rfl rfl ?_
  refine xr_bipush C 6 9 (by decide +kernel) dX8_isHouse_6 ?_
  refine xr_iald C 8 9 (by decide +kernel) dX8_isHouse_8 rfl (ibd_in (by decide +kernel)) ?_
  refine xr_iconst C 9 1 (by decide +kernel) dX8_isHouse_9 ?_
  refine xr_isub C 10 dX8_isHouse_10 ?_
  refine xr_callS C 11 (mX8_within rfl) v_X8_within ml_X8_121 (Nat.le_of_ble_eq_true rfl) (Nat.le_of_ble_eq_true rfl) rfl rfl (Nat.le_of_ble_eq_true rfl) rfl dX8_isHouse_11 ?_
  cases h
  exact xr_zret C 14 E dX8_isHouse_14 (xb_fX8_within)
set_option maxRecDepth 100000 in
set_option maxHeartbeats 4000000 in
theorem mX8_isHouse {l : Launch} {ad : Nat → Nat} {G : gEnv} {w : xW} {x1 : Int32} {r : Int32} (h : fX8_isHouse w x1 = r) : xCt l ad G 2 yX8_isHouse cX8_isHouse 2 (some .boolean) [.ref (ad 55), .int x1] w w (some (.int r)) := xCt.of RX8 rfl (by decide +kernel) (Nat.le_of_ble_eq_true rfl) (fun Γ el ea eG eL C E => by
    subst el
    subst ea
    subst eG
    unfold fX8_isHouse at h
    exact xG.sub (bX8_isHouse_0 C eL  E h) ⟨rfl, rfl, trivial⟩)
def fX8_houseOf_33 (w : xW) : Option (xW × Int32) :=
  (fX8_finding w (-1000000001)).bind fun z2 =>
  some (z2.1, z2.2)
def fX8_houseOf_0 (w : xW) (x1 : Int32) (x2 : Int32) : Option (xW × Int32) :=
  if (fX8_isHouse w x1) = 0 then
    fX8_houseOf_33 w
  else
  if (fX8_within x2 0 1) = 0 then
    fX8_houseOf_33 w
  else
  if ibd ((11 + (2 * x1)) + x2) 51 = true then
  some (w, w.1 56 (((11 + (2 * x1)) + x2).toNatClampNeg))
  else none
def fX8_houseOf (w : xW) (x1 : Int32) (x2 : Int32) : Option (xW × Int32) := fX8_houseOf_0 w x1 x2
set_option maxRecDepth 100000 in
set_option maxHeartbeats 4000000 in
theorem bX8_houseOf_33 {Γ : xΓ} (C : xOK Γ cX8_houseOf RX8 3) (hL : xn Γ = 3) {w : xW} {r : xW × Int32} (E : xEnd Γ (some .int) r.1 (some (.int r.2))) (h : fX8_houseOf_33  w = some r) : xG Γ w 33 [(0, .ref (xad Γ 55))] [] := by
  unfold fX8_houseOf_33 at h
  refine xr_aload_n C 33 rfl dX8_houseOf_33 ?_
  refine xr_ldc C 34 k_X8_98 dX8_houseOf_34 ?_
  obtain ⟨z2, q3, h⟩ := g_bind h
  refine xr_callV C 36 (mX8_finding q3) v_X8_finding ml_X8_125 (Nat.le_of_ble_eq_true rfl) (Nat.le_of_ble_eq_true rfl) (xrecv C rfl rfl) rfl rfl (Nat.le_of_ble_eq_true rfl) rfl dX8_houseOf_36 ?_
  cases h
  exact xr_iret C 39 E dX8_houseOf_39
set_option maxRecDepth 100000 in
set_option maxHeartbeats 4000000 in
theorem bX8_houseOf_0 {Γ : xΓ} (C : xOK Γ cX8_houseOf RX8 3) (hL : xn Γ = 3) {w : xW} {x1 : Int32} {x2 : Int32} {r : xW × Int32} (E : xEnd Γ (some .int) r.1 (some (.int r.2))) (h : fX8_houseOf_0  w x1 x2 = some r) : xG Γ w 0 [(0, .ref (xad Γ 55)), (1, .int x1), (2, .int x2)] [] := by
  unfold fX8_houseOf_0 at h
  refine xr_aload_n C 0 rfl dX8_houseOf_0 ?_
  refine xr_iload_n C 1 rfl dX8_houseOf_1 ?_
  refine xr_callV C 2 (mX8_isHouse rfl) v_X8_isHouse ml_X8_157 (Nat.le_of_ble_eq_true rfl) (Nat.le_of_ble_eq_true rfl) (xrecv C rfl rfl) rfl rfl (Nat.le_of_ble_eq_true rfl) rfl dX8_houseOf_2 ?_
  refine xr_if_eq C 5 33 dX8_houseOf_5 rfl (fun q => ?_) (fun q => ?_)
  · have h := g_it h q
    exact xG.sub (bX8_houseOf_33 C hL E h) ⟨rfl, trivial⟩
  · have h := g_if h q
    refine xr_iload_n C 8 rfl dX8_houseOf_8 ?_
    refine xr_iconst C 9 0 (by decide +kernel) dX8_houseOf_9 ?_
    refine xr_iconst C 10 1 (by decide +kernel) dX8_houseOf_10 ?_
    refine xr_callS C 11 (mX8_within rfl) v_X8_within ml_X8_121 (Nat.le_of_ble_eq_true rfl) (Nat.le_of_ble_eq_true rfl) rfl rfl (Nat.le_of_ble_eq_true rfl) rfl dX8_houseOf_11 ?_
    refine xr_if_eq C 14 33 dX8_houseOf_14 rfl (fun q => ?_) (fun q => ?_)
    · have h := g_it h q
      exact xG.sub (bX8_houseOf_33 C hL E h) ⟨rfl, trivial⟩
    · have h := g_if h q
      refine xr_aload_n C 17 rfl dX8_houseOf_17 ?_
      refine xr_getR C 18 dX8_houseOf_18 fl_X8_9 rfl rfl ?_
      refine xr_bipush C 21 11 (by decide +kernel) dX8_houseOf_21 ?_
      refine xr_iconst C 23 2 (by decide +kernel) dX8_houseOf_23 ?_
      refine xr_iload_n C 24 rfl dX8_houseOf_24 ?_
      refine xr_imul C 25 dX8_houseOf_25 ?_
      refine xr_iadd C 26 dX8_houseOf_26 ?_
      refine xr_iload_n C 27 rfl dX8_houseOf_27 ?_
      refine xr_iadd C 28 dX8_houseOf_28 ?_
      obtain ⟨q1, h⟩ := g_ib h
      refine xr_iald C 29 (((11 + (2 * x1)) + x2).toNatClampNeg) rfl dX8_houseOf_29 rfl (ibd_in q1) ?_
      refine xr_goto C 30 39 dX8_houseOf_30 rfl ?_
      cases h
      exact xr_iret C 39 E dX8_houseOf_39
set_option maxRecDepth 100000 in
set_option maxHeartbeats 4000000 in
theorem mX8_houseOf {l : Launch} {ad : Nat → Nat} {G : gEnv} {w : xW} {x1 : Int32} {x2 : Int32} {r : xW × Int32} (h : fX8_houseOf w x1 x2 = some r) : xCt l ad G 3 yX8_houseOf cX8_houseOf 3 (some .int) [.ref (ad 55), .int x1, .int x2] w r.1 (some (.int r.2)) := xCt.of RX8 rfl (by decide +kernel) (Nat.le_of_ble_eq_true rfl) (fun Γ el ea eG eL C E => by
    subst el
    subst ea
    subst eG
    unfold fX8_houseOf at h
    exact xG.sub (bX8_houseOf_0 C eL  E h) ⟨rfl, rfl, rfl, trivial⟩)
def fX7_turn_15 (w : xW) : Option (xW × Int32) :=
  (fX7_refuse w (-1000000001)).bind fun z2 =>
  some (z2.1, z2.2)
def fX7_turn_0 (w : xW) (x1 : Int32) (x2 : Int32) : Option (xW × Int32) :=
  if (fX7_isHouse w x1) = 0 then
    fX7_turn_15 w
  else
  if (fX7_isSide x2) = 0 then
    fX7_turn_15 w
  else
  if ibd x1 8 = true then
  some (sI w 6 x1.toNatClampNeg x2, w.1 6 x1.toNatClampNeg)
  else none
def fX7_turn (w : xW) (x1 : Int32) (x2 : Int32) : Option (xW × Int32) := fX7_turn_0 w x1 x2
set_option maxRecDepth 100000 in
set_option maxHeartbeats 4000000 in
theorem bX7_turn_15 {Γ : xΓ} (C : xOK Γ cX7_turn RX7 2) (hL : xn Γ = 4) {w : xW} {r : xW × Int32} (E : xEnd Γ (some .int) r.1 (some (.int r.2))) (h : fX7_turn_15  w = some r) : xG Γ w 15 [(0, .ref (xad Γ 0))] [] := by
  unfold fX7_turn_15 at h
  refine xr_aload_n C 15 rfl dX7_turn_15 ?_
  refine xr_ldc C 16 k_X7_69 dX7_turn_16 ?_
  obtain ⟨z2, q3, h⟩ := g_bind h
  refine xr_callV C 18 (mX7_refuse q3) v_X7_refuse ml_X7_70 (Nat.le_of_ble_eq_true rfl) (Nat.le_of_ble_eq_true rfl) (xrecv C rfl rfl) rfl rfl (Nat.le_of_ble_eq_true rfl) rfl dX7_turn_18 ?_
  cases h
  exact xr_iret C 21 E dX7_turn_21
set_option maxRecDepth 100000 in
set_option maxHeartbeats 4000000 in
theorem bX7_turn_0 {Γ : xΓ} (C : xOK Γ cX7_turn RX7 2) (hL : xn Γ = 4) {w : xW} {x1 : Int32} {x2 : Int32} {r : xW × Int32} (E : xEnd Γ (some .int) r.1 (some (.int r.2))) (h : fX7_turn_0  w x1 x2 = some r) : xG Γ w 0 [(0, .ref (xad Γ 0)), (1, .int x1), (2, .int x2)] [] := by
  unfold fX7_turn_0 at h
  refine xr_aload_n C 0 rfl dX7_turn_0 ?_
  refine xr_iload_n C 1 rfl dX7_turn_1 ?_
  refine xr_callV C 2 (mX7_isHouse rfl) v_X7_isHouse ml_X7_135 (Nat.le_of_ble_eq_true rfl) (Nat.le_of_ble_eq_true rfl) (xrecv C rfl rfl) rfl rfl (Nat.le_of_ble_eq_true rfl) rfl dX7_turn_2 ?_
  refine xr_if_eq C 5 15 dX7_turn_5 rfl (fun q => ?_) (fun q => ?_)
  · have h := g_it h q
    exact xG.sub (bX7_turn_15 C hL E h) ⟨rfl, trivial⟩
  · have h := g_if h q
    refine xr_iload_n C 8 rfl dX7_turn_8 ?_
    refine xr_callS C 9 (mX7_isSide rfl) v_X7_isSide ml_X7_87 (Nat.le_of_ble_eq_true rfl) (Nat.le_of_ble_eq_true rfl) rfl rfl (Nat.le_of_ble_eq_true rfl) rfl dX7_turn_9 ?_
    refine xr_if_ne C 12 22 dX7_turn_12 rfl (fun q => ?_) (fun q => ?_)
    · have h := g_if h q
      refine xr_aload_n C 22 rfl dX7_turn_22 ?_
      refine xr_getR C 23 dX7_turn_23 fl_X7_10 rfl rfl ?_
      refine xr_getR C 26 dX7_turn_26 fl_X7_141 rfl rfl ?_
      refine xr_iload_n C 29 rfl dX7_turn_29 ?_
      obtain ⟨q1, h⟩ := g_ib h
      refine xr_iald C 30 x1.toNatClampNeg rfl dX7_turn_30 rfl (ibd_in q1) ?_
      refine xr_istore_n C 31 dX7_turn_31 (xnb hL rfl) ?_
      refine xr_aload_n C 32 rfl dX7_turn_32 ?_
      refine xr_getR C 33 dX7_turn_33 fl_X7_10 rfl rfl ?_
      refine xr_getR C 36 dX7_turn_36 fl_X7_141 rfl rfl ?_
      refine xr_iload_n C 39 rfl dX7_turn_39 ?_
      refine xr_iload_n C 40 rfl dX7_turn_40 ?_
      refine xr_iast C 41 x1.toNatClampNeg rfl dX7_turn_41 rfl (ibd_in q1) ?_
      refine xr_iload_n C 42 rfl dX7_turn_42 ?_
      cases h
      exact xr_iret C 43 E dX7_turn_43
    · have h := g_it h q
      exact xG.sub (bX7_turn_15 C hL E h) ⟨rfl, trivial⟩
set_option maxRecDepth 100000 in
set_option maxHeartbeats 4000000 in
theorem mX7_turn {l : Launch} {ad : Nat → Nat} {G : gEnv} {w : xW} {x1 : Int32} {x2 : Int32} {r : xW × Int32} (h : fX7_turn w x1 x2 = some r) : xCt l ad G 2 yX7_turn cX7_turn 4 (some .int) [.ref (ad 0), .int x1, .int x2] w r.1 (some (.int r.2)) := xCt.of RX7 rfl (by decide +kernel) (Nat.le_of_ble_eq_true rfl) (fun Γ el ea eG eL C E => by
    subst el
    subst ea
    subst eG
    unfold fX7_turn at h
    exact xG.sub (bX7_turn_0 C eL  E h) ⟨rfl, rfl, rfl, trivial⟩)
def fX8_turn_31 (w : xW) : Option (xW × Int32) :=
  (fX8_finding w (-1000000001)).bind fun z3 =>
  some (z3.1, z3.2)
def fX8_turn_0 (w : xW) (x1 : Int32) (x2 : Int32) : Option (xW × Int32) :=
  if (fX8_isHouse w x1) = 0 then
    fX8_turn_31 w
  else
  if (fX8_isSide x2) = 0 then
    fX8_turn_31 w
  else
  (fX8_become w ((11 + (2 * x1)) + 1) x2).bind fun z1 =>
  some (z1.1, z1.2)
def fX8_turn (w : xW) (x1 : Int32) (x2 : Int32) : Option (xW × Int32) := fX8_turn_0 w x1 x2
set_option maxRecDepth 100000 in
set_option maxHeartbeats 4000000 in
theorem bX8_turn_31 {Γ : xΓ} (C : xOK Γ cX8_turn RX8 3) (hL : xn Γ = 3) {w : xW} {r : xW × Int32} (E : xEnd Γ (some .int) r.1 (some (.int r.2))) (h : fX8_turn_31  w = some r) : xG Γ w 31 [(0, .ref (xad Γ 55))] [] := by
  unfold fX8_turn_31 at h
  refine xr_aload_n C 31 rfl dX8_turn_31 ?_
  refine xr_ldc C 32 k_X8_98 dX8_turn_32 ?_
  obtain ⟨z3, q4, h⟩ := g_bind h
  refine xr_callV C 34 (mX8_finding q4) v_X8_finding ml_X8_125 (Nat.le_of_ble_eq_true rfl) (Nat.le_of_ble_eq_true rfl) (xrecv C rfl rfl) rfl rfl (Nat.le_of_ble_eq_true rfl) rfl dX8_turn_34 ?_
  cases h
  exact xr_iret C 37 E dX8_turn_37
set_option maxRecDepth 100000 in
set_option maxHeartbeats 4000000 in
theorem bX8_turn_0 {Γ : xΓ} (C : xOK Γ cX8_turn RX8 3) (hL : xn Γ = 3) {w : xW} {x1 : Int32} {x2 : Int32} {r : xW × Int32} (E : xEnd Γ (some .int) r.1 (some (.int r.2))) (h : fX8_turn_0  w x1 x2 = some r) : xG Γ w 0 [(0, .ref (xad Γ 55)), (1, .int x1), (2, .int x2)] [] := by
  unfold fX8_turn_0 at h
  refine xr_aload_n C 0 rfl dX8_turn_0 ?_
  refine xr_iload_n C 1 rfl dX8_turn_1 ?_
  refine xr_callV C 2 (mX8_isHouse rfl) v_X8_isHouse ml_X8_157 (Nat.le_of_ble_eq_true rfl) (Nat.le_of_ble_eq_true rfl) (xrecv C rfl rfl) rfl rfl (Nat.le_of_ble_eq_true rfl) rfl dX8_turn_2 ?_
  refine xr_if_eq C 5 31 dX8_turn_5 rfl (fun q => ?_) (fun q => ?_)
  · have h := g_it h q
    exact xG.sub (bX8_turn_31 C hL E h) ⟨rfl, trivial⟩
  · have h := g_if h q
    refine xr_iload_n C 8 rfl dX8_turn_8 ?_
    refine xr_callS C 9 (mX8_isSide rfl) v_X8_isSide ml_X8_133 (Nat.le_of_ble_eq_true rfl) (Nat.le_of_ble_eq_true rfl) rfl rfl (Nat.le_of_ble_eq_true rfl) rfl dX8_turn_9 ?_
    refine xr_if_eq C 12 31 dX8_turn_12 rfl (fun q => ?_) (fun q => ?_)
    · have h := g_it h q
      exact xG.sub (bX8_turn_31 C hL E h) ⟨rfl, trivial⟩
    · have h := g_if h q
      refine xr_aload_n C 15 rfl dX8_turn_15 ?_
      refine xr_bipush C 16 11 (by decide +kernel) dX8_turn_16 ?_
      refine xr_iconst C 18 2 (by decide +kernel) dX8_turn_18 ?_
      refine xr_iload_n C 19 rfl dX8_turn_19 ?_
      refine xr_imul C 20 dX8_turn_20 ?_
      refine xr_iadd C 21 dX8_turn_21 ?_
      refine xr_iconst C 22 1 (by decide +kernel) dX8_turn_22 ?_
      refine xr_iadd C 23 dX8_turn_23 ?_
      refine xr_iload_n C 24 rfl dX8_turn_24 ?_
      obtain ⟨z1, q2, h⟩ := g_bind h
      refine xr_callV C 25 (mX8_become q2) v_X8_become ml_X8_128 (Nat.le_of_ble_eq_true rfl) (Nat.le_of_ble_eq_true rfl) (xrecv C rfl rfl) rfl rfl (Nat.le_of_ble_eq_true rfl) rfl dX8_turn_25 ?_
      refine xr_goto C 28 37 dX8_turn_28 rfl ?_
      cases h
      exact xr_iret C 37 E dX8_turn_37
set_option maxRecDepth 100000 in
set_option maxHeartbeats 4000000 in
theorem mX8_turn {l : Launch} {ad : Nat → Nat} {G : gEnv} {w : xW} {x1 : Int32} {x2 : Int32} {r : xW × Int32} (h : fX8_turn w x1 x2 = some r) : xCt l ad G 3 yX8_turn cX8_turn 3 (some .int) [.ref (ad 55), .int x1, .int x2] w r.1 (some (.int r.2)) := xCt.of RX8 rfl (by decide +kernel) (Nat.le_of_ble_eq_true rfl) (fun Γ el ea eG eL C E => by
    subst el
    subst ea
    subst eG
    unfold fX8_turn at h
    exact xG.sub (bX8_turn_0 C eL  E h) ⟨rfl, rfl, rfl, trivial⟩)
def fX1_isUnder_4b (N : Nat) (K4 : Int32 → Int32 → Int32 → Option Int32) (x1 : Int32) (x2 : Int32) (x3 : Int32) : Option Int32 :=
  if 6 ≤ x3 then
    some 0
  else
  if (fX1_isKind x2) = 0 then
    some 0
  else
  if x2 = x1 then
    some 1
  else
  if ibd x2 6 = true then
  K4 x1 (kUNDER x2.toNatClampNeg) (x3 + 1)
  else none
def fX1_isUnder_4 (N : Nat) : Nat → Int32 → Int32 → Int32 → Option Int32
  | 0, _, _, _ => none
  | n + 1, x1, x2, x3 => fX1_isUnder_4b N (fX1_isUnder_4 N n) x1 x2 x3
def fX1_isUnder_0 (N : Nat) (x0 : Int32) (x1 : Int32) : Option Int32 :=
  fX1_isUnder_4 N N x1 x0 0
def fX1_isUnder (N : Nat) (x0 : Int32) (x1 : Int32) : Option Int32 := fX1_isUnder_0 N x0 x1
set_option maxRecDepth 100000 in
set_option maxHeartbeats 4000000 in
theorem bX1_isUnder_4b {Γ : xΓ} (C : xOK Γ cX1_isUnder RX1 2) (hL : xn Γ = 4) {N : Nat} {K4 : Int32 → Int32 → Int32 → Option Int32} {w : xW} {x1 : Int32} {x2 : Int32} {x3 : Int32} {r : Int32} (E : xEnd Γ (some .boolean) w (some (.int r))) (hK4 : ∀ (x1 : Int32) (x2 : Int32) (x3 : Int32), K4 x1 x2 x3 = some r → xG Γ w 4 [(1, .int x1), (2, .int x2), (3, .int x3)] []) (h : fX1_isUnder_4b N K4 x1 x2 x3 = some r) : xG Γ w 4 [(1, .int x1), (2, .int x2), (3, .int x3)] [] := by
  unfold fX1_isUnder_4b at h
  refine xr_iload_n C 4 rfl dX1_isUnder_4 ?_
  refine xr_bipush C 5 6 (by decide +kernel) dX1_isUnder_5 ?_
  refine xr_icmp_ge C 7 36 dX1_isUnder_7 rfl (fun q => ?_) (fun q => ?_)
  · have h := g_it h q
    refine xr_iconst C 36 0 (by decide +kernel) dX1_isUnder_36 ?_
    cases h
    exact xr_zret C 37 E dX1_isUnder_37 (by decide +kernel)
  · have h := g_if h q
    refine xr_iload_n C 10 rfl dX1_isUnder_10 ?_
    refine xr_callS C 11 (mX1_isKind rfl) v_X1_isKind ml_X1_60 (Nat.le_of_ble_eq_true rfl) (Nat.le_of_ble_eq_true rfl) rfl rfl (Nat.le_of_ble_eq_true rfl) rfl dX1_isUnder_11 ?_
    refine xr_if_eq C 14 36 dX1_isUnder_14 rfl (fun q => ?_) (fun q => ?_)
    · have h := g_it h q
      refine xr_iconst C 36 0 (by decide +kernel) dX1_isUnder_36 ?_
      cases h
      exact xr_zret C 37 E dX1_isUnder_37 (by decide +kernel)
    · have h := g_if h q
      refine xr_iload_n C 17 rfl dX1_isUnder_17 ?_
      refine xr_iload_n C 18 rfl dX1_isUnder_18 ?_
      refine xr_icmp_ne C 19 24 dX1_isUnder_19 rfl (fun q => ?_) (fun q => ?_)
      · have h := g_if h q
        refine xr_getsUNDER C 24 dX1_isUnder_24 st_X1_64 ?_
        refine xr_iload_n C 27 rfl dX1_isUnder_27 ?_
        obtain ⟨q1, h⟩ := g_ib h
        refine xr_tabUNDER C 28 x2.toNatClampNeg rfl dX1_isUnder_28 (ibd_in q1) ?_
        refine xr_istore_n C 29 dX1_isUnder_29 (xnb hL rfl) ?_
        refine xr_iinc C 30 1 (by decide +kernel) rfl dX1_isUnder_30 (xnb hL rfl) ?_
        refine xr_goto C 33 4 dX1_isUnder_33 rfl ?_
        exact xG.sub (hK4 _ _ _ h) ⟨rfl, rfl, rfl, trivial⟩
      · have h := g_it h q
        refine xr_iconst C 22 1 (by decide +kernel) dX1_isUnder_22 ?_
        cases h
        exact xr_zret C 23 E dX1_isUnder_23 (by decide +kernel)
set_option maxRecDepth 100000 in
set_option maxHeartbeats 4000000 in
theorem bX1_isUnder_4 {Γ : xΓ} (C : xOK Γ cX1_isUnder RX1 2) (hL : xn Γ = 4) {N : Nat} {w : xW} {r : Int32} (E : xEnd Γ (some .boolean) w (some (.int r))) : ∀ (n : Nat) (x1 : Int32) (x2 : Int32) (x3 : Int32), fX1_isUnder_4 N n x1 x2 x3 = some r → xG Γ w 4 [(1, .int x1), (2, .int x2), (3, .int x3)] []
  | 0, _, _, _, h => by cases h
  | n + 1, x1, x2, x3, h => bX1_isUnder_4b C hL E (bX1_isUnder_4 C hL E n) h
set_option maxRecDepth 100000 in
set_option maxHeartbeats 4000000 in
theorem bX1_isUnder_0 {Γ : xΓ} (C : xOK Γ cX1_isUnder RX1 2) (hL : xn Γ = 4) {N : Nat} {w : xW} {x0 : Int32} {x1 : Int32} {r : Int32} (E : xEnd Γ (some .boolean) w (some (.int r))) (h : fX1_isUnder_0 N x0 x1 = some r) : xG Γ w 0 [(0, .int x0), (1, .int x1)] [] := by
  unfold fX1_isUnder_0 at h
  refine xr_iload_n C 0 rfl dX1_isUnder_0 ?_
  refine xr_istore_n C 1 dX1_isUnder_1 (xnb hL rfl) ?_
  refine xr_iconst C 2 0 (by decide +kernel) dX1_isUnder_2 ?_
  refine xr_istore_n C 3 dX1_isUnder_3 (xnb hL rfl) ?_
  exact xG.sub (bX1_isUnder_4 C hL E N _ _ _ h) ⟨rfl, rfl, rfl, trivial⟩
set_option maxRecDepth 100000 in
set_option maxHeartbeats 4000000 in
theorem mX1_isUnder {l : Launch} {ad : Nat → Nat} {G : gEnv} {N : Nat} {w : xW} {x0 : Int32} {x1 : Int32} {r : Int32} (h : fX1_isUnder N x0 x1 = some r) : xCt l ad G 2 yX1_isUnder cX1_isUnder 4 (some .boolean) [.int x0, .int x1] w w (some (.int r)) := xCt.of RX1 rfl (by decide +kernel) (Nat.le_of_ble_eq_true rfl) (fun Γ el ea eG eL C E => by
    subst el
    subst ea
    subst eG
    unfold fX1_isUnder at h
    exact xG.sub (bX1_isUnder_0 C eL  E h) ⟨rfl, rfl, trivial⟩)
def fX7_as_15 (N : Nat) (w : xW) : Option (xW × Int32) :=
  (fX7_refuse w (-1000000001)).bind fun z6 =>
  some (z6.1, z6.2)
def fX7_as_0 (N : Nat) (w : xW) (x1 : Int32) (x2 : Int32) : Option (xW × Int32) :=
  if (fX7_isHouse w x1) = 0 then
    fX7_as_15 N w
  else
  if (fX1_isKind x2) = 0 then
    fX7_as_15 N w
  else
  if ibd x1 8 = true then
  (fX1_isUnder N (w.1 5 x1.toNatClampNeg) x2).bind fun z2 =>
  if z2 = 0 then
    (fX7_refuse w (-1000000003)).bind fun z4 =>
    some (z4.1, z4.2)
  else
  some (w, w.1 6 x1.toNatClampNeg)
  else none
def fX7_as (N : Nat) (w : xW) (x1 : Int32) (x2 : Int32) : Option (xW × Int32) := fX7_as_0 N w x1 x2
set_option maxRecDepth 100000 in
set_option maxHeartbeats 4000000 in
theorem bX7_as_15 {Γ : xΓ} (C : xOK Γ cX7_as RX7 3) (hL : xn Γ = 3) {N : Nat} {w : xW} {r : xW × Int32} (E : xEnd Γ (some .int) r.1 (some (.int r.2))) (h : fX7_as_15 N w = some r) : xG Γ w 15 [(0, .ref (xad Γ 0))] [] := by
  unfold fX7_as_15 at h
  refine xr_aload_n C 15 rfl dX7_as_15 ?_
  refine xr_ldc C 16 k_X7_69 dX7_as_16 ?_
  obtain ⟨z6, q7, h⟩ := g_bind h
  refine xr_callV C 18 (mX7_refuse q7) v_X7_refuse ml_X7_70 (Nat.le_of_ble_eq_true rfl) (Nat.le_of_ble_eq_true rfl) (xrecv C rfl rfl) rfl rfl (Nat.le_of_ble_eq_true rfl) rfl dX7_as_18 ?_
  cases h
  exact xr_iret C 21 E dX7_as_21
set_option maxRecDepth 100000 in
set_option maxHeartbeats 4000000 in
theorem bX7_as_0 {Γ : xΓ} (C : xOK Γ cX7_as RX7 3) (hL : xn Γ = 3) {N : Nat} {w : xW} {x1 : Int32} {x2 : Int32} {r : xW × Int32} (E : xEnd Γ (some .int) r.1 (some (.int r.2))) (h : fX7_as_0 N w x1 x2 = some r) : xG Γ w 0 [(0, .ref (xad Γ 0)), (1, .int x1), (2, .int x2)] [] := by
  unfold fX7_as_0 at h
  refine xr_aload_n C 0 rfl dX7_as_0 ?_
  refine xr_iload_n C 1 rfl dX7_as_1 ?_
  refine xr_callV C 2 (mX7_isHouse rfl) v_X7_isHouse ml_X7_135 (Nat.le_of_ble_eq_true rfl) (Nat.le_of_ble_eq_true rfl) (xrecv C rfl rfl) rfl rfl (Nat.le_of_ble_eq_true rfl) rfl dX7_as_2 ?_
  refine xr_if_eq C 5 15 dX7_as_5 rfl (fun q => ?_) (fun q => ?_)
  · have h := g_it h q
    exact xG.sub (bX7_as_15 C hL E h) ⟨rfl, trivial⟩
  · have h := g_if h q
    refine xr_iload_n C 8 rfl dX7_as_8 ?_
    refine xr_callS C 9 (mX1_isKind rfl) v_X1_isKind ml_X7_124 (Nat.le_of_ble_eq_true rfl) (Nat.le_of_ble_eq_true rfl) rfl rfl (Nat.le_of_ble_eq_true rfl) rfl dX7_as_9 ?_
    refine xr_if_ne C 12 22 dX7_as_12 rfl (fun q => ?_) (fun q => ?_)
    · have h := g_if h q
      refine xr_aload_n C 22 rfl dX7_as_22 ?_
      refine xr_getR C 23 dX7_as_23 fl_X7_10 rfl rfl ?_
      refine xr_getR C 26 dX7_as_26 fl_X7_138 rfl rfl ?_
      refine xr_iload_n C 29 rfl dX7_as_29 ?_
      obtain ⟨q1, h⟩ := g_ib h
      refine xr_iald C 30 x1.toNatClampNeg rfl dX7_as_30 rfl (ibd_in q1) ?_
      refine xr_iload_n C 31 rfl dX7_as_31 ?_
      obtain ⟨z2, q3, h⟩ := g_bind h
      refine xr_callS C 32 (mX1_isUnder q3) v_X1_isUnder ml_X7_144 (Nat.le_of_ble_eq_true rfl) (Nat.le_of_ble_eq_true rfl) rfl rfl (Nat.le_of_ble_eq_true rfl) rfl dX7_as_32 ?_
      refine xr_if_ne C 35 45 dX7_as_35 rfl (fun q => ?_) (fun q => ?_)
      · have h := g_if h q
        refine xr_aload_n C 45 rfl dX7_as_45 ?_
        refine xr_getR C 46 dX7_as_46 fl_X7_10 rfl rfl ?_
        refine xr_getR C 49 dX7_as_49 fl_X7_141 rfl rfl ?_
        refine xr_iload_n C 52 rfl dX7_as_52 ?_
        refine xr_iald C 53 x1.toNatClampNeg rfl dX7_as_53 rfl (ibd_in q1) ?_
        cases h
        exact xr_iret C 54 E dX7_as_54
      · have h := g_it h q
        refine xr_aload_n C 38 rfl dX7_as_38 ?_
        refine xr_ldc C 39 k_X7_147 dX7_as_39 ?_
        obtain ⟨z4, q5, h⟩ := g_bind h
        refine xr_callV C 41 (mX7_refuse q5) v_X7_refuse ml_X7_70 (Nat.le_of_ble_eq_true rfl) (Nat.le_of_ble_eq_true rfl) (xrecv C rfl rfl) rfl rfl (Nat.le_of_ble_eq_true rfl) rfl dX7_as_41 ?_
        cases h
        exact xr_iret C 44 E dX7_as_44
    · have h := g_it h q
      exact xG.sub (bX7_as_15 C hL E h) ⟨rfl, trivial⟩
set_option maxRecDepth 100000 in
set_option maxHeartbeats 4000000 in
theorem mX7_as {l : Launch} {ad : Nat → Nat} {G : gEnv} {N : Nat} {w : xW} {x1 : Int32} {x2 : Int32} {r : xW × Int32} (h : fX7_as N w x1 x2 = some r) : xCt l ad G 3 yX7_as cX7_as 3 (some .int) [.ref (ad 0), .int x1, .int x2] w r.1 (some (.int r.2)) := xCt.of RX7 rfl (by decide +kernel) (Nat.le_of_ble_eq_true rfl) (fun Γ el ea eG eL C E => by
    subst el
    subst ea
    subst eG
    unfold fX7_as at h
    exact xG.sub (bX7_as_0 C eL  E h) ⟨rfl, rfl, rfl, trivial⟩)
def fX8_kindOf_0 (w : xW) (x1 : Int32) : Option Int32 :=
  if ibd (11 + (2 * x1)) 51 = true then
  some (w.1 56 ((11 + (2 * x1)).toNatClampNeg))
  else none
def fX8_kindOf (w : xW) (x1 : Int32) : Option Int32 := fX8_kindOf_0 w x1
set_option maxRecDepth 100000 in
set_option maxHeartbeats 4000000 in
theorem bX8_kindOf_0 {Γ : xΓ} (C : xOK Γ cX8_kindOf RX8 1) (hL : xn Γ = 2) {w : xW} {x1 : Int32} {r : Int32} (E : xEnd Γ (some .int) w (some (.int r))) (h : fX8_kindOf_0 w x1 = some r) : xG Γ w 0 [(0, .ref (xad Γ 55)), (1, .int x1)] [] := by
  unfold fX8_kindOf_0 at h
  refine xr_aload_n C 0 rfl dX8_kindOf_0 ?_
  refine xr_getR C 1 dX8_kindOf_1 fl_X8_9 rfl rfl ?_
  refine xr_bipush C 4 11 (by decide +kernel) dX8_kindOf_4 ?_
  refine xr_iconst C 6 2 (by decide +kernel) dX8_kindOf_6 ?_
  refine xr_iload_n C 7 rfl dX8_kindOf_7 ?_
  refine xr_imul C 8 dX8_kindOf_8 ?_
  refine xr_iadd C 9 dX8_kindOf_9 ?_
  obtain ⟨q1, h⟩ := g_ib h
  refine xr_iald C 10 ((11 + (2 * x1)).toNatClampNeg) rfl dX8_kindOf_10 rfl (ibd_in q1) ?_
  cases h
  exact xr_iret C 11 E dX8_kindOf_11
set_option maxRecDepth 100000 in
set_option maxHeartbeats 4000000 in
theorem mX8_kindOf {l : Launch} {ad : Nat → Nat} {G : gEnv} {w : xW} {x1 : Int32} {r : Int32} (h : fX8_kindOf w x1 = some r) : xCt l ad G 1 yX8_kindOf cX8_kindOf 2 (some .int) [.ref (ad 55), .int x1] w w (some (.int r)) := xCt.of RX8 rfl (by decide +kernel) (Nat.le_of_ble_eq_true rfl) (fun Γ el ea eG eL C E => by
    subst el
    subst ea
    subst eG
    unfold fX8_kindOf at h
    exact xG.sub (bX8_kindOf_0 C eL  E h) ⟨rfl, rfl, trivial⟩)
def fX8_above_0 (x0 : Int32) : Int32 :=
  if x0 = 0 then
    (-1)
  else
  if x0 = 4 then
    1
  else
  if x0 = 5 then
    3
  else
  0
def fX8_above (x0 : Int32) : Int32 := fX8_above_0 x0
set_option maxRecDepth 100000 in
set_option maxHeartbeats 4000000 in
theorem bX8_above_0 {Γ : xΓ} (C : xOK Γ cX8_above RX8 1) (hL : xn Γ = 1) {w : xW} {x0 : Int32} {r : Int32} (E : xEnd Γ (some .int) w (some (.int r))) (h : fX8_above_0  x0 = r) : xG Γ w 0 [(0, .int x0)] [] := by
  unfold fX8_above_0 at h
  refine xr_iload_n C 0 rfl dX8_above_0 ?_
  refine xr_if_ne C 1 8 dX8_above_1 rfl (fun q => ?_) (fun q => ?_)
  · have h := g_if h q
    refine xr_iload_n C 8 rfl dX8_above_8 ?_
    refine xr_iconst C 9 4 (by decide +kernel) dX8_above_9 ?_
    refine xr_icmp_ne C 10 17 dX8_above_10 rfl (fun q => ?_) (fun q => ?_)
    · have h := g_if h q
      refine xr_iload_n C 17 rfl dX8_above_17 ?_
      refine xr_iconst C 18 5 (by decide +kernel) dX8_above_18 ?_
      refine xr_icmp_ne C 19 26 dX8_above_19 rfl (fun q => ?_) (fun q => ?_)
      · have h := g_if h q
        refine xr_iconst C 26 0 (by decide +kernel) dX8_above_26 ?_
        cases h
        exact xr_iret C 27 E dX8_above_27
      · have h := g_it h q
        refine xr_iconst C 22 3 (by decide +kernel) dX8_above_22 ?_
        refine xr_goto C 23 27 dX8_above_23 rfl ?_
        cases h
        exact xr_iret C 27 E dX8_above_27
    · have h := g_it h q
      refine xr_iconst C 13 1 (by decide +kernel) dX8_above_13 ?_
      refine xr_goto C 14 27 dX8_above_14 rfl ?_
      cases h
      exact xr_iret C 27 E dX8_above_27
  · have h := g_it h q
    refine xr_iconst C 4 (-1) (by decide +kernel) dX8_above_4 ?_
    refine xr_goto C 5 27 dX8_above_5 rfl ?_
    cases h
    exact xr_iret C 27 E dX8_above_27
set_option maxRecDepth 100000 in
set_option maxHeartbeats 4000000 in
theorem mX8_above {l : Launch} {ad : Nat → Nat} {G : gEnv} {w : xW} {x0 : Int32} {r : Int32} (h : fX8_above x0 = r) : xCt l ad G 1 yX8_above cX8_above 1 (some .int) [.int x0] w w (some (.int r)) := xCt.of RX8 rfl (by decide +kernel) (Nat.le_of_ble_eq_true rfl) (fun Γ el ea eG eL C E => by
    subst el
    subst ea
    subst eG
    unfold fX8_above at h
    exact xG.sub (bX8_above_0 C eL  E h) ⟨rfl, trivial⟩)
def fX8_frontOf_0 (w : xW) (x1 : Int32) : Option Int32 :=
  if ibd ((11 + (2 * x1)) + 1) 51 = true then
  some (w.1 56 (((11 + (2 * x1)) + 1).toNatClampNeg))
  else none
def fX8_frontOf (w : xW) (x1 : Int32) : Option Int32 := fX8_frontOf_0 w x1
set_option maxRecDepth 100000 in
set_option maxHeartbeats 4000000 in
theorem bX8_frontOf_0 {Γ : xΓ} (C : xOK Γ cX8_frontOf RX8 1) (hL : xn Γ = 2) {w : xW} {x1 : Int32} {r : Int32} (E : xEnd Γ (some .int) w (some (.int r))) (h : fX8_frontOf_0 w x1 = some r) : xG Γ w 0 [(0, .ref (xad Γ 55)), (1, .int x1)] [] := by
  unfold fX8_frontOf_0 at h
  refine xr_aload_n C 0 rfl dX8_frontOf_0 ?_
  refine xr_getR C 1 dX8_frontOf_1 fl_X8_9 rfl rfl ?_
  refine xr_bipush C 4 11 (by decide +kernel) dX8_frontOf_4 ?_
  refine xr_iconst C 6 2 (by decide +kernel) dX8_frontOf_6 ?_
  refine xr_iload_n C 7 rfl dX8_frontOf_7 ?_
  refine xr_imul C 8 dX8_frontOf_8 ?_
  refine xr_iadd C 9 dX8_frontOf_9 ?_
  refine xr_iconst C 10 1 (by decide +kernel) dX8_frontOf_10 ?_
  refine xr_iadd C 11 dX8_frontOf_11 ?_
  obtain ⟨q1, h⟩ := g_ib h
  refine xr_iald C 12 (((11 + (2 * x1)) + 1).toNatClampNeg) rfl dX8_frontOf_12 rfl (ibd_in q1) ?_
  cases h
  exact xr_iret C 13 E dX8_frontOf_13
set_option maxRecDepth 100000 in
set_option maxHeartbeats 4000000 in
theorem mX8_frontOf {l : Launch} {ad : Nat → Nat} {G : gEnv} {w : xW} {x1 : Int32} {r : Int32} (h : fX8_frontOf w x1 = some r) : xCt l ad G 1 yX8_frontOf cX8_frontOf 2 (some .int) [.ref (ad 55), .int x1] w w (some (.int r)) := xCt.of RX8 rfl (by decide +kernel) (Nat.le_of_ble_eq_true rfl) (fun Γ el ea eG eL C E => by
    subst el
    subst ea
    subst eG
    unfold fX8_frontOf at h
    exact xG.sub (bX8_frontOf_0 C eL  E h) ⟨rfl, rfl, trivial⟩)
def fX8_as_17 (N : Nat) (w : xW) : Option (xW × Int32) :=
  (fX8_finding w (-1000000001)).bind fun z7 =>
  some (z7.1, z7.2)
def fX8_as_47 (N : Nat) (w : xW) (x1 : Int32) (x3 : Int32) : Option (xW × Int32) :=
  if 0 ≤ x3 then
    (fX8_frontOf w x1).bind fun z3 =>
    some (w, z3)
  else
  (fX8_finding w (-1000000003)).bind fun z5 =>
  some (z5.1, z5.2)
def fX8_as_30b (N : Nat) (K30 : xW → Int32 → Int32 → Int32 → Option (xW × Int32)) (w : xW) (x1 : Int32) (x2 : Int32) (x3 : Int32) : Option (xW × Int32) :=
  if x3 < 0 then
    fX8_as_47 N w x1 x3
  else
  if x3 = x2 then
    fX8_as_47 N w x1 x3
  else
  K30 w x1 x2 (fX8_above x3)
def fX8_as_30 (N : Nat) : Nat → xW → Int32 → Int32 → Int32 → Option (xW × Int32)
  | 0, _, _, _, _ => none
  | n + 1, w, x1, x2, x3 => fX8_as_30b N (fX8_as_30 N n) w x1 x2 x3
def fX8_as_0 (N : Nat) (w : xW) (x1 : Int32) (x2 : Int32) : Option (xW × Int32) :=
  if (fX8_isHouse w x1) = 0 then
    fX8_as_17 N w
  else
  if (fX8_within x2 0 5) = 0 then
    fX8_as_17 N w
  else
  (fX8_kindOf w x1).bind fun z1 =>
  fX8_as_30 N N w x1 x2 z1
def fX8_as (N : Nat) (w : xW) (x1 : Int32) (x2 : Int32) : Option (xW × Int32) := fX8_as_0 N w x1 x2
set_option maxRecDepth 100000 in
set_option maxHeartbeats 4000000 in
theorem bX8_as_17 {Γ : xΓ} (C : xOK Γ cX8_as RX8 3) (hL : xn Γ = 4) {N : Nat} {w : xW} {r : xW × Int32} (E : xEnd Γ (some .int) r.1 (some (.int r.2))) (h : fX8_as_17 N w = some r) : xG Γ w 17 [(0, .ref (xad Γ 55))] [] := by
  unfold fX8_as_17 at h
  refine xr_aload_n C 17 rfl dX8_as_17 ?_
  refine xr_ldc C 18 k_X8_98 dX8_as_18 ?_
  obtain ⟨z7, q8, h⟩ := g_bind h
  refine xr_callV C 20 (mX8_finding q8) v_X8_finding ml_X8_125 (Nat.le_of_ble_eq_true rfl) (Nat.le_of_ble_eq_true rfl) (xrecv C rfl rfl) rfl rfl (Nat.le_of_ble_eq_true rfl) rfl dX8_as_20 ?_
  cases h
  exact xr_iret C 23 E dX8_as_23
set_option maxRecDepth 100000 in
set_option maxHeartbeats 4000000 in
theorem bX8_as_47 {Γ : xΓ} (C : xOK Γ cX8_as RX8 3) (hL : xn Γ = 4) {N : Nat} {w : xW} {x1 : Int32} {x3 : Int32} {r : xW × Int32} (E : xEnd Γ (some .int) r.1 (some (.int r.2))) (h : fX8_as_47 N w x1 x3 = some r) : xG Γ w 47 [(0, .ref (xad Γ 55)), (1, .int x1), (3, .int x3)] [] := by
  unfold fX8_as_47 at h
  refine xr_iload_n C 47 rfl dX8_as_47 ?_
  refine xr_if_ge C 48 60 dX8_as_48 rfl (fun q => ?_) (fun q => ?_)
  · have h := g_it h q
    refine xr_aload_n C 60 rfl dX8_as_60 ?_
    refine xr_iload_n C 61 rfl dX8_as_61 ?_
    obtain ⟨z3, q4, h⟩ := g_bind h
    refine xr_callV C 62 (mX8_frontOf q4) v_X8_frontOf ml_X8_167 (Nat.le_of_ble_eq_true rfl) (Nat.le_of_ble_eq_true rfl) (xrecv C rfl rfl) rfl rfl (Nat.le_of_ble_eq_true rfl) rfl dX8_as_62 ?_
    cases h
    exact xr_iret C 65 E dX8_as_65
  · have h := g_if h q
    refine xr_aload_n C 51 rfl dX8_as_51 ?_
    refine xr_ldc C 52 k_X8_166 dX8_as_52 ?_
    obtain ⟨z5, q6, h⟩ := g_bind h
    refine xr_callV C 54 (mX8_finding q6) v_X8_finding ml_X8_125 (Nat.le_of_ble_eq_true rfl) (Nat.le_of_ble_eq_true rfl) (xrecv C rfl rfl) rfl rfl (Nat.le_of_ble_eq_true rfl) rfl dX8_as_54 ?_
    refine xr_goto C 57 65 dX8_as_57 rfl ?_
    cases h
    exact xr_iret C 65 E dX8_as_65
set_option maxRecDepth 100000 in
set_option maxHeartbeats 4000000 in
theorem bX8_as_30b {Γ : xΓ} (C : xOK Γ cX8_as RX8 3) (hL : xn Γ = 4) {N : Nat} {K30 : xW → Int32 → Int32 → Int32 → Option (xW × Int32)} {w : xW} {x1 : Int32} {x2 : Int32} {x3 : Int32} {r : xW × Int32} (E : xEnd Γ (some .int) r.1 (some (.int r.2))) (hK30 : ∀ (w : xW) (x1 : Int32) (x2 : Int32) (x3 : Int32), K30 w x1 x2 x3 = some r → xG Γ w 30 [(0, .ref (xad Γ 55)), (1, .int x1), (2, .int x2), (3, .int x3)] []) (h : fX8_as_30b N K30 w x1 x2 x3 = some r) : xG Γ w 30 [(0, .ref (xad Γ 55)), (1, .int x1), (2, .int x2), (3, .int x3)] [] := by
  unfold fX8_as_30b at h
  refine xr_iload_n C 30 rfl dX8_as_30 ?_
  refine xr_if_lt C 31 47 dX8_as_31 rfl (fun q => ?_) (fun q => ?_)
  · have h := g_it h q
    exact xG.sub (bX8_as_47 C hL E h) ⟨rfl, rfl, rfl, trivial⟩
  · have h := g_if h q
    refine xr_iload_n C 34 rfl dX8_as_34 ?_
    refine xr_iload_n C 35 rfl dX8_as_35 ?_
    refine xr_icmp_eq C 36 47 dX8_as_36 rfl (fun q => ?_) (fun q => ?_)
    · have h := g_it h q
      exact xG.sub (bX8_as_47 C hL E h) ⟨rfl, rfl, rfl, trivial⟩
    · have h := g_if h q
      refine xr_iload_n C 39 rfl dX8_as_39 ?_
      refine xr_callS C 40 (mX8_above rfl) v_X8_above ml_X8_163 (Nat.le_of_ble_eq_true rfl) (Nat.le_of_ble_eq_true rfl) rfl rfl (Nat.le_of_ble_eq_true rfl) rfl dX8_as_40 ?_
      refine xr_istore_n C 43 dX8_as_43 (xnb hL rfl) ?_
      refine xr_goto C 44 30 dX8_as_44 rfl ?_
      exact xG.sub (hK30 _ _ _ _ h) ⟨rfl, rfl, rfl, rfl, trivial⟩
set_option maxRecDepth 100000 in
set_option maxHeartbeats 4000000 in
theorem bX8_as_30 {Γ : xΓ} (C : xOK Γ cX8_as RX8 3) (hL : xn Γ = 4) {N : Nat} {r : xW × Int32} (E : xEnd Γ (some .int) r.1 (some (.int r.2))) : ∀ (n : Nat) (w : xW) (x1 : Int32) (x2 : Int32) (x3 : Int32), fX8_as_30 N n w x1 x2 x3 = some r → xG Γ w 30 [(0, .ref (xad Γ 55)), (1, .int x1), (2, .int x2), (3, .int x3)] []
  | 0, _, _, _, _, h => by cases h
  | n + 1, w, x1, x2, x3, h => bX8_as_30b C hL E (bX8_as_30 C hL E n) h
set_option maxRecDepth 100000 in
set_option maxHeartbeats 4000000 in
theorem bX8_as_0 {Γ : xΓ} (C : xOK Γ cX8_as RX8 3) (hL : xn Γ = 4) {N : Nat} {w : xW} {x1 : Int32} {x2 : Int32} {r : xW × Int32} (E : xEnd Γ (some .int) r.1 (some (.int r.2))) (h : fX8_as_0 N w x1 x2 = some r) : xG Γ w 0 [(0, .ref (xad Γ 55)), (1, .int x1), (2, .int x2)] [] := by
  unfold fX8_as_0 at h
  refine xr_aload_n C 0 rfl dX8_as_0 ?_
  refine xr_iload_n C 1 rfl dX8_as_1 ?_
  refine xr_callV C 2 (mX8_isHouse rfl) v_X8_isHouse ml_X8_157 (Nat.le_of_ble_eq_true rfl) (Nat.le_of_ble_eq_true rfl) (xrecv C rfl rfl) rfl rfl (Nat.le_of_ble_eq_true rfl) rfl dX8_as_2 ?_
  refine xr_if_eq C 5 17 dX8_as_5 rfl (fun q => ?_) (fun q => ?_)
  · have h := g_it h q
    exact xG.sub (bX8_as_17 C hL E h) ⟨rfl, trivial⟩
  · have h := g_if h q
    refine xr_iload_n C 8 rfl dX8_as_8 ?_
    refine xr_iconst C 9 0 (by decide +kernel) dX8_as_9 ?_
    refine xr_iconst C 10 5 (by decide +kernel) dX8_as_10 ?_
    refine xr_callS C 11 (mX8_within rfl) v_X8_within ml_X8_121 (Nat.le_of_ble_eq_true rfl) (Nat.le_of_ble_eq_true rfl) rfl rfl (Nat.le_of_ble_eq_true rfl) rfl dX8_as_11 ?_
    refine xr_if_ne C 14 24 dX8_as_14 rfl (fun q => ?_) (fun q => ?_)
    · have h := g_if h q
      refine xr_aload_n C 24 rfl dX8_as_24 ?_
      refine xr_iload_n C 25 rfl dX8_as_25 ?_
      obtain ⟨z1, q2, h⟩ := g_bind h
      refine xr_callV C 26 (mX8_kindOf q2) v_X8_kindOf ml_X8_160 (Nat.le_of_ble_eq_true rfl) (Nat.le_of_ble_eq_true rfl) (xrecv C rfl rfl) rfl rfl (Nat.le_of_ble_eq_true rfl) rfl dX8_as_26 ?_
      refine xr_istore_n C 29 dX8_as_29 (xnb hL rfl) ?_
      exact xG.sub (bX8_as_30 C hL E N _ _ _ _ h) ⟨rfl, rfl, rfl, rfl, trivial⟩
    · have h := g_it h q
      exact xG.sub (bX8_as_17 C hL E h) ⟨rfl, trivial⟩
set_option maxRecDepth 100000 in
set_option maxHeartbeats 4000000 in
theorem mX8_as {l : Launch} {ad : Nat → Nat} {G : gEnv} {N : Nat} {w : xW} {x1 : Int32} {x2 : Int32} {r : xW × Int32} (h : fX8_as N w x1 x2 = some r) : xCt l ad G 3 yX8_as cX8_as 4 (some .int) [.ref (ad 55), .int x1, .int x2] w r.1 (some (.int r.2)) := xCt.of RX8 rfl (by decide +kernel) (Nat.le_of_ble_eq_true rfl) (fun Γ el ea eG eL C E => by
    subst el
    subst ea
    subst eG
    unfold fX8_as at h
    exact xG.sub (bX8_as_0 C eL  E h) ⟨rfl, rfl, rfl, trivial⟩)
def fX7_hourOf_0 (x0 : Int32) : Int32 :=
  (irem x0 96) / 4
def fX7_hourOf (x0 : Int32) : Int32 := fX7_hourOf_0 x0
set_option maxRecDepth 100000 in
set_option maxHeartbeats 4000000 in
theorem bX7_hourOf_0 {Γ : xΓ} (C : xOK Γ cX7_hourOf RX7 1) (hL : xn Γ = 1) {w : xW} {x0 : Int32} {r : Int32} (E : xEnd Γ (some .int) w (some (.int r))) (h : fX7_hourOf_0  x0 = r) : xG Γ w 0 [(0, .int x0)] [] := by
  unfold fX7_hourOf_0 at h
  refine xr_iload_n C 0 rfl dX7_hourOf_0 ?_
  refine xr_bipush C 1 96 (by decide +kernel) dX7_hourOf_1 ?_
  refine xr_irem C 3 (by decide +kernel) dX7_hourOf_3 ?_
  refine xr_iconst C 4 4 (by decide +kernel) dX7_hourOf_4 ?_
  refine xr_idiv C 5 (by decide +kernel) dX7_hourOf_5 ?_
  cases h
  exact xr_iret C 6 E dX7_hourOf_6
set_option maxRecDepth 100000 in
set_option maxHeartbeats 4000000 in
theorem mX7_hourOf {l : Launch} {ad : Nat → Nat} {G : gEnv} {w : xW} {x0 : Int32} {r : Int32} (h : fX7_hourOf x0 = r) : xCt l ad G 1 yX7_hourOf cX7_hourOf 1 (some .int) [.int x0] w w (some (.int r)) := xCt.of RX7 rfl (by decide +kernel) (Nat.le_of_ble_eq_true rfl) (fun Γ el ea eG eL C E => by
    subst el
    subst ea
    subst eG
    unfold fX7_hourOf at h
    exact xG.sub (bX7_hourOf_0 C eL  E h) ⟨rfl, trivial⟩)
def fX1_sun_0 (x0 : Int32) (x1 : Int32) : Int32 :=
  if x0 = 1 then
    if x1 < 6 then
      0
    else
    if 11 < x1 then
      0
    else
    1
  else
  if x0 = 2 then
    if x1 < 9 then
      0
    else
    if 15 < x1 then
      0
    else
    1
  else
  if x0 = 3 then
    if x1 < 12 then
      0
    else
    if 18 < x1 then
      0
    else
    1
  else
  0
def fX1_sun (x0 : Int32) (x1 : Int32) : Int32 := fX1_sun_0 x0 x1
set_option maxRecDepth 100000 in
set_option maxHeartbeats 4000000 in
theorem bX1_sun_0 {Γ : xΓ} (C : xOK Γ cX1_sun RX1 1) (hL : xn Γ = 2) {w : xW} {x0 : Int32} {x1 : Int32} {r : Int32} (E : xEnd Γ (some .int) w (some (.int r))) (h : fX1_sun_0  x0 x1 = r) : xG Γ w 0 [(0, .int x0), (1, .int x1)] [] := by
  unfold fX1_sun_0 at h
  refine xr_iload_n C 0 rfl dX1_sun_0 ?_
  by_cases q1 : x0 = 1
  · have h := g_it h q1
    refine xr_tabIn (off := 27) C 1 28 1 q1 dX1_sun_1 (by decide +kernel) (by decide +kernel) (by decide +kernel) rfl ?_
    refine xr_iload_n C 28 rfl dX1_sun_28 ?_
    refine xr_bipush C 29 6 (by decide +kernel) dX1_sun_29 ?_
    refine xr_icmp_lt C 31 44 dX1_sun_31 rfl (fun q => ?_) (fun q => ?_)
    · have h := g_it h q
      refine xr_iconst C 44 0 (by decide +kernel) dX1_sun_44 ?_
      cases h
      exact xr_iret C 45 E dX1_sun_45
    · have h := g_if h q
      refine xr_iload_n C 34 rfl dX1_sun_34 ?_
      refine xr_bipush C 35 11 (by decide +kernel) dX1_sun_35 ?_
      refine xr_icmp_gt C 37 44 dX1_sun_37 rfl (fun q => ?_) (fun q => ?_)
      · have h := g_it h q
        refine xr_iconst C 44 0 (by decide +kernel) dX1_sun_44 ?_
        cases h
        exact xr_iret C 45 E dX1_sun_45
      · have h := g_if h q
        refine xr_iconst C 40 1 (by decide +kernel) dX1_sun_40 ?_
        refine xr_goto C 41 45 dX1_sun_41 rfl ?_
        cases h
        exact xr_iret C 45 E dX1_sun_45
  have h := g_if h q1
  by_cases q2 : x0 = 2
  · have h := g_it h q2
    refine xr_tabIn (off := 45) C 1 46 2 q2 dX1_sun_1 (by decide +kernel) (by decide +kernel) (by decide +kernel) rfl ?_
    refine xr_iload_n C 46 rfl dX1_sun_46 ?_
    refine xr_bipush C 47 9 (by decide +kernel) dX1_sun_47 ?_
    refine xr_icmp_lt C 49 62 dX1_sun_49 rfl (fun q => ?_) (fun q => ?_)
    · have h := g_it h q
      refine xr_iconst C 62 0 (by decide +kernel) dX1_sun_62 ?_
      cases h
      exact xr_iret C 63 E dX1_sun_63
    · have h := g_if h q
      refine xr_iload_n C 52 rfl dX1_sun_52 ?_
      refine xr_bipush C 53 15 (by decide +kernel) dX1_sun_53 ?_
      refine xr_icmp_gt C 55 62 dX1_sun_55 rfl (fun q => ?_) (fun q => ?_)
      · have h := g_it h q
        refine xr_iconst C 62 0 (by decide +kernel) dX1_sun_62 ?_
        cases h
        exact xr_iret C 63 E dX1_sun_63
      · have h := g_if h q
        refine xr_iconst C 58 1 (by decide +kernel) dX1_sun_58 ?_
        refine xr_goto C 59 63 dX1_sun_59 rfl ?_
        cases h
        exact xr_iret C 63 E dX1_sun_63
  have h := g_if h q2
  by_cases q3 : x0 = 3
  · have h := g_it h q3
    refine xr_tabIn (off := 63) C 1 64 3 q3 dX1_sun_1 (by decide +kernel) (by decide +kernel) (by decide +kernel) rfl ?_
    refine xr_iload_n C 64 rfl dX1_sun_64 ?_
    refine xr_bipush C 65 12 (by decide +kernel) dX1_sun_65 ?_
    refine xr_icmp_lt C 67 80 dX1_sun_67 rfl (fun q => ?_) (fun q => ?_)
    · have h := g_it h q
      refine xr_iconst C 80 0 (by decide +kernel) dX1_sun_80 ?_
      cases h
      exact xr_iret C 81 E dX1_sun_81
    · have h := g_if h q
      refine xr_iload_n C 70 rfl dX1_sun_70 ?_
      refine xr_bipush C 71 18 (by decide +kernel) dX1_sun_71 ?_
      refine xr_icmp_gt C 73 80 dX1_sun_73 rfl (fun q => ?_) (fun q => ?_)
      · have h := g_it h q
        refine xr_iconst C 80 0 (by decide +kernel) dX1_sun_80 ?_
        cases h
        exact xr_iret C 81 E dX1_sun_81
      · have h := g_if h q
        refine xr_iconst C 76 1 (by decide +kernel) dX1_sun_76 ?_
        refine xr_goto C 77 81 dX1_sun_77 rfl ?_
        cases h
        exact xr_iret C 81 E dX1_sun_81
  have h := g_if h q3
  have eq1 := xneI (z := 1) q1 (by decide +kernel)
  have eq2 := xneI (z := 2) q2 (by decide +kernel)
  have eq3 := xneI (z := 3) q3 (by decide +kernel)
  refine xr_tabOut C 1 82 dX1_sun_1 (by omega) rfl ?_
  refine xr_iconst C 82 0 (by decide +kernel) dX1_sun_82 ?_
  cases h
  exact xr_iret C 83 E dX1_sun_83
set_option maxRecDepth 100000 in
set_option maxHeartbeats 4000000 in
theorem mX1_sun {l : Launch} {ad : Nat → Nat} {G : gEnv} {w : xW} {x0 : Int32} {x1 : Int32} {r : Int32} (h : fX1_sun x0 x1 = r) : xCt l ad G 1 yX1_sun cX1_sun 2 (some .int) [.int x0, .int x1] w w (some (.int r)) := xCt.of RX1 rfl (by decide +kernel) (Nat.le_of_ble_eq_true rfl) (fun Γ el ea eG eL C E => by
    subst el
    subst ea
    subst eG
    unfold fX1_sun at h
    exact xG.sub (bX1_sun_0 C eL  E h) ⟨rfl, rfl, trivial⟩)
def fX1_millGain_0 (w : xW) (x1 : Int32) : Int32 :=
  if x1 = (w.1 1 1) then
    2
  else
  0
def fX1_millGain (w : xW) (x1 : Int32) : Int32 := fX1_millGain_0 w x1
set_option maxRecDepth 100000 in
set_option maxHeartbeats 4000000 in
theorem bX1_millGain_0 {Γ : xΓ} (C : xOK Γ cX1_millGain RX1 1) (hL : xn Γ = 2) {w : xW} {x1 : Int32} {r : Int32} (E : xEnd Γ (some .int) w (some (.int r))) (h : fX1_millGain_0 w x1 = r) : xG Γ w 0 [(0, .ref (xad Γ 1)), (1, .int x1)] [] := by
  unfold fX1_millGain_0 at h
  refine xr_iload_n C 0 rfl dX1_millGain_0 ?_
  refine xr_aload_n C 1 rfl dX1_millGain_1 ?_
  refine xr_getI C 2 dX1_millGain_2 fl_X1_18 rfl rfl ?_
  refine xr_icmp_ne C 5 12 dX1_millGain_5 rfl (fun q => ?_) (fun q => ?_)
  · have h := g_if h q
    refine xr_iconst C 12 0 (by decide +kernel) dX1_millGain_12 ?_
    cases h
    exact xr_iret C 13 E dX1_millGain_13
  · have h := g_it h q
    refine xr_iconst C 8 2 (by decide +kernel) dX1_millGain_8 ?_
    refine xr_goto C 9 13 dX1_millGain_9 rfl ?_
    cases h
    exact xr_iret C 13 E dX1_millGain_13
set_option maxRecDepth 100000 in
set_option maxHeartbeats 4000000 in
theorem mX1_millGain {l : Launch} {ad : Nat → Nat} {G : gEnv} {w : xW} {x1 : Int32} {r : Int32} (h : fX1_millGain w x1 = r) : xCt l ad G 1 yX1_millGain cX1_millGain 2 (some .int) [.ref (ad 1), .int x1] w w (some (.int r)) := xCt.of RX1 rfl (by decide +kernel) (Nat.le_of_ble_eq_true rfl) (fun Γ el ea eG eL C E => by
    subst el
    subst ea
    subst eG
    unfold fX1_millGain at h
    exact xG.sub (bX1_millGain_0 C eL  E h) ⟨rfl, rfl, trivial⟩)
def fX1_innGain_0 (x0 : Int32) (x1 : Int32) : Int32 :=
  if (fX1_sun x0 x1) = 0 then
    (fX1_sun x0 x1)
  else
  if x1 < 12 then
    (fX1_sun x0 x1)
  else
  (fX1_sun x0 x1) + 1
def fX1_innGain (x0 : Int32) (x1 : Int32) : Int32 := fX1_innGain_0 x0 x1
set_option maxRecDepth 100000 in
set_option maxHeartbeats 4000000 in
theorem bX1_innGain_0 {Γ : xΓ} (C : xOK Γ cX1_innGain RX1 2) (hL : xn Γ = 3) {w : xW} {x0 : Int32} {x1 : Int32} {r : Int32} (E : xEnd Γ (some .int) w (some (.int r))) (h : fX1_innGain_0  x0 x1 = r) : xG Γ w 0 [(0, .int x0), (1, .int x1)] [] := by
  unfold fX1_innGain_0 at h
  refine xr_iload_n C 0 rfl dX1_innGain_0 ?_
  refine xr_iload_n C 1 rfl dX1_innGain_1 ?_
  refine xr_callS C 2 (mX1_sun rfl) v_X1_sun ml_X1_68 (Nat.le_of_ble_eq_true rfl) (Nat.le_of_ble_eq_true rfl) rfl rfl (Nat.le_of_ble_eq_true rfl) rfl dX1_innGain_2 ?_
  refine xr_istore_n C 5 dX1_innGain_5 (xnb hL rfl) ?_
  refine xr_iload_n C 6 rfl dX1_innGain_6 ?_
  refine xr_if_eq C 7 22 dX1_innGain_7 rfl (fun q => ?_) (fun q => ?_)
  · have h := g_it h q
    refine xr_iload_n C 22 rfl dX1_innGain_22 ?_
    cases h
    exact xr_iret C 23 E dX1_innGain_23
  · have h := g_if h q
    refine xr_iload_n C 10 rfl dX1_innGain_10 ?_
    refine xr_bipush C 11 12 (by decide +kernel) dX1_innGain_11 ?_
    refine xr_icmp_lt C 13 22 dX1_innGain_13 rfl (fun q => ?_) (fun q => ?_)
    · have h := g_it h q
      refine xr_iload_n C 22 rfl dX1_innGain_22 ?_
      cases h
      exact xr_iret C 23 E dX1_innGain_23
    · have h := g_if h q
      refine xr_iload_n C 16 rfl dX1_innGain_16 ?_
      refine xr_iconst C 17 1 (by decide +kernel) dX1_innGain_17 ?_
      refine xr_iadd C 18 dX1_innGain_18 ?_
      refine xr_goto C 19 23 dX1_innGain_19 rfl ?_
      cases h
      exact xr_iret C 23 E dX1_innGain_23
set_option maxRecDepth 100000 in
set_option maxHeartbeats 4000000 in
theorem mX1_innGain {l : Launch} {ad : Nat → Nat} {G : gEnv} {w : xW} {x0 : Int32} {x1 : Int32} {r : Int32} (h : fX1_innGain x0 x1 = r) : xCt l ad G 2 yX1_innGain cX1_innGain 3 (some .int) [.int x0, .int x1] w w (some (.int r)) := xCt.of RX1 rfl (by decide +kernel) (Nat.le_of_ble_eq_true rfl) (fun Γ el ea eG eL C E => by
    subst el
    subst ea
    subst eG
    unfold fX1_innGain at h
    exact xG.sub (bX1_innGain_0 C eL  E h) ⟨rfl, rfl, trivial⟩)
def fX1_gainOf_0 (w : xW) (x1 : Int32) (x2 : Int32) (x3 : Int32) : Int32 :=
  if x1 = 0 then
    (fX1_sun x2 x3)
  else
  if x1 = 1 then
    (fX1_millGain w x2)
  else
  if x1 = 2 then
    1 - (fX1_sun x2 x3)
  else
  if x1 = 3 then
    (fX1_innGain x2 x3)
  else
  if x1 = 4 then
    (w.1 1 2) * (fX1_millGain w x2)
  else
  if x1 = 5 then
    if 9 ≤ x3 then
      0
    else
    3 * (fX1_innGain x2 x3)
  else
  0
def fX1_gainOf (w : xW) (x1 : Int32) (x2 : Int32) (x3 : Int32) : Int32 := fX1_gainOf_0 w x1 x2 x3
set_option maxRecDepth 100000 in
set_option maxHeartbeats 4000000 in
theorem bX1_gainOf_0 {Γ : xΓ} (C : xOK Γ cX1_gainOf RX1 3) (hL : xn Γ = 4) {w : xW} {x1 : Int32} {x2 : Int32} {x3 : Int32} {r : Int32} (E : xEnd Γ (some .int) w (some (.int r))) (h : fX1_gainOf_0 w x1 x2 x3 = r) : xG Γ w 0 [(0, .ref (xad Γ 1)), (1, .int x1), (2, .int x2), (3, .int x3)] [] := by
  unfold fX1_gainOf_0 at h
  refine xr_iload_n C 0 rfl dX1_gainOf_0 ?_
  by_cases q1 : x1 = 0
  · have h := g_it h q1
    refine xr_tabIn (off := 39) C 1 40 0 q1 dX1_gainOf_1 (by decide +kernel) (by decide +kernel) (by decide +kernel) rfl ?_
    refine xr_iload_n C 40 rfl dX1_gainOf_40 ?_
    refine xr_iload_n C 41 rfl dX1_gainOf_41 ?_
    refine xr_callS C 42 (mX1_sun rfl) v_X1_sun ml_X1_68 (Nat.le_of_ble_eq_true rfl) (Nat.le_of_ble_eq_true rfl) rfl rfl (Nat.le_of_ble_eq_true rfl) rfl dX1_gainOf_42 ?_
    cases h
    exact xr_iret C 45 E dX1_gainOf_45
  have h := g_if h q1
  by_cases q2 : x1 = 1
  · have h := g_it h q2
    refine xr_tabIn (off := 45) C 1 46 1 q2 dX1_gainOf_1 (by decide +kernel) (by decide +kernel) (by decide +kernel) rfl ?_
    refine xr_aload_n C 46 rfl dX1_gainOf_46 ?_
    refine xr_iload_n C 47 rfl dX1_gainOf_47 ?_
    refine xr_callV C 48 (mX1_millGain rfl) v_X1_millGain ml_X1_72 (Nat.le_of_ble_eq_true rfl) (Nat.le_of_ble_eq_true rfl) (xrecv C rfl rfl) rfl rfl (Nat.le_of_ble_eq_true rfl) rfl dX1_gainOf_48 ?_
    cases h
    exact xr_iret C 51 E dX1_gainOf_51
  have h := g_if h q2
  by_cases q3 : x1 = 2
  · have h := g_it h q3
    refine xr_tabIn (off := 51) C 1 52 2 q3 dX1_gainOf_1 (by decide +kernel) (by decide +kernel) (by decide +kernel) rfl ?_
    refine xr_iconst C 52 1 (by decide +kernel) dX1_gainOf_52 ?_
    refine xr_iload_n C 53 rfl dX1_gainOf_53 ?_
    refine xr_iload_n C 54 rfl dX1_gainOf_54 ?_
    refine xr_callS C 55 (mX1_sun rfl) v_X1_sun ml_X1_68 (Nat.le_of_ble_eq_true rfl) (Nat.le_of_ble_eq_true rfl) rfl rfl (Nat.le_of_ble_eq_true rfl) rfl dX1_gainOf_55 ?_
    refine xr_isub C 58 dX1_gainOf_58 ?_
    cases h
    exact xr_iret C 59 E dX1_gainOf_59
  have h := g_if h q3
  by_cases q4 : x1 = 3
  · have h := g_it h q4
    refine xr_tabIn (off := 59) C 1 60 3 q4 dX1_gainOf_1 (by decide +kernel) (by decide +kernel) (by decide +kernel) rfl ?_
    refine xr_iload_n C 60 rfl dX1_gainOf_60 ?_
    refine xr_iload_n C 61 rfl dX1_gainOf_61 ?_
    refine xr_callS C 62 (mX1_innGain rfl) v_X1_innGain ml_X1_76 (Nat.le_of_ble_eq_true rfl) (Nat.le_of_ble_eq_true rfl) rfl rfl (Nat.le_of_ble_eq_true rfl) rfl dX1_gainOf_62 ?_
    cases h
    exact xr_iret C 65 E dX1_gainOf_65
  have h := g_if h q4
  by_cases q5 : x1 = 4
  · have h := g_it h q5
    refine xr_tabIn (off := 65) C 1 66 4 q5 dX1_gainOf_1 (by decide +kernel) (by decide +kernel) (by decide +kernel) rfl ?_
    refine xr_aload_n C 66 rfl dX1_gainOf_66 ?_
    refine xr_getI C 67 dX1_gainOf_67 fl_X1_22 rfl rfl ?_
    refine xr_aload_n C 70 rfl dX1_gainOf_70 ?_
    refine xr_iload_n C 71 rfl dX1_gainOf_71 ?_
    refine xr_callV C 72 (mX1_millGain rfl) v_X1_millGain ml_X1_72 (Nat.le_of_ble_eq_true rfl) (Nat.le_of_ble_eq_true rfl) (xrecv C rfl rfl) rfl rfl (Nat.le_of_ble_eq_true rfl) rfl dX1_gainOf_72 ?_
    refine xr_imul C 75 dX1_gainOf_75 ?_
    cases h
    exact xr_iret C 76 E dX1_gainOf_76
  have h := g_if h q5
  by_cases q6 : x1 = 5
  · have h := g_it h q6
    refine xr_tabIn (off := 76) C 1 77 5 q6 dX1_gainOf_1 (by decide +kernel) (by decide +kernel) (by decide +kernel) rfl ?_
    refine xr_iload_n C 77 rfl dX1_gainOf_77 ?_
    refine xr_bipush C 78 9 (by decide +kernel) dX1_gainOf_78 ?_
    refine xr_icmp_ge C 80 93 dX1_gainOf_80 rfl (fun q => ?_) (fun q => ?_)
    · have h := g_it h q
      refine xr_iconst C 93 0 (by decide +kernel) dX1_gainOf_93 ?_
      cases h
      exact xr_iret C 94 E dX1_gainOf_94
    · have h := g_if h q
      refine xr_iconst C 83 3 (by decide +kernel) dX1_gainOf_83 ?_
      refine xr_iload_n C 84 rfl dX1_gainOf_84 ?_
      refine xr_iload_n C 85 rfl dX1_gainOf_85 ?_
      refine xr_callS C 86 (mX1_innGain rfl) v_X1_innGain ml_X1_76 (Nat.le_of_ble_eq_true rfl) (Nat.le_of_ble_eq_true rfl) rfl rfl (Nat.le_of_ble_eq_true rfl) rfl dX1_gainOf_86 ?_
      refine xr_imul C 89 dX1_gainOf_89 ?_
      refine xr_goto C 90 94 dX1_gainOf_90 rfl ?_
      cases h
      exact xr_iret C 94 E dX1_gainOf_94
  have h := g_if h q6
  have eq1 := xneI (z := 0) q1 (by decide +kernel)
  have eq2 := xneI (z := 1) q2 (by decide +kernel)
  have eq3 := xneI (z := 2) q3 (by decide +kernel)
  have eq4 := xneI (z := 3) q4 (by decide +kernel)
  have eq5 := xneI (z := 4) q5 (by decide +kernel)
  have eq6 := xneI (z := 5) q6 (by decide +kernel)
  refine xr_tabOut C 1 95 dX1_gainOf_1 (by omega) rfl ?_
  refine xr_iconst C 95 0 (by decide +kernel) dX1_gainOf_95 ?_
  cases h
  exact xr_iret C 96 E dX1_gainOf_96
set_option maxRecDepth 100000 in
set_option maxHeartbeats 4000000 in
theorem mX1_gainOf {l : Launch} {ad : Nat → Nat} {G : gEnv} {w : xW} {x1 : Int32} {x2 : Int32} {x3 : Int32} {r : Int32} (h : fX1_gainOf w x1 x2 x3 = r) : xCt l ad G 3 yX1_gainOf cX1_gainOf 4 (some .int) [.ref (ad 1), .int x1, .int x2, .int x3] w w (some (.int r)) := xCt.of RX1 rfl (by decide +kernel) (Nat.le_of_ble_eq_true rfl) (fun Γ el ea eG eL C E => by
    subst el
    subst ea
    subst eG
    unfold fX1_gainOf at h
    exact xG.sub (bX1_gainOf_0 C eL  E h) ⟨rfl, rfl, rfl, rfl, trivial⟩)
