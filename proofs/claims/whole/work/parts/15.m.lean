def fX8_waits_17 (N : Nat) (w : xW) : Option (xW × Int32) :=
  (fX8_finding w (-1000000001)).bind fun z5 =>
  some (z5.1, z5.2)
def fX8_waits_0 (N : Nat) (w : xW) (x1 : Int32) (x2 : Int32) : Option (xW × Int32) :=
  if (fX8_isShip w x1) = 0 then
    fX8_waits_17 N w
  else
  if (fX8_within x2 0 1) = 0 then
    fX8_waits_17 N w
  else
  (fX8_findOrder N w).bind fun z1 =>
  if x2 = 0 then
    if ibd x1 6 = true then
    some (z1, z1.1 68 x1.toNatClampNeg)
    else none
  else
  if ibd x1 6 = true then
  some (z1, z1.1 69 x1.toNatClampNeg)
  else none
def fX8_waits (N : Nat) (w : xW) (x1 : Int32) (x2 : Int32) : Option (xW × Int32) := fX8_waits_0 N w x1 x2
set_option maxRecDepth 100000 in
set_option maxHeartbeats 4000000 in
theorem bX8_waits_17 {Γ : xΓ} (C : xOK Γ cX8_waits RX8 19) (hL : xn Γ = 3) {N : Nat} {w : xW} {r : xW × Int32} (E : xEnd Γ (some .int) r.1 (some (.int r.2))) (h : fX8_waits_17 N w = some r) : xG Γ w 17 [(0, .ref (xad Γ 55))] [] := by
  unfold fX8_waits_17 at h
  refine xr_aload_n C 17 rfl dX8_waits_17 ?_
  refine xr_ldc C 18 k_X8_98 dX8_waits_18 ?_
  obtain ⟨z5, q6, h⟩ := g_bind h
  refine xr_callV C 20 (mX8_finding q6) v_X8_finding ml_X8_125 (Nat.le_of_ble_eq_true rfl) (Nat.le_of_ble_eq_true rfl) (xrecv C rfl rfl) rfl rfl (Nat.le_of_ble_eq_true rfl) rfl dX8_waits_20 ?_
  cases h
  exact xr_iret C 23 E dX8_waits_23
set_option maxRecDepth 100000 in
set_option maxHeartbeats 4000000 in
theorem bX8_waits_0 {Γ : xΓ} (C : xOK Γ cX8_waits RX8 19) (hL : xn Γ = 3) {N : Nat} {w : xW} {x1 : Int32} {x2 : Int32} {r : xW × Int32} (E : xEnd Γ (some .int) r.1 (some (.int r.2))) (h : fX8_waits_0 N w x1 x2 = some r) : xG Γ w 0 [(0, .ref (xad Γ 55)), (1, .int x1), (2, .int x2)] [] := by
  unfold fX8_waits_0 at h
  refine xr_aload_n C 0 rfl dX8_waits_0 ?_
  refine xr_iload_n C 1 rfl dX8_waits_1 ?_
  refine xr_callV C 2 (mX8_isShip rfl) v_X8_isShip ml_X8_189 (Nat.le_of_ble_eq_true rfl) (Nat.le_of_ble_eq_true rfl) (xrecv C rfl rfl) rfl rfl (Nat.le_of_ble_eq_true rfl) rfl dX8_waits_2 ?_
  refine xr_if_eq C 5 17 dX8_waits_5 rfl (fun q => ?_) (fun q => ?_)
  · have h := g_it h q
    exact xG.sub (bX8_waits_17 C hL E h) ⟨rfl, trivial⟩
  · have h := g_if h q
    refine xr_iload_n C 8 rfl dX8_waits_8 ?_
    refine xr_iconst C 9 0 (by decide +kernel) dX8_waits_9 ?_
    refine xr_iconst C 10 1 (by decide +kernel) dX8_waits_10 ?_
    refine xr_callS C 11 (mX8_within rfl) v_X8_within ml_X8_121 (Nat.le_of_ble_eq_true rfl) (Nat.le_of_ble_eq_true rfl) rfl rfl (Nat.le_of_ble_eq_true rfl) rfl dX8_waits_11 ?_
    refine xr_if_ne C 14 24 dX8_waits_14 rfl (fun q => ?_) (fun q => ?_)
    · have h := g_if h q
      refine xr_aload_n C 24 rfl dX8_waits_24 ?_
      obtain ⟨z1, q2, h⟩ := g_bind h
      refine xr_callV C 25 (mX8_findOrder q2) v_X8_findOrder ml_X8_216 (Nat.le_of_ble_eq_true rfl) (Nat.le_of_ble_eq_true rfl) (xrecv C rfl rfl) rfl rfl (Nat.le_of_ble_eq_true rfl) rfl dX8_waits_25 ?_
      refine xr_iload_n C 28 rfl dX8_waits_28 ?_
      refine xr_if_ne C 29 41 dX8_waits_29 rfl (fun q => ?_) (fun q => ?_)
      · have h := g_if h q
        refine xr_aload_n C 41 rfl dX8_waits_41 ?_
        refine xr_getR C 42 dX8_waits_42 fl_X8_49 rfl rfl ?_
        refine xr_iload_n C 45 rfl dX8_waits_45 ?_
        obtain ⟨q3, h⟩ := g_ib h
        refine xr_iald C 46 x1.toNatClampNeg rfl dX8_waits_46 rfl (ibd_in q3) ?_
        cases h
        exact xr_iret C 47 E dX8_waits_47
      · have h := g_it h q
        refine xr_aload_n C 32 rfl dX8_waits_32 ?_
        refine xr_getR C 33 dX8_waits_33 fl_X8_46 rfl rfl ?_
        refine xr_iload_n C 36 rfl dX8_waits_36 ?_
        obtain ⟨q4, h⟩ := g_ib h
        refine xr_iald C 37 x1.toNatClampNeg rfl dX8_waits_37 rfl (ibd_in q4) ?_
        refine xr_goto C 38 47 dX8_waits_38 rfl ?_
        cases h
        exact xr_iret C 47 E dX8_waits_47
    · have h := g_it h q
      exact xG.sub (bX8_waits_17 C hL E h) ⟨rfl, trivial⟩
set_option maxRecDepth 100000 in
set_option maxHeartbeats 4000000 in
theorem mX8_waits {l : Launch} {ad : Nat → Nat} {G : gEnv} {N : Nat} {w : xW} {x1 : Int32} {x2 : Int32} {r : xW × Int32} (h : fX8_waits N w x1 x2 = some r) : xCt l ad G 19 yX8_waits cX8_waits 3 (some .int) [.ref (ad 55), .int x1, .int x2] w r.1 (some (.int r.2)) := xCt.of RX8 rfl (by decide +kernel) (Nat.le_of_ble_eq_true rfl) (fun Γ el ea eG eL C E => by
    subst el
    subst ea
    subst eG
    unfold fX8_waits at h
    exact xG.sub (bX8_waits_0 C eL  E h) ⟨rfl, rfl, rfl, trivial⟩)
def fX7_fast_0 (N : Nat) (w : xW) (x1 : Int32) : Option (xW × Int32) :=
  if (fX7_isTick x1) = 0 then
    (fX7_refuse w (-1000000001)).bind fun z5 =>
    some (z5.1, z5.2)
  else
  (fX6_at N w x1).bind fun z1 =>
  if (z1.1 2 4) = 0 then
    (fX6_calmTill N z1).bind fun z3 =>
    some (z1, (if z3 - x1 < 960 then z3 - x1 else 960))
  else
  some (z1, 0)
def fX7_fast (N : Nat) (w : xW) (x1 : Int32) : Option (xW × Int32) := fX7_fast_0 N w x1
set_option maxRecDepth 100000 in
set_option maxHeartbeats 4000000 in
theorem bX7_fast_0 {Γ : xΓ} (C : xOK Γ cX7_fast RX7 3) (hL : xn Γ = 2) {N : Nat} {w : xW} {x1 : Int32} {r : xW × Int32} (E : xEnd Γ (some .int) r.1 (some (.int r.2))) (h : fX7_fast_0 N w x1 = some r) : xG Γ w 0 [(0, .ref (xad Γ 0)), (1, .int x1)] [] := by
  unfold fX7_fast_0 at h
  refine xr_iload_n C 0 rfl dX7_fast_0 ?_
  refine xr_callS C 1 (mX7_isTick rfl) v_X7_isTick ml_X7_104 (Nat.le_of_ble_eq_true rfl) (Nat.le_of_ble_eq_true rfl) rfl rfl (Nat.le_of_ble_eq_true rfl) rfl dX7_fast_1 ?_
  refine xr_if_ne C 4 14 dX7_fast_4 rfl (fun q => ?_) (fun q => ?_)
  · have h := g_if h q
    refine xr_aload_n C 14 rfl dX7_fast_14 ?_
    refine xr_getR C 15 dX7_fast_15 fl_X7_10 rfl rfl ?_
    refine xr_getR C 18 dX7_fast_18 fl_X7_77 rfl rfl ?_
    refine xr_iload_n C 21 rfl dX7_fast_21 ?_
    obtain ⟨z1, q2, h⟩ := g_bind h
    refine xr_callV C 22 (mX6_at q2) v_X6_at ml_X7_107 (Nat.le_of_ble_eq_true rfl) (Nat.le_of_ble_eq_true rfl) (xrecv C rfl rfl) rfl rfl (Nat.le_of_ble_eq_true rfl) rfl dX7_fast_22 ?_
    refine xr_aload_n C 25 rfl dX7_fast_25 ?_
    refine xr_getR C 26 dX7_fast_26 fl_X7_10 rfl rfl ?_
    refine xr_getR C 29 dX7_fast_29 fl_X7_77 rfl rfl ?_
    refine xr_getI C 32 dX7_fast_32 fl_X7_114 rfl rfl ?_
    refine xr_if_eq C 35 42 dX7_fast_35 rfl (fun q => ?_) (fun q => ?_)
    · have h := g_it h q
      refine xr_sipush C 42 960 (by decide +kernel) dX7_fast_42 ?_
      refine xr_aload_n C 45 rfl dX7_fast_45 ?_
      refine xr_getR C 46 dX7_fast_46 fl_X7_10 rfl rfl ?_
      refine xr_getR C 49 dX7_fast_49 fl_X7_77 rfl rfl ?_
      obtain ⟨z3, q4, h⟩ := g_bind h
      refine xr_callV C 52 (mX6_calmTill q4) v_X6_calmTill ml_X7_199 (Nat.le_of_ble_eq_true rfl) (Nat.le_of_ble_eq_true rfl) (xrecv C rfl rfl) rfl rfl (Nat.le_of_ble_eq_true rfl) rfl dX7_fast_52 ?_
      refine xr_iload_n C 55 rfl dX7_fast_55 ?_
      refine xr_isub C 56 dX7_fast_56 ?_
      refine xr_mmin C 57 dX7_fast_57 mm_X7_222 (Nat.le_of_ble_eq_true rfl) (Nat.le_of_ble_eq_true rfl) ?_
      cases h
      exact xr_iret C 60 E dX7_fast_60
    · have h := g_if h q
      refine xr_iconst C 38 0 (by decide +kernel) dX7_fast_38 ?_
      refine xr_goto C 39 60 dX7_fast_39 rfl ?_
      cases h
      exact xr_iret C 60 E dX7_fast_60
  · have h := g_it h q
    refine xr_aload_n C 7 rfl dX7_fast_7 ?_
    refine xr_ldc C 8 k_X7_69 dX7_fast_8 ?_
    obtain ⟨z5, q6, h⟩ := g_bind h
    refine xr_callV C 10 (mX7_refuse q6) v_X7_refuse ml_X7_70 (Nat.le_of_ble_eq_true rfl) (Nat.le_of_ble_eq_true rfl) (xrecv C rfl rfl) rfl rfl (Nat.le_of_ble_eq_true rfl) rfl dX7_fast_10 ?_
    cases h
    exact xr_iret C 13 E dX7_fast_13
set_option maxRecDepth 100000 in
set_option maxHeartbeats 4000000 in
theorem mX7_fast {l : Launch} {ad : Nat → Nat} {G : gEnv} {N : Nat} {w : xW} {x1 : Int32} {r : xW × Int32} (h : fX7_fast N w x1 = some r) : xCt l ad G 3 yX7_fast cX7_fast 2 (some .int) [.ref (ad 0), .int x1] w r.1 (some (.int r.2)) := xCt.of RX7 rfl (by decide +kernel) (Nat.le_of_ble_eq_true rfl) (fun Γ el ea eG eL C E => by
    subst el
    subst ea
    subst eG
    unfold fX7_fast at h
    exact xG.sub (bX7_fast_0 C eL  E h) ⟨rfl, rfl, trivial⟩)
def fX8_fast_0 (N : Nat) (w : xW) (x1 : Int32) : Option (xW × Int32) :=
  if (fX8_isTick x1) = 0 then
    (fX8_finding w (-1000000001)).bind fun z1 =>
    some (z1.1, z1.2)
  else
  (fX8_stillAt N w x1).bind fun z3 =>
  some (z3.1, (if z3.2 < 960 then z3.2 else 960))
def fX8_fast (N : Nat) (w : xW) (x1 : Int32) : Option (xW × Int32) := fX8_fast_0 N w x1
set_option maxRecDepth 100000 in
set_option maxHeartbeats 4000000 in
theorem bX8_fast_0 {Γ : xΓ} (C : xOK Γ cX8_fast RX8 5) (hL : xn Γ = 2) {N : Nat} {w : xW} {x1 : Int32} {r : xW × Int32} (E : xEnd Γ (some .int) r.1 (some (.int r.2))) (h : fX8_fast_0 N w x1 = some r) : xG Γ w 0 [(0, .ref (xad Γ 55)), (1, .int x1)] [] := by
  unfold fX8_fast_0 at h
  refine xr_iload_n C 0 rfl dX8_fast_0 ?_
  refine xr_callS C 1 (mX8_isTick rfl) v_X8_isTick ml_X8_137 (Nat.le_of_ble_eq_true rfl) (Nat.le_of_ble_eq_true rfl) rfl rfl (Nat.le_of_ble_eq_true rfl) rfl dX8_fast_1 ?_
  refine xr_if_eq C 4 21 dX8_fast_4 rfl (fun q => ?_) (fun q => ?_)
  · have h := g_it h q
    refine xr_aload_n C 21 rfl dX8_fast_21 ?_
    refine xr_ldc C 22 k_X8_98 dX8_fast_22 ?_
    obtain ⟨z1, q2, h⟩ := g_bind h
    refine xr_callV C 24 (mX8_finding q2) v_X8_finding ml_X8_125 (Nat.le_of_ble_eq_true rfl) (Nat.le_of_ble_eq_true rfl) (xrecv C rfl rfl) rfl rfl (Nat.le_of_ble_eq_true rfl) rfl dX8_fast_24 ?_
    cases h
    exact xr_iret C 27 E dX8_fast_27
  · have h := g_if h q
    refine xr_sipush C 7 960 (by decide +kernel) dX8_fast_7 ?_
    refine xr_aload_n C 10 rfl dX8_fast_10 ?_
    refine xr_iload_n C 11 rfl dX8_fast_11 ?_
    obtain ⟨z3, q4, h⟩ := g_bind h
    refine xr_callV C 12 (mX8_stillAt q4) v_X8_stillAt ml_X8_143 (Nat.le_of_ble_eq_true rfl) (Nat.le_of_ble_eq_true rfl) (xrecv C rfl rfl) rfl rfl (Nat.le_of_ble_eq_true rfl) rfl dX8_fast_12 ?_
    refine xr_mmin C 15 dX8_fast_15 mm_X8_219 (Nat.le_of_ble_eq_true rfl) (Nat.le_of_ble_eq_true rfl) ?_
    refine xr_goto C 18 27 dX8_fast_18 rfl ?_
    cases h
    exact xr_iret C 27 E dX8_fast_27
set_option maxRecDepth 100000 in
set_option maxHeartbeats 4000000 in
theorem mX8_fast {l : Launch} {ad : Nat → Nat} {G : gEnv} {N : Nat} {w : xW} {x1 : Int32} {r : xW × Int32} (h : fX8_fast N w x1 = some r) : xCt l ad G 5 yX8_fast cX8_fast 2 (some .int) [.ref (ad 55), .int x1] w r.1 (some (.int r.2)) := xCt.of RX8 rfl (by decide +kernel) (Nat.le_of_ble_eq_true rfl) (fun Γ el ea eG eL C E => by
    subst el
    subst ea
    subst eG
    unfold fX8_fast at h
    exact xG.sub (bX8_fast_0 C eL  E h) ⟨rfl, rfl, trivial⟩)
def fX7_off_56 (N : Nat) (K20 : xW → Int32 → Int32 → Int32 → Int32 → Option (xW × Int32)) (w : xW) (x1 : Int32) (x2 : Int32) (x3 : Int32) (x4 : Int32) : Option (xW × Int32) :=
  K20 w x1 x2 x3 (x4 + 1)
def fX7_off_20b (N : Nat) (K20 : xW → Int32 → Int32 → Int32 → Int32 → Option (xW × Int32)) (w : xW) (x1 : Int32) (x2 : Int32) (x3 : Int32) (x4 : Int32) : Option (xW × Int32) :=
  if (x1 + x2) ≤ x4 then
    some (w, x3)
  else
  (fX6_at N w x4).bind fun z3 =>
  if (z3.1 2 4) = 0 then
    fX7_off_56 N K20 z3 x1 x2 x3 x4
  else
  fX7_off_56 N K20 z3 x1 x2 (x3 + 1) x4
def fX7_off_20 (N : Nat) : Nat → xW → Int32 → Int32 → Int32 → Int32 → Option (xW × Int32)
  | 0, _, _, _, _, _ => none
  | n + 1, w, x1, x2, x3, x4 => fX7_off_20b N (fX7_off_20 N n) w x1 x2 x3 x4
def fX7_off_0 (N : Nat) (w : xW) (x1 : Int32) (x2 : Int32) : Option (xW × Int32) :=
  if (fX7_isSpan x1 x2) = 0 then
    (fX7_refuse w (-1000000001)).bind fun z1 =>
    some (z1.1, z1.2)
  else
  fX7_off_20 N N w x1 x2 0 x1
def fX7_off (N : Nat) (w : xW) (x1 : Int32) (x2 : Int32) : Option (xW × Int32) := fX7_off_0 N w x1 x2
set_option maxRecDepth 100000 in
set_option maxHeartbeats 4000000 in
theorem bX7_off_56 {Γ : xΓ} (C : xOK Γ cX7_off RX7 3) (hL : xn Γ = 5) {N : Nat} {K20 : xW → Int32 → Int32 → Int32 → Int32 → Option (xW × Int32)} {w : xW} {x1 : Int32} {x2 : Int32} {x3 : Int32} {x4 : Int32} {r : xW × Int32} (E : xEnd Γ (some .int) r.1 (some (.int r.2))) (hK20 : ∀ (w : xW) (x1 : Int32) (x2 : Int32) (x3 : Int32) (x4 : Int32), K20 w x1 x2 x3 x4 = some r → xG Γ w 20 [(0, .ref (xad Γ 0)), (1, .int x1), (2, .int x2), (3, .int x3), (4, .int x4)] []) (h : fX7_off_56 N K20 w x1 x2 x3 x4 = some r) : xG Γ w 56 [(0, .ref (xad Γ 0)), (1, .int x1), (2, .int x2), (3, .int x3), (4, .int x4)] [] := by
  unfold fX7_off_56 at h
  refine xr_iinc C 56 1 (by decide +kernel) rfl dX7_off_56 (xnb hL rfl) ?_
  refine xr_goto C 59 20 dX7_off_59 rfl ?_
  exact xG.sub (hK20 _ _ _ _ _ h) ⟨rfl, rfl, rfl, rfl, rfl, trivial⟩
set_option maxRecDepth 100000 in
set_option maxHeartbeats 4000000 in
theorem bX7_off_20b {Γ : xΓ} (C : xOK Γ cX7_off RX7 3) (hL : xn Γ = 5) {N : Nat} {K20 : xW → Int32 → Int32 → Int32 → Int32 → Option (xW × Int32)} {w : xW} {x1 : Int32} {x2 : Int32} {x3 : Int32} {x4 : Int32} {r : xW × Int32} (E : xEnd Γ (some .int) r.1 (some (.int r.2))) (hK20 : ∀ (w : xW) (x1 : Int32) (x2 : Int32) (x3 : Int32) (x4 : Int32), K20 w x1 x2 x3 x4 = some r → xG Γ w 20 [(0, .ref (xad Γ 0)), (1, .int x1), (2, .int x2), (3, .int x3), (4, .int x4)] []) (h : fX7_off_20b N K20 w x1 x2 x3 x4 = some r) : xG Γ w 20 [(0, .ref (xad Γ 0)), (1, .int x1), (2, .int x2), (3, .int x3), (4, .int x4)] [] := by
  unfold fX7_off_20b at h
  refine xr_iload C 20 rfl dX7_off_20 ?_
  refine xr_iload_n C 22 rfl dX7_off_22 ?_
  refine xr_iload_n C 23 rfl dX7_off_23 ?_
  refine xr_iadd C 24 dX7_off_24 ?_
  refine xr_icmp_ge C 25 62 dX7_off_25 rfl (fun q => ?_) (fun q => ?_)
  · have h := g_it h q
    refine xr_iload_n C 62 rfl dX7_off_62 ?_
    cases h
    exact xr_iret C 63 E dX7_off_63
  · have h := g_if h q
    refine xr_aload_n C 28 rfl dX7_off_28 ?_
    refine xr_getR C 29 dX7_off_29 fl_X7_10 rfl rfl ?_
    refine xr_getR C 32 dX7_off_32 fl_X7_77 rfl rfl ?_
    refine xr_iload C 35 rfl dX7_off_35 ?_
    obtain ⟨z3, q4, h⟩ := g_bind h
    refine xr_callV C 37 (mX6_at q4) v_X6_at ml_X7_107 (Nat.le_of_ble_eq_true rfl) (Nat.le_of_ble_eq_true rfl) (xrecv C rfl rfl) rfl rfl (Nat.le_of_ble_eq_true rfl) rfl dX7_off_37 ?_
    refine xr_aload_n C 40 rfl dX7_off_40 ?_
    refine xr_getR C 41 dX7_off_41 fl_X7_10 rfl rfl ?_
    refine xr_getR C 44 dX7_off_44 fl_X7_77 rfl rfl ?_
    refine xr_getI C 47 dX7_off_47 fl_X7_114 rfl rfl ?_
    refine xr_if_eq C 50 56 dX7_off_50 rfl (fun q => ?_) (fun q => ?_)
    · have h := g_it h q
      exact xG.sub (bX7_off_56 C hL E hK20 h) ⟨rfl, rfl, rfl, rfl, rfl, trivial⟩
    · have h := g_if h q
      refine xr_iinc C 53 1 (by decide +kernel) rfl dX7_off_53 (xnb hL rfl) ?_
      exact xG.sub (bX7_off_56 C hL E hK20 h) ⟨rfl, rfl, rfl, rfl, rfl, trivial⟩
set_option maxRecDepth 100000 in
set_option maxHeartbeats 4000000 in
theorem bX7_off_20 {Γ : xΓ} (C : xOK Γ cX7_off RX7 3) (hL : xn Γ = 5) {N : Nat} {r : xW × Int32} (E : xEnd Γ (some .int) r.1 (some (.int r.2))) : ∀ (n : Nat) (w : xW) (x1 : Int32) (x2 : Int32) (x3 : Int32) (x4 : Int32), fX7_off_20 N n w x1 x2 x3 x4 = some r → xG Γ w 20 [(0, .ref (xad Γ 0)), (1, .int x1), (2, .int x2), (3, .int x3), (4, .int x4)] []
  | 0, _, _, _, _, _, h => by cases h
  | n + 1, w, x1, x2, x3, x4, h => bX7_off_20b C hL E (bX7_off_20 C hL E n) h
set_option maxRecDepth 100000 in
set_option maxHeartbeats 4000000 in
theorem bX7_off_0 {Γ : xΓ} (C : xOK Γ cX7_off RX7 3) (hL : xn Γ = 5) {N : Nat} {w : xW} {x1 : Int32} {x2 : Int32} {r : xW × Int32} (E : xEnd Γ (some .int) r.1 (some (.int r.2))) (h : fX7_off_0 N w x1 x2 = some r) : xG Γ w 0 [(0, .ref (xad Γ 0)), (1, .int x1), (2, .int x2)] [] := by
  unfold fX7_off_0 at h
  refine xr_iload_n C 0 rfl dX7_off_0 ?_
  refine xr_iload_n C 1 rfl dX7_off_1 ?_
  refine xr_callS C 2 (mX7_isSpan rfl) v_X7_isSpan ml_X7_155 (Nat.le_of_ble_eq_true rfl) (Nat.le_of_ble_eq_true rfl) rfl rfl (Nat.le_of_ble_eq_true rfl) rfl dX7_off_2 ?_
  refine xr_if_ne C 5 15 dX7_off_5 rfl (fun q => ?_) (fun q => ?_)
  · have h := g_if h q
    refine xr_iconst C 15 0 (by decide +kernel) dX7_off_15 ?_
    refine xr_istore_n C 16 dX7_off_16 (xnb hL rfl) ?_
    refine xr_iload_n C 17 rfl dX7_off_17 ?_
    refine xr_istore C 18 dX7_off_18 (xnb hL rfl) ?_
    exact xG.sub (bX7_off_20 C hL E N _ _ _ _ _ h) ⟨rfl, rfl, rfl, rfl, rfl, trivial⟩
  · have h := g_it h q
    refine xr_aload_n C 8 rfl dX7_off_8 ?_
    refine xr_ldc C 9 k_X7_69 dX7_off_9 ?_
    obtain ⟨z1, q2, h⟩ := g_bind h
    refine xr_callV C 11 (mX7_refuse q2) v_X7_refuse ml_X7_70 (Nat.le_of_ble_eq_true rfl) (Nat.le_of_ble_eq_true rfl) (xrecv C rfl rfl) rfl rfl (Nat.le_of_ble_eq_true rfl) rfl dX7_off_11 ?_
    cases h
    exact xr_iret C 14 E dX7_off_14
set_option maxRecDepth 100000 in
set_option maxHeartbeats 4000000 in
theorem mX7_off {l : Launch} {ad : Nat → Nat} {G : gEnv} {N : Nat} {w : xW} {x1 : Int32} {x2 : Int32} {r : xW × Int32} (h : fX7_off N w x1 x2 = some r) : xCt l ad G 3 yX7_off cX7_off 5 (some .int) [.ref (ad 0), .int x1, .int x2] w r.1 (some (.int r.2)) := xCt.of RX7 rfl (by decide +kernel) (Nat.le_of_ble_eq_true rfl) (fun Γ el ea eG eL C E => by
    subst el
    subst ea
    subst eG
    unfold fX7_off at h
    exact xG.sub (bX7_off_0 C eL  E h) ⟨rfl, rfl, rfl, trivial⟩)
def fX8_off_14 (N : Nat) (w : xW) : Option (xW × Int32) :=
  (fX8_finding w (-1000000001)).bind fun z3 =>
  some (z3.1, z3.2)
def fX8_off_49 (N : Nat) (K26 : xW → Int32 → Int32 → Int32 → Int32 → Option (xW × Int32)) (w : xW) (x1 : Int32) (x2 : Int32) (x4 : Int32) (s0 : Int32) (s1 : Int32) : Option (xW × Int32) :=
  K26 w x1 x2 (s1 + s0) (x4 + 1)
def fX8_off_26b (N : Nat) (K26 : xW → Int32 → Int32 → Int32 → Int32 → Option (xW × Int32)) (w : xW) (x1 : Int32) (x2 : Int32) (x3 : Int32) (x4 : Int32) : Option (xW × Int32) :=
  if (x1 + x2) ≤ x4 then
    some (w, x3)
  else
  (fX8_stillAt N w x4).bind fun z1 =>
  if z1.2 = 0 then
    fX8_off_49 N K26 z1.1 x1 x2 x4 1 x3
  else
  fX8_off_49 N K26 z1.1 x1 x2 x4 0 x3
def fX8_off_26 (N : Nat) : Nat → xW → Int32 → Int32 → Int32 → Int32 → Option (xW × Int32)
  | 0, _, _, _, _, _ => none
  | n + 1, w, x1, x2, x3, x4 => fX8_off_26b N (fX8_off_26 N n) w x1 x2 x3 x4
def fX8_off_0 (N : Nat) (w : xW) (x1 : Int32) (x2 : Int32) : Option (xW × Int32) :=
  if (fX8_isTick x1) = 0 then
    fX8_off_14 N w
  else
  if (fX8_isSpan x2) = 0 then
    fX8_off_14 N w
  else
  fX8_off_26 N N w x1 x2 0 x1
def fX8_off (N : Nat) (w : xW) (x1 : Int32) (x2 : Int32) : Option (xW × Int32) := fX8_off_0 N w x1 x2
set_option maxRecDepth 100000 in
set_option maxHeartbeats 4000000 in
theorem bX8_off_14 {Γ : xΓ} (C : xOK Γ cX8_off RX8 5) (hL : xn Γ = 5) {N : Nat} {w : xW} {r : xW × Int32} (E : xEnd Γ (some .int) r.1 (some (.int r.2))) (h : fX8_off_14 N w = some r) : xG Γ w 14 [(0, .ref (xad Γ 55))] [] := by
  unfold fX8_off_14 at h
  refine xr_aload_n C 14 rfl dX8_off_14 ?_
  refine xr_ldc C 15 k_X8_98 dX8_off_15 ?_
  obtain ⟨z3, q4, h⟩ := g_bind h
  refine xr_callV C 17 (mX8_finding q4) v_X8_finding ml_X8_125 (Nat.le_of_ble_eq_true rfl) (Nat.le_of_ble_eq_true rfl) (xrecv C rfl rfl) rfl rfl (Nat.le_of_ble_eq_true rfl) rfl dX8_off_17 ?_
  cases h
  exact xr_iret C 20 E dX8_off_20
set_option maxRecDepth 100000 in
set_option maxHeartbeats 4000000 in
theorem bX8_off_49 {Γ : xΓ} (C : xOK Γ cX8_off RX8 5) (hL : xn Γ = 5) {N : Nat} {K26 : xW → Int32 → Int32 → Int32 → Int32 → Option (xW × Int32)} {w : xW} {x1 : Int32} {x2 : Int32} {x4 : Int32} {s0 : Int32} {s1 : Int32} {r : xW × Int32} (E : xEnd Γ (some .int) r.1 (some (.int r.2))) (hK26 : ∀ (w : xW) (x1 : Int32) (x2 : Int32) (x3 : Int32) (x4 : Int32), K26 w x1 x2 x3 x4 = some r → xG Γ w 26 [(0, .ref (xad Γ 55)), (1, .int x1), (2, .int x2), (3, .int x3), (4, .int x4)] []) (h : fX8_off_49 N K26 w x1 x2 x4 s0 s1 = some r) : xG Γ w 49 [(0, .ref (xad Γ 55)), (1, .int x1), (2, .int x2), (4, .int x4)] [.int s0, .int s1] := by
  unfold fX8_off_49 at h
  refine xr_iadd C 49 dX8_off_49 ?_
  refine xr_istore_n C 50 dX8_off_50 (xnb hL rfl) ?_
  refine xr_iinc C 51 1 (by decide +kernel) rfl dX8_off_51 (xnb hL rfl) ?_
  refine xr_goto C 54 26 dX8_off_54 rfl ?_
  exact xG.sub (hK26 _ _ _ _ _ h) ⟨rfl, rfl, rfl, rfl, rfl, trivial⟩
set_option maxRecDepth 100000 in
set_option maxHeartbeats 4000000 in
theorem bX8_off_26b {Γ : xΓ} (C : xOK Γ cX8_off RX8 5) (hL : xn Γ = 5) {N : Nat} {K26 : xW → Int32 → Int32 → Int32 → Int32 → Option (xW × Int32)} {w : xW} {x1 : Int32} {x2 : Int32} {x3 : Int32} {x4 : Int32} {r : xW × Int32} (E : xEnd Γ (some .int) r.1 (some (.int r.2))) (hK26 : ∀ (w : xW) (x1 : Int32) (x2 : Int32) (x3 : Int32) (x4 : Int32), K26 w x1 x2 x3 x4 = some r → xG Γ w 26 [(0, .ref (xad Γ 55)), (1, .int x1), (2, .int x2), (3, .int x3), (4, .int x4)] []) (h : fX8_off_26b N K26 w x1 x2 x3 x4 = some r) : xG Γ w 26 [(0, .ref (xad Γ 55)), (1, .int x1), (2, .int x2), (3, .int x3), (4, .int x4)] [] := by
  unfold fX8_off_26b at h
  refine xr_iload C 26 rfl dX8_off_26 ?_
  refine xr_iload_n C 28 rfl dX8_off_28 ?_
  refine xr_iload_n C 29 rfl dX8_off_29 ?_
  refine xr_iadd C 30 dX8_off_30 ?_
  refine xr_icmp_ge C 31 57 dX8_off_31 rfl (fun q => ?_) (fun q => ?_)
  · have h := g_it h q
    refine xr_iload_n C 57 rfl dX8_off_57 ?_
    cases h
    exact xr_iret C 58 E dX8_off_58
  · have h := g_if h q
    refine xr_iload_n C 34 rfl dX8_off_34 ?_
    refine xr_aload_n C 35 rfl dX8_off_35 ?_
    refine xr_iload C 36 rfl dX8_off_36 ?_
    obtain ⟨z1, q2, h⟩ := g_bind h
    refine xr_callV C 38 (mX8_stillAt q2) v_X8_stillAt ml_X8_143 (Nat.le_of_ble_eq_true rfl) (Nat.le_of_ble_eq_true rfl) (xrecv C rfl rfl) rfl rfl (Nat.le_of_ble_eq_true rfl) rfl dX8_off_38 ?_
    refine xr_if_ne C 41 48 dX8_off_41 rfl (fun q => ?_) (fun q => ?_)
    · have h := g_if h q
      refine xr_iconst C 48 0 (by decide +kernel) dX8_off_48 ?_
      exact xG.sub (bX8_off_49 C hL E hK26 h) ⟨rfl, rfl, rfl, rfl, trivial⟩
    · have h := g_it h q
      refine xr_iconst C 44 1 (by decide +kernel) dX8_off_44 ?_
      refine xr_goto C 45 49 dX8_off_45 rfl ?_
      exact xG.sub (bX8_off_49 C hL E hK26 h) ⟨rfl, rfl, rfl, rfl, trivial⟩
set_option maxRecDepth 100000 in
set_option maxHeartbeats 4000000 in
theorem bX8_off_26 {Γ : xΓ} (C : xOK Γ cX8_off RX8 5) (hL : xn Γ = 5) {N : Nat} {r : xW × Int32} (E : xEnd Γ (some .int) r.1 (some (.int r.2))) : ∀ (n : Nat) (w : xW) (x1 : Int32) (x2 : Int32) (x3 : Int32) (x4 : Int32), fX8_off_26 N n w x1 x2 x3 x4 = some r → xG Γ w 26 [(0, .ref (xad Γ 55)), (1, .int x1), (2, .int x2), (3, .int x3), (4, .int x4)] []
  | 0, _, _, _, _, _, h => by cases h
  | n + 1, w, x1, x2, x3, x4, h => bX8_off_26b C hL E (bX8_off_26 C hL E n) h
set_option maxRecDepth 100000 in
set_option maxHeartbeats 4000000 in
theorem bX8_off_0 {Γ : xΓ} (C : xOK Γ cX8_off RX8 5) (hL : xn Γ = 5) {N : Nat} {w : xW} {x1 : Int32} {x2 : Int32} {r : xW × Int32} (E : xEnd Γ (some .int) r.1 (some (.int r.2))) (h : fX8_off_0 N w x1 x2 = some r) : xG Γ w 0 [(0, .ref (xad Γ 55)), (1, .int x1), (2, .int x2)] [] := by
  unfold fX8_off_0 at h
  refine xr_iload_n C 0 rfl dX8_off_0 ?_
  refine xr_callS C 1 (mX8_isTick rfl) v_X8_isTick ml_X8_137 (Nat.le_of_ble_eq_true rfl) (Nat.le_of_ble_eq_true rfl) rfl rfl (Nat.le_of_ble_eq_true rfl) rfl dX8_off_1 ?_
  refine xr_if_eq C 4 14 dX8_off_4 rfl (fun q => ?_) (fun q => ?_)
  · have h := g_it h q
    exact xG.sub (bX8_off_14 C hL E h) ⟨rfl, trivial⟩
  · have h := g_if h q
    refine xr_iload_n C 7 rfl dX8_off_7 ?_
    refine xr_callS C 8 (mX8_isSpan rfl) v_X8_isSpan ml_X8_180 (Nat.le_of_ble_eq_true rfl) (Nat.le_of_ble_eq_true rfl) rfl rfl (Nat.le_of_ble_eq_true rfl) rfl dX8_off_8 ?_
    refine xr_if_ne C 11 21 dX8_off_11 rfl (fun q => ?_) (fun q => ?_)
    · have h := g_if h q
      refine xr_iconst C 21 0 (by decide +kernel) dX8_off_21 ?_
      refine xr_istore_n C 22 dX8_off_22 (xnb hL rfl) ?_
      refine xr_iload_n C 23 rfl dX8_off_23 ?_
      refine xr_istore C 24 dX8_off_24 (xnb hL rfl) ?_
      exact xG.sub (bX8_off_26 C hL E N _ _ _ _ _ h) ⟨rfl, rfl, rfl, rfl, rfl, trivial⟩
    · have h := g_it h q
      exact xG.sub (bX8_off_14 C hL E h) ⟨rfl, trivial⟩
set_option maxRecDepth 100000 in
set_option maxHeartbeats 4000000 in
theorem mX8_off {l : Launch} {ad : Nat → Nat} {G : gEnv} {N : Nat} {w : xW} {x1 : Int32} {x2 : Int32} {r : xW × Int32} (h : fX8_off N w x1 x2 = some r) : xCt l ad G 5 yX8_off cX8_off 5 (some .int) [.ref (ad 55), .int x1, .int x2] w r.1 (some (.int r.2)) := xCt.of RX8 rfl (by decide +kernel) (Nat.le_of_ble_eq_true rfl) (fun Γ el ea eG eL C E => by
    subst el
    subst ea
    subst eG
    unfold fX8_off at h
    exact xG.sub (bX8_off_0 C eL  E h) ⟨rfl, rfl, rfl, trivial⟩)
def fX4_add_0 (w : xW) (x1 : Int32) : Option xW :=
  if 120 ≤ (w.1 42 1) then
    some w
  else
  if ibd (w.1 42 1) 120 = true then
  some (sI (sI w 43 ((w.1 42 1).toNatClampNeg) ((x1 : Int32).toInt8.toInt32)) 42 1 (((sI w 43 ((w.1 42 1).toNatClampNeg) ((x1 : Int32).toInt8.toInt32)).1 42 1) + 1))
  else none
def fX4_add (w : xW) (x1 : Int32) : Option xW := fX4_add_0 w x1
set_option maxRecDepth 100000 in
set_option maxHeartbeats 4000000 in
theorem bX4_add_0 {Γ : xΓ} (C : xOK Γ cX4_add RX4 1) (hL : xn Γ = 2) {w : xW} {x1 : Int32} {r : xW} (E : xEnd Γ none r none) (h : fX4_add_0  w x1 = some r) : xG Γ w 0 [(0, .ref (xad Γ 42)), (1, .int x1)] [] := by
  unfold fX4_add_0 at h
  refine xr_aload_n C 0 rfl dX4_add_0 ?_
  refine xr_getI C 1 dX4_add_1 fl_X4_13 rfl rfl ?_
  refine xr_bipush C 4 120 (by decide +kernel) dX4_add_4 ?_
  refine xr_icmp_ge C 6 29 dX4_add_6 rfl (fun q => ?_) (fun q => ?_)
  · have h := g_it h q
    cases h
    exact xr_vret C 29 E dX4_add_29
  · have h := g_if h q
    refine xr_aload_n C 9 rfl dX4_add_9 ?_
    refine xr_getR C 10 dX4_add_10 fl_X4_9 rfl rfl ?_
    refine xr_aload_n C 13 rfl dX4_add_13 ?_
    refine xr_getI C 14 dX4_add_14 fl_X4_13 rfl rfl ?_
    refine xr_iload_n C 17 rfl dX4_add_17 ?_
    obtain ⟨q1, h⟩ := g_ib h
    refine xr_bast C 18 ((w.1 42 1).toNatClampNeg) rfl dX4_add_18 rfl (ibd_in q1) ?_
    refine xr_aload_n C 19 rfl dX4_add_19 ?_
    refine xr_dup C 20 rfl dX4_add_20 ?_
    refine xr_getI C 21 dX4_add_21 fl_X4_13 rfl rfl ?_
    refine xr_iconst C 24 1 (by decide +kernel) dX4_add_24 ?_
    refine xr_iadd C 25 dX4_add_25 ?_
    refine xr_putI C 26 dX4_add_26 fp_X4_13 rfl rfl ?_
    cases h
    exact xr_vret C 29 E dX4_add_29
set_option maxRecDepth 100000 in
set_option maxHeartbeats 4000000 in
theorem mX4_add {l : Launch} {ad : Nat → Nat} {G : gEnv} {w : xW} {x1 : Int32} {r : xW} (h : fX4_add w x1 = some r) : xCt l ad G 1 yX4_add cX4_add 2 none [.ref (ad 42), .int x1] w r none := xCt.of RX4 rfl (by decide +kernel) (Nat.le_of_ble_eq_true rfl) (fun Γ el ea eG eL C E => by
    subst el
    subst ea
    subst eG
    unfold fX4_add at h
    exact xG.sub (bX4_add_0 C eL  E h) ⟨rfl, rfl, trivial⟩)
def fX7_feed_10 (N : Nat) (w : xW) : Option (xW × Int32) :=
  (fX7_refuse w (-1000000001)).bind fun z5 =>
  some (z5.1, z5.2)
def fX7_feed_42b (N : Nat) (K42 : xW → Int32 → Int32 → Option (xW × Int32)) (w : xW) (x1 : Int32) (x3 : Int32) : Option (xW × Int32) :=
  if x3 < 0 then
    some (w, w.1 42 1)
  else
  (fX4_add w ((x1 >>> ((8 * x3) &&& 31) : Int32).toInt8.toInt32)).bind fun z3 =>
  K42 z3 x1 (x3 + (-1))
def fX7_feed_42 (N : Nat) : Nat → xW → Int32 → Int32 → Option (xW × Int32)
  | 0, _, _, _ => none
  | n + 1, w, x1, x3 => fX7_feed_42b N (fX7_feed_42 N n) w x1 x3
def fX7_feed_0 (N : Nat) (w : xW) (x1 : Int32) (x2 : Int32) : Option (xW × Int32) :=
  if x2 < 1 then
    fX7_feed_10 N w
  else
  if x2 ≤ 4 then
    if ((w.1 42 1) + x2) ≤ 120 then
      fX7_feed_42 N N w x1 (x2 - 1)
    else
    (fX7_refuse w (-1000000002)).bind fun z1 =>
    some (z1.1, z1.2)
  else
  fX7_feed_10 N w
def fX7_feed (N : Nat) (w : xW) (x1 : Int32) (x2 : Int32) : Option (xW × Int32) := fX7_feed_0 N w x1 x2
set_option maxRecDepth 100000 in
set_option maxHeartbeats 4000000 in
theorem bX7_feed_10 {Γ : xΓ} (C : xOK Γ cX7_feed RX7 2) (hL : xn Γ = 4) {N : Nat} {w : xW} {r : xW × Int32} (E : xEnd Γ (some .int) r.1 (some (.int r.2))) (h : fX7_feed_10 N w = some r) : xG Γ w 10 [(0, .ref (xad Γ 0))] [] := by
  unfold fX7_feed_10 at h
  refine xr_aload_n C 10 rfl dX7_feed_10 ?_
  refine xr_ldc C 11 k_X7_69 dX7_feed_11 ?_
  obtain ⟨z5, q6, h⟩ := g_bind h
  refine xr_callV C 13 (mX7_refuse q6) v_X7_refuse ml_X7_70 (Nat.le_of_ble_eq_true rfl) (Nat.le_of_ble_eq_true rfl) (xrecv C rfl rfl) rfl rfl (Nat.le_of_ble_eq_true rfl) rfl dX7_feed_13 ?_
  cases h
  exact xr_iret C 16 E dX7_feed_16
set_option maxRecDepth 100000 in
set_option maxHeartbeats 4000000 in
theorem bX7_feed_42b {Γ : xΓ} (C : xOK Γ cX7_feed RX7 2) (hL : xn Γ = 4) {N : Nat} {K42 : xW → Int32 → Int32 → Option (xW × Int32)} {w : xW} {x1 : Int32} {x3 : Int32} {r : xW × Int32} (E : xEnd Γ (some .int) r.1 (some (.int r.2))) (hK42 : ∀ (w : xW) (x1 : Int32) (x3 : Int32), K42 w x1 x3 = some r → xG Γ w 42 [(0, .ref (xad Γ 0)), (1, .int x1), (3, .int x3)] []) (h : fX7_feed_42b N K42 w x1 x3 = some r) : xG Γ w 42 [(0, .ref (xad Γ 0)), (1, .int x1), (3, .int x3)] [] := by
  unfold fX7_feed_42b at h
  refine xr_iload_n C 42 rfl dX7_feed_42 ?_
  refine xr_if_lt C 43 66 dX7_feed_43 rfl (fun q => ?_) (fun q => ?_)
  · have h := g_it h q
    refine xr_aload_n C 66 rfl dX7_feed_66 ?_
    refine xr_getR C 67 dX7_feed_67 fl_X7_51 rfl rfl ?_
    refine xr_getI C 70 dX7_feed_70 fl_X7_227 rfl rfl ?_
    cases h
    exact xr_iret C 73 E dX7_feed_73
  · have h := g_if h q
    refine xr_aload_n C 46 rfl dX7_feed_46 ?_
    refine xr_getR C 47 dX7_feed_47 fl_X7_51 rfl rfl ?_
    refine xr_iload_n C 50 rfl dX7_feed_50 ?_
    refine xr_bipush C 51 8 (by decide +kernel) dX7_feed_51 ?_
    refine xr_iload_n C 53 rfl dX7_feed_53 ?_
    refine xr_imul C 54 dX7_feed_54 ?_
    refine xr_ishr C 55 dX7_feed_55 ?_
    refine xr_i2b C 56 dX7_feed_56 ?_
    obtain ⟨z3, q4, h⟩ := g_bind h
    refine xr_callV C 57 (mX4_add q4) v_X4_add ml_X7_232 (Nat.le_of_ble_eq_true rfl) (Nat.le_of_ble_eq_true rfl) (xrecv C rfl rfl) rfl rfl (Nat.le_of_ble_eq_true rfl) rfl dX7_feed_57 ?_
    refine xr_iinc C 60 (-1) (by decide +kernel) rfl dX7_feed_60 (xnb hL rfl) ?_
    refine xr_goto C 63 42 dX7_feed_63 rfl ?_
    exact xG.sub (hK42 _ _ _ h) ⟨rfl, rfl, rfl, trivial⟩
set_option maxRecDepth 100000 in
set_option maxHeartbeats 4000000 in
theorem bX7_feed_42 {Γ : xΓ} (C : xOK Γ cX7_feed RX7 2) (hL : xn Γ = 4) {N : Nat} {r : xW × Int32} (E : xEnd Γ (some .int) r.1 (some (.int r.2))) : ∀ (n : Nat) (w : xW) (x1 : Int32) (x3 : Int32), fX7_feed_42 N n w x1 x3 = some r → xG Γ w 42 [(0, .ref (xad Γ 0)), (1, .int x1), (3, .int x3)] []
  | 0, _, _, _, h => by cases h
  | n + 1, w, x1, x3, h => bX7_feed_42b C hL E (bX7_feed_42 C hL E n) h
set_option maxRecDepth 100000 in
set_option maxHeartbeats 4000000 in
theorem bX7_feed_0 {Γ : xΓ} (C : xOK Γ cX7_feed RX7 2) (hL : xn Γ = 4) {N : Nat} {w : xW} {x1 : Int32} {x2 : Int32} {r : xW × Int32} (E : xEnd Γ (some .int) r.1 (some (.int r.2))) (h : fX7_feed_0 N w x1 x2 = some r) : xG Γ w 0 [(0, .ref (xad Γ 0)), (1, .int x1), (2, .int x2)] [] := by
  unfold fX7_feed_0 at h
  refine xr_iload_n C 0 rfl dX7_feed_0 ?_
  refine xr_iconst C 1 1 (by decide +kernel) dX7_feed_1 ?_
  refine xr_icmp_lt C 2 10 dX7_feed_2 rfl (fun q => ?_) (fun q => ?_)
  · have h := g_it h q
    exact xG.sub (bX7_feed_10 C hL E h) ⟨rfl, trivial⟩
  · have h := g_if h q
    refine xr_iload_n C 5 rfl dX7_feed_5 ?_
    refine xr_iconst C 6 4 (by decide +kernel) dX7_feed_6 ?_
    refine xr_icmp_le C 7 17 dX7_feed_7 rfl (fun q => ?_) (fun q => ?_)
    · have h := g_it h q
      refine xr_aload_n C 17 rfl dX7_feed_17 ?_
      refine xr_getR C 18 dX7_feed_18 fl_X7_51 rfl rfl ?_
      refine xr_getI C 21 dX7_feed_21 fl_X7_227 rfl rfl ?_
      refine xr_iload_n C 24 rfl dX7_feed_24 ?_
      refine xr_iadd C 25 dX7_feed_25 ?_
      refine xr_bipush C 26 120 (by decide +kernel) dX7_feed_26 ?_
      refine xr_icmp_le C 28 38 dX7_feed_28 rfl (fun q => ?_) (fun q => ?_)
      · have h := g_it h q
        refine xr_iload_n C 38 rfl dX7_feed_38 ?_
        refine xr_iconst C 39 1 (by decide +kernel) dX7_feed_39 ?_
        refine xr_isub C 40 dX7_feed_40 ?_
        refine xr_istore_n C 41 dX7_feed_41 (xnb hL rfl) ?_
        exact xG.sub (bX7_feed_42 C hL E N _ _ _ h) ⟨rfl, rfl, rfl, trivial⟩
      · have h := g_if h q
        refine xr_aload_n C 31 rfl dX7_feed_31 ?_
        refine xr_ldc C 32 k_X7_130 dX7_feed_32 ?_
        obtain ⟨z1, q2, h⟩ := g_bind h
        refine xr_callV C 34 (mX7_refuse q2) v_X7_refuse ml_X7_70 (Nat.le_of_ble_eq_true rfl) (Nat.le_of_ble_eq_true rfl) (xrecv C rfl rfl) rfl rfl (Nat.le_of_ble_eq_true rfl) rfl dX7_feed_34 ?_
        cases h
        exact xr_iret C 37 E dX7_feed_37
    · have h := g_if h q
      exact xG.sub (bX7_feed_10 C hL E h) ⟨rfl, trivial⟩
set_option maxRecDepth 100000 in
set_option maxHeartbeats 4000000 in
theorem mX7_feed {l : Launch} {ad : Nat → Nat} {G : gEnv} {N : Nat} {w : xW} {x1 : Int32} {x2 : Int32} {r : xW × Int32} (h : fX7_feed N w x1 x2 = some r) : xCt l ad G 2 yX7_feed cX7_feed 4 (some .int) [.ref (ad 0), .int x1, .int x2] w r.1 (some (.int r.2)) := xCt.of RX7 rfl (by decide +kernel) (Nat.le_of_ble_eq_true rfl) (fun Γ el ea eG eL C E => by
    subst el
    subst ea
    subst eG
    unfold fX7_feed at h
    exact xG.sub (bX7_feed_0 C eL  E h) ⟨rfl, rfl, rfl, trivial⟩)
def fX8_feed_38b (N : Nat) (K38 : xW → Int32 → Int32 → Option (xW × Int32)) (w : xW) (x1 : Int32) (x3 : Int32) : Option (xW × Int32) :=
  if x3 < 0 then
    some (w, w.1 55 18)
  else
  if ibd (w.1 55 18) 120 = true then
  K38 (sI (sI w 70 ((w.1 55 18).toNatClampNeg) ((x1 >>> ((8 * x3) &&& 31)) &&& 255)) 55 18 (((sI w 70 ((w.1 55 18).toNatClampNeg) ((x1 >>> ((8 * x3) &&& 31)) &&& 255)).1 55 18) + 1)) x1 (x3 + (-1))
  else none
def fX8_feed_38 (N : Nat) : Nat → xW → Int32 → Int32 → Option (xW × Int32)
  | 0, _, _, _ => none
  | n + 1, w, x1, x3 => fX8_feed_38b N (fX8_feed_38 N n) w x1 x3
def fX8_feed_0 (N : Nat) (w : xW) (x1 : Int32) (x2 : Int32) : Option (xW × Int32) :=
  if (fX8_within x2 1 4) = 0 then
    (fX8_finding w (-1000000001)).bind fun z3 =>
    some (z3.1, z3.2)
  else
  if ((w.1 55 18) + x2) ≤ 120 then
    fX8_feed_38 N N w x1 (x2 - 1)
  else
  (fX8_finding w (-1000000002)).bind fun z1 =>
  some (z1.1, z1.2)
def fX8_feed (N : Nat) (w : xW) (x1 : Int32) (x2 : Int32) : Option (xW × Int32) := fX8_feed_0 N w x1 x2
set_option maxRecDepth 100000 in
set_option maxHeartbeats 4000000 in
theorem bX8_feed_38b {Γ : xΓ} (C : xOK Γ cX8_feed RX8 2) (hL : xn Γ = 4) {N : Nat} {K38 : xW → Int32 → Int32 → Option (xW × Int32)} {w : xW} {x1 : Int32} {x3 : Int32} {r : xW × Int32} (E : xEnd Γ (some .int) r.1 (some (.int r.2))) (hK38 : ∀ (w : xW) (x1 : Int32) (x3 : Int32), K38 w x1 x3 = some r → xG Γ w 38 [(0, .ref (xad Γ 55)), (1, .int x1), (3, .int x3)] []) (h : fX8_feed_38b N K38 w x1 x3 = some r) : xG Γ w 38 [(0, .ref (xad Γ 55)), (1, .int x1), (3, .int x3)] [] := by
  unfold fX8_feed_38b at h
  refine xr_iload_n C 38 rfl dX8_feed_38 ?_
  refine xr_if_lt C 39 77 dX8_feed_39 rfl (fun q => ?_) (fun q => ?_)
  · have h := g_it h q
    refine xr_aload_n C 77 rfl dX8_feed_77 ?_
    refine xr_getI C 78 dX8_feed_78 fl_X8_224 rfl rfl ?_
    cases h
    exact xr_iret C 81 E dX8_feed_81
  · have h := g_if h q
    refine xr_aload_n C 42 rfl dX8_feed_42 ?_
    refine xr_getR C 43 dX8_feed_43 fl_X8_52 rfl rfl ?_
    refine xr_aload_n C 46 rfl dX8_feed_46 ?_
    refine xr_getI C 47 dX8_feed_47 fl_X8_224 rfl rfl ?_
    refine xr_iload_n C 50 rfl dX8_feed_50 ?_
    refine xr_bipush C 51 8 (by decide +kernel) dX8_feed_51 ?_
    refine xr_iload_n C 53 rfl dX8_feed_53 ?_
    refine xr_imul C 54 dX8_feed_54 ?_
    refine xr_ishr C 55 dX8_feed_55 ?_
    refine xr_sipush C 56 255 (by decide +kernel) dX8_feed_56 ?_
    refine xr_iand C 59 dX8_feed_59 ?_
    obtain ⟨q5, h⟩ := g_ib h
    refine xr_iast C 60 ((w.1 55 18).toNatClampNeg) rfl dX8_feed_60 rfl (ibd_in q5) ?_
    refine xr_aload_n C 61 rfl dX8_feed_61 ?_
    refine xr_dup C 62 rfl dX8_feed_62 ?_
    refine xr_getI C 63 dX8_feed_63 fl_X8_224 rfl rfl ?_
    refine xr_iconst C 66 1 (by decide +kernel) dX8_feed_66 ?_
    refine xr_iadd C 67 dX8_feed_67 ?_
    refine xr_putI C 68 dX8_feed_68 fp_X8_224 rfl rfl ?_
    refine xr_iinc C 71 (-1) (by decide +kernel) rfl dX8_feed_71 (xnb hL rfl) ?_
    refine xr_goto C 74 38 dX8_feed_74 rfl ?_
    exact xG.sub (hK38 _ _ _ h) ⟨rfl, rfl, rfl, trivial⟩
set_option maxRecDepth 100000 in
set_option maxHeartbeats 4000000 in
theorem bX8_feed_38 {Γ : xΓ} (C : xOK Γ cX8_feed RX8 2) (hL : xn Γ = 4) {N : Nat} {r : xW × Int32} (E : xEnd Γ (some .int) r.1 (some (.int r.2))) : ∀ (n : Nat) (w : xW) (x1 : Int32) (x3 : Int32), fX8_feed_38 N n w x1 x3 = some r → xG Γ w 38 [(0, .ref (xad Γ 55)), (1, .int x1), (3, .int x3)] []
  | 0, _, _, _, h => by cases h
  | n + 1, w, x1, x3, h => bX8_feed_38b C hL E (bX8_feed_38 C hL E n) h
set_option maxRecDepth 100000 in
set_option maxHeartbeats 4000000 in
theorem bX8_feed_0 {Γ : xΓ} (C : xOK Γ cX8_feed RX8 2) (hL : xn Γ = 4) {N : Nat} {w : xW} {x1 : Int32} {x2 : Int32} {r : xW × Int32} (E : xEnd Γ (some .int) r.1 (some (.int r.2))) (h : fX8_feed_0 N w x1 x2 = some r) : xG Γ w 0 [(0, .ref (xad Γ 55)), (1, .int x1), (2, .int x2)] [] := by
  unfold fX8_feed_0 at h
  refine xr_iload_n C 0 rfl dX8_feed_0 ?_
  refine xr_iconst C 1 1 (by decide +kernel) dX8_feed_1 ?_
  refine xr_iconst C 2 4 (by decide +kernel) dX8_feed_2 ?_
  refine xr_callS C 3 (mX8_within rfl) v_X8_within ml_X8_121 (Nat.le_of_ble_eq_true rfl) (Nat.le_of_ble_eq_true rfl) rfl rfl (Nat.le_of_ble_eq_true rfl) rfl dX8_feed_3 ?_
  refine xr_if_ne C 6 16 dX8_feed_6 rfl (fun q => ?_) (fun q => ?_)
  · have h := g_if h q
    refine xr_aload_n C 16 rfl dX8_feed_16 ?_
    refine xr_getI C 17 dX8_feed_17 fl_X8_224 rfl rfl ?_
    refine xr_iload_n C 20 rfl dX8_feed_20 ?_
    refine xr_iadd C 21 dX8_feed_21 ?_
    refine xr_bipush C 22 120 (by decide +kernel) dX8_feed_22 ?_
    refine xr_icmp_le C 24 34 dX8_feed_24 rfl (fun q => ?_) (fun q => ?_)
    · have h := g_it h q
      refine xr_iload_n C 34 rfl dX8_feed_34 ?_
      refine xr_iconst C 35 1 (by decide +kernel) dX8_feed_35 ?_
      refine xr_isub C 36 dX8_feed_36 ?_
      refine xr_istore_n C 37 dX8_feed_37 (xnb hL rfl) ?_
      exact xG.sub (bX8_feed_38 C hL E N _ _ _ h) ⟨rfl, rfl, rfl, trivial⟩
    · have h := g_if h q
      refine xr_aload_n C 27 rfl dX8_feed_27 ?_
      refine xr_ldc C 28 k_X8_153 dX8_feed_28 ?_
      obtain ⟨z1, q2, h⟩ := g_bind h
      refine xr_callV C 30 (mX8_finding q2) v_X8_finding ml_X8_125 (Nat.le_of_ble_eq_true rfl) (Nat.le_of_ble_eq_true rfl) (xrecv C rfl rfl) rfl rfl (Nat.le_of_ble_eq_true rfl) rfl dX8_feed_30 ?_
      cases h
      exact xr_iret C 33 E dX8_feed_33
  · have h := g_it h q
    refine xr_aload_n C 9 rfl dX8_feed_9 ?_
    refine xr_ldc C 10 k_X8_98 dX8_feed_10 ?_
    obtain ⟨z3, q4, h⟩ := g_bind h
    refine xr_callV C 12 (mX8_finding q4) v_X8_finding ml_X8_125 (Nat.le_of_ble_eq_true rfl) (Nat.le_of_ble_eq_true rfl) (xrecv C rfl rfl) rfl rfl (Nat.le_of_ble_eq_true rfl) rfl dX8_feed_12 ?_
    cases h
    exact xr_iret C 15 E dX8_feed_15
set_option maxRecDepth 100000 in
set_option maxHeartbeats 4000000 in
theorem mX8_feed {l : Launch} {ad : Nat → Nat} {G : gEnv} {N : Nat} {w : xW} {x1 : Int32} {x2 : Int32} {r : xW × Int32} (h : fX8_feed N w x1 x2 = some r) : xCt l ad G 2 yX8_feed cX8_feed 4 (some .int) [.ref (ad 55), .int x1, .int x2] w r.1 (some (.int r.2)) := xCt.of RX8 rfl (by decide +kernel) (Nat.le_of_ble_eq_true rfl) (fun Γ el ea eG eL C E => by
    subst el
    subst ea
    subst eG
    unfold fX8_feed at h
    exact xG.sub (bX8_feed_0 C eL  E h) ⟨rfl, rfl, rfl, trivial⟩)
def fX7_wipe_0 (w : xW) : xW × Int32 :=
  (sI w 42 1 0, w.1 42 1)
def fX7_wipe (w : xW) : xW × Int32 := fX7_wipe_0 w
set_option maxRecDepth 100000 in
set_option maxHeartbeats 4000000 in
theorem bX7_wipe_0 {Γ : xΓ} (C : xOK Γ cX7_wipe RX7 1) (hL : xn Γ = 2) {w : xW} {r : xW × Int32} (E : xEnd Γ (some .int) r.1 (some (.int r.2))) (h : fX7_wipe_0  w = r) : xG Γ w 0 [(0, .ref (xad Γ 0))] [] := by
  unfold fX7_wipe_0 at h
  refine xr_aload_n C 0 rfl dX7_wipe_0 ?_
  refine xr_getR C 1 dX7_wipe_1 fl_X7_51 rfl rfl ?_
  refine xr_getI C 4 dX7_wipe_4 fl_X7_227 rfl rfl ?_
  refine xr_istore_n C 7 dX7_wipe_7 (xnb hL rfl) ?_
  refine xr_aload_n C 8 rfl dX7_wipe_8 ?_
  refine xr_getR C 9 dX7_wipe_9 fl_X7_51 rfl rfl ?_
  refine xr_iconst C 12 0 (by decide +kernel) dX7_wipe_12 ?_
  refine xr_putI C 13 dX7_wipe_13 fp_X7_227 rfl rfl ?_
  refine xr_iload_n C 16 rfl dX7_wipe_16 ?_
  cases h
  exact xr_iret C 17 E dX7_wipe_17
set_option maxRecDepth 100000 in
set_option maxHeartbeats 4000000 in
theorem mX7_wipe {l : Launch} {ad : Nat → Nat} {G : gEnv} {w : xW} {r : xW × Int32} (h : fX7_wipe w = r) : xCt l ad G 1 yX7_wipe cX7_wipe 2 (some .int) [.ref (ad 0)] w r.1 (some (.int r.2)) := xCt.of RX7 rfl (by decide +kernel) (Nat.le_of_ble_eq_true rfl) (fun Γ el ea eG eL C E => by
    subst el
    subst ea
    subst eG
    unfold fX7_wipe at h
    exact xG.sub (bX7_wipe_0 C eL  E h) ⟨rfl, trivial⟩)
def fX8_wipe_0 (w : xW) : xW × Int32 :=
  (sI w 55 18 0, w.1 55 18)
def fX8_wipe (w : xW) : xW × Int32 := fX8_wipe_0 w
set_option maxRecDepth 100000 in
set_option maxHeartbeats 4000000 in
theorem bX8_wipe_0 {Γ : xΓ} (C : xOK Γ cX8_wipe RX8 1) (hL : xn Γ = 2) {w : xW} {r : xW × Int32} (E : xEnd Γ (some .int) r.1 (some (.int r.2))) (h : fX8_wipe_0  w = r) : xG Γ w 0 [(0, .ref (xad Γ 55))] [] := by
  unfold fX8_wipe_0 at h
  refine xr_aload_n C 0 rfl dX8_wipe_0 ?_
  refine xr_getI C 1 dX8_wipe_1 fl_X8_224 rfl rfl ?_
  refine xr_istore_n C 4 dX8_wipe_4 (xnb hL rfl) ?_
  refine xr_aload_n C 5 rfl dX8_wipe_5 ?_
  refine xr_iconst C 6 0 (by decide +kernel) dX8_wipe_6 ?_
  refine xr_putI C 7 dX8_wipe_7 fp_X8_224 rfl rfl ?_
  refine xr_iload_n C 10 rfl dX8_wipe_10 ?_
  cases h
  exact xr_iret C 11 E dX8_wipe_11
set_option maxRecDepth 100000 in
set_option maxHeartbeats 4000000 in
theorem mX8_wipe {l : Launch} {ad : Nat → Nat} {G : gEnv} {w : xW} {r : xW × Int32} (h : fX8_wipe w = r) : xCt l ad G 1 yX8_wipe cX8_wipe 2 (some .int) [.ref (ad 55)] w r.1 (some (.int r.2)) := xCt.of RX8 rfl (by decide +kernel) (Nat.le_of_ble_eq_true rfl) (fun Γ el ea eG eL C E => by
    subst el
    subst ea
    subst eG
    unfold fX8_wipe at h
    exact xG.sub (bX8_wipe_0 C eL  E h) ⟨rfl, trivial⟩)
def fX6_become_32 (w : xW) : xW :=
  w
def fX6_become_0 (w : xW) : xW :=
  fX6_become_32 (sA (sA w 13 (va_cpy (w.1 3) (w.1 13) (Int32.toNatClampNeg 0) (Int32.toNatClampNeg 0) (Int32.toNatClampNeg 4))) 14 (va_cpy ((sA w 13 (va_cpy (w.1 3) (w.1 13) (Int32.toNatClampNeg 0) (Int32.toNatClampNeg 0) (Int32.toNatClampNeg 4))).1 4) ((sA w 13 (va_cpy (w.1 3) (w.1 13) (Int32.toNatClampNeg 0) (Int32.toNatClampNeg 0) (Int32.toNatClampNeg 4))).1 14) (Int32.toNatClampNeg 0) (Int32.toNatClampNeg 0) (Int32.toNatClampNeg 3)))
def fX6_become (w : xW) : xW := fX6_become_0 w
set_option maxRecDepth 100000 in
set_option maxHeartbeats 4000000 in
theorem bX6_become_32 {Γ : xΓ} (C : xOK Γ cX6_become RX6 2) (hL : xn Γ = 2) {w : xW} {r : xW} (E : xEnd Γ none r none) (h : fX6_become_32  w = r) : xG Γ w 32 [] [] := by
  unfold fX6_become_32 at h
  cases h
  exact xr_vret C 32 E dX6_become_32
set_option maxRecDepth 100000 in
set_option maxHeartbeats 4000000 in
theorem bX6_become_0 {Γ : xΓ} (C : xOK Γ cX6_become RX6 2) (hL : xn Γ = 2) {w : xW} {r : xW} (E : xEnd Γ none r none) (h : fX6_become_0  w = r) : xG Γ w 0 [(0, .ref (xad Γ 12)), (1, .ref (xad Γ 2))] [] := by
  unfold fX6_become_0 at h
  refine xr_aload_n C 0 rfl dX6_become_0 ?_
  refine xr_getR C 1 dX6_become_1 fl_X6_9 rfl rfl ?_
  refine xr_iconst C 4 0 (by decide +kernel) dX6_become_4 ?_
  refine xr_aload_n C 5 rfl dX6_become_5 ?_
  refine xr_getR C 6 dX6_become_6 fl_X6_9 rfl rfl ?_
  refine xr_iconst C 9 0 (by decide +kernel) dX6_become_9 ?_
  refine xr_aload_n C 10 rfl dX6_become_10 ?_
  refine xr_getR C 11 dX6_become_11 fl_X6_9 rfl rfl ?_
  refine xr_alen_i C 14 4 (by decide +kernel) dX6_become_14 rfl ?_
  refine xr_copyi C 15 dX6_become_15 cp_X6_24 (Nat.le_of_ble_eq_true rfl) (Nat.le_of_ble_eq_true rfl) rfl rfl (by decide +kernel) ?_
  refine xr_aload_n C 18 rfl dX6_become_18 ?_
  refine xr_getR C 19 dX6_become_19 fl_X6_15 rfl rfl ?_
  refine xr_iconst C 22 0 (by decide +kernel) dX6_become_22 ?_
  refine xr_aload_n C 23 rfl dX6_become_23 ?_
  refine xr_getR C 24 dX6_become_24 fl_X6_15 rfl rfl ?_
  refine xr_iconst C 27 0 (by decide +kernel) dX6_become_27 ?_
  refine xr_iconst C 28 3 (by decide +kernel) dX6_become_28 ?_
  refine xr_copyi C 29 dX6_become_29 cp_X6_24 (Nat.le_of_ble_eq_true rfl) (Nat.le_of_ble_eq_true rfl) rfl rfl (by decide +kernel) ?_
  exact xG.sub (bX6_become_32 C hL E h) trivial
set_option maxRecDepth 100000 in
set_option maxHeartbeats 4000000 in
theorem mX6_become {l : Launch} {ad : Nat → Nat} {G : gEnv} {w : xW} {r : xW} (h : fX6_become w = r) : xCt l ad G 2 yX6_become cX6_become 2 none [.ref (ad 12), .ref (ad 2)] w r none := xCt.of RX6 rfl (by decide +kernel) (Nat.le_of_ble_eq_true rfl) (fun Γ el ea eG eL C E => by
    subst el
    subst ea
    subst eG
    unfold fX6_become at h
    exact xG.sub (bX6_become_0 C eL  E h) ⟨rfl, rfl, trivial⟩)
def fX1_become_118 (w : xW) : xW :=
  sA w 20 (va_cpy (w.1 10) (w.1 20) (Int32.toNatClampNeg 0) (Int32.toNatClampNeg 0) (Int32.toNatClampNeg 6))
def fX1_become_88 (w : xW) : xW :=
  fX1_become_118 (sA (sA w 18 (va_cpy (w.1 8) (w.1 18) (Int32.toNatClampNeg 0) (Int32.toNatClampNeg 0) (Int32.toNatClampNeg 6))) 19 (va_cpy ((sA w 18 (va_cpy (w.1 8) (w.1 18) (Int32.toNatClampNeg 0) (Int32.toNatClampNeg 0) (Int32.toNatClampNeg 6))).1 9) ((sA w 18 (va_cpy (w.1 8) (w.1 18) (Int32.toNatClampNeg 0) (Int32.toNatClampNeg 0) (Int32.toNatClampNeg 6))).1 19) (Int32.toNatClampNeg 0) (Int32.toNatClampNeg 0) (Int32.toNatClampNeg 6)))
def fX1_become_50 (w : xW) : xW :=
  fX1_become_88 (sA (sI (sA w 16 (va_cpy (w.1 6) (w.1 16) (Int32.toNatClampNeg 0) (Int32.toNatClampNeg 0) (Int32.toNatClampNeg 8))) 11 6 ((sA w 16 (va_cpy (w.1 6) (w.1 16) (Int32.toNatClampNeg 0) (Int32.toNatClampNeg 0) (Int32.toNatClampNeg 8))).1 1 6)) 17 (va_cpy ((sI (sA w 16 (va_cpy (w.1 6) (w.1 16) (Int32.toNatClampNeg 0) (Int32.toNatClampNeg 0) (Int32.toNatClampNeg 8))) 11 6 ((sA w 16 (va_cpy (w.1 6) (w.1 16) (Int32.toNatClampNeg 0) (Int32.toNatClampNeg 0) (Int32.toNatClampNeg 8))).1 1 6)).1 7) ((sI (sA w 16 (va_cpy (w.1 6) (w.1 16) (Int32.toNatClampNeg 0) (Int32.toNatClampNeg 0) (Int32.toNatClampNeg 8))) 11 6 ((sA w 16 (va_cpy (w.1 6) (w.1 16) (Int32.toNatClampNeg 0) (Int32.toNatClampNeg 0) (Int32.toNatClampNeg 8))).1 1 6)).1 17) (Int32.toNatClampNeg 0) (Int32.toNatClampNeg 0) (Int32.toNatClampNeg 6)))
def fX1_become_0 (w : xW) : xW :=
  fX1_become_50 (sA (sI (sI (sI (fX6_become w) 11 1 ((fX6_become w).1 1 1)) 11 2 ((sI (fX6_become w) 11 1 ((fX6_become w).1 1 1)).1 1 2)) 11 3 ((sI (sI (fX6_become w) 11 1 ((fX6_become w).1 1 1)) 11 2 ((sI (fX6_become w) 11 1 ((fX6_become w).1 1 1)).1 1 2)).1 1 3)) 15 (va_cpy ((sI (sI (sI (fX6_become w) 11 1 ((fX6_become w).1 1 1)) 11 2 ((sI (fX6_become w) 11 1 ((fX6_become w).1 1 1)).1 1 2)) 11 3 ((sI (sI (fX6_become w) 11 1 ((fX6_become w).1 1 1)) 11 2 ((sI (fX6_become w) 11 1 ((fX6_become w).1 1 1)).1 1 2)).1 1 3)).1 5) ((sI (sI (sI (fX6_become w) 11 1 ((fX6_become w).1 1 1)) 11 2 ((sI (fX6_become w) 11 1 ((fX6_become w).1 1 1)).1 1 2)) 11 3 ((sI (sI (fX6_become w) 11 1 ((fX6_become w).1 1 1)) 11 2 ((sI (fX6_become w) 11 1 ((fX6_become w).1 1 1)).1 1 2)).1 1 3)).1 15) (Int32.toNatClampNeg 0) (Int32.toNatClampNeg 0) (Int32.toNatClampNeg 8)))
def fX1_become (w : xW) : xW := fX1_become_0 w
set_option maxRecDepth 100000 in
set_option maxHeartbeats 4000000 in
theorem bX1_become_118 {Γ : xΓ} (C : xOK Γ cX1_become RX1 3) (hL : xn Γ = 2) {w : xW} {r : xW} (E : xEnd Γ none r none) (h : fX1_become_118  w = r) : xG Γ w 118 [(0, .ref (xad Γ 11)), (1, .ref (xad Γ 1))] [] := by
  unfold fX1_become_118 at h
  refine xr_aload_n C 118 rfl dX1_become_118 ?_
  refine xr_getR C 119 dX1_become_119 fl_X1_47 rfl rfl ?_
  refine xr_iconst C 122 0 (by decide +kernel) dX1_become_122 ?_
  refine xr_aload_n C 123 rfl dX1_become_123 ?_
  refine xr_getR C 124 dX1_become_124 fl_X1_47 rfl rfl ?_
  refine xr_iconst C 127 0 (by decide +kernel) dX1_become_127 ?_
  refine xr_bipush C 128 6 (by decide +kernel) dX1_become_128 ?_
  refine xr_copyi C 130 dX1_become_130 cp_X1_54 (Nat.le_of_ble_eq_true rfl) (Nat.le_of_ble_eq_true rfl) rfl rfl (by decide +kernel) ?_
  cases h
  exact xr_vret C 133 E dX1_become_133
set_option maxRecDepth 100000 in
set_option maxHeartbeats 4000000 in
theorem bX1_become_88 {Γ : xΓ} (C : xOK Γ cX1_become RX1 3) (hL : xn Γ = 2) {w : xW} {r : xW} (E : xEnd Γ none r none) (h : fX1_become_88  w = r) : xG Γ w 88 [(0, .ref (xad Γ 11)), (1, .ref (xad Γ 1))] [] := by
  unfold fX1_become_88 at h
  refine xr_aload_n C 88 rfl dX1_become_88 ?_
  refine xr_getR C 89 dX1_become_89 fl_X1_41 rfl rfl ?_
  refine xr_iconst C 92 0 (by decide +kernel) dX1_become_92 ?_
  refine xr_aload_n C 93 rfl dX1_become_93 ?_
  refine xr_getR C 94 dX1_become_94 fl_X1_41 rfl rfl ?_
  refine xr_iconst C 97 0 (by decide +kernel) dX1_become_97 ?_
  refine xr_bipush C 98 6 (by decide +kernel) dX1_become_98 ?_
  refine xr_copyi C 100 dX1_become_100 cp_X1_54 (Nat.le_of_ble_eq_true rfl) (Nat.le_of_ble_eq_true rfl) rfl rfl (by decide +kernel) ?_
  refine xr_aload_n C 103 rfl dX1_become_103 ?_
  refine xr_getR C 104 dX1_become_104 fl_X1_44 rfl rfl ?_
  refine xr_iconst C 107 0 (by decide +kernel) dX1_become_107 ?_
  refine xr_aload_n C 108 rfl dX1_become_108 ?_
  refine xr_getR C 109 dX1_become_109 fl_X1_44 rfl rfl ?_
  refine xr_iconst C 112 0 (by decide +kernel) dX1_become_112 ?_
  refine xr_bipush C 113 6 (by decide +kernel) dX1_become_113 ?_
  refine xr_copyi C 115 dX1_become_115 cp_X1_54 (Nat.le_of_ble_eq_true rfl) (Nat.le_of_ble_eq_true rfl) rfl rfl (by decide +kernel) ?_
  exact xG.sub (bX1_become_118 C hL E h) ⟨rfl, rfl, trivial⟩
set_option maxRecDepth 100000 in
set_option maxHeartbeats 4000000 in
theorem bX1_become_50 {Γ : xΓ} (C : xOK Γ cX1_become RX1 3) (hL : xn Γ = 2) {w : xW} {r : xW} (E : xEnd Γ none r none) (h : fX1_become_50  w = r) : xG Γ w 50 [(0, .ref (xad Γ 11)), (1, .ref (xad Γ 1))] [] := by
  unfold fX1_become_50 at h
  refine xr_aload_n C 50 rfl dX1_become_50 ?_
  refine xr_getR C 51 dX1_become_51 fl_X1_32 rfl rfl ?_
  refine xr_iconst C 54 0 (by decide +kernel) dX1_become_54 ?_
  refine xr_aload_n C 55 rfl dX1_become_55 ?_
  refine xr_getR C 56 dX1_become_56 fl_X1_32 rfl rfl ?_
  refine xr_iconst C 59 0 (by decide +kernel) dX1_become_59 ?_
  refine xr_bipush C 60 8 (by decide +kernel) dX1_become_60 ?_
  refine xr_copyi C 62 dX1_become_62 cp_X1_54 (Nat.le_of_ble_eq_true rfl) (Nat.le_of_ble_eq_true rfl) rfl rfl (by decide +kernel) ?_
  refine xr_aload_n C 65 rfl dX1_become_65 ?_
  refine xr_aload_n C 66 rfl dX1_become_66 ?_
  refine xr_getI C 67 dX1_become_67 fl_X1_35 rfl rfl ?_
  refine xr_putI C 70 dX1_become_70 fp_X1_35 rfl rfl ?_
  refine xr_aload_n C 73 rfl dX1_become_73 ?_
  refine xr_getR C 74 dX1_become_74 fl_X1_38 rfl rfl ?_
  refine xr_iconst C 77 0 (by decide +kernel) dX1_become_77 ?_
  refine xr_aload_n C 78 rfl dX1_become_78 ?_
  refine xr_getR C 79 dX1_become_79 fl_X1_38 rfl rfl ?_
  refine xr_iconst C 82 0 (by decide +kernel) dX1_become_82 ?_
  refine xr_bipush C 83 6 (by decide +kernel) dX1_become_83 ?_
  refine xr_copyi C 85 dX1_become_85 cp_X1_54 (Nat.le_of_ble_eq_true rfl) (Nat.le_of_ble_eq_true rfl) rfl rfl (by decide +kernel) ?_
  exact xG.sub (bX1_become_88 C hL E h) ⟨rfl, rfl, trivial⟩
set_option maxRecDepth 100000 in
set_option maxHeartbeats 4000000 in
theorem bX1_become_0 {Γ : xΓ} (C : xOK Γ cX1_become RX1 3) (hL : xn Γ = 2) {w : xW} {r : xW} (E : xEnd Γ none r none) (h : fX1_become_0  w = r) : xG Γ w 0 [(0, .ref (xad Γ 11)), (1, .ref (xad Γ 1))] [] := by
  unfold fX1_become_0 at h
  refine xr_aload_n C 0 rfl dX1_become_0 ?_
  refine xr_getR C 1 dX1_become_1 fl_X1_12 rfl rfl ?_
  refine xr_aload_n C 4 rfl dX1_become_4 ?_
  refine xr_getR C 5 dX1_become_5 fl_X1_12 rfl rfl ?_
  refine xr_callV C 8 (mX6_become rfl) v_X6_become ml_X1_50 (Nat.le_of_ble_eq_true rfl) (Nat.le_of_ble_eq_true rfl) (xrecv C rfl rfl) rfl rfl (Nat.le_of_ble_eq_true rfl) rfl dX1_become_8 ?_
  refine xr_aload_n C 11 rfl dX1_become_11 ?_
  refine xr_aload_n C 12 rfl dX1_become_12 ?_
  refine xr_getI C 13 dX1_become_13 fl_X1_18 rfl rfl ?_
  refine xr_putI C 16 dX1_become_16 fp_X1_18 rfl rfl ?_
  refine xr_aload_n C 19 rfl dX1_become_19 ?_
  refine xr_aload_n C 20 rfl dX1_become_20 ?_
  refine xr_getI C 21 dX1_become_21 fl_X1_22 rfl rfl ?_
  refine xr_putI C 24 dX1_become_24 fp_X1_22 rfl rfl ?_
  refine xr_aload_n C 27 rfl dX1_become_27 ?_
  refine xr_aload_n C 28 rfl dX1_become_28 ?_
  refine xr_getI C 29 dX1_become_29 fl_X1_25 rfl rfl ?_
  refine xr_putI C 32 dX1_become_32 fp_X1_25 rfl rfl ?_
  refine xr_aload_n C 35 rfl dX1_become_35 ?_
  refine xr_getR C 36 dX1_become_36 fl_X1_28 rfl rfl ?_
  refine xr_iconst C 39 0 (by decide +kernel) dX1_become_39 ?_
  refine xr_aload_n C 40 rfl dX1_become_40 ?_
  refine xr_getR C 41 dX1_become_41 fl_X1_28 rfl rfl ?_
  refine xr_iconst C 44 0 (by decide +kernel) dX1_become_44 ?_
  refine xr_bipush C 45 8 (by decide +kernel) dX1_become_45 ?_
  refine xr_copyi C 47 dX1_become_47 cp_X1_54 (Nat.le_of_ble_eq_true rfl) (Nat.le_of_ble_eq_true rfl) rfl rfl (by decide +kernel) ?_
  exact xG.sub (bX1_become_50 C hL E h) ⟨rfl, rfl, trivial⟩
set_option maxRecDepth 100000 in
set_option maxHeartbeats 4000000 in
theorem mX1_become {l : Launch} {ad : Nat → Nat} {G : gEnv} {w : xW} {r : xW} (h : fX1_become w = r) : xCt l ad G 3 yX1_become cX1_become 2 none [.ref (ad 11), .ref (ad 1)] w r none := xCt.of RX1 rfl (by decide +kernel) (Nat.le_of_ble_eq_true rfl) (fun Γ el ea eG eL C E => by
    subst el
    subst ea
    subst eG
    unfold fX1_become at h
    exact xG.sub (bX1_become_0 C eL  E h) ⟨rfl, rfl, trivial⟩)
def fX4_typeAt_55 (w : xW) (x2 : Int32) : Option Int32 :=
  if x2 = 59 then
    some 3
  else
  if x2 = 32 then
    some 4
  else
  some 5
def fX4_typeAt_41 (w : xW) (x2 : Int32) : Option Int32 :=
  if x2 < 48 then
    fX4_typeAt_55 w x2
  else
  if 57 < x2 then
    fX4_typeAt_55 w x2
  else
  some 2
def fX4_typeAt_0 (w : xW) (x1 : Int32) : Option Int32 :=
  if x1 < 0 then
    some 0
  else
  if (w.1 42 1) ≤ x1 then
    some 0
  else
  if x1 < 120 then
    if ibd x1 120 = true then
    if (w.1 43 x1.toNatClampNeg) < 97 then
      fX4_typeAt_41 w (w.1 43 x1.toNatClampNeg)
    else
    if 122 < (w.1 43 x1.toNatClampNeg) then
      fX4_typeAt_41 w (w.1 43 x1.toNatClampNeg)
    else
    some 1
    else none
  else
  some 0
def fX4_typeAt (w : xW) (x1 : Int32) : Option Int32 := fX4_typeAt_0 w x1
set_option maxRecDepth 100000 in
set_option maxHeartbeats 4000000 in
theorem bX4_typeAt_55 {Γ : xΓ} (C : xOK Γ cX4_typeAt RX4 1) (hL : xn Γ = 3) {w : xW} {x2 : Int32} {r : Int32} (E : xEnd Γ (some .int) w (some (.int r))) (h : fX4_typeAt_55 w x2 = some r) : xG Γ w 55 [(2, .int x2)] [] := by
  unfold fX4_typeAt_55 at h
  refine xr_iload_n C 55 rfl dX4_typeAt_55 ?_
  refine xr_bipush C 56 59 (by decide +kernel) dX4_typeAt_56 ?_
  refine xr_icmp_ne C 58 63 dX4_typeAt_58 rfl (fun q => ?_) (fun q => ?_)
  · have h := g_if h q
    refine xr_iload_n C 63 rfl dX4_typeAt_63 ?_
    refine xr_bipush C 64 32 (by decide +kernel) dX4_typeAt_64 ?_
    refine xr_icmp_ne C 66 73 dX4_typeAt_66 rfl (fun q => ?_) (fun q => ?_)
    · have h := g_if h q
      refine xr_iconst C 73 5 (by decide +kernel) dX4_typeAt_73 ?_
      cases h
      exact xr_iret C 74 E dX4_typeAt_74
    · have h := g_it h q
      refine xr_iconst C 69 4 (by decide +kernel) dX4_typeAt_69 ?_
      refine xr_goto C 70 74 dX4_typeAt_70 rfl ?_
      cases h
      exact xr_iret C 74 E dX4_typeAt_74
  · have h := g_it h q
    refine xr_iconst C 61 3 (by decide +kernel) dX4_typeAt_61 ?_
    cases h
    exact xr_iret C 62 E dX4_typeAt_62
set_option maxRecDepth 100000 in
set_option maxHeartbeats 4000000 in
theorem bX4_typeAt_41 {Γ : xΓ} (C : xOK Γ cX4_typeAt RX4 1) (hL : xn Γ = 3) {w : xW} {x2 : Int32} {r : Int32} (E : xEnd Γ (some .int) w (some (.int r))) (h : fX4_typeAt_41 w x2 = some r) : xG Γ w 41 [(2, .int x2)] [] := by
  unfold fX4_typeAt_41 at h
  refine xr_iload_n C 41 rfl dX4_typeAt_41 ?_
  refine xr_bipush C 42 48 (by decide +kernel) dX4_typeAt_42 ?_
  refine xr_icmp_lt C 44 55 dX4_typeAt_44 rfl (fun q => ?_) (fun q => ?_)
  · have h := g_it h q
    exact xG.sub (bX4_typeAt_55 C hL E h) ⟨rfl, trivial⟩
  · have h := g_if h q
    refine xr_iload_n C 47 rfl dX4_typeAt_47 ?_
    refine xr_bipush C 48 57 (by decide +kernel) dX4_typeAt_48 ?_
    refine xr_icmp_gt C 50 55 dX4_typeAt_50 rfl (fun q => ?_) (fun q => ?_)
    · have h := g_it h q
      exact xG.sub (bX4_typeAt_55 C hL E h) ⟨rfl, trivial⟩
    · have h := g_if h q
      refine xr_iconst C 53 2 (by decide +kernel) dX4_typeAt_53 ?_
      cases h
      exact xr_iret C 54 E dX4_typeAt_54
set_option maxRecDepth 100000 in
set_option maxHeartbeats 4000000 in
theorem bX4_typeAt_0 {Γ : xΓ} (C : xOK Γ cX4_typeAt RX4 1) (hL : xn Γ = 3) {w : xW} {x1 : Int32} {r : Int32} (E : xEnd Γ (some .int) w (some (.int r))) (h : fX4_typeAt_0 w x1 = some r) : xG Γ w 0 [(0, .ref (xad Γ 42)), (1, .int x1)] [] := by
  unfold fX4_typeAt_0 at h
  refine xr_iload_n C 0 rfl dX4_typeAt_0 ?_
  refine xr_if_lt C 1 18 dX4_typeAt_1 rfl (fun q => ?_) (fun q => ?_)
  · have h := g_it h q
    refine xr_iconst C 18 0 (by decide +kernel) dX4_typeAt_18 ?_
    cases h
    exact xr_iret C 19 E dX4_typeAt_19
  · have h := g_if h q
    refine xr_iload_n C 4 rfl dX4_typeAt_4 ?_
    refine xr_aload_n C 5 rfl dX4_typeAt_5 ?_
    refine xr_getI C 6 dX4_typeAt_6 fl_X4_13 rfl rfl ?_
    refine xr_icmp_ge C 9 18 dX4_typeAt_9 rfl (fun q => ?_) (fun q => ?_)
    · have h := g_it h q
      refine xr_iconst C 18 0 (by decide +kernel) dX4_typeAt_18 ?_
      cases h
      exact xr_iret C 19 E dX4_typeAt_19
    · have h := g_if h q
      refine xr_iload_n C 12 rfl dX4_typeAt_12 ?_
      refine xr_bipush C 13 120 (by decide +kernel) dX4_typeAt_13 ?_
      refine xr_icmp_lt C 15 20 dX4_typeAt_15 rfl (fun q => ?_) (fun q => ?_)
      · have h := g_it h q
        refine xr_aload_n C 20 rfl dX4_typeAt_20 ?_
        refine xr_getR C 21 dX4_typeAt_21 fl_X4_9 rfl rfl ?_
        refine xr_iload_n C 24 rfl dX4_typeAt_24 ?_
        obtain ⟨q1, h⟩ := g_ib h
        refine xr_bald C 25 x1.toNatClampNeg rfl dX4_typeAt_25 rfl (ibd_in q1) ?_
        refine xr_istore_n C 26 dX4_typeAt_26 (xnb hL rfl) ?_
        refine xr_iload_n C 27 rfl dX4_typeAt_27 ?_
        refine xr_bipush C 28 97 (by decide +kernel) dX4_typeAt_28 ?_
        refine xr_icmp_lt C 30 41 dX4_typeAt_30 rfl (fun q => ?_) (fun q => ?_)
        · have h := g_it h q
          exact xG.sub (bX4_typeAt_41 C hL E h) ⟨rfl, trivial⟩
        · have h := g_if h q
          refine xr_iload_n C 33 rfl dX4_typeAt_33 ?_
          refine xr_bipush C 34 122 (by decide +kernel) dX4_typeAt_34 ?_
          refine xr_icmp_gt C 36 41 dX4_typeAt_36 rfl (fun q => ?_) (fun q => ?_)
          · have h := g_it h q
            exact xG.sub (bX4_typeAt_41 C hL E h) ⟨rfl, trivial⟩
          · have h := g_if h q
            refine xr_iconst C 39 1 (by decide +kernel) dX4_typeAt_39 ?_
            cases h
            exact xr_iret C 40 E dX4_typeAt_40
      · have h := g_if h q
        refine xr_iconst C 18 0 (by decide +kernel) dX4_typeAt_18 ?_
        cases h
        exact xr_iret C 19 E dX4_typeAt_19
set_option maxRecDepth 100000 in
set_option maxHeartbeats 4000000 in
theorem mX4_typeAt {l : Launch} {ad : Nat → Nat} {G : gEnv} {w : xW} {x1 : Int32} {r : Int32} (h : fX4_typeAt w x1 = some r) : xCt l ad G 1 yX4_typeAt cX4_typeAt 3 (some .int) [.ref (ad 42), .int x1] w w (some (.int r)) := xCt.of RX4 rfl (by decide +kernel) (Nat.le_of_ble_eq_true rfl) (fun Γ el ea eG eL C E => by
    subst el
    subst ea
    subst eG
    unfold fX4_typeAt at h
    exact xG.sub (bX4_typeAt_0 C eL  E h) ⟨rfl, rfl, trivial⟩)
def fX4_step_107 (N : Nat) (K80 : xW → Option xW) (w : xW) : Option xW :=
  (fX4_typeAt w (w.1 42 4)).bind fun z5 =>
  if z5 = (w.1 42 2) then
    K80 (sI w 42 4 ((w.1 42 4) + 1))
  else
  some w
def fX4_step_80b (N : Nat) (K80 : xW → Option xW) (w : xW) : Option xW :=
  if (w.1 42 1) ≤ (w.1 42 4) then
    some w
  else
  if (w.1 42 2) = 1 then
    fX4_step_107 N K80 w
  else
  if (w.1 42 2) = 2 then
    fX4_step_107 N K80 w
  else
  some w
def fX4_step_80 (N : Nat) : Nat → xW → Option xW
  | 0, _ => none
  | n + 1, w => fX4_step_80b N (fX4_step_80 N n) w
def fX4_step_77 (N : Nat) (w : xW) (s0 : Int32) : Option xW :=
  fX4_step_80 N N (sI w 42 4 s0)
def fX4_step_44 (N : Nat) (w : xW) : Option xW :=
  (fX4_typeAt w (w.1 42 3)).bind fun z3 =>
  if ((sI w 42 2 z3).1 42 2) = 0 then
    fX4_step_77 N (sI w 42 2 z3) ((sI w 42 2 z3).1 42 3)
  else
  fX4_step_77 N (sI w 42 2 z3) (((sI w 42 2 z3).1 42 3) + 1)
def fX4_step_8b (N : Nat) (K8 : xW → Option xW) (w : xW) : Option xW :=
  if (w.1 42 1) ≤ (w.1 42 3) then
    fX4_step_44 N w
  else
  (fX4_typeAt w (w.1 42 3)).bind fun z1 =>
  if z1 = 4 then
    K8 (sI w 42 3 ((w.1 42 3) + 1))
  else
  fX4_step_44 N w
def fX4_step_8 (N : Nat) : Nat → xW → Option xW
  | 0, _ => none
  | n + 1, w => fX4_step_8b N (fX4_step_8 N n) w
def fX4_step_0 (N : Nat) (w : xW) : Option xW :=
  fX4_step_8 N N (sI w 42 3 (w.1 42 4))
def fX4_step (N : Nat) (w : xW) : Option xW := fX4_step_0 N w
set_option maxRecDepth 100000 in
set_option maxHeartbeats 4000000 in
theorem bX4_step_107 {Γ : xΓ} (C : xOK Γ cX4_step RX4 2) (hL : xn Γ = 1) {N : Nat} {K80 : xW → Option xW} {w : xW} {r : xW} (E : xEnd Γ none r none) (hK80 : ∀ (w : xW), K80 w = some r → xG Γ w 80 [(0, .ref (xad Γ 42))] []) (h : fX4_step_107 N K80 w = some r) : xG Γ w 107 [(0, .ref (xad Γ 42))] [] := by
  unfold fX4_step_107 at h
  refine xr_aload_n C 107 rfl dX4_step_107 ?_
  refine xr_aload_n C 108 rfl dX4_step_108 ?_
  refine xr_getI C 109 dX4_step_109 fl_X4_23 rfl rfl ?_
  obtain ⟨z5, q6, h⟩ := g_bind h
  refine xr_callV C 112 (mX4_typeAt q6) v_X4_typeAt ml_X4_29 (Nat.le_of_ble_eq_true rfl) (Nat.le_of_ble_eq_true rfl) (xrecv C rfl rfl) rfl rfl (Nat.le_of_ble_eq_true rfl) rfl dX4_step_112 ?_
  refine xr_aload_n C 115 rfl dX4_step_115 ?_
  refine xr_getI C 116 dX4_step_116 fl_X4_17 rfl rfl ?_
  refine xr_icmp_ne C 119 135 dX4_step_119 rfl (fun q => ?_) (fun q => ?_)
  · have h := g_if h q
    cases h
    exact xr_vret C 135 E dX4_step_135
  · have h := g_it h q
    refine xr_aload_n C 122 rfl dX4_step_122 ?_
    refine xr_dup C 123 rfl dX4_step_123 ?_
    refine xr_getI C 124 dX4_step_124 fl_X4_23 rfl rfl ?_
    refine xr_iconst C 127 1 (by decide +kernel) dX4_step_127 ?_
    refine xr_iadd C 128 dX4_step_128 ?_
    refine xr_putI C 129 dX4_step_129 fp_X4_23 rfl rfl ?_
    refine xr_goto C 132 80 dX4_step_132 rfl ?_
    exact xG.sub (hK80 _ h) ⟨rfl, trivial⟩
set_option maxRecDepth 100000 in
set_option maxHeartbeats 4000000 in
theorem bX4_step_80b {Γ : xΓ} (C : xOK Γ cX4_step RX4 2) (hL : xn Γ = 1) {N : Nat} {K80 : xW → Option xW} {w : xW} {r : xW} (E : xEnd Γ none r none) (hK80 : ∀ (w : xW), K80 w = some r → xG Γ w 80 [(0, .ref (xad Γ 42))] []) (h : fX4_step_80b N K80 w = some r) : xG Γ w 80 [(0, .ref (xad Γ 42))] [] := by
  unfold fX4_step_80b at h
  refine xr_aload_n C 80 rfl dX4_step_80 ?_
  refine xr_getI C 81 dX4_step_81 fl_X4_23 rfl rfl ?_
  refine xr_aload_n C 84 rfl dX4_step_84 ?_
  refine xr_getI C 85 dX4_step_85 fl_X4_13 rfl rfl ?_
  refine xr_icmp_ge C 88 135 dX4_step_88 rfl (fun q => ?_) (fun q => ?_)
  · have h := g_it h q
    cases h
    exact xr_vret C 135 E dX4_step_135
  · have h := g_if h q
    refine xr_aload_n C 91 rfl dX4_step_91 ?_
    refine xr_getI C 92 dX4_step_92 fl_X4_17 rfl rfl ?_
    refine xr_iconst C 95 1 (by decide +kernel) dX4_step_95 ?_
    refine xr_icmp_eq C 96 107 dX4_step_96 rfl (fun q => ?_) (fun q => ?_)
    · have h := g_it h q
      exact xG.sub (bX4_step_107 C hL E hK80 h) ⟨rfl, trivial⟩
    · have h := g_if h q
      refine xr_aload_n C 99 rfl dX4_step_99 ?_
      refine xr_getI C 100 dX4_step_100 fl_X4_17 rfl rfl ?_
      refine xr_iconst C 103 2 (by decide +kernel) dX4_step_103 ?_
      refine xr_icmp_ne C 104 135 dX4_step_104 rfl (fun q => ?_) (fun q => ?_)
      · have h := g_if h q
        cases h
        exact xr_vret C 135 E dX4_step_135
      · have h := g_it h q
        exact xG.sub (bX4_step_107 C hL E hK80 h) ⟨rfl, trivial⟩
set_option maxRecDepth 100000 in
set_option maxHeartbeats 4000000 in
theorem bX4_step_80 {Γ : xΓ} (C : xOK Γ cX4_step RX4 2) (hL : xn Γ = 1) {N : Nat} {r : xW} (E : xEnd Γ none r none) : ∀ (n : Nat) (w : xW), fX4_step_80 N n w = some r → xG Γ w 80 [(0, .ref (xad Γ 42))] []
  | 0, _, h => by cases h
  | n + 1, w, h => bX4_step_80b C hL E (bX4_step_80 C hL E n) h
set_option maxRecDepth 100000 in
set_option maxHeartbeats 4000000 in
theorem bX4_step_77 {Γ : xΓ} (C : xOK Γ cX4_step RX4 2) (hL : xn Γ = 1) {N : Nat} {w : xW} {s0 : Int32} {r : xW} (E : xEnd Γ none r none) (h : fX4_step_77 N w s0 = some r) : xG Γ w 77 [(0, .ref (xad Γ 42))] [.int s0, .ref (xad Γ 42)] := by
  unfold fX4_step_77 at h
  refine xr_putI C 77 dX4_step_77 fp_X4_23 rfl rfl ?_
  exact xG.sub (bX4_step_80 C hL E N _ h) ⟨rfl, trivial⟩
set_option maxRecDepth 100000 in
set_option maxHeartbeats 4000000 in
theorem bX4_step_44 {Γ : xΓ} (C : xOK Γ cX4_step RX4 2) (hL : xn Γ = 1) {N : Nat} {w : xW} {r : xW} (E : xEnd Γ none r none) (h : fX4_step_44 N w = some r) : xG Γ w 44 [(0, .ref (xad Γ 42))] [] := by
  unfold fX4_step_44 at h
  refine xr_aload_n C 44 rfl dX4_step_44 ?_
  refine xr_aload_n C 45 rfl dX4_step_45 ?_
  refine xr_aload_n C 46 rfl dX4_step_46 ?_
  refine xr_getI C 47 dX4_step_47 fl_X4_20 rfl rfl ?_
  obtain ⟨z3, q4, h⟩ := g_bind h
  refine xr_callV C 50 (mX4_typeAt q4) v_X4_typeAt ml_X4_29 (Nat.le_of_ble_eq_true rfl) (Nat.le_of_ble_eq_true rfl) (xrecv C rfl rfl) rfl rfl (Nat.le_of_ble_eq_true rfl) rfl dX4_step_50 ?_
  refine xr_putI C 53 dX4_step_53 fp_X4_17 rfl rfl ?_
  refine xr_aload_n C 56 rfl dX4_step_56 ?_
  refine xr_aload_n C 57 rfl dX4_step_57 ?_
  refine xr_getI C 58 dX4_step_58 fl_X4_17 rfl rfl ?_
  refine xr_if_ne C 61 71 dX4_step_61 rfl (fun q => ?_) (fun q => ?_)
  · have h := g_if h q
    refine xr_aload_n C 71 rfl dX4_step_71 ?_
    refine xr_getI C 72 dX4_step_72 fl_X4_20 rfl rfl ?_
    refine xr_iconst C 75 1 (by decide +kernel) dX4_step_75 ?_
    refine xr_iadd C 76 dX4_step_76 ?_
    exact xG.sub (bX4_step_77 C hL E h) ⟨rfl, trivial⟩
  · have h := g_it h q
    refine xr_aload_n C 64 rfl dX4_step_64 ?_
    refine xr_getI C 65 dX4_step_65 fl_X4_20 rfl rfl ?_
    refine xr_goto C 68 77 dX4_step_68 rfl ?_
    exact xG.sub (bX4_step_77 C hL E h) ⟨rfl, trivial⟩
set_option maxRecDepth 100000 in
set_option maxHeartbeats 4000000 in
theorem bX4_step_8b {Γ : xΓ} (C : xOK Γ cX4_step RX4 2) (hL : xn Γ = 1) {N : Nat} {K8 : xW → Option xW} {w : xW} {r : xW} (E : xEnd Γ none r none) (hK8 : ∀ (w : xW), K8 w = some r → xG Γ w 8 [(0, .ref (xad Γ 42))] []) (h : fX4_step_8b N K8 w = some r) : xG Γ w 8 [(0, .ref (xad Γ 42))] [] := by
  unfold fX4_step_8b at h
  refine xr_aload_n C 8 rfl dX4_step_8 ?_
  refine xr_getI C 9 dX4_step_9 fl_X4_20 rfl rfl ?_
  refine xr_aload_n C 12 rfl dX4_step_12 ?_
  refine xr_getI C 13 dX4_step_13 fl_X4_13 rfl rfl ?_
  refine xr_icmp_ge C 16 44 dX4_step_16 rfl (fun q => ?_) (fun q => ?_)
  · have h := g_it h q
    exact xG.sub (bX4_step_44 C hL E h) ⟨rfl, trivial⟩
  · have h := g_if h q
    refine xr_aload_n C 19 rfl dX4_step_19 ?_
    refine xr_aload_n C 20 rfl dX4_step_20 ?_
    refine xr_getI C 21 dX4_step_21 fl_X4_20 rfl rfl ?_
    obtain ⟨z1, q2, h⟩ := g_bind h
    refine xr_callV C 24 (mX4_typeAt q2) v_X4_typeAt ml_X4_29 (Nat.le_of_ble_eq_true rfl) (Nat.le_of_ble_eq_true rfl) (xrecv C rfl rfl) rfl rfl (Nat.le_of_ble_eq_true rfl) rfl dX4_step_24 ?_
    refine xr_iconst C 27 4 (by decide +kernel) dX4_step_27 ?_
    refine xr_icmp_ne C 28 44 dX4_step_28 rfl (fun q => ?_) (fun q => ?_)
    · have h := g_if h q
      exact xG.sub (bX4_step_44 C hL E h) ⟨rfl, trivial⟩
    · have h := g_it h q
      refine xr_aload_n C 31 rfl dX4_step_31 ?_
      refine xr_dup C 32 rfl dX4_step_32 ?_
      refine xr_getI C 33 dX4_step_33 fl_X4_20 rfl rfl ?_
      refine xr_iconst C 36 1 (by decide +kernel) dX4_step_36 ?_
      refine xr_iadd C 37 dX4_step_37 ?_
      refine xr_putI C 38 dX4_step_38 fp_X4_20 rfl rfl ?_
      refine xr_goto C 41 8 dX4_step_41 rfl ?_
      exact xG.sub (hK8 _ h) ⟨rfl, trivial⟩
set_option maxRecDepth 100000 in
set_option maxHeartbeats 4000000 in
theorem bX4_step_8 {Γ : xΓ} (C : xOK Γ cX4_step RX4 2) (hL : xn Γ = 1) {N : Nat} {r : xW} (E : xEnd Γ none r none) : ∀ (n : Nat) (w : xW), fX4_step_8 N n w = some r → xG Γ w 8 [(0, .ref (xad Γ 42))] []
  | 0, _, h => by cases h
  | n + 1, w, h => bX4_step_8b C hL E (bX4_step_8 C hL E n) h
set_option maxRecDepth 100000 in
set_option maxHeartbeats 4000000 in
theorem bX4_step_0 {Γ : xΓ} (C : xOK Γ cX4_step RX4 2) (hL : xn Γ = 1) {N : Nat} {w : xW} {r : xW} (E : xEnd Γ none r none) (h : fX4_step_0 N w = some r) : xG Γ w 0 [(0, .ref (xad Γ 42))] [] := by
  unfold fX4_step_0 at h
  refine xr_aload_n C 0 rfl dX4_step_0 ?_
  refine xr_aload_n C 1 rfl dX4_step_1 ?_
  refine xr_getI C 2 dX4_step_2 fl_X4_23 rfl rfl ?_
  refine xr_putI C 5 dX4_step_5 fp_X4_20 rfl rfl ?_
  exact xG.sub (bX4_step_8 C hL E N _ h) ⟨rfl, trivial⟩
set_option maxRecDepth 100000 in
set_option maxHeartbeats 4000000 in
theorem mX4_step {l : Launch} {ad : Nat → Nat} {G : gEnv} {N : Nat} {w : xW} {r : xW} (h : fX4_step N w = some r) : xCt l ad G 2 yX4_step cX4_step 1 none [.ref (ad 42)] w r none := xCt.of RX4 rfl (by decide +kernel) (Nat.le_of_ble_eq_true rfl) (fun Γ el ea eG eL C E => by
    subst el
    subst ea
    subst eG
    unfold fX4_step at h
    exact xG.sub (bX4_step_0 C eL  E h) ⟨rfl, trivial⟩)
def fX4_rewind_0 (N : Nat) (w : xW) : Option xW :=
  (fX4_step N (sI w 42 4 0)).bind fun z1 =>
  some z1
def fX4_rewind (N : Nat) (w : xW) : Option xW := fX4_rewind_0 N w
set_option maxRecDepth 100000 in
set_option maxHeartbeats 4000000 in
theorem bX4_rewind_0 {Γ : xΓ} (C : xOK Γ cX4_rewind RX4 3) (hL : xn Γ = 1) {N : Nat} {w : xW} {r : xW} (E : xEnd Γ none r none) (h : fX4_rewind_0 N w = some r) : xG Γ w 0 [(0, .ref (xad Γ 42))] [] := by
  unfold fX4_rewind_0 at h
  refine xr_aload_n C 0 rfl dX4_rewind_0 ?_
  refine xr_iconst C 1 0 (by decide +kernel) dX4_rewind_1 ?_
  refine xr_putI C 2 dX4_rewind_2 fp_X4_23 rfl rfl ?_
  refine xr_aload_n C 5 rfl dX4_rewind_5 ?_
  obtain ⟨z1, q2, h⟩ := g_bind h
  refine xr_callV C 6 (mX4_step q2) v_X4_step ml_X4_26 (Nat.le_of_ble_eq_true rfl) (Nat.le_of_ble_eq_true rfl) (xrecv C rfl rfl) rfl rfl (Nat.le_of_ble_eq_true rfl) rfl dX4_rewind_6 ?_
  cases h
  exact xr_vret C 9 E dX4_rewind_9
set_option maxRecDepth 100000 in
set_option maxHeartbeats 4000000 in
theorem mX4_rewind {l : Launch} {ad : Nat → Nat} {G : gEnv} {N : Nat} {w : xW} {r : xW} (h : fX4_rewind N w = some r) : xCt l ad G 3 yX4_rewind cX4_rewind 1 none [.ref (ad 42)] w r none := xCt.of RX4 rfl (by decide +kernel) (Nat.le_of_ble_eq_true rfl) (fun Γ el ea eG eL C E => by
    subst el
    subst ea
    subst eG
    unfold fX4_rewind at h
    exact xG.sub (bX4_rewind_0 C eL  E h) ⟨rfl, trivial⟩)
def fX5_nameOf_0 (x0 : Int32) : Nat :=
  if x0 = 0 then
    0
  else
  if x0 = 1 then
    1
  else
  if x0 = 2 then
    2
  else
  if x0 = 3 then
    3
  else
  if x0 = 4 then
    4
  else
  5
def fX5_nameOf (x0 : Int32) : Nat := fX5_nameOf_0 x0
set_option maxRecDepth 100000 in
set_option maxHeartbeats 4000000 in
theorem bX5_nameOf_0 {Γ : xΓ} (C : xOK Γ cX5_nameOf RX5 1) (hL : xn Γ = 1) {w : xW} {x0 : Int32} {r : Nat} (E : xEnd Γ (some (.object "java/lang/String")) w (some (.ref (adK (xE Γ) r)))) (h : fX5_nameOf_0  x0 = r) : xG Γ w 0 [(0, .int x0)] [] := by
  unfold fX5_nameOf_0 at h
  refine xr_iload_n C 0 rfl dX5_nameOf_0 ?_
  by_cases q1 : x0 = 0
  · have h := g_it h q1
    refine xr_tabIn (off := 35) C 1 36 0 q1 dX5_nameOf_1 (by decide +kernel) (by decide +kernel) (by decide +kernel) rfl ?_
    refine xr_ldcS C 36 dX5_nameOf_36 s_X5_91 ?_
    cases h
    exact xr_aret C 38 E dX5_nameOf_38
  have h := g_if h q1
  by_cases q2 : x0 = 1
  · have h := g_it h q2
    refine xr_tabIn (off := 38) C 1 39 1 q2 dX5_nameOf_1 (by decide +kernel) (by decide +kernel) (by decide +kernel) rfl ?_
    refine xr_ldcS C 39 dX5_nameOf_39 s_X5_93 ?_
    cases h
    exact xr_aret C 41 E dX5_nameOf_41
  have h := g_if h q2
  by_cases q3 : x0 = 2
  · have h := g_it h q3
    refine xr_tabIn (off := 41) C 1 42 2 q3 dX5_nameOf_1 (by decide +kernel) (by decide +kernel) (by decide +kernel) rfl ?_
    refine xr_ldcS C 42 dX5_nameOf_42 s_X5_95 ?_
    cases h
    exact xr_aret C 44 E dX5_nameOf_44
  have h := g_if h q3
  by_cases q4 : x0 = 3
  · have h := g_it h q4
    refine xr_tabIn (off := 44) C 1 45 3 q4 dX5_nameOf_1 (by decide +kernel) (by decide +kernel) (by decide +kernel) rfl ?_
    refine xr_ldcS C 45 dX5_nameOf_45 s_X5_97 ?_
    cases h
    exact xr_aret C 47 E dX5_nameOf_47
  have h := g_if h q4
  by_cases q5 : x0 = 4
  · have h := g_it h q5
    refine xr_tabIn (off := 47) C 1 48 4 q5 dX5_nameOf_1 (by decide +kernel) (by decide +kernel) (by decide +kernel) rfl ?_
    refine xr_ldcS C 48 dX5_nameOf_48 s_X5_99 ?_
    cases h
    exact xr_aret C 50 E dX5_nameOf_50
  have h := g_if h q5
  have eq1 := xneI (z := 0) q1 (by decide +kernel)
  have eq2 := xneI (z := 1) q2 (by decide +kernel)
  have eq3 := xneI (z := 2) q3 (by decide +kernel)
  have eq4 := xneI (z := 3) q4 (by decide +kernel)
  have eq5 := xneI (z := 4) q5 (by decide +kernel)
  refine xr_tabOut C 1 51 dX5_nameOf_1 (by omega) rfl ?_
  refine xr_ldcS C 51 dX5_nameOf_51 s_X5_101 ?_
  cases h
  exact xr_aret C 53 E dX5_nameOf_53
set_option maxRecDepth 100000 in
set_option maxHeartbeats 4000000 in
theorem mX5_nameOf {l : Launch} {ad : Nat → Nat} {G : gEnv} {w : xW} {x0 : Int32} {r : Nat} (h : fX5_nameOf x0 = r) : xCt l ad G 1 yX5_nameOf cX5_nameOf 1 (some (.object "java/lang/String")) [.int x0] w w (some (.ref (adK G r))) := xCt.of RX5 rfl (by decide +kernel) (Nat.le_of_ble_eq_true rfl) (fun Γ el ea eG eL C E => by
    subst el
    subst ea
    subst eG
    unfold fX5_nameOf at h
    exact xG.sub (bX5_nameOf_0 C eL  E h) ⟨rfl, trivial⟩)
def fX4_isWord_28b (N : Nat) (w : xW) (j1 : Nat) (K28 : Int32 → Option Int32) (x2 : Int32) : Option Int32 :=
  if (xlen j1) ≤ x2 then
    some 1
  else
  if ibd ((w.1 42 3) + x2) 120 = true then
  (xchar j1 x2).bind fun z2 =>
  if (w.1 43 (((w.1 42 3) + x2).toNatClampNeg)) = z2 then
    K28 (x2 + 1)
  else
  some 0
  else none
def fX4_isWord_28 (N : Nat) (w : xW) (j1 : Nat) : Nat → Int32 → Option Int32
  | 0, _ => none
  | n + 1, x2 => fX4_isWord_28b N w j1 (fX4_isWord_28 N w j1 n) x2
def fX4_isWord_0 (N : Nat) (w : xW) (j1 : Nat) : Option Int32 :=
  if (w.1 42 2) = 1 then
    if ((w.1 42 4) - (w.1 42 3)) = (xlen j1) then
      fX4_isWord_28 N w j1 N 0
    else
    some 0
  else
  some 0
def fX4_isWord (N : Nat) (w : xW) (j1 : Nat) : Option Int32 := if j1 < 17 then fX4_isWord_0 N w j1 else none
set_option maxRecDepth 100000 in
set_option maxHeartbeats 4000000 in
theorem bX4_isWord_28b {Γ : xΓ} (C : xOK Γ cX4_isWord RX4 7) (hL : xn Γ = 3) {N : Nat} {j1 : Nat} {K28 : Int32 → Option Int32} {w : xW} {x2 : Int32} {r : Int32} (hj1 : j1 < 17) (E : xEnd Γ (some .boolean) w (some (.int r))) (hK28 : ∀ (x2 : Int32), K28 x2 = some r → xG Γ w 28 [(0, .ref (xad Γ 42)), (1, .ref (adK (xE Γ) j1)), (2, .int x2)] []) (h : fX4_isWord_28b N w j1 K28 x2 = some r) : xG Γ w 28 [(0, .ref (xad Γ 42)), (1, .ref (adK (xE Γ) j1)), (2, .int x2)] [] := by
  unfold fX4_isWord_28b at h
  refine xr_iload_n C 28 rfl dX4_isWord_28 ?_
  refine xr_aload_n C 29 rfl dX4_isWord_29 ?_
  refine xr_callV C 30 (c_strlen hj1) v_J0_length_8abf5 ml_X4_39 (Nat.le_of_ble_eq_true rfl) (Nat.le_of_ble_eq_true rfl) (xrecvS C hj1) rfl rfl (Nat.le_of_ble_eq_true rfl) rfl dX4_isWord_30 ?_
  refine xr_icmp_ge C 33 63 dX4_isWord_33 rfl (fun q => ?_) (fun q => ?_)
  · have h := g_it h q
    refine xr_iconst C 63 1 (by decide +kernel) dX4_isWord_63 ?_
    cases h
    exact xr_zret C 64 E dX4_isWord_64 (by decide +kernel)
  · have h := g_if h q
    refine xr_aload_n C 36 rfl dX4_isWord_36 ?_
    refine xr_getR C 37 dX4_isWord_37 fl_X4_9 rfl rfl ?_
    refine xr_aload_n C 40 rfl dX4_isWord_40 ?_
    refine xr_getI C 41 dX4_isWord_41 fl_X4_20 rfl rfl ?_
    refine xr_iload_n C 44 rfl dX4_isWord_44 ?_
    refine xr_iadd C 45 dX4_isWord_45 ?_
    obtain ⟨q1, h⟩ := g_ib h
    refine xr_bald C 46 (((w.1 42 3) + x2).toNatClampNeg) rfl dX4_isWord_46 rfl (ibd_in q1) ?_
    refine xr_aload_n C 47 rfl dX4_isWord_47 ?_
    refine xr_iload_n C 48 rfl dX4_isWord_48 ?_
    obtain ⟨z2, q3, h⟩ := g_bind h
    refine xr_callV C 49 (c_strchar hj1 q3) v_J0_charAt_5068e ml_X4_45 (Nat.le_of_ble_eq_true rfl) (Nat.le_of_ble_eq_true rfl) (xrecvS C hj1) rfl rfl (Nat.le_of_ble_eq_true rfl) rfl dX4_isWord_49 ?_
    refine xr_icmp_eq C 52 57 dX4_isWord_52 rfl (fun q => ?_) (fun q => ?_)
    · have h := g_it h q
      refine xr_iinc C 57 1 (by decide +kernel) rfl dX4_isWord_57 (xnb hL rfl) ?_
      refine xr_goto C 60 28 dX4_isWord_60 rfl ?_
      exact xG.sub (hK28 _ h) ⟨rfl, rfl, rfl, trivial⟩
    · have h := g_if h q
      refine xr_iconst C 55 0 (by decide +kernel) dX4_isWord_55 ?_
      cases h
      exact xr_zret C 56 E dX4_isWord_56 (by decide +kernel)
set_option maxRecDepth 100000 in
set_option maxHeartbeats 4000000 in
theorem bX4_isWord_28 {Γ : xΓ} (C : xOK Γ cX4_isWord RX4 7) (hL : xn Γ = 3) {N : Nat} {j1 : Nat} {w : xW} {r : Int32} (hj1 : j1 < 17) (E : xEnd Γ (some .boolean) w (some (.int r))) : ∀ (n : Nat) (x2 : Int32), fX4_isWord_28 N w j1 n x2 = some r → xG Γ w 28 [(0, .ref (xad Γ 42)), (1, .ref (adK (xE Γ) j1)), (2, .int x2)] []
  | 0, _, h => by cases h
  | n + 1, x2, h => bX4_isWord_28b C hL hj1 E (bX4_isWord_28 C hL hj1 E n) h
set_option maxRecDepth 100000 in
set_option maxHeartbeats 4000000 in
theorem bX4_isWord_0 {Γ : xΓ} (C : xOK Γ cX4_isWord RX4 7) (hL : xn Γ = 3) {N : Nat} {j1 : Nat} {w : xW} {r : Int32} (hj1 : j1 < 17) (E : xEnd Γ (some .boolean) w (some (.int r))) (h : fX4_isWord_0 N w j1  = some r) : xG Γ w 0 [(0, .ref (xad Γ 42)), (1, .ref (adK (xE Γ) j1))] [] := by
  unfold fX4_isWord_0 at h
  refine xr_aload_n C 0 rfl dX4_isWord_0 ?_
  refine xr_getI C 1 dX4_isWord_1 fl_X4_17 rfl rfl ?_
  refine xr_iconst C 4 1 (by decide +kernel) dX4_isWord_4 ?_
  refine xr_icmp_ne C 5 24 dX4_isWord_5 rfl (fun q => ?_) (fun q => ?_)
  · have h := g_if h q
    refine xr_iconst C 24 0 (by decide +kernel) dX4_isWord_24 ?_
    cases h
    exact xr_zret C 25 E dX4_isWord_25 (by decide +kernel)
  · have h := g_it h q
    refine xr_aload_n C 8 rfl dX4_isWord_8 ?_
    refine xr_getI C 9 dX4_isWord_9 fl_X4_23 rfl rfl ?_
    refine xr_aload_n C 12 rfl dX4_isWord_12 ?_
    refine xr_getI C 13 dX4_isWord_13 fl_X4_20 rfl rfl ?_
    refine xr_isub C 16 dX4_isWord_16 ?_
    refine xr_aload_n C 17 rfl dX4_isWord_17 ?_
    refine xr_callV C 18 (c_strlen hj1) v_J0_length_8abf5 ml_X4_39 (Nat.le_of_ble_eq_true rfl) (Nat.le_of_ble_eq_true rfl) (xrecvS C hj1) rfl rfl (Nat.le_of_ble_eq_true rfl) rfl dX4_isWord_18 ?_
    refine xr_icmp_eq C 21 26 dX4_isWord_21 rfl (fun q => ?_) (fun q => ?_)
    · have h := g_it h q
      refine xr_iconst C 26 0 (by decide +kernel) dX4_isWord_26 ?_
      refine xr_istore_n C 27 dX4_isWord_27 (xnb hL rfl) ?_
      exact xG.sub (bX4_isWord_28 C hL hj1 E N _ h) ⟨rfl, rfl, rfl, trivial⟩
    · have h := g_if h q
      refine xr_iconst C 24 0 (by decide +kernel) dX4_isWord_24 ?_
      cases h
      exact xr_zret C 25 E dX4_isWord_25 (by decide +kernel)
set_option maxRecDepth 100000 in
set_option maxHeartbeats 4000000 in
theorem mX4_isWord {l : Launch} {ad : Nat → Nat} {G : gEnv} {N : Nat} {w : xW} {j1 : Nat} {r : Int32} (h : fX4_isWord N w j1 = some r) : xCt l ad G 7 yX4_isWord cX4_isWord 3 (some .boolean) [.ref (ad 42), .ref (adK G j1)] w w (some (.int r)) := xCt.of RX4 rfl (by decide +kernel) (Nat.le_of_ble_eq_true rfl) (fun Γ el ea eG eL C E => by
    subst el
    subst ea
    subst eG
    unfold fX4_isWord at h
    obtain ⟨hj1, h⟩ := g_lt h
    exact xG.sub (bX4_isWord_0 C eL hj1 E h) ⟨rfl, rfl, trivial⟩)
def fX5_namedKind_2b (N : Nat) (w : xW) (K2 : Int32 → Option Int32) (x1 : Int32) : Option Int32 :=
  if 6 ≤ x1 then
    some (-1)
  else
  (fX4_isWord N w (fX5_nameOf x1)).bind fun z1 =>
  if z1 = 0 then
    K2 (x1 + 1)
  else
  some x1
def fX5_namedKind_2 (N : Nat) (w : xW) : Nat → Int32 → Option Int32
  | 0, _ => none
  | n + 1, x1 => fX5_namedKind_2b N w (fX5_namedKind_2 N w n) x1
def fX5_namedKind_0 (N : Nat) (w : xW) : Option Int32 :=
  fX5_namedKind_2 N w N 0
def fX5_namedKind (N : Nat) (w : xW) : Option Int32 := fX5_namedKind_0 N w
set_option maxRecDepth 100000 in
set_option maxHeartbeats 4000000 in
theorem bX5_namedKind_2b {Γ : xΓ} (C : xOK Γ cX5_namedKind RX5 8) (hL : xn Γ = 2) {N : Nat} {K2 : Int32 → Option Int32} {w : xW} {x1 : Int32} {r : Int32} (E : xEnd Γ (some .int) w (some (.int r))) (hK2 : ∀ (x1 : Int32), K2 x1 = some r → xG Γ w 2 [(0, .ref (xad Γ 44)), (1, .int x1)] []) (h : fX5_namedKind_2b N w K2 x1 = some r) : xG Γ w 2 [(0, .ref (xad Γ 44)), (1, .int x1)] [] := by
  unfold fX5_namedKind_2b at h
  refine xr_iload_n C 2 rfl dX5_namedKind_2 ?_
  refine xr_bipush C 3 6 (by decide +kernel) dX5_namedKind_3 ?_
  refine xr_icmp_ge C 5 30 dX5_namedKind_5 rfl (fun q => ?_) (fun q => ?_)
  · have h := g_it h q
    refine xr_iconst C 30 (-1) (by decide +kernel) dX5_namedKind_30 ?_
    cases h
    exact xr_iret C 31 E dX5_namedKind_31
  · have h := g_if h q
    refine xr_aload_n C 8 rfl dX5_namedKind_8 ?_
    refine xr_getR C 9 dX5_namedKind_9 fl_X5_12 rfl rfl ?_
    refine xr_iload_n C 12 rfl dX5_namedKind_12 ?_
    refine xr_callS C 13 (mX5_nameOf rfl) v_X5_nameOf ml_X5_87 (Nat.le_of_ble_eq_true rfl) (Nat.le_of_ble_eq_true rfl) rfl rfl (Nat.le_of_ble_eq_true rfl) rfl dX5_namedKind_13 ?_
    obtain ⟨z1, q2, h⟩ := g_bind h
    refine xr_callV C 16 (mX4_isWord q2) v_X4_isWord ml_X5_48 (Nat.le_of_ble_eq_true rfl) (Nat.le_of_ble_eq_true rfl) (xrecv C rfl rfl) rfl rfl (Nat.le_of_ble_eq_true rfl) rfl dX5_namedKind_16 ?_
    refine xr_if_eq C 19 24 dX5_namedKind_19 rfl (fun q => ?_) (fun q => ?_)
    · have h := g_it h q
      refine xr_iinc C 24 1 (by decide +kernel) rfl dX5_namedKind_24 (xnb hL rfl) ?_
      refine xr_goto C 27 2 dX5_namedKind_27 rfl ?_
      exact xG.sub (hK2 _ h) ⟨rfl, rfl, trivial⟩
    · have h := g_if h q
      refine xr_iload_n C 22 rfl dX5_namedKind_22 ?_
      cases h
      exact xr_iret C 23 E dX5_namedKind_23
set_option maxRecDepth 100000 in
set_option maxHeartbeats 4000000 in
theorem bX5_namedKind_2 {Γ : xΓ} (C : xOK Γ cX5_namedKind RX5 8) (hL : xn Γ = 2) {N : Nat} {w : xW} {r : Int32} (E : xEnd Γ (some .int) w (some (.int r))) : ∀ (n : Nat) (x1 : Int32), fX5_namedKind_2 N w n x1 = some r → xG Γ w 2 [(0, .ref (xad Γ 44)), (1, .int x1)] []
  | 0, _, h => by cases h
  | n + 1, x1, h => bX5_namedKind_2b C hL E (bX5_namedKind_2 C hL E n) h
set_option maxRecDepth 100000 in
set_option maxHeartbeats 4000000 in
theorem bX5_namedKind_0 {Γ : xΓ} (C : xOK Γ cX5_namedKind RX5 8) (hL : xn Γ = 2) {N : Nat} {w : xW} {r : Int32} (E : xEnd Γ (some .int) w (some (.int r))) (h : fX5_namedKind_0 N w  = some r) : xG Γ w 0 [(0, .ref (xad Γ 44))] [] := by
  unfold fX5_namedKind_0 at h
  refine xr_iconst C 0 0 (by decide +kernel) dX5_namedKind_0 ?_
  refine xr_istore_n C 1 dX5_namedKind_1 (xnb hL rfl) ?_
  exact xG.sub (bX5_namedKind_2 C hL E N _ h) ⟨rfl, rfl, trivial⟩
set_option maxRecDepth 100000 in
set_option maxHeartbeats 4000000 in
theorem mX5_namedKind {l : Launch} {ad : Nat → Nat} {G : gEnv} {N : Nat} {w : xW} {r : Int32} (h : fX5_namedKind N w = some r) : xCt l ad G 8 yX5_namedKind cX5_namedKind 2 (some .int) [.ref (ad 44)] w w (some (.int r)) := xCt.of RX5 rfl (by decide +kernel) (Nat.le_of_ble_eq_true rfl) (fun Γ el ea eG eL C E => by
    subst el
    subst ea
    subst eG
    unfold fX5_namedKind at h
    exact xG.sub (bX5_namedKind_0 C eL  E h) ⟨rfl, trivial⟩)
def fX5_word_0 (N : Nat) (j1 : Nat) (w : xW) : Option (xW × Int32) :=
  (fX4_isWord N w j1).bind fun z1 =>
  if z1 = 0 then
    some (w, 0)
  else
  (fX4_step N w).bind fun z3 =>
  some (z3, 1)
def fX5_word (N : Nat) (w : xW) (j1 : Nat) : Option (xW × Int32) := if j1 < 17 then fX5_word_0 N j1 w else none
set_option maxRecDepth 100000 in
set_option maxHeartbeats 4000000 in
theorem bX5_word_0 {Γ : xΓ} (C : xOK Γ cX5_word RX5 8) (hL : xn Γ = 2) {N : Nat} {j1 : Nat} {w : xW} {r : xW × Int32} (hj1 : j1 < 17) (E : xEnd Γ (some .boolean) r.1 (some (.int r.2))) (h : fX5_word_0 N j1 w = some r) : xG Γ w 0 [(0, .ref (xad Γ 44)), (1, .ref (adK (xE Γ) j1))] [] := by
  unfold fX5_word_0 at h
  refine xr_aload_n C 0 rfl dX5_word_0 ?_
  refine xr_getR C 1 dX5_word_1 fl_X5_12 rfl rfl ?_
  refine xr_aload_n C 4 rfl dX5_word_4 ?_
  obtain ⟨z1, q2, h⟩ := g_bind h
  refine xr_callV C 5 (mX4_isWord q2) v_X4_isWord ml_X5_48 (Nat.le_of_ble_eq_true rfl) (Nat.le_of_ble_eq_true rfl) (xrecv C rfl rfl) rfl rfl (Nat.le_of_ble_eq_true rfl) rfl dX5_word_5 ?_
  refine xr_if_ne C 8 13 dX5_word_8 rfl (fun q => ?_) (fun q => ?_)
  · have h := g_if h q
    refine xr_aload_n C 13 rfl dX5_word_13 ?_
    refine xr_getR C 14 dX5_word_14 fl_X5_12 rfl rfl ?_
    obtain ⟨z3, q4, h⟩ := g_bind h
    refine xr_callV C 17 (mX4_step q4) v_X4_step ml_X5_32 (Nat.le_of_ble_eq_true rfl) (Nat.le_of_ble_eq_true rfl) (xrecv C rfl rfl) rfl rfl (Nat.le_of_ble_eq_true rfl) rfl dX5_word_17 ?_
    refine xr_iconst C 20 1 (by decide +kernel) dX5_word_20 ?_
    cases h
    exact xr_zret C 21 E dX5_word_21 (by decide +kernel)
  · have h := g_it h q
    refine xr_iconst C 11 0 (by decide +kernel) dX5_word_11 ?_
    cases h
    exact xr_zret C 12 E dX5_word_12 (by decide +kernel)
set_option maxRecDepth 100000 in
set_option maxHeartbeats 4000000 in
theorem mX5_word {l : Launch} {ad : Nat → Nat} {G : gEnv} {N : Nat} {w : xW} {j1 : Nat} {r : xW × Int32} (h : fX5_word N w j1 = some r) : xCt l ad G 8 yX5_word cX5_word 2 (some .boolean) [.ref (ad 44), .ref (adK G j1)] w r.1 (some (.int r.2)) := xCt.of RX5 rfl (by decide +kernel) (Nat.le_of_ble_eq_true rfl) (fun Γ el ea eG eL C E => by
    subst el
    subst ea
    subst eG
    unfold fX5_word at h
    obtain ⟨hj1, h⟩ := g_lt h
    exact xG.sub (bX5_word_0 C eL hj1 E h) ⟨rfl, rfl, trivial⟩)
def fX4_value_7b (N : Nat) (w : xW) (K7 : Int32 → Int32 → Option Int32) (x1 : Int32) (x2 : Int32) : Option Int32 :=
  if (w.1 42 4) ≤ x2 then
    some x1
  else
  if ibd x2 120 = true then
  K7 (if ((x1 * 10) + (w.1 43 x2.toNatClampNeg)) - 48 < 10000 then ((x1 * 10) + (w.1 43 x2.toNatClampNeg)) - 48 else 10000) (x2 + 1)
  else none
def fX4_value_7 (N : Nat) (w : xW) : Nat → Int32 → Int32 → Option Int32
  | 0, _, _ => none
  | n + 1, x1, x2 => fX4_value_7b N w (fX4_value_7 N w n) x1 x2
def fX4_value_0 (N : Nat) (w : xW) : Option Int32 :=
  fX4_value_7 N w N 0 (w.1 42 3)
def fX4_value (N : Nat) (w : xW) : Option Int32 := fX4_value_0 N w
set_option maxRecDepth 100000 in
set_option maxHeartbeats 4000000 in
theorem bX4_value_7b {Γ : xΓ} (C : xOK Γ cX4_value RX4 2) (hL : xn Γ = 3) {N : Nat} {K7 : Int32 → Int32 → Option Int32} {w : xW} {x1 : Int32} {x2 : Int32} {r : Int32} (E : xEnd Γ (some .int) w (some (.int r))) (hK7 : ∀ (x1 : Int32) (x2 : Int32), K7 x1 x2 = some r → xG Γ w 7 [(0, .ref (xad Γ 42)), (1, .int x1), (2, .int x2)] []) (h : fX4_value_7b N w K7 x1 x2 = some r) : xG Γ w 7 [(0, .ref (xad Γ 42)), (1, .int x1), (2, .int x2)] [] := by
  unfold fX4_value_7b at h
  refine xr_iload_n C 7 rfl dX4_value_7 ?_
  refine xr_aload_n C 8 rfl dX4_value_8 ?_
  refine xr_getI C 9 dX4_value_9 fl_X4_23 rfl rfl ?_
  refine xr_icmp_ge C 12 42 dX4_value_12 rfl (fun q => ?_) (fun q => ?_)
  · have h := g_it h q
    refine xr_iload_n C 42 rfl dX4_value_42 ?_
    cases h
    exact xr_iret C 43 E dX4_value_43
  · have h := g_if h q
    refine xr_sipush C 15 10000 (by decide +kernel) dX4_value_15 ?_
    refine xr_iload_n C 18 rfl dX4_value_18 ?_
    refine xr_bipush C 19 10 (by decide +kernel) dX4_value_19 ?_
    refine xr_imul C 21 dX4_value_21 ?_
    refine xr_aload_n C 22 rfl dX4_value_22 ?_
    refine xr_getR C 23 dX4_value_23 fl_X4_9 rfl rfl ?_
    refine xr_iload_n C 26 rfl dX4_value_26 ?_
    obtain ⟨q1, h⟩ := g_ib h
    refine xr_bald C 27 x2.toNatClampNeg rfl dX4_value_27 rfl (ibd_in q1) ?_
    refine xr_iadd C 28 dX4_value_28 ?_
    refine xr_bipush C 29 48 (by decide +kernel) dX4_value_29 ?_
    refine xr_isub C 31 dX4_value_31 ?_
    refine xr_mmin C 32 dX4_value_32 mm_X4_33 (Nat.le_of_ble_eq_true rfl) (Nat.le_of_ble_eq_true rfl) ?_
    refine xr_istore_n C 35 dX4_value_35 (xnb hL rfl) ?_
    refine xr_iinc C 36 1 (by decide +kernel) rfl dX4_value_36 (xnb hL rfl) ?_
    refine xr_goto C 39 7 dX4_value_39 rfl ?_
    exact xG.sub (hK7 _ _ h) ⟨rfl, rfl, rfl, trivial⟩
set_option maxRecDepth 100000 in
set_option maxHeartbeats 4000000 in
theorem bX4_value_7 {Γ : xΓ} (C : xOK Γ cX4_value RX4 2) (hL : xn Γ = 3) {N : Nat} {w : xW} {r : Int32} (E : xEnd Γ (some .int) w (some (.int r))) : ∀ (n : Nat) (x1 : Int32) (x2 : Int32), fX4_value_7 N w n x1 x2 = some r → xG Γ w 7 [(0, .ref (xad Γ 42)), (1, .int x1), (2, .int x2)] []
  | 0, _, _, h => by cases h
  | n + 1, x1, x2, h => bX4_value_7b C hL E (bX4_value_7 C hL E n) h
set_option maxRecDepth 100000 in
set_option maxHeartbeats 4000000 in
theorem bX4_value_0 {Γ : xΓ} (C : xOK Γ cX4_value RX4 2) (hL : xn Γ = 3) {N : Nat} {w : xW} {r : Int32} (E : xEnd Γ (some .int) w (some (.int r))) (h : fX4_value_0 N w  = some r) : xG Γ w 0 [(0, .ref (xad Γ 42))] [] := by
  unfold fX4_value_0 at h
  refine xr_iconst C 0 0 (by decide +kernel) dX4_value_0 ?_
  refine xr_istore_n C 1 dX4_value_1 (xnb hL rfl) ?_
  refine xr_aload_n C 2 rfl dX4_value_2 ?_
  refine xr_getI C 3 dX4_value_3 fl_X4_20 rfl rfl ?_
  refine xr_istore_n C 6 dX4_value_6 (xnb hL rfl) ?_
  exact xG.sub (bX4_value_7 C hL E N _ _ h) ⟨rfl, rfl, rfl, trivial⟩
set_option maxRecDepth 100000 in
set_option maxHeartbeats 4000000 in
theorem mX4_value {l : Launch} {ad : Nat → Nat} {G : gEnv} {N : Nat} {w : xW} {r : Int32} (h : fX4_value N w = some r) : xCt l ad G 2 yX4_value cX4_value 3 (some .int) [.ref (ad 42)] w w (some (.int r)) := xCt.of RX4 rfl (by decide +kernel) (Nat.le_of_ble_eq_true rfl) (fun Γ el ea eG eL C E => by
    subst el
    subst ea
    subst eG
    unfold fX4_value at h
    exact xG.sub (bX4_value_0 C eL  E h) ⟨rfl, trivial⟩)
def fX5_number_0 (N : Nat) (w : xW) (x1 : Int32) (x2 : Int32) : Option (xW × Int32) :=
  if (w.1 42 2) = 2 then
    (fX4_value N w).bind fun z1 =>
    if ((sI w 44 1 z1).1 44 1) < x1 then
      some (sI w 44 1 z1, 0)
    else
    if ((sI w 44 1 z1).1 44 1) ≤ x2 then
      (fX4_step N (sI w 44 1 z1)).bind fun z3 =>
      some (z3, 1)
    else
    some (sI w 44 1 z1, 0)
  else
  some (w, 0)
def fX5_number (N : Nat) (w : xW) (x1 : Int32) (x2 : Int32) : Option (xW × Int32) := fX5_number_0 N w x1 x2
set_option maxRecDepth 100000 in
set_option maxHeartbeats 4000000 in
theorem bX5_number_0 {Γ : xΓ} (C : xOK Γ cX5_number RX5 3) (hL : xn Γ = 3) {N : Nat} {w : xW} {x1 : Int32} {x2 : Int32} {r : xW × Int32} (E : xEnd Γ (some .boolean) r.1 (some (.int r.2))) (h : fX5_number_0 N w x1 x2 = some r) : xG Γ w 0 [(0, .ref (xad Γ 44)), (1, .int x1), (2, .int x2)] [] := by
  unfold fX5_number_0 at h
  refine xr_aload_n C 0 rfl dX5_number_0 ?_
  refine xr_getR C 1 dX5_number_1 fl_X5_12 rfl rfl ?_
  refine xr_getI C 4 dX5_number_4 fl_X5_29 rfl rfl ?_
  refine xr_iconst C 7 2 (by decide +kernel) dX5_number_7 ?_
  refine xr_icmp_eq C 8 13 dX5_number_8 rfl (fun q => ?_) (fun q => ?_)
  · have h := g_it h q
    refine xr_aload_n C 13 rfl dX5_number_13 ?_
    refine xr_aload_n C 14 rfl dX5_number_14 ?_
    refine xr_getR C 15 dX5_number_15 fl_X5_12 rfl rfl ?_
    obtain ⟨z1, q2, h⟩ := g_bind h
    refine xr_callV C 18 (mX4_value q2) v_X4_value ml_X5_103 (Nat.le_of_ble_eq_true rfl) (Nat.le_of_ble_eq_true rfl) (xrecv C rfl rfl) rfl rfl (Nat.le_of_ble_eq_true rfl) rfl dX5_number_18 ?_
    refine xr_putI C 21 dX5_number_21 fp_X5_18 rfl rfl ?_
    refine xr_aload_n C 24 rfl dX5_number_24 ?_
    refine xr_getI C 25 dX5_number_25 fl_X5_18 rfl rfl ?_
    refine xr_iload_n C 28 rfl dX5_number_28 ?_
    refine xr_icmp_lt C 29 40 dX5_number_29 rfl (fun q => ?_) (fun q => ?_)
    · have h := g_it h q
      refine xr_iconst C 40 0 (by decide +kernel) dX5_number_40 ?_
      cases h
      exact xr_zret C 41 E dX5_number_41 (by decide +kernel)
    · have h := g_if h q
      refine xr_aload_n C 32 rfl dX5_number_32 ?_
      refine xr_getI C 33 dX5_number_33 fl_X5_18 rfl rfl ?_
      refine xr_iload_n C 36 rfl dX5_number_36 ?_
      refine xr_icmp_le C 37 42 dX5_number_37 rfl (fun q => ?_) (fun q => ?_)
      · have h := g_it h q
        refine xr_aload_n C 42 rfl dX5_number_42 ?_
        refine xr_getR C 43 dX5_number_43 fl_X5_12 rfl rfl ?_
        obtain ⟨z3, q4, h⟩ := g_bind h
        refine xr_callV C 46 (mX4_step q4) v_X4_step ml_X5_32 (Nat.le_of_ble_eq_true rfl) (Nat.le_of_ble_eq_true rfl) (xrecv C rfl rfl) rfl rfl (Nat.le_of_ble_eq_true rfl) rfl dX5_number_46 ?_
        refine xr_iconst C 49 1 (by decide +kernel) dX5_number_49 ?_
        cases h
        exact xr_zret C 50 E dX5_number_50 (by decide +kernel)
      · have h := g_if h q
        refine xr_iconst C 40 0 (by decide +kernel) dX5_number_40 ?_
        cases h
        exact xr_zret C 41 E dX5_number_41 (by decide +kernel)
  · have h := g_if h q
    refine xr_iconst C 11 0 (by decide +kernel) dX5_number_11 ?_
    cases h
    exact xr_zret C 12 E dX5_number_12 (by decide +kernel)
set_option maxRecDepth 100000 in
set_option maxHeartbeats 4000000 in
theorem mX5_number {l : Launch} {ad : Nat → Nat} {G : gEnv} {N : Nat} {w : xW} {x1 : Int32} {x2 : Int32} {r : xW × Int32} (h : fX5_number N w x1 x2 = some r) : xCt l ad G 3 yX5_number cX5_number 3 (some .boolean) [.ref (ad 44), .int x1, .int x2] w r.1 (some (.int r.2)) := xCt.of RX5 rfl (by decide +kernel) (Nat.le_of_ble_eq_true rfl) (fun Γ el ea eG eL C E => by
    subst el
    subst ea
    subst eG
    unfold fX5_number at h
    exact xG.sub (bX5_number_0 C eL  E h) ⟨rfl, rfl, rfl, trivial⟩)
def fX5_windItem_0 (N : Nat) (w : xW) : Option (xW × Int32) :=
  (fX5_number N w 0 3).bind fun z1 =>
  if z1.2 = 0 then
    some (z1.1, 0)
  else
  (fX5_number N (sI z1.1 11 1 (z1.1.1 44 1)) 0 9).bind fun z3 =>
  if z3.2 = 0 then
    some (z3.1, 0)
  else
  some (sI z3.1 11 2 (z3.1.1 44 1), 1)
def fX5_windItem (N : Nat) (w : xW) : Option (xW × Int32) := fX5_windItem_0 N w
set_option maxRecDepth 100000 in
set_option maxHeartbeats 4000000 in
theorem bX5_windItem_0 {Γ : xΓ} (C : xOK Γ cX5_windItem RX5 4) (hL : xn Γ = 2) {N : Nat} {w : xW} {r : xW × Int32} (E : xEnd Γ (some .boolean) r.1 (some (.int r.2))) (h : fX5_windItem_0 N w = some r) : xG Γ w 0 [(0, .ref (xad Γ 44)), (1, .ref (xad Γ 11))] [] := by
  unfold fX5_windItem_0 at h
  refine xr_aload_n C 0 rfl dX5_windItem_0 ?_
  refine xr_iconst C 1 0 (by decide +kernel) dX5_windItem_1 ?_
  refine xr_iconst C 2 3 (by decide +kernel) dX5_windItem_2 ?_
  obtain ⟨z1, q2, h⟩ := g_bind h
  refine xr_callV C 3 (mX5_number q2) v_X5_number ml_X5_113 (Nat.le_of_ble_eq_true rfl) (Nat.le_of_ble_eq_true rfl) (xrecv C rfl rfl) rfl rfl (Nat.le_of_ble_eq_true rfl) rfl dX5_windItem_3 ?_
  refine xr_if_ne C 6 11 dX5_windItem_6 rfl (fun q => ?_) (fun q => ?_)
  · have h := g_if h q
    refine xr_aload_n C 11 rfl dX5_windItem_11 ?_
    refine xr_aload_n C 12 rfl dX5_windItem_12 ?_
    refine xr_getI C 13 dX5_windItem_13 fl_X5_18 rfl rfl ?_
    refine xr_putI C 16 dX5_windItem_16 fp_X5_147 rfl rfl ?_
    refine xr_aload_n C 19 rfl dX5_windItem_19 ?_
    refine xr_iconst C 20 0 (by decide +kernel) dX5_windItem_20 ?_
    refine xr_bipush C 21 9 (by decide +kernel) dX5_windItem_21 ?_
    obtain ⟨z3, q4, h⟩ := g_bind h
    refine xr_callV C 23 (mX5_number q4) v_X5_number ml_X5_113 (Nat.le_of_ble_eq_true rfl) (Nat.le_of_ble_eq_true rfl) (xrecv C rfl rfl) rfl rfl (Nat.le_of_ble_eq_true rfl) rfl dX5_windItem_23 ?_
    refine xr_if_ne C 26 31 dX5_windItem_26 rfl (fun q => ?_) (fun q => ?_)
    · have h := g_if h q
      refine xr_aload_n C 31 rfl dX5_windItem_31 ?_
      refine xr_aload_n C 32 rfl dX5_windItem_32 ?_
      refine xr_getI C 33 dX5_windItem_33 fl_X5_18 rfl rfl ?_
      refine xr_putI C 36 dX5_windItem_36 fp_X5_150 rfl rfl ?_
      refine xr_iconst C 39 1 (by decide +kernel) dX5_windItem_39 ?_
      cases h
      exact xr_zret C 40 E dX5_windItem_40 (by decide +kernel)
    · have h := g_it h q
      refine xr_iconst C 29 0 (by decide +kernel) dX5_windItem_29 ?_
      cases h
      exact xr_zret C 30 E dX5_windItem_30 (by decide +kernel)
  · have h := g_it h q
    refine xr_iconst C 9 0 (by decide +kernel) dX5_windItem_9 ?_
    cases h
    exact xr_zret C 10 E dX5_windItem_10 (by decide +kernel)
set_option maxRecDepth 100000 in
set_option maxHeartbeats 4000000 in
theorem mX5_windItem {l : Launch} {ad : Nat → Nat} {G : gEnv} {N : Nat} {w : xW} {r : xW × Int32} (h : fX5_windItem N w = some r) : xCt l ad G 4 yX5_windItem cX5_windItem 2 (some .boolean) [.ref (ad 44), .ref (ad 11)] w r.1 (some (.int r.2)) := xCt.of RX5 rfl (by decide +kernel) (Nat.le_of_ble_eq_true rfl) (fun Γ el ea eG eL C E => by
    subst el
    subst ea
    subst eG
    unfold fX5_windItem at h
    exact xG.sub (bX5_windItem_0 C eL  E h) ⟨rfl, rfl, trivial⟩)
def fX5_setItem_53 (N : Nat) (w : xW) (x2 : Int32) (x3 : Int32) : Option (xW × Int32) :=
  if ibd x2 3 = true then
  some (sI w 14 x2.toNatClampNeg x3, 1)
  else none
def fX5_setItem_5b (N : Nat) (K5 : xW → Int32 → Int32 → Int32 → Option (xW × Int32)) (w : xW) (x2 : Int32) (x3 : Int32) (x4 : Int32) : Option (xW × Int32) :=
  (fX5_number N w x4 29).bind fun z1 =>
  if z1.2 = 0 then
    some (z1.1, 0)
  else
  if (z1.1.1 42 2) = 2 then
    if ((z1.1.1 44 1) + 1) ≤ 30 then
      K5 z1.1 x2 (x3 ||| (1 <<< ((z1.1.1 44 1) &&& 31))) ((z1.1.1 44 1) + 1)
    else
    fX5_setItem_53 N z1.1 x2 (x3 ||| (1 <<< ((z1.1.1 44 1) &&& 31)))
  else
  fX5_setItem_53 N z1.1 x2 (x3 ||| (1 <<< ((z1.1.1 44 1) &&& 31)))
def fX5_setItem_5 (N : Nat) : Nat → xW → Int32 → Int32 → Int32 → Option (xW × Int32)
  | 0, _, _, _, _ => none
  | n + 1, w, x2, x3, x4 => fX5_setItem_5b N (fX5_setItem_5 N n) w x2 x3 x4
def fX5_setItem_0 (N : Nat) (w : xW) (x2 : Int32) : Option (xW × Int32) :=
  fX5_setItem_5 N N w x2 0 0
def fX5_setItem (N : Nat) (w : xW) (x2 : Int32) : Option (xW × Int32) := fX5_setItem_0 N w x2
set_option maxRecDepth 100000 in
set_option maxHeartbeats 4000000 in
theorem bX5_setItem_53 {Γ : xΓ} (C : xOK Γ cX5_setItem RX5 4) (hL : xn Γ = 5) {N : Nat} {w : xW} {x2 : Int32} {x3 : Int32} {r : xW × Int32} (E : xEnd Γ (some .boolean) r.1 (some (.int r.2))) (h : fX5_setItem_53 N w x2 x3 = some r) : xG Γ w 53 [(1, .ref (xad Γ 12)), (2, .int x2), (3, .int x3)] [] := by
  unfold fX5_setItem_53 at h
  refine xr_aload_n C 53 rfl dX5_setItem_53 ?_
  refine xr_getR C 54 dX5_setItem_54 fl_X5_124 rfl rfl ?_
  refine xr_iload_n C 57 rfl dX5_setItem_57 ?_
  refine xr_iload_n C 58 rfl dX5_setItem_58 ?_
  obtain ⟨q3, h⟩ := g_ib h
  refine xr_iast C 59 x2.toNatClampNeg rfl dX5_setItem_59 rfl (ibd_in q3) ?_
  refine xr_iconst C 60 1 (by decide +kernel) dX5_setItem_60 ?_
  cases h
  exact xr_zret C 61 E dX5_setItem_61 (by decide +kernel)
set_option maxRecDepth 100000 in
set_option maxHeartbeats 4000000 in
theorem bX5_setItem_5b {Γ : xΓ} (C : xOK Γ cX5_setItem RX5 4) (hL : xn Γ = 5) {N : Nat} {K5 : xW → Int32 → Int32 → Int32 → Option (xW × Int32)} {w : xW} {x2 : Int32} {x3 : Int32} {x4 : Int32} {r : xW × Int32} (E : xEnd Γ (some .boolean) r.1 (some (.int r.2))) (hK5 : ∀ (w : xW) (x2 : Int32) (x3 : Int32) (x4 : Int32), K5 w x2 x3 x4 = some r → xG Γ w 5 [(0, .ref (xad Γ 44)), (1, .ref (xad Γ 12)), (2, .int x2), (3, .int x3), (4, .int x4)] []) (h : fX5_setItem_5b N K5 w x2 x3 x4 = some r) : xG Γ w 5 [(0, .ref (xad Γ 44)), (1, .ref (xad Γ 12)), (2, .int x2), (3, .int x3), (4, .int x4)] [] := by
  unfold fX5_setItem_5b at h
  refine xr_aload_n C 5 rfl dX5_setItem_5 ?_
  refine xr_iload C 6 rfl dX5_setItem_6 ?_
  refine xr_bipush C 8 29 (by decide +kernel) dX5_setItem_8 ?_
  obtain ⟨z1, q2, h⟩ := g_bind h
  refine xr_callV C 10 (mX5_number q2) v_X5_number ml_X5_113 (Nat.le_of_ble_eq_true rfl) (Nat.le_of_ble_eq_true rfl) (xrecv C rfl rfl) rfl rfl (Nat.le_of_ble_eq_true rfl) rfl dX5_setItem_10 ?_
  refine xr_if_ne C 13 18 dX5_setItem_13 rfl (fun q => ?_) (fun q => ?_)
  · have h := g_if h q
    refine xr_iload_n C 18 rfl dX5_setItem_18 ?_
    refine xr_iconst C 19 1 (by decide +kernel) dX5_setItem_19 ?_
    refine xr_aload_n C 20 rfl dX5_setItem_20 ?_
    refine xr_getI C 21 dX5_setItem_21 fl_X5_18 rfl rfl ?_
    refine xr_ishl C 24 dX5_setItem_24 ?_
    refine xr_ior C 25 dX5_setItem_25 ?_
    refine xr_istore_n C 26 dX5_setItem_26 (xnb hL rfl) ?_
    refine xr_aload_n C 27 rfl dX5_setItem_27 ?_
    refine xr_getI C 28 dX5_setItem_28 fl_X5_18 rfl rfl ?_
    refine xr_iconst C 31 1 (by decide +kernel) dX5_setItem_31 ?_
    refine xr_iadd C 32 dX5_setItem_32 ?_
    refine xr_istore C 33 dX5_setItem_33 (xnb hL rfl) ?_
    refine xr_aload_n C 35 rfl dX5_setItem_35 ?_
    refine xr_getR C 36 dX5_setItem_36 fl_X5_12 rfl rfl ?_
    refine xr_getI C 39 dX5_setItem_39 fl_X5_29 rfl rfl ?_
    refine xr_iconst C 42 2 (by decide +kernel) dX5_setItem_42 ?_
    refine xr_icmp_ne C 43 53 dX5_setItem_43 rfl (fun q => ?_) (fun q => ?_)
    · have h := g_if h q
      exact xG.sub (bX5_setItem_53 C hL E h) ⟨rfl, rfl, rfl, trivial⟩
    · have h := g_it h q
      refine xr_iload C 46 rfl dX5_setItem_46 ?_
      refine xr_bipush C 48 30 (by decide +kernel) dX5_setItem_48 ?_
      refine xr_icmp_le C 50 5 dX5_setItem_50 rfl (fun q => ?_) (fun q => ?_)
      · have h := g_it h q
        exact xG.sub (hK5 _ _ _ _ h) ⟨rfl, rfl, rfl, rfl, rfl, trivial⟩
      · have h := g_if h q
        exact xG.sub (bX5_setItem_53 C hL E h) ⟨rfl, rfl, rfl, trivial⟩
  · have h := g_it h q
    refine xr_iconst C 16 0 (by decide +kernel) dX5_setItem_16 ?_
    cases h
    exact xr_zret C 17 E dX5_setItem_17 (by decide +kernel)
set_option maxRecDepth 100000 in
set_option maxHeartbeats 4000000 in
theorem bX5_setItem_5 {Γ : xΓ} (C : xOK Γ cX5_setItem RX5 4) (hL : xn Γ = 5) {N : Nat} {r : xW × Int32} (E : xEnd Γ (some .boolean) r.1 (some (.int r.2))) : ∀ (n : Nat) (w : xW) (x2 : Int32) (x3 : Int32) (x4 : Int32), fX5_setItem_5 N n w x2 x3 x4 = some r → xG Γ w 5 [(0, .ref (xad Γ 44)), (1, .ref (xad Γ 12)), (2, .int x2), (3, .int x3), (4, .int x4)] []
  | 0, _, _, _, _, h => by cases h
  | n + 1, w, x2, x3, x4, h => bX5_setItem_5b C hL E (bX5_setItem_5 C hL E n) h
set_option maxRecDepth 100000 in
set_option maxHeartbeats 4000000 in
theorem bX5_setItem_0 {Γ : xΓ} (C : xOK Γ cX5_setItem RX5 4) (hL : xn Γ = 5) {N : Nat} {w : xW} {x2 : Int32} {r : xW × Int32} (E : xEnd Γ (some .boolean) r.1 (some (.int r.2))) (h : fX5_setItem_0 N w x2 = some r) : xG Γ w 0 [(0, .ref (xad Γ 44)), (1, .ref (xad Γ 12)), (2, .int x2)] [] := by
  unfold fX5_setItem_0 at h
  refine xr_iconst C 0 0 (by decide +kernel) dX5_setItem_0 ?_
  refine xr_istore_n C 1 dX5_setItem_1 (xnb hL rfl) ?_
  refine xr_iconst C 2 0 (by decide +kernel) dX5_setItem_2 ?_
  refine xr_istore C 3 dX5_setItem_3 (xnb hL rfl) ?_
  exact xG.sub (bX5_setItem_5 C hL E N _ _ _ _ h) ⟨rfl, rfl, rfl, rfl, rfl, trivial⟩
set_option maxRecDepth 100000 in
set_option maxHeartbeats 4000000 in
theorem mX5_setItem {l : Launch} {ad : Nat → Nat} {G : gEnv} {N : Nat} {w : xW} {x2 : Int32} {r : xW × Int32} (h : fX5_setItem N w x2 = some r) : xCt l ad G 4 yX5_setItem cX5_setItem 5 (some .boolean) [.ref (ad 44), .ref (ad 12), .int x2] w r.1 (some (.int r.2)) := xCt.of RX5 rfl (by decide +kernel) (Nat.le_of_ble_eq_true rfl) (fun Γ el ea eG eL C E => by
    subst el
    subst ea
    subst eG
    unfold fX5_setItem at h
    exact xG.sub (bX5_setItem_0 C eL  E h) ⟨rfl, rfl, rfl, trivial⟩)
def fX5_floodItem_67 (N : Nat) (w : xW) : Option (xW × Int32) :=
  (fX5_word N w 15).bind fun z7 =>
  if z7.2 = 0 then
    some (z7.1, 1)
  else
  (fX5_number N z7.1 (kLEAST 2) (kMOST 2)).bind fun z9 =>
  if z9.2 = 0 then
    some (z9.1, 0)
  else
  some (sI z9.1 13 2 (z9.1.1 44 1), 1)
def fX5_floodItem_0 (N : Nat) (w : xW) : Option (xW × Int32) :=
  (fX5_number N w (kLEAST 0) (kMOST 0)).bind fun z1 =>
  if z1.2 = 0 then
    some (z1.1, 0)
  else
  (fX5_word N (sI z1.1 13 0 (z1.1.1 44 1)) 14).bind fun z3 =>
  if z3.2 = 0 then
    fX5_floodItem_67 N z3.1
  else
  (fX5_number N z3.1 (kLEAST 1) (kMOST 1)).bind fun z5 =>
  if z5.2 = 0 then
    some (z5.1, 0)
  else
  fX5_floodItem_67 N (sI z5.1 13 1 (z5.1.1 44 1))
def fX5_floodItem (N : Nat) (w : xW) : Option (xW × Int32) := fX5_floodItem_0 N w
set_option maxRecDepth 100000 in
set_option maxHeartbeats 4000000 in
theorem bX5_floodItem_67 {Γ : xΓ} (C : xOK Γ cX5_floodItem RX5 9) (hL : xn Γ = 2) {N : Nat} {w : xW} {r : xW × Int32} (E : xEnd Γ (some .boolean) r.1 (some (.int r.2))) (h : fX5_floodItem_67 N w = some r) : xG Γ w 67 [(0, .ref (xad Γ 44)), (1, .ref (xad Γ 12))] [] := by
  unfold fX5_floodItem_67 at h
  refine xr_aload_n C 67 rfl dX5_floodItem_67 ?_
  refine xr_ldcS C 68 dX5_floodItem_68 s_X5_122 ?_
  obtain ⟨z7, q8, h⟩ := g_bind h
  refine xr_callV C 70 (mX5_word q8) v_X5_word ml_X5_57 (Nat.le_of_ble_eq_true rfl) (Nat.le_of_ble_eq_true rfl) (xrecv C rfl rfl) rfl rfl (Nat.le_of_ble_eq_true rfl) rfl dX5_floodItem_70 ?_
  refine xr_if_eq C 73 105 dX5_floodItem_73 rfl (fun q => ?_) (fun q => ?_)
  · have h := g_it h q
    refine xr_iconst C 105 1 (by decide +kernel) dX5_floodItem_105 ?_
    cases h
    exact xr_zret C 106 E dX5_floodItem_106 (by decide +kernel)
  · have h := g_if h q
    refine xr_aload_n C 76 rfl dX5_floodItem_76 ?_
    refine xr_getsLEAST C 77 dX5_floodItem_77 st_X5_106 ?_
    refine xr_iconst C 80 2 (by decide +kernel) dX5_floodItem_80 ?_
    refine xr_tabLEAST C 81 2 (by decide +kernel) dX5_floodItem_81 (ibd_in (by decide +kernel)) ?_
    refine xr_getsMOST C 82 dX5_floodItem_82 st_X5_110 ?_
    refine xr_iconst C 85 2 (by decide +kernel) dX5_floodItem_85 ?_
    refine xr_tabMOST C 86 2 (by decide +kernel) dX5_floodItem_86 (ibd_in (by decide +kernel)) ?_
    obtain ⟨z9, q10, h⟩ := g_bind h
    refine xr_callV C 87 (mX5_number q10) v_X5_number ml_X5_113 (Nat.le_of_ble_eq_true rfl) (Nat.le_of_ble_eq_true rfl) (xrecv C rfl rfl) rfl rfl (Nat.le_of_ble_eq_true rfl) rfl dX5_floodItem_87 ?_
    refine xr_if_ne C 90 95 dX5_floodItem_90 rfl (fun q => ?_) (fun q => ?_)
    · have h := g_if h q
      refine xr_aload_n C 95 rfl dX5_floodItem_95 ?_
      refine xr_getR C 96 dX5_floodItem_96 fl_X5_117 rfl rfl ?_
      refine xr_iconst C 99 2 (by decide +kernel) dX5_floodItem_99 ?_
      refine xr_aload_n C 100 rfl dX5_floodItem_100 ?_
      refine xr_getI C 101 dX5_floodItem_101 fl_X5_18 rfl rfl ?_
      refine xr_iast C 104 2 (by decide +kernel) dX5_floodItem_104 rfl (ibd_in (by decide +kernel)) ?_
      refine xr_iconst C 105 1 (by decide +kernel) dX5_floodItem_105 ?_
      cases h
      exact xr_zret C 106 E dX5_floodItem_106 (by decide +kernel)
    · have h := g_it h q
      refine xr_iconst C 93 0 (by decide +kernel) dX5_floodItem_93 ?_
      cases h
      exact xr_zret C 94 E dX5_floodItem_94 (by decide +kernel)
set_option maxRecDepth 100000 in
set_option maxHeartbeats 4000000 in
theorem bX5_floodItem_0 {Γ : xΓ} (C : xOK Γ cX5_floodItem RX5 9) (hL : xn Γ = 2) {N : Nat} {w : xW} {r : xW × Int32} (E : xEnd Γ (some .boolean) r.1 (some (.int r.2))) (h : fX5_floodItem_0 N w = some r) : xG Γ w 0 [(0, .ref (xad Γ 44)), (1, .ref (xad Γ 12))] [] := by
  unfold fX5_floodItem_0 at h
  refine xr_aload_n C 0 rfl dX5_floodItem_0 ?_
  refine xr_getsLEAST C 1 dX5_floodItem_1 st_X5_106 ?_
  refine xr_iconst C 4 0 (by decide +kernel) dX5_floodItem_4 ?_
  refine xr_tabLEAST C 5 0 (by decide +kernel) dX5_floodItem_5 (ibd_in (by decide +kernel)) ?_
  refine xr_getsMOST C 6 dX5_floodItem_6 st_X5_110 ?_
  refine xr_iconst C 9 0 (by decide +kernel) dX5_floodItem_9 ?_
  refine xr_tabMOST C 10 0 (by decide +kernel) dX5_floodItem_10 (ibd_in (by decide +kernel)) ?_
  obtain ⟨z1, q2, h⟩ := g_bind h
  refine xr_callV C 11 (mX5_number q2) v_X5_number ml_X5_113 (Nat.le_of_ble_eq_true rfl) (Nat.le_of_ble_eq_true rfl) (xrecv C rfl rfl) rfl rfl (Nat.le_of_ble_eq_true rfl) rfl dX5_floodItem_11 ?_
  refine xr_if_ne C 14 19 dX5_floodItem_14 rfl (fun q => ?_) (fun q => ?_)
  · have h := g_if h q
    refine xr_aload_n C 19 rfl dX5_floodItem_19 ?_
    refine xr_getR C 20 dX5_floodItem_20 fl_X5_117 rfl rfl ?_
    refine xr_iconst C 23 0 (by decide +kernel) dX5_floodItem_23 ?_
    refine xr_aload_n C 24 rfl dX5_floodItem_24 ?_
    refine xr_getI C 25 dX5_floodItem_25 fl_X5_18 rfl rfl ?_
    refine xr_iast C 28 0 (by decide +kernel) dX5_floodItem_28 rfl (ibd_in (by decide +kernel)) ?_
    refine xr_aload_n C 29 rfl dX5_floodItem_29 ?_
    refine xr_ldcS C 30 dX5_floodItem_30 s_X5_120 ?_
    obtain ⟨z3, q4, h⟩ := g_bind h
    refine xr_callV C 32 (mX5_word q4) v_X5_word ml_X5_57 (Nat.le_of_ble_eq_true rfl) (Nat.le_of_ble_eq_true rfl) (xrecv C rfl rfl) rfl rfl (Nat.le_of_ble_eq_true rfl) rfl dX5_floodItem_32 ?_
    refine xr_if_eq C 35 67 dX5_floodItem_35 rfl (fun q => ?_) (fun q => ?_)
    · have h := g_it h q
      exact xG.sub (bX5_floodItem_67 C hL E h) ⟨rfl, rfl, trivial⟩
    · have h := g_if h q
      refine xr_aload_n C 38 rfl dX5_floodItem_38 ?_
      refine xr_getsLEAST C 39 dX5_floodItem_39 st_X5_106 ?_
      refine xr_iconst C 42 1 (by decide +kernel) dX5_floodItem_42 ?_
      refine xr_tabLEAST C 43 1 (by decide +kernel) dX5_floodItem_43 (ibd_in (by decide +kernel)) ?_
      refine xr_getsMOST C 44 dX5_floodItem_44 st_X5_110 ?_
      refine xr_iconst C 47 1 (by decide +kernel) dX5_floodItem_47 ?_
      refine xr_tabMOST C 48 1 (by decide +kernel) dX5_floodItem_48 (ibd_in (by decide +kernel)) ?_
      obtain ⟨z5, q6, h⟩ := g_bind h
      refine xr_callV C 49 (mX5_number q6) v_X5_number ml_X5_113 (Nat.le_of_ble_eq_true rfl) (Nat.le_of_ble_eq_true rfl) (xrecv C rfl rfl) rfl rfl (Nat.le_of_ble_eq_true rfl) rfl dX5_floodItem_49 ?_
      refine xr_if_ne C 52 57 dX5_floodItem_52 rfl (fun q => ?_) (fun q => ?_)
      · have h := g_if h q
        refine xr_aload_n C 57 rfl dX5_floodItem_57 ?_
        refine xr_getR C 58 dX5_floodItem_58 fl_X5_117 rfl rfl ?_
        refine xr_iconst C 61 1 (by decide +kernel) dX5_floodItem_61 ?_
        refine xr_aload_n C 62 rfl dX5_floodItem_62 ?_
        refine xr_getI C 63 dX5_floodItem_63 fl_X5_18 rfl rfl ?_
        refine xr_iast C 66 1 (by decide +kernel) dX5_floodItem_66 rfl (ibd_in (by decide +kernel)) ?_
        exact xG.sub (bX5_floodItem_67 C hL E h) ⟨rfl, rfl, trivial⟩
      · have h := g_it h q
        refine xr_iconst C 55 0 (by decide +kernel) dX5_floodItem_55 ?_
        cases h
        exact xr_zret C 56 E dX5_floodItem_56 (by decide +kernel)
  · have h := g_it h q
    refine xr_iconst C 17 0 (by decide +kernel) dX5_floodItem_17 ?_
    cases h
    exact xr_zret C 18 E dX5_floodItem_18 (by decide +kernel)
set_option maxRecDepth 100000 in
set_option maxHeartbeats 4000000 in
theorem mX5_floodItem {l : Launch} {ad : Nat → Nat} {G : gEnv} {N : Nat} {w : xW} {r : xW × Int32} (h : fX5_floodItem N w = some r) : xCt l ad G 9 yX5_floodItem cX5_floodItem 2 (some .boolean) [.ref (ad 44), .ref (ad 12)] w r.1 (some (.int r.2)) := xCt.of RX5 rfl (by decide +kernel) (Nat.le_of_ble_eq_true rfl) (fun Γ el ea eG eL C E => by
    subst el
    subst ea
    subst eG
    unfold fX5_floodItem at h
    exact xG.sub (bX5_floodItem_0 C eL  E h) ⟨rfl, rfl, trivial⟩)
def fX1_addShip_i1_42 (w : xW) (x4 : Int32) : Option (xW × Int32) :=
  if ibd (w.1 11 6) 6 = true then
  some (sI (sI w 20 ((w.1 11 6).toNatClampNeg) x4) 11 6 (((sI w 20 ((w.1 11 6).toNatClampNeg) x4).1 11 6) + 1), (sI w 20 ((w.1 11 6).toNatClampNeg) x4).1 11 6)
  else none
def fX1_addShip_i1_0 (w : xW) (x1 : Int32) (x2 : Int32) (x3 : Int32) (x4 : Int32) : Option (xW × Int32) :=
  if (w.1 11 6) < 6 then
    if ibd (w.1 11 6) 6 = true then
    if ibd ((sI w 17 ((w.1 11 6).toNatClampNeg) x1).1 11 6) 6 = true then
    if ibd ((sI (sI w 17 ((w.1 11 6).toNatClampNeg) x1) 18 (((sI w 17 ((w.1 11 6).toNatClampNeg) x1).1 11 6).toNatClampNeg) x2).1 11 6) 6 = true then
    fX1_addShip_i1_42 (sI (sI (sI w 17 ((w.1 11 6).toNatClampNeg) x1) 18 (((sI w 17 ((w.1 11 6).toNatClampNeg) x1).1 11 6).toNatClampNeg) x2) 19 (((sI (sI w 17 ((w.1 11 6).toNatClampNeg) x1) 18 (((sI w 17 ((w.1 11 6).toNatClampNeg) x1).1 11 6).toNatClampNeg) x2).1 11 6).toNatClampNeg) x3) x4
    else none
    else none
    else none
  else
  some (w, (-1000000002))
def fX1_addShip_i1 (w : xW) (x1 : Int32) (x2 : Int32) (x3 : Int32) (x4 : Int32) : Option (xW × Int32) := fX1_addShip_i1_0 w x1 x2 x3 x4
set_option maxRecDepth 100000 in
set_option maxHeartbeats 4000000 in
theorem bX1_addShip_i1_42 {Γ : xΓ} (C : xOK Γ cX1_addShip RX1 1) (hL : xn Γ = 5) {w : xW} {x4 : Int32} {r : xW × Int32} (E : xEnd Γ (some .int) r.1 (some (.int r.2))) (h : fX1_addShip_i1_42  w x4 = some r) : xG Γ w 42 [(0, .ref (xad Γ 11)), (4, .int x4)] [] := by
  unfold fX1_addShip_i1_42 at h
  refine xr_aload_n C 42 rfl dX1_addShip_42 ?_
  refine xr_getR C 43 dX1_addShip_43 fl_X1_47 rfl rfl ?_
  refine xr_aload_n C 46 rfl dX1_addShip_46 ?_
  refine xr_getI C 47 dX1_addShip_47 fl_X1_35 rfl rfl ?_
  refine xr_iload C 50 rfl dX1_addShip_50 ?_
  obtain ⟨q4, h⟩ := g_ib h
  refine xr_iast C 52 ((w.1 11 6).toNatClampNeg) rfl dX1_addShip_52 rfl (ibd_in q4) ?_
  refine xr_aload_n C 53 rfl dX1_addShip_53 ?_
  refine xr_dup C 54 rfl dX1_addShip_54 ?_
  refine xr_getI C 55 dX1_addShip_55 fl_X1_35 rfl rfl ?_
  refine xr_dup_x1 C 58 rfl rfl dX1_addShip_58 ?_
  refine xr_iconst C 59 1 (by decide +kernel) dX1_addShip_59 ?_
  refine xr_iadd C 60 dX1_addShip_60 ?_
  refine xr_putI C 61 dX1_addShip_61 fp_X1_35 rfl rfl ?_
  cases h
  exact xr_iret C 64 E dX1_addShip_64
set_option maxRecDepth 100000 in
set_option maxHeartbeats 4000000 in
theorem bX1_addShip_i1_0 {Γ : xΓ} (C : xOK Γ cX1_addShip RX1 1) (hL : xn Γ = 5) {w : xW} {x1 : Int32} {x2 : Int32} {x3 : Int32} {x4 : Int32} {r : xW × Int32} (E : xEnd Γ (some .int) r.1 (some (.int r.2))) (h : fX1_addShip_i1_0  w x1 x2 x3 x4 = some r) : xG Γ w 0 [(0, .ref (xad Γ 11)), (1, .int x1), (2, .int x2), (3, .int x3), (4, .int x4)] [] := by
  unfold fX1_addShip_i1_0 at h
  refine xr_aload_n C 0 rfl dX1_addShip_0 ?_
  refine xr_getI C 1 dX1_addShip_1 fl_X1_35 rfl rfl ?_
  refine xr_bipush C 4 6 (by decide +kernel) dX1_addShip_4 ?_
  refine xr_icmp_lt C 6 12 dX1_addShip_6 rfl (fun q => ?_) (fun q => ?_)
  · have h := g_it h q
    refine xr_aload_n C 12 rfl dX1_addShip_12 ?_
    refine xr_getR C 13 dX1_addShip_13 fl_X1_38 rfl rfl ?_
    refine xr_aload_n C 16 rfl dX1_addShip_16 ?_
    refine xr_getI C 17 dX1_addShip_17 fl_X1_35 rfl rfl ?_
    refine xr_iload_n C 20 rfl dX1_addShip_20 ?_
    obtain ⟨q1, h⟩ := g_ib h
    refine xr_iast C 21 ((w.1 11 6).toNatClampNeg) rfl dX1_addShip_21 rfl (ibd_in q1) ?_
    refine xr_aload_n C 22 rfl dX1_addShip_22 ?_
    refine xr_getR C 23 dX1_addShip_23 fl_X1_41 rfl rfl ?_
    refine xr_aload_n C 26 rfl dX1_addShip_26 ?_
    refine xr_getI C 27 dX1_addShip_27 fl_X1_35 rfl rfl ?_
    refine xr_iload_n C 30 rfl dX1_addShip_30 ?_
    obtain ⟨q2, h⟩ := g_ib h
    refine xr_iast C 31 (((sI w 17 ((w.1 11 6).toNatClampNeg) x1).1 11 6).toNatClampNeg) rfl dX1_addShip_31 rfl (ibd_in q2) ?_
    refine xr_aload_n C 32 rfl dX1_addShip_32 ?_
    refine xr_getR C 33 dX1_addShip_33 fl_X1_44 rfl rfl ?_
    refine xr_aload_n C 36 rfl dX1_addShip_36 ?_
    refine xr_getI C 37 dX1_addShip_37 fl_X1_35 rfl rfl ?_
    refine xr_iload_n C 40 rfl dX1_addShip_40 ?_
    obtain ⟨q3, h⟩ := g_ib h
    refine xr_iast C 41 (((sI (sI w 17 ((w.1 11 6).toNatClampNeg) x1) 18 (((sI w 17 ((w.1 11 6).toNatClampNeg) x1).1 11 6).toNatClampNeg) x2).1 11 6).toNatClampNeg) rfl dX1_addShip_41 rfl (ibd_in q3) ?_
    exact xG.sub (bX1_addShip_i1_42 C hL E h) ⟨rfl, rfl, trivial⟩
  · have h := g_if h q
    refine xr_ldc C 9 k_X1_67 dX1_addShip_9 ?_
    cases h
    exact xr_iret C 11 E dX1_addShip_11
set_option maxRecDepth 100000 in
set_option maxHeartbeats 4000000 in
theorem mX1_addShip_i1 {l : Launch} {ad : Nat → Nat} {G : gEnv} {w : xW} {x1 : Int32} {x2 : Int32} {x3 : Int32} {x4 : Int32} {r : xW × Int32} (h : fX1_addShip_i1 w x1 x2 x3 x4 = some r) : xCt l ad G 1 yX1_addShip cX1_addShip 5 (some .int) [.ref (ad 11), .int x1, .int x2, .int x3, .int x4] w r.1 (some (.int r.2)) := xCt.of RX1 rfl (by decide +kernel) (Nat.le_of_ble_eq_true rfl) (fun Γ el ea eG eL C E => by
    subst el
    subst ea
    subst eG
    unfold fX1_addShip_i1 at h
    exact xG.sub (bX1_addShip_i1_0 C eL  E h) ⟨rfl, rfl, rfl, rfl, rfl, trivial⟩)
def fX5_shipItem_117 (N : Nat) (w : xW) (x2 : Int32) (x3 : Int32) (x4 : Int32) (x5 : Int32) : Option (xW × Int32) :=
  (fX1_addShip_i1 w x2 x3 x4 x5).bind fun z17 =>
  some (z17.1, 1)
def fX5_shipItem_0 (N : Nat) (w : xW) : Option (xW × Int32) :=
  if (w.1 11 6) < 6 then
    (fX4_step N w).bind fun z1 =>
    (fX5_number N z1 0 3).bind fun z3 =>
    if z3.2 = 0 then
      some (z3.1, 0)
    else
    (fX5_word N z3.1 10).bind fun z5 =>
    if z5.2 = 0 then
      some (z5.1, 0)
    else
    (fX5_number N z5.1 0 9999).bind fun z7 =>
    if z7.2 = 0 then
      some (z7.1, 0)
    else
    (fX5_word N z7.1 11).bind fun z9 =>
    if z9.2 = 0 then
      some (z9.1, 0)
    else
    (fX5_number N z9.1 1 40).bind fun z11 =>
    if z11.2 = 0 then
      some (z11.1, 0)
    else
    (fX5_word N z11.1 12).bind fun z13 =>
    if z13.2 = 0 then
      fX5_shipItem_117 N z13.1 (z3.1.1 44 1) (z7.1.1 44 1) (z11.1.1 44 1) (-1)
    else
    (fX5_number N z13.1 0 3).bind fun z15 =>
    if z15.2 = 0 then
      some (z15.1, 0)
    else
    fX5_shipItem_117 N z15.1 (z3.1.1 44 1) (z7.1.1 44 1) (z11.1.1 44 1) (z15.1.1 44 1)
  else
  some (w, 0)
def fX5_shipItem (N : Nat) (w : xW) : Option (xW × Int32) := fX5_shipItem_0 N w
set_option maxRecDepth 100000 in
set_option maxHeartbeats 4000000 in
theorem bX5_shipItem_117 {Γ : xΓ} (C : xOK Γ cX5_shipItem RX5 9) (hL : xn Γ = 6) {N : Nat} {w : xW} {x2 : Int32} {x3 : Int32} {x4 : Int32} {x5 : Int32} {r : xW × Int32} (E : xEnd Γ (some .boolean) r.1 (some (.int r.2))) (h : fX5_shipItem_117 N w x2 x3 x4 x5 = some r) : xG Γ w 117 [(1, .ref (xad Γ 11)), (2, .int x2), (3, .int x3), (4, .int x4), (5, .int x5)] [] := by
  unfold fX5_shipItem_117 at h
  refine xr_aload_n C 117 rfl dX5_shipItem_117 ?_
  refine xr_iload_n C 118 rfl dX5_shipItem_118 ?_
  refine xr_iload_n C 119 rfl dX5_shipItem_119 ?_
  refine xr_iload C 120 rfl dX5_shipItem_120 ?_
  refine xr_iload C 122 rfl dX5_shipItem_122 ?_
  obtain ⟨z17, q18, h⟩ := g_bind h
  refine xr_callV C 124 (mX1_addShip_i1 q18) v_X1_addShip ml_X5_143 (Nat.le_of_ble_eq_true rfl) (Nat.le_of_ble_eq_true rfl) (xrecv C rfl rfl) rfl rfl (Nat.le_of_ble_eq_true rfl) rfl dX5_shipItem_124 ?_
  refine xr_pop C 127 rfl dX5_shipItem_127 ?_
  refine xr_iconst C 128 1 (by decide +kernel) dX5_shipItem_128 ?_
  cases h
  exact xr_zret C 129 E dX5_shipItem_129 (by decide +kernel)
set_option maxRecDepth 100000 in
set_option maxHeartbeats 4000000 in
theorem bX5_shipItem_0 {Γ : xΓ} (C : xOK Γ cX5_shipItem RX5 9) (hL : xn Γ = 6) {N : Nat} {w : xW} {r : xW × Int32} (E : xEnd Γ (some .boolean) r.1 (some (.int r.2))) (h : fX5_shipItem_0 N w = some r) : xG Γ w 0 [(0, .ref (xad Γ 44)), (1, .ref (xad Γ 11))] [] := by
  unfold fX5_shipItem_0 at h
  refine xr_aload_n C 0 rfl dX5_shipItem_0 ?_
  refine xr_getI C 1 dX5_shipItem_1 fl_X5_134 rfl rfl ?_
  refine xr_bipush C 4 6 (by decide +kernel) dX5_shipItem_4 ?_
  refine xr_icmp_lt C 6 11 dX5_shipItem_6 rfl (fun q => ?_) (fun q => ?_)
  · have h := g_it h q
    refine xr_aload_n C 11 rfl dX5_shipItem_11 ?_
    refine xr_getR C 12 dX5_shipItem_12 fl_X5_12 rfl rfl ?_
    obtain ⟨z1, q2, h⟩ := g_bind h
    refine xr_callV C 15 (mX4_step q2) v_X4_step ml_X5_32 (Nat.le_of_ble_eq_true rfl) (Nat.le_of_ble_eq_true rfl) (xrecv C rfl rfl) rfl rfl (Nat.le_of_ble_eq_true rfl) rfl dX5_shipItem_15 ?_
    refine xr_aload_n C 18 rfl dX5_shipItem_18 ?_
    refine xr_iconst C 19 0 (by decide +kernel) dX5_shipItem_19 ?_
    refine xr_iconst C 20 3 (by decide +kernel) dX5_shipItem_20 ?_
    obtain ⟨z3, q4, h⟩ := g_bind h
    refine xr_callV C 21 (mX5_number q4) v_X5_number ml_X5_113 (Nat.le_of_ble_eq_true rfl) (Nat.le_of_ble_eq_true rfl) (xrecv C rfl rfl) rfl rfl (Nat.le_of_ble_eq_true rfl) rfl dX5_shipItem_21 ?_
    refine xr_if_ne C 24 29 dX5_shipItem_24 rfl (fun q => ?_) (fun q => ?_)
    · have h := g_if h q
      refine xr_aload_n C 29 rfl dX5_shipItem_29 ?_
      refine xr_getI C 30 dX5_shipItem_30 fl_X5_18 rfl rfl ?_
      refine xr_istore_n C 33 dX5_shipItem_33 (xnb hL rfl) ?_
      refine xr_aload_n C 34 rfl dX5_shipItem_34 ?_
      refine xr_ldcS C 35 dX5_shipItem_35 s_X5_137 ?_
      obtain ⟨z5, q6, h⟩ := g_bind h
      refine xr_callV C 37 (mX5_word q6) v_X5_word ml_X5_57 (Nat.le_of_ble_eq_true rfl) (Nat.le_of_ble_eq_true rfl) (xrecv C rfl rfl) rfl rfl (Nat.le_of_ble_eq_true rfl) rfl dX5_shipItem_37 ?_
      refine xr_if_eq C 40 54 dX5_shipItem_40 rfl (fun q => ?_) (fun q => ?_)
      · have h := g_it h q
        refine xr_iconst C 54 0 (by decide +kernel) dX5_shipItem_54 ?_
        cases h
        exact xr_zret C 55 E dX5_shipItem_55 (by decide +kernel)
      · have h := g_if h q
        refine xr_aload_n C 43 rfl dX5_shipItem_43 ?_
        refine xr_iconst C 44 0 (by decide +kernel) dX5_shipItem_44 ?_
        refine xr_sipush C 45 9999 (by decide +kernel) dX5_shipItem_45 ?_
        obtain ⟨z7, q8, h⟩ := g_bind h
        refine xr_callV C 48 (mX5_number q8) v_X5_number ml_X5_113 (Nat.le_of_ble_eq_true rfl) (Nat.le_of_ble_eq_true rfl) (xrecv C rfl rfl) rfl rfl (Nat.le_of_ble_eq_true rfl) rfl dX5_shipItem_48 ?_
        refine xr_if_ne C 51 56 dX5_shipItem_51 rfl (fun q => ?_) (fun q => ?_)
        · have h := g_if h q
          refine xr_aload_n C 56 rfl dX5_shipItem_56 ?_
          refine xr_getI C 57 dX5_shipItem_57 fl_X5_18 rfl rfl ?_
          refine xr_istore_n C 60 dX5_shipItem_60 (xnb hL rfl) ?_
          refine xr_aload_n C 61 rfl dX5_shipItem_61 ?_
          refine xr_ldcS C 62 dX5_shipItem_62 s_X5_139 ?_
          obtain ⟨z9, q10, h⟩ := g_bind h
          refine xr_callV C 64 (mX5_word q10) v_X5_word ml_X5_57 (Nat.le_of_ble_eq_true rfl) (Nat.le_of_ble_eq_true rfl) (xrecv C rfl rfl) rfl rfl (Nat.le_of_ble_eq_true rfl) rfl dX5_shipItem_64 ?_
          refine xr_if_eq C 67 80 dX5_shipItem_67 rfl (fun q => ?_) (fun q => ?_)
          · have h := g_it h q
            refine xr_iconst C 80 0 (by decide +kernel) dX5_shipItem_80 ?_
            cases h
            exact xr_zret C 81 E dX5_shipItem_81 (by decide +kernel)
          · have h := g_if h q
            refine xr_aload_n C 70 rfl dX5_shipItem_70 ?_
            refine xr_iconst C 71 1 (by decide +kernel) dX5_shipItem_71 ?_
            refine xr_bipush C 72 40 (by decide +kernel) dX5_shipItem_72 ?_
            obtain ⟨z11, q12, h⟩ := g_bind h
            refine xr_callV C 74 (mX5_number q12) v_X5_number ml_X5_113 (Nat.le_of_ble_eq_true rfl) (Nat.le_of_ble_eq_true rfl) (xrecv C rfl rfl) rfl rfl (Nat.le_of_ble_eq_true rfl) rfl dX5_shipItem_74 ?_
            refine xr_if_ne C 77 82 dX5_shipItem_77 rfl (fun q => ?_) (fun q => ?_)
            · have h := g_if h q
              refine xr_aload_n C 82 rfl dX5_shipItem_82 ?_
              refine xr_getI C 83 dX5_shipItem_83 fl_X5_18 rfl rfl ?_
              refine xr_istore C 86 dX5_shipItem_86 (xnb hL rfl) ?_
              refine xr_iconst C 88 (-1) (by decide +kernel) dX5_shipItem_88 ?_
              refine xr_istore C 89 dX5_shipItem_89 (xnb hL rfl) ?_
              refine xr_aload_n C 91 rfl dX5_shipItem_91 ?_
              refine xr_ldcS C 92 dX5_shipItem_92 s_X5_141 ?_
              obtain ⟨z13, q14, h⟩ := g_bind h
              refine xr_callV C 94 (mX5_word q14) v_X5_word ml_X5_57 (Nat.le_of_ble_eq_true rfl) (Nat.le_of_ble_eq_true rfl) (xrecv C rfl rfl) rfl rfl (Nat.le_of_ble_eq_true rfl) rfl dX5_shipItem_94 ?_
              refine xr_if_eq C 97 117 dX5_shipItem_97 rfl (fun q => ?_) (fun q => ?_)
              · have h := g_it h q
                exact xG.sub (bX5_shipItem_117 C hL E h) ⟨rfl, rfl, rfl, rfl, rfl, trivial⟩
              · have h := g_if h q
                refine xr_aload_n C 100 rfl dX5_shipItem_100 ?_
                refine xr_iconst C 101 0 (by decide +kernel) dX5_shipItem_101 ?_
                refine xr_iconst C 102 3 (by decide +kernel) dX5_shipItem_102 ?_
                obtain ⟨z15, q16, h⟩ := g_bind h
                refine xr_callV C 103 (mX5_number q16) v_X5_number ml_X5_113 (Nat.le_of_ble_eq_true rfl) (Nat.le_of_ble_eq_true rfl) (xrecv C rfl rfl) rfl rfl (Nat.le_of_ble_eq_true rfl) rfl dX5_shipItem_103 ?_
                refine xr_if_ne C 106 111 dX5_shipItem_106 rfl (fun q => ?_) (fun q => ?_)
                · have h := g_if h q
                  refine xr_aload_n C 111 rfl dX5_shipItem_111 ?_
                  refine xr_getI C 112 dX5_shipItem_112 fl_X5_18 rfl rfl ?_
                  refine xr_istore C 115 dX5_shipItem_115 (xnb hL rfl) ?_
                  exact xG.sub (bX5_shipItem_117 C hL E h) ⟨rfl, rfl, rfl, rfl, rfl, trivial⟩
                · have h := g_it h q
                  refine xr_iconst C 109 0 (by decide +kernel) dX5_shipItem_109 ?_
                  cases h
                  exact xr_zret C 110 E dX5_shipItem_110 (by decide +kernel)
            · have h := g_it h q
              refine xr_iconst C 80 0 (by decide +kernel) dX5_shipItem_80 ?_
              cases h
              exact xr_zret C 81 E dX5_shipItem_81 (by decide +kernel)
        · have h := g_it h q
          refine xr_iconst C 54 0 (by decide +kernel) dX5_shipItem_54 ?_
          cases h
          exact xr_zret C 55 E dX5_shipItem_55 (by decide +kernel)
    · have h := g_it h q
      refine xr_iconst C 27 0 (by decide +kernel) dX5_shipItem_27 ?_
      cases h
      exact xr_zret C 28 E dX5_shipItem_28 (by decide +kernel)
  · have h := g_if h q
    refine xr_iconst C 9 0 (by decide +kernel) dX5_shipItem_9 ?_
    cases h
    exact xr_zret C 10 E dX5_shipItem_10 (by decide +kernel)
set_option maxRecDepth 100000 in
set_option maxHeartbeats 4000000 in
theorem mX5_shipItem {l : Launch} {ad : Nat → Nat} {G : gEnv} {N : Nat} {w : xW} {r : xW × Int32} (h : fX5_shipItem N w = some r) : xCt l ad G 9 yX5_shipItem cX5_shipItem 6 (some .boolean) [.ref (ad 44), .ref (ad 11)] w r.1 (some (.int r.2)) := xCt.of RX5 rfl (by decide +kernel) (Nat.le_of_ble_eq_true rfl) (fun Γ el ea eG eL C E => by
    subst el
    subst ea
    subst eG
    unfold fX5_shipItem at h
    exact xG.sub (bX5_shipItem_0 C eL  E h) ⟨rfl, rfl, trivial⟩)
