def fX7_gain_15 (N : Nat) (w : xW) : Option (xW × Int32) :=
  (fX7_refuse w (-1000000001)).bind fun z4 =>
  some (z4.1, z4.2)
def fX7_gain_0 (N : Nat) (w : xW) (x1 : Int32) (x2 : Int32) : Option (xW × Int32) :=
  if (fX7_isHouse w x1) = 0 then
    fX7_gain_15 N w
  else
  if (fX7_isTick x2) = 0 then
    fX7_gain_15 N w
  else
  (fX6_at N w x2).bind fun z1 =>
  if ibd x1 8 = true then
  some (z1, (fX1_gainOf z1 (z1.1 5 x1.toNatClampNeg) (fX6_sideOf z1 (z1.1 6 x1.toNatClampNeg)) (fX7_hourOf x2)))
  else none
def fX7_gain (N : Nat) (w : xW) (x1 : Int32) (x2 : Int32) : Option (xW × Int32) := fX7_gain_0 N w x1 x2
set_option maxRecDepth 100000 in
set_option maxHeartbeats 4000000 in
theorem bX7_gain_15 {Γ : xΓ} (C : xOK Γ cX7_gain RX7 4) (hL : xn Γ = 3) {N : Nat} {w : xW} {r : xW × Int32} (E : xEnd Γ (some .int) r.1 (some (.int r.2))) (h : fX7_gain_15 N w = some r) : xG Γ w 15 [(0, .ref (xad Γ 0))] [] := by
  unfold fX7_gain_15 at h
  refine xr_aload_n C 15 rfl dX7_gain_15 ?_
  refine xr_ldc C 16 k_X7_69 dX7_gain_16 ?_
  obtain ⟨z4, q5, h⟩ := g_bind h
  refine xr_callV C 18 (mX7_refuse q5) v_X7_refuse ml_X7_70 (Nat.le_of_ble_eq_true rfl) (Nat.le_of_ble_eq_true rfl) (xrecv C rfl rfl) rfl rfl (Nat.le_of_ble_eq_true rfl) rfl dX7_gain_18 ?_
  cases h
  exact xr_iret C 21 E dX7_gain_21
set_option maxRecDepth 100000 in
set_option maxHeartbeats 4000000 in
theorem bX7_gain_0 {Γ : xΓ} (C : xOK Γ cX7_gain RX7 4) (hL : xn Γ = 3) {N : Nat} {w : xW} {x1 : Int32} {x2 : Int32} {r : xW × Int32} (E : xEnd Γ (some .int) r.1 (some (.int r.2))) (h : fX7_gain_0 N w x1 x2 = some r) : xG Γ w 0 [(0, .ref (xad Γ 0)), (1, .int x1), (2, .int x2)] [] := by
  unfold fX7_gain_0 at h
  refine xr_aload_n C 0 rfl dX7_gain_0 ?_
  refine xr_iload_n C 1 rfl dX7_gain_1 ?_
  refine xr_callV C 2 (mX7_isHouse rfl) v_X7_isHouse ml_X7_135 (Nat.le_of_ble_eq_true rfl) (Nat.le_of_ble_eq_true rfl) (xrecv C rfl rfl) rfl rfl (Nat.le_of_ble_eq_true rfl) rfl dX7_gain_2 ?_
  refine xr_if_eq C 5 15 dX7_gain_5 rfl (fun q => ?_) (fun q => ?_)
  · have h := g_it h q
    exact xG.sub (bX7_gain_15 C hL E h) ⟨rfl, trivial⟩
  · have h := g_if h q
    refine xr_iload_n C 8 rfl dX7_gain_8 ?_
    refine xr_callS C 9 (mX7_isTick rfl) v_X7_isTick ml_X7_104 (Nat.le_of_ble_eq_true rfl) (Nat.le_of_ble_eq_true rfl) rfl rfl (Nat.le_of_ble_eq_true rfl) rfl dX7_gain_9 ?_
    refine xr_if_ne C 12 22 dX7_gain_12 rfl (fun q => ?_) (fun q => ?_)
    · have h := g_if h q
      refine xr_aload_n C 22 rfl dX7_gain_22 ?_
      refine xr_getR C 23 dX7_gain_23 fl_X7_10 rfl rfl ?_
      refine xr_getR C 26 dX7_gain_26 fl_X7_77 rfl rfl ?_
      refine xr_iload_n C 29 rfl dX7_gain_29 ?_
      obtain ⟨z1, q2, h⟩ := g_bind h
      refine xr_callV C 30 (mX6_at q2) v_X6_at ml_X7_107 (Nat.le_of_ble_eq_true rfl) (Nat.le_of_ble_eq_true rfl) (xrecv C rfl rfl) rfl rfl (Nat.le_of_ble_eq_true rfl) rfl dX7_gain_30 ?_
      refine xr_aload_n C 33 rfl dX7_gain_33 ?_
      refine xr_getR C 34 dX7_gain_34 fl_X7_10 rfl rfl ?_
      refine xr_aload_n C 37 rfl dX7_gain_37 ?_
      refine xr_getR C 38 dX7_gain_38 fl_X7_10 rfl rfl ?_
      refine xr_getR C 41 dX7_gain_41 fl_X7_138 rfl rfl ?_
      refine xr_iload_n C 44 rfl dX7_gain_44 ?_
      obtain ⟨q3, h⟩ := g_ib h
      refine xr_iald C 45 x1.toNatClampNeg rfl dX7_gain_45 rfl (ibd_in q3) ?_
      refine xr_aload_n C 46 rfl dX7_gain_46 ?_
      refine xr_getR C 47 dX7_gain_47 fl_X7_10 rfl rfl ?_
      refine xr_getR C 50 dX7_gain_50 fl_X7_77 rfl rfl ?_
      refine xr_aload_n C 53 rfl dX7_gain_53 ?_
      refine xr_getR C 54 dX7_gain_54 fl_X7_10 rfl rfl ?_
      refine xr_getR C 57 dX7_gain_57 fl_X7_141 rfl rfl ?_
      refine xr_iload_n C 60 rfl dX7_gain_60 ?_
      refine xr_iald C 61 x1.toNatClampNeg rfl dX7_gain_61 rfl (ibd_in q3) ?_
      refine xr_callV C 62 (mX6_sideOf rfl) v_X6_sideOf ml_X7_117 (Nat.le_of_ble_eq_true rfl) (Nat.le_of_ble_eq_true rfl) (xrecv C rfl rfl) rfl rfl (Nat.le_of_ble_eq_true rfl) rfl dX7_gain_62 ?_
      refine xr_iload_n C 65 rfl dX7_gain_65 ?_
      refine xr_callS C 66 (mX7_hourOf rfl) v_X7_hourOf ml_X7_148 (Nat.le_of_ble_eq_true rfl) (Nat.le_of_ble_eq_true rfl) rfl rfl (Nat.le_of_ble_eq_true rfl) rfl dX7_gain_66 ?_
      refine xr_callV C 69 (mX1_gainOf rfl) v_X1_gainOf ml_X7_151 (Nat.le_of_ble_eq_true rfl) (Nat.le_of_ble_eq_true rfl) (xrecv C rfl rfl) rfl rfl (Nat.le_of_ble_eq_true rfl) rfl dX7_gain_69 ?_
      cases h
      exact xr_iret C 72 E dX7_gain_72
    · have h := g_it h q
      exact xG.sub (bX7_gain_15 C hL E h) ⟨rfl, trivial⟩
set_option maxRecDepth 100000 in
set_option maxHeartbeats 4000000 in
theorem mX7_gain {l : Launch} {ad : Nat → Nat} {G : gEnv} {N : Nat} {w : xW} {x1 : Int32} {x2 : Int32} {r : xW × Int32} (h : fX7_gain N w x1 x2 = some r) : xCt l ad G 4 yX7_gain cX7_gain 3 (some .int) [.ref (ad 0), .int x1, .int x2] w r.1 (some (.int r.2)) := xCt.of RX7 rfl (by decide +kernel) (Nat.le_of_ble_eq_true rfl) (fun Γ el ea eG eL C E => by
    subst el
    subst ea
    subst eG
    unfold fX7_gain at h
    exact xG.sub (bX7_gain_0 C eL  E h) ⟨rfl, rfl, rfl, trivial⟩)
def fX8_hourOf_0 (x0 : Int32) : Int32 :=
  (irem x0 96) / 4
def fX8_hourOf (x0 : Int32) : Int32 := fX8_hourOf_0 x0
set_option maxRecDepth 100000 in
set_option maxHeartbeats 4000000 in
theorem bX8_hourOf_0 {Γ : xΓ} (C : xOK Γ cX8_hourOf RX8 1) (hL : xn Γ = 1) {w : xW} {x0 : Int32} {r : Int32} (E : xEnd Γ (some .int) w (some (.int r))) (h : fX8_hourOf_0  x0 = r) : xG Γ w 0 [(0, .int x0)] [] := by
  unfold fX8_hourOf_0 at h
  refine xr_iload_n C 0 rfl dX8_hourOf_0 ?_
  refine xr_bipush C 1 96 (by decide +kernel) dX8_hourOf_1 ?_
  refine xr_irem C 3 (by decide +kernel) dX8_hourOf_3 ?_
  refine xr_iconst C 4 4 (by decide +kernel) dX8_hourOf_4 ?_
  refine xr_idiv C 5 (by decide +kernel) dX8_hourOf_5 ?_
  cases h
  exact xr_iret C 6 E dX8_hourOf_6
set_option maxRecDepth 100000 in
set_option maxHeartbeats 4000000 in
theorem mX8_hourOf {l : Launch} {ad : Nat → Nat} {G : gEnv} {w : xW} {x0 : Int32} {r : Int32} (h : fX8_hourOf x0 = r) : xCt l ad G 1 yX8_hourOf cX8_hourOf 1 (some .int) [.int x0] w w (some (.int r)) := xCt.of RX8 rfl (by decide +kernel) (Nat.le_of_ble_eq_true rfl) (fun Γ el ea eG eL C E => by
    subst el
    subst ea
    subst eG
    unfold fX8_hourOf at h
    exact xG.sub (bX8_hourOf_0 C eL  E h) ⟨rfl, trivial⟩)
def fX8_sun_53 (s0 : Int32) : Int32 :=
  if s0 = 0 then
    0
  else
  1
def fX8_sun_32 (x0 : Int32) (x1 : Int32) : Int32 :=
  if x0 = 3 then
    if (fX8_within x1 12 18) = 0 then
      fX8_sun_53 0
    else
    fX8_sun_53 1
  else
  fX8_sun_53 0
def fX8_sun_16 (x0 : Int32) (x1 : Int32) : Int32 :=
  if x0 = 2 then
    if (fX8_within x1 9 15) = 0 then
      fX8_sun_32 x0 x1
    else
    fX8_sun_53 1
  else
  fX8_sun_32 x0 x1
def fX8_sun_0 (x0 : Int32) (x1 : Int32) : Int32 :=
  if x0 = 1 then
    if (fX8_within x1 6 11) = 0 then
      fX8_sun_16 x0 x1
    else
    fX8_sun_53 1
  else
  fX8_sun_16 x0 x1
def fX8_sun (x0 : Int32) (x1 : Int32) : Int32 := fX8_sun_0 x0 x1
set_option maxRecDepth 100000 in
set_option maxHeartbeats 4000000 in
theorem bX8_sun_53 {Γ : xΓ} (C : xOK Γ cX8_sun RX8 2) (hL : xn Γ = 3) {w : xW} {s0 : Int32} {r : Int32} (E : xEnd Γ (some .int) w (some (.int r))) (h : fX8_sun_53  s0 = r) : xG Γ w 53 [] [.int s0] := by
  unfold fX8_sun_53 at h
  refine xr_istore_n C 53 dX8_sun_53 (xnb hL rfl) ?_
  refine xr_iload_n C 54 rfl dX8_sun_54 ?_
  refine xr_if_eq C 55 62 dX8_sun_55 rfl (fun q => ?_) (fun q => ?_)
  · have h := g_it h q
    refine xr_iconst C 62 0 (by decide +kernel) dX8_sun_62 ?_
    cases h
    exact xr_iret C 63 E dX8_sun_63
  · have h := g_if h q
    refine xr_iconst C 58 1 (by decide +kernel) dX8_sun_58 ?_
    refine xr_goto C 59 63 dX8_sun_59 rfl ?_
    cases h
    exact xr_iret C 63 E dX8_sun_63
set_option maxRecDepth 100000 in
set_option maxHeartbeats 4000000 in
theorem bX8_sun_32 {Γ : xΓ} (C : xOK Γ cX8_sun RX8 2) (hL : xn Γ = 3) {w : xW} {x0 : Int32} {x1 : Int32} {r : Int32} (E : xEnd Γ (some .int) w (some (.int r))) (h : fX8_sun_32  x0 x1 = r) : xG Γ w 32 [(0, .int x0), (1, .int x1)] [] := by
  unfold fX8_sun_32 at h
  refine xr_iload_n C 32 rfl dX8_sun_32 ?_
  refine xr_iconst C 33 3 (by decide +kernel) dX8_sun_33 ?_
  refine xr_icmp_ne C 34 52 dX8_sun_34 rfl (fun q => ?_) (fun q => ?_)
  · have h := g_if h q
    refine xr_iconst C 52 0 (by decide +kernel) dX8_sun_52 ?_
    exact xG.sub (bX8_sun_53 C hL E h) trivial
  · have h := g_it h q
    refine xr_iload_n C 37 rfl dX8_sun_37 ?_
    refine xr_bipush C 38 12 (by decide +kernel) dX8_sun_38 ?_
    refine xr_bipush C 40 18 (by decide +kernel) dX8_sun_40 ?_
    refine xr_callS C 42 (mX8_within rfl) v_X8_within ml_X8_121 (Nat.le_of_ble_eq_true rfl) (Nat.le_of_ble_eq_true rfl) rfl rfl (Nat.le_of_ble_eq_true rfl) rfl dX8_sun_42 ?_
    refine xr_if_eq C 45 52 dX8_sun_45 rfl (fun q => ?_) (fun q => ?_)
    · have h := g_it h q
      refine xr_iconst C 52 0 (by decide +kernel) dX8_sun_52 ?_
      exact xG.sub (bX8_sun_53 C hL E h) trivial
    · have h := g_if h q
      refine xr_iconst C 48 1 (by decide +kernel) dX8_sun_48 ?_
      refine xr_goto C 49 53 dX8_sun_49 rfl ?_
      exact xG.sub (bX8_sun_53 C hL E h) trivial
set_option maxRecDepth 100000 in
set_option maxHeartbeats 4000000 in
theorem bX8_sun_16 {Γ : xΓ} (C : xOK Γ cX8_sun RX8 2) (hL : xn Γ = 3) {w : xW} {x0 : Int32} {x1 : Int32} {r : Int32} (E : xEnd Γ (some .int) w (some (.int r))) (h : fX8_sun_16  x0 x1 = r) : xG Γ w 16 [(0, .int x0), (1, .int x1)] [] := by
  unfold fX8_sun_16 at h
  refine xr_iload_n C 16 rfl dX8_sun_16 ?_
  refine xr_iconst C 17 2 (by decide +kernel) dX8_sun_17 ?_
  refine xr_icmp_ne C 18 32 dX8_sun_18 rfl (fun q => ?_) (fun q => ?_)
  · have h := g_if h q
    exact xG.sub (bX8_sun_32 C hL E h) ⟨rfl, rfl, trivial⟩
  · have h := g_it h q
    refine xr_iload_n C 21 rfl dX8_sun_21 ?_
    refine xr_bipush C 22 9 (by decide +kernel) dX8_sun_22 ?_
    refine xr_bipush C 24 15 (by decide +kernel) dX8_sun_24 ?_
    refine xr_callS C 26 (mX8_within rfl) v_X8_within ml_X8_121 (Nat.le_of_ble_eq_true rfl) (Nat.le_of_ble_eq_true rfl) rfl rfl (Nat.le_of_ble_eq_true rfl) rfl dX8_sun_26 ?_
    refine xr_if_ne C 29 48 dX8_sun_29 rfl (fun q => ?_) (fun q => ?_)
    · have h := g_if h q
      refine xr_iconst C 48 1 (by decide +kernel) dX8_sun_48 ?_
      refine xr_goto C 49 53 dX8_sun_49 rfl ?_
      exact xG.sub (bX8_sun_53 C hL E h) trivial
    · have h := g_it h q
      exact xG.sub (bX8_sun_32 C hL E h) ⟨rfl, rfl, trivial⟩
set_option maxRecDepth 100000 in
set_option maxHeartbeats 4000000 in
theorem bX8_sun_0 {Γ : xΓ} (C : xOK Γ cX8_sun RX8 2) (hL : xn Γ = 3) {w : xW} {x0 : Int32} {x1 : Int32} {r : Int32} (E : xEnd Γ (some .int) w (some (.int r))) (h : fX8_sun_0  x0 x1 = r) : xG Γ w 0 [(0, .int x0), (1, .int x1)] [] := by
  unfold fX8_sun_0 at h
  refine xr_iload_n C 0 rfl dX8_sun_0 ?_
  refine xr_iconst C 1 1 (by decide +kernel) dX8_sun_1 ?_
  refine xr_icmp_ne C 2 16 dX8_sun_2 rfl (fun q => ?_) (fun q => ?_)
  · have h := g_if h q
    exact xG.sub (bX8_sun_16 C hL E h) ⟨rfl, rfl, trivial⟩
  · have h := g_it h q
    refine xr_iload_n C 5 rfl dX8_sun_5 ?_
    refine xr_bipush C 6 6 (by decide +kernel) dX8_sun_6 ?_
    refine xr_bipush C 8 11 (by decide +kernel) dX8_sun_8 ?_
    refine xr_callS C 10 (mX8_within rfl) v_X8_within ml_X8_121 (Nat.le_of_ble_eq_true rfl) (Nat.le_of_ble_eq_true rfl) rfl rfl (Nat.le_of_ble_eq_true rfl) rfl dX8_sun_10 ?_
    refine xr_if_ne C 13 48 dX8_sun_13 rfl (fun q => ?_) (fun q => ?_)
    · have h := g_if h q
      refine xr_iconst C 48 1 (by decide +kernel) dX8_sun_48 ?_
      refine xr_goto C 49 53 dX8_sun_49 rfl ?_
      exact xG.sub (bX8_sun_53 C hL E h) trivial
    · have h := g_it h q
      exact xG.sub (bX8_sun_16 C hL E h) ⟨rfl, rfl, trivial⟩
set_option maxRecDepth 100000 in
set_option maxHeartbeats 4000000 in
theorem mX8_sun {l : Launch} {ad : Nat → Nat} {G : gEnv} {w : xW} {x0 : Int32} {x1 : Int32} {r : Int32} (h : fX8_sun x0 x1 = r) : xCt l ad G 2 yX8_sun cX8_sun 3 (some .int) [.int x0, .int x1] w w (some (.int r)) := xCt.of RX8 rfl (by decide +kernel) (Nat.le_of_ble_eq_true rfl) (fun Γ el ea eG eL C E => by
    subst el
    subst ea
    subst eG
    unfold fX8_sun at h
    exact xG.sub (bX8_sun_0 C eL  E h) ⟨rfl, rfl, trivial⟩)
def fX8_gainOf_63 (N : Nat) (w : xW) (x1 : Int32) (x5 : Int32) (x6 : Int32) (x7 : Int32) (s0 : Int32) : Option (xW × Int32) :=
  if x1 = 1 then
    some (w, s0)
  else
  if x1 = 2 then
    some (w, 1 - x6)
  else
  if x1 = 3 then
    some (w, x7)
  else
  if x1 = 4 then
    some (w, (w.1 56 8) * s0)
  else
  if x1 = 5 then
    if 9 ≤ x5 then
      some (w, 0)
    else
    some (w, 3 * x7)
  else
  some (w, x6)
def fX8_gainOf_44 (N : Nat) (w : xW) (x1 : Int32) (x4 : Int32) (x5 : Int32) (x6 : Int32) (s0 : Int32) : Option (xW × Int32) :=
  if x4 = (w.1 56 7) then
    fX8_gainOf_63 N w x1 x5 x6 s0 2
  else
  fX8_gainOf_63 N w x1 x5 x6 s0 0
def fX8_gainOf_0 (N : Nat) (w : xW) (x1 : Int32) (x2 : Int32) (x3 : Int32) : Option (xW × Int32) :=
  (fX8_sideOf N w x2 x3).bind fun z1 =>
  if (fX8_sun z1.2 (fX8_hourOf x3)) ≤ 0 then
    fX8_gainOf_44 N z1.1 x1 z1.2 (fX8_hourOf x3) (fX8_sun z1.2 (fX8_hourOf x3)) (fX8_sun z1.2 (fX8_hourOf x3))
  else
  if (fX8_hourOf x3) < 12 then
    fX8_gainOf_44 N z1.1 x1 z1.2 (fX8_hourOf x3) (fX8_sun z1.2 (fX8_hourOf x3)) (fX8_sun z1.2 (fX8_hourOf x3))
  else
  fX8_gainOf_44 N z1.1 x1 z1.2 (fX8_hourOf x3) (fX8_sun z1.2 (fX8_hourOf x3)) ((fX8_sun z1.2 (fX8_hourOf x3)) + 1)
def fX8_gainOf (N : Nat) (w : xW) (x1 : Int32) (x2 : Int32) (x3 : Int32) : Option (xW × Int32) := fX8_gainOf_0 N w x1 x2 x3
set_option maxRecDepth 100000 in
set_option maxHeartbeats 4000000 in
theorem bX8_gainOf_63 {Γ : xΓ} (C : xOK Γ cX8_gainOf RX8 6) (hL : xn Γ = 9) {N : Nat} {w : xW} {x1 : Int32} {x5 : Int32} {x6 : Int32} {x7 : Int32} {s0 : Int32} {r : xW × Int32} (E : xEnd Γ (some .int) r.1 (some (.int r.2))) (h : fX8_gainOf_63 N w x1 x5 x6 x7 s0 = some r) : xG Γ w 63 [(0, .ref (xad Γ 55)), (1, .int x1), (5, .int x5), (6, .int x6), (7, .int x7)] [.int s0] := by
  unfold fX8_gainOf_63 at h
  refine xr_istore C 63 dX8_gainOf_63 (xnb hL rfl) ?_
  refine xr_iload_n C 65 rfl dX8_gainOf_65 ?_
  by_cases q3 : x1 = 1
  · have h := g_it h q3
    refine xr_tabIn (off := 34) C 66 100 1 q3 dX8_gainOf_66 (by decide +kernel) (by decide +kernel) (by decide +kernel) rfl ?_
    refine xr_iload C 100 rfl dX8_gainOf_100 ?_
    cases h
    exact xr_iret C 102 E dX8_gainOf_102
  have h := g_if h q3
  by_cases q4 : x1 = 2
  · have h := g_it h q4
    refine xr_tabIn (off := 37) C 66 103 2 q4 dX8_gainOf_66 (by decide +kernel) (by decide +kernel) (by decide +kernel) rfl ?_
    refine xr_iconst C 103 1 (by decide +kernel) dX8_gainOf_103 ?_
    refine xr_iload C 104 rfl dX8_gainOf_104 ?_
    refine xr_isub C 106 dX8_gainOf_106 ?_
    cases h
    exact xr_iret C 107 E dX8_gainOf_107
  have h := g_if h q4
  by_cases q5 : x1 = 3
  · have h := g_it h q5
    refine xr_tabIn (off := 42) C 66 108 3 q5 dX8_gainOf_66 (by decide +kernel) (by decide +kernel) (by decide +kernel) rfl ?_
    refine xr_iload C 108 rfl dX8_gainOf_108 ?_
    cases h
    exact xr_iret C 110 E dX8_gainOf_110
  have h := g_if h q5
  by_cases q6 : x1 = 4
  · have h := g_it h q6
    refine xr_tabIn (off := 45) C 66 111 4 q6 dX8_gainOf_66 (by decide +kernel) (by decide +kernel) (by decide +kernel) rfl ?_
    refine xr_aload_n C 111 rfl dX8_gainOf_111 ?_
    refine xr_getR C 112 dX8_gainOf_112 fl_X8_9 rfl rfl ?_
    refine xr_bipush C 115 8 (by decide +kernel) dX8_gainOf_115 ?_
    refine xr_iald C 117 8 (by decide +kernel) dX8_gainOf_117 rfl (ibd_in (by decide +kernel)) ?_
    refine xr_iload C 118 rfl dX8_gainOf_118 ?_
    refine xr_imul C 120 dX8_gainOf_120 ?_
    cases h
    exact xr_iret C 121 E dX8_gainOf_121
  have h := g_if h q6
  by_cases q7 : x1 = 5
  · have h := g_it h q7
    refine xr_tabIn (off := 56) C 66 122 5 q7 dX8_gainOf_66 (by decide +kernel) (by decide +kernel) (by decide +kernel) rfl ?_
    refine xr_iload C 122 rfl dX8_gainOf_122 ?_
    refine xr_bipush C 124 9 (by decide +kernel) dX8_gainOf_124 ?_
    refine xr_icmp_ge C 126 136 dX8_gainOf_126 rfl (fun q => ?_) (fun q => ?_)
    · have h := g_it h q
      refine xr_iconst C 136 0 (by decide +kernel) dX8_gainOf_136 ?_
      cases h
      exact xr_iret C 137 E dX8_gainOf_137
    · have h := g_if h q
      refine xr_iconst C 129 3 (by decide +kernel) dX8_gainOf_129 ?_
      refine xr_iload C 130 rfl dX8_gainOf_130 ?_
      refine xr_imul C 132 dX8_gainOf_132 ?_
      refine xr_goto C 133 137 dX8_gainOf_133 rfl ?_
      cases h
      exact xr_iret C 137 E dX8_gainOf_137
  have h := g_if h q7
  have eq3 := xneI (z := 1) q3 (by decide +kernel)
  have eq4 := xneI (z := 2) q4 (by decide +kernel)
  have eq5 := xneI (z := 3) q5 (by decide +kernel)
  have eq6 := xneI (z := 4) q6 (by decide +kernel)
  have eq7 := xneI (z := 5) q7 (by decide +kernel)
  refine xr_tabOut C 66 138 dX8_gainOf_66 (by omega) rfl ?_
  refine xr_iload C 138 rfl dX8_gainOf_138 ?_
  cases h
  exact xr_iret C 140 E dX8_gainOf_140
set_option maxRecDepth 100000 in
set_option maxHeartbeats 4000000 in
theorem bX8_gainOf_44 {Γ : xΓ} (C : xOK Γ cX8_gainOf RX8 6) (hL : xn Γ = 9) {N : Nat} {w : xW} {x1 : Int32} {x4 : Int32} {x5 : Int32} {x6 : Int32} {s0 : Int32} {r : xW × Int32} (E : xEnd Γ (some .int) r.1 (some (.int r.2))) (h : fX8_gainOf_44 N w x1 x4 x5 x6 s0 = some r) : xG Γ w 44 [(0, .ref (xad Γ 55)), (1, .int x1), (4, .int x4), (5, .int x5), (6, .int x6)] [.int s0] := by
  unfold fX8_gainOf_44 at h
  refine xr_istore C 44 dX8_gainOf_44 (xnb hL rfl) ?_
  refine xr_iload C 46 rfl dX8_gainOf_46 ?_
  refine xr_aload_n C 48 rfl dX8_gainOf_48 ?_
  refine xr_getR C 49 dX8_gainOf_49 fl_X8_9 rfl rfl ?_
  refine xr_bipush C 52 7 (by decide +kernel) dX8_gainOf_52 ?_
  refine xr_iald C 54 7 (by decide +kernel) dX8_gainOf_54 rfl (ibd_in (by decide +kernel)) ?_
  refine xr_icmp_ne C 55 62 dX8_gainOf_55 rfl (fun q => ?_) (fun q => ?_)
  · have h := g_if h q
    refine xr_iconst C 62 0 (by decide +kernel) dX8_gainOf_62 ?_
    exact xG.sub (bX8_gainOf_63 C hL E h) ⟨rfl, rfl, rfl, rfl, rfl, trivial⟩
  · have h := g_it h q
    refine xr_iconst C 58 2 (by decide +kernel) dX8_gainOf_58 ?_
    refine xr_goto C 59 63 dX8_gainOf_59 rfl ?_
    exact xG.sub (bX8_gainOf_63 C hL E h) ⟨rfl, rfl, rfl, rfl, rfl, trivial⟩
set_option maxRecDepth 100000 in
set_option maxHeartbeats 4000000 in
theorem bX8_gainOf_0 {Γ : xΓ} (C : xOK Γ cX8_gainOf RX8 6) (hL : xn Γ = 9) {N : Nat} {w : xW} {x1 : Int32} {x2 : Int32} {x3 : Int32} {r : xW × Int32} (E : xEnd Γ (some .int) r.1 (some (.int r.2))) (h : fX8_gainOf_0 N w x1 x2 x3 = some r) : xG Γ w 0 [(0, .ref (xad Γ 55)), (1, .int x1), (2, .int x2), (3, .int x3)] [] := by
  unfold fX8_gainOf_0 at h
  refine xr_aload_n C 0 rfl dX8_gainOf_0 ?_
  refine xr_iload_n C 1 rfl dX8_gainOf_1 ?_
  refine xr_iload_n C 2 rfl dX8_gainOf_2 ?_
  obtain ⟨z1, q2, h⟩ := g_bind h
  refine xr_callV C 3 (mX8_sideOf q2) v_X8_sideOf ml_X8_146 (Nat.le_of_ble_eq_true rfl) (Nat.le_of_ble_eq_true rfl) (xrecv C rfl rfl) rfl rfl (Nat.le_of_ble_eq_true rfl) rfl dX8_gainOf_3 ?_
  refine xr_istore C 6 dX8_gainOf_6 (xnb hL rfl) ?_
  refine xr_iload_n C 8 rfl dX8_gainOf_8 ?_
  refine xr_callS C 9 (mX8_hourOf rfl) v_X8_hourOf ml_X8_170 (Nat.le_of_ble_eq_true rfl) (Nat.le_of_ble_eq_true rfl) rfl rfl (Nat.le_of_ble_eq_true rfl) rfl dX8_gainOf_9 ?_
  refine xr_istore C 12 dX8_gainOf_12 (xnb hL rfl) ?_
  refine xr_iload C 14 rfl dX8_gainOf_14 ?_
  refine xr_iload C 16 rfl dX8_gainOf_16 ?_
  refine xr_callS C 18 (mX8_sun rfl) v_X8_sun ml_X8_173 (Nat.le_of_ble_eq_true rfl) (Nat.le_of_ble_eq_true rfl) rfl rfl (Nat.le_of_ble_eq_true rfl) rfl dX8_gainOf_18 ?_
  refine xr_istore C 21 dX8_gainOf_21 (xnb hL rfl) ?_
  refine xr_iload C 23 rfl dX8_gainOf_23 ?_
  refine xr_if_le C 25 42 dX8_gainOf_25 rfl (fun q => ?_) (fun q => ?_)
  · have h := g_it h q
    refine xr_iload C 42 rfl dX8_gainOf_42 ?_
    exact xG.sub (bX8_gainOf_44 C hL E h) ⟨rfl, rfl, rfl, rfl, rfl, trivial⟩
  · have h := g_if h q
    refine xr_iload C 28 rfl dX8_gainOf_28 ?_
    refine xr_bipush C 30 12 (by decide +kernel) dX8_gainOf_30 ?_
    refine xr_icmp_lt C 32 42 dX8_gainOf_32 rfl (fun q => ?_) (fun q => ?_)
    · have h := g_it h q
      refine xr_iload C 42 rfl dX8_gainOf_42 ?_
      exact xG.sub (bX8_gainOf_44 C hL E h) ⟨rfl, rfl, rfl, rfl, rfl, trivial⟩
    · have h := g_if h q
      refine xr_iload C 35 rfl dX8_gainOf_35 ?_
      refine xr_iconst C 37 1 (by decide +kernel) dX8_gainOf_37 ?_
      refine xr_iadd C 38 dX8_gainOf_38 ?_
      refine xr_goto C 39 44 dX8_gainOf_39 rfl ?_
      exact xG.sub (bX8_gainOf_44 C hL E h) ⟨rfl, rfl, rfl, rfl, rfl, trivial⟩
set_option maxRecDepth 100000 in
set_option maxHeartbeats 4000000 in
theorem mX8_gainOf {l : Launch} {ad : Nat → Nat} {G : gEnv} {N : Nat} {w : xW} {x1 : Int32} {x2 : Int32} {x3 : Int32} {r : xW × Int32} (h : fX8_gainOf N w x1 x2 x3 = some r) : xCt l ad G 6 yX8_gainOf cX8_gainOf 9 (some .int) [.ref (ad 55), .int x1, .int x2, .int x3] w r.1 (some (.int r.2)) := xCt.of RX8 rfl (by decide +kernel) (Nat.le_of_ble_eq_true rfl) (fun Γ el ea eG eL C E => by
    subst el
    subst ea
    subst eG
    unfold fX8_gainOf at h
    exact xG.sub (bX8_gainOf_0 C eL  E h) ⟨rfl, rfl, rfl, rfl, trivial⟩)
def fX8_gain_33 (N : Nat) (w : xW) : Option (xW × Int32) :=
  (fX8_finding w (-1000000001)).bind fun z7 =>
  some (z7.1, z7.2)
def fX8_gain_0 (N : Nat) (w : xW) (x1 : Int32) (x2 : Int32) : Option (xW × Int32) :=
  if (fX8_isHouse w x1) = 0 then
    fX8_gain_33 N w
  else
  if (fX8_isTick x2) = 0 then
    fX8_gain_33 N w
  else
  (fX8_kindOf w x1).bind fun z1 =>
  (fX8_frontOf w x1).bind fun z3 =>
  (fX8_gainOf N w z1 z3 x2).bind fun z5 =>
  some (z5.1, z5.2)
def fX8_gain (N : Nat) (w : xW) (x1 : Int32) (x2 : Int32) : Option (xW × Int32) := fX8_gain_0 N w x1 x2
set_option maxRecDepth 100000 in
set_option maxHeartbeats 4000000 in
theorem bX8_gain_33 {Γ : xΓ} (C : xOK Γ cX8_gain RX8 7) (hL : xn Γ = 3) {N : Nat} {w : xW} {r : xW × Int32} (E : xEnd Γ (some .int) r.1 (some (.int r.2))) (h : fX8_gain_33 N w = some r) : xG Γ w 33 [(0, .ref (xad Γ 55))] [] := by
  unfold fX8_gain_33 at h
  refine xr_aload_n C 33 rfl dX8_gain_33 ?_
  refine xr_ldc C 34 k_X8_98 dX8_gain_34 ?_
  obtain ⟨z7, q8, h⟩ := g_bind h
  refine xr_callV C 36 (mX8_finding q8) v_X8_finding ml_X8_125 (Nat.le_of_ble_eq_true rfl) (Nat.le_of_ble_eq_true rfl) (xrecv C rfl rfl) rfl rfl (Nat.le_of_ble_eq_true rfl) rfl dX8_gain_36 ?_
  cases h
  exact xr_iret C 39 E dX8_gain_39
set_option maxRecDepth 100000 in
set_option maxHeartbeats 4000000 in
theorem bX8_gain_0 {Γ : xΓ} (C : xOK Γ cX8_gain RX8 7) (hL : xn Γ = 3) {N : Nat} {w : xW} {x1 : Int32} {x2 : Int32} {r : xW × Int32} (E : xEnd Γ (some .int) r.1 (some (.int r.2))) (h : fX8_gain_0 N w x1 x2 = some r) : xG Γ w 0 [(0, .ref (xad Γ 55)), (1, .int x1), (2, .int x2)] [] := by
  unfold fX8_gain_0 at h
  refine xr_aload_n C 0 rfl dX8_gain_0 ?_
  refine xr_iload_n C 1 rfl dX8_gain_1 ?_
  refine xr_callV C 2 (mX8_isHouse rfl) v_X8_isHouse ml_X8_157 (Nat.le_of_ble_eq_true rfl) (Nat.le_of_ble_eq_true rfl) (xrecv C rfl rfl) rfl rfl (Nat.le_of_ble_eq_true rfl) rfl dX8_gain_2 ?_
  refine xr_if_eq C 5 33 dX8_gain_5 rfl (fun q => ?_) (fun q => ?_)
  · have h := g_it h q
    exact xG.sub (bX8_gain_33 C hL E h) ⟨rfl, trivial⟩
  · have h := g_if h q
    refine xr_iload_n C 8 rfl dX8_gain_8 ?_
    refine xr_callS C 9 (mX8_isTick rfl) v_X8_isTick ml_X8_137 (Nat.le_of_ble_eq_true rfl) (Nat.le_of_ble_eq_true rfl) rfl rfl (Nat.le_of_ble_eq_true rfl) rfl dX8_gain_9 ?_
    refine xr_if_eq C 12 33 dX8_gain_12 rfl (fun q => ?_) (fun q => ?_)
    · have h := g_it h q
      exact xG.sub (bX8_gain_33 C hL E h) ⟨rfl, trivial⟩
    · have h := g_if h q
      refine xr_aload_n C 15 rfl dX8_gain_15 ?_
      refine xr_aload_n C 16 rfl dX8_gain_16 ?_
      refine xr_iload_n C 17 rfl dX8_gain_17 ?_
      obtain ⟨z1, q2, h⟩ := g_bind h
      refine xr_callV C 18 (mX8_kindOf q2) v_X8_kindOf ml_X8_160 (Nat.le_of_ble_eq_true rfl) (Nat.le_of_ble_eq_true rfl) (xrecv C rfl rfl) rfl rfl (Nat.le_of_ble_eq_true rfl) rfl dX8_gain_18 ?_
      refine xr_aload_n C 21 rfl dX8_gain_21 ?_
      refine xr_iload_n C 22 rfl dX8_gain_22 ?_
      obtain ⟨z3, q4, h⟩ := g_bind h
      refine xr_callV C 23 (mX8_frontOf q4) v_X8_frontOf ml_X8_167 (Nat.le_of_ble_eq_true rfl) (Nat.le_of_ble_eq_true rfl) (xrecv C rfl rfl) rfl rfl (Nat.le_of_ble_eq_true rfl) rfl dX8_gain_23 ?_
      refine xr_iload_n C 26 rfl dX8_gain_26 ?_
      obtain ⟨z5, q6, h⟩ := g_bind h
      refine xr_callV C 27 (mX8_gainOf q6) v_X8_gainOf ml_X8_176 (Nat.le_of_ble_eq_true rfl) (Nat.le_of_ble_eq_true rfl) (xrecv C rfl rfl) rfl rfl (Nat.le_of_ble_eq_true rfl) rfl dX8_gain_27 ?_
      refine xr_goto C 30 39 dX8_gain_30 rfl ?_
      cases h
      exact xr_iret C 39 E dX8_gain_39
set_option maxRecDepth 100000 in
set_option maxHeartbeats 4000000 in
theorem mX8_gain {l : Launch} {ad : Nat → Nat} {G : gEnv} {N : Nat} {w : xW} {x1 : Int32} {x2 : Int32} {r : xW × Int32} (h : fX8_gain N w x1 x2 = some r) : xCt l ad G 7 yX8_gain cX8_gain 3 (some .int) [.ref (ad 55), .int x1, .int x2] w r.1 (some (.int r.2)) := xCt.of RX8 rfl (by decide +kernel) (Nat.le_of_ble_eq_true rfl) (fun Γ el ea eG eL C E => by
    subst el
    subst ea
    subst eG
    unfold fX8_gain at h
    exact xG.sub (bX8_gain_0 C eL  E h) ⟨rfl, rfl, rfl, trivial⟩)
def fX7_isSpan_0 (x0 : Int32) (x1 : Int32) : Int32 :=
  if (fX7_isTick x0) = 0 then
    0
  else
  if x1 < 1 then
    0
  else
  if 960 < x1 then
    0
  else
  1
def fX7_isSpan (x0 : Int32) (x1 : Int32) : Int32 := fX7_isSpan_0 x0 x1
theorem xb_fX7_isSpan {x0 : Int32} {x1 : Int32} : xB (fX7_isSpan x0 x1) = true := by
  unfold fX7_isSpan fX7_isSpan_0
  repeat' split
  all_goals first | rfl | exact xb_fX7_isTick
set_option maxRecDepth 100000 in
set_option maxHeartbeats 4000000 in
theorem bX7_isSpan_0 {Γ : xΓ} (C : xOK Γ cX7_isSpan RX7 2) (hL : xn Γ = 2) {w : xW} {x0 : Int32} {x1 : Int32} {r : Int32} (E : xEnd Γ (some .boolean) w (some (.int r))) (h : fX7_isSpan_0  x0 x1 = r) : xG Γ w 0 [(0, .int x0), (1, .int x1)] [] := by
  unfold fX7_isSpan_0 at h
  refine xr_iload_n C 0 rfl dX7_isSpan_0 ?_
  refine xr_callS C 1 (mX7_isTick rfl) v_X7_isTick ml_X7_104 (Nat.le_of_ble_eq_true rfl) (Nat.le_of_ble_eq_true rfl) rfl rfl (Nat.le_of_ble_eq_true rfl) rfl dX7_isSpan_1 ?_
  refine xr_if_eq C 4 23 dX7_isSpan_4 rfl (fun q => ?_) (fun q => ?_)
  · have h := g_it h q
    refine xr_iconst C 23 0 (by decide +kernel) dX7_isSpan_23 ?_
    cases h
    exact xr_zret C 24 E dX7_isSpan_24 (by decide +kernel)
  · have h := g_if h q
    refine xr_iload_n C 7 rfl dX7_isSpan_7 ?_
    refine xr_iconst C 8 1 (by decide +kernel) dX7_isSpan_8 ?_
    refine xr_icmp_lt C 9 23 dX7_isSpan_9 rfl (fun q => ?_) (fun q => ?_)
    · have h := g_it h q
      refine xr_iconst C 23 0 (by decide +kernel) dX7_isSpan_23 ?_
      cases h
      exact xr_zret C 24 E dX7_isSpan_24 (by decide +kernel)
    · have h := g_if h q
      refine xr_iload_n C 12 rfl dX7_isSpan_12 ?_
      refine xr_sipush C 13 960 (by decide +kernel) dX7_isSpan_13 ?_
      refine xr_icmp_gt C 16 23 dX7_isSpan_16 rfl (fun q => ?_) (fun q => ?_)
      · have h := g_it h q
        refine xr_iconst C 23 0 (by decide +kernel) dX7_isSpan_23 ?_
        cases h
        exact xr_zret C 24 E dX7_isSpan_24 (by decide +kernel)
      · have h := g_if h q
        refine xr_iconst C 19 1 (by decide +kernel) dX7_isSpan_19 ?_
        refine xr_goto C 20 24 dX7_isSpan_20 rfl ?_
        cases h
        exact xr_zret C 24 E dX7_isSpan_24 (by decide +kernel)
set_option maxRecDepth 100000 in
set_option maxHeartbeats 4000000 in
theorem mX7_isSpan {l : Launch} {ad : Nat → Nat} {G : gEnv} {w : xW} {x0 : Int32} {x1 : Int32} {r : Int32} (h : fX7_isSpan x0 x1 = r) : xCt l ad G 2 yX7_isSpan cX7_isSpan 2 (some .boolean) [.int x0, .int x1] w w (some (.int r)) := xCt.of RX7 rfl (by decide +kernel) (Nat.le_of_ble_eq_true rfl) (fun Γ el ea eG eL C E => by
    subst el
    subst ea
    subst eG
    unfold fX7_isSpan at h
    exact xG.sub (bX7_isSpan_0 C eL  E h) ⟨rfl, rfl, trivial⟩)
def fJ7_fill_53178_5b (N : Nat) (K5 : xW → Int32 → Int32 → Int32 → Option xW) (w : xW) (x1 : Int32) (x2 : Int32) (x3 : Int32) : Option xW :=
  if x3 ≤ x2 then
    some w
  else
  if ibd x2 120 = true then
  K5 (sI w 32 x2.toNatClampNeg x1) x1 (x2 + 1) x3
  else none
def fJ7_fill_53178_5 (N : Nat) : Nat → xW → Int32 → Int32 → Int32 → Option xW
  | 0, _, _, _, _ => none
  | n + 1, w, x1, x2, x3 => fJ7_fill_53178_5b N (fJ7_fill_53178_5 N n) w x1 x2 x3
def fJ7_fill_53178_0 (N : Nat) (w : xW) (x1 : Int32) : Option xW :=
  fJ7_fill_53178_5 N N w x1 0 120
def fJ7_fill_53178 (N : Nat) (w : xW) (x1 : Int32) : Option xW := fJ7_fill_53178_0 N w x1
set_option maxRecDepth 100000 in
set_option maxHeartbeats 4000000 in
theorem bJ7_fill_53178_5b {Γ : xΓ} (C : xOK Γ cJ7_fill_53178 RJ7 1) (hL : xn Γ = 4) {N : Nat} {K5 : xW → Int32 → Int32 → Int32 → Option xW} {w : xW} {x1 : Int32} {x2 : Int32} {x3 : Int32} {r : xW} (E : xEnd Γ none r none) (hK5 : ∀ (w : xW) (x1 : Int32) (x2 : Int32) (x3 : Int32), K5 w x1 x2 x3 = some r → xG Γ w 5 [(0, .ref (xad Γ 32)), (1, .int x1), (2, .int x2), (3, .int x3)] []) (h : fJ7_fill_53178_5b N K5 w x1 x2 x3 = some r) : xG Γ w 5 [(0, .ref (xad Γ 32)), (1, .int x1), (2, .int x2), (3, .int x3)] [] := by
  unfold fJ7_fill_53178_5b at h
  refine xr_iload_n C 5 rfl dJ7_fill_53178_5 ?_
  refine xr_iload_n C 6 rfl dJ7_fill_53178_6 ?_
  refine xr_icmp_ge C 7 20 dJ7_fill_53178_7 rfl (fun q => ?_) (fun q => ?_)
  · have h := g_it h q
    cases h
    exact xr_vret C 20 E dJ7_fill_53178_20
  · have h := g_if h q
    refine xr_aload_n C 10 rfl dJ7_fill_53178_10 ?_
    refine xr_iload_n C 11 rfl dJ7_fill_53178_11 ?_
    refine xr_iload_n C 12 rfl dJ7_fill_53178_12 ?_
    obtain ⟨q1, h⟩ := g_ib h
    refine xr_iast C 13 x2.toNatClampNeg rfl dJ7_fill_53178_13 rfl (ibd_in q1) ?_
    refine xr_iinc C 14 1 (by decide +kernel) rfl dJ7_fill_53178_14 (xnb hL rfl) ?_
    refine xr_goto C 17 5 dJ7_fill_53178_17 rfl ?_
    exact xG.sub (hK5 _ _ _ _ h) ⟨rfl, rfl, rfl, rfl, trivial⟩
set_option maxRecDepth 100000 in
set_option maxHeartbeats 4000000 in
theorem bJ7_fill_53178_5 {Γ : xΓ} (C : xOK Γ cJ7_fill_53178 RJ7 1) (hL : xn Γ = 4) {N : Nat} {r : xW} (E : xEnd Γ none r none) : ∀ (n : Nat) (w : xW) (x1 : Int32) (x2 : Int32) (x3 : Int32), fJ7_fill_53178_5 N n w x1 x2 x3 = some r → xG Γ w 5 [(0, .ref (xad Γ 32)), (1, .int x1), (2, .int x2), (3, .int x3)] []
  | 0, _, _, _, _, h => by cases h
  | n + 1, w, x1, x2, x3, h => bJ7_fill_53178_5b C hL E (bJ7_fill_53178_5 C hL E n) h
set_option maxRecDepth 100000 in
set_option maxHeartbeats 4000000 in
theorem bJ7_fill_53178_0 {Γ : xΓ} (C : xOK Γ cJ7_fill_53178 RJ7 1) (hL : xn Γ = 4) {N : Nat} {w : xW} {x1 : Int32} {r : xW} (E : xEnd Γ none r none) (h : fJ7_fill_53178_0 N w x1 = some r) : xG Γ w 0 [(0, .ref (xad Γ 32)), (1, .int x1)] [] := by
  unfold fJ7_fill_53178_0 at h
  refine xr_iconst C 0 0 (by decide +kernel) dJ7_fill_53178_0 ?_
  refine xr_istore_n C 1 dJ7_fill_53178_1 (xnb hL rfl) ?_
  refine xr_aload_n C 2 rfl dJ7_fill_53178_2 ?_
  refine xr_alen_i C 3 120 (by decide +kernel) dJ7_fill_53178_3 rfl ?_
  refine xr_istore_n C 4 dJ7_fill_53178_4 (xnb hL rfl) ?_
  exact xG.sub (bJ7_fill_53178_5 C hL E N _ _ _ _ h) ⟨rfl, rfl, rfl, rfl, trivial⟩
set_option maxRecDepth 100000 in
set_option maxHeartbeats 4000000 in
theorem mJ7_fill_53178 {l : Launch} {ad : Nat → Nat} {G : gEnv} {N : Nat} {w : xW} {x1 : Int32} {r : xW} (h : fJ7_fill_53178 N w x1 = some r) : xCt l ad G 1 yJ7_fill_53178 cJ7_fill_53178 4 none [.ref (ad 32), .int x1] w r none := xCt.of RJ7 rfl (by decide +kernel) (Nat.le_of_ble_eq_true rfl) (fun Γ el ea eG eL C E => by
    subst el
    subst ea
    subst eG
    unfold fJ7_fill_53178 at h
    exact xG.sub (bJ7_fill_53178_0 C eL  E h) ⟨rfl, rfl, trivial⟩)
def fX3_watch_11b (N : Nat) (K11 : xW → Int32 → Int32 → Int32 → Option xW) (w : xW) (x2 : Int32) (x3 : Int32) (x4 : Int32) : Option xW :=
  if (x2 + x3) ≤ x4 then
    some w
  else
  (fX6_at N w x4).bind fun z3 =>
  if ibd (((1 + (fX6_sideOf z3 0)) * 24) + (fX7_hourOf x4)) 120 = true then
  K11 (sI z3 32 ((((1 + (fX6_sideOf z3 0)) * 24) + (fX7_hourOf x4)).toNatClampNeg) ((z3.1 32 ((((1 + (fX6_sideOf z3 0)) * 24) + (fX7_hourOf x4)).toNatClampNeg)) + 1)) x2 x3 (x4 + 1)
  else none
def fX3_watch_11 (N : Nat) : Nat → xW → Int32 → Int32 → Int32 → Option xW
  | 0, _, _, _, _ => none
  | n + 1, w, x2, x3, x4 => fX3_watch_11b N (fX3_watch_11 N n) w x2 x3 x4
def fX3_watch_0 (N : Nat) (w : xW) (x2 : Int32) (x3 : Int32) : Option xW :=
  (fJ7_fill_53178 N w 0).bind fun z1 =>
  fX3_watch_11 N N z1 x2 x3 x2
def fX3_watch (N : Nat) (w : xW) (x2 : Int32) (x3 : Int32) : Option xW := fX3_watch_0 N w x2 x3
set_option maxRecDepth 100000 in
set_option maxHeartbeats 4000000 in
theorem bX3_watch_11b {Γ : xΓ} (C : xOK Γ cX3_watch RX3 3) (hL : xn Γ = 5) {N : Nat} {K11 : xW → Int32 → Int32 → Int32 → Option xW} {w : xW} {x2 : Int32} {x3 : Int32} {x4 : Int32} {r : xW} (E : xEnd Γ none r none) (hK11 : ∀ (w : xW) (x2 : Int32) (x3 : Int32) (x4 : Int32), K11 w x2 x3 x4 = some r → xG Γ w 11 [(0, .ref (xad Γ 31)), (1, .ref (xad Γ 2)), (2, .int x2), (3, .int x3), (4, .int x4)] []) (h : fX3_watch_11b N K11 w x2 x3 x4 = some r) : xG Γ w 11 [(0, .ref (xad Γ 31)), (1, .ref (xad Γ 2)), (2, .int x2), (3, .int x3), (4, .int x4)] [] := by
  unfold fX3_watch_11b at h
  refine xr_iload C 11 rfl dX3_watch_11 ?_
  refine xr_iload_n C 13 rfl dX3_watch_13 ?_
  refine xr_iload_n C 14 rfl dX3_watch_14 ?_
  refine xr_iadd C 15 dX3_watch_15 ?_
  refine xr_icmp_ge C 16 56 dX3_watch_16 rfl (fun q => ?_) (fun q => ?_)
  · have h := g_it h q
    cases h
    exact xr_vret C 56 E dX3_watch_56
  · have h := g_if h q
    refine xr_aload_n C 19 rfl dX3_watch_19 ?_
    refine xr_iload C 20 rfl dX3_watch_20 ?_
    obtain ⟨z3, q4, h⟩ := g_bind h
    refine xr_callV C 22 (mX6_at q4) v_X6_at ml_X3_26 (Nat.le_of_ble_eq_true rfl) (Nat.le_of_ble_eq_true rfl) (xrecv C rfl rfl) rfl rfl (Nat.le_of_ble_eq_true rfl) rfl dX3_watch_22 ?_
    refine xr_aload_n C 25 rfl dX3_watch_25 ?_
    refine xr_getR C 26 dX3_watch_26 fl_X3_9 rfl rfl ?_
    refine xr_iconst C 29 1 (by decide +kernel) dX3_watch_29 ?_
    refine xr_aload_n C 30 rfl dX3_watch_30 ?_
    refine xr_iconst C 31 0 (by decide +kernel) dX3_watch_31 ?_
    refine xr_callV C 32 (mX6_sideOf rfl) v_X6_sideOf ml_X3_32 (Nat.le_of_ble_eq_true rfl) (Nat.le_of_ble_eq_true rfl) (xrecv C rfl rfl) rfl rfl (Nat.le_of_ble_eq_true rfl) rfl dX3_watch_32 ?_
    refine xr_iadd C 35 dX3_watch_35 ?_
    refine xr_bipush C 36 24 (by decide +kernel) dX3_watch_36 ?_
    refine xr_imul C 38 dX3_watch_38 ?_
    refine xr_iload C 39 rfl dX3_watch_39 ?_
    refine xr_callSN C 41 (mX7_hourOf rfl) v_X7_hourOf (C.e.2.2.2.2.2.2.2.2.2.2.1 _ (List.mem_of_getElem? (i := 0) rfl)) (Nat.le_of_ble_eq_true rfl) (Nat.le_of_ble_eq_true rfl) rfl rfl (Nat.le_of_ble_eq_true rfl) rfl dX3_watch_41 ?_
    refine xr_iadd C 44 dX3_watch_44 ?_
    refine xr_dup2 C 45 rfl rfl dX3_watch_45 ?_
    obtain ⟨q5, h⟩ := g_ib h
    refine xr_iald C 46 ((((1 + (fX6_sideOf z3 0)) * 24) + (fX7_hourOf x4)).toNatClampNeg) rfl dX3_watch_46 rfl (ibd_in q5) ?_
    refine xr_iconst C 47 1 (by decide +kernel) dX3_watch_47 ?_
    refine xr_iadd C 48 dX3_watch_48 ?_
    refine xr_iast C 49 ((((1 + (fX6_sideOf z3 0)) * 24) + (fX7_hourOf x4)).toNatClampNeg) rfl dX3_watch_49 rfl (ibd_in q5) ?_
    refine xr_iinc C 50 1 (by decide +kernel) rfl dX3_watch_50 (xnb hL rfl) ?_
    refine xr_goto C 53 11 dX3_watch_53 rfl ?_
    exact xG.sub (hK11 _ _ _ _ h) ⟨rfl, rfl, rfl, rfl, rfl, trivial⟩
set_option maxRecDepth 100000 in
set_option maxHeartbeats 4000000 in
theorem bX3_watch_11 {Γ : xΓ} (C : xOK Γ cX3_watch RX3 3) (hL : xn Γ = 5) {N : Nat} {r : xW} (E : xEnd Γ none r none) : ∀ (n : Nat) (w : xW) (x2 : Int32) (x3 : Int32) (x4 : Int32), fX3_watch_11 N n w x2 x3 x4 = some r → xG Γ w 11 [(0, .ref (xad Γ 31)), (1, .ref (xad Γ 2)), (2, .int x2), (3, .int x3), (4, .int x4)] []
  | 0, _, _, _, _, h => by cases h
  | n + 1, w, x2, x3, x4, h => bX3_watch_11b C hL E (bX3_watch_11 C hL E n) h
set_option maxRecDepth 100000 in
set_option maxHeartbeats 4000000 in
theorem bX3_watch_0 {Γ : xΓ} (C : xOK Γ cX3_watch RX3 3) (hL : xn Γ = 5) {N : Nat} {w : xW} {x2 : Int32} {x3 : Int32} {r : xW} (E : xEnd Γ none r none) (h : fX3_watch_0 N w x2 x3 = some r) : xG Γ w 0 [(0, .ref (xad Γ 31)), (1, .ref (xad Γ 2)), (2, .int x2), (3, .int x3)] [] := by
  unfold fX3_watch_0 at h
  refine xr_aload_n C 0 rfl dX3_watch_0 ?_
  refine xr_getR C 1 dX3_watch_1 fl_X3_9 rfl rfl ?_
  refine xr_iconst C 4 0 (by decide +kernel) dX3_watch_4 ?_
  obtain ⟨z1, q2, h⟩ := g_bind h
  refine xr_callS C 5 (mJ7_fill_53178 q2) v_J7_fill_53178 ml_X3_20 (Nat.le_of_ble_eq_true rfl) (Nat.le_of_ble_eq_true rfl) rfl rfl (Nat.le_of_ble_eq_true rfl) rfl dX3_watch_5 ?_
  refine xr_iload_n C 8 rfl dX3_watch_8 ?_
  refine xr_istore C 9 dX3_watch_9 (xnb hL rfl) ?_
  exact xG.sub (bX3_watch_11 C hL E N _ _ _ _ h) ⟨rfl, rfl, rfl, rfl, rfl, trivial⟩
set_option maxRecDepth 100000 in
set_option maxHeartbeats 4000000 in
theorem mX3_watch {l : Launch} {ad : Nat → Nat} {G : gEnv} {N : Nat} {w : xW} {x2 : Int32} {x3 : Int32} {r : xW} (h : fX3_watch N w x2 x3 = some r) : xCt l ad G 3 yX3_watch cX3_watch 5 none [.ref (ad 31), .ref (ad 2), .int x2, .int x3] w r none := xCt.of RX3 rfl (by decide +kernel) (Nat.le_of_ble_eq_true rfl) (fun Γ el ea eG eL C E => by
    subst el
    subst ea
    subst eG
    unfold fX3_watch at h
    exact xG.sub (bX3_watch_0 C eL  E h) ⟨rfl, rfl, rfl, rfl, trivial⟩)
def fX3_sumOf_77 (N : Nat) (w : xW) (K6 : Int32 → Int32 → Int32 → Int32 → Option Int32) (x2 : Int32) (x3 : Int32) (x4 : Int32) (x5 : Int32) : Option Int32 :=
  K6 x2 x3 x4 (x5 + 1)
def fX3_sumOf_50 (N : Nat) (w : xW) (K6 : Int32 → Int32 → Int32 → Int32 → Option Int32) (x2 : Int32) (x3 : Int32) (x4 : Int32) (x5 : Int32) (s0 : Int32) : Option Int32 :=
  if ibd x5 120 = true then
  fX3_sumOf_77 N w K6 x2 x3 (x4 + ((w.1 32 x5.toNatClampNeg) * (fX1_gainOf w x2 s0 (irem x5 24)))) x5
  else none
def fX3_sumOf_6b (N : Nat) (w : xW) (K6 : Int32 → Int32 → Int32 → Int32 → Option Int32) (x2 : Int32) (x3 : Int32) (x4 : Int32) (x5 : Int32) : Option Int32 :=
  if 120 ≤ x5 then
    some x4
  else
  if ibd x5 120 = true then
  if (w.1 32 x5.toNatClampNeg) = 0 then
    fX3_sumOf_77 N w K6 x2 x3 x4 x5
  else
  if (x5 / 24) = 0 then
    fX3_sumOf_50 N w K6 x2 x3 x4 x5 (-1)
  else
  fX3_sumOf_50 N w K6 x2 x3 x4 x5 ((((x5 / 24) - 1) + x3) &&& 3)
  else none
def fX3_sumOf_6 (N : Nat) (w : xW) : Nat → Int32 → Int32 → Int32 → Int32 → Option Int32
  | 0, _, _, _, _ => none
  | n + 1, x2, x3, x4, x5 => fX3_sumOf_6b N w (fX3_sumOf_6 N w n) x2 x3 x4 x5
def fX3_sumOf_0 (N : Nat) (w : xW) (x2 : Int32) (x3 : Int32) : Option Int32 :=
  fX3_sumOf_6 N w N x2 x3 0 0
def fX3_sumOf (N : Nat) (w : xW) (x2 : Int32) (x3 : Int32) : Option Int32 := fX3_sumOf_0 N w x2 x3
set_option maxRecDepth 100000 in
set_option maxHeartbeats 4000000 in
theorem bX3_sumOf_77 {Γ : xΓ} (C : xOK Γ cX3_sumOf RX3 4) (hL : xn Γ = 8) {N : Nat} {K6 : Int32 → Int32 → Int32 → Int32 → Option Int32} {w : xW} {x2 : Int32} {x3 : Int32} {x4 : Int32} {x5 : Int32} {r : Int32} (E : xEnd Γ (some .int) w (some (.int r))) (hK6 : ∀ (x2 : Int32) (x3 : Int32) (x4 : Int32) (x5 : Int32), K6 x2 x3 x4 x5 = some r → xG Γ w 6 [(0, .ref (xad Γ 31)), (1, .ref (xad Γ 1)), (2, .int x2), (3, .int x3), (4, .int x4), (5, .int x5)] []) (h : fX3_sumOf_77 N w K6 x2 x3 x4 x5 = some r) : xG Γ w 77 [(0, .ref (xad Γ 31)), (1, .ref (xad Γ 1)), (2, .int x2), (3, .int x3), (4, .int x4), (5, .int x5)] [] := by
  unfold fX3_sumOf_77 at h
  refine xr_iinc C 77 1 (by decide +kernel) rfl dX3_sumOf_77 (xnb hL rfl) ?_
  refine xr_goto C 80 6 dX3_sumOf_80 rfl ?_
  exact xG.sub (hK6 _ _ _ _ h) ⟨rfl, rfl, rfl, rfl, rfl, rfl, trivial⟩
set_option maxRecDepth 100000 in
set_option maxHeartbeats 4000000 in
theorem bX3_sumOf_50 {Γ : xΓ} (C : xOK Γ cX3_sumOf RX3 4) (hL : xn Γ = 8) {N : Nat} {K6 : Int32 → Int32 → Int32 → Int32 → Option Int32} {w : xW} {x2 : Int32} {x3 : Int32} {x4 : Int32} {x5 : Int32} {s0 : Int32} {r : Int32} (E : xEnd Γ (some .int) w (some (.int r))) (hK6 : ∀ (x2 : Int32) (x3 : Int32) (x4 : Int32) (x5 : Int32), K6 x2 x3 x4 x5 = some r → xG Γ w 6 [(0, .ref (xad Γ 31)), (1, .ref (xad Γ 1)), (2, .int x2), (3, .int x3), (4, .int x4), (5, .int x5)] []) (h : fX3_sumOf_50 N w K6 x2 x3 x4 x5 s0 = some r) : xG Γ w 50 [(0, .ref (xad Γ 31)), (1, .ref (xad Γ 1)), (2, .int x2), (3, .int x3), (4, .int x4), (5, .int x5)] [.int s0] := by
  unfold fX3_sumOf_50 at h
  refine xr_istore C 50 dX3_sumOf_50 (xnb hL rfl) ?_
  refine xr_iload C 52 rfl dX3_sumOf_52 ?_
  refine xr_aload_n C 54 rfl dX3_sumOf_54 ?_
  refine xr_getR C 55 dX3_sumOf_55 fl_X3_9 rfl rfl ?_
  refine xr_iload C 58 rfl dX3_sumOf_58 ?_
  obtain ⟨q2, h⟩ := g_ib h
  refine xr_iald C 60 x5.toNatClampNeg rfl dX3_sumOf_60 rfl (ibd_in q2) ?_
  refine xr_aload_n C 61 rfl dX3_sumOf_61 ?_
  refine xr_iload_n C 62 rfl dX3_sumOf_62 ?_
  refine xr_iload C 63 rfl dX3_sumOf_63 ?_
  refine xr_iload C 65 rfl dX3_sumOf_65 ?_
  refine xr_bipush C 67 24 (by decide +kernel) dX3_sumOf_67 ?_
  refine xr_irem C 69 (by decide +kernel) dX3_sumOf_69 ?_
  refine xr_callV C 70 (mX1_gainOf rfl) v_X1_gainOf ml_X3_39 (Nat.le_of_ble_eq_true rfl) (Nat.le_of_ble_eq_true rfl) (xrecv C rfl rfl) rfl rfl (Nat.le_of_ble_eq_true rfl) rfl dX3_sumOf_70 ?_
  refine xr_imul C 73 dX3_sumOf_73 ?_
  refine xr_iadd C 74 dX3_sumOf_74 ?_
  refine xr_istore C 75 dX3_sumOf_75 (xnb hL rfl) ?_
  exact xG.sub (bX3_sumOf_77 C hL E hK6 h) ⟨rfl, rfl, rfl, rfl, rfl, rfl, trivial⟩
set_option maxRecDepth 100000 in
set_option maxHeartbeats 4000000 in
theorem bX3_sumOf_6b {Γ : xΓ} (C : xOK Γ cX3_sumOf RX3 4) (hL : xn Γ = 8) {N : Nat} {K6 : Int32 → Int32 → Int32 → Int32 → Option Int32} {w : xW} {x2 : Int32} {x3 : Int32} {x4 : Int32} {x5 : Int32} {r : Int32} (E : xEnd Γ (some .int) w (some (.int r))) (hK6 : ∀ (x2 : Int32) (x3 : Int32) (x4 : Int32) (x5 : Int32), K6 x2 x3 x4 x5 = some r → xG Γ w 6 [(0, .ref (xad Γ 31)), (1, .ref (xad Γ 1)), (2, .int x2), (3, .int x3), (4, .int x4), (5, .int x5)] []) (h : fX3_sumOf_6b N w K6 x2 x3 x4 x5 = some r) : xG Γ w 6 [(0, .ref (xad Γ 31)), (1, .ref (xad Γ 1)), (2, .int x2), (3, .int x3), (4, .int x4), (5, .int x5)] [] := by
  unfold fX3_sumOf_6b at h
  refine xr_iload C 6 rfl dX3_sumOf_6 ?_
  refine xr_aload_n C 8 rfl dX3_sumOf_8 ?_
  refine xr_getR C 9 dX3_sumOf_9 fl_X3_9 rfl rfl ?_
  refine xr_alen_i C 12 120 (by decide +kernel) dX3_sumOf_12 rfl ?_
  refine xr_icmp_ge C 13 83 dX3_sumOf_13 rfl (fun q => ?_) (fun q => ?_)
  · have h := g_it h q
    refine xr_iload C 83 rfl dX3_sumOf_83 ?_
    cases h
    exact xr_iret C 85 E dX3_sumOf_85
  · have h := g_if h q
    refine xr_aload_n C 16 rfl dX3_sumOf_16 ?_
    refine xr_getR C 17 dX3_sumOf_17 fl_X3_9 rfl rfl ?_
    refine xr_iload C 20 rfl dX3_sumOf_20 ?_
    obtain ⟨q1, h⟩ := g_ib h
    refine xr_iald C 22 x5.toNatClampNeg rfl dX3_sumOf_22 rfl (ibd_in q1) ?_
    refine xr_if_eq C 23 77 dX3_sumOf_23 rfl (fun q => ?_) (fun q => ?_)
    · have h := g_it h q
      exact xG.sub (bX3_sumOf_77 C hL E hK6 h) ⟨rfl, rfl, rfl, rfl, rfl, rfl, trivial⟩
    · have h := g_if h q
      refine xr_iload C 26 rfl dX3_sumOf_26 ?_
      refine xr_bipush C 28 24 (by decide +kernel) dX3_sumOf_28 ?_
      refine xr_idiv C 30 (by decide +kernel) dX3_sumOf_30 ?_
      refine xr_istore C 31 dX3_sumOf_31 (xnb hL rfl) ?_
      refine xr_iload C 33 rfl dX3_sumOf_33 ?_
      refine xr_if_ne C 35 42 dX3_sumOf_35 rfl (fun q => ?_) (fun q => ?_)
      · have h := g_if h q
        refine xr_iload C 42 rfl dX3_sumOf_42 ?_
        refine xr_iconst C 44 1 (by decide +kernel) dX3_sumOf_44 ?_
        refine xr_isub C 45 dX3_sumOf_45 ?_
        refine xr_iload_n C 46 rfl dX3_sumOf_46 ?_
        refine xr_iadd C 47 dX3_sumOf_47 ?_
        refine xr_iconst C 48 3 (by decide +kernel) dX3_sumOf_48 ?_
        refine xr_iand C 49 dX3_sumOf_49 ?_
        exact xG.sub (bX3_sumOf_50 C hL E hK6 h) ⟨rfl, rfl, rfl, rfl, rfl, rfl, trivial⟩
      · have h := g_it h q
        refine xr_iconst C 38 (-1) (by decide +kernel) dX3_sumOf_38 ?_
        refine xr_goto C 39 50 dX3_sumOf_39 rfl ?_
        exact xG.sub (bX3_sumOf_50 C hL E hK6 h) ⟨rfl, rfl, rfl, rfl, rfl, rfl, trivial⟩
set_option maxRecDepth 100000 in
set_option maxHeartbeats 4000000 in
theorem bX3_sumOf_6 {Γ : xΓ} (C : xOK Γ cX3_sumOf RX3 4) (hL : xn Γ = 8) {N : Nat} {w : xW} {r : Int32} (E : xEnd Γ (some .int) w (some (.int r))) : ∀ (n : Nat) (x2 : Int32) (x3 : Int32) (x4 : Int32) (x5 : Int32), fX3_sumOf_6 N w n x2 x3 x4 x5 = some r → xG Γ w 6 [(0, .ref (xad Γ 31)), (1, .ref (xad Γ 1)), (2, .int x2), (3, .int x3), (4, .int x4), (5, .int x5)] []
  | 0, _, _, _, _, h => by cases h
  | n + 1, x2, x3, x4, x5, h => bX3_sumOf_6b C hL E (bX3_sumOf_6 C hL E n) h
set_option maxRecDepth 100000 in
set_option maxHeartbeats 4000000 in
theorem bX3_sumOf_0 {Γ : xΓ} (C : xOK Γ cX3_sumOf RX3 4) (hL : xn Γ = 8) {N : Nat} {w : xW} {x2 : Int32} {x3 : Int32} {r : Int32} (E : xEnd Γ (some .int) w (some (.int r))) (h : fX3_sumOf_0 N w x2 x3 = some r) : xG Γ w 0 [(0, .ref (xad Γ 31)), (1, .ref (xad Γ 1)), (2, .int x2), (3, .int x3)] [] := by
  unfold fX3_sumOf_0 at h
  refine xr_iconst C 0 0 (by decide +kernel) dX3_sumOf_0 ?_
  refine xr_istore C 1 dX3_sumOf_1 (xnb hL rfl) ?_
  refine xr_iconst C 3 0 (by decide +kernel) dX3_sumOf_3 ?_
  refine xr_istore C 4 dX3_sumOf_4 (xnb hL rfl) ?_
  exact xG.sub (bX3_sumOf_6 C hL E N _ _ _ _ h) ⟨rfl, rfl, rfl, rfl, rfl, rfl, trivial⟩
set_option maxRecDepth 100000 in
set_option maxHeartbeats 4000000 in
theorem mX3_sumOf {l : Launch} {ad : Nat → Nat} {G : gEnv} {N : Nat} {w : xW} {x2 : Int32} {x3 : Int32} {r : Int32} (h : fX3_sumOf N w x2 x3 = some r) : xCt l ad G 4 yX3_sumOf cX3_sumOf 8 (some .int) [.ref (ad 31), .ref (ad 1), .int x2, .int x3] w w (some (.int r)) := xCt.of RX3 rfl (by decide +kernel) (Nat.le_of_ble_eq_true rfl) (fun Γ el ea eG eL C E => by
    subst el
    subst ea
    subst eG
    unfold fX3_sumOf at h
    exact xG.sub (bX3_sumOf_0 C eL  E h) ⟨rfl, rfl, rfl, rfl, trivial⟩)
def fX7_sum_16 (N : Nat) (w : xW) : Option (xW × Int32) :=
  (fX7_refuse w (-1000000001)).bind fun z6 =>
  some (z6.1, z6.2)
def fX7_sum_0 (N : Nat) (w : xW) (x1 : Int32) (x2 : Int32) (x3 : Int32) : Option (xW × Int32) :=
  if (fX7_isHouse w x1) = 0 then
    fX7_sum_16 N w
  else
  if (fX7_isSpan x2 x3) = 0 then
    fX7_sum_16 N w
  else
  (fX3_watch N w x2 x3).bind fun z1 =>
  if ibd x1 8 = true then
  (fX3_sumOf N z1 (z1.1 5 x1.toNatClampNeg) (z1.1 6 x1.toNatClampNeg)).bind fun z4 =>
  some (z1, z4)
  else none
def fX7_sum (N : Nat) (w : xW) (x1 : Int32) (x2 : Int32) (x3 : Int32) : Option (xW × Int32) := fX7_sum_0 N w x1 x2 x3
set_option maxRecDepth 100000 in
set_option maxHeartbeats 4000000 in
theorem bX7_sum_16 {Γ : xΓ} (C : xOK Γ cX7_sum RX7 5) (hL : xn Γ = 4) {N : Nat} {w : xW} {r : xW × Int32} (E : xEnd Γ (some .int) r.1 (some (.int r.2))) (h : fX7_sum_16 N w = some r) : xG Γ w 16 [(0, .ref (xad Γ 0))] [] := by
  unfold fX7_sum_16 at h
  refine xr_aload_n C 16 rfl dX7_sum_16 ?_
  refine xr_ldc C 17 k_X7_69 dX7_sum_17 ?_
  obtain ⟨z6, q7, h⟩ := g_bind h
  refine xr_callV C 19 (mX7_refuse q7) v_X7_refuse ml_X7_70 (Nat.le_of_ble_eq_true rfl) (Nat.le_of_ble_eq_true rfl) (xrecv C rfl rfl) rfl rfl (Nat.le_of_ble_eq_true rfl) rfl dX7_sum_19 ?_
  cases h
  exact xr_iret C 22 E dX7_sum_22
set_option maxRecDepth 100000 in
set_option maxHeartbeats 4000000 in
theorem bX7_sum_0 {Γ : xΓ} (C : xOK Γ cX7_sum RX7 5) (hL : xn Γ = 4) {N : Nat} {w : xW} {x1 : Int32} {x2 : Int32} {x3 : Int32} {r : xW × Int32} (E : xEnd Γ (some .int) r.1 (some (.int r.2))) (h : fX7_sum_0 N w x1 x2 x3 = some r) : xG Γ w 0 [(0, .ref (xad Γ 0)), (1, .int x1), (2, .int x2), (3, .int x3)] [] := by
  unfold fX7_sum_0 at h
  refine xr_aload_n C 0 rfl dX7_sum_0 ?_
  refine xr_iload_n C 1 rfl dX7_sum_1 ?_
  refine xr_callV C 2 (mX7_isHouse rfl) v_X7_isHouse ml_X7_135 (Nat.le_of_ble_eq_true rfl) (Nat.le_of_ble_eq_true rfl) (xrecv C rfl rfl) rfl rfl (Nat.le_of_ble_eq_true rfl) rfl dX7_sum_2 ?_
  refine xr_if_eq C 5 16 dX7_sum_5 rfl (fun q => ?_) (fun q => ?_)
  · have h := g_it h q
    exact xG.sub (bX7_sum_16 C hL E h) ⟨rfl, trivial⟩
  · have h := g_if h q
    refine xr_iload_n C 8 rfl dX7_sum_8 ?_
    refine xr_iload_n C 9 rfl dX7_sum_9 ?_
    refine xr_callS C 10 (mX7_isSpan rfl) v_X7_isSpan ml_X7_155 (Nat.le_of_ble_eq_true rfl) (Nat.le_of_ble_eq_true rfl) rfl rfl (Nat.le_of_ble_eq_true rfl) rfl dX7_sum_10 ?_
    refine xr_if_ne C 13 23 dX7_sum_13 rfl (fun q => ?_) (fun q => ?_)
    · have h := g_if h q
      refine xr_aload_n C 23 rfl dX7_sum_23 ?_
      refine xr_getR C 24 dX7_sum_24 fl_X7_29 rfl rfl ?_
      refine xr_aload_n C 27 rfl dX7_sum_27 ?_
      refine xr_getR C 28 dX7_sum_28 fl_X7_10 rfl rfl ?_
      refine xr_getR C 31 dX7_sum_31 fl_X7_77 rfl rfl ?_
      refine xr_iload_n C 34 rfl dX7_sum_34 ?_
      refine xr_iload_n C 35 rfl dX7_sum_35 ?_
      obtain ⟨z1, q2, h⟩ := g_bind h
      refine xr_callV C 36 (mX3_watch q2) v_X3_watch ml_X7_158 (Nat.le_of_ble_eq_true rfl) (Nat.le_of_ble_eq_true rfl) (xrecv C rfl rfl) rfl rfl (Nat.le_of_ble_eq_true rfl) rfl dX7_sum_36 ?_
      refine xr_aload_n C 39 rfl dX7_sum_39 ?_
      refine xr_getR C 40 dX7_sum_40 fl_X7_29 rfl rfl ?_
      refine xr_aload_n C 43 rfl dX7_sum_43 ?_
      refine xr_getR C 44 dX7_sum_44 fl_X7_10 rfl rfl ?_
      refine xr_aload_n C 47 rfl dX7_sum_47 ?_
      refine xr_getR C 48 dX7_sum_48 fl_X7_10 rfl rfl ?_
      refine xr_getR C 51 dX7_sum_51 fl_X7_138 rfl rfl ?_
      refine xr_iload_n C 54 rfl dX7_sum_54 ?_
      obtain ⟨q3, h⟩ := g_ib h
      refine xr_iald C 55 x1.toNatClampNeg rfl dX7_sum_55 rfl (ibd_in q3) ?_
      refine xr_aload_n C 56 rfl dX7_sum_56 ?_
      refine xr_getR C 57 dX7_sum_57 fl_X7_10 rfl rfl ?_
      refine xr_getR C 60 dX7_sum_60 fl_X7_141 rfl rfl ?_
      refine xr_iload_n C 63 rfl dX7_sum_63 ?_
      refine xr_iald C 64 x1.toNatClampNeg rfl dX7_sum_64 rfl (ibd_in q3) ?_
      obtain ⟨z4, q5, h⟩ := g_bind h
      refine xr_callV C 65 (mX3_sumOf q5) v_X3_sumOf ml_X7_162 (Nat.le_of_ble_eq_true rfl) (Nat.le_of_ble_eq_true rfl) (xrecv C rfl rfl) rfl rfl (Nat.le_of_ble_eq_true rfl) rfl dX7_sum_65 ?_
      cases h
      exact xr_iret C 68 E dX7_sum_68
    · have h := g_it h q
      exact xG.sub (bX7_sum_16 C hL E h) ⟨rfl, trivial⟩
set_option maxRecDepth 100000 in
set_option maxHeartbeats 4000000 in
theorem mX7_sum {l : Launch} {ad : Nat → Nat} {G : gEnv} {N : Nat} {w : xW} {x1 : Int32} {x2 : Int32} {x3 : Int32} {r : xW × Int32} (h : fX7_sum N w x1 x2 x3 = some r) : xCt l ad G 5 yX7_sum cX7_sum 4 (some .int) [.ref (ad 0), .int x1, .int x2, .int x3] w r.1 (some (.int r.2)) := xCt.of RX7 rfl (by decide +kernel) (Nat.le_of_ble_eq_true rfl) (fun Γ el ea eG eL C E => by
    subst el
    subst ea
    subst eG
    unfold fX7_sum at h
    exact xG.sub (bX7_sum_0 C eL  E h) ⟨rfl, rfl, rfl, rfl, trivial⟩)
def fX8_isSpan_0 (x0 : Int32) : Int32 :=
  (fX8_within x0 1 960)
def fX8_isSpan (x0 : Int32) : Int32 := fX8_isSpan_0 x0
theorem xb_fX8_isSpan {x0 : Int32} : xB (fX8_isSpan x0) = true := by
  unfold fX8_isSpan fX8_isSpan_0
  repeat' split
  all_goals first | rfl | exact xb_fX8_within
set_option maxRecDepth 100000 in
set_option maxHeartbeats 4000000 in
theorem bX8_isSpan_0 {Γ : xΓ} (C : xOK Γ cX8_isSpan RX8 2) (hL : xn Γ = 1) {w : xW} {x0 : Int32} {r : Int32} (E : xEnd Γ (some .boolean) w (some (.int r))) (h : fX8_isSpan_0  x0 = r) : xG Γ w 0 [(0, .int x0)] [] := by
  unfold fX8_isSpan_0 at h
  refine xr_iload_n C 0 rfl dX8_isSpan_0 ?_
  refine xr_iconst C 1 1 (by decide +kernel) dX8_isSpan_1 ?_
  refine xr_sipush C 2 960 (by decide +kernel) dX8_isSpan_2 ?_
  refine xr_callS C 5 (mX8_within rfl) v_X8_within ml_X8_121 (Nat.le_of_ble_eq_true rfl) (Nat.le_of_ble_eq_true rfl) rfl rfl (Nat.le_of_ble_eq_true rfl) rfl dX8_isSpan_5 ?_
  cases h
  exact xr_zret C 8 E dX8_isSpan_8 (xb_fX8_within)
set_option maxRecDepth 100000 in
set_option maxHeartbeats 4000000 in
theorem mX8_isSpan {l : Launch} {ad : Nat → Nat} {G : gEnv} {w : xW} {x0 : Int32} {r : Int32} (h : fX8_isSpan x0 = r) : xCt l ad G 2 yX8_isSpan cX8_isSpan 1 (some .boolean) [.int x0] w w (some (.int r)) := xCt.of RX8 rfl (by decide +kernel) (Nat.le_of_ble_eq_true rfl) (fun Γ el ea eG eL C E => by
    subst el
    subst ea
    subst eG
    unfold fX8_isSpan at h
    exact xG.sub (bX8_isSpan_0 C eL  E h) ⟨rfl, trivial⟩)
def fX8_sumOf_6b (N : Nat) (K6 : xW → Int32 → Int32 → Int32 → Int32 → Int32 → Int32 → Option (xW × Int32)) (w : xW) (x1 : Int32) (x2 : Int32) (x3 : Int32) (x4 : Int32) (x5 : Int32) (x6 : Int32) : Option (xW × Int32) :=
  if (x3 + x4) ≤ x6 then
    some (w, x5)
  else
  (fX8_kindOf w x1).bind fun z1 =>
  (fX8_gainOf N w z1 x2 x6).bind fun z3 =>
  K6 z3.1 x1 x2 x3 x4 (x5 + z3.2) (x6 + 1)
def fX8_sumOf_6 (N : Nat) : Nat → xW → Int32 → Int32 → Int32 → Int32 → Int32 → Int32 → Option (xW × Int32)
  | 0, _, _, _, _, _, _, _ => none
  | n + 1, w, x1, x2, x3, x4, x5, x6 => fX8_sumOf_6b N (fX8_sumOf_6 N n) w x1 x2 x3 x4 x5 x6
def fX8_sumOf_0 (N : Nat) (w : xW) (x1 : Int32) (x2 : Int32) (x3 : Int32) (x4 : Int32) : Option (xW × Int32) :=
  fX8_sumOf_6 N N w x1 x2 x3 x4 0 x3
def fX8_sumOf (N : Nat) (w : xW) (x1 : Int32) (x2 : Int32) (x3 : Int32) (x4 : Int32) : Option (xW × Int32) := fX8_sumOf_0 N w x1 x2 x3 x4
set_option maxRecDepth 100000 in
set_option maxHeartbeats 4000000 in
theorem bX8_sumOf_6b {Γ : xΓ} (C : xOK Γ cX8_sumOf RX8 7) (hL : xn Γ = 7) {N : Nat} {K6 : xW → Int32 → Int32 → Int32 → Int32 → Int32 → Int32 → Option (xW × Int32)} {w : xW} {x1 : Int32} {x2 : Int32} {x3 : Int32} {x4 : Int32} {x5 : Int32} {x6 : Int32} {r : xW × Int32} (E : xEnd Γ (some .int) r.1 (some (.int r.2))) (hK6 : ∀ (w : xW) (x1 : Int32) (x2 : Int32) (x3 : Int32) (x4 : Int32) (x5 : Int32) (x6 : Int32), K6 w x1 x2 x3 x4 x5 x6 = some r → xG Γ w 6 [(0, .ref (xad Γ 55)), (1, .int x1), (2, .int x2), (3, .int x3), (4, .int x4), (5, .int x5), (6, .int x6)] []) (h : fX8_sumOf_6b N K6 w x1 x2 x3 x4 x5 x6 = some r) : xG Γ w 6 [(0, .ref (xad Γ 55)), (1, .int x1), (2, .int x2), (3, .int x3), (4, .int x4), (5, .int x5), (6, .int x6)] [] := by
  unfold fX8_sumOf_6b at h
  refine xr_iload C 6 rfl dX8_sumOf_6 ?_
  refine xr_iload_n C 8 rfl dX8_sumOf_8 ?_
  refine xr_iload C 9 rfl dX8_sumOf_9 ?_
  refine xr_iadd C 11 dX8_sumOf_11 ?_
  refine xr_icmp_ge C 12 38 dX8_sumOf_12 rfl (fun q => ?_) (fun q => ?_)
  · have h := g_it h q
    refine xr_iload C 38 rfl dX8_sumOf_38 ?_
    cases h
    exact xr_iret C 40 E dX8_sumOf_40
  · have h := g_if h q
    refine xr_iload C 15 rfl dX8_sumOf_15 ?_
    refine xr_aload_n C 17 rfl dX8_sumOf_17 ?_
    refine xr_aload_n C 18 rfl dX8_sumOf_18 ?_
    refine xr_iload_n C 19 rfl dX8_sumOf_19 ?_
    obtain ⟨z1, q2, h⟩ := g_bind h
    refine xr_callV C 20 (mX8_kindOf q2) v_X8_kindOf ml_X8_160 (Nat.le_of_ble_eq_true rfl) (Nat.le_of_ble_eq_true rfl) (xrecv C rfl rfl) rfl rfl (Nat.le_of_ble_eq_true rfl) rfl dX8_sumOf_20 ?_
    refine xr_iload_n C 23 rfl dX8_sumOf_23 ?_
    refine xr_iload C 24 rfl dX8_sumOf_24 ?_
    obtain ⟨z3, q4, h⟩ := g_bind h
    refine xr_callV C 26 (mX8_gainOf q4) v_X8_gainOf ml_X8_176 (Nat.le_of_ble_eq_true rfl) (Nat.le_of_ble_eq_true rfl) (xrecv C rfl rfl) rfl rfl (Nat.le_of_ble_eq_true rfl) rfl dX8_sumOf_26 ?_
    refine xr_iadd C 29 dX8_sumOf_29 ?_
    refine xr_istore C 30 dX8_sumOf_30 (xnb hL rfl) ?_
    refine xr_iinc C 32 1 (by decide +kernel) rfl dX8_sumOf_32 (xnb hL rfl) ?_
    refine xr_goto C 35 6 dX8_sumOf_35 rfl ?_
    exact xG.sub (hK6 _ _ _ _ _ _ _ h) ⟨rfl, rfl, rfl, rfl, rfl, rfl, rfl, trivial⟩
set_option maxRecDepth 100000 in
set_option maxHeartbeats 4000000 in
theorem bX8_sumOf_6 {Γ : xΓ} (C : xOK Γ cX8_sumOf RX8 7) (hL : xn Γ = 7) {N : Nat} {r : xW × Int32} (E : xEnd Γ (some .int) r.1 (some (.int r.2))) : ∀ (n : Nat) (w : xW) (x1 : Int32) (x2 : Int32) (x3 : Int32) (x4 : Int32) (x5 : Int32) (x6 : Int32), fX8_sumOf_6 N n w x1 x2 x3 x4 x5 x6 = some r → xG Γ w 6 [(0, .ref (xad Γ 55)), (1, .int x1), (2, .int x2), (3, .int x3), (4, .int x4), (5, .int x5), (6, .int x6)] []
  | 0, _, _, _, _, _, _, _, h => by cases h
  | n + 1, w, x1, x2, x3, x4, x5, x6, h => bX8_sumOf_6b C hL E (bX8_sumOf_6 C hL E n) h
set_option maxRecDepth 100000 in
set_option maxHeartbeats 4000000 in
theorem bX8_sumOf_0 {Γ : xΓ} (C : xOK Γ cX8_sumOf RX8 7) (hL : xn Γ = 7) {N : Nat} {w : xW} {x1 : Int32} {x2 : Int32} {x3 : Int32} {x4 : Int32} {r : xW × Int32} (E : xEnd Γ (some .int) r.1 (some (.int r.2))) (h : fX8_sumOf_0 N w x1 x2 x3 x4 = some r) : xG Γ w 0 [(0, .ref (xad Γ 55)), (1, .int x1), (2, .int x2), (3, .int x3), (4, .int x4)] [] := by
  unfold fX8_sumOf_0 at h
  refine xr_iconst C 0 0 (by decide +kernel) dX8_sumOf_0 ?_
  refine xr_istore C 1 dX8_sumOf_1 (xnb hL rfl) ?_
  refine xr_iload_n C 3 rfl dX8_sumOf_3 ?_
  refine xr_istore C 4 dX8_sumOf_4 (xnb hL rfl) ?_
  exact xG.sub (bX8_sumOf_6 C hL E N _ _ _ _ _ _ _ h) ⟨rfl, rfl, rfl, rfl, rfl, rfl, rfl, trivial⟩
set_option maxRecDepth 100000 in
set_option maxHeartbeats 4000000 in
theorem mX8_sumOf {l : Launch} {ad : Nat → Nat} {G : gEnv} {N : Nat} {w : xW} {x1 : Int32} {x2 : Int32} {x3 : Int32} {x4 : Int32} {r : xW × Int32} (h : fX8_sumOf N w x1 x2 x3 x4 = some r) : xCt l ad G 7 yX8_sumOf cX8_sumOf 7 (some .int) [.ref (ad 55), .int x1, .int x2, .int x3, .int x4] w r.1 (some (.int r.2)) := xCt.of RX8 rfl (by decide +kernel) (Nat.le_of_ble_eq_true rfl) (fun Γ el ea eG eL C E => by
    subst el
    subst ea
    subst eG
    unfold fX8_sumOf at h
    exact xG.sub (bX8_sumOf_0 C eL  E h) ⟨rfl, rfl, rfl, rfl, rfl, trivial⟩)
def fX8_sum_37 (N : Nat) (w : xW) : Option (xW × Int32) :=
  (fX8_finding w (-1000000001)).bind fun z5 =>
  some (z5.1, z5.2)
def fX8_sum_0 (N : Nat) (w : xW) (x1 : Int32) (x2 : Int32) (x3 : Int32) : Option (xW × Int32) :=
  if (fX8_isHouse w x1) = 0 then
    fX8_sum_37 N w
  else
  if (fX8_isTick x2) = 0 then
    fX8_sum_37 N w
  else
  if (fX8_isSpan x3) = 0 then
    fX8_sum_37 N w
  else
  (fX8_frontOf w x1).bind fun z1 =>
  (fX8_sumOf N w x1 z1 x2 x3).bind fun z3 =>
  some (z3.1, z3.2)
def fX8_sum (N : Nat) (w : xW) (x1 : Int32) (x2 : Int32) (x3 : Int32) : Option (xW × Int32) := fX8_sum_0 N w x1 x2 x3
set_option maxRecDepth 100000 in
set_option maxHeartbeats 4000000 in
theorem bX8_sum_37 {Γ : xΓ} (C : xOK Γ cX8_sum RX8 8) (hL : xn Γ = 4) {N : Nat} {w : xW} {r : xW × Int32} (E : xEnd Γ (some .int) r.1 (some (.int r.2))) (h : fX8_sum_37 N w = some r) : xG Γ w 37 [(0, .ref (xad Γ 55))] [] := by
  unfold fX8_sum_37 at h
  refine xr_aload_n C 37 rfl dX8_sum_37 ?_
  refine xr_ldc C 38 k_X8_98 dX8_sum_38 ?_
  obtain ⟨z5, q6, h⟩ := g_bind h
  refine xr_callV C 40 (mX8_finding q6) v_X8_finding ml_X8_125 (Nat.le_of_ble_eq_true rfl) (Nat.le_of_ble_eq_true rfl) (xrecv C rfl rfl) rfl rfl (Nat.le_of_ble_eq_true rfl) rfl dX8_sum_40 ?_
  cases h
  exact xr_iret C 43 E dX8_sum_43
set_option maxRecDepth 100000 in
set_option maxHeartbeats 4000000 in
theorem bX8_sum_0 {Γ : xΓ} (C : xOK Γ cX8_sum RX8 8) (hL : xn Γ = 4) {N : Nat} {w : xW} {x1 : Int32} {x2 : Int32} {x3 : Int32} {r : xW × Int32} (E : xEnd Γ (some .int) r.1 (some (.int r.2))) (h : fX8_sum_0 N w x1 x2 x3 = some r) : xG Γ w 0 [(0, .ref (xad Γ 55)), (1, .int x1), (2, .int x2), (3, .int x3)] [] := by
  unfold fX8_sum_0 at h
  refine xr_aload_n C 0 rfl dX8_sum_0 ?_
  refine xr_iload_n C 1 rfl dX8_sum_1 ?_
  refine xr_callV C 2 (mX8_isHouse rfl) v_X8_isHouse ml_X8_157 (Nat.le_of_ble_eq_true rfl) (Nat.le_of_ble_eq_true rfl) (xrecv C rfl rfl) rfl rfl (Nat.le_of_ble_eq_true rfl) rfl dX8_sum_2 ?_
  refine xr_if_eq C 5 37 dX8_sum_5 rfl (fun q => ?_) (fun q => ?_)
  · have h := g_it h q
    exact xG.sub (bX8_sum_37 C hL E h) ⟨rfl, trivial⟩
  · have h := g_if h q
    refine xr_iload_n C 8 rfl dX8_sum_8 ?_
    refine xr_callS C 9 (mX8_isTick rfl) v_X8_isTick ml_X8_137 (Nat.le_of_ble_eq_true rfl) (Nat.le_of_ble_eq_true rfl) rfl rfl (Nat.le_of_ble_eq_true rfl) rfl dX8_sum_9 ?_
    refine xr_if_eq C 12 37 dX8_sum_12 rfl (fun q => ?_) (fun q => ?_)
    · have h := g_it h q
      exact xG.sub (bX8_sum_37 C hL E h) ⟨rfl, trivial⟩
    · have h := g_if h q
      refine xr_iload_n C 15 rfl dX8_sum_15 ?_
      refine xr_callS C 16 (mX8_isSpan rfl) v_X8_isSpan ml_X8_180 (Nat.le_of_ble_eq_true rfl) (Nat.le_of_ble_eq_true rfl) rfl rfl (Nat.le_of_ble_eq_true rfl) rfl dX8_sum_16 ?_
      refine xr_if_eq C 19 37 dX8_sum_19 rfl (fun q => ?_) (fun q => ?_)
      · have h := g_it h q
        exact xG.sub (bX8_sum_37 C hL E h) ⟨rfl, trivial⟩
      · have h := g_if h q
        refine xr_aload_n C 22 rfl dX8_sum_22 ?_
        refine xr_iload_n C 23 rfl dX8_sum_23 ?_
        refine xr_aload_n C 24 rfl dX8_sum_24 ?_
        refine xr_iload_n C 25 rfl dX8_sum_25 ?_
        obtain ⟨z1, q2, h⟩ := g_bind h
        refine xr_callV C 26 (mX8_frontOf q2) v_X8_frontOf ml_X8_167 (Nat.le_of_ble_eq_true rfl) (Nat.le_of_ble_eq_true rfl) (xrecv C rfl rfl) rfl rfl (Nat.le_of_ble_eq_true rfl) rfl dX8_sum_26 ?_
        refine xr_iload_n C 29 rfl dX8_sum_29 ?_
        refine xr_iload_n C 30 rfl dX8_sum_30 ?_
        obtain ⟨z3, q4, h⟩ := g_bind h
        refine xr_callV C 31 (mX8_sumOf q4) v_X8_sumOf ml_X8_183 (Nat.le_of_ble_eq_true rfl) (Nat.le_of_ble_eq_true rfl) (xrecv C rfl rfl) rfl rfl (Nat.le_of_ble_eq_true rfl) rfl dX8_sum_31 ?_
        refine xr_goto C 34 43 dX8_sum_34 rfl ?_
        cases h
        exact xr_iret C 43 E dX8_sum_43
set_option maxRecDepth 100000 in
set_option maxHeartbeats 4000000 in
theorem mX8_sum {l : Launch} {ad : Nat → Nat} {G : gEnv} {N : Nat} {w : xW} {x1 : Int32} {x2 : Int32} {x3 : Int32} {r : xW × Int32} (h : fX8_sum N w x1 x2 x3 = some r) : xCt l ad G 8 yX8_sum cX8_sum 4 (some .int) [.ref (ad 55), .int x1, .int x2, .int x3] w r.1 (some (.int r.2)) := xCt.of RX8 rfl (by decide +kernel) (Nat.le_of_ble_eq_true rfl) (fun Γ el ea eG eL C E => by
    subst el
    subst ea
    subst eG
    unfold fX8_sum at h
    exact xG.sub (bX8_sum_0 C eL  E h) ⟨rfl, rfl, rfl, rfl, trivial⟩)
def fX7_best_16 (N : Nat) (w : xW) : Option (xW × Int32) :=
  (fX7_refuse w (-1000000001)).bind fun z9 =>
  some (z9.1, z9.2)
def fX7_best_113 (N : Nat) (K68 : xW → Int32 → Int32 → Int32 → Int32 → Option (xW × Int32)) (w : xW) (x1 : Int32) (x4 : Int32) (x5 : Int32) (x6 : Int32) : Option (xW × Int32) :=
  K68 w x1 x4 x5 (x6 + 1)
def fX7_best_68b (N : Nat) (K68 : xW → Int32 → Int32 → Int32 → Int32 → Option (xW × Int32)) (w : xW) (x1 : Int32) (x4 : Int32) (x5 : Int32) (x6 : Int32) : Option (xW × Int32) :=
  if 4 ≤ x6 then
    some (w, x4)
  else
  if ibd x1 8 = true then
  (fX3_sumOf N w (w.1 5 x1.toNatClampNeg) x6).bind fun z7 =>
  if z7 ≤ x5 then
    fX7_best_113 N K68 w x1 x4 x5 x6
  else
  fX7_best_113 N K68 w x1 x6 z7 x6
  else none
def fX7_best_68 (N : Nat) : Nat → xW → Int32 → Int32 → Int32 → Int32 → Option (xW × Int32)
  | 0, _, _, _, _, _ => none
  | n + 1, w, x1, x4, x5, x6 => fX7_best_68b N (fX7_best_68 N n) w x1 x4 x5 x6
def fX7_best_0 (N : Nat) (w : xW) (x1 : Int32) (x2 : Int32) (x3 : Int32) : Option (xW × Int32) :=
  if (fX7_isHouse w x1) = 0 then
    fX7_best_16 N w
  else
  if (fX7_isSpan x2 x3) = 0 then
    fX7_best_16 N w
  else
  (fX3_watch N w x2 x3).bind fun z1 =>
  if ibd x1 8 = true then
  (fX3_sumOf N z1 (z1.1 5 x1.toNatClampNeg) 0).bind fun z4 =>
  fX7_best_68 N N z1 x1 0 z4 1
  else none
def fX7_best (N : Nat) (w : xW) (x1 : Int32) (x2 : Int32) (x3 : Int32) : Option (xW × Int32) := fX7_best_0 N w x1 x2 x3
set_option maxRecDepth 100000 in
set_option maxHeartbeats 4000000 in
theorem bX7_best_16 {Γ : xΓ} (C : xOK Γ cX7_best RX7 5) (hL : xn Γ = 8) {N : Nat} {w : xW} {r : xW × Int32} (E : xEnd Γ (some .int) r.1 (some (.int r.2))) (h : fX7_best_16 N w = some r) : xG Γ w 16 [(0, .ref (xad Γ 0))] [] := by
  unfold fX7_best_16 at h
  refine xr_aload_n C 16 rfl dX7_best_16 ?_
  refine xr_ldc C 17 k_X7_69 dX7_best_17 ?_
  obtain ⟨z9, q10, h⟩ := g_bind h
  refine xr_callV C 19 (mX7_refuse q10) v_X7_refuse ml_X7_70 (Nat.le_of_ble_eq_true rfl) (Nat.le_of_ble_eq_true rfl) (xrecv C rfl rfl) rfl rfl (Nat.le_of_ble_eq_true rfl) rfl dX7_best_19 ?_
  cases h
  exact xr_iret C 22 E dX7_best_22
set_option maxRecDepth 100000 in
set_option maxHeartbeats 4000000 in
theorem bX7_best_113 {Γ : xΓ} (C : xOK Γ cX7_best RX7 5) (hL : xn Γ = 8) {N : Nat} {K68 : xW → Int32 → Int32 → Int32 → Int32 → Option (xW × Int32)} {w : xW} {x1 : Int32} {x4 : Int32} {x5 : Int32} {x6 : Int32} {r : xW × Int32} (E : xEnd Γ (some .int) r.1 (some (.int r.2))) (hK68 : ∀ (w : xW) (x1 : Int32) (x4 : Int32) (x5 : Int32) (x6 : Int32), K68 w x1 x4 x5 x6 = some r → xG Γ w 68 [(0, .ref (xad Γ 0)), (1, .int x1), (4, .int x4), (5, .int x5), (6, .int x6)] []) (h : fX7_best_113 N K68 w x1 x4 x5 x6 = some r) : xG Γ w 113 [(0, .ref (xad Γ 0)), (1, .int x1), (4, .int x4), (5, .int x5), (6, .int x6)] [] := by
  unfold fX7_best_113 at h
  refine xr_iinc C 113 1 (by decide +kernel) rfl dX7_best_113 (xnb hL rfl) ?_
  refine xr_goto C 116 68 dX7_best_116 rfl ?_
  exact xG.sub (hK68 _ _ _ _ _ h) ⟨rfl, rfl, rfl, rfl, rfl, trivial⟩
set_option maxRecDepth 100000 in
set_option maxHeartbeats 4000000 in
theorem bX7_best_68b {Γ : xΓ} (C : xOK Γ cX7_best RX7 5) (hL : xn Γ = 8) {N : Nat} {K68 : xW → Int32 → Int32 → Int32 → Int32 → Option (xW × Int32)} {w : xW} {x1 : Int32} {x4 : Int32} {x5 : Int32} {x6 : Int32} {r : xW × Int32} (E : xEnd Γ (some .int) r.1 (some (.int r.2))) (hK68 : ∀ (w : xW) (x1 : Int32) (x4 : Int32) (x5 : Int32) (x6 : Int32), K68 w x1 x4 x5 x6 = some r → xG Γ w 68 [(0, .ref (xad Γ 0)), (1, .int x1), (4, .int x4), (5, .int x5), (6, .int x6)] []) (h : fX7_best_68b N K68 w x1 x4 x5 x6 = some r) : xG Γ w 68 [(0, .ref (xad Γ 0)), (1, .int x1), (4, .int x4), (5, .int x5), (6, .int x6)] [] := by
  unfold fX7_best_68b at h
  refine xr_iload C 68 rfl dX7_best_68 ?_
  refine xr_iconst C 70 4 (by decide +kernel) dX7_best_70 ?_
  refine xr_icmp_ge C 71 119 dX7_best_71 rfl (fun q => ?_) (fun q => ?_)
  · have h := g_it h q
    refine xr_iload C 119 rfl dX7_best_119 ?_
    cases h
    exact xr_iret C 121 E dX7_best_121
  · have h := g_if h q
    refine xr_aload_n C 74 rfl dX7_best_74 ?_
    refine xr_getR C 75 dX7_best_75 fl_X7_29 rfl rfl ?_
    refine xr_aload_n C 78 rfl dX7_best_78 ?_
    refine xr_getR C 79 dX7_best_79 fl_X7_10 rfl rfl ?_
    refine xr_aload_n C 82 rfl dX7_best_82 ?_
    refine xr_getR C 83 dX7_best_83 fl_X7_10 rfl rfl ?_
    refine xr_getR C 86 dX7_best_86 fl_X7_138 rfl rfl ?_
    refine xr_iload_n C 89 rfl dX7_best_89 ?_
    obtain ⟨q6, h⟩ := g_ib h
    refine xr_iald C 90 x1.toNatClampNeg rfl dX7_best_90 rfl (ibd_in q6) ?_
    refine xr_iload C 91 rfl dX7_best_91 ?_
    obtain ⟨z7, q8, h⟩ := g_bind h
    refine xr_callV C 93 (mX3_sumOf q8) v_X3_sumOf ml_X7_162 (Nat.le_of_ble_eq_true rfl) (Nat.le_of_ble_eq_true rfl) (xrecv C rfl rfl) rfl rfl (Nat.le_of_ble_eq_true rfl) rfl dX7_best_93 ?_
    refine xr_istore C 96 dX7_best_96 (xnb hL rfl) ?_
    refine xr_iload C 98 rfl dX7_best_98 ?_
    refine xr_iload C 100 rfl dX7_best_100 ?_
    refine xr_icmp_le C 102 113 dX7_best_102 rfl (fun q => ?_) (fun q => ?_)
    · have h := g_it h q
      exact xG.sub (bX7_best_113 C hL E hK68 h) ⟨rfl, rfl, rfl, rfl, rfl, trivial⟩
    · have h := g_if h q
      refine xr_iload C 105 rfl dX7_best_105 ?_
      refine xr_istore C 107 dX7_best_107 (xnb hL rfl) ?_
      refine xr_iload C 109 rfl dX7_best_109 ?_
      refine xr_istore C 111 dX7_best_111 (xnb hL rfl) ?_
      exact xG.sub (bX7_best_113 C hL E hK68 h) ⟨rfl, rfl, rfl, rfl, rfl, trivial⟩
set_option maxRecDepth 100000 in
set_option maxHeartbeats 4000000 in
theorem bX7_best_68 {Γ : xΓ} (C : xOK Γ cX7_best RX7 5) (hL : xn Γ = 8) {N : Nat} {r : xW × Int32} (E : xEnd Γ (some .int) r.1 (some (.int r.2))) : ∀ (n : Nat) (w : xW) (x1 : Int32) (x4 : Int32) (x5 : Int32) (x6 : Int32), fX7_best_68 N n w x1 x4 x5 x6 = some r → xG Γ w 68 [(0, .ref (xad Γ 0)), (1, .int x1), (4, .int x4), (5, .int x5), (6, .int x6)] []
  | 0, _, _, _, _, _, h => by cases h
  | n + 1, w, x1, x4, x5, x6, h => bX7_best_68b C hL E (bX7_best_68 C hL E n) h
set_option maxRecDepth 100000 in
set_option maxHeartbeats 4000000 in
theorem bX7_best_0 {Γ : xΓ} (C : xOK Γ cX7_best RX7 5) (hL : xn Γ = 8) {N : Nat} {w : xW} {x1 : Int32} {x2 : Int32} {x3 : Int32} {r : xW × Int32} (E : xEnd Γ (some .int) r.1 (some (.int r.2))) (h : fX7_best_0 N w x1 x2 x3 = some r) : xG Γ w 0 [(0, .ref (xad Γ 0)), (1, .int x1), (2, .int x2), (3, .int x3)] [] := by
  unfold fX7_best_0 at h
  refine xr_aload_n C 0 rfl dX7_best_0 ?_
  refine xr_iload_n C 1 rfl dX7_best_1 ?_
  refine xr_callV C 2 (mX7_isHouse rfl) v_X7_isHouse ml_X7_135 (Nat.le_of_ble_eq_true rfl) (Nat.le_of_ble_eq_true rfl) (xrecv C rfl rfl) rfl rfl (Nat.le_of_ble_eq_true rfl) rfl dX7_best_2 ?_
  refine xr_if_eq C 5 16 dX7_best_5 rfl (fun q => ?_) (fun q => ?_)
  · have h := g_it h q
    exact xG.sub (bX7_best_16 C hL E h) ⟨rfl, trivial⟩
  · have h := g_if h q
    refine xr_iload_n C 8 rfl dX7_best_8 ?_
    refine xr_iload_n C 9 rfl dX7_best_9 ?_
    refine xr_callS C 10 (mX7_isSpan rfl) v_X7_isSpan ml_X7_155 (Nat.le_of_ble_eq_true rfl) (Nat.le_of_ble_eq_true rfl) rfl rfl (Nat.le_of_ble_eq_true rfl) rfl dX7_best_10 ?_
    refine xr_if_ne C 13 23 dX7_best_13 rfl (fun q => ?_) (fun q => ?_)
    · have h := g_if h q
      refine xr_aload_n C 23 rfl dX7_best_23 ?_
      refine xr_getR C 24 dX7_best_24 fl_X7_29 rfl rfl ?_
      refine xr_aload_n C 27 rfl dX7_best_27 ?_
      refine xr_getR C 28 dX7_best_28 fl_X7_10 rfl rfl ?_
      refine xr_getR C 31 dX7_best_31 fl_X7_77 rfl rfl ?_
      refine xr_iload_n C 34 rfl dX7_best_34 ?_
      refine xr_iload_n C 35 rfl dX7_best_35 ?_
      obtain ⟨z1, q2, h⟩ := g_bind h
      refine xr_callV C 36 (mX3_watch q2) v_X3_watch ml_X7_158 (Nat.le_of_ble_eq_true rfl) (Nat.le_of_ble_eq_true rfl) (xrecv C rfl rfl) rfl rfl (Nat.le_of_ble_eq_true rfl) rfl dX7_best_36 ?_
      refine xr_iconst C 39 0 (by decide +kernel) dX7_best_39 ?_
      refine xr_istore C 40 dX7_best_40 (xnb hL rfl) ?_
      refine xr_aload_n C 42 rfl dX7_best_42 ?_
      refine xr_getR C 43 dX7_best_43 fl_X7_29 rfl rfl ?_
      refine xr_aload_n C 46 rfl dX7_best_46 ?_
      refine xr_getR C 47 dX7_best_47 fl_X7_10 rfl rfl ?_
      refine xr_aload_n C 50 rfl dX7_best_50 ?_
      refine xr_getR C 51 dX7_best_51 fl_X7_10 rfl rfl ?_
      refine xr_getR C 54 dX7_best_54 fl_X7_138 rfl rfl ?_
      refine xr_iload_n C 57 rfl dX7_best_57 ?_
      obtain ⟨q3, h⟩ := g_ib h
      refine xr_iald C 58 x1.toNatClampNeg rfl dX7_best_58 rfl (ibd_in q3) ?_
      refine xr_iconst C 59 0 (by decide +kernel) dX7_best_59 ?_
      obtain ⟨z4, q5, h⟩ := g_bind h
      refine xr_callV C 60 (mX3_sumOf q5) v_X3_sumOf ml_X7_162 (Nat.le_of_ble_eq_true rfl) (Nat.le_of_ble_eq_true rfl) (xrecv C rfl rfl) rfl rfl (Nat.le_of_ble_eq_true rfl) rfl dX7_best_60 ?_
      refine xr_istore C 63 dX7_best_63 (xnb hL rfl) ?_
      refine xr_iconst C 65 1 (by decide +kernel) dX7_best_65 ?_
      refine xr_istore C 66 dX7_best_66 (xnb hL rfl) ?_
      exact xG.sub (bX7_best_68 C hL E N _ _ _ _ _ h) ⟨rfl, rfl, rfl, rfl, rfl, trivial⟩
    · have h := g_it h q
      exact xG.sub (bX7_best_16 C hL E h) ⟨rfl, trivial⟩
set_option maxRecDepth 100000 in
set_option maxHeartbeats 4000000 in
theorem mX7_best {l : Launch} {ad : Nat → Nat} {G : gEnv} {N : Nat} {w : xW} {x1 : Int32} {x2 : Int32} {x3 : Int32} {r : xW × Int32} (h : fX7_best N w x1 x2 x3 = some r) : xCt l ad G 5 yX7_best cX7_best 8 (some .int) [.ref (ad 0), .int x1, .int x2, .int x3] w r.1 (some (.int r.2)) := xCt.of RX7 rfl (by decide +kernel) (Nat.le_of_ble_eq_true rfl) (fun Γ el ea eG eL C E => by
    subst el
    subst ea
    subst eG
    unfold fX7_best at h
    exact xG.sub (bX7_best_0 C eL  E h) ⟨rfl, rfl, rfl, rfl, trivial⟩)
def fX8_best_22 (N : Nat) (w : xW) : Option (xW × Int32) :=
  (fX8_finding w (-1000000001)).bind fun z5 =>
  some (z5.1, z5.2)
def fX8_best_69 (N : Nat) (K35 : xW → Int32 → Int32 → Int32 → Int32 → Int32 → Option (xW × Int32)) (w : xW) (x1 : Int32) (x2 : Int32) (x3 : Int32) (x5 : Int32) (s0 : Int32) : Option (xW × Int32) :=
  K35 w x1 x2 x3 s0 (x5 + 1)
def fX8_best_35b (N : Nat) (K35 : xW → Int32 → Int32 → Int32 → Int32 → Int32 → Option (xW × Int32)) (w : xW) (x1 : Int32) (x2 : Int32) (x3 : Int32) (x4 : Int32) (x5 : Int32) : Option (xW × Int32) :=
  if 4 ≤ x5 then
    some (w, x4)
  else
  (fX8_sumOf N w x1 x5 x2 x3).bind fun z1 =>
  (fX8_sumOf N z1.1 x1 x4 x2 x3).bind fun z3 =>
  if z1.2 ≤ z3.2 then
    fX8_best_69 N K35 z3.1 x1 x2 x3 x5 x4
  else
  fX8_best_69 N K35 z3.1 x1 x2 x3 x5 x5
def fX8_best_35 (N : Nat) : Nat → xW → Int32 → Int32 → Int32 → Int32 → Int32 → Option (xW × Int32)
  | 0, _, _, _, _, _, _ => none
  | n + 1, w, x1, x2, x3, x4, x5 => fX8_best_35b N (fX8_best_35 N n) w x1 x2 x3 x4 x5
def fX8_best_0 (N : Nat) (w : xW) (x1 : Int32) (x2 : Int32) (x3 : Int32) : Option (xW × Int32) :=
  if (fX8_isHouse w x1) = 0 then
    fX8_best_22 N w
  else
  if (fX8_isTick x2) = 0 then
    fX8_best_22 N w
  else
  if (fX8_isSpan x3) = 0 then
    fX8_best_22 N w
  else
  fX8_best_35 N N w x1 x2 x3 0 1
def fX8_best (N : Nat) (w : xW) (x1 : Int32) (x2 : Int32) (x3 : Int32) : Option (xW × Int32) := fX8_best_0 N w x1 x2 x3
set_option maxRecDepth 100000 in
set_option maxHeartbeats 4000000 in
theorem bX8_best_22 {Γ : xΓ} (C : xOK Γ cX8_best RX8 8) (hL : xn Γ = 6) {N : Nat} {w : xW} {r : xW × Int32} (E : xEnd Γ (some .int) r.1 (some (.int r.2))) (h : fX8_best_22 N w = some r) : xG Γ w 22 [(0, .ref (xad Γ 55))] [] := by
  unfold fX8_best_22 at h
  refine xr_aload_n C 22 rfl dX8_best_22 ?_
  refine xr_ldc C 23 k_X8_98 dX8_best_23 ?_
  obtain ⟨z5, q6, h⟩ := g_bind h
  refine xr_callV C 25 (mX8_finding q6) v_X8_finding ml_X8_125 (Nat.le_of_ble_eq_true rfl) (Nat.le_of_ble_eq_true rfl) (xrecv C rfl rfl) rfl rfl (Nat.le_of_ble_eq_true rfl) rfl dX8_best_25 ?_
  cases h
  exact xr_iret C 28 E dX8_best_28
set_option maxRecDepth 100000 in
set_option maxHeartbeats 4000000 in
theorem bX8_best_69 {Γ : xΓ} (C : xOK Γ cX8_best RX8 8) (hL : xn Γ = 6) {N : Nat} {K35 : xW → Int32 → Int32 → Int32 → Int32 → Int32 → Option (xW × Int32)} {w : xW} {x1 : Int32} {x2 : Int32} {x3 : Int32} {x5 : Int32} {s0 : Int32} {r : xW × Int32} (E : xEnd Γ (some .int) r.1 (some (.int r.2))) (hK35 : ∀ (w : xW) (x1 : Int32) (x2 : Int32) (x3 : Int32) (x4 : Int32) (x5 : Int32), K35 w x1 x2 x3 x4 x5 = some r → xG Γ w 35 [(0, .ref (xad Γ 55)), (1, .int x1), (2, .int x2), (3, .int x3), (4, .int x4), (5, .int x5)] []) (h : fX8_best_69 N K35 w x1 x2 x3 x5 s0 = some r) : xG Γ w 69 [(0, .ref (xad Γ 55)), (1, .int x1), (2, .int x2), (3, .int x3), (5, .int x5)] [.int s0] := by
  unfold fX8_best_69 at h
  refine xr_istore C 69 dX8_best_69 (xnb hL rfl) ?_
  refine xr_iinc C 71 1 (by decide +kernel) rfl dX8_best_71 (xnb hL rfl) ?_
  refine xr_goto C 74 35 dX8_best_74 rfl ?_
  exact xG.sub (hK35 _ _ _ _ _ _ h) ⟨rfl, rfl, rfl, rfl, rfl, rfl, trivial⟩
set_option maxRecDepth 100000 in
set_option maxHeartbeats 4000000 in
theorem bX8_best_35b {Γ : xΓ} (C : xOK Γ cX8_best RX8 8) (hL : xn Γ = 6) {N : Nat} {K35 : xW → Int32 → Int32 → Int32 → Int32 → Int32 → Option (xW × Int32)} {w : xW} {x1 : Int32} {x2 : Int32} {x3 : Int32} {x4 : Int32} {x5 : Int32} {r : xW × Int32} (E : xEnd Γ (some .int) r.1 (some (.int r.2))) (hK35 : ∀ (w : xW) (x1 : Int32) (x2 : Int32) (x3 : Int32) (x4 : Int32) (x5 : Int32), K35 w x1 x2 x3 x4 x5 = some r → xG Γ w 35 [(0, .ref (xad Γ 55)), (1, .int x1), (2, .int x2), (3, .int x3), (4, .int x4), (5, .int x5)] []) (h : fX8_best_35b N K35 w x1 x2 x3 x4 x5 = some r) : xG Γ w 35 [(0, .ref (xad Γ 55)), (1, .int x1), (2, .int x2), (3, .int x3), (4, .int x4), (5, .int x5)] [] := by
  unfold fX8_best_35b at h
  refine xr_iload C 35 rfl dX8_best_35 ?_
  refine xr_iconst C 37 4 (by decide +kernel) dX8_best_37 ?_
  refine xr_icmp_ge C 38 77 dX8_best_38 rfl (fun q => ?_) (fun q => ?_)
  · have h := g_it h q
    refine xr_iload C 77 rfl dX8_best_77 ?_
    cases h
    exact xr_iret C 79 E dX8_best_79
  · have h := g_if h q
    refine xr_aload_n C 41 rfl dX8_best_41 ?_
    refine xr_iload_n C 42 rfl dX8_best_42 ?_
    refine xr_iload C 43 rfl dX8_best_43 ?_
    refine xr_iload_n C 45 rfl dX8_best_45 ?_
    refine xr_iload_n C 46 rfl dX8_best_46 ?_
    obtain ⟨z1, q2, h⟩ := g_bind h
    refine xr_callV C 47 (mX8_sumOf q2) v_X8_sumOf ml_X8_183 (Nat.le_of_ble_eq_true rfl) (Nat.le_of_ble_eq_true rfl) (xrecv C rfl rfl) rfl rfl (Nat.le_of_ble_eq_true rfl) rfl dX8_best_47 ?_
    refine xr_aload_n C 50 rfl dX8_best_50 ?_
    refine xr_iload_n C 51 rfl dX8_best_51 ?_
    refine xr_iload C 52 rfl dX8_best_52 ?_
    refine xr_iload_n C 54 rfl dX8_best_54 ?_
    refine xr_iload_n C 55 rfl dX8_best_55 ?_
    obtain ⟨z3, q4, h⟩ := g_bind h
    refine xr_callV C 56 (mX8_sumOf q4) v_X8_sumOf ml_X8_183 (Nat.le_of_ble_eq_true rfl) (Nat.le_of_ble_eq_true rfl) (xrecv C rfl rfl) rfl rfl (Nat.le_of_ble_eq_true rfl) rfl dX8_best_56 ?_
    refine xr_icmp_le C 59 67 dX8_best_59 rfl (fun q => ?_) (fun q => ?_)
    · have h := g_it h q
      refine xr_iload C 67 rfl dX8_best_67 ?_
      exact xG.sub (bX8_best_69 C hL E hK35 h) ⟨rfl, rfl, rfl, rfl, rfl, trivial⟩
    · have h := g_if h q
      refine xr_iload C 62 rfl dX8_best_62 ?_
      refine xr_goto C 64 69 dX8_best_64 rfl ?_
      exact xG.sub (bX8_best_69 C hL E hK35 h) ⟨rfl, rfl, rfl, rfl, rfl, trivial⟩
set_option maxRecDepth 100000 in
set_option maxHeartbeats 4000000 in
theorem bX8_best_35 {Γ : xΓ} (C : xOK Γ cX8_best RX8 8) (hL : xn Γ = 6) {N : Nat} {r : xW × Int32} (E : xEnd Γ (some .int) r.1 (some (.int r.2))) : ∀ (n : Nat) (w : xW) (x1 : Int32) (x2 : Int32) (x3 : Int32) (x4 : Int32) (x5 : Int32), fX8_best_35 N n w x1 x2 x3 x4 x5 = some r → xG Γ w 35 [(0, .ref (xad Γ 55)), (1, .int x1), (2, .int x2), (3, .int x3), (4, .int x4), (5, .int x5)] []
  | 0, _, _, _, _, _, _, h => by cases h
  | n + 1, w, x1, x2, x3, x4, x5, h => bX8_best_35b C hL E (bX8_best_35 C hL E n) h
set_option maxRecDepth 100000 in
set_option maxHeartbeats 4000000 in
theorem bX8_best_0 {Γ : xΓ} (C : xOK Γ cX8_best RX8 8) (hL : xn Γ = 6) {N : Nat} {w : xW} {x1 : Int32} {x2 : Int32} {x3 : Int32} {r : xW × Int32} (E : xEnd Γ (some .int) r.1 (some (.int r.2))) (h : fX8_best_0 N w x1 x2 x3 = some r) : xG Γ w 0 [(0, .ref (xad Γ 55)), (1, .int x1), (2, .int x2), (3, .int x3)] [] := by
  unfold fX8_best_0 at h
  refine xr_aload_n C 0 rfl dX8_best_0 ?_
  refine xr_iload_n C 1 rfl dX8_best_1 ?_
  refine xr_callV C 2 (mX8_isHouse rfl) v_X8_isHouse ml_X8_157 (Nat.le_of_ble_eq_true rfl) (Nat.le_of_ble_eq_true rfl) (xrecv C rfl rfl) rfl rfl (Nat.le_of_ble_eq_true rfl) rfl dX8_best_2 ?_
  refine xr_if_eq C 5 22 dX8_best_5 rfl (fun q => ?_) (fun q => ?_)
  · have h := g_it h q
    exact xG.sub (bX8_best_22 C hL E h) ⟨rfl, trivial⟩
  · have h := g_if h q
    refine xr_iload_n C 8 rfl dX8_best_8 ?_
    refine xr_callS C 9 (mX8_isTick rfl) v_X8_isTick ml_X8_137 (Nat.le_of_ble_eq_true rfl) (Nat.le_of_ble_eq_true rfl) rfl rfl (Nat.le_of_ble_eq_true rfl) rfl dX8_best_9 ?_
    refine xr_if_eq C 12 22 dX8_best_12 rfl (fun q => ?_) (fun q => ?_)
    · have h := g_it h q
      exact xG.sub (bX8_best_22 C hL E h) ⟨rfl, trivial⟩
    · have h := g_if h q
      refine xr_iload_n C 15 rfl dX8_best_15 ?_
      refine xr_callS C 16 (mX8_isSpan rfl) v_X8_isSpan ml_X8_180 (Nat.le_of_ble_eq_true rfl) (Nat.le_of_ble_eq_true rfl) rfl rfl (Nat.le_of_ble_eq_true rfl) rfl dX8_best_16 ?_
      refine xr_if_ne C 19 29 dX8_best_19 rfl (fun q => ?_) (fun q => ?_)
      · have h := g_if h q
        refine xr_iconst C 29 0 (by decide +kernel) dX8_best_29 ?_
        refine xr_istore C 30 dX8_best_30 (xnb hL rfl) ?_
        refine xr_iconst C 32 1 (by decide +kernel) dX8_best_32 ?_
        refine xr_istore C 33 dX8_best_33 (xnb hL rfl) ?_
        exact xG.sub (bX8_best_35 C hL E N _ _ _ _ _ _ h) ⟨rfl, rfl, rfl, rfl, rfl, rfl, trivial⟩
      · have h := g_it h q
        exact xG.sub (bX8_best_22 C hL E h) ⟨rfl, trivial⟩
set_option maxRecDepth 100000 in
set_option maxHeartbeats 4000000 in
theorem mX8_best {l : Launch} {ad : Nat → Nat} {G : gEnv} {N : Nat} {w : xW} {x1 : Int32} {x2 : Int32} {x3 : Int32} {r : xW × Int32} (h : fX8_best N w x1 x2 x3 = some r) : xCt l ad G 8 yX8_best cX8_best 6 (some .int) [.ref (ad 55), .int x1, .int x2, .int x3] w r.1 (some (.int r.2)) := xCt.of RX8 rfl (by decide +kernel) (Nat.le_of_ble_eq_true rfl) (fun Γ el ea eG eL C E => by
    subst el
    subst ea
    subst eG
    unfold fX8_best at h
    exact xG.sub (bX8_best_0 C eL  E h) ⟨rfl, rfl, rfl, rfl, trivial⟩)
def fX7_sunniest_143 (N : Nat) (K84 : xW → Int32 → Int32 → Int32 → Option (xW × Int32)) (w : xW) (x3 : Int32) (x4 : Int32) (x5 : Int32) : Option (xW × Int32) :=
  K84 w x3 x4 (x5 + 1)
def fX7_sunniest_84b (N : Nat) (K84 : xW → Int32 → Int32 → Int32 → Option (xW × Int32)) (w : xW) (x3 : Int32) (x4 : Int32) (x5 : Int32) : Option (xW × Int32) :=
  if (w.1 1 3) ≤ x5 then
    some (w, x3)
  else
  if ibd x5 8 = true then
  (fX3_sumOf N w (w.1 5 x5.toNatClampNeg) (w.1 6 x5.toNatClampNeg)).bind fun z10 =>
  if z10 ≤ x4 then
    fX7_sunniest_143 N K84 w x3 x4 x5
  else
  fX7_sunniest_143 N K84 w x5 z10 x5
  else none
def fX7_sunniest_84 (N : Nat) : Nat → xW → Int32 → Int32 → Int32 → Option (xW × Int32)
  | 0, _, _, _, _ => none
  | n + 1, w, x3, x4, x5 => fX7_sunniest_84b N (fX7_sunniest_84 N n) w x3 x4 x5
def fX7_sunniest_0 (N : Nat) (w : xW) (x1 : Int32) (x2 : Int32) : Option (xW × Int32) :=
  if (fX7_isSpan x1 x2) = 0 then
    (fX7_refuse w (-1000000001)).bind fun z7 =>
    some (z7.1, z7.2)
  else
  if (w.1 1 3) = 0 then
    (fX7_refuse w (-1000000004)).bind fun z5 =>
    some (z5.1, z5.2)
  else
  (fX3_watch N w x1 x2).bind fun z1 =>
  (fX3_sumOf N z1 (z1.1 5 0) (z1.1 6 0)).bind fun z3 =>
  fX7_sunniest_84 N N z1 0 z3 1
def fX7_sunniest (N : Nat) (w : xW) (x1 : Int32) (x2 : Int32) : Option (xW × Int32) := fX7_sunniest_0 N w x1 x2
set_option maxRecDepth 100000 in
set_option maxHeartbeats 4000000 in
theorem bX7_sunniest_143 {Γ : xΓ} (C : xOK Γ cX7_sunniest RX7 5) (hL : xn Γ = 7) {N : Nat} {K84 : xW → Int32 → Int32 → Int32 → Option (xW × Int32)} {w : xW} {x3 : Int32} {x4 : Int32} {x5 : Int32} {r : xW × Int32} (E : xEnd Γ (some .int) r.1 (some (.int r.2))) (hK84 : ∀ (w : xW) (x3 : Int32) (x4 : Int32) (x5 : Int32), K84 w x3 x4 x5 = some r → xG Γ w 84 [(0, .ref (xad Γ 0)), (3, .int x3), (4, .int x4), (5, .int x5)] []) (h : fX7_sunniest_143 N K84 w x3 x4 x5 = some r) : xG Γ w 143 [(0, .ref (xad Γ 0)), (3, .int x3), (4, .int x4), (5, .int x5)] [] := by
  unfold fX7_sunniest_143 at h
  refine xr_iinc C 143 1 (by decide +kernel) rfl dX7_sunniest_143 (xnb hL rfl) ?_
  refine xr_goto C 146 84 dX7_sunniest_146 rfl ?_
  exact xG.sub (hK84 _ _ _ _ h) ⟨rfl, rfl, rfl, rfl, trivial⟩
set_option maxRecDepth 100000 in
set_option maxHeartbeats 4000000 in
theorem bX7_sunniest_84b {Γ : xΓ} (C : xOK Γ cX7_sunniest RX7 5) (hL : xn Γ = 7) {N : Nat} {K84 : xW → Int32 → Int32 → Int32 → Option (xW × Int32)} {w : xW} {x3 : Int32} {x4 : Int32} {x5 : Int32} {r : xW × Int32} (E : xEnd Γ (some .int) r.1 (some (.int r.2))) (hK84 : ∀ (w : xW) (x3 : Int32) (x4 : Int32) (x5 : Int32), K84 w x3 x4 x5 = some r → xG Γ w 84 [(0, .ref (xad Γ 0)), (3, .int x3), (4, .int x4), (5, .int x5)] []) (h : fX7_sunniest_84b N K84 w x3 x4 x5 = some r) : xG Γ w 84 [(0, .ref (xad Γ 0)), (3, .int x3), (4, .int x4), (5, .int x5)] [] := by
  unfold fX7_sunniest_84b at h
  refine xr_iload C 84 rfl dX7_sunniest_84 ?_
  refine xr_aload_n C 86 rfl dX7_sunniest_86 ?_
  refine xr_getR C 87 dX7_sunniest_87 fl_X7_10 rfl rfl ?_
  refine xr_getI C 90 dX7_sunniest_90 fl_X7_127 rfl rfl ?_
  refine xr_icmp_ge C 93 149 dX7_sunniest_93 rfl (fun q => ?_) (fun q => ?_)
  · have h := g_it h q
    refine xr_iload_n C 149 rfl dX7_sunniest_149 ?_
    cases h
    exact xr_iret C 150 E dX7_sunniest_150
  · have h := g_if h q
    refine xr_aload_n C 96 rfl dX7_sunniest_96 ?_
    refine xr_getR C 97 dX7_sunniest_97 fl_X7_29 rfl rfl ?_
    refine xr_aload_n C 100 rfl dX7_sunniest_100 ?_
    refine xr_getR C 101 dX7_sunniest_101 fl_X7_10 rfl rfl ?_
    refine xr_aload_n C 104 rfl dX7_sunniest_104 ?_
    refine xr_getR C 105 dX7_sunniest_105 fl_X7_10 rfl rfl ?_
    refine xr_getR C 108 dX7_sunniest_108 fl_X7_138 rfl rfl ?_
    refine xr_iload C 111 rfl dX7_sunniest_111 ?_
    obtain ⟨q9, h⟩ := g_ib h
    refine xr_iald C 113 x5.toNatClampNeg rfl dX7_sunniest_113 rfl (ibd_in q9) ?_
    refine xr_aload_n C 114 rfl dX7_sunniest_114 ?_
    refine xr_getR C 115 dX7_sunniest_115 fl_X7_10 rfl rfl ?_
    refine xr_getR C 118 dX7_sunniest_118 fl_X7_141 rfl rfl ?_
    refine xr_iload C 121 rfl dX7_sunniest_121 ?_
    refine xr_iald C 123 x5.toNatClampNeg rfl dX7_sunniest_123 rfl (ibd_in q9) ?_
    obtain ⟨z10, q11, h⟩ := g_bind h
    refine xr_callV C 124 (mX3_sumOf q11) v_X3_sumOf ml_X7_162 (Nat.le_of_ble_eq_true rfl) (Nat.le_of_ble_eq_true rfl) (xrecv C rfl rfl) rfl rfl (Nat.le_of_ble_eq_true rfl) rfl dX7_sunniest_124 ?_
    refine xr_istore C 127 dX7_sunniest_127 (xnb hL rfl) ?_
    refine xr_iload C 129 rfl dX7_sunniest_129 ?_
    refine xr_iload C 131 rfl dX7_sunniest_131 ?_
    refine xr_icmp_le C 133 143 dX7_sunniest_133 rfl (fun q => ?_) (fun q => ?_)
    · have h := g_it h q
      exact xG.sub (bX7_sunniest_143 C hL E hK84 h) ⟨rfl, rfl, rfl, rfl, trivial⟩
    · have h := g_if h q
      refine xr_iload C 136 rfl dX7_sunniest_136 ?_
      refine xr_istore_n C 138 dX7_sunniest_138 (xnb hL rfl) ?_
      refine xr_iload C 139 rfl dX7_sunniest_139 ?_
      refine xr_istore C 141 dX7_sunniest_141 (xnb hL rfl) ?_
      exact xG.sub (bX7_sunniest_143 C hL E hK84 h) ⟨rfl, rfl, rfl, rfl, trivial⟩
set_option maxRecDepth 100000 in
set_option maxHeartbeats 4000000 in
theorem bX7_sunniest_84 {Γ : xΓ} (C : xOK Γ cX7_sunniest RX7 5) (hL : xn Γ = 7) {N : Nat} {r : xW × Int32} (E : xEnd Γ (some .int) r.1 (some (.int r.2))) : ∀ (n : Nat) (w : xW) (x3 : Int32) (x4 : Int32) (x5 : Int32), fX7_sunniest_84 N n w x3 x4 x5 = some r → xG Γ w 84 [(0, .ref (xad Γ 0)), (3, .int x3), (4, .int x4), (5, .int x5)] []
  | 0, _, _, _, _, h => by cases h
  | n + 1, w, x3, x4, x5, h => bX7_sunniest_84b C hL E (bX7_sunniest_84 C hL E n) h
set_option maxRecDepth 100000 in
set_option maxHeartbeats 4000000 in
theorem bX7_sunniest_0 {Γ : xΓ} (C : xOK Γ cX7_sunniest RX7 5) (hL : xn Γ = 7) {N : Nat} {w : xW} {x1 : Int32} {x2 : Int32} {r : xW × Int32} (E : xEnd Γ (some .int) r.1 (some (.int r.2))) (h : fX7_sunniest_0 N w x1 x2 = some r) : xG Γ w 0 [(0, .ref (xad Γ 0)), (1, .int x1), (2, .int x2)] [] := by
  unfold fX7_sunniest_0 at h
  refine xr_iload_n C 0 rfl dX7_sunniest_0 ?_
  refine xr_iload_n C 1 rfl dX7_sunniest_1 ?_
  refine xr_callS C 2 (mX7_isSpan rfl) v_X7_isSpan ml_X7_155 (Nat.le_of_ble_eq_true rfl) (Nat.le_of_ble_eq_true rfl) rfl rfl (Nat.le_of_ble_eq_true rfl) rfl dX7_sunniest_2 ?_
  refine xr_if_ne C 5 15 dX7_sunniest_5 rfl (fun q => ?_) (fun q => ?_)
  · have h := g_if h q
    refine xr_aload_n C 15 rfl dX7_sunniest_15 ?_
    refine xr_getR C 16 dX7_sunniest_16 fl_X7_10 rfl rfl ?_
    refine xr_getI C 19 dX7_sunniest_19 fl_X7_127 rfl rfl ?_
    refine xr_if_ne C 22 32 dX7_sunniest_22 rfl (fun q => ?_) (fun q => ?_)
    · have h := g_if h q
      refine xr_aload_n C 32 rfl dX7_sunniest_32 ?_
      refine xr_getR C 33 dX7_sunniest_33 fl_X7_29 rfl rfl ?_
      refine xr_aload_n C 36 rfl dX7_sunniest_36 ?_
      refine xr_getR C 37 dX7_sunniest_37 fl_X7_10 rfl rfl ?_
      refine xr_getR C 40 dX7_sunniest_40 fl_X7_77 rfl rfl ?_
      refine xr_iload_n C 43 rfl dX7_sunniest_43 ?_
      refine xr_iload_n C 44 rfl dX7_sunniest_44 ?_
      obtain ⟨z1, q2, h⟩ := g_bind h
      refine xr_callV C 45 (mX3_watch q2) v_X3_watch ml_X7_158 (Nat.le_of_ble_eq_true rfl) (Nat.le_of_ble_eq_true rfl) (xrecv C rfl rfl) rfl rfl (Nat.le_of_ble_eq_true rfl) rfl dX7_sunniest_45 ?_
      refine xr_iconst C 48 0 (by decide +kernel) dX7_sunniest_48 ?_
      refine xr_istore_n C 49 dX7_sunniest_49 (xnb hL rfl) ?_
      refine xr_aload_n C 50 rfl dX7_sunniest_50 ?_
      refine xr_getR C 51 dX7_sunniest_51 fl_X7_29 rfl rfl ?_
      refine xr_aload_n C 54 rfl dX7_sunniest_54 ?_
      refine xr_getR C 55 dX7_sunniest_55 fl_X7_10 rfl rfl ?_
      refine xr_aload_n C 58 rfl dX7_sunniest_58 ?_
      refine xr_getR C 59 dX7_sunniest_59 fl_X7_10 rfl rfl ?_
      refine xr_getR C 62 dX7_sunniest_62 fl_X7_138 rfl rfl ?_
      refine xr_iconst C 65 0 (by decide +kernel) dX7_sunniest_65 ?_
      refine xr_iald C 66 0 (by decide +kernel) dX7_sunniest_66 rfl (ibd_in (by decide +kernel)) ?_
      refine xr_aload_n C 67 rfl dX7_sunniest_67 ?_
      refine xr_getR C 68 dX7_sunniest_68 fl_X7_10 rfl rfl ?_
      refine xr_getR C 71 dX7_sunniest_71 fl_X7_141 rfl rfl ?_
      refine xr_iconst C 74 0 (by decide +kernel) dX7_sunniest_74 ?_
      refine xr_iald C 75 0 (by decide +kernel) dX7_sunniest_75 rfl (ibd_in (by decide +kernel)) ?_
      obtain ⟨z3, q4, h⟩ := g_bind h
      refine xr_callV C 76 (mX3_sumOf q4) v_X3_sumOf ml_X7_162 (Nat.le_of_ble_eq_true rfl) (Nat.le_of_ble_eq_true rfl) (xrecv C rfl rfl) rfl rfl (Nat.le_of_ble_eq_true rfl) rfl dX7_sunniest_76 ?_
      refine xr_istore C 79 dX7_sunniest_79 (xnb hL rfl) ?_
      refine xr_iconst C 81 1 (by decide +kernel) dX7_sunniest_81 ?_
      refine xr_istore C 82 dX7_sunniest_82 (xnb hL rfl) ?_
      exact xG.sub (bX7_sunniest_84 C hL E N _ _ _ _ h) ⟨rfl, rfl, rfl, rfl, trivial⟩
    · have h := g_it h q
      refine xr_aload_n C 25 rfl dX7_sunniest_25 ?_
      refine xr_ldc C 26 k_X7_120 dX7_sunniest_26 ?_
      obtain ⟨z5, q6, h⟩ := g_bind h
      refine xr_callV C 28 (mX7_refuse q6) v_X7_refuse ml_X7_70 (Nat.le_of_ble_eq_true rfl) (Nat.le_of_ble_eq_true rfl) (xrecv C rfl rfl) rfl rfl (Nat.le_of_ble_eq_true rfl) rfl dX7_sunniest_28 ?_
      cases h
      exact xr_iret C 31 E dX7_sunniest_31
  · have h := g_it h q
    refine xr_aload_n C 8 rfl dX7_sunniest_8 ?_
    refine xr_ldc C 9 k_X7_69 dX7_sunniest_9 ?_
    obtain ⟨z7, q8, h⟩ := g_bind h
    refine xr_callV C 11 (mX7_refuse q8) v_X7_refuse ml_X7_70 (Nat.le_of_ble_eq_true rfl) (Nat.le_of_ble_eq_true rfl) (xrecv C rfl rfl) rfl rfl (Nat.le_of_ble_eq_true rfl) rfl dX7_sunniest_11 ?_
    cases h
    exact xr_iret C 14 E dX7_sunniest_14
set_option maxRecDepth 100000 in
set_option maxHeartbeats 4000000 in
theorem mX7_sunniest {l : Launch} {ad : Nat → Nat} {G : gEnv} {N : Nat} {w : xW} {x1 : Int32} {x2 : Int32} {r : xW × Int32} (h : fX7_sunniest N w x1 x2 = some r) : xCt l ad G 5 yX7_sunniest cX7_sunniest 7 (some .int) [.ref (ad 0), .int x1, .int x2] w r.1 (some (.int r.2)) := xCt.of RX7 rfl (by decide +kernel) (Nat.le_of_ble_eq_true rfl) (fun Γ el ea eG eL C E => by
    subst el
    subst ea
    subst eG
    unfold fX7_sunniest at h
    exact xG.sub (bX7_sunniest_0 C eL  E h) ⟨rfl, rfl, rfl, trivial⟩)
def fX8_sunniest_14 (N : Nat) (w : xW) : Option (xW × Int32) :=
  (fX8_finding w (-1000000001)).bind fun z7 =>
  some (z7.1, z7.2)
def fX8_sunniest_75 (N : Nat) (K29 : xW → Int32 → Int32 → Int32 → Int32 → Int32 → Option (xW × Int32)) (w : xW) (x1 : Int32) (x2 : Int32) (x3 : Int32) (x4 : Int32) (x5 : Int32) : Option (xW × Int32) :=
  K29 w x1 x2 x3 x4 (x5 + 1)
def fX8_sunniest_68 (N : Nat) (K29 : xW → Int32 → Int32 → Int32 → Int32 → Int32 → Option (xW × Int32)) (w : xW) (x1 : Int32) (x2 : Int32) (x5 : Int32) (x6 : Int32) : Option (xW × Int32) :=
  fX8_sunniest_75 N K29 w x1 x2 x5 x6 x5
def fX8_sunniest_29b (N : Nat) (K29 : xW → Int32 → Int32 → Int32 → Int32 → Int32 → Option (xW × Int32)) (w : xW) (x1 : Int32) (x2 : Int32) (x3 : Int32) (x4 : Int32) (x5 : Int32) : Option (xW × Int32) :=
  if (w.1 56 9) ≤ x5 then
    if 0 ≤ x3 then
      some (w, x3)
    else
    (fX8_finding w (-1000000004)).bind fun z1 =>
    some (z1.1, z1.2)
  else
  (fX8_frontOf w x5).bind fun z3 =>
  (fX8_sumOf N w x5 z3 x1 x2).bind fun z5 =>
  if x3 < 0 then
    fX8_sunniest_68 N K29 z5.1 x1 x2 x5 z5.2
  else
  if z5.2 ≤ x4 then
    fX8_sunniest_75 N K29 z5.1 x1 x2 x3 x4 x5
  else
  fX8_sunniest_68 N K29 z5.1 x1 x2 x5 z5.2
def fX8_sunniest_29 (N : Nat) : Nat → xW → Int32 → Int32 → Int32 → Int32 → Int32 → Option (xW × Int32)
  | 0, _, _, _, _, _, _ => none
  | n + 1, w, x1, x2, x3, x4, x5 => fX8_sunniest_29b N (fX8_sunniest_29 N n) w x1 x2 x3 x4 x5
def fX8_sunniest_0 (N : Nat) (w : xW) (x1 : Int32) (x2 : Int32) : Option (xW × Int32) :=
  if (fX8_isTick x1) = 0 then
    fX8_sunniest_14 N w
  else
  if (fX8_isSpan x2) = 0 then
    fX8_sunniest_14 N w
  else
  fX8_sunniest_29 N N w x1 x2 (-1) 0 0
def fX8_sunniest (N : Nat) (w : xW) (x1 : Int32) (x2 : Int32) : Option (xW × Int32) := fX8_sunniest_0 N w x1 x2
set_option maxRecDepth 100000 in
set_option maxHeartbeats 4000000 in
theorem bX8_sunniest_14 {Γ : xΓ} (C : xOK Γ cX8_sunniest RX8 8) (hL : xn Γ = 7) {N : Nat} {w : xW} {r : xW × Int32} (E : xEnd Γ (some .int) r.1 (some (.int r.2))) (h : fX8_sunniest_14 N w = some r) : xG Γ w 14 [(0, .ref (xad Γ 55))] [] := by
  unfold fX8_sunniest_14 at h
  refine xr_aload_n C 14 rfl dX8_sunniest_14 ?_
  refine xr_ldc C 15 k_X8_98 dX8_sunniest_15 ?_
  obtain ⟨z7, q8, h⟩ := g_bind h
  refine xr_callV C 17 (mX8_finding q8) v_X8_finding ml_X8_125 (Nat.le_of_ble_eq_true rfl) (Nat.le_of_ble_eq_true rfl) (xrecv C rfl rfl) rfl rfl (Nat.le_of_ble_eq_true rfl) rfl dX8_sunniest_17 ?_
  cases h
  exact xr_iret C 20 E dX8_sunniest_20
set_option maxRecDepth 100000 in
set_option maxHeartbeats 4000000 in
theorem bX8_sunniest_75 {Γ : xΓ} (C : xOK Γ cX8_sunniest RX8 8) (hL : xn Γ = 7) {N : Nat} {K29 : xW → Int32 → Int32 → Int32 → Int32 → Int32 → Option (xW × Int32)} {w : xW} {x1 : Int32} {x2 : Int32} {x3 : Int32} {x4 : Int32} {x5 : Int32} {r : xW × Int32} (E : xEnd Γ (some .int) r.1 (some (.int r.2))) (hK29 : ∀ (w : xW) (x1 : Int32) (x2 : Int32) (x3 : Int32) (x4 : Int32) (x5 : Int32), K29 w x1 x2 x3 x4 x5 = some r → xG Γ w 29 [(0, .ref (xad Γ 55)), (1, .int x1), (2, .int x2), (3, .int x3), (4, .int x4), (5, .int x5)] []) (h : fX8_sunniest_75 N K29 w x1 x2 x3 x4 x5 = some r) : xG Γ w 75 [(0, .ref (xad Γ 55)), (1, .int x1), (2, .int x2), (3, .int x3), (4, .int x4), (5, .int x5)] [] := by
  unfold fX8_sunniest_75 at h
  refine xr_iinc C 75 1 (by decide +kernel) rfl dX8_sunniest_75 (xnb hL rfl) ?_
  refine xr_goto C 78 29 dX8_sunniest_78 rfl ?_
  exact xG.sub (hK29 _ _ _ _ _ _ h) ⟨rfl, rfl, rfl, rfl, rfl, rfl, trivial⟩
set_option maxRecDepth 100000 in
set_option maxHeartbeats 4000000 in
theorem bX8_sunniest_68 {Γ : xΓ} (C : xOK Γ cX8_sunniest RX8 8) (hL : xn Γ = 7) {N : Nat} {K29 : xW → Int32 → Int32 → Int32 → Int32 → Int32 → Option (xW × Int32)} {w : xW} {x1 : Int32} {x2 : Int32} {x5 : Int32} {x6 : Int32} {r : xW × Int32} (E : xEnd Γ (some .int) r.1 (some (.int r.2))) (hK29 : ∀ (w : xW) (x1 : Int32) (x2 : Int32) (x3 : Int32) (x4 : Int32) (x5 : Int32), K29 w x1 x2 x3 x4 x5 = some r → xG Γ w 29 [(0, .ref (xad Γ 55)), (1, .int x1), (2, .int x2), (3, .int x3), (4, .int x4), (5, .int x5)] []) (h : fX8_sunniest_68 N K29 w x1 x2 x5 x6 = some r) : xG Γ w 68 [(0, .ref (xad Γ 55)), (1, .int x1), (2, .int x2), (5, .int x5), (6, .int x6)] [] := by
  unfold fX8_sunniest_68 at h
  refine xr_iload C 68 rfl dX8_sunniest_68 ?_
  refine xr_istore_n C 70 dX8_sunniest_70 (xnb hL rfl) ?_
  refine xr_iload C 71 rfl dX8_sunniest_71 ?_
  refine xr_istore C 73 dX8_sunniest_73 (xnb hL rfl) ?_
  exact xG.sub (bX8_sunniest_75 C hL E hK29 h) ⟨rfl, rfl, rfl, rfl, rfl, rfl, trivial⟩
set_option maxRecDepth 100000 in
set_option maxHeartbeats 4000000 in
theorem bX8_sunniest_29b {Γ : xΓ} (C : xOK Γ cX8_sunniest RX8 8) (hL : xn Γ = 7) {N : Nat} {K29 : xW → Int32 → Int32 → Int32 → Int32 → Int32 → Option (xW × Int32)} {w : xW} {x1 : Int32} {x2 : Int32} {x3 : Int32} {x4 : Int32} {x5 : Int32} {r : xW × Int32} (E : xEnd Γ (some .int) r.1 (some (.int r.2))) (hK29 : ∀ (w : xW) (x1 : Int32) (x2 : Int32) (x3 : Int32) (x4 : Int32) (x5 : Int32), K29 w x1 x2 x3 x4 x5 = some r → xG Γ w 29 [(0, .ref (xad Γ 55)), (1, .int x1), (2, .int x2), (3, .int x3), (4, .int x4), (5, .int x5)] []) (h : fX8_sunniest_29b N K29 w x1 x2 x3 x4 x5 = some r) : xG Γ w 29 [(0, .ref (xad Γ 55)), (1, .int x1), (2, .int x2), (3, .int x3), (4, .int x4), (5, .int x5)] [] := by
  unfold fX8_sunniest_29b at h
  refine xr_iload C 29 rfl dX8_sunniest_29 ?_
  refine xr_aload_n C 31 rfl dX8_sunniest_31 ?_
  refine xr_getR C 32 dX8_sunniest_32 fl_X8_9 rfl rfl ?_
  refine xr_bipush C 35 9 (by decide +kernel) dX8_sunniest_35 ?_
  refine xr_iald C 37 9 (by decide +kernel) dX8_sunniest_37 rfl (ibd_in (by decide +kernel)) ?_
  refine xr_icmp_ge C 38 81 dX8_sunniest_38 rfl (fun q => ?_) (fun q => ?_)
  · have h := g_it h q
    refine xr_iload_n C 81 rfl dX8_sunniest_81 ?_
    refine xr_if_ge C 82 94 dX8_sunniest_82 rfl (fun q => ?_) (fun q => ?_)
    · have h := g_it h q
      refine xr_iload_n C 94 rfl dX8_sunniest_94 ?_
      cases h
      exact xr_iret C 95 E dX8_sunniest_95
    · have h := g_if h q
      refine xr_aload_n C 85 rfl dX8_sunniest_85 ?_
      refine xr_ldc C 86 k_X8_149 dX8_sunniest_86 ?_
      obtain ⟨z1, q2, h⟩ := g_bind h
      refine xr_callV C 88 (mX8_finding q2) v_X8_finding ml_X8_125 (Nat.le_of_ble_eq_true rfl) (Nat.le_of_ble_eq_true rfl) (xrecv C rfl rfl) rfl rfl (Nat.le_of_ble_eq_true rfl) rfl dX8_sunniest_88 ?_
      refine xr_goto C 91 95 dX8_sunniest_91 rfl ?_
      cases h
      exact xr_iret C 95 E dX8_sunniest_95
  · have h := g_if h q
    refine xr_aload_n C 41 rfl dX8_sunniest_41 ?_
    refine xr_iload C 42 rfl dX8_sunniest_42 ?_
    refine xr_aload_n C 44 rfl dX8_sunniest_44 ?_
    refine xr_iload C 45 rfl dX8_sunniest_45 ?_
    obtain ⟨z3, q4, h⟩ := g_bind h
    refine xr_callV C 47 (mX8_frontOf q4) v_X8_frontOf ml_X8_167 (Nat.le_of_ble_eq_true rfl) (Nat.le_of_ble_eq_true rfl) (xrecv C rfl rfl) rfl rfl (Nat.le_of_ble_eq_true rfl) rfl dX8_sunniest_47 ?_
    refine xr_iload_n C 50 rfl dX8_sunniest_50 ?_
    refine xr_iload_n C 51 rfl dX8_sunniest_51 ?_
    obtain ⟨z5, q6, h⟩ := g_bind h
    refine xr_callV C 52 (mX8_sumOf q6) v_X8_sumOf ml_X8_183 (Nat.le_of_ble_eq_true rfl) (Nat.le_of_ble_eq_true rfl) (xrecv C rfl rfl) rfl rfl (Nat.le_of_ble_eq_true rfl) rfl dX8_sunniest_52 ?_
    refine xr_istore C 55 dX8_sunniest_55 (xnb hL rfl) ?_
    refine xr_iload_n C 57 rfl dX8_sunniest_57 ?_
    refine xr_if_lt C 58 68 dX8_sunniest_58 rfl (fun q => ?_) (fun q => ?_)
    · have h := g_it h q
      exact xG.sub (bX8_sunniest_68 C hL E hK29 h) ⟨rfl, rfl, rfl, rfl, rfl, trivial⟩
    · have h := g_if h q
      refine xr_iload C 61 rfl dX8_sunniest_61 ?_
      refine xr_iload C 63 rfl dX8_sunniest_63 ?_
      refine xr_icmp_le C 65 75 dX8_sunniest_65 rfl (fun q => ?_) (fun q => ?_)
      · have h := g_it h q
        exact xG.sub (bX8_sunniest_75 C hL E hK29 h) ⟨rfl, rfl, rfl, rfl, rfl, rfl, trivial⟩
      · have h := g_if h q
        exact xG.sub (bX8_sunniest_68 C hL E hK29 h) ⟨rfl, rfl, rfl, rfl, rfl, trivial⟩
set_option maxRecDepth 100000 in
set_option maxHeartbeats 4000000 in
theorem bX8_sunniest_29 {Γ : xΓ} (C : xOK Γ cX8_sunniest RX8 8) (hL : xn Γ = 7) {N : Nat} {r : xW × Int32} (E : xEnd Γ (some .int) r.1 (some (.int r.2))) : ∀ (n : Nat) (w : xW) (x1 : Int32) (x2 : Int32) (x3 : Int32) (x4 : Int32) (x5 : Int32), fX8_sunniest_29 N n w x1 x2 x3 x4 x5 = some r → xG Γ w 29 [(0, .ref (xad Γ 55)), (1, .int x1), (2, .int x2), (3, .int x3), (4, .int x4), (5, .int x5)] []
  | 0, _, _, _, _, _, _, h => by cases h
  | n + 1, w, x1, x2, x3, x4, x5, h => bX8_sunniest_29b C hL E (bX8_sunniest_29 C hL E n) h
set_option maxRecDepth 100000 in
set_option maxHeartbeats 4000000 in
theorem bX8_sunniest_0 {Γ : xΓ} (C : xOK Γ cX8_sunniest RX8 8) (hL : xn Γ = 7) {N : Nat} {w : xW} {x1 : Int32} {x2 : Int32} {r : xW × Int32} (E : xEnd Γ (some .int) r.1 (some (.int r.2))) (h : fX8_sunniest_0 N w x1 x2 = some r) : xG Γ w 0 [(0, .ref (xad Γ 55)), (1, .int x1), (2, .int x2)] [] := by
  unfold fX8_sunniest_0 at h
  refine xr_iload_n C 0 rfl dX8_sunniest_0 ?_
  refine xr_callS C 1 (mX8_isTick rfl) v_X8_isTick ml_X8_137 (Nat.le_of_ble_eq_true rfl) (Nat.le_of_ble_eq_true rfl) rfl rfl (Nat.le_of_ble_eq_true rfl) rfl dX8_sunniest_1 ?_
  refine xr_if_eq C 4 14 dX8_sunniest_4 rfl (fun q => ?_) (fun q => ?_)
  · have h := g_it h q
    exact xG.sub (bX8_sunniest_14 C hL E h) ⟨rfl, trivial⟩
  · have h := g_if h q
    refine xr_iload_n C 7 rfl dX8_sunniest_7 ?_
    refine xr_callS C 8 (mX8_isSpan rfl) v_X8_isSpan ml_X8_180 (Nat.le_of_ble_eq_true rfl) (Nat.le_of_ble_eq_true rfl) rfl rfl (Nat.le_of_ble_eq_true rfl) rfl dX8_sunniest_8 ?_
    refine xr_if_ne C 11 21 dX8_sunniest_11 rfl (fun q => ?_) (fun q => ?_)
    · have h := g_if h q
      refine xr_iconst C 21 (-1) (by decide +kernel) dX8_sunniest_21 ?_
      refine xr_istore_n C 22 dX8_sunniest_22 (xnb hL rfl) ?_
      refine xr_iconst C 23 0 (by decide +kernel) dX8_sunniest_23 ?_
      refine xr_istore C 24 dX8_sunniest_24 (xnb hL rfl) ?_
      refine xr_iconst C 26 0 (by decide +kernel) dX8_sunniest_26 ?_
      refine xr_istore C 27 dX8_sunniest_27 (xnb hL rfl) ?_
      exact xG.sub (bX8_sunniest_29 C hL E N _ _ _ _ _ _ h) ⟨rfl, rfl, rfl, rfl, rfl, rfl, trivial⟩
    · have h := g_it h q
      exact xG.sub (bX8_sunniest_14 C hL E h) ⟨rfl, trivial⟩
set_option maxRecDepth 100000 in
set_option maxHeartbeats 4000000 in
theorem mX8_sunniest {l : Launch} {ad : Nat → Nat} {G : gEnv} {N : Nat} {w : xW} {x1 : Int32} {x2 : Int32} {r : xW × Int32} (h : fX8_sunniest N w x1 x2 = some r) : xCt l ad G 8 yX8_sunniest cX8_sunniest 7 (some .int) [.ref (ad 55), .int x1, .int x2] w r.1 (some (.int r.2)) := xCt.of RX8 rfl (by decide +kernel) (Nat.le_of_ble_eq_true rfl) (fun Γ el ea eG eL C E => by
    subst el
    subst ea
    subst eG
    unfold fX8_sunniest at h
    exact xG.sub (bX8_sunniest_0 C eL  E h) ⟨rfl, rfl, rfl, trivial⟩)
def fX7_looksInHour_3b (N : Nat) (K3 : xW → Int32 → Int32 → Int32 → Int32 → Option (xW × Int32)) (w : xW) (x1 : Int32) (x2 : Int32) (x3 : Int32) (x4 : Int32) : Option (xW × Int32) :=
  if (x3 + 4) ≤ x4 then
    some (w, 0)
  else
  (fX6_at N w x4).bind fun z1 =>
  if (fX6_sideOf z1 x1) = x2 then
    some (z1, 1)
  else
  K3 z1 x1 x2 x3 (x4 + 1)
def fX7_looksInHour_3 (N : Nat) : Nat → xW → Int32 → Int32 → Int32 → Int32 → Option (xW × Int32)
  | 0, _, _, _, _, _ => none
  | n + 1, w, x1, x2, x3, x4 => fX7_looksInHour_3b N (fX7_looksInHour_3 N n) w x1 x2 x3 x4
def fX7_looksInHour_0 (N : Nat) (w : xW) (x1 : Int32) (x2 : Int32) (x3 : Int32) : Option (xW × Int32) :=
  fX7_looksInHour_3 N N w x1 x2 x3 x3
def fX7_looksInHour (N : Nat) (w : xW) (x1 : Int32) (x2 : Int32) (x3 : Int32) : Option (xW × Int32) := fX7_looksInHour_0 N w x1 x2 x3
set_option maxRecDepth 100000 in
set_option maxHeartbeats 4000000 in
theorem bX7_looksInHour_3b {Γ : xΓ} (C : xOK Γ cX7_looksInHour RX7 3) (hL : xn Γ = 5) {N : Nat} {K3 : xW → Int32 → Int32 → Int32 → Int32 → Option (xW × Int32)} {w : xW} {x1 : Int32} {x2 : Int32} {x3 : Int32} {x4 : Int32} {r : xW × Int32} (E : xEnd Γ (some .boolean) r.1 (some (.int r.2))) (hK3 : ∀ (w : xW) (x1 : Int32) (x2 : Int32) (x3 : Int32) (x4 : Int32), K3 w x1 x2 x3 x4 = some r → xG Γ w 3 [(0, .ref (xad Γ 0)), (1, .int x1), (2, .int x2), (3, .int x3), (4, .int x4)] []) (h : fX7_looksInHour_3b N K3 w x1 x2 x3 x4 = some r) : xG Γ w 3 [(0, .ref (xad Γ 0)), (1, .int x1), (2, .int x2), (3, .int x3), (4, .int x4)] [] := by
  unfold fX7_looksInHour_3b at h
  refine xr_iload C 3 rfl dX7_looksInHour_3 ?_
  refine xr_iload_n C 5 rfl dX7_looksInHour_5 ?_
  refine xr_iconst C 6 4 (by decide +kernel) dX7_looksInHour_6 ?_
  refine xr_iadd C 7 dX7_looksInHour_7 ?_
  refine xr_icmp_ge C 8 46 dX7_looksInHour_8 rfl (fun q => ?_) (fun q => ?_)
  · have h := g_it h q
    refine xr_iconst C 46 0 (by decide +kernel) dX7_looksInHour_46 ?_
    cases h
    exact xr_zret C 47 E dX7_looksInHour_47 (by decide +kernel)
  · have h := g_if h q
    refine xr_aload_n C 11 rfl dX7_looksInHour_11 ?_
    refine xr_getR C 12 dX7_looksInHour_12 fl_X7_10 rfl rfl ?_
    refine xr_getR C 15 dX7_looksInHour_15 fl_X7_77 rfl rfl ?_
    refine xr_iload C 18 rfl dX7_looksInHour_18 ?_
    obtain ⟨z1, q2, h⟩ := g_bind h
    refine xr_callV C 20 (mX6_at q2) v_X6_at ml_X7_107 (Nat.le_of_ble_eq_true rfl) (Nat.le_of_ble_eq_true rfl) (xrecv C rfl rfl) rfl rfl (Nat.le_of_ble_eq_true rfl) rfl dX7_looksInHour_20 ?_
    refine xr_aload_n C 23 rfl dX7_looksInHour_23 ?_
    refine xr_getR C 24 dX7_looksInHour_24 fl_X7_10 rfl rfl ?_
    refine xr_getR C 27 dX7_looksInHour_27 fl_X7_77 rfl rfl ?_
    refine xr_iload_n C 30 rfl dX7_looksInHour_30 ?_
    refine xr_callV C 31 (mX6_sideOf rfl) v_X6_sideOf ml_X7_117 (Nat.le_of_ble_eq_true rfl) (Nat.le_of_ble_eq_true rfl) (xrecv C rfl rfl) rfl rfl (Nat.le_of_ble_eq_true rfl) rfl dX7_looksInHour_31 ?_
    refine xr_iload_n C 34 rfl dX7_looksInHour_34 ?_
    refine xr_icmp_ne C 35 40 dX7_looksInHour_35 rfl (fun q => ?_) (fun q => ?_)
    · have h := g_if h q
      refine xr_iinc C 40 1 (by decide +kernel) rfl dX7_looksInHour_40 (xnb hL rfl) ?_
      refine xr_goto C 43 3 dX7_looksInHour_43 rfl ?_
      exact xG.sub (hK3 _ _ _ _ _ h) ⟨rfl, rfl, rfl, rfl, rfl, trivial⟩
    · have h := g_it h q
      refine xr_iconst C 38 1 (by decide +kernel) dX7_looksInHour_38 ?_
      cases h
      exact xr_zret C 39 E dX7_looksInHour_39 (by decide +kernel)
set_option maxRecDepth 100000 in
set_option maxHeartbeats 4000000 in
theorem bX7_looksInHour_3 {Γ : xΓ} (C : xOK Γ cX7_looksInHour RX7 3) (hL : xn Γ = 5) {N : Nat} {r : xW × Int32} (E : xEnd Γ (some .boolean) r.1 (some (.int r.2))) : ∀ (n : Nat) (w : xW) (x1 : Int32) (x2 : Int32) (x3 : Int32) (x4 : Int32), fX7_looksInHour_3 N n w x1 x2 x3 x4 = some r → xG Γ w 3 [(0, .ref (xad Γ 0)), (1, .int x1), (2, .int x2), (3, .int x3), (4, .int x4)] []
  | 0, _, _, _, _, _, h => by cases h
  | n + 1, w, x1, x2, x3, x4, h => bX7_looksInHour_3b C hL E (bX7_looksInHour_3 C hL E n) h
set_option maxRecDepth 100000 in
set_option maxHeartbeats 4000000 in
theorem bX7_looksInHour_0 {Γ : xΓ} (C : xOK Γ cX7_looksInHour RX7 3) (hL : xn Γ = 5) {N : Nat} {w : xW} {x1 : Int32} {x2 : Int32} {x3 : Int32} {r : xW × Int32} (E : xEnd Γ (some .boolean) r.1 (some (.int r.2))) (h : fX7_looksInHour_0 N w x1 x2 x3 = some r) : xG Γ w 0 [(0, .ref (xad Γ 0)), (1, .int x1), (2, .int x2), (3, .int x3)] [] := by
  unfold fX7_looksInHour_0 at h
  refine xr_iload_n C 0 rfl dX7_looksInHour_0 ?_
  refine xr_istore C 1 dX7_looksInHour_1 (xnb hL rfl) ?_
  exact xG.sub (bX7_looksInHour_3 C hL E N _ _ _ _ _ h) ⟨rfl, rfl, rfl, rfl, rfl, trivial⟩
set_option maxRecDepth 100000 in
set_option maxHeartbeats 4000000 in
theorem mX7_looksInHour {l : Launch} {ad : Nat → Nat} {G : gEnv} {N : Nat} {w : xW} {x1 : Int32} {x2 : Int32} {x3 : Int32} {r : xW × Int32} (h : fX7_looksInHour N w x1 x2 x3 = some r) : xCt l ad G 3 yX7_looksInHour cX7_looksInHour 5 (some .boolean) [.ref (ad 0), .int x1, .int x2, .int x3] w r.1 (some (.int r.2)) := xCt.of RX7 rfl (by decide +kernel) (Nat.le_of_ble_eq_true rfl) (fun Γ el ea eG eL C E => by
    subst el
    subst ea
    subst eG
    unfold fX7_looksInHour at h
    exact xG.sub (bX7_looksInHour_0 C eL  E h) ⟨rfl, rfl, rfl, rfl, trivial⟩)
def fX7_days_33 (N : Nat) (w : xW) : Option (xW × Int32) :=
  (fX7_refuse w (-1000000001)).bind fun z4 =>
  some (z4.1, z4.2)
def fX7_days_95 (N : Nat) (K60 : xW → Int32 → Int32 → Int32 → Int32 → Int32 → Option (xW × Int32)) (w : xW) (x1 : Int32) (x2 : Int32) (x5 : Int32) (x6 : Int32) (x7 : Int32) : Option (xW × Int32) :=
  K60 w x1 x2 x5 x6 (x7 + 1)
def fX7_days_60b (N : Nat) (K60 : xW → Int32 → Int32 → Int32 → Int32 → Int32 → Option (xW × Int32)) (w : xW) (x1 : Int32) (x2 : Int32) (x5 : Int32) (x6 : Int32) (x7 : Int32) : Option (xW × Int32) :=
  if 30 ≤ x7 then
    some (w, x6)
  else
  if ibd x1 8 = true then
  (fX7_looksInHour N w (w.1 6 x1.toNatClampNeg) x2 (x5 + (x7 * 96))).bind fun z2 =>
  if z2.2 = 0 then
    fX7_days_95 N K60 z2.1 x1 x2 x5 x6 x7
  else
  fX7_days_95 N K60 z2.1 x1 x2 x5 (x6 + 1) x7
  else none
def fX7_days_60 (N : Nat) : Nat → xW → Int32 → Int32 → Int32 → Int32 → Int32 → Option (xW × Int32)
  | 0, _, _, _, _, _, _ => none
  | n + 1, w, x1, x2, x5, x6, x7 => fX7_days_60b N (fX7_days_60 N n) w x1 x2 x5 x6 x7
def fX7_days_0 (N : Nat) (w : xW) (x1 : Int32) (x2 : Int32) (x3 : Int32) (x4 : Int32) : Option (xW × Int32) :=
  if (fX7_isHouse w x1) = 0 then
    fX7_days_33 N w
  else
  if (fX7_isSide x2) = 0 then
    fX7_days_33 N w
  else
  if x3 < 0 then
    fX7_days_33 N w
  else
  if 24 ≤ x3 then
    fX7_days_33 N w
  else
  if (fX7_isTick x4) = 0 then
    fX7_days_33 N w
  else
  fX7_days_60 N N w x1 x2 ((x4 - (irem x4 96)) + (x3 * 4)) 0 0
def fX7_days (N : Nat) (w : xW) (x1 : Int32) (x2 : Int32) (x3 : Int32) (x4 : Int32) : Option (xW × Int32) := fX7_days_0 N w x1 x2 x3 x4
set_option maxRecDepth 100000 in
set_option maxHeartbeats 4000000 in
theorem bX7_days_33 {Γ : xΓ} (C : xOK Γ cX7_days RX7 4) (hL : xn Γ = 8) {N : Nat} {w : xW} {r : xW × Int32} (E : xEnd Γ (some .int) r.1 (some (.int r.2))) (h : fX7_days_33 N w = some r) : xG Γ w 33 [(0, .ref (xad Γ 0))] [] := by
  unfold fX7_days_33 at h
  refine xr_aload_n C 33 rfl dX7_days_33 ?_
  refine xr_ldc C 34 k_X7_69 dX7_days_34 ?_
  obtain ⟨z4, q5, h⟩ := g_bind h
  refine xr_callV C 36 (mX7_refuse q5) v_X7_refuse ml_X7_70 (Nat.le_of_ble_eq_true rfl) (Nat.le_of_ble_eq_true rfl) (xrecv C rfl rfl) rfl rfl (Nat.le_of_ble_eq_true rfl) rfl dX7_days_36 ?_
  cases h
  exact xr_iret C 39 E dX7_days_39
set_option maxRecDepth 100000 in
set_option maxHeartbeats 4000000 in
theorem bX7_days_95 {Γ : xΓ} (C : xOK Γ cX7_days RX7 4) (hL : xn Γ = 8) {N : Nat} {K60 : xW → Int32 → Int32 → Int32 → Int32 → Int32 → Option (xW × Int32)} {w : xW} {x1 : Int32} {x2 : Int32} {x5 : Int32} {x6 : Int32} {x7 : Int32} {r : xW × Int32} (E : xEnd Γ (some .int) r.1 (some (.int r.2))) (hK60 : ∀ (w : xW) (x1 : Int32) (x2 : Int32) (x5 : Int32) (x6 : Int32) (x7 : Int32), K60 w x1 x2 x5 x6 x7 = some r → xG Γ w 60 [(0, .ref (xad Γ 0)), (1, .int x1), (2, .int x2), (5, .int x5), (6, .int x6), (7, .int x7)] []) (h : fX7_days_95 N K60 w x1 x2 x5 x6 x7 = some r) : xG Γ w 95 [(0, .ref (xad Γ 0)), (1, .int x1), (2, .int x2), (5, .int x5), (6, .int x6), (7, .int x7)] [] := by
  unfold fX7_days_95 at h
  refine xr_iinc C 95 1 (by decide +kernel) rfl dX7_days_95 (xnb hL rfl) ?_
  refine xr_goto C 98 60 dX7_days_98 rfl ?_
  exact xG.sub (hK60 _ _ _ _ _ _ h) ⟨rfl, rfl, rfl, rfl, rfl, rfl, trivial⟩
set_option maxRecDepth 100000 in
set_option maxHeartbeats 4000000 in
theorem bX7_days_60b {Γ : xΓ} (C : xOK Γ cX7_days RX7 4) (hL : xn Γ = 8) {N : Nat} {K60 : xW → Int32 → Int32 → Int32 → Int32 → Int32 → Option (xW × Int32)} {w : xW} {x1 : Int32} {x2 : Int32} {x5 : Int32} {x6 : Int32} {x7 : Int32} {r : xW × Int32} (E : xEnd Γ (some .int) r.1 (some (.int r.2))) (hK60 : ∀ (w : xW) (x1 : Int32) (x2 : Int32) (x5 : Int32) (x6 : Int32) (x7 : Int32), K60 w x1 x2 x5 x6 x7 = some r → xG Γ w 60 [(0, .ref (xad Γ 0)), (1, .int x1), (2, .int x2), (5, .int x5), (6, .int x6), (7, .int x7)] []) (h : fX7_days_60b N K60 w x1 x2 x5 x6 x7 = some r) : xG Γ w 60 [(0, .ref (xad Γ 0)), (1, .int x1), (2, .int x2), (5, .int x5), (6, .int x6), (7, .int x7)] [] := by
  unfold fX7_days_60b at h
  refine xr_iload C 60 rfl dX7_days_60 ?_
  refine xr_bipush C 62 30 (by decide +kernel) dX7_days_62 ?_
  refine xr_icmp_ge C 64 101 dX7_days_64 rfl (fun q => ?_) (fun q => ?_)
  · have h := g_it h q
    refine xr_iload C 101 rfl dX7_days_101 ?_
    cases h
    exact xr_iret C 103 E dX7_days_103
  · have h := g_if h q
    refine xr_aload_n C 67 rfl dX7_days_67 ?_
    refine xr_aload_n C 68 rfl dX7_days_68 ?_
    refine xr_getR C 69 dX7_days_69 fl_X7_10 rfl rfl ?_
    refine xr_getR C 72 dX7_days_72 fl_X7_141 rfl rfl ?_
    refine xr_iload_n C 75 rfl dX7_days_75 ?_
    obtain ⟨q1, h⟩ := g_ib h
    refine xr_iald C 76 x1.toNatClampNeg rfl dX7_days_76 rfl (ibd_in q1) ?_
    refine xr_iload_n C 77 rfl dX7_days_77 ?_
    refine xr_iload C 78 rfl dX7_days_78 ?_
    refine xr_iload C 80 rfl dX7_days_80 ?_
    refine xr_bipush C 82 96 (by decide +kernel) dX7_days_82 ?_
    refine xr_imul C 84 dX7_days_84 ?_
    refine xr_iadd C 85 dX7_days_85 ?_
    obtain ⟨z2, q3, h⟩ := g_bind h
    refine xr_callV C 86 (mX7_looksInHour q3) v_X7_looksInHour ml_X7_166 (Nat.le_of_ble_eq_true rfl) (Nat.le_of_ble_eq_true rfl) (xrecv C rfl rfl) rfl rfl (Nat.le_of_ble_eq_true rfl) rfl dX7_days_86 ?_
    refine xr_if_eq C 89 95 dX7_days_89 rfl (fun q => ?_) (fun q => ?_)
    · have h := g_it h q
      exact xG.sub (bX7_days_95 C hL E hK60 h) ⟨rfl, rfl, rfl, rfl, rfl, rfl, trivial⟩
    · have h := g_if h q
      refine xr_iinc C 92 1 (by decide +kernel) rfl dX7_days_92 (xnb hL rfl) ?_
      exact xG.sub (bX7_days_95 C hL E hK60 h) ⟨rfl, rfl, rfl, rfl, rfl, rfl, trivial⟩
set_option maxRecDepth 100000 in
set_option maxHeartbeats 4000000 in
theorem bX7_days_60 {Γ : xΓ} (C : xOK Γ cX7_days RX7 4) (hL : xn Γ = 8) {N : Nat} {r : xW × Int32} (E : xEnd Γ (some .int) r.1 (some (.int r.2))) : ∀ (n : Nat) (w : xW) (x1 : Int32) (x2 : Int32) (x5 : Int32) (x6 : Int32) (x7 : Int32), fX7_days_60 N n w x1 x2 x5 x6 x7 = some r → xG Γ w 60 [(0, .ref (xad Γ 0)), (1, .int x1), (2, .int x2), (5, .int x5), (6, .int x6), (7, .int x7)] []
  | 0, _, _, _, _, _, _, h => by cases h
  | n + 1, w, x1, x2, x5, x6, x7, h => bX7_days_60b C hL E (bX7_days_60 C hL E n) h
set_option maxRecDepth 100000 in
set_option maxHeartbeats 4000000 in
theorem bX7_days_0 {Γ : xΓ} (C : xOK Γ cX7_days RX7 4) (hL : xn Γ = 8) {N : Nat} {w : xW} {x1 : Int32} {x2 : Int32} {x3 : Int32} {x4 : Int32} {r : xW × Int32} (E : xEnd Γ (some .int) r.1 (some (.int r.2))) (h : fX7_days_0 N w x1 x2 x3 x4 = some r) : xG Γ w 0 [(0, .ref (xad Γ 0)), (1, .int x1), (2, .int x2), (3, .int x3), (4, .int x4)] [] := by
  unfold fX7_days_0 at h
  refine xr_aload_n C 0 rfl dX7_days_0 ?_
  refine xr_iload_n C 1 rfl dX7_days_1 ?_
  refine xr_callV C 2 (mX7_isHouse rfl) v_X7_isHouse ml_X7_135 (Nat.le_of_ble_eq_true rfl) (Nat.le_of_ble_eq_true rfl) (xrecv C rfl rfl) rfl rfl (Nat.le_of_ble_eq_true rfl) rfl dX7_days_2 ?_
  refine xr_if_eq C 5 33 dX7_days_5 rfl (fun q => ?_) (fun q => ?_)
  · have h := g_it h q
    exact xG.sub (bX7_days_33 C hL E h) ⟨rfl, trivial⟩
  · have h := g_if h q
    refine xr_iload_n C 8 rfl dX7_days_8 ?_
    refine xr_callS C 9 (mX7_isSide rfl) v_X7_isSide ml_X7_87 (Nat.le_of_ble_eq_true rfl) (Nat.le_of_ble_eq_true rfl) rfl rfl (Nat.le_of_ble_eq_true rfl) rfl dX7_days_9 ?_
    refine xr_if_eq C 12 33 dX7_days_12 rfl (fun q => ?_) (fun q => ?_)
    · have h := g_it h q
      exact xG.sub (bX7_days_33 C hL E h) ⟨rfl, trivial⟩
    · have h := g_if h q
      refine xr_iload_n C 15 rfl dX7_days_15 ?_
      refine xr_if_lt C 16 33 dX7_days_16 rfl (fun q => ?_) (fun q => ?_)
      · have h := g_it h q
        exact xG.sub (bX7_days_33 C hL E h) ⟨rfl, trivial⟩
      · have h := g_if h q
        refine xr_iload_n C 19 rfl dX7_days_19 ?_
        refine xr_bipush C 20 24 (by decide +kernel) dX7_days_20 ?_
        refine xr_icmp_ge C 22 33 dX7_days_22 rfl (fun q => ?_) (fun q => ?_)
        · have h := g_it h q
          exact xG.sub (bX7_days_33 C hL E h) ⟨rfl, trivial⟩
        · have h := g_if h q
          refine xr_iload C 25 rfl dX7_days_25 ?_
          refine xr_callS C 27 (mX7_isTick rfl) v_X7_isTick ml_X7_104 (Nat.le_of_ble_eq_true rfl) (Nat.le_of_ble_eq_true rfl) rfl rfl (Nat.le_of_ble_eq_true rfl) rfl dX7_days_27 ?_
          refine xr_if_ne C 30 40 dX7_days_30 rfl (fun q => ?_) (fun q => ?_)
          · have h := g_if h q
            refine xr_iload C 40 rfl dX7_days_40 ?_
            refine xr_iload C 42 rfl dX7_days_42 ?_
            refine xr_bipush C 44 96 (by decide +kernel) dX7_days_44 ?_
            refine xr_irem C 46 (by decide +kernel) dX7_days_46 ?_
            refine xr_isub C 47 dX7_days_47 ?_
            refine xr_iload_n C 48 rfl dX7_days_48 ?_
            refine xr_iconst C 49 4 (by decide +kernel) dX7_days_49 ?_
            refine xr_imul C 50 dX7_days_50 ?_
            refine xr_iadd C 51 dX7_days_51 ?_
            refine xr_istore C 52 dX7_days_52 (xnb hL rfl) ?_
            refine xr_iconst C 54 0 (by decide +kernel) dX7_days_54 ?_
            refine xr_istore C 55 dX7_days_55 (xnb hL rfl) ?_
            refine xr_iconst C 57 0 (by decide +kernel) dX7_days_57 ?_
            refine xr_istore C 58 dX7_days_58 (xnb hL rfl) ?_
            exact xG.sub (bX7_days_60 C hL E N _ _ _ _ _ _ h) ⟨rfl, rfl, rfl, rfl, rfl, rfl, trivial⟩
          · have h := g_it h q
            exact xG.sub (bX7_days_33 C hL E h) ⟨rfl, trivial⟩
set_option maxRecDepth 100000 in
set_option maxHeartbeats 4000000 in
theorem mX7_days {l : Launch} {ad : Nat → Nat} {G : gEnv} {N : Nat} {w : xW} {x1 : Int32} {x2 : Int32} {x3 : Int32} {x4 : Int32} {r : xW × Int32} (h : fX7_days N w x1 x2 x3 x4 = some r) : xCt l ad G 4 yX7_days cX7_days 8 (some .int) [.ref (ad 0), .int x1, .int x2, .int x3, .int x4] w r.1 (some (.int r.2)) := xCt.of RX7 rfl (by decide +kernel) (Nat.le_of_ble_eq_true rfl) (fun Γ el ea eG eL C E => by
    subst el
    subst ea
    subst eG
    unfold fX7_days at h
    exact xG.sub (bX7_days_0 C eL  E h) ⟨rfl, rfl, rfl, rfl, rfl, trivial⟩)
def fX8_days_33 (N : Nat) (w : xW) : Option (xW × Int32) :=
  (fX8_finding w (-1000000001)).bind fun z5 =>
  some (z5.1, z5.2)
def fX8_days_140 (N : Nat) (K60 : xW → Int32 → Int32 → Int32 → Int32 → Int32 → Option (xW × Int32)) (w : xW) (x1 : Int32) (x2 : Int32) (x5 : Int32) (x7 : Int32) (s0 : Int32) (s1 : Int32) : Option (xW × Int32) :=
  K60 w x1 x2 x5 (s1 + s0) (x7 + 1)
def fX8_days_120 (N : Nat) (K60 : xW → Int32 → Int32 → Int32 → Int32 → Int32 → Option (xW × Int32)) (K80 : xW → Int32 → Int32 → Int32 → Int32 → Int32 → Int32 → Int32 → Option (xW × Int32)) (w : xW) (x1 : Int32) (x2 : Int32) (x5 : Int32) (x6 : Int32) (x7 : Int32) (x9 : Int32) (s0 : Int32) : Option (xW × Int32) :=
  K80 w x1 x2 x5 x6 x7 s0 (x9 + 1)
def fX8_days_80b (N : Nat) (K60 : xW → Int32 → Int32 → Int32 → Int32 → Int32 → Option (xW × Int32)) (K80 : xW → Int32 → Int32 → Int32 → Int32 → Int32 → Int32 → Int32 → Option (xW × Int32)) (w : xW) (x1 : Int32) (x2 : Int32) (x5 : Int32) (x6 : Int32) (x7 : Int32) (x8 : Int32) (x9 : Int32) : Option (xW × Int32) :=
  if ((x5 + (96 * x7)) + 4) ≤ x9 then
    if x8 = 0 then
      fX8_days_140 N K60 w x1 x2 x5 x7 0 x6
    else
    fX8_days_140 N K60 w x1 x2 x5 x7 1 x6
  else
  if x8 = 0 then
    (fX8_frontOf w x1).bind fun z1 =>
    (fX8_sideOf N w z1 x9).bind fun z3 =>
    if z3.2 = x2 then
      fX8_days_120 N K60 K80 z3.1 x1 x2 x5 x6 x7 x9 1
    else
    fX8_days_120 N K60 K80 z3.1 x1 x2 x5 x6 x7 x9 0
  else
  fX8_days_120 N K60 K80 w x1 x2 x5 x6 x7 x9 1
def fX8_days_80 (N : Nat) (K60 : xW → Int32 → Int32 → Int32 → Int32 → Int32 → Option (xW × Int32)) : Nat → xW → Int32 → Int32 → Int32 → Int32 → Int32 → Int32 → Int32 → Option (xW × Int32)
  | 0, _, _, _, _, _, _, _, _ => none
  | n + 1, w, x1, x2, x5, x6, x7, x8, x9 => fX8_days_80b N K60 (fX8_days_80 N K60 n) w x1 x2 x5 x6 x7 x8 x9
def fX8_days_60b (N : Nat) (K60 : xW → Int32 → Int32 → Int32 → Int32 → Int32 → Option (xW × Int32)) (w : xW) (x1 : Int32) (x2 : Int32) (x5 : Int32) (x6 : Int32) (x7 : Int32) : Option (xW × Int32) :=
  if 30 ≤ x7 then
    some (w, x6)
  else
  fX8_days_80 N K60 N w x1 x2 x5 x6 x7 0 (x5 + (96 * x7))
def fX8_days_60 (N : Nat) : Nat → xW → Int32 → Int32 → Int32 → Int32 → Int32 → Option (xW × Int32)
  | 0, _, _, _, _, _, _ => none
  | n + 1, w, x1, x2, x5, x6, x7 => fX8_days_60b N (fX8_days_60 N n) w x1 x2 x5 x6 x7
def fX8_days_0 (N : Nat) (w : xW) (x1 : Int32) (x2 : Int32) (x3 : Int32) (x4 : Int32) : Option (xW × Int32) :=
  if (fX8_isHouse w x1) = 0 then
    fX8_days_33 N w
  else
  if (fX8_isSide x2) = 0 then
    fX8_days_33 N w
  else
  if (fX8_within x3 0 23) = 0 then
    fX8_days_33 N w
  else
  if (fX8_isTick x4) = 0 then
    fX8_days_33 N w
  else
  fX8_days_60 N N w x1 x2 ((x4 - (irem x4 96)) + (4 * x3)) 0 0
def fX8_days (N : Nat) (w : xW) (x1 : Int32) (x2 : Int32) (x3 : Int32) (x4 : Int32) : Option (xW × Int32) := fX8_days_0 N w x1 x2 x3 x4
set_option maxRecDepth 100000 in
set_option maxHeartbeats 4000000 in
theorem bX8_days_33 {Γ : xΓ} (C : xOK Γ cX8_days RX8 6) (hL : xn Γ = 10) {N : Nat} {w : xW} {r : xW × Int32} (E : xEnd Γ (some .int) r.1 (some (.int r.2))) (h : fX8_days_33 N w = some r) : xG Γ w 33 [(0, .ref (xad Γ 55))] [] := by
  unfold fX8_days_33 at h
  refine xr_aload_n C 33 rfl dX8_days_33 ?_
  refine xr_ldc C 34 k_X8_98 dX8_days_34 ?_
  obtain ⟨z5, q6, h⟩ := g_bind h
  refine xr_callV C 36 (mX8_finding q6) v_X8_finding ml_X8_125 (Nat.le_of_ble_eq_true rfl) (Nat.le_of_ble_eq_true rfl) (xrecv C rfl rfl) rfl rfl (Nat.le_of_ble_eq_true rfl) rfl dX8_days_36 ?_
  cases h
  exact xr_iret C 39 E dX8_days_39
set_option maxRecDepth 100000 in
set_option maxHeartbeats 4000000 in
theorem bX8_days_140 {Γ : xΓ} (C : xOK Γ cX8_days RX8 6) (hL : xn Γ = 10) {N : Nat} {K60 : xW → Int32 → Int32 → Int32 → Int32 → Int32 → Option (xW × Int32)} {w : xW} {x1 : Int32} {x2 : Int32} {x5 : Int32} {x7 : Int32} {s0 : Int32} {s1 : Int32} {r : xW × Int32} (E : xEnd Γ (some .int) r.1 (some (.int r.2))) (hK60 : ∀ (w : xW) (x1 : Int32) (x2 : Int32) (x5 : Int32) (x6 : Int32) (x7 : Int32), K60 w x1 x2 x5 x6 x7 = some r → xG Γ w 60 [(0, .ref (xad Γ 55)), (1, .int x1), (2, .int x2), (5, .int x5), (6, .int x6), (7, .int x7)] []) (h : fX8_days_140 N K60 w x1 x2 x5 x7 s0 s1 = some r) : xG Γ w 140 [(0, .ref (xad Γ 55)), (1, .int x1), (2, .int x2), (5, .int x5), (7, .int x7)] [.int s0, .int s1] := by
  unfold fX8_days_140 at h
  refine xr_iadd C 140 dX8_days_140 ?_
  refine xr_istore C 141 dX8_days_141 (xnb hL rfl) ?_
  refine xr_iinc C 143 1 (by decide +kernel) rfl dX8_days_143 (xnb hL rfl) ?_
  refine xr_goto C 146 60 dX8_days_146 rfl ?_
  exact xG.sub (hK60 _ _ _ _ _ _ h) ⟨rfl, rfl, rfl, rfl, rfl, rfl, trivial⟩
set_option maxRecDepth 100000 in
set_option maxHeartbeats 4000000 in
theorem bX8_days_120 {Γ : xΓ} (C : xOK Γ cX8_days RX8 6) (hL : xn Γ = 10) {N : Nat} {K60 : xW → Int32 → Int32 → Int32 → Int32 → Int32 → Option (xW × Int32)} {K80 : xW → Int32 → Int32 → Int32 → Int32 → Int32 → Int32 → Int32 → Option (xW × Int32)} {w : xW} {x1 : Int32} {x2 : Int32} {x5 : Int32} {x6 : Int32} {x7 : Int32} {x9 : Int32} {s0 : Int32} {r : xW × Int32} (E : xEnd Γ (some .int) r.1 (some (.int r.2))) (hK60 : ∀ (w : xW) (x1 : Int32) (x2 : Int32) (x5 : Int32) (x6 : Int32) (x7 : Int32), K60 w x1 x2 x5 x6 x7 = some r → xG Γ w 60 [(0, .ref (xad Γ 55)), (1, .int x1), (2, .int x2), (5, .int x5), (6, .int x6), (7, .int x7)] []) (hK80 : ∀ (w : xW) (x1 : Int32) (x2 : Int32) (x5 : Int32) (x6 : Int32) (x7 : Int32) (x8 : Int32) (x9 : Int32), K80 w x1 x2 x5 x6 x7 x8 x9 = some r → xG Γ w 80 [(0, .ref (xad Γ 55)), (1, .int x1), (2, .int x2), (5, .int x5), (6, .int x6), (7, .int x7), (8, .int x8), (9, .int x9)] []) (h : fX8_days_120 N K60 K80 w x1 x2 x5 x6 x7 x9 s0 = some r) : xG Γ w 120 [(0, .ref (xad Γ 55)), (1, .int x1), (2, .int x2), (5, .int x5), (6, .int x6), (7, .int x7), (9, .int x9)] [.int s0] := by
  unfold fX8_days_120 at h
  refine xr_istore C 120 dX8_days_120 (xnb hL rfl) ?_
  refine xr_iinc C 122 1 (by decide +kernel) rfl dX8_days_122 (xnb hL rfl) ?_
  refine xr_goto C 125 80 dX8_days_125 rfl ?_
  exact xG.sub (hK80 _ _ _ _ _ _ _ _ h) ⟨rfl, rfl, rfl, rfl, rfl, rfl, rfl, rfl, trivial⟩
set_option maxRecDepth 100000 in
set_option maxHeartbeats 4000000 in
theorem bX8_days_80b {Γ : xΓ} (C : xOK Γ cX8_days RX8 6) (hL : xn Γ = 10) {N : Nat} {K60 : xW → Int32 → Int32 → Int32 → Int32 → Int32 → Option (xW × Int32)} {K80 : xW → Int32 → Int32 → Int32 → Int32 → Int32 → Int32 → Int32 → Option (xW × Int32)} {w : xW} {x1 : Int32} {x2 : Int32} {x5 : Int32} {x6 : Int32} {x7 : Int32} {x8 : Int32} {x9 : Int32} {r : xW × Int32} (E : xEnd Γ (some .int) r.1 (some (.int r.2))) (hK60 : ∀ (w : xW) (x1 : Int32) (x2 : Int32) (x5 : Int32) (x6 : Int32) (x7 : Int32), K60 w x1 x2 x5 x6 x7 = some r → xG Γ w 60 [(0, .ref (xad Γ 55)), (1, .int x1), (2, .int x2), (5, .int x5), (6, .int x6), (7, .int x7)] []) (hK80 : ∀ (w : xW) (x1 : Int32) (x2 : Int32) (x5 : Int32) (x6 : Int32) (x7 : Int32) (x8 : Int32) (x9 : Int32), K80 w x1 x2 x5 x6 x7 x8 x9 = some r → xG Γ w 80 [(0, .ref (xad Γ 55)), (1, .int x1), (2, .int x2), (5, .int x5), (6, .int x6), (7, .int x7), (8, .int x8), (9, .int x9)] []) (h : fX8_days_80b N K60 K80 w x1 x2 x5 x6 x7 x8 x9 = some r) : xG Γ w 80 [(0, .ref (xad Γ 55)), (1, .int x1), (2, .int x2), (5, .int x5), (6, .int x6), (7, .int x7), (8, .int x8), (9, .int x9)] [] := by
  unfold fX8_days_80b at h
  refine xr_iload C 80 rfl dX8_days_80 ?_
  refine xr_iload C 82 rfl dX8_days_82 ?_
  refine xr_bipush C 84 96 (by decide +kernel) dX8_days_84 ?_
  refine xr_iload C 86 rfl dX8_days_86 ?_
  refine xr_imul C 88 dX8_days_88 ?_
  refine xr_iadd C 89 dX8_days_89 ?_
  refine xr_iconst C 90 4 (by decide +kernel) dX8_days_90 ?_
  refine xr_iadd C 91 dX8_days_91 ?_
  refine xr_icmp_ge C 92 128 dX8_days_92 rfl (fun q => ?_) (fun q => ?_)
  · have h := g_it h q
    refine xr_iload C 128 rfl dX8_days_128 ?_
    refine xr_iload C 130 rfl dX8_days_130 ?_
    refine xr_if_eq C 132 139 dX8_days_132 rfl (fun q => ?_) (fun q => ?_)
    · have h := g_it h q
      refine xr_iconst C 139 0 (by decide +kernel) dX8_days_139 ?_
      exact xG.sub (bX8_days_140 C hL E hK60 h) ⟨rfl, rfl, rfl, rfl, rfl, trivial⟩
    · have h := g_if h q
      refine xr_iconst C 135 1 (by decide +kernel) dX8_days_135 ?_
      refine xr_goto C 136 140 dX8_days_136 rfl ?_
      exact xG.sub (bX8_days_140 C hL E hK60 h) ⟨rfl, rfl, rfl, rfl, rfl, trivial⟩
  · have h := g_if h q
    refine xr_iload C 95 rfl dX8_days_95 ?_
    refine xr_if_ne C 97 115 dX8_days_97 rfl (fun q => ?_) (fun q => ?_)
    · have h := g_if h q
      refine xr_iconst C 115 1 (by decide +kernel) dX8_days_115 ?_
      refine xr_goto C 116 120 dX8_days_116 rfl ?_
      exact xG.sub (bX8_days_120 C hL E hK60 hK80 h) ⟨rfl, rfl, rfl, rfl, rfl, rfl, rfl, trivial⟩
    · have h := g_it h q
      refine xr_aload_n C 100 rfl dX8_days_100 ?_
      refine xr_aload_n C 101 rfl dX8_days_101 ?_
      refine xr_iload_n C 102 rfl dX8_days_102 ?_
      obtain ⟨z1, q2, h⟩ := g_bind h
      refine xr_callV C 103 (mX8_frontOf q2) v_X8_frontOf ml_X8_167 (Nat.le_of_ble_eq_true rfl) (Nat.le_of_ble_eq_true rfl) (xrecv C rfl rfl) rfl rfl (Nat.le_of_ble_eq_true rfl) rfl dX8_days_103 ?_
      refine xr_iload C 106 rfl dX8_days_106 ?_
      obtain ⟨z3, q4, h⟩ := g_bind h
      refine xr_callV C 108 (mX8_sideOf q4) v_X8_sideOf ml_X8_146 (Nat.le_of_ble_eq_true rfl) (Nat.le_of_ble_eq_true rfl) (xrecv C rfl rfl) rfl rfl (Nat.le_of_ble_eq_true rfl) rfl dX8_days_108 ?_
      refine xr_iload_n C 111 rfl dX8_days_111 ?_
      refine xr_icmp_ne C 112 119 dX8_days_112 rfl (fun q => ?_) (fun q => ?_)
      · have h := g_if h q
        refine xr_iconst C 119 0 (by decide +kernel) dX8_days_119 ?_
        exact xG.sub (bX8_days_120 C hL E hK60 hK80 h) ⟨rfl, rfl, rfl, rfl, rfl, rfl, rfl, trivial⟩
      · have h := g_it h q
        refine xr_iconst C 115 1 (by decide +kernel) dX8_days_115 ?_
        refine xr_goto C 116 120 dX8_days_116 rfl ?_
        exact xG.sub (bX8_days_120 C hL E hK60 hK80 h) ⟨rfl, rfl, rfl, rfl, rfl, rfl, rfl, trivial⟩
set_option maxRecDepth 100000 in
set_option maxHeartbeats 4000000 in
theorem bX8_days_80 {Γ : xΓ} (C : xOK Γ cX8_days RX8 6) (hL : xn Γ = 10) {N : Nat} {K60 : xW → Int32 → Int32 → Int32 → Int32 → Int32 → Option (xW × Int32)} {r : xW × Int32} (E : xEnd Γ (some .int) r.1 (some (.int r.2))) (hK60 : ∀ (w : xW) (x1 : Int32) (x2 : Int32) (x5 : Int32) (x6 : Int32) (x7 : Int32), K60 w x1 x2 x5 x6 x7 = some r → xG Γ w 60 [(0, .ref (xad Γ 55)), (1, .int x1), (2, .int x2), (5, .int x5), (6, .int x6), (7, .int x7)] []) : ∀ (n : Nat) (w : xW) (x1 : Int32) (x2 : Int32) (x5 : Int32) (x6 : Int32) (x7 : Int32) (x8 : Int32) (x9 : Int32), fX8_days_80 N K60 n w x1 x2 x5 x6 x7 x8 x9 = some r → xG Γ w 80 [(0, .ref (xad Γ 55)), (1, .int x1), (2, .int x2), (5, .int x5), (6, .int x6), (7, .int x7), (8, .int x8), (9, .int x9)] []
  | 0, _, _, _, _, _, _, _, _, h => by cases h
  | n + 1, w, x1, x2, x5, x6, x7, x8, x9, h => bX8_days_80b C hL E hK60 (bX8_days_80 C hL E hK60 n) h
set_option maxRecDepth 100000 in
set_option maxHeartbeats 4000000 in
theorem bX8_days_60b {Γ : xΓ} (C : xOK Γ cX8_days RX8 6) (hL : xn Γ = 10) {N : Nat} {K60 : xW → Int32 → Int32 → Int32 → Int32 → Int32 → Option (xW × Int32)} {w : xW} {x1 : Int32} {x2 : Int32} {x5 : Int32} {x6 : Int32} {x7 : Int32} {r : xW × Int32} (E : xEnd Γ (some .int) r.1 (some (.int r.2))) (hK60 : ∀ (w : xW) (x1 : Int32) (x2 : Int32) (x5 : Int32) (x6 : Int32) (x7 : Int32), K60 w x1 x2 x5 x6 x7 = some r → xG Γ w 60 [(0, .ref (xad Γ 55)), (1, .int x1), (2, .int x2), (5, .int x5), (6, .int x6), (7, .int x7)] []) (h : fX8_days_60b N K60 w x1 x2 x5 x6 x7 = some r) : xG Γ w 60 [(0, .ref (xad Γ 55)), (1, .int x1), (2, .int x2), (5, .int x5), (6, .int x6), (7, .int x7)] [] := by
  unfold fX8_days_60b at h
  refine xr_iload C 60 rfl dX8_days_60 ?_
  refine xr_bipush C 62 30 (by decide +kernel) dX8_days_62 ?_
  refine xr_icmp_ge C 64 149 dX8_days_64 rfl (fun q => ?_) (fun q => ?_)
  · have h := g_it h q
    refine xr_iload C 149 rfl dX8_days_149 ?_
    cases h
    exact xr_iret C 151 E dX8_days_151
  · have h := g_if h q
    refine xr_iconst C 67 0 (by decide +kernel) dX8_days_67 ?_
    refine xr_istore C 68 dX8_days_68 (xnb hL rfl) ?_
    refine xr_iload C 70 rfl dX8_days_70 ?_
    refine xr_bipush C 72 96 (by decide +kernel) dX8_days_72 ?_
    refine xr_iload C 74 rfl dX8_days_74 ?_
    refine xr_imul C 76 dX8_days_76 ?_
    refine xr_iadd C 77 dX8_days_77 ?_
    refine xr_istore C 78 dX8_days_78 (xnb hL rfl) ?_
    exact xG.sub (bX8_days_80 C hL E hK60 N _ _ _ _ _ _ _ _ h) ⟨rfl, rfl, rfl, rfl, rfl, rfl, rfl, rfl, trivial⟩
set_option maxRecDepth 100000 in
set_option maxHeartbeats 4000000 in
theorem bX8_days_60 {Γ : xΓ} (C : xOK Γ cX8_days RX8 6) (hL : xn Γ = 10) {N : Nat} {r : xW × Int32} (E : xEnd Γ (some .int) r.1 (some (.int r.2))) : ∀ (n : Nat) (w : xW) (x1 : Int32) (x2 : Int32) (x5 : Int32) (x6 : Int32) (x7 : Int32), fX8_days_60 N n w x1 x2 x5 x6 x7 = some r → xG Γ w 60 [(0, .ref (xad Γ 55)), (1, .int x1), (2, .int x2), (5, .int x5), (6, .int x6), (7, .int x7)] []
  | 0, _, _, _, _, _, _, h => by cases h
  | n + 1, w, x1, x2, x5, x6, x7, h => bX8_days_60b C hL E (bX8_days_60 C hL E n) h
set_option maxRecDepth 100000 in
set_option maxHeartbeats 4000000 in
theorem bX8_days_0 {Γ : xΓ} (C : xOK Γ cX8_days RX8 6) (hL : xn Γ = 10) {N : Nat} {w : xW} {x1 : Int32} {x2 : Int32} {x3 : Int32} {x4 : Int32} {r : xW × Int32} (E : xEnd Γ (some .int) r.1 (some (.int r.2))) (h : fX8_days_0 N w x1 x2 x3 x4 = some r) : xG Γ w 0 [(0, .ref (xad Γ 55)), (1, .int x1), (2, .int x2), (3, .int x3), (4, .int x4)] [] := by
  unfold fX8_days_0 at h
  refine xr_aload_n C 0 rfl dX8_days_0 ?_
  refine xr_iload_n C 1 rfl dX8_days_1 ?_
  refine xr_callV C 2 (mX8_isHouse rfl) v_X8_isHouse ml_X8_157 (Nat.le_of_ble_eq_true rfl) (Nat.le_of_ble_eq_true rfl) (xrecv C rfl rfl) rfl rfl (Nat.le_of_ble_eq_true rfl) rfl dX8_days_2 ?_
  refine xr_if_eq C 5 33 dX8_days_5 rfl (fun q => ?_) (fun q => ?_)
  · have h := g_it h q
    exact xG.sub (bX8_days_33 C hL E h) ⟨rfl, trivial⟩
  · have h := g_if h q
    refine xr_iload_n C 8 rfl dX8_days_8 ?_
    refine xr_callS C 9 (mX8_isSide rfl) v_X8_isSide ml_X8_133 (Nat.le_of_ble_eq_true rfl) (Nat.le_of_ble_eq_true rfl) rfl rfl (Nat.le_of_ble_eq_true rfl) rfl dX8_days_9 ?_
    refine xr_if_eq C 12 33 dX8_days_12 rfl (fun q => ?_) (fun q => ?_)
    · have h := g_it h q
      exact xG.sub (bX8_days_33 C hL E h) ⟨rfl, trivial⟩
    · have h := g_if h q
      refine xr_iload_n C 15 rfl dX8_days_15 ?_
      refine xr_iconst C 16 0 (by decide +kernel) dX8_days_16 ?_
      refine xr_bipush C 17 23 (by decide +kernel) dX8_days_17 ?_
      refine xr_callS C 19 (mX8_within rfl) v_X8_within ml_X8_121 (Nat.le_of_ble_eq_true rfl) (Nat.le_of_ble_eq_true rfl) rfl rfl (Nat.le_of_ble_eq_true rfl) rfl dX8_days_19 ?_
      refine xr_if_eq C 22 33 dX8_days_22 rfl (fun q => ?_) (fun q => ?_)
      · have h := g_it h q
        exact xG.sub (bX8_days_33 C hL E h) ⟨rfl, trivial⟩
      · have h := g_if h q
        refine xr_iload C 25 rfl dX8_days_25 ?_
        refine xr_callS C 27 (mX8_isTick rfl) v_X8_isTick ml_X8_137 (Nat.le_of_ble_eq_true rfl) (Nat.le_of_ble_eq_true rfl) rfl rfl (Nat.le_of_ble_eq_true rfl) rfl dX8_days_27 ?_
        refine xr_if_ne C 30 40 dX8_days_30 rfl (fun q => ?_) (fun q => ?_)
        · have h := g_if h q
          refine xr_iload C 40 rfl dX8_days_40 ?_
          refine xr_iload C 42 rfl dX8_days_42 ?_
          refine xr_bipush C 44 96 (by decide +kernel) dX8_days_44 ?_
          refine xr_irem C 46 (by decide +kernel) dX8_days_46 ?_
          refine xr_isub C 47 dX8_days_47 ?_
          refine xr_iconst C 48 4 (by decide +kernel) dX8_days_48 ?_
          refine xr_iload_n C 49 rfl dX8_days_49 ?_
          refine xr_imul C 50 dX8_days_50 ?_
          refine xr_iadd C 51 dX8_days_51 ?_
          refine xr_istore C 52 dX8_days_52 (xnb hL rfl) ?_
          refine xr_iconst C 54 0 (by decide +kernel) dX8_days_54 ?_
          refine xr_istore C 55 dX8_days_55 (xnb hL rfl) ?_
          refine xr_iconst C 57 0 (by decide +kernel) dX8_days_57 ?_
          refine xr_istore C 58 dX8_days_58 (xnb hL rfl) ?_
          exact xG.sub (bX8_days_60 C hL E N _ _ _ _ _ _ h) ⟨rfl, rfl, rfl, rfl, rfl, rfl, trivial⟩
        · have h := g_it h q
          exact xG.sub (bX8_days_33 C hL E h) ⟨rfl, trivial⟩
set_option maxRecDepth 100000 in
set_option maxHeartbeats 4000000 in
theorem mX8_days {l : Launch} {ad : Nat → Nat} {G : gEnv} {N : Nat} {w : xW} {x1 : Int32} {x2 : Int32} {x3 : Int32} {x4 : Int32} {r : xW × Int32} (h : fX8_days N w x1 x2 x3 x4 = some r) : xCt l ad G 6 yX8_days cX8_days 10 (some .int) [.ref (ad 55), .int x1, .int x2, .int x3, .int x4] w r.1 (some (.int r.2)) := xCt.of RX8 rfl (by decide +kernel) (Nat.le_of_ble_eq_true rfl) (fun Γ el ea eG eL C E => by
    subst el
    subst ea
    subst eG
    unfold fX8_days at h
    exact xG.sub (bX8_days_0 C eL  E h) ⟨rfl, rfl, rfl, rfl, rfl, trivial⟩)
