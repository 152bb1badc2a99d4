def fX1_frontAt_0 (N : Nat) (w : xW) (x1 : Int32) (x2 : Int32) : Option (xW × Int32) :=
  (fX6_at N w x2).bind fun z1 =>
  if ibd x1 6 = true then
  some (z1, (fX6_frontTo z1 (z1.1 7 x1.toNatClampNeg)))
  else none
def fX1_frontAt (N : Nat) (w : xW) (x1 : Int32) (x2 : Int32) : Option (xW × Int32) := fX1_frontAt_0 N w x1 x2
set_option maxRecDepth 100000 in
set_option maxHeartbeats 4000000 in
theorem bX1_frontAt_0 {Γ : xΓ} (C : xOK Γ cX1_frontAt RX1 3) (hL : xn Γ = 3) {N : Nat} {w : xW} {x1 : Int32} {x2 : Int32} {r : xW × Int32} (E : xEnd Γ (some .int) r.1 (some (.int r.2))) (h : fX1_frontAt_0 N w x1 x2 = some r) : xG Γ w 0 [(0, .ref (xad Γ 1)), (1, .int x1), (2, .int x2)] [] := by
  unfold fX1_frontAt_0 at h
  refine xr_aload_n C 0 rfl dX1_frontAt_0 ?_
  refine xr_getR C 1 dX1_frontAt_1 fl_X1_12 rfl rfl ?_
  refine xr_iload_n C 4 rfl dX1_frontAt_4 ?_
  obtain ⟨z1, q2, h⟩ := g_bind h
  refine xr_callV C 5 (mX6_at q2) v_X6_at ml_X1_79 (Nat.le_of_ble_eq_true rfl) (Nat.le_of_ble_eq_true rfl) (xrecv C rfl rfl) rfl rfl (Nat.le_of_ble_eq_true rfl) rfl dX1_frontAt_5 ?_
  refine xr_aload_n C 8 rfl dX1_frontAt_8 ?_
  refine xr_getR C 9 dX1_frontAt_9 fl_X1_12 rfl rfl ?_
  refine xr_aload_n C 12 rfl dX1_frontAt_12 ?_
  refine xr_getR C 13 dX1_frontAt_13 fl_X1_38 rfl rfl ?_
  refine xr_iload_n C 16 rfl dX1_frontAt_16 ?_
  obtain ⟨q3, h⟩ := g_ib h
  refine xr_iald C 17 x1.toNatClampNeg rfl dX1_frontAt_17 rfl (ibd_in q3) ?_
  refine xr_callV C 18 (mX6_frontTo rfl) v_X6_frontTo ml_X1_83 (Nat.le_of_ble_eq_true rfl) (Nat.le_of_ble_eq_true rfl) (xrecv C rfl rfl) rfl rfl (Nat.le_of_ble_eq_true rfl) rfl dX1_frontAt_18 ?_
  cases h
  exact xr_iret C 21 E dX1_frontAt_21
set_option maxRecDepth 100000 in
set_option maxHeartbeats 4000000 in
theorem mX1_frontAt {l : Launch} {ad : Nat → Nat} {G : gEnv} {N : Nat} {w : xW} {x1 : Int32} {x2 : Int32} {r : xW × Int32} (h : fX1_frontAt N w x1 x2 = some r) : xCt l ad G 3 yX1_frontAt cX1_frontAt 3 (some .int) [.ref (ad 1), .int x1, .int x2] w r.1 (some (.int r.2)) := xCt.of RX1 rfl (by decide +kernel) (Nat.le_of_ble_eq_true rfl) (fun Γ el ea eG eL C E => by
    subst el
    subst ea
    subst eG
    unfold fX1_frontAt at h
    exact xG.sub (bX1_frontAt_0 C eL  E h) ⟨rfl, rfl, rfl, trivial⟩)
def fX7_entry_17 (N : Nat) (w : xW) : Option (xW × Int32) :=
  (fX7_refuse w (-1000000001)).bind fun z8 =>
  some (z8.1, z8.2)
def fX7_entry_0 (N : Nat) (w : xW) (x1 : Int32) (x2 : Int32) : Option (xW × Int32) :=
  if (fX7_isShip w x1) = 0 then
    fX7_entry_17 N w
  else
  if x2 < 0 then
    fX7_entry_17 N w
  else
  if x2 ≤ 1 then
    if ibd x1 6 = true then
    (fX1_firstBerth N w x1 (w.1 8 x1.toNatClampNeg)).bind fun z2 =>
    if z2.2 < ((z2.1.1 8 x1.toNatClampNeg) + 960) then
      if x2 = 0 then
        some (z2.1, z2.2)
      else
      (fX1_frontAt N z2.1 x1 z2.2).bind fun z4 =>
      some (z4.1, z4.2)
    else
    (fX7_refuse z2.1 (-1000000004)).bind fun z6 =>
    some (z6.1, z6.2)
    else none
  else
  fX7_entry_17 N w
def fX7_entry (N : Nat) (w : xW) (x1 : Int32) (x2 : Int32) : Option (xW × Int32) := fX7_entry_0 N w x1 x2
set_option maxRecDepth 100000 in
set_option maxHeartbeats 4000000 in
theorem bX7_entry_17 {Γ : xΓ} (C : xOK Γ cX7_entry RX7 4) (hL : xn Γ = 4) {N : Nat} {w : xW} {r : xW × Int32} (E : xEnd Γ (some .int) r.1 (some (.int r.2))) (h : fX7_entry_17 N w = some r) : xG Γ w 17 [(0, .ref (xad Γ 0))] [] := by
  unfold fX7_entry_17 at h
  refine xr_aload_n C 17 rfl dX7_entry_17 ?_
  refine xr_ldc C 18 k_X7_69 dX7_entry_18 ?_
  obtain ⟨z8, q9, h⟩ := g_bind h
  refine xr_callV C 20 (mX7_refuse q9) v_X7_refuse ml_X7_70 (Nat.le_of_ble_eq_true rfl) (Nat.le_of_ble_eq_true rfl) (xrecv C rfl rfl) rfl rfl (Nat.le_of_ble_eq_true rfl) rfl dX7_entry_20 ?_
  cases h
  exact xr_iret C 23 E dX7_entry_23
set_option maxRecDepth 100000 in
set_option maxHeartbeats 4000000 in
theorem bX7_entry_0 {Γ : xΓ} (C : xOK Γ cX7_entry RX7 4) (hL : xn Γ = 4) {N : Nat} {w : xW} {x1 : Int32} {x2 : Int32} {r : xW × Int32} (E : xEnd Γ (some .int) r.1 (some (.int r.2))) (h : fX7_entry_0 N w x1 x2 = some r) : xG Γ w 0 [(0, .ref (xad Γ 0)), (1, .int x1), (2, .int x2)] [] := by
  unfold fX7_entry_0 at h
  refine xr_aload_n C 0 rfl dX7_entry_0 ?_
  refine xr_iload_n C 1 rfl dX7_entry_1 ?_
  refine xr_callV C 2 (mX7_isShip rfl) v_X7_isShip ml_X7_184 (Nat.le_of_ble_eq_true rfl) (Nat.le_of_ble_eq_true rfl) (xrecv C rfl rfl) rfl rfl (Nat.le_of_ble_eq_true rfl) rfl dX7_entry_2 ?_
  refine xr_if_eq C 5 17 dX7_entry_5 rfl (fun q => ?_) (fun q => ?_)
  · have h := g_it h q
    exact xG.sub (bX7_entry_17 C hL E h) ⟨rfl, trivial⟩
  · have h := g_if h q
    refine xr_iload_n C 8 rfl dX7_entry_8 ?_
    refine xr_if_lt C 9 17 dX7_entry_9 rfl (fun q => ?_) (fun q => ?_)
    · have h := g_it h q
      exact xG.sub (bX7_entry_17 C hL E h) ⟨rfl, trivial⟩
    · have h := g_if h q
      refine xr_iload_n C 12 rfl dX7_entry_12 ?_
      refine xr_iconst C 13 1 (by decide +kernel) dX7_entry_13 ?_
      refine xr_icmp_le C 14 24 dX7_entry_14 rfl (fun q => ?_) (fun q => ?_)
      · have h := g_it h q
        refine xr_aload_n C 24 rfl dX7_entry_24 ?_
        refine xr_getR C 25 dX7_entry_25 fl_X7_10 rfl rfl ?_
        refine xr_iload_n C 28 rfl dX7_entry_28 ?_
        refine xr_aload_n C 29 rfl dX7_entry_29 ?_
        refine xr_getR C 30 dX7_entry_30 fl_X7_10 rfl rfl ?_
        refine xr_getR C 33 dX7_entry_33 fl_X7_190 rfl rfl ?_
        refine xr_iload_n C 36 rfl dX7_entry_36 ?_
        obtain ⟨q1, h⟩ := g_ib h
        refine xr_iald C 37 x1.toNatClampNeg rfl dX7_entry_37 rfl (ibd_in q1) ?_
        obtain ⟨z2, q3, h⟩ := g_bind h
        refine xr_callV C 38 (mX1_firstBerth q3) v_X1_firstBerth ml_X7_203 (Nat.le_of_ble_eq_true rfl) (Nat.le_of_ble_eq_true rfl) (xrecv C rfl rfl) rfl rfl (Nat.le_of_ble_eq_true rfl) rfl dX7_entry_38 ?_
        refine xr_istore_n C 41 dX7_entry_41 (xnb hL rfl) ?_
        refine xr_iload_n C 42 rfl dX7_entry_42 ?_
        refine xr_aload_n C 43 rfl dX7_entry_43 ?_
        refine xr_getR C 44 dX7_entry_44 fl_X7_10 rfl rfl ?_
        refine xr_getR C 47 dX7_entry_47 fl_X7_190 rfl rfl ?_
        refine xr_iload_n C 50 rfl dX7_entry_50 ?_
        refine xr_iald C 51 x1.toNatClampNeg rfl dX7_entry_51 rfl (ibd_in q1) ?_
        refine xr_sipush C 52 960 (by decide +kernel) dX7_entry_52 ?_
        refine xr_iadd C 55 dX7_entry_55 ?_
        refine xr_icmp_lt C 56 66 dX7_entry_56 rfl (fun q => ?_) (fun q => ?_)
        · have h := g_it h q
          refine xr_iload_n C 66 rfl dX7_entry_66 ?_
          refine xr_if_ne C 67 74 dX7_entry_67 rfl (fun q => ?_) (fun q => ?_)
          · have h := g_if h q
            refine xr_aload_n C 74 rfl dX7_entry_74 ?_
            refine xr_getR C 75 dX7_entry_75 fl_X7_10 rfl rfl ?_
            refine xr_iload_n C 78 rfl dX7_entry_78 ?_
            refine xr_iload_n C 79 rfl dX7_entry_79 ?_
            obtain ⟨z4, q5, h⟩ := g_bind h
            refine xr_callV C 80 (mX1_frontAt q5) v_X1_frontAt ml_X7_206 (Nat.le_of_ble_eq_true rfl) (Nat.le_of_ble_eq_true rfl) (xrecv C rfl rfl) rfl rfl (Nat.le_of_ble_eq_true rfl) rfl dX7_entry_80 ?_
            cases h
            exact xr_iret C 83 E dX7_entry_83
          · have h := g_it h q
            refine xr_iload_n C 70 rfl dX7_entry_70 ?_
            refine xr_goto C 71 83 dX7_entry_71 rfl ?_
            cases h
            exact xr_iret C 83 E dX7_entry_83
        · have h := g_if h q
          refine xr_aload_n C 59 rfl dX7_entry_59 ?_
          refine xr_ldc C 60 k_X7_120 dX7_entry_60 ?_
          obtain ⟨z6, q7, h⟩ := g_bind h
          refine xr_callV C 62 (mX7_refuse q7) v_X7_refuse ml_X7_70 (Nat.le_of_ble_eq_true rfl) (Nat.le_of_ble_eq_true rfl) (xrecv C rfl rfl) rfl rfl (Nat.le_of_ble_eq_true rfl) rfl dX7_entry_62 ?_
          cases h
          exact xr_iret C 65 E dX7_entry_65
      · have h := g_if h q
        exact xG.sub (bX7_entry_17 C hL E h) ⟨rfl, trivial⟩
set_option maxRecDepth 100000 in
set_option maxHeartbeats 4000000 in
theorem mX7_entry {l : Launch} {ad : Nat → Nat} {G : gEnv} {N : Nat} {w : xW} {x1 : Int32} {x2 : Int32} {r : xW × Int32} (h : fX7_entry N w x1 x2 = some r) : xCt l ad G 4 yX7_entry cX7_entry 4 (some .int) [.ref (ad 0), .int x1, .int x2] w r.1 (some (.int r.2)) := xCt.of RX7 rfl (by decide +kernel) (Nat.le_of_ble_eq_true rfl) (fun Γ el ea eG eL C E => by
    subst el
    subst ea
    subst eG
    unfold fX7_entry at h
    exact xG.sub (bX7_entry_0 C eL  E h) ⟨rfl, rfl, rfl, trivial⟩)
def fX8_quayAt_36 (N : Nat) (w : xW) (x1 : Int32) (x2 : Int32) (x3 : Int32) (s0 : Int32) : Option (xW × Int32) :=
  if s0 = 0 then
    some (w, (-1))
  else
  (fX8_canLie N w x1 x3 x2).bind fun z9 =>
  if z9.2 = 0 then
    some (z9.1, (-1))
  else
  some (z9.1, x3)
def fX8_quayAt_0 (N : Nat) (w : xW) (x1 : Int32) (x2 : Int32) : Option (xW × Int32) :=
  (fX8_shipIs w x1 0).bind fun z1 =>
  (fX8_frontTo N w z1 x2).bind fun z3 =>
  (fX8_shipIs z3.1 x1 3).bind fun z5 =>
  if z5 < 0 then
    fX8_quayAt_36 N z3.1 x1 x2 z3.2 1
  else
  (fX8_shipIs z3.1 x1 3).bind fun z7 =>
  if z7 = z3.2 then
    fX8_quayAt_36 N z3.1 x1 x2 z3.2 1
  else
  fX8_quayAt_36 N z3.1 x1 x2 z3.2 0
def fX8_quayAt (N : Nat) (w : xW) (x1 : Int32) (x2 : Int32) : Option (xW × Int32) := fX8_quayAt_0 N w x1 x2
set_option maxRecDepth 100000 in
set_option maxHeartbeats 4000000 in
theorem bX8_quayAt_36 {Γ : xΓ} (C : xOK Γ cX8_quayAt RX8 7) (hL : xn Γ = 5) {N : Nat} {w : xW} {x1 : Int32} {x2 : Int32} {x3 : Int32} {s0 : Int32} {r : xW × Int32} (E : xEnd Γ (some .int) r.1 (some (.int r.2))) (h : fX8_quayAt_36 N w x1 x2 x3 s0 = some r) : xG Γ w 36 [(0, .ref (xad Γ 55)), (1, .int x1), (2, .int x2), (3, .int x3)] [.int s0] := by
  unfold fX8_quayAt_36 at h
  refine xr_istore C 36 dX8_quayAt_36 (xnb hL rfl) ?_
  refine xr_iload C 38 rfl dX8_quayAt_38 ?_
  refine xr_if_eq C 40 57 dX8_quayAt_40 rfl (fun q => ?_) (fun q => ?_)
  · have h := g_it h q
    refine xr_iconst C 57 (-1) (by decide +kernel) dX8_quayAt_57 ?_
    cases h
    exact xr_iret C 58 E dX8_quayAt_58
  · have h := g_if h q
    refine xr_aload_n C 43 rfl dX8_quayAt_43 ?_
    refine xr_iload_n C 44 rfl dX8_quayAt_44 ?_
    refine xr_iload_n C 45 rfl dX8_quayAt_45 ?_
    refine xr_iload_n C 46 rfl dX8_quayAt_46 ?_
    obtain ⟨z9, q10, h⟩ := g_bind h
    refine xr_callV C 47 (mX8_canLie q10) v_X8_canLie ml_X8_195 (Nat.le_of_ble_eq_true rfl) (Nat.le_of_ble_eq_true rfl) (xrecv C rfl rfl) rfl rfl (Nat.le_of_ble_eq_true rfl) rfl dX8_quayAt_47 ?_
    refine xr_if_eq C 50 57 dX8_quayAt_50 rfl (fun q => ?_) (fun q => ?_)
    · have h := g_it h q
      refine xr_iconst C 57 (-1) (by decide +kernel) dX8_quayAt_57 ?_
      cases h
      exact xr_iret C 58 E dX8_quayAt_58
    · have h := g_if h q
      refine xr_iload_n C 53 rfl dX8_quayAt_53 ?_
      refine xr_goto C 54 58 dX8_quayAt_54 rfl ?_
      cases h
      exact xr_iret C 58 E dX8_quayAt_58
set_option maxRecDepth 100000 in
set_option maxHeartbeats 4000000 in
theorem bX8_quayAt_0 {Γ : xΓ} (C : xOK Γ cX8_quayAt RX8 7) (hL : xn Γ = 5) {N : Nat} {w : xW} {x1 : Int32} {x2 : Int32} {r : xW × Int32} (E : xEnd Γ (some .int) r.1 (some (.int r.2))) (h : fX8_quayAt_0 N w x1 x2 = some r) : xG Γ w 0 [(0, .ref (xad Γ 55)), (1, .int x1), (2, .int x2)] [] := by
  unfold fX8_quayAt_0 at h
  refine xr_aload_n C 0 rfl dX8_quayAt_0 ?_
  refine xr_aload_n C 1 rfl dX8_quayAt_1 ?_
  refine xr_iload_n C 2 rfl dX8_quayAt_2 ?_
  refine xr_iconst C 3 0 (by decide +kernel) dX8_quayAt_3 ?_
  obtain ⟨z1, q2, h⟩ := g_bind h
  refine xr_callV C 4 (mX8_shipIs q2) v_X8_shipIs ml_X8_192 (Nat.le_of_ble_eq_true rfl) (Nat.le_of_ble_eq_true rfl) (xrecv C rfl rfl) rfl rfl (Nat.le_of_ble_eq_true rfl) rfl dX8_quayAt_4 ?_
  refine xr_iload_n C 7 rfl dX8_quayAt_7 ?_
  obtain ⟨z3, q4, h⟩ := g_bind h
  refine xr_callV C 8 (mX8_frontTo q4) v_X8_frontTo ml_X8_150 (Nat.le_of_ble_eq_true rfl) (Nat.le_of_ble_eq_true rfl) (xrecv C rfl rfl) rfl rfl (Nat.le_of_ble_eq_true rfl) rfl dX8_quayAt_8 ?_
  refine xr_istore_n C 11 dX8_quayAt_11 (xnb hL rfl) ?_
  refine xr_aload_n C 12 rfl dX8_quayAt_12 ?_
  refine xr_iload_n C 13 rfl dX8_quayAt_13 ?_
  refine xr_iconst C 14 3 (by decide +kernel) dX8_quayAt_14 ?_
  obtain ⟨z5, q6, h⟩ := g_bind h
  refine xr_callV C 15 (mX8_shipIs q6) v_X8_shipIs ml_X8_192 (Nat.le_of_ble_eq_true rfl) (Nat.le_of_ble_eq_true rfl) (xrecv C rfl rfl) rfl rfl (Nat.le_of_ble_eq_true rfl) rfl dX8_quayAt_15 ?_
  refine xr_if_lt C 18 31 dX8_quayAt_18 rfl (fun q => ?_) (fun q => ?_)
  · have h := g_it h q
    refine xr_iconst C 31 1 (by decide +kernel) dX8_quayAt_31 ?_
    refine xr_goto C 32 36 dX8_quayAt_32 rfl ?_
    exact xG.sub (bX8_quayAt_36 C hL E h) ⟨rfl, rfl, rfl, rfl, trivial⟩
  · have h := g_if h q
    refine xr_aload_n C 21 rfl dX8_quayAt_21 ?_
    refine xr_iload_n C 22 rfl dX8_quayAt_22 ?_
    refine xr_iconst C 23 3 (by decide +kernel) dX8_quayAt_23 ?_
    obtain ⟨z7, q8, h⟩ := g_bind h
    refine xr_callV C 24 (mX8_shipIs q8) v_X8_shipIs ml_X8_192 (Nat.le_of_ble_eq_true rfl) (Nat.le_of_ble_eq_true rfl) (xrecv C rfl rfl) rfl rfl (Nat.le_of_ble_eq_true rfl) rfl dX8_quayAt_24 ?_
    refine xr_iload_n C 27 rfl dX8_quayAt_27 ?_
    refine xr_icmp_ne C 28 35 dX8_quayAt_28 rfl (fun q => ?_) (fun q => ?_)
    · have h := g_if h q
      refine xr_iconst C 35 0 (by decide +kernel) dX8_quayAt_35 ?_
      exact xG.sub (bX8_quayAt_36 C hL E h) ⟨rfl, rfl, rfl, rfl, trivial⟩
    · have h := g_it h q
      refine xr_iconst C 31 1 (by decide +kernel) dX8_quayAt_31 ?_
      refine xr_goto C 32 36 dX8_quayAt_32 rfl ?_
      exact xG.sub (bX8_quayAt_36 C hL E h) ⟨rfl, rfl, rfl, rfl, trivial⟩
set_option maxRecDepth 100000 in
set_option maxHeartbeats 4000000 in
theorem mX8_quayAt {l : Launch} {ad : Nat → Nat} {G : gEnv} {N : Nat} {w : xW} {x1 : Int32} {x2 : Int32} {r : xW × Int32} (h : fX8_quayAt N w x1 x2 = some r) : xCt l ad G 7 yX8_quayAt cX8_quayAt 5 (some .int) [.ref (ad 55), .int x1, .int x2] w r.1 (some (.int r.2)) := xCt.of RX8 rfl (by decide +kernel) (Nat.le_of_ble_eq_true rfl) (fun Γ el ea eG eL C E => by
    subst el
    subst ea
    subst eG
    unfold fX8_quayAt at h
    exact xG.sub (bX8_quayAt_0 C eL  E h) ⟨rfl, rfl, rfl, trivial⟩)
def fX8_entry_17 (N : Nat) (w : xW) : Option (xW × Int32) :=
  (fX8_finding w (-1000000001)).bind fun z7 =>
  some (z7.1, z7.2)
def fX8_entry_34b (N : Nat) (K34 : xW → Int32 → Int32 → Int32 → Int32 → Option (xW × Int32)) (w : xW) (x1 : Int32) (x2 : Int32) (x3 : Int32) (x4 : Int32) : Option (xW × Int32) :=
  if (x3 + 960) ≤ x4 then
    (fX8_finding w (-1000000004)).bind fun z3 =>
    some (z3.1, z3.2)
  else
  (fX8_quayAt N w x1 x4).bind fun z5 =>
  if z5.2 < 0 then
    K34 z5.1 x1 x2 x3 (x4 + 1)
  else
  if x2 = 0 then
    some (z5.1, x4)
  else
  some (z5.1, z5.2)
def fX8_entry_34 (N : Nat) : Nat → xW → Int32 → Int32 → Int32 → Int32 → Option (xW × Int32)
  | 0, _, _, _, _, _ => none
  | n + 1, w, x1, x2, x3, x4 => fX8_entry_34b N (fX8_entry_34 N n) w x1 x2 x3 x4
def fX8_entry_0 (N : Nat) (w : xW) (x1 : Int32) (x2 : Int32) : Option (xW × Int32) :=
  if (fX8_isShip w x1) = 0 then
    fX8_entry_17 N w
  else
  if (fX8_within x2 0 1) = 0 then
    fX8_entry_17 N w
  else
  (fX8_shipIs w x1 1).bind fun z1 =>
  fX8_entry_34 N N w x1 x2 z1 z1
def fX8_entry (N : Nat) (w : xW) (x1 : Int32) (x2 : Int32) : Option (xW × Int32) := fX8_entry_0 N w x1 x2
set_option maxRecDepth 100000 in
set_option maxHeartbeats 4000000 in
theorem bX8_entry_17 {Γ : xΓ} (C : xOK Γ cX8_entry RX8 8) (hL : xn Γ = 6) {N : Nat} {w : xW} {r : xW × Int32} (E : xEnd Γ (some .int) r.1 (some (.int r.2))) (h : fX8_entry_17 N w = some r) : xG Γ w 17 [(0, .ref (xad Γ 55))] [] := by
  unfold fX8_entry_17 at h
  refine xr_aload_n C 17 rfl dX8_entry_17 ?_
  refine xr_ldc C 18 k_X8_98 dX8_entry_18 ?_
  obtain ⟨z7, q8, h⟩ := g_bind h
  refine xr_callV C 20 (mX8_finding q8) v_X8_finding ml_X8_125 (Nat.le_of_ble_eq_true rfl) (Nat.le_of_ble_eq_true rfl) (xrecv C rfl rfl) rfl rfl (Nat.le_of_ble_eq_true rfl) rfl dX8_entry_20 ?_
  cases h
  exact xr_iret C 23 E dX8_entry_23
set_option maxRecDepth 100000 in
set_option maxHeartbeats 4000000 in
theorem bX8_entry_34b {Γ : xΓ} (C : xOK Γ cX8_entry RX8 8) (hL : xn Γ = 6) {N : Nat} {K34 : xW → Int32 → Int32 → Int32 → Int32 → Option (xW × Int32)} {w : xW} {x1 : Int32} {x2 : Int32} {x3 : Int32} {x4 : Int32} {r : xW × Int32} (E : xEnd Γ (some .int) r.1 (some (.int r.2))) (hK34 : ∀ (w : xW) (x1 : Int32) (x2 : Int32) (x3 : Int32) (x4 : Int32), K34 w x1 x2 x3 x4 = some r → xG Γ w 34 [(0, .ref (xad Γ 55)), (1, .int x1), (2, .int x2), (3, .int x3), (4, .int x4)] []) (h : fX8_entry_34b N K34 w x1 x2 x3 x4 = some r) : xG Γ w 34 [(0, .ref (xad Γ 55)), (1, .int x1), (2, .int x2), (3, .int x3), (4, .int x4)] [] := by
  unfold fX8_entry_34b at h
  refine xr_iload C 34 rfl dX8_entry_34 ?_
  refine xr_iload_n C 36 rfl dX8_entry_36 ?_
  refine xr_sipush C 37 960 (by decide +kernel) dX8_entry_37 ?_
  refine xr_iadd C 40 dX8_entry_40 ?_
  refine xr_icmp_ge C 41 76 dX8_entry_41 rfl (fun q => ?_) (fun q => ?_)
  · have h := g_it h q
    refine xr_aload_n C 76 rfl dX8_entry_76 ?_
    refine xr_ldc C 77 k_X8_149 dX8_entry_77 ?_
    obtain ⟨z3, q4, h⟩ := g_bind h
    refine xr_callV C 79 (mX8_finding q4) v_X8_finding ml_X8_125 (Nat.le_of_ble_eq_true rfl) (Nat.le_of_ble_eq_true rfl) (xrecv C rfl rfl) rfl rfl (Nat.le_of_ble_eq_true rfl) rfl dX8_entry_79 ?_
    cases h
    exact xr_iret C 82 E dX8_entry_82
  · have h := g_if h q
    refine xr_aload_n C 44 rfl dX8_entry_44 ?_
    refine xr_iload_n C 45 rfl dX8_entry_45 ?_
    refine xr_iload C 46 rfl dX8_entry_46 ?_
    obtain ⟨z5, q6, h⟩ := g_bind h
    refine xr_callV C 48 (mX8_quayAt q6) v_X8_quayAt ml_X8_198 (Nat.le_of_ble_eq_true rfl) (Nat.le_of_ble_eq_true rfl) (xrecv C rfl rfl) rfl rfl (Nat.le_of_ble_eq_true rfl) rfl dX8_entry_48 ?_
    refine xr_istore C 51 dX8_entry_51 (xnb hL rfl) ?_
    refine xr_iload C 53 rfl dX8_entry_53 ?_
    refine xr_if_lt C 55 70 dX8_entry_55 rfl (fun q => ?_) (fun q => ?_)
    · have h := g_it h q
      refine xr_iinc C 70 1 (by decide +kernel) rfl dX8_entry_70 (xnb hL rfl) ?_
      refine xr_goto C 73 34 dX8_entry_73 rfl ?_
      exact xG.sub (hK34 _ _ _ _ _ h) ⟨rfl, rfl, rfl, rfl, rfl, trivial⟩
    · have h := g_if h q
      refine xr_iload_n C 58 rfl dX8_entry_58 ?_
      refine xr_if_ne C 59 67 dX8_entry_59 rfl (fun q => ?_) (fun q => ?_)
      · have h := g_if h q
        refine xr_iload C 67 rfl dX8_entry_67 ?_
        cases h
        exact xr_iret C 69 E dX8_entry_69
      · have h := g_it h q
        refine xr_iload C 62 rfl dX8_entry_62 ?_
        refine xr_goto C 64 69 dX8_entry_64 rfl ?_
        cases h
        exact xr_iret C 69 E dX8_entry_69
set_option maxRecDepth 100000 in
set_option maxHeartbeats 4000000 in
theorem bX8_entry_34 {Γ : xΓ} (C : xOK Γ cX8_entry RX8 8) (hL : xn Γ = 6) {N : Nat} {r : xW × Int32} (E : xEnd Γ (some .int) r.1 (some (.int r.2))) : ∀ (n : Nat) (w : xW) (x1 : Int32) (x2 : Int32) (x3 : Int32) (x4 : Int32), fX8_entry_34 N n w x1 x2 x3 x4 = some r → xG Γ w 34 [(0, .ref (xad Γ 55)), (1, .int x1), (2, .int x2), (3, .int x3), (4, .int x4)] []
  | 0, _, _, _, _, _, h => by cases h
  | n + 1, w, x1, x2, x3, x4, h => bX8_entry_34b C hL E (bX8_entry_34 C hL E n) h
set_option maxRecDepth 100000 in
set_option maxHeartbeats 4000000 in
theorem bX8_entry_0 {Γ : xΓ} (C : xOK Γ cX8_entry RX8 8) (hL : xn Γ = 6) {N : Nat} {w : xW} {x1 : Int32} {x2 : Int32} {r : xW × Int32} (E : xEnd Γ (some .int) r.1 (some (.int r.2))) (h : fX8_entry_0 N w x1 x2 = some r) : xG Γ w 0 [(0, .ref (xad Γ 55)), (1, .int x1), (2, .int x2)] [] := by
  unfold fX8_entry_0 at h
  refine xr_aload_n C 0 rfl dX8_entry_0 ?_
  refine xr_iload_n C 1 rfl dX8_entry_1 ?_
  refine xr_callV C 2 (mX8_isShip rfl) v_X8_isShip ml_X8_189 (Nat.le_of_ble_eq_true rfl) (Nat.le_of_ble_eq_true rfl) (xrecv C rfl rfl) rfl rfl (Nat.le_of_ble_eq_true rfl) rfl dX8_entry_2 ?_
  refine xr_if_eq C 5 17 dX8_entry_5 rfl (fun q => ?_) (fun q => ?_)
  · have h := g_it h q
    exact xG.sub (bX8_entry_17 C hL E h) ⟨rfl, trivial⟩
  · have h := g_if h q
    refine xr_iload_n C 8 rfl dX8_entry_8 ?_
    refine xr_iconst C 9 0 (by decide +kernel) dX8_entry_9 ?_
    refine xr_iconst C 10 1 (by decide +kernel) dX8_entry_10 ?_
    refine xr_callS C 11 (mX8_within rfl) v_X8_within ml_X8_121 (Nat.le_of_ble_eq_true rfl) (Nat.le_of_ble_eq_true rfl) rfl rfl (Nat.le_of_ble_eq_true rfl) rfl dX8_entry_11 ?_
    refine xr_if_ne C 14 24 dX8_entry_14 rfl (fun q => ?_) (fun q => ?_)
    · have h := g_if h q
      refine xr_aload_n C 24 rfl dX8_entry_24 ?_
      refine xr_iload_n C 25 rfl dX8_entry_25 ?_
      refine xr_iconst C 26 1 (by decide +kernel) dX8_entry_26 ?_
      obtain ⟨z1, q2, h⟩ := g_bind h
      refine xr_callV C 27 (mX8_shipIs q2) v_X8_shipIs ml_X8_192 (Nat.le_of_ble_eq_true rfl) (Nat.le_of_ble_eq_true rfl) (xrecv C rfl rfl) rfl rfl (Nat.le_of_ble_eq_true rfl) rfl dX8_entry_27 ?_
      refine xr_istore_n C 30 dX8_entry_30 (xnb hL rfl) ?_
      refine xr_iload_n C 31 rfl dX8_entry_31 ?_
      refine xr_istore C 32 dX8_entry_32 (xnb hL rfl) ?_
      exact xG.sub (bX8_entry_34 C hL E N _ _ _ _ _ h) ⟨rfl, rfl, rfl, rfl, rfl, trivial⟩
    · have h := g_it h q
      exact xG.sub (bX8_entry_17 C hL E h) ⟨rfl, trivial⟩
set_option maxRecDepth 100000 in
set_option maxHeartbeats 4000000 in
theorem mX8_entry {l : Launch} {ad : Nat → Nat} {G : gEnv} {N : Nat} {w : xW} {x1 : Int32} {x2 : Int32} {r : xW × Int32} (h : fX8_entry N w x1 x2 = some r) : xCt l ad G 8 yX8_entry cX8_entry 6 (some .int) [.ref (ad 55), .int x1, .int x2] w r.1 (some (.int r.2)) := xCt.of RX8 rfl (by decide +kernel) (Nat.le_of_ble_eq_true rfl) (fun Γ el ea eG eL C E => by
    subst el
    subst ea
    subst eG
    unfold fX8_entry at h
    exact xG.sub (bX8_entry_0 C eL  E h) ⟨rfl, rfl, rfl, trivial⟩)
def fX0_freeFrom_86 (N : Nat) (w : xW) (K6 : Int32 → Int32 → Int32 → Int32 → Int32 → Int32 → Option Int32) (x2 : Int32) (x3 : Int32) (x4 : Int32) (x5 : Int32) (x6 : Int32) (x7 : Int32) : Option Int32 :=
  K6 x2 x3 x4 x5 x6 (x7 + 1)
def fX0_freeFrom_84 (N : Nat) (w : xW) (K6 : Int32 → Int32 → Int32 → Int32 → Int32 → Int32 → Option Int32) (x2 : Int32) (x3 : Int32) (x4 : Int32) (x5 : Int32) (x7 : Int32) (s0 : Int32) : Option Int32 :=
  fX0_freeFrom_86 N w K6 x2 x3 x4 x5 s0 x7
def fX0_freeFrom_6b (N : Nat) (w : xW) (K6 : Int32 → Int32 → Int32 → Int32 → Int32 → Int32 → Option Int32) (x2 : Int32) (x3 : Int32) (x4 : Int32) (x5 : Int32) (x6 : Int32) (x7 : Int32) : Option Int32 :=
  if x5 ≤ x7 then
    some x6
  else
  if ibd x7 6 = true then
  if ibd (w.1 39 x7.toNatClampNeg) 6 = true then
  if (w.1 41 ((w.1 39 x7.toNatClampNeg).toNatClampNeg)) = x2 then
    if (x3 + x4) ≤ ((w.1 8 ((w.1 39 x7.toNatClampNeg).toNatClampNeg)) + (w.1 40 ((w.1 39 x7.toNatClampNeg).toNatClampNeg))) then
      fX0_freeFrom_86 N w K6 x2 x3 x4 x5 x6 x7
    else
    if (((w.1 8 ((w.1 39 x7.toNatClampNeg).toNatClampNeg)) + (w.1 40 ((w.1 39 x7.toNatClampNeg).toNatClampNeg))) + (w.1 9 ((w.1 39 x7.toNatClampNeg).toNatClampNeg))) ≤ x3 then
      fX0_freeFrom_86 N w K6 x2 x3 x4 x5 x6 x7
    else
    fX0_freeFrom_84 N w K6 x2 x3 x4 x5 x7 (if x6 < ((w.1 8 ((w.1 39 x7.toNatClampNeg).toNatClampNeg)) + (w.1 40 ((w.1 39 x7.toNatClampNeg).toNatClampNeg))) + (w.1 9 ((w.1 39 x7.toNatClampNeg).toNatClampNeg)) then ((w.1 8 ((w.1 39 x7.toNatClampNeg).toNatClampNeg)) + (w.1 40 ((w.1 39 x7.toNatClampNeg).toNatClampNeg))) + (w.1 9 ((w.1 39 x7.toNatClampNeg).toNatClampNeg)) else x6)
  else
  fX0_freeFrom_86 N w K6 x2 x3 x4 x5 x6 x7
  else none
  else none
def fX0_freeFrom_6 (N : Nat) (w : xW) : Nat → Int32 → Int32 → Int32 → Int32 → Int32 → Int32 → Option Int32
  | 0, _, _, _, _, _, _ => none
  | n + 1, x2, x3, x4, x5, x6, x7 => fX0_freeFrom_6b N w (fX0_freeFrom_6 N w n) x2 x3 x4 x5 x6 x7
def fX0_freeFrom_0 (N : Nat) (w : xW) (x2 : Int32) (x3 : Int32) (x4 : Int32) (x5 : Int32) : Option Int32 :=
  fX0_freeFrom_6 N w N x2 x3 x4 x5 x3 0
def fX0_freeFrom (N : Nat) (w : xW) (x2 : Int32) (x3 : Int32) (x4 : Int32) (x5 : Int32) : Option Int32 := fX0_freeFrom_0 N w x2 x3 x4 x5
set_option maxRecDepth 100000 in
set_option maxHeartbeats 4000000 in
theorem bX0_freeFrom_86 {Γ : xΓ} (C : xOK Γ cX0_freeFrom RX0 2) (hL : xn Γ = 11) {N : Nat} {K6 : Int32 → Int32 → Int32 → Int32 → Int32 → Int32 → Option Int32} {w : xW} {x2 : Int32} {x3 : Int32} {x4 : Int32} {x5 : Int32} {x6 : Int32} {x7 : Int32} {r : Int32} (E : xEnd Γ (some .int) w (some (.int r))) (hK6 : ∀ (x2 : Int32) (x3 : Int32) (x4 : Int32) (x5 : Int32) (x6 : Int32) (x7 : Int32), K6 x2 x3 x4 x5 x6 x7 = some r → xG Γ w 6 [(0, .ref (xad Γ 34)), (1, .ref (xad Γ 1)), (2, .int x2), (3, .int x3), (4, .int x4), (5, .int x5), (6, .int x6), (7, .int x7)] []) (h : fX0_freeFrom_86 N w K6 x2 x3 x4 x5 x6 x7 = some r) : xG Γ w 86 [(0, .ref (xad Γ 34)), (1, .ref (xad Γ 1)), (2, .int x2), (3, .int x3), (4, .int x4), (5, .int x5), (6, .int x6), (7, .int x7)] [] := by
  unfold fX0_freeFrom_86 at h
  refine xr_iinc C 86 1 (by decide +kernel) rfl dX0_freeFrom_86 (xnb hL rfl) ?_
  refine xr_goto C 89 6 dX0_freeFrom_89 rfl ?_
  exact xG.sub (hK6 _ _ _ _ _ _ h) ⟨rfl, rfl, rfl, rfl, rfl, rfl, rfl, rfl, trivial⟩
set_option maxRecDepth 100000 in
set_option maxHeartbeats 4000000 in
theorem bX0_freeFrom_84 {Γ : xΓ} (C : xOK Γ cX0_freeFrom RX0 2) (hL : xn Γ = 11) {N : Nat} {K6 : Int32 → Int32 → Int32 → Int32 → Int32 → Int32 → Option Int32} {w : xW} {x2 : Int32} {x3 : Int32} {x4 : Int32} {x5 : Int32} {x7 : Int32} {s0 : Int32} {r : Int32} (E : xEnd Γ (some .int) w (some (.int r))) (hK6 : ∀ (x2 : Int32) (x3 : Int32) (x4 : Int32) (x5 : Int32) (x6 : Int32) (x7 : Int32), K6 x2 x3 x4 x5 x6 x7 = some r → xG Γ w 6 [(0, .ref (xad Γ 34)), (1, .ref (xad Γ 1)), (2, .int x2), (3, .int x3), (4, .int x4), (5, .int x5), (6, .int x6), (7, .int x7)] []) (h : fX0_freeFrom_84 N w K6 x2 x3 x4 x5 x7 s0 = some r) : xG Γ w 84 [(0, .ref (xad Γ 34)), (1, .ref (xad Γ 1)), (2, .int x2), (3, .int x3), (4, .int x4), (5, .int x5), (7, .int x7)] [.int s0] := by
  unfold fX0_freeFrom_84 at h
  refine xr_istore C 84 dX0_freeFrom_84 (xnb hL rfl) ?_
  exact xG.sub (bX0_freeFrom_86 C hL E hK6 h) ⟨rfl, rfl, rfl, rfl, rfl, rfl, rfl, rfl, trivial⟩
set_option maxRecDepth 100000 in
set_option maxHeartbeats 4000000 in
theorem bX0_freeFrom_6b {Γ : xΓ} (C : xOK Γ cX0_freeFrom RX0 2) (hL : xn Γ = 11) {N : Nat} {K6 : Int32 → Int32 → Int32 → Int32 → Int32 → Int32 → Option Int32} {w : xW} {x2 : Int32} {x3 : Int32} {x4 : Int32} {x5 : Int32} {x6 : Int32} {x7 : Int32} {r : Int32} (E : xEnd Γ (some .int) w (some (.int r))) (hK6 : ∀ (x2 : Int32) (x3 : Int32) (x4 : Int32) (x5 : Int32) (x6 : Int32) (x7 : Int32), K6 x2 x3 x4 x5 x6 x7 = some r → xG Γ w 6 [(0, .ref (xad Γ 34)), (1, .ref (xad Γ 1)), (2, .int x2), (3, .int x3), (4, .int x4), (5, .int x5), (6, .int x6), (7, .int x7)] []) (h : fX0_freeFrom_6b N w K6 x2 x3 x4 x5 x6 x7 = some r) : xG Γ w 6 [(0, .ref (xad Γ 34)), (1, .ref (xad Γ 1)), (2, .int x2), (3, .int x3), (4, .int x4), (5, .int x5), (6, .int x6), (7, .int x7)] [] := by
  unfold fX0_freeFrom_6b at h
  refine xr_iload C 6 rfl dX0_freeFrom_6 ?_
  refine xr_iload C 8 rfl dX0_freeFrom_8 ?_
  refine xr_icmp_ge C 10 92 dX0_freeFrom_10 rfl (fun q => ?_) (fun q => ?_)
  · have h := g_it h q
    refine xr_iload C 92 rfl dX0_freeFrom_92 ?_
    cases h
    exact xr_iret C 94 E dX0_freeFrom_94
  · have h := g_if h q
    refine xr_aload_n C 13 rfl dX0_freeFrom_13 ?_
    refine xr_getR C 14 dX0_freeFrom_14 fl_X0_32 rfl rfl ?_
    refine xr_iload C 17 rfl dX0_freeFrom_17 ?_
    obtain ⟨q1, h⟩ := g_ib h
    refine xr_iald C 19 x7.toNatClampNeg rfl dX0_freeFrom_19 rfl (ibd_in q1) ?_
    refine xr_istore C 20 dX0_freeFrom_20 (xnb hL rfl) ?_
    refine xr_aload_n C 22 rfl dX0_freeFrom_22 ?_
    refine xr_getR C 23 dX0_freeFrom_23 fl_X0_49 rfl rfl ?_
    refine xr_iload C 26 rfl dX0_freeFrom_26 ?_
    obtain ⟨q2, h⟩ := g_ib h
    refine xr_iald C 28 ((w.1 39 x7.toNatClampNeg).toNatClampNeg) rfl dX0_freeFrom_28 rfl (ibd_in q2) ?_
    refine xr_aload_n C 29 rfl dX0_freeFrom_29 ?_
    refine xr_getR C 30 dX0_freeFrom_30 fl_X0_35 rfl rfl ?_
    refine xr_iload C 33 rfl dX0_freeFrom_33 ?_
    refine xr_iald C 35 ((w.1 39 x7.toNatClampNeg).toNatClampNeg) rfl dX0_freeFrom_35 rfl (ibd_in q2) ?_
    refine xr_iadd C 36 dX0_freeFrom_36 ?_
    refine xr_istore C 37 dX0_freeFrom_37 (xnb hL rfl) ?_
    refine xr_iload C 39 rfl dX0_freeFrom_39 ?_
    refine xr_aload_n C 41 rfl dX0_freeFrom_41 ?_
    refine xr_getR C 42 dX0_freeFrom_42 fl_X0_77 rfl rfl ?_
    refine xr_iload C 45 rfl dX0_freeFrom_45 ?_
    refine xr_iald C 47 ((w.1 39 x7.toNatClampNeg).toNatClampNeg) rfl dX0_freeFrom_47 rfl (ibd_in q2) ?_
    refine xr_iadd C 48 dX0_freeFrom_48 ?_
    refine xr_istore C 49 dX0_freeFrom_49 (xnb hL rfl) ?_
    refine xr_aload_n C 51 rfl dX0_freeFrom_51 ?_
    refine xr_getR C 52 dX0_freeFrom_52 fl_X0_38 rfl rfl ?_
    refine xr_iload C 55 rfl dX0_freeFrom_55 ?_
    refine xr_iald C 57 ((w.1 39 x7.toNatClampNeg).toNatClampNeg) rfl dX0_freeFrom_57 rfl (ibd_in q2) ?_
    refine xr_iload_n C 58 rfl dX0_freeFrom_58 ?_
    refine xr_icmp_ne C 59 86 dX0_freeFrom_59 rfl (fun q => ?_) (fun q => ?_)
    · have h := g_if h q
      exact xG.sub (bX0_freeFrom_86 C hL E hK6 h) ⟨rfl, rfl, rfl, rfl, rfl, rfl, rfl, rfl, trivial⟩
    · have h := g_it h q
      refine xr_iload C 62 rfl dX0_freeFrom_62 ?_
      refine xr_iload_n C 64 rfl dX0_freeFrom_64 ?_
      refine xr_iload C 65 rfl dX0_freeFrom_65 ?_
      refine xr_iadd C 67 dX0_freeFrom_67 ?_
      refine xr_icmp_ge C 68 86 dX0_freeFrom_68 rfl (fun q => ?_) (fun q => ?_)
      · have h := g_it h q
        exact xG.sub (bX0_freeFrom_86 C hL E hK6 h) ⟨rfl, rfl, rfl, rfl, rfl, rfl, rfl, rfl, trivial⟩
      · have h := g_if h q
        refine xr_iload C 71 rfl dX0_freeFrom_71 ?_
        refine xr_iload_n C 73 rfl dX0_freeFrom_73 ?_
        refine xr_icmp_le C 74 86 dX0_freeFrom_74 rfl (fun q => ?_) (fun q => ?_)
        · have h := g_it h q
          exact xG.sub (bX0_freeFrom_86 C hL E hK6 h) ⟨rfl, rfl, rfl, rfl, rfl, rfl, rfl, rfl, trivial⟩
        · have h := g_if h q
          refine xr_iload C 77 rfl dX0_freeFrom_77 ?_
          refine xr_iload C 79 rfl dX0_freeFrom_79 ?_
          refine xr_mmax C 81 dX0_freeFrom_81 mm_X0_84 (Nat.le_of_ble_eq_true rfl) (Nat.le_of_ble_eq_true rfl) ?_
          exact xG.sub (bX0_freeFrom_84 C hL E hK6 h) ⟨rfl, rfl, rfl, rfl, rfl, rfl, rfl, trivial⟩
set_option maxRecDepth 100000 in
set_option maxHeartbeats 4000000 in
theorem bX0_freeFrom_6 {Γ : xΓ} (C : xOK Γ cX0_freeFrom RX0 2) (hL : xn Γ = 11) {N : Nat} {w : xW} {r : Int32} (E : xEnd Γ (some .int) w (some (.int r))) : ∀ (n : Nat) (x2 : Int32) (x3 : Int32) (x4 : Int32) (x5 : Int32) (x6 : Int32) (x7 : Int32), fX0_freeFrom_6 N w n x2 x3 x4 x5 x6 x7 = some r → xG Γ w 6 [(0, .ref (xad Γ 34)), (1, .ref (xad Γ 1)), (2, .int x2), (3, .int x3), (4, .int x4), (5, .int x5), (6, .int x6), (7, .int x7)] []
  | 0, _, _, _, _, _, _, h => by cases h
  | n + 1, x2, x3, x4, x5, x6, x7, h => bX0_freeFrom_6b C hL E (bX0_freeFrom_6 C hL E n) h
set_option maxRecDepth 100000 in
set_option maxHeartbeats 4000000 in
theorem bX0_freeFrom_0 {Γ : xΓ} (C : xOK Γ cX0_freeFrom RX0 2) (hL : xn Γ = 11) {N : Nat} {w : xW} {x2 : Int32} {x3 : Int32} {x4 : Int32} {x5 : Int32} {r : Int32} (E : xEnd Γ (some .int) w (some (.int r))) (h : fX0_freeFrom_0 N w x2 x3 x4 x5 = some r) : xG Γ w 0 [(0, .ref (xad Γ 34)), (1, .ref (xad Γ 1)), (2, .int x2), (3, .int x3), (4, .int x4), (5, .int x5)] [] := by
  unfold fX0_freeFrom_0 at h
  refine xr_iload_n C 0 rfl dX0_freeFrom_0 ?_
  refine xr_istore C 1 dX0_freeFrom_1 (xnb hL rfl) ?_
  refine xr_iconst C 3 0 (by decide +kernel) dX0_freeFrom_3 ?_
  refine xr_istore C 4 dX0_freeFrom_4 (xnb hL rfl) ?_
  exact xG.sub (bX0_freeFrom_6 C hL E N _ _ _ _ _ _ h) ⟨rfl, rfl, rfl, rfl, rfl, rfl, rfl, rfl, trivial⟩
set_option maxRecDepth 100000 in
set_option maxHeartbeats 4000000 in
theorem mX0_freeFrom {l : Launch} {ad : Nat → Nat} {G : gEnv} {N : Nat} {w : xW} {x2 : Int32} {x3 : Int32} {x4 : Int32} {x5 : Int32} {r : Int32} (h : fX0_freeFrom N w x2 x3 x4 x5 = some r) : xCt l ad G 2 yX0_freeFrom cX0_freeFrom 11 (some .int) [.ref (ad 34), .ref (ad 1), .int x2, .int x3, .int x4, .int x5] w w (some (.int r)) := xCt.of RX0 rfl (by decide +kernel) (Nat.le_of_ble_eq_true rfl) (fun Γ el ea eG eL C E => by
    subst el
    subst ea
    subst eG
    unfold fX0_freeFrom at h
    exact xG.sub (bX0_freeFrom_0 C eL  E h) ⟨rfl, rfl, rfl, rfl, rfl, rfl, trivial⟩)
def fX0_place_109 (N : Nat) (w : xW) (x2 : Int32) : Option xW :=
  if ibd x2 6 = true then
  some (sI (sI w 40 x2.toNatClampNeg 960) 41 x2.toNatClampNeg (-1))
  else none
def fX0_place_23b (N : Nat) (K23 : xW → Int32 → Int32 → Int32 → Int32 → Int32 → Option xW) (w : xW) (x2 : Int32) (x3 : Int32) (x4 : Int32) (x5 : Int32) (x6 : Int32) : Option xW :=
  if x3 < x6 then
    fX0_place_109 N w x2
  else
  if x4 ≤ x5 then
    fX0_place_109 N w x2
  else
  (fX1_frontAt N w x2 x5).bind fun z2 =>
  if ibd x2 6 = true then
  (fX0_freeFrom N z2.1 z2.2 x5 (z2.1.1 9 x2.toNatClampNeg) x3).bind fun z5 =>
  if z5 = x5 then
    some (sI (sI z2.1 40 x2.toNatClampNeg (x5 - (z2.1.1 8 x2.toNatClampNeg))) 41 x2.toNatClampNeg z2.2)
  else
  (fX1_firstBerth N z2.1 x2 z5).bind fun z7 =>
  K23 z7.1 x2 x3 x4 z7.2 (x6 + 1)
  else none
def fX0_place_23 (N : Nat) : Nat → xW → Int32 → Int32 → Int32 → Int32 → Int32 → Option xW
  | 0, _, _, _, _, _, _ => none
  | n + 1, w, x2, x3, x4, x5, x6 => fX0_place_23b N (fX0_place_23 N n) w x2 x3 x4 x5 x6
def fX0_place_0 (N : Nat) (w : xW) (x2 : Int32) (x3 : Int32) : Option xW :=
  if ibd x2 6 = true then
  fX0_place_23 N N w x2 x3 ((w.1 8 x2.toNatClampNeg) + 960) (w.1 38 x2.toNatClampNeg) 0
  else none
def fX0_place (N : Nat) (w : xW) (x2 : Int32) (x3 : Int32) : Option xW := fX0_place_0 N w x2 x3
set_option maxRecDepth 100000 in
set_option maxHeartbeats 4000000 in
theorem bX0_place_109 {Γ : xΓ} (C : xOK Γ cX0_place RX0 4) (hL : xn Γ = 9) {N : Nat} {w : xW} {x2 : Int32} {r : xW} (E : xEnd Γ none r none) (h : fX0_place_109 N w x2 = some r) : xG Γ w 109 [(0, .ref (xad Γ 34)), (2, .int x2)] [] := by
  unfold fX0_place_109 at h
  refine xr_aload_n C 109 rfl dX0_place_109 ?_
  refine xr_getR C 110 dX0_place_110 fl_X0_35 rfl rfl ?_
  refine xr_iload_n C 113 rfl dX0_place_113 ?_
  refine xr_sipush C 114 960 (by decide +kernel) dX0_place_114 ?_
  obtain ⟨q9, h⟩ := g_ib h
  refine xr_iast C 117 x2.toNatClampNeg rfl dX0_place_117 rfl (ibd_in q9) ?_
  refine xr_aload_n C 118 rfl dX0_place_118 ?_
  refine xr_getR C 119 dX0_place_119 fl_X0_38 rfl rfl ?_
  refine xr_iload_n C 122 rfl dX0_place_122 ?_
  refine xr_iconst C 123 (-1) (by decide +kernel) dX0_place_123 ?_
  refine xr_iast C 124 x2.toNatClampNeg rfl dX0_place_124 rfl (ibd_in q9) ?_
  cases h
  exact xr_vret C 125 E dX0_place_125
set_option maxRecDepth 100000 in
set_option maxHeartbeats 4000000 in
theorem bX0_place_23b {Γ : xΓ} (C : xOK Γ cX0_place RX0 4) (hL : xn Γ = 9) {N : Nat} {K23 : xW → Int32 → Int32 → Int32 → Int32 → Int32 → Option xW} {w : xW} {x2 : Int32} {x3 : Int32} {x4 : Int32} {x5 : Int32} {x6 : Int32} {r : xW} (E : xEnd Γ none r none) (hK23 : ∀ (w : xW) (x2 : Int32) (x3 : Int32) (x4 : Int32) (x5 : Int32) (x6 : Int32), K23 w x2 x3 x4 x5 x6 = some r → xG Γ w 23 [(0, .ref (xad Γ 34)), (1, .ref (xad Γ 1)), (2, .int x2), (3, .int x3), (4, .int x4), (5, .int x5), (6, .int x6)] []) (h : fX0_place_23b N K23 w x2 x3 x4 x5 x6 = some r) : xG Γ w 23 [(0, .ref (xad Γ 34)), (1, .ref (xad Γ 1)), (2, .int x2), (3, .int x3), (4, .int x4), (5, .int x5), (6, .int x6)] [] := by
  unfold fX0_place_23b at h
  refine xr_iload C 23 rfl dX0_place_23 ?_
  refine xr_iload_n C 25 rfl dX0_place_25 ?_
  refine xr_icmp_gt C 26 109 dX0_place_26 rfl (fun q => ?_) (fun q => ?_)
  · have h := g_it h q
    exact xG.sub (bX0_place_109 C hL E h) ⟨rfl, rfl, trivial⟩
  · have h := g_if h q
    refine xr_iload C 29 rfl dX0_place_29 ?_
    refine xr_iload C 31 rfl dX0_place_31 ?_
    refine xr_icmp_ge C 33 109 dX0_place_33 rfl (fun q => ?_) (fun q => ?_)
    · have h := g_it h q
      exact xG.sub (bX0_place_109 C hL E h) ⟨rfl, rfl, trivial⟩
    · have h := g_if h q
      refine xr_aload_n C 36 rfl dX0_place_36 ?_
      refine xr_iload_n C 37 rfl dX0_place_37 ?_
      refine xr_iload C 38 rfl dX0_place_38 ?_
      obtain ⟨z2, q3, h⟩ := g_bind h
      refine xr_callV C 40 (mX1_frontAt q3) v_X1_frontAt ml_X0_74 (Nat.le_of_ble_eq_true rfl) (Nat.le_of_ble_eq_true rfl) (xrecv C rfl rfl) rfl rfl (Nat.le_of_ble_eq_true rfl) rfl dX0_place_40 ?_
      refine xr_istore C 43 dX0_place_43 (xnb hL rfl) ?_
      refine xr_aload_n C 45 rfl dX0_place_45 ?_
      refine xr_aload_n C 46 rfl dX0_place_46 ?_
      refine xr_iload C 47 rfl dX0_place_47 ?_
      refine xr_iload C 49 rfl dX0_place_49 ?_
      refine xr_aload_n C 51 rfl dX0_place_51 ?_
      refine xr_getR C 52 dX0_place_52 fl_X0_77 rfl rfl ?_
      refine xr_iload_n C 55 rfl dX0_place_55 ?_
      obtain ⟨q4, h⟩ := g_ib h
      refine xr_iald C 56 x2.toNatClampNeg rfl dX0_place_56 rfl (ibd_in q4) ?_
      refine xr_iload_n C 57 rfl dX0_place_57 ?_
      obtain ⟨z5, q6, h⟩ := g_bind h
      refine xr_callV C 58 (mX0_freeFrom q6) v_X0_freeFrom ml_X0_80 (Nat.le_of_ble_eq_true rfl) (Nat.le_of_ble_eq_true rfl) (xrecv C rfl rfl) rfl rfl (Nat.le_of_ble_eq_true rfl) rfl dX0_place_58 ?_
      refine xr_istore C 61 dX0_place_61 (xnb hL rfl) ?_
      refine xr_iload C 63 rfl dX0_place_63 ?_
      refine xr_iload C 65 rfl dX0_place_65 ?_
      refine xr_icmp_ne C 67 94 dX0_place_67 rfl (fun q => ?_) (fun q => ?_)
      · have h := g_if h q
        refine xr_aload_n C 94 rfl dX0_place_94 ?_
        refine xr_iload_n C 95 rfl dX0_place_95 ?_
        refine xr_iload C 96 rfl dX0_place_96 ?_
        obtain ⟨z7, q8, h⟩ := g_bind h
        refine xr_callV C 98 (mX1_firstBerth q8) v_X1_firstBerth ml_X0_52 (Nat.le_of_ble_eq_true rfl) (Nat.le_of_ble_eq_true rfl) (xrecv C rfl rfl) rfl rfl (Nat.le_of_ble_eq_true rfl) rfl dX0_place_98 ?_
        refine xr_istore C 101 dX0_place_101 (xnb hL rfl) ?_
        refine xr_iinc C 103 1 (by decide +kernel) rfl dX0_place_103 (xnb hL rfl) ?_
        refine xr_goto C 106 23 dX0_place_106 rfl ?_
        exact xG.sub (hK23 _ _ _ _ _ _ h) ⟨rfl, rfl, rfl, rfl, rfl, rfl, rfl, trivial⟩
      · have h := g_it h q
        refine xr_aload_n C 70 rfl dX0_place_70 ?_
        refine xr_getR C 71 dX0_place_71 fl_X0_35 rfl rfl ?_
        refine xr_iload_n C 74 rfl dX0_place_74 ?_
        refine xr_iload C 75 rfl dX0_place_75 ?_
        refine xr_aload_n C 77 rfl dX0_place_77 ?_
        refine xr_getR C 78 dX0_place_78 fl_X0_49 rfl rfl ?_
        refine xr_iload_n C 81 rfl dX0_place_81 ?_
        refine xr_iald C 82 x2.toNatClampNeg rfl dX0_place_82 rfl (ibd_in q4) ?_
        refine xr_isub C 83 dX0_place_83 ?_
        refine xr_iast C 84 x2.toNatClampNeg rfl dX0_place_84 rfl (ibd_in q4) ?_
        refine xr_aload_n C 85 rfl dX0_place_85 ?_
        refine xr_getR C 86 dX0_place_86 fl_X0_38 rfl rfl ?_
        refine xr_iload_n C 89 rfl dX0_place_89 ?_
        refine xr_iload C 90 rfl dX0_place_90 ?_
        refine xr_iast C 92 x2.toNatClampNeg rfl dX0_place_92 rfl (ibd_in q4) ?_
        cases h
        exact xr_vret C 93 E dX0_place_93
set_option maxRecDepth 100000 in
set_option maxHeartbeats 4000000 in
theorem bX0_place_23 {Γ : xΓ} (C : xOK Γ cX0_place RX0 4) (hL : xn Γ = 9) {N : Nat} {r : xW} (E : xEnd Γ none r none) : ∀ (n : Nat) (w : xW) (x2 : Int32) (x3 : Int32) (x4 : Int32) (x5 : Int32) (x6 : Int32), fX0_place_23 N n w x2 x3 x4 x5 x6 = some r → xG Γ w 23 [(0, .ref (xad Γ 34)), (1, .ref (xad Γ 1)), (2, .int x2), (3, .int x3), (4, .int x4), (5, .int x5), (6, .int x6)] []
  | 0, _, _, _, _, _, _, h => by cases h
  | n + 1, w, x2, x3, x4, x5, x6, h => bX0_place_23b C hL E (bX0_place_23 C hL E n) h
set_option maxRecDepth 100000 in
set_option maxHeartbeats 4000000 in
theorem bX0_place_0 {Γ : xΓ} (C : xOK Γ cX0_place RX0 4) (hL : xn Γ = 9) {N : Nat} {w : xW} {x2 : Int32} {x3 : Int32} {r : xW} (E : xEnd Γ none r none) (h : fX0_place_0 N w x2 x3 = some r) : xG Γ w 0 [(0, .ref (xad Γ 34)), (1, .ref (xad Γ 1)), (2, .int x2), (3, .int x3)] [] := by
  unfold fX0_place_0 at h
  refine xr_aload_n C 0 rfl dX0_place_0 ?_
  refine xr_getR C 1 dX0_place_1 fl_X0_49 rfl rfl ?_
  refine xr_iload_n C 4 rfl dX0_place_4 ?_
  obtain ⟨q1, h⟩ := g_ib h
  refine xr_iald C 5 x2.toNatClampNeg rfl dX0_place_5 rfl (ibd_in q1) ?_
  refine xr_sipush C 6 960 (by decide +kernel) dX0_place_6 ?_
  refine xr_iadd C 9 dX0_place_9 ?_
  refine xr_istore C 10 dX0_place_10 (xnb hL rfl) ?_
  refine xr_aload_n C 12 rfl dX0_place_12 ?_
  refine xr_getR C 13 dX0_place_13 fl_X0_29 rfl rfl ?_
  refine xr_iload_n C 16 rfl dX0_place_16 ?_
  refine xr_iald C 17 x2.toNatClampNeg rfl dX0_place_17 rfl (ibd_in q1) ?_
  refine xr_istore C 18 dX0_place_18 (xnb hL rfl) ?_
  refine xr_iconst C 20 0 (by decide +kernel) dX0_place_20 ?_
  refine xr_istore C 21 dX0_place_21 (xnb hL rfl) ?_
  exact xG.sub (bX0_place_23 C hL E N _ _ _ _ _ _ h) ⟨rfl, rfl, rfl, rfl, rfl, rfl, rfl, trivial⟩
set_option maxRecDepth 100000 in
set_option maxHeartbeats 4000000 in
theorem mX0_place {l : Launch} {ad : Nat → Nat} {G : gEnv} {N : Nat} {w : xW} {x2 : Int32} {x3 : Int32} {r : xW} (h : fX0_place N w x2 x3 = some r) : xCt l ad G 4 yX0_place cX0_place 9 none [.ref (ad 34), .ref (ad 1), .int x2, .int x3] w r none := xCt.of RX0 rfl (by decide +kernel) (Nat.le_of_ble_eq_true rfl) (fun Γ el ea eG eL C E => by
    subst el
    subst ea
    subst eG
    unfold fX0_place at h
    exact xG.sub (bX0_place_0 C eL  E h) ⟨rfl, rfl, rfl, rfl, trivial⟩)
def fX0_keep_33 (w : xW) (x1 : Int32) : Option xW :=
  if xcp 0 0 x1 6 6 = true then
  some (sA w 37 (va_cpy (w.1 41) (w.1 37) (Int32.toNatClampNeg 0) (Int32.toNatClampNeg 0) (Int32.toNatClampNeg x1)))
  else none
def fX0_keep_0 (w : xW) (x1 : Int32) (x2 : Int32) : Option xW :=
  if xcp 0 0 x1 6 6 = true then
  if xcp 0 0 x1 6 6 = true then
  fX0_keep_33 (sA (sA (sI w 34 1 x2) 35 (va_cpy ((sI w 34 1 x2).1 39) ((sI w 34 1 x2).1 35) (Int32.toNatClampNeg 0) (Int32.toNatClampNeg 0) (Int32.toNatClampNeg x1))) 36 (va_cpy ((sA (sI w 34 1 x2) 35 (va_cpy ((sI w 34 1 x2).1 39) ((sI w 34 1 x2).1 35) (Int32.toNatClampNeg 0) (Int32.toNatClampNeg 0) (Int32.toNatClampNeg x1))).1 40) ((sA (sI w 34 1 x2) 35 (va_cpy ((sI w 34 1 x2).1 39) ((sI w 34 1 x2).1 35) (Int32.toNatClampNeg 0) (Int32.toNatClampNeg 0) (Int32.toNatClampNeg x1))).1 36) (Int32.toNatClampNeg 0) (Int32.toNatClampNeg 0) (Int32.toNatClampNeg x1))) x1
  else none
  else none
def fX0_keep (w : xW) (x1 : Int32) (x2 : Int32) : Option xW := fX0_keep_0 w x1 x2
set_option maxRecDepth 100000 in
set_option maxHeartbeats 4000000 in
theorem bX0_keep_33 {Γ : xΓ} (C : xOK Γ cX0_keep RX0 2) (hL : xn Γ = 3) {w : xW} {x1 : Int32} {r : xW} (E : xEnd Γ none r none) (h : fX0_keep_33  w x1 = some r) : xG Γ w 33 [(0, .ref (xad Γ 34)), (1, .int x1)] [] := by
  unfold fX0_keep_33 at h
  refine xr_aload_n C 33 rfl dX0_keep_33 ?_
  refine xr_getR C 34 dX0_keep_34 fl_X0_38 rfl rfl ?_
  refine xr_iconst C 37 0 (by decide +kernel) dX0_keep_37 ?_
  refine xr_aload_n C 38 rfl dX0_keep_38 ?_
  refine xr_getR C 39 dX0_keep_39 fl_X0_26 rfl rfl ?_
  refine xr_iconst C 42 0 (by decide +kernel) dX0_keep_42 ?_
  refine xr_iload_n C 43 rfl dX0_keep_43 ?_
  obtain ⟨q3, h⟩ := g_lt h
  refine xr_copyi C 44 dX0_keep_44 cp_X0_68 (Nat.le_of_ble_eq_true rfl) (Nat.le_of_ble_eq_true rfl) rfl rfl q3 ?_
  cases h
  exact xr_vret C 47 E dX0_keep_47
set_option maxRecDepth 100000 in
set_option maxHeartbeats 4000000 in
theorem bX0_keep_0 {Γ : xΓ} (C : xOK Γ cX0_keep RX0 2) (hL : xn Γ = 3) {w : xW} {x1 : Int32} {x2 : Int32} {r : xW} (E : xEnd Γ none r none) (h : fX0_keep_0  w x1 x2 = some r) : xG Γ w 0 [(0, .ref (xad Γ 34)), (1, .int x1), (2, .int x2)] [] := by
  unfold fX0_keep_0 at h
  refine xr_aload_n C 0 rfl dX0_keep_0 ?_
  refine xr_iload_n C 1 rfl dX0_keep_1 ?_
  refine xr_putI C 2 dX0_keep_2 fp_X0_15 rfl rfl ?_
  refine xr_aload_n C 5 rfl dX0_keep_5 ?_
  refine xr_getR C 6 dX0_keep_6 fl_X0_32 rfl rfl ?_
  refine xr_iconst C 9 0 (by decide +kernel) dX0_keep_9 ?_
  refine xr_aload_n C 10 rfl dX0_keep_10 ?_
  refine xr_getR C 11 dX0_keep_11 fl_X0_19 rfl rfl ?_
  refine xr_iconst C 14 0 (by decide +kernel) dX0_keep_14 ?_
  refine xr_iload_n C 15 rfl dX0_keep_15 ?_
  obtain ⟨q1, h⟩ := g_lt h
  refine xr_copyi C 16 dX0_keep_16 cp_X0_68 (Nat.le_of_ble_eq_true rfl) (Nat.le_of_ble_eq_true rfl) rfl rfl q1 ?_
  refine xr_aload_n C 19 rfl dX0_keep_19 ?_
  refine xr_getR C 20 dX0_keep_20 fl_X0_35 rfl rfl ?_
  refine xr_iconst C 23 0 (by decide +kernel) dX0_keep_23 ?_
  refine xr_aload_n C 24 rfl dX0_keep_24 ?_
  refine xr_getR C 25 dX0_keep_25 fl_X0_23 rfl rfl ?_
  refine xr_iconst C 28 0 (by decide +kernel) dX0_keep_28 ?_
  refine xr_iload_n C 29 rfl dX0_keep_29 ?_
  obtain ⟨q2, h⟩ := g_lt h
  refine xr_copyi C 30 dX0_keep_30 cp_X0_68 (Nat.le_of_ble_eq_true rfl) (Nat.le_of_ble_eq_true rfl) rfl rfl q2 ?_
  exact xG.sub (bX0_keep_33 C hL E h) ⟨rfl, rfl, trivial⟩
set_option maxRecDepth 100000 in
set_option maxHeartbeats 4000000 in
theorem mX0_keep {l : Launch} {ad : Nat → Nat} {G : gEnv} {w : xW} {x1 : Int32} {x2 : Int32} {r : xW} (h : fX0_keep w x1 x2 = some r) : xCt l ad G 2 yX0_keep cX0_keep 3 none [.ref (ad 34), .int x1, .int x2] w r none := xCt.of RX0 rfl (by decide +kernel) (Nat.le_of_ble_eq_true rfl) (fun Γ el ea eG eL C E => by
    subst el
    subst ea
    subst eG
    unfold fX0_keep at h
    exact xG.sub (bX0_keep_0 C eL  E h) ⟨rfl, rfl, rfl, trivial⟩)
def fX0_search_26 (N : Nat) (rec : xW → Int32 → Int32 → Int32 → Option xW) (w : xW) (x3 : Int32) : Option xW :=
  (fX0_keep w (w.1 1 6) x3).bind fun z8 =>
  some z8
def fX0_search_143 (N : Nat) (rec : xW → Int32 → Int32 → Int32 → Option xW) (K39 : xW → Int32 → Int32 → Int32 → Int32 → Option xW) (w : xW) (x2 : Int32) (x3 : Int32) (x4 : Int32) (x5 : Int32) : Option xW :=
  K39 w x2 x3 x4 (x5 + 1)
def fX0_search_104 (N : Nat) (rec : xW → Int32 → Int32 → Int32 → Option xW) (K39 : xW → Int32 → Int32 → Int32 → Int32 → Option xW) (w : xW) (x2 : Int32) (x3 : Int32) (x4 : Int32) (x5 : Int32) (s0 : Int32) : Option xW :=
  if ibd x5 6 = true then
  (rec w (x2 + 1) (x3 + (w.1 40 x5.toNatClampNeg)) (x4 - s0)).bind fun z6 =>
  fX0_search_143 N rec K39 (sI z6 34 9 ((z6.1 34 9) &&& ((1 <<< (x5 &&& 31)) ^^^ (-1)))) x2 x3 x4 x5
  else none
def fX0_search_39b (N : Nat) (rec : xW → Int32 → Int32 → Int32 → Option xW) (K39 : xW → Int32 → Int32 → Int32 → Int32 → Option xW) (w : xW) (x2 : Int32) (x3 : Int32) (x4 : Int32) (x5 : Int32) : Option xW :=
  if (w.1 1 6) ≤ x5 then
    some w
  else
  if (((w.1 34 9) >>> (x5 &&& 31)) &&& 1) = 0 then
    (fX0_place N w x5 x2).bind fun z1 =>
    if ibd x2 6 = true then
    if ibd x5 6 = true then
    fX0_search_104 N rec K39 (sI (sI z1 39 x2.toNatClampNeg x5) 34 9 (((sI z1 39 x2.toNatClampNeg x5).1 34 9) ||| (1 <<< (x5 &&& 31)))) x2 x3 x4 x5 (((sI (sI z1 39 x2.toNatClampNeg x5) 34 9 (((sI z1 39 x2.toNatClampNeg x5).1 34 9) ||| (1 <<< (x5 &&& 31)))).1 38 x5.toNatClampNeg) - ((sI (sI z1 39 x2.toNatClampNeg x5) 34 9 (((sI z1 39 x2.toNatClampNeg x5).1 34 9) ||| (1 <<< (x5 &&& 31)))).1 8 x5.toNatClampNeg))
    else none
    else none
  else
  fX0_search_143 N rec K39 w x2 x3 x4 x5
def fX0_search_39 (N : Nat) (rec : xW → Int32 → Int32 → Int32 → Option xW) : Nat → xW → Int32 → Int32 → Int32 → Int32 → Option xW
  | 0, _, _, _, _, _ => none
  | n + 1, w, x2, x3, x4, x5 => fX0_search_39b N rec (fX0_search_39 N rec n) w x2 x3 x4 x5
def fX0_search_0 (N : Nat) (rec : xW → Int32 → Int32 → Int32 → Option xW) (w : xW) (x2 : Int32) (x3 : Int32) (x4 : Int32) : Option xW :=
  if (x3 + x4) < (w.1 34 1) then
    if (w.1 1 6) ≤ x2 then
      fX0_search_26 N rec w x3
    else
    if x2 < 6 then
      fX0_search_39 N rec N w x2 x3 x4 0
    else
    fX0_search_26 N rec w x3
  else
  some w
def fX0_search (N : Nat) : Nat → xW → Int32 → Int32 → Int32 → Option xW
  | 0, _, _, _, _ => none
  | n + 1, w, x2, x3, x4 => fX0_search_0 N (fX0_search N n) w x2 x3 x4
set_option maxRecDepth 100000 in
set_option maxHeartbeats 4000000 in
theorem bX0_search_26 {De D1 : Nat} (hDe : D1 + 1 ≤ De) (hD0 : 5 ≤ De) {Γ : xΓ} (C : xOK Γ cX0_search RX0 De) (hL : xn Γ = 7) {N : Nat} {rec : xW → Int32 → Int32 → Int32 → Option xW} {w : xW} {x3 : Int32} {r : xW} (hrec : ∀ (w : xW) (x2 : Int32) (x3 : Int32) (x4 : Int32) (r : xW), rec w x2 x3 x4 = some r → xCt (xl Γ) (xad Γ) (xE Γ) D1 yX0_search cX0_search 7 none [.ref (xad Γ 34), .ref (xad Γ 1), .int x2, .int x3, .int x4] w r none) (E : xEnd Γ none r none) (h : fX0_search_26 N rec w x3 = some r) : xG Γ w 26 [(0, .ref (xad Γ 34)), (1, .ref (xad Γ 1)), (3, .int x3)] [] := by
  unfold fX0_search_26 at h
  refine xr_aload_n C 26 rfl dX0_search_26 ?_
  refine xr_aload_n C 27 rfl dX0_search_27 ?_
  refine xr_getI C 28 dX0_search_28 fl_X0_44 rfl rfl ?_
  refine xr_iload_n C 31 rfl dX0_search_31 ?_
  obtain ⟨z8, q9, h⟩ := g_bind h
  refine xr_callV C 32 (mX0_keep q9) v_X0_keep ml_X0_60 (by omega) (Nat.le_of_ble_eq_true rfl) (xrecv C rfl rfl) rfl rfl (Nat.le_of_ble_eq_true rfl) rfl dX0_search_32 ?_
  cases h
  exact xr_vret C 35 E dX0_search_35
set_option maxRecDepth 100000 in
set_option maxHeartbeats 4000000 in
theorem bX0_search_143 {De D1 : Nat} (hDe : D1 + 1 ≤ De) (hD0 : 5 ≤ De) {Γ : xΓ} (C : xOK Γ cX0_search RX0 De) (hL : xn Γ = 7) {N : Nat} {rec : xW → Int32 → Int32 → Int32 → Option xW} {K39 : xW → Int32 → Int32 → Int32 → Int32 → Option xW} {w : xW} {x2 : Int32} {x3 : Int32} {x4 : Int32} {x5 : Int32} {r : xW} (hrec : ∀ (w : xW) (x2 : Int32) (x3 : Int32) (x4 : Int32) (r : xW), rec w x2 x3 x4 = some r → xCt (xl Γ) (xad Γ) (xE Γ) D1 yX0_search cX0_search 7 none [.ref (xad Γ 34), .ref (xad Γ 1), .int x2, .int x3, .int x4] w r none) (E : xEnd Γ none r none) (hK39 : ∀ (w : xW) (x2 : Int32) (x3 : Int32) (x4 : Int32) (x5 : Int32), K39 w x2 x3 x4 x5 = some r → xG Γ w 39 [(0, .ref (xad Γ 34)), (1, .ref (xad Γ 1)), (2, .int x2), (3, .int x3), (4, .int x4), (5, .int x5)] []) (h : fX0_search_143 N rec K39 w x2 x3 x4 x5 = some r) : xG Γ w 143 [(0, .ref (xad Γ 34)), (1, .ref (xad Γ 1)), (2, .int x2), (3, .int x3), (4, .int x4), (5, .int x5)] [] := by
  unfold fX0_search_143 at h
  refine xr_iinc C 143 1 (by decide +kernel) rfl dX0_search_143 (xnb hL rfl) ?_
  refine xr_goto C 146 39 dX0_search_146 rfl ?_
  exact xG.sub (hK39 _ _ _ _ _ h) ⟨rfl, rfl, rfl, rfl, rfl, rfl, trivial⟩
set_option maxRecDepth 100000 in
set_option maxHeartbeats 4000000 in
theorem bX0_search_104 {De D1 : Nat} (hDe : D1 + 1 ≤ De) (hD0 : 5 ≤ De) {Γ : xΓ} (C : xOK Γ cX0_search RX0 De) (hL : xn Γ = 7) {N : Nat} {rec : xW → Int32 → Int32 → Int32 → Option xW} {K39 : xW → Int32 → Int32 → Int32 → Int32 → Option xW} {w : xW} {x2 : Int32} {x3 : Int32} {x4 : Int32} {x5 : Int32} {s0 : Int32} {r : xW} (hrec : ∀ (w : xW) (x2 : Int32) (x3 : Int32) (x4 : Int32) (r : xW), rec w x2 x3 x4 = some r → xCt (xl Γ) (xad Γ) (xE Γ) D1 yX0_search cX0_search 7 none [.ref (xad Γ 34), .ref (xad Γ 1), .int x2, .int x3, .int x4] w r none) (E : xEnd Γ none r none) (hK39 : ∀ (w : xW) (x2 : Int32) (x3 : Int32) (x4 : Int32) (x5 : Int32), K39 w x2 x3 x4 x5 = some r → xG Γ w 39 [(0, .ref (xad Γ 34)), (1, .ref (xad Γ 1)), (2, .int x2), (3, .int x3), (4, .int x4), (5, .int x5)] []) (h : fX0_search_104 N rec K39 w x2 x3 x4 x5 s0 = some r) : xG Γ w 104 [(0, .ref (xad Γ 34)), (1, .ref (xad Γ 1)), (2, .int x2), (3, .int x3), (4, .int x4), (5, .int x5)] [.int s0] := by
  unfold fX0_search_104 at h
  refine xr_istore C 104 dX0_search_104 (xnb hL rfl) ?_
  refine xr_aload_n C 106 rfl dX0_search_106 ?_
  refine xr_aload_n C 107 rfl dX0_search_107 ?_
  refine xr_iload_n C 108 rfl dX0_search_108 ?_
  refine xr_iconst C 109 1 (by decide +kernel) dX0_search_109 ?_
  refine xr_iadd C 110 dX0_search_110 ?_
  refine xr_iload_n C 111 rfl dX0_search_111 ?_
  refine xr_aload_n C 112 rfl dX0_search_112 ?_
  refine xr_getR C 113 dX0_search_113 fl_X0_35 rfl rfl ?_
  refine xr_iload C 116 rfl dX0_search_116 ?_
  obtain ⟨q5, h⟩ := g_ib h
  refine xr_iald C 118 x5.toNatClampNeg rfl dX0_search_118 rfl (ibd_in q5) ?_
  refine xr_iadd C 119 dX0_search_119 ?_
  refine xr_iload C 120 rfl dX0_search_120 ?_
  refine xr_iload C 122 rfl dX0_search_122 ?_
  refine xr_isub C 124 dX0_search_124 ?_
  obtain ⟨z6, q7, h⟩ := g_bind h
  refine xr_callS C 125 (hrec _ _ _ _ _ q7) v_X0_search ml_X0_56 (by omega) (Nat.le_of_ble_eq_true rfl) rfl rfl (Nat.le_of_ble_eq_true rfl) rfl dX0_search_125 ?_
  refine xr_aload_n C 128 rfl dX0_search_128 ?_
  refine xr_dup C 129 rfl dX0_search_129 ?_
  refine xr_getI C 130 dX0_search_130 fl_X0_41 rfl rfl ?_
  refine xr_iconst C 133 1 (by decide +kernel) dX0_search_133 ?_
  refine xr_iload C 134 rfl dX0_search_134 ?_
  refine xr_ishl C 136 dX0_search_136 ?_
  refine xr_iconst C 137 (-1) (by decide +kernel) dX0_search_137 ?_
  refine xr_ixor C 138 dX0_search_138 ?_
  refine xr_iand C 139 dX0_search_139 ?_
  refine xr_putI C 140 dX0_search_140 fp_X0_41 rfl rfl ?_
  exact xG.sub (bX0_search_143 hDe hD0 C hL hrec E hK39 h) ⟨rfl, rfl, rfl, rfl, rfl, rfl, trivial⟩
set_option maxRecDepth 100000 in
set_option maxHeartbeats 4000000 in
theorem bX0_search_39b {De D1 : Nat} (hDe : D1 + 1 ≤ De) (hD0 : 5 ≤ De) {Γ : xΓ} (C : xOK Γ cX0_search RX0 De) (hL : xn Γ = 7) {N : Nat} {rec : xW → Int32 → Int32 → Int32 → Option xW} {K39 : xW → Int32 → Int32 → Int32 → Int32 → Option xW} {w : xW} {x2 : Int32} {x3 : Int32} {x4 : Int32} {x5 : Int32} {r : xW} (hrec : ∀ (w : xW) (x2 : Int32) (x3 : Int32) (x4 : Int32) (r : xW), rec w x2 x3 x4 = some r → xCt (xl Γ) (xad Γ) (xE Γ) D1 yX0_search cX0_search 7 none [.ref (xad Γ 34), .ref (xad Γ 1), .int x2, .int x3, .int x4] w r none) (E : xEnd Γ none r none) (hK39 : ∀ (w : xW) (x2 : Int32) (x3 : Int32) (x4 : Int32) (x5 : Int32), K39 w x2 x3 x4 x5 = some r → xG Γ w 39 [(0, .ref (xad Γ 34)), (1, .ref (xad Γ 1)), (2, .int x2), (3, .int x3), (4, .int x4), (5, .int x5)] []) (h : fX0_search_39b N rec K39 w x2 x3 x4 x5 = some r) : xG Γ w 39 [(0, .ref (xad Γ 34)), (1, .ref (xad Γ 1)), (2, .int x2), (3, .int x3), (4, .int x4), (5, .int x5)] [] := by
  unfold fX0_search_39b at h
  refine xr_iload C 39 rfl dX0_search_39 ?_
  refine xr_aload_n C 41 rfl dX0_search_41 ?_
  refine xr_getI C 42 dX0_search_42 fl_X0_44 rfl rfl ?_
  refine xr_icmp_ge C 45 149 dX0_search_45 rfl (fun q => ?_) (fun q => ?_)
  · have h := g_it h q
    cases h
    exact xr_vret C 149 E dX0_search_149
  · have h := g_if h q
    refine xr_aload_n C 48 rfl dX0_search_48 ?_
    refine xr_getI C 49 dX0_search_49 fl_X0_41 rfl rfl ?_
    refine xr_iload C 52 rfl dX0_search_52 ?_
    refine xr_ishr C 54 dX0_search_54 ?_
    refine xr_iconst C 55 1 (by decide +kernel) dX0_search_55 ?_
    refine xr_iand C 56 dX0_search_56 ?_
    refine xr_if_ne C 57 143 dX0_search_57 rfl (fun q => ?_) (fun q => ?_)
    · have h := g_if h q
      exact xG.sub (bX0_search_143 hDe hD0 C hL hrec E hK39 h) ⟨rfl, rfl, rfl, rfl, rfl, rfl, trivial⟩
    · have h := g_it h q
      refine xr_aload_n C 60 rfl dX0_search_60 ?_
      refine xr_aload_n C 61 rfl dX0_search_61 ?_
      refine xr_iload C 62 rfl dX0_search_62 ?_
      refine xr_iload_n C 64 rfl dX0_search_64 ?_
      obtain ⟨z1, q2, h⟩ := g_bind h
      refine xr_callV C 65 (mX0_place q2) v_X0_place ml_X0_64 (by omega) (Nat.le_of_ble_eq_true rfl) (xrecv C rfl rfl) rfl rfl (Nat.le_of_ble_eq_true rfl) rfl dX0_search_65 ?_
      refine xr_aload_n C 68 rfl dX0_search_68 ?_
      refine xr_getR C 69 dX0_search_69 fl_X0_32 rfl rfl ?_
      refine xr_iload_n C 72 rfl dX0_search_72 ?_
      refine xr_iload C 73 rfl dX0_search_73 ?_
      obtain ⟨q3, h⟩ := g_ib h
      refine xr_iast C 75 x2.toNatClampNeg rfl dX0_search_75 rfl (ibd_in q3) ?_
      refine xr_aload_n C 76 rfl dX0_search_76 ?_
      refine xr_dup C 77 rfl dX0_search_77 ?_
      refine xr_getI C 78 dX0_search_78 fl_X0_41 rfl rfl ?_
      refine xr_iconst C 81 1 (by decide +kernel) dX0_search_81 ?_
      refine xr_iload C 82 rfl dX0_search_82 ?_
      refine xr_ishl C 84 dX0_search_84 ?_
      refine xr_ior C 85 dX0_search_85 ?_
      refine xr_putI C 86 dX0_search_86 fp_X0_41 rfl rfl ?_
      refine xr_aload_n C 89 rfl dX0_search_89 ?_
      refine xr_getR C 90 dX0_search_90 fl_X0_29 rfl rfl ?_
      refine xr_iload C 93 rfl dX0_search_93 ?_
      obtain ⟨q4, h⟩ := g_ib h
      refine xr_iald C 95 x5.toNatClampNeg rfl dX0_search_95 rfl (ibd_in q4) ?_
      refine xr_aload_n C 96 rfl dX0_search_96 ?_
      refine xr_getR C 97 dX0_search_97 fl_X0_49 rfl rfl ?_
      refine xr_iload C 100 rfl dX0_search_100 ?_
      refine xr_iald C 102 x5.toNatClampNeg rfl dX0_search_102 rfl (ibd_in q4) ?_
      refine xr_isub C 103 dX0_search_103 ?_
      exact xG.sub (bX0_search_104 hDe hD0 C hL hrec E hK39 h) ⟨rfl, rfl, rfl, rfl, rfl, rfl, trivial⟩
set_option maxRecDepth 100000 in
set_option maxHeartbeats 4000000 in
theorem bX0_search_39 {De D1 : Nat} (hDe : D1 + 1 ≤ De) (hD0 : 5 ≤ De) {Γ : xΓ} (C : xOK Γ cX0_search RX0 De) (hL : xn Γ = 7) {N : Nat} {rec : xW → Int32 → Int32 → Int32 → Option xW} {r : xW} (hrec : ∀ (w : xW) (x2 : Int32) (x3 : Int32) (x4 : Int32) (r : xW), rec w x2 x3 x4 = some r → xCt (xl Γ) (xad Γ) (xE Γ) D1 yX0_search cX0_search 7 none [.ref (xad Γ 34), .ref (xad Γ 1), .int x2, .int x3, .int x4] w r none) (E : xEnd Γ none r none) : ∀ (n : Nat) (w : xW) (x2 : Int32) (x3 : Int32) (x4 : Int32) (x5 : Int32), fX0_search_39 N rec n w x2 x3 x4 x5 = some r → xG Γ w 39 [(0, .ref (xad Γ 34)), (1, .ref (xad Γ 1)), (2, .int x2), (3, .int x3), (4, .int x4), (5, .int x5)] []
  | 0, _, _, _, _, _, h => by cases h
  | n + 1, w, x2, x3, x4, x5, h => bX0_search_39b hDe hD0 C hL hrec E (bX0_search_39 hDe hD0 C hL hrec E n) h
set_option maxRecDepth 100000 in
set_option maxHeartbeats 4000000 in
theorem bX0_search_0 {De D1 : Nat} (hDe : D1 + 1 ≤ De) (hD0 : 5 ≤ De) {Γ : xΓ} (C : xOK Γ cX0_search RX0 De) (hL : xn Γ = 7) {N : Nat} {rec : xW → Int32 → Int32 → Int32 → Option xW} {w : xW} {x2 : Int32} {x3 : Int32} {x4 : Int32} {r : xW} (hrec : ∀ (w : xW) (x2 : Int32) (x3 : Int32) (x4 : Int32) (r : xW), rec w x2 x3 x4 = some r → xCt (xl Γ) (xad Γ) (xE Γ) D1 yX0_search cX0_search 7 none [.ref (xad Γ 34), .ref (xad Γ 1), .int x2, .int x3, .int x4] w r none) (E : xEnd Γ none r none) (h : fX0_search_0 N rec w x2 x3 x4 = some r) : xG Γ w 0 [(0, .ref (xad Γ 34)), (1, .ref (xad Γ 1)), (2, .int x2), (3, .int x3), (4, .int x4)] [] := by
  unfold fX0_search_0 at h
  refine xr_iload_n C 0 rfl dX0_search_0 ?_
  refine xr_iload C 1 rfl dX0_search_1 ?_
  refine xr_iadd C 3 dX0_search_3 ?_
  refine xr_aload_n C 4 rfl dX0_search_4 ?_
  refine xr_getI C 5 dX0_search_5 fl_X0_15 rfl rfl ?_
  refine xr_icmp_lt C 8 12 dX0_search_8 rfl (fun q => ?_) (fun q => ?_)
  · have h := g_it h q
    refine xr_iload_n C 12 rfl dX0_search_12 ?_
    refine xr_aload_n C 13 rfl dX0_search_13 ?_
    refine xr_getI C 14 dX0_search_14 fl_X0_44 rfl rfl ?_
    refine xr_icmp_ge C 17 26 dX0_search_17 rfl (fun q => ?_) (fun q => ?_)
    · have h := g_it h q
      exact xG.sub (bX0_search_26 hDe hD0 C hL hrec E h) ⟨rfl, rfl, rfl, trivial⟩
    · have h := g_if h q
      refine xr_iload_n C 20 rfl dX0_search_20 ?_
      refine xr_bipush C 21 6 (by decide +kernel) dX0_search_21 ?_
      refine xr_icmp_lt C 23 36 dX0_search_23 rfl (fun q => ?_) (fun q => ?_)
      · have h := g_it h q
        refine xr_iconst C 36 0 (by decide +kernel) dX0_search_36 ?_
        refine xr_istore C 37 dX0_search_37 (xnb hL rfl) ?_
        exact xG.sub (bX0_search_39 hDe hD0 C hL hrec E N _ _ _ _ _ h) ⟨rfl, rfl, rfl, rfl, rfl, rfl, trivial⟩
      · have h := g_if h q
        exact xG.sub (bX0_search_26 hDe hD0 C hL hrec E h) ⟨rfl, rfl, rfl, trivial⟩
  · have h := g_if h q
    cases h
    exact xr_vret C 11 E dX0_search_11
set_option maxRecDepth 100000 in
set_option maxHeartbeats 4000000 in
theorem mX0_search {l : Launch} {ad : Nat → Nat} {G : gEnv} {N : Nat} : ∀ (n : Nat) (w : xW) (x2 : Int32) (x3 : Int32) (x4 : Int32) (r : xW), fX0_search N n w x2 x3 x4 = some r → xCt l ad G (5 + n) yX0_search cX0_search 7 none [.ref (ad 34), .ref (ad 1), .int x2, .int x3, .int x4] w r none
  | 0, _, _, _, _, _, h => by cases h
  | n + 1, w, x2, x3, x4, r, h => xCt.of RX0 rfl (by decide +kernel) (Nat.le_of_ble_eq_true rfl) (fun Γ el ea eG eL C E => by
    subst el
    subst ea
    subst eG
    exact xG.sub (bX0_search_0 (De := 5 + (n + 1)) (D1 := 5 + n) (Nat.le_refl _) (by omega) C eL (fun w x2 x3 x4 r h => mX0_search n w x2 x3 x4 r h) E h) ⟨rfl, rfl, rfl, rfl, rfl, trivial⟩)
set_option maxRecDepth 100000 in
set_option maxHeartbeats 4000000 in
theorem mX0_search8 {l : Launch} {ad : Nat → Nat} {G : gEnv} {N : Nat} {w : xW} {x2 : Int32} {x3 : Int32} {x4 : Int32} {r : xW} (h : fX0_search N 8 w x2 x3 x4 = some r) : xCt l ad G 13 yX0_search cX0_search 7 none [.ref (ad 34), .ref (ad 1), .int x2, .int x3, .int x4] w r none := mX0_search 8 _ _ _ _ r h
def fX0_find_12b (N : Nat) (K12 : xW → Int32 → Int32 → Option xW) (w : xW) (x2 : Int32) (x3 : Int32) : Option xW :=
  if (w.1 1 6) ≤ x3 then
    (fX0_search N 8 (sI (sI w 34 1 5761) 34 9 0) 0 0 x2).bind fun z1 =>
    some (sI z1 34 0 1)
  else
  if ibd x3 6 = true then
  (fX1_firstBerth N w x3 (w.1 8 x3.toNatClampNeg)).bind fun z4 =>
  K12 (sI z4.1 38 x3.toNatClampNeg z4.2) (x2 + (((sI z4.1 38 x3.toNatClampNeg z4.2).1 38 x3.toNatClampNeg) - ((sI z4.1 38 x3.toNatClampNeg z4.2).1 8 x3.toNatClampNeg))) (x3 + 1)
  else none
def fX0_find_12 (N : Nat) : Nat → xW → Int32 → Int32 → Option xW
  | 0, _, _, _ => none
  | n + 1, w, x2, x3 => fX0_find_12b N (fX0_find_12 N n) w x2 x3
def fX0_find_0 (N : Nat) (w : xW) : Option xW :=
  if (w.1 34 0) = 0 then
    fX0_find_12 N N w 0 0
  else
  some w
def fX0_find (N : Nat) (w : xW) : Option xW := fX0_find_0 N w
set_option maxRecDepth 100000 in
set_option maxHeartbeats 4000000 in
theorem bX0_find_12b {Γ : xΓ} (C : xOK Γ cX0_find RX0 14) (hL : xn Γ = 4) {N : Nat} {K12 : xW → Int32 → Int32 → Option xW} {w : xW} {x2 : Int32} {x3 : Int32} {r : xW} (E : xEnd Γ none r none) (hK12 : ∀ (w : xW) (x2 : Int32) (x3 : Int32), K12 w x2 x3 = some r → xG Γ w 12 [(0, .ref (xad Γ 34)), (1, .ref (xad Γ 1)), (2, .int x2), (3, .int x3)] []) (h : fX0_find_12b N K12 w x2 x3 = some r) : xG Γ w 12 [(0, .ref (xad Γ 34)), (1, .ref (xad Γ 1)), (2, .int x2), (3, .int x3)] [] := by
  unfold fX0_find_12b at h
  refine xr_iload_n C 12 rfl dX0_find_12 ?_
  refine xr_aload_n C 13 rfl dX0_find_13 ?_
  refine xr_getI C 14 dX0_find_14 fl_X0_44 rfl rfl ?_
  refine xr_icmp_ge C 17 59 dX0_find_17 rfl (fun q => ?_) (fun q => ?_)
  · have h := g_it h q
    refine xr_aload_n C 59 rfl dX0_find_59 ?_
    refine xr_sipush C 60 5761 (by decide +kernel) dX0_find_60 ?_
    refine xr_putI C 63 dX0_find_63 fp_X0_15 rfl rfl ?_
    refine xr_aload_n C 66 rfl dX0_find_66 ?_
    refine xr_iconst C 67 0 (by decide +kernel) dX0_find_67 ?_
    refine xr_putI C 68 dX0_find_68 fp_X0_41 rfl rfl ?_
    refine xr_aload_n C 71 rfl dX0_find_71 ?_
    refine xr_aload_n C 72 rfl dX0_find_72 ?_
    refine xr_iconst C 73 0 (by decide +kernel) dX0_find_73 ?_
    refine xr_iconst C 74 0 (by decide +kernel) dX0_find_74 ?_
    refine xr_iload_n C 75 rfl dX0_find_75 ?_
    obtain ⟨z1, q2, h⟩ := g_bind h
    refine xr_callS C 76 (mX0_search8 q2) v_X0_search ml_X0_56 (Nat.le_of_ble_eq_true rfl) (Nat.le_of_ble_eq_true rfl) rfl rfl (Nat.le_of_ble_eq_true rfl) rfl dX0_find_76 ?_
    refine xr_aload_n C 79 rfl dX0_find_79 ?_
    refine xr_iconst C 80 1 (by decide +kernel) dX0_find_80 ?_
    refine xr_putZ C 81 dX0_find_81 fp_X0_9 rfl rfl (by decide +kernel) ?_
    cases h
    exact xr_vret C 84 E dX0_find_84
  · have h := g_if h q
    refine xr_aload_n C 20 rfl dX0_find_20 ?_
    refine xr_getR C 21 dX0_find_21 fl_X0_29 rfl rfl ?_
    refine xr_iload_n C 24 rfl dX0_find_24 ?_
    refine xr_aload_n C 25 rfl dX0_find_25 ?_
    refine xr_iload_n C 26 rfl dX0_find_26 ?_
    refine xr_aload_n C 27 rfl dX0_find_27 ?_
    refine xr_getR C 28 dX0_find_28 fl_X0_49 rfl rfl ?_
    refine xr_iload_n C 31 rfl dX0_find_31 ?_
    obtain ⟨q3, h⟩ := g_ib h
    refine xr_iald C 32 x3.toNatClampNeg rfl dX0_find_32 rfl (ibd_in q3) ?_
    obtain ⟨z4, q5, h⟩ := g_bind h
    refine xr_callV C 33 (mX1_firstBerth q5) v_X1_firstBerth ml_X0_52 (Nat.le_of_ble_eq_true rfl) (Nat.le_of_ble_eq_true rfl) (xrecv C rfl rfl) rfl rfl (Nat.le_of_ble_eq_true rfl) rfl dX0_find_33 ?_
    refine xr_iast C 36 x3.toNatClampNeg rfl dX0_find_36 rfl (ibd_in q3) ?_
    refine xr_iload_n C 37 rfl dX0_find_37 ?_
    refine xr_aload_n C 38 rfl dX0_find_38 ?_
    refine xr_getR C 39 dX0_find_39 fl_X0_29 rfl rfl ?_
    refine xr_iload_n C 42 rfl dX0_find_42 ?_
    refine xr_iald C 43 x3.toNatClampNeg rfl dX0_find_43 rfl (ibd_in q3) ?_
    refine xr_aload_n C 44 rfl dX0_find_44 ?_
    refine xr_getR C 45 dX0_find_45 fl_X0_49 rfl rfl ?_
    refine xr_iload_n C 48 rfl dX0_find_48 ?_
    refine xr_iald C 49 x3.toNatClampNeg rfl dX0_find_49 rfl (ibd_in q3) ?_
    refine xr_isub C 50 dX0_find_50 ?_
    refine xr_iadd C 51 dX0_find_51 ?_
    refine xr_istore_n C 52 dX0_find_52 (xnb hL rfl) ?_
    refine xr_iinc C 53 1 (by decide +kernel) rfl dX0_find_53 (xnb hL rfl) ?_
    refine xr_goto C 56 12 dX0_find_56 rfl ?_
    exact xG.sub (hK12 _ _ _ h) ⟨rfl, rfl, rfl, rfl, trivial⟩
set_option maxRecDepth 100000 in
set_option maxHeartbeats 4000000 in
theorem bX0_find_12 {Γ : xΓ} (C : xOK Γ cX0_find RX0 14) (hL : xn Γ = 4) {N : Nat} {r : xW} (E : xEnd Γ none r none) : ∀ (n : Nat) (w : xW) (x2 : Int32) (x3 : Int32), fX0_find_12 N n w x2 x3 = some r → xG Γ w 12 [(0, .ref (xad Γ 34)), (1, .ref (xad Γ 1)), (2, .int x2), (3, .int x3)] []
  | 0, _, _, _, h => by cases h
  | n + 1, w, x2, x3, h => bX0_find_12b C hL E (bX0_find_12 C hL E n) h
set_option maxRecDepth 100000 in
set_option maxHeartbeats 4000000 in
theorem bX0_find_0 {Γ : xΓ} (C : xOK Γ cX0_find RX0 14) (hL : xn Γ = 4) {N : Nat} {w : xW} {r : xW} (E : xEnd Γ none r none) (h : fX0_find_0 N w = some r) : xG Γ w 0 [(0, .ref (xad Γ 34)), (1, .ref (xad Γ 1))] [] := by
  unfold fX0_find_0 at h
  refine xr_aload_n C 0 rfl dX0_find_0 ?_
  refine xr_getI C 1 dX0_find_1 fl_X0_9 rfl rfl ?_
  refine xr_if_eq C 4 8 dX0_find_4 rfl (fun q => ?_) (fun q => ?_)
  · have h := g_it h q
    refine xr_iconst C 8 0 (by decide +kernel) dX0_find_8 ?_
    refine xr_istore_n C 9 dX0_find_9 (xnb hL rfl) ?_
    refine xr_iconst C 10 0 (by decide +kernel) dX0_find_10 ?_
    refine xr_istore_n C 11 dX0_find_11 (xnb hL rfl) ?_
    exact xG.sub (bX0_find_12 C hL E N _ _ _ h) ⟨rfl, rfl, rfl, rfl, trivial⟩
  · have h := g_if h q
    cases h
    exact xr_vret C 7 E dX0_find_7
set_option maxRecDepth 100000 in
set_option maxHeartbeats 4000000 in
theorem mX0_find {l : Launch} {ad : Nat → Nat} {G : gEnv} {N : Nat} {w : xW} {r : xW} (h : fX0_find N w = some r) : xCt l ad G 14 yX0_find cX0_find 4 none [.ref (ad 34), .ref (ad 1)] w r none := xCt.of RX0 rfl (by decide +kernel) (Nat.le_of_ble_eq_true rfl) (fun Γ el ea eG eL C E => by
    subst el
    subst ea
    subst eG
    unfold fX0_find at h
    exact xG.sub (bX0_find_0 C eL  E h) ⟨rfl, rfl, trivial⟩)
def fX7_order_11 (N : Nat) (w : xW) : Option (xW × Int32) :=
  (fX7_refuse w (-1000000001)).bind fun z6 =>
  some (z6.1, z6.2)
def fX7_order_0 (N : Nat) (w : xW) (x1 : Int32) : Option (xW × Int32) :=
  if x1 < (-1) then
    fX7_order_11 N w
  else
  if x1 < 6 then
    if x1 < (w.1 1 6) then
      (fX0_find N w).bind fun z1 =>
      if x1 = (-1) then
        some (z1, z1.1 34 1)
      else
      if ibd x1 6 = true then
      some (z1, z1.1 35 x1.toNatClampNeg)
      else none
    else
    (fX7_refuse w (-1000000004)).bind fun z4 =>
    some (z4.1, z4.2)
  else
  fX7_order_11 N w
def fX7_order (N : Nat) (w : xW) (x1 : Int32) : Option (xW × Int32) := fX7_order_0 N w x1
set_option maxRecDepth 100000 in
set_option maxHeartbeats 4000000 in
theorem bX7_order_11 {Γ : xΓ} (C : xOK Γ cX7_order RX7 15) (hL : xn Γ = 2) {N : Nat} {w : xW} {r : xW × Int32} (E : xEnd Γ (some .int) r.1 (some (.int r.2))) (h : fX7_order_11 N w = some r) : xG Γ w 11 [(0, .ref (xad Γ 0))] [] := by
  unfold fX7_order_11 at h
  refine xr_aload_n C 11 rfl dX7_order_11 ?_
  refine xr_ldc C 12 k_X7_69 dX7_order_12 ?_
  obtain ⟨z6, q7, h⟩ := g_bind h
  refine xr_callV C 14 (mX7_refuse q7) v_X7_refuse ml_X7_70 (Nat.le_of_ble_eq_true rfl) (Nat.le_of_ble_eq_true rfl) (xrecv C rfl rfl) rfl rfl (Nat.le_of_ble_eq_true rfl) rfl dX7_order_14 ?_
  cases h
  exact xr_iret C 17 E dX7_order_17
set_option maxRecDepth 100000 in
set_option maxHeartbeats 4000000 in
theorem bX7_order_0 {Γ : xΓ} (C : xOK Γ cX7_order RX7 15) (hL : xn Γ = 2) {N : Nat} {w : xW} {x1 : Int32} {r : xW × Int32} (E : xEnd Γ (some .int) r.1 (some (.int r.2))) (h : fX7_order_0 N w x1 = some r) : xG Γ w 0 [(0, .ref (xad Γ 0)), (1, .int x1)] [] := by
  unfold fX7_order_0 at h
  refine xr_iload_n C 0 rfl dX7_order_0 ?_
  refine xr_iconst C 1 (-1) (by decide +kernel) dX7_order_1 ?_
  refine xr_icmp_lt C 2 11 dX7_order_2 rfl (fun q => ?_) (fun q => ?_)
  · have h := g_it h q
    exact xG.sub (bX7_order_11 C hL E h) ⟨rfl, trivial⟩
  · have h := g_if h q
    refine xr_iload_n C 5 rfl dX7_order_5 ?_
    refine xr_bipush C 6 6 (by decide +kernel) dX7_order_6 ?_
    refine xr_icmp_lt C 8 18 dX7_order_8 rfl (fun q => ?_) (fun q => ?_)
    · have h := g_it h q
      refine xr_iload_n C 18 rfl dX7_order_18 ?_
      refine xr_aload_n C 19 rfl dX7_order_19 ?_
      refine xr_getR C 20 dX7_order_20 fl_X7_10 rfl rfl ?_
      refine xr_getI C 23 dX7_order_23 fl_X7_177 rfl rfl ?_
      refine xr_icmp_lt C 26 36 dX7_order_26 rfl (fun q => ?_) (fun q => ?_)
      · have h := g_it h q
        refine xr_aload_n C 36 rfl dX7_order_36 ?_
        refine xr_getR C 37 dX7_order_37 fl_X7_36 rfl rfl ?_
        refine xr_aload_n C 40 rfl dX7_order_40 ?_
        refine xr_getR C 41 dX7_order_41 fl_X7_10 rfl rfl ?_
        obtain ⟨z1, q2, h⟩ := g_bind h
        refine xr_callV C 44 (mX0_find q2) v_X0_find ml_X7_209 (Nat.le_of_ble_eq_true rfl) (Nat.le_of_ble_eq_true rfl) (xrecv C rfl rfl) rfl rfl (Nat.le_of_ble_eq_true rfl) rfl dX7_order_44 ?_
        refine xr_iload_n C 47 rfl dX7_order_47 ?_
        refine xr_iconst C 48 (-1) (by decide +kernel) dX7_order_48 ?_
        refine xr_icmp_ne C 49 62 dX7_order_49 rfl (fun q => ?_) (fun q => ?_)
        · have h := g_if h q
          refine xr_aload_n C 62 rfl dX7_order_62 ?_
          refine xr_getR C 63 dX7_order_63 fl_X7_36 rfl rfl ?_
          refine xr_getR C 66 dX7_order_66 fl_X7_215 rfl rfl ?_
          refine xr_iload_n C 69 rfl dX7_order_69 ?_
          obtain ⟨q3, h⟩ := g_ib h
          refine xr_iald C 70 x1.toNatClampNeg rfl dX7_order_70 rfl (ibd_in q3) ?_
          cases h
          exact xr_iret C 71 E dX7_order_71
        · have h := g_it h q
          refine xr_aload_n C 52 rfl dX7_order_52 ?_
          refine xr_getR C 53 dX7_order_53 fl_X7_36 rfl rfl ?_
          refine xr_getI C 56 dX7_order_56 fl_X7_212 rfl rfl ?_
          refine xr_goto C 59 71 dX7_order_59 rfl ?_
          cases h
          exact xr_iret C 71 E dX7_order_71
      · have h := g_if h q
        refine xr_aload_n C 29 rfl dX7_order_29 ?_
        refine xr_ldc C 30 k_X7_120 dX7_order_30 ?_
        obtain ⟨z4, q5, h⟩ := g_bind h
        refine xr_callV C 32 (mX7_refuse q5) v_X7_refuse ml_X7_70 (Nat.le_of_ble_eq_true rfl) (Nat.le_of_ble_eq_true rfl) (xrecv C rfl rfl) rfl rfl (Nat.le_of_ble_eq_true rfl) rfl dX7_order_32 ?_
        cases h
        exact xr_iret C 35 E dX7_order_35
    · have h := g_if h q
      exact xG.sub (bX7_order_11 C hL E h) ⟨rfl, trivial⟩
set_option maxRecDepth 100000 in
set_option maxHeartbeats 4000000 in
theorem mX7_order {l : Launch} {ad : Nat → Nat} {G : gEnv} {N : Nat} {w : xW} {x1 : Int32} {r : xW × Int32} (h : fX7_order N w x1 = some r) : xCt l ad G 15 yX7_order cX7_order 2 (some .int) [.ref (ad 0), .int x1] w r.1 (some (.int r.2)) := xCt.of RX7 rfl (by decide +kernel) (Nat.le_of_ble_eq_true rfl) (fun Γ el ea eG eL C E => by
    subst el
    subst ea
    subst eG
    unfold fX7_order at h
    exact xG.sub (bX7_order_0 C eL  E h) ⟨rfl, rfl, trivial⟩)
def fX8_isTaken_81 (N : Nat) (w : xW) (K6 : Int32 → Int32 → Int32 → Int32 → Int32 → Int32 → Option Int32) (x1 : Int32) (x2 : Int32) (x3 : Int32) (x4 : Int32) (x6 : Int32) (s0 : Int32) : Option Int32 :=
  K6 x1 x2 x3 x4 s0 (x6 + 1)
def fX8_isTaken_6b (N : Nat) (w : xW) (K6 : Int32 → Int32 → Int32 → Int32 → Int32 → Int32 → Option Int32) (x1 : Int32) (x2 : Int32) (x3 : Int32) (x4 : Int32) (x5 : Int32) (x6 : Int32) : Option Int32 :=
  if x1 ≤ x6 then
    if xB x5 = true then
    some x5
    else none
  else
  if ibd x6 6 = true then
  if x5 = 0 then
    if ibd (w.1 64 x6.toNatClampNeg) 6 = true then
    if (w.1 67 ((w.1 64 x6.toNatClampNeg).toNatClampNeg)) = x3 then
      (fX8_shipIs w x2 2).bind fun z4 =>
      if (x4 + z4) ≤ (w.1 66 ((w.1 64 x6.toNatClampNeg).toNatClampNeg)) then
        fX8_isTaken_81 N w K6 x1 x2 x3 x4 x6 0
      else
      (fX8_shipIs w (w.1 64 x6.toNatClampNeg) 2).bind fun z6 =>
      if ((w.1 66 ((w.1 64 x6.toNatClampNeg).toNatClampNeg)) + z6) ≤ x4 then
        fX8_isTaken_81 N w K6 x1 x2 x3 x4 x6 0
      else
      fX8_isTaken_81 N w K6 x1 x2 x3 x4 x6 1
    else
    fX8_isTaken_81 N w K6 x1 x2 x3 x4 x6 0
    else none
  else
  fX8_isTaken_81 N w K6 x1 x2 x3 x4 x6 1
  else none
def fX8_isTaken_6 (N : Nat) (w : xW) : Nat → Int32 → Int32 → Int32 → Int32 → Int32 → Int32 → Option Int32
  | 0, _, _, _, _, _, _ => none
  | n + 1, x1, x2, x3, x4, x5, x6 => fX8_isTaken_6b N w (fX8_isTaken_6 N w n) x1 x2 x3 x4 x5 x6
def fX8_isTaken_0 (N : Nat) (w : xW) (x1 : Int32) (x2 : Int32) (x3 : Int32) (x4 : Int32) : Option Int32 :=
  fX8_isTaken_6 N w N x1 x2 x3 x4 0 0
def fX8_isTaken (N : Nat) (w : xW) (x1 : Int32) (x2 : Int32) (x3 : Int32) (x4 : Int32) : Option Int32 := fX8_isTaken_0 N w x1 x2 x3 x4
set_option maxRecDepth 100000 in
set_option maxHeartbeats 4000000 in
theorem bX8_isTaken_81 {Γ : xΓ} (C : xOK Γ cX8_isTaken RX8 2) (hL : xn Γ = 8) {N : Nat} {K6 : Int32 → Int32 → Int32 → Int32 → Int32 → Int32 → Option Int32} {w : xW} {x1 : Int32} {x2 : Int32} {x3 : Int32} {x4 : Int32} {x6 : Int32} {s0 : Int32} {r : Int32} (E : xEnd Γ (some .boolean) w (some (.int r))) (hK6 : ∀ (x1 : Int32) (x2 : Int32) (x3 : Int32) (x4 : Int32) (x5 : Int32) (x6 : Int32), K6 x1 x2 x3 x4 x5 x6 = some r → xG Γ w 6 [(0, .ref (xad Γ 55)), (1, .int x1), (2, .int x2), (3, .int x3), (4, .int x4), (5, .int x5), (6, .int x6)] []) (h : fX8_isTaken_81 N w K6 x1 x2 x3 x4 x6 s0 = some r) : xG Γ w 81 [(0, .ref (xad Γ 55)), (1, .int x1), (2, .int x2), (3, .int x3), (4, .int x4), (6, .int x6)] [.int s0] := by
  unfold fX8_isTaken_81 at h
  refine xr_istore C 81 dX8_isTaken_81 (xnb hL rfl) ?_
  refine xr_iinc C 83 1 (by decide +kernel) rfl dX8_isTaken_83 (xnb hL rfl) ?_
  refine xr_goto C 86 6 dX8_isTaken_86 rfl ?_
  exact xG.sub (hK6 _ _ _ _ _ _ h) ⟨rfl, rfl, rfl, rfl, rfl, rfl, rfl, trivial⟩
set_option maxRecDepth 100000 in
set_option maxHeartbeats 4000000 in
theorem bX8_isTaken_6b {Γ : xΓ} (C : xOK Γ cX8_isTaken RX8 2) (hL : xn Γ = 8) {N : Nat} {K6 : Int32 → Int32 → Int32 → Int32 → Int32 → Int32 → Option Int32} {w : xW} {x1 : Int32} {x2 : Int32} {x3 : Int32} {x4 : Int32} {x5 : Int32} {x6 : Int32} {r : Int32} (E : xEnd Γ (some .boolean) w (some (.int r))) (hK6 : ∀ (x1 : Int32) (x2 : Int32) (x3 : Int32) (x4 : Int32) (x5 : Int32) (x6 : Int32), K6 x1 x2 x3 x4 x5 x6 = some r → xG Γ w 6 [(0, .ref (xad Γ 55)), (1, .int x1), (2, .int x2), (3, .int x3), (4, .int x4), (5, .int x5), (6, .int x6)] []) (h : fX8_isTaken_6b N w K6 x1 x2 x3 x4 x5 x6 = some r) : xG Γ w 6 [(0, .ref (xad Γ 55)), (1, .int x1), (2, .int x2), (3, .int x3), (4, .int x4), (5, .int x5), (6, .int x6)] [] := by
  unfold fX8_isTaken_6b at h
  refine xr_iload C 6 rfl dX8_isTaken_6 ?_
  refine xr_iload_n C 8 rfl dX8_isTaken_8 ?_
  refine xr_icmp_ge C 9 89 dX8_isTaken_9 rfl (fun q => ?_) (fun q => ?_)
  · have h := g_it h q
    refine xr_iload C 89 rfl dX8_isTaken_89 ?_
    obtain ⟨q1, h⟩ := g_bchk h
    cases h
    exact xr_zret C 91 E dX8_isTaken_91 q1
  · have h := g_if h q
    refine xr_aload_n C 12 rfl dX8_isTaken_12 ?_
    refine xr_getR C 13 dX8_isTaken_13 fl_X8_34 rfl rfl ?_
    refine xr_iload C 16 rfl dX8_isTaken_16 ?_
    obtain ⟨q2, h⟩ := g_ib h
    refine xr_iald C 18 x6.toNatClampNeg rfl dX8_isTaken_18 rfl (ibd_in q2) ?_
    refine xr_istore C 19 dX8_isTaken_19 (xnb hL rfl) ?_
    refine xr_iload C 21 rfl dX8_isTaken_21 ?_
    refine xr_if_ne C 23 76 dX8_isTaken_23 rfl (fun q => ?_) (fun q => ?_)
    · have h := g_if h q
      refine xr_iconst C 76 1 (by decide +kernel) dX8_isTaken_76 ?_
      refine xr_goto C 77 81 dX8_isTaken_77 rfl ?_
      exact xG.sub (bX8_isTaken_81 C hL E hK6 h) ⟨rfl, rfl, rfl, rfl, rfl, rfl, trivial⟩
    · have h := g_it h q
      refine xr_aload_n C 26 rfl dX8_isTaken_26 ?_
      refine xr_getR C 27 dX8_isTaken_27 fl_X8_43 rfl rfl ?_
      refine xr_iload C 30 rfl dX8_isTaken_30 ?_
      obtain ⟨q3, h⟩ := g_ib h
      refine xr_iald C 32 ((w.1 64 x6.toNatClampNeg).toNatClampNeg) rfl dX8_isTaken_32 rfl (ibd_in q3) ?_
      refine xr_iload_n C 33 rfl dX8_isTaken_33 ?_
      refine xr_icmp_ne C 34 80 dX8_isTaken_34 rfl (fun q => ?_) (fun q => ?_)
      · have h := g_if h q
        refine xr_iconst C 80 0 (by decide +kernel) dX8_isTaken_80 ?_
        exact xG.sub (bX8_isTaken_81 C hL E hK6 h) ⟨rfl, rfl, rfl, rfl, rfl, rfl, trivial⟩
      · have h := g_it h q
        refine xr_aload_n C 37 rfl dX8_isTaken_37 ?_
        refine xr_getR C 38 dX8_isTaken_38 fl_X8_40 rfl rfl ?_
        refine xr_iload C 41 rfl dX8_isTaken_41 ?_
        refine xr_iald C 43 ((w.1 64 x6.toNatClampNeg).toNatClampNeg) rfl dX8_isTaken_43 rfl (ibd_in q3) ?_
        refine xr_iload C 44 rfl dX8_isTaken_44 ?_
        refine xr_aload_n C 46 rfl dX8_isTaken_46 ?_
        refine xr_iload_n C 47 rfl dX8_isTaken_47 ?_
        refine xr_iconst C 48 2 (by decide +kernel) dX8_isTaken_48 ?_
        obtain ⟨z4, q5, h⟩ := g_bind h
        refine xr_callV C 49 (mX8_shipIs q5) v_X8_shipIs ml_X8_192 (Nat.le_of_ble_eq_true rfl) (Nat.le_of_ble_eq_true rfl) (xrecv C rfl rfl) rfl rfl (Nat.le_of_ble_eq_true rfl) rfl dX8_isTaken_49 ?_
        refine xr_iadd C 52 dX8_isTaken_52 ?_
        refine xr_icmp_ge C 53 80 dX8_isTaken_53 rfl (fun q => ?_) (fun q => ?_)
        · have h := g_it h q
          refine xr_iconst C 80 0 (by decide +kernel) dX8_isTaken_80 ?_
          exact xG.sub (bX8_isTaken_81 C hL E hK6 h) ⟨rfl, rfl, rfl, rfl, rfl, rfl, trivial⟩
        · have h := g_if h q
          refine xr_iload C 56 rfl dX8_isTaken_56 ?_
          refine xr_aload_n C 58 rfl dX8_isTaken_58 ?_
          refine xr_getR C 59 dX8_isTaken_59 fl_X8_40 rfl rfl ?_
          refine xr_iload C 62 rfl dX8_isTaken_62 ?_
          refine xr_iald C 64 ((w.1 64 x6.toNatClampNeg).toNatClampNeg) rfl dX8_isTaken_64 rfl (ibd_in q3) ?_
          refine xr_aload_n C 65 rfl dX8_isTaken_65 ?_
          refine xr_iload C 66 rfl dX8_isTaken_66 ?_
          refine xr_iconst C 68 2 (by decide +kernel) dX8_isTaken_68 ?_
          obtain ⟨z6, q7, h⟩ := g_bind h
          refine xr_callV C 69 (mX8_shipIs q7) v_X8_shipIs ml_X8_192 (Nat.le_of_ble_eq_true rfl) (Nat.le_of_ble_eq_true rfl) (xrecv C rfl rfl) rfl rfl (Nat.le_of_ble_eq_true rfl) rfl dX8_isTaken_69 ?_
          refine xr_iadd C 72 dX8_isTaken_72 ?_
          refine xr_icmp_ge C 73 80 dX8_isTaken_73 rfl (fun q => ?_) (fun q => ?_)
          · have h := g_it h q
            refine xr_iconst C 80 0 (by decide +kernel) dX8_isTaken_80 ?_
            exact xG.sub (bX8_isTaken_81 C hL E hK6 h) ⟨rfl, rfl, rfl, rfl, rfl, rfl, trivial⟩
          · have h := g_if h q
            refine xr_iconst C 76 1 (by decide +kernel) dX8_isTaken_76 ?_
            refine xr_goto C 77 81 dX8_isTaken_77 rfl ?_
            exact xG.sub (bX8_isTaken_81 C hL E hK6 h) ⟨rfl, rfl, rfl, rfl, rfl, rfl, trivial⟩
set_option maxRecDepth 100000 in
set_option maxHeartbeats 4000000 in
theorem bX8_isTaken_6 {Γ : xΓ} (C : xOK Γ cX8_isTaken RX8 2) (hL : xn Γ = 8) {N : Nat} {w : xW} {r : Int32} (E : xEnd Γ (some .boolean) w (some (.int r))) : ∀ (n : Nat) (x1 : Int32) (x2 : Int32) (x3 : Int32) (x4 : Int32) (x5 : Int32) (x6 : Int32), fX8_isTaken_6 N w n x1 x2 x3 x4 x5 x6 = some r → xG Γ w 6 [(0, .ref (xad Γ 55)), (1, .int x1), (2, .int x2), (3, .int x3), (4, .int x4), (5, .int x5), (6, .int x6)] []
  | 0, _, _, _, _, _, _, h => by cases h
  | n + 1, x1, x2, x3, x4, x5, x6, h => bX8_isTaken_6b C hL E (bX8_isTaken_6 C hL E n) h
set_option maxRecDepth 100000 in
set_option maxHeartbeats 4000000 in
theorem bX8_isTaken_0 {Γ : xΓ} (C : xOK Γ cX8_isTaken RX8 2) (hL : xn Γ = 8) {N : Nat} {w : xW} {x1 : Int32} {x2 : Int32} {x3 : Int32} {x4 : Int32} {r : Int32} (E : xEnd Γ (some .boolean) w (some (.int r))) (h : fX8_isTaken_0 N w x1 x2 x3 x4 = some r) : xG Γ w 0 [(0, .ref (xad Γ 55)), (1, .int x1), (2, .int x2), (3, .int x3), (4, .int x4)] [] := by
  unfold fX8_isTaken_0 at h
  refine xr_iconst C 0 0 (by decide +kernel) dX8_isTaken_0 ?_
  refine xr_istore C 1 dX8_isTaken_1 (xnb hL rfl) ?_
  refine xr_iconst C 3 0 (by decide +kernel) dX8_isTaken_3 ?_
  refine xr_istore C 4 dX8_isTaken_4 (xnb hL rfl) ?_
  exact xG.sub (bX8_isTaken_6 C hL E N _ _ _ _ _ _ h) ⟨rfl, rfl, rfl, rfl, rfl, rfl, rfl, trivial⟩
set_option maxRecDepth 100000 in
set_option maxHeartbeats 4000000 in
theorem mX8_isTaken {l : Launch} {ad : Nat → Nat} {G : gEnv} {N : Nat} {w : xW} {x1 : Int32} {x2 : Int32} {x3 : Int32} {x4 : Int32} {r : Int32} (h : fX8_isTaken N w x1 x2 x3 x4 = some r) : xCt l ad G 2 yX8_isTaken cX8_isTaken 8 (some .boolean) [.ref (ad 55), .int x1, .int x2, .int x3, .int x4] w w (some (.int r)) := xCt.of RX8 rfl (by decide +kernel) (Nat.le_of_ble_eq_true rfl) (fun Γ el ea eG eL C E => by
    subst el
    subst ea
    subst eG
    unfold fX8_isTaken at h
    exact xG.sub (bX8_isTaken_0 C eL  E h) ⟨rfl, rfl, rfl, rfl, rfl, trivial⟩)
def fX8_goesIn_70 (N : Nat) (K10 : xW → Int32 → Int32 → Int32 → Int32 → Option (xW × Int32)) (w : xW) (x1 : Int32) (x2 : Int32) (x3 : Int32) (x4 : Int32) : Option (xW × Int32) :=
  K10 w x1 x2 x3 (x4 + 1)
def fX8_goesIn_10b (N : Nat) (K10 : xW → Int32 → Int32 → Int32 → Int32 → Option (xW × Int32)) (w : xW) (x1 : Int32) (x2 : Int32) (x3 : Int32) (x4 : Int32) : Option (xW × Int32) :=
  if 960 ≤ x4 then
    if ibd x2 6 = true then
    some (sI (sI w 67 x2.toNatClampNeg (-1)) 66 x2.toNatClampNeg x3, 960)
    else none
  else
  (fX8_quayAt N w x2 (x3 + x4)).bind fun z4 =>
  if z4.2 < 0 then
    fX8_goesIn_70 N K10 z4.1 x1 x2 x3 x4
  else
  (fX8_isTaken N z4.1 x1 x2 z4.2 (x3 + x4)).bind fun z6 =>
  if z6 = 0 then
    if ibd x2 6 = true then
    some (sI (sI z4.1 67 x2.toNatClampNeg z4.2) 66 x2.toNatClampNeg (x3 + x4), x4)
    else none
  else
  fX8_goesIn_70 N K10 z4.1 x1 x2 x3 x4
def fX8_goesIn_10 (N : Nat) : Nat → xW → Int32 → Int32 → Int32 → Int32 → Option (xW × Int32)
  | 0, _, _, _, _, _ => none
  | n + 1, w, x1, x2, x3, x4 => fX8_goesIn_10b N (fX8_goesIn_10 N n) w x1 x2 x3 x4
def fX8_goesIn_0 (N : Nat) (w : xW) (x1 : Int32) (x2 : Int32) : Option (xW × Int32) :=
  (fX8_shipIs w x2 1).bind fun z1 =>
  fX8_goesIn_10 N N w x1 x2 z1 0
def fX8_goesIn (N : Nat) (w : xW) (x1 : Int32) (x2 : Int32) : Option (xW × Int32) := fX8_goesIn_0 N w x1 x2
set_option maxRecDepth 100000 in
set_option maxHeartbeats 4000000 in
theorem bX8_goesIn_70 {Γ : xΓ} (C : xOK Γ cX8_goesIn RX8 8) (hL : xn Γ = 6) {N : Nat} {K10 : xW → Int32 → Int32 → Int32 → Int32 → Option (xW × Int32)} {w : xW} {x1 : Int32} {x2 : Int32} {x3 : Int32} {x4 : Int32} {r : xW × Int32} (E : xEnd Γ (some .int) r.1 (some (.int r.2))) (hK10 : ∀ (w : xW) (x1 : Int32) (x2 : Int32) (x3 : Int32) (x4 : Int32), K10 w x1 x2 x3 x4 = some r → xG Γ w 10 [(0, .ref (xad Γ 55)), (1, .int x1), (2, .int x2), (3, .int x3), (4, .int x4)] []) (h : fX8_goesIn_70 N K10 w x1 x2 x3 x4 = some r) : xG Γ w 70 [(0, .ref (xad Γ 55)), (1, .int x1), (2, .int x2), (3, .int x3), (4, .int x4)] [] := by
  unfold fX8_goesIn_70 at h
  refine xr_iinc C 70 1 (by decide +kernel) rfl dX8_goesIn_70 (xnb hL rfl) ?_
  refine xr_goto C 73 10 dX8_goesIn_73 rfl ?_
  exact xG.sub (hK10 _ _ _ _ _ h) ⟨rfl, rfl, rfl, rfl, rfl, trivial⟩
set_option maxRecDepth 100000 in
set_option maxHeartbeats 4000000 in
theorem bX8_goesIn_10b {Γ : xΓ} (C : xOK Γ cX8_goesIn RX8 8) (hL : xn Γ = 6) {N : Nat} {K10 : xW → Int32 → Int32 → Int32 → Int32 → Option (xW × Int32)} {w : xW} {x1 : Int32} {x2 : Int32} {x3 : Int32} {x4 : Int32} {r : xW × Int32} (E : xEnd Γ (some .int) r.1 (some (.int r.2))) (hK10 : ∀ (w : xW) (x1 : Int32) (x2 : Int32) (x3 : Int32) (x4 : Int32), K10 w x1 x2 x3 x4 = some r → xG Γ w 10 [(0, .ref (xad Γ 55)), (1, .int x1), (2, .int x2), (3, .int x3), (4, .int x4)] []) (h : fX8_goesIn_10b N K10 w x1 x2 x3 x4 = some r) : xG Γ w 10 [(0, .ref (xad Γ 55)), (1, .int x1), (2, .int x2), (3, .int x3), (4, .int x4)] [] := by
  unfold fX8_goesIn_10b at h
  refine xr_iload C 10 rfl dX8_goesIn_10 ?_
  refine xr_sipush C 12 960 (by decide +kernel) dX8_goesIn_12 ?_
  refine xr_icmp_ge C 15 76 dX8_goesIn_15 rfl (fun q => ?_) (fun q => ?_)
  · have h := g_it h q
    refine xr_aload_n C 76 rfl dX8_goesIn_76 ?_
    refine xr_getR C 77 dX8_goesIn_77 fl_X8_43 rfl rfl ?_
    refine xr_iload_n C 80 rfl dX8_goesIn_80 ?_
    refine xr_iconst C 81 (-1) (by decide +kernel) dX8_goesIn_81 ?_
    obtain ⟨q3, h⟩ := g_ib h
    refine xr_iast C 82 x2.toNatClampNeg rfl dX8_goesIn_82 rfl (ibd_in q3) ?_
    refine xr_aload_n C 83 rfl dX8_goesIn_83 ?_
    refine xr_getR C 84 dX8_goesIn_84 fl_X8_40 rfl rfl ?_
    refine xr_iload_n C 87 rfl dX8_goesIn_87 ?_
    refine xr_iload_n C 88 rfl dX8_goesIn_88 ?_
    refine xr_iast C 89 x2.toNatClampNeg rfl dX8_goesIn_89 rfl (ibd_in q3) ?_
    refine xr_sipush C 90 960 (by decide +kernel) dX8_goesIn_90 ?_
    cases h
    exact xr_iret C 93 E dX8_goesIn_93
  · have h := g_if h q
    refine xr_aload_n C 18 rfl dX8_goesIn_18 ?_
    refine xr_iload_n C 19 rfl dX8_goesIn_19 ?_
    refine xr_iload_n C 20 rfl dX8_goesIn_20 ?_
    refine xr_iload C 21 rfl dX8_goesIn_21 ?_
    refine xr_iadd C 23 dX8_goesIn_23 ?_
    obtain ⟨z4, q5, h⟩ := g_bind h
    refine xr_callV C 24 (mX8_quayAt q5) v_X8_quayAt ml_X8_198 (Nat.le_of_ble_eq_true rfl) (Nat.le_of_ble_eq_true rfl) (xrecv C rfl rfl) rfl rfl (Nat.le_of_ble_eq_true rfl) rfl dX8_goesIn_24 ?_
    refine xr_istore C 27 dX8_goesIn_27 (xnb hL rfl) ?_
    refine xr_iload C 29 rfl dX8_goesIn_29 ?_
    refine xr_if_lt C 31 70 dX8_goesIn_31 rfl (fun q => ?_) (fun q => ?_)
    · have h := g_it h q
      exact xG.sub (bX8_goesIn_70 C hL E hK10 h) ⟨rfl, rfl, rfl, rfl, rfl, trivial⟩
    · have h := g_if h q
      refine xr_aload_n C 34 rfl dX8_goesIn_34 ?_
      refine xr_iload_n C 35 rfl dX8_goesIn_35 ?_
      refine xr_iload_n C 36 rfl dX8_goesIn_36 ?_
      refine xr_iload C 37 rfl dX8_goesIn_37 ?_
      refine xr_iload_n C 39 rfl dX8_goesIn_39 ?_
      refine xr_iload C 40 rfl dX8_goesIn_40 ?_
      refine xr_iadd C 42 dX8_goesIn_42 ?_
      obtain ⟨z6, q7, h⟩ := g_bind h
      refine xr_callV C 43 (mX8_isTaken q7) v_X8_isTaken ml_X8_201 (Nat.le_of_ble_eq_true rfl) (Nat.le_of_ble_eq_true rfl) (xrecv C rfl rfl) rfl rfl (Nat.le_of_ble_eq_true rfl) rfl dX8_goesIn_43 ?_
      refine xr_if_ne C 46 70 dX8_goesIn_46 rfl (fun q => ?_) (fun q => ?_)
      · have h := g_if h q
        exact xG.sub (bX8_goesIn_70 C hL E hK10 h) ⟨rfl, rfl, rfl, rfl, rfl, trivial⟩
      · have h := g_it h q
        refine xr_aload_n C 49 rfl dX8_goesIn_49 ?_
        refine xr_getR C 50 dX8_goesIn_50 fl_X8_43 rfl rfl ?_
        refine xr_iload_n C 53 rfl dX8_goesIn_53 ?_
        refine xr_iload C 54 rfl dX8_goesIn_54 ?_
        obtain ⟨q8, h⟩ := g_ib h
        refine xr_iast C 56 x2.toNatClampNeg rfl dX8_goesIn_56 rfl (ibd_in q8) ?_
        refine xr_aload_n C 57 rfl dX8_goesIn_57 ?_
        refine xr_getR C 58 dX8_goesIn_58 fl_X8_40 rfl rfl ?_
        refine xr_iload_n C 61 rfl dX8_goesIn_61 ?_
        refine xr_iload_n C 62 rfl dX8_goesIn_62 ?_
        refine xr_iload C 63 rfl dX8_goesIn_63 ?_
        refine xr_iadd C 65 dX8_goesIn_65 ?_
        refine xr_iast C 66 x2.toNatClampNeg rfl dX8_goesIn_66 rfl (ibd_in q8) ?_
        refine xr_iload C 67 rfl dX8_goesIn_67 ?_
        cases h
        exact xr_iret C 69 E dX8_goesIn_69
set_option maxRecDepth 100000 in
set_option maxHeartbeats 4000000 in
theorem bX8_goesIn_10 {Γ : xΓ} (C : xOK Γ cX8_goesIn RX8 8) (hL : xn Γ = 6) {N : Nat} {r : xW × Int32} (E : xEnd Γ (some .int) r.1 (some (.int r.2))) : ∀ (n : Nat) (w : xW) (x1 : Int32) (x2 : Int32) (x3 : Int32) (x4 : Int32), fX8_goesIn_10 N n w x1 x2 x3 x4 = some r → xG Γ w 10 [(0, .ref (xad Γ 55)), (1, .int x1), (2, .int x2), (3, .int x3), (4, .int x4)] []
  | 0, _, _, _, _, _, h => by cases h
  | n + 1, w, x1, x2, x3, x4, h => bX8_goesIn_10b C hL E (bX8_goesIn_10 C hL E n) h
set_option maxRecDepth 100000 in
set_option maxHeartbeats 4000000 in
theorem bX8_goesIn_0 {Γ : xΓ} (C : xOK Γ cX8_goesIn RX8 8) (hL : xn Γ = 6) {N : Nat} {w : xW} {x1 : Int32} {x2 : Int32} {r : xW × Int32} (E : xEnd Γ (some .int) r.1 (some (.int r.2))) (h : fX8_goesIn_0 N w x1 x2 = some r) : xG Γ w 0 [(0, .ref (xad Γ 55)), (1, .int x1), (2, .int x2)] [] := by
  unfold fX8_goesIn_0 at h
  refine xr_aload_n C 0 rfl dX8_goesIn_0 ?_
  refine xr_iload_n C 1 rfl dX8_goesIn_1 ?_
  refine xr_iconst C 2 1 (by decide +kernel) dX8_goesIn_2 ?_
  obtain ⟨z1, q2, h⟩ := g_bind h
  refine xr_callV C 3 (mX8_shipIs q2) v_X8_shipIs ml_X8_192 (Nat.le_of_ble_eq_true rfl) (Nat.le_of_ble_eq_true rfl) (xrecv C rfl rfl) rfl rfl (Nat.le_of_ble_eq_true rfl) rfl dX8_goesIn_3 ?_
  refine xr_istore_n C 6 dX8_goesIn_6 (xnb hL rfl) ?_
  refine xr_iconst C 7 0 (by decide +kernel) dX8_goesIn_7 ?_
  refine xr_istore C 8 dX8_goesIn_8 (xnb hL rfl) ?_
  exact xG.sub (bX8_goesIn_10 C hL E N _ _ _ _ _ h) ⟨rfl, rfl, rfl, rfl, rfl, trivial⟩
set_option maxRecDepth 100000 in
set_option maxHeartbeats 4000000 in
theorem mX8_goesIn {l : Launch} {ad : Nat → Nat} {G : gEnv} {N : Nat} {w : xW} {x1 : Int32} {x2 : Int32} {r : xW × Int32} (h : fX8_goesIn N w x1 x2 = some r) : xCt l ad G 8 yX8_goesIn cX8_goesIn 6 (some .int) [.ref (ad 55), .int x1, .int x2] w r.1 (some (.int r.2)) := xCt.of RX8 rfl (by decide +kernel) (Nat.le_of_ble_eq_true rfl) (fun Γ el ea eG eL C E => by
    subst el
    subst ea
    subst eG
    unfold fX8_goesIn at h
    exact xG.sub (bX8_goesIn_0 C eL  E h) ⟨rfl, rfl, rfl, trivial⟩)
def fX8_tries_176 (N : Nat) (rec : xW → Int32 → Int32 → Int32 → Option xW) (K121 : xW → Int32 → Int32 → Int32 → Int32 → Option xW) (w : xW) (x1 : Int32) (x2 : Int32) (x3 : Int32) (x4 : Int32) : Option xW :=
  K121 w x1 x2 x3 (x4 + 1)
def fX8_tries_121b (N : Nat) (rec : xW → Int32 → Int32 → Int32 → Option xW) (K121 : xW → Int32 → Int32 → Int32 → Int32 → Option xW) (w : xW) (x1 : Int32) (x2 : Int32) (x3 : Int32) (x4 : Int32) : Option xW :=
  if (w.1 56 10) ≤ x4 then
    some w
  else
  if (fX8_has x2 x4) = 0 then
    if ibd x1 6 = true then
    (fX8_goesIn N (sI w 64 x1.toNatClampNeg x4) x1 x4).bind fun z8 =>
    (rec z8.1 (x1 + 1) (x2 ||| (1 <<< (x4 &&& 31))) (x3 + z8.2)).bind fun z10 =>
    fX8_tries_176 N rec K121 z10 x1 x2 x3 x4
    else none
  else
  fX8_tries_176 N rec K121 w x1 x2 x3 x4
def fX8_tries_121 (N : Nat) (rec : xW → Int32 → Int32 → Int32 → Option xW) : Nat → xW → Int32 → Int32 → Int32 → Int32 → Option xW
  | 0, _, _, _, _, _ => none
  | n + 1, w, x1, x2, x3, x4 => fX8_tries_121b N rec (fX8_tries_121 N rec n) w x1 x2 x3 x4
def fX8_tries_110 (N : Nat) (rec : xW → Int32 → Int32 → Int32 → Option xW) (K35 : xW → Int32 → Int32 → Option xW) (w : xW) (x1 : Int32) (x4 : Int32) (s0 : Int32) (s1 : Int32) : Option xW :=
  if ibd s1 6 = true then
  K35 (sI w 68 s1.toNatClampNeg s0) x1 (x4 + 1)
  else none
def fX8_tries_86 (N : Nat) (rec : xW → Int32 → Int32 → Int32 → Option xW) (K35 : xW → Int32 → Int32 → Option xW) (w : xW) (x1 : Int32) (x4 : Int32) (x5 : Int32) (s0 : Int32) (s1 : Int32) : Option xW :=
  if 0 ≤ s0 then
    if ibd x5 6 = true then
    (fX8_shipIs w x5 1).bind fun z4 =>
    fX8_tries_110 N rec K35 w x1 x4 ((w.1 66 x5.toNatClampNeg) - z4) s1
    else none
  else
  fX8_tries_110 N rec K35 w x1 x4 960 s1
def fX8_tries_35b (N : Nat) (rec : xW → Int32 → Int32 → Int32 → Option xW) (K35 : xW → Int32 → Int32 → Option xW) (w : xW) (x1 : Int32) (x4 : Int32) : Option xW :=
  if x1 ≤ x4 then
    some w
  else
  if ibd x4 6 = true then
  if ibd (w.1 64 x4.toNatClampNeg) 6 = true then
  fX8_tries_86 N rec K35 (sI (sI w 65 x4.toNatClampNeg (w.1 64 x4.toNatClampNeg)) 69 ((w.1 64 x4.toNatClampNeg).toNatClampNeg) ((sI w 65 x4.toNatClampNeg (w.1 64 x4.toNatClampNeg)).1 67 ((w.1 64 x4.toNatClampNeg).toNatClampNeg))) x1 x4 (w.1 64 x4.toNatClampNeg) ((sI (sI w 65 x4.toNatClampNeg (w.1 64 x4.toNatClampNeg)) 69 ((w.1 64 x4.toNatClampNeg).toNatClampNeg) ((sI w 65 x4.toNatClampNeg (w.1 64 x4.toNatClampNeg)).1 67 ((w.1 64 x4.toNatClampNeg).toNatClampNeg))).1 67 ((w.1 64 x4.toNatClampNeg).toNatClampNeg)) (w.1 64 x4.toNatClampNeg)
  else none
  else none
def fX8_tries_35 (N : Nat) (rec : xW → Int32 → Int32 → Int32 → Option xW) : Nat → xW → Int32 → Int32 → Option xW
  | 0, _, _, _ => none
  | n + 1, w, x1, x4 => fX8_tries_35b N rec (fX8_tries_35 N rec n) w x1 x4
def fX8_tries_16 (N : Nat) (rec : xW → Int32 → Int32 → Int32 → Option xW) (w : xW) (x1 : Int32) (x2 : Int32) (x3 : Int32) : Option xW :=
  if x1 = (w.1 56 10) then
    fX8_tries_35 N rec N (sI w 55 16 x3) x1 0
  else
  fX8_tries_121 N rec N w x1 x2 x3 0
def fX8_tries_0 (N : Nat) (rec : xW → Int32 → Int32 → Int32 → Option xW) (w : xW) (x1 : Int32) (x2 : Int32) (x3 : Int32) : Option xW :=
  if (w.1 55 16) < 0 then
    fX8_tries_16 N rec w x1 x2 x3
  else
  if x3 < (w.1 55 16) then
    fX8_tries_16 N rec w x1 x2 x3
  else
  some w
def fX8_tries (N : Nat) : Nat → xW → Int32 → Int32 → Int32 → Option xW
  | 0, _, _, _, _ => none
  | n + 1, w, x1, x2, x3 => fX8_tries_0 N (fX8_tries N n) w x1 x2 x3
set_option maxRecDepth 100000 in
set_option maxHeartbeats 4000000 in
theorem bX8_tries_176 {De D1 : Nat} (hDe : D1 + 1 ≤ De) (hD0 : 9 ≤ De) {Γ : xΓ} (C : xOK Γ cX8_tries RX8 De) (hL : xn Γ = 6) {N : Nat} {rec : xW → Int32 → Int32 → Int32 → Option xW} {K121 : xW → Int32 → Int32 → Int32 → Int32 → Option xW} {w : xW} {x1 : Int32} {x2 : Int32} {x3 : Int32} {x4 : Int32} {r : xW} (hrec : ∀ (w : xW) (x1 : Int32) (x2 : Int32) (x3 : Int32) (r : xW), rec w x1 x2 x3 = some r → xCt (xl Γ) (xad Γ) (xE Γ) D1 yX8_tries cX8_tries 6 none [.ref (xad Γ 55), .int x1, .int x2, .int x3] w r none) (E : xEnd Γ none r none) (hK121 : ∀ (w : xW) (x1 : Int32) (x2 : Int32) (x3 : Int32) (x4 : Int32), K121 w x1 x2 x3 x4 = some r → xG Γ w 121 [(0, .ref (xad Γ 55)), (1, .int x1), (2, .int x2), (3, .int x3), (4, .int x4)] []) (h : fX8_tries_176 N rec K121 w x1 x2 x3 x4 = some r) : xG Γ w 176 [(0, .ref (xad Γ 55)), (1, .int x1), (2, .int x2), (3, .int x3), (4, .int x4)] [] := by
  unfold fX8_tries_176 at h
  refine xr_iinc C 176 1 (by decide +kernel) rfl dX8_tries_176 (xnb hL rfl) ?_
  refine xr_goto C 179 121 dX8_tries_179 rfl ?_
  exact xG.sub (hK121 _ _ _ _ _ h) ⟨rfl, rfl, rfl, rfl, rfl, trivial⟩
set_option maxRecDepth 100000 in
set_option maxHeartbeats 4000000 in
theorem bX8_tries_121b {De D1 : Nat} (hDe : D1 + 1 ≤ De) (hD0 : 9 ≤ De) {Γ : xΓ} (C : xOK Γ cX8_tries RX8 De) (hL : xn Γ = 6) {N : Nat} {rec : xW → Int32 → Int32 → Int32 → Option xW} {K121 : xW → Int32 → Int32 → Int32 → Int32 → Option xW} {w : xW} {x1 : Int32} {x2 : Int32} {x3 : Int32} {x4 : Int32} {r : xW} (hrec : ∀ (w : xW) (x1 : Int32) (x2 : Int32) (x3 : Int32) (r : xW), rec w x1 x2 x3 = some r → xCt (xl Γ) (xad Γ) (xE Γ) D1 yX8_tries cX8_tries 6 none [.ref (xad Γ 55), .int x1, .int x2, .int x3] w r none) (E : xEnd Γ none r none) (hK121 : ∀ (w : xW) (x1 : Int32) (x2 : Int32) (x3 : Int32) (x4 : Int32), K121 w x1 x2 x3 x4 = some r → xG Γ w 121 [(0, .ref (xad Γ 55)), (1, .int x1), (2, .int x2), (3, .int x3), (4, .int x4)] []) (h : fX8_tries_121b N rec K121 w x1 x2 x3 x4 = some r) : xG Γ w 121 [(0, .ref (xad Γ 55)), (1, .int x1), (2, .int x2), (3, .int x3), (4, .int x4)] [] := by
  unfold fX8_tries_121b at h
  refine xr_iload C 121 rfl dX8_tries_121 ?_
  refine xr_aload_n C 123 rfl dX8_tries_123 ?_
  refine xr_getR C 124 dX8_tries_124 fl_X8_9 rfl rfl ?_
  refine xr_bipush C 127 10 (by decide +kernel) dX8_tries_127 ?_
  refine xr_iald C 129 10 (by decide +kernel) dX8_tries_129 rfl (ibd_in (by decide +kernel)) ?_
  refine xr_icmp_ge C 130 182 dX8_tries_130 rfl (fun q => ?_) (fun q => ?_)
  · have h := g_it h q
    cases h
    exact xr_vret C 182 E dX8_tries_182
  · have h := g_if h q
    refine xr_iload_n C 133 rfl dX8_tries_133 ?_
    refine xr_iload C 134 rfl dX8_tries_134 ?_
    refine xr_callS C 136 (mX8_has rfl) v_X8_has ml_X8_99 (by omega) (Nat.le_of_ble_eq_true rfl) rfl rfl (Nat.le_of_ble_eq_true rfl) rfl dX8_tries_136 ?_
    refine xr_if_ne C 139 176 dX8_tries_139 rfl (fun q => ?_) (fun q => ?_)
    · have h := g_if h q
      exact xG.sub (bX8_tries_176 hDe hD0 C hL hrec E hK121 h) ⟨rfl, rfl, rfl, rfl, rfl, trivial⟩
    · have h := g_it h q
      refine xr_aload_n C 142 rfl dX8_tries_142 ?_
      refine xr_getR C 143 dX8_tries_143 fl_X8_34 rfl rfl ?_
      refine xr_iload_n C 146 rfl dX8_tries_146 ?_
      refine xr_iload C 147 rfl dX8_tries_147 ?_
      obtain ⟨q7, h⟩ := g_ib h
      refine xr_iast C 149 x1.toNatClampNeg rfl dX8_tries_149 rfl (ibd_in q7) ?_
      refine xr_aload_n C 150 rfl dX8_tries_150 ?_
      refine xr_iload_n C 151 rfl dX8_tries_151 ?_
      refine xr_iload C 152 rfl dX8_tries_152 ?_
      obtain ⟨z8, q9, h⟩ := g_bind h
      refine xr_callV C 154 (mX8_goesIn q9) v_X8_goesIn ml_X8_209 (by omega) (Nat.le_of_ble_eq_true rfl) (xrecv C rfl rfl) rfl rfl (Nat.le_of_ble_eq_true rfl) rfl dX8_tries_154 ?_
      refine xr_istore C 157 dX8_tries_157 (xnb hL rfl) ?_
      refine xr_aload_n C 159 rfl dX8_tries_159 ?_
      refine xr_iload_n C 160 rfl dX8_tries_160 ?_
      refine xr_iconst C 161 1 (by decide +kernel) dX8_tries_161 ?_
      refine xr_iadd C 162 dX8_tries_162 ?_
      refine xr_iload_n C 163 rfl dX8_tries_163 ?_
      refine xr_iconst C 164 1 (by decide +kernel) dX8_tries_164 ?_
      refine xr_iload C 165 rfl dX8_tries_165 ?_
      refine xr_ishl C 167 dX8_tries_167 ?_
      refine xr_ior C 168 dX8_tries_168 ?_
      refine xr_iload_n C 169 rfl dX8_tries_169 ?_
      refine xr_iload C 170 rfl dX8_tries_170 ?_
      refine xr_iadd C 172 dX8_tries_172 ?_
      obtain ⟨z10, q11, h⟩ := g_bind h
      refine xr_callV C 173 (hrec _ _ _ _ _ q11) v_X8_tries ml_X8_212 (by omega) (Nat.le_of_ble_eq_true rfl) (xrecv C rfl rfl) rfl rfl (Nat.le_of_ble_eq_true rfl) rfl dX8_tries_173 ?_
      exact xG.sub (bX8_tries_176 hDe hD0 C hL hrec E hK121 h) ⟨rfl, rfl, rfl, rfl, rfl, trivial⟩
set_option maxRecDepth 100000 in
set_option maxHeartbeats 4000000 in
theorem bX8_tries_121 {De D1 : Nat} (hDe : D1 + 1 ≤ De) (hD0 : 9 ≤ De) {Γ : xΓ} (C : xOK Γ cX8_tries RX8 De) (hL : xn Γ = 6) {N : Nat} {rec : xW → Int32 → Int32 → Int32 → Option xW} {r : xW} (hrec : ∀ (w : xW) (x1 : Int32) (x2 : Int32) (x3 : Int32) (r : xW), rec w x1 x2 x3 = some r → xCt (xl Γ) (xad Γ) (xE Γ) D1 yX8_tries cX8_tries 6 none [.ref (xad Γ 55), .int x1, .int x2, .int x3] w r none) (E : xEnd Γ none r none) : ∀ (n : Nat) (w : xW) (x1 : Int32) (x2 : Int32) (x3 : Int32) (x4 : Int32), fX8_tries_121 N rec n w x1 x2 x3 x4 = some r → xG Γ w 121 [(0, .ref (xad Γ 55)), (1, .int x1), (2, .int x2), (3, .int x3), (4, .int x4)] []
  | 0, _, _, _, _, _, h => by cases h
  | n + 1, w, x1, x2, x3, x4, h => bX8_tries_121b hDe hD0 C hL hrec E (bX8_tries_121 hDe hD0 C hL hrec E n) h
set_option maxRecDepth 100000 in
set_option maxHeartbeats 4000000 in
theorem bX8_tries_110 {De D1 : Nat} (hDe : D1 + 1 ≤ De) (hD0 : 9 ≤ De) {Γ : xΓ} (C : xOK Γ cX8_tries RX8 De) (hL : xn Γ = 6) {N : Nat} {rec : xW → Int32 → Int32 → Int32 → Option xW} {K35 : xW → Int32 → Int32 → Option xW} {w : xW} {x1 : Int32} {x4 : Int32} {s0 : Int32} {s1 : Int32} {r : xW} (hrec : ∀ (w : xW) (x1 : Int32) (x2 : Int32) (x3 : Int32) (r : xW), rec w x1 x2 x3 = some r → xCt (xl Γ) (xad Γ) (xE Γ) D1 yX8_tries cX8_tries 6 none [.ref (xad Γ 55), .int x1, .int x2, .int x3] w r none) (E : xEnd Γ none r none) (hK35 : ∀ (w : xW) (x1 : Int32) (x4 : Int32), K35 w x1 x4 = some r → xG Γ w 35 [(0, .ref (xad Γ 55)), (1, .int x1), (4, .int x4)] []) (h : fX8_tries_110 N rec K35 w x1 x4 s0 s1 = some r) : xG Γ w 110 [(0, .ref (xad Γ 55)), (1, .int x1), (4, .int x4)] [.int s0, .int s1, .ref (xad Γ 68)] := by
  unfold fX8_tries_110 at h
  obtain ⟨q6, h⟩ := g_ib h
  refine xr_iast C 110 s1.toNatClampNeg rfl dX8_tries_110 rfl (ibd_in q6) ?_
  refine xr_iinc C 111 1 (by decide +kernel) rfl dX8_tries_111 (xnb hL rfl) ?_
  refine xr_goto C 114 35 dX8_tries_114 rfl ?_
  exact xG.sub (hK35 _ _ _ h) ⟨rfl, rfl, rfl, trivial⟩
set_option maxRecDepth 100000 in
set_option maxHeartbeats 4000000 in
theorem bX8_tries_86 {De D1 : Nat} (hDe : D1 + 1 ≤ De) (hD0 : 9 ≤ De) {Γ : xΓ} (C : xOK Γ cX8_tries RX8 De) (hL : xn Γ = 6) {N : Nat} {rec : xW → Int32 → Int32 → Int32 → Option xW} {K35 : xW → Int32 → Int32 → Option xW} {w : xW} {x1 : Int32} {x4 : Int32} {x5 : Int32} {s0 : Int32} {s1 : Int32} {r : xW} (hrec : ∀ (w : xW) (x1 : Int32) (x2 : Int32) (x3 : Int32) (r : xW), rec w x1 x2 x3 = some r → xCt (xl Γ) (xad Γ) (xE Γ) D1 yX8_tries cX8_tries 6 none [.ref (xad Γ 55), .int x1, .int x2, .int x3] w r none) (E : xEnd Γ none r none) (hK35 : ∀ (w : xW) (x1 : Int32) (x4 : Int32), K35 w x1 x4 = some r → xG Γ w 35 [(0, .ref (xad Γ 55)), (1, .int x1), (4, .int x4)] []) (h : fX8_tries_86 N rec K35 w x1 x4 x5 s0 s1 = some r) : xG Γ w 86 [(0, .ref (xad Γ 55)), (1, .int x1), (4, .int x4), (5, .int x5)] [.int s0, .int s1, .ref (xad Γ 68)] := by
  unfold fX8_tries_86 at h
  refine xr_if_ge C 86 95 dX8_tries_86 rfl (fun q => ?_) (fun q => ?_)
  · have h := g_it h q
    refine xr_aload_n C 95 rfl dX8_tries_95 ?_
    refine xr_getR C 96 dX8_tries_96 fl_X8_40 rfl rfl ?_
    refine xr_iload C 99 rfl dX8_tries_99 ?_
    obtain ⟨q3, h⟩ := g_ib h
    refine xr_iald C 101 x5.toNatClampNeg rfl dX8_tries_101 rfl (ibd_in q3) ?_
    refine xr_aload_n C 102 rfl dX8_tries_102 ?_
    refine xr_iload C 103 rfl dX8_tries_103 ?_
    refine xr_iconst C 105 1 (by decide +kernel) dX8_tries_105 ?_
    obtain ⟨z4, q5, h⟩ := g_bind h
    refine xr_callV C 106 (mX8_shipIs q5) v_X8_shipIs ml_X8_192 (by omega) (Nat.le_of_ble_eq_true rfl) (xrecv C rfl rfl) rfl rfl (Nat.le_of_ble_eq_true rfl) rfl dX8_tries_106 ?_
    refine xr_isub C 109 dX8_tries_109 ?_
    exact xG.sub (bX8_tries_110 hDe hD0 C hL hrec E hK35 h) ⟨rfl, rfl, rfl, trivial⟩
  · have h := g_if h q
    refine xr_sipush C 89 960 (by decide +kernel) dX8_tries_89 ?_
    refine xr_goto C 92 110 dX8_tries_92 rfl ?_
    exact xG.sub (bX8_tries_110 hDe hD0 C hL hrec E hK35 h) ⟨rfl, rfl, rfl, trivial⟩
set_option maxRecDepth 100000 in
set_option maxHeartbeats 4000000 in
theorem bX8_tries_35b {De D1 : Nat} (hDe : D1 + 1 ≤ De) (hD0 : 9 ≤ De) {Γ : xΓ} (C : xOK Γ cX8_tries RX8 De) (hL : xn Γ = 6) {N : Nat} {rec : xW → Int32 → Int32 → Int32 → Option xW} {K35 : xW → Int32 → Int32 → Option xW} {w : xW} {x1 : Int32} {x4 : Int32} {r : xW} (hrec : ∀ (w : xW) (x1 : Int32) (x2 : Int32) (x3 : Int32) (r : xW), rec w x1 x2 x3 = some r → xCt (xl Γ) (xad Γ) (xE Γ) D1 yX8_tries cX8_tries 6 none [.ref (xad Γ 55), .int x1, .int x2, .int x3] w r none) (E : xEnd Γ none r none) (hK35 : ∀ (w : xW) (x1 : Int32) (x4 : Int32), K35 w x1 x4 = some r → xG Γ w 35 [(0, .ref (xad Γ 55)), (1, .int x1), (4, .int x4)] []) (h : fX8_tries_35b N rec K35 w x1 x4 = some r) : xG Γ w 35 [(0, .ref (xad Γ 55)), (1, .int x1), (4, .int x4)] [] := by
  unfold fX8_tries_35b at h
  refine xr_iload C 35 rfl dX8_tries_35 ?_
  refine xr_iload_n C 37 rfl dX8_tries_37 ?_
  refine xr_icmp_ge C 38 117 dX8_tries_38 rfl (fun q => ?_) (fun q => ?_)
  · have h := g_it h q
    cases h
    exact xr_vret C 117 E dX8_tries_117
  · have h := g_if h q
    refine xr_aload_n C 41 rfl dX8_tries_41 ?_
    refine xr_getR C 42 dX8_tries_42 fl_X8_34 rfl rfl ?_
    refine xr_iload C 45 rfl dX8_tries_45 ?_
    obtain ⟨q1, h⟩ := g_ib h
    refine xr_iald C 47 x4.toNatClampNeg rfl dX8_tries_47 rfl (ibd_in q1) ?_
    refine xr_istore C 48 dX8_tries_48 (xnb hL rfl) ?_
    refine xr_aload_n C 50 rfl dX8_tries_50 ?_
    refine xr_getR C 51 dX8_tries_51 fl_X8_37 rfl rfl ?_
    refine xr_iload C 54 rfl dX8_tries_54 ?_
    refine xr_iload C 56 rfl dX8_tries_56 ?_
    refine xr_iast C 58 x4.toNatClampNeg rfl dX8_tries_58 rfl (ibd_in q1) ?_
    refine xr_aload_n C 59 rfl dX8_tries_59 ?_
    refine xr_getR C 60 dX8_tries_60 fl_X8_49 rfl rfl ?_
    refine xr_iload C 63 rfl dX8_tries_63 ?_
    refine xr_aload_n C 65 rfl dX8_tries_65 ?_
    refine xr_getR C 66 dX8_tries_66 fl_X8_43 rfl rfl ?_
    refine xr_iload C 69 rfl dX8_tries_69 ?_
    obtain ⟨q2, h⟩ := g_ib h
    refine xr_iald C 71 ((w.1 64 x4.toNatClampNeg).toNatClampNeg) rfl dX8_tries_71 rfl (ibd_in q2) ?_
    refine xr_iast C 72 ((w.1 64 x4.toNatClampNeg).toNatClampNeg) rfl dX8_tries_72 rfl (ibd_in q2) ?_
    refine xr_aload_n C 73 rfl dX8_tries_73 ?_
    refine xr_getR C 74 dX8_tries_74 fl_X8_46 rfl rfl ?_
    refine xr_iload C 77 rfl dX8_tries_77 ?_
    refine xr_aload_n C 79 rfl dX8_tries_79 ?_
    refine xr_getR C 80 dX8_tries_80 fl_X8_43 rfl rfl ?_
    refine xr_iload C 83 rfl dX8_tries_83 ?_
    refine xr_iald C 85 ((w.1 64 x4.toNatClampNeg).toNatClampNeg) rfl dX8_tries_85 rfl (ibd_in q2) ?_
    exact xG.sub (bX8_tries_86 hDe hD0 C hL hrec E hK35 h) ⟨rfl, rfl, rfl, rfl, trivial⟩
set_option maxRecDepth 100000 in
set_option maxHeartbeats 4000000 in
theorem bX8_tries_35 {De D1 : Nat} (hDe : D1 + 1 ≤ De) (hD0 : 9 ≤ De) {Γ : xΓ} (C : xOK Γ cX8_tries RX8 De) (hL : xn Γ = 6) {N : Nat} {rec : xW → Int32 → Int32 → Int32 → Option xW} {r : xW} (hrec : ∀ (w : xW) (x1 : Int32) (x2 : Int32) (x3 : Int32) (r : xW), rec w x1 x2 x3 = some r → xCt (xl Γ) (xad Γ) (xE Γ) D1 yX8_tries cX8_tries 6 none [.ref (xad Γ 55), .int x1, .int x2, .int x3] w r none) (E : xEnd Γ none r none) : ∀ (n : Nat) (w : xW) (x1 : Int32) (x4 : Int32), fX8_tries_35 N rec n w x1 x4 = some r → xG Γ w 35 [(0, .ref (xad Γ 55)), (1, .int x1), (4, .int x4)] []
  | 0, _, _, _, h => by cases h
  | n + 1, w, x1, x4, h => bX8_tries_35b hDe hD0 C hL hrec E (bX8_tries_35 hDe hD0 C hL hrec E n) h
set_option maxRecDepth 100000 in
set_option maxHeartbeats 4000000 in
theorem bX8_tries_16 {De D1 : Nat} (hDe : D1 + 1 ≤ De) (hD0 : 9 ≤ De) {Γ : xΓ} (C : xOK Γ cX8_tries RX8 De) (hL : xn Γ = 6) {N : Nat} {rec : xW → Int32 → Int32 → Int32 → Option xW} {w : xW} {x1 : Int32} {x2 : Int32} {x3 : Int32} {r : xW} (hrec : ∀ (w : xW) (x1 : Int32) (x2 : Int32) (x3 : Int32) (r : xW), rec w x1 x2 x3 = some r → xCt (xl Γ) (xad Γ) (xE Γ) D1 yX8_tries cX8_tries 6 none [.ref (xad Γ 55), .int x1, .int x2, .int x3] w r none) (E : xEnd Γ none r none) (h : fX8_tries_16 N rec w x1 x2 x3 = some r) : xG Γ w 16 [(0, .ref (xad Γ 55)), (1, .int x1), (2, .int x2), (3, .int x3)] [] := by
  unfold fX8_tries_16 at h
  refine xr_iload_n C 16 rfl dX8_tries_16 ?_
  refine xr_aload_n C 17 rfl dX8_tries_17 ?_
  refine xr_getR C 18 dX8_tries_18 fl_X8_9 rfl rfl ?_
  refine xr_bipush C 21 10 (by decide +kernel) dX8_tries_21 ?_
  refine xr_iald C 23 10 (by decide +kernel) dX8_tries_23 rfl (ibd_in (by decide +kernel)) ?_
  refine xr_icmp_ne C 24 118 dX8_tries_24 rfl (fun q => ?_) (fun q => ?_)
  · have h := g_if h q
    refine xr_iconst C 118 0 (by decide +kernel) dX8_tries_118 ?_
    refine xr_istore C 119 dX8_tries_119 (xnb hL rfl) ?_
    exact xG.sub (bX8_tries_121 hDe hD0 C hL hrec E N _ _ _ _ _ h) ⟨rfl, rfl, rfl, rfl, rfl, trivial⟩
  · have h := g_it h q
    refine xr_aload_n C 27 rfl dX8_tries_27 ?_
    refine xr_iload_n C 28 rfl dX8_tries_28 ?_
    refine xr_putI C 29 dX8_tries_29 fp_X8_205 rfl rfl ?_
    refine xr_iconst C 32 0 (by decide +kernel) dX8_tries_32 ?_
    refine xr_istore C 33 dX8_tries_33 (xnb hL rfl) ?_
    exact xG.sub (bX8_tries_35 hDe hD0 C hL hrec E N _ _ _ h) ⟨rfl, rfl, rfl, trivial⟩
set_option maxRecDepth 100000 in
set_option maxHeartbeats 4000000 in
theorem bX8_tries_0 {De D1 : Nat} (hDe : D1 + 1 ≤ De) (hD0 : 9 ≤ De) {Γ : xΓ} (C : xOK Γ cX8_tries RX8 De) (hL : xn Γ = 6) {N : Nat} {rec : xW → Int32 → Int32 → Int32 → Option xW} {w : xW} {x1 : Int32} {x2 : Int32} {x3 : Int32} {r : xW} (hrec : ∀ (w : xW) (x1 : Int32) (x2 : Int32) (x3 : Int32) (r : xW), rec w x1 x2 x3 = some r → xCt (xl Γ) (xad Γ) (xE Γ) D1 yX8_tries cX8_tries 6 none [.ref (xad Γ 55), .int x1, .int x2, .int x3] w r none) (E : xEnd Γ none r none) (h : fX8_tries_0 N rec w x1 x2 x3 = some r) : xG Γ w 0 [(0, .ref (xad Γ 55)), (1, .int x1), (2, .int x2), (3, .int x3)] [] := by
  unfold fX8_tries_0 at h
  refine xr_aload_n C 0 rfl dX8_tries_0 ?_
  refine xr_getI C 1 dX8_tries_1 fl_X8_205 rfl rfl ?_
  refine xr_if_lt C 4 16 dX8_tries_4 rfl (fun q => ?_) (fun q => ?_)
  · have h := g_it h q
    exact xG.sub (bX8_tries_16 hDe hD0 C hL hrec E h) ⟨rfl, rfl, rfl, rfl, trivial⟩
  · have h := g_if h q
    refine xr_iload_n C 7 rfl dX8_tries_7 ?_
    refine xr_aload_n C 8 rfl dX8_tries_8 ?_
    refine xr_getI C 9 dX8_tries_9 fl_X8_205 rfl rfl ?_
    refine xr_icmp_lt C 12 16 dX8_tries_12 rfl (fun q => ?_) (fun q => ?_)
    · have h := g_it h q
      exact xG.sub (bX8_tries_16 hDe hD0 C hL hrec E h) ⟨rfl, rfl, rfl, rfl, trivial⟩
    · have h := g_if h q
      cases h
      exact xr_vret C 15 E dX8_tries_15
set_option maxRecDepth 100000 in
set_option maxHeartbeats 4000000 in
theorem mX8_tries {l : Launch} {ad : Nat → Nat} {G : gEnv} {N : Nat} : ∀ (n : Nat) (w : xW) (x1 : Int32) (x2 : Int32) (x3 : Int32) (r : xW), fX8_tries N n w x1 x2 x3 = some r → xCt l ad G (9 + n) yX8_tries cX8_tries 6 none [.ref (ad 55), .int x1, .int x2, .int x3] w r none
  | 0, _, _, _, _, _, h => by cases h
  | n + 1, w, x1, x2, x3, r, h => xCt.of RX8 rfl (by decide +kernel) (Nat.le_of_ble_eq_true rfl) (fun Γ el ea eG eL C E => by
    subst el
    subst ea
    subst eG
    exact xG.sub (bX8_tries_0 (De := 9 + (n + 1)) (D1 := 9 + n) (Nat.le_refl _) (by omega) C eL (fun w x1 x2 x3 r h => mX8_tries n w x1 x2 x3 r h) E h) ⟨rfl, rfl, rfl, rfl, trivial⟩)
set_option maxRecDepth 100000 in
set_option maxHeartbeats 4000000 in
theorem mX8_tries8 {l : Launch} {ad : Nat → Nat} {G : gEnv} {N : Nat} {w : xW} {x1 : Int32} {x2 : Int32} {x3 : Int32} {r : xW} (h : fX8_tries N 8 w x1 x2 x3 = some r) : xCt l ad G 17 yX8_tries cX8_tries 6 none [.ref (ad 55), .int x1, .int x2, .int x3] w r none := mX8_tries 8 _ _ _ _ r h
def fX8_findOrder_0 (N : Nat) (w : xW) : Option xW :=
  (fX8_tries N 8 (sI w 55 16 (-1)) 0 0 0).bind fun z1 =>
  some z1
def fX8_findOrder (N : Nat) (w : xW) : Option xW := fX8_findOrder_0 N w
set_option maxRecDepth 100000 in
set_option maxHeartbeats 4000000 in
theorem bX8_findOrder_0 {Γ : xΓ} (C : xOK Γ cX8_findOrder RX8 18) (hL : xn Γ = 1) {N : Nat} {w : xW} {r : xW} (E : xEnd Γ none r none) (h : fX8_findOrder_0 N w = some r) : xG Γ w 0 [(0, .ref (xad Γ 55))] [] := by
  unfold fX8_findOrder_0 at h
  refine xr_aload_n C 0 rfl dX8_findOrder_0 ?_
  refine xr_iconst C 1 (-1) (by decide +kernel) dX8_findOrder_1 ?_
  refine xr_putI C 2 dX8_findOrder_2 fp_X8_205 rfl rfl ?_
  refine xr_aload_n C 5 rfl dX8_findOrder_5 ?_
  refine xr_iconst C 6 0 (by decide +kernel) dX8_findOrder_6 ?_
  refine xr_iconst C 7 0 (by decide +kernel) dX8_findOrder_7 ?_
  refine xr_iconst C 8 0 (by decide +kernel) dX8_findOrder_8 ?_
  obtain ⟨z1, q2, h⟩ := g_bind h
  refine xr_callV C 9 (mX8_tries8 q2) v_X8_tries ml_X8_212 (Nat.le_of_ble_eq_true rfl) (Nat.le_of_ble_eq_true rfl) (xrecv C rfl rfl) rfl rfl (Nat.le_of_ble_eq_true rfl) rfl dX8_findOrder_9 ?_
  cases h
  exact xr_vret C 12 E dX8_findOrder_12
set_option maxRecDepth 100000 in
set_option maxHeartbeats 4000000 in
theorem mX8_findOrder {l : Launch} {ad : Nat → Nat} {G : gEnv} {N : Nat} {w : xW} {r : xW} (h : fX8_findOrder N w = some r) : xCt l ad G 18 yX8_findOrder cX8_findOrder 1 none [.ref (ad 55)] w r none := xCt.of RX8 rfl (by decide +kernel) (Nat.le_of_ble_eq_true rfl) (fun Γ el ea eG eL C E => by
    subst el
    subst ea
    subst eG
    unfold fX8_findOrder at h
    exact xG.sub (bX8_findOrder_0 C eL  E h) ⟨rfl, trivial⟩)
def fX8_order_0 (N : Nat) (w : xW) (x1 : Int32) : Option (xW × Int32) :=
  if (fX8_within x1 (-1) 5) = 0 then
    (fX8_finding w (-1000000001)).bind fun z6 =>
    some (z6.1, z6.2)
  else
  if x1 < (w.1 56 10) then
    (fX8_findOrder N w).bind fun z1 =>
    if 0 ≤ x1 then
      if ibd x1 6 = true then
      some (z1, z1.1 65 x1.toNatClampNeg)
      else none
    else
    some (z1, z1.1 55 16)
  else
  (fX8_finding w (-1000000004)).bind fun z4 =>
  some (z4.1, z4.2)
def fX8_order (N : Nat) (w : xW) (x1 : Int32) : Option (xW × Int32) := fX8_order_0 N w x1
set_option maxRecDepth 100000 in
set_option maxHeartbeats 4000000 in
theorem bX8_order_0 {Γ : xΓ} (C : xOK Γ cX8_order RX8 19) (hL : xn Γ = 2) {N : Nat} {w : xW} {x1 : Int32} {r : xW × Int32} (E : xEnd Γ (some .int) r.1 (some (.int r.2))) (h : fX8_order_0 N w x1 = some r) : xG Γ w 0 [(0, .ref (xad Γ 55)), (1, .int x1)] [] := by
  unfold fX8_order_0 at h
  refine xr_iload_n C 0 rfl dX8_order_0 ?_
  refine xr_iconst C 1 (-1) (by decide +kernel) dX8_order_1 ?_
  refine xr_iconst C 2 5 (by decide +kernel) dX8_order_2 ?_
  refine xr_callS C 3 (mX8_within rfl) v_X8_within ml_X8_121 (Nat.le_of_ble_eq_true rfl) (Nat.le_of_ble_eq_true rfl) rfl rfl (Nat.le_of_ble_eq_true rfl) rfl dX8_order_3 ?_
  refine xr_if_ne C 6 16 dX8_order_6 rfl (fun q => ?_) (fun q => ?_)
  · have h := g_if h q
    refine xr_iload_n C 16 rfl dX8_order_16 ?_
    refine xr_aload_n C 17 rfl dX8_order_17 ?_
    refine xr_getR C 18 dX8_order_18 fl_X8_9 rfl rfl ?_
    refine xr_bipush C 21 10 (by decide +kernel) dX8_order_21 ?_
    refine xr_iald C 23 10 (by decide +kernel) dX8_order_23 rfl (ibd_in (by decide +kernel)) ?_
    refine xr_icmp_lt C 24 34 dX8_order_24 rfl (fun q => ?_) (fun q => ?_)
    · have h := g_it h q
      refine xr_aload_n C 34 rfl dX8_order_34 ?_
      obtain ⟨z1, q2, h⟩ := g_bind h
      refine xr_callV C 35 (mX8_findOrder q2) v_X8_findOrder ml_X8_216 (Nat.le_of_ble_eq_true rfl) (Nat.le_of_ble_eq_true rfl) (xrecv C rfl rfl) rfl rfl (Nat.le_of_ble_eq_true rfl) rfl dX8_order_35 ?_
      refine xr_iload_n C 38 rfl dX8_order_38 ?_
      refine xr_if_ge C 39 49 dX8_order_39 rfl (fun q => ?_) (fun q => ?_)
      · have h := g_it h q
        refine xr_aload_n C 49 rfl dX8_order_49 ?_
        refine xr_getR C 50 dX8_order_50 fl_X8_37 rfl rfl ?_
        refine xr_iload_n C 53 rfl dX8_order_53 ?_
        obtain ⟨q3, h⟩ := g_ib h
        refine xr_iald C 54 x1.toNatClampNeg rfl dX8_order_54 rfl (ibd_in q3) ?_
        cases h
        exact xr_iret C 55 E dX8_order_55
      · have h := g_if h q
        refine xr_aload_n C 42 rfl dX8_order_42 ?_
        refine xr_getI C 43 dX8_order_43 fl_X8_205 rfl rfl ?_
        refine xr_goto C 46 55 dX8_order_46 rfl ?_
        cases h
        exact xr_iret C 55 E dX8_order_55
    · have h := g_if h q
      refine xr_aload_n C 27 rfl dX8_order_27 ?_
      refine xr_ldc C 28 k_X8_149 dX8_order_28 ?_
      obtain ⟨z4, q5, h⟩ := g_bind h
      refine xr_callV C 30 (mX8_finding q5) v_X8_finding ml_X8_125 (Nat.le_of_ble_eq_true rfl) (Nat.le_of_ble_eq_true rfl) (xrecv C rfl rfl) rfl rfl (Nat.le_of_ble_eq_true rfl) rfl dX8_order_30 ?_
      cases h
      exact xr_iret C 33 E dX8_order_33
  · have h := g_it h q
    refine xr_aload_n C 9 rfl dX8_order_9 ?_
    refine xr_ldc C 10 k_X8_98 dX8_order_10 ?_
    obtain ⟨z6, q7, h⟩ := g_bind h
    refine xr_callV C 12 (mX8_finding q7) v_X8_finding ml_X8_125 (Nat.le_of_ble_eq_true rfl) (Nat.le_of_ble_eq_true rfl) (xrecv C rfl rfl) rfl rfl (Nat.le_of_ble_eq_true rfl) rfl dX8_order_12 ?_
    cases h
    exact xr_iret C 15 E dX8_order_15
set_option maxRecDepth 100000 in
set_option maxHeartbeats 4000000 in
theorem mX8_order {l : Launch} {ad : Nat → Nat} {G : gEnv} {N : Nat} {w : xW} {x1 : Int32} {r : xW × Int32} (h : fX8_order N w x1 = some r) : xCt l ad G 19 yX8_order cX8_order 2 (some .int) [.ref (ad 55), .int x1] w r.1 (some (.int r.2)) := xCt.of RX8 rfl (by decide +kernel) (Nat.le_of_ble_eq_true rfl) (fun Γ el ea eG eL C E => by
    subst el
    subst ea
    subst eG
    unfold fX8_order at h
    exact xG.sub (bX8_order_0 C eL  E h) ⟨rfl, rfl, trivial⟩)
def fX7_waits_17 (N : Nat) (w : xW) : Option (xW × Int32) :=
  (fX7_refuse w (-1000000001)).bind fun z5 =>
  some (z5.1, z5.2)
def fX7_waits_0 (N : Nat) (w : xW) (x1 : Int32) (x2 : Int32) : Option (xW × Int32) :=
  if (fX7_isShip w x1) = 0 then
    fX7_waits_17 N w
  else
  if x2 < 0 then
    fX7_waits_17 N w
  else
  if x2 ≤ 1 then
    (fX0_find N w).bind fun z1 =>
    if x2 = 0 then
      if ibd x1 6 = true then
      some (z1, z1.1 36 x1.toNatClampNeg)
      else none
    else
    if ibd x1 6 = true then
    some (z1, z1.1 37 x1.toNatClampNeg)
    else none
  else
  fX7_waits_17 N w
def fX7_waits (N : Nat) (w : xW) (x1 : Int32) (x2 : Int32) : Option (xW × Int32) := fX7_waits_0 N w x1 x2
set_option maxRecDepth 100000 in
set_option maxHeartbeats 4000000 in
theorem bX7_waits_17 {Γ : xΓ} (C : xOK Γ cX7_waits RX7 15) (hL : xn Γ = 3) {N : Nat} {w : xW} {r : xW × Int32} (E : xEnd Γ (some .int) r.1 (some (.int r.2))) (h : fX7_waits_17 N w = some r) : xG Γ w 17 [(0, .ref (xad Γ 0))] [] := by
  unfold fX7_waits_17 at h
  refine xr_aload_n C 17 rfl dX7_waits_17 ?_
  refine xr_ldc C 18 k_X7_69 dX7_waits_18 ?_
  obtain ⟨z5, q6, h⟩ := g_bind h
  refine xr_callV C 20 (mX7_refuse q6) v_X7_refuse ml_X7_70 (Nat.le_of_ble_eq_true rfl) (Nat.le_of_ble_eq_true rfl) (xrecv C rfl rfl) rfl rfl (Nat.le_of_ble_eq_true rfl) rfl dX7_waits_20 ?_
  cases h
  exact xr_iret C 23 E dX7_waits_23
set_option maxRecDepth 100000 in
set_option maxHeartbeats 4000000 in
theorem bX7_waits_0 {Γ : xΓ} (C : xOK Γ cX7_waits RX7 15) (hL : xn Γ = 3) {N : Nat} {w : xW} {x1 : Int32} {x2 : Int32} {r : xW × Int32} (E : xEnd Γ (some .int) r.1 (some (.int r.2))) (h : fX7_waits_0 N w x1 x2 = some r) : xG Γ w 0 [(0, .ref (xad Γ 0)), (1, .int x1), (2, .int x2)] [] := by
  unfold fX7_waits_0 at h
  refine xr_aload_n C 0 rfl dX7_waits_0 ?_
  refine xr_iload_n C 1 rfl dX7_waits_1 ?_
  refine xr_callV C 2 (mX7_isShip rfl) v_X7_isShip ml_X7_184 (Nat.le_of_ble_eq_true rfl) (Nat.le_of_ble_eq_true rfl) (xrecv C rfl rfl) rfl rfl (Nat.le_of_ble_eq_true rfl) rfl dX7_waits_2 ?_
  refine xr_if_eq C 5 17 dX7_waits_5 rfl (fun q => ?_) (fun q => ?_)
  · have h := g_it h q
    exact xG.sub (bX7_waits_17 C hL E h) ⟨rfl, trivial⟩
  · have h := g_if h q
    refine xr_iload_n C 8 rfl dX7_waits_8 ?_
    refine xr_if_lt C 9 17 dX7_waits_9 rfl (fun q => ?_) (fun q => ?_)
    · have h := g_it h q
      exact xG.sub (bX7_waits_17 C hL E h) ⟨rfl, trivial⟩
    · have h := g_if h q
      refine xr_iload_n C 12 rfl dX7_waits_12 ?_
      refine xr_iconst C 13 1 (by decide +kernel) dX7_waits_13 ?_
      refine xr_icmp_le C 14 24 dX7_waits_14 rfl (fun q => ?_) (fun q => ?_)
      · have h := g_it h q
        refine xr_aload_n C 24 rfl dX7_waits_24 ?_
        refine xr_getR C 25 dX7_waits_25 fl_X7_36 rfl rfl ?_
        refine xr_aload_n C 28 rfl dX7_waits_28 ?_
        refine xr_getR C 29 dX7_waits_29 fl_X7_10 rfl rfl ?_
        obtain ⟨z1, q2, h⟩ := g_bind h
        refine xr_callV C 32 (mX0_find q2) v_X0_find ml_X7_209 (Nat.le_of_ble_eq_true rfl) (Nat.le_of_ble_eq_true rfl) (xrecv C rfl rfl) rfl rfl (Nat.le_of_ble_eq_true rfl) rfl dX7_waits_32 ?_
        refine xr_iload_n C 35 rfl dX7_waits_35 ?_
        refine xr_if_ne C 36 51 dX7_waits_36 rfl (fun q => ?_) (fun q => ?_)
        · have h := g_if h q
          refine xr_aload_n C 51 rfl dX7_waits_51 ?_
          refine xr_getR C 52 dX7_waits_52 fl_X7_36 rfl rfl ?_
          refine xr_getR C 55 dX7_waits_55 fl_X7_221 rfl rfl ?_
          refine xr_iload_n C 58 rfl dX7_waits_58 ?_
          obtain ⟨q3, h⟩ := g_ib h
          refine xr_iald C 59 x1.toNatClampNeg rfl dX7_waits_59 rfl (ibd_in q3) ?_
          cases h
          exact xr_iret C 60 E dX7_waits_60
        · have h := g_it h q
          refine xr_aload_n C 39 rfl dX7_waits_39 ?_
          refine xr_getR C 40 dX7_waits_40 fl_X7_36 rfl rfl ?_
          refine xr_getR C 43 dX7_waits_43 fl_X7_218 rfl rfl ?_
          refine xr_iload_n C 46 rfl dX7_waits_46 ?_
          obtain ⟨q4, h⟩ := g_ib h
          refine xr_iald C 47 x1.toNatClampNeg rfl dX7_waits_47 rfl (ibd_in q4) ?_
          refine xr_goto C 48 60 dX7_waits_48 rfl ?_
          cases h
          exact xr_iret C 60 E dX7_waits_60
      · have h := g_if h q
        exact xG.sub (bX7_waits_17 C hL E h) ⟨rfl, trivial⟩
set_option maxRecDepth 100000 in
set_option maxHeartbeats 4000000 in
theorem mX7_waits {l : Launch} {ad : Nat → Nat} {G : gEnv} {N : Nat} {w : xW} {x1 : Int32} {x2 : Int32} {r : xW × Int32} (h : fX7_waits N w x1 x2 = some r) : xCt l ad G 15 yX7_waits cX7_waits 3 (some .int) [.ref (ad 0), .int x1, .int x2] w r.1 (some (.int r.2)) := xCt.of RX7 rfl (by decide +kernel) (Nat.le_of_ble_eq_true rfl) (fun Γ el ea eG eL C E => by
    subst el
    subst ea
    subst eG
    unfold fX7_waits at h
    exact xG.sub (bX7_waits_0 C eL  E h) ⟨rfl, rfl, rfl, trivial⟩)
