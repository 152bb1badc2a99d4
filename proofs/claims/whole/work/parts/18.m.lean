def fX8_refuses_0 (w : xW) (x1 : Int32) (x2 : Int32) (x3 : Int32) (x4 : Int32) : Option Int32 :=
  if (fX8_isSheet x1) = 0 then
    some (-1000000001)
  else
  if ibd x1 4 = true then
  if (w.1 74 x1.toNatClampNeg) = 0 then
    some (-1000000006)
  else
  if (fX8_isSide x2) = 0 then
    some (-1000000001)
  else
  if (fX8_isTick x3) = 0 then
    some (-1000000001)
  else
  if (fX8_within x4 1 96) = 0 then
    some (-1000000001)
  else
  some 0
  else none
def fX8_refuses (w : xW) (x1 : Int32) (x2 : Int32) (x3 : Int32) (x4 : Int32) : Option Int32 := fX8_refuses_0 w x1 x2 x3 x4
set_option maxRecDepth 100000 in
set_option maxHeartbeats 4000000 in
theorem bX8_refuses_0 {Γ : xΓ} (C : xOK Γ cX8_refuses RX8 3) (hL : xn Γ = 5) {w : xW} {x1 : Int32} {x2 : Int32} {x3 : Int32} {x4 : Int32} {r : Int32} (E : xEnd Γ (some .int) w (some (.int r))) (h : fX8_refuses_0 w x1 x2 x3 x4 = some r) : xG Γ w 0 [(0, .ref (xad Γ 55)), (1, .int x1), (2, .int x2), (3, .int x3), (4, .int x4)] [] := by
  unfold fX8_refuses_0 at h
  refine xr_iload_n C 0 rfl dX8_refuses_0 ?_
  refine xr_callS C 1 (mX8_isSheet rfl) v_X8_isSheet ml_X8_316 (Nat.le_of_ble_eq_true rfl) (Nat.le_of_ble_eq_true rfl) rfl rfl (Nat.le_of_ble_eq_true rfl) rfl dX8_refuses_1 ?_
  refine xr_if_ne C 4 10 dX8_refuses_4 rfl (fun q => ?_) (fun q => ?_)
  · have h := g_if h q
    refine xr_aload_n C 10 rfl dX8_refuses_10 ?_
    refine xr_getR C 11 dX8_refuses_11 fl_X8_85 rfl rfl ?_
    refine xr_iload_n C 14 rfl dX8_refuses_14 ?_
    obtain ⟨q1, h⟩ := g_ib h
    refine xr_iald C 15 x1.toNatClampNeg rfl dX8_refuses_15 rfl (ibd_in q1) ?_
    refine xr_if_ne C 16 25 dX8_refuses_16 rfl (fun q => ?_) (fun q => ?_)
    · have h := g_if h q
      refine xr_iload_n C 25 rfl dX8_refuses_25 ?_
      refine xr_callS C 26 (mX8_isSide rfl) v_X8_isSide ml_X8_133 (Nat.le_of_ble_eq_true rfl) (Nat.le_of_ble_eq_true rfl) rfl rfl (Nat.le_of_ble_eq_true rfl) rfl dX8_refuses_26 ?_
      refine xr_if_eq C 29 50 dX8_refuses_29 rfl (fun q => ?_) (fun q => ?_)
      · have h := g_it h q
        refine xr_ldc C 50 k_X8_98 dX8_refuses_50 ?_
        refine xr_goto C 52 56 dX8_refuses_52 rfl ?_
        cases h
        exact xr_iret C 56 E dX8_refuses_56
      · have h := g_if h q
        refine xr_iload_n C 32 rfl dX8_refuses_32 ?_
        refine xr_callS C 33 (mX8_isTick rfl) v_X8_isTick ml_X8_137 (Nat.le_of_ble_eq_true rfl) (Nat.le_of_ble_eq_true rfl) rfl rfl (Nat.le_of_ble_eq_true rfl) rfl dX8_refuses_33 ?_
        refine xr_if_eq C 36 50 dX8_refuses_36 rfl (fun q => ?_) (fun q => ?_)
        · have h := g_it h q
          refine xr_ldc C 50 k_X8_98 dX8_refuses_50 ?_
          refine xr_goto C 52 56 dX8_refuses_52 rfl ?_
          cases h
          exact xr_iret C 56 E dX8_refuses_56
        · have h := g_if h q
          refine xr_iload C 39 rfl dX8_refuses_39 ?_
          refine xr_iconst C 41 1 (by decide +kernel) dX8_refuses_41 ?_
          refine xr_bipush C 42 96 (by decide +kernel) dX8_refuses_42 ?_
          refine xr_callS C 44 (mX8_within rfl) v_X8_within ml_X8_121 (Nat.le_of_ble_eq_true rfl) (Nat.le_of_ble_eq_true rfl) rfl rfl (Nat.le_of_ble_eq_true rfl) rfl dX8_refuses_44 ?_
          refine xr_if_ne C 47 55 dX8_refuses_47 rfl (fun q => ?_) (fun q => ?_)
          · have h := g_if h q
            refine xr_iconst C 55 0 (by decide +kernel) dX8_refuses_55 ?_
            cases h
            exact xr_iret C 56 E dX8_refuses_56
          · have h := g_it h q
            refine xr_ldc C 50 k_X8_98 dX8_refuses_50 ?_
            refine xr_goto C 52 56 dX8_refuses_52 rfl ?_
            cases h
            exact xr_iret C 56 E dX8_refuses_56
    · have h := g_it h q
      refine xr_ldcw C 19 k_X8_320 dX8_refuses_19 ?_
      refine xr_goto C 22 56 dX8_refuses_22 rfl ?_
      cases h
      exact xr_iret C 56 E dX8_refuses_56
  · have h := g_it h q
    refine xr_ldc C 7 k_X8_98 dX8_refuses_7 ?_
    cases h
    exact xr_iret C 9 E dX8_refuses_9
set_option maxRecDepth 100000 in
set_option maxHeartbeats 4000000 in
theorem mX8_refuses {l : Launch} {ad : Nat → Nat} {G : gEnv} {w : xW} {x1 : Int32} {x2 : Int32} {x3 : Int32} {x4 : Int32} {r : Int32} (h : fX8_refuses w x1 x2 x3 x4 = some r) : xCt l ad G 3 yX8_refuses cX8_refuses 5 (some .int) [.ref (ad 55), .int x1, .int x2, .int x3, .int x4] w w (some (.int r)) := xCt.of RX8 rfl (by decide +kernel) (Nat.le_of_ble_eq_true rfl) (fun Γ el ea eG eL C E => by
    subst el
    subst ea
    subst eG
    unfold fX8_refuses at h
    exact xG.sub (bX8_refuses_0 C eL  E h) ⟨rfl, rfl, rfl, rfl, rfl, trivial⟩)
def fX8_calendar_26b (N : Nat) (K26 : xW → Int32 → Int32 → Int32 → Int32 → Int32 → Option (xW × Int32)) (w : xW) (x1 : Int32) (x2 : Int32) (x3 : Int32) (x4 : Int32) (x6 : Int32) : Option (xW × Int32) :=
  if ibd x1 4 = true then
  if (w.1 75 x1.toNatClampNeg) ≤ x6 then
    some (w, w.1 75 x1.toNatClampNeg)
  else
  (fX8_sideOf N w x2 (x3 + (x4 * x6))).bind fun z6 =>
  if ibd ((40 * x1) + x6) 160 = true then
  K26 (sL z6.1 76 (((40 * x1) + x6).toNatClampNeg) ((z6.2 : Int32).toInt64)) x1 x2 x3 x4 (x6 + 1)
  else none
  else none
def fX8_calendar_26 (N : Nat) : Nat → xW → Int32 → Int32 → Int32 → Int32 → Int32 → Option (xW × Int32)
  | 0, _, _, _, _, _, _ => none
  | n + 1, w, x1, x2, x3, x4, x6 => fX8_calendar_26b N (fX8_calendar_26 N n) w x1 x2 x3 x4 x6
def fX8_calendar_0 (N : Nat) (w : xW) (x1 : Int32) (x2 : Int32) (x3 : Int32) (x4 : Int32) : Option (xW × Int32) :=
  (fX8_refuses w x1 x2 x3 x4).bind fun z1 =>
  if z1 = 0 then
    fX8_calendar_26 N N w x1 x2 x3 x4 0
  else
  (fX8_finding w z1).bind fun z3 =>
  some (z3.1, z3.2)
def fX8_calendar (N : Nat) (w : xW) (x1 : Int32) (x2 : Int32) (x3 : Int32) (x4 : Int32) : Option (xW × Int32) := fX8_calendar_0 N w x1 x2 x3 x4
set_option maxRecDepth 100000 in
set_option maxHeartbeats 4000000 in
theorem bX8_calendar_26b {Γ : xΓ} (C : xOK Γ cX8_calendar RX8 6) (hL : xn Γ = 7) {N : Nat} {K26 : xW → Int32 → Int32 → Int32 → Int32 → Int32 → Option (xW × Int32)} {w : xW} {x1 : Int32} {x2 : Int32} {x3 : Int32} {x4 : Int32} {x6 : Int32} {r : xW × Int32} (E : xEnd Γ (some .int) r.1 (some (.int r.2))) (hK26 : ∀ (w : xW) (x1 : Int32) (x2 : Int32) (x3 : Int32) (x4 : Int32) (x6 : Int32), K26 w x1 x2 x3 x4 x6 = some r → xG Γ w 26 [(0, .ref (xad Γ 55)), (1, .int x1), (2, .int x2), (3, .int x3), (4, .int x4), (6, .int x6)] []) (h : fX8_calendar_26b N K26 w x1 x2 x3 x4 x6 = some r) : xG Γ w 26 [(0, .ref (xad Γ 55)), (1, .int x1), (2, .int x2), (3, .int x3), (4, .int x4), (6, .int x6)] [] := by
  unfold fX8_calendar_26b at h
  refine xr_iload C 26 rfl dX8_calendar_26 ?_
  refine xr_aload_n C 28 rfl dX8_calendar_28 ?_
  refine xr_getR C 29 dX8_calendar_29 fl_X8_88 rfl rfl ?_
  refine xr_iload_n C 32 rfl dX8_calendar_32 ?_
  obtain ⟨q5, h⟩ := g_ib h
  refine xr_iald C 33 x1.toNatClampNeg rfl dX8_calendar_33 rfl (ibd_in q5) ?_
  refine xr_icmp_ge C 34 68 dX8_calendar_34 rfl (fun q => ?_) (fun q => ?_)
  · have h := g_it h q
    refine xr_aload_n C 68 rfl dX8_calendar_68 ?_
    refine xr_getR C 69 dX8_calendar_69 fl_X8_88 rfl rfl ?_
    refine xr_iload_n C 72 rfl dX8_calendar_72 ?_
    refine xr_iald C 73 x1.toNatClampNeg rfl dX8_calendar_73 rfl (ibd_in q5) ?_
    cases h
    exact xr_iret C 74 E dX8_calendar_74
  · have h := g_if h q
    refine xr_aload_n C 37 rfl dX8_calendar_37 ?_
    refine xr_getR C 38 dX8_calendar_38 fl_X8_91 rfl rfl ?_
    refine xr_bipush C 41 40 (by decide +kernel) dX8_calendar_41 ?_
    refine xr_iload_n C 43 rfl dX8_calendar_43 ?_
    refine xr_imul C 44 dX8_calendar_44 ?_
    refine xr_iload C 45 rfl dX8_calendar_45 ?_
    refine xr_iadd C 47 dX8_calendar_47 ?_
    refine xr_aload_n C 48 rfl dX8_calendar_48 ?_
    refine xr_iload_n C 49 rfl dX8_calendar_49 ?_
    refine xr_iload_n C 50 rfl dX8_calendar_50 ?_
    refine xr_iload C 51 rfl dX8_calendar_51 ?_
    refine xr_iload C 53 rfl dX8_calendar_53 ?_
    refine xr_imul C 55 dX8_calendar_55 ?_
    refine xr_iadd C 56 dX8_calendar_56 ?_
    obtain ⟨z6, q7, h⟩ := g_bind h
    refine xr_callV C 57 (mX8_sideOf q7) v_X8_sideOf ml_X8_146 (Nat.le_of_ble_eq_true rfl) (Nat.le_of_ble_eq_true rfl) (xrecv C rfl rfl) rfl rfl (Nat.le_of_ble_eq_true rfl) rfl dX8_calendar_57 ?_
    refine xr_i2l C 60 dX8_calendar_60 ?_
    obtain ⟨q8, h⟩ := g_ib h
    refine xr_last C 61 (((40 * x1) + x6).toNatClampNeg) rfl dX8_calendar_61 rfl (ibd_in q8) ?_
    refine xr_iinc C 62 1 (by decide +kernel) rfl dX8_calendar_62 (xnb hL rfl) ?_
    refine xr_goto C 65 26 dX8_calendar_65 rfl ?_
    exact xG.sub (hK26 _ _ _ _ _ _ h) ⟨rfl, rfl, rfl, rfl, rfl, rfl, trivial⟩
set_option maxRecDepth 100000 in
set_option maxHeartbeats 4000000 in
theorem bX8_calendar_26 {Γ : xΓ} (C : xOK Γ cX8_calendar RX8 6) (hL : xn Γ = 7) {N : Nat} {r : xW × Int32} (E : xEnd Γ (some .int) r.1 (some (.int r.2))) : ∀ (n : Nat) (w : xW) (x1 : Int32) (x2 : Int32) (x3 : Int32) (x4 : Int32) (x6 : Int32), fX8_calendar_26 N n w x1 x2 x3 x4 x6 = some r → xG Γ w 26 [(0, .ref (xad Γ 55)), (1, .int x1), (2, .int x2), (3, .int x3), (4, .int x4), (6, .int x6)] []
  | 0, _, _, _, _, _, _, h => by cases h
  | n + 1, w, x1, x2, x3, x4, x6, h => bX8_calendar_26b C hL E (bX8_calendar_26 C hL E n) h
set_option maxRecDepth 100000 in
set_option maxHeartbeats 4000000 in
theorem bX8_calendar_0 {Γ : xΓ} (C : xOK Γ cX8_calendar RX8 6) (hL : xn Γ = 7) {N : Nat} {w : xW} {x1 : Int32} {x2 : Int32} {x3 : Int32} {x4 : Int32} {r : xW × Int32} (E : xEnd Γ (some .int) r.1 (some (.int r.2))) (h : fX8_calendar_0 N w x1 x2 x3 x4 = some r) : xG Γ w 0 [(0, .ref (xad Γ 55)), (1, .int x1), (2, .int x2), (3, .int x3), (4, .int x4)] [] := by
  unfold fX8_calendar_0 at h
  refine xr_aload_n C 0 rfl dX8_calendar_0 ?_
  refine xr_iload_n C 1 rfl dX8_calendar_1 ?_
  refine xr_iload_n C 2 rfl dX8_calendar_2 ?_
  refine xr_iload_n C 3 rfl dX8_calendar_3 ?_
  refine xr_iload C 4 rfl dX8_calendar_4 ?_
  obtain ⟨z1, q2, h⟩ := g_bind h
  refine xr_callV C 6 (mX8_refuses q2) v_X8_refuses ml_X8_327 (Nat.le_of_ble_eq_true rfl) (Nat.le_of_ble_eq_true rfl) (xrecv C rfl rfl) rfl rfl (Nat.le_of_ble_eq_true rfl) rfl dX8_calendar_6 ?_
  refine xr_istore C 9 dX8_calendar_9 (xnb hL rfl) ?_
  refine xr_iload C 11 rfl dX8_calendar_11 ?_
  refine xr_if_eq C 13 23 dX8_calendar_13 rfl (fun q => ?_) (fun q => ?_)
  · have h := g_it h q
    refine xr_iconst C 23 0 (by decide +kernel) dX8_calendar_23 ?_
    refine xr_istore C 24 dX8_calendar_24 (xnb hL rfl) ?_
    exact xG.sub (bX8_calendar_26 C hL E N _ _ _ _ _ _ h) ⟨rfl, rfl, rfl, rfl, rfl, rfl, trivial⟩
  · have h := g_if h q
    refine xr_aload_n C 16 rfl dX8_calendar_16 ?_
    refine xr_iload C 17 rfl dX8_calendar_17 ?_
    obtain ⟨z3, q4, h⟩ := g_bind h
    refine xr_callV C 19 (mX8_finding q4) v_X8_finding ml_X8_125 (Nat.le_of_ble_eq_true rfl) (Nat.le_of_ble_eq_true rfl) (xrecv C rfl rfl) rfl rfl (Nat.le_of_ble_eq_true rfl) rfl dX8_calendar_19 ?_
    cases h
    exact xr_iret C 22 E dX8_calendar_22
set_option maxRecDepth 100000 in
set_option maxHeartbeats 4000000 in
theorem mX8_calendar {l : Launch} {ad : Nat → Nat} {G : gEnv} {N : Nat} {w : xW} {x1 : Int32} {x2 : Int32} {x3 : Int32} {x4 : Int32} {r : xW × Int32} (h : fX8_calendar N w x1 x2 x3 x4 = some r) : xCt l ad G 6 yX8_calendar cX8_calendar 7 (some .int) [.ref (ad 55), .int x1, .int x2, .int x3, .int x4] w r.1 (some (.int r.2)) := xCt.of RX8 rfl (by decide +kernel) (Nat.le_of_ble_eq_true rfl) (fun Γ el ea eG eL C E => by
    subst el
    subst ea
    subst eG
    unfold fX8_calendar at h
    exact xG.sub (bX8_calendar_0 C eL  E h) ⟨rfl, rfl, rfl, rfl, rfl, trivial⟩)
def fX7_read_26b (N : Nat) (K26 : xW → Int32 → Int32 → Int32 → Int32 → Int32 → Option (xW × Int32)) (w : xW) (x1 : Int32) (x2 : Int32) (x3 : Int32) (x4 : Int32) (x6 : Int32) : Option (xW × Int32) :=
  if ibd x1 4 = true then
  if (w.1 (47 + 2 * x1.toNatClampNeg) 1) ≤ x6 then
    some (w, 0)
  else
  (fX6_at N w (x3 + (x6 * x4))).bind fun z6 =>
  if ibd x6 40 = true then
  if (lg_cmp (z6.2 (48 + 2 * x1.toNatClampNeg) x6.toNatClampNeg) (((fX6_sideOf z6 x2) : Int32).toInt64)) = 0 then
    K26 z6 x1 x2 x3 x4 (x6 + 1)
  else
  some (z6, 1 + x6)
  else none
  else none
def fX7_read_26 (N : Nat) : Nat → xW → Int32 → Int32 → Int32 → Int32 → Int32 → Option (xW × Int32)
  | 0, _, _, _, _, _, _ => none
  | n + 1, w, x1, x2, x3, x4, x6 => fX7_read_26b N (fX7_read_26 N n) w x1 x2 x3 x4 x6
def fX7_read_0 (N : Nat) (w : xW) (x1 : Int32) (x2 : Int32) (x3 : Int32) (x4 : Int32) : Option (xW × Int32) :=
  (fX7_calendarRefusal w x1 x2 x3 x4).bind fun z1 =>
  if z1 = 0 then
    fX7_read_26 N N w x1 x2 x3 x4 0
  else
  (fX7_refuse w z1).bind fun z3 =>
  some (z3.1, z3.2)
def fX7_read (N : Nat) (w : xW) (x1 : Int32) (x2 : Int32) (x3 : Int32) (x4 : Int32) : Option (xW × Int32) := fX7_read_0 N w x1 x2 x3 x4
set_option maxRecDepth 100000 in
set_option maxHeartbeats 4000000 in
theorem bX7_read_26b {Γ : xΓ} (C : xOK Γ cX7_read RX7 3) (hL : xn Γ = 7) {N : Nat} {K26 : xW → Int32 → Int32 → Int32 → Int32 → Int32 → Option (xW × Int32)} {w : xW} {x1 : Int32} {x2 : Int32} {x3 : Int32} {x4 : Int32} {x6 : Int32} {r : xW × Int32} (E : xEnd Γ (some .int) r.1 (some (.int r.2))) (hK26 : ∀ (w : xW) (x1 : Int32) (x2 : Int32) (x3 : Int32) (x4 : Int32) (x6 : Int32), K26 w x1 x2 x3 x4 x6 = some r → xG Γ w 26 [(0, .ref (xad Γ 0)), (1, .int x1), (2, .int x2), (3, .int x3), (4, .int x4), (6, .int x6)] []) (h : fX7_read_26b N K26 w x1 x2 x3 x4 x6 = some r) : xG Γ w 26 [(0, .ref (xad Γ 0)), (1, .int x1), (2, .int x2), (3, .int x3), (4, .int x4), (6, .int x6)] [] := by
  unfold fX7_read_26b at h
  refine xr_iload C 26 rfl dX7_read_26 ?_
  refine xr_aload_n C 28 rfl dX7_read_28 ?_
  refine xr_getR C 29 dX7_read_29 fl_X7_54 rfl rfl ?_
  refine xr_iload_n C 32 rfl dX7_read_32 ?_
  obtain ⟨q5, h⟩ := g_ib h
  refine xr_aaldS C 33 dX7_read_33 rfl (ibd_in q5) ?_
  refine xr_getI C 34 dX7_read_34 fl_X7_257 (xsh_so (ibd_lt q5)) rfl ?_
  refine xr_icmp_ge C 37 96 dX7_read_37 rfl (fun q => ?_) (fun q => ?_)
  · have h := g_it h q
    refine xr_iconst C 96 0 (by decide +kernel) dX7_read_96 ?_
    cases h
    exact xr_iret C 97 E dX7_read_97
  · have h := g_if h q
    refine xr_aload_n C 40 rfl dX7_read_40 ?_
    refine xr_getR C 41 dX7_read_41 fl_X7_10 rfl rfl ?_
    refine xr_getR C 44 dX7_read_44 fl_X7_77 rfl rfl ?_
    refine xr_iload_n C 47 rfl dX7_read_47 ?_
    refine xr_iload C 48 rfl dX7_read_48 ?_
    refine xr_iload C 50 rfl dX7_read_50 ?_
    refine xr_imul C 52 dX7_read_52 ?_
    refine xr_iadd C 53 dX7_read_53 ?_
    obtain ⟨z6, q7, h⟩ := g_bind h
    refine xr_callV C 54 (mX6_at q7) v_X6_at ml_X7_107 (Nat.le_of_ble_eq_true rfl) (Nat.le_of_ble_eq_true rfl) (xrecv C rfl rfl) rfl rfl (Nat.le_of_ble_eq_true rfl) rfl dX7_read_54 ?_
    refine xr_aload_n C 57 rfl dX7_read_57 ?_
    refine xr_getR C 58 dX7_read_58 fl_X7_54 rfl rfl ?_
    refine xr_iload_n C 61 rfl dX7_read_61 ?_
    refine xr_aaldS C 62 dX7_read_62 rfl (ibd_in q5) ?_
    refine xr_getR C 63 dX7_read_63 fl_X7_260 (xsh_so (ibd_lt q5)) rfl ?_
    refine xr_iload C 66 rfl dX7_read_66 ?_
    obtain ⟨q8, h⟩ := g_ib h
    refine xr_lald C 68 x6.toNatClampNeg rfl dX7_read_68 (xsh_sa (ibd_lt q5)) (ibd_in q8) ?_
    refine xr_aload_n C 69 rfl dX7_read_69 ?_
    refine xr_getR C 70 dX7_read_70 fl_X7_10 rfl rfl ?_
    refine xr_getR C 73 dX7_read_73 fl_X7_77 rfl rfl ?_
    refine xr_iload_n C 76 rfl dX7_read_76 ?_
    refine xr_callV C 77 (mX6_sideOf rfl) v_X6_sideOf ml_X7_117 (Nat.le_of_ble_eq_true rfl) (Nat.le_of_ble_eq_true rfl) (xrecv C rfl rfl) rfl rfl (Nat.le_of_ble_eq_true rfl) rfl dX7_read_77 ?_
    refine xr_i2l C 80 dX7_read_80 ?_
    refine xr_lcmp C 81 dX7_read_81 ?_
    refine xr_if_eq C 82 90 dX7_read_82 rfl (fun q => ?_) (fun q => ?_)
    · have h := g_it h q
      refine xr_iinc C 90 1 (by decide +kernel) rfl dX7_read_90 (xnb hL rfl) ?_
      refine xr_goto C 93 26 dX7_read_93 rfl ?_
      exact xG.sub (hK26 _ _ _ _ _ _ h) ⟨rfl, rfl, rfl, rfl, rfl, rfl, trivial⟩
    · have h := g_if h q
      refine xr_iconst C 85 1 (by decide +kernel) dX7_read_85 ?_
      refine xr_iload C 86 rfl dX7_read_86 ?_
      refine xr_iadd C 88 dX7_read_88 ?_
      cases h
      exact xr_iret C 89 E dX7_read_89
set_option maxRecDepth 100000 in
set_option maxHeartbeats 4000000 in
theorem bX7_read_26 {Γ : xΓ} (C : xOK Γ cX7_read RX7 3) (hL : xn Γ = 7) {N : Nat} {r : xW × Int32} (E : xEnd Γ (some .int) r.1 (some (.int r.2))) : ∀ (n : Nat) (w : xW) (x1 : Int32) (x2 : Int32) (x3 : Int32) (x4 : Int32) (x6 : Int32), fX7_read_26 N n w x1 x2 x3 x4 x6 = some r → xG Γ w 26 [(0, .ref (xad Γ 0)), (1, .int x1), (2, .int x2), (3, .int x3), (4, .int x4), (6, .int x6)] []
  | 0, _, _, _, _, _, _, h => by cases h
  | n + 1, w, x1, x2, x3, x4, x6, h => bX7_read_26b C hL E (bX7_read_26 C hL E n) h
set_option maxRecDepth 100000 in
set_option maxHeartbeats 4000000 in
theorem bX7_read_0 {Γ : xΓ} (C : xOK Γ cX7_read RX7 3) (hL : xn Γ = 7) {N : Nat} {w : xW} {x1 : Int32} {x2 : Int32} {x3 : Int32} {x4 : Int32} {r : xW × Int32} (E : xEnd Γ (some .int) r.1 (some (.int r.2))) (h : fX7_read_0 N w x1 x2 x3 x4 = some r) : xG Γ w 0 [(0, .ref (xad Γ 0)), (1, .int x1), (2, .int x2), (3, .int x3), (4, .int x4)] [] := by
  unfold fX7_read_0 at h
  refine xr_aload_n C 0 rfl dX7_read_0 ?_
  refine xr_iload_n C 1 rfl dX7_read_1 ?_
  refine xr_iload_n C 2 rfl dX7_read_2 ?_
  refine xr_iload_n C 3 rfl dX7_read_3 ?_
  refine xr_iload C 4 rfl dX7_read_4 ?_
  obtain ⟨z1, q2, h⟩ := g_bind h
  refine xr_callV C 6 (mX7_calendarRefusal q2) v_X7_calendarRefusal ml_X7_282 (Nat.le_of_ble_eq_true rfl) (Nat.le_of_ble_eq_true rfl) (xrecv C rfl rfl) rfl rfl (Nat.le_of_ble_eq_true rfl) rfl dX7_read_6 ?_
  refine xr_istore C 9 dX7_read_9 (xnb hL rfl) ?_
  refine xr_iload C 11 rfl dX7_read_11 ?_
  refine xr_if_eq C 13 23 dX7_read_13 rfl (fun q => ?_) (fun q => ?_)
  · have h := g_it h q
    refine xr_iconst C 23 0 (by decide +kernel) dX7_read_23 ?_
    refine xr_istore C 24 dX7_read_24 (xnb hL rfl) ?_
    exact xG.sub (bX7_read_26 C hL E N _ _ _ _ _ _ h) ⟨rfl, rfl, rfl, rfl, rfl, rfl, trivial⟩
  · have h := g_if h q
    refine xr_aload_n C 16 rfl dX7_read_16 ?_
    refine xr_iload C 17 rfl dX7_read_17 ?_
    obtain ⟨z3, q4, h⟩ := g_bind h
    refine xr_callV C 19 (mX7_refuse q4) v_X7_refuse ml_X7_70 (Nat.le_of_ble_eq_true rfl) (Nat.le_of_ble_eq_true rfl) (xrecv C rfl rfl) rfl rfl (Nat.le_of_ble_eq_true rfl) rfl dX7_read_19 ?_
    cases h
    exact xr_iret C 22 E dX7_read_22
set_option maxRecDepth 100000 in
set_option maxHeartbeats 4000000 in
theorem mX7_read {l : Launch} {ad : Nat → Nat} {G : gEnv} {N : Nat} {w : xW} {x1 : Int32} {x2 : Int32} {x3 : Int32} {x4 : Int32} {r : xW × Int32} (h : fX7_read N w x1 x2 x3 x4 = some r) : xCt l ad G 3 yX7_read cX7_read 7 (some .int) [.ref (ad 0), .int x1, .int x2, .int x3, .int x4] w r.1 (some (.int r.2)) := xCt.of RX7 rfl (by decide +kernel) (Nat.le_of_ble_eq_true rfl) (fun Γ el ea eG eL C E => by
    subst el
    subst ea
    subst eG
    unfold fX7_read at h
    exact xG.sub (bX7_read_0 C eL  E h) ⟨rfl, rfl, rfl, rfl, rfl, trivial⟩)
def fX8_read_26b (N : Nat) (K26 : xW → Int32 → Int32 → Int32 → Int32 → Int32 → Option (xW × Int32)) (w : xW) (x1 : Int32) (x2 : Int32) (x3 : Int32) (x4 : Int32) (x6 : Int32) : Option (xW × Int32) :=
  if ibd x1 4 = true then
  if (w.1 75 x1.toNatClampNeg) ≤ x6 then
    some (w, 0)
  else
  if ibd ((40 * x1) + x6) 160 = true then
  (fX8_sideOf N w x2 (x3 + (x4 * x6))).bind fun z7 =>
  if (lg_cmp (w.2 76 (((40 * x1) + x6).toNatClampNeg)) ((z7.2 : Int32).toInt64)) = 0 then
    K26 z7.1 x1 x2 x3 x4 (x6 + 1)
  else
  some (z7.1, 1 + x6)
  else none
  else none
def fX8_read_26 (N : Nat) : Nat → xW → Int32 → Int32 → Int32 → Int32 → Int32 → Option (xW × Int32)
  | 0, _, _, _, _, _, _ => none
  | n + 1, w, x1, x2, x3, x4, x6 => fX8_read_26b N (fX8_read_26 N n) w x1 x2 x3 x4 x6
def fX8_read_0 (N : Nat) (w : xW) (x1 : Int32) (x2 : Int32) (x3 : Int32) (x4 : Int32) : Option (xW × Int32) :=
  (fX8_refuses w x1 x2 x3 x4).bind fun z1 =>
  if z1 = 0 then
    fX8_read_26 N N w x1 x2 x3 x4 0
  else
  (fX8_finding w z1).bind fun z3 =>
  some (z3.1, z3.2)
def fX8_read (N : Nat) (w : xW) (x1 : Int32) (x2 : Int32) (x3 : Int32) (x4 : Int32) : Option (xW × Int32) := fX8_read_0 N w x1 x2 x3 x4
set_option maxRecDepth 100000 in
set_option maxHeartbeats 4000000 in
theorem bX8_read_26b {Γ : xΓ} (C : xOK Γ cX8_read RX8 6) (hL : xn Γ = 7) {N : Nat} {K26 : xW → Int32 → Int32 → Int32 → Int32 → Int32 → Option (xW × Int32)} {w : xW} {x1 : Int32} {x2 : Int32} {x3 : Int32} {x4 : Int32} {x6 : Int32} {r : xW × Int32} (E : xEnd Γ (some .int) r.1 (some (.int r.2))) (hK26 : ∀ (w : xW) (x1 : Int32) (x2 : Int32) (x3 : Int32) (x4 : Int32) (x6 : Int32), K26 w x1 x2 x3 x4 x6 = some r → xG Γ w 26 [(0, .ref (xad Γ 55)), (1, .int x1), (2, .int x2), (3, .int x3), (4, .int x4), (6, .int x6)] []) (h : fX8_read_26b N K26 w x1 x2 x3 x4 x6 = some r) : xG Γ w 26 [(0, .ref (xad Γ 55)), (1, .int x1), (2, .int x2), (3, .int x3), (4, .int x4), (6, .int x6)] [] := by
  unfold fX8_read_26b at h
  refine xr_iload C 26 rfl dX8_read_26 ?_
  refine xr_aload_n C 28 rfl dX8_read_28 ?_
  refine xr_getR C 29 dX8_read_29 fl_X8_88 rfl rfl ?_
  refine xr_iload_n C 32 rfl dX8_read_32 ?_
  obtain ⟨q5, h⟩ := g_ib h
  refine xr_iald C 33 x1.toNatClampNeg rfl dX8_read_33 rfl (ibd_in q5) ?_
  refine xr_icmp_ge C 34 77 dX8_read_34 rfl (fun q => ?_) (fun q => ?_)
  · have h := g_it h q
    refine xr_iconst C 77 0 (by decide +kernel) dX8_read_77 ?_
    cases h
    exact xr_iret C 78 E dX8_read_78
  · have h := g_if h q
    refine xr_aload_n C 37 rfl dX8_read_37 ?_
    refine xr_getR C 38 dX8_read_38 fl_X8_91 rfl rfl ?_
    refine xr_bipush C 41 40 (by decide +kernel) dX8_read_41 ?_
    refine xr_iload_n C 43 rfl dX8_read_43 ?_
    refine xr_imul C 44 dX8_read_44 ?_
    refine xr_iload C 45 rfl dX8_read_45 ?_
    refine xr_iadd C 47 dX8_read_47 ?_
    obtain ⟨q6, h⟩ := g_ib h
    refine xr_lald C 48 (((40 * x1) + x6).toNatClampNeg) rfl dX8_read_48 rfl (ibd_in q6) ?_
    refine xr_aload_n C 49 rfl dX8_read_49 ?_
    refine xr_iload_n C 50 rfl dX8_read_50 ?_
    refine xr_iload_n C 51 rfl dX8_read_51 ?_
    refine xr_iload C 52 rfl dX8_read_52 ?_
    refine xr_iload C 54 rfl dX8_read_54 ?_
    refine xr_imul C 56 dX8_read_56 ?_
    refine xr_iadd C 57 dX8_read_57 ?_
    obtain ⟨z7, q8, h⟩ := g_bind h
    refine xr_callV C 58 (mX8_sideOf q8) v_X8_sideOf ml_X8_146 (Nat.le_of_ble_eq_true rfl) (Nat.le_of_ble_eq_true rfl) (xrecv C rfl rfl) rfl rfl (Nat.le_of_ble_eq_true rfl) rfl dX8_read_58 ?_
    refine xr_i2l C 61 dX8_read_61 ?_
    refine xr_lcmp C 62 dX8_read_62 ?_
    refine xr_if_eq C 63 71 dX8_read_63 rfl (fun q => ?_) (fun q => ?_)
    · have h := g_it h q
      refine xr_iinc C 71 1 (by decide +kernel) rfl dX8_read_71 (xnb hL rfl) ?_
      refine xr_goto C 74 26 dX8_read_74 rfl ?_
      exact xG.sub (hK26 _ _ _ _ _ _ h) ⟨rfl, rfl, rfl, rfl, rfl, rfl, trivial⟩
    · have h := g_if h q
      refine xr_iconst C 66 1 (by decide +kernel) dX8_read_66 ?_
      refine xr_iload C 67 rfl dX8_read_67 ?_
      refine xr_iadd C 69 dX8_read_69 ?_
      cases h
      exact xr_iret C 70 E dX8_read_70
set_option maxRecDepth 100000 in
set_option maxHeartbeats 4000000 in
theorem bX8_read_26 {Γ : xΓ} (C : xOK Γ cX8_read RX8 6) (hL : xn Γ = 7) {N : Nat} {r : xW × Int32} (E : xEnd Γ (some .int) r.1 (some (.int r.2))) : ∀ (n : Nat) (w : xW) (x1 : Int32) (x2 : Int32) (x3 : Int32) (x4 : Int32) (x6 : Int32), fX8_read_26 N n w x1 x2 x3 x4 x6 = some r → xG Γ w 26 [(0, .ref (xad Γ 55)), (1, .int x1), (2, .int x2), (3, .int x3), (4, .int x4), (6, .int x6)] []
  | 0, _, _, _, _, _, _, h => by cases h
  | n + 1, w, x1, x2, x3, x4, x6, h => bX8_read_26b C hL E (bX8_read_26 C hL E n) h
set_option maxRecDepth 100000 in
set_option maxHeartbeats 4000000 in
theorem bX8_read_0 {Γ : xΓ} (C : xOK Γ cX8_read RX8 6) (hL : xn Γ = 7) {N : Nat} {w : xW} {x1 : Int32} {x2 : Int32} {x3 : Int32} {x4 : Int32} {r : xW × Int32} (E : xEnd Γ (some .int) r.1 (some (.int r.2))) (h : fX8_read_0 N w x1 x2 x3 x4 = some r) : xG Γ w 0 [(0, .ref (xad Γ 55)), (1, .int x1), (2, .int x2), (3, .int x3), (4, .int x4)] [] := by
  unfold fX8_read_0 at h
  refine xr_aload_n C 0 rfl dX8_read_0 ?_
  refine xr_iload_n C 1 rfl dX8_read_1 ?_
  refine xr_iload_n C 2 rfl dX8_read_2 ?_
  refine xr_iload_n C 3 rfl dX8_read_3 ?_
  refine xr_iload C 4 rfl dX8_read_4 ?_
  obtain ⟨z1, q2, h⟩ := g_bind h
  refine xr_callV C 6 (mX8_refuses q2) v_X8_refuses ml_X8_327 (Nat.le_of_ble_eq_true rfl) (Nat.le_of_ble_eq_true rfl) (xrecv C rfl rfl) rfl rfl (Nat.le_of_ble_eq_true rfl) rfl dX8_read_6 ?_
  refine xr_istore C 9 dX8_read_9 (xnb hL rfl) ?_
  refine xr_iload C 11 rfl dX8_read_11 ?_
  refine xr_if_eq C 13 23 dX8_read_13 rfl (fun q => ?_) (fun q => ?_)
  · have h := g_it h q
    refine xr_iconst C 23 0 (by decide +kernel) dX8_read_23 ?_
    refine xr_istore C 24 dX8_read_24 (xnb hL rfl) ?_
    exact xG.sub (bX8_read_26 C hL E N _ _ _ _ _ _ h) ⟨rfl, rfl, rfl, rfl, rfl, rfl, trivial⟩
  · have h := g_if h q
    refine xr_aload_n C 16 rfl dX8_read_16 ?_
    refine xr_iload C 17 rfl dX8_read_17 ?_
    obtain ⟨z3, q4, h⟩ := g_bind h
    refine xr_callV C 19 (mX8_finding q4) v_X8_finding ml_X8_125 (Nat.le_of_ble_eq_true rfl) (Nat.le_of_ble_eq_true rfl) (xrecv C rfl rfl) rfl rfl (Nat.le_of_ble_eq_true rfl) rfl dX8_read_19 ?_
    cases h
    exact xr_iret C 22 E dX8_read_22
set_option maxRecDepth 100000 in
set_option maxHeartbeats 4000000 in
theorem mX8_read {l : Launch} {ad : Nat → Nat} {G : gEnv} {N : Nat} {w : xW} {x1 : Int32} {x2 : Int32} {x3 : Int32} {x4 : Int32} {r : xW × Int32} (h : fX8_read N w x1 x2 x3 x4 = some r) : xCt l ad G 6 yX8_read cX8_read 7 (some .int) [.ref (ad 55), .int x1, .int x2, .int x3, .int x4] w r.1 (some (.int r.2)) := xCt.of RX8 rfl (by decide +kernel) (Nat.le_of_ble_eq_true rfl) (fun Γ el ea eG eL C E => by
    subst el
    subst ea
    subst eG
    unfold fX8_read at h
    exact xG.sub (bX8_read_0 C eL  E h) ⟨rfl, rfl, rfl, rfl, rfl, trivial⟩)
def fX6_become_i2_32 (w : xW) : xW :=
  w
def fX6_become_i2_0 (w : xW) : xW :=
  fX6_become_i2_32 (sA (sA w 23 (va_cpy (w.1 3) (w.1 23) (Int32.toNatClampNeg 0) (Int32.toNatClampNeg 0) (Int32.toNatClampNeg 4))) 24 (va_cpy ((sA w 23 (va_cpy (w.1 3) (w.1 23) (Int32.toNatClampNeg 0) (Int32.toNatClampNeg 0) (Int32.toNatClampNeg 4))).1 4) ((sA w 23 (va_cpy (w.1 3) (w.1 23) (Int32.toNatClampNeg 0) (Int32.toNatClampNeg 0) (Int32.toNatClampNeg 4))).1 24) (Int32.toNatClampNeg 0) (Int32.toNatClampNeg 0) (Int32.toNatClampNeg 3)))
def fX6_become_i2 (w : xW) : xW := fX6_become_i2_0 w
set_option maxRecDepth 100000 in
set_option maxHeartbeats 4000000 in
theorem bX6_become_i2_32 {Γ : xΓ} (C : xOK Γ cX6_become RX6 2) (hL : xn Γ = 2) {w : xW} {r : xW} (E : xEnd Γ none r none) (h : fX6_become_i2_32  w = r) : xG Γ w 32 [] [] := by
  unfold fX6_become_i2_32 at h
  cases h
  exact xr_vret C 32 E dX6_become_32
set_option maxRecDepth 100000 in
set_option maxHeartbeats 4000000 in
theorem bX6_become_i2_0 {Γ : xΓ} (C : xOK Γ cX6_become RX6 2) (hL : xn Γ = 2) {w : xW} {r : xW} (E : xEnd Γ none r none) (h : fX6_become_i2_0  w = r) : xG Γ w 0 [(0, .ref (xad Γ 22)), (1, .ref (xad Γ 2))] [] := by
  unfold fX6_become_i2_0 at h
  refine xr_aload_n C 0 rfl dX6_become_0 ?_
  refine xr_getR C 1 dX6_become_1 fl_X6_9 rfl rfl ?_
  refine xr_iconst C 4 0 (by decide +kernel) dX6_become_4 ?_
  refine xr_aload_n C 5 rfl dX6_become_5 ?_
  refine xr_getR C 6 dX6_become_6 fl_X6_9 rfl rfl ?_
  refine xr_iconst C 9 0 (by decide +kernel) dX6_become_9 ?_
  refine xr_aload_n C 10 rfl dX6_become_10 ?_
  refine xr_getR C 11 dX6_become_11 fl_X6_9 rfl rfl ?_
  refine xr_alen_i C 14 4 (by decide +kernel) dX6_become_14 rfl ?_
  refine xr_copyi C 15 dX6_become_15 cp_X6_24 (Nat.le_of_ble_eq_true rfl) (Nat.le_of_ble_eq_true rfl) rfl rfl (by decide +kernel) ?_
  refine xr_aload_n C 18 rfl dX6_become_18 ?_
  refine xr_getR C 19 dX6_become_19 fl_X6_15 rfl rfl ?_
  refine xr_iconst C 22 0 (by decide +kernel) dX6_become_22 ?_
  refine xr_aload_n C 23 rfl dX6_become_23 ?_
  refine xr_getR C 24 dX6_become_24 fl_X6_15 rfl rfl ?_
  refine xr_iconst C 27 0 (by decide +kernel) dX6_become_27 ?_
  refine xr_iconst C 28 3 (by decide +kernel) dX6_become_28 ?_
  refine xr_copyi C 29 dX6_become_29 cp_X6_24 (Nat.le_of_ble_eq_true rfl) (Nat.le_of_ble_eq_true rfl) rfl rfl (by decide +kernel) ?_
  exact xG.sub (bX6_become_i2_32 C hL E h) trivial
set_option maxRecDepth 100000 in
set_option maxHeartbeats 4000000 in
theorem mX6_become_i2 {l : Launch} {ad : Nat → Nat} {G : gEnv} {w : xW} {r : xW} (h : fX6_become_i2 w = r) : xCt l ad G 2 yX6_become cX6_become 2 none [.ref (ad 22), .ref (ad 2)] w r none := xCt.of RX6 rfl (by decide +kernel) (Nat.le_of_ble_eq_true rfl) (fun Γ el ea eG eL C E => by
    subst el
    subst ea
    subst eG
    unfold fX6_become_i2 at h
    exact xG.sub (bX6_become_i2_0 C eL  E h) ⟨rfl, rfl, trivial⟩)
def fX1_become_i2_133 (w : xW) : xW :=
  w
def fX1_become_i2_103 (w : xW) : xW :=
  fX1_become_i2_133 (sA (sA w 29 (va_cpy (w.1 9) (w.1 29) (Int32.toNatClampNeg 0) (Int32.toNatClampNeg 0) (Int32.toNatClampNeg 6))) 30 (va_cpy ((sA w 29 (va_cpy (w.1 9) (w.1 29) (Int32.toNatClampNeg 0) (Int32.toNatClampNeg 0) (Int32.toNatClampNeg 6))).1 10) ((sA w 29 (va_cpy (w.1 9) (w.1 29) (Int32.toNatClampNeg 0) (Int32.toNatClampNeg 0) (Int32.toNatClampNeg 6))).1 30) (Int32.toNatClampNeg 0) (Int32.toNatClampNeg 0) (Int32.toNatClampNeg 6)))
def fX1_become_i2_65 (w : xW) : xW :=
  fX1_become_i2_103 (sA (sA (sI w 21 6 (w.1 1 6)) 27 (va_cpy ((sI w 21 6 (w.1 1 6)).1 7) ((sI w 21 6 (w.1 1 6)).1 27) (Int32.toNatClampNeg 0) (Int32.toNatClampNeg 0) (Int32.toNatClampNeg 6))) 28 (va_cpy ((sA (sI w 21 6 (w.1 1 6)) 27 (va_cpy ((sI w 21 6 (w.1 1 6)).1 7) ((sI w 21 6 (w.1 1 6)).1 27) (Int32.toNatClampNeg 0) (Int32.toNatClampNeg 0) (Int32.toNatClampNeg 6))).1 8) ((sA (sI w 21 6 (w.1 1 6)) 27 (va_cpy ((sI w 21 6 (w.1 1 6)).1 7) ((sI w 21 6 (w.1 1 6)).1 27) (Int32.toNatClampNeg 0) (Int32.toNatClampNeg 0) (Int32.toNatClampNeg 6))).1 28) (Int32.toNatClampNeg 0) (Int32.toNatClampNeg 0) (Int32.toNatClampNeg 6)))
def fX1_become_i2_35 (w : xW) : xW :=
  fX1_become_i2_65 (sA (sA w 25 (va_cpy (w.1 5) (w.1 25) (Int32.toNatClampNeg 0) (Int32.toNatClampNeg 0) (Int32.toNatClampNeg 8))) 26 (va_cpy ((sA w 25 (va_cpy (w.1 5) (w.1 25) (Int32.toNatClampNeg 0) (Int32.toNatClampNeg 0) (Int32.toNatClampNeg 8))).1 6) ((sA w 25 (va_cpy (w.1 5) (w.1 25) (Int32.toNatClampNeg 0) (Int32.toNatClampNeg 0) (Int32.toNatClampNeg 8))).1 26) (Int32.toNatClampNeg 0) (Int32.toNatClampNeg 0) (Int32.toNatClampNeg 8)))
def fX1_become_i2_0 (w : xW) : xW :=
  fX1_become_i2_35 (sI (sI (sI (fX6_become_i2 w) 21 1 ((fX6_become_i2 w).1 1 1)) 21 2 ((sI (fX6_become_i2 w) 21 1 ((fX6_become_i2 w).1 1 1)).1 1 2)) 21 3 ((sI (sI (fX6_become_i2 w) 21 1 ((fX6_become_i2 w).1 1 1)) 21 2 ((sI (fX6_become_i2 w) 21 1 ((fX6_become_i2 w).1 1 1)).1 1 2)).1 1 3))
def fX1_become_i2 (w : xW) : xW := fX1_become_i2_0 w
set_option maxRecDepth 100000 in
set_option maxHeartbeats 4000000 in
theorem bX1_become_i2_133 {Γ : xΓ} (C : xOK Γ cX1_become RX1 3) (hL : xn Γ = 2) {w : xW} {r : xW} (E : xEnd Γ none r none) (h : fX1_become_i2_133  w = r) : xG Γ w 133 [] [] := by
  unfold fX1_become_i2_133 at h
  cases h
  exact xr_vret C 133 E dX1_become_133
set_option maxRecDepth 100000 in
set_option maxHeartbeats 4000000 in
theorem bX1_become_i2_103 {Γ : xΓ} (C : xOK Γ cX1_become RX1 3) (hL : xn Γ = 2) {w : xW} {r : xW} (E : xEnd Γ none r none) (h : fX1_become_i2_103  w = r) : xG Γ w 103 [(0, .ref (xad Γ 21)), (1, .ref (xad Γ 1))] [] := by
  unfold fX1_become_i2_103 at h
  refine xr_aload_n C 103 rfl dX1_become_103 ?_
  refine xr_getR C 104 dX1_become_104 fl_X1_44 rfl rfl ?_
  refine xr_iconst C 107 0 (by decide +kernel) dX1_become_107 ?_
  refine xr_aload_n C 108 rfl dX1_become_108 ?_
  refine xr_getR C 109 dX1_become_109 fl_X1_44 rfl rfl ?_
  refine xr_iconst C 112 0 (by decide +kernel) dX1_become_112 ?_
  refine xr_bipush C 113 6 (by decide +kernel) dX1_become_113 ?_
  refine xr_copyi C 115 dX1_become_115 cp_X1_54 (Nat.le_of_ble_eq_true rfl) (Nat.le_of_ble_eq_true rfl) rfl rfl (by decide +kernel) ?_
  refine xr_aload_n C 118 rfl dX1_become_118 ?_
  refine xr_getR C 119 dX1_become_119 fl_X1_47 rfl rfl ?_
  refine xr_iconst C 122 0 (by decide +kernel) dX1_become_122 ?_
  refine xr_aload_n C 123 rfl dX1_become_123 ?_
  refine xr_getR C 124 dX1_become_124 fl_X1_47 rfl rfl ?_
  refine xr_iconst C 127 0 (by decide +kernel) dX1_become_127 ?_
  refine xr_bipush C 128 6 (by decide +kernel) dX1_become_128 ?_
  refine xr_copyi C 130 dX1_become_130 cp_X1_54 (Nat.le_of_ble_eq_true rfl) (Nat.le_of_ble_eq_true rfl) rfl rfl (by decide +kernel) ?_
  exact xG.sub (bX1_become_i2_133 C hL E h) trivial
set_option maxRecDepth 100000 in
set_option maxHeartbeats 4000000 in
theorem bX1_become_i2_65 {Γ : xΓ} (C : xOK Γ cX1_become RX1 3) (hL : xn Γ = 2) {w : xW} {r : xW} (E : xEnd Γ none r none) (h : fX1_become_i2_65  w = r) : xG Γ w 65 [(0, .ref (xad Γ 21)), (1, .ref (xad Γ 1))] [] := by
  unfold fX1_become_i2_65 at h
  refine xr_aload_n C 65 rfl dX1_become_65 ?_
  refine xr_aload_n C 66 rfl dX1_become_66 ?_
  refine xr_getI C 67 dX1_become_67 fl_X1_35 rfl rfl ?_
  refine xr_putI C 70 dX1_become_70 fp_X1_35 rfl rfl ?_
  refine xr_aload_n C 73 rfl dX1_become_73 ?_
  refine xr_getR C 74 dX1_become_74 fl_X1_38 rfl rfl ?_
  refine xr_iconst C 77 0 (by decide +kernel) dX1_become_77 ?_
  refine xr_aload_n C 78 rfl dX1_become_78 ?_
  refine xr_getR C 79 dX1_become_79 fl_X1_38 rfl rfl ?_
  refine xr_iconst C 82 0 (by decide +kernel) dX1_become_82 ?_
  refine xr_bipush C 83 6 (by decide +kernel) dX1_become_83 ?_
  refine xr_copyi C 85 dX1_become_85 cp_X1_54 (Nat.le_of_ble_eq_true rfl) (Nat.le_of_ble_eq_true rfl) rfl rfl (by decide +kernel) ?_
  refine xr_aload_n C 88 rfl dX1_become_88 ?_
  refine xr_getR C 89 dX1_become_89 fl_X1_41 rfl rfl ?_
  refine xr_iconst C 92 0 (by decide +kernel) dX1_become_92 ?_
  refine xr_aload_n C 93 rfl dX1_become_93 ?_
  refine xr_getR C 94 dX1_become_94 fl_X1_41 rfl rfl ?_
  refine xr_iconst C 97 0 (by decide +kernel) dX1_become_97 ?_
  refine xr_bipush C 98 6 (by decide +kernel) dX1_become_98 ?_
  refine xr_copyi C 100 dX1_become_100 cp_X1_54 (Nat.le_of_ble_eq_true rfl) (Nat.le_of_ble_eq_true rfl) rfl rfl (by decide +kernel) ?_
  exact xG.sub (bX1_become_i2_103 C hL E h) ⟨rfl, rfl, trivial⟩
set_option maxRecDepth 100000 in
set_option maxHeartbeats 4000000 in
theorem bX1_become_i2_35 {Γ : xΓ} (C : xOK Γ cX1_become RX1 3) (hL : xn Γ = 2) {w : xW} {r : xW} (E : xEnd Γ none r none) (h : fX1_become_i2_35  w = r) : xG Γ w 35 [(0, .ref (xad Γ 21)), (1, .ref (xad Γ 1))] [] := by
  unfold fX1_become_i2_35 at h
  refine xr_aload_n C 35 rfl dX1_become_35 ?_
  refine xr_getR C 36 dX1_become_36 fl_X1_28 rfl rfl ?_
  refine xr_iconst C 39 0 (by decide +kernel) dX1_become_39 ?_
  refine xr_aload_n C 40 rfl dX1_become_40 ?_
  refine xr_getR C 41 dX1_become_41 fl_X1_28 rfl rfl ?_
  refine xr_iconst C 44 0 (by decide +kernel) dX1_become_44 ?_
  refine xr_bipush C 45 8 (by decide +kernel) dX1_become_45 ?_
  refine xr_copyi C 47 dX1_become_47 cp_X1_54 (Nat.le_of_ble_eq_true rfl) (Nat.le_of_ble_eq_true rfl) rfl rfl (by decide +kernel) ?_
  refine xr_aload_n C 50 rfl dX1_become_50 ?_
  refine xr_getR C 51 dX1_become_51 fl_X1_32 rfl rfl ?_
  refine xr_iconst C 54 0 (by decide +kernel) dX1_become_54 ?_
  refine xr_aload_n C 55 rfl dX1_become_55 ?_
  refine xr_getR C 56 dX1_become_56 fl_X1_32 rfl rfl ?_
  refine xr_iconst C 59 0 (by decide +kernel) dX1_become_59 ?_
  refine xr_bipush C 60 8 (by decide +kernel) dX1_become_60 ?_
  refine xr_copyi C 62 dX1_become_62 cp_X1_54 (Nat.le_of_ble_eq_true rfl) (Nat.le_of_ble_eq_true rfl) rfl rfl (by decide +kernel) ?_
  exact xG.sub (bX1_become_i2_65 C hL E h) ⟨rfl, rfl, trivial⟩
set_option maxRecDepth 100000 in
set_option maxHeartbeats 4000000 in
theorem bX1_become_i2_0 {Γ : xΓ} (C : xOK Γ cX1_become RX1 3) (hL : xn Γ = 2) {w : xW} {r : xW} (E : xEnd Γ none r none) (h : fX1_become_i2_0  w = r) : xG Γ w 0 [(0, .ref (xad Γ 21)), (1, .ref (xad Γ 1))] [] := by
  unfold fX1_become_i2_0 at h
  refine xr_aload_n C 0 rfl dX1_become_0 ?_
  refine xr_getR C 1 dX1_become_1 fl_X1_12 rfl rfl ?_
  refine xr_aload_n C 4 rfl dX1_become_4 ?_
  refine xr_getR C 5 dX1_become_5 fl_X1_12 rfl rfl ?_
  refine xr_callV C 8 (mX6_become_i2 rfl) v_X6_become ml_X1_50 (Nat.le_of_ble_eq_true rfl) (Nat.le_of_ble_eq_true rfl) (xrecv C rfl rfl) rfl rfl (Nat.le_of_ble_eq_true rfl) rfl dX1_become_8 ?_
  refine xr_aload_n C 11 rfl dX1_become_11 ?_
  refine xr_aload_n C 12 rfl dX1_become_12 ?_
  refine xr_getI C 13 dX1_become_13 fl_X1_18 rfl rfl ?_
  refine xr_putI C 16 dX1_become_16 fp_X1_18 rfl rfl ?_
  refine xr_aload_n C 19 rfl dX1_become_19 ?_
  refine xr_aload_n C 20 rfl dX1_become_20 ?_
  refine xr_getI C 21 dX1_become_21 fl_X1_22 rfl rfl ?_
  refine xr_putI C 24 dX1_become_24 fp_X1_22 rfl rfl ?_
  refine xr_aload_n C 27 rfl dX1_become_27 ?_
  refine xr_aload_n C 28 rfl dX1_become_28 ?_
  refine xr_getI C 29 dX1_become_29 fl_X1_25 rfl rfl ?_
  refine xr_putI C 32 dX1_become_32 fp_X1_25 rfl rfl ?_
  exact xG.sub (bX1_become_i2_35 C hL E h) ⟨rfl, rfl, trivial⟩
set_option maxRecDepth 100000 in
set_option maxHeartbeats 4000000 in
theorem mX1_become_i2 {l : Launch} {ad : Nat → Nat} {G : gEnv} {w : xW} {r : xW} (h : fX1_become_i2 w = r) : xCt l ad G 3 yX1_become cX1_become 2 none [.ref (ad 21), .ref (ad 1)] w r none := xCt.of RX1 rfl (by decide +kernel) (Nat.le_of_ble_eq_true rfl) (fun Γ el ea eG eL C E => by
    subst el
    subst ea
    subst eG
    unfold fX1_become_i2 at h
    exact xG.sub (bX1_become_i2_0 C eL  E h) ⟨rfl, rfl, trivial⟩)
def fX7_image_0 (w : xW) : xW × Int32 :=
  (sI (fX1_become_i2 w) 0 3 1, 1)
def fX7_image (w : xW) : xW × Int32 := fX7_image_0 w
set_option maxRecDepth 100000 in
set_option maxHeartbeats 4000000 in
theorem bX7_image_0 {Γ : xΓ} (C : xOK Γ cX7_image RX7 4) (hL : xn Γ = 1) {w : xW} {r : xW × Int32} (E : xEnd Γ (some .int) r.1 (some (.int r.2))) (h : fX7_image_0  w = r) : xG Γ w 0 [(0, .ref (xad Γ 0))] [] := by
  unfold fX7_image_0 at h
  refine xr_aload_n C 0 rfl dX7_image_0 ?_
  refine xr_getR C 1 dX7_image_1 fl_X7_19 rfl rfl ?_
  refine xr_aload_n C 4 rfl dX7_image_4 ?_
  refine xr_getR C 5 dX7_image_5 fl_X7_10 rfl rfl ?_
  refine xr_callV C 8 (mX1_become_i2 rfl) v_X1_become ml_X7_236 (Nat.le_of_ble_eq_true rfl) (Nat.le_of_ble_eq_true rfl) (xrecv C rfl rfl) rfl rfl (Nat.le_of_ble_eq_true rfl) rfl dX7_image_8 ?_
  refine xr_aload_n C 11 rfl dX7_image_11 ?_
  refine xr_iconst C 12 1 (by decide +kernel) dX7_image_12 ?_
  refine xr_putZ C 13 dX7_image_13 fp_X7_22 rfl rfl (by decide +kernel) ?_
  refine xr_iconst C 16 1 (by decide +kernel) dX7_image_16 ?_
  cases h
  exact xr_iret C 17 E dX7_image_17
set_option maxRecDepth 100000 in
set_option maxHeartbeats 4000000 in
theorem mX7_image {l : Launch} {ad : Nat → Nat} {G : gEnv} {w : xW} {r : xW × Int32} (h : fX7_image w = r) : xCt l ad G 4 yX7_image cX7_image 1 (some .int) [.ref (ad 0)] w r.1 (some (.int r.2)) := xCt.of RX7 rfl (by decide +kernel) (Nat.le_of_ble_eq_true rfl) (fun Γ el ea eG eL C E => by
    subst el
    subst ea
    subst eG
    unfold fX7_image at h
    exact xG.sub (bX7_image_0 C eL  E h) ⟨rfl, trivial⟩)
def fX8_copyRow_2b (N : Nat) (K2 : xW → Int32 → Option xW) (w : xW) (x2 : Int32) : Option xW :=
  if 51 ≤ x2 then
    some w
  else
  if ibd x2 51 = true then
  K2 (sI w 57 x2.toNatClampNeg (w.1 56 x2.toNatClampNeg)) (x2 + 1)
  else none
def fX8_copyRow_2 (N : Nat) : Nat → xW → Int32 → Option xW
  | 0, _, _ => none
  | n + 1, w, x2 => fX8_copyRow_2b N (fX8_copyRow_2 N n) w x2
def fX8_copyRow_0 (N : Nat) (w : xW) : Option xW :=
  fX8_copyRow_2 N N w 0
def fX8_copyRow (N : Nat) (w : xW) : Option xW := fX8_copyRow_0 N w
set_option maxRecDepth 100000 in
set_option maxHeartbeats 4000000 in
theorem bX8_copyRow_2b {Γ : xΓ} (C : xOK Γ cX8_copyRow RX8 1) (hL : xn Γ = 3) {N : Nat} {K2 : xW → Int32 → Option xW} {w : xW} {x2 : Int32} {r : xW} (E : xEnd Γ none r none) (hK2 : ∀ (w : xW) (x2 : Int32), K2 w x2 = some r → xG Γ w 2 [(0, .ref (xad Γ 56)), (1, .ref (xad Γ 57)), (2, .int x2)] []) (h : fX8_copyRow_2b N K2 w x2 = some r) : xG Γ w 2 [(0, .ref (xad Γ 56)), (1, .ref (xad Γ 57)), (2, .int x2)] [] := by
  unfold fX8_copyRow_2b at h
  refine xr_iload_n C 2 rfl dX8_copyRow_2 ?_
  refine xr_bipush C 3 51 (by decide +kernel) dX8_copyRow_3 ?_
  refine xr_icmp_ge C 5 20 dX8_copyRow_5 rfl (fun q => ?_) (fun q => ?_)
  · have h := g_it h q
    cases h
    exact xr_vret C 20 E dX8_copyRow_20
  · have h := g_if h q
    refine xr_aload_n C 8 rfl dX8_copyRow_8 ?_
    refine xr_iload_n C 9 rfl dX8_copyRow_9 ?_
    refine xr_aload_n C 10 rfl dX8_copyRow_10 ?_
    refine xr_iload_n C 11 rfl dX8_copyRow_11 ?_
    obtain ⟨q1, h⟩ := g_ib h
    refine xr_iald C 12 x2.toNatClampNeg rfl dX8_copyRow_12 rfl (ibd_in q1) ?_
    refine xr_iast C 13 x2.toNatClampNeg rfl dX8_copyRow_13 rfl (ibd_in q1) ?_
    refine xr_iinc C 14 1 (by decide +kernel) rfl dX8_copyRow_14 (xnb hL rfl) ?_
    refine xr_goto C 17 2 dX8_copyRow_17 rfl ?_
    exact xG.sub (hK2 _ _ h) ⟨rfl, rfl, rfl, trivial⟩
set_option maxRecDepth 100000 in
set_option maxHeartbeats 4000000 in
theorem bX8_copyRow_2 {Γ : xΓ} (C : xOK Γ cX8_copyRow RX8 1) (hL : xn Γ = 3) {N : Nat} {r : xW} (E : xEnd Γ none r none) : ∀ (n : Nat) (w : xW) (x2 : Int32), fX8_copyRow_2 N n w x2 = some r → xG Γ w 2 [(0, .ref (xad Γ 56)), (1, .ref (xad Γ 57)), (2, .int x2)] []
  | 0, _, _, h => by cases h
  | n + 1, w, x2, h => bX8_copyRow_2b C hL E (bX8_copyRow_2 C hL E n) h
set_option maxRecDepth 100000 in
set_option maxHeartbeats 4000000 in
theorem bX8_copyRow_0 {Γ : xΓ} (C : xOK Γ cX8_copyRow RX8 1) (hL : xn Γ = 3) {N : Nat} {w : xW} {r : xW} (E : xEnd Γ none r none) (h : fX8_copyRow_0 N w = some r) : xG Γ w 0 [(0, .ref (xad Γ 56)), (1, .ref (xad Γ 57))] [] := by
  unfold fX8_copyRow_0 at h
  refine xr_iconst C 0 0 (by decide +kernel) dX8_copyRow_0 ?_
  refine xr_istore_n C 1 dX8_copyRow_1 (xnb hL rfl) ?_
  exact xG.sub (bX8_copyRow_2 C hL E N _ _ h) ⟨rfl, rfl, rfl, trivial⟩
set_option maxRecDepth 100000 in
set_option maxHeartbeats 4000000 in
theorem mX8_copyRow {l : Launch} {ad : Nat → Nat} {G : gEnv} {N : Nat} {w : xW} {r : xW} (h : fX8_copyRow N w = some r) : xCt l ad G 1 yX8_copyRow cX8_copyRow 3 none [.ref (ad 56), .ref (ad 57)] w r none := xCt.of RX8 rfl (by decide +kernel) (Nat.le_of_ble_eq_true rfl) (fun Γ el ea eG eL C E => by
    subst el
    subst ea
    subst eG
    unfold fX8_copyRow at h
    exact xG.sub (bX8_copyRow_0 C eL  E h) ⟨rfl, rfl, trivial⟩)
def fX8_image_0 (N : Nat) (w : xW) : Option (xW × Int32) :=
  (fX8_copyRow N w).bind fun z1 =>
  some (sI z1 55 2 1, 1)
def fX8_image (N : Nat) (w : xW) : Option (xW × Int32) := fX8_image_0 N w
set_option maxRecDepth 100000 in
set_option maxHeartbeats 4000000 in
theorem bX8_image_0 {Γ : xΓ} (C : xOK Γ cX8_image RX8 2) (hL : xn Γ = 1) {N : Nat} {w : xW} {r : xW × Int32} (E : xEnd Γ (some .int) r.1 (some (.int r.2))) (h : fX8_image_0 N w = some r) : xG Γ w 0 [(0, .ref (xad Γ 55))] [] := by
  unfold fX8_image_0 at h
  refine xr_aload_n C 0 rfl dX8_image_0 ?_
  refine xr_getR C 1 dX8_image_1 fl_X8_9 rfl rfl ?_
  refine xr_aload_n C 4 rfl dX8_image_4 ?_
  refine xr_getR C 5 dX8_image_5 fl_X8_13 rfl rfl ?_
  obtain ⟨z1, q2, h⟩ := g_bind h
  refine xr_callS C 8 (mX8_copyRow q2) v_X8_copyRow ml_X8_330 (Nat.le_of_ble_eq_true rfl) (Nat.le_of_ble_eq_true rfl) rfl rfl (Nat.le_of_ble_eq_true rfl) rfl dX8_image_8 ?_
  refine xr_aload_n C 11 rfl dX8_image_11 ?_
  refine xr_iconst C 12 1 (by decide +kernel) dX8_image_12 ?_
  refine xr_putZ C 13 dX8_image_13 fp_X8_334 rfl rfl (by decide +kernel) ?_
  refine xr_iconst C 16 1 (by decide +kernel) dX8_image_16 ?_
  cases h
  exact xr_iret C 17 E dX8_image_17
set_option maxRecDepth 100000 in
set_option maxHeartbeats 4000000 in
theorem mX8_image {l : Launch} {ad : Nat → Nat} {G : gEnv} {N : Nat} {w : xW} {r : xW × Int32} (h : fX8_image N w = some r) : xCt l ad G 2 yX8_image cX8_image 1 (some .int) [.ref (ad 55)] w r.1 (some (.int r.2)) := xCt.of RX8 rfl (by decide +kernel) (Nat.le_of_ble_eq_true rfl) (fun Γ el ea eG eL C E => by
    subst el
    subst ea
    subst eG
    unfold fX8_image at h
    exact xG.sub (bX8_image_0 C eL  E h) ⟨rfl, trivial⟩)
def fX6_become_i3_32 (w : xW) : xW :=
  w
def fX6_become_i3_0 (w : xW) : xW :=
  fX6_become_i3_32 (sA (sA w 3 (va_cpy (w.1 23) (w.1 3) (Int32.toNatClampNeg 0) (Int32.toNatClampNeg 0) (Int32.toNatClampNeg 4))) 4 (va_cpy ((sA w 3 (va_cpy (w.1 23) (w.1 3) (Int32.toNatClampNeg 0) (Int32.toNatClampNeg 0) (Int32.toNatClampNeg 4))).1 24) ((sA w 3 (va_cpy (w.1 23) (w.1 3) (Int32.toNatClampNeg 0) (Int32.toNatClampNeg 0) (Int32.toNatClampNeg 4))).1 4) (Int32.toNatClampNeg 0) (Int32.toNatClampNeg 0) (Int32.toNatClampNeg 3)))
def fX6_become_i3 (w : xW) : xW := fX6_become_i3_0 w
set_option maxRecDepth 100000 in
set_option maxHeartbeats 4000000 in
theorem bX6_become_i3_32 {Γ : xΓ} (C : xOK Γ cX6_become RX6 2) (hL : xn Γ = 2) {w : xW} {r : xW} (E : xEnd Γ none r none) (h : fX6_become_i3_32  w = r) : xG Γ w 32 [] [] := by
  unfold fX6_become_i3_32 at h
  cases h
  exact xr_vret C 32 E dX6_become_32
set_option maxRecDepth 100000 in
set_option maxHeartbeats 4000000 in
theorem bX6_become_i3_0 {Γ : xΓ} (C : xOK Γ cX6_become RX6 2) (hL : xn Γ = 2) {w : xW} {r : xW} (E : xEnd Γ none r none) (h : fX6_become_i3_0  w = r) : xG Γ w 0 [(0, .ref (xad Γ 2)), (1, .ref (xad Γ 22))] [] := by
  unfold fX6_become_i3_0 at h
  refine xr_aload_n C 0 rfl dX6_become_0 ?_
  refine xr_getR C 1 dX6_become_1 fl_X6_9 rfl rfl ?_
  refine xr_iconst C 4 0 (by decide +kernel) dX6_become_4 ?_
  refine xr_aload_n C 5 rfl dX6_become_5 ?_
  refine xr_getR C 6 dX6_become_6 fl_X6_9 rfl rfl ?_
  refine xr_iconst C 9 0 (by decide +kernel) dX6_become_9 ?_
  refine xr_aload_n C 10 rfl dX6_become_10 ?_
  refine xr_getR C 11 dX6_become_11 fl_X6_9 rfl rfl ?_
  refine xr_alen_i C 14 4 (by decide +kernel) dX6_become_14 rfl ?_
  refine xr_copyi C 15 dX6_become_15 cp_X6_24 (Nat.le_of_ble_eq_true rfl) (Nat.le_of_ble_eq_true rfl) rfl rfl (by decide +kernel) ?_
  refine xr_aload_n C 18 rfl dX6_become_18 ?_
  refine xr_getR C 19 dX6_become_19 fl_X6_15 rfl rfl ?_
  refine xr_iconst C 22 0 (by decide +kernel) dX6_become_22 ?_
  refine xr_aload_n C 23 rfl dX6_become_23 ?_
  refine xr_getR C 24 dX6_become_24 fl_X6_15 rfl rfl ?_
  refine xr_iconst C 27 0 (by decide +kernel) dX6_become_27 ?_
  refine xr_iconst C 28 3 (by decide +kernel) dX6_become_28 ?_
  refine xr_copyi C 29 dX6_become_29 cp_X6_24 (Nat.le_of_ble_eq_true rfl) (Nat.le_of_ble_eq_true rfl) rfl rfl (by decide +kernel) ?_
  exact xG.sub (bX6_become_i3_32 C hL E h) trivial
set_option maxRecDepth 100000 in
set_option maxHeartbeats 4000000 in
theorem mX6_become_i3 {l : Launch} {ad : Nat → Nat} {G : gEnv} {w : xW} {r : xW} (h : fX6_become_i3 w = r) : xCt l ad G 2 yX6_become cX6_become 2 none [.ref (ad 2), .ref (ad 22)] w r none := xCt.of RX6 rfl (by decide +kernel) (Nat.le_of_ble_eq_true rfl) (fun Γ el ea eG eL C E => by
    subst el
    subst ea
    subst eG
    unfold fX6_become_i3 at h
    exact xG.sub (bX6_become_i3_0 C eL  E h) ⟨rfl, rfl, trivial⟩)
def fX1_become_i3_133 (w : xW) : xW :=
  w
def fX1_become_i3_103 (w : xW) : xW :=
  fX1_become_i3_133 (sA (sA w 9 (va_cpy (w.1 29) (w.1 9) (Int32.toNatClampNeg 0) (Int32.toNatClampNeg 0) (Int32.toNatClampNeg 6))) 10 (va_cpy ((sA w 9 (va_cpy (w.1 29) (w.1 9) (Int32.toNatClampNeg 0) (Int32.toNatClampNeg 0) (Int32.toNatClampNeg 6))).1 30) ((sA w 9 (va_cpy (w.1 29) (w.1 9) (Int32.toNatClampNeg 0) (Int32.toNatClampNeg 0) (Int32.toNatClampNeg 6))).1 10) (Int32.toNatClampNeg 0) (Int32.toNatClampNeg 0) (Int32.toNatClampNeg 6)))
def fX1_become_i3_65 (w : xW) : xW :=
  fX1_become_i3_103 (sA (sA (sI w 1 6 (w.1 21 6)) 7 (va_cpy ((sI w 1 6 (w.1 21 6)).1 27) ((sI w 1 6 (w.1 21 6)).1 7) (Int32.toNatClampNeg 0) (Int32.toNatClampNeg 0) (Int32.toNatClampNeg 6))) 8 (va_cpy ((sA (sI w 1 6 (w.1 21 6)) 7 (va_cpy ((sI w 1 6 (w.1 21 6)).1 27) ((sI w 1 6 (w.1 21 6)).1 7) (Int32.toNatClampNeg 0) (Int32.toNatClampNeg 0) (Int32.toNatClampNeg 6))).1 28) ((sA (sI w 1 6 (w.1 21 6)) 7 (va_cpy ((sI w 1 6 (w.1 21 6)).1 27) ((sI w 1 6 (w.1 21 6)).1 7) (Int32.toNatClampNeg 0) (Int32.toNatClampNeg 0) (Int32.toNatClampNeg 6))).1 8) (Int32.toNatClampNeg 0) (Int32.toNatClampNeg 0) (Int32.toNatClampNeg 6)))
def fX1_become_i3_35 (w : xW) : xW :=
  fX1_become_i3_65 (sA (sA w 5 (va_cpy (w.1 25) (w.1 5) (Int32.toNatClampNeg 0) (Int32.toNatClampNeg 0) (Int32.toNatClampNeg 8))) 6 (va_cpy ((sA w 5 (va_cpy (w.1 25) (w.1 5) (Int32.toNatClampNeg 0) (Int32.toNatClampNeg 0) (Int32.toNatClampNeg 8))).1 26) ((sA w 5 (va_cpy (w.1 25) (w.1 5) (Int32.toNatClampNeg 0) (Int32.toNatClampNeg 0) (Int32.toNatClampNeg 8))).1 6) (Int32.toNatClampNeg 0) (Int32.toNatClampNeg 0) (Int32.toNatClampNeg 8)))
def fX1_become_i3_0 (w : xW) : xW :=
  fX1_become_i3_35 (sI (sI (sI (fX6_become_i3 w) 1 1 ((fX6_become_i3 w).1 21 1)) 1 2 ((sI (fX6_become_i3 w) 1 1 ((fX6_become_i3 w).1 21 1)).1 21 2)) 1 3 ((sI (sI (fX6_become_i3 w) 1 1 ((fX6_become_i3 w).1 21 1)) 1 2 ((sI (fX6_become_i3 w) 1 1 ((fX6_become_i3 w).1 21 1)).1 21 2)).1 21 3))
def fX1_become_i3 (w : xW) : xW := fX1_become_i3_0 w
set_option maxRecDepth 100000 in
set_option maxHeartbeats 4000000 in
theorem bX1_become_i3_133 {Γ : xΓ} (C : xOK Γ cX1_become RX1 3) (hL : xn Γ = 2) {w : xW} {r : xW} (E : xEnd Γ none r none) (h : fX1_become_i3_133  w = r) : xG Γ w 133 [] [] := by
  unfold fX1_become_i3_133 at h
  cases h
  exact xr_vret C 133 E dX1_become_133
set_option maxRecDepth 100000 in
set_option maxHeartbeats 4000000 in
theorem bX1_become_i3_103 {Γ : xΓ} (C : xOK Γ cX1_become RX1 3) (hL : xn Γ = 2) {w : xW} {r : xW} (E : xEnd Γ none r none) (h : fX1_become_i3_103  w = r) : xG Γ w 103 [(0, .ref (xad Γ 1)), (1, .ref (xad Γ 21))] [] := by
  unfold fX1_become_i3_103 at h
  refine xr_aload_n C 103 rfl dX1_become_103 ?_
  refine xr_getR C 104 dX1_become_104 fl_X1_44 rfl rfl ?_
  refine xr_iconst C 107 0 (by decide +kernel) dX1_become_107 ?_
  refine xr_aload_n C 108 rfl dX1_become_108 ?_
  refine xr_getR C 109 dX1_become_109 fl_X1_44 rfl rfl ?_
  refine xr_iconst C 112 0 (by decide +kernel) dX1_become_112 ?_
  refine xr_bipush C 113 6 (by decide +kernel) dX1_become_113 ?_
  refine xr_copyi C 115 dX1_become_115 cp_X1_54 (Nat.le_of_ble_eq_true rfl) (Nat.le_of_ble_eq_true rfl) rfl rfl (by decide +kernel) ?_
  refine xr_aload_n C 118 rfl dX1_become_118 ?_
  refine xr_getR C 119 dX1_become_119 fl_X1_47 rfl rfl ?_
  refine xr_iconst C 122 0 (by decide +kernel) dX1_become_122 ?_
  refine xr_aload_n C 123 rfl dX1_become_123 ?_
  refine xr_getR C 124 dX1_become_124 fl_X1_47 rfl rfl ?_
  refine xr_iconst C 127 0 (by decide +kernel) dX1_become_127 ?_
  refine xr_bipush C 128 6 (by decide +kernel) dX1_become_128 ?_
  refine xr_copyi C 130 dX1_become_130 cp_X1_54 (Nat.le_of_ble_eq_true rfl) (Nat.le_of_ble_eq_true rfl) rfl rfl (by decide +kernel) ?_
  exact xG.sub (bX1_become_i3_133 C hL E h) trivial
set_option maxRecDepth 100000 in
set_option maxHeartbeats 4000000 in
theorem bX1_become_i3_65 {Γ : xΓ} (C : xOK Γ cX1_become RX1 3) (hL : xn Γ = 2) {w : xW} {r : xW} (E : xEnd Γ none r none) (h : fX1_become_i3_65  w = r) : xG Γ w 65 [(0, .ref (xad Γ 1)), (1, .ref (xad Γ 21))] [] := by
  unfold fX1_become_i3_65 at h
  refine xr_aload_n C 65 rfl dX1_become_65 ?_
  refine xr_aload_n C 66 rfl dX1_become_66 ?_
  refine xr_getI C 67 dX1_become_67 fl_X1_35 rfl rfl ?_
  refine xr_putI C 70 dX1_become_70 fp_X1_35 rfl rfl ?_
  refine xr_aload_n C 73 rfl dX1_become_73 ?_
  refine xr_getR C 74 dX1_become_74 fl_X1_38 rfl rfl ?_
  refine xr_iconst C 77 0 (by decide +kernel) dX1_become_77 ?_
  refine xr_aload_n C 78 rfl dX1_become_78 ?_
  refine xr_getR C 79 dX1_become_79 fl_X1_38 rfl rfl ?_
  refine xr_iconst C 82 0 (by decide +kernel) dX1_become_82 ?_
  refine xr_bipush C 83 6 (by decide +kernel) dX1_become_83 ?_
  refine xr_copyi C 85 dX1_become_85 cp_X1_54 (Nat.le_of_ble_eq_true rfl) (Nat.le_of_ble_eq_true rfl) rfl rfl (by decide +kernel) ?_
  refine xr_aload_n C 88 rfl dX1_become_88 ?_
  refine xr_getR C 89 dX1_become_89 fl_X1_41 rfl rfl ?_
  refine xr_iconst C 92 0 (by decide +kernel) dX1_become_92 ?_
  refine xr_aload_n C 93 rfl dX1_become_93 ?_
  refine xr_getR C 94 dX1_become_94 fl_X1_41 rfl rfl ?_
  refine xr_iconst C 97 0 (by decide +kernel) dX1_become_97 ?_
  refine xr_bipush C 98 6 (by decide +kernel) dX1_become_98 ?_
  refine xr_copyi C 100 dX1_become_100 cp_X1_54 (Nat.le_of_ble_eq_true rfl) (Nat.le_of_ble_eq_true rfl) rfl rfl (by decide +kernel) ?_
  exact xG.sub (bX1_become_i3_103 C hL E h) ⟨rfl, rfl, trivial⟩
set_option maxRecDepth 100000 in
set_option maxHeartbeats 4000000 in
theorem bX1_become_i3_35 {Γ : xΓ} (C : xOK Γ cX1_become RX1 3) (hL : xn Γ = 2) {w : xW} {r : xW} (E : xEnd Γ none r none) (h : fX1_become_i3_35  w = r) : xG Γ w 35 [(0, .ref (xad Γ 1)), (1, .ref (xad Γ 21))] [] := by
  unfold fX1_become_i3_35 at h
  refine xr_aload_n C 35 rfl dX1_become_35 ?_
  refine xr_getR C 36 dX1_become_36 fl_X1_28 rfl rfl ?_
  refine xr_iconst C 39 0 (by decide +kernel) dX1_become_39 ?_
  refine xr_aload_n C 40 rfl dX1_become_40 ?_
  refine xr_getR C 41 dX1_become_41 fl_X1_28 rfl rfl ?_
  refine xr_iconst C 44 0 (by decide +kernel) dX1_become_44 ?_
  refine xr_bipush C 45 8 (by decide +kernel) dX1_become_45 ?_
  refine xr_copyi C 47 dX1_become_47 cp_X1_54 (Nat.le_of_ble_eq_true rfl) (Nat.le_of_ble_eq_true rfl) rfl rfl (by decide +kernel) ?_
  refine xr_aload_n C 50 rfl dX1_become_50 ?_
  refine xr_getR C 51 dX1_become_51 fl_X1_32 rfl rfl ?_
  refine xr_iconst C 54 0 (by decide +kernel) dX1_become_54 ?_
  refine xr_aload_n C 55 rfl dX1_become_55 ?_
  refine xr_getR C 56 dX1_become_56 fl_X1_32 rfl rfl ?_
  refine xr_iconst C 59 0 (by decide +kernel) dX1_become_59 ?_
  refine xr_bipush C 60 8 (by decide +kernel) dX1_become_60 ?_
  refine xr_copyi C 62 dX1_become_62 cp_X1_54 (Nat.le_of_ble_eq_true rfl) (Nat.le_of_ble_eq_true rfl) rfl rfl (by decide +kernel) ?_
  exact xG.sub (bX1_become_i3_65 C hL E h) ⟨rfl, rfl, trivial⟩
set_option maxRecDepth 100000 in
set_option maxHeartbeats 4000000 in
theorem bX1_become_i3_0 {Γ : xΓ} (C : xOK Γ cX1_become RX1 3) (hL : xn Γ = 2) {w : xW} {r : xW} (E : xEnd Γ none r none) (h : fX1_become_i3_0  w = r) : xG Γ w 0 [(0, .ref (xad Γ 1)), (1, .ref (xad Γ 21))] [] := by
  unfold fX1_become_i3_0 at h
  refine xr_aload_n C 0 rfl dX1_become_0 ?_
  refine xr_getR C 1 dX1_become_1 fl_X1_12 rfl rfl ?_
  refine xr_aload_n C 4 rfl dX1_become_4 ?_
  refine xr_getR C 5 dX1_become_5 fl_X1_12 rfl rfl ?_
  refine xr_callV C 8 (mX6_become_i3 rfl) v_X6_become ml_X1_50 (Nat.le_of_ble_eq_true rfl) (Nat.le_of_ble_eq_true rfl) (xrecv C rfl rfl) rfl rfl (Nat.le_of_ble_eq_true rfl) rfl dX1_become_8 ?_
  refine xr_aload_n C 11 rfl dX1_become_11 ?_
  refine xr_aload_n C 12 rfl dX1_become_12 ?_
  refine xr_getI C 13 dX1_become_13 fl_X1_18 rfl rfl ?_
  refine xr_putI C 16 dX1_become_16 fp_X1_18 rfl rfl ?_
  refine xr_aload_n C 19 rfl dX1_become_19 ?_
  refine xr_aload_n C 20 rfl dX1_become_20 ?_
  refine xr_getI C 21 dX1_become_21 fl_X1_22 rfl rfl ?_
  refine xr_putI C 24 dX1_become_24 fp_X1_22 rfl rfl ?_
  refine xr_aload_n C 27 rfl dX1_become_27 ?_
  refine xr_aload_n C 28 rfl dX1_become_28 ?_
  refine xr_getI C 29 dX1_become_29 fl_X1_25 rfl rfl ?_
  refine xr_putI C 32 dX1_become_32 fp_X1_25 rfl rfl ?_
  exact xG.sub (bX1_become_i3_35 C hL E h) ⟨rfl, rfl, trivial⟩
set_option maxRecDepth 100000 in
set_option maxHeartbeats 4000000 in
theorem mX1_become_i3 {l : Launch} {ad : Nat → Nat} {G : gEnv} {w : xW} {r : xW} (h : fX1_become_i3 w = r) : xCt l ad G 3 yX1_become cX1_become 2 none [.ref (ad 1), .ref (ad 21)] w r none := xCt.of RX1 rfl (by decide +kernel) (Nat.le_of_ble_eq_true rfl) (fun Γ el ea eG eL C E => by
    subst el
    subst ea
    subst eG
    unfold fX1_become_i3 at h
    exact xG.sub (bX1_become_i3_0 C eL  E h) ⟨rfl, rfl, trivial⟩)
def fX7_undo_0 (w : xW) : Option (xW × Int32) :=
  if (w.1 0 3) = 0 then
    (fX7_refuse w (-1000000004)).bind fun z1 =>
    some (z1.1, z1.2)
  else
  some ((fX1_become_i3 (fX0_forget w)), (fX1_become_i3 (fX0_forget w)).1 1 3)
def fX7_undo (w : xW) : Option (xW × Int32) := fX7_undo_0 w
set_option maxRecDepth 100000 in
set_option maxHeartbeats 4000000 in
theorem bX7_undo_0 {Γ : xΓ} (C : xOK Γ cX7_undo RX7 4) (hL : xn Γ = 1) {w : xW} {r : xW × Int32} (E : xEnd Γ (some .int) r.1 (some (.int r.2))) (h : fX7_undo_0  w = some r) : xG Γ w 0 [(0, .ref (xad Γ 0))] [] := by
  unfold fX7_undo_0 at h
  refine xr_aload_n C 0 rfl dX7_undo_0 ?_
  refine xr_getI C 1 dX7_undo_1 fl_X7_22 rfl rfl ?_
  refine xr_if_ne C 4 14 dX7_undo_4 rfl (fun q => ?_) (fun q => ?_)
  · have h := g_if h q
    refine xr_aload_n C 14 rfl dX7_undo_14 ?_
    refine xr_getR C 15 dX7_undo_15 fl_X7_36 rfl rfl ?_
    refine xr_callV C 18 (mX0_forget rfl) v_X0_forget ml_X7_74 (Nat.le_of_ble_eq_true rfl) (Nat.le_of_ble_eq_true rfl) (xrecv C rfl rfl) rfl rfl (Nat.le_of_ble_eq_true rfl) rfl dX7_undo_18 ?_
    refine xr_aload_n C 21 rfl dX7_undo_21 ?_
    refine xr_getR C 22 dX7_undo_22 fl_X7_10 rfl rfl ?_
    refine xr_aload_n C 25 rfl dX7_undo_25 ?_
    refine xr_getR C 26 dX7_undo_26 fl_X7_19 rfl rfl ?_
    refine xr_callV C 29 (mX1_become_i3 rfl) v_X1_become ml_X7_236 (Nat.le_of_ble_eq_true rfl) (Nat.le_of_ble_eq_true rfl) (xrecv C rfl rfl) rfl rfl (Nat.le_of_ble_eq_true rfl) rfl dX7_undo_29 ?_
    refine xr_aload_n C 32 rfl dX7_undo_32 ?_
    refine xr_getR C 33 dX7_undo_33 fl_X7_10 rfl rfl ?_
    refine xr_getI C 36 dX7_undo_36 fl_X7_127 rfl rfl ?_
    cases h
    exact xr_iret C 39 E dX7_undo_39
  · have h := g_it h q
    refine xr_aload_n C 7 rfl dX7_undo_7 ?_
    refine xr_ldc C 8 k_X7_120 dX7_undo_8 ?_
    obtain ⟨z1, q2, h⟩ := g_bind h
    refine xr_callV C 10 (mX7_refuse q2) v_X7_refuse ml_X7_70 (Nat.le_of_ble_eq_true rfl) (Nat.le_of_ble_eq_true rfl) (xrecv C rfl rfl) rfl rfl (Nat.le_of_ble_eq_true rfl) rfl dX7_undo_10 ?_
    cases h
    exact xr_iret C 13 E dX7_undo_13
set_option maxRecDepth 100000 in
set_option maxHeartbeats 4000000 in
theorem mX7_undo {l : Launch} {ad : Nat → Nat} {G : gEnv} {w : xW} {r : xW × Int32} (h : fX7_undo w = some r) : xCt l ad G 4 yX7_undo cX7_undo 1 (some .int) [.ref (ad 0)] w r.1 (some (.int r.2)) := xCt.of RX7 rfl (by decide +kernel) (Nat.le_of_ble_eq_true rfl) (fun Γ el ea eG eL C E => by
    subst el
    subst ea
    subst eG
    unfold fX7_undo at h
    exact xG.sub (bX7_undo_0 C eL  E h) ⟨rfl, trivial⟩)
def fX8_copyRow_i1_2b (N : Nat) (K2 : xW → Int32 → Option xW) (w : xW) (x2 : Int32) : Option xW :=
  if 51 ≤ x2 then
    some w
  else
  if ibd x2 51 = true then
  K2 (sI w 56 x2.toNatClampNeg (w.1 57 x2.toNatClampNeg)) (x2 + 1)
  else none
def fX8_copyRow_i1_2 (N : Nat) : Nat → xW → Int32 → Option xW
  | 0, _, _ => none
  | n + 1, w, x2 => fX8_copyRow_i1_2b N (fX8_copyRow_i1_2 N n) w x2
def fX8_copyRow_i1_0 (N : Nat) (w : xW) : Option xW :=
  fX8_copyRow_i1_2 N N w 0
def fX8_copyRow_i1 (N : Nat) (w : xW) : Option xW := fX8_copyRow_i1_0 N w
set_option maxRecDepth 100000 in
set_option maxHeartbeats 4000000 in
theorem bX8_copyRow_i1_2b {Γ : xΓ} (C : xOK Γ cX8_copyRow RX8 1) (hL : xn Γ = 3) {N : Nat} {K2 : xW → Int32 → Option xW} {w : xW} {x2 : Int32} {r : xW} (E : xEnd Γ none r none) (hK2 : ∀ (w : xW) (x2 : Int32), K2 w x2 = some r → xG Γ w 2 [(0, .ref (xad Γ 57)), (1, .ref (xad Γ 56)), (2, .int x2)] []) (h : fX8_copyRow_i1_2b N K2 w x2 = some r) : xG Γ w 2 [(0, .ref (xad Γ 57)), (1, .ref (xad Γ 56)), (2, .int x2)] [] := by
  unfold fX8_copyRow_i1_2b at h
  refine xr_iload_n C 2 rfl dX8_copyRow_2 ?_
  refine xr_bipush C 3 51 (by decide +kernel) dX8_copyRow_3 ?_
  refine xr_icmp_ge C 5 20 dX8_copyRow_5 rfl (fun q => ?_) (fun q => ?_)
  · have h := g_it h q
    cases h
    exact xr_vret C 20 E dX8_copyRow_20
  · have h := g_if h q
    refine xr_aload_n C 8 rfl dX8_copyRow_8 ?_
    refine xr_iload_n C 9 rfl dX8_copyRow_9 ?_
    refine xr_aload_n C 10 rfl dX8_copyRow_10 ?_
    refine xr_iload_n C 11 rfl dX8_copyRow_11 ?_
    obtain ⟨q1, h⟩ := g_ib h
    refine xr_iald C 12 x2.toNatClampNeg rfl dX8_copyRow_12 rfl (ibd_in q1) ?_
    refine xr_iast C 13 x2.toNatClampNeg rfl dX8_copyRow_13 rfl (ibd_in q1) ?_
    refine xr_iinc C 14 1 (by decide +kernel) rfl dX8_copyRow_14 (xnb hL rfl) ?_
    refine xr_goto C 17 2 dX8_copyRow_17 rfl ?_
    exact xG.sub (hK2 _ _ h) ⟨rfl, rfl, rfl, trivial⟩
set_option maxRecDepth 100000 in
set_option maxHeartbeats 4000000 in
theorem bX8_copyRow_i1_2 {Γ : xΓ} (C : xOK Γ cX8_copyRow RX8 1) (hL : xn Γ = 3) {N : Nat} {r : xW} (E : xEnd Γ none r none) : ∀ (n : Nat) (w : xW) (x2 : Int32), fX8_copyRow_i1_2 N n w x2 = some r → xG Γ w 2 [(0, .ref (xad Γ 57)), (1, .ref (xad Γ 56)), (2, .int x2)] []
  | 0, _, _, h => by cases h
  | n + 1, w, x2, h => bX8_copyRow_i1_2b C hL E (bX8_copyRow_i1_2 C hL E n) h
set_option maxRecDepth 100000 in
set_option maxHeartbeats 4000000 in
theorem bX8_copyRow_i1_0 {Γ : xΓ} (C : xOK Γ cX8_copyRow RX8 1) (hL : xn Γ = 3) {N : Nat} {w : xW} {r : xW} (E : xEnd Γ none r none) (h : fX8_copyRow_i1_0 N w = some r) : xG Γ w 0 [(0, .ref (xad Γ 57)), (1, .ref (xad Γ 56))] [] := by
  unfold fX8_copyRow_i1_0 at h
  refine xr_iconst C 0 0 (by decide +kernel) dX8_copyRow_0 ?_
  refine xr_istore_n C 1 dX8_copyRow_1 (xnb hL rfl) ?_
  exact xG.sub (bX8_copyRow_i1_2 C hL E N _ _ h) ⟨rfl, rfl, rfl, trivial⟩
set_option maxRecDepth 100000 in
set_option maxHeartbeats 4000000 in
theorem mX8_copyRow_i1 {l : Launch} {ad : Nat → Nat} {G : gEnv} {N : Nat} {w : xW} {r : xW} (h : fX8_copyRow_i1 N w = some r) : xCt l ad G 1 yX8_copyRow cX8_copyRow 3 none [.ref (ad 57), .ref (ad 56)] w r none := xCt.of RX8 rfl (by decide +kernel) (Nat.le_of_ble_eq_true rfl) (fun Γ el ea eG eL C E => by
    subst el
    subst ea
    subst eG
    unfold fX8_copyRow_i1 at h
    exact xG.sub (bX8_copyRow_i1_0 C eL  E h) ⟨rfl, rfl, trivial⟩)
def fX8_undo_0 (N : Nat) (w : xW) : Option (xW × Int32) :=
  if (w.1 55 2) = 0 then
    (fX8_finding w (-1000000004)).bind fun z3 =>
    some (z3.1, z3.2)
  else
  (fX8_copyRow_i1 N w).bind fun z1 =>
  some (sI z1 55 8 0, (sI z1 55 8 0).1 56 9)
def fX8_undo (N : Nat) (w : xW) : Option (xW × Int32) := fX8_undo_0 N w
set_option maxRecDepth 100000 in
set_option maxHeartbeats 4000000 in
theorem bX8_undo_0 {Γ : xΓ} (C : xOK Γ cX8_undo RX8 2) (hL : xn Γ = 1) {N : Nat} {w : xW} {r : xW × Int32} (E : xEnd Γ (some .int) r.1 (some (.int r.2))) (h : fX8_undo_0 N w = some r) : xG Γ w 0 [(0, .ref (xad Γ 55))] [] := by
  unfold fX8_undo_0 at h
  refine xr_aload_n C 0 rfl dX8_undo_0 ?_
  refine xr_getI C 1 dX8_undo_1 fl_X8_334 rfl rfl ?_
  refine xr_if_ne C 4 14 dX8_undo_4 rfl (fun q => ?_) (fun q => ?_)
  · have h := g_if h q
    refine xr_aload_n C 14 rfl dX8_undo_14 ?_
    refine xr_getR C 15 dX8_undo_15 fl_X8_13 rfl rfl ?_
    refine xr_aload_n C 18 rfl dX8_undo_18 ?_
    refine xr_getR C 19 dX8_undo_19 fl_X8_9 rfl rfl ?_
    obtain ⟨z1, q2, h⟩ := g_bind h
    refine xr_callS C 22 (mX8_copyRow_i1 q2) v_X8_copyRow ml_X8_330 (Nat.le_of_ble_eq_true rfl) (Nat.le_of_ble_eq_true rfl) rfl rfl (Nat.le_of_ble_eq_true rfl) rfl dX8_undo_22 ?_
    refine xr_aload_n C 25 rfl dX8_undo_25 ?_
    refine xr_iconst C 26 0 (by decide +kernel) dX8_undo_26 ?_
    refine xr_putZ C 27 dX8_undo_27 fp_X8_114 rfl rfl (by decide +kernel) ?_
    refine xr_aload_n C 30 rfl dX8_undo_30 ?_
    refine xr_getR C 31 dX8_undo_31 fl_X8_9 rfl rfl ?_
    refine xr_bipush C 34 9 (by decide +kernel) dX8_undo_34 ?_
    refine xr_iald C 36 9 (by decide +kernel) dX8_undo_36 rfl (ibd_in (by decide +kernel)) ?_
    cases h
    exact xr_iret C 37 E dX8_undo_37
  · have h := g_it h q
    refine xr_aload_n C 7 rfl dX8_undo_7 ?_
    refine xr_ldc C 8 k_X8_149 dX8_undo_8 ?_
    obtain ⟨z3, q4, h⟩ := g_bind h
    refine xr_callV C 10 (mX8_finding q4) v_X8_finding ml_X8_125 (Nat.le_of_ble_eq_true rfl) (Nat.le_of_ble_eq_true rfl) (xrecv C rfl rfl) rfl rfl (Nat.le_of_ble_eq_true rfl) rfl dX8_undo_10 ?_
    cases h
    exact xr_iret C 13 E dX8_undo_13
set_option maxRecDepth 100000 in
set_option maxHeartbeats 4000000 in
theorem mX8_undo {l : Launch} {ad : Nat → Nat} {G : gEnv} {N : Nat} {w : xW} {r : xW × Int32} (h : fX8_undo N w = some r) : xCt l ad G 2 yX8_undo cX8_undo 1 (some .int) [.ref (ad 55)] w r.1 (some (.int r.2)) := xCt.of RX8 rfl (by decide +kernel) (Nat.le_of_ble_eq_true rfl) (fun Γ el ea eG eL C E => by
    subst el
    subst ea
    subst eG
    unfold fX8_undo at h
    exact xG.sub (bX8_undo_0 C eL  E h) ⟨rfl, trivial⟩)
def fX7_tear_12 (w : xW) (s0 : Int32) : xW × Int32 :=
  (sI w 0 3 0, s0)
def fX7_tear_0 (w : xW) : xW × Int32 :=
  if (w.1 0 3) = 0 then
    fX7_tear_12 w 0
  else
  fX7_tear_12 w 1
def fX7_tear (w : xW) : xW × Int32 := fX7_tear_0 w
set_option maxRecDepth 100000 in
set_option maxHeartbeats 4000000 in
theorem bX7_tear_12 {Γ : xΓ} (C : xOK Γ cX7_tear RX7 1) (hL : xn Γ = 2) {w : xW} {s0 : Int32} {r : xW × Int32} (E : xEnd Γ (some .int) r.1 (some (.int r.2))) (h : fX7_tear_12  w s0 = r) : xG Γ w 12 [(0, .ref (xad Γ 0))] [.int s0] := by
  unfold fX7_tear_12 at h
  refine xr_istore_n C 12 dX7_tear_12 (xnb hL rfl) ?_
  refine xr_aload_n C 13 rfl dX7_tear_13 ?_
  refine xr_iconst C 14 0 (by decide +kernel) dX7_tear_14 ?_
  refine xr_putZ C 15 dX7_tear_15 fp_X7_22 rfl rfl (by decide +kernel) ?_
  refine xr_iload_n C 18 rfl dX7_tear_18 ?_
  cases h
  exact xr_iret C 19 E dX7_tear_19
set_option maxRecDepth 100000 in
set_option maxHeartbeats 4000000 in
theorem bX7_tear_0 {Γ : xΓ} (C : xOK Γ cX7_tear RX7 1) (hL : xn Γ = 2) {w : xW} {r : xW × Int32} (E : xEnd Γ (some .int) r.1 (some (.int r.2))) (h : fX7_tear_0  w = r) : xG Γ w 0 [(0, .ref (xad Γ 0))] [] := by
  unfold fX7_tear_0 at h
  refine xr_aload_n C 0 rfl dX7_tear_0 ?_
  refine xr_getI C 1 dX7_tear_1 fl_X7_22 rfl rfl ?_
  refine xr_if_eq C 4 11 dX7_tear_4 rfl (fun q => ?_) (fun q => ?_)
  · have h := g_it h q
    refine xr_iconst C 11 0 (by decide +kernel) dX7_tear_11 ?_
    exact xG.sub (bX7_tear_12 C hL E h) ⟨rfl, trivial⟩
  · have h := g_if h q
    refine xr_iconst C 7 1 (by decide +kernel) dX7_tear_7 ?_
    refine xr_goto C 8 12 dX7_tear_8 rfl ?_
    exact xG.sub (bX7_tear_12 C hL E h) ⟨rfl, trivial⟩
set_option maxRecDepth 100000 in
set_option maxHeartbeats 4000000 in
theorem mX7_tear {l : Launch} {ad : Nat → Nat} {G : gEnv} {w : xW} {r : xW × Int32} (h : fX7_tear w = r) : xCt l ad G 1 yX7_tear cX7_tear 2 (some .int) [.ref (ad 0)] w r.1 (some (.int r.2)) := xCt.of RX7 rfl (by decide +kernel) (Nat.le_of_ble_eq_true rfl) (fun Γ el ea eG eL C E => by
    subst el
    subst ea
    subst eG
    unfold fX7_tear at h
    exact xG.sub (bX7_tear_0 C eL  E h) ⟨rfl, trivial⟩)
def fX8_tear_12 (w : xW) (s0 : Int32) : xW × Int32 :=
  (sI w 55 2 0, s0)
def fX8_tear_0 (w : xW) : xW × Int32 :=
  if (w.1 55 2) = 0 then
    fX8_tear_12 w 0
  else
  fX8_tear_12 w 1
def fX8_tear (w : xW) : xW × Int32 := fX8_tear_0 w
set_option maxRecDepth 100000 in
set_option maxHeartbeats 4000000 in
theorem bX8_tear_12 {Γ : xΓ} (C : xOK Γ cX8_tear RX8 1) (hL : xn Γ = 2) {w : xW} {s0 : Int32} {r : xW × Int32} (E : xEnd Γ (some .int) r.1 (some (.int r.2))) (h : fX8_tear_12  w s0 = r) : xG Γ w 12 [(0, .ref (xad Γ 55))] [.int s0] := by
  unfold fX8_tear_12 at h
  refine xr_istore_n C 12 dX8_tear_12 (xnb hL rfl) ?_
  refine xr_aload_n C 13 rfl dX8_tear_13 ?_
  refine xr_iconst C 14 0 (by decide +kernel) dX8_tear_14 ?_
  refine xr_putZ C 15 dX8_tear_15 fp_X8_334 rfl rfl (by decide +kernel) ?_
  refine xr_iload_n C 18 rfl dX8_tear_18 ?_
  cases h
  exact xr_iret C 19 E dX8_tear_19
set_option maxRecDepth 100000 in
set_option maxHeartbeats 4000000 in
theorem bX8_tear_0 {Γ : xΓ} (C : xOK Γ cX8_tear RX8 1) (hL : xn Γ = 2) {w : xW} {r : xW × Int32} (E : xEnd Γ (some .int) r.1 (some (.int r.2))) (h : fX8_tear_0  w = r) : xG Γ w 0 [(0, .ref (xad Γ 55))] [] := by
  unfold fX8_tear_0 at h
  refine xr_aload_n C 0 rfl dX8_tear_0 ?_
  refine xr_getI C 1 dX8_tear_1 fl_X8_334 rfl rfl ?_
  refine xr_if_eq C 4 11 dX8_tear_4 rfl (fun q => ?_) (fun q => ?_)
  · have h := g_it h q
    refine xr_iconst C 11 0 (by decide +kernel) dX8_tear_11 ?_
    exact xG.sub (bX8_tear_12 C hL E h) ⟨rfl, trivial⟩
  · have h := g_if h q
    refine xr_iconst C 7 1 (by decide +kernel) dX8_tear_7 ?_
    refine xr_goto C 8 12 dX8_tear_8 rfl ?_
    exact xG.sub (bX8_tear_12 C hL E h) ⟨rfl, trivial⟩
set_option maxRecDepth 100000 in
set_option maxHeartbeats 4000000 in
theorem mX8_tear {l : Launch} {ad : Nat → Nat} {G : gEnv} {w : xW} {r : xW × Int32} (h : fX8_tear w = r) : xCt l ad G 1 yX8_tear cX8_tear 2 (some .int) [.ref (ad 55)] w r.1 (some (.int r.2)) := xCt.of RX8 rfl (by decide +kernel) (Nat.le_of_ble_eq_true rfl) (fun Γ el ea eG eL C E => by
    subst el
    subst ea
    subst eG
    unfold fX8_tear at h
    exact xG.sub (bX8_tear_0 C eL  E h) ⟨rfl, trivial⟩)
def fX7_count_0 (w : xW) (x1 : Int32) : Option (xW × Int32) :=
  if x1 = 0 then
    some (w, w.1 1 3)
  else
  if x1 = 1 then
    some (w, w.1 1 6)
  else
  if x1 = 2 then
    some (w, w.1 1 2)
  else
  if x1 = 3 then
    some (w, w.1 42 1)
  else
  if x1 = 4 then
    some (w, w.1 1 1)
  else
  (fX7_refuse w (-1000000001)).bind fun z6 =>
  some (z6.1, z6.2)
def fX7_count (w : xW) (x1 : Int32) : Option (xW × Int32) := fX7_count_0 w x1
set_option maxRecDepth 100000 in
set_option maxHeartbeats 4000000 in
theorem bX7_count_0 {Γ : xΓ} (C : xOK Γ cX7_count RX7 2) (hL : xn Γ = 2) {w : xW} {x1 : Int32} {r : xW × Int32} (E : xEnd Γ (some .int) r.1 (some (.int r.2))) (h : fX7_count_0  w x1 = some r) : xG Γ w 0 [(0, .ref (xad Γ 0)), (1, .int x1)] [] := by
  unfold fX7_count_0 at h
  refine xr_iload_n C 0 rfl dX7_count_0 ?_
  by_cases q1 : x1 = 0
  · have h := g_it h q1
    refine xr_tabIn (off := 35) C 1 36 0 q1 dX7_count_1 (by decide +kernel) (by decide +kernel) (by decide +kernel) rfl ?_
    refine xr_aload_n C 36 rfl dX7_count_36 ?_
    refine xr_getR C 37 dX7_count_37 fl_X7_10 rfl rfl ?_
    refine xr_getI C 40 dX7_count_40 fl_X7_127 rfl rfl ?_
    cases h
    exact xr_iret C 43 E dX7_count_43
  have h := g_if h q1
  by_cases q2 : x1 = 1
  · have h := g_it h q2
    refine xr_tabIn (off := 43) C 1 44 1 q2 dX7_count_1 (by decide +kernel) (by decide +kernel) (by decide +kernel) rfl ?_
    refine xr_aload_n C 44 rfl dX7_count_44 ?_
    refine xr_getR C 45 dX7_count_45 fl_X7_10 rfl rfl ?_
    refine xr_getI C 48 dX7_count_48 fl_X7_177 rfl rfl ?_
    cases h
    exact xr_iret C 51 E dX7_count_51
  have h := g_if h q2
  by_cases q3 : x1 = 2
  · have h := g_it h q3
    refine xr_tabIn (off := 51) C 1 52 2 q3 dX7_count_1 (by decide +kernel) (by decide +kernel) (by decide +kernel) rfl ?_
    refine xr_aload_n C 52 rfl dX7_count_52 ?_
    refine xr_getR C 53 dX7_count_53 fl_X7_10 rfl rfl ?_
    refine xr_getI C 56 dX7_count_56 fl_X7_91 rfl rfl ?_
    cases h
    exact xr_iret C 59 E dX7_count_59
  have h := g_if h q3
  by_cases q4 : x1 = 3
  · have h := g_it h q4
    refine xr_tabIn (off := 59) C 1 60 3 q4 dX7_count_1 (by decide +kernel) (by decide +kernel) (by decide +kernel) rfl ?_
    refine xr_aload_n C 60 rfl dX7_count_60 ?_
    refine xr_getR C 61 dX7_count_61 fl_X7_51 rfl rfl ?_
    refine xr_getI C 64 dX7_count_64 fl_X7_227 rfl rfl ?_
    cases h
    exact xr_iret C 67 E dX7_count_67
  have h := g_if h q4
  by_cases q5 : x1 = 4
  · have h := g_it h q5
    refine xr_tabIn (off := 67) C 1 68 4 q5 dX7_count_1 (by decide +kernel) (by decide +kernel) (by decide +kernel) rfl ?_
    refine xr_aload_n C 68 rfl dX7_count_68 ?_
    refine xr_getR C 69 dX7_count_69 fl_X7_10 rfl rfl ?_
    refine xr_getI C 72 dX7_count_72 fl_X7_95 rfl rfl ?_
    cases h
    exact xr_iret C 75 E dX7_count_75
  have h := g_if h q5
  have eq1 := xneI (z := 0) q1 (by decide +kernel)
  have eq2 := xneI (z := 1) q2 (by decide +kernel)
  have eq3 := xneI (z := 2) q3 (by decide +kernel)
  have eq4 := xneI (z := 3) q4 (by decide +kernel)
  have eq5 := xneI (z := 4) q5 (by decide +kernel)
  refine xr_tabOut C 1 76 dX7_count_1 (by omega) rfl ?_
  refine xr_aload_n C 76 rfl dX7_count_76 ?_
  refine xr_ldc C 77 k_X7_69 dX7_count_77 ?_
  obtain ⟨z6, q7, h⟩ := g_bind h
  refine xr_callV C 79 (mX7_refuse q7) v_X7_refuse ml_X7_70 (Nat.le_of_ble_eq_true rfl) (Nat.le_of_ble_eq_true rfl) (xrecv C rfl rfl) rfl rfl (Nat.le_of_ble_eq_true rfl) rfl dX7_count_79 ?_
  cases h
  exact xr_iret C 82 E dX7_count_82
set_option maxRecDepth 100000 in
set_option maxHeartbeats 4000000 in
theorem mX7_count {l : Launch} {ad : Nat → Nat} {G : gEnv} {w : xW} {x1 : Int32} {r : xW × Int32} (h : fX7_count w x1 = some r) : xCt l ad G 2 yX7_count cX7_count 2 (some .int) [.ref (ad 0), .int x1] w r.1 (some (.int r.2)) := xCt.of RX7 rfl (by decide +kernel) (Nat.le_of_ble_eq_true rfl) (fun Γ el ea eG eL C E => by
    subst el
    subst ea
    subst eG
    unfold fX7_count at h
    exact xG.sub (bX7_count_0 C eL  E h) ⟨rfl, rfl, trivial⟩)
def fX8_count_0 (w : xW) (x1 : Int32) : Option (xW × Int32) :=
  if x1 = 0 then
    some (w, w.1 56 9)
  else
  if x1 = 1 then
    some (w, w.1 56 10)
  else
  if x1 = 2 then
    some (w, w.1 56 8)
  else
  if x1 = 3 then
    some (w, w.1 55 18)
  else
  if x1 = 4 then
    some (w, w.1 56 7)
  else
  (fX8_finding w (-1000000001)).bind fun z6 =>
  some (z6.1, z6.2)
def fX8_count (w : xW) (x1 : Int32) : Option (xW × Int32) := fX8_count_0 w x1
set_option maxRecDepth 100000 in
set_option maxHeartbeats 4000000 in
theorem bX8_count_0 {Γ : xΓ} (C : xOK Γ cX8_count RX8 2) (hL : xn Γ = 2) {w : xW} {x1 : Int32} {r : xW × Int32} (E : xEnd Γ (some .int) r.1 (some (.int r.2))) (h : fX8_count_0  w x1 = some r) : xG Γ w 0 [(0, .ref (xad Γ 55)), (1, .int x1)] [] := by
  unfold fX8_count_0 at h
  refine xr_iload_n C 0 rfl dX8_count_0 ?_
  by_cases q1 : x1 = 0
  · have h := g_it h q1
    refine xr_tabIn (off := 35) C 1 36 0 q1 dX8_count_1 (by decide +kernel) (by decide +kernel) (by decide +kernel) rfl ?_
    refine xr_aload_n C 36 rfl dX8_count_36 ?_
    refine xr_getR C 37 dX8_count_37 fl_X8_9 rfl rfl ?_
    refine xr_bipush C 40 9 (by decide +kernel) dX8_count_40 ?_
    refine xr_iald C 42 9 (by decide +kernel) dX8_count_42 rfl (ibd_in (by decide +kernel)) ?_
    cases h
    exact xr_iret C 43 E dX8_count_43
  have h := g_if h q1
  by_cases q2 : x1 = 1
  · have h := g_it h q2
    refine xr_tabIn (off := 43) C 1 44 1 q2 dX8_count_1 (by decide +kernel) (by decide +kernel) (by decide +kernel) rfl ?_
    refine xr_aload_n C 44 rfl dX8_count_44 ?_
    refine xr_getR C 45 dX8_count_45 fl_X8_9 rfl rfl ?_
    refine xr_bipush C 48 10 (by decide +kernel) dX8_count_48 ?_
    refine xr_iald C 50 10 (by decide +kernel) dX8_count_50 rfl (ibd_in (by decide +kernel)) ?_
    cases h
    exact xr_iret C 51 E dX8_count_51
  have h := g_if h q2
  by_cases q3 : x1 = 2
  · have h := g_it h q3
    refine xr_tabIn (off := 51) C 1 52 2 q3 dX8_count_1 (by decide +kernel) (by decide +kernel) (by decide +kernel) rfl ?_
    refine xr_aload_n C 52 rfl dX8_count_52 ?_
    refine xr_getR C 53 dX8_count_53 fl_X8_9 rfl rfl ?_
    refine xr_bipush C 56 8 (by decide +kernel) dX8_count_56 ?_
    refine xr_iald C 58 8 (by decide +kernel) dX8_count_58 rfl (ibd_in (by decide +kernel)) ?_
    cases h
    exact xr_iret C 59 E dX8_count_59
  have h := g_if h q3
  by_cases q4 : x1 = 3
  · have h := g_it h q4
    refine xr_tabIn (off := 59) C 1 60 3 q4 dX8_count_1 (by decide +kernel) (by decide +kernel) (by decide +kernel) rfl ?_
    refine xr_aload_n C 60 rfl dX8_count_60 ?_
    refine xr_getI C 61 dX8_count_61 fl_X8_224 rfl rfl ?_
    cases h
    exact xr_iret C 64 E dX8_count_64
  have h := g_if h q4
  by_cases q5 : x1 = 4
  · have h := g_it h q5
    refine xr_tabIn (off := 64) C 1 65 4 q5 dX8_count_1 (by decide +kernel) (by decide +kernel) (by decide +kernel) rfl ?_
    refine xr_aload_n C 65 rfl dX8_count_65 ?_
    refine xr_getR C 66 dX8_count_66 fl_X8_9 rfl rfl ?_
    refine xr_bipush C 69 7 (by decide +kernel) dX8_count_69 ?_
    refine xr_iald C 71 7 (by decide +kernel) dX8_count_71 rfl (ibd_in (by decide +kernel)) ?_
    cases h
    exact xr_iret C 72 E dX8_count_72
  have h := g_if h q5
  have eq1 := xneI (z := 0) q1 (by decide +kernel)
  have eq2 := xneI (z := 1) q2 (by decide +kernel)
  have eq3 := xneI (z := 2) q3 (by decide +kernel)
  have eq4 := xneI (z := 3) q4 (by decide +kernel)
  have eq5 := xneI (z := 4) q5 (by decide +kernel)
  refine xr_tabOut C 1 73 dX8_count_1 (by omega) rfl ?_
  refine xr_aload_n C 73 rfl dX8_count_73 ?_
  refine xr_ldc C 74 k_X8_98 dX8_count_74 ?_
  obtain ⟨z6, q7, h⟩ := g_bind h
  refine xr_callV C 76 (mX8_finding q7) v_X8_finding ml_X8_125 (Nat.le_of_ble_eq_true rfl) (Nat.le_of_ble_eq_true rfl) (xrecv C rfl rfl) rfl rfl (Nat.le_of_ble_eq_true rfl) rfl dX8_count_76 ?_
  cases h
  exact xr_iret C 79 E dX8_count_79
set_option maxRecDepth 100000 in
set_option maxHeartbeats 4000000 in
theorem mX8_count {l : Launch} {ad : Nat → Nat} {G : gEnv} {w : xW} {x1 : Int32} {r : xW × Int32} (h : fX8_count w x1 = some r) : xCt l ad G 2 yX8_count cX8_count 2 (some .int) [.ref (ad 55), .int x1] w r.1 (some (.int r.2)) := xCt.of RX8 rfl (by decide +kernel) (Nat.le_of_ble_eq_true rfl) (fun Γ el ea eG eL C E => by
    subst el
    subst ea
    subst eG
    unfold fX8_count at h
    exact xG.sub (bX8_count_0 C eL  E h) ⟨rfl, rfl, trivial⟩)
def fX7_allFound_4b (N : Nat) (w : xW) (K4 : Int32 → Int32 → Option Int32) (x1 : Int32) (x2 : Int32) : Option Int32 :=
  if 7 ≤ x2 then
    some x1
  else
  if ibd x2 7 = true then
  K4 (x1 + (w.1 46 x2.toNatClampNeg)) (x2 + 1)
  else none
def fX7_allFound_4 (N : Nat) (w : xW) : Nat → Int32 → Int32 → Option Int32
  | 0, _, _ => none
  | n + 1, x1, x2 => fX7_allFound_4b N w (fX7_allFound_4 N w n) x1 x2
def fX7_allFound_0 (N : Nat) (w : xW) : Option Int32 :=
  fX7_allFound_4 N w N 0 0
def fX7_allFound (N : Nat) (w : xW) : Option Int32 := fX7_allFound_0 N w
set_option maxRecDepth 100000 in
set_option maxHeartbeats 4000000 in
theorem bX7_allFound_4b {Γ : xΓ} (C : xOK Γ cX7_allFound RX7 1) (hL : xn Γ = 3) {N : Nat} {K4 : Int32 → Int32 → Option Int32} {w : xW} {x1 : Int32} {x2 : Int32} {r : Int32} (E : xEnd Γ (some .int) w (some (.int r))) (hK4 : ∀ (x1 : Int32) (x2 : Int32), K4 x1 x2 = some r → xG Γ w 4 [(0, .ref (xad Γ 0)), (1, .int x1), (2, .int x2)] []) (h : fX7_allFound_4b N w K4 x1 x2 = some r) : xG Γ w 4 [(0, .ref (xad Γ 0)), (1, .int x1), (2, .int x2)] [] := by
  unfold fX7_allFound_4b at h
  refine xr_iload_n C 4 rfl dX7_allFound_4 ?_
  refine xr_bipush C 5 7 (by decide +kernel) dX7_allFound_5 ?_
  refine xr_icmp_ge C 7 25 dX7_allFound_7 rfl (fun q => ?_) (fun q => ?_)
  · have h := g_it h q
    refine xr_iload_n C 25 rfl dX7_allFound_25 ?_
    cases h
    exact xr_iret C 26 E dX7_allFound_26
  · have h := g_if h q
    refine xr_iload_n C 10 rfl dX7_allFound_10 ?_
    refine xr_aload_n C 11 rfl dX7_allFound_11 ?_
    refine xr_getR C 12 dX7_allFound_12 fl_X7_58 rfl rfl ?_
    refine xr_iload_n C 15 rfl dX7_allFound_15 ?_
    obtain ⟨q1, h⟩ := g_ib h
    refine xr_iald C 16 x2.toNatClampNeg rfl dX7_allFound_16 rfl (ibd_in q1) ?_
    refine xr_iadd C 17 dX7_allFound_17 ?_
    refine xr_istore_n C 18 dX7_allFound_18 (xnb hL rfl) ?_
    refine xr_iinc C 19 1 (by decide +kernel) rfl dX7_allFound_19 (xnb hL rfl) ?_
    refine xr_goto C 22 4 dX7_allFound_22 rfl ?_
    exact xG.sub (hK4 _ _ h) ⟨rfl, rfl, rfl, trivial⟩
set_option maxRecDepth 100000 in
set_option maxHeartbeats 4000000 in
theorem bX7_allFound_4 {Γ : xΓ} (C : xOK Γ cX7_allFound RX7 1) (hL : xn Γ = 3) {N : Nat} {w : xW} {r : Int32} (E : xEnd Γ (some .int) w (some (.int r))) : ∀ (n : Nat) (x1 : Int32) (x2 : Int32), fX7_allFound_4 N w n x1 x2 = some r → xG Γ w 4 [(0, .ref (xad Γ 0)), (1, .int x1), (2, .int x2)] []
  | 0, _, _, h => by cases h
  | n + 1, x1, x2, h => bX7_allFound_4b C hL E (bX7_allFound_4 C hL E n) h
set_option maxRecDepth 100000 in
set_option maxHeartbeats 4000000 in
theorem bX7_allFound_0 {Γ : xΓ} (C : xOK Γ cX7_allFound RX7 1) (hL : xn Γ = 3) {N : Nat} {w : xW} {r : Int32} (E : xEnd Γ (some .int) w (some (.int r))) (h : fX7_allFound_0 N w  = some r) : xG Γ w 0 [(0, .ref (xad Γ 0))] [] := by
  unfold fX7_allFound_0 at h
  refine xr_iconst C 0 0 (by decide +kernel) dX7_allFound_0 ?_
  refine xr_istore_n C 1 dX7_allFound_1 (xnb hL rfl) ?_
  refine xr_iconst C 2 0 (by decide +kernel) dX7_allFound_2 ?_
  refine xr_istore_n C 3 dX7_allFound_3 (xnb hL rfl) ?_
  exact xG.sub (bX7_allFound_4 C hL E N _ _ h) ⟨rfl, rfl, rfl, trivial⟩
set_option maxRecDepth 100000 in
set_option maxHeartbeats 4000000 in
theorem mX7_allFound {l : Launch} {ad : Nat → Nat} {G : gEnv} {N : Nat} {w : xW} {r : Int32} (h : fX7_allFound N w = some r) : xCt l ad G 1 yX7_allFound cX7_allFound 3 (some .int) [.ref (ad 0)] w w (some (.int r)) := xCt.of RX7 rfl (by decide +kernel) (Nat.le_of_ble_eq_true rfl) (fun Γ el ea eG eL C E => by
    subst el
    subst ea
    subst eG
    unfold fX7_allFound at h
    exact xG.sub (bX7_allFound_0 C eL  E h) ⟨rfl, trivial⟩)
def fX7_status_11 (N : Nat) (w : xW) : Option (xW × Int32) :=
  (fX7_refuse w (-1000000001)).bind fun z4 =>
  some (z4.1, z4.2)
def fX7_status_0 (N : Nat) (w : xW) (x1 : Int32) : Option (xW × Int32) :=
  if x1 < (-1) then
    fX7_status_11 N w
  else
  if x1 < 7 then
    if x1 = (-1) then
      (fX7_allFound N w).bind fun z2 =>
      some (w, z2)
    else
    if ibd x1 7 = true then
    some (w, w.1 46 x1.toNatClampNeg)
    else none
  else
  fX7_status_11 N w
def fX7_status (N : Nat) (w : xW) (x1 : Int32) : Option (xW × Int32) := fX7_status_0 N w x1
set_option maxRecDepth 100000 in
set_option maxHeartbeats 4000000 in
theorem bX7_status_11 {Γ : xΓ} (C : xOK Γ cX7_status RX7 2) (hL : xn Γ = 2) {N : Nat} {w : xW} {r : xW × Int32} (E : xEnd Γ (some .int) r.1 (some (.int r.2))) (h : fX7_status_11 N w = some r) : xG Γ w 11 [(0, .ref (xad Γ 0))] [] := by
  unfold fX7_status_11 at h
  refine xr_aload_n C 11 rfl dX7_status_11 ?_
  refine xr_ldc C 12 k_X7_69 dX7_status_12 ?_
  obtain ⟨z4, q5, h⟩ := g_bind h
  refine xr_callV C 14 (mX7_refuse q5) v_X7_refuse ml_X7_70 (Nat.le_of_ble_eq_true rfl) (Nat.le_of_ble_eq_true rfl) (xrecv C rfl rfl) rfl rfl (Nat.le_of_ble_eq_true rfl) rfl dX7_status_14 ?_
  cases h
  exact xr_iret C 17 E dX7_status_17
set_option maxRecDepth 100000 in
set_option maxHeartbeats 4000000 in
theorem bX7_status_0 {Γ : xΓ} (C : xOK Γ cX7_status RX7 2) (hL : xn Γ = 2) {N : Nat} {w : xW} {x1 : Int32} {r : xW × Int32} (E : xEnd Γ (some .int) r.1 (some (.int r.2))) (h : fX7_status_0 N w x1 = some r) : xG Γ w 0 [(0, .ref (xad Γ 0)), (1, .int x1)] [] := by
  unfold fX7_status_0 at h
  refine xr_iload_n C 0 rfl dX7_status_0 ?_
  refine xr_iconst C 1 (-1) (by decide +kernel) dX7_status_1 ?_
  refine xr_icmp_lt C 2 11 dX7_status_2 rfl (fun q => ?_) (fun q => ?_)
  · have h := g_it h q
    exact xG.sub (bX7_status_11 C hL E h) ⟨rfl, trivial⟩
  · have h := g_if h q
    refine xr_iload_n C 5 rfl dX7_status_5 ?_
    refine xr_bipush C 6 7 (by decide +kernel) dX7_status_6 ?_
    refine xr_icmp_lt C 8 18 dX7_status_8 rfl (fun q => ?_) (fun q => ?_)
    · have h := g_it h q
      refine xr_iload_n C 18 rfl dX7_status_18 ?_
      refine xr_iconst C 19 (-1) (by decide +kernel) dX7_status_19 ?_
      refine xr_icmp_ne C 20 30 dX7_status_20 rfl (fun q => ?_) (fun q => ?_)
      · have h := g_if h q
        refine xr_aload_n C 30 rfl dX7_status_30 ?_
        refine xr_getR C 31 dX7_status_31 fl_X7_58 rfl rfl ?_
        refine xr_iload_n C 34 rfl dX7_status_34 ?_
        obtain ⟨q1, h⟩ := g_ib h
        refine xr_iald C 35 x1.toNatClampNeg rfl dX7_status_35 rfl (ibd_in q1) ?_
        cases h
        exact xr_iret C 36 E dX7_status_36
      · have h := g_it h q
        refine xr_aload_n C 23 rfl dX7_status_23 ?_
        obtain ⟨z2, q3, h⟩ := g_bind h
        refine xr_callV C 24 (mX7_allFound q3) v_X7_allFound ml_X7_285 (Nat.le_of_ble_eq_true rfl) (Nat.le_of_ble_eq_true rfl) (xrecv C rfl rfl) rfl rfl (Nat.le_of_ble_eq_true rfl) rfl dX7_status_24 ?_
        refine xr_goto C 27 36 dX7_status_27 rfl ?_
        cases h
        exact xr_iret C 36 E dX7_status_36
    · have h := g_if h q
      exact xG.sub (bX7_status_11 C hL E h) ⟨rfl, trivial⟩
set_option maxRecDepth 100000 in
set_option maxHeartbeats 4000000 in
theorem mX7_status {l : Launch} {ad : Nat → Nat} {G : gEnv} {N : Nat} {w : xW} {x1 : Int32} {r : xW × Int32} (h : fX7_status N w x1 = some r) : xCt l ad G 2 yX7_status cX7_status 2 (some .int) [.ref (ad 0), .int x1] w r.1 (some (.int r.2)) := xCt.of RX7 rfl (by decide +kernel) (Nat.le_of_ble_eq_true rfl) (fun Γ el ea eG eL C E => by
    subst el
    subst ea
    subst eG
    unfold fX7_status at h
    exact xG.sub (bX7_status_0 C eL  E h) ⟨rfl, rfl, trivial⟩)
def fX8_status_0 (w : xW) (x1 : Int32) : Option (xW × Int32) :=
  if (fX8_within x1 (-1) 6) = 0 then
    (fX8_finding w (-1000000001)).bind fun z1 =>
    some (z1.1, z1.2)
  else
  if ibd (x1 + 1) 8 = true then
  some (w, w.1 58 ((x1 + 1).toNatClampNeg))
  else none
def fX8_status (w : xW) (x1 : Int32) : Option (xW × Int32) := fX8_status_0 w x1
set_option maxRecDepth 100000 in
set_option maxHeartbeats 4000000 in
theorem bX8_status_0 {Γ : xΓ} (C : xOK Γ cX8_status RX8 2) (hL : xn Γ = 2) {w : xW} {x1 : Int32} {r : xW × Int32} (E : xEnd Γ (some .int) r.1 (some (.int r.2))) (h : fX8_status_0  w x1 = some r) : xG Γ w 0 [(0, .ref (xad Γ 55)), (1, .int x1)] [] := by
  unfold fX8_status_0 at h
  refine xr_iload_n C 0 rfl dX8_status_0 ?_
  refine xr_iconst C 1 (-1) (by decide +kernel) dX8_status_1 ?_
  refine xr_bipush C 2 6 (by decide +kernel) dX8_status_2 ?_
  refine xr_callS C 4 (mX8_within rfl) v_X8_within ml_X8_121 (Nat.le_of_ble_eq_true rfl) (Nat.le_of_ble_eq_true rfl) rfl rfl (Nat.le_of_ble_eq_true rfl) rfl dX8_status_4 ?_
  refine xr_if_eq C 7 21 dX8_status_7 rfl (fun q => ?_) (fun q => ?_)
  · have h := g_it h q
    refine xr_aload_n C 21 rfl dX8_status_21 ?_
    refine xr_ldc C 22 k_X8_98 dX8_status_22 ?_
    obtain ⟨z1, q2, h⟩ := g_bind h
    refine xr_callV C 24 (mX8_finding q2) v_X8_finding ml_X8_125 (Nat.le_of_ble_eq_true rfl) (Nat.le_of_ble_eq_true rfl) (xrecv C rfl rfl) rfl rfl (Nat.le_of_ble_eq_true rfl) rfl dX8_status_24 ?_
    cases h
    exact xr_iret C 27 E dX8_status_27
  · have h := g_if h q
    refine xr_aload_n C 10 rfl dX8_status_10 ?_
    refine xr_getR C 11 dX8_status_11 fl_X8_16 rfl rfl ?_
    refine xr_iload_n C 14 rfl dX8_status_14 ?_
    refine xr_iconst C 15 1 (by decide +kernel) dX8_status_15 ?_
    refine xr_iadd C 16 dX8_status_16 ?_
    obtain ⟨q3, h⟩ := g_ib h
    refine xr_iald C 17 ((x1 + 1).toNatClampNeg) rfl dX8_status_17 rfl (ibd_in q3) ?_
    refine xr_goto C 18 27 dX8_status_18 rfl ?_
    cases h
    exact xr_iret C 27 E dX8_status_27
set_option maxRecDepth 100000 in
set_option maxHeartbeats 4000000 in
theorem mX8_status {l : Launch} {ad : Nat → Nat} {G : gEnv} {w : xW} {x1 : Int32} {r : xW × Int32} (h : fX8_status w x1 = some r) : xCt l ad G 2 yX8_status cX8_status 2 (some .int) [.ref (ad 55), .int x1] w r.1 (some (.int r.2)) := xCt.of RX8 rfl (by decide +kernel) (Nat.le_of_ble_eq_true rfl) (fun Γ el ea eG eL C E => by
    subst el
    subst ea
    subst eG
    unfold fX8_status at h
    exact xG.sub (bX8_status_0 C eL  E h) ⟨rfl, rfl, trivial⟩)
