def fX3_reckonAll_2b (N : Nat) (K2 : xW → Int32 → Option xW) (w : xW) (x2 : Int32) : Option xW :=
  if 24 ≤ x2 then
    some w
  else
  (fX3_sumOf N w (x2 / 4) (irem x2 4)).bind fun z1 =>
  if ibd x2 24 = true then
  K2 (sI w 33 x2.toNatClampNeg z1) (x2 + 1)
  else none
def fX3_reckonAll_2 (N : Nat) : Nat → xW → Int32 → Option xW
  | 0, _, _ => none
  | n + 1, w, x2 => fX3_reckonAll_2b N (fX3_reckonAll_2 N n) w x2
def fX3_reckonAll_0 (N : Nat) (w : xW) : Option xW :=
  fX3_reckonAll_2 N N w 0
def fX3_reckonAll (N : Nat) (w : xW) : Option xW := fX3_reckonAll_0 N w
set_option maxRecDepth 100000 in
set_option maxHeartbeats 4000000 in
theorem bX3_reckonAll_2b {Γ : xΓ} (C : xOK Γ cX3_reckonAll RX3 5) (hL : xn Γ = 3) {N : Nat} {K2 : xW → Int32 → Option xW} {w : xW} {x2 : Int32} {r : xW} (E : xEnd Γ none r none) (hK2 : ∀ (w : xW) (x2 : Int32), K2 w x2 = some r → xG Γ w 2 [(0, .ref (xad Γ 31)), (1, .ref (xad Γ 1)), (2, .int x2)] []) (h : fX3_reckonAll_2b N K2 w x2 = some r) : xG Γ w 2 [(0, .ref (xad Γ 31)), (1, .ref (xad Γ 1)), (2, .int x2)] [] := by
  unfold fX3_reckonAll_2b at h
  refine xr_iload_n C 2 rfl dX3_reckonAll_2 ?_
  refine xr_aload_n C 3 rfl dX3_reckonAll_3 ?_
  refine xr_getR C 4 dX3_reckonAll_4 fl_X3_17 rfl rfl ?_
  refine xr_alen_i C 7 24 (by decide +kernel) dX3_reckonAll_7 rfl ?_
  refine xr_icmp_ge C 8 34 dX3_reckonAll_8 rfl (fun q => ?_) (fun q => ?_)
  · have h := g_it h q
    cases h
    exact xr_vret C 34 E dX3_reckonAll_34
  · have h := g_if h q
    refine xr_aload_n C 11 rfl dX3_reckonAll_11 ?_
    refine xr_getR C 12 dX3_reckonAll_12 fl_X3_17 rfl rfl ?_
    refine xr_iload_n C 15 rfl dX3_reckonAll_15 ?_
    refine xr_aload_n C 16 rfl dX3_reckonAll_16 ?_
    refine xr_aload_n C 17 rfl dX3_reckonAll_17 ?_
    refine xr_iload_n C 18 rfl dX3_reckonAll_18 ?_
    refine xr_iconst C 19 4 (by decide +kernel) dX3_reckonAll_19 ?_
    refine xr_idiv C 20 (by decide +kernel) dX3_reckonAll_20 ?_
    refine xr_iload_n C 21 rfl dX3_reckonAll_21 ?_
    refine xr_iconst C 22 4 (by decide +kernel) dX3_reckonAll_22 ?_
    refine xr_irem C 23 (by decide +kernel) dX3_reckonAll_23 ?_
    obtain ⟨z1, q2, h⟩ := g_bind h
    refine xr_callV C 24 (mX3_sumOf q2) v_X3_sumOf ml_X3_43 (Nat.le_of_ble_eq_true rfl) (Nat.le_of_ble_eq_true rfl) (xrecv C rfl rfl) rfl rfl (Nat.le_of_ble_eq_true rfl) rfl dX3_reckonAll_24 ?_
    obtain ⟨q3, h⟩ := g_ib h
    refine xr_iast C 27 x2.toNatClampNeg rfl dX3_reckonAll_27 rfl (ibd_in q3) ?_
    refine xr_iinc C 28 1 (by decide +kernel) rfl dX3_reckonAll_28 (xnb hL rfl) ?_
    refine xr_goto C 31 2 dX3_reckonAll_31 rfl ?_
    exact xG.sub (hK2 _ _ h) ⟨rfl, rfl, rfl, trivial⟩
set_option maxRecDepth 100000 in
set_option maxHeartbeats 4000000 in
theorem bX3_reckonAll_2 {Γ : xΓ} (C : xOK Γ cX3_reckonAll RX3 5) (hL : xn Γ = 3) {N : Nat} {r : xW} (E : xEnd Γ none r none) : ∀ (n : Nat) (w : xW) (x2 : Int32), fX3_reckonAll_2 N n w x2 = some r → xG Γ w 2 [(0, .ref (xad Γ 31)), (1, .ref (xad Γ 1)), (2, .int x2)] []
  | 0, _, _, h => by cases h
  | n + 1, w, x2, h => bX3_reckonAll_2b C hL E (bX3_reckonAll_2 C hL E n) h
set_option maxRecDepth 100000 in
set_option maxHeartbeats 4000000 in
theorem bX3_reckonAll_0 {Γ : xΓ} (C : xOK Γ cX3_reckonAll RX3 5) (hL : xn Γ = 3) {N : Nat} {w : xW} {r : xW} (E : xEnd Γ none r none) (h : fX3_reckonAll_0 N w = some r) : xG Γ w 0 [(0, .ref (xad Γ 31)), (1, .ref (xad Γ 1))] [] := by
  unfold fX3_reckonAll_0 at h
  refine xr_iconst C 0 0 (by decide +kernel) dX3_reckonAll_0 ?_
  refine xr_istore_n C 1 dX3_reckonAll_1 (xnb hL rfl) ?_
  exact xG.sub (bX3_reckonAll_2 C hL E N _ _ h) ⟨rfl, rfl, rfl, trivial⟩
set_option maxRecDepth 100000 in
set_option maxHeartbeats 4000000 in
theorem mX3_reckonAll {l : Launch} {ad : Nat → Nat} {G : gEnv} {N : Nat} {w : xW} {r : xW} (h : fX3_reckonAll N w = some r) : xCt l ad G 5 yX3_reckonAll cX3_reckonAll 3 none [.ref (ad 31), .ref (ad 1)] w r none := xCt.of RX3 rfl (by decide +kernel) (Nat.le_of_ble_eq_true rfl) (fun Γ el ea eG eL C E => by
    subst el
    subst ea
    subst eG
    unfold fX3_reckonAll at h
    exact xG.sub (bX3_reckonAll_0 C eL  E h) ⟨rfl, rfl, trivial⟩)
def fX7_moreByExchange_132 (w : xW) (s0 : Int32) : Option Int32 :=
  some s0
def fX7_moreByExchange_0 (w : xW) (x1 : Int32) (x2 : Int32) : Option Int32 :=
  if ibd x1 8 = true then
  if ibd x2 8 = true then
  if ibd (((w.1 5 x1.toNatClampNeg) * 4) + (w.1 6 x2.toNatClampNeg)) 24 = true then
  if ibd (((w.1 5 x1.toNatClampNeg) * 4) + (w.1 6 x1.toNatClampNeg)) 24 = true then
  if ibd (((w.1 5 x2.toNatClampNeg) * 4) + (w.1 6 x1.toNatClampNeg)) 24 = true then
  if ibd (((w.1 5 x2.toNatClampNeg) * 4) + (w.1 6 x2.toNatClampNeg)) 24 = true then
  if ((w.1 33 ((((w.1 5 x1.toNatClampNeg) * 4) + (w.1 6 x2.toNatClampNeg)).toNatClampNeg)) - (w.1 33 ((((w.1 5 x1.toNatClampNeg) * 4) + (w.1 6 x1.toNatClampNeg)).toNatClampNeg))) < 0 then
    some 0
  else
  if 0 ≤ ((w.1 33 ((((w.1 5 x2.toNatClampNeg) * 4) + (w.1 6 x1.toNatClampNeg)).toNatClampNeg)) - (w.1 33 ((((w.1 5 x2.toNatClampNeg) * 4) + (w.1 6 x2.toNatClampNeg)).toNatClampNeg))) then
    fX7_moreByExchange_132 w (((w.1 33 ((((w.1 5 x1.toNatClampNeg) * 4) + (w.1 6 x2.toNatClampNeg)).toNatClampNeg)) - (w.1 33 ((((w.1 5 x1.toNatClampNeg) * 4) + (w.1 6 x1.toNatClampNeg)).toNatClampNeg))) + ((w.1 33 ((((w.1 5 x2.toNatClampNeg) * 4) + (w.1 6 x1.toNatClampNeg)).toNatClampNeg)) - (w.1 33 ((((w.1 5 x2.toNatClampNeg) * 4) + (w.1 6 x2.toNatClampNeg)).toNatClampNeg))))
  else
  some 0
  else none
  else none
  else none
  else none
  else none
  else none
def fX7_moreByExchange (w : xW) (x1 : Int32) (x2 : Int32) : Option Int32 := fX7_moreByExchange_0 w x1 x2
set_option maxRecDepth 100000 in
set_option maxHeartbeats 4000000 in
theorem bX7_moreByExchange_132 {Γ : xΓ} (C : xOK Γ cX7_moreByExchange RX7 1) (hL : xn Γ = 7) {w : xW} {s0 : Int32} {r : Int32} (E : xEnd Γ (some .int) w (some (.int r))) (h : fX7_moreByExchange_132 w s0 = some r) : xG Γ w 132 [] [.int s0] := by
  unfold fX7_moreByExchange_132 at h
  cases h
  exact xr_iret C 132 E dX7_moreByExchange_132
set_option maxRecDepth 100000 in
set_option maxHeartbeats 4000000 in
theorem bX7_moreByExchange_0 {Γ : xΓ} (C : xOK Γ cX7_moreByExchange RX7 1) (hL : xn Γ = 7) {w : xW} {x1 : Int32} {x2 : Int32} {r : Int32} (E : xEnd Γ (some .int) w (some (.int r))) (h : fX7_moreByExchange_0 w x1 x2 = some r) : xG Γ w 0 [(0, .ref (xad Γ 0)), (1, .int x1), (2, .int x2)] [] := by
  unfold fX7_moreByExchange_0 at h
  refine xr_aload_n C 0 rfl dX7_moreByExchange_0 ?_
  refine xr_getR C 1 dX7_moreByExchange_1 fl_X7_10 rfl rfl ?_
  refine xr_getR C 4 dX7_moreByExchange_4 fl_X7_141 rfl rfl ?_
  refine xr_iload_n C 7 rfl dX7_moreByExchange_7 ?_
  obtain ⟨q1, h⟩ := g_ib h
  refine xr_iald C 8 x1.toNatClampNeg rfl dX7_moreByExchange_8 rfl (ibd_in q1) ?_
  refine xr_istore_n C 9 dX7_moreByExchange_9 (xnb hL rfl) ?_
  refine xr_aload_n C 10 rfl dX7_moreByExchange_10 ?_
  refine xr_getR C 11 dX7_moreByExchange_11 fl_X7_10 rfl rfl ?_
  refine xr_getR C 14 dX7_moreByExchange_14 fl_X7_141 rfl rfl ?_
  refine xr_iload_n C 17 rfl dX7_moreByExchange_17 ?_
  obtain ⟨q2, h⟩ := g_ib h
  refine xr_iald C 18 x2.toNatClampNeg rfl dX7_moreByExchange_18 rfl (ibd_in q2) ?_
  refine xr_istore C 19 dX7_moreByExchange_19 (xnb hL rfl) ?_
  refine xr_aload_n C 21 rfl dX7_moreByExchange_21 ?_
  refine xr_getR C 22 dX7_moreByExchange_22 fl_X7_29 rfl rfl ?_
  refine xr_getR C 25 dX7_moreByExchange_25 fl_X7_288 rfl rfl ?_
  refine xr_aload_n C 28 rfl dX7_moreByExchange_28 ?_
  refine xr_getR C 29 dX7_moreByExchange_29 fl_X7_10 rfl rfl ?_
  refine xr_getR C 32 dX7_moreByExchange_32 fl_X7_138 rfl rfl ?_
  refine xr_iload_n C 35 rfl dX7_moreByExchange_35 ?_
  refine xr_iald C 36 x1.toNatClampNeg rfl dX7_moreByExchange_36 rfl (ibd_in q1) ?_
  refine xr_iconst C 37 4 (by decide +kernel) dX7_moreByExchange_37 ?_
  refine xr_imul C 38 dX7_moreByExchange_38 ?_
  refine xr_iload C 39 rfl dX7_moreByExchange_39 ?_
  refine xr_iadd C 41 dX7_moreByExchange_41 ?_
  obtain ⟨q3, h⟩ := g_ib h
  refine xr_iald C 42 ((((w.1 5 x1.toNatClampNeg) * 4) + (w.1 6 x2.toNatClampNeg)).toNatClampNeg) rfl dX7_moreByExchange_42 rfl (ibd_in q3) ?_
  refine xr_aload_n C 43 rfl dX7_moreByExchange_43 ?_
  refine xr_getR C 44 dX7_moreByExchange_44 fl_X7_29 rfl rfl ?_
  refine xr_getR C 47 dX7_moreByExchange_47 fl_X7_288 rfl rfl ?_
  refine xr_aload_n C 50 rfl dX7_moreByExchange_50 ?_
  refine xr_getR C 51 dX7_moreByExchange_51 fl_X7_10 rfl rfl ?_
  refine xr_getR C 54 dX7_moreByExchange_54 fl_X7_138 rfl rfl ?_
  refine xr_iload_n C 57 rfl dX7_moreByExchange_57 ?_
  refine xr_iald C 58 x1.toNatClampNeg rfl dX7_moreByExchange_58 rfl (ibd_in q1) ?_
  refine xr_iconst C 59 4 (by decide +kernel) dX7_moreByExchange_59 ?_
  refine xr_imul C 60 dX7_moreByExchange_60 ?_
  refine xr_iload_n C 61 rfl dX7_moreByExchange_61 ?_
  refine xr_iadd C 62 dX7_moreByExchange_62 ?_
  obtain ⟨q4, h⟩ := g_ib h
  refine xr_iald C 63 ((((w.1 5 x1.toNatClampNeg) * 4) + (w.1 6 x1.toNatClampNeg)).toNatClampNeg) rfl dX7_moreByExchange_63 rfl (ibd_in q4) ?_
  refine xr_isub C 64 dX7_moreByExchange_64 ?_
  refine xr_istore C 65 dX7_moreByExchange_65 (xnb hL rfl) ?_
  refine xr_aload_n C 67 rfl dX7_moreByExchange_67 ?_
  refine xr_getR C 68 dX7_moreByExchange_68 fl_X7_29 rfl rfl ?_
  refine xr_getR C 71 dX7_moreByExchange_71 fl_X7_288 rfl rfl ?_
  refine xr_aload_n C 74 rfl dX7_moreByExchange_74 ?_
  refine xr_getR C 75 dX7_moreByExchange_75 fl_X7_10 rfl rfl ?_
  refine xr_getR C 78 dX7_moreByExchange_78 fl_X7_138 rfl rfl ?_
  refine xr_iload_n C 81 rfl dX7_moreByExchange_81 ?_
  refine xr_iald C 82 x2.toNatClampNeg rfl dX7_moreByExchange_82 rfl (ibd_in q2) ?_
  refine xr_iconst C 83 4 (by decide +kernel) dX7_moreByExchange_83 ?_
  refine xr_imul C 84 dX7_moreByExchange_84 ?_
  refine xr_iload_n C 85 rfl dX7_moreByExchange_85 ?_
  refine xr_iadd C 86 dX7_moreByExchange_86 ?_
  obtain ⟨q5, h⟩ := g_ib h
  refine xr_iald C 87 ((((w.1 5 x2.toNatClampNeg) * 4) + (w.1 6 x1.toNatClampNeg)).toNatClampNeg) rfl dX7_moreByExchange_87 rfl (ibd_in q5) ?_
  refine xr_aload_n C 88 rfl dX7_moreByExchange_88 ?_
  refine xr_getR C 89 dX7_moreByExchange_89 fl_X7_29 rfl rfl ?_
  refine xr_getR C 92 dX7_moreByExchange_92 fl_X7_288 rfl rfl ?_
  refine xr_aload_n C 95 rfl dX7_moreByExchange_95 ?_
  refine xr_getR C 96 dX7_moreByExchange_96 fl_X7_10 rfl rfl ?_
  refine xr_getR C 99 dX7_moreByExchange_99 fl_X7_138 rfl rfl ?_
  refine xr_iload_n C 102 rfl dX7_moreByExchange_102 ?_
  refine xr_iald C 103 x2.toNatClampNeg rfl dX7_moreByExchange_103 rfl (ibd_in q2) ?_
  refine xr_iconst C 104 4 (by decide +kernel) dX7_moreByExchange_104 ?_
  refine xr_imul C 105 dX7_moreByExchange_105 ?_
  refine xr_iload C 106 rfl dX7_moreByExchange_106 ?_
  refine xr_iadd C 108 dX7_moreByExchange_108 ?_
  obtain ⟨q6, h⟩ := g_ib h
  refine xr_iald C 109 ((((w.1 5 x2.toNatClampNeg) * 4) + (w.1 6 x2.toNatClampNeg)).toNatClampNeg) rfl dX7_moreByExchange_109 rfl (ibd_in q6) ?_
  refine xr_isub C 110 dX7_moreByExchange_110 ?_
  refine xr_istore C 111 dX7_moreByExchange_111 (xnb hL rfl) ?_
  refine xr_iload C 113 rfl dX7_moreByExchange_113 ?_
  refine xr_if_lt C 115 123 dX7_moreByExchange_115 rfl (fun q => ?_) (fun q => ?_)
  · have h := g_it h q
    refine xr_iconst C 123 0 (by decide +kernel) dX7_moreByExchange_123 ?_
    refine xr_goto C 124 132 dX7_moreByExchange_124 rfl ?_
    cases h
    exact xr_iret C 132 E dX7_moreByExchange_132
  · have h := g_if h q
    refine xr_iload C 118 rfl dX7_moreByExchange_118 ?_
    refine xr_if_ge C 120 127 dX7_moreByExchange_120 rfl (fun q => ?_) (fun q => ?_)
    · have h := g_it h q
      refine xr_iload C 127 rfl dX7_moreByExchange_127 ?_
      refine xr_iload C 129 rfl dX7_moreByExchange_129 ?_
      refine xr_iadd C 131 dX7_moreByExchange_131 ?_
      exact xG.sub (bX7_moreByExchange_132 C hL E h) trivial
    · have h := g_if h q
      refine xr_iconst C 123 0 (by decide +kernel) dX7_moreByExchange_123 ?_
      refine xr_goto C 124 132 dX7_moreByExchange_124 rfl ?_
      cases h
      exact xr_iret C 132 E dX7_moreByExchange_132
set_option maxRecDepth 100000 in
set_option maxHeartbeats 4000000 in
theorem mX7_moreByExchange {l : Launch} {ad : Nat → Nat} {G : gEnv} {w : xW} {x1 : Int32} {x2 : Int32} {r : Int32} (h : fX7_moreByExchange w x1 x2 = some r) : xCt l ad G 1 yX7_moreByExchange cX7_moreByExchange 7 (some .int) [.ref (ad 0), .int x1, .int x2] w w (some (.int r)) := xCt.of RX7 rfl (by decide +kernel) (Nat.le_of_ble_eq_true rfl) (fun Γ el ea eG eL C E => by
    subst el
    subst ea
    subst eG
    unfold fX7_moreByExchange at h
    exact xG.sub (bX7_moreByExchange_0 C eL  E h) ⟨rfl, rfl, rfl, trivial⟩)
def fX7_exchange_111 (N : Nat) (K51 : xW → Int32 → Int32 → Int32 → Option (xW × Int32)) (K69 : xW → Int32 → Int32 → Int32 → Int32 → Option (xW × Int32)) (w : xW) (x3 : Int32) (x4 : Int32) (x5 : Int32) (x6 : Int32) : Option (xW × Int32) :=
  K69 w x3 x4 x5 (x6 + 1)
def fX7_exchange_69b (N : Nat) (K51 : xW → Int32 → Int32 → Int32 → Option (xW × Int32)) (K69 : xW → Int32 → Int32 → Int32 → Int32 → Option (xW × Int32)) (w : xW) (x3 : Int32) (x4 : Int32) (x5 : Int32) (x6 : Int32) : Option (xW × Int32) :=
  if (w.1 1 3) ≤ x6 then
    K51 w x3 x4 (x5 + 1)
  else
  (fX7_moreByExchange w x5 x6).bind fun z9 =>
  if z9 ≤ x4 then
    fX7_exchange_111 N K51 K69 w x3 x4 x5 x6
  else
  fX7_exchange_111 N K51 K69 w ((10 * x5) + x6) z9 x5 x6
def fX7_exchange_69 (N : Nat) (K51 : xW → Int32 → Int32 → Int32 → Option (xW × Int32)) : Nat → xW → Int32 → Int32 → Int32 → Int32 → Option (xW × Int32)
  | 0, _, _, _, _, _ => none
  | n + 1, w, x3, x4, x5, x6 => fX7_exchange_69b N K51 (fX7_exchange_69 N K51 n) w x3 x4 x5 x6
def fX7_exchange_51b (N : Nat) (K51 : xW → Int32 → Int32 → Int32 → Option (xW × Int32)) (w : xW) (x3 : Int32) (x4 : Int32) (x5 : Int32) : Option (xW × Int32) :=
  if (w.1 1 3) ≤ x5 then
    if x3 = (-1000000004) then
      (fX7_refuse w (-1000000004)).bind fun z7 =>
      some (z7.1, z7.2)
    else
    some (w, x3)
  else
  fX7_exchange_69 N K51 N w x3 x4 x5 (x5 + 1)
def fX7_exchange_51 (N : Nat) : Nat → xW → Int32 → Int32 → Int32 → Option (xW × Int32)
  | 0, _, _, _, _ => none
  | n + 1, w, x3, x4, x5 => fX7_exchange_51b N (fX7_exchange_51 N n) w x3 x4 x5
def fX7_exchange_0 (N : Nat) (w : xW) (x1 : Int32) (x2 : Int32) : Option (xW × Int32) :=
  if (fX7_isSpan x1 x2) = 0 then
    (fX7_refuse w (-1000000001)).bind fun z5 =>
    some (z5.1, z5.2)
  else
  (fX3_watch N w x1 x2).bind fun z1 =>
  (fX3_reckonAll N z1).bind fun z3 =>
  fX7_exchange_51 N N z3 (-1000000004) 0 0
def fX7_exchange (N : Nat) (w : xW) (x1 : Int32) (x2 : Int32) : Option (xW × Int32) := fX7_exchange_0 N w x1 x2
set_option maxRecDepth 100000 in
set_option maxHeartbeats 4000000 in
theorem bX7_exchange_111 {Γ : xΓ} (C : xOK Γ cX7_exchange RX7 6) (hL : xn Γ = 8) {N : Nat} {K51 : xW → Int32 → Int32 → Int32 → Option (xW × Int32)} {K69 : xW → Int32 → Int32 → Int32 → Int32 → Option (xW × Int32)} {w : xW} {x3 : Int32} {x4 : Int32} {x5 : Int32} {x6 : Int32} {r : xW × Int32} (E : xEnd Γ (some .int) r.1 (some (.int r.2))) (hK51 : ∀ (w : xW) (x3 : Int32) (x4 : Int32) (x5 : Int32), K51 w x3 x4 x5 = some r → xG Γ w 51 [(0, .ref (xad Γ 0)), (3, .int x3), (4, .int x4), (5, .int x5)] []) (hK69 : ∀ (w : xW) (x3 : Int32) (x4 : Int32) (x5 : Int32) (x6 : Int32), K69 w x3 x4 x5 x6 = some r → xG Γ w 69 [(0, .ref (xad Γ 0)), (3, .int x3), (4, .int x4), (5, .int x5), (6, .int x6)] []) (h : fX7_exchange_111 N K51 K69 w x3 x4 x5 x6 = some r) : xG Γ w 111 [(0, .ref (xad Γ 0)), (3, .int x3), (4, .int x4), (5, .int x5), (6, .int x6)] [] := by
  unfold fX7_exchange_111 at h
  refine xr_iinc C 111 1 (by decide +kernel) rfl dX7_exchange_111 (xnb hL rfl) ?_
  refine xr_goto C 114 69 dX7_exchange_114 rfl ?_
  exact xG.sub (hK69 _ _ _ _ _ h) ⟨rfl, rfl, rfl, rfl, rfl, trivial⟩
set_option maxRecDepth 100000 in
set_option maxHeartbeats 4000000 in
theorem bX7_exchange_69b {Γ : xΓ} (C : xOK Γ cX7_exchange RX7 6) (hL : xn Γ = 8) {N : Nat} {K51 : xW → Int32 → Int32 → Int32 → Option (xW × Int32)} {K69 : xW → Int32 → Int32 → Int32 → Int32 → Option (xW × Int32)} {w : xW} {x3 : Int32} {x4 : Int32} {x5 : Int32} {x6 : Int32} {r : xW × Int32} (E : xEnd Γ (some .int) r.1 (some (.int r.2))) (hK51 : ∀ (w : xW) (x3 : Int32) (x4 : Int32) (x5 : Int32), K51 w x3 x4 x5 = some r → xG Γ w 51 [(0, .ref (xad Γ 0)), (3, .int x3), (4, .int x4), (5, .int x5)] []) (hK69 : ∀ (w : xW) (x3 : Int32) (x4 : Int32) (x5 : Int32) (x6 : Int32), K69 w x3 x4 x5 x6 = some r → xG Γ w 69 [(0, .ref (xad Γ 0)), (3, .int x3), (4, .int x4), (5, .int x5), (6, .int x6)] []) (h : fX7_exchange_69b N K51 K69 w x3 x4 x5 x6 = some r) : xG Γ w 69 [(0, .ref (xad Γ 0)), (3, .int x3), (4, .int x4), (5, .int x5), (6, .int x6)] [] := by
  unfold fX7_exchange_69b at h
  refine xr_iload C 69 rfl dX7_exchange_69 ?_
  refine xr_aload_n C 71 rfl dX7_exchange_71 ?_
  refine xr_getR C 72 dX7_exchange_72 fl_X7_10 rfl rfl ?_
  refine xr_getI C 75 dX7_exchange_75 fl_X7_127 rfl rfl ?_
  refine xr_icmp_ge C 78 117 dX7_exchange_78 rfl (fun q => ?_) (fun q => ?_)
  · have h := g_it h q
    refine xr_iinc C 117 1 (by decide +kernel) rfl dX7_exchange_117 (xnb hL rfl) ?_
    refine xr_goto C 120 51 dX7_exchange_120 rfl ?_
    exact xG.sub (hK51 _ _ _ _ h) ⟨rfl, rfl, rfl, rfl, trivial⟩
  · have h := g_if h q
    refine xr_aload_n C 81 rfl dX7_exchange_81 ?_
    refine xr_iload C 82 rfl dX7_exchange_82 ?_
    refine xr_iload C 84 rfl dX7_exchange_84 ?_
    obtain ⟨z9, q10, h⟩ := g_bind h
    refine xr_callV C 86 (mX7_moreByExchange q10) v_X7_moreByExchange ml_X7_174 (Nat.le_of_ble_eq_true rfl) (Nat.le_of_ble_eq_true rfl) (xrecv C rfl rfl) rfl rfl (Nat.le_of_ble_eq_true rfl) rfl dX7_exchange_86 ?_
    refine xr_istore C 89 dX7_exchange_89 (xnb hL rfl) ?_
    refine xr_iload C 91 rfl dX7_exchange_91 ?_
    refine xr_iload C 93 rfl dX7_exchange_93 ?_
    refine xr_icmp_le C 95 111 dX7_exchange_95 rfl (fun q => ?_) (fun q => ?_)
    · have h := g_it h q
      exact xG.sub (bX7_exchange_111 C hL E hK51 hK69 h) ⟨rfl, rfl, rfl, rfl, rfl, trivial⟩
    · have h := g_if h q
      refine xr_bipush C 98 10 (by decide +kernel) dX7_exchange_98 ?_
      refine xr_iload C 100 rfl dX7_exchange_100 ?_
      refine xr_imul C 102 dX7_exchange_102 ?_
      refine xr_iload C 103 rfl dX7_exchange_103 ?_
      refine xr_iadd C 105 dX7_exchange_105 ?_
      refine xr_istore_n C 106 dX7_exchange_106 (xnb hL rfl) ?_
      refine xr_iload C 107 rfl dX7_exchange_107 ?_
      refine xr_istore C 109 dX7_exchange_109 (xnb hL rfl) ?_
      exact xG.sub (bX7_exchange_111 C hL E hK51 hK69 h) ⟨rfl, rfl, rfl, rfl, rfl, trivial⟩
set_option maxRecDepth 100000 in
set_option maxHeartbeats 4000000 in
theorem bX7_exchange_69 {Γ : xΓ} (C : xOK Γ cX7_exchange RX7 6) (hL : xn Γ = 8) {N : Nat} {K51 : xW → Int32 → Int32 → Int32 → Option (xW × Int32)} {r : xW × Int32} (E : xEnd Γ (some .int) r.1 (some (.int r.2))) (hK51 : ∀ (w : xW) (x3 : Int32) (x4 : Int32) (x5 : Int32), K51 w x3 x4 x5 = some r → xG Γ w 51 [(0, .ref (xad Γ 0)), (3, .int x3), (4, .int x4), (5, .int x5)] []) : ∀ (n : Nat) (w : xW) (x3 : Int32) (x4 : Int32) (x5 : Int32) (x6 : Int32), fX7_exchange_69 N K51 n w x3 x4 x5 x6 = some r → xG Γ w 69 [(0, .ref (xad Γ 0)), (3, .int x3), (4, .int x4), (5, .int x5), (6, .int x6)] []
  | 0, _, _, _, _, _, h => by cases h
  | n + 1, w, x3, x4, x5, x6, h => bX7_exchange_69b C hL E hK51 (bX7_exchange_69 C hL E hK51 n) h
set_option maxRecDepth 100000 in
set_option maxHeartbeats 4000000 in
theorem bX7_exchange_51b {Γ : xΓ} (C : xOK Γ cX7_exchange RX7 6) (hL : xn Γ = 8) {N : Nat} {K51 : xW → Int32 → Int32 → Int32 → Option (xW × Int32)} {w : xW} {x3 : Int32} {x4 : Int32} {x5 : Int32} {r : xW × Int32} (E : xEnd Γ (some .int) r.1 (some (.int r.2))) (hK51 : ∀ (w : xW) (x3 : Int32) (x4 : Int32) (x5 : Int32), K51 w x3 x4 x5 = some r → xG Γ w 51 [(0, .ref (xad Γ 0)), (3, .int x3), (4, .int x4), (5, .int x5)] []) (h : fX7_exchange_51b N K51 w x3 x4 x5 = some r) : xG Γ w 51 [(0, .ref (xad Γ 0)), (3, .int x3), (4, .int x4), (5, .int x5)] [] := by
  unfold fX7_exchange_51b at h
  refine xr_iload C 51 rfl dX7_exchange_51 ?_
  refine xr_aload_n C 53 rfl dX7_exchange_53 ?_
  refine xr_getR C 54 dX7_exchange_54 fl_X7_10 rfl rfl ?_
  refine xr_getI C 57 dX7_exchange_57 fl_X7_127 rfl rfl ?_
  refine xr_icmp_ge C 60 123 dX7_exchange_60 rfl (fun q => ?_) (fun q => ?_)
  · have h := g_it h q
    refine xr_iload_n C 123 rfl dX7_exchange_123 ?_
    refine xr_ldc C 124 k_X7_120 dX7_exchange_124 ?_
    refine xr_icmp_ne C 126 138 dX7_exchange_126 rfl (fun q => ?_) (fun q => ?_)
    · have h := g_if h q
      refine xr_iload_n C 138 rfl dX7_exchange_138 ?_
      cases h
      exact xr_iret C 139 E dX7_exchange_139
    · have h := g_it h q
      refine xr_aload_n C 129 rfl dX7_exchange_129 ?_
      refine xr_ldc C 130 k_X7_120 dX7_exchange_130 ?_
      obtain ⟨z7, q8, h⟩ := g_bind h
      refine xr_callV C 132 (mX7_refuse q8) v_X7_refuse ml_X7_70 (Nat.le_of_ble_eq_true rfl) (Nat.le_of_ble_eq_true rfl) (xrecv C rfl rfl) rfl rfl (Nat.le_of_ble_eq_true rfl) rfl dX7_exchange_132 ?_
      refine xr_goto C 135 139 dX7_exchange_135 rfl ?_
      cases h
      exact xr_iret C 139 E dX7_exchange_139
  · have h := g_if h q
    refine xr_iload C 63 rfl dX7_exchange_63 ?_
    refine xr_iconst C 65 1 (by decide +kernel) dX7_exchange_65 ?_
    refine xr_iadd C 66 dX7_exchange_66 ?_
    refine xr_istore C 67 dX7_exchange_67 (xnb hL rfl) ?_
    exact xG.sub (bX7_exchange_69 C hL E hK51 N _ _ _ _ _ h) ⟨rfl, rfl, rfl, rfl, rfl, trivial⟩
set_option maxRecDepth 100000 in
set_option maxHeartbeats 4000000 in
theorem bX7_exchange_51 {Γ : xΓ} (C : xOK Γ cX7_exchange RX7 6) (hL : xn Γ = 8) {N : Nat} {r : xW × Int32} (E : xEnd Γ (some .int) r.1 (some (.int r.2))) : ∀ (n : Nat) (w : xW) (x3 : Int32) (x4 : Int32) (x5 : Int32), fX7_exchange_51 N n w x3 x4 x5 = some r → xG Γ w 51 [(0, .ref (xad Γ 0)), (3, .int x3), (4, .int x4), (5, .int x5)] []
  | 0, _, _, _, _, h => by cases h
  | n + 1, w, x3, x4, x5, h => bX7_exchange_51b C hL E (bX7_exchange_51 C hL E n) h
set_option maxRecDepth 100000 in
set_option maxHeartbeats 4000000 in
theorem bX7_exchange_0 {Γ : xΓ} (C : xOK Γ cX7_exchange RX7 6) (hL : xn Γ = 8) {N : Nat} {w : xW} {x1 : Int32} {x2 : Int32} {r : xW × Int32} (E : xEnd Γ (some .int) r.1 (some (.int r.2))) (h : fX7_exchange_0 N w x1 x2 = some r) : xG Γ w 0 [(0, .ref (xad Γ 0)), (1, .int x1), (2, .int x2)] [] := by
  unfold fX7_exchange_0 at h
  refine xr_iload_n C 0 rfl dX7_exchange_0 ?_
  refine xr_iload_n C 1 rfl dX7_exchange_1 ?_
  refine xr_callS C 2 (mX7_isSpan rfl) v_X7_isSpan ml_X7_155 (Nat.le_of_ble_eq_true rfl) (Nat.le_of_ble_eq_true rfl) rfl rfl (Nat.le_of_ble_eq_true rfl) rfl dX7_exchange_2 ?_
  refine xr_if_ne C 5 15 dX7_exchange_5 rfl (fun q => ?_) (fun q => ?_)
  · have h := g_if h q
    refine xr_aload_n C 15 rfl dX7_exchange_15 ?_
    refine xr_getR C 16 dX7_exchange_16 fl_X7_29 rfl rfl ?_
    refine xr_aload_n C 19 rfl dX7_exchange_19 ?_
    refine xr_getR C 20 dX7_exchange_20 fl_X7_10 rfl rfl ?_
    refine xr_getR C 23 dX7_exchange_23 fl_X7_77 rfl rfl ?_
    refine xr_iload_n C 26 rfl dX7_exchange_26 ?_
    refine xr_iload_n C 27 rfl dX7_exchange_27 ?_
    obtain ⟨z1, q2, h⟩ := g_bind h
    refine xr_callV C 28 (mX3_watch q2) v_X3_watch ml_X7_158 (Nat.le_of_ble_eq_true rfl) (Nat.le_of_ble_eq_true rfl) (xrecv C rfl rfl) rfl rfl (Nat.le_of_ble_eq_true rfl) rfl dX7_exchange_28 ?_
    refine xr_aload_n C 31 rfl dX7_exchange_31 ?_
    refine xr_getR C 32 dX7_exchange_32 fl_X7_29 rfl rfl ?_
    refine xr_aload_n C 35 rfl dX7_exchange_35 ?_
    refine xr_getR C 36 dX7_exchange_36 fl_X7_10 rfl rfl ?_
    obtain ⟨z3, q4, h⟩ := g_bind h
    refine xr_callV C 39 (mX3_reckonAll q4) v_X3_reckonAll ml_X7_170 (Nat.le_of_ble_eq_true rfl) (Nat.le_of_ble_eq_true rfl) (xrecv C rfl rfl) rfl rfl (Nat.le_of_ble_eq_true rfl) rfl dX7_exchange_39 ?_
    refine xr_ldc C 42 k_X7_120 dX7_exchange_42 ?_
    refine xr_istore_n C 44 dX7_exchange_44 (xnb hL rfl) ?_
    refine xr_iconst C 45 0 (by decide +kernel) dX7_exchange_45 ?_
    refine xr_istore C 46 dX7_exchange_46 (xnb hL rfl) ?_
    refine xr_iconst C 48 0 (by decide +kernel) dX7_exchange_48 ?_
    refine xr_istore C 49 dX7_exchange_49 (xnb hL rfl) ?_
    exact xG.sub (bX7_exchange_51 C hL E N _ _ _ _ h) ⟨rfl, rfl, rfl, rfl, trivial⟩
  · have h := g_it h q
    refine xr_aload_n C 8 rfl dX7_exchange_8 ?_
    refine xr_ldc C 9 k_X7_69 dX7_exchange_9 ?_
    obtain ⟨z5, q6, h⟩ := g_bind h
    refine xr_callV C 11 (mX7_refuse q6) v_X7_refuse ml_X7_70 (Nat.le_of_ble_eq_true rfl) (Nat.le_of_ble_eq_true rfl) (xrecv C rfl rfl) rfl rfl (Nat.le_of_ble_eq_true rfl) rfl dX7_exchange_11 ?_
    cases h
    exact xr_iret C 14 E dX7_exchange_14
set_option maxRecDepth 100000 in
set_option maxHeartbeats 4000000 in
theorem mX7_exchange {l : Launch} {ad : Nat → Nat} {G : gEnv} {N : Nat} {w : xW} {x1 : Int32} {x2 : Int32} {r : xW × Int32} (h : fX7_exchange N w x1 x2 = some r) : xCt l ad G 6 yX7_exchange cX7_exchange 8 (some .int) [.ref (ad 0), .int x1, .int x2] w r.1 (some (.int r.2)) := xCt.of RX7 rfl (by decide +kernel) (Nat.le_of_ble_eq_true rfl) (fun Γ el ea eG eL C E => by
    subst el
    subst ea
    subst eG
    unfold fX7_exchange at h
    exact xG.sub (bX7_exchange_0 C eL  E h) ⟨rfl, rfl, rfl, trivial⟩)
def fX8_exchange_14 (N : Nat) (w : xW) : Option (xW × Int32) :=
  (fX8_finding w (-1000000001)).bind fun z18 =>
  some (z18.1, z18.2)
def fX8_exchange_217 (N : Nat) (K68 : xW → Int32 → Int32 → Int32 → Option (xW × Int32)) (K86 : xW → Int32 → Int32 → Int32 → Int32 → Option (xW × Int32)) (w : xW) (x3 : Int32) (x4 : Int32) (x5 : Int32) (x6 : Int32) : Option (xW × Int32) :=
  K86 w x3 x4 x5 (x6 + 1)
def fX8_exchange_86b (N : Nat) (K68 : xW → Int32 → Int32 → Int32 → Option (xW × Int32)) (K86 : xW → Int32 → Int32 → Int32 → Int32 → Option (xW × Int32)) (w : xW) (x3 : Int32) (x4 : Int32) (x5 : Int32) (x6 : Int32) : Option (xW × Int32) :=
  if (w.1 56 9) ≤ x6 then
    K68 w x3 x4 (x5 + 1)
  else
  (fX8_frontOf w x5).bind fun z6 =>
  if ibd ((4 * x5) + z6) 32 = true then
  (fX8_frontOf w x6).bind fun z9 =>
  if ibd ((4 * x6) + z9) 32 = true then
  (fX8_frontOf w x6).bind fun z12 =>
  if ibd ((4 * x5) + z12) 32 = true then
  (fX8_frontOf w x5).bind fun z15 =>
  if ibd ((4 * x6) + z15) 32 = true then
  if (w.1 63 (((4 * x5) + z12).toNatClampNeg)) < (w.1 63 (((4 * x5) + z6).toNatClampNeg)) then
    fX8_exchange_217 N K68 K86 w x3 x4 x5 x6
  else
  if (w.1 63 (((4 * x6) + z15).toNatClampNeg)) < (w.1 63 (((4 * x6) + z9).toNatClampNeg)) then
    fX8_exchange_217 N K68 K86 w x3 x4 x5 x6
  else
  if ((((w.1 63 (((4 * x5) + z12).toNatClampNeg)) + (w.1 63 (((4 * x6) + z15).toNatClampNeg))) - (w.1 63 (((4 * x5) + z6).toNatClampNeg))) - (w.1 63 (((4 * x6) + z9).toNatClampNeg))) ≤ x4 then
    fX8_exchange_217 N K68 K86 w x3 x4 x5 x6
  else
  fX8_exchange_217 N K68 K86 w ((10 * x5) + x6) ((((w.1 63 (((4 * x5) + z12).toNatClampNeg)) + (w.1 63 (((4 * x6) + z15).toNatClampNeg))) - (w.1 63 (((4 * x5) + z6).toNatClampNeg))) - (w.1 63 (((4 * x6) + z9).toNatClampNeg))) x5 x6
  else none
  else none
  else none
  else none
def fX8_exchange_86 (N : Nat) (K68 : xW → Int32 → Int32 → Int32 → Option (xW × Int32)) : Nat → xW → Int32 → Int32 → Int32 → Int32 → Option (xW × Int32)
  | 0, _, _, _, _, _ => none
  | n + 1, w, x3, x4, x5, x6 => fX8_exchange_86b N K68 (fX8_exchange_86 N K68 n) w x3 x4 x5 x6
def fX8_exchange_68b (N : Nat) (K68 : xW → Int32 → Int32 → Int32 → Option (xW × Int32)) (w : xW) (x3 : Int32) (x4 : Int32) (x5 : Int32) : Option (xW × Int32) :=
  if (w.1 56 9) ≤ x5 then
    if 0 ≤ x3 then
      some (w, x3)
    else
    (fX8_finding w (-1000000004)).bind fun z4 =>
    some (z4.1, z4.2)
  else
  fX8_exchange_86 N K68 N w x3 x4 x5 (x5 + 1)
def fX8_exchange_68 (N : Nat) : Nat → xW → Int32 → Int32 → Int32 → Option (xW × Int32)
  | 0, _, _, _, _ => none
  | n + 1, w, x3, x4, x5 => fX8_exchange_68b N (fX8_exchange_68 N n) w x3 x4 x5
def fX8_exchange_23b (N : Nat) (K23 : xW → Int32 → Int32 → Int32 → Option (xW × Int32)) (w : xW) (x1 : Int32) (x2 : Int32) (x3 : Int32) : Option (xW × Int32) :=
  if (4 * (w.1 56 9)) ≤ x3 then
    fX8_exchange_68 N N w (-1) 0 0
  else
  (fX8_sumOf N w (x3 / 4) (irem x3 4) x1 x2).bind fun z1 =>
  if ibd x3 32 = true then
  K23 (sI z1.1 63 x3.toNatClampNeg z1.2) x1 x2 (x3 + 1)
  else none
def fX8_exchange_23 (N : Nat) : Nat → xW → Int32 → Int32 → Int32 → Option (xW × Int32)
  | 0, _, _, _, _ => none
  | n + 1, w, x1, x2, x3 => fX8_exchange_23b N (fX8_exchange_23 N n) w x1 x2 x3
def fX8_exchange_0 (N : Nat) (w : xW) (x1 : Int32) (x2 : Int32) : Option (xW × Int32) :=
  if (fX8_isTick x1) = 0 then
    fX8_exchange_14 N w
  else
  if (fX8_isSpan x2) = 0 then
    fX8_exchange_14 N w
  else
  fX8_exchange_23 N N w x1 x2 0
def fX8_exchange (N : Nat) (w : xW) (x1 : Int32) (x2 : Int32) : Option (xW × Int32) := fX8_exchange_0 N w x1 x2
set_option maxRecDepth 100000 in
set_option maxHeartbeats 4000000 in
theorem bX8_exchange_14 {Γ : xΓ} (C : xOK Γ cX8_exchange RX8 8) (hL : xn Γ = 12) {N : Nat} {w : xW} {r : xW × Int32} (E : xEnd Γ (some .int) r.1 (some (.int r.2))) (h : fX8_exchange_14 N w = some r) : xG Γ w 14 [(0, .ref (xad Γ 55))] [] := by
  unfold fX8_exchange_14 at h
  refine xr_aload_n C 14 rfl dX8_exchange_14 ?_
  refine xr_ldc C 15 k_X8_98 dX8_exchange_15 ?_
  obtain ⟨z18, q19, h⟩ := g_bind h
  refine xr_callV C 17 (mX8_finding q19) v_X8_finding ml_X8_125 (Nat.le_of_ble_eq_true rfl) (Nat.le_of_ble_eq_true rfl) (xrecv C rfl rfl) rfl rfl (Nat.le_of_ble_eq_true rfl) rfl dX8_exchange_17 ?_
  cases h
  exact xr_iret C 20 E dX8_exchange_20
set_option maxRecDepth 100000 in
set_option maxHeartbeats 4000000 in
theorem bX8_exchange_217 {Γ : xΓ} (C : xOK Γ cX8_exchange RX8 8) (hL : xn Γ = 12) {N : Nat} {K68 : xW → Int32 → Int32 → Int32 → Option (xW × Int32)} {K86 : xW → Int32 → Int32 → Int32 → Int32 → Option (xW × Int32)} {w : xW} {x3 : Int32} {x4 : Int32} {x5 : Int32} {x6 : Int32} {r : xW × Int32} (E : xEnd Γ (some .int) r.1 (some (.int r.2))) (hK68 : ∀ (w : xW) (x3 : Int32) (x4 : Int32) (x5 : Int32), K68 w x3 x4 x5 = some r → xG Γ w 68 [(0, .ref (xad Γ 55)), (3, .int x3), (4, .int x4), (5, .int x5)] []) (hK86 : ∀ (w : xW) (x3 : Int32) (x4 : Int32) (x5 : Int32) (x6 : Int32), K86 w x3 x4 x5 x6 = some r → xG Γ w 86 [(0, .ref (xad Γ 55)), (3, .int x3), (4, .int x4), (5, .int x5), (6, .int x6)] []) (h : fX8_exchange_217 N K68 K86 w x3 x4 x5 x6 = some r) : xG Γ w 217 [(0, .ref (xad Γ 55)), (3, .int x3), (4, .int x4), (5, .int x5), (6, .int x6)] [] := by
  unfold fX8_exchange_217 at h
  refine xr_iinc C 217 1 (by decide +kernel) rfl dX8_exchange_217 (xnb hL rfl) ?_
  refine xr_goto C 220 86 dX8_exchange_220 rfl ?_
  exact xG.sub (hK86 _ _ _ _ _ h) ⟨rfl, rfl, rfl, rfl, rfl, trivial⟩
set_option maxRecDepth 100000 in
set_option maxHeartbeats 4000000 in
theorem bX8_exchange_86b {Γ : xΓ} (C : xOK Γ cX8_exchange RX8 8) (hL : xn Γ = 12) {N : Nat} {K68 : xW → Int32 → Int32 → Int32 → Option (xW × Int32)} {K86 : xW → Int32 → Int32 → Int32 → Int32 → Option (xW × Int32)} {w : xW} {x3 : Int32} {x4 : Int32} {x5 : Int32} {x6 : Int32} {r : xW × Int32} (E : xEnd Γ (some .int) r.1 (some (.int r.2))) (hK68 : ∀ (w : xW) (x3 : Int32) (x4 : Int32) (x5 : Int32), K68 w x3 x4 x5 = some r → xG Γ w 68 [(0, .ref (xad Γ 55)), (3, .int x3), (4, .int x4), (5, .int x5)] []) (hK86 : ∀ (w : xW) (x3 : Int32) (x4 : Int32) (x5 : Int32) (x6 : Int32), K86 w x3 x4 x5 x6 = some r → xG Γ w 86 [(0, .ref (xad Γ 55)), (3, .int x3), (4, .int x4), (5, .int x5), (6, .int x6)] []) (h : fX8_exchange_86b N K68 K86 w x3 x4 x5 x6 = some r) : xG Γ w 86 [(0, .ref (xad Γ 55)), (3, .int x3), (4, .int x4), (5, .int x5), (6, .int x6)] [] := by
  unfold fX8_exchange_86b at h
  refine xr_iload C 86 rfl dX8_exchange_86 ?_
  refine xr_aload_n C 88 rfl dX8_exchange_88 ?_
  refine xr_getR C 89 dX8_exchange_89 fl_X8_9 rfl rfl ?_
  refine xr_bipush C 92 9 (by decide +kernel) dX8_exchange_92 ?_
  refine xr_iald C 94 9 (by decide +kernel) dX8_exchange_94 rfl (ibd_in (by decide +kernel)) ?_
  refine xr_icmp_ge C 95 223 dX8_exchange_95 rfl (fun q => ?_) (fun q => ?_)
  · have h := g_it h q
    refine xr_iinc C 223 1 (by decide +kernel) rfl dX8_exchange_223 (xnb hL rfl) ?_
    refine xr_goto C 226 68 dX8_exchange_226 rfl ?_
    exact xG.sub (hK68 _ _ _ _ h) ⟨rfl, rfl, rfl, rfl, trivial⟩
  · have h := g_if h q
    refine xr_aload_n C 98 rfl dX8_exchange_98 ?_
    refine xr_getR C 99 dX8_exchange_99 fl_X8_31 rfl rfl ?_
    refine xr_iconst C 102 4 (by decide +kernel) dX8_exchange_102 ?_
    refine xr_iload C 103 rfl dX8_exchange_103 ?_
    refine xr_imul C 105 dX8_exchange_105 ?_
    refine xr_aload_n C 106 rfl dX8_exchange_106 ?_
    refine xr_iload C 107 rfl dX8_exchange_107 ?_
    obtain ⟨z6, q7, h⟩ := g_bind h
    refine xr_callV C 109 (mX8_frontOf q7) v_X8_frontOf ml_X8_167 (Nat.le_of_ble_eq_true rfl) (Nat.le_of_ble_eq_true rfl) (xrecv C rfl rfl) rfl rfl (Nat.le_of_ble_eq_true rfl) rfl dX8_exchange_109 ?_
    refine xr_iadd C 112 dX8_exchange_112 ?_
    obtain ⟨q8, h⟩ := g_ib h
    refine xr_iald C 113 (((4 * x5) + z6).toNatClampNeg) rfl dX8_exchange_113 rfl (ibd_in q8) ?_
    refine xr_istore C 114 dX8_exchange_114 (xnb hL rfl) ?_
    refine xr_aload_n C 116 rfl dX8_exchange_116 ?_
    refine xr_getR C 117 dX8_exchange_117 fl_X8_31 rfl rfl ?_
    refine xr_iconst C 120 4 (by decide +kernel) dX8_exchange_120 ?_
    refine xr_iload C 121 rfl dX8_exchange_121 ?_
    refine xr_imul C 123 dX8_exchange_123 ?_
    refine xr_aload_n C 124 rfl dX8_exchange_124 ?_
    refine xr_iload C 125 rfl dX8_exchange_125 ?_
    obtain ⟨z9, q10, h⟩ := g_bind h
    refine xr_callV C 127 (mX8_frontOf q10) v_X8_frontOf ml_X8_167 (Nat.le_of_ble_eq_true rfl) (Nat.le_of_ble_eq_true rfl) (xrecv C rfl rfl) rfl rfl (Nat.le_of_ble_eq_true rfl) rfl dX8_exchange_127 ?_
    refine xr_iadd C 130 dX8_exchange_130 ?_
    obtain ⟨q11, h⟩ := g_ib h
    refine xr_iald C 131 (((4 * x6) + z9).toNatClampNeg) rfl dX8_exchange_131 rfl (ibd_in q11) ?_
    refine xr_istore C 132 dX8_exchange_132 (xnb hL rfl) ?_
    refine xr_aload_n C 134 rfl dX8_exchange_134 ?_
    refine xr_getR C 135 dX8_exchange_135 fl_X8_31 rfl rfl ?_
    refine xr_iconst C 138 4 (by decide +kernel) dX8_exchange_138 ?_
    refine xr_iload C 139 rfl dX8_exchange_139 ?_
    refine xr_imul C 141 dX8_exchange_141 ?_
    refine xr_aload_n C 142 rfl dX8_exchange_142 ?_
    refine xr_iload C 143 rfl dX8_exchange_143 ?_
    obtain ⟨z12, q13, h⟩ := g_bind h
    refine xr_callV C 145 (mX8_frontOf q13) v_X8_frontOf ml_X8_167 (Nat.le_of_ble_eq_true rfl) (Nat.le_of_ble_eq_true rfl) (xrecv C rfl rfl) rfl rfl (Nat.le_of_ble_eq_true rfl) rfl dX8_exchange_145 ?_
    refine xr_iadd C 148 dX8_exchange_148 ?_
    obtain ⟨q14, h⟩ := g_ib h
    refine xr_iald C 149 (((4 * x5) + z12).toNatClampNeg) rfl dX8_exchange_149 rfl (ibd_in q14) ?_
    refine xr_istore C 150 dX8_exchange_150 (xnb hL rfl) ?_
    refine xr_aload_n C 152 rfl dX8_exchange_152 ?_
    refine xr_getR C 153 dX8_exchange_153 fl_X8_31 rfl rfl ?_
    refine xr_iconst C 156 4 (by decide +kernel) dX8_exchange_156 ?_
    refine xr_iload C 157 rfl dX8_exchange_157 ?_
    refine xr_imul C 159 dX8_exchange_159 ?_
    refine xr_aload_n C 160 rfl dX8_exchange_160 ?_
    refine xr_iload C 161 rfl dX8_exchange_161 ?_
    obtain ⟨z15, q16, h⟩ := g_bind h
    refine xr_callV C 163 (mX8_frontOf q16) v_X8_frontOf ml_X8_167 (Nat.le_of_ble_eq_true rfl) (Nat.le_of_ble_eq_true rfl) (xrecv C rfl rfl) rfl rfl (Nat.le_of_ble_eq_true rfl) rfl dX8_exchange_163 ?_
    refine xr_iadd C 166 dX8_exchange_166 ?_
    obtain ⟨q17, h⟩ := g_ib h
    refine xr_iald C 167 (((4 * x6) + z15).toNatClampNeg) rfl dX8_exchange_167 rfl (ibd_in q17) ?_
    refine xr_istore C 168 dX8_exchange_168 (xnb hL rfl) ?_
    refine xr_iload C 170 rfl dX8_exchange_170 ?_
    refine xr_iload C 172 rfl dX8_exchange_172 ?_
    refine xr_iadd C 174 dX8_exchange_174 ?_
    refine xr_iload C 175 rfl dX8_exchange_175 ?_
    refine xr_isub C 177 dX8_exchange_177 ?_
    refine xr_iload C 178 rfl dX8_exchange_178 ?_
    refine xr_isub C 180 dX8_exchange_180 ?_
    refine xr_istore C 181 dX8_exchange_181 (xnb hL rfl) ?_
    refine xr_iload C 183 rfl dX8_exchange_183 ?_
    refine xr_iload C 185 rfl dX8_exchange_185 ?_
    refine xr_icmp_lt C 187 217 dX8_exchange_187 rfl (fun q => ?_) (fun q => ?_)
    · have h := g_it h q
      exact xG.sub (bX8_exchange_217 C hL E hK68 hK86 h) ⟨rfl, rfl, rfl, rfl, rfl, trivial⟩
    · have h := g_if h q
      refine xr_iload C 190 rfl dX8_exchange_190 ?_
      refine xr_iload C 192 rfl dX8_exchange_192 ?_
      refine xr_icmp_lt C 194 217 dX8_exchange_194 rfl (fun q => ?_) (fun q => ?_)
      · have h := g_it h q
        exact xG.sub (bX8_exchange_217 C hL E hK68 hK86 h) ⟨rfl, rfl, rfl, rfl, rfl, trivial⟩
      · have h := g_if h q
        refine xr_iload C 197 rfl dX8_exchange_197 ?_
        refine xr_iload C 199 rfl dX8_exchange_199 ?_
        refine xr_icmp_le C 201 217 dX8_exchange_201 rfl (fun q => ?_) (fun q => ?_)
        · have h := g_it h q
          exact xG.sub (bX8_exchange_217 C hL E hK68 hK86 h) ⟨rfl, rfl, rfl, rfl, rfl, trivial⟩
        · have h := g_if h q
          refine xr_bipush C 204 10 (by decide +kernel) dX8_exchange_204 ?_
          refine xr_iload C 206 rfl dX8_exchange_206 ?_
          refine xr_imul C 208 dX8_exchange_208 ?_
          refine xr_iload C 209 rfl dX8_exchange_209 ?_
          refine xr_iadd C 211 dX8_exchange_211 ?_
          refine xr_istore_n C 212 dX8_exchange_212 (xnb hL rfl) ?_
          refine xr_iload C 213 rfl dX8_exchange_213 ?_
          refine xr_istore C 215 dX8_exchange_215 (xnb hL rfl) ?_
          exact xG.sub (bX8_exchange_217 C hL E hK68 hK86 h) ⟨rfl, rfl, rfl, rfl, rfl, trivial⟩
set_option maxRecDepth 100000 in
set_option maxHeartbeats 4000000 in
theorem bX8_exchange_86 {Γ : xΓ} (C : xOK Γ cX8_exchange RX8 8) (hL : xn Γ = 12) {N : Nat} {K68 : xW → Int32 → Int32 → Int32 → Option (xW × Int32)} {r : xW × Int32} (E : xEnd Γ (some .int) r.1 (some (.int r.2))) (hK68 : ∀ (w : xW) (x3 : Int32) (x4 : Int32) (x5 : Int32), K68 w x3 x4 x5 = some r → xG Γ w 68 [(0, .ref (xad Γ 55)), (3, .int x3), (4, .int x4), (5, .int x5)] []) : ∀ (n : Nat) (w : xW) (x3 : Int32) (x4 : Int32) (x5 : Int32) (x6 : Int32), fX8_exchange_86 N K68 n w x3 x4 x5 x6 = some r → xG Γ w 86 [(0, .ref (xad Γ 55)), (3, .int x3), (4, .int x4), (5, .int x5), (6, .int x6)] []
  | 0, _, _, _, _, _, h => by cases h
  | n + 1, w, x3, x4, x5, x6, h => bX8_exchange_86b C hL E hK68 (bX8_exchange_86 C hL E hK68 n) h
set_option maxRecDepth 100000 in
set_option maxHeartbeats 4000000 in
theorem bX8_exchange_68b {Γ : xΓ} (C : xOK Γ cX8_exchange RX8 8) (hL : xn Γ = 12) {N : Nat} {K68 : xW → Int32 → Int32 → Int32 → Option (xW × Int32)} {w : xW} {x3 : Int32} {x4 : Int32} {x5 : Int32} {r : xW × Int32} (E : xEnd Γ (some .int) r.1 (some (.int r.2))) (hK68 : ∀ (w : xW) (x3 : Int32) (x4 : Int32) (x5 : Int32), K68 w x3 x4 x5 = some r → xG Γ w 68 [(0, .ref (xad Γ 55)), (3, .int x3), (4, .int x4), (5, .int x5)] []) (h : fX8_exchange_68b N K68 w x3 x4 x5 = some r) : xG Γ w 68 [(0, .ref (xad Γ 55)), (3, .int x3), (4, .int x4), (5, .int x5)] [] := by
  unfold fX8_exchange_68b at h
  refine xr_iload C 68 rfl dX8_exchange_68 ?_
  refine xr_aload_n C 70 rfl dX8_exchange_70 ?_
  refine xr_getR C 71 dX8_exchange_71 fl_X8_9 rfl rfl ?_
  refine xr_bipush C 74 9 (by decide +kernel) dX8_exchange_74 ?_
  refine xr_iald C 76 9 (by decide +kernel) dX8_exchange_76 rfl (ibd_in (by decide +kernel)) ?_
  refine xr_icmp_ge C 77 229 dX8_exchange_77 rfl (fun q => ?_) (fun q => ?_)
  · have h := g_it h q
    refine xr_iload_n C 229 rfl dX8_exchange_229 ?_
    refine xr_if_ge C 230 242 dX8_exchange_230 rfl (fun q => ?_) (fun q => ?_)
    · have h := g_it h q
      refine xr_iload_n C 242 rfl dX8_exchange_242 ?_
      cases h
      exact xr_iret C 243 E dX8_exchange_243
    · have h := g_if h q
      refine xr_aload_n C 233 rfl dX8_exchange_233 ?_
      refine xr_ldc C 234 k_X8_149 dX8_exchange_234 ?_
      obtain ⟨z4, q5, h⟩ := g_bind h
      refine xr_callV C 236 (mX8_finding q5) v_X8_finding ml_X8_125 (Nat.le_of_ble_eq_true rfl) (Nat.le_of_ble_eq_true rfl) (xrecv C rfl rfl) rfl rfl (Nat.le_of_ble_eq_true rfl) rfl dX8_exchange_236 ?_
      refine xr_goto C 239 243 dX8_exchange_239 rfl ?_
      cases h
      exact xr_iret C 243 E dX8_exchange_243
  · have h := g_if h q
    refine xr_iload C 80 rfl dX8_exchange_80 ?_
    refine xr_iconst C 82 1 (by decide +kernel) dX8_exchange_82 ?_
    refine xr_iadd C 83 dX8_exchange_83 ?_
    refine xr_istore C 84 dX8_exchange_84 (xnb hL rfl) ?_
    exact xG.sub (bX8_exchange_86 C hL E hK68 N _ _ _ _ _ h) ⟨rfl, rfl, rfl, rfl, rfl, trivial⟩
set_option maxRecDepth 100000 in
set_option maxHeartbeats 4000000 in
theorem bX8_exchange_68 {Γ : xΓ} (C : xOK Γ cX8_exchange RX8 8) (hL : xn Γ = 12) {N : Nat} {r : xW × Int32} (E : xEnd Γ (some .int) r.1 (some (.int r.2))) : ∀ (n : Nat) (w : xW) (x3 : Int32) (x4 : Int32) (x5 : Int32), fX8_exchange_68 N n w x3 x4 x5 = some r → xG Γ w 68 [(0, .ref (xad Γ 55)), (3, .int x3), (4, .int x4), (5, .int x5)] []
  | 0, _, _, _, _, h => by cases h
  | n + 1, w, x3, x4, x5, h => bX8_exchange_68b C hL E (bX8_exchange_68 C hL E n) h
set_option maxRecDepth 100000 in
set_option maxHeartbeats 4000000 in
theorem bX8_exchange_23b {Γ : xΓ} (C : xOK Γ cX8_exchange RX8 8) (hL : xn Γ = 12) {N : Nat} {K23 : xW → Int32 → Int32 → Int32 → Option (xW × Int32)} {w : xW} {x1 : Int32} {x2 : Int32} {x3 : Int32} {r : xW × Int32} (E : xEnd Γ (some .int) r.1 (some (.int r.2))) (hK23 : ∀ (w : xW) (x1 : Int32) (x2 : Int32) (x3 : Int32), K23 w x1 x2 x3 = some r → xG Γ w 23 [(0, .ref (xad Γ 55)), (1, .int x1), (2, .int x2), (3, .int x3)] []) (h : fX8_exchange_23b N K23 w x1 x2 x3 = some r) : xG Γ w 23 [(0, .ref (xad Γ 55)), (1, .int x1), (2, .int x2), (3, .int x3)] [] := by
  unfold fX8_exchange_23b at h
  refine xr_iload_n C 23 rfl dX8_exchange_23 ?_
  refine xr_iconst C 24 4 (by decide +kernel) dX8_exchange_24 ?_
  refine xr_aload_n C 25 rfl dX8_exchange_25 ?_
  refine xr_getR C 26 dX8_exchange_26 fl_X8_9 rfl rfl ?_
  refine xr_bipush C 29 9 (by decide +kernel) dX8_exchange_29 ?_
  refine xr_iald C 31 9 (by decide +kernel) dX8_exchange_31 rfl (ibd_in (by decide +kernel)) ?_
  refine xr_imul C 32 dX8_exchange_32 ?_
  refine xr_icmp_ge C 33 60 dX8_exchange_33 rfl (fun q => ?_) (fun q => ?_)
  · have h := g_it h q
    refine xr_iconst C 60 (-1) (by decide +kernel) dX8_exchange_60 ?_
    refine xr_istore_n C 61 dX8_exchange_61 (xnb hL rfl) ?_
    refine xr_iconst C 62 0 (by decide +kernel) dX8_exchange_62 ?_
    refine xr_istore C 63 dX8_exchange_63 (xnb hL rfl) ?_
    refine xr_iconst C 65 0 (by decide +kernel) dX8_exchange_65 ?_
    refine xr_istore C 66 dX8_exchange_66 (xnb hL rfl) ?_
    exact xG.sub (bX8_exchange_68 C hL E N _ _ _ _ h) ⟨rfl, rfl, rfl, rfl, trivial⟩
  · have h := g_if h q
    refine xr_aload_n C 36 rfl dX8_exchange_36 ?_
    refine xr_getR C 37 dX8_exchange_37 fl_X8_31 rfl rfl ?_
    refine xr_iload_n C 40 rfl dX8_exchange_40 ?_
    refine xr_aload_n C 41 rfl dX8_exchange_41 ?_
    refine xr_iload_n C 42 rfl dX8_exchange_42 ?_
    refine xr_iconst C 43 4 (by decide +kernel) dX8_exchange_43 ?_
    refine xr_idiv C 44 (by decide +kernel) dX8_exchange_44 ?_
    refine xr_iload_n C 45 rfl dX8_exchange_45 ?_
    refine xr_iconst C 46 4 (by decide +kernel) dX8_exchange_46 ?_
    refine xr_irem C 47 (by decide +kernel) dX8_exchange_47 ?_
    refine xr_iload_n C 48 rfl dX8_exchange_48 ?_
    refine xr_iload_n C 49 rfl dX8_exchange_49 ?_
    obtain ⟨z1, q2, h⟩ := g_bind h
    refine xr_callV C 50 (mX8_sumOf q2) v_X8_sumOf ml_X8_183 (Nat.le_of_ble_eq_true rfl) (Nat.le_of_ble_eq_true rfl) (xrecv C rfl rfl) rfl rfl (Nat.le_of_ble_eq_true rfl) rfl dX8_exchange_50 ?_
    obtain ⟨q3, h⟩ := g_ib h
    refine xr_iast C 53 x3.toNatClampNeg rfl dX8_exchange_53 rfl (ibd_in q3) ?_
    refine xr_iinc C 54 1 (by decide +kernel) rfl dX8_exchange_54 (xnb hL rfl) ?_
    refine xr_goto C 57 23 dX8_exchange_57 rfl ?_
    exact xG.sub (hK23 _ _ _ _ h) ⟨rfl, rfl, rfl, rfl, trivial⟩
set_option maxRecDepth 100000 in
set_option maxHeartbeats 4000000 in
theorem bX8_exchange_23 {Γ : xΓ} (C : xOK Γ cX8_exchange RX8 8) (hL : xn Γ = 12) {N : Nat} {r : xW × Int32} (E : xEnd Γ (some .int) r.1 (some (.int r.2))) : ∀ (n : Nat) (w : xW) (x1 : Int32) (x2 : Int32) (x3 : Int32), fX8_exchange_23 N n w x1 x2 x3 = some r → xG Γ w 23 [(0, .ref (xad Γ 55)), (1, .int x1), (2, .int x2), (3, .int x3)] []
  | 0, _, _, _, _, h => by cases h
  | n + 1, w, x1, x2, x3, h => bX8_exchange_23b C hL E (bX8_exchange_23 C hL E n) h
set_option maxRecDepth 100000 in
set_option maxHeartbeats 4000000 in
theorem bX8_exchange_0 {Γ : xΓ} (C : xOK Γ cX8_exchange RX8 8) (hL : xn Γ = 12) {N : Nat} {w : xW} {x1 : Int32} {x2 : Int32} {r : xW × Int32} (E : xEnd Γ (some .int) r.1 (some (.int r.2))) (h : fX8_exchange_0 N w x1 x2 = some r) : xG Γ w 0 [(0, .ref (xad Γ 55)), (1, .int x1), (2, .int x2)] [] := by
  unfold fX8_exchange_0 at h
  refine xr_iload_n C 0 rfl dX8_exchange_0 ?_
  refine xr_callS C 1 (mX8_isTick rfl) v_X8_isTick ml_X8_137 (Nat.le_of_ble_eq_true rfl) (Nat.le_of_ble_eq_true rfl) rfl rfl (Nat.le_of_ble_eq_true rfl) rfl dX8_exchange_1 ?_
  refine xr_if_eq C 4 14 dX8_exchange_4 rfl (fun q => ?_) (fun q => ?_)
  · have h := g_it h q
    exact xG.sub (bX8_exchange_14 C hL E h) ⟨rfl, trivial⟩
  · have h := g_if h q
    refine xr_iload_n C 7 rfl dX8_exchange_7 ?_
    refine xr_callS C 8 (mX8_isSpan rfl) v_X8_isSpan ml_X8_180 (Nat.le_of_ble_eq_true rfl) (Nat.le_of_ble_eq_true rfl) rfl rfl (Nat.le_of_ble_eq_true rfl) rfl dX8_exchange_8 ?_
    refine xr_if_ne C 11 21 dX8_exchange_11 rfl (fun q => ?_) (fun q => ?_)
    · have h := g_if h q
      refine xr_iconst C 21 0 (by decide +kernel) dX8_exchange_21 ?_
      refine xr_istore_n C 22 dX8_exchange_22 (xnb hL rfl) ?_
      exact xG.sub (bX8_exchange_23 C hL E N _ _ _ _ h) ⟨rfl, rfl, rfl, rfl, trivial⟩
    · have h := g_it h q
      exact xG.sub (bX8_exchange_14 C hL E h) ⟨rfl, trivial⟩
set_option maxRecDepth 100000 in
set_option maxHeartbeats 4000000 in
theorem mX8_exchange {l : Launch} {ad : Nat → Nat} {G : gEnv} {N : Nat} {w : xW} {x1 : Int32} {x2 : Int32} {r : xW × Int32} (h : fX8_exchange N w x1 x2 = some r) : xCt l ad G 8 yX8_exchange cX8_exchange 12 (some .int) [.ref (ad 55), .int x1, .int x2] w r.1 (some (.int r.2)) := xCt.of RX8 rfl (by decide +kernel) (Nat.le_of_ble_eq_true rfl) (fun Γ el ea eG eL C E => by
    subst el
    subst ea
    subst eG
    unfold fX8_exchange at h
    exact xG.sub (bX8_exchange_0 C eL  E h) ⟨rfl, rfl, rfl, trivial⟩)
def fX1_addShip_50 (w : xW) (x4 : Int32) (s0 : Int32) : Option (xW × Int32) :=
  if ibd s0 6 = true then
  some (sI (sI w 10 s0.toNatClampNeg x4) 1 6 (((sI w 10 s0.toNatClampNeg x4).1 1 6) + 1), (sI w 10 s0.toNatClampNeg x4).1 1 6)
  else none
def fX1_addShip_0 (w : xW) (x1 : Int32) (x2 : Int32) (x3 : Int32) (x4 : Int32) : Option (xW × Int32) :=
  if (w.1 1 6) < 6 then
    if ibd (w.1 1 6) 6 = true then
    if ibd ((sI w 7 ((w.1 1 6).toNatClampNeg) x1).1 1 6) 6 = true then
    if ibd ((sI (sI w 7 ((w.1 1 6).toNatClampNeg) x1) 8 (((sI w 7 ((w.1 1 6).toNatClampNeg) x1).1 1 6).toNatClampNeg) x2).1 1 6) 6 = true then
    fX1_addShip_50 (sI (sI (sI w 7 ((w.1 1 6).toNatClampNeg) x1) 8 (((sI w 7 ((w.1 1 6).toNatClampNeg) x1).1 1 6).toNatClampNeg) x2) 9 (((sI (sI w 7 ((w.1 1 6).toNatClampNeg) x1) 8 (((sI w 7 ((w.1 1 6).toNatClampNeg) x1).1 1 6).toNatClampNeg) x2).1 1 6).toNatClampNeg) x3) x4 ((sI (sI (sI w 7 ((w.1 1 6).toNatClampNeg) x1) 8 (((sI w 7 ((w.1 1 6).toNatClampNeg) x1).1 1 6).toNatClampNeg) x2) 9 (((sI (sI w 7 ((w.1 1 6).toNatClampNeg) x1) 8 (((sI w 7 ((w.1 1 6).toNatClampNeg) x1).1 1 6).toNatClampNeg) x2).1 1 6).toNatClampNeg) x3).1 1 6)
    else none
    else none
    else none
  else
  some (w, (-1000000002))
def fX1_addShip (w : xW) (x1 : Int32) (x2 : Int32) (x3 : Int32) (x4 : Int32) : Option (xW × Int32) := fX1_addShip_0 w x1 x2 x3 x4
set_option maxRecDepth 100000 in
set_option maxHeartbeats 4000000 in
theorem bX1_addShip_50 {Γ : xΓ} (C : xOK Γ cX1_addShip RX1 1) (hL : xn Γ = 5) {w : xW} {x4 : Int32} {s0 : Int32} {r : xW × Int32} (E : xEnd Γ (some .int) r.1 (some (.int r.2))) (h : fX1_addShip_50  w x4 s0 = some r) : xG Γ w 50 [(0, .ref (xad Γ 1)), (4, .int x4)] [.int s0, .ref (xad Γ 10)] := by
  unfold fX1_addShip_50 at h
  refine xr_iload C 50 rfl dX1_addShip_50 ?_
  obtain ⟨q4, h⟩ := g_ib h
  refine xr_iast C 52 s0.toNatClampNeg rfl dX1_addShip_52 rfl (ibd_in q4) ?_
  refine xr_aload_n C 53 rfl dX1_addShip_53 ?_
  refine xr_dup C 54 rfl dX1_addShip_54 ?_
  refine xr_getI C 55 dX1_addShip_55 fl_X1_35 rfl rfl ?_
  refine xr_dup_x1 C 58 rfl rfl dX1_addShip_58 ?_
  refine xr_iconst C 59 1 (by decide +kernel) dX1_addShip_59 ?_
  refine xr_iadd C 60 dX1_addShip_60 ?_
  refine xr_putI C 61 dX1_addShip_61 fp_X1_35 rfl rfl ?_
  cases h
  exact xr_iret C 64 E dX1_addShip_64
set_option maxRecDepth 100000 in
set_option maxHeartbeats 4000000 in
theorem bX1_addShip_0 {Γ : xΓ} (C : xOK Γ cX1_addShip RX1 1) (hL : xn Γ = 5) {w : xW} {x1 : Int32} {x2 : Int32} {x3 : Int32} {x4 : Int32} {r : xW × Int32} (E : xEnd Γ (some .int) r.1 (some (.int r.2))) (h : fX1_addShip_0  w x1 x2 x3 x4 = some r) : xG Γ w 0 [(0, .ref (xad Γ 1)), (1, .int x1), (2, .int x2), (3, .int x3), (4, .int x4)] [] := by
  unfold fX1_addShip_0 at h
  refine xr_aload_n C 0 rfl dX1_addShip_0 ?_
  refine xr_getI C 1 dX1_addShip_1 fl_X1_35 rfl rfl ?_
  refine xr_bipush C 4 6 (by decide +kernel) dX1_addShip_4 ?_
  refine xr_icmp_lt C 6 12 dX1_addShip_6 rfl (fun q => ?_) (fun q => ?_)
  · have h := g_it h q
    refine xr_aload_n C 12 rfl dX1_addShip_12 ?_
    refine xr_getR C 13 dX1_addShip_13 fl_X1_38 rfl rfl ?_
    refine xr_aload_n C 16 rfl dX1_addShip_16 ?_
    refine xr_getI C 17 dX1_addShip_17 fl_X1_35 rfl rfl ?_
    refine xr_iload_n C 20 rfl dX1_addShip_20 ?_
    obtain ⟨q1, h⟩ := g_ib h
    refine xr_iast C 21 ((w.1 1 6).toNatClampNeg) rfl dX1_addShip_21 rfl (ibd_in q1) ?_
    refine xr_aload_n C 22 rfl dX1_addShip_22 ?_
    refine xr_getR C 23 dX1_addShip_23 fl_X1_41 rfl rfl ?_
    refine xr_aload_n C 26 rfl dX1_addShip_26 ?_
    refine xr_getI C 27 dX1_addShip_27 fl_X1_35 rfl rfl ?_
    refine xr_iload_n C 30 rfl dX1_addShip_30 ?_
    obtain ⟨q2, h⟩ := g_ib h
    refine xr_iast C 31 (((sI w 7 ((w.1 1 6).toNatClampNeg) x1).1 1 6).toNatClampNeg) rfl dX1_addShip_31 rfl (ibd_in q2) ?_
    refine xr_aload_n C 32 rfl dX1_addShip_32 ?_
    refine xr_getR C 33 dX1_addShip_33 fl_X1_44 rfl rfl ?_
    refine xr_aload_n C 36 rfl dX1_addShip_36 ?_
    refine xr_getI C 37 dX1_addShip_37 fl_X1_35 rfl rfl ?_
    refine xr_iload_n C 40 rfl dX1_addShip_40 ?_
    obtain ⟨q3, h⟩ := g_ib h
    refine xr_iast C 41 (((sI (sI w 7 ((w.1 1 6).toNatClampNeg) x1) 8 (((sI w 7 ((w.1 1 6).toNatClampNeg) x1).1 1 6).toNatClampNeg) x2).1 1 6).toNatClampNeg) rfl dX1_addShip_41 rfl (ibd_in q3) ?_
    refine xr_aload_n C 42 rfl dX1_addShip_42 ?_
    refine xr_getR C 43 dX1_addShip_43 fl_X1_47 rfl rfl ?_
    refine xr_aload_n C 46 rfl dX1_addShip_46 ?_
    refine xr_getI C 47 dX1_addShip_47 fl_X1_35 rfl rfl ?_
    exact xG.sub (bX1_addShip_50 C hL E h) ⟨rfl, rfl, trivial⟩
  · have h := g_if h q
    refine xr_ldc C 9 k_X1_67 dX1_addShip_9 ?_
    cases h
    exact xr_iret C 11 E dX1_addShip_11
set_option maxRecDepth 100000 in
set_option maxHeartbeats 4000000 in
theorem mX1_addShip {l : Launch} {ad : Nat → Nat} {G : gEnv} {w : xW} {x1 : Int32} {x2 : Int32} {x3 : Int32} {x4 : Int32} {r : xW × Int32} (h : fX1_addShip w x1 x2 x3 x4 = some r) : xCt l ad G 1 yX1_addShip cX1_addShip 5 (some .int) [.ref (ad 1), .int x1, .int x2, .int x3, .int x4] w r.1 (some (.int r.2)) := xCt.of RX1 rfl (by decide +kernel) (Nat.le_of_ble_eq_true rfl) (fun Γ el ea eG eL C E => by
    subst el
    subst ea
    subst eG
    unfold fX1_addShip at h
    exact xG.sub (bX1_addShip_0 C eL  E h) ⟨rfl, rfl, rfl, rfl, rfl, trivial⟩)
def fX7_ship_25 (w : xW) : Option (xW × Int32) :=
  (fX7_refuse w (-1000000001)).bind fun z5 =>
  some (z5.1, z5.2)
def fX7_ship_0 (w : xW) (x1 : Int32) (x2 : Int32) (x3 : Int32) : Option (xW × Int32) :=
  if (fX7_isSide x1) = 0 then
    fX7_ship_25 w
  else
  if (fX7_isTick x2) = 0 then
    fX7_ship_25 w
  else
  if x3 < 1 then
    fX7_ship_25 w
  else
  if x3 ≤ 40 then
    if (w.1 1 6) < 6 then
      (fX1_addShip (fX0_forget w) x1 x2 x3 (-1)).bind fun z1 =>
      some (z1.1, z1.2)
    else
    (fX7_refuse w (-1000000002)).bind fun z3 =>
    some (z3.1, z3.2)
  else
  fX7_ship_25 w
def fX7_ship (w : xW) (x1 : Int32) (x2 : Int32) (x3 : Int32) : Option (xW × Int32) := fX7_ship_0 w x1 x2 x3
set_option maxRecDepth 100000 in
set_option maxHeartbeats 4000000 in
theorem bX7_ship_25 {Γ : xΓ} (C : xOK Γ cX7_ship RX7 2) (hL : xn Γ = 4) {w : xW} {r : xW × Int32} (E : xEnd Γ (some .int) r.1 (some (.int r.2))) (h : fX7_ship_25  w = some r) : xG Γ w 25 [(0, .ref (xad Γ 0))] [] := by
  unfold fX7_ship_25 at h
  refine xr_aload_n C 25 rfl dX7_ship_25 ?_
  refine xr_ldc C 26 k_X7_69 dX7_ship_26 ?_
  obtain ⟨z5, q6, h⟩ := g_bind h
  refine xr_callV C 28 (mX7_refuse q6) v_X7_refuse ml_X7_70 (Nat.le_of_ble_eq_true rfl) (Nat.le_of_ble_eq_true rfl) (xrecv C rfl rfl) rfl rfl (Nat.le_of_ble_eq_true rfl) rfl dX7_ship_28 ?_
  cases h
  exact xr_iret C 31 E dX7_ship_31
set_option maxRecDepth 100000 in
set_option maxHeartbeats 4000000 in
theorem bX7_ship_0 {Γ : xΓ} (C : xOK Γ cX7_ship RX7 2) (hL : xn Γ = 4) {w : xW} {x1 : Int32} {x2 : Int32} {x3 : Int32} {r : xW × Int32} (E : xEnd Γ (some .int) r.1 (some (.int r.2))) (h : fX7_ship_0  w x1 x2 x3 = some r) : xG Γ w 0 [(0, .ref (xad Γ 0)), (1, .int x1), (2, .int x2), (3, .int x3)] [] := by
  unfold fX7_ship_0 at h
  refine xr_iload_n C 0 rfl dX7_ship_0 ?_
  refine xr_callS C 1 (mX7_isSide rfl) v_X7_isSide ml_X7_87 (Nat.le_of_ble_eq_true rfl) (Nat.le_of_ble_eq_true rfl) rfl rfl (Nat.le_of_ble_eq_true rfl) rfl dX7_ship_1 ?_
  refine xr_if_eq C 4 25 dX7_ship_4 rfl (fun q => ?_) (fun q => ?_)
  · have h := g_it h q
    exact xG.sub (bX7_ship_25 C hL E h) ⟨rfl, trivial⟩
  · have h := g_if h q
    refine xr_iload_n C 7 rfl dX7_ship_7 ?_
    refine xr_callS C 8 (mX7_isTick rfl) v_X7_isTick ml_X7_104 (Nat.le_of_ble_eq_true rfl) (Nat.le_of_ble_eq_true rfl) rfl rfl (Nat.le_of_ble_eq_true rfl) rfl dX7_ship_8 ?_
    refine xr_if_eq C 11 25 dX7_ship_11 rfl (fun q => ?_) (fun q => ?_)
    · have h := g_it h q
      exact xG.sub (bX7_ship_25 C hL E h) ⟨rfl, trivial⟩
    · have h := g_if h q
      refine xr_iload_n C 14 rfl dX7_ship_14 ?_
      refine xr_iconst C 15 1 (by decide +kernel) dX7_ship_15 ?_
      refine xr_icmp_lt C 16 25 dX7_ship_16 rfl (fun q => ?_) (fun q => ?_)
      · have h := g_it h q
        exact xG.sub (bX7_ship_25 C hL E h) ⟨rfl, trivial⟩
      · have h := g_if h q
        refine xr_iload_n C 19 rfl dX7_ship_19 ?_
        refine xr_bipush C 20 40 (by decide +kernel) dX7_ship_20 ?_
        refine xr_icmp_le C 22 32 dX7_ship_22 rfl (fun q => ?_) (fun q => ?_)
        · have h := g_it h q
          refine xr_aload_n C 32 rfl dX7_ship_32 ?_
          refine xr_getR C 33 dX7_ship_33 fl_X7_10 rfl rfl ?_
          refine xr_getI C 36 dX7_ship_36 fl_X7_177 rfl rfl ?_
          refine xr_bipush C 39 6 (by decide +kernel) dX7_ship_39 ?_
          refine xr_icmp_lt C 41 51 dX7_ship_41 rfl (fun q => ?_) (fun q => ?_)
          · have h := g_it h q
            refine xr_aload_n C 51 rfl dX7_ship_51 ?_
            refine xr_getR C 52 dX7_ship_52 fl_X7_36 rfl rfl ?_
            refine xr_callV C 55 (mX0_forget rfl) v_X0_forget ml_X7_74 (Nat.le_of_ble_eq_true rfl) (Nat.le_of_ble_eq_true rfl) (xrecv C rfl rfl) rfl rfl (Nat.le_of_ble_eq_true rfl) rfl dX7_ship_55 ?_
            refine xr_aload_n C 58 rfl dX7_ship_58 ?_
            refine xr_getR C 59 dX7_ship_59 fl_X7_10 rfl rfl ?_
            refine xr_iload_n C 62 rfl dX7_ship_62 ?_
            refine xr_iload_n C 63 rfl dX7_ship_63 ?_
            refine xr_iload_n C 64 rfl dX7_ship_64 ?_
            refine xr_iconst C 65 (-1) (by decide +kernel) dX7_ship_65 ?_
            obtain ⟨z1, q2, h⟩ := g_bind h
            refine xr_callV C 66 (mX1_addShip q2) v_X1_addShip ml_X7_180 (Nat.le_of_ble_eq_true rfl) (Nat.le_of_ble_eq_true rfl) (xrecv C rfl rfl) rfl rfl (Nat.le_of_ble_eq_true rfl) rfl dX7_ship_66 ?_
            cases h
            exact xr_iret C 69 E dX7_ship_69
          · have h := g_if h q
            refine xr_aload_n C 44 rfl dX7_ship_44 ?_
            refine xr_ldc C 45 k_X7_130 dX7_ship_45 ?_
            obtain ⟨z3, q4, h⟩ := g_bind h
            refine xr_callV C 47 (mX7_refuse q4) v_X7_refuse ml_X7_70 (Nat.le_of_ble_eq_true rfl) (Nat.le_of_ble_eq_true rfl) (xrecv C rfl rfl) rfl rfl (Nat.le_of_ble_eq_true rfl) rfl dX7_ship_47 ?_
            cases h
            exact xr_iret C 50 E dX7_ship_50
        · have h := g_if h q
          exact xG.sub (bX7_ship_25 C hL E h) ⟨rfl, trivial⟩
set_option maxRecDepth 100000 in
set_option maxHeartbeats 4000000 in
theorem mX7_ship {l : Launch} {ad : Nat → Nat} {G : gEnv} {w : xW} {x1 : Int32} {x2 : Int32} {x3 : Int32} {r : xW × Int32} (h : fX7_ship w x1 x2 x3 = some r) : xCt l ad G 2 yX7_ship cX7_ship 4 (some .int) [.ref (ad 0), .int x1, .int x2, .int x3] w r.1 (some (.int r.2)) := xCt.of RX7 rfl (by decide +kernel) (Nat.le_of_ble_eq_true rfl) (fun Γ el ea eG eL C E => by
    subst el
    subst ea
    subst eG
    unfold fX7_ship at h
    exact xG.sub (bX7_ship_0 C eL  E h) ⟨rfl, rfl, rfl, rfl, trivial⟩)
def fX8_sails_67 (w : xW) (x5 : Int32) (s0 : Int32) (s1 : Int32) : Option (xW × Int32) :=
  if ibd s1 51 = true then
  some (sI w 56 s1.toNatClampNeg (s0 + 1), x5)
  else none
def fX8_sails_0 (w : xW) (x1 : Int32) (x2 : Int32) (x3 : Int32) (x4 : Int32) : Option (xW × Int32) :=
  if ibd ((27 + (4 * (w.1 56 10))) + 0) 51 = true then
  if ibd ((27 + (4 * (w.1 56 10))) + 1) 51 = true then
  if ibd ((27 + (4 * (w.1 56 10))) + 2) 51 = true then
  if ibd ((27 + (4 * (w.1 56 10))) + 3) 51 = true then
  fX8_sails_67 (sI (sI (sI (sI w 56 (((27 + (4 * (w.1 56 10))) + 0).toNatClampNeg) x1) 56 (((27 + (4 * (w.1 56 10))) + 1).toNatClampNeg) x2) 56 (((27 + (4 * (w.1 56 10))) + 2).toNatClampNeg) x3) 56 (((27 + (4 * (w.1 56 10))) + 3).toNatClampNeg) x4) (w.1 56 10) ((sI (sI (sI (sI w 56 (((27 + (4 * (w.1 56 10))) + 0).toNatClampNeg) x1) 56 (((27 + (4 * (w.1 56 10))) + 1).toNatClampNeg) x2) 56 (((27 + (4 * (w.1 56 10))) + 2).toNatClampNeg) x3) 56 (((27 + (4 * (w.1 56 10))) + 3).toNatClampNeg) x4).1 56 10) 10
  else none
  else none
  else none
  else none
def fX8_sails (w : xW) (x1 : Int32) (x2 : Int32) (x3 : Int32) (x4 : Int32) : Option (xW × Int32) := fX8_sails_0 w x1 x2 x3 x4
set_option maxRecDepth 100000 in
set_option maxHeartbeats 4000000 in
theorem bX8_sails_67 {Γ : xΓ} (C : xOK Γ cX8_sails RX8 1) (hL : xn Γ = 7) {w : xW} {x5 : Int32} {s0 : Int32} {s1 : Int32} {r : xW × Int32} (E : xEnd Γ (some .int) r.1 (some (.int r.2))) (h : fX8_sails_67  w x5 s0 s1 = some r) : xG Γ w 67 [(5, .int x5)] [.int s0, .int s1, .ref (xad Γ 56)] := by
  unfold fX8_sails_67 at h
  refine xr_iconst C 67 1 (by decide +kernel) dX8_sails_67 ?_
  refine xr_iadd C 68 dX8_sails_68 ?_
  obtain ⟨q5, h⟩ := g_ib h
  refine xr_iast C 69 s1.toNatClampNeg rfl dX8_sails_69 rfl (ibd_in q5) ?_
  refine xr_iload C 70 rfl dX8_sails_70 ?_
  cases h
  exact xr_iret C 72 E dX8_sails_72
set_option maxRecDepth 100000 in
set_option maxHeartbeats 4000000 in
theorem bX8_sails_0 {Γ : xΓ} (C : xOK Γ cX8_sails RX8 1) (hL : xn Γ = 7) {w : xW} {x1 : Int32} {x2 : Int32} {x3 : Int32} {x4 : Int32} {r : xW × Int32} (E : xEnd Γ (some .int) r.1 (some (.int r.2))) (h : fX8_sails_0  w x1 x2 x3 x4 = some r) : xG Γ w 0 [(0, .ref (xad Γ 55)), (1, .int x1), (2, .int x2), (3, .int x3), (4, .int x4)] [] := by
  unfold fX8_sails_0 at h
  refine xr_aload_n C 0 rfl dX8_sails_0 ?_
  refine xr_getR C 1 dX8_sails_1 fl_X8_9 rfl rfl ?_
  refine xr_bipush C 4 10 (by decide +kernel) dX8_sails_4 ?_
  refine xr_iald C 6 10 (by decide +kernel) dX8_sails_6 rfl (ibd_in (by decide +kernel)) ?_
  refine xr_istore C 7 dX8_sails_7 (xnb hL rfl) ?_
  refine xr_bipush C 9 27 (by decide +kernel) dX8_sails_9 ?_
  refine xr_iconst C 11 4 (by decide +kernel) dX8_sails_11 ?_
  refine xr_iload C 12 rfl dX8_sails_12 ?_
  refine xr_imul C 14 dX8_sails_14 ?_
  refine xr_iadd C 15 dX8_sails_15 ?_
  refine xr_istore C 16 dX8_sails_16 (xnb hL rfl) ?_
  refine xr_aload_n C 18 rfl dX8_sails_18 ?_
  refine xr_getR C 19 dX8_sails_19 fl_X8_9 rfl rfl ?_
  refine xr_iload C 22 rfl dX8_sails_22 ?_
  refine xr_iconst C 24 0 (by decide +kernel) dX8_sails_24 ?_
  refine xr_iadd C 25 dX8_sails_25 ?_
  refine xr_iload_n C 26 rfl dX8_sails_26 ?_
  obtain ⟨q1, h⟩ := g_ib h
  refine xr_iast C 27 (((27 + (4 * (w.1 56 10))) + 0).toNatClampNeg) rfl dX8_sails_27 rfl (ibd_in q1) ?_
  refine xr_aload_n C 28 rfl dX8_sails_28 ?_
  refine xr_getR C 29 dX8_sails_29 fl_X8_9 rfl rfl ?_
  refine xr_iload C 32 rfl dX8_sails_32 ?_
  refine xr_iconst C 34 1 (by decide +kernel) dX8_sails_34 ?_
  refine xr_iadd C 35 dX8_sails_35 ?_
  refine xr_iload_n C 36 rfl dX8_sails_36 ?_
  obtain ⟨q2, h⟩ := g_ib h
  refine xr_iast C 37 (((27 + (4 * (w.1 56 10))) + 1).toNatClampNeg) rfl dX8_sails_37 rfl (ibd_in q2) ?_
  refine xr_aload_n C 38 rfl dX8_sails_38 ?_
  refine xr_getR C 39 dX8_sails_39 fl_X8_9 rfl rfl ?_
  refine xr_iload C 42 rfl dX8_sails_42 ?_
  refine xr_iconst C 44 2 (by decide +kernel) dX8_sails_44 ?_
  refine xr_iadd C 45 dX8_sails_45 ?_
  refine xr_iload_n C 46 rfl dX8_sails_46 ?_
  obtain ⟨q3, h⟩ := g_ib h
  refine xr_iast C 47 (((27 + (4 * (w.1 56 10))) + 2).toNatClampNeg) rfl dX8_sails_47 rfl (ibd_in q3) ?_
  refine xr_aload_n C 48 rfl dX8_sails_48 ?_
  refine xr_getR C 49 dX8_sails_49 fl_X8_9 rfl rfl ?_
  refine xr_iload C 52 rfl dX8_sails_52 ?_
  refine xr_iconst C 54 3 (by decide +kernel) dX8_sails_54 ?_
  refine xr_iadd C 55 dX8_sails_55 ?_
  refine xr_iload C 56 rfl dX8_sails_56 ?_
  obtain ⟨q4, h⟩ := g_ib h
  refine xr_iast C 58 (((27 + (4 * (w.1 56 10))) + 3).toNatClampNeg) rfl dX8_sails_58 rfl (ibd_in q4) ?_
  refine xr_aload_n C 59 rfl dX8_sails_59 ?_
  refine xr_getR C 60 dX8_sails_60 fl_X8_9 rfl rfl ?_
  refine xr_bipush C 63 10 (by decide +kernel) dX8_sails_63 ?_
  refine xr_dup2 C 65 rfl rfl dX8_sails_65 ?_
  refine xr_iald C 66 10 (by decide +kernel) dX8_sails_66 rfl (ibd_in (by decide +kernel)) ?_
  exact xG.sub (bX8_sails_67 C hL E h) ⟨rfl, trivial⟩
set_option maxRecDepth 100000 in
set_option maxHeartbeats 4000000 in
theorem mX8_sails {l : Launch} {ad : Nat → Nat} {G : gEnv} {w : xW} {x1 : Int32} {x2 : Int32} {x3 : Int32} {x4 : Int32} {r : xW × Int32} (h : fX8_sails w x1 x2 x3 x4 = some r) : xCt l ad G 1 yX8_sails cX8_sails 7 (some .int) [.ref (ad 55), .int x1, .int x2, .int x3, .int x4] w r.1 (some (.int r.2)) := xCt.of RX8 rfl (by decide +kernel) (Nat.le_of_ble_eq_true rfl) (fun Γ el ea eG eL C E => by
    subst el
    subst ea
    subst eG
    unfold fX8_sails at h
    exact xG.sub (bX8_sails_0 C eL  E h) ⟨rfl, rfl, rfl, rfl, rfl, trivial⟩)
def fX8_ship_24 (w : xW) : Option (xW × Int32) :=
  (fX8_finding w (-1000000001)).bind fun z5 =>
  some (z5.1, z5.2)
def fX8_ship_0 (w : xW) (x1 : Int32) (x2 : Int32) (x3 : Int32) : Option (xW × Int32) :=
  if (fX8_isSide x1) = 0 then
    fX8_ship_24 w
  else
  if (fX8_isTick x2) = 0 then
    fX8_ship_24 w
  else
  if (fX8_within x3 1 40) = 0 then
    fX8_ship_24 w
  else
  if (w.1 56 10) = 6 then
    (fX8_finding w (-1000000002)).bind fun z3 =>
    some (z3.1, z3.2)
  else
  (fX8_sails w x1 x2 x3 (-1)).bind fun z1 =>
  some (z1.1, z1.2)
def fX8_ship (w : xW) (x1 : Int32) (x2 : Int32) (x3 : Int32) : Option (xW × Int32) := fX8_ship_0 w x1 x2 x3
set_option maxRecDepth 100000 in
set_option maxHeartbeats 4000000 in
theorem bX8_ship_24 {Γ : xΓ} (C : xOK Γ cX8_ship RX8 3) (hL : xn Γ = 4) {w : xW} {r : xW × Int32} (E : xEnd Γ (some .int) r.1 (some (.int r.2))) (h : fX8_ship_24  w = some r) : xG Γ w 24 [(0, .ref (xad Γ 55))] [] := by
  unfold fX8_ship_24 at h
  refine xr_aload_n C 24 rfl dX8_ship_24 ?_
  refine xr_ldc C 25 k_X8_98 dX8_ship_25 ?_
  obtain ⟨z5, q6, h⟩ := g_bind h
  refine xr_callV C 27 (mX8_finding q6) v_X8_finding ml_X8_125 (Nat.le_of_ble_eq_true rfl) (Nat.le_of_ble_eq_true rfl) (xrecv C rfl rfl) rfl rfl (Nat.le_of_ble_eq_true rfl) rfl dX8_ship_27 ?_
  cases h
  exact xr_iret C 30 E dX8_ship_30
set_option maxRecDepth 100000 in
set_option maxHeartbeats 4000000 in
theorem bX8_ship_0 {Γ : xΓ} (C : xOK Γ cX8_ship RX8 3) (hL : xn Γ = 4) {w : xW} {x1 : Int32} {x2 : Int32} {x3 : Int32} {r : xW × Int32} (E : xEnd Γ (some .int) r.1 (some (.int r.2))) (h : fX8_ship_0  w x1 x2 x3 = some r) : xG Γ w 0 [(0, .ref (xad Γ 55)), (1, .int x1), (2, .int x2), (3, .int x3)] [] := by
  unfold fX8_ship_0 at h
  refine xr_iload_n C 0 rfl dX8_ship_0 ?_
  refine xr_callS C 1 (mX8_isSide rfl) v_X8_isSide ml_X8_133 (Nat.le_of_ble_eq_true rfl) (Nat.le_of_ble_eq_true rfl) rfl rfl (Nat.le_of_ble_eq_true rfl) rfl dX8_ship_1 ?_
  refine xr_if_eq C 4 24 dX8_ship_4 rfl (fun q => ?_) (fun q => ?_)
  · have h := g_it h q
    exact xG.sub (bX8_ship_24 C hL E h) ⟨rfl, trivial⟩
  · have h := g_if h q
    refine xr_iload_n C 7 rfl dX8_ship_7 ?_
    refine xr_callS C 8 (mX8_isTick rfl) v_X8_isTick ml_X8_137 (Nat.le_of_ble_eq_true rfl) (Nat.le_of_ble_eq_true rfl) rfl rfl (Nat.le_of_ble_eq_true rfl) rfl dX8_ship_8 ?_
    refine xr_if_eq C 11 24 dX8_ship_11 rfl (fun q => ?_) (fun q => ?_)
    · have h := g_it h q
      exact xG.sub (bX8_ship_24 C hL E h) ⟨rfl, trivial⟩
    · have h := g_if h q
      refine xr_iload_n C 14 rfl dX8_ship_14 ?_
      refine xr_iconst C 15 1 (by decide +kernel) dX8_ship_15 ?_
      refine xr_bipush C 16 40 (by decide +kernel) dX8_ship_16 ?_
      refine xr_callS C 18 (mX8_within rfl) v_X8_within ml_X8_121 (Nat.le_of_ble_eq_true rfl) (Nat.le_of_ble_eq_true rfl) rfl rfl (Nat.le_of_ble_eq_true rfl) rfl dX8_ship_18 ?_
      refine xr_if_ne C 21 31 dX8_ship_21 rfl (fun q => ?_) (fun q => ?_)
      · have h := g_if h q
        refine xr_aload_n C 31 rfl dX8_ship_31 ?_
        refine xr_getR C 32 dX8_ship_32 fl_X8_9 rfl rfl ?_
        refine xr_bipush C 35 10 (by decide +kernel) dX8_ship_35 ?_
        refine xr_iald C 37 10 (by decide +kernel) dX8_ship_37 rfl (ibd_in (by decide +kernel)) ?_
        refine xr_bipush C 38 6 (by decide +kernel) dX8_ship_38 ?_
        refine xr_icmp_ne C 40 52 dX8_ship_40 rfl (fun q => ?_) (fun q => ?_)
        · have h := g_if h q
          refine xr_aload_n C 52 rfl dX8_ship_52 ?_
          refine xr_iload_n C 53 rfl dX8_ship_53 ?_
          refine xr_iload_n C 54 rfl dX8_ship_54 ?_
          refine xr_iload_n C 55 rfl dX8_ship_55 ?_
          refine xr_iconst C 56 (-1) (by decide +kernel) dX8_ship_56 ?_
          obtain ⟨z1, q2, h⟩ := g_bind h
          refine xr_callV C 57 (mX8_sails q2) v_X8_sails ml_X8_187 (Nat.le_of_ble_eq_true rfl) (Nat.le_of_ble_eq_true rfl) (xrecv C rfl rfl) rfl rfl (Nat.le_of_ble_eq_true rfl) rfl dX8_ship_57 ?_
          cases h
          exact xr_iret C 60 E dX8_ship_60
        · have h := g_it h q
          refine xr_aload_n C 43 rfl dX8_ship_43 ?_
          refine xr_ldc C 44 k_X8_153 dX8_ship_44 ?_
          obtain ⟨z3, q4, h⟩ := g_bind h
          refine xr_callV C 46 (mX8_finding q4) v_X8_finding ml_X8_125 (Nat.le_of_ble_eq_true rfl) (Nat.le_of_ble_eq_true rfl) (xrecv C rfl rfl) rfl rfl (Nat.le_of_ble_eq_true rfl) rfl dX8_ship_46 ?_
          refine xr_goto C 49 60 dX8_ship_49 rfl ?_
          cases h
          exact xr_iret C 60 E dX8_ship_60
      · have h := g_it h q
        exact xG.sub (bX8_ship_24 C hL E h) ⟨rfl, trivial⟩
set_option maxRecDepth 100000 in
set_option maxHeartbeats 4000000 in
theorem mX8_ship {l : Launch} {ad : Nat → Nat} {G : gEnv} {w : xW} {x1 : Int32} {x2 : Int32} {x3 : Int32} {r : xW × Int32} (h : fX8_ship w x1 x2 x3 = some r) : xCt l ad G 3 yX8_ship cX8_ship 4 (some .int) [.ref (ad 55), .int x1, .int x2, .int x3] w r.1 (some (.int r.2)) := xCt.of RX8 rfl (by decide +kernel) (Nat.le_of_ble_eq_true rfl) (fun Γ el ea eG eL C E => by
    subst el
    subst ea
    subst eG
    unfold fX8_ship at h
    exact xG.sub (bX8_ship_0 C eL  E h) ⟨rfl, rfl, rfl, rfl, trivial⟩)
def fX7_isShip_0 (w : xW) (x1 : Int32) : Int32 :=
  if x1 < 0 then
    0
  else
  if (w.1 1 6) ≤ x1 then
    0
  else
  1
def fX7_isShip (w : xW) (x1 : Int32) : Int32 := fX7_isShip_0 w x1
theorem xb_fX7_isShip {w : xW} {x1 : Int32} : xB (fX7_isShip w x1) = true := by
  unfold fX7_isShip fX7_isShip_0
  repeat' split
  all_goals first | rfl | exact xb_fX7_isShip
set_option maxRecDepth 100000 in
set_option maxHeartbeats 4000000 in
theorem bX7_isShip_0 {Γ : xΓ} (C : xOK Γ cX7_isShip RX7 1) (hL : xn Γ = 2) {w : xW} {x1 : Int32} {r : Int32} (E : xEnd Γ (some .boolean) w (some (.int r))) (h : fX7_isShip_0 w x1 = r) : xG Γ w 0 [(0, .ref (xad Γ 0)), (1, .int x1)] [] := by
  unfold fX7_isShip_0 at h
  refine xr_iload_n C 0 rfl dX7_isShip_0 ?_
  refine xr_if_lt C 1 19 dX7_isShip_1 rfl (fun q => ?_) (fun q => ?_)
  · have h := g_it h q
    refine xr_iconst C 19 0 (by decide +kernel) dX7_isShip_19 ?_
    cases h
    exact xr_zret C 20 E dX7_isShip_20 (by decide +kernel)
  · have h := g_if h q
    refine xr_iload_n C 4 rfl dX7_isShip_4 ?_
    refine xr_aload_n C 5 rfl dX7_isShip_5 ?_
    refine xr_getR C 6 dX7_isShip_6 fl_X7_10 rfl rfl ?_
    refine xr_getI C 9 dX7_isShip_9 fl_X7_177 rfl rfl ?_
    refine xr_icmp_ge C 12 19 dX7_isShip_12 rfl (fun q => ?_) (fun q => ?_)
    · have h := g_it h q
      refine xr_iconst C 19 0 (by decide +kernel) dX7_isShip_19 ?_
      cases h
      exact xr_zret C 20 E dX7_isShip_20 (by decide +kernel)
    · have h := g_if h q
      refine xr_iconst C 15 1 (by decide +kernel) dX7_isShip_15 ?_
      refine xr_goto C 16 20 dX7_isShip_16 rfl ?_
      cases h
      exact xr_zret C 20 E dX7_isShip_20 (by decide +kernel)
set_option maxRecDepth 100000 in
set_option maxHeartbeats 4000000 in
theorem mX7_isShip {l : Launch} {ad : Nat → Nat} {G : gEnv} {w : xW} {x1 : Int32} {r : Int32} (h : fX7_isShip w x1 = r) : xCt l ad G 1 yX7_isShip cX7_isShip 2 (some .boolean) [.ref (ad 0), .int x1] w w (some (.int r)) := xCt.of RX7 rfl (by decide +kernel) (Nat.le_of_ble_eq_true rfl) (fun Γ el ea eG eL C E => by
    subst el
    subst ea
    subst eG
    unfold fX7_isShip at h
    exact xG.sub (bX7_isShip_0 C eL  E h) ⟨rfl, rfl, trivial⟩)
def fX7_shipOf_0 (w : xW) (x1 : Int32) (x2 : Int32) : Option (xW × Int32) :=
  if (fX7_isShip w x1) = 0 then
    (fX7_refuse w (-1000000001)).bind fun z11 =>
    some (z11.1, z11.2)
  else
  if x2 = 0 then
    if ibd x1 6 = true then
    some (w, w.1 7 x1.toNatClampNeg)
    else none
  else
  if x2 = 1 then
    if ibd x1 6 = true then
    some (w, w.1 8 x1.toNatClampNeg)
    else none
  else
  if x2 = 2 then
    if ibd x1 6 = true then
    some (w, w.1 9 x1.toNatClampNeg)
    else none
  else
  if x2 = 3 then
    if ibd x1 6 = true then
    some (w, w.1 10 x1.toNatClampNeg)
    else none
  else
  (fX7_refuse w (-1000000001)).bind fun z9 =>
  some (z9.1, z9.2)
def fX7_shipOf (w : xW) (x1 : Int32) (x2 : Int32) : Option (xW × Int32) := fX7_shipOf_0 w x1 x2
set_option maxRecDepth 100000 in
set_option maxHeartbeats 4000000 in
theorem bX7_shipOf_0 {Γ : xΓ} (C : xOK Γ cX7_shipOf RX7 2) (hL : xn Γ = 3) {w : xW} {x1 : Int32} {x2 : Int32} {r : xW × Int32} (E : xEnd Γ (some .int) r.1 (some (.int r.2))) (h : fX7_shipOf_0  w x1 x2 = some r) : xG Γ w 0 [(0, .ref (xad Γ 0)), (1, .int x1), (2, .int x2)] [] := by
  unfold fX7_shipOf_0 at h
  refine xr_aload_n C 0 rfl dX7_shipOf_0 ?_
  refine xr_iload_n C 1 rfl dX7_shipOf_1 ?_
  refine xr_callV C 2 (mX7_isShip rfl) v_X7_isShip ml_X7_184 (Nat.le_of_ble_eq_true rfl) (Nat.le_of_ble_eq_true rfl) (xrecv C rfl rfl) rfl rfl (Nat.le_of_ble_eq_true rfl) rfl dX7_shipOf_2 ?_
  refine xr_if_ne C 5 15 dX7_shipOf_5 rfl (fun q => ?_) (fun q => ?_)
  · have h := g_if h q
    refine xr_iload_n C 15 rfl dX7_shipOf_15 ?_
    by_cases q2 : x2 = 0
    · have h := g_it h q2
      refine xr_tabIn (off := 32) C 16 48 0 q2 dX7_shipOf_16 (by decide +kernel) (by decide +kernel) (by decide +kernel) rfl ?_
      refine xr_aload_n C 48 rfl dX7_shipOf_48 ?_
      refine xr_getR C 49 dX7_shipOf_49 fl_X7_10 rfl rfl ?_
      refine xr_getR C 52 dX7_shipOf_52 fl_X7_187 rfl rfl ?_
      refine xr_iload_n C 55 rfl dX7_shipOf_55 ?_
      obtain ⟨q1, h⟩ := g_ib h
      refine xr_iald C 56 x1.toNatClampNeg rfl dX7_shipOf_56 rfl (ibd_in q1) ?_
      cases h
      exact xr_iret C 57 E dX7_shipOf_57
    have h := g_if h q2
    by_cases q4 : x2 = 1
    · have h := g_it h q4
      refine xr_tabIn (off := 42) C 16 58 1 q4 dX7_shipOf_16 (by decide +kernel) (by decide +kernel) (by decide +kernel) rfl ?_
      refine xr_aload_n C 58 rfl dX7_shipOf_58 ?_
      refine xr_getR C 59 dX7_shipOf_59 fl_X7_10 rfl rfl ?_
      refine xr_getR C 62 dX7_shipOf_62 fl_X7_190 rfl rfl ?_
      refine xr_iload_n C 65 rfl dX7_shipOf_65 ?_
      obtain ⟨q3, h⟩ := g_ib h
      refine xr_iald C 66 x1.toNatClampNeg rfl dX7_shipOf_66 rfl (ibd_in q3) ?_
      cases h
      exact xr_iret C 67 E dX7_shipOf_67
    have h := g_if h q4
    by_cases q6 : x2 = 2
    · have h := g_it h q6
      refine xr_tabIn (off := 52) C 16 68 2 q6 dX7_shipOf_16 (by decide +kernel) (by decide +kernel) (by decide +kernel) rfl ?_
      refine xr_aload_n C 68 rfl dX7_shipOf_68 ?_
      refine xr_getR C 69 dX7_shipOf_69 fl_X7_10 rfl rfl ?_
      refine xr_getR C 72 dX7_shipOf_72 fl_X7_193 rfl rfl ?_
      refine xr_iload_n C 75 rfl dX7_shipOf_75 ?_
      obtain ⟨q5, h⟩ := g_ib h
      refine xr_iald C 76 x1.toNatClampNeg rfl dX7_shipOf_76 rfl (ibd_in q5) ?_
      cases h
      exact xr_iret C 77 E dX7_shipOf_77
    have h := g_if h q6
    by_cases q8 : x2 = 3
    · have h := g_it h q8
      refine xr_tabIn (off := 62) C 16 78 3 q8 dX7_shipOf_16 (by decide +kernel) (by decide +kernel) (by decide +kernel) rfl ?_
      refine xr_aload_n C 78 rfl dX7_shipOf_78 ?_
      refine xr_getR C 79 dX7_shipOf_79 fl_X7_10 rfl rfl ?_
      refine xr_getR C 82 dX7_shipOf_82 fl_X7_196 rfl rfl ?_
      refine xr_iload_n C 85 rfl dX7_shipOf_85 ?_
      obtain ⟨q7, h⟩ := g_ib h
      refine xr_iald C 86 x1.toNatClampNeg rfl dX7_shipOf_86 rfl (ibd_in q7) ?_
      cases h
      exact xr_iret C 87 E dX7_shipOf_87
    have h := g_if h q8
    have eq2 := xneI (z := 0) q2 (by decide +kernel)
    have eq4 := xneI (z := 1) q4 (by decide +kernel)
    have eq6 := xneI (z := 2) q6 (by decide +kernel)
    have eq8 := xneI (z := 3) q8 (by decide +kernel)
    refine xr_tabOut C 16 88 dX7_shipOf_16 (by omega) rfl ?_
    refine xr_aload_n C 88 rfl dX7_shipOf_88 ?_
    refine xr_ldc C 89 k_X7_69 dX7_shipOf_89 ?_
    obtain ⟨z9, q10, h⟩ := g_bind h
    refine xr_callV C 91 (mX7_refuse q10) v_X7_refuse ml_X7_70 (Nat.le_of_ble_eq_true rfl) (Nat.le_of_ble_eq_true rfl) (xrecv C rfl rfl) rfl rfl (Nat.le_of_ble_eq_true rfl) rfl dX7_shipOf_91 ?_
    cases h
    exact xr_iret C 94 E dX7_shipOf_94
  · have h := g_it h q
    refine xr_aload_n C 8 rfl dX7_shipOf_8 ?_
    refine xr_ldc C 9 k_X7_69 dX7_shipOf_9 ?_
    obtain ⟨z11, q12, h⟩ := g_bind h
    refine xr_callV C 11 (mX7_refuse q12) v_X7_refuse ml_X7_70 (Nat.le_of_ble_eq_true rfl) (Nat.le_of_ble_eq_true rfl) (xrecv C rfl rfl) rfl rfl (Nat.le_of_ble_eq_true rfl) rfl dX7_shipOf_11 ?_
    cases h
    exact xr_iret C 14 E dX7_shipOf_14
set_option maxRecDepth 100000 in
set_option maxHeartbeats 4000000 in
theorem mX7_shipOf {l : Launch} {ad : Nat → Nat} {G : gEnv} {w : xW} {x1 : Int32} {x2 : Int32} {r : xW × Int32} (h : fX7_shipOf w x1 x2 = some r) : xCt l ad G 2 yX7_shipOf cX7_shipOf 3 (some .int) [.ref (ad 0), .int x1, .int x2] w r.1 (some (.int r.2)) := xCt.of RX7 rfl (by decide +kernel) (Nat.le_of_ble_eq_true rfl) (fun Γ el ea eG eL C E => by
    subst el
    subst ea
    subst eG
    unfold fX7_shipOf at h
    exact xG.sub (bX7_shipOf_0 C eL  E h) ⟨rfl, rfl, rfl, trivial⟩)
def fX8_isShip_0 (w : xW) (x1 : Int32) : Int32 :=
  (fX8_within x1 0 ((w.1 56 10) - 1))
def fX8_isShip (w : xW) (x1 : Int32) : Int32 := fX8_isShip_0 w x1
theorem xb_fX8_isShip {w : xW} {x1 : Int32} : xB (fX8_isShip w x1) = true := by
  unfold fX8_isShip fX8_isShip_0
  repeat' split
  all_goals first | rfl | exact xb_fX8_within
set_option maxRecDepth 100000 in
set_option maxHeartbeats 4000000 in
theorem bX8_isShip_0 {Γ : xΓ} (C : xOK Γ cX8_isShip RX8 2) (hL : xn Γ = 2) {w : xW} {x1 : Int32} {r : Int32} (E : xEnd Γ (some .boolean) w (some (.int r))) (h : fX8_isShip_0 w x1 = r) : xG Γ w 0 [(0, .ref (xad Γ 55)), (1, .int x1)] [] := by
  unfold fX8_isShip_0 at h
  refine xr_iload_n C 0 rfl dX8_isShip_0 ?_
  refine xr_iconst C 1 0 (by decide +kernel) dX8_isShip_1 ?_
  refine xr_aload_n C 2 rfl dX8_isShip_2 ?_
  refine xr_getR C 3 dX8_isShip_3 fl_X8_9 rfl rfl ?_
  refine xr_bipush C 6 10 (by decide +kernel) dX8_isShip_6 ?_
  refine xr_iald C 8 10 (by decide +kernel) dX8_isShip_8 rfl (ibd_in (by decide +kernel)) ?_
  refine xr_iconst C 9 1 (by decide +kernel) dX8_isShip_9 ?_
  refine xr_isub C 10 dX8_isShip_10 ?_
  refine xr_callS C 11 (mX8_within rfl) v_X8_within ml_X8_121 (Nat.le_of_ble_eq_true rfl) (Nat.le_of_ble_eq_true rfl) rfl rfl (Nat.le_of_ble_eq_true rfl) rfl dX8_isShip_11 ?_
  cases h
  exact xr_zret C 14 E dX8_isShip_14 (xb_fX8_within)
set_option maxRecDepth 100000 in
set_option maxHeartbeats 4000000 in
theorem mX8_isShip {l : Launch} {ad : Nat → Nat} {G : gEnv} {w : xW} {x1 : Int32} {r : Int32} (h : fX8_isShip w x1 = r) : xCt l ad G 2 yX8_isShip cX8_isShip 2 (some .boolean) [.ref (ad 55), .int x1] w w (some (.int r)) := xCt.of RX8 rfl (by decide +kernel) (Nat.le_of_ble_eq_true rfl) (fun Γ el ea eG eL C E => by
    subst el
    subst ea
    subst eG
    unfold fX8_isShip at h
    exact xG.sub (bX8_isShip_0 C eL  E h) ⟨rfl, rfl, trivial⟩)
def fX8_shipIs_0 (w : xW) (x1 : Int32) (x2 : Int32) : Option Int32 :=
  if ibd ((27 + (4 * x1)) + x2) 51 = true then
  some (w.1 56 (((27 + (4 * x1)) + x2).toNatClampNeg))
  else none
def fX8_shipIs (w : xW) (x1 : Int32) (x2 : Int32) : Option Int32 := fX8_shipIs_0 w x1 x2
set_option maxRecDepth 100000 in
set_option maxHeartbeats 4000000 in
theorem bX8_shipIs_0 {Γ : xΓ} (C : xOK Γ cX8_shipIs RX8 1) (hL : xn Γ = 3) {w : xW} {x1 : Int32} {x2 : Int32} {r : Int32} (E : xEnd Γ (some .int) w (some (.int r))) (h : fX8_shipIs_0 w x1 x2 = some r) : xG Γ w 0 [(0, .ref (xad Γ 55)), (1, .int x1), (2, .int x2)] [] := by
  unfold fX8_shipIs_0 at h
  refine xr_aload_n C 0 rfl dX8_shipIs_0 ?_
  refine xr_getR C 1 dX8_shipIs_1 fl_X8_9 rfl rfl ?_
  refine xr_bipush C 4 27 (by decide +kernel) dX8_shipIs_4 ?_
  refine xr_iconst C 6 4 (by decide +kernel) dX8_shipIs_6 ?_
  refine xr_iload_n C 7 rfl dX8_shipIs_7 ?_
  refine xr_imul C 8 dX8_shipIs_8 ?_
  refine xr_iadd C 9 dX8_shipIs_9 ?_
  refine xr_iload_n C 10 rfl dX8_shipIs_10 ?_
  refine xr_iadd C 11 dX8_shipIs_11 ?_
  obtain ⟨q1, h⟩ := g_ib h
  refine xr_iald C 12 (((27 + (4 * x1)) + x2).toNatClampNeg) rfl dX8_shipIs_12 rfl (ibd_in q1) ?_
  cases h
  exact xr_iret C 13 E dX8_shipIs_13
set_option maxRecDepth 100000 in
set_option maxHeartbeats 4000000 in
theorem mX8_shipIs {l : Launch} {ad : Nat → Nat} {G : gEnv} {w : xW} {x1 : Int32} {x2 : Int32} {r : Int32} (h : fX8_shipIs w x1 x2 = some r) : xCt l ad G 1 yX8_shipIs cX8_shipIs 3 (some .int) [.ref (ad 55), .int x1, .int x2] w w (some (.int r)) := xCt.of RX8 rfl (by decide +kernel) (Nat.le_of_ble_eq_true rfl) (fun Γ el ea eG eL C E => by
    subst el
    subst ea
    subst eG
    unfold fX8_shipIs at h
    exact xG.sub (bX8_shipIs_0 C eL  E h) ⟨rfl, rfl, rfl, trivial⟩)
def fX8_shipOf_26 (w : xW) : Option (xW × Int32) :=
  (fX8_finding w (-1000000001)).bind fun z3 =>
  some (z3.1, z3.2)
def fX8_shipOf_0 (w : xW) (x1 : Int32) (x2 : Int32) : Option (xW × Int32) :=
  if (fX8_isShip w x1) = 0 then
    fX8_shipOf_26 w
  else
  if (fX8_within x2 0 3) = 0 then
    fX8_shipOf_26 w
  else
  (fX8_shipIs w x1 x2).bind fun z1 =>
  some (w, z1)
def fX8_shipOf (w : xW) (x1 : Int32) (x2 : Int32) : Option (xW × Int32) := fX8_shipOf_0 w x1 x2
set_option maxRecDepth 100000 in
set_option maxHeartbeats 4000000 in
theorem bX8_shipOf_26 {Γ : xΓ} (C : xOK Γ cX8_shipOf RX8 3) (hL : xn Γ = 3) {w : xW} {r : xW × Int32} (E : xEnd Γ (some .int) r.1 (some (.int r.2))) (h : fX8_shipOf_26  w = some r) : xG Γ w 26 [(0, .ref (xad Γ 55))] [] := by
  unfold fX8_shipOf_26 at h
  refine xr_aload_n C 26 rfl dX8_shipOf_26 ?_
  refine xr_ldc C 27 k_X8_98 dX8_shipOf_27 ?_
  obtain ⟨z3, q4, h⟩ := g_bind h
  refine xr_callV C 29 (mX8_finding q4) v_X8_finding ml_X8_125 (Nat.le_of_ble_eq_true rfl) (Nat.le_of_ble_eq_true rfl) (xrecv C rfl rfl) rfl rfl (Nat.le_of_ble_eq_true rfl) rfl dX8_shipOf_29 ?_
  cases h
  exact xr_iret C 32 E dX8_shipOf_32
set_option maxRecDepth 100000 in
set_option maxHeartbeats 4000000 in
theorem bX8_shipOf_0 {Γ : xΓ} (C : xOK Γ cX8_shipOf RX8 3) (hL : xn Γ = 3) {w : xW} {x1 : Int32} {x2 : Int32} {r : xW × Int32} (E : xEnd Γ (some .int) r.1 (some (.int r.2))) (h : fX8_shipOf_0  w x1 x2 = some r) : xG Γ w 0 [(0, .ref (xad Γ 55)), (1, .int x1), (2, .int x2)] [] := by
  unfold fX8_shipOf_0 at h
  refine xr_aload_n C 0 rfl dX8_shipOf_0 ?_
  refine xr_iload_n C 1 rfl dX8_shipOf_1 ?_
  refine xr_callV C 2 (mX8_isShip rfl) v_X8_isShip ml_X8_189 (Nat.le_of_ble_eq_true rfl) (Nat.le_of_ble_eq_true rfl) (xrecv C rfl rfl) rfl rfl (Nat.le_of_ble_eq_true rfl) rfl dX8_shipOf_2 ?_
  refine xr_if_eq C 5 26 dX8_shipOf_5 rfl (fun q => ?_) (fun q => ?_)
  · have h := g_it h q
    exact xG.sub (bX8_shipOf_26 C hL E h) ⟨rfl, trivial⟩
  · have h := g_if h q
    refine xr_iload_n C 8 rfl dX8_shipOf_8 ?_
    refine xr_iconst C 9 0 (by decide +kernel) dX8_shipOf_9 ?_
    refine xr_iconst C 10 3 (by decide +kernel) dX8_shipOf_10 ?_
    refine xr_callS C 11 (mX8_within rfl) v_X8_within ml_X8_121 (Nat.le_of_ble_eq_true rfl) (Nat.le_of_ble_eq_true rfl) rfl rfl (Nat.le_of_ble_eq_true rfl) rfl dX8_shipOf_11 ?_
    refine xr_if_eq C 14 26 dX8_shipOf_14 rfl (fun q => ?_) (fun q => ?_)
    · have h := g_it h q
      exact xG.sub (bX8_shipOf_26 C hL E h) ⟨rfl, trivial⟩
    · have h := g_if h q
      refine xr_aload_n C 17 rfl dX8_shipOf_17 ?_
      refine xr_iload_n C 18 rfl dX8_shipOf_18 ?_
      refine xr_iload_n C 19 rfl dX8_shipOf_19 ?_
      obtain ⟨z1, q2, h⟩ := g_bind h
      refine xr_callV C 20 (mX8_shipIs q2) v_X8_shipIs ml_X8_192 (Nat.le_of_ble_eq_true rfl) (Nat.le_of_ble_eq_true rfl) (xrecv C rfl rfl) rfl rfl (Nat.le_of_ble_eq_true rfl) rfl dX8_shipOf_20 ?_
      refine xr_goto C 23 32 dX8_shipOf_23 rfl ?_
      cases h
      exact xr_iret C 32 E dX8_shipOf_32
set_option maxRecDepth 100000 in
set_option maxHeartbeats 4000000 in
theorem mX8_shipOf {l : Launch} {ad : Nat → Nat} {G : gEnv} {w : xW} {x1 : Int32} {x2 : Int32} {r : xW × Int32} (h : fX8_shipOf w x1 x2 = some r) : xCt l ad G 3 yX8_shipOf cX8_shipOf 3 (some .int) [.ref (ad 55), .int x1, .int x2] w r.1 (some (.int r.2)) := xCt.of RX8 rfl (by decide +kernel) (Nat.le_of_ble_eq_true rfl) (fun Γ el ea eG eL C E => by
    subst el
    subst ea
    subst eG
    unfold fX8_shipOf at h
    exact xG.sub (bX8_shipOf_0 C eL  E h) ⟨rfl, rfl, rfl, trivial⟩)
def fX7_quay_18 (w : xW) : Option (xW × Int32) :=
  (fX7_refuse w (-1000000001)).bind fun z2 =>
  some (z2.1, z2.2)
def fX7_quay_0 (w : xW) (x1 : Int32) (x2 : Int32) : Option (xW × Int32) :=
  if (fX7_isShip w x1) = 0 then
    fX7_quay_18 w
  else
  if x2 < (-1) then
    fX7_quay_18 w
  else
  if x2 < 4 then
    if ibd x1 6 = true then
    some (sI (fX0_forget w) 10 x1.toNatClampNeg x2, (fX0_forget w).1 10 x1.toNatClampNeg)
    else none
  else
  fX7_quay_18 w
def fX7_quay (w : xW) (x1 : Int32) (x2 : Int32) : Option (xW × Int32) := fX7_quay_0 w x1 x2
set_option maxRecDepth 100000 in
set_option maxHeartbeats 4000000 in
theorem bX7_quay_18 {Γ : xΓ} (C : xOK Γ cX7_quay RX7 2) (hL : xn Γ = 4) {w : xW} {r : xW × Int32} (E : xEnd Γ (some .int) r.1 (some (.int r.2))) (h : fX7_quay_18  w = some r) : xG Γ w 18 [(0, .ref (xad Γ 0))] [] := by
  unfold fX7_quay_18 at h
  refine xr_aload_n C 18 rfl dX7_quay_18 ?_
  refine xr_ldc C 19 k_X7_69 dX7_quay_19 ?_
  obtain ⟨z2, q3, h⟩ := g_bind h
  refine xr_callV C 21 (mX7_refuse q3) v_X7_refuse ml_X7_70 (Nat.le_of_ble_eq_true rfl) (Nat.le_of_ble_eq_true rfl) (xrecv C rfl rfl) rfl rfl (Nat.le_of_ble_eq_true rfl) rfl dX7_quay_21 ?_
  cases h
  exact xr_iret C 24 E dX7_quay_24
set_option maxRecDepth 100000 in
set_option maxHeartbeats 4000000 in
theorem bX7_quay_0 {Γ : xΓ} (C : xOK Γ cX7_quay RX7 2) (hL : xn Γ = 4) {w : xW} {x1 : Int32} {x2 : Int32} {r : xW × Int32} (E : xEnd Γ (some .int) r.1 (some (.int r.2))) (h : fX7_quay_0  w x1 x2 = some r) : xG Γ w 0 [(0, .ref (xad Γ 0)), (1, .int x1), (2, .int x2)] [] := by
  unfold fX7_quay_0 at h
  refine xr_aload_n C 0 rfl dX7_quay_0 ?_
  refine xr_iload_n C 1 rfl dX7_quay_1 ?_
  refine xr_callV C 2 (mX7_isShip rfl) v_X7_isShip ml_X7_184 (Nat.le_of_ble_eq_true rfl) (Nat.le_of_ble_eq_true rfl) (xrecv C rfl rfl) rfl rfl (Nat.le_of_ble_eq_true rfl) rfl dX7_quay_2 ?_
  refine xr_if_eq C 5 18 dX7_quay_5 rfl (fun q => ?_) (fun q => ?_)
  · have h := g_it h q
    exact xG.sub (bX7_quay_18 C hL E h) ⟨rfl, trivial⟩
  · have h := g_if h q
    refine xr_iload_n C 8 rfl dX7_quay_8 ?_
    refine xr_iconst C 9 (-1) (by decide +kernel) dX7_quay_9 ?_
    refine xr_icmp_lt C 10 18 dX7_quay_10 rfl (fun q => ?_) (fun q => ?_)
    · have h := g_it h q
      exact xG.sub (bX7_quay_18 C hL E h) ⟨rfl, trivial⟩
    · have h := g_if h q
      refine xr_iload_n C 13 rfl dX7_quay_13 ?_
      refine xr_iconst C 14 4 (by decide +kernel) dX7_quay_14 ?_
      refine xr_icmp_lt C 15 25 dX7_quay_15 rfl (fun q => ?_) (fun q => ?_)
      · have h := g_it h q
        refine xr_aload_n C 25 rfl dX7_quay_25 ?_
        refine xr_getR C 26 dX7_quay_26 fl_X7_36 rfl rfl ?_
        refine xr_callV C 29 (mX0_forget rfl) v_X0_forget ml_X7_74 (Nat.le_of_ble_eq_true rfl) (Nat.le_of_ble_eq_true rfl) (xrecv C rfl rfl) rfl rfl (Nat.le_of_ble_eq_true rfl) rfl dX7_quay_29 ?_
        refine xr_aload_n C 32 rfl dX7_quay_32 ?_
        refine xr_getR C 33 dX7_quay_33 fl_X7_10 rfl rfl ?_
        refine xr_getR C 36 dX7_quay_36 fl_X7_196 rfl rfl ?_
        refine xr_iload_n C 39 rfl dX7_quay_39 ?_
        obtain ⟨q1, h⟩ := g_ib h
        refine xr_iald C 40 x1.toNatClampNeg rfl dX7_quay_40 rfl (ibd_in q1) ?_
        refine xr_istore_n C 41 dX7_quay_41 (xnb hL rfl) ?_
        refine xr_aload_n C 42 rfl dX7_quay_42 ?_
        refine xr_getR C 43 dX7_quay_43 fl_X7_10 rfl rfl ?_
        refine xr_getR C 46 dX7_quay_46 fl_X7_196 rfl rfl ?_
        refine xr_iload_n C 49 rfl dX7_quay_49 ?_
        refine xr_iload_n C 50 rfl dX7_quay_50 ?_
        refine xr_iast C 51 x1.toNatClampNeg rfl dX7_quay_51 rfl (ibd_in q1) ?_
        refine xr_iload_n C 52 rfl dX7_quay_52 ?_
        cases h
        exact xr_iret C 53 E dX7_quay_53
      · have h := g_if h q
        exact xG.sub (bX7_quay_18 C hL E h) ⟨rfl, trivial⟩
set_option maxRecDepth 100000 in
set_option maxHeartbeats 4000000 in
theorem mX7_quay {l : Launch} {ad : Nat → Nat} {G : gEnv} {w : xW} {x1 : Int32} {x2 : Int32} {r : xW × Int32} (h : fX7_quay w x1 x2 = some r) : xCt l ad G 2 yX7_quay cX7_quay 4 (some .int) [.ref (ad 0), .int x1, .int x2] w r.1 (some (.int r.2)) := xCt.of RX7 rfl (by decide +kernel) (Nat.le_of_ble_eq_true rfl) (fun Γ el ea eG eL C E => by
    subst el
    subst ea
    subst eG
    unfold fX7_quay at h
    exact xG.sub (bX7_quay_0 C eL  E h) ⟨rfl, rfl, rfl, trivial⟩)
def fX8_quay_33 (w : xW) : Option (xW × Int32) :=
  (fX8_finding w (-1000000001)).bind fun z3 =>
  some (z3.1, z3.2)
def fX8_quay_0 (w : xW) (x1 : Int32) (x2 : Int32) : Option (xW × Int32) :=
  if (fX8_isShip w x1) = 0 then
    fX8_quay_33 w
  else
  if (fX8_within x2 (-1) 3) = 0 then
    fX8_quay_33 w
  else
  (fX8_become w ((27 + (4 * x1)) + 3) x2).bind fun z1 =>
  some (z1.1, z1.2)
def fX8_quay (w : xW) (x1 : Int32) (x2 : Int32) : Option (xW × Int32) := fX8_quay_0 w x1 x2
set_option maxRecDepth 100000 in
set_option maxHeartbeats 4000000 in
theorem bX8_quay_33 {Γ : xΓ} (C : xOK Γ cX8_quay RX8 3) (hL : xn Γ = 3) {w : xW} {r : xW × Int32} (E : xEnd Γ (some .int) r.1 (some (.int r.2))) (h : fX8_quay_33  w = some r) : xG Γ w 33 [(0, .ref (xad Γ 55))] [] := by
  unfold fX8_quay_33 at h
  refine xr_aload_n C 33 rfl dX8_quay_33 ?_
  refine xr_ldc C 34 k_X8_98 dX8_quay_34 ?_
  obtain ⟨z3, q4, h⟩ := g_bind h
  refine xr_callV C 36 (mX8_finding q4) v_X8_finding ml_X8_125 (Nat.le_of_ble_eq_true rfl) (Nat.le_of_ble_eq_true rfl) (xrecv C rfl rfl) rfl rfl (Nat.le_of_ble_eq_true rfl) rfl dX8_quay_36 ?_
  cases h
  exact xr_iret C 39 E dX8_quay_39
set_option maxRecDepth 100000 in
set_option maxHeartbeats 4000000 in
theorem bX8_quay_0 {Γ : xΓ} (C : xOK Γ cX8_quay RX8 3) (hL : xn Γ = 3) {w : xW} {x1 : Int32} {x2 : Int32} {r : xW × Int32} (E : xEnd Γ (some .int) r.1 (some (.int r.2))) (h : fX8_quay_0  w x1 x2 = some r) : xG Γ w 0 [(0, .ref (xad Γ 55)), (1, .int x1), (2, .int x2)] [] := by
  unfold fX8_quay_0 at h
  refine xr_aload_n C 0 rfl dX8_quay_0 ?_
  refine xr_iload_n C 1 rfl dX8_quay_1 ?_
  refine xr_callV C 2 (mX8_isShip rfl) v_X8_isShip ml_X8_189 (Nat.le_of_ble_eq_true rfl) (Nat.le_of_ble_eq_true rfl) (xrecv C rfl rfl) rfl rfl (Nat.le_of_ble_eq_true rfl) rfl dX8_quay_2 ?_
  refine xr_if_eq C 5 33 dX8_quay_5 rfl (fun q => ?_) (fun q => ?_)
  · have h := g_it h q
    exact xG.sub (bX8_quay_33 C hL E h) ⟨rfl, trivial⟩
  · have h := g_if h q
    refine xr_iload_n C 8 rfl dX8_quay_8 ?_
    refine xr_iconst C 9 (-1) (by decide +kernel) dX8_quay_9 ?_
    refine xr_iconst C 10 3 (by decide +kernel) dX8_quay_10 ?_
    refine xr_callS C 11 (mX8_within rfl) v_X8_within ml_X8_121 (Nat.le_of_ble_eq_true rfl) (Nat.le_of_ble_eq_true rfl) rfl rfl (Nat.le_of_ble_eq_true rfl) rfl dX8_quay_11 ?_
    refine xr_if_eq C 14 33 dX8_quay_14 rfl (fun q => ?_) (fun q => ?_)
    · have h := g_it h q
      exact xG.sub (bX8_quay_33 C hL E h) ⟨rfl, trivial⟩
    · have h := g_if h q
      refine xr_aload_n C 17 rfl dX8_quay_17 ?_
      refine xr_bipush C 18 27 (by decide +kernel) dX8_quay_18 ?_
      refine xr_iconst C 20 4 (by decide +kernel) dX8_quay_20 ?_
      refine xr_iload_n C 21 rfl dX8_quay_21 ?_
      refine xr_imul C 22 dX8_quay_22 ?_
      refine xr_iadd C 23 dX8_quay_23 ?_
      refine xr_iconst C 24 3 (by decide +kernel) dX8_quay_24 ?_
      refine xr_iadd C 25 dX8_quay_25 ?_
      refine xr_iload_n C 26 rfl dX8_quay_26 ?_
      obtain ⟨z1, q2, h⟩ := g_bind h
      refine xr_callV C 27 (mX8_become q2) v_X8_become ml_X8_128 (Nat.le_of_ble_eq_true rfl) (Nat.le_of_ble_eq_true rfl) (xrecv C rfl rfl) rfl rfl (Nat.le_of_ble_eq_true rfl) rfl dX8_quay_27 ?_
      refine xr_goto C 30 39 dX8_quay_30 rfl ?_
      cases h
      exact xr_iret C 39 E dX8_quay_39
set_option maxRecDepth 100000 in
set_option maxHeartbeats 4000000 in
theorem mX8_quay {l : Launch} {ad : Nat → Nat} {G : gEnv} {w : xW} {x1 : Int32} {x2 : Int32} {r : xW × Int32} (h : fX8_quay w x1 x2 = some r) : xCt l ad G 3 yX8_quay cX8_quay 3 (some .int) [.ref (ad 55), .int x1, .int x2] w r.1 (some (.int r.2)) := xCt.of RX8 rfl (by decide +kernel) (Nat.le_of_ble_eq_true rfl) (fun Γ el ea eG eL C E => by
    subst el
    subst ea
    subst eG
    unfold fX8_quay at h
    exact xG.sub (bX8_quay_0 C eL  E h) ⟨rfl, rfl, rfl, trivial⟩)
def fX7_clear_0 (w : xW) : xW × Int32 :=
  (sI (fX0_forget w) 1 6 0, (fX0_forget w).1 1 6)
def fX7_clear (w : xW) : xW × Int32 := fX7_clear_0 w
set_option maxRecDepth 100000 in
set_option maxHeartbeats 4000000 in
theorem bX7_clear_0 {Γ : xΓ} (C : xOK Γ cX7_clear RX7 2) (hL : xn Γ = 2) {w : xW} {r : xW × Int32} (E : xEnd Γ (some .int) r.1 (some (.int r.2))) (h : fX7_clear_0  w = r) : xG Γ w 0 [(0, .ref (xad Γ 0))] [] := by
  unfold fX7_clear_0 at h
  refine xr_aload_n C 0 rfl dX7_clear_0 ?_
  refine xr_getR C 1 dX7_clear_1 fl_X7_36 rfl rfl ?_
  refine xr_callV C 4 (mX0_forget rfl) v_X0_forget ml_X7_74 (Nat.le_of_ble_eq_true rfl) (Nat.le_of_ble_eq_true rfl) (xrecv C rfl rfl) rfl rfl (Nat.le_of_ble_eq_true rfl) rfl dX7_clear_4 ?_
  refine xr_aload_n C 7 rfl dX7_clear_7 ?_
  refine xr_getR C 8 dX7_clear_8 fl_X7_10 rfl rfl ?_
  refine xr_getI C 11 dX7_clear_11 fl_X7_177 rfl rfl ?_
  refine xr_istore_n C 14 dX7_clear_14 (xnb hL rfl) ?_
  refine xr_aload_n C 15 rfl dX7_clear_15 ?_
  refine xr_getR C 16 dX7_clear_16 fl_X7_10 rfl rfl ?_
  refine xr_iconst C 19 0 (by decide +kernel) dX7_clear_19 ?_
  refine xr_putI C 20 dX7_clear_20 fp_X7_177 rfl rfl ?_
  refine xr_iload_n C 23 rfl dX7_clear_23 ?_
  cases h
  exact xr_iret C 24 E dX7_clear_24
set_option maxRecDepth 100000 in
set_option maxHeartbeats 4000000 in
theorem mX7_clear {l : Launch} {ad : Nat → Nat} {G : gEnv} {w : xW} {r : xW × Int32} (h : fX7_clear w = r) : xCt l ad G 2 yX7_clear cX7_clear 2 (some .int) [.ref (ad 0)] w r.1 (some (.int r.2)) := xCt.of RX7 rfl (by decide +kernel) (Nat.le_of_ble_eq_true rfl) (fun Γ el ea eG eL C E => by
    subst el
    subst ea
    subst eG
    unfold fX7_clear at h
    exact xG.sub (bX7_clear_0 C eL  E h) ⟨rfl, trivial⟩)
def fX8_clear_0 (w : xW) : Option (xW × Int32) :=
  (fX8_become w 10 0).bind fun z1 =>
  some (z1.1, z1.2)
def fX8_clear (w : xW) : Option (xW × Int32) := fX8_clear_0 w
set_option maxRecDepth 100000 in
set_option maxHeartbeats 4000000 in
theorem bX8_clear_0 {Γ : xΓ} (C : xOK Γ cX8_clear RX8 2) (hL : xn Γ = 1) {w : xW} {r : xW × Int32} (E : xEnd Γ (some .int) r.1 (some (.int r.2))) (h : fX8_clear_0  w = some r) : xG Γ w 0 [(0, .ref (xad Γ 55))] [] := by
  unfold fX8_clear_0 at h
  refine xr_aload_n C 0 rfl dX8_clear_0 ?_
  refine xr_bipush C 1 10 (by decide +kernel) dX8_clear_1 ?_
  refine xr_iconst C 3 0 (by decide +kernel) dX8_clear_3 ?_
  obtain ⟨z1, q2, h⟩ := g_bind h
  refine xr_callV C 4 (mX8_become q2) v_X8_become ml_X8_128 (Nat.le_of_ble_eq_true rfl) (Nat.le_of_ble_eq_true rfl) (xrecv C rfl rfl) rfl rfl (Nat.le_of_ble_eq_true rfl) rfl dX8_clear_4 ?_
  cases h
  exact xr_iret C 7 E dX8_clear_7
set_option maxRecDepth 100000 in
set_option maxHeartbeats 4000000 in
theorem mX8_clear {l : Launch} {ad : Nat → Nat} {G : gEnv} {w : xW} {r : xW × Int32} (h : fX8_clear w = some r) : xCt l ad G 2 yX8_clear cX8_clear 1 (some .int) [.ref (ad 55)] w r.1 (some (.int r.2)) := xCt.of RX8 rfl (by decide +kernel) (Nat.le_of_ble_eq_true rfl) (fun Γ el ea eG eL C E => by
    subst el
    subst ea
    subst eG
    unfold fX8_clear at h
    exact xG.sub (bX8_clear_0 C eL  E h) ⟨rfl, trivial⟩)
def fX6_calmTill_26 (N : Nat) (w : xW) (x1 : Int32) : Option Int32 :=
  some (fX6_begins w x1)
def fX6_calmTill_5b (N : Nat) (w : xW) (K5 : Int32 → Option Int32) (x1 : Int32) : Option Int32 :=
  if 30 ≤ x1 then
    fX6_calmTill_26 N w x1
  else
  (fX6_isIn w 1 x1).bind fun z1 =>
  if z1 = 0 then
    fX6_calmTill_26 N w x1
  else
  K5 (x1 + 1)
def fX6_calmTill_5 (N : Nat) (w : xW) : Nat → Int32 → Option Int32
  | 0, _ => none
  | n + 1, x1 => fX6_calmTill_5b N w (fX6_calmTill_5 N w n) x1
def fX6_calmTill_0 (N : Nat) (w : xW) : Option Int32 :=
  fX6_calmTill_5 N w N (w.1 2 2)
def fX6_calmTill (N : Nat) (w : xW) : Option Int32 := fX6_calmTill_0 N w
set_option maxRecDepth 100000 in
set_option maxHeartbeats 4000000 in
theorem bX6_calmTill_26 {Γ : xΓ} (C : xOK Γ cX6_calmTill RX6 2) (hL : xn Γ = 2) {N : Nat} {w : xW} {x1 : Int32} {r : Int32} (E : xEnd Γ (some .int) w (some (.int r))) (h : fX6_calmTill_26 N w x1 = some r) : xG Γ w 26 [(0, .ref (xad Γ 2)), (1, .int x1)] [] := by
  unfold fX6_calmTill_26 at h
  refine xr_aload_n C 26 rfl dX6_calmTill_26 ?_
  refine xr_iload_n C 27 rfl dX6_calmTill_27 ?_
  refine xr_callV C 28 (mX6_begins rfl) v_X6_begins ml_X6_30 (Nat.le_of_ble_eq_true rfl) (Nat.le_of_ble_eq_true rfl) (xrecv C rfl rfl) rfl rfl (Nat.le_of_ble_eq_true rfl) rfl dX6_calmTill_28 ?_
  cases h
  exact xr_iret C 31 E dX6_calmTill_31
set_option maxRecDepth 100000 in
set_option maxHeartbeats 4000000 in
theorem bX6_calmTill_5b {Γ : xΓ} (C : xOK Γ cX6_calmTill RX6 2) (hL : xn Γ = 2) {N : Nat} {K5 : Int32 → Option Int32} {w : xW} {x1 : Int32} {r : Int32} (E : xEnd Γ (some .int) w (some (.int r))) (hK5 : ∀ (x1 : Int32), K5 x1 = some r → xG Γ w 5 [(0, .ref (xad Γ 2)), (1, .int x1)] []) (h : fX6_calmTill_5b N w K5 x1 = some r) : xG Γ w 5 [(0, .ref (xad Γ 2)), (1, .int x1)] [] := by
  unfold fX6_calmTill_5b at h
  refine xr_iload_n C 5 rfl dX6_calmTill_5 ?_
  refine xr_bipush C 6 30 (by decide +kernel) dX6_calmTill_6 ?_
  refine xr_icmp_ge C 8 26 dX6_calmTill_8 rfl (fun q => ?_) (fun q => ?_)
  · have h := g_it h q
    exact xG.sub (bX6_calmTill_26 C hL E h) ⟨rfl, rfl, trivial⟩
  · have h := g_if h q
    refine xr_aload_n C 11 rfl dX6_calmTill_11 ?_
    refine xr_iconst C 12 1 (by decide +kernel) dX6_calmTill_12 ?_
    refine xr_iload_n C 13 rfl dX6_calmTill_13 ?_
    obtain ⟨z1, q2, h⟩ := g_bind h
    refine xr_callV C 14 (mX6_isIn q2) v_X6_isIn ml_X6_42 (Nat.le_of_ble_eq_true rfl) (Nat.le_of_ble_eq_true rfl) (xrecv C rfl rfl) rfl rfl (Nat.le_of_ble_eq_true rfl) rfl dX6_calmTill_14 ?_
    refine xr_if_eq C 17 26 dX6_calmTill_17 rfl (fun q => ?_) (fun q => ?_)
    · have h := g_it h q
      exact xG.sub (bX6_calmTill_26 C hL E h) ⟨rfl, rfl, trivial⟩
    · have h := g_if h q
      refine xr_iinc C 20 1 (by decide +kernel) rfl dX6_calmTill_20 (xnb hL rfl) ?_
      refine xr_goto C 23 5 dX6_calmTill_23 rfl ?_
      exact xG.sub (hK5 _ h) ⟨rfl, rfl, trivial⟩
set_option maxRecDepth 100000 in
set_option maxHeartbeats 4000000 in
theorem bX6_calmTill_5 {Γ : xΓ} (C : xOK Γ cX6_calmTill RX6 2) (hL : xn Γ = 2) {N : Nat} {w : xW} {r : Int32} (E : xEnd Γ (some .int) w (some (.int r))) : ∀ (n : Nat) (x1 : Int32), fX6_calmTill_5 N w n x1 = some r → xG Γ w 5 [(0, .ref (xad Γ 2)), (1, .int x1)] []
  | 0, _, h => by cases h
  | n + 1, x1, h => bX6_calmTill_5b C hL E (bX6_calmTill_5 C hL E n) h
set_option maxRecDepth 100000 in
set_option maxHeartbeats 4000000 in
theorem bX6_calmTill_0 {Γ : xΓ} (C : xOK Γ cX6_calmTill RX6 2) (hL : xn Γ = 2) {N : Nat} {w : xW} {r : Int32} (E : xEnd Γ (some .int) w (some (.int r))) (h : fX6_calmTill_0 N w  = some r) : xG Γ w 0 [(0, .ref (xad Γ 2))] [] := by
  unfold fX6_calmTill_0 at h
  refine xr_aload_n C 0 rfl dX6_calmTill_0 ?_
  refine xr_getI C 1 dX6_calmTill_1 fl_X6_34 rfl rfl ?_
  refine xr_istore_n C 4 dX6_calmTill_4 (xnb hL rfl) ?_
  exact xG.sub (bX6_calmTill_5 C hL E N _ h) ⟨rfl, rfl, trivial⟩
set_option maxRecDepth 100000 in
set_option maxHeartbeats 4000000 in
theorem mX6_calmTill {l : Launch} {ad : Nat → Nat} {G : gEnv} {N : Nat} {w : xW} {r : Int32} (h : fX6_calmTill N w = some r) : xCt l ad G 2 yX6_calmTill cX6_calmTill 2 (some .int) [.ref (ad 2)] w w (some (.int r)) := xCt.of RX6 rfl (by decide +kernel) (Nat.le_of_ble_eq_true rfl) (fun Γ el ea eG eL C E => by
    subst el
    subst ea
    subst eG
    unfold fX6_calmTill at h
    exact xG.sub (bX6_calmTill_0 C eL  E h) ⟨rfl, trivial⟩)
def fX7_lies_22 (N : Nat) (w : xW) : Option (xW × Int32) :=
  (fX7_refuse w (-1000000001)).bind fun z7 =>
  some (z7.1, z7.2)
def fX7_lies_68 (N : Nat) (w : xW) (x1 : Int32) (x3 : Int32) (s0 : Int32) : Option (xW × Int32) :=
  if s0 = 0 then
    some (w, 0)
  else
  (fX6_calmTill N w).bind fun z4 =>
  if ibd x1 6 = true then
  if (z4 - x3) < (w.1 9 x1.toNatClampNeg) then
    some (w, 0)
  else
  some (w, 1)
  else none
def fX7_lies_0 (N : Nat) (w : xW) (x1 : Int32) (x2 : Int32) (x3 : Int32) : Option (xW × Int32) :=
  if (fX7_isShip w x1) = 0 then
    fX7_lies_22 N w
  else
  if (fX7_isSide x2) = 0 then
    fX7_lies_22 N w
  else
  if (fX7_isTick x3) = 0 then
    fX7_lies_22 N w
  else
  (fX6_at N w x3).bind fun z1 =>
  if ibd x1 6 = true then
  if (fX6_sideOf z1 x2) = (z1.1 7 x1.toNatClampNeg) then
    fX7_lies_68 N z1 x1 x3 1
  else
  fX7_lies_68 N z1 x1 x3 0
  else none
def fX7_lies (N : Nat) (w : xW) (x1 : Int32) (x2 : Int32) (x3 : Int32) : Option (xW × Int32) := fX7_lies_0 N w x1 x2 x3
set_option maxRecDepth 100000 in
set_option maxHeartbeats 4000000 in
theorem bX7_lies_22 {Γ : xΓ} (C : xOK Γ cX7_lies RX7 3) (hL : xn Γ = 5) {N : Nat} {w : xW} {r : xW × Int32} (E : xEnd Γ (some .int) r.1 (some (.int r.2))) (h : fX7_lies_22 N w = some r) : xG Γ w 22 [(0, .ref (xad Γ 0))] [] := by
  unfold fX7_lies_22 at h
  refine xr_aload_n C 22 rfl dX7_lies_22 ?_
  refine xr_ldc C 23 k_X7_69 dX7_lies_23 ?_
  obtain ⟨z7, q8, h⟩ := g_bind h
  refine xr_callV C 25 (mX7_refuse q8) v_X7_refuse ml_X7_70 (Nat.le_of_ble_eq_true rfl) (Nat.le_of_ble_eq_true rfl) (xrecv C rfl rfl) rfl rfl (Nat.le_of_ble_eq_true rfl) rfl dX7_lies_25 ?_
  cases h
  exact xr_iret C 28 E dX7_lies_28
set_option maxRecDepth 100000 in
set_option maxHeartbeats 4000000 in
theorem bX7_lies_68 {Γ : xΓ} (C : xOK Γ cX7_lies RX7 3) (hL : xn Γ = 5) {N : Nat} {w : xW} {x1 : Int32} {x3 : Int32} {s0 : Int32} {r : xW × Int32} (E : xEnd Γ (some .int) r.1 (some (.int r.2))) (h : fX7_lies_68 N w x1 x3 s0 = some r) : xG Γ w 68 [(0, .ref (xad Γ 0)), (1, .int x1), (3, .int x3)] [.int s0] := by
  unfold fX7_lies_68 at h
  refine xr_istore C 68 dX7_lies_68 (xnb hL rfl) ?_
  refine xr_iload C 70 rfl dX7_lies_70 ?_
  refine xr_if_eq C 72 103 dX7_lies_72 rfl (fun q => ?_) (fun q => ?_)
  · have h := g_it h q
    refine xr_iconst C 103 0 (by decide +kernel) dX7_lies_103 ?_
    cases h
    exact xr_iret C 104 E dX7_lies_104
  · have h := g_if h q
    refine xr_aload_n C 75 rfl dX7_lies_75 ?_
    refine xr_getR C 76 dX7_lies_76 fl_X7_10 rfl rfl ?_
    refine xr_getR C 79 dX7_lies_79 fl_X7_77 rfl rfl ?_
    obtain ⟨z4, q5, h⟩ := g_bind h
    refine xr_callV C 82 (mX6_calmTill q5) v_X6_calmTill ml_X7_199 (Nat.le_of_ble_eq_true rfl) (Nat.le_of_ble_eq_true rfl) (xrecv C rfl rfl) rfl rfl (Nat.le_of_ble_eq_true rfl) rfl dX7_lies_82 ?_
    refine xr_iload_n C 85 rfl dX7_lies_85 ?_
    refine xr_isub C 86 dX7_lies_86 ?_
    refine xr_aload_n C 87 rfl dX7_lies_87 ?_
    refine xr_getR C 88 dX7_lies_88 fl_X7_10 rfl rfl ?_
    refine xr_getR C 91 dX7_lies_91 fl_X7_193 rfl rfl ?_
    refine xr_iload_n C 94 rfl dX7_lies_94 ?_
    obtain ⟨q6, h⟩ := g_ib h
    refine xr_iald C 95 x1.toNatClampNeg rfl dX7_lies_95 rfl (ibd_in q6) ?_
    refine xr_icmp_lt C 96 103 dX7_lies_96 rfl (fun q => ?_) (fun q => ?_)
    · have h := g_it h q
      refine xr_iconst C 103 0 (by decide +kernel) dX7_lies_103 ?_
      cases h
      exact xr_iret C 104 E dX7_lies_104
    · have h := g_if h q
      refine xr_iconst C 99 1 (by decide +kernel) dX7_lies_99 ?_
      refine xr_goto C 100 104 dX7_lies_100 rfl ?_
      cases h
      exact xr_iret C 104 E dX7_lies_104
set_option maxRecDepth 100000 in
set_option maxHeartbeats 4000000 in
theorem bX7_lies_0 {Γ : xΓ} (C : xOK Γ cX7_lies RX7 3) (hL : xn Γ = 5) {N : Nat} {w : xW} {x1 : Int32} {x2 : Int32} {x3 : Int32} {r : xW × Int32} (E : xEnd Γ (some .int) r.1 (some (.int r.2))) (h : fX7_lies_0 N w x1 x2 x3 = some r) : xG Γ w 0 [(0, .ref (xad Γ 0)), (1, .int x1), (2, .int x2), (3, .int x3)] [] := by
  unfold fX7_lies_0 at h
  refine xr_aload_n C 0 rfl dX7_lies_0 ?_
  refine xr_iload_n C 1 rfl dX7_lies_1 ?_
  refine xr_callV C 2 (mX7_isShip rfl) v_X7_isShip ml_X7_184 (Nat.le_of_ble_eq_true rfl) (Nat.le_of_ble_eq_true rfl) (xrecv C rfl rfl) rfl rfl (Nat.le_of_ble_eq_true rfl) rfl dX7_lies_2 ?_
  refine xr_if_eq C 5 22 dX7_lies_5 rfl (fun q => ?_) (fun q => ?_)
  · have h := g_it h q
    exact xG.sub (bX7_lies_22 C hL E h) ⟨rfl, trivial⟩
  · have h := g_if h q
    refine xr_iload_n C 8 rfl dX7_lies_8 ?_
    refine xr_callS C 9 (mX7_isSide rfl) v_X7_isSide ml_X7_87 (Nat.le_of_ble_eq_true rfl) (Nat.le_of_ble_eq_true rfl) rfl rfl (Nat.le_of_ble_eq_true rfl) rfl dX7_lies_9 ?_
    refine xr_if_eq C 12 22 dX7_lies_12 rfl (fun q => ?_) (fun q => ?_)
    · have h := g_it h q
      exact xG.sub (bX7_lies_22 C hL E h) ⟨rfl, trivial⟩
    · have h := g_if h q
      refine xr_iload_n C 15 rfl dX7_lies_15 ?_
      refine xr_callS C 16 (mX7_isTick rfl) v_X7_isTick ml_X7_104 (Nat.le_of_ble_eq_true rfl) (Nat.le_of_ble_eq_true rfl) rfl rfl (Nat.le_of_ble_eq_true rfl) rfl dX7_lies_16 ?_
      refine xr_if_ne C 19 29 dX7_lies_19 rfl (fun q => ?_) (fun q => ?_)
      · have h := g_if h q
        refine xr_aload_n C 29 rfl dX7_lies_29 ?_
        refine xr_getR C 30 dX7_lies_30 fl_X7_10 rfl rfl ?_
        refine xr_getR C 33 dX7_lies_33 fl_X7_77 rfl rfl ?_
        refine xr_iload_n C 36 rfl dX7_lies_36 ?_
        obtain ⟨z1, q2, h⟩ := g_bind h
        refine xr_callV C 37 (mX6_at q2) v_X6_at ml_X7_107 (Nat.le_of_ble_eq_true rfl) (Nat.le_of_ble_eq_true rfl) (xrecv C rfl rfl) rfl rfl (Nat.le_of_ble_eq_true rfl) rfl dX7_lies_37 ?_
        refine xr_aload_n C 40 rfl dX7_lies_40 ?_
        refine xr_getR C 41 dX7_lies_41 fl_X7_10 rfl rfl ?_
        refine xr_getR C 44 dX7_lies_44 fl_X7_77 rfl rfl ?_
        refine xr_iload_n C 47 rfl dX7_lies_47 ?_
        refine xr_callV C 48 (mX6_sideOf rfl) v_X6_sideOf ml_X7_117 (Nat.le_of_ble_eq_true rfl) (Nat.le_of_ble_eq_true rfl) (xrecv C rfl rfl) rfl rfl (Nat.le_of_ble_eq_true rfl) rfl dX7_lies_48 ?_
        refine xr_aload_n C 51 rfl dX7_lies_51 ?_
        refine xr_getR C 52 dX7_lies_52 fl_X7_10 rfl rfl ?_
        refine xr_getR C 55 dX7_lies_55 fl_X7_187 rfl rfl ?_
        refine xr_iload_n C 58 rfl dX7_lies_58 ?_
        obtain ⟨q3, h⟩ := g_ib h
        refine xr_iald C 59 x1.toNatClampNeg rfl dX7_lies_59 rfl (ibd_in q3) ?_
        refine xr_icmp_ne C 60 67 dX7_lies_60 rfl (fun q => ?_) (fun q => ?_)
        · have h := g_if h q
          refine xr_iconst C 67 0 (by decide +kernel) dX7_lies_67 ?_
          exact xG.sub (bX7_lies_68 C hL E h) ⟨rfl, rfl, rfl, trivial⟩
        · have h := g_it h q
          refine xr_iconst C 63 1 (by decide +kernel) dX7_lies_63 ?_
          refine xr_goto C 64 68 dX7_lies_64 rfl ?_
          exact xG.sub (bX7_lies_68 C hL E h) ⟨rfl, rfl, rfl, trivial⟩
      · have h := g_it h q
        exact xG.sub (bX7_lies_22 C hL E h) ⟨rfl, trivial⟩
set_option maxRecDepth 100000 in
set_option maxHeartbeats 4000000 in
theorem mX7_lies {l : Launch} {ad : Nat → Nat} {G : gEnv} {N : Nat} {w : xW} {x1 : Int32} {x2 : Int32} {x3 : Int32} {r : xW × Int32} (h : fX7_lies N w x1 x2 x3 = some r) : xCt l ad G 3 yX7_lies cX7_lies 5 (some .int) [.ref (ad 0), .int x1, .int x2, .int x3] w r.1 (some (.int r.2)) := xCt.of RX7 rfl (by decide +kernel) (Nat.le_of_ble_eq_true rfl) (fun Γ el ea eG eL C E => by
    subst el
    subst ea
    subst eG
    unfold fX7_lies at h
    exact xG.sub (bX7_lies_0 C eL  E h) ⟨rfl, rfl, rfl, rfl, trivial⟩)
def fX8_canLie_0 (N : Nat) (w : xW) (x1 : Int32) (x2 : Int32) (x3 : Int32) : Option (xW × Int32) :=
  (fX8_sideOf N w x2 x3).bind fun z1 =>
  (fX8_shipIs z1.1 x1 0).bind fun z3 =>
  if z1.2 = z3 then
    (fX8_stillAt N z1.1 x3).bind fun z5 =>
    (fX8_shipIs z5.1 x1 2).bind fun z7 =>
    if z5.2 < z7 then
      some (z5.1, 0)
    else
    some (z5.1, 1)
  else
  some (z1.1, 0)
def fX8_canLie (N : Nat) (w : xW) (x1 : Int32) (x2 : Int32) (x3 : Int32) : Option (xW × Int32) := fX8_canLie_0 N w x1 x2 x3
set_option maxRecDepth 100000 in
set_option maxHeartbeats 4000000 in
theorem bX8_canLie_0 {Γ : xΓ} (C : xOK Γ cX8_canLie RX8 6) (hL : xn Γ = 4) {N : Nat} {w : xW} {x1 : Int32} {x2 : Int32} {x3 : Int32} {r : xW × Int32} (E : xEnd Γ (some .boolean) r.1 (some (.int r.2))) (h : fX8_canLie_0 N w x1 x2 x3 = some r) : xG Γ w 0 [(0, .ref (xad Γ 55)), (1, .int x1), (2, .int x2), (3, .int x3)] [] := by
  unfold fX8_canLie_0 at h
  refine xr_aload_n C 0 rfl dX8_canLie_0 ?_
  refine xr_iload_n C 1 rfl dX8_canLie_1 ?_
  refine xr_iload_n C 2 rfl dX8_canLie_2 ?_
  obtain ⟨z1, q2, h⟩ := g_bind h
  refine xr_callV C 3 (mX8_sideOf q2) v_X8_sideOf ml_X8_146 (Nat.le_of_ble_eq_true rfl) (Nat.le_of_ble_eq_true rfl) (xrecv C rfl rfl) rfl rfl (Nat.le_of_ble_eq_true rfl) rfl dX8_canLie_3 ?_
  refine xr_aload_n C 6 rfl dX8_canLie_6 ?_
  refine xr_iload_n C 7 rfl dX8_canLie_7 ?_
  refine xr_iconst C 8 0 (by decide +kernel) dX8_canLie_8 ?_
  obtain ⟨z3, q4, h⟩ := g_bind h
  refine xr_callV C 9 (mX8_shipIs q4) v_X8_shipIs ml_X8_192 (Nat.le_of_ble_eq_true rfl) (Nat.le_of_ble_eq_true rfl) (xrecv C rfl rfl) rfl rfl (Nat.le_of_ble_eq_true rfl) rfl dX8_canLie_9 ?_
  refine xr_icmp_ne C 12 33 dX8_canLie_12 rfl (fun q => ?_) (fun q => ?_)
  · have h := g_if h q
    refine xr_iconst C 33 0 (by decide +kernel) dX8_canLie_33 ?_
    cases h
    exact xr_zret C 34 E dX8_canLie_34 (by decide +kernel)
  · have h := g_it h q
    refine xr_aload_n C 15 rfl dX8_canLie_15 ?_
    refine xr_iload_n C 16 rfl dX8_canLie_16 ?_
    obtain ⟨z5, q6, h⟩ := g_bind h
    refine xr_callV C 17 (mX8_stillAt q6) v_X8_stillAt ml_X8_143 (Nat.le_of_ble_eq_true rfl) (Nat.le_of_ble_eq_true rfl) (xrecv C rfl rfl) rfl rfl (Nat.le_of_ble_eq_true rfl) rfl dX8_canLie_17 ?_
    refine xr_aload_n C 20 rfl dX8_canLie_20 ?_
    refine xr_iload_n C 21 rfl dX8_canLie_21 ?_
    refine xr_iconst C 22 2 (by decide +kernel) dX8_canLie_22 ?_
    obtain ⟨z7, q8, h⟩ := g_bind h
    refine xr_callV C 23 (mX8_shipIs q8) v_X8_shipIs ml_X8_192 (Nat.le_of_ble_eq_true rfl) (Nat.le_of_ble_eq_true rfl) (xrecv C rfl rfl) rfl rfl (Nat.le_of_ble_eq_true rfl) rfl dX8_canLie_23 ?_
    refine xr_icmp_lt C 26 33 dX8_canLie_26 rfl (fun q => ?_) (fun q => ?_)
    · have h := g_it h q
      refine xr_iconst C 33 0 (by decide +kernel) dX8_canLie_33 ?_
      cases h
      exact xr_zret C 34 E dX8_canLie_34 (by decide +kernel)
    · have h := g_if h q
      refine xr_iconst C 29 1 (by decide +kernel) dX8_canLie_29 ?_
      refine xr_goto C 30 34 dX8_canLie_30 rfl ?_
      cases h
      exact xr_zret C 34 E dX8_canLie_34 (by decide +kernel)
set_option maxRecDepth 100000 in
set_option maxHeartbeats 4000000 in
theorem mX8_canLie {l : Launch} {ad : Nat → Nat} {G : gEnv} {N : Nat} {w : xW} {x1 : Int32} {x2 : Int32} {x3 : Int32} {r : xW × Int32} (h : fX8_canLie N w x1 x2 x3 = some r) : xCt l ad G 6 yX8_canLie cX8_canLie 4 (some .boolean) [.ref (ad 55), .int x1, .int x2, .int x3] w r.1 (some (.int r.2)) := xCt.of RX8 rfl (by decide +kernel) (Nat.le_of_ble_eq_true rfl) (fun Γ el ea eG eL C E => by
    subst el
    subst ea
    subst eG
    unfold fX8_canLie at h
    exact xG.sub (bX8_canLie_0 C eL  E h) ⟨rfl, rfl, rfl, rfl, trivial⟩)
def fX8_lies_22 (N : Nat) (w : xW) : Option (xW × Int32) :=
  (fX8_finding w (-1000000001)).bind fun z3 =>
  some (z3.1, z3.2)
def fX8_lies_0 (N : Nat) (w : xW) (x1 : Int32) (x2 : Int32) (x3 : Int32) : Option (xW × Int32) :=
  if (fX8_isShip w x1) = 0 then
    fX8_lies_22 N w
  else
  if (fX8_isSide x2) = 0 then
    fX8_lies_22 N w
  else
  if (fX8_isTick x3) = 0 then
    fX8_lies_22 N w
  else
  (fX8_canLie N w x1 x2 x3).bind fun z1 =>
  if z1.2 = 0 then
    some (z1.1, 0)
  else
  some (z1.1, 1)
def fX8_lies (N : Nat) (w : xW) (x1 : Int32) (x2 : Int32) (x3 : Int32) : Option (xW × Int32) := fX8_lies_0 N w x1 x2 x3
set_option maxRecDepth 100000 in
set_option maxHeartbeats 4000000 in
theorem bX8_lies_22 {Γ : xΓ} (C : xOK Γ cX8_lies RX8 7) (hL : xn Γ = 4) {N : Nat} {w : xW} {r : xW × Int32} (E : xEnd Γ (some .int) r.1 (some (.int r.2))) (h : fX8_lies_22 N w = some r) : xG Γ w 22 [(0, .ref (xad Γ 55))] [] := by
  unfold fX8_lies_22 at h
  refine xr_aload_n C 22 rfl dX8_lies_22 ?_
  refine xr_ldc C 23 k_X8_98 dX8_lies_23 ?_
  obtain ⟨z3, q4, h⟩ := g_bind h
  refine xr_callV C 25 (mX8_finding q4) v_X8_finding ml_X8_125 (Nat.le_of_ble_eq_true rfl) (Nat.le_of_ble_eq_true rfl) (xrecv C rfl rfl) rfl rfl (Nat.le_of_ble_eq_true rfl) rfl dX8_lies_25 ?_
  cases h
  exact xr_iret C 28 E dX8_lies_28
set_option maxRecDepth 100000 in
set_option maxHeartbeats 4000000 in
theorem bX8_lies_0 {Γ : xΓ} (C : xOK Γ cX8_lies RX8 7) (hL : xn Γ = 4) {N : Nat} {w : xW} {x1 : Int32} {x2 : Int32} {x3 : Int32} {r : xW × Int32} (E : xEnd Γ (some .int) r.1 (some (.int r.2))) (h : fX8_lies_0 N w x1 x2 x3 = some r) : xG Γ w 0 [(0, .ref (xad Γ 55)), (1, .int x1), (2, .int x2), (3, .int x3)] [] := by
  unfold fX8_lies_0 at h
  refine xr_aload_n C 0 rfl dX8_lies_0 ?_
  refine xr_iload_n C 1 rfl dX8_lies_1 ?_
  refine xr_callV C 2 (mX8_isShip rfl) v_X8_isShip ml_X8_189 (Nat.le_of_ble_eq_true rfl) (Nat.le_of_ble_eq_true rfl) (xrecv C rfl rfl) rfl rfl (Nat.le_of_ble_eq_true rfl) rfl dX8_lies_2 ?_
  refine xr_if_eq C 5 22 dX8_lies_5 rfl (fun q => ?_) (fun q => ?_)
  · have h := g_it h q
    exact xG.sub (bX8_lies_22 C hL E h) ⟨rfl, trivial⟩
  · have h := g_if h q
    refine xr_iload_n C 8 rfl dX8_lies_8 ?_
    refine xr_callS C 9 (mX8_isSide rfl) v_X8_isSide ml_X8_133 (Nat.le_of_ble_eq_true rfl) (Nat.le_of_ble_eq_true rfl) rfl rfl (Nat.le_of_ble_eq_true rfl) rfl dX8_lies_9 ?_
    refine xr_if_eq C 12 22 dX8_lies_12 rfl (fun q => ?_) (fun q => ?_)
    · have h := g_it h q
      exact xG.sub (bX8_lies_22 C hL E h) ⟨rfl, trivial⟩
    · have h := g_if h q
      refine xr_iload_n C 15 rfl dX8_lies_15 ?_
      refine xr_callS C 16 (mX8_isTick rfl) v_X8_isTick ml_X8_137 (Nat.le_of_ble_eq_true rfl) (Nat.le_of_ble_eq_true rfl) rfl rfl (Nat.le_of_ble_eq_true rfl) rfl dX8_lies_16 ?_
      refine xr_if_ne C 19 29 dX8_lies_19 rfl (fun q => ?_) (fun q => ?_)
      · have h := g_if h q
        refine xr_aload_n C 29 rfl dX8_lies_29 ?_
        refine xr_iload_n C 30 rfl dX8_lies_30 ?_
        refine xr_iload_n C 31 rfl dX8_lies_31 ?_
        refine xr_iload_n C 32 rfl dX8_lies_32 ?_
        obtain ⟨z1, q2, h⟩ := g_bind h
        refine xr_callV C 33 (mX8_canLie q2) v_X8_canLie ml_X8_195 (Nat.le_of_ble_eq_true rfl) (Nat.le_of_ble_eq_true rfl) (xrecv C rfl rfl) rfl rfl (Nat.le_of_ble_eq_true rfl) rfl dX8_lies_33 ?_
        refine xr_if_eq C 36 43 dX8_lies_36 rfl (fun q => ?_) (fun q => ?_)
        · have h := g_it h q
          refine xr_iconst C 43 0 (by decide +kernel) dX8_lies_43 ?_
          cases h
          exact xr_iret C 44 E dX8_lies_44
        · have h := g_if h q
          refine xr_iconst C 39 1 (by decide +kernel) dX8_lies_39 ?_
          refine xr_goto C 40 44 dX8_lies_40 rfl ?_
          cases h
          exact xr_iret C 44 E dX8_lies_44
      · have h := g_it h q
        exact xG.sub (bX8_lies_22 C hL E h) ⟨rfl, trivial⟩
set_option maxRecDepth 100000 in
set_option maxHeartbeats 4000000 in
theorem mX8_lies {l : Launch} {ad : Nat → Nat} {G : gEnv} {N : Nat} {w : xW} {x1 : Int32} {x2 : Int32} {x3 : Int32} {r : xW × Int32} (h : fX8_lies N w x1 x2 x3 = some r) : xCt l ad G 7 yX8_lies cX8_lies 4 (some .int) [.ref (ad 55), .int x1, .int x2, .int x3] w r.1 (some (.int r.2)) := xCt.of RX8 rfl (by decide +kernel) (Nat.le_of_ble_eq_true rfl) (fun Γ el ea eG eL C E => by
    subst el
    subst ea
    subst eG
    unfold fX8_lies at h
    exact xG.sub (bX8_lies_0 C eL  E h) ⟨rfl, rfl, rfl, rfl, trivial⟩)
def fX6_rightAt_25 (N : Nat) (w : xW) (x1 : Int32) : Option Int32 :=
  some ((fX6_begins w x1) + (w.1 3 2))
def fX6_rightAt_5b (N : Nat) (w : xW) (K5 : Int32 → Option Int32) (x1 : Int32) : Option Int32 :=
  if 30 ≤ x1 then
    fX6_rightAt_25 N w x1
  else
  if (fX6_turnsWhole w x1) = 0 then
    K5 (x1 + 1)
  else
  fX6_rightAt_25 N w x1
def fX6_rightAt_5 (N : Nat) (w : xW) : Nat → Int32 → Option Int32
  | 0, _ => none
  | n + 1, x1 => fX6_rightAt_5b N w (fX6_rightAt_5 N w n) x1
def fX6_rightAt_0 (N : Nat) (w : xW) : Option Int32 :=
  fX6_rightAt_5 N w N (w.1 2 2)
def fX6_rightAt (N : Nat) (w : xW) : Option Int32 := fX6_rightAt_0 N w
set_option maxRecDepth 100000 in
set_option maxHeartbeats 4000000 in
theorem bX6_rightAt_25 {Γ : xΓ} (C : xOK Γ cX6_rightAt RX6 2) (hL : xn Γ = 2) {N : Nat} {w : xW} {x1 : Int32} {r : Int32} (E : xEnd Γ (some .int) w (some (.int r))) (h : fX6_rightAt_25 N w x1 = some r) : xG Γ w 25 [(0, .ref (xad Γ 2)), (1, .int x1)] [] := by
  unfold fX6_rightAt_25 at h
  refine xr_aload_n C 25 rfl dX6_rightAt_25 ?_
  refine xr_iload_n C 26 rfl dX6_rightAt_26 ?_
  refine xr_callV C 27 (mX6_begins rfl) v_X6_begins ml_X6_30 (Nat.le_of_ble_eq_true rfl) (Nat.le_of_ble_eq_true rfl) (xrecv C rfl rfl) rfl rfl (Nat.le_of_ble_eq_true rfl) rfl dX6_rightAt_27 ?_
  refine xr_aload_n C 30 rfl dX6_rightAt_30 ?_
  refine xr_getR C 31 dX6_rightAt_31 fl_X6_9 rfl rfl ?_
  refine xr_iconst C 34 2 (by decide +kernel) dX6_rightAt_34 ?_
  refine xr_iald C 35 2 (by decide +kernel) dX6_rightAt_35 rfl (ibd_in (by decide +kernel)) ?_
  refine xr_iadd C 36 dX6_rightAt_36 ?_
  cases h
  exact xr_iret C 37 E dX6_rightAt_37
set_option maxRecDepth 100000 in
set_option maxHeartbeats 4000000 in
theorem bX6_rightAt_5b {Γ : xΓ} (C : xOK Γ cX6_rightAt RX6 2) (hL : xn Γ = 2) {N : Nat} {K5 : Int32 → Option Int32} {w : xW} {x1 : Int32} {r : Int32} (E : xEnd Γ (some .int) w (some (.int r))) (hK5 : ∀ (x1 : Int32), K5 x1 = some r → xG Γ w 5 [(0, .ref (xad Γ 2)), (1, .int x1)] []) (h : fX6_rightAt_5b N w K5 x1 = some r) : xG Γ w 5 [(0, .ref (xad Γ 2)), (1, .int x1)] [] := by
  unfold fX6_rightAt_5b at h
  refine xr_iload_n C 5 rfl dX6_rightAt_5 ?_
  refine xr_bipush C 6 30 (by decide +kernel) dX6_rightAt_6 ?_
  refine xr_icmp_ge C 8 25 dX6_rightAt_8 rfl (fun q => ?_) (fun q => ?_)
  · have h := g_it h q
    exact xG.sub (bX6_rightAt_25 C hL E h) ⟨rfl, rfl, trivial⟩
  · have h := g_if h q
    refine xr_aload_n C 11 rfl dX6_rightAt_11 ?_
    refine xr_iload_n C 12 rfl dX6_rightAt_12 ?_
    refine xr_callV C 13 (mX6_turnsWhole rfl) v_X6_turnsWhole ml_X6_38 (Nat.le_of_ble_eq_true rfl) (Nat.le_of_ble_eq_true rfl) (xrecv C rfl rfl) rfl rfl (Nat.le_of_ble_eq_true rfl) rfl dX6_rightAt_13 ?_
    refine xr_if_ne C 16 25 dX6_rightAt_16 rfl (fun q => ?_) (fun q => ?_)
    · have h := g_if h q
      exact xG.sub (bX6_rightAt_25 C hL E h) ⟨rfl, rfl, trivial⟩
    · have h := g_it h q
      refine xr_iinc C 19 1 (by decide +kernel) rfl dX6_rightAt_19 (xnb hL rfl) ?_
      refine xr_goto C 22 5 dX6_rightAt_22 rfl ?_
      exact xG.sub (hK5 _ h) ⟨rfl, rfl, trivial⟩
set_option maxRecDepth 100000 in
set_option maxHeartbeats 4000000 in
theorem bX6_rightAt_5 {Γ : xΓ} (C : xOK Γ cX6_rightAt RX6 2) (hL : xn Γ = 2) {N : Nat} {w : xW} {r : Int32} (E : xEnd Γ (some .int) w (some (.int r))) : ∀ (n : Nat) (x1 : Int32), fX6_rightAt_5 N w n x1 = some r → xG Γ w 5 [(0, .ref (xad Γ 2)), (1, .int x1)] []
  | 0, _, h => by cases h
  | n + 1, x1, h => bX6_rightAt_5b C hL E (bX6_rightAt_5 C hL E n) h
set_option maxRecDepth 100000 in
set_option maxHeartbeats 4000000 in
theorem bX6_rightAt_0 {Γ : xΓ} (C : xOK Γ cX6_rightAt RX6 2) (hL : xn Γ = 2) {N : Nat} {w : xW} {r : Int32} (E : xEnd Γ (some .int) w (some (.int r))) (h : fX6_rightAt_0 N w  = some r) : xG Γ w 0 [(0, .ref (xad Γ 2))] [] := by
  unfold fX6_rightAt_0 at h
  refine xr_aload_n C 0 rfl dX6_rightAt_0 ?_
  refine xr_getI C 1 dX6_rightAt_1 fl_X6_34 rfl rfl ?_
  refine xr_istore_n C 4 dX6_rightAt_4 (xnb hL rfl) ?_
  exact xG.sub (bX6_rightAt_5 C hL E N _ h) ⟨rfl, rfl, trivial⟩
set_option maxRecDepth 100000 in
set_option maxHeartbeats 4000000 in
theorem mX6_rightAt {l : Launch} {ad : Nat → Nat} {G : gEnv} {N : Nat} {w : xW} {r : Int32} (h : fX6_rightAt N w = some r) : xCt l ad G 2 yX6_rightAt cX6_rightAt 2 (some .int) [.ref (ad 2)] w w (some (.int r)) := xCt.of RX6 rfl (by decide +kernel) (Nat.le_of_ble_eq_true rfl) (fun Γ el ea eG eL C E => by
    subst el
    subst ea
    subst eG
    unfold fX6_rightAt at h
    exact xG.sub (bX6_rightAt_0 C eL  E h) ⟨rfl, trivial⟩)
def fX1_firstBerth_146 (N : Nat) (K17 : xW → Int32 → Int32 → Int32 → Int32 → Option (xW × Int32)) (w : xW) (x1 : Int32) (x3 : Int32) (x5 : Int32) (x7 : Int32) : Option (xW × Int32) :=
  K17 w x1 x3 x7 (x5 + 1)
def fX1_firstBerth_118 (N : Nat) (K17 : xW → Int32 → Int32 → Int32 → Int32 → Option (xW × Int32)) (w : xW) (x1 : Int32) (x3 : Int32) (x4 : Int32) (x5 : Int32) (x7 : Int32) (s0 : Int32) : Option (xW × Int32) :=
  if s0 = 0 then
    fX1_firstBerth_146 N K17 w x1 x3 x5 x7
  else
  if ibd x1 6 = true then
  if (x7 - x4) < (w.1 9 x1.toNatClampNeg) then
    fX1_firstBerth_146 N K17 w x1 x3 x5 x7
  else
  some (w, (if x3 < x4 then x3 else x4))
  else none
def fX1_firstBerth_68 (N : Nat) (K17 : xW → Int32 → Int32 → Int32 → Int32 → Option (xW × Int32)) (w : xW) (x1 : Int32) (x3 : Int32) (x4 : Int32) (x5 : Int32) : Option (xW × Int32) :=
  if ibd x1 6 = true then
  (fX6_calmTill N w).bind fun z9 =>
  if (w.1 10 x1.toNatClampNeg) = (-1) then
    fX1_firstBerth_118 N K17 w x1 x3 x4 x5 z9 1
  else
  if (w.1 10 x1.toNatClampNeg) = (fX6_frontTo w (w.1 7 x1.toNatClampNeg)) then
    fX1_firstBerth_118 N K17 w x1 x3 x4 x5 z9 1
  else
  fX1_firstBerth_118 N K17 w x1 x3 x4 x5 z9 0
  else none
def fX1_firstBerth_17b (N : Nat) (K17 : xW → Int32 → Int32 → Int32 → Int32 → Option (xW × Int32)) (w : xW) (x1 : Int32) (x3 : Int32) (x4 : Int32) (x5 : Int32) : Option (xW × Int32) :=
  if 960 ≤ x5 then
    some (w, x3)
  else
  if x3 ≤ x4 then
    some (w, x3)
  else
  (fX6_at N w x4).bind fun z2 =>
  if (z2.1 2 4) = 0 then
    fX1_firstBerth_68 N K17 z2 x1 x3 x4 x5
  else
  (fX6_rightAt N z2).bind fun z4 =>
  (fX6_at N z2 z4).bind fun z6 =>
  fX1_firstBerth_68 N K17 z6 x1 x3 z4 x5
def fX1_firstBerth_17 (N : Nat) : Nat → xW → Int32 → Int32 → Int32 → Int32 → Option (xW × Int32)
  | 0, _, _, _, _, _ => none
  | n + 1, w, x1, x3, x4, x5 => fX1_firstBerth_17b N (fX1_firstBerth_17 N n) w x1 x3 x4 x5
def fX1_firstBerth_0 (N : Nat) (w : xW) (x1 : Int32) (x2 : Int32) : Option (xW × Int32) :=
  if ibd x1 6 = true then
  fX1_firstBerth_17 N N w x1 ((w.1 8 x1.toNatClampNeg) + 960) x2 0
  else none
def fX1_firstBerth (N : Nat) (w : xW) (x1 : Int32) (x2 : Int32) : Option (xW × Int32) := fX1_firstBerth_0 N w x1 x2
set_option maxRecDepth 100000 in
set_option maxHeartbeats 4000000 in
theorem bX1_firstBerth_146 {Γ : xΓ} (C : xOK Γ cX1_firstBerth RX1 3) (hL : xn Γ = 9) {N : Nat} {K17 : xW → Int32 → Int32 → Int32 → Int32 → Option (xW × Int32)} {w : xW} {x1 : Int32} {x3 : Int32} {x5 : Int32} {x7 : Int32} {r : xW × Int32} (E : xEnd Γ (some .int) r.1 (some (.int r.2))) (hK17 : ∀ (w : xW) (x1 : Int32) (x3 : Int32) (x4 : Int32) (x5 : Int32), K17 w x1 x3 x4 x5 = some r → xG Γ w 17 [(0, .ref (xad Γ 1)), (1, .int x1), (3, .int x3), (4, .int x4), (5, .int x5)] []) (h : fX1_firstBerth_146 N K17 w x1 x3 x5 x7 = some r) : xG Γ w 146 [(0, .ref (xad Γ 1)), (1, .int x1), (3, .int x3), (5, .int x5), (7, .int x7)] [] := by
  unfold fX1_firstBerth_146 at h
  refine xr_iload C 146 rfl dX1_firstBerth_146 ?_
  refine xr_istore C 148 dX1_firstBerth_148 (xnb hL rfl) ?_
  refine xr_iinc C 150 1 (by decide +kernel) rfl dX1_firstBerth_150 (xnb hL rfl) ?_
  refine xr_goto C 153 17 dX1_firstBerth_153 rfl ?_
  exact xG.sub (hK17 _ _ _ _ _ h) ⟨rfl, rfl, rfl, rfl, rfl, trivial⟩
set_option maxRecDepth 100000 in
set_option maxHeartbeats 4000000 in
theorem bX1_firstBerth_118 {Γ : xΓ} (C : xOK Γ cX1_firstBerth RX1 3) (hL : xn Γ = 9) {N : Nat} {K17 : xW → Int32 → Int32 → Int32 → Int32 → Option (xW × Int32)} {w : xW} {x1 : Int32} {x3 : Int32} {x4 : Int32} {x5 : Int32} {x7 : Int32} {s0 : Int32} {r : xW × Int32} (E : xEnd Γ (some .int) r.1 (some (.int r.2))) (hK17 : ∀ (w : xW) (x1 : Int32) (x3 : Int32) (x4 : Int32) (x5 : Int32), K17 w x1 x3 x4 x5 = some r → xG Γ w 17 [(0, .ref (xad Γ 1)), (1, .int x1), (3, .int x3), (4, .int x4), (5, .int x5)] []) (h : fX1_firstBerth_118 N K17 w x1 x3 x4 x5 x7 s0 = some r) : xG Γ w 118 [(0, .ref (xad Γ 1)), (1, .int x1), (3, .int x3), (4, .int x4), (5, .int x5), (7, .int x7)] [.int s0] := by
  unfold fX1_firstBerth_118 at h
  refine xr_istore C 118 dX1_firstBerth_118 (xnb hL rfl) ?_
  refine xr_iload C 120 rfl dX1_firstBerth_120 ?_
  refine xr_if_eq C 122 146 dX1_firstBerth_122 rfl (fun q => ?_) (fun q => ?_)
  · have h := g_it h q
    exact xG.sub (bX1_firstBerth_146 C hL E hK17 h) ⟨rfl, rfl, rfl, rfl, rfl, trivial⟩
  · have h := g_if h q
    refine xr_iload C 125 rfl dX1_firstBerth_125 ?_
    refine xr_iload C 127 rfl dX1_firstBerth_127 ?_
    refine xr_isub C 129 dX1_firstBerth_129 ?_
    refine xr_aload_n C 130 rfl dX1_firstBerth_130 ?_
    refine xr_getR C 131 dX1_firstBerth_131 fl_X1_44 rfl rfl ?_
    refine xr_iload_n C 134 rfl dX1_firstBerth_134 ?_
    obtain ⟨q11, h⟩ := g_ib h
    refine xr_iald C 135 x1.toNatClampNeg rfl dX1_firstBerth_135 rfl (ibd_in q11) ?_
    refine xr_icmp_lt C 136 146 dX1_firstBerth_136 rfl (fun q => ?_) (fun q => ?_)
    · have h := g_it h q
      exact xG.sub (bX1_firstBerth_146 C hL E hK17 h) ⟨rfl, rfl, rfl, rfl, rfl, trivial⟩
    · have h := g_if h q
      refine xr_iload C 139 rfl dX1_firstBerth_139 ?_
      refine xr_iload_n C 141 rfl dX1_firstBerth_141 ?_
      refine xr_mmin C 142 dX1_firstBerth_142 mm_X1_97 (Nat.le_of_ble_eq_true rfl) (Nat.le_of_ble_eq_true rfl) ?_
      cases h
      exact xr_iret C 145 E dX1_firstBerth_145
set_option maxRecDepth 100000 in
set_option maxHeartbeats 4000000 in
theorem bX1_firstBerth_68 {Γ : xΓ} (C : xOK Γ cX1_firstBerth RX1 3) (hL : xn Γ = 9) {N : Nat} {K17 : xW → Int32 → Int32 → Int32 → Int32 → Option (xW × Int32)} {w : xW} {x1 : Int32} {x3 : Int32} {x4 : Int32} {x5 : Int32} {r : xW × Int32} (E : xEnd Γ (some .int) r.1 (some (.int r.2))) (hK17 : ∀ (w : xW) (x1 : Int32) (x3 : Int32) (x4 : Int32) (x5 : Int32), K17 w x1 x3 x4 x5 = some r → xG Γ w 17 [(0, .ref (xad Γ 1)), (1, .int x1), (3, .int x3), (4, .int x4), (5, .int x5)] []) (h : fX1_firstBerth_68 N K17 w x1 x3 x4 x5 = some r) : xG Γ w 68 [(0, .ref (xad Γ 1)), (1, .int x1), (3, .int x3), (4, .int x4), (5, .int x5)] [] := by
  unfold fX1_firstBerth_68 at h
  refine xr_aload_n C 68 rfl dX1_firstBerth_68 ?_
  refine xr_getR C 69 dX1_firstBerth_69 fl_X1_12 rfl rfl ?_
  refine xr_aload_n C 72 rfl dX1_firstBerth_72 ?_
  refine xr_getR C 73 dX1_firstBerth_73 fl_X1_38 rfl rfl ?_
  refine xr_iload_n C 76 rfl dX1_firstBerth_76 ?_
  obtain ⟨q8, h⟩ := g_ib h
  refine xr_iald C 77 x1.toNatClampNeg rfl dX1_firstBerth_77 rfl (ibd_in q8) ?_
  refine xr_callV C 78 (mX6_frontTo rfl) v_X6_frontTo ml_X1_83 (Nat.le_of_ble_eq_true rfl) (Nat.le_of_ble_eq_true rfl) (xrecv C rfl rfl) rfl rfl (Nat.le_of_ble_eq_true rfl) rfl dX1_firstBerth_78 ?_
  refine xr_istore C 81 dX1_firstBerth_81 (xnb hL rfl) ?_
  refine xr_aload_n C 83 rfl dX1_firstBerth_83 ?_
  refine xr_getR C 84 dX1_firstBerth_84 fl_X1_12 rfl rfl ?_
  obtain ⟨z9, q10, h⟩ := g_bind h
  refine xr_callV C 87 (mX6_calmTill q10) v_X6_calmTill ml_X1_94 (Nat.le_of_ble_eq_true rfl) (Nat.le_of_ble_eq_true rfl) (xrecv C rfl rfl) rfl rfl (Nat.le_of_ble_eq_true rfl) rfl dX1_firstBerth_87 ?_
  refine xr_istore C 90 dX1_firstBerth_90 (xnb hL rfl) ?_
  refine xr_aload_n C 92 rfl dX1_firstBerth_92 ?_
  refine xr_getR C 93 dX1_firstBerth_93 fl_X1_47 rfl rfl ?_
  refine xr_iload_n C 96 rfl dX1_firstBerth_96 ?_
  refine xr_iald C 97 x1.toNatClampNeg rfl dX1_firstBerth_97 rfl (ibd_in q8) ?_
  refine xr_iconst C 98 (-1) (by decide +kernel) dX1_firstBerth_98 ?_
  refine xr_icmp_eq C 99 113 dX1_firstBerth_99 rfl (fun q => ?_) (fun q => ?_)
  · have h := g_it h q
    refine xr_iconst C 113 1 (by decide +kernel) dX1_firstBerth_113 ?_
    refine xr_goto C 114 118 dX1_firstBerth_114 rfl ?_
    exact xG.sub (bX1_firstBerth_118 C hL E hK17 h) ⟨rfl, rfl, rfl, rfl, rfl, rfl, trivial⟩
  · have h := g_if h q
    refine xr_aload_n C 102 rfl dX1_firstBerth_102 ?_
    refine xr_getR C 103 dX1_firstBerth_103 fl_X1_47 rfl rfl ?_
    refine xr_iload_n C 106 rfl dX1_firstBerth_106 ?_
    refine xr_iald C 107 x1.toNatClampNeg rfl dX1_firstBerth_107 rfl (ibd_in q8) ?_
    refine xr_iload C 108 rfl dX1_firstBerth_108 ?_
    refine xr_icmp_ne C 110 117 dX1_firstBerth_110 rfl (fun q => ?_) (fun q => ?_)
    · have h := g_if h q
      refine xr_iconst C 117 0 (by decide +kernel) dX1_firstBerth_117 ?_
      exact xG.sub (bX1_firstBerth_118 C hL E hK17 h) ⟨rfl, rfl, rfl, rfl, rfl, rfl, trivial⟩
    · have h := g_it h q
      refine xr_iconst C 113 1 (by decide +kernel) dX1_firstBerth_113 ?_
      refine xr_goto C 114 118 dX1_firstBerth_114 rfl ?_
      exact xG.sub (bX1_firstBerth_118 C hL E hK17 h) ⟨rfl, rfl, rfl, rfl, rfl, rfl, trivial⟩
set_option maxRecDepth 100000 in
set_option maxHeartbeats 4000000 in
theorem bX1_firstBerth_17b {Γ : xΓ} (C : xOK Γ cX1_firstBerth RX1 3) (hL : xn Γ = 9) {N : Nat} {K17 : xW → Int32 → Int32 → Int32 → Int32 → Option (xW × Int32)} {w : xW} {x1 : Int32} {x3 : Int32} {x4 : Int32} {x5 : Int32} {r : xW × Int32} (E : xEnd Γ (some .int) r.1 (some (.int r.2))) (hK17 : ∀ (w : xW) (x1 : Int32) (x3 : Int32) (x4 : Int32) (x5 : Int32), K17 w x1 x3 x4 x5 = some r → xG Γ w 17 [(0, .ref (xad Γ 1)), (1, .int x1), (3, .int x3), (4, .int x4), (5, .int x5)] []) (h : fX1_firstBerth_17b N K17 w x1 x3 x4 x5 = some r) : xG Γ w 17 [(0, .ref (xad Γ 1)), (1, .int x1), (3, .int x3), (4, .int x4), (5, .int x5)] [] := by
  unfold fX1_firstBerth_17b at h
  refine xr_iload C 17 rfl dX1_firstBerth_17 ?_
  refine xr_sipush C 19 960 (by decide +kernel) dX1_firstBerth_19 ?_
  refine xr_icmp_ge C 22 156 dX1_firstBerth_22 rfl (fun q => ?_) (fun q => ?_)
  · have h := g_it h q
    refine xr_iload_n C 156 rfl dX1_firstBerth_156 ?_
    cases h
    exact xr_iret C 157 E dX1_firstBerth_157
  · have h := g_if h q
    refine xr_iload C 25 rfl dX1_firstBerth_25 ?_
    refine xr_iload_n C 27 rfl dX1_firstBerth_27 ?_
    refine xr_icmp_ge C 28 156 dX1_firstBerth_28 rfl (fun q => ?_) (fun q => ?_)
    · have h := g_it h q
      refine xr_iload_n C 156 rfl dX1_firstBerth_156 ?_
      cases h
      exact xr_iret C 157 E dX1_firstBerth_157
    · have h := g_if h q
      refine xr_aload_n C 31 rfl dX1_firstBerth_31 ?_
      refine xr_getR C 32 dX1_firstBerth_32 fl_X1_12 rfl rfl ?_
      refine xr_iload C 35 rfl dX1_firstBerth_35 ?_
      obtain ⟨z2, q3, h⟩ := g_bind h
      refine xr_callV C 37 (mX6_at q3) v_X6_at ml_X1_79 (Nat.le_of_ble_eq_true rfl) (Nat.le_of_ble_eq_true rfl) (xrecv C rfl rfl) rfl rfl (Nat.le_of_ble_eq_true rfl) rfl dX1_firstBerth_37 ?_
      refine xr_aload_n C 40 rfl dX1_firstBerth_40 ?_
      refine xr_getR C 41 dX1_firstBerth_41 fl_X1_12 rfl rfl ?_
      refine xr_getI C 44 dX1_firstBerth_44 fl_X1_86 rfl rfl ?_
      refine xr_if_eq C 47 68 dX1_firstBerth_47 rfl (fun q => ?_) (fun q => ?_)
      · have h := g_it h q
        exact xG.sub (bX1_firstBerth_68 C hL E hK17 h) ⟨rfl, rfl, rfl, rfl, rfl, trivial⟩
      · have h := g_if h q
        refine xr_aload_n C 50 rfl dX1_firstBerth_50 ?_
        refine xr_getR C 51 dX1_firstBerth_51 fl_X1_12 rfl rfl ?_
        obtain ⟨z4, q5, h⟩ := g_bind h
        refine xr_callV C 54 (mX6_rightAt q5) v_X6_rightAt ml_X1_90 (Nat.le_of_ble_eq_true rfl) (Nat.le_of_ble_eq_true rfl) (xrecv C rfl rfl) rfl rfl (Nat.le_of_ble_eq_true rfl) rfl dX1_firstBerth_54 ?_
        refine xr_istore C 57 dX1_firstBerth_57 (xnb hL rfl) ?_
        refine xr_aload_n C 59 rfl dX1_firstBerth_59 ?_
        refine xr_getR C 60 dX1_firstBerth_60 fl_X1_12 rfl rfl ?_
        refine xr_iload C 63 rfl dX1_firstBerth_63 ?_
        obtain ⟨z6, q7, h⟩ := g_bind h
        refine xr_callV C 65 (mX6_at q7) v_X6_at ml_X1_79 (Nat.le_of_ble_eq_true rfl) (Nat.le_of_ble_eq_true rfl) (xrecv C rfl rfl) rfl rfl (Nat.le_of_ble_eq_true rfl) rfl dX1_firstBerth_65 ?_
        exact xG.sub (bX1_firstBerth_68 C hL E hK17 h) ⟨rfl, rfl, rfl, rfl, rfl, trivial⟩
set_option maxRecDepth 100000 in
set_option maxHeartbeats 4000000 in
theorem bX1_firstBerth_17 {Γ : xΓ} (C : xOK Γ cX1_firstBerth RX1 3) (hL : xn Γ = 9) {N : Nat} {r : xW × Int32} (E : xEnd Γ (some .int) r.1 (some (.int r.2))) : ∀ (n : Nat) (w : xW) (x1 : Int32) (x3 : Int32) (x4 : Int32) (x5 : Int32), fX1_firstBerth_17 N n w x1 x3 x4 x5 = some r → xG Γ w 17 [(0, .ref (xad Γ 1)), (1, .int x1), (3, .int x3), (4, .int x4), (5, .int x5)] []
  | 0, _, _, _, _, _, h => by cases h
  | n + 1, w, x1, x3, x4, x5, h => bX1_firstBerth_17b C hL E (bX1_firstBerth_17 C hL E n) h
set_option maxRecDepth 100000 in
set_option maxHeartbeats 4000000 in
theorem bX1_firstBerth_0 {Γ : xΓ} (C : xOK Γ cX1_firstBerth RX1 3) (hL : xn Γ = 9) {N : Nat} {w : xW} {x1 : Int32} {x2 : Int32} {r : xW × Int32} (E : xEnd Γ (some .int) r.1 (some (.int r.2))) (h : fX1_firstBerth_0 N w x1 x2 = some r) : xG Γ w 0 [(0, .ref (xad Γ 1)), (1, .int x1), (2, .int x2)] [] := by
  unfold fX1_firstBerth_0 at h
  refine xr_aload_n C 0 rfl dX1_firstBerth_0 ?_
  refine xr_getR C 1 dX1_firstBerth_1 fl_X1_41 rfl rfl ?_
  refine xr_iload_n C 4 rfl dX1_firstBerth_4 ?_
  obtain ⟨q1, h⟩ := g_ib h
  refine xr_iald C 5 x1.toNatClampNeg rfl dX1_firstBerth_5 rfl (ibd_in q1) ?_
  refine xr_sipush C 6 960 (by decide +kernel) dX1_firstBerth_6 ?_
  refine xr_iadd C 9 dX1_firstBerth_9 ?_
  refine xr_istore_n C 10 dX1_firstBerth_10 (xnb hL rfl) ?_
  refine xr_iload_n C 11 rfl dX1_firstBerth_11 ?_
  refine xr_istore C 12 dX1_firstBerth_12 (xnb hL rfl) ?_
  refine xr_iconst C 14 0 (by decide +kernel) dX1_firstBerth_14 ?_
  refine xr_istore C 15 dX1_firstBerth_15 (xnb hL rfl) ?_
  exact xG.sub (bX1_firstBerth_17 C hL E N _ _ _ _ _ h) ⟨rfl, rfl, rfl, rfl, rfl, trivial⟩
set_option maxRecDepth 100000 in
set_option maxHeartbeats 4000000 in
theorem mX1_firstBerth {l : Launch} {ad : Nat → Nat} {G : gEnv} {N : Nat} {w : xW} {x1 : Int32} {x2 : Int32} {r : xW × Int32} (h : fX1_firstBerth N w x1 x2 = some r) : xCt l ad G 3 yX1_firstBerth cX1_firstBerth 9 (some .int) [.ref (ad 1), .int x1, .int x2] w r.1 (some (.int r.2)) := xCt.of RX1 rfl (by decide +kernel) (Nat.le_of_ble_eq_true rfl) (fun Γ el ea eG eL C E => by
    subst el
    subst ea
    subst eG
    unfold fX1_firstBerth at h
    exact xG.sub (bX1_firstBerth_0 C eL  E h) ⟨rfl, rfl, rfl, trivial⟩)
