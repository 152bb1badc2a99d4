def fX1_addHouse_i1_0 (w : xW) (x1 : Int32) (x2 : Int32) : Option (xW × Int32) :=
  if (w.1 11 3) < 8 then
    if ibd (w.1 11 3) 8 = true then
    if ibd ((sI w 15 ((w.1 11 3).toNatClampNeg) x1).1 11 3) 8 = true then
    some (sI (sI (sI w 15 ((w.1 11 3).toNatClampNeg) x1) 16 (((sI w 15 ((w.1 11 3).toNatClampNeg) x1).1 11 3).toNatClampNeg) x2) 11 3 (((sI (sI w 15 ((w.1 11 3).toNatClampNeg) x1) 16 (((sI w 15 ((w.1 11 3).toNatClampNeg) x1).1 11 3).toNatClampNeg) x2).1 11 3) + 1), (sI (sI w 15 ((w.1 11 3).toNatClampNeg) x1) 16 (((sI w 15 ((w.1 11 3).toNatClampNeg) x1).1 11 3).toNatClampNeg) x2).1 11 3)
    else none
    else none
  else
  some (w, (-1000000002))
def fX1_addHouse_i1 (w : xW) (x1 : Int32) (x2 : Int32) : Option (xW × Int32) := fX1_addHouse_i1_0 w x1 x2
set_option maxRecDepth 100000 in
set_option maxHeartbeats 4000000 in
theorem bX1_addHouse_i1_0 {Γ : xΓ} (C : xOK Γ cX1_addHouse RX1 1) (hL : xn Γ = 3) {w : xW} {x1 : Int32} {x2 : Int32} {r : xW × Int32} (E : xEnd Γ (some .int) r.1 (some (.int r.2))) (h : fX1_addHouse_i1_0  w x1 x2 = some r) : xG Γ w 0 [(0, .ref (xad Γ 11)), (1, .int x1), (2, .int x2)] [] := by
  unfold fX1_addHouse_i1_0 at h
  refine xr_aload_n C 0 rfl dX1_addHouse_0 ?_
  refine xr_getI C 1 dX1_addHouse_1 fl_X1_25 rfl rfl ?_
  refine xr_bipush C 4 8 (by decide +kernel) dX1_addHouse_4 ?_
  refine xr_icmp_lt C 6 12 dX1_addHouse_6 rfl (fun q => ?_) (fun q => ?_)
  · have h := g_it h q
    refine xr_aload_n C 12 rfl dX1_addHouse_12 ?_
    refine xr_getR C 13 dX1_addHouse_13 fl_X1_28 rfl rfl ?_
    refine xr_aload_n C 16 rfl dX1_addHouse_16 ?_
    refine xr_getI C 17 dX1_addHouse_17 fl_X1_25 rfl rfl ?_
    refine xr_iload_n C 20 rfl dX1_addHouse_20 ?_
    obtain ⟨q1, h⟩ := g_ib h
    refine xr_iast C 21 ((w.1 11 3).toNatClampNeg) rfl dX1_addHouse_21 rfl (ibd_in q1) ?_
    refine xr_aload_n C 22 rfl dX1_addHouse_22 ?_
    refine xr_getR C 23 dX1_addHouse_23 fl_X1_32 rfl rfl ?_
    refine xr_aload_n C 26 rfl dX1_addHouse_26 ?_
    refine xr_getI C 27 dX1_addHouse_27 fl_X1_25 rfl rfl ?_
    refine xr_iload_n C 30 rfl dX1_addHouse_30 ?_
    obtain ⟨q2, h⟩ := g_ib h
    refine xr_iast C 31 (((sI w 15 ((w.1 11 3).toNatClampNeg) x1).1 11 3).toNatClampNeg) rfl dX1_addHouse_31 rfl (ibd_in q2) ?_
    refine xr_aload_n C 32 rfl dX1_addHouse_32 ?_
    refine xr_dup C 33 rfl dX1_addHouse_33 ?_
    refine xr_getI C 34 dX1_addHouse_34 fl_X1_25 rfl rfl ?_
    refine xr_dup_x1 C 37 rfl rfl dX1_addHouse_37 ?_
    refine xr_iconst C 38 1 (by decide +kernel) dX1_addHouse_38 ?_
    refine xr_iadd C 39 dX1_addHouse_39 ?_
    refine xr_putI C 40 dX1_addHouse_40 fp_X1_25 rfl rfl ?_
    cases h
    exact xr_iret C 43 E dX1_addHouse_43
  · have h := g_if h q
    refine xr_ldc C 9 k_X1_67 dX1_addHouse_9 ?_
    cases h
    exact xr_iret C 11 E dX1_addHouse_11
set_option maxRecDepth 100000 in
set_option maxHeartbeats 4000000 in
theorem mX1_addHouse_i1 {l : Launch} {ad : Nat → Nat} {G : gEnv} {w : xW} {x1 : Int32} {x2 : Int32} {r : xW × Int32} (h : fX1_addHouse_i1 w x1 x2 = some r) : xCt l ad G 1 yX1_addHouse cX1_addHouse 3 (some .int) [.ref (ad 11), .int x1, .int x2] w r.1 (some (.int r.2)) := xCt.of RX1 rfl (by decide +kernel) (Nat.le_of_ble_eq_true rfl) (fun Γ el ea eG eL C E => by
    subst el
    subst ea
    subst eG
    unfold fX1_addHouse_i1 at h
    exact xG.sub (bX1_addHouse_i1_0 C eL  E h) ⟨rfl, rfl, rfl, trivial⟩)
def fX5_houseItem_0 (N : Nat) (w : xW) (x2 : Int32) : Option (xW × Int32) :=
  if (w.1 11 3) < 8 then
    (fX4_step N w).bind fun z1 =>
    (fX5_number N z1 0 3).bind fun z3 =>
    if z3.2 = 0 then
      some (z3.1, 0)
    else
    (fX1_addHouse_i1 z3.1 x2 (z3.1.1 44 1)).bind fun z5 =>
    some (z5.1, 1)
  else
  some (w, 0)
def fX5_houseItem (N : Nat) (w : xW) (x2 : Int32) : Option (xW × Int32) := fX5_houseItem_0 N w x2
set_option maxRecDepth 100000 in
set_option maxHeartbeats 4000000 in
theorem bX5_houseItem_0 {Γ : xΓ} (C : xOK Γ cX5_houseItem RX5 4) (hL : xn Γ = 3) {N : Nat} {w : xW} {x2 : Int32} {r : xW × Int32} (E : xEnd Γ (some .boolean) r.1 (some (.int r.2))) (h : fX5_houseItem_0 N w x2 = some r) : xG Γ w 0 [(0, .ref (xad Γ 44)), (1, .ref (xad Γ 11)), (2, .int x2)] [] := by
  unfold fX5_houseItem_0 at h
  refine xr_aload_n C 0 rfl dX5_houseItem_0 ?_
  refine xr_getI C 1 dX5_houseItem_1 fl_X5_127 rfl rfl ?_
  refine xr_bipush C 4 8 (by decide +kernel) dX5_houseItem_4 ?_
  refine xr_icmp_lt C 6 11 dX5_houseItem_6 rfl (fun q => ?_) (fun q => ?_)
  · have h := g_it h q
    refine xr_aload_n C 11 rfl dX5_houseItem_11 ?_
    refine xr_getR C 12 dX5_houseItem_12 fl_X5_12 rfl rfl ?_
    obtain ⟨z1, q2, h⟩ := g_bind h
    refine xr_callV C 15 (mX4_step q2) v_X4_step ml_X5_32 (Nat.le_of_ble_eq_true rfl) (Nat.le_of_ble_eq_true rfl) (xrecv C rfl rfl) rfl rfl (Nat.le_of_ble_eq_true rfl) rfl dX5_houseItem_15 ?_
    refine xr_aload_n C 18 rfl dX5_houseItem_18 ?_
    refine xr_iconst C 19 0 (by decide +kernel) dX5_houseItem_19 ?_
    refine xr_iconst C 20 3 (by decide +kernel) dX5_houseItem_20 ?_
    obtain ⟨z3, q4, h⟩ := g_bind h
    refine xr_callV C 21 (mX5_number q4) v_X5_number ml_X5_113 (Nat.le_of_ble_eq_true rfl) (Nat.le_of_ble_eq_true rfl) (xrecv C rfl rfl) rfl rfl (Nat.le_of_ble_eq_true rfl) rfl dX5_houseItem_21 ?_
    refine xr_if_ne C 24 29 dX5_houseItem_24 rfl (fun q => ?_) (fun q => ?_)
    · have h := g_if h q
      refine xr_aload_n C 29 rfl dX5_houseItem_29 ?_
      refine xr_iload_n C 30 rfl dX5_houseItem_30 ?_
      refine xr_aload_n C 31 rfl dX5_houseItem_31 ?_
      refine xr_getI C 32 dX5_houseItem_32 fl_X5_18 rfl rfl ?_
      obtain ⟨z5, q6, h⟩ := g_bind h
      refine xr_callV C 35 (mX1_addHouse_i1 q6) v_X1_addHouse ml_X5_130 (Nat.le_of_ble_eq_true rfl) (Nat.le_of_ble_eq_true rfl) (xrecv C rfl rfl) rfl rfl (Nat.le_of_ble_eq_true rfl) rfl dX5_houseItem_35 ?_
      refine xr_pop C 38 rfl dX5_houseItem_38 ?_
      refine xr_iconst C 39 1 (by decide +kernel) dX5_houseItem_39 ?_
      cases h
      exact xr_zret C 40 E dX5_houseItem_40 (by decide +kernel)
    · have h := g_it h q
      refine xr_iconst C 27 0 (by decide +kernel) dX5_houseItem_27 ?_
      cases h
      exact xr_zret C 28 E dX5_houseItem_28 (by decide +kernel)
  · have h := g_if h q
    refine xr_iconst C 9 0 (by decide +kernel) dX5_houseItem_9 ?_
    cases h
    exact xr_zret C 10 E dX5_houseItem_10 (by decide +kernel)
set_option maxRecDepth 100000 in
set_option maxHeartbeats 4000000 in
theorem mX5_houseItem {l : Launch} {ad : Nat → Nat} {G : gEnv} {N : Nat} {w : xW} {x2 : Int32} {r : xW × Int32} (h : fX5_houseItem N w x2 = some r) : xCt l ad G 4 yX5_houseItem cX5_houseItem 3 (some .boolean) [.ref (ad 44), .ref (ad 11), .int x2] w r.1 (some (.int r.2)) := xCt.of RX5 rfl (by decide +kernel) (Nat.le_of_ble_eq_true rfl) (fun Γ el ea eG eL C E => by
    subst el
    subst ea
    subst eG
    unfold fX5_houseItem at h
    exact xG.sub (bX5_houseItem_0 C eL  E h) ⟨rfl, rfl, rfl, trivial⟩)
def fX5_item_0 (N : Nat) (w : xW) : Option (xW × Int32) :=
  (fX5_namedKind N w).bind fun z1 =>
  if z1 < 0 then
    (fX4_isWord N w 9).bind fun z3 =>
    if z3 = 0 then
      (fX5_word N w 13).bind fun z5 =>
      if z5.2 = 0 then
        (fX5_word N z5.1 6).bind fun z7 =>
        if z7.2 = 0 then
          (fX5_word N z7.1 7).bind fun z9 =>
          if z9.2 = 0 then
            (fX5_word N z9.1 8).bind fun z11 =>
            if z11.2 = 0 then
              (fX5_word N z11.1 16).bind fun z13 =>
              if z13.2 = 0 then
                some (z13.1, 0)
              else
              (fX5_windItem N z13.1).bind fun z15 =>
              if z15.2 = 0 then
                some (z15.1, 0)
              else
              some (z15.1, 1)
            else
            (fX5_setItem N z11.1 2).bind fun z17 =>
            if xB z17.2 = true then
            some (z17.1, z17.2)
            else none
          else
          (fX5_setItem N z9.1 1).bind fun z20 =>
          if xB z20.2 = true then
          some (z20.1, z20.2)
          else none
        else
        (fX5_setItem N z7.1 0).bind fun z23 =>
        if xB z23.2 = true then
        some (z23.1, z23.2)
        else none
      else
      (fX5_floodItem N z5.1).bind fun z26 =>
      if xB z26.2 = true then
      some (z26.1, z26.2)
      else none
    else
    (fX5_shipItem N w).bind fun z29 =>
    if xB z29.2 = true then
    some (z29.1, z29.2)
    else none
  else
  (fX5_houseItem N w z1).bind fun z32 =>
  if xB z32.2 = true then
  some (z32.1, z32.2)
  else none
def fX5_item (N : Nat) (w : xW) : Option (xW × Int32) := fX5_item_0 N w
set_option maxRecDepth 100000 in
set_option maxHeartbeats 4000000 in
theorem bX5_item_0 {Γ : xΓ} (C : xOK Γ cX5_item RX5 10) (hL : xn Γ = 3) {N : Nat} {w : xW} {r : xW × Int32} (E : xEnd Γ (some .boolean) r.1 (some (.int r.2))) (h : fX5_item_0 N w = some r) : xG Γ w 0 [(0, .ref (xad Γ 44)), (1, .ref (xad Γ 11))] [] := by
  unfold fX5_item_0 at h
  refine xr_aload_n C 0 rfl dX5_item_0 ?_
  obtain ⟨z1, q2, h⟩ := g_bind h
  refine xr_callV C 1 (mX5_namedKind q2) v_X5_namedKind ml_X5_38 (Nat.le_of_ble_eq_true rfl) (Nat.le_of_ble_eq_true rfl) (xrecv C rfl rfl) rfl rfl (Nat.le_of_ble_eq_true rfl) rfl dX5_item_1 ?_
  refine xr_istore_n C 4 dX5_item_4 (xnb hL rfl) ?_
  refine xr_iload_n C 5 rfl dX5_item_5 ?_
  refine xr_if_lt C 6 16 dX5_item_6 rfl (fun q => ?_) (fun q => ?_)
  · have h := g_it h q
    refine xr_aload_n C 16 rfl dX5_item_16 ?_
    refine xr_getR C 17 dX5_item_17 fl_X5_12 rfl rfl ?_
    refine xr_ldcS C 20 dX5_item_20 s_X5_46 ?_
    obtain ⟨z3, q4, h⟩ := g_bind h
    refine xr_callV C 22 (mX4_isWord q4) v_X4_isWord ml_X5_48 (Nat.le_of_ble_eq_true rfl) (Nat.le_of_ble_eq_true rfl) (xrecv C rfl rfl) rfl rfl (Nat.le_of_ble_eq_true rfl) rfl dX5_item_22 ?_
    refine xr_if_eq C 25 34 dX5_item_25 rfl (fun q => ?_) (fun q => ?_)
    · have h := g_it h q
      refine xr_aload_n C 34 rfl dX5_item_34 ?_
      refine xr_ldcS C 35 dX5_item_35 s_X5_55 ?_
      obtain ⟨z5, q6, h⟩ := g_bind h
      refine xr_callV C 37 (mX5_word q6) v_X5_word ml_X5_57 (Nat.le_of_ble_eq_true rfl) (Nat.le_of_ble_eq_true rfl) (xrecv C rfl rfl) rfl rfl (Nat.le_of_ble_eq_true rfl) rfl dX5_item_37 ?_
      refine xr_if_eq C 40 52 dX5_item_40 rfl (fun q => ?_) (fun q => ?_)
      · have h := g_it h q
        refine xr_aload_n C 52 rfl dX5_item_52 ?_
        refine xr_ldcS C 53 dX5_item_53 s_X5_70 ?_
        obtain ⟨z7, q8, h⟩ := g_bind h
        refine xr_callV C 55 (mX5_word q8) v_X5_word ml_X5_57 (Nat.le_of_ble_eq_true rfl) (Nat.le_of_ble_eq_true rfl) (xrecv C rfl rfl) rfl rfl (Nat.le_of_ble_eq_true rfl) rfl dX5_item_55 ?_
        refine xr_if_eq C 58 71 dX5_item_58 rfl (fun q => ?_) (fun q => ?_)
        · have h := g_it h q
          refine xr_aload_n C 71 rfl dX5_item_71 ?_
          refine xr_ldcS C 72 dX5_item_72 s_X5_78 ?_
          obtain ⟨z9, q10, h⟩ := g_bind h
          refine xr_callV C 74 (mX5_word q10) v_X5_word ml_X5_57 (Nat.le_of_ble_eq_true rfl) (Nat.le_of_ble_eq_true rfl) (xrecv C rfl rfl) rfl rfl (Nat.le_of_ble_eq_true rfl) rfl dX5_item_74 ?_
          refine xr_if_eq C 77 90 dX5_item_77 rfl (fun q => ?_) (fun q => ?_)
          · have h := g_it h q
            refine xr_aload_n C 90 rfl dX5_item_90 ?_
            refine xr_ldcS C 91 dX5_item_91 s_X5_80 ?_
            obtain ⟨z11, q12, h⟩ := g_bind h
            refine xr_callV C 93 (mX5_word q12) v_X5_word ml_X5_57 (Nat.le_of_ble_eq_true rfl) (Nat.le_of_ble_eq_true rfl) (xrecv C rfl rfl) rfl rfl (Nat.le_of_ble_eq_true rfl) rfl dX5_item_93 ?_
            refine xr_if_eq C 96 109 dX5_item_96 rfl (fun q => ?_) (fun q => ?_)
            · have h := g_it h q
              refine xr_aload_n C 109 rfl dX5_item_109 ?_
              refine xr_ldcS C 110 dX5_item_110 s_X5_82 ?_
              obtain ⟨z13, q14, h⟩ := g_bind h
              refine xr_callV C 112 (mX5_word q14) v_X5_word ml_X5_57 (Nat.le_of_ble_eq_true rfl) (Nat.le_of_ble_eq_true rfl) (xrecv C rfl rfl) rfl rfl (Nat.le_of_ble_eq_true rfl) rfl dX5_item_112 ?_
              refine xr_if_eq C 115 130 dX5_item_115 rfl (fun q => ?_) (fun q => ?_)
              · have h := g_it h q
                refine xr_iconst C 130 0 (by decide +kernel) dX5_item_130 ?_
                cases h
                exact xr_zret C 131 E dX5_item_131 (by decide +kernel)
              · have h := g_if h q
                refine xr_aload_n C 118 rfl dX5_item_118 ?_
                refine xr_aload_n C 119 rfl dX5_item_119 ?_
                obtain ⟨z15, q16, h⟩ := g_bind h
                refine xr_callV C 120 (mX5_windItem q16) v_X5_windItem ml_X5_84 (Nat.le_of_ble_eq_true rfl) (Nat.le_of_ble_eq_true rfl) (xrecv C rfl rfl) rfl rfl (Nat.le_of_ble_eq_true rfl) rfl dX5_item_120 ?_
                refine xr_if_eq C 123 130 dX5_item_123 rfl (fun q => ?_) (fun q => ?_)
                · have h := g_it h q
                  refine xr_iconst C 130 0 (by decide +kernel) dX5_item_130 ?_
                  cases h
                  exact xr_zret C 131 E dX5_item_131 (by decide +kernel)
                · have h := g_if h q
                  refine xr_iconst C 126 1 (by decide +kernel) dX5_item_126 ?_
                  refine xr_goto C 127 131 dX5_item_127 rfl ?_
                  cases h
                  exact xr_zret C 131 E dX5_item_131 (by decide +kernel)
            · have h := g_if h q
              refine xr_aload_n C 99 rfl dX5_item_99 ?_
              refine xr_aload_n C 100 rfl dX5_item_100 ?_
              refine xr_getR C 101 dX5_item_101 fl_X5_60 rfl rfl ?_
              refine xr_iconst C 104 2 (by decide +kernel) dX5_item_104 ?_
              obtain ⟨z17, q18, h⟩ := g_bind h
              refine xr_callV C 105 (mX5_setItem q18) v_X5_setItem ml_X5_74 (Nat.le_of_ble_eq_true rfl) (Nat.le_of_ble_eq_true rfl) (xrecv C rfl rfl) rfl rfl (Nat.le_of_ble_eq_true rfl) rfl dX5_item_105 ?_
              obtain ⟨q19, h⟩ := g_bchk h
              cases h
              exact xr_zret C 108 E dX5_item_108 q19
          · have h := g_if h q
            refine xr_aload_n C 80 rfl dX5_item_80 ?_
            refine xr_aload_n C 81 rfl dX5_item_81 ?_
            refine xr_getR C 82 dX5_item_82 fl_X5_60 rfl rfl ?_
            refine xr_iconst C 85 1 (by decide +kernel) dX5_item_85 ?_
            obtain ⟨z20, q21, h⟩ := g_bind h
            refine xr_callV C 86 (mX5_setItem q21) v_X5_setItem ml_X5_74 (Nat.le_of_ble_eq_true rfl) (Nat.le_of_ble_eq_true rfl) (xrecv C rfl rfl) rfl rfl (Nat.le_of_ble_eq_true rfl) rfl dX5_item_86 ?_
            obtain ⟨q22, h⟩ := g_bchk h
            cases h
            exact xr_zret C 89 E dX5_item_89 q22
        · have h := g_if h q
          refine xr_aload_n C 61 rfl dX5_item_61 ?_
          refine xr_aload_n C 62 rfl dX5_item_62 ?_
          refine xr_getR C 63 dX5_item_63 fl_X5_60 rfl rfl ?_
          refine xr_iconst C 66 0 (by decide +kernel) dX5_item_66 ?_
          obtain ⟨z23, q24, h⟩ := g_bind h
          refine xr_callV C 67 (mX5_setItem q24) v_X5_setItem ml_X5_74 (Nat.le_of_ble_eq_true rfl) (Nat.le_of_ble_eq_true rfl) (xrecv C rfl rfl) rfl rfl (Nat.le_of_ble_eq_true rfl) rfl dX5_item_67 ?_
          obtain ⟨q25, h⟩ := g_bchk h
          cases h
          exact xr_zret C 70 E dX5_item_70 q25
      · have h := g_if h q
        refine xr_aload_n C 43 rfl dX5_item_43 ?_
        refine xr_aload_n C 44 rfl dX5_item_44 ?_
        refine xr_getR C 45 dX5_item_45 fl_X5_60 rfl rfl ?_
        obtain ⟨z26, q27, h⟩ := g_bind h
        refine xr_callV C 48 (mX5_floodItem q27) v_X5_floodItem ml_X5_66 (Nat.le_of_ble_eq_true rfl) (Nat.le_of_ble_eq_true rfl) (xrecv C rfl rfl) rfl rfl (Nat.le_of_ble_eq_true rfl) rfl dX5_item_48 ?_
        obtain ⟨q28, h⟩ := g_bchk h
        cases h
        exact xr_zret C 51 E dX5_item_51 q28
    · have h := g_if h q
      refine xr_aload_n C 28 rfl dX5_item_28 ?_
      refine xr_aload_n C 29 rfl dX5_item_29 ?_
      obtain ⟨z29, q30, h⟩ := g_bind h
      refine xr_callV C 30 (mX5_shipItem q30) v_X5_shipItem ml_X5_52 (Nat.le_of_ble_eq_true rfl) (Nat.le_of_ble_eq_true rfl) (xrecv C rfl rfl) rfl rfl (Nat.le_of_ble_eq_true rfl) rfl dX5_item_30 ?_
      obtain ⟨q31, h⟩ := g_bchk h
      cases h
      exact xr_zret C 33 E dX5_item_33 q31
  · have h := g_if h q
    refine xr_aload_n C 9 rfl dX5_item_9 ?_
    refine xr_aload_n C 10 rfl dX5_item_10 ?_
    refine xr_iload_n C 11 rfl dX5_item_11 ?_
    obtain ⟨z32, q33, h⟩ := g_bind h
    refine xr_callV C 12 (mX5_houseItem q33) v_X5_houseItem ml_X5_42 (Nat.le_of_ble_eq_true rfl) (Nat.le_of_ble_eq_true rfl) (xrecv C rfl rfl) rfl rfl (Nat.le_of_ble_eq_true rfl) rfl dX5_item_12 ?_
    obtain ⟨q34, h⟩ := g_bchk h
    cases h
    exact xr_zret C 15 E dX5_item_15 q34
set_option maxRecDepth 100000 in
set_option maxHeartbeats 4000000 in
theorem mX5_item {l : Launch} {ad : Nat → Nat} {G : gEnv} {N : Nat} {w : xW} {r : xW × Int32} (h : fX5_item N w = some r) : xCt l ad G 10 yX5_item cX5_item 3 (some .boolean) [.ref (ad 44), .ref (ad 11)] w r.1 (some (.int r.2)) := xCt.of RX5 rfl (by decide +kernel) (Nat.le_of_ble_eq_true rfl) (fun Γ el ea eG eL C E => by
    subst el
    subst ea
    subst eG
    unfold fX5_item at h
    exact xG.sub (bX5_item_0 C eL  E h) ⟨rfl, rfl, trivial⟩)
def fX5_tell_65 (N : Nat) (w : xW) : Option (xW × Int32) :=
  some (w, (-1) - (w.1 42 3))
def fX5_tell_9b (N : Nat) (K9 : xW → Int32 → Option (xW × Int32)) (w : xW) (x2 : Int32) : Option (xW × Int32) :=
  if 120 < x2 then
    fX5_tell_65 N w
  else
  (fX5_item N w).bind fun z3 =>
  if z3.2 = 0 then
    fX5_tell_65 N z3.1
  else
  if (z3.1.1 42 2) = 0 then
    some (z3.1, x2)
  else
  if (z3.1.1 42 2) = 3 then
    (fX4_step N z3.1).bind fun z5 =>
    K9 z5 (x2 + 1)
  else
  fX5_tell_65 N z3.1
def fX5_tell_9 (N : Nat) : Nat → xW → Int32 → Option (xW × Int32)
  | 0, _, _ => none
  | n + 1, w, x2 => fX5_tell_9b N (fX5_tell_9 N n) w x2
def fX5_tell_0 (N : Nat) (w : xW) : Option (xW × Int32) :=
  (fX4_rewind N w).bind fun z1 =>
  fX5_tell_9 N N z1 1
def fX5_tell (N : Nat) (w : xW) : Option (xW × Int32) := fX5_tell_0 N w
set_option maxRecDepth 100000 in
set_option maxHeartbeats 4000000 in
theorem bX5_tell_65 {Γ : xΓ} (C : xOK Γ cX5_tell RX5 11) (hL : xn Γ = 3) {N : Nat} {w : xW} {r : xW × Int32} (E : xEnd Γ (some .int) r.1 (some (.int r.2))) (h : fX5_tell_65 N w = some r) : xG Γ w 65 [(0, .ref (xad Γ 44))] [] := by
  unfold fX5_tell_65 at h
  refine xr_iconst C 65 (-1) (by decide +kernel) dX5_tell_65 ?_
  refine xr_aload_n C 66 rfl dX5_tell_66 ?_
  refine xr_getR C 67 dX5_tell_67 fl_X5_12 rfl rfl ?_
  refine xr_getI C 70 dX5_tell_70 fl_X5_35 rfl rfl ?_
  refine xr_isub C 73 dX5_tell_73 ?_
  cases h
  exact xr_iret C 74 E dX5_tell_74
set_option maxRecDepth 100000 in
set_option maxHeartbeats 4000000 in
theorem bX5_tell_9b {Γ : xΓ} (C : xOK Γ cX5_tell RX5 11) (hL : xn Γ = 3) {N : Nat} {K9 : xW → Int32 → Option (xW × Int32)} {w : xW} {x2 : Int32} {r : xW × Int32} (E : xEnd Γ (some .int) r.1 (some (.int r.2))) (hK9 : ∀ (w : xW) (x2 : Int32), K9 w x2 = some r → xG Γ w 9 [(0, .ref (xad Γ 44)), (1, .ref (xad Γ 11)), (2, .int x2)] []) (h : fX5_tell_9b N K9 w x2 = some r) : xG Γ w 9 [(0, .ref (xad Γ 44)), (1, .ref (xad Γ 11)), (2, .int x2)] [] := by
  unfold fX5_tell_9b at h
  refine xr_iload_n C 9 rfl dX5_tell_9 ?_
  refine xr_bipush C 10 120 (by decide +kernel) dX5_tell_10 ?_
  refine xr_icmp_gt C 12 65 dX5_tell_12 rfl (fun q => ?_) (fun q => ?_)
  · have h := g_it h q
    exact xG.sub (bX5_tell_65 C hL E h) ⟨rfl, trivial⟩
  · have h := g_if h q
    refine xr_aload_n C 15 rfl dX5_tell_15 ?_
    refine xr_aload_n C 16 rfl dX5_tell_16 ?_
    obtain ⟨z3, q4, h⟩ := g_bind h
    refine xr_callV C 17 (mX5_item q4) v_X5_item ml_X5_25 (Nat.le_of_ble_eq_true rfl) (Nat.le_of_ble_eq_true rfl) (xrecv C rfl rfl) rfl rfl (Nat.le_of_ble_eq_true rfl) rfl dX5_tell_17 ?_
    refine xr_if_ne C 20 26 dX5_tell_20 rfl (fun q => ?_) (fun q => ?_)
    · have h := g_if h q
      refine xr_aload_n C 26 rfl dX5_tell_26 ?_
      refine xr_getR C 27 dX5_tell_27 fl_X5_12 rfl rfl ?_
      refine xr_getI C 30 dX5_tell_30 fl_X5_29 rfl rfl ?_
      refine xr_if_ne C 33 38 dX5_tell_33 rfl (fun q => ?_) (fun q => ?_)
      · have h := g_if h q
        refine xr_aload_n C 38 rfl dX5_tell_38 ?_
        refine xr_getR C 39 dX5_tell_39 fl_X5_12 rfl rfl ?_
        refine xr_getI C 42 dX5_tell_42 fl_X5_29 rfl rfl ?_
        refine xr_iconst C 45 3 (by decide +kernel) dX5_tell_45 ?_
        refine xr_icmp_eq C 46 52 dX5_tell_46 rfl (fun q => ?_) (fun q => ?_)
        · have h := g_it h q
          refine xr_aload_n C 52 rfl dX5_tell_52 ?_
          refine xr_getR C 53 dX5_tell_53 fl_X5_12 rfl rfl ?_
          obtain ⟨z5, q6, h⟩ := g_bind h
          refine xr_callV C 56 (mX4_step q6) v_X4_step ml_X5_32 (Nat.le_of_ble_eq_true rfl) (Nat.le_of_ble_eq_true rfl) (xrecv C rfl rfl) rfl rfl (Nat.le_of_ble_eq_true rfl) rfl dX5_tell_56 ?_
          refine xr_iinc C 59 1 (by decide +kernel) rfl dX5_tell_59 (xnb hL rfl) ?_
          refine xr_goto C 62 9 dX5_tell_62 rfl ?_
          exact xG.sub (hK9 _ _ h) ⟨rfl, rfl, rfl, trivial⟩
        · have h := g_if h q
          refine xr_goto C 49 65 dX5_tell_49 rfl ?_
          exact xG.sub (bX5_tell_65 C hL E h) ⟨rfl, trivial⟩
      · have h := g_it h q
        refine xr_iload_n C 36 rfl dX5_tell_36 ?_
        cases h
        exact xr_iret C 37 E dX5_tell_37
    · have h := g_it h q
      refine xr_goto C 23 65 dX5_tell_23 rfl ?_
      exact xG.sub (bX5_tell_65 C hL E h) ⟨rfl, trivial⟩
set_option maxRecDepth 100000 in
set_option maxHeartbeats 4000000 in
theorem bX5_tell_9 {Γ : xΓ} (C : xOK Γ cX5_tell RX5 11) (hL : xn Γ = 3) {N : Nat} {r : xW × Int32} (E : xEnd Γ (some .int) r.1 (some (.int r.2))) : ∀ (n : Nat) (w : xW) (x2 : Int32), fX5_tell_9 N n w x2 = some r → xG Γ w 9 [(0, .ref (xad Γ 44)), (1, .ref (xad Γ 11)), (2, .int x2)] []
  | 0, _, _, h => by cases h
  | n + 1, w, x2, h => bX5_tell_9b C hL E (bX5_tell_9 C hL E n) h
set_option maxRecDepth 100000 in
set_option maxHeartbeats 4000000 in
theorem bX5_tell_0 {Γ : xΓ} (C : xOK Γ cX5_tell RX5 11) (hL : xn Γ = 3) {N : Nat} {w : xW} {r : xW × Int32} (E : xEnd Γ (some .int) r.1 (some (.int r.2))) (h : fX5_tell_0 N w = some r) : xG Γ w 0 [(0, .ref (xad Γ 44)), (1, .ref (xad Γ 11))] [] := by
  unfold fX5_tell_0 at h
  refine xr_aload_n C 0 rfl dX5_tell_0 ?_
  refine xr_getR C 1 dX5_tell_1 fl_X5_12 rfl rfl ?_
  obtain ⟨z1, q2, h⟩ := g_bind h
  refine xr_callV C 4 (mX4_rewind q2) v_X4_rewind ml_X5_22 (Nat.le_of_ble_eq_true rfl) (Nat.le_of_ble_eq_true rfl) (xrecv C rfl rfl) rfl rfl (Nat.le_of_ble_eq_true rfl) rfl dX5_tell_4 ?_
  refine xr_iconst C 7 1 (by decide +kernel) dX5_tell_7 ?_
  refine xr_istore_n C 8 dX5_tell_8 (xnb hL rfl) ?_
  exact xG.sub (bX5_tell_9 C hL E N _ _ h) ⟨rfl, rfl, rfl, trivial⟩
set_option maxRecDepth 100000 in
set_option maxHeartbeats 4000000 in
theorem mX5_tell {l : Launch} {ad : Nat → Nat} {G : gEnv} {N : Nat} {w : xW} {r : xW × Int32} (h : fX5_tell N w = some r) : xCt l ad G 11 yX5_tell cX5_tell 3 (some .int) [.ref (ad 44), .ref (ad 11)] w r.1 (some (.int r.2)) := xCt.of RX5 rfl (by decide +kernel) (Nat.le_of_ble_eq_true rfl) (fun Γ el ea eG eL C E => by
    subst el
    subst ea
    subst eG
    unfold fX5_tell at h
    exact xG.sub (bX5_tell_0 C eL  E h) ⟨rfl, rfl, trivial⟩)
def fX6_become_i1_32 (w : xW) : xW :=
  w
def fX6_become_i1_0 (w : xW) : xW :=
  fX6_become_i1_32 (sA (sA w 3 (va_cpy (w.1 13) (w.1 3) (Int32.toNatClampNeg 0) (Int32.toNatClampNeg 0) (Int32.toNatClampNeg 4))) 4 (va_cpy ((sA w 3 (va_cpy (w.1 13) (w.1 3) (Int32.toNatClampNeg 0) (Int32.toNatClampNeg 0) (Int32.toNatClampNeg 4))).1 14) ((sA w 3 (va_cpy (w.1 13) (w.1 3) (Int32.toNatClampNeg 0) (Int32.toNatClampNeg 0) (Int32.toNatClampNeg 4))).1 4) (Int32.toNatClampNeg 0) (Int32.toNatClampNeg 0) (Int32.toNatClampNeg 3)))
def fX6_become_i1 (w : xW) : xW := fX6_become_i1_0 w
set_option maxRecDepth 100000 in
set_option maxHeartbeats 4000000 in
theorem bX6_become_i1_32 {Γ : xΓ} (C : xOK Γ cX6_become RX6 2) (hL : xn Γ = 2) {w : xW} {r : xW} (E : xEnd Γ none r none) (h : fX6_become_i1_32  w = r) : xG Γ w 32 [] [] := by
  unfold fX6_become_i1_32 at h
  cases h
  exact xr_vret C 32 E dX6_become_32
set_option maxRecDepth 100000 in
set_option maxHeartbeats 4000000 in
theorem bX6_become_i1_0 {Γ : xΓ} (C : xOK Γ cX6_become RX6 2) (hL : xn Γ = 2) {w : xW} {r : xW} (E : xEnd Γ none r none) (h : fX6_become_i1_0  w = r) : xG Γ w 0 [(0, .ref (xad Γ 2)), (1, .ref (xad Γ 12))] [] := by
  unfold fX6_become_i1_0 at h
  refine xr_aload_n C 0 rfl dX6_become_0 ?_
  refine xr_getR C 1 dX6_become_1 fl_X6_9 rfl rfl ?_
  refine xr_iconst C 4 0 (by decide +kernel) dX6_become_4 ?_
  refine xr_aload_n C 5 rfl dX6_become_5 ?_
  refine xr_getR C 6 dX6_become_6 fl_X6_9 rfl rfl ?_
  refine xr_iconst C 9 0 (by decide +kernel) dX6_become_9 ?_
  refine xr_aload_n C 10 rfl dX6_become_10 ?_
  refine xr_getR C 11 dX6_become_11 fl_X6_9 rfl rfl ?_
  refine xr_alen_i C 14 4 (by decide +kernel) dX6_become_14 rfl ?_
  refine xr_copyi C 15 dX6_become_15 cp_X6_24 (Nat.le_of_ble_eq_true rfl) (Nat.le_of_ble_eq_true rfl) rfl rfl (by decide +kernel) ?_
  refine xr_aload_n C 18 rfl dX6_become_18 ?_
  refine xr_getR C 19 dX6_become_19 fl_X6_15 rfl rfl ?_
  refine xr_iconst C 22 0 (by decide +kernel) dX6_become_22 ?_
  refine xr_aload_n C 23 rfl dX6_become_23 ?_
  refine xr_getR C 24 dX6_become_24 fl_X6_15 rfl rfl ?_
  refine xr_iconst C 27 0 (by decide +kernel) dX6_become_27 ?_
  refine xr_iconst C 28 3 (by decide +kernel) dX6_become_28 ?_
  refine xr_copyi C 29 dX6_become_29 cp_X6_24 (Nat.le_of_ble_eq_true rfl) (Nat.le_of_ble_eq_true rfl) rfl rfl (by decide +kernel) ?_
  exact xG.sub (bX6_become_i1_32 C hL E h) trivial
set_option maxRecDepth 100000 in
set_option maxHeartbeats 4000000 in
theorem mX6_become_i1 {l : Launch} {ad : Nat → Nat} {G : gEnv} {w : xW} {r : xW} (h : fX6_become_i1 w = r) : xCt l ad G 2 yX6_become cX6_become 2 none [.ref (ad 2), .ref (ad 12)] w r none := xCt.of RX6 rfl (by decide +kernel) (Nat.le_of_ble_eq_true rfl) (fun Γ el ea eG eL C E => by
    subst el
    subst ea
    subst eG
    unfold fX6_become_i1 at h
    exact xG.sub (bX6_become_i1_0 C eL  E h) ⟨rfl, rfl, trivial⟩)
def fX1_become_i1_133 (w : xW) : xW :=
  w
def fX1_become_i1_103 (w : xW) : xW :=
  fX1_become_i1_133 (sA (sA w 9 (va_cpy (w.1 19) (w.1 9) (Int32.toNatClampNeg 0) (Int32.toNatClampNeg 0) (Int32.toNatClampNeg 6))) 10 (va_cpy ((sA w 9 (va_cpy (w.1 19) (w.1 9) (Int32.toNatClampNeg 0) (Int32.toNatClampNeg 0) (Int32.toNatClampNeg 6))).1 20) ((sA w 9 (va_cpy (w.1 19) (w.1 9) (Int32.toNatClampNeg 0) (Int32.toNatClampNeg 0) (Int32.toNatClampNeg 6))).1 10) (Int32.toNatClampNeg 0) (Int32.toNatClampNeg 0) (Int32.toNatClampNeg 6)))
def fX1_become_i1_65 (w : xW) : xW :=
  fX1_become_i1_103 (sA (sA (sI w 1 6 (w.1 11 6)) 7 (va_cpy ((sI w 1 6 (w.1 11 6)).1 17) ((sI w 1 6 (w.1 11 6)).1 7) (Int32.toNatClampNeg 0) (Int32.toNatClampNeg 0) (Int32.toNatClampNeg 6))) 8 (va_cpy ((sA (sI w 1 6 (w.1 11 6)) 7 (va_cpy ((sI w 1 6 (w.1 11 6)).1 17) ((sI w 1 6 (w.1 11 6)).1 7) (Int32.toNatClampNeg 0) (Int32.toNatClampNeg 0) (Int32.toNatClampNeg 6))).1 18) ((sA (sI w 1 6 (w.1 11 6)) 7 (va_cpy ((sI w 1 6 (w.1 11 6)).1 17) ((sI w 1 6 (w.1 11 6)).1 7) (Int32.toNatClampNeg 0) (Int32.toNatClampNeg 0) (Int32.toNatClampNeg 6))).1 8) (Int32.toNatClampNeg 0) (Int32.toNatClampNeg 0) (Int32.toNatClampNeg 6)))
def fX1_become_i1_35 (w : xW) : xW :=
  fX1_become_i1_65 (sA (sA w 5 (va_cpy (w.1 15) (w.1 5) (Int32.toNatClampNeg 0) (Int32.toNatClampNeg 0) (Int32.toNatClampNeg 8))) 6 (va_cpy ((sA w 5 (va_cpy (w.1 15) (w.1 5) (Int32.toNatClampNeg 0) (Int32.toNatClampNeg 0) (Int32.toNatClampNeg 8))).1 16) ((sA w 5 (va_cpy (w.1 15) (w.1 5) (Int32.toNatClampNeg 0) (Int32.toNatClampNeg 0) (Int32.toNatClampNeg 8))).1 6) (Int32.toNatClampNeg 0) (Int32.toNatClampNeg 0) (Int32.toNatClampNeg 8)))
def fX1_become_i1_0 (w : xW) : xW :=
  fX1_become_i1_35 (sI (sI (sI (fX6_become_i1 w) 1 1 ((fX6_become_i1 w).1 11 1)) 1 2 ((sI (fX6_become_i1 w) 1 1 ((fX6_become_i1 w).1 11 1)).1 11 2)) 1 3 ((sI (sI (fX6_become_i1 w) 1 1 ((fX6_become_i1 w).1 11 1)) 1 2 ((sI (fX6_become_i1 w) 1 1 ((fX6_become_i1 w).1 11 1)).1 11 2)).1 11 3))
def fX1_become_i1 (w : xW) : xW := fX1_become_i1_0 w
set_option maxRecDepth 100000 in
set_option maxHeartbeats 4000000 in
theorem bX1_become_i1_133 {Γ : xΓ} (C : xOK Γ cX1_become RX1 3) (hL : xn Γ = 2) {w : xW} {r : xW} (E : xEnd Γ none r none) (h : fX1_become_i1_133  w = r) : xG Γ w 133 [] [] := by
  unfold fX1_become_i1_133 at h
  cases h
  exact xr_vret C 133 E dX1_become_133
set_option maxRecDepth 100000 in
set_option maxHeartbeats 4000000 in
theorem bX1_become_i1_103 {Γ : xΓ} (C : xOK Γ cX1_become RX1 3) (hL : xn Γ = 2) {w : xW} {r : xW} (E : xEnd Γ none r none) (h : fX1_become_i1_103  w = r) : xG Γ w 103 [(0, .ref (xad Γ 1)), (1, .ref (xad Γ 11))] [] := by
  unfold fX1_become_i1_103 at h
  refine xr_aload_n C 103 rfl dX1_become_103 ?_
  refine xr_getR C 104 dX1_become_104 fl_X1_44 rfl rfl ?_
  refine xr_iconst C 107 0 (by decide +kernel) dX1_become_107 ?_
  refine xr_aload_n C 108 rfl dX1_become_108 ?_
  refine xr_getR C 109 dX1_become_109 fl_X1_44 rfl rfl ?_
  refine xr_iconst C 112 0 (by decide +kernel) dX1_become_112 ?_
  refine xr_bipush C 113 6 (by decide +kernel) dX1_become_113 ?_
  refine xr_copyi C 115 dX1_become_115 cp_X1_54 (Nat.le_of_ble_eq_true rfl) (Nat.le_of_ble_eq_true rfl) rfl rfl (by decide +kernel) ?_
  refine xr_aload_n C 118 rfl dX1_become_118 ?_
  refine xr_getR C 119 dX1_become_119 fl_X1_47 rfl rfl ?_
  refine xr_iconst C 122 0 (by decide +kernel) dX1_become_122 ?_
  refine xr_aload_n C 123 rfl dX1_become_123 ?_
  refine xr_getR C 124 dX1_become_124 fl_X1_47 rfl rfl ?_
  refine xr_iconst C 127 0 (by decide +kernel) dX1_become_127 ?_
  refine xr_bipush C 128 6 (by decide +kernel) dX1_become_128 ?_
  refine xr_copyi C 130 dX1_become_130 cp_X1_54 (Nat.le_of_ble_eq_true rfl) (Nat.le_of_ble_eq_true rfl) rfl rfl (by decide +kernel) ?_
  exact xG.sub (bX1_become_i1_133 C hL E h) trivial
set_option maxRecDepth 100000 in
set_option maxHeartbeats 4000000 in
theorem bX1_become_i1_65 {Γ : xΓ} (C : xOK Γ cX1_become RX1 3) (hL : xn Γ = 2) {w : xW} {r : xW} (E : xEnd Γ none r none) (h : fX1_become_i1_65  w = r) : xG Γ w 65 [(0, .ref (xad Γ 1)), (1, .ref (xad Γ 11))] [] := by
  unfold fX1_become_i1_65 at h
  refine xr_aload_n C 65 rfl dX1_become_65 ?_
  refine xr_aload_n C 66 rfl dX1_become_66 ?_
  refine xr_getI C 67 dX1_become_67 fl_X1_35 rfl rfl ?_
  refine xr_putI C 70 dX1_become_70 fp_X1_35 rfl rfl ?_
  refine xr_aload_n C 73 rfl dX1_become_73 ?_
  refine xr_getR C 74 dX1_become_74 fl_X1_38 rfl rfl ?_
  refine xr_iconst C 77 0 (by decide +kernel) dX1_become_77 ?_
  refine xr_aload_n C 78 rfl dX1_become_78 ?_
  refine xr_getR C 79 dX1_become_79 fl_X1_38 rfl rfl ?_
  refine xr_iconst C 82 0 (by decide +kernel) dX1_become_82 ?_
  refine xr_bipush C 83 6 (by decide +kernel) dX1_become_83 ?_
  refine xr_copyi C 85 dX1_become_85 cp_X1_54 (Nat.le_of_ble_eq_true rfl) (Nat.le_of_ble_eq_true rfl) rfl rfl (by decide +kernel) ?_
  refine xr_aload_n C 88 rfl dX1_become_88 ?_
  refine xr_getR C 89 dX1_become_89 fl_X1_41 rfl rfl ?_
  refine xr_iconst C 92 0 (by decide +kernel) dX1_become_92 ?_
  refine xr_aload_n C 93 rfl dX1_become_93 ?_
  refine xr_getR C 94 dX1_become_94 fl_X1_41 rfl rfl ?_
  refine xr_iconst C 97 0 (by decide +kernel) dX1_become_97 ?_
  refine xr_bipush C 98 6 (by decide +kernel) dX1_become_98 ?_
  refine xr_copyi C 100 dX1_become_100 cp_X1_54 (Nat.le_of_ble_eq_true rfl) (Nat.le_of_ble_eq_true rfl) rfl rfl (by decide +kernel) ?_
  exact xG.sub (bX1_become_i1_103 C hL E h) ⟨rfl, rfl, trivial⟩
set_option maxRecDepth 100000 in
set_option maxHeartbeats 4000000 in
theorem bX1_become_i1_35 {Γ : xΓ} (C : xOK Γ cX1_become RX1 3) (hL : xn Γ = 2) {w : xW} {r : xW} (E : xEnd Γ none r none) (h : fX1_become_i1_35  w = r) : xG Γ w 35 [(0, .ref (xad Γ 1)), (1, .ref (xad Γ 11))] [] := by
  unfold fX1_become_i1_35 at h
  refine xr_aload_n C 35 rfl dX1_become_35 ?_
  refine xr_getR C 36 dX1_become_36 fl_X1_28 rfl rfl ?_
  refine xr_iconst C 39 0 (by decide +kernel) dX1_become_39 ?_
  refine xr_aload_n C 40 rfl dX1_become_40 ?_
  refine xr_getR C 41 dX1_become_41 fl_X1_28 rfl rfl ?_
  refine xr_iconst C 44 0 (by decide +kernel) dX1_become_44 ?_
  refine xr_bipush C 45 8 (by decide +kernel) dX1_become_45 ?_
  refine xr_copyi C 47 dX1_become_47 cp_X1_54 (Nat.le_of_ble_eq_true rfl) (Nat.le_of_ble_eq_true rfl) rfl rfl (by decide +kernel) ?_
  refine xr_aload_n C 50 rfl dX1_become_50 ?_
  refine xr_getR C 51 dX1_become_51 fl_X1_32 rfl rfl ?_
  refine xr_iconst C 54 0 (by decide +kernel) dX1_become_54 ?_
  refine xr_aload_n C 55 rfl dX1_become_55 ?_
  refine xr_getR C 56 dX1_become_56 fl_X1_32 rfl rfl ?_
  refine xr_iconst C 59 0 (by decide +kernel) dX1_become_59 ?_
  refine xr_bipush C 60 8 (by decide +kernel) dX1_become_60 ?_
  refine xr_copyi C 62 dX1_become_62 cp_X1_54 (Nat.le_of_ble_eq_true rfl) (Nat.le_of_ble_eq_true rfl) rfl rfl (by decide +kernel) ?_
  exact xG.sub (bX1_become_i1_65 C hL E h) ⟨rfl, rfl, trivial⟩
set_option maxRecDepth 100000 in
set_option maxHeartbeats 4000000 in
theorem bX1_become_i1_0 {Γ : xΓ} (C : xOK Γ cX1_become RX1 3) (hL : xn Γ = 2) {w : xW} {r : xW} (E : xEnd Γ none r none) (h : fX1_become_i1_0  w = r) : xG Γ w 0 [(0, .ref (xad Γ 1)), (1, .ref (xad Γ 11))] [] := by
  unfold fX1_become_i1_0 at h
  refine xr_aload_n C 0 rfl dX1_become_0 ?_
  refine xr_getR C 1 dX1_become_1 fl_X1_12 rfl rfl ?_
  refine xr_aload_n C 4 rfl dX1_become_4 ?_
  refine xr_getR C 5 dX1_become_5 fl_X1_12 rfl rfl ?_
  refine xr_callV C 8 (mX6_become_i1 rfl) v_X6_become ml_X1_50 (Nat.le_of_ble_eq_true rfl) (Nat.le_of_ble_eq_true rfl) (xrecv C rfl rfl) rfl rfl (Nat.le_of_ble_eq_true rfl) rfl dX1_become_8 ?_
  refine xr_aload_n C 11 rfl dX1_become_11 ?_
  refine xr_aload_n C 12 rfl dX1_become_12 ?_
  refine xr_getI C 13 dX1_become_13 fl_X1_18 rfl rfl ?_
  refine xr_putI C 16 dX1_become_16 fp_X1_18 rfl rfl ?_
  refine xr_aload_n C 19 rfl dX1_become_19 ?_
  refine xr_aload_n C 20 rfl dX1_become_20 ?_
  refine xr_getI C 21 dX1_become_21 fl_X1_22 rfl rfl ?_
  refine xr_putI C 24 dX1_become_24 fp_X1_22 rfl rfl ?_
  refine xr_aload_n C 27 rfl dX1_become_27 ?_
  refine xr_aload_n C 28 rfl dX1_become_28 ?_
  refine xr_getI C 29 dX1_become_29 fl_X1_25 rfl rfl ?_
  refine xr_putI C 32 dX1_become_32 fp_X1_25 rfl rfl ?_
  exact xG.sub (bX1_become_i1_35 C hL E h) ⟨rfl, rfl, trivial⟩
set_option maxRecDepth 100000 in
set_option maxHeartbeats 4000000 in
theorem mX1_become_i1 {l : Launch} {ad : Nat → Nat} {G : gEnv} {w : xW} {r : xW} (h : fX1_become_i1 w = r) : xCt l ad G 3 yX1_become cX1_become 2 none [.ref (ad 1), .ref (ad 11)] w r none := xCt.of RX1 rfl (by decide +kernel) (Nat.le_of_ble_eq_true rfl) (fun Γ el ea eG eL C E => by
    subst el
    subst ea
    subst eG
    unfold fX1_become_i1 at h
    exact xG.sub (bX1_become_i1_0 C eL  E h) ⟨rfl, rfl, trivial⟩)
def fX7_island_0 (N : Nat) (w : xW) : Option (xW × Int32) :=
  (fX5_tell N (fX1_become w)).bind fun z1 =>
  if z1.2 < 0 then
    some (sI z1.1 42 1 0, z1.2)
  else
  some ((fX1_become_i1 (fX0_forget (sI z1.1 42 1 0))), z1.2)
def fX7_island (N : Nat) (w : xW) : Option (xW × Int32) := fX7_island_0 N w
set_option maxRecDepth 100000 in
set_option maxHeartbeats 4000000 in
theorem bX7_island_0 {Γ : xΓ} (C : xOK Γ cX7_island RX7 12) (hL : xn Γ = 2) {N : Nat} {w : xW} {r : xW × Int32} (E : xEnd Γ (some .int) r.1 (some (.int r.2))) (h : fX7_island_0 N w = some r) : xG Γ w 0 [(0, .ref (xad Γ 0))] [] := by
  unfold fX7_island_0 at h
  refine xr_aload_n C 0 rfl dX7_island_0 ?_
  refine xr_getR C 1 dX7_island_1 fl_X7_16 rfl rfl ?_
  refine xr_aload_n C 4 rfl dX7_island_4 ?_
  refine xr_getR C 5 dX7_island_5 fl_X7_10 rfl rfl ?_
  refine xr_callV C 8 (mX1_become rfl) v_X1_become ml_X7_236 (Nat.le_of_ble_eq_true rfl) (Nat.le_of_ble_eq_true rfl) (xrecv C rfl rfl) rfl rfl (Nat.le_of_ble_eq_true rfl) rfl dX7_island_8 ?_
  refine xr_aload_n C 11 rfl dX7_island_11 ?_
  refine xr_getR C 12 dX7_island_12 fl_X7_43 rfl rfl ?_
  refine xr_aload_n C 15 rfl dX7_island_15 ?_
  refine xr_getR C 16 dX7_island_16 fl_X7_16 rfl rfl ?_
  obtain ⟨z1, q2, h⟩ := g_bind h
  refine xr_callV C 19 (mX5_tell q2) v_X5_tell ml_X7_239 (Nat.le_of_ble_eq_true rfl) (Nat.le_of_ble_eq_true rfl) (xrecv C rfl rfl) rfl rfl (Nat.le_of_ble_eq_true rfl) rfl dX7_island_19 ?_
  refine xr_istore_n C 22 dX7_island_22 (xnb hL rfl) ?_
  refine xr_aload_n C 23 rfl dX7_island_23 ?_
  refine xr_getR C 24 dX7_island_24 fl_X7_51 rfl rfl ?_
  refine xr_iconst C 27 0 (by decide +kernel) dX7_island_27 ?_
  refine xr_putI C 28 dX7_island_28 fp_X7_227 rfl rfl ?_
  refine xr_iload_n C 31 rfl dX7_island_31 ?_
  refine xr_if_lt C 32 53 dX7_island_32 rfl (fun q => ?_) (fun q => ?_)
  · have h := g_it h q
    refine xr_iload_n C 53 rfl dX7_island_53 ?_
    cases h
    exact xr_iret C 54 E dX7_island_54
  · have h := g_if h q
    refine xr_aload_n C 35 rfl dX7_island_35 ?_
    refine xr_getR C 36 dX7_island_36 fl_X7_36 rfl rfl ?_
    refine xr_callV C 39 (mX0_forget rfl) v_X0_forget ml_X7_74 (Nat.le_of_ble_eq_true rfl) (Nat.le_of_ble_eq_true rfl) (xrecv C rfl rfl) rfl rfl (Nat.le_of_ble_eq_true rfl) rfl dX7_island_39 ?_
    refine xr_aload_n C 42 rfl dX7_island_42 ?_
    refine xr_getR C 43 dX7_island_43 fl_X7_10 rfl rfl ?_
    refine xr_aload_n C 46 rfl dX7_island_46 ?_
    refine xr_getR C 47 dX7_island_47 fl_X7_16 rfl rfl ?_
    refine xr_callV C 50 (mX1_become_i1 rfl) v_X1_become ml_X7_236 (Nat.le_of_ble_eq_true rfl) (Nat.le_of_ble_eq_true rfl) (xrecv C rfl rfl) rfl rfl (Nat.le_of_ble_eq_true rfl) rfl dX7_island_50 ?_
    refine xr_iload_n C 53 rfl dX7_island_53 ?_
    cases h
    exact xr_iret C 54 E dX7_island_54
set_option maxRecDepth 100000 in
set_option maxHeartbeats 4000000 in
theorem mX7_island {l : Launch} {ad : Nat → Nat} {G : gEnv} {N : Nat} {w : xW} {r : xW × Int32} (h : fX7_island N w = some r) : xCt l ad G 12 yX7_island cX7_island 2 (some .int) [.ref (ad 0)] w r.1 (some (.int r.2)) := xCt.of RX7 rfl (by decide +kernel) (Nat.le_of_ble_eq_true rfl) (fun Γ el ea eG eL C E => by
    subst el
    subst ea
    subst eG
    unfold fX7_island at h
    exact xG.sub (bX7_island_0 C eL  E h) ⟨rfl, trivial⟩)
def fX8_byteAt_0 (w : xW) (x1 : Int32) : Option Int32 :=
  if (w.1 55 18) ≤ x1 then
    some (-1)
  else
  if ibd x1 120 = true then
  some (w.1 70 x1.toNatClampNeg)
  else none
def fX8_byteAt (w : xW) (x1 : Int32) : Option Int32 := fX8_byteAt_0 w x1
set_option maxRecDepth 100000 in
set_option maxHeartbeats 4000000 in
theorem bX8_byteAt_0 {Γ : xΓ} (C : xOK Γ cX8_byteAt RX8 1) (hL : xn Γ = 2) {w : xW} {x1 : Int32} {r : Int32} (E : xEnd Γ (some .int) w (some (.int r))) (h : fX8_byteAt_0 w x1 = some r) : xG Γ w 0 [(0, .ref (xad Γ 55)), (1, .int x1)] [] := by
  unfold fX8_byteAt_0 at h
  refine xr_iload_n C 0 rfl dX8_byteAt_0 ?_
  refine xr_aload_n C 1 rfl dX8_byteAt_1 ?_
  refine xr_getI C 2 dX8_byteAt_2 fl_X8_224 rfl rfl ?_
  refine xr_icmp_ge C 5 17 dX8_byteAt_5 rfl (fun q => ?_) (fun q => ?_)
  · have h := g_it h q
    refine xr_iconst C 17 (-1) (by decide +kernel) dX8_byteAt_17 ?_
    cases h
    exact xr_iret C 18 E dX8_byteAt_18
  · have h := g_if h q
    refine xr_aload_n C 8 rfl dX8_byteAt_8 ?_
    refine xr_getR C 9 dX8_byteAt_9 fl_X8_52 rfl rfl ?_
    refine xr_iload_n C 12 rfl dX8_byteAt_12 ?_
    obtain ⟨q1, h⟩ := g_ib h
    refine xr_iald C 13 x1.toNatClampNeg rfl dX8_byteAt_13 rfl (ibd_in q1) ?_
    refine xr_goto C 14 18 dX8_byteAt_14 rfl ?_
    cases h
    exact xr_iret C 18 E dX8_byteAt_18
set_option maxRecDepth 100000 in
set_option maxHeartbeats 4000000 in
theorem mX8_byteAt {l : Launch} {ad : Nat → Nat} {G : gEnv} {w : xW} {x1 : Int32} {r : Int32} (h : fX8_byteAt w x1 = some r) : xCt l ad G 1 yX8_byteAt cX8_byteAt 2 (some .int) [.ref (ad 55), .int x1] w w (some (.int r)) := xCt.of RX8 rfl (by decide +kernel) (Nat.le_of_ble_eq_true rfl) (fun Γ el ea eG eL C E => by
    subst el
    subst ea
    subst eG
    unfold fX8_byteAt at h
    exact xG.sub (bX8_byteAt_0 C eL  E h) ⟨rfl, rfl, trivial⟩)
def fX8_next_131b (N : Nat) (K131 : xW → Option xW) (w : xW) : Option xW :=
  (fX8_byteAt w (w.1 55 20)).bind fun z7 =>
  if (fX8_within z7 48 57) = 0 then
    some w
  else
  (fX8_byteAt w (w.1 55 20)).bind fun z9 =>
  K131 (sI (sI w 55 22 (if ((10 * (w.1 55 22)) + z9) - 48 < 10000 then ((10 * (w.1 55 22)) + z9) - 48 else 10000)) 55 20 (((sI w 55 22 (if ((10 * (w.1 55 22)) + z9) - 48 < 10000 then ((10 * (w.1 55 22)) + z9) - 48 else 10000)).1 55 20) + 1))
def fX8_next_131 (N : Nat) : Nat → xW → Option xW
  | 0, _ => none
  | n + 1, w => fX8_next_131b N (fX8_next_131 N n) w
def fX8_next_84b (N : Nat) (K84 : xW → Option xW) (w : xW) : Option xW :=
  (fX8_byteAt w (w.1 55 20)).bind fun z5 =>
  if (fX8_within z5 97 122) = 0 then
    some w
  else
  K84 (sI w 55 20 ((w.1 55 20) + 1))
def fX8_next_84 (N : Nat) : Nat → xW → Option xW
  | 0, _ => none
  | n + 1, w => fX8_next_84b N (fX8_next_84 N n) w
def fX8_next_8b (N : Nat) (K8 : xW → Option xW) (w : xW) : Option xW :=
  (fX8_byteAt w (w.1 55 19)).bind fun z1 =>
  if z1 = 32 then
    K8 (sI w 55 19 ((w.1 55 19) + 1))
  else
  (fX8_byteAt w (w.1 55 19)).bind fun z3 =>
  if 0 ≤ z3 then
    if (fX8_within z3 97 122) = 0 then
      if (fX8_within z3 48 57) = 0 then
        some (sI (sI (sI (sI w 55 20 (w.1 55 19)) 55 22 0) 55 21 3) 55 20 (((sI (sI (sI w 55 20 (w.1 55 19)) 55 22 0) 55 21 3).1 55 20) + 1))
      else
      fX8_next_131 N N (sI (sI (sI w 55 20 (w.1 55 19)) 55 22 0) 55 21 2)
    else
    fX8_next_84 N N (sI (sI (sI w 55 20 (w.1 55 19)) 55 22 0) 55 21 1)
  else
  some (sI (sI (sI w 55 20 (w.1 55 19)) 55 22 0) 55 21 0)
def fX8_next_8 (N : Nat) : Nat → xW → Option xW
  | 0, _ => none
  | n + 1, w => fX8_next_8b N (fX8_next_8 N n) w
def fX8_next_0 (N : Nat) (w : xW) : Option xW :=
  fX8_next_8 N N (sI w 55 19 (w.1 55 20))
def fX8_next (N : Nat) (w : xW) : Option xW := fX8_next_0 N w
set_option maxRecDepth 100000 in
set_option maxHeartbeats 4000000 in
theorem bX8_next_131b {Γ : xΓ} (C : xOK Γ cX8_next RX8 2) (hL : xn Γ = 2) {N : Nat} {K131 : xW → Option xW} {w : xW} {r : xW} (E : xEnd Γ none r none) (hK131 : ∀ (w : xW), K131 w = some r → xG Γ w 131 [(0, .ref (xad Γ 55))] []) (h : fX8_next_131b N K131 w = some r) : xG Γ w 131 [(0, .ref (xad Γ 55))] [] := by
  unfold fX8_next_131b at h
  refine xr_aload_n C 131 rfl dX8_next_131 ?_
  refine xr_aload_n C 132 rfl dX8_next_132 ?_
  refine xr_getI C 133 dX8_next_133 fl_X8_227 rfl rfl ?_
  obtain ⟨z7, q8, h⟩ := g_bind h
  refine xr_callV C 136 (mX8_byteAt q8) v_X8_byteAt ml_X8_233 (Nat.le_of_ble_eq_true rfl) (Nat.le_of_ble_eq_true rfl) (xrecv C rfl rfl) rfl rfl (Nat.le_of_ble_eq_true rfl) rfl dX8_next_136 ?_
  refine xr_bipush C 139 48 (by decide +kernel) dX8_next_139 ?_
  refine xr_bipush C 141 57 (by decide +kernel) dX8_next_141 ?_
  refine xr_callS C 143 (mX8_within rfl) v_X8_within ml_X8_121 (Nat.le_of_ble_eq_true rfl) (Nat.le_of_ble_eq_true rfl) rfl rfl (Nat.le_of_ble_eq_true rfl) rfl dX8_next_143 ?_
  refine xr_if_eq C 146 206 dX8_next_146 rfl (fun q => ?_) (fun q => ?_)
  · have h := g_it h q
    cases h
    exact xr_vret C 206 E dX8_next_206
  · have h := g_if h q
    refine xr_aload_n C 149 rfl dX8_next_149 ?_
    refine xr_sipush C 150 10000 (by decide +kernel) dX8_next_150 ?_
    refine xr_bipush C 153 10 (by decide +kernel) dX8_next_153 ?_
    refine xr_aload_n C 155 rfl dX8_next_155 ?_
    refine xr_getI C 156 dX8_next_156 fl_X8_236 rfl rfl ?_
    refine xr_imul C 159 dX8_next_159 ?_
    refine xr_aload_n C 160 rfl dX8_next_160 ?_
    refine xr_aload_n C 161 rfl dX8_next_161 ?_
    refine xr_getI C 162 dX8_next_162 fl_X8_227 rfl rfl ?_
    obtain ⟨z9, q10, h⟩ := g_bind h
    refine xr_callV C 165 (mX8_byteAt q10) v_X8_byteAt ml_X8_233 (Nat.le_of_ble_eq_true rfl) (Nat.le_of_ble_eq_true rfl) (xrecv C rfl rfl) rfl rfl (Nat.le_of_ble_eq_true rfl) rfl dX8_next_165 ?_
    refine xr_iadd C 168 dX8_next_168 ?_
    refine xr_bipush C 169 48 (by decide +kernel) dX8_next_169 ?_
    refine xr_isub C 171 dX8_next_171 ?_
    refine xr_mmin C 172 dX8_next_172 mm_X8_219 (Nat.le_of_ble_eq_true rfl) (Nat.le_of_ble_eq_true rfl) ?_
    refine xr_putI C 175 dX8_next_175 fp_X8_236 rfl rfl ?_
    refine xr_aload_n C 178 rfl dX8_next_178 ?_
    refine xr_dup C 179 rfl dX8_next_179 ?_
    refine xr_getI C 180 dX8_next_180 fl_X8_227 rfl rfl ?_
    refine xr_iconst C 183 1 (by decide +kernel) dX8_next_183 ?_
    refine xr_iadd C 184 dX8_next_184 ?_
    refine xr_putI C 185 dX8_next_185 fp_X8_227 rfl rfl ?_
    refine xr_goto C 188 131 dX8_next_188 rfl ?_
    exact xG.sub (hK131 _ h) ⟨rfl, trivial⟩
set_option maxRecDepth 100000 in
set_option maxHeartbeats 4000000 in
theorem bX8_next_131 {Γ : xΓ} (C : xOK Γ cX8_next RX8 2) (hL : xn Γ = 2) {N : Nat} {r : xW} (E : xEnd Γ none r none) : ∀ (n : Nat) (w : xW), fX8_next_131 N n w = some r → xG Γ w 131 [(0, .ref (xad Γ 55))] []
  | 0, _, h => by cases h
  | n + 1, w, h => bX8_next_131b C hL E (bX8_next_131 C hL E n) h
set_option maxRecDepth 100000 in
set_option maxHeartbeats 4000000 in
theorem bX8_next_84b {Γ : xΓ} (C : xOK Γ cX8_next RX8 2) (hL : xn Γ = 2) {N : Nat} {K84 : xW → Option xW} {w : xW} {r : xW} (E : xEnd Γ none r none) (hK84 : ∀ (w : xW), K84 w = some r → xG Γ w 84 [(0, .ref (xad Γ 55))] []) (h : fX8_next_84b N K84 w = some r) : xG Γ w 84 [(0, .ref (xad Γ 55))] [] := by
  unfold fX8_next_84b at h
  refine xr_aload_n C 84 rfl dX8_next_84 ?_
  refine xr_aload_n C 85 rfl dX8_next_85 ?_
  refine xr_getI C 86 dX8_next_86 fl_X8_227 rfl rfl ?_
  obtain ⟨z5, q6, h⟩ := g_bind h
  refine xr_callV C 89 (mX8_byteAt q6) v_X8_byteAt ml_X8_233 (Nat.le_of_ble_eq_true rfl) (Nat.le_of_ble_eq_true rfl) (xrecv C rfl rfl) rfl rfl (Nat.le_of_ble_eq_true rfl) rfl dX8_next_89 ?_
  refine xr_bipush C 92 97 (by decide +kernel) dX8_next_92 ?_
  refine xr_bipush C 94 122 (by decide +kernel) dX8_next_94 ?_
  refine xr_callS C 96 (mX8_within rfl) v_X8_within ml_X8_121 (Nat.le_of_ble_eq_true rfl) (Nat.le_of_ble_eq_true rfl) rfl rfl (Nat.le_of_ble_eq_true rfl) rfl dX8_next_96 ?_
  refine xr_if_eq C 99 206 dX8_next_99 rfl (fun q => ?_) (fun q => ?_)
  · have h := g_it h q
    cases h
    exact xr_vret C 206 E dX8_next_206
  · have h := g_if h q
    refine xr_aload_n C 102 rfl dX8_next_102 ?_
    refine xr_dup C 103 rfl dX8_next_103 ?_
    refine xr_getI C 104 dX8_next_104 fl_X8_227 rfl rfl ?_
    refine xr_iconst C 107 1 (by decide +kernel) dX8_next_107 ?_
    refine xr_iadd C 108 dX8_next_108 ?_
    refine xr_putI C 109 dX8_next_109 fp_X8_227 rfl rfl ?_
    refine xr_goto C 112 84 dX8_next_112 rfl ?_
    exact xG.sub (hK84 _ h) ⟨rfl, trivial⟩
set_option maxRecDepth 100000 in
set_option maxHeartbeats 4000000 in
theorem bX8_next_84 {Γ : xΓ} (C : xOK Γ cX8_next RX8 2) (hL : xn Γ = 2) {N : Nat} {r : xW} (E : xEnd Γ none r none) : ∀ (n : Nat) (w : xW), fX8_next_84 N n w = some r → xG Γ w 84 [(0, .ref (xad Γ 55))] []
  | 0, _, h => by cases h
  | n + 1, w, h => bX8_next_84b C hL E (bX8_next_84 C hL E n) h
set_option maxRecDepth 100000 in
set_option maxHeartbeats 4000000 in
theorem bX8_next_8b {Γ : xΓ} (C : xOK Γ cX8_next RX8 2) (hL : xn Γ = 2) {N : Nat} {K8 : xW → Option xW} {w : xW} {r : xW} (E : xEnd Γ none r none) (hK8 : ∀ (w : xW), K8 w = some r → xG Γ w 8 [(0, .ref (xad Γ 55))] []) (h : fX8_next_8b N K8 w = some r) : xG Γ w 8 [(0, .ref (xad Γ 55))] [] := by
  unfold fX8_next_8b at h
  refine xr_aload_n C 8 rfl dX8_next_8 ?_
  refine xr_aload_n C 9 rfl dX8_next_9 ?_
  refine xr_getI C 10 dX8_next_10 fl_X8_230 rfl rfl ?_
  obtain ⟨z1, q2, h⟩ := g_bind h
  refine xr_callV C 13 (mX8_byteAt q2) v_X8_byteAt ml_X8_233 (Nat.le_of_ble_eq_true rfl) (Nat.le_of_ble_eq_true rfl) (xrecv C rfl rfl) rfl rfl (Nat.le_of_ble_eq_true rfl) rfl dX8_next_13 ?_
  refine xr_bipush C 16 32 (by decide +kernel) dX8_next_16 ?_
  refine xr_icmp_ne C 18 34 dX8_next_18 rfl (fun q => ?_) (fun q => ?_)
  · have h := g_if h q
    refine xr_aload_n C 34 rfl dX8_next_34 ?_
    refine xr_aload_n C 35 rfl dX8_next_35 ?_
    refine xr_getI C 36 dX8_next_36 fl_X8_230 rfl rfl ?_
    obtain ⟨z3, q4, h⟩ := g_bind h
    refine xr_callV C 39 (mX8_byteAt q4) v_X8_byteAt ml_X8_233 (Nat.le_of_ble_eq_true rfl) (Nat.le_of_ble_eq_true rfl) (xrecv C rfl rfl) rfl rfl (Nat.le_of_ble_eq_true rfl) rfl dX8_next_39 ?_
    refine xr_istore_n C 42 dX8_next_42 (xnb hL rfl) ?_
    refine xr_aload_n C 43 rfl dX8_next_43 ?_
    refine xr_aload_n C 44 rfl dX8_next_44 ?_
    refine xr_getI C 45 dX8_next_45 fl_X8_230 rfl rfl ?_
    refine xr_putI C 48 dX8_next_48 fp_X8_227 rfl rfl ?_
    refine xr_aload_n C 51 rfl dX8_next_51 ?_
    refine xr_iconst C 52 0 (by decide +kernel) dX8_next_52 ?_
    refine xr_putI C 53 dX8_next_53 fp_X8_236 rfl rfl ?_
    refine xr_iload_n C 56 rfl dX8_next_56 ?_
    refine xr_if_ge C 57 68 dX8_next_57 rfl (fun q => ?_) (fun q => ?_)
    · have h := g_it h q
      refine xr_iload_n C 68 rfl dX8_next_68 ?_
      refine xr_bipush C 69 97 (by decide +kernel) dX8_next_69 ?_
      refine xr_bipush C 71 122 (by decide +kernel) dX8_next_71 ?_
      refine xr_callS C 73 (mX8_within rfl) v_X8_within ml_X8_121 (Nat.le_of_ble_eq_true rfl) (Nat.le_of_ble_eq_true rfl) rfl rfl (Nat.le_of_ble_eq_true rfl) rfl dX8_next_73 ?_
      refine xr_if_eq C 76 115 dX8_next_76 rfl (fun q => ?_) (fun q => ?_)
      · have h := g_it h q
        refine xr_iload_n C 115 rfl dX8_next_115 ?_
        refine xr_bipush C 116 48 (by decide +kernel) dX8_next_116 ?_
        refine xr_bipush C 118 57 (by decide +kernel) dX8_next_118 ?_
        refine xr_callS C 120 (mX8_within rfl) v_X8_within ml_X8_121 (Nat.le_of_ble_eq_true rfl) (Nat.le_of_ble_eq_true rfl) rfl rfl (Nat.le_of_ble_eq_true rfl) rfl dX8_next_120 ?_
        refine xr_if_eq C 123 191 dX8_next_123 rfl (fun q => ?_) (fun q => ?_)
        · have h := g_it h q
          refine xr_aload_n C 191 rfl dX8_next_191 ?_
          refine xr_iconst C 192 3 (by decide +kernel) dX8_next_192 ?_
          refine xr_putI C 193 dX8_next_193 fp_X8_239 rfl rfl ?_
          refine xr_aload_n C 196 rfl dX8_next_196 ?_
          refine xr_dup C 197 rfl dX8_next_197 ?_
          refine xr_getI C 198 dX8_next_198 fl_X8_227 rfl rfl ?_
          refine xr_iconst C 201 1 (by decide +kernel) dX8_next_201 ?_
          refine xr_iadd C 202 dX8_next_202 ?_
          refine xr_putI C 203 dX8_next_203 fp_X8_227 rfl rfl ?_
          cases h
          exact xr_vret C 206 E dX8_next_206
        · have h := g_if h q
          refine xr_aload_n C 126 rfl dX8_next_126 ?_
          refine xr_iconst C 127 2 (by decide +kernel) dX8_next_127 ?_
          refine xr_putI C 128 dX8_next_128 fp_X8_239 rfl rfl ?_
          exact xG.sub (bX8_next_131 C hL E N _ h) ⟨rfl, trivial⟩
      · have h := g_if h q
        refine xr_aload_n C 79 rfl dX8_next_79 ?_
        refine xr_iconst C 80 1 (by decide +kernel) dX8_next_80 ?_
        refine xr_putI C 81 dX8_next_81 fp_X8_239 rfl rfl ?_
        exact xG.sub (bX8_next_84 C hL E N _ h) ⟨rfl, trivial⟩
    · have h := g_if h q
      refine xr_aload_n C 60 rfl dX8_next_60 ?_
      refine xr_iconst C 61 0 (by decide +kernel) dX8_next_61 ?_
      refine xr_putI C 62 dX8_next_62 fp_X8_239 rfl rfl ?_
      refine xr_goto C 65 206 dX8_next_65 rfl ?_
      cases h
      exact xr_vret C 206 E dX8_next_206
  · have h := g_it h q
    refine xr_aload_n C 21 rfl dX8_next_21 ?_
    refine xr_dup C 22 rfl dX8_next_22 ?_
    refine xr_getI C 23 dX8_next_23 fl_X8_230 rfl rfl ?_
    refine xr_iconst C 26 1 (by decide +kernel) dX8_next_26 ?_
    refine xr_iadd C 27 dX8_next_27 ?_
    refine xr_putI C 28 dX8_next_28 fp_X8_230 rfl rfl ?_
    refine xr_goto C 31 8 dX8_next_31 rfl ?_
    exact xG.sub (hK8 _ h) ⟨rfl, trivial⟩
set_option maxRecDepth 100000 in
set_option maxHeartbeats 4000000 in
theorem bX8_next_8 {Γ : xΓ} (C : xOK Γ cX8_next RX8 2) (hL : xn Γ = 2) {N : Nat} {r : xW} (E : xEnd Γ none r none) : ∀ (n : Nat) (w : xW), fX8_next_8 N n w = some r → xG Γ w 8 [(0, .ref (xad Γ 55))] []
  | 0, _, h => by cases h
  | n + 1, w, h => bX8_next_8b C hL E (bX8_next_8 C hL E n) h
set_option maxRecDepth 100000 in
set_option maxHeartbeats 4000000 in
theorem bX8_next_0 {Γ : xΓ} (C : xOK Γ cX8_next RX8 2) (hL : xn Γ = 2) {N : Nat} {w : xW} {r : xW} (E : xEnd Γ none r none) (h : fX8_next_0 N w = some r) : xG Γ w 0 [(0, .ref (xad Γ 55))] [] := by
  unfold fX8_next_0 at h
  refine xr_aload_n C 0 rfl dX8_next_0 ?_
  refine xr_aload_n C 1 rfl dX8_next_1 ?_
  refine xr_getI C 2 dX8_next_2 fl_X8_227 rfl rfl ?_
  refine xr_putI C 5 dX8_next_5 fp_X8_230 rfl rfl ?_
  exact xG.sub (bX8_next_8 C hL E N _ h) ⟨rfl, trivial⟩
set_option maxRecDepth 100000 in
set_option maxHeartbeats 4000000 in
theorem mX8_next {l : Launch} {ad : Nat → Nat} {G : gEnv} {N : Nat} {w : xW} {r : xW} (h : fX8_next N w = some r) : xCt l ad G 2 yX8_next cX8_next 2 none [.ref (ad 55)] w r none := xCt.of RX8 rfl (by decide +kernel) (Nat.le_of_ble_eq_true rfl) (fun Γ el ea eG eL C E => by
    subst el
    subst ea
    subst eG
    unfold fX8_next at h
    exact xG.sub (bX8_next_0 C eL  E h) ⟨rfl, trivial⟩)
def fX8_isWord_68 (N : Nat) (w : xW) (j1 : Nat) (K32 : Int32 → Int32 → Option Int32) (x3 : Int32) (s0 : Int32) : Option Int32 :=
  K32 s0 (x3 + 1)
def fX8_isWord_32b (N : Nat) (w : xW) (j1 : Nat) (K32 : Int32 → Int32 → Option Int32) (x2 : Int32) (x3 : Int32) : Option Int32 :=
  if (xlen j1) ≤ x3 then
    if xB x2 = true then
    some x2
    else none
  else
  if x2 = 0 then
    if xB x2 = true then
    some x2
    else none
  else
  if ibd ((w.1 55 19) + x3) 120 = true then
  (xchar j1 x3).bind fun z4 =>
  if (w.1 70 (((w.1 55 19) + x3).toNatClampNeg)) = z4 then
    fX8_isWord_68 N w j1 K32 x3 1
  else
  fX8_isWord_68 N w j1 K32 x3 0
  else none
def fX8_isWord_32 (N : Nat) (w : xW) (j1 : Nat) : Nat → Int32 → Int32 → Option Int32
  | 0, _, _ => none
  | n + 1, x2, x3 => fX8_isWord_32b N w j1 (fX8_isWord_32 N w j1 n) x2 x3
def fX8_isWord_29 (N : Nat) (w : xW) (j1 : Nat) (s0 : Int32) : Option Int32 :=
  fX8_isWord_32 N w j1 N s0 0
def fX8_isWord_0 (N : Nat) (w : xW) (j1 : Nat) : Option Int32 :=
  if (w.1 55 21) = 1 then
    if ((w.1 55 20) - (w.1 55 19)) = (xlen j1) then
      fX8_isWord_29 N w j1 1
    else
    fX8_isWord_29 N w j1 0
  else
  fX8_isWord_29 N w j1 0
def fX8_isWord (N : Nat) (w : xW) (j1 : Nat) : Option Int32 := if j1 < 17 then fX8_isWord_0 N w j1 else none
set_option maxRecDepth 100000 in
set_option maxHeartbeats 4000000 in
theorem bX8_isWord_68 {Γ : xΓ} (C : xOK Γ cX8_isWord RX8 7) (hL : xn Γ = 4) {N : Nat} {j1 : Nat} {K32 : Int32 → Int32 → Option Int32} {w : xW} {x3 : Int32} {s0 : Int32} {r : Int32} (hj1 : j1 < 17) (E : xEnd Γ (some .boolean) w (some (.int r))) (hK32 : ∀ (x2 : Int32) (x3 : Int32), K32 x2 x3 = some r → xG Γ w 32 [(0, .ref (xad Γ 55)), (1, .ref (adK (xE Γ) j1)), (2, .int x2), (3, .int x3)] []) (h : fX8_isWord_68 N w j1 K32 x3 s0 = some r) : xG Γ w 68 [(0, .ref (xad Γ 55)), (1, .ref (adK (xE Γ) j1)), (3, .int x3)] [.int s0] := by
  unfold fX8_isWord_68 at h
  refine xr_istore_n C 68 dX8_isWord_68 (xnb hL rfl) ?_
  refine xr_iinc C 69 1 (by decide +kernel) rfl dX8_isWord_69 (xnb hL rfl) ?_
  refine xr_goto C 72 32 dX8_isWord_72 rfl ?_
  exact xG.sub (hK32 _ _ h) ⟨rfl, rfl, rfl, rfl, trivial⟩
set_option maxRecDepth 100000 in
set_option maxHeartbeats 4000000 in
theorem bX8_isWord_32b {Γ : xΓ} (C : xOK Γ cX8_isWord RX8 7) (hL : xn Γ = 4) {N : Nat} {j1 : Nat} {K32 : Int32 → Int32 → Option Int32} {w : xW} {x2 : Int32} {x3 : Int32} {r : Int32} (hj1 : j1 < 17) (E : xEnd Γ (some .boolean) w (some (.int r))) (hK32 : ∀ (x2 : Int32) (x3 : Int32), K32 x2 x3 = some r → xG Γ w 32 [(0, .ref (xad Γ 55)), (1, .ref (adK (xE Γ) j1)), (2, .int x2), (3, .int x3)] []) (h : fX8_isWord_32b N w j1 K32 x2 x3 = some r) : xG Γ w 32 [(0, .ref (xad Γ 55)), (1, .ref (adK (xE Γ) j1)), (2, .int x2), (3, .int x3)] [] := by
  unfold fX8_isWord_32b at h
  refine xr_iload_n C 32 rfl dX8_isWord_32 ?_
  refine xr_aload_n C 33 rfl dX8_isWord_33 ?_
  refine xr_callV C 34 (c_strlen hj1) v_J0_length_8abf5 ml_X8_242 (Nat.le_of_ble_eq_true rfl) (Nat.le_of_ble_eq_true rfl) (xrecvS C hj1) rfl rfl (Nat.le_of_ble_eq_true rfl) rfl dX8_isWord_34 ?_
  refine xr_icmp_ge C 37 75 dX8_isWord_37 rfl (fun q => ?_) (fun q => ?_)
  · have h := g_it h q
    refine xr_iload_n C 75 rfl dX8_isWord_75 ?_
    obtain ⟨q1, h⟩ := g_bchk h
    cases h
    exact xr_zret C 76 E dX8_isWord_76 q1
  · have h := g_if h q
    refine xr_iload_n C 40 rfl dX8_isWord_40 ?_
    refine xr_if_eq C 41 75 dX8_isWord_41 rfl (fun q => ?_) (fun q => ?_)
    · have h := g_it h q
      refine xr_iload_n C 75 rfl dX8_isWord_75 ?_
      obtain ⟨q2, h⟩ := g_bchk h
      cases h
      exact xr_zret C 76 E dX8_isWord_76 q2
    · have h := g_if h q
      refine xr_aload_n C 44 rfl dX8_isWord_44 ?_
      refine xr_getR C 45 dX8_isWord_45 fl_X8_52 rfl rfl ?_
      refine xr_aload_n C 48 rfl dX8_isWord_48 ?_
      refine xr_getI C 49 dX8_isWord_49 fl_X8_230 rfl rfl ?_
      refine xr_iload_n C 52 rfl dX8_isWord_52 ?_
      refine xr_iadd C 53 dX8_isWord_53 ?_
      obtain ⟨q3, h⟩ := g_ib h
      refine xr_iald C 54 (((w.1 55 19) + x3).toNatClampNeg) rfl dX8_isWord_54 rfl (ibd_in q3) ?_
      refine xr_aload_n C 55 rfl dX8_isWord_55 ?_
      refine xr_iload_n C 56 rfl dX8_isWord_56 ?_
      obtain ⟨z4, q5, h⟩ := g_bind h
      refine xr_callV C 57 (c_strchar hj1 q5) v_J0_charAt_5068e ml_X8_246 (Nat.le_of_ble_eq_true rfl) (Nat.le_of_ble_eq_true rfl) (xrecvS C hj1) rfl rfl (Nat.le_of_ble_eq_true rfl) rfl dX8_isWord_57 ?_
      refine xr_icmp_ne C 60 67 dX8_isWord_60 rfl (fun q => ?_) (fun q => ?_)
      · have h := g_if h q
        refine xr_iconst C 67 0 (by decide +kernel) dX8_isWord_67 ?_
        exact xG.sub (bX8_isWord_68 C hL hj1 E hK32 h) ⟨rfl, rfl, rfl, trivial⟩
      · have h := g_it h q
        refine xr_iconst C 63 1 (by decide +kernel) dX8_isWord_63 ?_
        refine xr_goto C 64 68 dX8_isWord_64 rfl ?_
        exact xG.sub (bX8_isWord_68 C hL hj1 E hK32 h) ⟨rfl, rfl, rfl, trivial⟩
set_option maxRecDepth 100000 in
set_option maxHeartbeats 4000000 in
theorem bX8_isWord_32 {Γ : xΓ} (C : xOK Γ cX8_isWord RX8 7) (hL : xn Γ = 4) {N : Nat} {j1 : Nat} {w : xW} {r : Int32} (hj1 : j1 < 17) (E : xEnd Γ (some .boolean) w (some (.int r))) : ∀ (n : Nat) (x2 : Int32) (x3 : Int32), fX8_isWord_32 N w j1 n x2 x3 = some r → xG Γ w 32 [(0, .ref (xad Γ 55)), (1, .ref (adK (xE Γ) j1)), (2, .int x2), (3, .int x3)] []
  | 0, _, _, h => by cases h
  | n + 1, x2, x3, h => bX8_isWord_32b C hL hj1 E (bX8_isWord_32 C hL hj1 E n) h
set_option maxRecDepth 100000 in
set_option maxHeartbeats 4000000 in
theorem bX8_isWord_29 {Γ : xΓ} (C : xOK Γ cX8_isWord RX8 7) (hL : xn Γ = 4) {N : Nat} {j1 : Nat} {w : xW} {s0 : Int32} {r : Int32} (hj1 : j1 < 17) (E : xEnd Γ (some .boolean) w (some (.int r))) (h : fX8_isWord_29 N w j1 s0 = some r) : xG Γ w 29 [(0, .ref (xad Γ 55)), (1, .ref (adK (xE Γ) j1))] [.int s0] := by
  unfold fX8_isWord_29 at h
  refine xr_istore_n C 29 dX8_isWord_29 (xnb hL rfl) ?_
  refine xr_iconst C 30 0 (by decide +kernel) dX8_isWord_30 ?_
  refine xr_istore_n C 31 dX8_isWord_31 (xnb hL rfl) ?_
  exact xG.sub (bX8_isWord_32 C hL hj1 E N _ _ h) ⟨rfl, rfl, rfl, rfl, trivial⟩
set_option maxRecDepth 100000 in
set_option maxHeartbeats 4000000 in
theorem bX8_isWord_0 {Γ : xΓ} (C : xOK Γ cX8_isWord RX8 7) (hL : xn Γ = 4) {N : Nat} {j1 : Nat} {w : xW} {r : Int32} (hj1 : j1 < 17) (E : xEnd Γ (some .boolean) w (some (.int r))) (h : fX8_isWord_0 N w j1  = some r) : xG Γ w 0 [(0, .ref (xad Γ 55)), (1, .ref (adK (xE Γ) j1))] [] := by
  unfold fX8_isWord_0 at h
  refine xr_aload_n C 0 rfl dX8_isWord_0 ?_
  refine xr_getI C 1 dX8_isWord_1 fl_X8_239 rfl rfl ?_
  refine xr_iconst C 4 1 (by decide +kernel) dX8_isWord_4 ?_
  refine xr_icmp_ne C 5 28 dX8_isWord_5 rfl (fun q => ?_) (fun q => ?_)
  · have h := g_if h q
    refine xr_iconst C 28 0 (by decide +kernel) dX8_isWord_28 ?_
    exact xG.sub (bX8_isWord_29 C hL hj1 E h) ⟨rfl, rfl, trivial⟩
  · have h := g_it h q
    refine xr_aload_n C 8 rfl dX8_isWord_8 ?_
    refine xr_getI C 9 dX8_isWord_9 fl_X8_227 rfl rfl ?_
    refine xr_aload_n C 12 rfl dX8_isWord_12 ?_
    refine xr_getI C 13 dX8_isWord_13 fl_X8_230 rfl rfl ?_
    refine xr_isub C 16 dX8_isWord_16 ?_
    refine xr_aload_n C 17 rfl dX8_isWord_17 ?_
    refine xr_callV C 18 (c_strlen hj1) v_J0_length_8abf5 ml_X8_242 (Nat.le_of_ble_eq_true rfl) (Nat.le_of_ble_eq_true rfl) (xrecvS C hj1) rfl rfl (Nat.le_of_ble_eq_true rfl) rfl dX8_isWord_18 ?_
    refine xr_icmp_ne C 21 28 dX8_isWord_21 rfl (fun q => ?_) (fun q => ?_)
    · have h := g_if h q
      refine xr_iconst C 28 0 (by decide +kernel) dX8_isWord_28 ?_
      exact xG.sub (bX8_isWord_29 C hL hj1 E h) ⟨rfl, rfl, trivial⟩
    · have h := g_it h q
      refine xr_iconst C 24 1 (by decide +kernel) dX8_isWord_24 ?_
      refine xr_goto C 25 29 dX8_isWord_25 rfl ?_
      exact xG.sub (bX8_isWord_29 C hL hj1 E h) ⟨rfl, rfl, trivial⟩
set_option maxRecDepth 100000 in
set_option maxHeartbeats 4000000 in
theorem mX8_isWord {l : Launch} {ad : Nat → Nat} {G : gEnv} {N : Nat} {w : xW} {j1 : Nat} {r : Int32} (h : fX8_isWord N w j1 = some r) : xCt l ad G 7 yX8_isWord cX8_isWord 4 (some .boolean) [.ref (ad 55), .ref (adK G j1)] w w (some (.int r)) := xCt.of RX8 rfl (by decide +kernel) (Nat.le_of_ble_eq_true rfl) (fun Γ el ea eG eL C E => by
    subst el
    subst ea
    subst eG
    unfold fX8_isWord at h
    obtain ⟨hj1, h⟩ := g_lt h
    exact xG.sub (bX8_isWord_0 C eL hj1 E h) ⟨rfl, rfl, trivial⟩)
def fX8_which_25 (N : Nat) (w : xW) (K4 : Int32 → Int32 → Option Int32) (x3 : Int32) (s0 : Int32) : Option Int32 :=
  K4 s0 (x3 + 1)
def fX8_which_4b (N : Nat) (w : xW) (K4 : Int32 → Int32 → Option Int32) (x2 : Int32) (x3 : Int32) : Option Int32 :=
  if 6 ≤ x3 then
    some x2
  else
  if ibd x3 6 = true then
  (fX8_isWord N w x3.toNatClampNeg).bind fun z2 =>
  if z2 = 0 then
    fX8_which_25 N w K4 x3 x2
  else
  fX8_which_25 N w K4 x3 x3
  else none
def fX8_which_4 (N : Nat) (w : xW) : Nat → Int32 → Int32 → Option Int32
  | 0, _, _ => none
  | n + 1, x2, x3 => fX8_which_4b N w (fX8_which_4 N w n) x2 x3
def fX8_which_0 (N : Nat) (w : xW) : Option Int32 :=
  fX8_which_4 N w N (-1) 0
def fX8_which (N : Nat) (w : xW) : Option Int32 := fX8_which_0 N w
set_option maxRecDepth 100000 in
set_option maxHeartbeats 4000000 in
theorem bX8_which_25 {Γ : xΓ} (C : xOK Γ cX8_which RX8 8) (hL : xn Γ = 4) {N : Nat} {K4 : Int32 → Int32 → Option Int32} {w : xW} {x3 : Int32} {s0 : Int32} {r : Int32} (E : xEnd Γ (some .int) w (some (.int r))) (hK4 : ∀ (x2 : Int32) (x3 : Int32), K4 x2 x3 = some r → xG Γ w 4 [(0, .ref (xad Γ 55)), (1, .ref (xad Γ 71)), (2, .int x2), (3, .int x3)] []) (h : fX8_which_25 N w K4 x3 s0 = some r) : xG Γ w 25 [(0, .ref (xad Γ 55)), (1, .ref (xad Γ 71)), (3, .int x3)] [.int s0] := by
  unfold fX8_which_25 at h
  refine xr_istore_n C 25 dX8_which_25 (xnb hL rfl) ?_
  refine xr_iinc C 26 1 (by decide +kernel) rfl dX8_which_26 (xnb hL rfl) ?_
  refine xr_goto C 29 4 dX8_which_29 rfl ?_
  exact xG.sub (hK4 _ _ h) ⟨rfl, rfl, rfl, rfl, trivial⟩
set_option maxRecDepth 100000 in
set_option maxHeartbeats 4000000 in
theorem bX8_which_4b {Γ : xΓ} (C : xOK Γ cX8_which RX8 8) (hL : xn Γ = 4) {N : Nat} {K4 : Int32 → Int32 → Option Int32} {w : xW} {x2 : Int32} {x3 : Int32} {r : Int32} (E : xEnd Γ (some .int) w (some (.int r))) (hK4 : ∀ (x2 : Int32) (x3 : Int32), K4 x2 x3 = some r → xG Γ w 4 [(0, .ref (xad Γ 55)), (1, .ref (xad Γ 71)), (2, .int x2), (3, .int x3)] []) (h : fX8_which_4b N w K4 x2 x3 = some r) : xG Γ w 4 [(0, .ref (xad Γ 55)), (1, .ref (xad Γ 71)), (2, .int x2), (3, .int x3)] [] := by
  unfold fX8_which_4b at h
  refine xr_iload_n C 4 rfl dX8_which_4 ?_
  refine xr_aload_n C 5 rfl dX8_which_5 ?_
  refine xr_alen_k C 6 6 (by decide +kernel) dX8_which_6 rfl ?_
  refine xr_icmp_ge C 7 32 dX8_which_7 rfl (fun q => ?_) (fun q => ?_)
  · have h := g_it h q
    refine xr_iload_n C 32 rfl dX8_which_32 ?_
    cases h
    exact xr_iret C 33 E dX8_which_33
  · have h := g_if h q
    refine xr_aload_n C 10 rfl dX8_which_10 ?_
    refine xr_aload_n C 11 rfl dX8_which_11 ?_
    refine xr_iload_n C 12 rfl dX8_which_12 ?_
    obtain ⟨q1, h⟩ := g_ib h
    refine xr_aaldK C 13 dX8_which_13 rfl (ibd_in q1) ?_
    obtain ⟨z2, q3, h⟩ := g_bind h
    refine xr_callV C 14 (mX8_isWord q3) v_X8_isWord ml_X8_263 (Nat.le_of_ble_eq_true rfl) (Nat.le_of_ble_eq_true rfl) (xrecv C rfl rfl) rfl rfl (Nat.le_of_ble_eq_true rfl) rfl dX8_which_14 ?_
    refine xr_if_eq C 17 24 dX8_which_17 rfl (fun q => ?_) (fun q => ?_)
    · have h := g_it h q
      refine xr_iload_n C 24 rfl dX8_which_24 ?_
      exact xG.sub (bX8_which_25 C hL E hK4 h) ⟨rfl, rfl, rfl, trivial⟩
    · have h := g_if h q
      refine xr_iload_n C 20 rfl dX8_which_20 ?_
      refine xr_goto C 21 25 dX8_which_21 rfl ?_
      exact xG.sub (bX8_which_25 C hL E hK4 h) ⟨rfl, rfl, rfl, trivial⟩
set_option maxRecDepth 100000 in
set_option maxHeartbeats 4000000 in
theorem bX8_which_4 {Γ : xΓ} (C : xOK Γ cX8_which RX8 8) (hL : xn Γ = 4) {N : Nat} {w : xW} {r : Int32} (E : xEnd Γ (some .int) w (some (.int r))) : ∀ (n : Nat) (x2 : Int32) (x3 : Int32), fX8_which_4 N w n x2 x3 = some r → xG Γ w 4 [(0, .ref (xad Γ 55)), (1, .ref (xad Γ 71)), (2, .int x2), (3, .int x3)] []
  | 0, _, _, h => by cases h
  | n + 1, x2, x3, h => bX8_which_4b C hL E (bX8_which_4 C hL E n) h
set_option maxRecDepth 100000 in
set_option maxHeartbeats 4000000 in
theorem bX8_which_0 {Γ : xΓ} (C : xOK Γ cX8_which RX8 8) (hL : xn Γ = 4) {N : Nat} {w : xW} {r : Int32} (E : xEnd Γ (some .int) w (some (.int r))) (h : fX8_which_0 N w  = some r) : xG Γ w 0 [(0, .ref (xad Γ 55)), (1, .ref (xad Γ 71))] [] := by
  unfold fX8_which_0 at h
  refine xr_iconst C 0 (-1) (by decide +kernel) dX8_which_0 ?_
  refine xr_istore_n C 1 dX8_which_1 (xnb hL rfl) ?_
  refine xr_iconst C 2 0 (by decide +kernel) dX8_which_2 ?_
  refine xr_istore_n C 3 dX8_which_3 (xnb hL rfl) ?_
  exact xG.sub (bX8_which_4 C hL E N _ _ h) ⟨rfl, rfl, rfl, rfl, trivial⟩
set_option maxRecDepth 100000 in
set_option maxHeartbeats 4000000 in
theorem mX8_which {l : Launch} {ad : Nat → Nat} {G : gEnv} {N : Nat} {w : xW} {r : Int32} (h : fX8_which N w = some r) : xCt l ad G 8 yX8_which cX8_which 4 (some .int) [.ref (ad 55), .ref (ad 71)] w w (some (.int r)) := xCt.of RX8 rfl (by decide +kernel) (Nat.le_of_ble_eq_true rfl) (fun Γ el ea eG eL C E => by
    subst el
    subst ea
    subst eG
    unfold fX8_which at h
    exact xG.sub (bX8_which_0 C eL  E h) ⟨rfl, rfl, trivial⟩)
def fX8_which_i1_25 (N : Nat) (w : xW) (K4 : Int32 → Int32 → Option Int32) (x3 : Int32) (s0 : Int32) : Option Int32 :=
  K4 s0 (x3 + 1)
def fX8_which_i1_4b (N : Nat) (w : xW) (K4 : Int32 → Int32 → Option Int32) (x2 : Int32) (x3 : Int32) : Option Int32 :=
  if 3 ≤ x3 then
    some x2
  else
  if ibd x3 3 = true then
  (fX8_isWord N w (6 + x3.toNatClampNeg)).bind fun z2 =>
  if z2 = 0 then
    fX8_which_i1_25 N w K4 x3 x2
  else
  fX8_which_i1_25 N w K4 x3 x3
  else none
def fX8_which_i1_4 (N : Nat) (w : xW) : Nat → Int32 → Int32 → Option Int32
  | 0, _, _ => none
  | n + 1, x2, x3 => fX8_which_i1_4b N w (fX8_which_i1_4 N w n) x2 x3
def fX8_which_i1_0 (N : Nat) (w : xW) : Option Int32 :=
  fX8_which_i1_4 N w N (-1) 0
def fX8_which_i1 (N : Nat) (w : xW) : Option Int32 := fX8_which_i1_0 N w
set_option maxRecDepth 100000 in
set_option maxHeartbeats 4000000 in
theorem bX8_which_i1_25 {Γ : xΓ} (C : xOK Γ cX8_which RX8 8) (hL : xn Γ = 4) {N : Nat} {K4 : Int32 → Int32 → Option Int32} {w : xW} {x3 : Int32} {s0 : Int32} {r : Int32} (E : xEnd Γ (some .int) w (some (.int r))) (hK4 : ∀ (x2 : Int32) (x3 : Int32), K4 x2 x3 = some r → xG Γ w 4 [(0, .ref (xad Γ 55)), (1, .ref (xad Γ 72)), (2, .int x2), (3, .int x3)] []) (h : fX8_which_i1_25 N w K4 x3 s0 = some r) : xG Γ w 25 [(0, .ref (xad Γ 55)), (1, .ref (xad Γ 72)), (3, .int x3)] [.int s0] := by
  unfold fX8_which_i1_25 at h
  refine xr_istore_n C 25 dX8_which_25 (xnb hL rfl) ?_
  refine xr_iinc C 26 1 (by decide +kernel) rfl dX8_which_26 (xnb hL rfl) ?_
  refine xr_goto C 29 4 dX8_which_29 rfl ?_
  exact xG.sub (hK4 _ _ h) ⟨rfl, rfl, rfl, rfl, trivial⟩
set_option maxRecDepth 100000 in
set_option maxHeartbeats 4000000 in
theorem bX8_which_i1_4b {Γ : xΓ} (C : xOK Γ cX8_which RX8 8) (hL : xn Γ = 4) {N : Nat} {K4 : Int32 → Int32 → Option Int32} {w : xW} {x2 : Int32} {x3 : Int32} {r : Int32} (E : xEnd Γ (some .int) w (some (.int r))) (hK4 : ∀ (x2 : Int32) (x3 : Int32), K4 x2 x3 = some r → xG Γ w 4 [(0, .ref (xad Γ 55)), (1, .ref (xad Γ 72)), (2, .int x2), (3, .int x3)] []) (h : fX8_which_i1_4b N w K4 x2 x3 = some r) : xG Γ w 4 [(0, .ref (xad Γ 55)), (1, .ref (xad Γ 72)), (2, .int x2), (3, .int x3)] [] := by
  unfold fX8_which_i1_4b at h
  refine xr_iload_n C 4 rfl dX8_which_4 ?_
  refine xr_aload_n C 5 rfl dX8_which_5 ?_
  refine xr_alen_t C 6 3 (by decide +kernel) dX8_which_6 rfl ?_
  refine xr_icmp_ge C 7 32 dX8_which_7 rfl (fun q => ?_) (fun q => ?_)
  · have h := g_it h q
    refine xr_iload_n C 32 rfl dX8_which_32 ?_
    cases h
    exact xr_iret C 33 E dX8_which_33
  · have h := g_if h q
    refine xr_aload_n C 10 rfl dX8_which_10 ?_
    refine xr_aload_n C 11 rfl dX8_which_11 ?_
    refine xr_iload_n C 12 rfl dX8_which_12 ?_
    obtain ⟨q1, h⟩ := g_ib h
    refine xr_aaldT C 13 dX8_which_13 rfl (ibd_in q1) ?_
    obtain ⟨z2, q3, h⟩ := g_bind h
    refine xr_callV C 14 (mX8_isWord q3) v_X8_isWord ml_X8_263 (Nat.le_of_ble_eq_true rfl) (Nat.le_of_ble_eq_true rfl) (xrecv C rfl rfl) rfl rfl (Nat.le_of_ble_eq_true rfl) rfl dX8_which_14 ?_
    refine xr_if_eq C 17 24 dX8_which_17 rfl (fun q => ?_) (fun q => ?_)
    · have h := g_it h q
      refine xr_iload_n C 24 rfl dX8_which_24 ?_
      exact xG.sub (bX8_which_i1_25 C hL E hK4 h) ⟨rfl, rfl, rfl, trivial⟩
    · have h := g_if h q
      refine xr_iload_n C 20 rfl dX8_which_20 ?_
      refine xr_goto C 21 25 dX8_which_21 rfl ?_
      exact xG.sub (bX8_which_i1_25 C hL E hK4 h) ⟨rfl, rfl, rfl, trivial⟩
set_option maxRecDepth 100000 in
set_option maxHeartbeats 4000000 in
theorem bX8_which_i1_4 {Γ : xΓ} (C : xOK Γ cX8_which RX8 8) (hL : xn Γ = 4) {N : Nat} {w : xW} {r : Int32} (E : xEnd Γ (some .int) w (some (.int r))) : ∀ (n : Nat) (x2 : Int32) (x3 : Int32), fX8_which_i1_4 N w n x2 x3 = some r → xG Γ w 4 [(0, .ref (xad Γ 55)), (1, .ref (xad Γ 72)), (2, .int x2), (3, .int x3)] []
  | 0, _, _, h => by cases h
  | n + 1, x2, x3, h => bX8_which_i1_4b C hL E (bX8_which_i1_4 C hL E n) h
set_option maxRecDepth 100000 in
set_option maxHeartbeats 4000000 in
theorem bX8_which_i1_0 {Γ : xΓ} (C : xOK Γ cX8_which RX8 8) (hL : xn Γ = 4) {N : Nat} {w : xW} {r : Int32} (E : xEnd Γ (some .int) w (some (.int r))) (h : fX8_which_i1_0 N w  = some r) : xG Γ w 0 [(0, .ref (xad Γ 55)), (1, .ref (xad Γ 72))] [] := by
  unfold fX8_which_i1_0 at h
  refine xr_iconst C 0 (-1) (by decide +kernel) dX8_which_0 ?_
  refine xr_istore_n C 1 dX8_which_1 (xnb hL rfl) ?_
  refine xr_iconst C 2 0 (by decide +kernel) dX8_which_2 ?_
  refine xr_istore_n C 3 dX8_which_3 (xnb hL rfl) ?_
  exact xG.sub (bX8_which_i1_4 C hL E N _ _ h) ⟨rfl, rfl, rfl, rfl, trivial⟩
set_option maxRecDepth 100000 in
set_option maxHeartbeats 4000000 in
theorem mX8_which_i1 {l : Launch} {ad : Nat → Nat} {G : gEnv} {N : Nat} {w : xW} {r : Int32} (h : fX8_which_i1 N w = some r) : xCt l ad G 8 yX8_which cX8_which 4 (some .int) [.ref (ad 55), .ref (ad 72)] w w (some (.int r)) := xCt.of RX8 rfl (by decide +kernel) (Nat.le_of_ble_eq_true rfl) (fun Γ el ea eG eL C E => by
    subst el
    subst ea
    subst eG
    unfold fX8_which_i1 at h
    exact xG.sub (bX8_which_i1_0 C eL  E h) ⟨rfl, rfl, trivial⟩)
def fX8_must_17 (N : Nat) (w : xW) (s0 : Int32) : Option xW :=
  if xB s0 = true then
  if ((sI w 55 23 s0).1 55 23) = 0 then
    (fX8_next N (sI w 55 23 s0)).bind fun z2 =>
    some z2
  else
  some (sI w 55 23 s0)
  else none
def fX8_must_0 (N : Nat) (w : xW) (x1 : Int32) : Option xW :=
  if (w.1 55 23) = 0 then
    if x1 = 0 then
      fX8_must_17 N w 1
    else
    fX8_must_17 N w 0
  else
  fX8_must_17 N w 1
def fX8_must (N : Nat) (w : xW) (x1 : Int32) : Option xW := fX8_must_0 N w x1
set_option maxRecDepth 100000 in
set_option maxHeartbeats 4000000 in
theorem bX8_must_17 {Γ : xΓ} (C : xOK Γ cX8_must RX8 3) (hL : xn Γ = 2) {N : Nat} {w : xW} {s0 : Int32} {r : xW} (E : xEnd Γ none r none) (h : fX8_must_17 N w s0 = some r) : xG Γ w 17 [(0, .ref (xad Γ 55))] [.int s0, .ref (xad Γ 55)] := by
  unfold fX8_must_17 at h
  obtain ⟨q1, h⟩ := g_bchk h
  refine xr_putZ C 17 dX8_must_17 fp_X8_250 rfl rfl q1 ?_
  refine xr_aload_n C 20 rfl dX8_must_20 ?_
  refine xr_getI C 21 dX8_must_21 fl_X8_250 rfl rfl ?_
  refine xr_if_ne C 24 31 dX8_must_24 rfl (fun q => ?_) (fun q => ?_)
  · have h := g_if h q
    cases h
    exact xr_vret C 31 E dX8_must_31
  · have h := g_it h q
    refine xr_aload_n C 27 rfl dX8_must_27 ?_
    obtain ⟨z2, q3, h⟩ := g_bind h
    refine xr_callV C 28 (mX8_next q3) v_X8_next ml_X8_253 (Nat.le_of_ble_eq_true rfl) (Nat.le_of_ble_eq_true rfl) (xrecv C rfl rfl) rfl rfl (Nat.le_of_ble_eq_true rfl) rfl dX8_must_28 ?_
    cases h
    exact xr_vret C 31 E dX8_must_31
set_option maxRecDepth 100000 in
set_option maxHeartbeats 4000000 in
theorem bX8_must_0 {Γ : xΓ} (C : xOK Γ cX8_must RX8 3) (hL : xn Γ = 2) {N : Nat} {w : xW} {x1 : Int32} {r : xW} (E : xEnd Γ none r none) (h : fX8_must_0 N w x1 = some r) : xG Γ w 0 [(0, .ref (xad Γ 55)), (1, .int x1)] [] := by
  unfold fX8_must_0 at h
  refine xr_aload_n C 0 rfl dX8_must_0 ?_
  refine xr_aload_n C 1 rfl dX8_must_1 ?_
  refine xr_getI C 2 dX8_must_2 fl_X8_250 rfl rfl ?_
  refine xr_if_ne C 5 12 dX8_must_5 rfl (fun q => ?_) (fun q => ?_)
  · have h := g_if h q
    refine xr_iconst C 12 1 (by decide +kernel) dX8_must_12 ?_
    refine xr_goto C 13 17 dX8_must_13 rfl ?_
    exact xG.sub (bX8_must_17 C hL E h) ⟨rfl, trivial⟩
  · have h := g_it h q
    refine xr_iload_n C 8 rfl dX8_must_8 ?_
    refine xr_if_ne C 9 16 dX8_must_9 rfl (fun q => ?_) (fun q => ?_)
    · have h := g_if h q
      refine xr_iconst C 16 0 (by decide +kernel) dX8_must_16 ?_
      exact xG.sub (bX8_must_17 C hL E h) ⟨rfl, trivial⟩
    · have h := g_it h q
      refine xr_iconst C 12 1 (by decide +kernel) dX8_must_12 ?_
      refine xr_goto C 13 17 dX8_must_13 rfl ?_
      exact xG.sub (bX8_must_17 C hL E h) ⟨rfl, trivial⟩
set_option maxRecDepth 100000 in
set_option maxHeartbeats 4000000 in
theorem mX8_must {l : Launch} {ad : Nat → Nat} {G : gEnv} {N : Nat} {w : xW} {x1 : Int32} {r : xW} (h : fX8_must N w x1 = some r) : xCt l ad G 3 yX8_must cX8_must 2 none [.ref (ad 55), .int x1] w r none := xCt.of RX8 rfl (by decide +kernel) (Nat.le_of_ble_eq_true rfl) (fun Γ el ea eG eL C E => by
    subst el
    subst ea
    subst eG
    unfold fX8_must at h
    exact xG.sub (bX8_must_0 C eL  E h) ⟨rfl, rfl, trivial⟩)
def fX8_number_28 (N : Nat) (w : xW) (x3 : Int32) (s0 : Int32) : Option (xW × Int32) :=
  (fX8_must N w s0).bind fun z1 =>
  some (z1, x3)
def fX8_number_0 (N : Nat) (w : xW) (x1 : Int32) (x2 : Int32) : Option (xW × Int32) :=
  if (w.1 55 21) = 2 then
    if (fX8_within (w.1 55 22) x1 x2) = 0 then
      fX8_number_28 N w (w.1 55 22) 0
    else
    fX8_number_28 N w (w.1 55 22) 1
  else
  fX8_number_28 N w (w.1 55 22) 0
def fX8_number (N : Nat) (w : xW) (x1 : Int32) (x2 : Int32) : Option (xW × Int32) := fX8_number_0 N w x1 x2
set_option maxRecDepth 100000 in
set_option maxHeartbeats 4000000 in
theorem bX8_number_28 {Γ : xΓ} (C : xOK Γ cX8_number RX8 4) (hL : xn Γ = 4) {N : Nat} {w : xW} {x3 : Int32} {s0 : Int32} {r : xW × Int32} (E : xEnd Γ (some .int) r.1 (some (.int r.2))) (h : fX8_number_28 N w x3 s0 = some r) : xG Γ w 28 [(3, .int x3)] [.int s0, .ref (xad Γ 55)] := by
  unfold fX8_number_28 at h
  obtain ⟨z1, q2, h⟩ := g_bind h
  refine xr_callV C 28 (mX8_must q2) v_X8_must ml_X8_256 (Nat.le_of_ble_eq_true rfl) (Nat.le_of_ble_eq_true rfl) (xrecv C rfl rfl) rfl rfl (Nat.le_of_ble_eq_true rfl) rfl dX8_number_28 ?_
  refine xr_iload_n C 31 rfl dX8_number_31 ?_
  cases h
  exact xr_iret C 32 E dX8_number_32
set_option maxRecDepth 100000 in
set_option maxHeartbeats 4000000 in
theorem bX8_number_0 {Γ : xΓ} (C : xOK Γ cX8_number RX8 4) (hL : xn Γ = 4) {N : Nat} {w : xW} {x1 : Int32} {x2 : Int32} {r : xW × Int32} (E : xEnd Γ (some .int) r.1 (some (.int r.2))) (h : fX8_number_0 N w x1 x2 = some r) : xG Γ w 0 [(0, .ref (xad Γ 55)), (1, .int x1), (2, .int x2)] [] := by
  unfold fX8_number_0 at h
  refine xr_aload_n C 0 rfl dX8_number_0 ?_
  refine xr_getI C 1 dX8_number_1 fl_X8_236 rfl rfl ?_
  refine xr_istore_n C 4 dX8_number_4 (xnb hL rfl) ?_
  refine xr_aload_n C 5 rfl dX8_number_5 ?_
  refine xr_aload_n C 6 rfl dX8_number_6 ?_
  refine xr_getI C 7 dX8_number_7 fl_X8_239 rfl rfl ?_
  refine xr_iconst C 10 2 (by decide +kernel) dX8_number_10 ?_
  refine xr_icmp_ne C 11 27 dX8_number_11 rfl (fun q => ?_) (fun q => ?_)
  · have h := g_if h q
    refine xr_iconst C 27 0 (by decide +kernel) dX8_number_27 ?_
    exact xG.sub (bX8_number_28 C hL E h) ⟨rfl, trivial⟩
  · have h := g_it h q
    refine xr_iload_n C 14 rfl dX8_number_14 ?_
    refine xr_iload_n C 15 rfl dX8_number_15 ?_
    refine xr_iload_n C 16 rfl dX8_number_16 ?_
    refine xr_callS C 17 (mX8_within rfl) v_X8_within ml_X8_121 (Nat.le_of_ble_eq_true rfl) (Nat.le_of_ble_eq_true rfl) rfl rfl (Nat.le_of_ble_eq_true rfl) rfl dX8_number_17 ?_
    refine xr_if_eq C 20 27 dX8_number_20 rfl (fun q => ?_) (fun q => ?_)
    · have h := g_it h q
      refine xr_iconst C 27 0 (by decide +kernel) dX8_number_27 ?_
      exact xG.sub (bX8_number_28 C hL E h) ⟨rfl, trivial⟩
    · have h := g_if h q
      refine xr_iconst C 23 1 (by decide +kernel) dX8_number_23 ?_
      refine xr_goto C 24 28 dX8_number_24 rfl ?_
      exact xG.sub (bX8_number_28 C hL E h) ⟨rfl, trivial⟩
set_option maxRecDepth 100000 in
set_option maxHeartbeats 4000000 in
theorem mX8_number {l : Launch} {ad : Nat → Nat} {G : gEnv} {N : Nat} {w : xW} {x1 : Int32} {x2 : Int32} {r : xW × Int32} (h : fX8_number N w x1 x2 = some r) : xCt l ad G 4 yX8_number cX8_number 4 (some .int) [.ref (ad 55), .int x1, .int x2] w r.1 (some (.int r.2)) := xCt.of RX8 rfl (by decide +kernel) (Nat.le_of_ble_eq_true rfl) (fun Γ el ea eG eL C E => by
    subst el
    subst ea
    subst eG
    unfold fX8_number at h
    exact xG.sub (bX8_number_0 C eL  E h) ⟨rfl, rfl, rfl, trivial⟩)
def fX8_item_63 (w : xW) (s0 : Int32) : Option xW :=
  some (sI w 55 27 (s0 + 1))
def fX8_item_0 (w : xW) (x1 : Int32) (x2 : Int32) (x3 : Int32) (x4 : Int32) (x5 : Int32) : Option xW :=
  if ibd (5 * (w.1 55 27)) 600 = true then
  if ibd ((5 * (w.1 55 27)) + 1) 600 = true then
  if ibd ((5 * (w.1 55 27)) + 2) 600 = true then
  if ibd ((5 * (w.1 55 27)) + 3) 600 = true then
  if ibd ((5 * (w.1 55 27)) + 4) 600 = true then
  fX8_item_63 (sI (sI (sI (sI (sI w 73 ((5 * (w.1 55 27)).toNatClampNeg) x1) 73 (((5 * (w.1 55 27)) + 1).toNatClampNeg) x2) 73 (((5 * (w.1 55 27)) + 2).toNatClampNeg) x3) 73 (((5 * (w.1 55 27)) + 3).toNatClampNeg) x4) 73 (((5 * (w.1 55 27)) + 4).toNatClampNeg) x5) ((sI (sI (sI (sI (sI w 73 ((5 * (w.1 55 27)).toNatClampNeg) x1) 73 (((5 * (w.1 55 27)) + 1).toNatClampNeg) x2) 73 (((5 * (w.1 55 27)) + 2).toNatClampNeg) x3) 73 (((5 * (w.1 55 27)) + 3).toNatClampNeg) x4) 73 (((5 * (w.1 55 27)) + 4).toNatClampNeg) x5).1 55 27)
  else none
  else none
  else none
  else none
  else none
def fX8_item (w : xW) (x1 : Int32) (x2 : Int32) (x3 : Int32) (x4 : Int32) (x5 : Int32) : Option xW := fX8_item_0 w x1 x2 x3 x4 x5
set_option maxRecDepth 100000 in
set_option maxHeartbeats 4000000 in
theorem bX8_item_63 {Γ : xΓ} (C : xOK Γ cX8_item RX8 1) (hL : xn Γ = 7) {w : xW} {s0 : Int32} {r : xW} (E : xEnd Γ none r none) (h : fX8_item_63  w s0 = some r) : xG Γ w 63 [] [.int s0, .ref (xad Γ 55)] := by
  unfold fX8_item_63 at h
  refine xr_iconst C 63 1 (by decide +kernel) dX8_item_63 ?_
  refine xr_iadd C 64 dX8_item_64 ?_
  refine xr_putI C 65 dX8_item_65 fp_X8_260 rfl rfl ?_
  cases h
  exact xr_vret C 68 E dX8_item_68
set_option maxRecDepth 100000 in
set_option maxHeartbeats 4000000 in
theorem bX8_item_0 {Γ : xΓ} (C : xOK Γ cX8_item RX8 1) (hL : xn Γ = 7) {w : xW} {x1 : Int32} {x2 : Int32} {x3 : Int32} {x4 : Int32} {x5 : Int32} {r : xW} (E : xEnd Γ none r none) (h : fX8_item_0  w x1 x2 x3 x4 x5 = some r) : xG Γ w 0 [(0, .ref (xad Γ 55)), (1, .int x1), (2, .int x2), (3, .int x3), (4, .int x4), (5, .int x5)] [] := by
  unfold fX8_item_0 at h
  refine xr_iconst C 0 5 (by decide +kernel) dX8_item_0 ?_
  refine xr_aload_n C 1 rfl dX8_item_1 ?_
  refine xr_getI C 2 dX8_item_2 fl_X8_260 rfl rfl ?_
  refine xr_imul C 5 dX8_item_5 ?_
  refine xr_istore C 6 dX8_item_6 (xnb hL rfl) ?_
  refine xr_aload_n C 8 rfl dX8_item_8 ?_
  refine xr_getR C 9 dX8_item_9 fl_X8_82 rfl rfl ?_
  refine xr_iload C 12 rfl dX8_item_12 ?_
  refine xr_iload_n C 14 rfl dX8_item_14 ?_
  obtain ⟨q1, h⟩ := g_ib h
  refine xr_iast C 15 ((5 * (w.1 55 27)).toNatClampNeg) rfl dX8_item_15 rfl (ibd_in q1) ?_
  refine xr_aload_n C 16 rfl dX8_item_16 ?_
  refine xr_getR C 17 dX8_item_17 fl_X8_82 rfl rfl ?_
  refine xr_iload C 20 rfl dX8_item_20 ?_
  refine xr_iconst C 22 1 (by decide +kernel) dX8_item_22 ?_
  refine xr_iadd C 23 dX8_item_23 ?_
  refine xr_iload_n C 24 rfl dX8_item_24 ?_
  obtain ⟨q2, h⟩ := g_ib h
  refine xr_iast C 25 (((5 * (w.1 55 27)) + 1).toNatClampNeg) rfl dX8_item_25 rfl (ibd_in q2) ?_
  refine xr_aload_n C 26 rfl dX8_item_26 ?_
  refine xr_getR C 27 dX8_item_27 fl_X8_82 rfl rfl ?_
  refine xr_iload C 30 rfl dX8_item_30 ?_
  refine xr_iconst C 32 2 (by decide +kernel) dX8_item_32 ?_
  refine xr_iadd C 33 dX8_item_33 ?_
  refine xr_iload_n C 34 rfl dX8_item_34 ?_
  obtain ⟨q3, h⟩ := g_ib h
  refine xr_iast C 35 (((5 * (w.1 55 27)) + 2).toNatClampNeg) rfl dX8_item_35 rfl (ibd_in q3) ?_
  refine xr_aload_n C 36 rfl dX8_item_36 ?_
  refine xr_getR C 37 dX8_item_37 fl_X8_82 rfl rfl ?_
  refine xr_iload C 40 rfl dX8_item_40 ?_
  refine xr_iconst C 42 3 (by decide +kernel) dX8_item_42 ?_
  refine xr_iadd C 43 dX8_item_43 ?_
  refine xr_iload C 44 rfl dX8_item_44 ?_
  obtain ⟨q4, h⟩ := g_ib h
  refine xr_iast C 46 (((5 * (w.1 55 27)) + 3).toNatClampNeg) rfl dX8_item_46 rfl (ibd_in q4) ?_
  refine xr_aload_n C 47 rfl dX8_item_47 ?_
  refine xr_getR C 48 dX8_item_48 fl_X8_82 rfl rfl ?_
  refine xr_iload C 51 rfl dX8_item_51 ?_
  refine xr_iconst C 53 4 (by decide +kernel) dX8_item_53 ?_
  refine xr_iadd C 54 dX8_item_54 ?_
  refine xr_iload C 55 rfl dX8_item_55 ?_
  obtain ⟨q5, h⟩ := g_ib h
  refine xr_iast C 57 (((5 * (w.1 55 27)) + 4).toNatClampNeg) rfl dX8_item_57 rfl (ibd_in q5) ?_
  refine xr_aload_n C 58 rfl dX8_item_58 ?_
  refine xr_dup C 59 rfl dX8_item_59 ?_
  refine xr_getI C 60 dX8_item_60 fl_X8_260 rfl rfl ?_
  exact xG.sub (bX8_item_63 C hL E h) trivial
set_option maxRecDepth 100000 in
set_option maxHeartbeats 4000000 in
theorem mX8_item {l : Launch} {ad : Nat → Nat} {G : gEnv} {w : xW} {x1 : Int32} {x2 : Int32} {x3 : Int32} {x4 : Int32} {x5 : Int32} {r : xW} (h : fX8_item w x1 x2 x3 x4 x5 = some r) : xCt l ad G 1 yX8_item cX8_item 7 none [.ref (ad 55), .int x1, .int x2, .int x3, .int x4, .int x5] w r none := xCt.of RX8 rfl (by decide +kernel) (Nat.le_of_ble_eq_true rfl) (fun Γ el ea eG eL C E => by
    subst el
    subst ea
    subst eG
    unfold fX8_item at h
    exact xG.sub (bX8_item_0 C eL  E h) ⟨rfl, rfl, rfl, rfl, rfl, rfl, trivial⟩)
def fX8_perhaps_0 (N : Nat) (j1 : Nat) (w : xW) (x2 : Int32) (x3 : Int32) (x4 : Int32) : Option (xW × Int32) :=
  if (w.1 55 23) = 0 then
    (fX8_isWord N w j1).bind fun z1 =>
    if z1 = 0 then
      some (w, x4)
    else
    (fX8_must N w 1).bind fun z3 =>
    (fX8_number N z3 x2 x3).bind fun z5 =>
    some (z5.1, z5.2)
  else
  some (w, x4)
def fX8_perhaps (N : Nat) (w : xW) (j1 : Nat) (x2 : Int32) (x3 : Int32) (x4 : Int32) : Option (xW × Int32) := if j1 < 17 then fX8_perhaps_0 N j1 w x2 x3 x4 else none
set_option maxRecDepth 100000 in
set_option maxHeartbeats 4000000 in
theorem bX8_perhaps_0 {Γ : xΓ} (C : xOK Γ cX8_perhaps RX8 8) (hL : xn Γ = 5) {N : Nat} {j1 : Nat} {w : xW} {x2 : Int32} {x3 : Int32} {x4 : Int32} {r : xW × Int32} (hj1 : j1 < 17) (E : xEnd Γ (some .int) r.1 (some (.int r.2))) (h : fX8_perhaps_0 N j1 w x2 x3 x4 = some r) : xG Γ w 0 [(0, .ref (xad Γ 55)), (1, .ref (adK (xE Γ) j1)), (2, .int x2), (3, .int x3), (4, .int x4)] [] := by
  unfold fX8_perhaps_0 at h
  refine xr_aload_n C 0 rfl dX8_perhaps_0 ?_
  refine xr_getI C 1 dX8_perhaps_1 fl_X8_250 rfl rfl ?_
  refine xr_if_ne C 4 15 dX8_perhaps_4 rfl (fun q => ?_) (fun q => ?_)
  · have h := g_if h q
    refine xr_iload C 15 rfl dX8_perhaps_15 ?_
    cases h
    exact xr_iret C 17 E dX8_perhaps_17
  · have h := g_it h q
    refine xr_aload_n C 7 rfl dX8_perhaps_7 ?_
    refine xr_aload_n C 8 rfl dX8_perhaps_8 ?_
    obtain ⟨z1, q2, h⟩ := g_bind h
    refine xr_callV C 9 (mX8_isWord q2) v_X8_isWord ml_X8_263 (Nat.le_of_ble_eq_true rfl) (Nat.le_of_ble_eq_true rfl) (xrecv C rfl rfl) rfl rfl (Nat.le_of_ble_eq_true rfl) rfl dX8_perhaps_9 ?_
    refine xr_if_ne C 12 18 dX8_perhaps_12 rfl (fun q => ?_) (fun q => ?_)
    · have h := g_if h q
      refine xr_aload_n C 18 rfl dX8_perhaps_18 ?_
      refine xr_iconst C 19 1 (by decide +kernel) dX8_perhaps_19 ?_
      obtain ⟨z3, q4, h⟩ := g_bind h
      refine xr_callV C 20 (mX8_must q4) v_X8_must ml_X8_256 (Nat.le_of_ble_eq_true rfl) (Nat.le_of_ble_eq_true rfl) (xrecv C rfl rfl) rfl rfl (Nat.le_of_ble_eq_true rfl) rfl dX8_perhaps_20 ?_
      refine xr_aload_n C 23 rfl dX8_perhaps_23 ?_
      refine xr_iload_n C 24 rfl dX8_perhaps_24 ?_
      refine xr_iload_n C 25 rfl dX8_perhaps_25 ?_
      obtain ⟨z5, q6, h⟩ := g_bind h
      refine xr_callV C 26 (mX8_number q6) v_X8_number ml_X8_267 (Nat.le_of_ble_eq_true rfl) (Nat.le_of_ble_eq_true rfl) (xrecv C rfl rfl) rfl rfl (Nat.le_of_ble_eq_true rfl) rfl dX8_perhaps_26 ?_
      cases h
      exact xr_iret C 29 E dX8_perhaps_29
    · have h := g_it h q
      refine xr_iload C 15 rfl dX8_perhaps_15 ?_
      cases h
      exact xr_iret C 17 E dX8_perhaps_17
set_option maxRecDepth 100000 in
set_option maxHeartbeats 4000000 in
theorem mX8_perhaps {l : Launch} {ad : Nat → Nat} {G : gEnv} {N : Nat} {w : xW} {j1 : Nat} {x2 : Int32} {x3 : Int32} {x4 : Int32} {r : xW × Int32} (h : fX8_perhaps N w j1 x2 x3 x4 = some r) : xCt l ad G 8 yX8_perhaps cX8_perhaps 5 (some .int) [.ref (ad 55), .ref (adK G j1), .int x2, .int x3, .int x4] w r.1 (some (.int r.2)) := xCt.of RX8 rfl (by decide +kernel) (Nat.le_of_ble_eq_true rfl) (fun Γ el ea eG eL C E => by
    subst el
    subst ea
    subst eG
    unfold fX8_perhaps at h
    obtain ⟨hj1, h⟩ := g_lt h
    exact xG.sub (bX8_perhaps_0 C eL hj1 E h) ⟨rfl, rfl, rfl, rfl, rfl, trivial⟩)
def fX8_readShip_23 (N : Nat) (w : xW) (s0 : Int32) : Option xW :=
  (fX8_must N w s0).bind fun z1 =>
  (fX8_number N (sI z1 55 29 ((z1.1 55 29) + 1)) 0 3).bind fun z3 =>
  (fX8_isWord N z3.1 10).bind fun z5 =>
  (fX8_must N z3.1 z5).bind fun z7 =>
  (fX8_number N z7 0 9999).bind fun z9 =>
  (fX8_isWord N z9.1 11).bind fun z11 =>
  (fX8_must N z9.1 z11).bind fun z13 =>
  (fX8_number N z13 1 40).bind fun z15 =>
  (fX8_perhaps N z15.1 12 0 3 (-1)).bind fun z17 =>
  (fX8_item z17.1 1 z3.2 z9.2 z15.2 z17.2).bind fun z19 =>
  some z19
def fX8_readShip_0 (N : Nat) (w : xW) : Option xW :=
  if 6 ≤ ((w.1 56 10) + (w.1 55 29)) then
    fX8_readShip_23 N w 0
  else
  fX8_readShip_23 N w 1
def fX8_readShip (N : Nat) (w : xW) : Option xW := fX8_readShip_0 N w
set_option maxRecDepth 100000 in
set_option maxHeartbeats 4000000 in
theorem bX8_readShip_23 {Γ : xΓ} (C : xOK Γ cX8_readShip RX8 9) (hL : xn Γ = 4) {N : Nat} {w : xW} {s0 : Int32} {r : xW} (E : xEnd Γ none r none) (h : fX8_readShip_23 N w s0 = some r) : xG Γ w 23 [(0, .ref (xad Γ 55))] [.int s0, .ref (xad Γ 55)] := by
  unfold fX8_readShip_23 at h
  obtain ⟨z1, q2, h⟩ := g_bind h
  refine xr_callV C 23 (mX8_must q2) v_X8_must ml_X8_256 (Nat.le_of_ble_eq_true rfl) (Nat.le_of_ble_eq_true rfl) (xrecv C rfl rfl) rfl rfl (Nat.le_of_ble_eq_true rfl) rfl dX8_readShip_23 ?_
  refine xr_aload_n C 26 rfl dX8_readShip_26 ?_
  refine xr_dup C 27 rfl dX8_readShip_27 ?_
  refine xr_getI C 28 dX8_readShip_28 fl_X8_301 rfl rfl ?_
  refine xr_iconst C 31 1 (by decide +kernel) dX8_readShip_31 ?_
  refine xr_iadd C 32 dX8_readShip_32 ?_
  refine xr_putI C 33 dX8_readShip_33 fp_X8_301 rfl rfl ?_
  refine xr_aload_n C 36 rfl dX8_readShip_36 ?_
  refine xr_iconst C 37 0 (by decide +kernel) dX8_readShip_37 ?_
  refine xr_iconst C 38 3 (by decide +kernel) dX8_readShip_38 ?_
  obtain ⟨z3, q4, h⟩ := g_bind h
  refine xr_callV C 39 (mX8_number q4) v_X8_number ml_X8_267 (Nat.le_of_ble_eq_true rfl) (Nat.le_of_ble_eq_true rfl) (xrecv C rfl rfl) rfl rfl (Nat.le_of_ble_eq_true rfl) rfl dX8_readShip_39 ?_
  refine xr_istore_n C 42 dX8_readShip_42 (xnb hL rfl) ?_
  refine xr_aload_n C 43 rfl dX8_readShip_43 ?_
  refine xr_aload_n C 44 rfl dX8_readShip_44 ?_
  refine xr_ldcSw C 45 dX8_readShip_45 s_X8_304 ?_
  obtain ⟨z5, q6, h⟩ := g_bind h
  refine xr_callV C 48 (mX8_isWord q6) v_X8_isWord ml_X8_263 (Nat.le_of_ble_eq_true rfl) (Nat.le_of_ble_eq_true rfl) (xrecv C rfl rfl) rfl rfl (Nat.le_of_ble_eq_true rfl) rfl dX8_readShip_48 ?_
  obtain ⟨z7, q8, h⟩ := g_bind h
  refine xr_callV C 51 (mX8_must q8) v_X8_must ml_X8_256 (Nat.le_of_ble_eq_true rfl) (Nat.le_of_ble_eq_true rfl) (xrecv C rfl rfl) rfl rfl (Nat.le_of_ble_eq_true rfl) rfl dX8_readShip_51 ?_
  refine xr_aload_n C 54 rfl dX8_readShip_54 ?_
  refine xr_iconst C 55 0 (by decide +kernel) dX8_readShip_55 ?_
  refine xr_sipush C 56 9999 (by decide +kernel) dX8_readShip_56 ?_
  obtain ⟨z9, q10, h⟩ := g_bind h
  refine xr_callV C 59 (mX8_number q10) v_X8_number ml_X8_267 (Nat.le_of_ble_eq_true rfl) (Nat.le_of_ble_eq_true rfl) (xrecv C rfl rfl) rfl rfl (Nat.le_of_ble_eq_true rfl) rfl dX8_readShip_59 ?_
  refine xr_istore_n C 62 dX8_readShip_62 (xnb hL rfl) ?_
  refine xr_aload_n C 63 rfl dX8_readShip_63 ?_
  refine xr_aload_n C 64 rfl dX8_readShip_64 ?_
  refine xr_ldcSw C 65 dX8_readShip_65 s_X8_306 ?_
  obtain ⟨z11, q12, h⟩ := g_bind h
  refine xr_callV C 68 (mX8_isWord q12) v_X8_isWord ml_X8_263 (Nat.le_of_ble_eq_true rfl) (Nat.le_of_ble_eq_true rfl) (xrecv C rfl rfl) rfl rfl (Nat.le_of_ble_eq_true rfl) rfl dX8_readShip_68 ?_
  obtain ⟨z13, q14, h⟩ := g_bind h
  refine xr_callV C 71 (mX8_must q14) v_X8_must ml_X8_256 (Nat.le_of_ble_eq_true rfl) (Nat.le_of_ble_eq_true rfl) (xrecv C rfl rfl) rfl rfl (Nat.le_of_ble_eq_true rfl) rfl dX8_readShip_71 ?_
  refine xr_aload_n C 74 rfl dX8_readShip_74 ?_
  refine xr_iconst C 75 1 (by decide +kernel) dX8_readShip_75 ?_
  refine xr_bipush C 76 40 (by decide +kernel) dX8_readShip_76 ?_
  obtain ⟨z15, q16, h⟩ := g_bind h
  refine xr_callV C 78 (mX8_number q16) v_X8_number ml_X8_267 (Nat.le_of_ble_eq_true rfl) (Nat.le_of_ble_eq_true rfl) (xrecv C rfl rfl) rfl rfl (Nat.le_of_ble_eq_true rfl) rfl dX8_readShip_78 ?_
  refine xr_istore_n C 81 dX8_readShip_81 (xnb hL rfl) ?_
  refine xr_aload_n C 82 rfl dX8_readShip_82 ?_
  refine xr_iconst C 83 1 (by decide +kernel) dX8_readShip_83 ?_
  refine xr_iload_n C 84 rfl dX8_readShip_84 ?_
  refine xr_iload_n C 85 rfl dX8_readShip_85 ?_
  refine xr_iload_n C 86 rfl dX8_readShip_86 ?_
  refine xr_aload_n C 87 rfl dX8_readShip_87 ?_
  refine xr_ldcSw C 88 dX8_readShip_88 s_X8_308 ?_
  refine xr_iconst C 91 0 (by decide +kernel) dX8_readShip_91 ?_
  refine xr_iconst C 92 3 (by decide +kernel) dX8_readShip_92 ?_
  refine xr_iconst C 93 (-1) (by decide +kernel) dX8_readShip_93 ?_
  obtain ⟨z17, q18, h⟩ := g_bind h
  refine xr_callV C 94 (mX8_perhaps q18) v_X8_perhaps ml_X8_294 (Nat.le_of_ble_eq_true rfl) (Nat.le_of_ble_eq_true rfl) (xrecv C rfl rfl) rfl rfl (Nat.le_of_ble_eq_true rfl) rfl dX8_readShip_94 ?_
  obtain ⟨z19, q20, h⟩ := g_bind h
  refine xr_callV C 97 (mX8_item q20) v_X8_item ml_X8_277 (Nat.le_of_ble_eq_true rfl) (Nat.le_of_ble_eq_true rfl) (xrecv C rfl rfl) rfl rfl (Nat.le_of_ble_eq_true rfl) rfl dX8_readShip_97 ?_
  cases h
  exact xr_vret C 100 E dX8_readShip_100
set_option maxRecDepth 100000 in
set_option maxHeartbeats 4000000 in
theorem bX8_readShip_0 {Γ : xΓ} (C : xOK Γ cX8_readShip RX8 9) (hL : xn Γ = 4) {N : Nat} {w : xW} {r : xW} (E : xEnd Γ none r none) (h : fX8_readShip_0 N w = some r) : xG Γ w 0 [(0, .ref (xad Γ 55))] [] := by
  unfold fX8_readShip_0 at h
  refine xr_aload_n C 0 rfl dX8_readShip_0 ?_
  refine xr_aload_n C 1 rfl dX8_readShip_1 ?_
  refine xr_getR C 2 dX8_readShip_2 fl_X8_9 rfl rfl ?_
  refine xr_bipush C 5 10 (by decide +kernel) dX8_readShip_5 ?_
  refine xr_iald C 7 10 (by decide +kernel) dX8_readShip_7 rfl (ibd_in (by decide +kernel)) ?_
  refine xr_aload_n C 8 rfl dX8_readShip_8 ?_
  refine xr_getI C 9 dX8_readShip_9 fl_X8_301 rfl rfl ?_
  refine xr_iadd C 12 dX8_readShip_12 ?_
  refine xr_bipush C 13 6 (by decide +kernel) dX8_readShip_13 ?_
  refine xr_icmp_ge C 15 22 dX8_readShip_15 rfl (fun q => ?_) (fun q => ?_)
  · have h := g_it h q
    refine xr_iconst C 22 0 (by decide +kernel) dX8_readShip_22 ?_
    exact xG.sub (bX8_readShip_23 C hL E h) ⟨rfl, trivial⟩
  · have h := g_if h q
    refine xr_iconst C 18 1 (by decide +kernel) dX8_readShip_18 ?_
    refine xr_goto C 19 23 dX8_readShip_19 rfl ?_
    exact xG.sub (bX8_readShip_23 C hL E h) ⟨rfl, trivial⟩
set_option maxRecDepth 100000 in
set_option maxHeartbeats 4000000 in
theorem mX8_readShip {l : Launch} {ad : Nat → Nat} {G : gEnv} {N : Nat} {w : xW} {r : xW} (h : fX8_readShip N w = some r) : xCt l ad G 9 yX8_readShip cX8_readShip 4 none [.ref (ad 55)] w r none := xCt.of RX8 rfl (by decide +kernel) (Nat.le_of_ble_eq_true rfl) (fun Γ el ea eG eL C E => by
    subst el
    subst ea
    subst eG
    unfold fX8_readShip at h
    exact xG.sub (bX8_readShip_0 C eL  E h) ⟨rfl, trivial⟩)
def fX8_readSet_73 (N : Nat) (w : xW) (x1 : Int32) (x3 : Int32) : Option xW :=
  (fX8_item w 3 x1 x3 0 0).bind fun z7 =>
  some z7
def fX8_readSet_68 (N : Nat) (K28 : xW → Int32 → Int32 → Int32 → Option xW) (w : xW) (x1 : Int32) (x2 : Int32) (s0 : Int32) (s1 : Int32) : Option xW :=
  K28 w x1 x2 (s1 ||| s0)
def fX8_readSet_28b (N : Nat) (K28 : xW → Int32 → Int32 → Int32 → Option xW) (w : xW) (x1 : Int32) (x2 : Int32) (x3 : Int32) : Option xW :=
  if (w.1 55 23) = 0 then
    if (w.1 55 21) = 2 then
      (fX8_number N w (x2 + 1) 29).bind fun z5 =>
      if (z5.1.1 55 23) = 0 then
        fX8_readSet_68 N K28 z5.1 x1 z5.2 (1 <<< (z5.2 &&& 31)) x3
      else
      fX8_readSet_68 N K28 z5.1 x1 z5.2 0 x3
    else
    fX8_readSet_73 N w x1 x3
  else
  fX8_readSet_73 N w x1 x3
def fX8_readSet_28 (N : Nat) : Nat → xW → Int32 → Int32 → Int32 → Option xW
  | 0, _, _, _, _ => none
  | n + 1, w, x1, x2, x3 => fX8_readSet_28b N (fX8_readSet_28 N n) w x1 x2 x3
def fX8_readSet_27 (N : Nat) (w : xW) (x1 : Int32) (x2 : Int32) (s0 : Int32) : Option xW :=
  fX8_readSet_28 N N w x1 x2 s0
def fX8_readSet_0 (N : Nat) (w : xW) (x1 : Int32) : Option xW :=
  (fX8_must N w 1).bind fun z1 =>
  (fX8_number N z1 0 29).bind fun z3 =>
  if (z3.1.1 55 23) = 0 then
    fX8_readSet_27 N z3.1 x1 z3.2 (1 <<< (z3.2 &&& 31))
  else
  fX8_readSet_27 N z3.1 x1 z3.2 0
def fX8_readSet (N : Nat) (w : xW) (x1 : Int32) : Option xW := fX8_readSet_0 N w x1
set_option maxRecDepth 100000 in
set_option maxHeartbeats 4000000 in
theorem bX8_readSet_73 {Γ : xΓ} (C : xOK Γ cX8_readSet RX8 5) (hL : xn Γ = 4) {N : Nat} {w : xW} {x1 : Int32} {x3 : Int32} {r : xW} (E : xEnd Γ none r none) (h : fX8_readSet_73 N w x1 x3 = some r) : xG Γ w 73 [(0, .ref (xad Γ 55)), (1, .int x1), (3, .int x3)] [] := by
  unfold fX8_readSet_73 at h
  refine xr_aload_n C 73 rfl dX8_readSet_73 ?_
  refine xr_iconst C 74 3 (by decide +kernel) dX8_readSet_74 ?_
  refine xr_iload_n C 75 rfl dX8_readSet_75 ?_
  refine xr_iload_n C 76 rfl dX8_readSet_76 ?_
  refine xr_iconst C 77 0 (by decide +kernel) dX8_readSet_77 ?_
  refine xr_iconst C 78 0 (by decide +kernel) dX8_readSet_78 ?_
  obtain ⟨z7, q8, h⟩ := g_bind h
  refine xr_callV C 79 (mX8_item q8) v_X8_item ml_X8_277 (Nat.le_of_ble_eq_true rfl) (Nat.le_of_ble_eq_true rfl) (xrecv C rfl rfl) rfl rfl (Nat.le_of_ble_eq_true rfl) rfl dX8_readSet_79 ?_
  cases h
  exact xr_vret C 82 E dX8_readSet_82
set_option maxRecDepth 100000 in
set_option maxHeartbeats 4000000 in
theorem bX8_readSet_68 {Γ : xΓ} (C : xOK Γ cX8_readSet RX8 5) (hL : xn Γ = 4) {N : Nat} {K28 : xW → Int32 → Int32 → Int32 → Option xW} {w : xW} {x1 : Int32} {x2 : Int32} {s0 : Int32} {s1 : Int32} {r : xW} (E : xEnd Γ none r none) (hK28 : ∀ (w : xW) (x1 : Int32) (x2 : Int32) (x3 : Int32), K28 w x1 x2 x3 = some r → xG Γ w 28 [(0, .ref (xad Γ 55)), (1, .int x1), (2, .int x2), (3, .int x3)] []) (h : fX8_readSet_68 N K28 w x1 x2 s0 s1 = some r) : xG Γ w 68 [(0, .ref (xad Γ 55)), (1, .int x1), (2, .int x2)] [.int s0, .int s1] := by
  unfold fX8_readSet_68 at h
  refine xr_ior C 68 dX8_readSet_68 ?_
  refine xr_istore_n C 69 dX8_readSet_69 (xnb hL rfl) ?_
  refine xr_goto C 70 28 dX8_readSet_70 rfl ?_
  exact xG.sub (hK28 _ _ _ _ h) ⟨rfl, rfl, rfl, rfl, trivial⟩
set_option maxRecDepth 100000 in
set_option maxHeartbeats 4000000 in
theorem bX8_readSet_28b {Γ : xΓ} (C : xOK Γ cX8_readSet RX8 5) (hL : xn Γ = 4) {N : Nat} {K28 : xW → Int32 → Int32 → Int32 → Option xW} {w : xW} {x1 : Int32} {x2 : Int32} {x3 : Int32} {r : xW} (E : xEnd Γ none r none) (hK28 : ∀ (w : xW) (x1 : Int32) (x2 : Int32) (x3 : Int32), K28 w x1 x2 x3 = some r → xG Γ w 28 [(0, .ref (xad Γ 55)), (1, .int x1), (2, .int x2), (3, .int x3)] []) (h : fX8_readSet_28b N K28 w x1 x2 x3 = some r) : xG Γ w 28 [(0, .ref (xad Γ 55)), (1, .int x1), (2, .int x2), (3, .int x3)] [] := by
  unfold fX8_readSet_28b at h
  refine xr_aload_n C 28 rfl dX8_readSet_28 ?_
  refine xr_getI C 29 dX8_readSet_29 fl_X8_250 rfl rfl ?_
  refine xr_if_ne C 32 73 dX8_readSet_32 rfl (fun q => ?_) (fun q => ?_)
  · have h := g_if h q
    exact xG.sub (bX8_readSet_73 C hL E h) ⟨rfl, rfl, rfl, trivial⟩
  · have h := g_it h q
    refine xr_aload_n C 35 rfl dX8_readSet_35 ?_
    refine xr_getI C 36 dX8_readSet_36 fl_X8_239 rfl rfl ?_
    refine xr_iconst C 39 2 (by decide +kernel) dX8_readSet_39 ?_
    refine xr_icmp_ne C 40 73 dX8_readSet_40 rfl (fun q => ?_) (fun q => ?_)
    · have h := g_if h q
      exact xG.sub (bX8_readSet_73 C hL E h) ⟨rfl, rfl, rfl, trivial⟩
    · have h := g_it h q
      refine xr_aload_n C 43 rfl dX8_readSet_43 ?_
      refine xr_iload_n C 44 rfl dX8_readSet_44 ?_
      refine xr_iconst C 45 1 (by decide +kernel) dX8_readSet_45 ?_
      refine xr_iadd C 46 dX8_readSet_46 ?_
      refine xr_bipush C 47 29 (by decide +kernel) dX8_readSet_47 ?_
      obtain ⟨z5, q6, h⟩ := g_bind h
      refine xr_callV C 49 (mX8_number q6) v_X8_number ml_X8_267 (Nat.le_of_ble_eq_true rfl) (Nat.le_of_ble_eq_true rfl) (xrecv C rfl rfl) rfl rfl (Nat.le_of_ble_eq_true rfl) rfl dX8_readSet_49 ?_
      refine xr_istore_n C 52 dX8_readSet_52 (xnb hL rfl) ?_
      refine xr_iload_n C 53 rfl dX8_readSet_53 ?_
      refine xr_aload_n C 54 rfl dX8_readSet_54 ?_
      refine xr_getI C 55 dX8_readSet_55 fl_X8_250 rfl rfl ?_
      refine xr_if_eq C 58 65 dX8_readSet_58 rfl (fun q => ?_) (fun q => ?_)
      · have h := g_it h q
        refine xr_iconst C 65 1 (by decide +kernel) dX8_readSet_65 ?_
        refine xr_iload_n C 66 rfl dX8_readSet_66 ?_
        refine xr_ishl C 67 dX8_readSet_67 ?_
        exact xG.sub (bX8_readSet_68 C hL E hK28 h) ⟨rfl, rfl, rfl, trivial⟩
      · have h := g_if h q
        refine xr_iconst C 61 0 (by decide +kernel) dX8_readSet_61 ?_
        refine xr_goto C 62 68 dX8_readSet_62 rfl ?_
        exact xG.sub (bX8_readSet_68 C hL E hK28 h) ⟨rfl, rfl, rfl, trivial⟩
set_option maxRecDepth 100000 in
set_option maxHeartbeats 4000000 in
theorem bX8_readSet_28 {Γ : xΓ} (C : xOK Γ cX8_readSet RX8 5) (hL : xn Γ = 4) {N : Nat} {r : xW} (E : xEnd Γ none r none) : ∀ (n : Nat) (w : xW) (x1 : Int32) (x2 : Int32) (x3 : Int32), fX8_readSet_28 N n w x1 x2 x3 = some r → xG Γ w 28 [(0, .ref (xad Γ 55)), (1, .int x1), (2, .int x2), (3, .int x3)] []
  | 0, _, _, _, _, h => by cases h
  | n + 1, w, x1, x2, x3, h => bX8_readSet_28b C hL E (bX8_readSet_28 C hL E n) h
set_option maxRecDepth 100000 in
set_option maxHeartbeats 4000000 in
theorem bX8_readSet_27 {Γ : xΓ} (C : xOK Γ cX8_readSet RX8 5) (hL : xn Γ = 4) {N : Nat} {w : xW} {x1 : Int32} {x2 : Int32} {s0 : Int32} {r : xW} (E : xEnd Γ none r none) (h : fX8_readSet_27 N w x1 x2 s0 = some r) : xG Γ w 27 [(0, .ref (xad Γ 55)), (1, .int x1), (2, .int x2)] [.int s0] := by
  unfold fX8_readSet_27 at h
  refine xr_istore_n C 27 dX8_readSet_27 (xnb hL rfl) ?_
  exact xG.sub (bX8_readSet_28 C hL E N _ _ _ _ h) ⟨rfl, rfl, rfl, rfl, trivial⟩
set_option maxRecDepth 100000 in
set_option maxHeartbeats 4000000 in
theorem bX8_readSet_0 {Γ : xΓ} (C : xOK Γ cX8_readSet RX8 5) (hL : xn Γ = 4) {N : Nat} {w : xW} {x1 : Int32} {r : xW} (E : xEnd Γ none r none) (h : fX8_readSet_0 N w x1 = some r) : xG Γ w 0 [(0, .ref (xad Γ 55)), (1, .int x1)] [] := by
  unfold fX8_readSet_0 at h
  refine xr_aload_n C 0 rfl dX8_readSet_0 ?_
  refine xr_iconst C 1 1 (by decide +kernel) dX8_readSet_1 ?_
  obtain ⟨z1, q2, h⟩ := g_bind h
  refine xr_callV C 2 (mX8_must q2) v_X8_must ml_X8_256 (Nat.le_of_ble_eq_true rfl) (Nat.le_of_ble_eq_true rfl) (xrecv C rfl rfl) rfl rfl (Nat.le_of_ble_eq_true rfl) rfl dX8_readSet_2 ?_
  refine xr_aload_n C 5 rfl dX8_readSet_5 ?_
  refine xr_iconst C 6 0 (by decide +kernel) dX8_readSet_6 ?_
  refine xr_bipush C 7 29 (by decide +kernel) dX8_readSet_7 ?_
  obtain ⟨z3, q4, h⟩ := g_bind h
  refine xr_callV C 9 (mX8_number q4) v_X8_number ml_X8_267 (Nat.le_of_ble_eq_true rfl) (Nat.le_of_ble_eq_true rfl) (xrecv C rfl rfl) rfl rfl (Nat.le_of_ble_eq_true rfl) rfl dX8_readSet_9 ?_
  refine xr_istore_n C 12 dX8_readSet_12 (xnb hL rfl) ?_
  refine xr_aload_n C 13 rfl dX8_readSet_13 ?_
  refine xr_getI C 14 dX8_readSet_14 fl_X8_250 rfl rfl ?_
  refine xr_if_eq C 17 24 dX8_readSet_17 rfl (fun q => ?_) (fun q => ?_)
  · have h := g_it h q
    refine xr_iconst C 24 1 (by decide +kernel) dX8_readSet_24 ?_
    refine xr_iload_n C 25 rfl dX8_readSet_25 ?_
    refine xr_ishl C 26 dX8_readSet_26 ?_
    exact xG.sub (bX8_readSet_27 C hL E h) ⟨rfl, rfl, rfl, trivial⟩
  · have h := g_if h q
    refine xr_iconst C 20 0 (by decide +kernel) dX8_readSet_20 ?_
    refine xr_goto C 21 27 dX8_readSet_21 rfl ?_
    exact xG.sub (bX8_readSet_27 C hL E h) ⟨rfl, rfl, rfl, trivial⟩
set_option maxRecDepth 100000 in
set_option maxHeartbeats 4000000 in
theorem mX8_readSet {l : Launch} {ad : Nat → Nat} {G : gEnv} {N : Nat} {w : xW} {x1 : Int32} {r : xW} (h : fX8_readSet N w x1 = some r) : xCt l ad G 5 yX8_readSet cX8_readSet 4 none [.ref (ad 55), .int x1] w r none := xCt.of RX8 rfl (by decide +kernel) (Nat.le_of_ble_eq_true rfl) (fun Γ el ea eG eL C E => by
    subst el
    subst ea
    subst eG
    unfold fX8_readSet at h
    exact xG.sub (bX8_readSet_0 C eL  E h) ⟨rfl, rfl, trivial⟩)
def fX8_readItem_45 (N : Nat) (w : xW) (x1 : Int32) (s0 : Int32) : Option xW :=
  (fX8_must N w s0).bind fun z33 =>
  (fX8_number N (sI z33 55 28 ((z33.1 55 28) + 1)) 0 3).bind fun z35 =>
  (fX8_item z35.1 0 x1 z35.2 0 0).bind fun z37 =>
  some z37
def fX8_readItem_0 (N : Nat) (w : xW) : Option xW :=
  (fX8_which N w).bind fun z1 =>
  (fX8_which_i1 N w).bind fun z3 =>
  if z1 < 0 then
    if z3 < 0 then
      (fX8_isWord N w 9).bind fun z5 =>
      if z5 = 0 then
        (fX8_isWord N w 13).bind fun z7 =>
        if z7 = 0 then
          (fX8_isWord N w 16).bind fun z9 =>
          (fX8_must N w z9).bind fun z11 =>
          (fX8_number N z11 0 3).bind fun z13 =>
          (fX8_number N z13.1 0 9).bind fun z15 =>
          (fX8_item z15.1 4 z13.2 z15.2 0 0).bind fun z17 =>
          some z17
        else
        (fX8_must N w 1).bind fun z19 =>
        (fX8_number N z19 0 400).bind fun z21 =>
        (fX8_perhaps N z21.1 14 16 400 (-1)).bind fun z23 =>
        (fX8_perhaps N z23.1 15 1 7 (-1)).bind fun z25 =>
        (fX8_item z25.1 2 z21.2 z23.2 z25.2 0).bind fun z27 =>
        some z27
      else
      (fX8_readShip N w).bind fun z29 =>
      some z29
    else
    (fX8_readSet N w z3).bind fun z31 =>
    some z31
  else
  if 8 ≤ ((w.1 56 9) + (w.1 55 28)) then
    fX8_readItem_45 N w z1 0
  else
  fX8_readItem_45 N w z1 1
def fX8_readItem (N : Nat) (w : xW) : Option xW := fX8_readItem_0 N w
set_option maxRecDepth 100000 in
set_option maxHeartbeats 4000000 in
theorem bX8_readItem_45 {Γ : xΓ} (C : xOK Γ cX8_readItem RX8 10) (hL : xn Γ = 5) {N : Nat} {w : xW} {x1 : Int32} {s0 : Int32} {r : xW} (E : xEnd Γ none r none) (h : fX8_readItem_45 N w x1 s0 = some r) : xG Γ w 45 [(0, .ref (xad Γ 55)), (1, .int x1)] [.int s0, .ref (xad Γ 55)] := by
  unfold fX8_readItem_45 at h
  obtain ⟨z33, q34, h⟩ := g_bind h
  refine xr_callV C 45 (mX8_must q34) v_X8_must ml_X8_256 (Nat.le_of_ble_eq_true rfl) (Nat.le_of_ble_eq_true rfl) (xrecv C rfl rfl) rfl rfl (Nat.le_of_ble_eq_true rfl) rfl dX8_readItem_45 ?_
  refine xr_aload_n C 48 rfl dX8_readItem_48 ?_
  refine xr_dup C 49 rfl dX8_readItem_49 ?_
  refine xr_getI C 50 dX8_readItem_50 fl_X8_274 rfl rfl ?_
  refine xr_iconst C 53 1 (by decide +kernel) dX8_readItem_53 ?_
  refine xr_iadd C 54 dX8_readItem_54 ?_
  refine xr_putI C 55 dX8_readItem_55 fp_X8_274 rfl rfl ?_
  refine xr_aload_n C 58 rfl dX8_readItem_58 ?_
  refine xr_iconst C 59 0 (by decide +kernel) dX8_readItem_59 ?_
  refine xr_iload_n C 60 rfl dX8_readItem_60 ?_
  refine xr_aload_n C 61 rfl dX8_readItem_61 ?_
  refine xr_iconst C 62 0 (by decide +kernel) dX8_readItem_62 ?_
  refine xr_iconst C 63 3 (by decide +kernel) dX8_readItem_63 ?_
  obtain ⟨z35, q36, h⟩ := g_bind h
  refine xr_callV C 64 (mX8_number q36) v_X8_number ml_X8_267 (Nat.le_of_ble_eq_true rfl) (Nat.le_of_ble_eq_true rfl) (xrecv C rfl rfl) rfl rfl (Nat.le_of_ble_eq_true rfl) rfl dX8_readItem_64 ?_
  refine xr_iconst C 67 0 (by decide +kernel) dX8_readItem_67 ?_
  refine xr_iconst C 68 0 (by decide +kernel) dX8_readItem_68 ?_
  obtain ⟨z37, q38, h⟩ := g_bind h
  refine xr_callV C 69 (mX8_item q38) v_X8_item ml_X8_277 (Nat.le_of_ble_eq_true rfl) (Nat.le_of_ble_eq_true rfl) (xrecv C rfl rfl) rfl rfl (Nat.le_of_ble_eq_true rfl) rfl dX8_readItem_69 ?_
  refine xr_goto C 72 199 dX8_readItem_72 rfl ?_
  cases h
  exact xr_vret C 199 E dX8_readItem_199
set_option maxRecDepth 100000 in
set_option maxHeartbeats 4000000 in
theorem bX8_readItem_0 {Γ : xΓ} (C : xOK Γ cX8_readItem RX8 10) (hL : xn Γ = 5) {N : Nat} {w : xW} {r : xW} (E : xEnd Γ none r none) (h : fX8_readItem_0 N w = some r) : xG Γ w 0 [(0, .ref (xad Γ 55))] [] := by
  unfold fX8_readItem_0 at h
  refine xr_aload_n C 0 rfl dX8_readItem_0 ?_
  refine xr_aload_n C 1 rfl dX8_readItem_1 ?_
  refine xr_getR C 2 dX8_readItem_2 fl_X8_69 rfl rfl ?_
  obtain ⟨z1, q2, h⟩ := g_bind h
  refine xr_callV C 5 (mX8_which q2) v_X8_which ml_X8_270 (Nat.le_of_ble_eq_true rfl) (Nat.le_of_ble_eq_true rfl) (xrecv C rfl rfl) rfl rfl (Nat.le_of_ble_eq_true rfl) rfl dX8_readItem_5 ?_
  refine xr_istore_n C 8 dX8_readItem_8 (xnb hL rfl) ?_
  refine xr_aload_n C 9 rfl dX8_readItem_9 ?_
  refine xr_aload_n C 10 rfl dX8_readItem_10 ?_
  refine xr_getR C 11 dX8_readItem_11 fl_X8_79 rfl rfl ?_
  obtain ⟨z3, q4, h⟩ := g_bind h
  refine xr_callV C 14 (mX8_which_i1 q4) v_X8_which ml_X8_270 (Nat.le_of_ble_eq_true rfl) (Nat.le_of_ble_eq_true rfl) (xrecv C rfl rfl) rfl rfl (Nat.le_of_ble_eq_true rfl) rfl dX8_readItem_14 ?_
  refine xr_istore_n C 17 dX8_readItem_17 (xnb hL rfl) ?_
  refine xr_iload_n C 18 rfl dX8_readItem_18 ?_
  refine xr_if_lt C 19 75 dX8_readItem_19 rfl (fun q => ?_) (fun q => ?_)
  · have h := g_it h q
    refine xr_iload_n C 75 rfl dX8_readItem_75 ?_
    refine xr_if_lt C 76 87 dX8_readItem_76 rfl (fun q => ?_) (fun q => ?_)
    · have h := g_it h q
      refine xr_aload_n C 87 rfl dX8_readItem_87 ?_
      refine xr_ldcSw C 88 dX8_readItem_88 s_X8_285 ?_
      obtain ⟨z5, q6, h⟩ := g_bind h
      refine xr_callV C 91 (mX8_isWord q6) v_X8_isWord ml_X8_263 (Nat.le_of_ble_eq_true rfl) (Nat.le_of_ble_eq_true rfl) (xrecv C rfl rfl) rfl rfl (Nat.le_of_ble_eq_true rfl) rfl dX8_readItem_91 ?_
      refine xr_if_eq C 94 104 dX8_readItem_94 rfl (fun q => ?_) (fun q => ?_)
      · have h := g_it h q
        refine xr_aload_n C 104 rfl dX8_readItem_104 ?_
        refine xr_ldcSw C 105 dX8_readItem_105 s_X8_290 ?_
        obtain ⟨z7, q8, h⟩ := g_bind h
        refine xr_callV C 108 (mX8_isWord q8) v_X8_isWord ml_X8_263 (Nat.le_of_ble_eq_true rfl) (Nat.le_of_ble_eq_true rfl) (xrecv C rfl rfl) rfl rfl (Nat.le_of_ble_eq_true rfl) rfl dX8_readItem_108 ?_
        refine xr_if_eq C 111 166 dX8_readItem_111 rfl (fun q => ?_) (fun q => ?_)
        · have h := g_it h q
          refine xr_aload_n C 166 rfl dX8_readItem_166 ?_
          refine xr_aload_n C 167 rfl dX8_readItem_167 ?_
          refine xr_ldcSw C 168 dX8_readItem_168 s_X8_299 ?_
          obtain ⟨z9, q10, h⟩ := g_bind h
          refine xr_callV C 171 (mX8_isWord q10) v_X8_isWord ml_X8_263 (Nat.le_of_ble_eq_true rfl) (Nat.le_of_ble_eq_true rfl) (xrecv C rfl rfl) rfl rfl (Nat.le_of_ble_eq_true rfl) rfl dX8_readItem_171 ?_
          obtain ⟨z11, q12, h⟩ := g_bind h
          refine xr_callV C 174 (mX8_must q12) v_X8_must ml_X8_256 (Nat.le_of_ble_eq_true rfl) (Nat.le_of_ble_eq_true rfl) (xrecv C rfl rfl) rfl rfl (Nat.le_of_ble_eq_true rfl) rfl dX8_readItem_174 ?_
          refine xr_aload_n C 177 rfl dX8_readItem_177 ?_
          refine xr_iconst C 178 0 (by decide +kernel) dX8_readItem_178 ?_
          refine xr_iconst C 179 3 (by decide +kernel) dX8_readItem_179 ?_
          obtain ⟨z13, q14, h⟩ := g_bind h
          refine xr_callV C 180 (mX8_number q14) v_X8_number ml_X8_267 (Nat.le_of_ble_eq_true rfl) (Nat.le_of_ble_eq_true rfl) (xrecv C rfl rfl) rfl rfl (Nat.le_of_ble_eq_true rfl) rfl dX8_readItem_180 ?_
          refine xr_istore_n C 183 dX8_readItem_183 (xnb hL rfl) ?_
          refine xr_aload_n C 184 rfl dX8_readItem_184 ?_
          refine xr_iconst C 185 4 (by decide +kernel) dX8_readItem_185 ?_
          refine xr_iload_n C 186 rfl dX8_readItem_186 ?_
          refine xr_aload_n C 187 rfl dX8_readItem_187 ?_
          refine xr_iconst C 188 0 (by decide +kernel) dX8_readItem_188 ?_
          refine xr_bipush C 189 9 (by decide +kernel) dX8_readItem_189 ?_
          obtain ⟨z15, q16, h⟩ := g_bind h
          refine xr_callV C 191 (mX8_number q16) v_X8_number ml_X8_267 (Nat.le_of_ble_eq_true rfl) (Nat.le_of_ble_eq_true rfl) (xrecv C rfl rfl) rfl rfl (Nat.le_of_ble_eq_true rfl) rfl dX8_readItem_191 ?_
          refine xr_iconst C 194 0 (by decide +kernel) dX8_readItem_194 ?_
          refine xr_iconst C 195 0 (by decide +kernel) dX8_readItem_195 ?_
          obtain ⟨z17, q18, h⟩ := g_bind h
          refine xr_callV C 196 (mX8_item q18) v_X8_item ml_X8_277 (Nat.le_of_ble_eq_true rfl) (Nat.le_of_ble_eq_true rfl) (xrecv C rfl rfl) rfl rfl (Nat.le_of_ble_eq_true rfl) rfl dX8_readItem_196 ?_
          cases h
          exact xr_vret C 199 E dX8_readItem_199
        · have h := g_if h q
          refine xr_aload_n C 114 rfl dX8_readItem_114 ?_
          refine xr_iconst C 115 1 (by decide +kernel) dX8_readItem_115 ?_
          obtain ⟨z19, q20, h⟩ := g_bind h
          refine xr_callV C 116 (mX8_must q20) v_X8_must ml_X8_256 (Nat.le_of_ble_eq_true rfl) (Nat.le_of_ble_eq_true rfl) (xrecv C rfl rfl) rfl rfl (Nat.le_of_ble_eq_true rfl) rfl dX8_readItem_116 ?_
          refine xr_aload_n C 119 rfl dX8_readItem_119 ?_
          refine xr_iconst C 120 0 (by decide +kernel) dX8_readItem_120 ?_
          refine xr_sipush C 121 400 (by decide +kernel) dX8_readItem_121 ?_
          obtain ⟨z21, q22, h⟩ := g_bind h
          refine xr_callV C 124 (mX8_number q22) v_X8_number ml_X8_267 (Nat.le_of_ble_eq_true rfl) (Nat.le_of_ble_eq_true rfl) (xrecv C rfl rfl) rfl rfl (Nat.le_of_ble_eq_true rfl) rfl dX8_readItem_124 ?_
          refine xr_istore_n C 127 dX8_readItem_127 (xnb hL rfl) ?_
          refine xr_aload_n C 128 rfl dX8_readItem_128 ?_
          refine xr_ldcSw C 129 dX8_readItem_129 s_X8_292 ?_
          refine xr_bipush C 132 16 (by decide +kernel) dX8_readItem_132 ?_
          refine xr_sipush C 134 400 (by decide +kernel) dX8_readItem_134 ?_
          refine xr_iconst C 137 (-1) (by decide +kernel) dX8_readItem_137 ?_
          obtain ⟨z23, q24, h⟩ := g_bind h
          refine xr_callV C 138 (mX8_perhaps q24) v_X8_perhaps ml_X8_294 (Nat.le_of_ble_eq_true rfl) (Nat.le_of_ble_eq_true rfl) (xrecv C rfl rfl) rfl rfl (Nat.le_of_ble_eq_true rfl) rfl dX8_readItem_138 ?_
          refine xr_istore C 141 dX8_readItem_141 (xnb hL rfl) ?_
          refine xr_aload_n C 143 rfl dX8_readItem_143 ?_
          refine xr_iconst C 144 2 (by decide +kernel) dX8_readItem_144 ?_
          refine xr_iload_n C 145 rfl dX8_readItem_145 ?_
          refine xr_iload C 146 rfl dX8_readItem_146 ?_
          refine xr_aload_n C 148 rfl dX8_readItem_148 ?_
          refine xr_ldcSw C 149 dX8_readItem_149 s_X8_298 ?_
          refine xr_iconst C 152 1 (by decide +kernel) dX8_readItem_152 ?_
          refine xr_bipush C 153 7 (by decide +kernel) dX8_readItem_153 ?_
          refine xr_iconst C 155 (-1) (by decide +kernel) dX8_readItem_155 ?_
          obtain ⟨z25, q26, h⟩ := g_bind h
          refine xr_callV C 156 (mX8_perhaps q26) v_X8_perhaps ml_X8_294 (Nat.le_of_ble_eq_true rfl) (Nat.le_of_ble_eq_true rfl) (xrecv C rfl rfl) rfl rfl (Nat.le_of_ble_eq_true rfl) rfl dX8_readItem_156 ?_
          refine xr_iconst C 159 0 (by decide +kernel) dX8_readItem_159 ?_
          obtain ⟨z27, q28, h⟩ := g_bind h
          refine xr_callV C 160 (mX8_item q28) v_X8_item ml_X8_277 (Nat.le_of_ble_eq_true rfl) (Nat.le_of_ble_eq_true rfl) (xrecv C rfl rfl) rfl rfl (Nat.le_of_ble_eq_true rfl) rfl dX8_readItem_160 ?_
          refine xr_goto C 163 199 dX8_readItem_163 rfl ?_
          cases h
          exact xr_vret C 199 E dX8_readItem_199
      · have h := g_if h q
        refine xr_aload_n C 97 rfl dX8_readItem_97 ?_
        obtain ⟨z29, q30, h⟩ := g_bind h
        refine xr_callV C 98 (mX8_readShip q30) v_X8_readShip ml_X8_287 (Nat.le_of_ble_eq_true rfl) (Nat.le_of_ble_eq_true rfl) (xrecv C rfl rfl) rfl rfl (Nat.le_of_ble_eq_true rfl) rfl dX8_readItem_98 ?_
        refine xr_goto C 101 199 dX8_readItem_101 rfl ?_
        cases h
        exact xr_vret C 199 E dX8_readItem_199
    · have h := g_if h q
      refine xr_aload_n C 79 rfl dX8_readItem_79 ?_
      refine xr_iload_n C 80 rfl dX8_readItem_80 ?_
      obtain ⟨z31, q32, h⟩ := g_bind h
      refine xr_callV C 81 (mX8_readSet q32) v_X8_readSet ml_X8_281 (Nat.le_of_ble_eq_true rfl) (Nat.le_of_ble_eq_true rfl) (xrecv C rfl rfl) rfl rfl (Nat.le_of_ble_eq_true rfl) rfl dX8_readItem_81 ?_
      refine xr_goto C 84 199 dX8_readItem_84 rfl ?_
      cases h
      exact xr_vret C 199 E dX8_readItem_199
  · have h := g_if h q
    refine xr_aload_n C 22 rfl dX8_readItem_22 ?_
    refine xr_aload_n C 23 rfl dX8_readItem_23 ?_
    refine xr_getR C 24 dX8_readItem_24 fl_X8_9 rfl rfl ?_
    refine xr_bipush C 27 9 (by decide +kernel) dX8_readItem_27 ?_
    refine xr_iald C 29 9 (by decide +kernel) dX8_readItem_29 rfl (ibd_in (by decide +kernel)) ?_
    refine xr_aload_n C 30 rfl dX8_readItem_30 ?_
    refine xr_getI C 31 dX8_readItem_31 fl_X8_274 rfl rfl ?_
    refine xr_iadd C 34 dX8_readItem_34 ?_
    refine xr_bipush C 35 8 (by decide +kernel) dX8_readItem_35 ?_
    refine xr_icmp_ge C 37 44 dX8_readItem_37 rfl (fun q => ?_) (fun q => ?_)
    · have h := g_it h q
      refine xr_iconst C 44 0 (by decide +kernel) dX8_readItem_44 ?_
      exact xG.sub (bX8_readItem_45 C hL E h) ⟨rfl, rfl, trivial⟩
    · have h := g_if h q
      refine xr_iconst C 40 1 (by decide +kernel) dX8_readItem_40 ?_
      refine xr_goto C 41 45 dX8_readItem_41 rfl ?_
      exact xG.sub (bX8_readItem_45 C hL E h) ⟨rfl, rfl, trivial⟩
set_option maxRecDepth 100000 in
set_option maxHeartbeats 4000000 in
theorem mX8_readItem {l : Launch} {ad : Nat → Nat} {G : gEnv} {N : Nat} {w : xW} {r : xW} (h : fX8_readItem N w = some r) : xCt l ad G 10 yX8_readItem cX8_readItem 5 none [.ref (ad 55)] w r none := xCt.of RX8 rfl (by decide +kernel) (Nat.le_of_ble_eq_true rfl) (fun Γ el ea eG eL C E => by
    subst el
    subst ea
    subst eG
    unfold fX8_readItem at h
    exact xG.sub (bX8_readItem_0 C eL  E h) ⟨rfl, trivial⟩)
def fX8_isSo_144 (w : xW) (s0 : Int32) (s1 : Int32) : Option xW :=
  if ibd s1 51 = true then
  some (sI w 56 s1.toNatClampNeg s0)
  else none
def fX8_isSo_122 (w : xW) (x4 : Int32) (s0 : Int32) (s1 : Int32) : Option xW :=
  if ibd s1 51 = true then
  if 0 ≤ x4 then
    fX8_isSo_144 (sI w 56 s1.toNatClampNeg s0) x4 2
  else
  fX8_isSo_144 (sI w 56 s1.toNatClampNeg s0) ((sI w 56 s1.toNatClampNeg s0).1 56 2) 2
  else none
def fX8_isSo_0 (w : xW) (x1 : Int32) : Option xW :=
  if ibd (x1 + 1) 600 = true then
  if ibd (x1 + 2) 600 = true then
  if ibd (x1 + 3) 600 = true then
  if ibd x1 600 = true then
  if (w.1 73 x1.toNatClampNeg) = 0 then
    (fX8_built w (w.1 73 ((x1 + 1).toNatClampNeg)) (w.1 73 ((x1 + 2).toNatClampNeg))).bind fun z5 =>
    some z5.1
  else
  if (w.1 73 x1.toNatClampNeg) = 1 then
    if ibd (x1 + 4) 600 = true then
    (fX8_sails w (w.1 73 ((x1 + 1).toNatClampNeg)) (w.1 73 ((x1 + 2).toNatClampNeg)) (w.1 73 ((x1 + 3).toNatClampNeg)) (w.1 73 ((x1 + 4).toNatClampNeg))).bind fun z9 =>
    some z9.1
    else none
  else
  if (w.1 73 x1.toNatClampNeg) = 2 then
    if 0 ≤ (w.1 73 ((x1 + 2).toNatClampNeg)) then
      fX8_isSo_122 (sI w 56 0 (w.1 73 ((x1 + 1).toNatClampNeg))) (w.1 73 ((x1 + 3).toNatClampNeg)) (w.1 73 ((x1 + 2).toNatClampNeg)) 1
    else
    fX8_isSo_122 (sI w 56 0 (w.1 73 ((x1 + 1).toNatClampNeg))) (w.1 73 ((x1 + 3).toNatClampNeg)) ((sI w 56 0 (w.1 73 ((x1 + 1).toNatClampNeg))).1 56 1) 1
  else
  if (w.1 73 x1.toNatClampNeg) = 3 then
    if ibd (4 + (w.1 73 ((x1 + 1).toNatClampNeg))) 51 = true then
    some (sI w 56 ((4 + (w.1 73 ((x1 + 1).toNatClampNeg))).toNatClampNeg) (w.1 73 ((x1 + 2).toNatClampNeg)))
    else none
  else
  some (sI (sI w 56 7 (w.1 73 ((x1 + 1).toNatClampNeg))) 56 8 (w.1 73 ((x1 + 2).toNatClampNeg)))
  else none
  else none
  else none
  else none
def fX8_isSo (w : xW) (x1 : Int32) : Option xW := fX8_isSo_0 w x1
set_option maxRecDepth 100000 in
set_option maxHeartbeats 4000000 in
theorem bX8_isSo_144 {Γ : xΓ} (C : xOK Γ cX8_isSo RX8 2) (hL : xn Γ = 6) {w : xW} {s0 : Int32} {s1 : Int32} {r : xW} (E : xEnd Γ none r none) (h : fX8_isSo_144  w s0 s1 = some r) : xG Γ w 144 [] [.int s0, .int s1, .ref (xad Γ 56)] := by
  unfold fX8_isSo_144 at h
  obtain ⟨q16, h⟩ := g_ib h
  refine xr_iast C 144 s1.toNatClampNeg rfl dX8_isSo_144 rfl (ibd_in q16) ?_
  refine xr_goto C 145 176 dX8_isSo_145 rfl ?_
  cases h
  exact xr_vret C 176 E dX8_isSo_176
set_option maxRecDepth 100000 in
set_option maxHeartbeats 4000000 in
theorem bX8_isSo_122 {Γ : xΓ} (C : xOK Γ cX8_isSo RX8 2) (hL : xn Γ = 6) {w : xW} {x4 : Int32} {s0 : Int32} {s1 : Int32} {r : xW} (E : xEnd Γ none r none) (h : fX8_isSo_122  w x4 s0 s1 = some r) : xG Γ w 122 [(0, .ref (xad Γ 55)), (4, .int x4)] [.int s0, .int s1, .ref (xad Γ 56)] := by
  unfold fX8_isSo_122 at h
  obtain ⟨q15, h⟩ := g_ib h
  refine xr_iast C 122 s1.toNatClampNeg rfl dX8_isSo_122 rfl (ibd_in q15) ?_
  refine xr_aload_n C 123 rfl dX8_isSo_123 ?_
  refine xr_getR C 124 dX8_isSo_124 fl_X8_9 rfl rfl ?_
  refine xr_iconst C 127 2 (by decide +kernel) dX8_isSo_127 ?_
  refine xr_iload C 128 rfl dX8_isSo_128 ?_
  refine xr_if_ge C 130 142 dX8_isSo_130 rfl (fun q => ?_) (fun q => ?_)
  · have h := g_it h q
    refine xr_iload C 142 rfl dX8_isSo_142 ?_
    exact xG.sub (bX8_isSo_144 C hL E h) trivial
  · have h := g_if h q
    refine xr_aload_n C 133 rfl dX8_isSo_133 ?_
    refine xr_getR C 134 dX8_isSo_134 fl_X8_9 rfl rfl ?_
    refine xr_iconst C 137 2 (by decide +kernel) dX8_isSo_137 ?_
    refine xr_iald C 138 2 (by decide +kernel) dX8_isSo_138 rfl (ibd_in (by decide +kernel)) ?_
    refine xr_goto C 139 144 dX8_isSo_139 rfl ?_
    exact xG.sub (bX8_isSo_144 C hL E h) trivial
set_option maxRecDepth 100000 in
set_option maxHeartbeats 4000000 in
theorem bX8_isSo_0 {Γ : xΓ} (C : xOK Γ cX8_isSo RX8 2) (hL : xn Γ = 6) {w : xW} {x1 : Int32} {r : xW} (E : xEnd Γ none r none) (h : fX8_isSo_0  w x1 = some r) : xG Γ w 0 [(0, .ref (xad Γ 55)), (1, .int x1)] [] := by
  unfold fX8_isSo_0 at h
  refine xr_aload_n C 0 rfl dX8_isSo_0 ?_
  refine xr_getR C 1 dX8_isSo_1 fl_X8_82 rfl rfl ?_
  refine xr_iload_n C 4 rfl dX8_isSo_4 ?_
  refine xr_iconst C 5 1 (by decide +kernel) dX8_isSo_5 ?_
  refine xr_iadd C 6 dX8_isSo_6 ?_
  obtain ⟨q1, h⟩ := g_ib h
  refine xr_iald C 7 ((x1 + 1).toNatClampNeg) rfl dX8_isSo_7 rfl (ibd_in q1) ?_
  refine xr_istore_n C 8 dX8_isSo_8 (xnb hL rfl) ?_
  refine xr_aload_n C 9 rfl dX8_isSo_9 ?_
  refine xr_getR C 10 dX8_isSo_10 fl_X8_82 rfl rfl ?_
  refine xr_iload_n C 13 rfl dX8_isSo_13 ?_
  refine xr_iconst C 14 2 (by decide +kernel) dX8_isSo_14 ?_
  refine xr_iadd C 15 dX8_isSo_15 ?_
  obtain ⟨q2, h⟩ := g_ib h
  refine xr_iald C 16 ((x1 + 2).toNatClampNeg) rfl dX8_isSo_16 rfl (ibd_in q2) ?_
  refine xr_istore_n C 17 dX8_isSo_17 (xnb hL rfl) ?_
  refine xr_aload_n C 18 rfl dX8_isSo_18 ?_
  refine xr_getR C 19 dX8_isSo_19 fl_X8_82 rfl rfl ?_
  refine xr_iload_n C 22 rfl dX8_isSo_22 ?_
  refine xr_iconst C 23 3 (by decide +kernel) dX8_isSo_23 ?_
  refine xr_iadd C 24 dX8_isSo_24 ?_
  obtain ⟨q3, h⟩ := g_ib h
  refine xr_iald C 25 ((x1 + 3).toNatClampNeg) rfl dX8_isSo_25 rfl (ibd_in q3) ?_
  refine xr_istore C 26 dX8_isSo_26 (xnb hL rfl) ?_
  refine xr_aload_n C 28 rfl dX8_isSo_28 ?_
  refine xr_getR C 29 dX8_isSo_29 fl_X8_82 rfl rfl ?_
  refine xr_iload_n C 32 rfl dX8_isSo_32 ?_
  obtain ⟨q4, h⟩ := g_ib h
  refine xr_iald C 33 x1.toNatClampNeg rfl dX8_isSo_33 rfl (ibd_in q4) ?_
  by_cases q7 : (w.1 73 x1.toNatClampNeg) = 0
  · have h := g_it h q7
    refine xr_tabIn (off := 30) C 34 64 0 q7 dX8_isSo_34 (by decide +kernel) (by decide +kernel) (by decide +kernel) rfl ?_
    refine xr_aload_n C 64 rfl dX8_isSo_64 ?_
    refine xr_iload_n C 65 rfl dX8_isSo_65 ?_
    refine xr_iload_n C 66 rfl dX8_isSo_66 ?_
    obtain ⟨z5, q6, h⟩ := g_bind h
    refine xr_callV C 67 (mX8_built q6) v_X8_built ml_X8_154 (Nat.le_of_ble_eq_true rfl) (Nat.le_of_ble_eq_true rfl) (xrecv C rfl rfl) rfl rfl (Nat.le_of_ble_eq_true rfl) rfl dX8_isSo_67 ?_
    refine xr_istore C 70 dX8_isSo_70 (xnb hL rfl) ?_
    refine xr_goto C 72 176 dX8_isSo_72 rfl ?_
    cases h
    exact xr_vret C 176 E dX8_isSo_176
  have h := g_if h q7
  by_cases q11 : (w.1 73 x1.toNatClampNeg) = 1
  · have h := g_it h q11
    refine xr_tabIn (off := 41) C 34 75 1 q11 dX8_isSo_34 (by decide +kernel) (by decide +kernel) (by decide +kernel) rfl ?_
    refine xr_aload_n C 75 rfl dX8_isSo_75 ?_
    refine xr_iload_n C 76 rfl dX8_isSo_76 ?_
    refine xr_iload_n C 77 rfl dX8_isSo_77 ?_
    refine xr_iload C 78 rfl dX8_isSo_78 ?_
    refine xr_aload_n C 80 rfl dX8_isSo_80 ?_
    refine xr_getR C 81 dX8_isSo_81 fl_X8_82 rfl rfl ?_
    refine xr_iload_n C 84 rfl dX8_isSo_84 ?_
    refine xr_iconst C 85 4 (by decide +kernel) dX8_isSo_85 ?_
    refine xr_iadd C 86 dX8_isSo_86 ?_
    obtain ⟨q8, h⟩ := g_ib h
    refine xr_iald C 87 ((x1 + 4).toNatClampNeg) rfl dX8_isSo_87 rfl (ibd_in q8) ?_
    obtain ⟨z9, q10, h⟩ := g_bind h
    refine xr_callV C 88 (mX8_sails q10) v_X8_sails ml_X8_187 (Nat.le_of_ble_eq_true rfl) (Nat.le_of_ble_eq_true rfl) (xrecv C rfl rfl) rfl rfl (Nat.le_of_ble_eq_true rfl) rfl dX8_isSo_88 ?_
    refine xr_istore C 91 dX8_isSo_91 (xnb hL rfl) ?_
    refine xr_goto C 93 176 dX8_isSo_93 rfl ?_
    cases h
    exact xr_vret C 176 E dX8_isSo_176
  have h := g_if h q11
  by_cases q12 : (w.1 73 x1.toNatClampNeg) = 2
  · have h := g_it h q12
    refine xr_tabIn (off := 62) C 34 96 2 q12 dX8_isSo_34 (by decide +kernel) (by decide +kernel) (by decide +kernel) rfl ?_
    refine xr_aload_n C 96 rfl dX8_isSo_96 ?_
    refine xr_getR C 97 dX8_isSo_97 fl_X8_9 rfl rfl ?_
    refine xr_iconst C 100 0 (by decide +kernel) dX8_isSo_100 ?_
    refine xr_iload_n C 101 rfl dX8_isSo_101 ?_
    refine xr_iast C 102 0 (by decide +kernel) dX8_isSo_102 rfl (ibd_in (by decide +kernel)) ?_
    refine xr_aload_n C 103 rfl dX8_isSo_103 ?_
    refine xr_getR C 104 dX8_isSo_104 fl_X8_9 rfl rfl ?_
    refine xr_iconst C 107 1 (by decide +kernel) dX8_isSo_107 ?_
    refine xr_iload_n C 108 rfl dX8_isSo_108 ?_
    refine xr_if_ge C 109 121 dX8_isSo_109 rfl (fun q => ?_) (fun q => ?_)
    · have h := g_it h q
      refine xr_iload_n C 121 rfl dX8_isSo_121 ?_
      exact xG.sub (bX8_isSo_122 C hL E h) ⟨rfl, rfl, trivial⟩
    · have h := g_if h q
      refine xr_aload_n C 112 rfl dX8_isSo_112 ?_
      refine xr_getR C 113 dX8_isSo_113 fl_X8_9 rfl rfl ?_
      refine xr_iconst C 116 1 (by decide +kernel) dX8_isSo_116 ?_
      refine xr_iald C 117 1 (by decide +kernel) dX8_isSo_117 rfl (ibd_in (by decide +kernel)) ?_
      refine xr_goto C 118 122 dX8_isSo_118 rfl ?_
      exact xG.sub (bX8_isSo_122 C hL E h) ⟨rfl, rfl, trivial⟩
  have h := g_if h q12
  by_cases q14 : (w.1 73 x1.toNatClampNeg) = 3
  · have h := g_it h q14
    refine xr_tabIn (off := 114) C 34 148 3 q14 dX8_isSo_34 (by decide +kernel) (by decide +kernel) (by decide +kernel) rfl ?_
    refine xr_aload_n C 148 rfl dX8_isSo_148 ?_
    refine xr_getR C 149 dX8_isSo_149 fl_X8_9 rfl rfl ?_
    refine xr_iconst C 152 4 (by decide +kernel) dX8_isSo_152 ?_
    refine xr_iload_n C 153 rfl dX8_isSo_153 ?_
    refine xr_iadd C 154 dX8_isSo_154 ?_
    refine xr_iload_n C 155 rfl dX8_isSo_155 ?_
    obtain ⟨q13, h⟩ := g_ib h
    refine xr_iast C 156 ((4 + (w.1 73 ((x1 + 1).toNatClampNeg))).toNatClampNeg) rfl dX8_isSo_156 rfl (ibd_in q13) ?_
    refine xr_goto C 157 176 dX8_isSo_157 rfl ?_
    cases h
    exact xr_vret C 176 E dX8_isSo_176
  have h := g_if h q14
  have eq7 := xneI (z := 0) q7 (by decide +kernel)
  have eq11 := xneI (z := 1) q11 (by decide +kernel)
  have eq12 := xneI (z := 2) q12 (by decide +kernel)
  have eq14 := xneI (z := 3) q14 (by decide +kernel)
  refine xr_tabOut C 34 160 dX8_isSo_34 (by omega) rfl ?_
  refine xr_aload_n C 160 rfl dX8_isSo_160 ?_
  refine xr_getR C 161 dX8_isSo_161 fl_X8_9 rfl rfl ?_
  refine xr_bipush C 164 7 (by decide +kernel) dX8_isSo_164 ?_
  refine xr_iload_n C 166 rfl dX8_isSo_166 ?_
  refine xr_iast C 167 7 (by decide +kernel) dX8_isSo_167 rfl (ibd_in (by decide +kernel)) ?_
  refine xr_aload_n C 168 rfl dX8_isSo_168 ?_
  refine xr_getR C 169 dX8_isSo_169 fl_X8_9 rfl rfl ?_
  refine xr_bipush C 172 8 (by decide +kernel) dX8_isSo_172 ?_
  refine xr_iload_n C 174 rfl dX8_isSo_174 ?_
  refine xr_iast C 175 8 (by decide +kernel) dX8_isSo_175 rfl (ibd_in (by decide +kernel)) ?_
  cases h
  exact xr_vret C 176 E dX8_isSo_176
set_option maxRecDepth 100000 in
set_option maxHeartbeats 4000000 in
theorem mX8_isSo {l : Launch} {ad : Nat → Nat} {G : gEnv} {w : xW} {x1 : Int32} {r : xW} (h : fX8_isSo w x1 = some r) : xCt l ad G 2 yX8_isSo cX8_isSo 6 none [.ref (ad 55), .int x1] w r none := xCt.of RX8 rfl (by decide +kernel) (Nat.le_of_ble_eq_true rfl) (fun Γ el ea eG eL C E => by
    subst el
    subst ea
    subst eG
    unfold fX8_isSo at h
    exact xG.sub (bX8_isSo_0 C eL  E h) ⟨rfl, rfl, trivial⟩)
