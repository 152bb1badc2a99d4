def fX6_mayBe_0 (x0 : Int32) (x1 : Int32) : Option Int32 :=
  if x0 < 0 then
    some 0
  else
  if 4 ≤ x0 then
    some 0
  else
  if ibd x0 4 = true then
  if x1 < (kLEAST x0.toNatClampNeg) then
    some 0
  else
  if (kMOST x0.toNatClampNeg) < x1 then
    some 0
  else
  some 1
  else none
def fX6_mayBe (x0 : Int32) (x1 : Int32) : Option Int32 := fX6_mayBe_0 x0 x1
set_option maxRecDepth 100000 in
set_option maxHeartbeats 4000000 in
theorem bX6_mayBe_0 {Γ : xΓ} (C : xOK Γ cX6_mayBe RX6 1) (hL : xn Γ = 2) {w : xW} {x0 : Int32} {x1 : Int32} {r : Int32} (E : xEnd Γ (some .boolean) w (some (.int r))) (h : fX6_mayBe_0  x0 x1 = some r) : xG Γ w 0 [(0, .int x0), (1, .int x1)] [] := by
  unfold fX6_mayBe_0 at h
  refine xr_iload_n C 0 rfl dX6_mayBe_0 ?_
  refine xr_if_lt C 1 34 dX6_mayBe_1 rfl (fun q => ?_) (fun q => ?_)
  · have h := g_it h q
    refine xr_iconst C 34 0 (by decide +kernel) dX6_mayBe_34 ?_
    cases h
    exact xr_zret C 35 E dX6_mayBe_35 (by decide +kernel)
  · have h := g_if h q
    refine xr_iload_n C 4 rfl dX6_mayBe_4 ?_
    refine xr_getsLEAST C 5 dX6_mayBe_5 st_X6_18 ?_
    refine xr_lenLEAST C 8 4 (by decide +kernel) dX6_mayBe_8 ?_
    refine xr_icmp_ge C 9 34 dX6_mayBe_9 rfl (fun q => ?_) (fun q => ?_)
    · have h := g_it h q
      refine xr_iconst C 34 0 (by decide +kernel) dX6_mayBe_34 ?_
      cases h
      exact xr_zret C 35 E dX6_mayBe_35 (by decide +kernel)
    · have h := g_if h q
      refine xr_iload_n C 12 rfl dX6_mayBe_12 ?_
      refine xr_getsLEAST C 13 dX6_mayBe_13 st_X6_18 ?_
      refine xr_iload_n C 16 rfl dX6_mayBe_16 ?_
      obtain ⟨q1, h⟩ := g_ib h
      refine xr_tabLEAST C 17 x0.toNatClampNeg rfl dX6_mayBe_17 (ibd_in q1) ?_
      refine xr_icmp_lt C 18 34 dX6_mayBe_18 rfl (fun q => ?_) (fun q => ?_)
      · have h := g_it h q
        refine xr_iconst C 34 0 (by decide +kernel) dX6_mayBe_34 ?_
        cases h
        exact xr_zret C 35 E dX6_mayBe_35 (by decide +kernel)
      · have h := g_if h q
        refine xr_iload_n C 21 rfl dX6_mayBe_21 ?_
        refine xr_getsMOST C 22 dX6_mayBe_22 st_X6_21 ?_
        refine xr_iload_n C 25 rfl dX6_mayBe_25 ?_
        refine xr_tabMOST C 26 x0.toNatClampNeg rfl dX6_mayBe_26 (ibd_in q1) ?_
        refine xr_icmp_gt C 27 34 dX6_mayBe_27 rfl (fun q => ?_) (fun q => ?_)
        · have h := g_it h q
          refine xr_iconst C 34 0 (by decide +kernel) dX6_mayBe_34 ?_
          cases h
          exact xr_zret C 35 E dX6_mayBe_35 (by decide +kernel)
        · have h := g_if h q
          refine xr_iconst C 30 1 (by decide +kernel) dX6_mayBe_30 ?_
          refine xr_goto C 31 35 dX6_mayBe_31 rfl ?_
          cases h
          exact xr_zret C 35 E dX6_mayBe_35 (by decide +kernel)
set_option maxRecDepth 100000 in
set_option maxHeartbeats 4000000 in
theorem mX6_mayBe {l : Launch} {ad : Nat → Nat} {G : gEnv} {w : xW} {x0 : Int32} {x1 : Int32} {r : Int32} (h : fX6_mayBe x0 x1 = some r) : xCt l ad G 1 yX6_mayBe cX6_mayBe 2 (some .boolean) [.int x0, .int x1] w w (some (.int r)) := xCt.of RX6 rfl (by decide +kernel) (Nat.le_of_ble_eq_true rfl) (fun Γ el ea eG eL C E => by
    subst el
    subst ea
    subst eG
    unfold fX6_mayBe at h
    exact xG.sub (bX6_mayBe_0 C eL  E h) ⟨rfl, rfl, trivial⟩)
def fX0_forget_0 (w : xW) : xW :=
  sI w 34 0 0
def fX0_forget (w : xW) : xW := fX0_forget_0 w
set_option maxRecDepth 100000 in
set_option maxHeartbeats 4000000 in
theorem bX0_forget_0 {Γ : xΓ} (C : xOK Γ cX0_forget RX0 1) (hL : xn Γ = 1) {w : xW} {r : xW} (E : xEnd Γ none r none) (h : fX0_forget_0  w = r) : xG Γ w 0 [(0, .ref (xad Γ 34))] [] := by
  unfold fX0_forget_0 at h
  refine xr_aload_n C 0 rfl dX0_forget_0 ?_
  refine xr_iconst C 1 0 (by decide +kernel) dX0_forget_1 ?_
  refine xr_putZ C 2 dX0_forget_2 fp_X0_9 rfl rfl (by decide +kernel) ?_
  cases h
  exact xr_vret C 5 E dX0_forget_5
set_option maxRecDepth 100000 in
set_option maxHeartbeats 4000000 in
theorem mX0_forget {l : Launch} {ad : Nat → Nat} {G : gEnv} {w : xW} {r : xW} (h : fX0_forget w = r) : xCt l ad G 1 yX0_forget cX0_forget 1 none [.ref (ad 34)] w r none := xCt.of RX0 rfl (by decide +kernel) (Nat.le_of_ble_eq_true rfl) (fun Γ el ea eG eL C E => by
    subst el
    subst ea
    subst eG
    unfold fX0_forget at h
    exact xG.sub (bX0_forget_0 C eL  E h) ⟨rfl, trivial⟩)
def fX7_refuse_0 (w : xW) (x1 : Int32) : Option (xW × Int32) :=
  if ((-1000000001) - x1) < 0 then
    some (w, x1)
  else
  if 7 ≤ ((-1000000001) - x1) then
    some (w, x1)
  else
  if ibd ((-1000000001) - x1) 7 = true then
  some (sI w 46 (((-1000000001) - x1).toNatClampNeg) ((w.1 46 (((-1000000001) - x1).toNatClampNeg)) + 1), x1)
  else none
def fX7_refuse (w : xW) (x1 : Int32) : Option (xW × Int32) := fX7_refuse_0 w x1
set_option maxRecDepth 100000 in
set_option maxHeartbeats 4000000 in
theorem bX7_refuse_0 {Γ : xΓ} (C : xOK Γ cX7_refuse RX7 1) (hL : xn Γ = 3) {w : xW} {x1 : Int32} {r : xW × Int32} (E : xEnd Γ (some .int) r.1 (some (.int r.2))) (h : fX7_refuse_0  w x1 = some r) : xG Γ w 0 [(0, .ref (xad Γ 0)), (1, .int x1)] [] := by
  unfold fX7_refuse_0 at h
  refine xr_ldc C 0 k_X7_69 dX7_refuse_0 ?_
  refine xr_iload_n C 2 rfl dX7_refuse_2 ?_
  refine xr_isub C 3 dX7_refuse_3 ?_
  refine xr_istore_n C 4 dX7_refuse_4 (xnb hL rfl) ?_
  refine xr_iload_n C 5 rfl dX7_refuse_5 ?_
  refine xr_if_lt C 6 25 dX7_refuse_6 rfl (fun q => ?_) (fun q => ?_)
  · have h := g_it h q
    refine xr_iload_n C 25 rfl dX7_refuse_25 ?_
    cases h
    exact xr_iret C 26 E dX7_refuse_26
  · have h := g_if h q
    refine xr_iload_n C 9 rfl dX7_refuse_9 ?_
    refine xr_bipush C 10 7 (by decide +kernel) dX7_refuse_10 ?_
    refine xr_icmp_ge C 12 25 dX7_refuse_12 rfl (fun q => ?_) (fun q => ?_)
    · have h := g_it h q
      refine xr_iload_n C 25 rfl dX7_refuse_25 ?_
      cases h
      exact xr_iret C 26 E dX7_refuse_26
    · have h := g_if h q
      refine xr_aload_n C 15 rfl dX7_refuse_15 ?_
      refine xr_getR C 16 dX7_refuse_16 fl_X7_58 rfl rfl ?_
      refine xr_iload_n C 19 rfl dX7_refuse_19 ?_
      refine xr_dup2 C 20 rfl rfl dX7_refuse_20 ?_
      obtain ⟨q1, h⟩ := g_ib h
      refine xr_iald C 21 (((-1000000001) - x1).toNatClampNeg) rfl dX7_refuse_21 rfl (ibd_in q1) ?_
      refine xr_iconst C 22 1 (by decide +kernel) dX7_refuse_22 ?_
      refine xr_iadd C 23 dX7_refuse_23 ?_
      refine xr_iast C 24 (((-1000000001) - x1).toNatClampNeg) rfl dX7_refuse_24 rfl (ibd_in q1) ?_
      refine xr_iload_n C 25 rfl dX7_refuse_25 ?_
      cases h
      exact xr_iret C 26 E dX7_refuse_26
set_option maxRecDepth 100000 in
set_option maxHeartbeats 4000000 in
theorem mX7_refuse {l : Launch} {ad : Nat → Nat} {G : gEnv} {w : xW} {x1 : Int32} {r : xW × Int32} (h : fX7_refuse w x1 = some r) : xCt l ad G 1 yX7_refuse cX7_refuse 3 (some .int) [.ref (ad 0), .int x1] w r.1 (some (.int r.2)) := xCt.of RX7 rfl (by decide +kernel) (Nat.le_of_ble_eq_true rfl) (fun Γ el ea eG eL C E => by
    subst el
    subst ea
    subst eG
    unfold fX7_refuse at h
    exact xG.sub (bX7_refuse_0 C eL  E h) ⟨rfl, rfl, trivial⟩)
def fX7_tides_0 (w : xW) (x1 : Int32) (x2 : Int32) : Option (xW × Int32) :=
  (fX6_mayBe x1 x2).bind fun z1 =>
  if z1 = 0 then
    (fX7_refuse w (-1000000001)).bind fun z4 =>
    some (z4.1, z4.2)
  else
  if ibd x1 4 = true then
  some (sI (fX0_forget w) 3 x1.toNatClampNeg x2, (fX0_forget w).1 3 x1.toNatClampNeg)
  else none
def fX7_tides (w : xW) (x1 : Int32) (x2 : Int32) : Option (xW × Int32) := fX7_tides_0 w x1 x2
set_option maxRecDepth 100000 in
set_option maxHeartbeats 4000000 in
theorem bX7_tides_0 {Γ : xΓ} (C : xOK Γ cX7_tides RX7 2) (hL : xn Γ = 4) {w : xW} {x1 : Int32} {x2 : Int32} {r : xW × Int32} (E : xEnd Γ (some .int) r.1 (some (.int r.2))) (h : fX7_tides_0  w x1 x2 = some r) : xG Γ w 0 [(0, .ref (xad Γ 0)), (1, .int x1), (2, .int x2)] [] := by
  unfold fX7_tides_0 at h
  refine xr_iload_n C 0 rfl dX7_tides_0 ?_
  refine xr_iload_n C 1 rfl dX7_tides_1 ?_
  obtain ⟨z1, q2, h⟩ := g_bind h
  refine xr_callS C 2 (mX6_mayBe q2) v_X6_mayBe ml_X7_63 (Nat.le_of_ble_eq_true rfl) (Nat.le_of_ble_eq_true rfl) rfl rfl (Nat.le_of_ble_eq_true rfl) rfl dX7_tides_2 ?_
  refine xr_if_ne C 5 15 dX7_tides_5 rfl (fun q => ?_) (fun q => ?_)
  · have h := g_if h q
    refine xr_aload_n C 15 rfl dX7_tides_15 ?_
    refine xr_getR C 16 dX7_tides_16 fl_X7_36 rfl rfl ?_
    refine xr_callV C 19 (mX0_forget rfl) v_X0_forget ml_X7_74 (Nat.le_of_ble_eq_true rfl) (Nat.le_of_ble_eq_true rfl) (xrecv C rfl rfl) rfl rfl (Nat.le_of_ble_eq_true rfl) rfl dX7_tides_19 ?_
    refine xr_aload_n C 22 rfl dX7_tides_22 ?_
    refine xr_getR C 23 dX7_tides_23 fl_X7_10 rfl rfl ?_
    refine xr_getR C 26 dX7_tides_26 fl_X7_77 rfl rfl ?_
    refine xr_getR C 29 dX7_tides_29 fl_X7_81 rfl rfl ?_
    refine xr_iload_n C 32 rfl dX7_tides_32 ?_
    obtain ⟨q3, h⟩ := g_ib h
    refine xr_iald C 33 x1.toNatClampNeg rfl dX7_tides_33 rfl (ibd_in q3) ?_
    refine xr_istore_n C 34 dX7_tides_34 (xnb hL rfl) ?_
    refine xr_aload_n C 35 rfl dX7_tides_35 ?_
    refine xr_getR C 36 dX7_tides_36 fl_X7_10 rfl rfl ?_
    refine xr_getR C 39 dX7_tides_39 fl_X7_77 rfl rfl ?_
    refine xr_getR C 42 dX7_tides_42 fl_X7_81 rfl rfl ?_
    refine xr_iload_n C 45 rfl dX7_tides_45 ?_
    refine xr_iload_n C 46 rfl dX7_tides_46 ?_
    refine xr_iast C 47 x1.toNatClampNeg rfl dX7_tides_47 rfl (ibd_in q3) ?_
    refine xr_iload_n C 48 rfl dX7_tides_48 ?_
    cases h
    exact xr_iret C 49 E dX7_tides_49
  · have h := g_it h q
    refine xr_aload_n C 8 rfl dX7_tides_8 ?_
    refine xr_ldc C 9 k_X7_69 dX7_tides_9 ?_
    obtain ⟨z4, q5, h⟩ := g_bind h
    refine xr_callV C 11 (mX7_refuse q5) v_X7_refuse ml_X7_70 (Nat.le_of_ble_eq_true rfl) (Nat.le_of_ble_eq_true rfl) (xrecv C rfl rfl) rfl rfl (Nat.le_of_ble_eq_true rfl) rfl dX7_tides_11 ?_
    cases h
    exact xr_iret C 14 E dX7_tides_14
set_option maxRecDepth 100000 in
set_option maxHeartbeats 4000000 in
theorem mX7_tides {l : Launch} {ad : Nat → Nat} {G : gEnv} {w : xW} {x1 : Int32} {x2 : Int32} {r : xW × Int32} (h : fX7_tides w x1 x2 = some r) : xCt l ad G 2 yX7_tides cX7_tides 4 (some .int) [.ref (ad 0), .int x1, .int x2] w r.1 (some (.int r.2)) := xCt.of RX7 rfl (by decide +kernel) (Nat.le_of_ble_eq_true rfl) (fun Γ el ea eG eL C E => by
    subst el
    subst ea
    subst eG
    unfold fX7_tides at h
    exact xG.sub (bX7_tides_0 C eL  E h) ⟨rfl, rfl, rfl, trivial⟩)
def fX8_within_0 (x0 : Int32) (x1 : Int32) (x2 : Int32) : Int32 :=
  if x0 < x1 then
    0
  else
  if x2 < x0 then
    0
  else
  1
def fX8_within (x0 : Int32) (x1 : Int32) (x2 : Int32) : Int32 := fX8_within_0 x0 x1 x2
theorem xb_fX8_within {x0 : Int32} {x1 : Int32} {x2 : Int32} : xB (fX8_within x0 x1 x2) = true := by
  unfold fX8_within fX8_within_0
  repeat' split
  all_goals first | rfl | exact xb_fX8_within
set_option maxRecDepth 100000 in
set_option maxHeartbeats 4000000 in
theorem bX8_within_0 {Γ : xΓ} (C : xOK Γ cX8_within RX8 1) (hL : xn Γ = 3) {w : xW} {x0 : Int32} {x1 : Int32} {x2 : Int32} {r : Int32} (E : xEnd Γ (some .boolean) w (some (.int r))) (h : fX8_within_0  x0 x1 x2 = r) : xG Γ w 0 [(0, .int x0), (1, .int x1), (2, .int x2)] [] := by
  unfold fX8_within_0 at h
  refine xr_iload_n C 0 rfl dX8_within_0 ?_
  refine xr_iload_n C 1 rfl dX8_within_1 ?_
  refine xr_icmp_lt C 2 14 dX8_within_2 rfl (fun q => ?_) (fun q => ?_)
  · have h := g_it h q
    refine xr_iconst C 14 0 (by decide +kernel) dX8_within_14 ?_
    cases h
    exact xr_zret C 15 E dX8_within_15 (by decide +kernel)
  · have h := g_if h q
    refine xr_iload_n C 5 rfl dX8_within_5 ?_
    refine xr_iload_n C 6 rfl dX8_within_6 ?_
    refine xr_icmp_gt C 7 14 dX8_within_7 rfl (fun q => ?_) (fun q => ?_)
    · have h := g_it h q
      refine xr_iconst C 14 0 (by decide +kernel) dX8_within_14 ?_
      cases h
      exact xr_zret C 15 E dX8_within_15 (by decide +kernel)
    · have h := g_if h q
      refine xr_iconst C 10 1 (by decide +kernel) dX8_within_10 ?_
      refine xr_goto C 11 15 dX8_within_11 rfl ?_
      cases h
      exact xr_zret C 15 E dX8_within_15 (by decide +kernel)
set_option maxRecDepth 100000 in
set_option maxHeartbeats 4000000 in
theorem mX8_within {l : Launch} {ad : Nat → Nat} {G : gEnv} {w : xW} {x0 : Int32} {x1 : Int32} {x2 : Int32} {r : Int32} (h : fX8_within x0 x1 x2 = r) : xCt l ad G 1 yX8_within cX8_within 3 (some .boolean) [.int x0, .int x1, .int x2] w w (some (.int r)) := xCt.of RX8 rfl (by decide +kernel) (Nat.le_of_ble_eq_true rfl) (fun Γ el ea eG eL C E => by
    subst el
    subst ea
    subst eG
    unfold fX8_within at h
    exact xG.sub (bX8_within_0 C eL  E h) ⟨rfl, rfl, rfl, trivial⟩)
def fX8_become_0 (w : xW) (x1 : Int32) (x2 : Int32) : Option (xW × Int32) :=
  if ibd x1 51 = true then
  some (sI w 56 x1.toNatClampNeg x2, w.1 56 x1.toNatClampNeg)
  else none
def fX8_become (w : xW) (x1 : Int32) (x2 : Int32) : Option (xW × Int32) := fX8_become_0 w x1 x2
set_option maxRecDepth 100000 in
set_option maxHeartbeats 4000000 in
theorem bX8_become_0 {Γ : xΓ} (C : xOK Γ cX8_become RX8 1) (hL : xn Γ = 4) {w : xW} {x1 : Int32} {x2 : Int32} {r : xW × Int32} (E : xEnd Γ (some .int) r.1 (some (.int r.2))) (h : fX8_become_0  w x1 x2 = some r) : xG Γ w 0 [(0, .ref (xad Γ 55)), (1, .int x1), (2, .int x2)] [] := by
  unfold fX8_become_0 at h
  refine xr_aload_n C 0 rfl dX8_become_0 ?_
  refine xr_getR C 1 dX8_become_1 fl_X8_9 rfl rfl ?_
  refine xr_iload_n C 4 rfl dX8_become_4 ?_
  obtain ⟨q1, h⟩ := g_ib h
  refine xr_iald C 5 x1.toNatClampNeg rfl dX8_become_5 rfl (ibd_in q1) ?_
  refine xr_istore_n C 6 dX8_become_6 (xnb hL rfl) ?_
  refine xr_aload_n C 7 rfl dX8_become_7 ?_
  refine xr_getR C 8 dX8_become_8 fl_X8_9 rfl rfl ?_
  refine xr_iload_n C 11 rfl dX8_become_11 ?_
  refine xr_iload_n C 12 rfl dX8_become_12 ?_
  refine xr_iast C 13 x1.toNatClampNeg rfl dX8_become_13 rfl (ibd_in q1) ?_
  refine xr_iload_n C 14 rfl dX8_become_14 ?_
  cases h
  exact xr_iret C 15 E dX8_become_15
set_option maxRecDepth 100000 in
set_option maxHeartbeats 4000000 in
theorem mX8_become {l : Launch} {ad : Nat → Nat} {G : gEnv} {w : xW} {x1 : Int32} {x2 : Int32} {r : xW × Int32} (h : fX8_become w x1 x2 = some r) : xCt l ad G 1 yX8_become cX8_become 4 (some .int) [.ref (ad 55), .int x1, .int x2] w r.1 (some (.int r.2)) := xCt.of RX8 rfl (by decide +kernel) (Nat.le_of_ble_eq_true rfl) (fun Γ el ea eG eL C E => by
    subst el
    subst ea
    subst eG
    unfold fX8_become at h
    exact xG.sub (bX8_become_0 C eL  E h) ⟨rfl, rfl, rfl, trivial⟩)
def fX8_finding_0 (w : xW) (x1 : Int32) : Option (xW × Int32) :=
  if ibd (((-1000000001) - x1) + 1) 8 = true then
  some (sI (sI w 58 ((((-1000000001) - x1) + 1).toNatClampNeg) ((w.1 58 ((((-1000000001) - x1) + 1).toNatClampNeg)) + 1)) 58 0 (((sI w 58 ((((-1000000001) - x1) + 1).toNatClampNeg) ((w.1 58 ((((-1000000001) - x1) + 1).toNatClampNeg)) + 1)).1 58 0) + 1), x1)
  else none
def fX8_finding (w : xW) (x1 : Int32) : Option (xW × Int32) := fX8_finding_0 w x1
set_option maxRecDepth 100000 in
set_option maxHeartbeats 4000000 in
theorem bX8_finding_0 {Γ : xΓ} (C : xOK Γ cX8_finding RX8 1) (hL : xn Γ = 2) {w : xW} {x1 : Int32} {r : xW × Int32} (E : xEnd Γ (some .int) r.1 (some (.int r.2))) (h : fX8_finding_0  w x1 = some r) : xG Γ w 0 [(0, .ref (xad Γ 55)), (1, .int x1)] [] := by
  unfold fX8_finding_0 at h
  refine xr_aload_n C 0 rfl dX8_finding_0 ?_
  refine xr_getR C 1 dX8_finding_1 fl_X8_16 rfl rfl ?_
  refine xr_ldc C 4 k_X8_98 dX8_finding_4 ?_
  refine xr_iload_n C 6 rfl dX8_finding_6 ?_
  refine xr_isub C 7 dX8_finding_7 ?_
  refine xr_iconst C 8 1 (by decide +kernel) dX8_finding_8 ?_
  refine xr_iadd C 9 dX8_finding_9 ?_
  refine xr_dup2 C 10 rfl rfl dX8_finding_10 ?_
  obtain ⟨q1, h⟩ := g_ib h
  refine xr_iald C 11 ((((-1000000001) - x1) + 1).toNatClampNeg) rfl dX8_finding_11 rfl (ibd_in q1) ?_
  refine xr_iconst C 12 1 (by decide +kernel) dX8_finding_12 ?_
  refine xr_iadd C 13 dX8_finding_13 ?_
  refine xr_iast C 14 ((((-1000000001) - x1) + 1).toNatClampNeg) rfl dX8_finding_14 rfl (ibd_in q1) ?_
  refine xr_aload_n C 15 rfl dX8_finding_15 ?_
  refine xr_getR C 16 dX8_finding_16 fl_X8_16 rfl rfl ?_
  refine xr_iconst C 19 0 (by decide +kernel) dX8_finding_19 ?_
  refine xr_dup2 C 20 rfl rfl dX8_finding_20 ?_
  refine xr_iald C 21 0 (by decide +kernel) dX8_finding_21 rfl (ibd_in (by decide +kernel)) ?_
  refine xr_iconst C 22 1 (by decide +kernel) dX8_finding_22 ?_
  refine xr_iadd C 23 dX8_finding_23 ?_
  refine xr_iast C 24 0 (by decide +kernel) dX8_finding_24 rfl (ibd_in (by decide +kernel)) ?_
  refine xr_iload_n C 25 rfl dX8_finding_25 ?_
  cases h
  exact xr_iret C 26 E dX8_finding_26
set_option maxRecDepth 100000 in
set_option maxHeartbeats 4000000 in
theorem mX8_finding {l : Launch} {ad : Nat → Nat} {G : gEnv} {w : xW} {x1 : Int32} {r : xW × Int32} (h : fX8_finding w x1 = some r) : xCt l ad G 1 yX8_finding cX8_finding 2 (some .int) [.ref (ad 55), .int x1] w r.1 (some (.int r.2)) := xCt.of RX8 rfl (by decide +kernel) (Nat.le_of_ble_eq_true rfl) (fun Γ el ea eG eL C E => by
    subst el
    subst ea
    subst eG
    unfold fX8_finding at h
    exact xG.sub (bX8_finding_0 C eL  E h) ⟨rfl, rfl, trivial⟩)
def fX8_tides_28 (w : xW) : Option (xW × Int32) :=
  (fX8_finding w (-1000000001)).bind fun z4 =>
  some (z4.1, z4.2)
def fX8_tides_0 (w : xW) (x1 : Int32) (x2 : Int32) : Option (xW × Int32) :=
  if (fX8_within x1 0 3) = 0 then
    fX8_tides_28 w
  else
  if ibd x1 4 = true then
  if (fX8_within x2 (w.1 59 x1.toNatClampNeg) (w.1 60 x1.toNatClampNeg)) = 0 then
    fX8_tides_28 w
  else
  (fX8_become (sI w 55 8 0) (0 + x1) x2).bind fun z2 =>
  some (z2.1, z2.2)
  else none
def fX8_tides (w : xW) (x1 : Int32) (x2 : Int32) : Option (xW × Int32) := fX8_tides_0 w x1 x2
set_option maxRecDepth 100000 in
set_option maxHeartbeats 4000000 in
theorem bX8_tides_28 {Γ : xΓ} (C : xOK Γ cX8_tides RX8 2) (hL : xn Γ = 3) {w : xW} {r : xW × Int32} (E : xEnd Γ (some .int) r.1 (some (.int r.2))) (h : fX8_tides_28  w = some r) : xG Γ w 28 [(0, .ref (xad Γ 55))] [] := by
  unfold fX8_tides_28 at h
  refine xr_aload_n C 28 rfl dX8_tides_28 ?_
  refine xr_ldc C 29 k_X8_98 dX8_tides_29 ?_
  obtain ⟨z4, q5, h⟩ := g_bind h
  refine xr_callV C 31 (mX8_finding q5) v_X8_finding ml_X8_125 (Nat.le_of_ble_eq_true rfl) (Nat.le_of_ble_eq_true rfl) (xrecv C rfl rfl) rfl rfl (Nat.le_of_ble_eq_true rfl) rfl dX8_tides_31 ?_
  cases h
  exact xr_iret C 34 E dX8_tides_34
set_option maxRecDepth 100000 in
set_option maxHeartbeats 4000000 in
theorem bX8_tides_0 {Γ : xΓ} (C : xOK Γ cX8_tides RX8 2) (hL : xn Γ = 3) {w : xW} {x1 : Int32} {x2 : Int32} {r : xW × Int32} (E : xEnd Γ (some .int) r.1 (some (.int r.2))) (h : fX8_tides_0  w x1 x2 = some r) : xG Γ w 0 [(0, .ref (xad Γ 55)), (1, .int x1), (2, .int x2)] [] := by
  unfold fX8_tides_0 at h
  refine xr_iload_n C 0 rfl dX8_tides_0 ?_
  refine xr_iconst C 1 0 (by decide +kernel) dX8_tides_1 ?_
  refine xr_iconst C 2 3 (by decide +kernel) dX8_tides_2 ?_
  refine xr_callS C 3 (mX8_within rfl) v_X8_within ml_X8_121 (Nat.le_of_ble_eq_true rfl) (Nat.le_of_ble_eq_true rfl) rfl rfl (Nat.le_of_ble_eq_true rfl) rfl dX8_tides_3 ?_
  refine xr_if_eq C 6 28 dX8_tides_6 rfl (fun q => ?_) (fun q => ?_)
  · have h := g_it h q
    exact xG.sub (bX8_tides_28 C hL E h) ⟨rfl, trivial⟩
  · have h := g_if h q
    refine xr_iload_n C 9 rfl dX8_tides_9 ?_
    refine xr_aload_n C 10 rfl dX8_tides_10 ?_
    refine xr_getR C 11 dX8_tides_11 fl_X8_19 rfl rfl ?_
    refine xr_iload_n C 14 rfl dX8_tides_14 ?_
    obtain ⟨q1, h⟩ := g_ib h
    refine xr_iald C 15 x1.toNatClampNeg rfl dX8_tides_15 rfl (ibd_in q1) ?_
    refine xr_aload_n C 16 rfl dX8_tides_16 ?_
    refine xr_getR C 17 dX8_tides_17 fl_X8_22 rfl rfl ?_
    refine xr_iload_n C 20 rfl dX8_tides_20 ?_
    refine xr_iald C 21 x1.toNatClampNeg rfl dX8_tides_21 rfl (ibd_in q1) ?_
    refine xr_callS C 22 (mX8_within rfl) v_X8_within ml_X8_121 (Nat.le_of_ble_eq_true rfl) (Nat.le_of_ble_eq_true rfl) rfl rfl (Nat.le_of_ble_eq_true rfl) rfl dX8_tides_22 ?_
    refine xr_if_ne C 25 35 dX8_tides_25 rfl (fun q => ?_) (fun q => ?_)
    · have h := g_if h q
      refine xr_aload_n C 35 rfl dX8_tides_35 ?_
      refine xr_iconst C 36 0 (by decide +kernel) dX8_tides_36 ?_
      refine xr_putZ C 37 dX8_tides_37 fp_X8_114 rfl rfl (by decide +kernel) ?_
      refine xr_aload_n C 40 rfl dX8_tides_40 ?_
      refine xr_iconst C 41 0 (by decide +kernel) dX8_tides_41 ?_
      refine xr_iload_n C 42 rfl dX8_tides_42 ?_
      refine xr_iadd C 43 dX8_tides_43 ?_
      refine xr_iload_n C 44 rfl dX8_tides_44 ?_
      obtain ⟨z2, q3, h⟩ := g_bind h
      refine xr_callV C 45 (mX8_become q3) v_X8_become ml_X8_128 (Nat.le_of_ble_eq_true rfl) (Nat.le_of_ble_eq_true rfl) (xrecv C rfl rfl) rfl rfl (Nat.le_of_ble_eq_true rfl) rfl dX8_tides_45 ?_
      cases h
      exact xr_iret C 48 E dX8_tides_48
    · have h := g_it h q
      exact xG.sub (bX8_tides_28 C hL E h) ⟨rfl, trivial⟩
set_option maxRecDepth 100000 in
set_option maxHeartbeats 4000000 in
theorem mX8_tides {l : Launch} {ad : Nat → Nat} {G : gEnv} {w : xW} {x1 : Int32} {x2 : Int32} {r : xW × Int32} (h : fX8_tides w x1 x2 = some r) : xCt l ad G 2 yX8_tides cX8_tides 3 (some .int) [.ref (ad 55), .int x1, .int x2] w r.1 (some (.int r.2)) := xCt.of RX8 rfl (by decide +kernel) (Nat.le_of_ble_eq_true rfl) (fun Γ el ea eG eL C E => by
    subst el
    subst ea
    subst eG
    unfold fX8_tides at h
    exact xG.sub (bX8_tides_0 C eL  E h) ⟨rfl, rfl, rfl, trivial⟩)
def fX7_sets_16 (w : xW) : Option (xW × Int32) :=
  (fX7_refuse w (-1000000001)).bind fun z2 =>
  some (z2.1, z2.2)
def fX7_sets_0 (w : xW) (x1 : Int32) (x2 : Int32) : Option (xW × Int32) :=
  if x1 < 0 then
    fX7_sets_16 w
  else
  if 3 ≤ x1 then
    fX7_sets_16 w
  else
  if (iushr x2 30) = 0 then
    if ibd x1 3 = true then
    some (sI (fX0_forget w) 4 x1.toNatClampNeg x2, (fX0_forget w).1 4 x1.toNatClampNeg)
    else none
  else
  fX7_sets_16 w
def fX7_sets (w : xW) (x1 : Int32) (x2 : Int32) : Option (xW × Int32) := fX7_sets_0 w x1 x2
set_option maxRecDepth 100000 in
set_option maxHeartbeats 4000000 in
theorem bX7_sets_16 {Γ : xΓ} (C : xOK Γ cX7_sets RX7 2) (hL : xn Γ = 4) {w : xW} {r : xW × Int32} (E : xEnd Γ (some .int) r.1 (some (.int r.2))) (h : fX7_sets_16  w = some r) : xG Γ w 16 [(0, .ref (xad Γ 0))] [] := by
  unfold fX7_sets_16 at h
  refine xr_aload_n C 16 rfl dX7_sets_16 ?_
  refine xr_ldc C 17 k_X7_69 dX7_sets_17 ?_
  obtain ⟨z2, q3, h⟩ := g_bind h
  refine xr_callV C 19 (mX7_refuse q3) v_X7_refuse ml_X7_70 (Nat.le_of_ble_eq_true rfl) (Nat.le_of_ble_eq_true rfl) (xrecv C rfl rfl) rfl rfl (Nat.le_of_ble_eq_true rfl) rfl dX7_sets_19 ?_
  cases h
  exact xr_iret C 22 E dX7_sets_22
set_option maxRecDepth 100000 in
set_option maxHeartbeats 4000000 in
theorem bX7_sets_0 {Γ : xΓ} (C : xOK Γ cX7_sets RX7 2) (hL : xn Γ = 4) {w : xW} {x1 : Int32} {x2 : Int32} {r : xW × Int32} (E : xEnd Γ (some .int) r.1 (some (.int r.2))) (h : fX7_sets_0  w x1 x2 = some r) : xG Γ w 0 [(0, .ref (xad Γ 0)), (1, .int x1), (2, .int x2)] [] := by
  unfold fX7_sets_0 at h
  refine xr_iload_n C 0 rfl dX7_sets_0 ?_
  refine xr_if_lt C 1 16 dX7_sets_1 rfl (fun q => ?_) (fun q => ?_)
  · have h := g_it h q
    exact xG.sub (bX7_sets_16 C hL E h) ⟨rfl, trivial⟩
  · have h := g_if h q
    refine xr_iload_n C 4 rfl dX7_sets_4 ?_
    refine xr_iconst C 5 3 (by decide +kernel) dX7_sets_5 ?_
    refine xr_icmp_ge C 6 16 dX7_sets_6 rfl (fun q => ?_) (fun q => ?_)
    · have h := g_it h q
      exact xG.sub (bX7_sets_16 C hL E h) ⟨rfl, trivial⟩
    · have h := g_if h q
      refine xr_iload_n C 9 rfl dX7_sets_9 ?_
      refine xr_bipush C 10 30 (by decide +kernel) dX7_sets_10 ?_
      refine xr_iushr C 12 dX7_sets_12 ?_
      refine xr_if_eq C 13 23 dX7_sets_13 rfl (fun q => ?_) (fun q => ?_)
      · have h := g_it h q
        refine xr_aload_n C 23 rfl dX7_sets_23 ?_
        refine xr_getR C 24 dX7_sets_24 fl_X7_36 rfl rfl ?_
        refine xr_callV C 27 (mX0_forget rfl) v_X0_forget ml_X7_74 (Nat.le_of_ble_eq_true rfl) (Nat.le_of_ble_eq_true rfl) (xrecv C rfl rfl) rfl rfl (Nat.le_of_ble_eq_true rfl) rfl dX7_sets_27 ?_
        refine xr_aload_n C 30 rfl dX7_sets_30 ?_
        refine xr_getR C 31 dX7_sets_31 fl_X7_10 rfl rfl ?_
        refine xr_getR C 34 dX7_sets_34 fl_X7_77 rfl rfl ?_
        refine xr_getR C 37 dX7_sets_37 fl_X7_84 rfl rfl ?_
        refine xr_iload_n C 40 rfl dX7_sets_40 ?_
        obtain ⟨q1, h⟩ := g_ib h
        refine xr_iald C 41 x1.toNatClampNeg rfl dX7_sets_41 rfl (ibd_in q1) ?_
        refine xr_istore_n C 42 dX7_sets_42 (xnb hL rfl) ?_
        refine xr_aload_n C 43 rfl dX7_sets_43 ?_
        refine xr_getR C 44 dX7_sets_44 fl_X7_10 rfl rfl ?_
        refine xr_getR C 47 dX7_sets_47 fl_X7_77 rfl rfl ?_
        refine xr_getR C 50 dX7_sets_50 fl_X7_84 rfl rfl ?_
        refine xr_iload_n C 53 rfl dX7_sets_53 ?_
        refine xr_iload_n C 54 rfl dX7_sets_54 ?_
        refine xr_iast C 55 x1.toNatClampNeg rfl dX7_sets_55 rfl (ibd_in q1) ?_
        refine xr_iload_n C 56 rfl dX7_sets_56 ?_
        cases h
        exact xr_iret C 57 E dX7_sets_57
      · have h := g_if h q
        exact xG.sub (bX7_sets_16 C hL E h) ⟨rfl, trivial⟩
set_option maxRecDepth 100000 in
set_option maxHeartbeats 4000000 in
theorem mX7_sets {l : Launch} {ad : Nat → Nat} {G : gEnv} {w : xW} {x1 : Int32} {x2 : Int32} {r : xW × Int32} (h : fX7_sets w x1 x2 = some r) : xCt l ad G 2 yX7_sets cX7_sets 4 (some .int) [.ref (ad 0), .int x1, .int x2] w r.1 (some (.int r.2)) := xCt.of RX7 rfl (by decide +kernel) (Nat.le_of_ble_eq_true rfl) (fun Γ el ea eG eL C E => by
    subst el
    subst ea
    subst eG
    unfold fX7_sets at h
    exact xG.sub (bX7_sets_0 C eL  E h) ⟨rfl, rfl, rfl, trivial⟩)
def fX8_sets_19 (w : xW) : Option (xW × Int32) :=
  (fX8_finding w (-1000000001)).bind fun z3 =>
  some (z3.1, z3.2)
def fX8_sets_0 (w : xW) (x1 : Int32) (x2 : Int32) : Option (xW × Int32) :=
  if (fX8_within x1 0 2) = 0 then
    fX8_sets_19 w
  else
  if (fX8_within x2 0 1073741823) = 0 then
    fX8_sets_19 w
  else
  (fX8_become (sI w 55 8 0) (4 + x1) x2).bind fun z1 =>
  some (z1.1, z1.2)
def fX8_sets (w : xW) (x1 : Int32) (x2 : Int32) : Option (xW × Int32) := fX8_sets_0 w x1 x2
set_option maxRecDepth 100000 in
set_option maxHeartbeats 4000000 in
theorem bX8_sets_19 {Γ : xΓ} (C : xOK Γ cX8_sets RX8 2) (hL : xn Γ = 3) {w : xW} {r : xW × Int32} (E : xEnd Γ (some .int) r.1 (some (.int r.2))) (h : fX8_sets_19  w = some r) : xG Γ w 19 [(0, .ref (xad Γ 55))] [] := by
  unfold fX8_sets_19 at h
  refine xr_aload_n C 19 rfl dX8_sets_19 ?_
  refine xr_ldc C 20 k_X8_98 dX8_sets_20 ?_
  obtain ⟨z3, q4, h⟩ := g_bind h
  refine xr_callV C 22 (mX8_finding q4) v_X8_finding ml_X8_125 (Nat.le_of_ble_eq_true rfl) (Nat.le_of_ble_eq_true rfl) (xrecv C rfl rfl) rfl rfl (Nat.le_of_ble_eq_true rfl) rfl dX8_sets_22 ?_
  cases h
  exact xr_iret C 25 E dX8_sets_25
set_option maxRecDepth 100000 in
set_option maxHeartbeats 4000000 in
theorem bX8_sets_0 {Γ : xΓ} (C : xOK Γ cX8_sets RX8 2) (hL : xn Γ = 3) {w : xW} {x1 : Int32} {x2 : Int32} {r : xW × Int32} (E : xEnd Γ (some .int) r.1 (some (.int r.2))) (h : fX8_sets_0  w x1 x2 = some r) : xG Γ w 0 [(0, .ref (xad Γ 55)), (1, .int x1), (2, .int x2)] [] := by
  unfold fX8_sets_0 at h
  refine xr_iload_n C 0 rfl dX8_sets_0 ?_
  refine xr_iconst C 1 0 (by decide +kernel) dX8_sets_1 ?_
  refine xr_iconst C 2 2 (by decide +kernel) dX8_sets_2 ?_
  refine xr_callS C 3 (mX8_within rfl) v_X8_within ml_X8_121 (Nat.le_of_ble_eq_true rfl) (Nat.le_of_ble_eq_true rfl) rfl rfl (Nat.le_of_ble_eq_true rfl) rfl dX8_sets_3 ?_
  refine xr_if_eq C 6 19 dX8_sets_6 rfl (fun q => ?_) (fun q => ?_)
  · have h := g_it h q
    exact xG.sub (bX8_sets_19 C hL E h) ⟨rfl, trivial⟩
  · have h := g_if h q
    refine xr_iload_n C 9 rfl dX8_sets_9 ?_
    refine xr_iconst C 10 0 (by decide +kernel) dX8_sets_10 ?_
    refine xr_ldc C 11 k_X8_132 dX8_sets_11 ?_
    refine xr_callS C 13 (mX8_within rfl) v_X8_within ml_X8_121 (Nat.le_of_ble_eq_true rfl) (Nat.le_of_ble_eq_true rfl) rfl rfl (Nat.le_of_ble_eq_true rfl) rfl dX8_sets_13 ?_
    refine xr_if_ne C 16 26 dX8_sets_16 rfl (fun q => ?_) (fun q => ?_)
    · have h := g_if h q
      refine xr_aload_n C 26 rfl dX8_sets_26 ?_
      refine xr_iconst C 27 0 (by decide +kernel) dX8_sets_27 ?_
      refine xr_putZ C 28 dX8_sets_28 fp_X8_114 rfl rfl (by decide +kernel) ?_
      refine xr_aload_n C 31 rfl dX8_sets_31 ?_
      refine xr_iconst C 32 4 (by decide +kernel) dX8_sets_32 ?_
      refine xr_iload_n C 33 rfl dX8_sets_33 ?_
      refine xr_iadd C 34 dX8_sets_34 ?_
      refine xr_iload_n C 35 rfl dX8_sets_35 ?_
      obtain ⟨z1, q2, h⟩ := g_bind h
      refine xr_callV C 36 (mX8_become q2) v_X8_become ml_X8_128 (Nat.le_of_ble_eq_true rfl) (Nat.le_of_ble_eq_true rfl) (xrecv C rfl rfl) rfl rfl (Nat.le_of_ble_eq_true rfl) rfl dX8_sets_36 ?_
      cases h
      exact xr_iret C 39 E dX8_sets_39
    · have h := g_it h q
      exact xG.sub (bX8_sets_19 C hL E h) ⟨rfl, trivial⟩
set_option maxRecDepth 100000 in
set_option maxHeartbeats 4000000 in
theorem mX8_sets {l : Launch} {ad : Nat → Nat} {G : gEnv} {w : xW} {x1 : Int32} {x2 : Int32} {r : xW × Int32} (h : fX8_sets w x1 x2 = some r) : xCt l ad G 2 yX8_sets cX8_sets 3 (some .int) [.ref (ad 55), .int x1, .int x2] w r.1 (some (.int r.2)) := xCt.of RX8 rfl (by decide +kernel) (Nat.le_of_ble_eq_true rfl) (fun Γ el ea eG eL C E => by
    subst el
    subst ea
    subst eG
    unfold fX8_sets at h
    exact xG.sub (bX8_sets_0 C eL  E h) ⟨rfl, rfl, rfl, trivial⟩)
def fX7_isSide_0 (x0 : Int32) : Int32 :=
  if x0 < 0 then
    0
  else
  if 4 ≤ x0 then
    0
  else
  1
def fX7_isSide (x0 : Int32) : Int32 := fX7_isSide_0 x0
theorem xb_fX7_isSide {x0 : Int32} : xB (fX7_isSide x0) = true := by
  unfold fX7_isSide fX7_isSide_0
  repeat' split
  all_goals first | rfl | exact xb_fX7_isSide
set_option maxRecDepth 100000 in
set_option maxHeartbeats 4000000 in
theorem bX7_isSide_0 {Γ : xΓ} (C : xOK Γ cX7_isSide RX7 1) (hL : xn Γ = 1) {w : xW} {x0 : Int32} {r : Int32} (E : xEnd Γ (some .boolean) w (some (.int r))) (h : fX7_isSide_0  x0 = r) : xG Γ w 0 [(0, .int x0)] [] := by
  unfold fX7_isSide_0 at h
  refine xr_iload_n C 0 rfl dX7_isSide_0 ?_
  refine xr_if_lt C 1 13 dX7_isSide_1 rfl (fun q => ?_) (fun q => ?_)
  · have h := g_it h q
    refine xr_iconst C 13 0 (by decide +kernel) dX7_isSide_13 ?_
    cases h
    exact xr_zret C 14 E dX7_isSide_14 (by decide +kernel)
  · have h := g_if h q
    refine xr_iload_n C 4 rfl dX7_isSide_4 ?_
    refine xr_iconst C 5 4 (by decide +kernel) dX7_isSide_5 ?_
    refine xr_icmp_ge C 6 13 dX7_isSide_6 rfl (fun q => ?_) (fun q => ?_)
    · have h := g_it h q
      refine xr_iconst C 13 0 (by decide +kernel) dX7_isSide_13 ?_
      cases h
      exact xr_zret C 14 E dX7_isSide_14 (by decide +kernel)
    · have h := g_if h q
      refine xr_iconst C 9 1 (by decide +kernel) dX7_isSide_9 ?_
      refine xr_goto C 10 14 dX7_isSide_10 rfl ?_
      cases h
      exact xr_zret C 14 E dX7_isSide_14 (by decide +kernel)
set_option maxRecDepth 100000 in
set_option maxHeartbeats 4000000 in
theorem mX7_isSide {l : Launch} {ad : Nat → Nat} {G : gEnv} {w : xW} {x0 : Int32} {r : Int32} (h : fX7_isSide x0 = r) : xCt l ad G 1 yX7_isSide cX7_isSide 1 (some .boolean) [.int x0] w w (some (.int r)) := xCt.of RX7 rfl (by decide +kernel) (Nat.le_of_ble_eq_true rfl) (fun Γ el ea eG eL C E => by
    subst el
    subst ea
    subst eG
    unfold fX7_isSide at h
    exact xG.sub (bX7_isSide_0 C eL  E h) ⟨rfl, trivial⟩)
def fX7_wind_17 (w : xW) : Option (xW × Int32) :=
  (fX7_refuse w (-1000000001)).bind fun z1 =>
  some (z1.1, z1.2)
def fX7_wind_0 (w : xW) (x1 : Int32) (x2 : Int32) : Option (xW × Int32) :=
  if (fX7_isSide x1) = 0 then
    fX7_wind_17 w
  else
  if x2 < 0 then
    fX7_wind_17 w
  else
  if x2 ≤ 9 then
    some (sI (sI w 1 1 x1) 1 2 x2, w.1 1 2)
  else
  fX7_wind_17 w
def fX7_wind (w : xW) (x1 : Int32) (x2 : Int32) : Option (xW × Int32) := fX7_wind_0 w x1 x2
set_option maxRecDepth 100000 in
set_option maxHeartbeats 4000000 in
theorem bX7_wind_17 {Γ : xΓ} (C : xOK Γ cX7_wind RX7 2) (hL : xn Γ = 4) {w : xW} {r : xW × Int32} (E : xEnd Γ (some .int) r.1 (some (.int r.2))) (h : fX7_wind_17  w = some r) : xG Γ w 17 [(0, .ref (xad Γ 0))] [] := by
  unfold fX7_wind_17 at h
  refine xr_aload_n C 17 rfl dX7_wind_17 ?_
  refine xr_ldc C 18 k_X7_69 dX7_wind_18 ?_
  obtain ⟨z1, q2, h⟩ := g_bind h
  refine xr_callV C 20 (mX7_refuse q2) v_X7_refuse ml_X7_70 (Nat.le_of_ble_eq_true rfl) (Nat.le_of_ble_eq_true rfl) (xrecv C rfl rfl) rfl rfl (Nat.le_of_ble_eq_true rfl) rfl dX7_wind_20 ?_
  cases h
  exact xr_iret C 23 E dX7_wind_23
set_option maxRecDepth 100000 in
set_option maxHeartbeats 4000000 in
theorem bX7_wind_0 {Γ : xΓ} (C : xOK Γ cX7_wind RX7 2) (hL : xn Γ = 4) {w : xW} {x1 : Int32} {x2 : Int32} {r : xW × Int32} (E : xEnd Γ (some .int) r.1 (some (.int r.2))) (h : fX7_wind_0  w x1 x2 = some r) : xG Γ w 0 [(0, .ref (xad Γ 0)), (1, .int x1), (2, .int x2)] [] := by
  unfold fX7_wind_0 at h
  refine xr_iload_n C 0 rfl dX7_wind_0 ?_
  refine xr_callS C 1 (mX7_isSide rfl) v_X7_isSide ml_X7_87 (Nat.le_of_ble_eq_true rfl) (Nat.le_of_ble_eq_true rfl) rfl rfl (Nat.le_of_ble_eq_true rfl) rfl dX7_wind_1 ?_
  refine xr_if_eq C 4 17 dX7_wind_4 rfl (fun q => ?_) (fun q => ?_)
  · have h := g_it h q
    exact xG.sub (bX7_wind_17 C hL E h) ⟨rfl, trivial⟩
  · have h := g_if h q
    refine xr_iload_n C 7 rfl dX7_wind_7 ?_
    refine xr_if_lt C 8 17 dX7_wind_8 rfl (fun q => ?_) (fun q => ?_)
    · have h := g_it h q
      exact xG.sub (bX7_wind_17 C hL E h) ⟨rfl, trivial⟩
    · have h := g_if h q
      refine xr_iload_n C 11 rfl dX7_wind_11 ?_
      refine xr_bipush C 12 9 (by decide +kernel) dX7_wind_12 ?_
      refine xr_icmp_le C 14 24 dX7_wind_14 rfl (fun q => ?_) (fun q => ?_)
      · have h := g_it h q
        refine xr_aload_n C 24 rfl dX7_wind_24 ?_
        refine xr_getR C 25 dX7_wind_25 fl_X7_10 rfl rfl ?_
        refine xr_getI C 28 dX7_wind_28 fl_X7_91 rfl rfl ?_
        refine xr_istore_n C 31 dX7_wind_31 (xnb hL rfl) ?_
        refine xr_aload_n C 32 rfl dX7_wind_32 ?_
        refine xr_getR C 33 dX7_wind_33 fl_X7_10 rfl rfl ?_
        refine xr_iload_n C 36 rfl dX7_wind_36 ?_
        refine xr_putI C 37 dX7_wind_37 fp_X7_95 rfl rfl ?_
        refine xr_aload_n C 40 rfl dX7_wind_40 ?_
        refine xr_getR C 41 dX7_wind_41 fl_X7_10 rfl rfl ?_
        refine xr_iload_n C 44 rfl dX7_wind_44 ?_
        refine xr_putI C 45 dX7_wind_45 fp_X7_91 rfl rfl ?_
        refine xr_iload_n C 48 rfl dX7_wind_48 ?_
        cases h
        exact xr_iret C 49 E dX7_wind_49
      · have h := g_if h q
        exact xG.sub (bX7_wind_17 C hL E h) ⟨rfl, trivial⟩
set_option maxRecDepth 100000 in
set_option maxHeartbeats 4000000 in
theorem mX7_wind {l : Launch} {ad : Nat → Nat} {G : gEnv} {w : xW} {x1 : Int32} {x2 : Int32} {r : xW × Int32} (h : fX7_wind w x1 x2 = some r) : xCt l ad G 2 yX7_wind cX7_wind 4 (some .int) [.ref (ad 0), .int x1, .int x2] w r.1 (some (.int r.2)) := xCt.of RX7 rfl (by decide +kernel) (Nat.le_of_ble_eq_true rfl) (fun Γ el ea eG eL C E => by
    subst el
    subst ea
    subst eG
    unfold fX7_wind at h
    exact xG.sub (bX7_wind_0 C eL  E h) ⟨rfl, rfl, rfl, trivial⟩)
def fX8_isSide_0 (x0 : Int32) : Int32 :=
  (fX8_within x0 0 3)
def fX8_isSide (x0 : Int32) : Int32 := fX8_isSide_0 x0
theorem xb_fX8_isSide {x0 : Int32} : xB (fX8_isSide x0) = true := by
  unfold fX8_isSide fX8_isSide_0
  repeat' split
  all_goals first | rfl | exact xb_fX8_within
set_option maxRecDepth 100000 in
set_option maxHeartbeats 4000000 in
theorem bX8_isSide_0 {Γ : xΓ} (C : xOK Γ cX8_isSide RX8 2) (hL : xn Γ = 1) {w : xW} {x0 : Int32} {r : Int32} (E : xEnd Γ (some .boolean) w (some (.int r))) (h : fX8_isSide_0  x0 = r) : xG Γ w 0 [(0, .int x0)] [] := by
  unfold fX8_isSide_0 at h
  refine xr_iload_n C 0 rfl dX8_isSide_0 ?_
  refine xr_iconst C 1 0 (by decide +kernel) dX8_isSide_1 ?_
  refine xr_iconst C 2 3 (by decide +kernel) dX8_isSide_2 ?_
  refine xr_callS C 3 (mX8_within rfl) v_X8_within ml_X8_121 (Nat.le_of_ble_eq_true rfl) (Nat.le_of_ble_eq_true rfl) rfl rfl (Nat.le_of_ble_eq_true rfl) rfl dX8_isSide_3 ?_
  cases h
  exact xr_zret C 6 E dX8_isSide_6 (xb_fX8_within)
set_option maxRecDepth 100000 in
set_option maxHeartbeats 4000000 in
theorem mX8_isSide {l : Launch} {ad : Nat → Nat} {G : gEnv} {w : xW} {x0 : Int32} {r : Int32} (h : fX8_isSide x0 = r) : xCt l ad G 2 yX8_isSide cX8_isSide 1 (some .boolean) [.int x0] w w (some (.int r)) := xCt.of RX8 rfl (by decide +kernel) (Nat.le_of_ble_eq_true rfl) (fun Γ el ea eG eL C E => by
    subst el
    subst ea
    subst eG
    unfold fX8_isSide at h
    exact xG.sub (bX8_isSide_0 C eL  E h) ⟨rfl, trivial⟩)
def fX8_wind_17 (w : xW) : Option (xW × Int32) :=
  (fX8_finding w (-1000000001)).bind fun z3 =>
  some (z3.1, z3.2)
def fX8_wind_0 (w : xW) (x1 : Int32) (x2 : Int32) : Option (xW × Int32) :=
  if (fX8_isSide x1) = 0 then
    fX8_wind_17 w
  else
  if (fX8_within x2 0 9) = 0 then
    fX8_wind_17 w
  else
  (fX8_become (sI w 56 7 x1) 8 x2).bind fun z1 =>
  some (z1.1, z1.2)
def fX8_wind (w : xW) (x1 : Int32) (x2 : Int32) : Option (xW × Int32) := fX8_wind_0 w x1 x2
set_option maxRecDepth 100000 in
set_option maxHeartbeats 4000000 in
theorem bX8_wind_17 {Γ : xΓ} (C : xOK Γ cX8_wind RX8 3) (hL : xn Γ = 3) {w : xW} {r : xW × Int32} (E : xEnd Γ (some .int) r.1 (some (.int r.2))) (h : fX8_wind_17  w = some r) : xG Γ w 17 [(0, .ref (xad Γ 55))] [] := by
  unfold fX8_wind_17 at h
  refine xr_aload_n C 17 rfl dX8_wind_17 ?_
  refine xr_ldc C 18 k_X8_98 dX8_wind_18 ?_
  obtain ⟨z3, q4, h⟩ := g_bind h
  refine xr_callV C 20 (mX8_finding q4) v_X8_finding ml_X8_125 (Nat.le_of_ble_eq_true rfl) (Nat.le_of_ble_eq_true rfl) (xrecv C rfl rfl) rfl rfl (Nat.le_of_ble_eq_true rfl) rfl dX8_wind_20 ?_
  cases h
  exact xr_iret C 23 E dX8_wind_23
set_option maxRecDepth 100000 in
set_option maxHeartbeats 4000000 in
theorem bX8_wind_0 {Γ : xΓ} (C : xOK Γ cX8_wind RX8 3) (hL : xn Γ = 3) {w : xW} {x1 : Int32} {x2 : Int32} {r : xW × Int32} (E : xEnd Γ (some .int) r.1 (some (.int r.2))) (h : fX8_wind_0  w x1 x2 = some r) : xG Γ w 0 [(0, .ref (xad Γ 55)), (1, .int x1), (2, .int x2)] [] := by
  unfold fX8_wind_0 at h
  refine xr_iload_n C 0 rfl dX8_wind_0 ?_
  refine xr_callS C 1 (mX8_isSide rfl) v_X8_isSide ml_X8_133 (Nat.le_of_ble_eq_true rfl) (Nat.le_of_ble_eq_true rfl) rfl rfl (Nat.le_of_ble_eq_true rfl) rfl dX8_wind_1 ?_
  refine xr_if_eq C 4 17 dX8_wind_4 rfl (fun q => ?_) (fun q => ?_)
  · have h := g_it h q
    exact xG.sub (bX8_wind_17 C hL E h) ⟨rfl, trivial⟩
  · have h := g_if h q
    refine xr_iload_n C 7 rfl dX8_wind_7 ?_
    refine xr_iconst C 8 0 (by decide +kernel) dX8_wind_8 ?_
    refine xr_bipush C 9 9 (by decide +kernel) dX8_wind_9 ?_
    refine xr_callS C 11 (mX8_within rfl) v_X8_within ml_X8_121 (Nat.le_of_ble_eq_true rfl) (Nat.le_of_ble_eq_true rfl) rfl rfl (Nat.le_of_ble_eq_true rfl) rfl dX8_wind_11 ?_
    refine xr_if_ne C 14 24 dX8_wind_14 rfl (fun q => ?_) (fun q => ?_)
    · have h := g_if h q
      refine xr_aload_n C 24 rfl dX8_wind_24 ?_
      refine xr_getR C 25 dX8_wind_25 fl_X8_9 rfl rfl ?_
      refine xr_bipush C 28 7 (by decide +kernel) dX8_wind_28 ?_
      refine xr_iload_n C 30 rfl dX8_wind_30 ?_
      refine xr_iast C 31 7 (by decide +kernel) dX8_wind_31 rfl (ibd_in (by decide +kernel)) ?_
      refine xr_aload_n C 32 rfl dX8_wind_32 ?_
      refine xr_bipush C 33 8 (by decide +kernel) dX8_wind_33 ?_
      refine xr_iload_n C 35 rfl dX8_wind_35 ?_
      obtain ⟨z1, q2, h⟩ := g_bind h
      refine xr_callV C 36 (mX8_become q2) v_X8_become ml_X8_128 (Nat.le_of_ble_eq_true rfl) (Nat.le_of_ble_eq_true rfl) (xrecv C rfl rfl) rfl rfl (Nat.le_of_ble_eq_true rfl) rfl dX8_wind_36 ?_
      cases h
      exact xr_iret C 39 E dX8_wind_39
    · have h := g_it h q
      exact xG.sub (bX8_wind_17 C hL E h) ⟨rfl, trivial⟩
set_option maxRecDepth 100000 in
set_option maxHeartbeats 4000000 in
theorem mX8_wind {l : Launch} {ad : Nat → Nat} {G : gEnv} {w : xW} {x1 : Int32} {x2 : Int32} {r : xW × Int32} (h : fX8_wind w x1 x2 = some r) : xCt l ad G 3 yX8_wind cX8_wind 3 (some .int) [.ref (ad 55), .int x1, .int x2] w r.1 (some (.int r.2)) := xCt.of RX8 rfl (by decide +kernel) (Nat.le_of_ble_eq_true rfl) (fun Γ el ea eG eL C E => by
    subst el
    subst ea
    subst eG
    unfold fX8_wind at h
    exact xG.sub (bX8_wind_0 C eL  E h) ⟨rfl, rfl, rfl, trivial⟩)
def fX6_begins_28 (w : xW) (x1 : Int32) (s0 : Int32) : Int32 :=
  if s0 = 0 then
    ((w.1 3 0) + (x1 * (w.1 3 1))) + 0
  else
  ((w.1 3 0) + (x1 * (w.1 3 1))) + (w.1 3 3)
def fX6_begins_0 (w : xW) (x1 : Int32) : Int32 :=
  if x1 < 0 then
    fX6_begins_28 w x1 0
  else
  if 30 ≤ x1 then
    fX6_begins_28 w x1 0
  else
  if (((w.1 4 0) >>> (x1 &&& 31)) &&& 1) = 0 then
    fX6_begins_28 w x1 0
  else
  fX6_begins_28 w x1 1
def fX6_begins (w : xW) (x1 : Int32) : Int32 := fX6_begins_0 w x1
set_option maxRecDepth 100000 in
set_option maxHeartbeats 4000000 in
theorem bX6_begins_28 {Γ : xΓ} (C : xOK Γ cX6_begins RX6 1) (hL : xn Γ = 3) {w : xW} {x1 : Int32} {s0 : Int32} {r : Int32} (E : xEnd Γ (some .int) w (some (.int r))) (h : fX6_begins_28 w x1 s0 = r) : xG Γ w 28 [(0, .ref (xad Γ 2)), (1, .int x1)] [.int s0] := by
  unfold fX6_begins_28 at h
  refine xr_istore_n C 28 dX6_begins_28 (xnb hL rfl) ?_
  refine xr_aload_n C 29 rfl dX6_begins_29 ?_
  refine xr_getR C 30 dX6_begins_30 fl_X6_9 rfl rfl ?_
  refine xr_iconst C 33 0 (by decide +kernel) dX6_begins_33 ?_
  refine xr_iald C 34 0 (by decide +kernel) dX6_begins_34 rfl (ibd_in (by decide +kernel)) ?_
  refine xr_iload_n C 35 rfl dX6_begins_35 ?_
  refine xr_aload_n C 36 rfl dX6_begins_36 ?_
  refine xr_getR C 37 dX6_begins_37 fl_X6_9 rfl rfl ?_
  refine xr_iconst C 40 1 (by decide +kernel) dX6_begins_40 ?_
  refine xr_iald C 41 1 (by decide +kernel) dX6_begins_41 rfl (ibd_in (by decide +kernel)) ?_
  refine xr_imul C 42 dX6_begins_42 ?_
  refine xr_iadd C 43 dX6_begins_43 ?_
  refine xr_iload_n C 44 rfl dX6_begins_44 ?_
  refine xr_if_eq C 45 57 dX6_begins_45 rfl (fun q => ?_) (fun q => ?_)
  · have h := g_it h q
    refine xr_iconst C 57 0 (by decide +kernel) dX6_begins_57 ?_
    refine xr_iadd C 58 dX6_begins_58 ?_
    cases h
    exact xr_iret C 59 E dX6_begins_59
  · have h := g_if h q
    refine xr_aload_n C 48 rfl dX6_begins_48 ?_
    refine xr_getR C 49 dX6_begins_49 fl_X6_9 rfl rfl ?_
    refine xr_iconst C 52 3 (by decide +kernel) dX6_begins_52 ?_
    refine xr_iald C 53 3 (by decide +kernel) dX6_begins_53 rfl (ibd_in (by decide +kernel)) ?_
    refine xr_goto C 54 58 dX6_begins_54 rfl ?_
    refine xr_iadd C 58 dX6_begins_58 ?_
    cases h
    exact xr_iret C 59 E dX6_begins_59
set_option maxRecDepth 100000 in
set_option maxHeartbeats 4000000 in
theorem bX6_begins_0 {Γ : xΓ} (C : xOK Γ cX6_begins RX6 1) (hL : xn Γ = 3) {w : xW} {x1 : Int32} {r : Int32} (E : xEnd Γ (some .int) w (some (.int r))) (h : fX6_begins_0 w x1 = r) : xG Γ w 0 [(0, .ref (xad Γ 2)), (1, .int x1)] [] := by
  unfold fX6_begins_0 at h
  refine xr_iload_n C 0 rfl dX6_begins_0 ?_
  refine xr_if_lt C 1 27 dX6_begins_1 rfl (fun q => ?_) (fun q => ?_)
  · have h := g_it h q
    refine xr_iconst C 27 0 (by decide +kernel) dX6_begins_27 ?_
    exact xG.sub (bX6_begins_28 C hL E h) ⟨rfl, rfl, trivial⟩
  · have h := g_if h q
    refine xr_iload_n C 4 rfl dX6_begins_4 ?_
    refine xr_bipush C 5 30 (by decide +kernel) dX6_begins_5 ?_
    refine xr_icmp_ge C 7 27 dX6_begins_7 rfl (fun q => ?_) (fun q => ?_)
    · have h := g_it h q
      refine xr_iconst C 27 0 (by decide +kernel) dX6_begins_27 ?_
      exact xG.sub (bX6_begins_28 C hL E h) ⟨rfl, rfl, trivial⟩
    · have h := g_if h q
      refine xr_aload_n C 10 rfl dX6_begins_10 ?_
      refine xr_getR C 11 dX6_begins_11 fl_X6_15 rfl rfl ?_
      refine xr_iconst C 14 0 (by decide +kernel) dX6_begins_14 ?_
      refine xr_iald C 15 0 (by decide +kernel) dX6_begins_15 rfl (ibd_in (by decide +kernel)) ?_
      refine xr_iload_n C 16 rfl dX6_begins_16 ?_
      refine xr_ishr C 17 dX6_begins_17 ?_
      refine xr_iconst C 18 1 (by decide +kernel) dX6_begins_18 ?_
      refine xr_iand C 19 dX6_begins_19 ?_
      refine xr_if_eq C 20 27 dX6_begins_20 rfl (fun q => ?_) (fun q => ?_)
      · have h := g_it h q
        refine xr_iconst C 27 0 (by decide +kernel) dX6_begins_27 ?_
        exact xG.sub (bX6_begins_28 C hL E h) ⟨rfl, rfl, trivial⟩
      · have h := g_if h q
        refine xr_iconst C 23 1 (by decide +kernel) dX6_begins_23 ?_
        refine xr_goto C 24 28 dX6_begins_24 rfl ?_
        exact xG.sub (bX6_begins_28 C hL E h) ⟨rfl, rfl, trivial⟩
set_option maxRecDepth 100000 in
set_option maxHeartbeats 4000000 in
theorem mX6_begins {l : Launch} {ad : Nat → Nat} {G : gEnv} {w : xW} {x1 : Int32} {r : Int32} (h : fX6_begins w x1 = r) : xCt l ad G 1 yX6_begins cX6_begins 3 (some .int) [.ref (ad 2), .int x1] w w (some (.int r)) := xCt.of RX6 rfl (by decide +kernel) (Nat.le_of_ble_eq_true rfl) (fun Γ el ea eG eL C E => by
    subst el
    subst ea
    subst eG
    unfold fX6_begins at h
    exact xG.sub (bX6_begins_0 C eL  E h) ⟨rfl, rfl, trivial⟩)
def fX6_ends_0 (w : xW) (x1 : Int32) : Int32 :=
  (fX6_begins w x1) + (w.1 3 2)
def fX6_ends (w : xW) (x1 : Int32) : Int32 := fX6_ends_0 w x1
set_option maxRecDepth 100000 in
set_option maxHeartbeats 4000000 in
theorem bX6_ends_0 {Γ : xΓ} (C : xOK Γ cX6_ends RX6 2) (hL : xn Γ = 2) {w : xW} {x1 : Int32} {r : Int32} (E : xEnd Γ (some .int) w (some (.int r))) (h : fX6_ends_0 w x1 = r) : xG Γ w 0 [(0, .ref (xad Γ 2)), (1, .int x1)] [] := by
  unfold fX6_ends_0 at h
  refine xr_aload_n C 0 rfl dX6_ends_0 ?_
  refine xr_iload_n C 1 rfl dX6_ends_1 ?_
  refine xr_callV C 2 (mX6_begins rfl) v_X6_begins ml_X6_30 (Nat.le_of_ble_eq_true rfl) (Nat.le_of_ble_eq_true rfl) (xrecv C rfl rfl) rfl rfl (Nat.le_of_ble_eq_true rfl) rfl dX6_ends_2 ?_
  refine xr_aload_n C 5 rfl dX6_ends_5 ?_
  refine xr_getR C 6 dX6_ends_6 fl_X6_9 rfl rfl ?_
  refine xr_iconst C 9 2 (by decide +kernel) dX6_ends_9 ?_
  refine xr_iald C 10 2 (by decide +kernel) dX6_ends_10 rfl (ibd_in (by decide +kernel)) ?_
  refine xr_iadd C 11 dX6_ends_11 ?_
  cases h
  exact xr_iret C 12 E dX6_ends_12
set_option maxRecDepth 100000 in
set_option maxHeartbeats 4000000 in
theorem mX6_ends {l : Launch} {ad : Nat → Nat} {G : gEnv} {w : xW} {x1 : Int32} {r : Int32} (h : fX6_ends w x1 = r) : xCt l ad G 2 yX6_ends cX6_ends 2 (some .int) [.ref (ad 2), .int x1] w w (some (.int r)) := xCt.of RX6 rfl (by decide +kernel) (Nat.le_of_ble_eq_true rfl) (fun Γ el ea eG eL C E => by
    subst el
    subst ea
    subst eG
    unfold fX6_ends at h
    exact xG.sub (bX6_ends_0 C eL  E h) ⟨rfl, rfl, trivial⟩)
def fX7_tide_20 (w : xW) : Option (xW × Int32) :=
  (fX7_refuse w (-1000000001)).bind fun z1 =>
  some (z1.1, z1.2)
def fX7_tide_0 (w : xW) (x1 : Int32) (x2 : Int32) : Option (xW × Int32) :=
  if x1 < 0 then
    fX7_tide_20 w
  else
  if 199 < x1 then
    fX7_tide_20 w
  else
  if x2 < 0 then
    fX7_tide_20 w
  else
  if x2 ≤ 1 then
    if x2 = 0 then
      some (w, (fX6_begins w x1))
    else
    some (w, (fX6_ends w x1))
  else
  fX7_tide_20 w
def fX7_tide (w : xW) (x1 : Int32) (x2 : Int32) : Option (xW × Int32) := fX7_tide_0 w x1 x2
set_option maxRecDepth 100000 in
set_option maxHeartbeats 4000000 in
theorem bX7_tide_20 {Γ : xΓ} (C : xOK Γ cX7_tide RX7 3) (hL : xn Γ = 3) {w : xW} {r : xW × Int32} (E : xEnd Γ (some .int) r.1 (some (.int r.2))) (h : fX7_tide_20  w = some r) : xG Γ w 20 [(0, .ref (xad Γ 0))] [] := by
  unfold fX7_tide_20 at h
  refine xr_aload_n C 20 rfl dX7_tide_20 ?_
  refine xr_ldc C 21 k_X7_69 dX7_tide_21 ?_
  obtain ⟨z1, q2, h⟩ := g_bind h
  refine xr_callV C 23 (mX7_refuse q2) v_X7_refuse ml_X7_70 (Nat.le_of_ble_eq_true rfl) (Nat.le_of_ble_eq_true rfl) (xrecv C rfl rfl) rfl rfl (Nat.le_of_ble_eq_true rfl) rfl dX7_tide_23 ?_
  cases h
  exact xr_iret C 26 E dX7_tide_26
set_option maxRecDepth 100000 in
set_option maxHeartbeats 4000000 in
theorem bX7_tide_0 {Γ : xΓ} (C : xOK Γ cX7_tide RX7 3) (hL : xn Γ = 3) {w : xW} {x1 : Int32} {x2 : Int32} {r : xW × Int32} (E : xEnd Γ (some .int) r.1 (some (.int r.2))) (h : fX7_tide_0  w x1 x2 = some r) : xG Γ w 0 [(0, .ref (xad Γ 0)), (1, .int x1), (2, .int x2)] [] := by
  unfold fX7_tide_0 at h
  refine xr_iload_n C 0 rfl dX7_tide_0 ?_
  refine xr_if_lt C 1 20 dX7_tide_1 rfl (fun q => ?_) (fun q => ?_)
  · have h := g_it h q
    exact xG.sub (bX7_tide_20 C hL E h) ⟨rfl, trivial⟩
  · have h := g_if h q
    refine xr_iload_n C 4 rfl dX7_tide_4 ?_
    refine xr_sipush C 5 199 (by decide +kernel) dX7_tide_5 ?_
    refine xr_icmp_gt C 8 20 dX7_tide_8 rfl (fun q => ?_) (fun q => ?_)
    · have h := g_it h q
      exact xG.sub (bX7_tide_20 C hL E h) ⟨rfl, trivial⟩
    · have h := g_if h q
      refine xr_iload_n C 11 rfl dX7_tide_11 ?_
      refine xr_if_lt C 12 20 dX7_tide_12 rfl (fun q => ?_) (fun q => ?_)
      · have h := g_it h q
        exact xG.sub (bX7_tide_20 C hL E h) ⟨rfl, trivial⟩
      · have h := g_if h q
        refine xr_iload_n C 15 rfl dX7_tide_15 ?_
        refine xr_iconst C 16 1 (by decide +kernel) dX7_tide_16 ?_
        refine xr_icmp_le C 17 27 dX7_tide_17 rfl (fun q => ?_) (fun q => ?_)
        · have h := g_it h q
          refine xr_iload_n C 27 rfl dX7_tide_27 ?_
          refine xr_if_ne C 28 45 dX7_tide_28 rfl (fun q => ?_) (fun q => ?_)
          · have h := g_if h q
            refine xr_aload_n C 45 rfl dX7_tide_45 ?_
            refine xr_getR C 46 dX7_tide_46 fl_X7_10 rfl rfl ?_
            refine xr_getR C 49 dX7_tide_49 fl_X7_77 rfl rfl ?_
            refine xr_iload_n C 52 rfl dX7_tide_52 ?_
            refine xr_callV C 53 (mX6_ends rfl) v_X6_ends ml_X7_101 (Nat.le_of_ble_eq_true rfl) (Nat.le_of_ble_eq_true rfl) (xrecv C rfl rfl) rfl rfl (Nat.le_of_ble_eq_true rfl) rfl dX7_tide_53 ?_
            cases h
            exact xr_iret C 56 E dX7_tide_56
          · have h := g_it h q
            refine xr_aload_n C 31 rfl dX7_tide_31 ?_
            refine xr_getR C 32 dX7_tide_32 fl_X7_10 rfl rfl ?_
            refine xr_getR C 35 dX7_tide_35 fl_X7_77 rfl rfl ?_
            refine xr_iload_n C 38 rfl dX7_tide_38 ?_
            refine xr_callV C 39 (mX6_begins rfl) v_X6_begins ml_X7_98 (Nat.le_of_ble_eq_true rfl) (Nat.le_of_ble_eq_true rfl) (xrecv C rfl rfl) rfl rfl (Nat.le_of_ble_eq_true rfl) rfl dX7_tide_39 ?_
            refine xr_goto C 42 56 dX7_tide_42 rfl ?_
            cases h
            exact xr_iret C 56 E dX7_tide_56
        · have h := g_if h q
          exact xG.sub (bX7_tide_20 C hL E h) ⟨rfl, trivial⟩
set_option maxRecDepth 100000 in
set_option maxHeartbeats 4000000 in
theorem mX7_tide {l : Launch} {ad : Nat → Nat} {G : gEnv} {w : xW} {x1 : Int32} {x2 : Int32} {r : xW × Int32} (h : fX7_tide w x1 x2 = some r) : xCt l ad G 3 yX7_tide cX7_tide 3 (some .int) [.ref (ad 0), .int x1, .int x2] w r.1 (some (.int r.2)) := xCt.of RX7 rfl (by decide +kernel) (Nat.le_of_ble_eq_true rfl) (fun Γ el ea eG eL C E => by
    subst el
    subst ea
    subst eG
    unfold fX7_tide at h
    exact xG.sub (bX7_tide_0 C eL  E h) ⟨rfl, rfl, rfl, trivial⟩)
def fX8_has_0 (x0 : Int32) (x1 : Int32) : Int32 :=
  if ((x0 >>> (x1 &&& 31)) &&& 1) = 1 then
    1
  else
  0
def fX8_has (x0 : Int32) (x1 : Int32) : Int32 := fX8_has_0 x0 x1
theorem xb_fX8_has {x0 : Int32} {x1 : Int32} : xB (fX8_has x0 x1) = true := by
  unfold fX8_has fX8_has_0
  repeat' split
  all_goals first | rfl | exact xb_fX8_has
set_option maxRecDepth 100000 in
set_option maxHeartbeats 4000000 in
theorem bX8_has_0 {Γ : xΓ} (C : xOK Γ cX8_has RX8 1) (hL : xn Γ = 2) {w : xW} {x0 : Int32} {x1 : Int32} {r : Int32} (E : xEnd Γ (some .boolean) w (some (.int r))) (h : fX8_has_0  x0 x1 = r) : xG Γ w 0 [(0, .int x0), (1, .int x1)] [] := by
  unfold fX8_has_0 at h
  refine xr_iload_n C 0 rfl dX8_has_0 ?_
  refine xr_iload_n C 1 rfl dX8_has_1 ?_
  refine xr_ishr C 2 dX8_has_2 ?_
  refine xr_iconst C 3 1 (by decide +kernel) dX8_has_3 ?_
  refine xr_iand C 4 dX8_has_4 ?_
  refine xr_iconst C 5 1 (by decide +kernel) dX8_has_5 ?_
  refine xr_icmp_ne C 6 13 dX8_has_6 rfl (fun q => ?_) (fun q => ?_)
  · have h := g_if h q
    refine xr_iconst C 13 0 (by decide +kernel) dX8_has_13 ?_
    cases h
    exact xr_zret C 14 E dX8_has_14 (by decide +kernel)
  · have h := g_it h q
    refine xr_iconst C 9 1 (by decide +kernel) dX8_has_9 ?_
    refine xr_goto C 10 14 dX8_has_10 rfl ?_
    cases h
    exact xr_zret C 14 E dX8_has_14 (by decide +kernel)
set_option maxRecDepth 100000 in
set_option maxHeartbeats 4000000 in
theorem mX8_has {l : Launch} {ad : Nat → Nat} {G : gEnv} {w : xW} {x0 : Int32} {x1 : Int32} {r : Int32} (h : fX8_has x0 x1 = r) : xCt l ad G 1 yX8_has cX8_has 2 (some .boolean) [.int x0, .int x1] w w (some (.int r)) := xCt.of RX8 rfl (by decide +kernel) (Nat.le_of_ble_eq_true rfl) (fun Γ el ea eG eL C E => by
    subst el
    subst ea
    subst eG
    unfold fX8_has at h
    exact xG.sub (bX8_has_0 C eL  E h) ⟨rfl, rfl, trivial⟩)
def fX8_beginOf_0 (w : xW) (x1 : Int32) : Int32 :=
  if 30 ≤ x1 then
    ((w.1 56 0) + (x1 * (w.1 56 1))) + 0
  else
  if (fX8_has (w.1 56 4) x1) = 0 then
    ((w.1 56 0) + (x1 * (w.1 56 1))) + 0
  else
  ((w.1 56 0) + (x1 * (w.1 56 1))) + (w.1 56 3)
def fX8_beginOf (w : xW) (x1 : Int32) : Int32 := fX8_beginOf_0 w x1
set_option maxRecDepth 100000 in
set_option maxHeartbeats 4000000 in
theorem bX8_beginOf_0 {Γ : xΓ} (C : xOK Γ cX8_beginOf RX8 2) (hL : xn Γ = 2) {w : xW} {x1 : Int32} {r : Int32} (E : xEnd Γ (some .int) w (some (.int r))) (h : fX8_beginOf_0 w x1 = r) : xG Γ w 0 [(0, .ref (xad Γ 55)), (1, .int x1)] [] := by
  unfold fX8_beginOf_0 at h
  refine xr_aload_n C 0 rfl dX8_beginOf_0 ?_
  refine xr_getR C 1 dX8_beginOf_1 fl_X8_9 rfl rfl ?_
  refine xr_iconst C 4 0 (by decide +kernel) dX8_beginOf_4 ?_
  refine xr_iald C 5 0 (by decide +kernel) dX8_beginOf_5 rfl (ibd_in (by decide +kernel)) ?_
  refine xr_iload_n C 6 rfl dX8_beginOf_6 ?_
  refine xr_aload_n C 7 rfl dX8_beginOf_7 ?_
  refine xr_getR C 8 dX8_beginOf_8 fl_X8_9 rfl rfl ?_
  refine xr_iconst C 11 1 (by decide +kernel) dX8_beginOf_11 ?_
  refine xr_iald C 12 1 (by decide +kernel) dX8_beginOf_12 rfl (ibd_in (by decide +kernel)) ?_
  refine xr_imul C 13 dX8_beginOf_13 ?_
  refine xr_iadd C 14 dX8_beginOf_14 ?_
  refine xr_iload_n C 15 rfl dX8_beginOf_15 ?_
  refine xr_bipush C 16 30 (by decide +kernel) dX8_beginOf_16 ?_
  refine xr_icmp_ge C 18 43 dX8_beginOf_18 rfl (fun q => ?_) (fun q => ?_)
  · have h := g_it h q
    refine xr_iconst C 43 0 (by decide +kernel) dX8_beginOf_43 ?_
    refine xr_iadd C 44 dX8_beginOf_44 ?_
    cases h
    exact xr_iret C 45 E dX8_beginOf_45
  · have h := g_if h q
    refine xr_aload_n C 21 rfl dX8_beginOf_21 ?_
    refine xr_getR C 22 dX8_beginOf_22 fl_X8_9 rfl rfl ?_
    refine xr_iconst C 25 4 (by decide +kernel) dX8_beginOf_25 ?_
    refine xr_iald C 26 4 (by decide +kernel) dX8_beginOf_26 rfl (ibd_in (by decide +kernel)) ?_
    refine xr_iload_n C 27 rfl dX8_beginOf_27 ?_
    refine xr_callS C 28 (mX8_has rfl) v_X8_has ml_X8_99 (Nat.le_of_ble_eq_true rfl) (Nat.le_of_ble_eq_true rfl) rfl rfl (Nat.le_of_ble_eq_true rfl) rfl dX8_beginOf_28 ?_
    refine xr_if_eq C 31 43 dX8_beginOf_31 rfl (fun q => ?_) (fun q => ?_)
    · have h := g_it h q
      refine xr_iconst C 43 0 (by decide +kernel) dX8_beginOf_43 ?_
      refine xr_iadd C 44 dX8_beginOf_44 ?_
      cases h
      exact xr_iret C 45 E dX8_beginOf_45
    · have h := g_if h q
      refine xr_aload_n C 34 rfl dX8_beginOf_34 ?_
      refine xr_getR C 35 dX8_beginOf_35 fl_X8_9 rfl rfl ?_
      refine xr_iconst C 38 3 (by decide +kernel) dX8_beginOf_38 ?_
      refine xr_iald C 39 3 (by decide +kernel) dX8_beginOf_39 rfl (ibd_in (by decide +kernel)) ?_
      refine xr_goto C 40 44 dX8_beginOf_40 rfl ?_
      refine xr_iadd C 44 dX8_beginOf_44 ?_
      cases h
      exact xr_iret C 45 E dX8_beginOf_45
set_option maxRecDepth 100000 in
set_option maxHeartbeats 4000000 in
theorem mX8_beginOf {l : Launch} {ad : Nat → Nat} {G : gEnv} {w : xW} {x1 : Int32} {r : Int32} (h : fX8_beginOf w x1 = r) : xCt l ad G 2 yX8_beginOf cX8_beginOf 2 (some .int) [.ref (ad 55), .int x1] w w (some (.int r)) := xCt.of RX8 rfl (by decide +kernel) (Nat.le_of_ble_eq_true rfl) (fun Γ el ea eG eL C E => by
    subst el
    subst ea
    subst eG
    unfold fX8_beginOf at h
    exact xG.sub (bX8_beginOf_0 C eL  E h) ⟨rfl, rfl, trivial⟩)
def fX8_tide_20 (w : xW) : Option (xW × Int32) :=
  (fX8_finding w (-1000000001)).bind fun z1 =>
  some (z1.1, z1.2)
def fX8_tide_0 (w : xW) (x1 : Int32) (x2 : Int32) : Option (xW × Int32) :=
  if (fX8_within x1 0 199) = 0 then
    fX8_tide_20 w
  else
  if (fX8_within x2 0 1) = 0 then
    fX8_tide_20 w
  else
  some (w, (fX8_beginOf w x1) + (x2 * (w.1 56 2)))
def fX8_tide (w : xW) (x1 : Int32) (x2 : Int32) : Option (xW × Int32) := fX8_tide_0 w x1 x2
set_option maxRecDepth 100000 in
set_option maxHeartbeats 4000000 in
theorem bX8_tide_20 {Γ : xΓ} (C : xOK Γ cX8_tide RX8 3) (hL : xn Γ = 3) {w : xW} {r : xW × Int32} (E : xEnd Γ (some .int) r.1 (some (.int r.2))) (h : fX8_tide_20  w = some r) : xG Γ w 20 [(0, .ref (xad Γ 55))] [] := by
  unfold fX8_tide_20 at h
  refine xr_aload_n C 20 rfl dX8_tide_20 ?_
  refine xr_ldc C 21 k_X8_98 dX8_tide_21 ?_
  obtain ⟨z1, q2, h⟩ := g_bind h
  refine xr_callV C 23 (mX8_finding q2) v_X8_finding ml_X8_125 (Nat.le_of_ble_eq_true rfl) (Nat.le_of_ble_eq_true rfl) (xrecv C rfl rfl) rfl rfl (Nat.le_of_ble_eq_true rfl) rfl dX8_tide_23 ?_
  cases h
  exact xr_iret C 26 E dX8_tide_26
set_option maxRecDepth 100000 in
set_option maxHeartbeats 4000000 in
theorem bX8_tide_0 {Γ : xΓ} (C : xOK Γ cX8_tide RX8 3) (hL : xn Γ = 3) {w : xW} {x1 : Int32} {x2 : Int32} {r : xW × Int32} (E : xEnd Γ (some .int) r.1 (some (.int r.2))) (h : fX8_tide_0  w x1 x2 = some r) : xG Γ w 0 [(0, .ref (xad Γ 55)), (1, .int x1), (2, .int x2)] [] := by
  unfold fX8_tide_0 at h
  refine xr_iload_n C 0 rfl dX8_tide_0 ?_
  refine xr_iconst C 1 0 (by decide +kernel) dX8_tide_1 ?_
  refine xr_sipush C 2 199 (by decide +kernel) dX8_tide_2 ?_
  refine xr_callS C 5 (mX8_within rfl) v_X8_within ml_X8_121 (Nat.le_of_ble_eq_true rfl) (Nat.le_of_ble_eq_true rfl) rfl rfl (Nat.le_of_ble_eq_true rfl) rfl dX8_tide_5 ?_
  refine xr_if_eq C 8 20 dX8_tide_8 rfl (fun q => ?_) (fun q => ?_)
  · have h := g_it h q
    exact xG.sub (bX8_tide_20 C hL E h) ⟨rfl, trivial⟩
  · have h := g_if h q
    refine xr_iload_n C 11 rfl dX8_tide_11 ?_
    refine xr_iconst C 12 0 (by decide +kernel) dX8_tide_12 ?_
    refine xr_iconst C 13 1 (by decide +kernel) dX8_tide_13 ?_
    refine xr_callS C 14 (mX8_within rfl) v_X8_within ml_X8_121 (Nat.le_of_ble_eq_true rfl) (Nat.le_of_ble_eq_true rfl) rfl rfl (Nat.le_of_ble_eq_true rfl) rfl dX8_tide_14 ?_
    refine xr_if_ne C 17 27 dX8_tide_17 rfl (fun q => ?_) (fun q => ?_)
    · have h := g_if h q
      refine xr_aload_n C 27 rfl dX8_tide_27 ?_
      refine xr_iload_n C 28 rfl dX8_tide_28 ?_
      refine xr_callV C 29 (mX8_beginOf rfl) v_X8_beginOf ml_X8_106 (Nat.le_of_ble_eq_true rfl) (Nat.le_of_ble_eq_true rfl) (xrecv C rfl rfl) rfl rfl (Nat.le_of_ble_eq_true rfl) rfl dX8_tide_29 ?_
      refine xr_iload_n C 32 rfl dX8_tide_32 ?_
      refine xr_aload_n C 33 rfl dX8_tide_33 ?_
      refine xr_getR C 34 dX8_tide_34 fl_X8_9 rfl rfl ?_
      refine xr_iconst C 37 2 (by decide +kernel) dX8_tide_37 ?_
      refine xr_iald C 38 2 (by decide +kernel) dX8_tide_38 rfl (ibd_in (by decide +kernel)) ?_
      refine xr_imul C 39 dX8_tide_39 ?_
      refine xr_iadd C 40 dX8_tide_40 ?_
      cases h
      exact xr_iret C 41 E dX8_tide_41
    · have h := g_it h q
      exact xG.sub (bX8_tide_20 C hL E h) ⟨rfl, trivial⟩
set_option maxRecDepth 100000 in
set_option maxHeartbeats 4000000 in
theorem mX8_tide {l : Launch} {ad : Nat → Nat} {G : gEnv} {w : xW} {x1 : Int32} {x2 : Int32} {r : xW × Int32} (h : fX8_tide w x1 x2 = some r) : xCt l ad G 3 yX8_tide cX8_tide 3 (some .int) [.ref (ad 55), .int x1, .int x2] w r.1 (some (.int r.2)) := xCt.of RX8 rfl (by decide +kernel) (Nat.le_of_ble_eq_true rfl) (fun Γ el ea eG eL C E => by
    subst el
    subst ea
    subst eG
    unfold fX8_tide at h
    exact xG.sub (bX8_tide_0 C eL  E h) ⟨rfl, rfl, rfl, trivial⟩)
def fX7_isTick_0 (x0 : Int32) : Int32 :=
  if x0 < 0 then
    0
  else
  if 9999 < x0 then
    0
  else
  1
def fX7_isTick (x0 : Int32) : Int32 := fX7_isTick_0 x0
theorem xb_fX7_isTick {x0 : Int32} : xB (fX7_isTick x0) = true := by
  unfold fX7_isTick fX7_isTick_0
  repeat' split
  all_goals first | rfl | exact xb_fX7_isTick
set_option maxRecDepth 100000 in
set_option maxHeartbeats 4000000 in
theorem bX7_isTick_0 {Γ : xΓ} (C : xOK Γ cX7_isTick RX7 1) (hL : xn Γ = 1) {w : xW} {x0 : Int32} {r : Int32} (E : xEnd Γ (some .boolean) w (some (.int r))) (h : fX7_isTick_0  x0 = r) : xG Γ w 0 [(0, .int x0)] [] := by
  unfold fX7_isTick_0 at h
  refine xr_iload_n C 0 rfl dX7_isTick_0 ?_
  refine xr_if_lt C 1 15 dX7_isTick_1 rfl (fun q => ?_) (fun q => ?_)
  · have h := g_it h q
    refine xr_iconst C 15 0 (by decide +kernel) dX7_isTick_15 ?_
    cases h
    exact xr_zret C 16 E dX7_isTick_16 (by decide +kernel)
  · have h := g_if h q
    refine xr_iload_n C 4 rfl dX7_isTick_4 ?_
    refine xr_sipush C 5 9999 (by decide +kernel) dX7_isTick_5 ?_
    refine xr_icmp_gt C 8 15 dX7_isTick_8 rfl (fun q => ?_) (fun q => ?_)
    · have h := g_it h q
      refine xr_iconst C 15 0 (by decide +kernel) dX7_isTick_15 ?_
      cases h
      exact xr_zret C 16 E dX7_isTick_16 (by decide +kernel)
    · have h := g_if h q
      refine xr_iconst C 11 1 (by decide +kernel) dX7_isTick_11 ?_
      refine xr_goto C 12 16 dX7_isTick_12 rfl ?_
      cases h
      exact xr_zret C 16 E dX7_isTick_16 (by decide +kernel)
set_option maxRecDepth 100000 in
set_option maxHeartbeats 4000000 in
theorem mX7_isTick {l : Launch} {ad : Nat → Nat} {G : gEnv} {w : xW} {x0 : Int32} {r : Int32} (h : fX7_isTick x0 = r) : xCt l ad G 1 yX7_isTick cX7_isTick 1 (some .boolean) [.int x0] w w (some (.int r)) := xCt.of RX7 rfl (by decide +kernel) (Nat.le_of_ble_eq_true rfl) (fun Γ el ea eG eL C E => by
    subst el
    subst ea
    subst eG
    unfold fX7_isTick at h
    exact xG.sub (bX7_isTick_0 C eL  E h) ⟨rfl, trivial⟩)
def fX6_turnsWhole_0 (w : xW) (x1 : Int32) : Int32 :=
  if x1 < 0 then
    1
  else
  if 30 ≤ x1 then
    1
  else
  if ((((w.1 4 1) ||| (w.1 4 2)) >>> (x1 &&& 31)) &&& 1) = 0 then
    1
  else
  0
def fX6_turnsWhole (w : xW) (x1 : Int32) : Int32 := fX6_turnsWhole_0 w x1
theorem xb_fX6_turnsWhole {w : xW} {x1 : Int32} : xB (fX6_turnsWhole w x1) = true := by
  unfold fX6_turnsWhole fX6_turnsWhole_0
  repeat' split
  all_goals first | rfl | exact xb_fX6_turnsWhole
set_option maxRecDepth 100000 in
set_option maxHeartbeats 4000000 in
theorem bX6_turnsWhole_0 {Γ : xΓ} (C : xOK Γ cX6_turnsWhole RX6 1) (hL : xn Γ = 2) {w : xW} {x1 : Int32} {r : Int32} (E : xEnd Γ (some .boolean) w (some (.int r))) (h : fX6_turnsWhole_0 w x1 = r) : xG Γ w 0 [(0, .ref (xad Γ 2)), (1, .int x1)] [] := by
  unfold fX6_turnsWhole_0 at h
  refine xr_iload_n C 0 rfl dX6_turnsWhole_0 ?_
  refine xr_if_lt C 1 30 dX6_turnsWhole_1 rfl (fun q => ?_) (fun q => ?_)
  · have h := g_it h q
    refine xr_iconst C 30 1 (by decide +kernel) dX6_turnsWhole_30 ?_
    refine xr_goto C 31 35 dX6_turnsWhole_31 rfl ?_
    cases h
    exact xr_zret C 35 E dX6_turnsWhole_35 (by decide +kernel)
  · have h := g_if h q
    refine xr_iload_n C 4 rfl dX6_turnsWhole_4 ?_
    refine xr_bipush C 5 30 (by decide +kernel) dX6_turnsWhole_5 ?_
    refine xr_icmp_ge C 7 30 dX6_turnsWhole_7 rfl (fun q => ?_) (fun q => ?_)
    · have h := g_it h q
      refine xr_iconst C 30 1 (by decide +kernel) dX6_turnsWhole_30 ?_
      refine xr_goto C 31 35 dX6_turnsWhole_31 rfl ?_
      cases h
      exact xr_zret C 35 E dX6_turnsWhole_35 (by decide +kernel)
    · have h := g_if h q
      refine xr_aload_n C 10 rfl dX6_turnsWhole_10 ?_
      refine xr_getR C 11 dX6_turnsWhole_11 fl_X6_15 rfl rfl ?_
      refine xr_iconst C 14 1 (by decide +kernel) dX6_turnsWhole_14 ?_
      refine xr_iald C 15 1 (by decide +kernel) dX6_turnsWhole_15 rfl (ibd_in (by decide +kernel)) ?_
      refine xr_aload_n C 16 rfl dX6_turnsWhole_16 ?_
      refine xr_getR C 17 dX6_turnsWhole_17 fl_X6_15 rfl rfl ?_
      refine xr_iconst C 20 2 (by decide +kernel) dX6_turnsWhole_20 ?_
      refine xr_iald C 21 2 (by decide +kernel) dX6_turnsWhole_21 rfl (ibd_in (by decide +kernel)) ?_
      refine xr_ior C 22 dX6_turnsWhole_22 ?_
      refine xr_iload_n C 23 rfl dX6_turnsWhole_23 ?_
      refine xr_ishr C 24 dX6_turnsWhole_24 ?_
      refine xr_iconst C 25 1 (by decide +kernel) dX6_turnsWhole_25 ?_
      refine xr_iand C 26 dX6_turnsWhole_26 ?_
      refine xr_if_ne C 27 34 dX6_turnsWhole_27 rfl (fun q => ?_) (fun q => ?_)
      · have h := g_if h q
        refine xr_iconst C 34 0 (by decide +kernel) dX6_turnsWhole_34 ?_
        cases h
        exact xr_zret C 35 E dX6_turnsWhole_35 (by decide +kernel)
      · have h := g_it h q
        refine xr_iconst C 30 1 (by decide +kernel) dX6_turnsWhole_30 ?_
        refine xr_goto C 31 35 dX6_turnsWhole_31 rfl ?_
        cases h
        exact xr_zret C 35 E dX6_turnsWhole_35 (by decide +kernel)
set_option maxRecDepth 100000 in
set_option maxHeartbeats 4000000 in
theorem mX6_turnsWhole {l : Launch} {ad : Nat → Nat} {G : gEnv} {w : xW} {x1 : Int32} {r : Int32} (h : fX6_turnsWhole w x1 = r) : xCt l ad G 1 yX6_turnsWhole cX6_turnsWhole 2 (some .boolean) [.ref (ad 2), .int x1] w w (some (.int r)) := xCt.of RX6 rfl (by decide +kernel) (Nat.le_of_ble_eq_true rfl) (fun Γ el ea eG eL C E => by
    subst el
    subst ea
    subst eG
    unfold fX6_turnsWhole at h
    exact xG.sub (bX6_turnsWhole_0 C eL  E h) ⟨rfl, rfl, trivial⟩)
def fX6_isIn_0 (w : xW) (x1 : Int32) (x2 : Int32) : Option Int32 :=
  if x2 < 0 then
    some 0
  else
  if 30 ≤ x2 then
    some 0
  else
  if ibd x1 3 = true then
  if (((w.1 4 x1.toNatClampNeg) >>> (x2 &&& 31)) &&& 1) = 0 then
    some 0
  else
  some 1
  else none
def fX6_isIn (w : xW) (x1 : Int32) (x2 : Int32) : Option Int32 := fX6_isIn_0 w x1 x2
set_option maxRecDepth 100000 in
set_option maxHeartbeats 4000000 in
theorem bX6_isIn_0 {Γ : xΓ} (C : xOK Γ cX6_isIn RX6 1) (hL : xn Γ = 3) {w : xW} {x1 : Int32} {x2 : Int32} {r : Int32} (E : xEnd Γ (some .boolean) w (some (.int r))) (h : fX6_isIn_0 w x1 x2 = some r) : xG Γ w 0 [(0, .ref (xad Γ 2)), (1, .int x1), (2, .int x2)] [] := by
  unfold fX6_isIn_0 at h
  refine xr_iload_n C 0 rfl dX6_isIn_0 ?_
  refine xr_if_lt C 1 27 dX6_isIn_1 rfl (fun q => ?_) (fun q => ?_)
  · have h := g_it h q
    refine xr_iconst C 27 0 (by decide +kernel) dX6_isIn_27 ?_
    cases h
    exact xr_zret C 28 E dX6_isIn_28 (by decide +kernel)
  · have h := g_if h q
    refine xr_iload_n C 4 rfl dX6_isIn_4 ?_
    refine xr_bipush C 5 30 (by decide +kernel) dX6_isIn_5 ?_
    refine xr_icmp_ge C 7 27 dX6_isIn_7 rfl (fun q => ?_) (fun q => ?_)
    · have h := g_it h q
      refine xr_iconst C 27 0 (by decide +kernel) dX6_isIn_27 ?_
      cases h
      exact xr_zret C 28 E dX6_isIn_28 (by decide +kernel)
    · have h := g_if h q
      refine xr_aload_n C 10 rfl dX6_isIn_10 ?_
      refine xr_getR C 11 dX6_isIn_11 fl_X6_15 rfl rfl ?_
      refine xr_iload_n C 14 rfl dX6_isIn_14 ?_
      obtain ⟨q1, h⟩ := g_ib h
      refine xr_iald C 15 x1.toNatClampNeg rfl dX6_isIn_15 rfl (ibd_in q1) ?_
      refine xr_iload_n C 16 rfl dX6_isIn_16 ?_
      refine xr_ishr C 17 dX6_isIn_17 ?_
      refine xr_iconst C 18 1 (by decide +kernel) dX6_isIn_18 ?_
      refine xr_iand C 19 dX6_isIn_19 ?_
      refine xr_if_eq C 20 27 dX6_isIn_20 rfl (fun q => ?_) (fun q => ?_)
      · have h := g_it h q
        refine xr_iconst C 27 0 (by decide +kernel) dX6_isIn_27 ?_
        cases h
        exact xr_zret C 28 E dX6_isIn_28 (by decide +kernel)
      · have h := g_if h q
        refine xr_iconst C 23 1 (by decide +kernel) dX6_isIn_23 ?_
        refine xr_goto C 24 28 dX6_isIn_24 rfl ?_
        cases h
        exact xr_zret C 28 E dX6_isIn_28 (by decide +kernel)
set_option maxRecDepth 100000 in
set_option maxHeartbeats 4000000 in
theorem mX6_isIn {l : Launch} {ad : Nat → Nat} {G : gEnv} {w : xW} {x1 : Int32} {x2 : Int32} {r : Int32} (h : fX6_isIn w x1 x2 = some r) : xCt l ad G 1 yX6_isIn cX6_isIn 3 (some .boolean) [.ref (ad 2), .int x1, .int x2] w w (some (.int r)) := xCt.of RX6 rfl (by decide +kernel) (Nat.le_of_ble_eq_true rfl) (fun Γ el ea eG eL C E => by
    subst el
    subst ea
    subst eG
    unfold fX6_isIn at h
    exact xG.sub (bX6_isIn_0 C eL  E h) ⟨rfl, rfl, rfl, trivial⟩)
def fX6_below_0 (x0 : Int32) : Int32 :=
  if x0 < 30 then
    (1 <<< (x0 &&& 31)) - 1
  else
  (-1)
def fX6_below (x0 : Int32) : Int32 := fX6_below_0 x0
set_option maxRecDepth 100000 in
set_option maxHeartbeats 4000000 in
theorem bX6_below_0 {Γ : xΓ} (C : xOK Γ cX6_below RX6 1) (hL : xn Γ = 1) {w : xW} {x0 : Int32} {r : Int32} (E : xEnd Γ (some .int) w (some (.int r))) (h : fX6_below_0  x0 = r) : xG Γ w 0 [(0, .int x0)] [] := by
  unfold fX6_below_0 at h
  refine xr_iload_n C 0 rfl dX6_below_0 ?_
  refine xr_bipush C 1 30 (by decide +kernel) dX6_below_1 ?_
  refine xr_icmp_lt C 3 10 dX6_below_3 rfl (fun q => ?_) (fun q => ?_)
  · have h := g_it h q
    refine xr_iconst C 10 1 (by decide +kernel) dX6_below_10 ?_
    refine xr_iload_n C 11 rfl dX6_below_11 ?_
    refine xr_ishl C 12 dX6_below_12 ?_
    refine xr_iconst C 13 1 (by decide +kernel) dX6_below_13 ?_
    refine xr_isub C 14 dX6_below_14 ?_
    cases h
    exact xr_iret C 15 E dX6_below_15
  · have h := g_if h q
    refine xr_iconst C 6 (-1) (by decide +kernel) dX6_below_6 ?_
    refine xr_goto C 7 15 dX6_below_7 rfl ?_
    cases h
    exact xr_iret C 15 E dX6_below_15
set_option maxRecDepth 100000 in
set_option maxHeartbeats 4000000 in
theorem mX6_below {l : Launch} {ad : Nat → Nat} {G : gEnv} {w : xW} {x0 : Int32} {r : Int32} (h : fX6_below x0 = r) : xCt l ad G 1 yX6_below cX6_below 1 (some .int) [.int x0] w w (some (.int r)) := xCt.of RX6 rfl (by decide +kernel) (Nat.le_of_ble_eq_true rfl) (fun Γ el ea eG eL C E => by
    subst el
    subst ea
    subst eG
    unfold fX6_below at h
    exact xG.sub (bX6_below_0 C eL  E h) ⟨rfl, trivial⟩)
def fJ6_bitCount_0f7a4_29 (s0 : Int32) : Int32 :=
  (((s0 &&& 252645135) + (iushr (s0 &&& 252645135) 8)) + (iushr ((s0 &&& 252645135) + (iushr (s0 &&& 252645135) 8)) 16)) &&& 63
def fJ6_bitCount_0f7a4_0 (x0 : Int32) : Int32 :=
  fJ6_bitCount_0f7a4_29 ((((x0 - ((iushr x0 1) &&& 1431655765)) &&& 858993459) + ((iushr (x0 - ((iushr x0 1) &&& 1431655765)) 2) &&& 858993459)) + (iushr (((x0 - ((iushr x0 1) &&& 1431655765)) &&& 858993459) + ((iushr (x0 - ((iushr x0 1) &&& 1431655765)) 2) &&& 858993459)) 4))
def fJ6_bitCount_0f7a4 (x0 : Int32) : Int32 := fJ6_bitCount_0f7a4_0 x0
set_option maxRecDepth 100000 in
set_option maxHeartbeats 4000000 in
theorem bJ6_bitCount_0f7a4_29 {Γ : xΓ} (C : xOK Γ cJ6_bitCount_0f7a4 RJ6 1) (hL : xn Γ = 1) {w : xW} {s0 : Int32} {r : Int32} (E : xEnd Γ (some .int) w (some (.int r))) (h : fJ6_bitCount_0f7a4_29  s0 = r) : xG Γ w 29 [] [.int s0] := by
  unfold fJ6_bitCount_0f7a4_29 at h
  refine xr_ldcw C 29 k_J6_267 dJ6_bitCount_0f7a4_29 ?_
  refine xr_iand C 32 dJ6_bitCount_0f7a4_32 ?_
  refine xr_istore_n C 33 dJ6_bitCount_0f7a4_33 (xnb hL rfl) ?_
  refine xr_iload_n C 34 rfl dJ6_bitCount_0f7a4_34 ?_
  refine xr_iload_n C 35 rfl dJ6_bitCount_0f7a4_35 ?_
  refine xr_bipush C 36 8 (by decide +kernel) dJ6_bitCount_0f7a4_36 ?_
  refine xr_iushr C 38 dJ6_bitCount_0f7a4_38 ?_
  refine xr_iadd C 39 dJ6_bitCount_0f7a4_39 ?_
  refine xr_istore_n C 40 dJ6_bitCount_0f7a4_40 (xnb hL rfl) ?_
  refine xr_iload_n C 41 rfl dJ6_bitCount_0f7a4_41 ?_
  refine xr_iload_n C 42 rfl dJ6_bitCount_0f7a4_42 ?_
  refine xr_bipush C 43 16 (by decide +kernel) dJ6_bitCount_0f7a4_43 ?_
  refine xr_iushr C 45 dJ6_bitCount_0f7a4_45 ?_
  refine xr_iadd C 46 dJ6_bitCount_0f7a4_46 ?_
  refine xr_istore_n C 47 dJ6_bitCount_0f7a4_47 (xnb hL rfl) ?_
  refine xr_iload_n C 48 rfl dJ6_bitCount_0f7a4_48 ?_
  refine xr_bipush C 49 63 (by decide +kernel) dJ6_bitCount_0f7a4_49 ?_
  refine xr_iand C 51 dJ6_bitCount_0f7a4_51 ?_
  cases h
  exact xr_iret C 52 E dJ6_bitCount_0f7a4_52
set_option maxRecDepth 100000 in
set_option maxHeartbeats 4000000 in
theorem bJ6_bitCount_0f7a4_0 {Γ : xΓ} (C : xOK Γ cJ6_bitCount_0f7a4 RJ6 1) (hL : xn Γ = 1) {w : xW} {x0 : Int32} {r : Int32} (E : xEnd Γ (some .int) w (some (.int r))) (h : fJ6_bitCount_0f7a4_0  x0 = r) : xG Γ w 0 [(0, .int x0)] [] := by
  unfold fJ6_bitCount_0f7a4_0 at h
  refine xr_iload_n C 0 rfl dJ6_bitCount_0f7a4_0 ?_
  refine xr_iload_n C 1 rfl dJ6_bitCount_0f7a4_1 ?_
  refine xr_iconst C 2 1 (by decide +kernel) dJ6_bitCount_0f7a4_2 ?_
  refine xr_iushr C 3 dJ6_bitCount_0f7a4_3 ?_
  refine xr_ldcw C 4 k_J6_265 dJ6_bitCount_0f7a4_4 ?_
  refine xr_iand C 7 dJ6_bitCount_0f7a4_7 ?_
  refine xr_isub C 8 dJ6_bitCount_0f7a4_8 ?_
  refine xr_istore_n C 9 dJ6_bitCount_0f7a4_9 (xnb hL rfl) ?_
  refine xr_iload_n C 10 rfl dJ6_bitCount_0f7a4_10 ?_
  refine xr_ldcw C 11 k_J6_266 dJ6_bitCount_0f7a4_11 ?_
  refine xr_iand C 14 dJ6_bitCount_0f7a4_14 ?_
  refine xr_iload_n C 15 rfl dJ6_bitCount_0f7a4_15 ?_
  refine xr_iconst C 16 2 (by decide +kernel) dJ6_bitCount_0f7a4_16 ?_
  refine xr_iushr C 17 dJ6_bitCount_0f7a4_17 ?_
  refine xr_ldcw C 18 k_J6_266 dJ6_bitCount_0f7a4_18 ?_
  refine xr_iand C 21 dJ6_bitCount_0f7a4_21 ?_
  refine xr_iadd C 22 dJ6_bitCount_0f7a4_22 ?_
  refine xr_istore_n C 23 dJ6_bitCount_0f7a4_23 (xnb hL rfl) ?_
  refine xr_iload_n C 24 rfl dJ6_bitCount_0f7a4_24 ?_
  refine xr_iload_n C 25 rfl dJ6_bitCount_0f7a4_25 ?_
  refine xr_iconst C 26 4 (by decide +kernel) dJ6_bitCount_0f7a4_26 ?_
  refine xr_iushr C 27 dJ6_bitCount_0f7a4_27 ?_
  refine xr_iadd C 28 dJ6_bitCount_0f7a4_28 ?_
  exact xG.sub (bJ6_bitCount_0f7a4_29 C hL E h) trivial
set_option maxRecDepth 100000 in
set_option maxHeartbeats 4000000 in
theorem mJ6_bitCount_0f7a4 {l : Launch} {ad : Nat → Nat} {G : gEnv} {w : xW} {x0 : Int32} {r : Int32} (h : fJ6_bitCount_0f7a4 x0 = r) : xCt l ad G 1 yJ6_bitCount_0f7a4 cJ6_bitCount_0f7a4 1 (some .int) [.int x0] w w (some (.int r)) := xCt.of RJ6 rfl (by decide +kernel) (Nat.le_of_ble_eq_true rfl) (fun Γ el ea eG eL C E => by
    subst el
    subst ea
    subst eG
    unfold fJ6_bitCount_0f7a4 at h
    exact xG.sub (bJ6_bitCount_0f7a4_0 C eL  E h) ⟨rfl, trivial⟩)
def fX6_at_173 (N : Nat) (w : xW) (s0 : Int32) : Option xW :=
  if xB s0 = true then
  some (sI w 2 4 s0)
  else none
def fX6_at_119 (N : Nat) (w : xW) (x1 : Int32) (x2 : Int32) (x3 : Int32) : Option xW :=
  if x3 = 0 then
    if x1 < (fX6_begins (sI w 2 3 (x2 - (fJ6_bitCount_0f7a4 ((w.1 4 1) &&& (fX6_below x2))))) ((sI w 2 3 (x2 - (fJ6_bitCount_0f7a4 ((w.1 4 1) &&& (fX6_below x2))))).1 2 2)) then
      fX6_at_173 N (sI w 2 3 (x2 - (fJ6_bitCount_0f7a4 ((w.1 4 1) &&& (fX6_below x2))))) 0
    else
    (fX6_isIn (sI w 2 3 (x2 - (fJ6_bitCount_0f7a4 ((w.1 4 1) &&& (fX6_below x2))))) 1 ((sI w 2 3 (x2 - (fJ6_bitCount_0f7a4 ((w.1 4 1) &&& (fX6_below x2))))).1 2 2)).bind fun z4 =>
    if z4 = 0 then
      fX6_at_173 N (sI w 2 3 (x2 - (fJ6_bitCount_0f7a4 ((w.1 4 1) &&& (fX6_below x2))))) 1
    else
    fX6_at_173 N (sI w 2 3 (x2 - (fJ6_bitCount_0f7a4 ((w.1 4 1) &&& (fX6_below x2))))) 0
  else
  fX6_at_173 N (sI w 2 3 (x2 - (fJ6_bitCount_0f7a4 ((w.1 4 1) &&& (fX6_below x2))))) 1
def fX6_at_115 (N : Nat) (K74 : xW → Int32 → Int32 → Int32 → Option xW) (w : xW) (x1 : Int32) (x2 : Int32) (s0 : Int32) : Option xW :=
  K74 w x1 x2 s0
def fX6_at_74b (N : Nat) (K74 : xW → Int32 → Int32 → Int32 → Option xW) (w : xW) (x1 : Int32) (x2 : Int32) (x3 : Int32) : Option xW :=
  if x2 ≤ 0 then
    fX6_at_119 N w x1 x2 x3
  else
  if 30 < x2 then
    fX6_at_119 N w x1 x2 x3
  else
  if (fX6_turnsWhole w (x2 - 1)) = 0 then
    if x3 = 0 then
      (fX6_isIn w 1 (x2 + (-1))).bind fun z2 =>
      if z2 = 0 then
        fX6_at_115 N K74 w x1 (x2 + (-1)) 1
      else
      fX6_at_115 N K74 w x1 (x2 + (-1)) 0
    else
    fX6_at_115 N K74 w x1 (x2 + (-1)) 1
  else
  fX6_at_119 N w x1 x2 x3
def fX6_at_74 (N : Nat) : Nat → xW → Int32 → Int32 → Int32 → Option xW
  | 0, _, _, _, _ => none
  | n + 1, w, x1, x2, x3 => fX6_at_74b N (fX6_at_74 N n) w x1 x2 x3
def fX6_at_67 (N : Nat) (w : xW) (x1 : Int32) : Option xW :=
  fX6_at_74 N N w x1 (w.1 2 2) 0
def fX6_at_64 (N : Nat) (w : xW) (x1 : Int32) (s0 : Int32) : Option xW :=
  fX6_at_67 N (sI w 2 2 s0) x1
def fX6_at_0 (N : Nat) (w : xW) (x1 : Int32) : Option xW :=
  if x1 < ((sI w 2 2 0).1 3 0) then
    fX6_at_67 N (sI w 2 2 0) x1
  else
  if ((sI w 2 2 0).1 3 1) ≤ 0 then
    fX6_at_67 N (sI w 2 2 0) x1
  else
  if (sI w 2 2 0).1 3 1 = 0 then none else
  if x1 < ((fX6_begins (sI w 2 2 0) ((x1 - ((sI w 2 2 0).1 3 0)) / ((sI w 2 2 0).1 3 1))) + ((sI w 2 2 0).1 3 2)) then
    fX6_at_64 N (sI w 2 2 0) x1 ((x1 - ((sI w 2 2 0).1 3 0)) / ((sI w 2 2 0).1 3 1))
  else
  fX6_at_64 N (sI w 2 2 0) x1 (((x1 - ((sI w 2 2 0).1 3 0)) / ((sI w 2 2 0).1 3 1)) + 1)
def fX6_at (N : Nat) (w : xW) (x1 : Int32) : Option xW := fX6_at_0 N w x1
set_option maxRecDepth 100000 in
set_option maxHeartbeats 4000000 in
theorem bX6_at_173 {Γ : xΓ} (C : xOK Γ cX6_at RX6 2) (hL : xn Γ = 4) {N : Nat} {w : xW} {s0 : Int32} {r : xW} (E : xEnd Γ none r none) (h : fX6_at_173 N w s0 = some r) : xG Γ w 173 [] [.int s0, .ref (xad Γ 2)] := by
  unfold fX6_at_173 at h
  obtain ⟨q6, h⟩ := g_bchk h
  refine xr_putZ C 173 dX6_at_173 fp_X6_57 rfl rfl q6 ?_
  cases h
  exact xr_vret C 176 E dX6_at_176
set_option maxRecDepth 100000 in
set_option maxHeartbeats 4000000 in
theorem bX6_at_119 {Γ : xΓ} (C : xOK Γ cX6_at RX6 2) (hL : xn Γ = 4) {N : Nat} {w : xW} {x1 : Int32} {x2 : Int32} {x3 : Int32} {r : xW} (E : xEnd Γ none r none) (h : fX6_at_119 N w x1 x2 x3 = some r) : xG Γ w 119 [(0, .ref (xad Γ 2)), (1, .int x1), (2, .int x2), (3, .int x3)] [] := by
  unfold fX6_at_119 at h
  refine xr_aload_n C 119 rfl dX6_at_119 ?_
  refine xr_iload_n C 120 rfl dX6_at_120 ?_
  refine xr_aload_n C 121 rfl dX6_at_121 ?_
  refine xr_getR C 122 dX6_at_122 fl_X6_15 rfl rfl ?_
  refine xr_iconst C 125 1 (by decide +kernel) dX6_at_125 ?_
  refine xr_iald C 126 1 (by decide +kernel) dX6_at_126 rfl (ibd_in (by decide +kernel)) ?_
  refine xr_iload_n C 127 rfl dX6_at_127 ?_
  refine xr_callS C 128 (mX6_below rfl) v_X6_below ml_X6_46 (Nat.le_of_ble_eq_true rfl) (Nat.le_of_ble_eq_true rfl) rfl rfl (Nat.le_of_ble_eq_true rfl) rfl dX6_at_128 ?_
  refine xr_iand C 131 dX6_at_131 ?_
  refine xr_callS C 132 (mJ6_bitCount_0f7a4 rfl) v_J6_bitCount_0f7a4 ml_X6_49 (Nat.le_of_ble_eq_true rfl) (Nat.le_of_ble_eq_true rfl) rfl rfl (Nat.le_of_ble_eq_true rfl) rfl dX6_at_132 ?_
  refine xr_isub C 135 dX6_at_135 ?_
  refine xr_putI C 136 dX6_at_136 fp_X6_54 rfl rfl ?_
  refine xr_aload_n C 139 rfl dX6_at_139 ?_
  refine xr_iload_n C 140 rfl dX6_at_140 ?_
  refine xr_if_ne C 141 168 dX6_at_141 rfl (fun q => ?_) (fun q => ?_)
  · have h := g_if h q
    refine xr_iconst C 168 1 (by decide +kernel) dX6_at_168 ?_
    refine xr_goto C 169 173 dX6_at_169 rfl ?_
    exact xG.sub (bX6_at_173 C hL E h) trivial
  · have h := g_it h q
    refine xr_aload_n C 144 rfl dX6_at_144 ?_
    refine xr_aload_n C 145 rfl dX6_at_145 ?_
    refine xr_getI C 146 dX6_at_146 fl_X6_34 rfl rfl ?_
    refine xr_callV C 149 (mX6_begins rfl) v_X6_begins ml_X6_30 (Nat.le_of_ble_eq_true rfl) (Nat.le_of_ble_eq_true rfl) (xrecv C rfl rfl) rfl rfl (Nat.le_of_ble_eq_true rfl) rfl dX6_at_149 ?_
    refine xr_iload_n C 152 rfl dX6_at_152 ?_
    refine xr_icmp_gt C 153 172 dX6_at_153 rfl (fun q => ?_) (fun q => ?_)
    · have h := g_it h q
      refine xr_iconst C 172 0 (by decide +kernel) dX6_at_172 ?_
      exact xG.sub (bX6_at_173 C hL E h) trivial
    · have h := g_if h q
      refine xr_aload_n C 156 rfl dX6_at_156 ?_
      refine xr_iconst C 157 1 (by decide +kernel) dX6_at_157 ?_
      refine xr_aload_n C 158 rfl dX6_at_158 ?_
      refine xr_getI C 159 dX6_at_159 fl_X6_34 rfl rfl ?_
      obtain ⟨z4, q5, h⟩ := g_bind h
      refine xr_callV C 162 (mX6_isIn q5) v_X6_isIn ml_X6_42 (Nat.le_of_ble_eq_true rfl) (Nat.le_of_ble_eq_true rfl) (xrecv C rfl rfl) rfl rfl (Nat.le_of_ble_eq_true rfl) rfl dX6_at_162 ?_
      refine xr_if_ne C 165 172 dX6_at_165 rfl (fun q => ?_) (fun q => ?_)
      · have h := g_if h q
        refine xr_iconst C 172 0 (by decide +kernel) dX6_at_172 ?_
        exact xG.sub (bX6_at_173 C hL E h) trivial
      · have h := g_it h q
        refine xr_iconst C 168 1 (by decide +kernel) dX6_at_168 ?_
        refine xr_goto C 169 173 dX6_at_169 rfl ?_
        exact xG.sub (bX6_at_173 C hL E h) trivial
set_option maxRecDepth 100000 in
set_option maxHeartbeats 4000000 in
theorem bX6_at_115 {Γ : xΓ} (C : xOK Γ cX6_at RX6 2) (hL : xn Γ = 4) {N : Nat} {K74 : xW → Int32 → Int32 → Int32 → Option xW} {w : xW} {x1 : Int32} {x2 : Int32} {s0 : Int32} {r : xW} (E : xEnd Γ none r none) (hK74 : ∀ (w : xW) (x1 : Int32) (x2 : Int32) (x3 : Int32), K74 w x1 x2 x3 = some r → xG Γ w 74 [(0, .ref (xad Γ 2)), (1, .int x1), (2, .int x2), (3, .int x3)] []) (h : fX6_at_115 N K74 w x1 x2 s0 = some r) : xG Γ w 115 [(0, .ref (xad Γ 2)), (1, .int x1), (2, .int x2)] [.int s0] := by
  unfold fX6_at_115 at h
  refine xr_istore_n C 115 dX6_at_115 (xnb hL rfl) ?_
  refine xr_goto C 116 74 dX6_at_116 rfl ?_
  exact xG.sub (hK74 _ _ _ _ h) ⟨rfl, rfl, rfl, rfl, trivial⟩
set_option maxRecDepth 100000 in
set_option maxHeartbeats 4000000 in
theorem bX6_at_74b {Γ : xΓ} (C : xOK Γ cX6_at RX6 2) (hL : xn Γ = 4) {N : Nat} {K74 : xW → Int32 → Int32 → Int32 → Option xW} {w : xW} {x1 : Int32} {x2 : Int32} {x3 : Int32} {r : xW} (E : xEnd Γ none r none) (hK74 : ∀ (w : xW) (x1 : Int32) (x2 : Int32) (x3 : Int32), K74 w x1 x2 x3 = some r → xG Γ w 74 [(0, .ref (xad Γ 2)), (1, .int x1), (2, .int x2), (3, .int x3)] []) (h : fX6_at_74b N K74 w x1 x2 x3 = some r) : xG Γ w 74 [(0, .ref (xad Γ 2)), (1, .int x1), (2, .int x2), (3, .int x3)] [] := by
  unfold fX6_at_74b at h
  refine xr_iload_n C 74 rfl dX6_at_74 ?_
  refine xr_if_le C 75 119 dX6_at_75 rfl (fun q => ?_) (fun q => ?_)
  · have h := g_it h q
    exact xG.sub (bX6_at_119 C hL E h) ⟨rfl, rfl, rfl, rfl, trivial⟩
  · have h := g_if h q
    refine xr_iload_n C 78 rfl dX6_at_78 ?_
    refine xr_bipush C 79 30 (by decide +kernel) dX6_at_79 ?_
    refine xr_icmp_gt C 81 119 dX6_at_81 rfl (fun q => ?_) (fun q => ?_)
    · have h := g_it h q
      exact xG.sub (bX6_at_119 C hL E h) ⟨rfl, rfl, rfl, rfl, trivial⟩
    · have h := g_if h q
      refine xr_aload_n C 84 rfl dX6_at_84 ?_
      refine xr_iload_n C 85 rfl dX6_at_85 ?_
      refine xr_iconst C 86 1 (by decide +kernel) dX6_at_86 ?_
      refine xr_isub C 87 dX6_at_87 ?_
      refine xr_callV C 88 (mX6_turnsWhole rfl) v_X6_turnsWhole ml_X6_38 (Nat.le_of_ble_eq_true rfl) (Nat.le_of_ble_eq_true rfl) (xrecv C rfl rfl) rfl rfl (Nat.le_of_ble_eq_true rfl) rfl dX6_at_88 ?_
      refine xr_if_ne C 91 119 dX6_at_91 rfl (fun q => ?_) (fun q => ?_)
      · have h := g_if h q
        exact xG.sub (bX6_at_119 C hL E h) ⟨rfl, rfl, rfl, rfl, trivial⟩
      · have h := g_it h q
        refine xr_iinc C 94 (-1) (by decide +kernel) rfl dX6_at_94 (xnb hL rfl) ?_
        refine xr_iload_n C 97 rfl dX6_at_97 ?_
        refine xr_if_ne C 98 110 dX6_at_98 rfl (fun q => ?_) (fun q => ?_)
        · have h := g_if h q
          refine xr_iconst C 110 1 (by decide +kernel) dX6_at_110 ?_
          refine xr_goto C 111 115 dX6_at_111 rfl ?_
          exact xG.sub (bX6_at_115 C hL E hK74 h) ⟨rfl, rfl, rfl, trivial⟩
        · have h := g_it h q
          refine xr_aload_n C 101 rfl dX6_at_101 ?_
          refine xr_iconst C 102 1 (by decide +kernel) dX6_at_102 ?_
          refine xr_iload_n C 103 rfl dX6_at_103 ?_
          obtain ⟨z2, q3, h⟩ := g_bind h
          refine xr_callV C 104 (mX6_isIn q3) v_X6_isIn ml_X6_42 (Nat.le_of_ble_eq_true rfl) (Nat.le_of_ble_eq_true rfl) (xrecv C rfl rfl) rfl rfl (Nat.le_of_ble_eq_true rfl) rfl dX6_at_104 ?_
          refine xr_if_ne C 107 114 dX6_at_107 rfl (fun q => ?_) (fun q => ?_)
          · have h := g_if h q
            refine xr_iconst C 114 0 (by decide +kernel) dX6_at_114 ?_
            exact xG.sub (bX6_at_115 C hL E hK74 h) ⟨rfl, rfl, rfl, trivial⟩
          · have h := g_it h q
            refine xr_iconst C 110 1 (by decide +kernel) dX6_at_110 ?_
            refine xr_goto C 111 115 dX6_at_111 rfl ?_
            exact xG.sub (bX6_at_115 C hL E hK74 h) ⟨rfl, rfl, rfl, trivial⟩
set_option maxRecDepth 100000 in
set_option maxHeartbeats 4000000 in
theorem bX6_at_74 {Γ : xΓ} (C : xOK Γ cX6_at RX6 2) (hL : xn Γ = 4) {N : Nat} {r : xW} (E : xEnd Γ none r none) : ∀ (n : Nat) (w : xW) (x1 : Int32) (x2 : Int32) (x3 : Int32), fX6_at_74 N n w x1 x2 x3 = some r → xG Γ w 74 [(0, .ref (xad Γ 2)), (1, .int x1), (2, .int x2), (3, .int x3)] []
  | 0, _, _, _, _, h => by cases h
  | n + 1, w, x1, x2, x3, h => bX6_at_74b C hL E (bX6_at_74 C hL E n) h
set_option maxRecDepth 100000 in
set_option maxHeartbeats 4000000 in
theorem bX6_at_67 {Γ : xΓ} (C : xOK Γ cX6_at RX6 2) (hL : xn Γ = 4) {N : Nat} {w : xW} {x1 : Int32} {r : xW} (E : xEnd Γ none r none) (h : fX6_at_67 N w x1 = some r) : xG Γ w 67 [(0, .ref (xad Γ 2)), (1, .int x1)] [] := by
  unfold fX6_at_67 at h
  refine xr_aload_n C 67 rfl dX6_at_67 ?_
  refine xr_getI C 68 dX6_at_68 fl_X6_34 rfl rfl ?_
  refine xr_istore_n C 71 dX6_at_71 (xnb hL rfl) ?_
  refine xr_iconst C 72 0 (by decide +kernel) dX6_at_72 ?_
  refine xr_istore_n C 73 dX6_at_73 (xnb hL rfl) ?_
  exact xG.sub (bX6_at_74 C hL E N _ _ _ _ h) ⟨rfl, rfl, rfl, rfl, trivial⟩
set_option maxRecDepth 100000 in
set_option maxHeartbeats 4000000 in
theorem bX6_at_64 {Γ : xΓ} (C : xOK Γ cX6_at RX6 2) (hL : xn Γ = 4) {N : Nat} {w : xW} {x1 : Int32} {s0 : Int32} {r : xW} (E : xEnd Γ none r none) (h : fX6_at_64 N w x1 s0 = some r) : xG Γ w 64 [(0, .ref (xad Γ 2)), (1, .int x1)] [.int s0, .ref (xad Γ 2)] := by
  unfold fX6_at_64 at h
  refine xr_putI C 64 dX6_at_64 fp_X6_34 rfl rfl ?_
  exact xG.sub (bX6_at_67 C hL E h) ⟨rfl, rfl, trivial⟩
set_option maxRecDepth 100000 in
set_option maxHeartbeats 4000000 in
theorem bX6_at_0 {Γ : xΓ} (C : xOK Γ cX6_at RX6 2) (hL : xn Γ = 4) {N : Nat} {w : xW} {x1 : Int32} {r : xW} (E : xEnd Γ none r none) (h : fX6_at_0 N w x1 = some r) : xG Γ w 0 [(0, .ref (xad Γ 2)), (1, .int x1)] [] := by
  unfold fX6_at_0 at h
  refine xr_aload_n C 0 rfl dX6_at_0 ?_
  refine xr_iconst C 1 0 (by decide +kernel) dX6_at_1 ?_
  refine xr_putI C 2 dX6_at_2 fp_X6_34 rfl rfl ?_
  refine xr_iload_n C 5 rfl dX6_at_5 ?_
  refine xr_aload_n C 6 rfl dX6_at_6 ?_
  refine xr_getR C 7 dX6_at_7 fl_X6_9 rfl rfl ?_
  refine xr_iconst C 10 0 (by decide +kernel) dX6_at_10 ?_
  refine xr_iald C 11 0 (by decide +kernel) dX6_at_11 rfl (ibd_in (by decide +kernel)) ?_
  refine xr_icmp_lt C 12 67 dX6_at_12 rfl (fun q => ?_) (fun q => ?_)
  · have h := g_it h q
    exact xG.sub (bX6_at_67 C hL E h) ⟨rfl, rfl, trivial⟩
  · have h := g_if h q
    refine xr_aload_n C 15 rfl dX6_at_15 ?_
    refine xr_getR C 16 dX6_at_16 fl_X6_9 rfl rfl ?_
    refine xr_iconst C 19 1 (by decide +kernel) dX6_at_19 ?_
    refine xr_iald C 20 1 (by decide +kernel) dX6_at_20 rfl (ibd_in (by decide +kernel)) ?_
    refine xr_if_le C 21 67 dX6_at_21 rfl (fun q => ?_) (fun q => ?_)
    · have h := g_it h q
      exact xG.sub (bX6_at_67 C hL E h) ⟨rfl, rfl, trivial⟩
    · have h := g_if h q
      refine xr_iload_n C 24 rfl dX6_at_24 ?_
      refine xr_aload_n C 25 rfl dX6_at_25 ?_
      refine xr_getR C 26 dX6_at_26 fl_X6_9 rfl rfl ?_
      refine xr_iconst C 29 0 (by decide +kernel) dX6_at_29 ?_
      refine xr_iald C 30 0 (by decide +kernel) dX6_at_30 rfl (ibd_in (by decide +kernel)) ?_
      refine xr_isub C 31 dX6_at_31 ?_
      refine xr_aload_n C 32 rfl dX6_at_32 ?_
      refine xr_getR C 33 dX6_at_33 fl_X6_9 rfl rfl ?_
      refine xr_iconst C 36 1 (by decide +kernel) dX6_at_36 ?_
      refine xr_iald C 37 1 (by decide +kernel) dX6_at_37 rfl (ibd_in (by decide +kernel)) ?_
      obtain ⟨q1, h⟩ := g_div h
      refine xr_idiv C 38 q1 dX6_at_38 ?_
      refine xr_istore_n C 39 dX6_at_39 (xnb hL rfl) ?_
      refine xr_aload_n C 40 rfl dX6_at_40 ?_
      refine xr_aload_n C 41 rfl dX6_at_41 ?_
      refine xr_iload_n C 42 rfl dX6_at_42 ?_
      refine xr_callV C 43 (mX6_begins rfl) v_X6_begins ml_X6_30 (Nat.le_of_ble_eq_true rfl) (Nat.le_of_ble_eq_true rfl) (xrecv C rfl rfl) rfl rfl (Nat.le_of_ble_eq_true rfl) rfl dX6_at_43 ?_
      refine xr_aload_n C 46 rfl dX6_at_46 ?_
      refine xr_getR C 47 dX6_at_47 fl_X6_9 rfl rfl ?_
      refine xr_iconst C 50 2 (by decide +kernel) dX6_at_50 ?_
      refine xr_iald C 51 2 (by decide +kernel) dX6_at_51 rfl (ibd_in (by decide +kernel)) ?_
      refine xr_iadd C 52 dX6_at_52 ?_
      refine xr_iload_n C 53 rfl dX6_at_53 ?_
      refine xr_icmp_gt C 54 63 dX6_at_54 rfl (fun q => ?_) (fun q => ?_)
      · have h := g_it h q
        refine xr_iload_n C 63 rfl dX6_at_63 ?_
        exact xG.sub (bX6_at_64 C hL E h) ⟨rfl, rfl, trivial⟩
      · have h := g_if h q
        refine xr_iload_n C 57 rfl dX6_at_57 ?_
        refine xr_iconst C 58 1 (by decide +kernel) dX6_at_58 ?_
        refine xr_iadd C 59 dX6_at_59 ?_
        refine xr_goto C 60 64 dX6_at_60 rfl ?_
        exact xG.sub (bX6_at_64 C hL E h) ⟨rfl, rfl, trivial⟩
set_option maxRecDepth 100000 in
set_option maxHeartbeats 4000000 in
theorem mX6_at {l : Launch} {ad : Nat → Nat} {G : gEnv} {N : Nat} {w : xW} {x1 : Int32} {r : xW} (h : fX6_at N w x1 = some r) : xCt l ad G 2 yX6_at cX6_at 4 none [.ref (ad 2), .int x1] w r none := xCt.of RX6 rfl (by decide +kernel) (Nat.le_of_ble_eq_true rfl) (fun Γ el ea eG eL C E => by
    subst el
    subst ea
    subst eG
    unfold fX6_at at h
    exact xG.sub (bX6_at_0 C eL  E h) ⟨rfl, rfl, trivial⟩)
def fX7_turned_0 (N : Nat) (w : xW) (x1 : Int32) : Option (xW × Int32) :=
  if (fX7_isTick x1) = 0 then
    (fX7_refuse w (-1000000001)).bind fun z3 =>
    some (z3.1, z3.2)
  else
  (fX6_at N w x1).bind fun z1 =>
  some (z1, z1.1 2 3)
def fX7_turned (N : Nat) (w : xW) (x1 : Int32) : Option (xW × Int32) := fX7_turned_0 N w x1
set_option maxRecDepth 100000 in
set_option maxHeartbeats 4000000 in
theorem bX7_turned_0 {Γ : xΓ} (C : xOK Γ cX7_turned RX7 3) (hL : xn Γ = 2) {N : Nat} {w : xW} {x1 : Int32} {r : xW × Int32} (E : xEnd Γ (some .int) r.1 (some (.int r.2))) (h : fX7_turned_0 N w x1 = some r) : xG Γ w 0 [(0, .ref (xad Γ 0)), (1, .int x1)] [] := by
  unfold fX7_turned_0 at h
  refine xr_iload_n C 0 rfl dX7_turned_0 ?_
  refine xr_callS C 1 (mX7_isTick rfl) v_X7_isTick ml_X7_104 (Nat.le_of_ble_eq_true rfl) (Nat.le_of_ble_eq_true rfl) rfl rfl (Nat.le_of_ble_eq_true rfl) rfl dX7_turned_1 ?_
  refine xr_if_ne C 4 14 dX7_turned_4 rfl (fun q => ?_) (fun q => ?_)
  · have h := g_if h q
    refine xr_aload_n C 14 rfl dX7_turned_14 ?_
    refine xr_getR C 15 dX7_turned_15 fl_X7_10 rfl rfl ?_
    refine xr_getR C 18 dX7_turned_18 fl_X7_77 rfl rfl ?_
    refine xr_iload_n C 21 rfl dX7_turned_21 ?_
    obtain ⟨z1, q2, h⟩ := g_bind h
    refine xr_callV C 22 (mX6_at q2) v_X6_at ml_X7_107 (Nat.le_of_ble_eq_true rfl) (Nat.le_of_ble_eq_true rfl) (xrecv C rfl rfl) rfl rfl (Nat.le_of_ble_eq_true rfl) rfl dX7_turned_22 ?_
    refine xr_aload_n C 25 rfl dX7_turned_25 ?_
    refine xr_getR C 26 dX7_turned_26 fl_X7_10 rfl rfl ?_
    refine xr_getR C 29 dX7_turned_29 fl_X7_77 rfl rfl ?_
    refine xr_getI C 32 dX7_turned_32 fl_X7_111 rfl rfl ?_
    cases h
    exact xr_iret C 35 E dX7_turned_35
  · have h := g_it h q
    refine xr_aload_n C 7 rfl dX7_turned_7 ?_
    refine xr_ldc C 8 k_X7_69 dX7_turned_8 ?_
    obtain ⟨z3, q4, h⟩ := g_bind h
    refine xr_callV C 10 (mX7_refuse q4) v_X7_refuse ml_X7_70 (Nat.le_of_ble_eq_true rfl) (Nat.le_of_ble_eq_true rfl) (xrecv C rfl rfl) rfl rfl (Nat.le_of_ble_eq_true rfl) rfl dX7_turned_10 ?_
    cases h
    exact xr_iret C 13 E dX7_turned_13
set_option maxRecDepth 100000 in
set_option maxHeartbeats 4000000 in
theorem mX7_turned {l : Launch} {ad : Nat → Nat} {G : gEnv} {N : Nat} {w : xW} {x1 : Int32} {r : xW × Int32} (h : fX7_turned N w x1 = some r) : xCt l ad G 3 yX7_turned cX7_turned 2 (some .int) [.ref (ad 0), .int x1] w r.1 (some (.int r.2)) := xCt.of RX7 rfl (by decide +kernel) (Nat.le_of_ble_eq_true rfl) (fun Γ el ea eG eL C E => by
    subst el
    subst ea
    subst eG
    unfold fX7_turned at h
    exact xG.sub (bX7_turned_0 C eL  E h) ⟨rfl, rfl, trivial⟩)
def fX8_isTick_0 (x0 : Int32) : Int32 :=
  (fX8_within x0 0 9999)
def fX8_isTick (x0 : Int32) : Int32 := fX8_isTick_0 x0
theorem xb_fX8_isTick {x0 : Int32} : xB (fX8_isTick x0) = true := by
  unfold fX8_isTick fX8_isTick_0
  repeat' split
  all_goals first | rfl | exact xb_fX8_within
set_option maxRecDepth 100000 in
set_option maxHeartbeats 4000000 in
theorem bX8_isTick_0 {Γ : xΓ} (C : xOK Γ cX8_isTick RX8 2) (hL : xn Γ = 1) {w : xW} {x0 : Int32} {r : Int32} (E : xEnd Γ (some .boolean) w (some (.int r))) (h : fX8_isTick_0  x0 = r) : xG Γ w 0 [(0, .int x0)] [] := by
  unfold fX8_isTick_0 at h
  refine xr_iload_n C 0 rfl dX8_isTick_0 ?_
  refine xr_iconst C 1 0 (by decide +kernel) dX8_isTick_1 ?_
  refine xr_sipush C 2 9999 (by decide +kernel) dX8_isTick_2 ?_
  refine xr_callS C 5 (mX8_within rfl) v_X8_within ml_X8_121 (Nat.le_of_ble_eq_true rfl) (Nat.le_of_ble_eq_true rfl) rfl rfl (Nat.le_of_ble_eq_true rfl) rfl dX8_isTick_5 ?_
  cases h
  exact xr_zret C 8 E dX8_isTick_8 (xb_fX8_within)
set_option maxRecDepth 100000 in
set_option maxHeartbeats 4000000 in
theorem mX8_isTick {l : Launch} {ad : Nat → Nat} {G : gEnv} {w : xW} {x0 : Int32} {r : Int32} (h : fX8_isTick x0 = r) : xCt l ad G 2 yX8_isTick cX8_isTick 1 (some .boolean) [.int x0] w w (some (.int r)) := xCt.of RX8 rfl (by decide +kernel) (Nat.le_of_ble_eq_true rfl) (fun Γ el ea eG eL C E => by
    subst el
    subst ea
    subst eG
    unfold fX8_isTick at h
    exact xG.sub (bX8_isTick_0 C eL  E h) ⟨rfl, trivial⟩)
def fX8_isIn_0 (w : xW) (x1 : Int32) (x2 : Int32) : Option Int32 :=
  if 30 ≤ x2 then
    some 0
  else
  if ibd (4 + x1) 51 = true then
  if (fX8_has (w.1 56 ((4 + x1).toNatClampNeg)) x2) = 0 then
    some 0
  else
  some 1
  else none
def fX8_isIn (w : xW) (x1 : Int32) (x2 : Int32) : Option Int32 := fX8_isIn_0 w x1 x2
set_option maxRecDepth 100000 in
set_option maxHeartbeats 4000000 in
theorem bX8_isIn_0 {Γ : xΓ} (C : xOK Γ cX8_isIn RX8 2) (hL : xn Γ = 3) {w : xW} {x1 : Int32} {x2 : Int32} {r : Int32} (E : xEnd Γ (some .boolean) w (some (.int r))) (h : fX8_isIn_0 w x1 x2 = some r) : xG Γ w 0 [(0, .ref (xad Γ 55)), (1, .int x1), (2, .int x2)] [] := by
  unfold fX8_isIn_0 at h
  refine xr_iload_n C 0 rfl dX8_isIn_0 ?_
  refine xr_bipush C 1 30 (by decide +kernel) dX8_isIn_1 ?_
  refine xr_icmp_ge C 3 25 dX8_isIn_3 rfl (fun q => ?_) (fun q => ?_)
  · have h := g_it h q
    refine xr_iconst C 25 0 (by decide +kernel) dX8_isIn_25 ?_
    cases h
    exact xr_zret C 26 E dX8_isIn_26 (by decide +kernel)
  · have h := g_if h q
    refine xr_aload_n C 6 rfl dX8_isIn_6 ?_
    refine xr_getR C 7 dX8_isIn_7 fl_X8_9 rfl rfl ?_
    refine xr_iconst C 10 4 (by decide +kernel) dX8_isIn_10 ?_
    refine xr_iload_n C 11 rfl dX8_isIn_11 ?_
    refine xr_iadd C 12 dX8_isIn_12 ?_
    obtain ⟨q1, h⟩ := g_ib h
    refine xr_iald C 13 ((4 + x1).toNatClampNeg) rfl dX8_isIn_13 rfl (ibd_in q1) ?_
    refine xr_iload_n C 14 rfl dX8_isIn_14 ?_
    refine xr_callS C 15 (mX8_has rfl) v_X8_has ml_X8_99 (Nat.le_of_ble_eq_true rfl) (Nat.le_of_ble_eq_true rfl) rfl rfl (Nat.le_of_ble_eq_true rfl) rfl dX8_isIn_15 ?_
    refine xr_if_eq C 18 25 dX8_isIn_18 rfl (fun q => ?_) (fun q => ?_)
    · have h := g_it h q
      refine xr_iconst C 25 0 (by decide +kernel) dX8_isIn_25 ?_
      cases h
      exact xr_zret C 26 E dX8_isIn_26 (by decide +kernel)
    · have h := g_if h q
      refine xr_iconst C 21 1 (by decide +kernel) dX8_isIn_21 ?_
      refine xr_goto C 22 26 dX8_isIn_22 rfl ?_
      cases h
      exact xr_zret C 26 E dX8_isIn_26 (by decide +kernel)
set_option maxRecDepth 100000 in
set_option maxHeartbeats 4000000 in
theorem mX8_isIn {l : Launch} {ad : Nat → Nat} {G : gEnv} {w : xW} {x1 : Int32} {x2 : Int32} {r : Int32} (h : fX8_isIn w x1 x2 = some r) : xCt l ad G 2 yX8_isIn cX8_isIn 3 (some .boolean) [.ref (ad 55), .int x1, .int x2] w w (some (.int r)) := xCt.of RX8 rfl (by decide +kernel) (Nat.le_of_ble_eq_true rfl) (fun Γ el ea eG eL C E => by
    subst el
    subst ea
    subst eG
    unfold fX8_isIn at h
    exact xG.sub (bX8_isIn_0 C eL  E h) ⟨rfl, rfl, rfl, trivial⟩)
def fX8_fills_41 (N : Nat) (K3 : xW → Int32 → Int32 → Int32 → Int32 → Option (xW × Int32)) (w : xW) (x2 : Int32) (x3 : Int32) (x4 : Int32) (x5 : Int32) (s0 : Int32) (s1 : Int32) : Option (xW × Int32) :=
  if ibd s1 14000 = true then
  K3 (sI w 62 s1.toNatClampNeg s0) x2 x3 x4 (x5 + 1)
  else none
def fX8_fills_3b (N : Nat) (K3 : xW → Int32 → Int32 → Int32 → Int32 → Option (xW × Int32)) (w : xW) (x2 : Int32) (x3 : Int32) (x4 : Int32) (x5 : Int32) : Option (xW × Int32) :=
  if x2 ≤ x5 then
    some (w, x5)
  else
  if 14000 ≤ x5 then
    some (w, x5)
  else
  if ibd x5 14000 = true then
  if x4 = 0 then
    fX8_fills_41 N K3 (sI w 61 x5.toNatClampNeg x3) x2 x3 x4 x5 1 x5
  else
  fX8_fills_41 N K3 (sI w 61 x5.toNatClampNeg x3) x2 x3 x4 x5 0 x5
  else none
def fX8_fills_3 (N : Nat) : Nat → xW → Int32 → Int32 → Int32 → Int32 → Option (xW × Int32)
  | 0, _, _, _, _, _ => none
  | n + 1, w, x2, x3, x4, x5 => fX8_fills_3b N (fX8_fills_3 N n) w x2 x3 x4 x5
def fX8_fills_0 (N : Nat) (w : xW) (x1 : Int32) (x2 : Int32) (x3 : Int32) (x4 : Int32) : Option (xW × Int32) :=
  fX8_fills_3 N N w x2 x3 x4 x1
def fX8_fills (N : Nat) (w : xW) (x1 : Int32) (x2 : Int32) (x3 : Int32) (x4 : Int32) : Option (xW × Int32) := fX8_fills_0 N w x1 x2 x3 x4
set_option maxRecDepth 100000 in
set_option maxHeartbeats 4000000 in
theorem bX8_fills_41 {Γ : xΓ} (C : xOK Γ cX8_fills RX8 1) (hL : xn Γ = 6) {N : Nat} {K3 : xW → Int32 → Int32 → Int32 → Int32 → Option (xW × Int32)} {w : xW} {x2 : Int32} {x3 : Int32} {x4 : Int32} {x5 : Int32} {s0 : Int32} {s1 : Int32} {r : xW × Int32} (E : xEnd Γ (some .int) r.1 (some (.int r.2))) (hK3 : ∀ (w : xW) (x2 : Int32) (x3 : Int32) (x4 : Int32) (x5 : Int32), K3 w x2 x3 x4 x5 = some r → xG Γ w 3 [(0, .ref (xad Γ 55)), (2, .int x2), (3, .int x3), (4, .int x4), (5, .int x5)] []) (h : fX8_fills_41 N K3 w x2 x3 x4 x5 s0 s1 = some r) : xG Γ w 41 [(0, .ref (xad Γ 55)), (2, .int x2), (3, .int x3), (4, .int x4), (5, .int x5)] [.int s0, .int s1, .ref (xad Γ 62)] := by
  unfold fX8_fills_41 at h
  obtain ⟨q2, h⟩ := g_ib h
  refine xr_iast C 41 s1.toNatClampNeg rfl dX8_fills_41 rfl (ibd_in q2) ?_
  refine xr_iinc C 42 1 (by decide +kernel) rfl dX8_fills_42 (xnb hL rfl) ?_
  refine xr_goto C 45 3 dX8_fills_45 rfl ?_
  exact xG.sub (hK3 _ _ _ _ _ h) ⟨rfl, rfl, rfl, rfl, rfl, trivial⟩
set_option maxRecDepth 100000 in
set_option maxHeartbeats 4000000 in
theorem bX8_fills_3b {Γ : xΓ} (C : xOK Γ cX8_fills RX8 1) (hL : xn Γ = 6) {N : Nat} {K3 : xW → Int32 → Int32 → Int32 → Int32 → Option (xW × Int32)} {w : xW} {x2 : Int32} {x3 : Int32} {x4 : Int32} {x5 : Int32} {r : xW × Int32} (E : xEnd Γ (some .int) r.1 (some (.int r.2))) (hK3 : ∀ (w : xW) (x2 : Int32) (x3 : Int32) (x4 : Int32) (x5 : Int32), K3 w x2 x3 x4 x5 = some r → xG Γ w 3 [(0, .ref (xad Γ 55)), (2, .int x2), (3, .int x3), (4, .int x4), (5, .int x5)] []) (h : fX8_fills_3b N K3 w x2 x3 x4 x5 = some r) : xG Γ w 3 [(0, .ref (xad Γ 55)), (2, .int x2), (3, .int x3), (4, .int x4), (5, .int x5)] [] := by
  unfold fX8_fills_3b at h
  refine xr_iload C 3 rfl dX8_fills_3 ?_
  refine xr_iload_n C 5 rfl dX8_fills_5 ?_
  refine xr_icmp_ge C 6 48 dX8_fills_6 rfl (fun q => ?_) (fun q => ?_)
  · have h := g_it h q
    refine xr_iload C 48 rfl dX8_fills_48 ?_
    cases h
    exact xr_iret C 50 E dX8_fills_50
  · have h := g_if h q
    refine xr_iload C 9 rfl dX8_fills_9 ?_
    refine xr_sipush C 11 14000 (by decide +kernel) dX8_fills_11 ?_
    refine xr_icmp_ge C 14 48 dX8_fills_14 rfl (fun q => ?_) (fun q => ?_)
    · have h := g_it h q
      refine xr_iload C 48 rfl dX8_fills_48 ?_
      cases h
      exact xr_iret C 50 E dX8_fills_50
    · have h := g_if h q
      refine xr_aload_n C 17 rfl dX8_fills_17 ?_
      refine xr_getR C 18 dX8_fills_18 fl_X8_25 rfl rfl ?_
      refine xr_iload C 21 rfl dX8_fills_21 ?_
      refine xr_iload_n C 23 rfl dX8_fills_23 ?_
      obtain ⟨q1, h⟩ := g_ib h
      refine xr_iast C 24 x5.toNatClampNeg rfl dX8_fills_24 rfl (ibd_in q1) ?_
      refine xr_aload_n C 25 rfl dX8_fills_25 ?_
      refine xr_getR C 26 dX8_fills_26 fl_X8_28 rfl rfl ?_
      refine xr_iload C 29 rfl dX8_fills_29 ?_
      refine xr_iload C 31 rfl dX8_fills_31 ?_
      refine xr_if_eq C 33 40 dX8_fills_33 rfl (fun q => ?_) (fun q => ?_)
      · have h := g_it h q
        refine xr_iconst C 40 1 (by decide +kernel) dX8_fills_40 ?_
        exact xG.sub (bX8_fills_41 C hL E hK3 h) ⟨rfl, rfl, rfl, rfl, rfl, trivial⟩
      · have h := g_if h q
        refine xr_iconst C 36 0 (by decide +kernel) dX8_fills_36 ?_
        refine xr_goto C 37 41 dX8_fills_37 rfl ?_
        exact xG.sub (bX8_fills_41 C hL E hK3 h) ⟨rfl, rfl, rfl, rfl, rfl, trivial⟩
set_option maxRecDepth 100000 in
set_option maxHeartbeats 4000000 in
theorem bX8_fills_3 {Γ : xΓ} (C : xOK Γ cX8_fills RX8 1) (hL : xn Γ = 6) {N : Nat} {r : xW × Int32} (E : xEnd Γ (some .int) r.1 (some (.int r.2))) : ∀ (n : Nat) (w : xW) (x2 : Int32) (x3 : Int32) (x4 : Int32) (x5 : Int32), fX8_fills_3 N n w x2 x3 x4 x5 = some r → xG Γ w 3 [(0, .ref (xad Γ 55)), (2, .int x2), (3, .int x3), (4, .int x4), (5, .int x5)] []
  | 0, _, _, _, _, _, h => by cases h
  | n + 1, w, x2, x3, x4, x5, h => bX8_fills_3b C hL E (bX8_fills_3 C hL E n) h
set_option maxRecDepth 100000 in
set_option maxHeartbeats 4000000 in
theorem bX8_fills_0 {Γ : xΓ} (C : xOK Γ cX8_fills RX8 1) (hL : xn Γ = 6) {N : Nat} {w : xW} {x1 : Int32} {x2 : Int32} {x3 : Int32} {x4 : Int32} {r : xW × Int32} (E : xEnd Γ (some .int) r.1 (some (.int r.2))) (h : fX8_fills_0 N w x1 x2 x3 x4 = some r) : xG Γ w 0 [(0, .ref (xad Γ 55)), (1, .int x1), (2, .int x2), (3, .int x3), (4, .int x4)] [] := by
  unfold fX8_fills_0 at h
  refine xr_iload_n C 0 rfl dX8_fills_0 ?_
  refine xr_istore C 1 dX8_fills_1 (xnb hL rfl) ?_
  exact xG.sub (bX8_fills_3 C hL E N _ _ _ _ _ h) ⟨rfl, rfl, rfl, rfl, rfl, trivial⟩
set_option maxRecDepth 100000 in
set_option maxHeartbeats 4000000 in
theorem mX8_fills {l : Launch} {ad : Nat → Nat} {G : gEnv} {N : Nat} {w : xW} {x1 : Int32} {x2 : Int32} {x3 : Int32} {x4 : Int32} {r : xW × Int32} (h : fX8_fills N w x1 x2 x3 x4 = some r) : xCt l ad G 1 yX8_fills cX8_fills 6 (some .int) [.ref (ad 55), .int x1, .int x2, .int x3, .int x4] w r.1 (some (.int r.2)) := xCt.of RX8 rfl (by decide +kernel) (Nat.le_of_ble_eq_true rfl) (fun Γ el ea eG eL C E => by
    subst el
    subst ea
    subst eG
    unfold fX8_fills at h
    exact xG.sub (bX8_fills_0 C eL  E h) ⟨rfl, rfl, rfl, rfl, rfl, trivial⟩)
def fX8_findTides_134 (N : Nat) (K111 : xW → Int32 → Int32 → Option xW) (w : xW) (x5 : Int32) (s0 : Int32) : Option xW :=
  if ibd x5 14000 = true then
  K111 (sI w 62 x5.toNatClampNeg s0) s0 (x5 + (-1))
  else none
def fX8_findTides_111b (N : Nat) (K111 : xW → Int32 → Int32 → Option xW) (w : xW) (x4 : Int32) (x5 : Int32) : Option xW :=
  if x5 < 0 then
    some (sI w 55 8 1)
  else
  if ibd x5 14000 = true then
  if (w.1 62 x5.toNatClampNeg) = 0 then
    fX8_findTides_134 N K111 w x5 0
  else
  fX8_findTides_134 N K111 w x5 (x4 + 1)
  else none
def fX8_findTides_111 (N : Nat) : Nat → xW → Int32 → Int32 → Option xW
  | 0, _, _, _ => none
  | n + 1, w, x4, x5 => fX8_findTides_111b N (fX8_findTides_111 N n) w x4 x5
def fX8_findTides_97 (N : Nat) (K9 : xW → Int32 → Int32 → Int32 → Int32 → Option xW) (w : xW) (x1 : Int32) (x2 : Int32) (x3 : Int32) (x4 : Int32) : Option xW :=
  K9 w x1 x2 x3 (x4 + 1)
def fX8_findTides_59 (N : Nat) (K9 : xW → Int32 → Int32 → Int32 → Int32 → Option xW) (w : xW) (x1 : Int32) (x3 : Int32) (x4 : Int32) (x6 : Int32) (s0 : Int32) (s1 : Int32) (s2 : Int32) (s3 : Int32) : Option xW :=
  (fX8_fills N w s3 s2 s1 s0).bind fun z3 =>
  (fX8_isIn z3.1 2 x4).bind fun z5 =>
  if z5 = 0 then
    (fX8_fills N z3.1 z3.2 x6 x1 1).bind fun z7 =>
    fX8_findTides_97 N K9 z7.1 (x1 + (1 + x3)) z7.2 0 x4
  else
  fX8_findTides_97 N K9 z3.1 x1 z3.2 (x3 + 1) x4
def fX8_findTides_9b (N : Nat) (K9 : xW → Int32 → Int32 → Int32 → Int32 → Option xW) (w : xW) (x1 : Int32) (x2 : Int32) (x3 : Int32) (x4 : Int32) : Option xW :=
  if 14000 ≤ x2 then
    fX8_findTides_111 N N w 0 13999
  else
  (fX8_isIn w 1 x4).bind fun z1 =>
  if z1 = 0 then
    if x3 ≤ 0 then
      fX8_findTides_59 N K9 w x1 x3 x4 ((fX8_beginOf w x4) + (w.1 56 2)) 0 x1 (fX8_beginOf w x4) x2
    else
    fX8_findTides_59 N K9 w x1 x3 x4 ((fX8_beginOf w x4) + (w.1 56 2)) 1 x1 (fX8_beginOf w x4) x2
  else
  fX8_findTides_97 N K9 w x1 x2 x3 x4
def fX8_findTides_9 (N : Nat) : Nat → xW → Int32 → Int32 → Int32 → Int32 → Option xW
  | 0, _, _, _, _, _ => none
  | n + 1, w, x1, x2, x3, x4 => fX8_findTides_9b N (fX8_findTides_9 N n) w x1 x2 x3 x4
def fX8_findTides_0 (N : Nat) (w : xW) : Option xW :=
  fX8_findTides_9 N N w 0 0 0 0
def fX8_findTides (N : Nat) (w : xW) : Option xW := fX8_findTides_0 N w
set_option maxRecDepth 100000 in
set_option maxHeartbeats 4000000 in
theorem bX8_findTides_134 {Γ : xΓ} (C : xOK Γ cX8_findTides RX8 3) (hL : xn Γ = 7) {N : Nat} {K111 : xW → Int32 → Int32 → Option xW} {w : xW} {x5 : Int32} {s0 : Int32} {r : xW} (E : xEnd Γ none r none) (hK111 : ∀ (w : xW) (x4 : Int32) (x5 : Int32), K111 w x4 x5 = some r → xG Γ w 111 [(0, .ref (xad Γ 55)), (4, .int x4), (5, .int x5)] []) (h : fX8_findTides_134 N K111 w x5 s0 = some r) : xG Γ w 134 [(0, .ref (xad Γ 55)), (5, .int x5)] [.int s0] := by
  unfold fX8_findTides_134 at h
  refine xr_istore C 134 dX8_findTides_134 (xnb hL rfl) ?_
  refine xr_aload_n C 136 rfl dX8_findTides_136 ?_
  refine xr_getR C 137 dX8_findTides_137 fl_X8_28 rfl rfl ?_
  refine xr_iload C 140 rfl dX8_findTides_140 ?_
  refine xr_iload C 142 rfl dX8_findTides_142 ?_
  obtain ⟨q10, h⟩ := g_ib h
  refine xr_iast C 144 x5.toNatClampNeg rfl dX8_findTides_144 rfl (ibd_in q10) ?_
  refine xr_iinc C 145 (-1) (by decide +kernel) rfl dX8_findTides_145 (xnb hL rfl) ?_
  refine xr_goto C 148 111 dX8_findTides_148 rfl ?_
  exact xG.sub (hK111 _ _ _ h) ⟨rfl, rfl, rfl, trivial⟩
set_option maxRecDepth 100000 in
set_option maxHeartbeats 4000000 in
theorem bX8_findTides_111b {Γ : xΓ} (C : xOK Γ cX8_findTides RX8 3) (hL : xn Γ = 7) {N : Nat} {K111 : xW → Int32 → Int32 → Option xW} {w : xW} {x4 : Int32} {x5 : Int32} {r : xW} (E : xEnd Γ none r none) (hK111 : ∀ (w : xW) (x4 : Int32) (x5 : Int32), K111 w x4 x5 = some r → xG Γ w 111 [(0, .ref (xad Γ 55)), (4, .int x4), (5, .int x5)] []) (h : fX8_findTides_111b N K111 w x4 x5 = some r) : xG Γ w 111 [(0, .ref (xad Γ 55)), (4, .int x4), (5, .int x5)] [] := by
  unfold fX8_findTides_111b at h
  refine xr_iload C 111 rfl dX8_findTides_111 ?_
  refine xr_if_lt C 113 151 dX8_findTides_113 rfl (fun q => ?_) (fun q => ?_)
  · have h := g_it h q
    refine xr_aload_n C 151 rfl dX8_findTides_151 ?_
    refine xr_iconst C 152 1 (by decide +kernel) dX8_findTides_152 ?_
    refine xr_putZ C 153 dX8_findTides_153 fp_X8_114 rfl rfl (by decide +kernel) ?_
    cases h
    exact xr_vret C 156 E dX8_findTides_156
  · have h := g_if h q
    refine xr_aload_n C 116 rfl dX8_findTides_116 ?_
    refine xr_getR C 117 dX8_findTides_117 fl_X8_28 rfl rfl ?_
    refine xr_iload C 120 rfl dX8_findTides_120 ?_
    obtain ⟨q9, h⟩ := g_ib h
    refine xr_iald C 122 x5.toNatClampNeg rfl dX8_findTides_122 rfl (ibd_in q9) ?_
    refine xr_if_ne C 123 130 dX8_findTides_123 rfl (fun q => ?_) (fun q => ?_)
    · have h := g_if h q
      refine xr_iload C 130 rfl dX8_findTides_130 ?_
      refine xr_iconst C 132 1 (by decide +kernel) dX8_findTides_132 ?_
      refine xr_iadd C 133 dX8_findTides_133 ?_
      exact xG.sub (bX8_findTides_134 C hL E hK111 h) ⟨rfl, rfl, trivial⟩
    · have h := g_it h q
      refine xr_iconst C 126 0 (by decide +kernel) dX8_findTides_126 ?_
      refine xr_goto C 127 134 dX8_findTides_127 rfl ?_
      exact xG.sub (bX8_findTides_134 C hL E hK111 h) ⟨rfl, rfl, trivial⟩
set_option maxRecDepth 100000 in
set_option maxHeartbeats 4000000 in
theorem bX8_findTides_111 {Γ : xΓ} (C : xOK Γ cX8_findTides RX8 3) (hL : xn Γ = 7) {N : Nat} {r : xW} (E : xEnd Γ none r none) : ∀ (n : Nat) (w : xW) (x4 : Int32) (x5 : Int32), fX8_findTides_111 N n w x4 x5 = some r → xG Γ w 111 [(0, .ref (xad Γ 55)), (4, .int x4), (5, .int x5)] []
  | 0, _, _, _, h => by cases h
  | n + 1, w, x4, x5, h => bX8_findTides_111b C hL E (bX8_findTides_111 C hL E n) h
set_option maxRecDepth 100000 in
set_option maxHeartbeats 4000000 in
theorem bX8_findTides_97 {Γ : xΓ} (C : xOK Γ cX8_findTides RX8 3) (hL : xn Γ = 7) {N : Nat} {K9 : xW → Int32 → Int32 → Int32 → Int32 → Option xW} {w : xW} {x1 : Int32} {x2 : Int32} {x3 : Int32} {x4 : Int32} {r : xW} (E : xEnd Γ none r none) (hK9 : ∀ (w : xW) (x1 : Int32) (x2 : Int32) (x3 : Int32) (x4 : Int32), K9 w x1 x2 x3 x4 = some r → xG Γ w 9 [(0, .ref (xad Γ 55)), (1, .int x1), (2, .int x2), (3, .int x3), (4, .int x4)] []) (h : fX8_findTides_97 N K9 w x1 x2 x3 x4 = some r) : xG Γ w 97 [(0, .ref (xad Γ 55)), (1, .int x1), (2, .int x2), (3, .int x3), (4, .int x4)] [] := by
  unfold fX8_findTides_97 at h
  refine xr_iinc C 97 1 (by decide +kernel) rfl dX8_findTides_97 (xnb hL rfl) ?_
  refine xr_goto C 100 9 dX8_findTides_100 rfl ?_
  exact xG.sub (hK9 _ _ _ _ _ h) ⟨rfl, rfl, rfl, rfl, rfl, trivial⟩
set_option maxRecDepth 100000 in
set_option maxHeartbeats 4000000 in
theorem bX8_findTides_59 {Γ : xΓ} (C : xOK Γ cX8_findTides RX8 3) (hL : xn Γ = 7) {N : Nat} {K9 : xW → Int32 → Int32 → Int32 → Int32 → Option xW} {w : xW} {x1 : Int32} {x3 : Int32} {x4 : Int32} {x6 : Int32} {s0 : Int32} {s1 : Int32} {s2 : Int32} {s3 : Int32} {r : xW} (E : xEnd Γ none r none) (hK9 : ∀ (w : xW) (x1 : Int32) (x2 : Int32) (x3 : Int32) (x4 : Int32), K9 w x1 x2 x3 x4 = some r → xG Γ w 9 [(0, .ref (xad Γ 55)), (1, .int x1), (2, .int x2), (3, .int x3), (4, .int x4)] []) (h : fX8_findTides_59 N K9 w x1 x3 x4 x6 s0 s1 s2 s3 = some r) : xG Γ w 59 [(0, .ref (xad Γ 55)), (1, .int x1), (3, .int x3), (4, .int x4), (6, .int x6)] [.int s0, .int s1, .int s2, .int s3, .ref (xad Γ 55)] := by
  unfold fX8_findTides_59 at h
  obtain ⟨z3, q4, h⟩ := g_bind h
  refine xr_callV C 59 (mX8_fills q4) v_X8_fills ml_X8_110 (Nat.le_of_ble_eq_true rfl) (Nat.le_of_ble_eq_true rfl) (xrecv C rfl rfl) rfl rfl (Nat.le_of_ble_eq_true rfl) rfl dX8_findTides_59 ?_
  refine xr_istore_n C 62 dX8_findTides_62 (xnb hL rfl) ?_
  refine xr_aload_n C 63 rfl dX8_findTides_63 ?_
  refine xr_iconst C 64 2 (by decide +kernel) dX8_findTides_64 ?_
  refine xr_iload C 65 rfl dX8_findTides_65 ?_
  obtain ⟨z5, q6, h⟩ := g_bind h
  refine xr_callV C 67 (mX8_isIn q6) v_X8_isIn ml_X8_103 (Nat.le_of_ble_eq_true rfl) (Nat.le_of_ble_eq_true rfl) (xrecv C rfl rfl) rfl rfl (Nat.le_of_ble_eq_true rfl) rfl dX8_findTides_67 ?_
  refine xr_if_eq C 70 79 dX8_findTides_70 rfl (fun q => ?_) (fun q => ?_)
  · have h := g_it h q
    refine xr_aload_n C 79 rfl dX8_findTides_79 ?_
    refine xr_iload_n C 80 rfl dX8_findTides_80 ?_
    refine xr_iload C 81 rfl dX8_findTides_81 ?_
    refine xr_iload_n C 83 rfl dX8_findTides_83 ?_
    refine xr_iconst C 84 1 (by decide +kernel) dX8_findTides_84 ?_
    obtain ⟨z7, q8, h⟩ := g_bind h
    refine xr_callV C 85 (mX8_fills q8) v_X8_fills ml_X8_110 (Nat.le_of_ble_eq_true rfl) (Nat.le_of_ble_eq_true rfl) (xrecv C rfl rfl) rfl rfl (Nat.le_of_ble_eq_true rfl) rfl dX8_findTides_85 ?_
    refine xr_istore_n C 88 dX8_findTides_88 (xnb hL rfl) ?_
    refine xr_iload_n C 89 rfl dX8_findTides_89 ?_
    refine xr_iconst C 90 1 (by decide +kernel) dX8_findTides_90 ?_
    refine xr_iload_n C 91 rfl dX8_findTides_91 ?_
    refine xr_iadd C 92 dX8_findTides_92 ?_
    refine xr_iadd C 93 dX8_findTides_93 ?_
    refine xr_istore_n C 94 dX8_findTides_94 (xnb hL rfl) ?_
    refine xr_iconst C 95 0 (by decide +kernel) dX8_findTides_95 ?_
    refine xr_istore_n C 96 dX8_findTides_96 (xnb hL rfl) ?_
    exact xG.sub (bX8_findTides_97 C hL E hK9 h) ⟨rfl, rfl, rfl, rfl, rfl, trivial⟩
  · have h := g_if h q
    refine xr_iinc C 73 1 (by decide +kernel) rfl dX8_findTides_73 (xnb hL rfl) ?_
    refine xr_goto C 76 97 dX8_findTides_76 rfl ?_
    exact xG.sub (bX8_findTides_97 C hL E hK9 h) ⟨rfl, rfl, rfl, rfl, rfl, trivial⟩
set_option maxRecDepth 100000 in
set_option maxHeartbeats 4000000 in
theorem bX8_findTides_9b {Γ : xΓ} (C : xOK Γ cX8_findTides RX8 3) (hL : xn Γ = 7) {N : Nat} {K9 : xW → Int32 → Int32 → Int32 → Int32 → Option xW} {w : xW} {x1 : Int32} {x2 : Int32} {x3 : Int32} {x4 : Int32} {r : xW} (E : xEnd Γ none r none) (hK9 : ∀ (w : xW) (x1 : Int32) (x2 : Int32) (x3 : Int32) (x4 : Int32), K9 w x1 x2 x3 x4 = some r → xG Γ w 9 [(0, .ref (xad Γ 55)), (1, .int x1), (2, .int x2), (3, .int x3), (4, .int x4)] []) (h : fX8_findTides_9b N K9 w x1 x2 x3 x4 = some r) : xG Γ w 9 [(0, .ref (xad Γ 55)), (1, .int x1), (2, .int x2), (3, .int x3), (4, .int x4)] [] := by
  unfold fX8_findTides_9b at h
  refine xr_iload_n C 9 rfl dX8_findTides_9 ?_
  refine xr_sipush C 10 14000 (by decide +kernel) dX8_findTides_10 ?_
  refine xr_icmp_ge C 13 103 dX8_findTides_13 rfl (fun q => ?_) (fun q => ?_)
  · have h := g_it h q
    refine xr_iconst C 103 0 (by decide +kernel) dX8_findTides_103 ?_
    refine xr_istore C 104 dX8_findTides_104 (xnb hL rfl) ?_
    refine xr_sipush C 106 13999 (by decide +kernel) dX8_findTides_106 ?_
    refine xr_istore C 109 dX8_findTides_109 (xnb hL rfl) ?_
    exact xG.sub (bX8_findTides_111 C hL E N _ _ _ h) ⟨rfl, rfl, rfl, trivial⟩
  · have h := g_if h q
    refine xr_aload_n C 16 rfl dX8_findTides_16 ?_
    refine xr_iconst C 17 1 (by decide +kernel) dX8_findTides_17 ?_
    refine xr_iload C 18 rfl dX8_findTides_18 ?_
    obtain ⟨z1, q2, h⟩ := g_bind h
    refine xr_callV C 20 (mX8_isIn q2) v_X8_isIn ml_X8_103 (Nat.le_of_ble_eq_true rfl) (Nat.le_of_ble_eq_true rfl) (xrecv C rfl rfl) rfl rfl (Nat.le_of_ble_eq_true rfl) rfl dX8_findTides_20 ?_
    refine xr_if_ne C 23 97 dX8_findTides_23 rfl (fun q => ?_) (fun q => ?_)
    · have h := g_if h q
      exact xG.sub (bX8_findTides_97 C hL E hK9 h) ⟨rfl, rfl, rfl, rfl, rfl, trivial⟩
    · have h := g_it h q
      refine xr_aload_n C 26 rfl dX8_findTides_26 ?_
      refine xr_iload C 27 rfl dX8_findTides_27 ?_
      refine xr_callV C 29 (mX8_beginOf rfl) v_X8_beginOf ml_X8_106 (Nat.le_of_ble_eq_true rfl) (Nat.le_of_ble_eq_true rfl) (xrecv C rfl rfl) rfl rfl (Nat.le_of_ble_eq_true rfl) rfl dX8_findTides_29 ?_
      refine xr_istore C 32 dX8_findTides_32 (xnb hL rfl) ?_
      refine xr_iload C 34 rfl dX8_findTides_34 ?_
      refine xr_aload_n C 36 rfl dX8_findTides_36 ?_
      refine xr_getR C 37 dX8_findTides_37 fl_X8_9 rfl rfl ?_
      refine xr_iconst C 40 2 (by decide +kernel) dX8_findTides_40 ?_
      refine xr_iald C 41 2 (by decide +kernel) dX8_findTides_41 rfl (ibd_in (by decide +kernel)) ?_
      refine xr_iadd C 42 dX8_findTides_42 ?_
      refine xr_istore C 43 dX8_findTides_43 (xnb hL rfl) ?_
      refine xr_aload_n C 45 rfl dX8_findTides_45 ?_
      refine xr_iload_n C 46 rfl dX8_findTides_46 ?_
      refine xr_iload C 47 rfl dX8_findTides_47 ?_
      refine xr_iload_n C 49 rfl dX8_findTides_49 ?_
      refine xr_iload_n C 50 rfl dX8_findTides_50 ?_
      refine xr_if_le C 51 58 dX8_findTides_51 rfl (fun q => ?_) (fun q => ?_)
      · have h := g_it h q
        refine xr_iconst C 58 0 (by decide +kernel) dX8_findTides_58 ?_
        exact xG.sub (bX8_findTides_59 C hL E hK9 h) ⟨rfl, rfl, rfl, rfl, rfl, trivial⟩
      · have h := g_if h q
        refine xr_iconst C 54 1 (by decide +kernel) dX8_findTides_54 ?_
        refine xr_goto C 55 59 dX8_findTides_55 rfl ?_
        exact xG.sub (bX8_findTides_59 C hL E hK9 h) ⟨rfl, rfl, rfl, rfl, rfl, trivial⟩
set_option maxRecDepth 100000 in
set_option maxHeartbeats 4000000 in
theorem bX8_findTides_9 {Γ : xΓ} (C : xOK Γ cX8_findTides RX8 3) (hL : xn Γ = 7) {N : Nat} {r : xW} (E : xEnd Γ none r none) : ∀ (n : Nat) (w : xW) (x1 : Int32) (x2 : Int32) (x3 : Int32) (x4 : Int32), fX8_findTides_9 N n w x1 x2 x3 x4 = some r → xG Γ w 9 [(0, .ref (xad Γ 55)), (1, .int x1), (2, .int x2), (3, .int x3), (4, .int x4)] []
  | 0, _, _, _, _, _, h => by cases h
  | n + 1, w, x1, x2, x3, x4, h => bX8_findTides_9b C hL E (bX8_findTides_9 C hL E n) h
set_option maxRecDepth 100000 in
set_option maxHeartbeats 4000000 in
theorem bX8_findTides_0 {Γ : xΓ} (C : xOK Γ cX8_findTides RX8 3) (hL : xn Γ = 7) {N : Nat} {w : xW} {r : xW} (E : xEnd Γ none r none) (h : fX8_findTides_0 N w = some r) : xG Γ w 0 [(0, .ref (xad Γ 55))] [] := by
  unfold fX8_findTides_0 at h
  refine xr_iconst C 0 0 (by decide +kernel) dX8_findTides_0 ?_
  refine xr_istore_n C 1 dX8_findTides_1 (xnb hL rfl) ?_
  refine xr_iconst C 2 0 (by decide +kernel) dX8_findTides_2 ?_
  refine xr_istore_n C 3 dX8_findTides_3 (xnb hL rfl) ?_
  refine xr_iconst C 4 0 (by decide +kernel) dX8_findTides_4 ?_
  refine xr_istore_n C 5 dX8_findTides_5 (xnb hL rfl) ?_
  refine xr_iconst C 6 0 (by decide +kernel) dX8_findTides_6 ?_
  refine xr_istore C 7 dX8_findTides_7 (xnb hL rfl) ?_
  exact xG.sub (bX8_findTides_9 C hL E N _ _ _ _ _ h) ⟨rfl, rfl, rfl, rfl, rfl, trivial⟩
set_option maxRecDepth 100000 in
set_option maxHeartbeats 4000000 in
theorem mX8_findTides {l : Launch} {ad : Nat → Nat} {G : gEnv} {N : Nat} {w : xW} {r : xW} (h : fX8_findTides N w = some r) : xCt l ad G 3 yX8_findTides cX8_findTides 7 none [.ref (ad 55)] w r none := xCt.of RX8 rfl (by decide +kernel) (Nat.le_of_ble_eq_true rfl) (fun Γ el ea eG eL C E => by
    subst el
    subst ea
    subst eG
    unfold fX8_findTides at h
    exact xG.sub (bX8_findTides_0 C eL  E h) ⟨rfl, trivial⟩)
def fX8_turnedAt_11 (N : Nat) (w : xW) (x1 : Int32) : Option (xW × Int32) :=
  if ibd x1 14000 = true then
  some (w, w.1 61 x1.toNatClampNeg)
  else none
def fX8_turnedAt_0 (N : Nat) (w : xW) (x1 : Int32) : Option (xW × Int32) :=
  if (w.1 55 8) = 0 then
    (fX8_findTides N w).bind fun z1 =>
    fX8_turnedAt_11 N z1 x1
  else
  fX8_turnedAt_11 N w x1
def fX8_turnedAt (N : Nat) (w : xW) (x1 : Int32) : Option (xW × Int32) := fX8_turnedAt_0 N w x1
set_option maxRecDepth 100000 in
set_option maxHeartbeats 4000000 in
theorem bX8_turnedAt_11 {Γ : xΓ} (C : xOK Γ cX8_turnedAt RX8 4) (hL : xn Γ = 2) {N : Nat} {w : xW} {x1 : Int32} {r : xW × Int32} (E : xEnd Γ (some .int) r.1 (some (.int r.2))) (h : fX8_turnedAt_11 N w x1 = some r) : xG Γ w 11 [(0, .ref (xad Γ 55)), (1, .int x1)] [] := by
  unfold fX8_turnedAt_11 at h
  refine xr_aload_n C 11 rfl dX8_turnedAt_11 ?_
  refine xr_getR C 12 dX8_turnedAt_12 fl_X8_25 rfl rfl ?_
  refine xr_iload_n C 15 rfl dX8_turnedAt_15 ?_
  obtain ⟨q3, h⟩ := g_ib h
  refine xr_iald C 16 x1.toNatClampNeg rfl dX8_turnedAt_16 rfl (ibd_in q3) ?_
  cases h
  exact xr_iret C 17 E dX8_turnedAt_17
set_option maxRecDepth 100000 in
set_option maxHeartbeats 4000000 in
theorem bX8_turnedAt_0 {Γ : xΓ} (C : xOK Γ cX8_turnedAt RX8 4) (hL : xn Γ = 2) {N : Nat} {w : xW} {x1 : Int32} {r : xW × Int32} (E : xEnd Γ (some .int) r.1 (some (.int r.2))) (h : fX8_turnedAt_0 N w x1 = some r) : xG Γ w 0 [(0, .ref (xad Γ 55)), (1, .int x1)] [] := by
  unfold fX8_turnedAt_0 at h
  refine xr_aload_n C 0 rfl dX8_turnedAt_0 ?_
  refine xr_getI C 1 dX8_turnedAt_1 fl_X8_114 rfl rfl ?_
  refine xr_if_ne C 4 11 dX8_turnedAt_4 rfl (fun q => ?_) (fun q => ?_)
  · have h := g_if h q
    exact xG.sub (bX8_turnedAt_11 C hL E h) ⟨rfl, rfl, trivial⟩
  · have h := g_it h q
    refine xr_aload_n C 7 rfl dX8_turnedAt_7 ?_
    obtain ⟨z1, q2, h⟩ := g_bind h
    refine xr_callV C 8 (mX8_findTides q2) v_X8_findTides ml_X8_118 (Nat.le_of_ble_eq_true rfl) (Nat.le_of_ble_eq_true rfl) (xrecv C rfl rfl) rfl rfl (Nat.le_of_ble_eq_true rfl) rfl dX8_turnedAt_8 ?_
    exact xG.sub (bX8_turnedAt_11 C hL E h) ⟨rfl, rfl, trivial⟩
set_option maxRecDepth 100000 in
set_option maxHeartbeats 4000000 in
theorem mX8_turnedAt {l : Launch} {ad : Nat → Nat} {G : gEnv} {N : Nat} {w : xW} {x1 : Int32} {r : xW × Int32} (h : fX8_turnedAt N w x1 = some r) : xCt l ad G 4 yX8_turnedAt cX8_turnedAt 2 (some .int) [.ref (ad 55), .int x1] w r.1 (some (.int r.2)) := xCt.of RX8 rfl (by decide +kernel) (Nat.le_of_ble_eq_true rfl) (fun Γ el ea eG eL C E => by
    subst el
    subst ea
    subst eG
    unfold fX8_turnedAt at h
    exact xG.sub (bX8_turnedAt_0 C eL  E h) ⟨rfl, rfl, trivial⟩)
