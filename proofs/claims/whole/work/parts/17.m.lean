def fX8_island_111b (N : Nat) (K111 : xW → Int32 → Option (xW × Int32)) (w : xW) (x1 : Int32) : Option (xW × Int32) :=
  if (w.1 55 27) ≤ x1 then
    some (sI w 55 8 0, (sI w 55 8 0).1 55 27)
  else
  (fX8_isSo w (5 * x1)).bind fun z12 =>
  K111 z12 (x1 + 1)
def fX8_island_111 (N : Nat) : Nat → xW → Int32 → Option (xW × Int32)
  | 0, _, _ => none
  | n + 1, w, x1 => fX8_island_111b N (fX8_island_111 N n) w x1
def fX8_island_87 (N : Nat) (w : xW) (s0 : Int32) : Option (xW × Int32) :=
  (fX8_must N w s0).bind fun z10 =>
  if ((sI z10 55 18 0).1 55 23) = 0 then
    fX8_island_111 N N (sI z10 55 18 0) 0
  else
  some (sI z10 55 18 0, (-1) - ((sI z10 55 18 0).1 55 19))
def fX8_island_74 (N : Nat) (w : xW) : Option (xW × Int32) :=
  if (w.1 55 21) = 0 then
    fX8_island_87 N w 1
  else
  fX8_island_87 N w 0
def fX8_island_33b (N : Nat) (K33 : xW → Option (xW × Int32)) (w : xW) : Option (xW × Int32) :=
  if (w.1 55 23) = 0 then
    if (w.1 55 21) = 3 then
      if ibd (w.1 55 19) 120 = true then
      if (w.1 70 ((w.1 55 19).toNatClampNeg)) = 59 then
        (fX8_must N w 1).bind fun z6 =>
        (fX8_readItem N z6).bind fun z8 =>
        K33 z8
      else
      fX8_island_74 N w
      else none
    else
    fX8_island_74 N w
  else
  fX8_island_74 N w
def fX8_island_33 (N : Nat) : Nat → xW → Option (xW × Int32)
  | 0, _ => none
  | n + 1, w => fX8_island_33b N (fX8_island_33 N n) w
def fX8_island_0 (N : Nat) (w : xW) : Option (xW × Int32) :=
  (fX8_next N (sI (sI (sI (sI (sI w 55 20 0) 55 23 0) 55 27 0) 55 28 0) 55 29 0)).bind fun z1 =>
  (fX8_readItem N z1).bind fun z3 =>
  fX8_island_33 N N z3
def fX8_island (N : Nat) (w : xW) : Option (xW × Int32) := fX8_island_0 N w
set_option maxRecDepth 100000 in
set_option maxHeartbeats 4000000 in
theorem bX8_island_111b {Γ : xΓ} (C : xOK Γ cX8_island RX8 11) (hL : xn Γ = 2) {N : Nat} {K111 : xW → Int32 → Option (xW × Int32)} {w : xW} {x1 : Int32} {r : xW × Int32} (E : xEnd Γ (some .int) r.1 (some (.int r.2))) (hK111 : ∀ (w : xW) (x1 : Int32), K111 w x1 = some r → xG Γ w 111 [(0, .ref (xad Γ 55)), (1, .int x1)] []) (h : fX8_island_111b N K111 w x1 = some r) : xG Γ w 111 [(0, .ref (xad Γ 55)), (1, .int x1)] [] := by
  unfold fX8_island_111b at h
  refine xr_iload_n C 111 rfl dX8_island_111 ?_
  refine xr_aload_n C 112 rfl dX8_island_112 ?_
  refine xr_getI C 113 dX8_island_113 fl_X8_260 rfl rfl ?_
  refine xr_icmp_ge C 116 132 dX8_island_116 rfl (fun q => ?_) (fun q => ?_)
  · have h := g_it h q
    refine xr_aload_n C 132 rfl dX8_island_132 ?_
    refine xr_iconst C 133 0 (by decide +kernel) dX8_island_133 ?_
    refine xr_putZ C 134 dX8_island_134 fp_X8_114 rfl rfl (by decide +kernel) ?_
    refine xr_aload_n C 137 rfl dX8_island_137 ?_
    refine xr_getI C 138 dX8_island_138 fl_X8_260 rfl rfl ?_
    cases h
    exact xr_iret C 141 E dX8_island_141
  · have h := g_if h q
    refine xr_aload_n C 119 rfl dX8_island_119 ?_
    refine xr_iconst C 120 5 (by decide +kernel) dX8_island_120 ?_
    refine xr_iload_n C 121 rfl dX8_island_121 ?_
    refine xr_imul C 122 dX8_island_122 ?_
    obtain ⟨z12, q13, h⟩ := g_bind h
    refine xr_callV C 123 (mX8_isSo q13) v_X8_isSo ml_X8_313 (Nat.le_of_ble_eq_true rfl) (Nat.le_of_ble_eq_true rfl) (xrecv C rfl rfl) rfl rfl (Nat.le_of_ble_eq_true rfl) rfl dX8_island_123 ?_
    refine xr_iinc C 126 1 (by decide +kernel) rfl dX8_island_126 (xnb hL rfl) ?_
    refine xr_goto C 129 111 dX8_island_129 rfl ?_
    exact xG.sub (hK111 _ _ h) ⟨rfl, rfl, trivial⟩
set_option maxRecDepth 100000 in
set_option maxHeartbeats 4000000 in
theorem bX8_island_111 {Γ : xΓ} (C : xOK Γ cX8_island RX8 11) (hL : xn Γ = 2) {N : Nat} {r : xW × Int32} (E : xEnd Γ (some .int) r.1 (some (.int r.2))) : ∀ (n : Nat) (w : xW) (x1 : Int32), fX8_island_111 N n w x1 = some r → xG Γ w 111 [(0, .ref (xad Γ 55)), (1, .int x1)] []
  | 0, _, _, h => by cases h
  | n + 1, w, x1, h => bX8_island_111b C hL E (bX8_island_111 C hL E n) h
set_option maxRecDepth 100000 in
set_option maxHeartbeats 4000000 in
theorem bX8_island_87 {Γ : xΓ} (C : xOK Γ cX8_island RX8 11) (hL : xn Γ = 2) {N : Nat} {w : xW} {s0 : Int32} {r : xW × Int32} (E : xEnd Γ (some .int) r.1 (some (.int r.2))) (h : fX8_island_87 N w s0 = some r) : xG Γ w 87 [(0, .ref (xad Γ 55))] [.int s0, .ref (xad Γ 55)] := by
  unfold fX8_island_87 at h
  obtain ⟨z10, q11, h⟩ := g_bind h
  refine xr_callV C 87 (mX8_must q11) v_X8_must ml_X8_256 (Nat.le_of_ble_eq_true rfl) (Nat.le_of_ble_eq_true rfl) (xrecv C rfl rfl) rfl rfl (Nat.le_of_ble_eq_true rfl) rfl dX8_island_87 ?_
  refine xr_aload_n C 90 rfl dX8_island_90 ?_
  refine xr_iconst C 91 0 (by decide +kernel) dX8_island_91 ?_
  refine xr_putI C 92 dX8_island_92 fp_X8_224 rfl rfl ?_
  refine xr_aload_n C 95 rfl dX8_island_95 ?_
  refine xr_getI C 96 dX8_island_96 fl_X8_250 rfl rfl ?_
  refine xr_if_eq C 99 109 dX8_island_99 rfl (fun q => ?_) (fun q => ?_)
  · have h := g_it h q
    refine xr_iconst C 109 0 (by decide +kernel) dX8_island_109 ?_
    refine xr_istore_n C 110 dX8_island_110 (xnb hL rfl) ?_
    exact xG.sub (bX8_island_111 C hL E N _ _ h) ⟨rfl, rfl, trivial⟩
  · have h := g_if h q
    refine xr_iconst C 102 (-1) (by decide +kernel) dX8_island_102 ?_
    refine xr_aload_n C 103 rfl dX8_island_103 ?_
    refine xr_getI C 104 dX8_island_104 fl_X8_230 rfl rfl ?_
    refine xr_isub C 107 dX8_island_107 ?_
    cases h
    exact xr_iret C 108 E dX8_island_108
set_option maxRecDepth 100000 in
set_option maxHeartbeats 4000000 in
theorem bX8_island_74 {Γ : xΓ} (C : xOK Γ cX8_island RX8 11) (hL : xn Γ = 2) {N : Nat} {w : xW} {r : xW × Int32} (E : xEnd Γ (some .int) r.1 (some (.int r.2))) (h : fX8_island_74 N w = some r) : xG Γ w 74 [(0, .ref (xad Γ 55))] [] := by
  unfold fX8_island_74 at h
  refine xr_aload_n C 74 rfl dX8_island_74 ?_
  refine xr_aload_n C 75 rfl dX8_island_75 ?_
  refine xr_getI C 76 dX8_island_76 fl_X8_239 rfl rfl ?_
  refine xr_if_ne C 79 86 dX8_island_79 rfl (fun q => ?_) (fun q => ?_)
  · have h := g_if h q
    refine xr_iconst C 86 0 (by decide +kernel) dX8_island_86 ?_
    exact xG.sub (bX8_island_87 C hL E h) ⟨rfl, trivial⟩
  · have h := g_it h q
    refine xr_iconst C 82 1 (by decide +kernel) dX8_island_82 ?_
    refine xr_goto C 83 87 dX8_island_83 rfl ?_
    exact xG.sub (bX8_island_87 C hL E h) ⟨rfl, trivial⟩
set_option maxRecDepth 100000 in
set_option maxHeartbeats 4000000 in
theorem bX8_island_33b {Γ : xΓ} (C : xOK Γ cX8_island RX8 11) (hL : xn Γ = 2) {N : Nat} {K33 : xW → Option (xW × Int32)} {w : xW} {r : xW × Int32} (E : xEnd Γ (some .int) r.1 (some (.int r.2))) (hK33 : ∀ (w : xW), K33 w = some r → xG Γ w 33 [(0, .ref (xad Γ 55))] []) (h : fX8_island_33b N K33 w = some r) : xG Γ w 33 [(0, .ref (xad Γ 55))] [] := by
  unfold fX8_island_33b at h
  refine xr_aload_n C 33 rfl dX8_island_33 ?_
  refine xr_getI C 34 dX8_island_34 fl_X8_250 rfl rfl ?_
  refine xr_if_ne C 37 74 dX8_island_37 rfl (fun q => ?_) (fun q => ?_)
  · have h := g_if h q
    exact xG.sub (bX8_island_74 C hL E h) ⟨rfl, trivial⟩
  · have h := g_it h q
    refine xr_aload_n C 40 rfl dX8_island_40 ?_
    refine xr_getI C 41 dX8_island_41 fl_X8_239 rfl rfl ?_
    refine xr_iconst C 44 3 (by decide +kernel) dX8_island_44 ?_
    refine xr_icmp_ne C 45 74 dX8_island_45 rfl (fun q => ?_) (fun q => ?_)
    · have h := g_if h q
      exact xG.sub (bX8_island_74 C hL E h) ⟨rfl, trivial⟩
    · have h := g_it h q
      refine xr_aload_n C 48 rfl dX8_island_48 ?_
      refine xr_getR C 49 dX8_island_49 fl_X8_52 rfl rfl ?_
      refine xr_aload_n C 52 rfl dX8_island_52 ?_
      refine xr_getI C 53 dX8_island_53 fl_X8_230 rfl rfl ?_
      obtain ⟨q5, h⟩ := g_ib h
      refine xr_iald C 56 ((w.1 55 19).toNatClampNeg) rfl dX8_island_56 rfl (ibd_in q5) ?_
      refine xr_bipush C 57 59 (by decide +kernel) dX8_island_57 ?_
      refine xr_icmp_ne C 59 74 dX8_island_59 rfl (fun q => ?_) (fun q => ?_)
      · have h := g_if h q
        exact xG.sub (bX8_island_74 C hL E h) ⟨rfl, trivial⟩
      · have h := g_it h q
        refine xr_aload_n C 62 rfl dX8_island_62 ?_
        refine xr_iconst C 63 1 (by decide +kernel) dX8_island_63 ?_
        obtain ⟨z6, q7, h⟩ := g_bind h
        refine xr_callV C 64 (mX8_must q7) v_X8_must ml_X8_256 (Nat.le_of_ble_eq_true rfl) (Nat.le_of_ble_eq_true rfl) (xrecv C rfl rfl) rfl rfl (Nat.le_of_ble_eq_true rfl) rfl dX8_island_64 ?_
        refine xr_aload_n C 67 rfl dX8_island_67 ?_
        obtain ⟨z8, q9, h⟩ := g_bind h
        refine xr_callV C 68 (mX8_readItem q9) v_X8_readItem ml_X8_310 (Nat.le_of_ble_eq_true rfl) (Nat.le_of_ble_eq_true rfl) (xrecv C rfl rfl) rfl rfl (Nat.le_of_ble_eq_true rfl) rfl dX8_island_68 ?_
        refine xr_goto C 71 33 dX8_island_71 rfl ?_
        exact xG.sub (hK33 _ h) ⟨rfl, trivial⟩
set_option maxRecDepth 100000 in
set_option maxHeartbeats 4000000 in
theorem bX8_island_33 {Γ : xΓ} (C : xOK Γ cX8_island RX8 11) (hL : xn Γ = 2) {N : Nat} {r : xW × Int32} (E : xEnd Γ (some .int) r.1 (some (.int r.2))) : ∀ (n : Nat) (w : xW), fX8_island_33 N n w = some r → xG Γ w 33 [(0, .ref (xad Γ 55))] []
  | 0, _, h => by cases h
  | n + 1, w, h => bX8_island_33b C hL E (bX8_island_33 C hL E n) h
set_option maxRecDepth 100000 in
set_option maxHeartbeats 4000000 in
theorem bX8_island_0 {Γ : xΓ} (C : xOK Γ cX8_island RX8 11) (hL : xn Γ = 2) {N : Nat} {w : xW} {r : xW × Int32} (E : xEnd Γ (some .int) r.1 (some (.int r.2))) (h : fX8_island_0 N w = some r) : xG Γ w 0 [(0, .ref (xad Γ 55))] [] := by
  unfold fX8_island_0 at h
  refine xr_aload_n C 0 rfl dX8_island_0 ?_
  refine xr_iconst C 1 0 (by decide +kernel) dX8_island_1 ?_
  refine xr_putI C 2 dX8_island_2 fp_X8_227 rfl rfl ?_
  refine xr_aload_n C 5 rfl dX8_island_5 ?_
  refine xr_iconst C 6 0 (by decide +kernel) dX8_island_6 ?_
  refine xr_putZ C 7 dX8_island_7 fp_X8_250 rfl rfl (by decide +kernel) ?_
  refine xr_aload_n C 10 rfl dX8_island_10 ?_
  refine xr_iconst C 11 0 (by decide +kernel) dX8_island_11 ?_
  refine xr_putI C 12 dX8_island_12 fp_X8_260 rfl rfl ?_
  refine xr_aload_n C 15 rfl dX8_island_15 ?_
  refine xr_iconst C 16 0 (by decide +kernel) dX8_island_16 ?_
  refine xr_putI C 17 dX8_island_17 fp_X8_274 rfl rfl ?_
  refine xr_aload_n C 20 rfl dX8_island_20 ?_
  refine xr_iconst C 21 0 (by decide +kernel) dX8_island_21 ?_
  refine xr_putI C 22 dX8_island_22 fp_X8_301 rfl rfl ?_
  refine xr_aload_n C 25 rfl dX8_island_25 ?_
  obtain ⟨z1, q2, h⟩ := g_bind h
  refine xr_callV C 26 (mX8_next q2) v_X8_next ml_X8_253 (Nat.le_of_ble_eq_true rfl) (Nat.le_of_ble_eq_true rfl) (xrecv C rfl rfl) rfl rfl (Nat.le_of_ble_eq_true rfl) rfl dX8_island_26 ?_
  refine xr_aload_n C 29 rfl dX8_island_29 ?_
  obtain ⟨z3, q4, h⟩ := g_bind h
  refine xr_callV C 30 (mX8_readItem q4) v_X8_readItem ml_X8_310 (Nat.le_of_ble_eq_true rfl) (Nat.le_of_ble_eq_true rfl) (xrecv C rfl rfl) rfl rfl (Nat.le_of_ble_eq_true rfl) rfl dX8_island_30 ?_
  exact xG.sub (bX8_island_33 C hL E N _ h) ⟨rfl, trivial⟩
set_option maxRecDepth 100000 in
set_option maxHeartbeats 4000000 in
theorem mX8_island {l : Launch} {ad : Nat → Nat} {G : gEnv} {N : Nat} {w : xW} {r : xW × Int32} (h : fX8_island N w = some r) : xCt l ad G 11 yX8_island cX8_island 2 (some .int) [.ref (ad 55)] w r.1 (some (.int r.2)) := xCt.of RX8 rfl (by decide +kernel) (Nat.le_of_ble_eq_true rfl) (fun Γ el ea eG eL C E => by
    subst el
    subst ea
    subst eG
    unfold fX8_island at h
    exact xG.sub (bX8_island_0 C eL  E h) ⟨rfl, trivial⟩)
def fX7_isSheet_0 (x0 : Int32) : Int32 :=
  if x0 < 0 then
    0
  else
  if 4 ≤ x0 then
    0
  else
  1
def fX7_isSheet (x0 : Int32) : Int32 := fX7_isSheet_0 x0
theorem xb_fX7_isSheet {x0 : Int32} : xB (fX7_isSheet x0) = true := by
  unfold fX7_isSheet fX7_isSheet_0
  repeat' split
  all_goals first | rfl | exact xb_fX7_isSheet
set_option maxRecDepth 100000 in
set_option maxHeartbeats 4000000 in
theorem bX7_isSheet_0 {Γ : xΓ} (C : xOK Γ cX7_isSheet RX7 1) (hL : xn Γ = 1) {w : xW} {x0 : Int32} {r : Int32} (E : xEnd Γ (some .boolean) w (some (.int r))) (h : fX7_isSheet_0  x0 = r) : xG Γ w 0 [(0, .int x0)] [] := by
  unfold fX7_isSheet_0 at h
  refine xr_iload_n C 0 rfl dX7_isSheet_0 ?_
  refine xr_if_lt C 1 13 dX7_isSheet_1 rfl (fun q => ?_) (fun q => ?_)
  · have h := g_it h q
    refine xr_iconst C 13 0 (by decide +kernel) dX7_isSheet_13 ?_
    cases h
    exact xr_zret C 14 E dX7_isSheet_14 (by decide +kernel)
  · have h := g_if h q
    refine xr_iload_n C 4 rfl dX7_isSheet_4 ?_
    refine xr_iconst C 5 4 (by decide +kernel) dX7_isSheet_5 ?_
    refine xr_icmp_ge C 6 13 dX7_isSheet_6 rfl (fun q => ?_) (fun q => ?_)
    · have h := g_it h q
      refine xr_iconst C 13 0 (by decide +kernel) dX7_isSheet_13 ?_
      cases h
      exact xr_zret C 14 E dX7_isSheet_14 (by decide +kernel)
    · have h := g_if h q
      refine xr_iconst C 9 1 (by decide +kernel) dX7_isSheet_9 ?_
      refine xr_goto C 10 14 dX7_isSheet_10 rfl ?_
      cases h
      exact xr_zret C 14 E dX7_isSheet_14 (by decide +kernel)
set_option maxRecDepth 100000 in
set_option maxHeartbeats 4000000 in
theorem mX7_isSheet {l : Launch} {ad : Nat → Nat} {G : gEnv} {w : xW} {x0 : Int32} {r : Int32} (h : fX7_isSheet x0 = r) : xCt l ad G 1 yX7_isSheet cX7_isSheet 1 (some .boolean) [.int x0] w w (some (.int r)) := xCt.of RX7 rfl (by decide +kernel) (Nat.le_of_ble_eq_true rfl) (fun Γ el ea eG eL C E => by
    subst el
    subst ea
    subst eG
    unfold fX7_isSheet at h
    exact xG.sub (bX7_isSheet_0 C eL  E h) ⟨rfl, trivial⟩)
def fX2_mayBe_0 (x0 : Int32) : Int32 :=
  if x0 = 0 then
    1
  else
  if x0 = 8 then
    1
  else
  if x0 = 16 then
    1
  else
  if x0 = 64 then
    1
  else
  0
def fX2_mayBe (x0 : Int32) : Int32 := fX2_mayBe_0 x0
theorem xb_fX2_mayBe {x0 : Int32} : xB (fX2_mayBe x0) = true := by
  unfold fX2_mayBe fX2_mayBe_0
  repeat' split
  all_goals first | rfl | exact xb_fX2_mayBe
set_option maxRecDepth 100000 in
set_option maxHeartbeats 4000000 in
theorem bX2_mayBe_0 {Γ : xΓ} (C : xOK Γ cX2_mayBe RX2 1) (hL : xn Γ = 1) {w : xW} {x0 : Int32} {r : Int32} (E : xEnd Γ (some .boolean) w (some (.int r))) (h : fX2_mayBe_0  x0 = r) : xG Γ w 0 [(0, .int x0)] [] := by
  unfold fX2_mayBe_0 at h
  refine xr_iload_n C 0 rfl dX2_mayBe_0 ?_
  refine xr_if_eq C 1 22 dX2_mayBe_1 rfl (fun q => ?_) (fun q => ?_)
  · have h := g_it h q
    refine xr_iconst C 22 1 (by decide +kernel) dX2_mayBe_22 ?_
    refine xr_goto C 23 27 dX2_mayBe_23 rfl ?_
    cases h
    exact xr_zret C 27 E dX2_mayBe_27 (by decide +kernel)
  · have h := g_if h q
    refine xr_iload_n C 4 rfl dX2_mayBe_4 ?_
    refine xr_bipush C 5 8 (by decide +kernel) dX2_mayBe_5 ?_
    refine xr_icmp_eq C 7 22 dX2_mayBe_7 rfl (fun q => ?_) (fun q => ?_)
    · have h := g_it h q
      refine xr_iconst C 22 1 (by decide +kernel) dX2_mayBe_22 ?_
      refine xr_goto C 23 27 dX2_mayBe_23 rfl ?_
      cases h
      exact xr_zret C 27 E dX2_mayBe_27 (by decide +kernel)
    · have h := g_if h q
      refine xr_iload_n C 10 rfl dX2_mayBe_10 ?_
      refine xr_bipush C 11 16 (by decide +kernel) dX2_mayBe_11 ?_
      refine xr_icmp_eq C 13 22 dX2_mayBe_13 rfl (fun q => ?_) (fun q => ?_)
      · have h := g_it h q
        refine xr_iconst C 22 1 (by decide +kernel) dX2_mayBe_22 ?_
        refine xr_goto C 23 27 dX2_mayBe_23 rfl ?_
        cases h
        exact xr_zret C 27 E dX2_mayBe_27 (by decide +kernel)
      · have h := g_if h q
        refine xr_iload_n C 16 rfl dX2_mayBe_16 ?_
        refine xr_bipush C 17 64 (by decide +kernel) dX2_mayBe_17 ?_
        refine xr_icmp_ne C 19 26 dX2_mayBe_19 rfl (fun q => ?_) (fun q => ?_)
        · have h := g_if h q
          refine xr_iconst C 26 0 (by decide +kernel) dX2_mayBe_26 ?_
          cases h
          exact xr_zret C 27 E dX2_mayBe_27 (by decide +kernel)
        · have h := g_it h q
          refine xr_iconst C 22 1 (by decide +kernel) dX2_mayBe_22 ?_
          refine xr_goto C 23 27 dX2_mayBe_23 rfl ?_
          cases h
          exact xr_zret C 27 E dX2_mayBe_27 (by decide +kernel)
set_option maxRecDepth 100000 in
set_option maxHeartbeats 4000000 in
theorem mX2_mayBe {l : Launch} {ad : Nat → Nat} {G : gEnv} {w : xW} {x0 : Int32} {r : Int32} (h : fX2_mayBe x0 = r) : xCt l ad G 1 yX2_mayBe cX2_mayBe 1 (some .boolean) [.int x0] w w (some (.int r)) := xCt.of RX2 rfl (by decide +kernel) (Nat.le_of_ble_eq_true rfl) (fun Γ el ea eG eL C E => by
    subst el
    subst ea
    subst eG
    unfold fX2_mayBe at h
    exact xG.sub (bX2_mayBe_0 C eL  E h) ⟨rfl, trivial⟩)
def fJ7_fill_d0a16_6b (N : Nat) (k0 : Nat) (K6 : xW → Int64 → Int32 → Int32 → Option xW) (w : xW) (x1 : Int64) (x3 : Int32) (x4 : Int32) : Option xW :=
  if x4 ≤ x3 then
    some w
  else
  if ibd x3 40 = true then
  K6 (sL w (48 + 2 * k0) x3.toNatClampNeg x1) x1 (x3 + 1) x4
  else none
def fJ7_fill_d0a16_6 (N : Nat) (k0 : Nat) : Nat → xW → Int64 → Int32 → Int32 → Option xW
  | 0, _, _, _, _ => none
  | n + 1, w, x1, x3, x4 => fJ7_fill_d0a16_6b N k0 (fJ7_fill_d0a16_6 N k0 n) w x1 x3 x4
def fJ7_fill_d0a16_0 (N : Nat) (k0 : Nat) (w : xW) (x1 : Int64) : Option xW :=
  fJ7_fill_d0a16_6 N k0 N w x1 0 40
def fJ7_fill_d0a16 (N : Nat) (w : xW) (k0 : Nat) (x1 : Int64) : Option xW := if k0 < 4 then fJ7_fill_d0a16_0 N k0 w x1 else none
set_option maxRecDepth 100000 in
set_option maxHeartbeats 4000000 in
theorem bJ7_fill_d0a16_6b {Γ : xΓ} (C : xOK Γ cJ7_fill_d0a16 RJ7 1) (hL : xn Γ = 5) {N : Nat} {k0 : Nat} {K6 : xW → Int64 → Int32 → Int32 → Option xW} {w : xW} {x1 : Int64} {x3 : Int32} {x4 : Int32} {r : xW} (hk0 : k0 < 4) (E : xEnd Γ none r none) (hK6 : ∀ (w : xW) (x1 : Int64) (x3 : Int32) (x4 : Int32), K6 w x1 x3 x4 = some r → xG Γ w 6 [(0, .ref (xad Γ (48 + 2 * k0))), (1, .long x1), (3, .int x3), (4, .int x4)] []) (h : fJ7_fill_d0a16_6b N k0 K6 w x1 x3 x4 = some r) : xG Γ w 6 [(0, .ref (xad Γ (48 + 2 * k0))), (1, .long x1), (3, .int x3), (4, .int x4)] [] := by
  unfold fJ7_fill_d0a16_6b at h
  refine xr_iload_n C 6 rfl dJ7_fill_d0a16_6 ?_
  refine xr_iload C 7 rfl dJ7_fill_d0a16_7 ?_
  refine xr_icmp_ge C 9 22 dJ7_fill_d0a16_9 rfl (fun q => ?_) (fun q => ?_)
  · have h := g_it h q
    cases h
    exact xr_vret C 22 E dJ7_fill_d0a16_22
  · have h := g_if h q
    refine xr_aload_n C 12 rfl dJ7_fill_d0a16_12 ?_
    refine xr_iload_n C 13 rfl dJ7_fill_d0a16_13 ?_
    refine xr_lload_n C 14 rfl dJ7_fill_d0a16_14 ?_
    obtain ⟨q1, h⟩ := g_ib h
    refine xr_last C 15 x3.toNatClampNeg rfl dJ7_fill_d0a16_15 (xsh_sa hk0) (ibd_in q1) ?_
    refine xr_iinc C 16 1 (by decide +kernel) rfl dJ7_fill_d0a16_16 (xnb hL rfl) ?_
    refine xr_goto C 19 6 dJ7_fill_d0a16_19 rfl ?_
    exact xG.sub (hK6 _ _ _ _ h) ⟨rfl, rfl, rfl, rfl, trivial⟩
set_option maxRecDepth 100000 in
set_option maxHeartbeats 4000000 in
theorem bJ7_fill_d0a16_6 {Γ : xΓ} (C : xOK Γ cJ7_fill_d0a16 RJ7 1) (hL : xn Γ = 5) {N : Nat} {k0 : Nat} {r : xW} (hk0 : k0 < 4) (E : xEnd Γ none r none) : ∀ (n : Nat) (w : xW) (x1 : Int64) (x3 : Int32) (x4 : Int32), fJ7_fill_d0a16_6 N k0 n w x1 x3 x4 = some r → xG Γ w 6 [(0, .ref (xad Γ (48 + 2 * k0))), (1, .long x1), (3, .int x3), (4, .int x4)] []
  | 0, _, _, _, _, h => by cases h
  | n + 1, w, x1, x3, x4, h => bJ7_fill_d0a16_6b C hL hk0 E (bJ7_fill_d0a16_6 C hL hk0 E n) h
set_option maxRecDepth 100000 in
set_option maxHeartbeats 4000000 in
theorem bJ7_fill_d0a16_0 {Γ : xΓ} (C : xOK Γ cJ7_fill_d0a16 RJ7 1) (hL : xn Γ = 5) {N : Nat} {k0 : Nat} {w : xW} {x1 : Int64} {r : xW} (hk0 : k0 < 4) (E : xEnd Γ none r none) (h : fJ7_fill_d0a16_0 N k0 w x1 = some r) : xG Γ w 0 [(0, .ref (xad Γ (48 + 2 * k0))), (1, .long x1)] [] := by
  unfold fJ7_fill_d0a16_0 at h
  refine xr_iconst C 0 0 (by decide +kernel) dJ7_fill_d0a16_0 ?_
  refine xr_istore_n C 1 dJ7_fill_d0a16_1 (xnb hL rfl) ?_
  refine xr_aload_n C 2 rfl dJ7_fill_d0a16_2 ?_
  refine xr_alen_l C 3 40 (by decide +kernel) dJ7_fill_d0a16_3 (xsh_sa hk0) ?_
  refine xr_istore C 4 dJ7_fill_d0a16_4 (xnb hL rfl) ?_
  exact xG.sub (bJ7_fill_d0a16_6 C hL hk0 E N _ _ _ _ h) ⟨rfl, rfl, rfl, rfl, trivial⟩
set_option maxRecDepth 100000 in
set_option maxHeartbeats 4000000 in
theorem mJ7_fill_d0a16 {l : Launch} {ad : Nat → Nat} {G : gEnv} {N : Nat} {w : xW} {k0 : Nat} {x1 : Int64} {r : xW} (h : fJ7_fill_d0a16 N w k0 x1 = some r) : xCt l ad G 1 yJ7_fill_d0a16 cJ7_fill_d0a16 5 none [.ref (ad (48 + 2 * k0)), .long x1] w r none := xCt.of RJ7 rfl (by decide +kernel) (Nat.le_of_ble_eq_true rfl) (fun Γ el ea eG eL C E => by
    subst el
    subst ea
    subst eG
    unfold fJ7_fill_d0a16 at h
    obtain ⟨hk0, h⟩ := g_lt h
    exact xG.sub (bJ7_fill_d0a16_0 C eL hk0 E h) ⟨rfl, rfl, trivial⟩)
def fX2_lay_23 (N : Nat) (k0 : Nat) (w : xW) (s0 : Int32) : Option (xW × Int32) :=
  some (sI w (47 + 2 * k0) 1 s0, (sI w (47 + 2 * k0) 1 s0).1 (47 + 2 * k0) 1)
def fX2_lay_0 (N : Nat) (k0 : Nat) (w : xW) (x1 : Int32) (x2 : Int32) : Option (xW × Int32) :=
  (fJ7_fill_d0a16 N w k0 0).bind fun z1 =>
  if x1 = 0 then
    fX2_lay_23 N k0 (sI z1 (47 + 2 * k0) 0 x1) 0
  else
  fX2_lay_23 N k0 (sI z1 (47 + 2 * k0) 0 x1) x2
def fX2_lay (N : Nat) (w : xW) (k0 : Nat) (x1 : Int32) (x2 : Int32) : Option (xW × Int32) := if k0 < 4 then fX2_lay_0 N k0 w x1 x2 else none
set_option maxRecDepth 100000 in
set_option maxHeartbeats 4000000 in
theorem bX2_lay_23 {Γ : xΓ} (C : xOK Γ cX2_lay RX2 2) (hL : xn Γ = 3) {N : Nat} {k0 : Nat} {w : xW} {s0 : Int32} {r : xW × Int32} (hk0 : k0 < 4) (E : xEnd Γ (some .int) r.1 (some (.int r.2))) (h : fX2_lay_23 N k0 w s0 = some r) : xG Γ w 23 [(0, .ref (xad Γ (47 + 2 * k0)))] [.int s0, .ref (xad Γ (47 + 2 * k0))] := by
  unfold fX2_lay_23 at h
  refine xr_putI C 23 dX2_lay_23 fp_X2_13 (xsh_so hk0) rfl ?_
  refine xr_aload_n C 26 rfl dX2_lay_26 ?_
  refine xr_getI C 27 dX2_lay_27 fl_X2_13 (xsh_so hk0) rfl ?_
  cases h
  exact xr_iret C 30 E dX2_lay_30
set_option maxRecDepth 100000 in
set_option maxHeartbeats 4000000 in
theorem bX2_lay_0 {Γ : xΓ} (C : xOK Γ cX2_lay RX2 2) (hL : xn Γ = 3) {N : Nat} {k0 : Nat} {w : xW} {x1 : Int32} {x2 : Int32} {r : xW × Int32} (hk0 : k0 < 4) (E : xEnd Γ (some .int) r.1 (some (.int r.2))) (h : fX2_lay_0 N k0 w x1 x2 = some r) : xG Γ w 0 [(0, .ref (xad Γ (47 + 2 * k0))), (1, .int x1), (2, .int x2)] [] := by
  unfold fX2_lay_0 at h
  refine xr_aload_n C 0 rfl dX2_lay_0 ?_
  refine xr_getR C 1 dX2_lay_1 fl_X2_16 (xsh_so hk0) rfl ?_
  refine xr_lconst C 4 0 (by decide +kernel) dX2_lay_4 ?_
  obtain ⟨z1, q2, h⟩ := g_bind h
  refine xr_callS C 5 (mJ7_fill_d0a16 q2) v_J7_fill_d0a16 ml_X2_20 (Nat.le_of_ble_eq_true rfl) (Nat.le_of_ble_eq_true rfl) rfl rfl (Nat.le_of_ble_eq_true rfl) rfl dX2_lay_5 ?_
  refine xr_aload_n C 8 rfl dX2_lay_8 ?_
  refine xr_iload_n C 9 rfl dX2_lay_9 ?_
  refine xr_putI C 10 dX2_lay_10 fp_X2_7 (xsh_so hk0) rfl ?_
  refine xr_aload_n C 13 rfl dX2_lay_13 ?_
  refine xr_iload_n C 14 rfl dX2_lay_14 ?_
  refine xr_if_ne C 15 22 dX2_lay_15 rfl (fun q => ?_) (fun q => ?_)
  · have h := g_if h q
    refine xr_iload_n C 22 rfl dX2_lay_22 ?_
    exact xG.sub (bX2_lay_23 C hL hk0 E h) ⟨rfl, trivial⟩
  · have h := g_it h q
    refine xr_iconst C 18 0 (by decide +kernel) dX2_lay_18 ?_
    refine xr_goto C 19 23 dX2_lay_19 rfl ?_
    exact xG.sub (bX2_lay_23 C hL hk0 E h) ⟨rfl, trivial⟩
set_option maxRecDepth 100000 in
set_option maxHeartbeats 4000000 in
theorem mX2_lay {l : Launch} {ad : Nat → Nat} {G : gEnv} {N : Nat} {w : xW} {k0 : Nat} {x1 : Int32} {x2 : Int32} {r : xW × Int32} (h : fX2_lay N w k0 x1 x2 = some r) : xCt l ad G 2 yX2_lay cX2_lay 3 (some .int) [.ref (ad (47 + 2 * k0)), .int x1, .int x2] w r.1 (some (.int r.2)) := xCt.of RX2 rfl (by decide +kernel) (Nat.le_of_ble_eq_true rfl) (fun Γ el ea eG eL C E => by
    subst el
    subst ea
    subst eG
    unfold fX2_lay at h
    obtain ⟨hk0, h⟩ := g_lt h
    exact xG.sub (bX2_lay_0 C eL hk0 E h) ⟨rfl, rfl, rfl, trivial⟩)
def fX7_sheet_14 (N : Nat) (w : xW) : Option (xW × Int32) :=
  (fX7_refuse w (-1000000001)).bind fun z8 =>
  some (z8.1, z8.2)
def fX7_sheet_0 (N : Nat) (w : xW) (x1 : Int32) (x2 : Int32) (x3 : Int32) : Option (xW × Int32) :=
  if (fX7_isSheet x1) = 0 then
    fX7_sheet_14 N w
  else
  if (fX2_mayBe x2) = 0 then
    fX7_sheet_14 N w
  else
  if 0 ≤ x3 then
    if x3 ≤ 40 then
      if ibd x1 4 = true then
      (fX2_lay N w x1.toNatClampNeg x2 x3).bind fun z2 =>
      some (z2.1, z2.2)
      else none
    else
    (fX7_refuse w (-1000000001)).bind fun z4 =>
    some (z4.1, z4.2)
  else
  (fX7_refuse w (-1000000007)).bind fun z6 =>
  some (z6.1, z6.2)
def fX7_sheet (N : Nat) (w : xW) (x1 : Int32) (x2 : Int32) (x3 : Int32) : Option (xW × Int32) := fX7_sheet_0 N w x1 x2 x3
set_option maxRecDepth 100000 in
set_option maxHeartbeats 4000000 in
theorem bX7_sheet_14 {Γ : xΓ} (C : xOK Γ cX7_sheet RX7 3) (hL : xn Γ = 4) {N : Nat} {w : xW} {r : xW × Int32} (E : xEnd Γ (some .int) r.1 (some (.int r.2))) (h : fX7_sheet_14 N w = some r) : xG Γ w 14 [(0, .ref (xad Γ 0))] [] := by
  unfold fX7_sheet_14 at h
  refine xr_aload_n C 14 rfl dX7_sheet_14 ?_
  refine xr_ldc C 15 k_X7_69 dX7_sheet_15 ?_
  obtain ⟨z8, q9, h⟩ := g_bind h
  refine xr_callV C 17 (mX7_refuse q9) v_X7_refuse ml_X7_70 (Nat.le_of_ble_eq_true rfl) (Nat.le_of_ble_eq_true rfl) (xrecv C rfl rfl) rfl rfl (Nat.le_of_ble_eq_true rfl) rfl dX7_sheet_17 ?_
  cases h
  exact xr_iret C 20 E dX7_sheet_20
set_option maxRecDepth 100000 in
set_option maxHeartbeats 4000000 in
theorem bX7_sheet_0 {Γ : xΓ} (C : xOK Γ cX7_sheet RX7 3) (hL : xn Γ = 4) {N : Nat} {w : xW} {x1 : Int32} {x2 : Int32} {x3 : Int32} {r : xW × Int32} (E : xEnd Γ (some .int) r.1 (some (.int r.2))) (h : fX7_sheet_0 N w x1 x2 x3 = some r) : xG Γ w 0 [(0, .ref (xad Γ 0)), (1, .int x1), (2, .int x2), (3, .int x3)] [] := by
  unfold fX7_sheet_0 at h
  refine xr_iload_n C 0 rfl dX7_sheet_0 ?_
  refine xr_callS C 1 (mX7_isSheet rfl) v_X7_isSheet ml_X7_243 (Nat.le_of_ble_eq_true rfl) (Nat.le_of_ble_eq_true rfl) rfl rfl (Nat.le_of_ble_eq_true rfl) rfl dX7_sheet_1 ?_
  refine xr_if_eq C 4 14 dX7_sheet_4 rfl (fun q => ?_) (fun q => ?_)
  · have h := g_it h q
    exact xG.sub (bX7_sheet_14 C hL E h) ⟨rfl, trivial⟩
  · have h := g_if h q
    refine xr_iload_n C 7 rfl dX7_sheet_7 ?_
    refine xr_callS C 8 (mX2_mayBe rfl) v_X2_mayBe ml_X7_246 (Nat.le_of_ble_eq_true rfl) (Nat.le_of_ble_eq_true rfl) rfl rfl (Nat.le_of_ble_eq_true rfl) rfl dX7_sheet_8 ?_
    refine xr_if_ne C 11 21 dX7_sheet_11 rfl (fun q => ?_) (fun q => ?_)
    · have h := g_if h q
      refine xr_iload_n C 21 rfl dX7_sheet_21 ?_
      refine xr_if_ge C 22 32 dX7_sheet_22 rfl (fun q => ?_) (fun q => ?_)
      · have h := g_it h q
        refine xr_iload_n C 32 rfl dX7_sheet_32 ?_
        refine xr_bipush C 33 40 (by decide +kernel) dX7_sheet_33 ?_
        refine xr_icmp_le C 35 45 dX7_sheet_35 rfl (fun q => ?_) (fun q => ?_)
        · have h := g_it h q
          refine xr_aload_n C 45 rfl dX7_sheet_45 ?_
          refine xr_getR C 46 dX7_sheet_46 fl_X7_54 rfl rfl ?_
          refine xr_iload_n C 49 rfl dX7_sheet_49 ?_
          obtain ⟨q1, h⟩ := g_ib h
          refine xr_aaldS C 50 dX7_sheet_50 rfl (ibd_in q1) ?_
          refine xr_iload_n C 51 rfl dX7_sheet_51 ?_
          refine xr_iload_n C 52 rfl dX7_sheet_52 ?_
          obtain ⟨z2, q3, h⟩ := g_bind h
          refine xr_callV C 53 (mX2_lay q3) v_X2_lay ml_X7_249 (Nat.le_of_ble_eq_true rfl) (Nat.le_of_ble_eq_true rfl) (xrecv C (xsh_so (ibd_lt q1)) rfl) rfl rfl (Nat.le_of_ble_eq_true rfl) rfl dX7_sheet_53 ?_
          cases h
          exact xr_iret C 56 E dX7_sheet_56
        · have h := g_if h q
          refine xr_aload_n C 38 rfl dX7_sheet_38 ?_
          refine xr_ldc C 39 k_X7_69 dX7_sheet_39 ?_
          obtain ⟨z4, q5, h⟩ := g_bind h
          refine xr_callV C 41 (mX7_refuse q5) v_X7_refuse ml_X7_70 (Nat.le_of_ble_eq_true rfl) (Nat.le_of_ble_eq_true rfl) (xrecv C rfl rfl) rfl rfl (Nat.le_of_ble_eq_true rfl) rfl dX7_sheet_41 ?_
          cases h
          exact xr_iret C 44 E dX7_sheet_44
      · have h := g_if h q
        refine xr_aload_n C 25 rfl dX7_sheet_25 ?_
        refine xr_ldc C 26 k_X7_248 dX7_sheet_26 ?_
        obtain ⟨z6, q7, h⟩ := g_bind h
        refine xr_callV C 28 (mX7_refuse q7) v_X7_refuse ml_X7_70 (Nat.le_of_ble_eq_true rfl) (Nat.le_of_ble_eq_true rfl) (xrecv C rfl rfl) rfl rfl (Nat.le_of_ble_eq_true rfl) rfl dX7_sheet_28 ?_
        cases h
        exact xr_iret C 31 E dX7_sheet_31
    · have h := g_it h q
      exact xG.sub (bX7_sheet_14 C hL E h) ⟨rfl, trivial⟩
set_option maxRecDepth 100000 in
set_option maxHeartbeats 4000000 in
theorem mX7_sheet {l : Launch} {ad : Nat → Nat} {G : gEnv} {N : Nat} {w : xW} {x1 : Int32} {x2 : Int32} {x3 : Int32} {r : xW × Int32} (h : fX7_sheet N w x1 x2 x3 = some r) : xCt l ad G 3 yX7_sheet cX7_sheet 4 (some .int) [.ref (ad 0), .int x1, .int x2, .int x3] w r.1 (some (.int r.2)) := xCt.of RX7 rfl (by decide +kernel) (Nat.le_of_ble_eq_true rfl) (fun Γ el ea eG eL C E => by
    subst el
    subst ea
    subst eG
    unfold fX7_sheet at h
    exact xG.sub (bX7_sheet_0 C eL  E h) ⟨rfl, rfl, rfl, rfl, trivial⟩)
def fX8_isSheet_0 (x0 : Int32) : Int32 :=
  (fX8_within x0 0 3)
def fX8_isSheet (x0 : Int32) : Int32 := fX8_isSheet_0 x0
theorem xb_fX8_isSheet {x0 : Int32} : xB (fX8_isSheet x0) = true := by
  unfold fX8_isSheet fX8_isSheet_0
  repeat' split
  all_goals first | rfl | exact xb_fX8_within
set_option maxRecDepth 100000 in
set_option maxHeartbeats 4000000 in
theorem bX8_isSheet_0 {Γ : xΓ} (C : xOK Γ cX8_isSheet RX8 2) (hL : xn Γ = 1) {w : xW} {x0 : Int32} {r : Int32} (E : xEnd Γ (some .boolean) w (some (.int r))) (h : fX8_isSheet_0  x0 = r) : xG Γ w 0 [(0, .int x0)] [] := by
  unfold fX8_isSheet_0 at h
  refine xr_iload_n C 0 rfl dX8_isSheet_0 ?_
  refine xr_iconst C 1 0 (by decide +kernel) dX8_isSheet_1 ?_
  refine xr_iconst C 2 3 (by decide +kernel) dX8_isSheet_2 ?_
  refine xr_callS C 3 (mX8_within rfl) v_X8_within ml_X8_121 (Nat.le_of_ble_eq_true rfl) (Nat.le_of_ble_eq_true rfl) rfl rfl (Nat.le_of_ble_eq_true rfl) rfl dX8_isSheet_3 ?_
  cases h
  exact xr_zret C 6 E dX8_isSheet_6 (xb_fX8_within)
set_option maxRecDepth 100000 in
set_option maxHeartbeats 4000000 in
theorem mX8_isSheet {l : Launch} {ad : Nat → Nat} {G : gEnv} {w : xW} {x0 : Int32} {r : Int32} (h : fX8_isSheet x0 = r) : xCt l ad G 2 yX8_isSheet cX8_isSheet 1 (some .boolean) [.int x0] w w (some (.int r)) := xCt.of RX8 rfl (by decide +kernel) (Nat.le_of_ble_eq_true rfl) (fun Γ el ea eG eL C E => by
    subst el
    subst ea
    subst eG
    unfold fX8_isSheet at h
    exact xG.sub (bX8_isSheet_0 C eL  E h) ⟨rfl, trivial⟩)
def fX8_sheet_29 (N : Nat) (w : xW) : Option (xW × Int32) :=
  (fX8_finding w (-1000000001)).bind fun z9 =>
  some (z9.1, z9.2)
def fX8_sheet_86b (N : Nat) (K86 : xW → Int32 → Int32 → Option (xW × Int32)) (w : xW) (x1 : Int32) (x4 : Int32) : Option (xW × Int32) :=
  if 40 ≤ x4 then
    if ibd x1 4 = true then
    some (w, w.1 75 x1.toNatClampNeg)
    else none
  else
  if ibd ((40 * x1) + x4) 160 = true then
  K86 (sL w 76 (((40 * x1) + x4).toNatClampNeg) 0) x1 (x4 + 1)
  else none
def fX8_sheet_86 (N : Nat) : Nat → xW → Int32 → Int32 → Option (xW × Int32)
  | 0, _, _, _ => none
  | n + 1, w, x1, x4 => fX8_sheet_86b N (fX8_sheet_86 N n) w x1 x4
def fX8_sheet_82 (N : Nat) (w : xW) (x1 : Int32) (s0 : Int32) (s1 : Int32) : Option (xW × Int32) :=
  if ibd s1 4 = true then
  fX8_sheet_86 N N (sI w 75 s1.toNatClampNeg s0) x1 0
  else none
def fX8_sheet_36 (N : Nat) (w : xW) (x1 : Int32) (x2 : Int32) (x3 : Int32) : Option (xW × Int32) :=
  if 0 ≤ x3 then
    if x3 ≤ 40 then
      if ibd x1 4 = true then
      if x2 = 0 then
        fX8_sheet_82 N (sI w 74 x1.toNatClampNeg x2) x1 0 x1
      else
      fX8_sheet_82 N (sI w 74 x1.toNatClampNeg x2) x1 x3 x1
      else none
    else
    (fX8_finding w (-1000000001)).bind fun z2 =>
    some (z2.1, z2.2)
  else
  (fX8_finding w (-1000000007)).bind fun z4 =>
  some (z4.1, z4.2)
def fX8_sheet_0 (N : Nat) (w : xW) (x1 : Int32) (x2 : Int32) (x3 : Int32) : Option (xW × Int32) :=
  if (fX8_isSheet x1) = 0 then
    fX8_sheet_29 N w
  else
  if x2 = 0 then
    fX8_sheet_36 N w x1 x2 x3
  else
  if x2 = 8 then
    fX8_sheet_36 N w x1 x2 x3
  else
  if x2 = 16 then
    fX8_sheet_36 N w x1 x2 x3
  else
  if x2 = 64 then
    fX8_sheet_36 N w x1 x2 x3
  else
  fX8_sheet_29 N w
def fX8_sheet (N : Nat) (w : xW) (x1 : Int32) (x2 : Int32) (x3 : Int32) : Option (xW × Int32) := fX8_sheet_0 N w x1 x2 x3
set_option maxRecDepth 100000 in
set_option maxHeartbeats 4000000 in
theorem bX8_sheet_29 {Γ : xΓ} (C : xOK Γ cX8_sheet RX8 3) (hL : xn Γ = 5) {N : Nat} {w : xW} {r : xW × Int32} (E : xEnd Γ (some .int) r.1 (some (.int r.2))) (h : fX8_sheet_29 N w = some r) : xG Γ w 29 [(0, .ref (xad Γ 55))] [] := by
  unfold fX8_sheet_29 at h
  refine xr_aload_n C 29 rfl dX8_sheet_29 ?_
  refine xr_ldc C 30 k_X8_98 dX8_sheet_30 ?_
  obtain ⟨z9, q10, h⟩ := g_bind h
  refine xr_callV C 32 (mX8_finding q10) v_X8_finding ml_X8_125 (Nat.le_of_ble_eq_true rfl) (Nat.le_of_ble_eq_true rfl) (xrecv C rfl rfl) rfl rfl (Nat.le_of_ble_eq_true rfl) rfl dX8_sheet_32 ?_
  cases h
  exact xr_iret C 35 E dX8_sheet_35
set_option maxRecDepth 100000 in
set_option maxHeartbeats 4000000 in
theorem bX8_sheet_86b {Γ : xΓ} (C : xOK Γ cX8_sheet RX8 3) (hL : xn Γ = 5) {N : Nat} {K86 : xW → Int32 → Int32 → Option (xW × Int32)} {w : xW} {x1 : Int32} {x4 : Int32} {r : xW × Int32} (E : xEnd Γ (some .int) r.1 (some (.int r.2))) (hK86 : ∀ (w : xW) (x1 : Int32) (x4 : Int32), K86 w x1 x4 = some r → xG Γ w 86 [(0, .ref (xad Γ 55)), (1, .int x1), (4, .int x4)] []) (h : fX8_sheet_86b N K86 w x1 x4 = some r) : xG Γ w 86 [(0, .ref (xad Γ 55)), (1, .int x1), (4, .int x4)] [] := by
  unfold fX8_sheet_86b at h
  refine xr_iload C 86 rfl dX8_sheet_86 ?_
  refine xr_bipush C 88 40 (by decide +kernel) dX8_sheet_88 ?_
  refine xr_icmp_ge C 90 112 dX8_sheet_90 rfl (fun q => ?_) (fun q => ?_)
  · have h := g_it h q
    refine xr_aload_n C 112 rfl dX8_sheet_112 ?_
    refine xr_getR C 113 dX8_sheet_113 fl_X8_88 rfl rfl ?_
    refine xr_iload_n C 116 rfl dX8_sheet_116 ?_
    obtain ⟨q7, h⟩ := g_ib h
    refine xr_iald C 117 x1.toNatClampNeg rfl dX8_sheet_117 rfl (ibd_in q7) ?_
    cases h
    exact xr_iret C 118 E dX8_sheet_118
  · have h := g_if h q
    refine xr_aload_n C 93 rfl dX8_sheet_93 ?_
    refine xr_getR C 94 dX8_sheet_94 fl_X8_91 rfl rfl ?_
    refine xr_bipush C 97 40 (by decide +kernel) dX8_sheet_97 ?_
    refine xr_iload_n C 99 rfl dX8_sheet_99 ?_
    refine xr_imul C 100 dX8_sheet_100 ?_
    refine xr_iload C 101 rfl dX8_sheet_101 ?_
    refine xr_iadd C 103 dX8_sheet_103 ?_
    refine xr_lconst C 104 0 (by decide +kernel) dX8_sheet_104 ?_
    obtain ⟨q8, h⟩ := g_ib h
    refine xr_last C 105 (((40 * x1) + x4).toNatClampNeg) rfl dX8_sheet_105 rfl (ibd_in q8) ?_
    refine xr_iinc C 106 1 (by decide +kernel) rfl dX8_sheet_106 (xnb hL rfl) ?_
    refine xr_goto C 109 86 dX8_sheet_109 rfl ?_
    exact xG.sub (hK86 _ _ _ h) ⟨rfl, rfl, rfl, trivial⟩
set_option maxRecDepth 100000 in
set_option maxHeartbeats 4000000 in
theorem bX8_sheet_86 {Γ : xΓ} (C : xOK Γ cX8_sheet RX8 3) (hL : xn Γ = 5) {N : Nat} {r : xW × Int32} (E : xEnd Γ (some .int) r.1 (some (.int r.2))) : ∀ (n : Nat) (w : xW) (x1 : Int32) (x4 : Int32), fX8_sheet_86 N n w x1 x4 = some r → xG Γ w 86 [(0, .ref (xad Γ 55)), (1, .int x1), (4, .int x4)] []
  | 0, _, _, _, h => by cases h
  | n + 1, w, x1, x4, h => bX8_sheet_86b C hL E (bX8_sheet_86 C hL E n) h
set_option maxRecDepth 100000 in
set_option maxHeartbeats 4000000 in
theorem bX8_sheet_82 {Γ : xΓ} (C : xOK Γ cX8_sheet RX8 3) (hL : xn Γ = 5) {N : Nat} {w : xW} {x1 : Int32} {s0 : Int32} {s1 : Int32} {r : xW × Int32} (E : xEnd Γ (some .int) r.1 (some (.int r.2))) (h : fX8_sheet_82 N w x1 s0 s1 = some r) : xG Γ w 82 [(0, .ref (xad Γ 55)), (1, .int x1)] [.int s0, .int s1, .ref (xad Γ 75)] := by
  unfold fX8_sheet_82 at h
  obtain ⟨q6, h⟩ := g_ib h
  refine xr_iast C 82 s1.toNatClampNeg rfl dX8_sheet_82 rfl (ibd_in q6) ?_
  refine xr_iconst C 83 0 (by decide +kernel) dX8_sheet_83 ?_
  refine xr_istore C 84 dX8_sheet_84 (xnb hL rfl) ?_
  exact xG.sub (bX8_sheet_86 C hL E N _ _ _ h) ⟨rfl, rfl, rfl, trivial⟩
set_option maxRecDepth 100000 in
set_option maxHeartbeats 4000000 in
theorem bX8_sheet_36 {Γ : xΓ} (C : xOK Γ cX8_sheet RX8 3) (hL : xn Γ = 5) {N : Nat} {w : xW} {x1 : Int32} {x2 : Int32} {x3 : Int32} {r : xW × Int32} (E : xEnd Γ (some .int) r.1 (some (.int r.2))) (h : fX8_sheet_36 N w x1 x2 x3 = some r) : xG Γ w 36 [(0, .ref (xad Γ 55)), (1, .int x1), (2, .int x2), (3, .int x3)] [] := by
  unfold fX8_sheet_36 at h
  refine xr_iload_n C 36 rfl dX8_sheet_36 ?_
  refine xr_if_ge C 37 48 dX8_sheet_37 rfl (fun q => ?_) (fun q => ?_)
  · have h := g_it h q
    refine xr_iload_n C 48 rfl dX8_sheet_48 ?_
    refine xr_bipush C 49 40 (by decide +kernel) dX8_sheet_49 ?_
    refine xr_icmp_le C 51 61 dX8_sheet_51 rfl (fun q => ?_) (fun q => ?_)
    · have h := g_it h q
      refine xr_aload_n C 61 rfl dX8_sheet_61 ?_
      refine xr_getR C 62 dX8_sheet_62 fl_X8_85 rfl rfl ?_
      refine xr_iload_n C 65 rfl dX8_sheet_65 ?_
      refine xr_iload_n C 66 rfl dX8_sheet_66 ?_
      obtain ⟨q1, h⟩ := g_ib h
      refine xr_iast C 67 x1.toNatClampNeg rfl dX8_sheet_67 rfl (ibd_in q1) ?_
      refine xr_aload_n C 68 rfl dX8_sheet_68 ?_
      refine xr_getR C 69 dX8_sheet_69 fl_X8_88 rfl rfl ?_
      refine xr_iload_n C 72 rfl dX8_sheet_72 ?_
      refine xr_iload_n C 73 rfl dX8_sheet_73 ?_
      refine xr_if_ne C 74 81 dX8_sheet_74 rfl (fun q => ?_) (fun q => ?_)
      · have h := g_if h q
        refine xr_iload_n C 81 rfl dX8_sheet_81 ?_
        exact xG.sub (bX8_sheet_82 C hL E h) ⟨rfl, rfl, trivial⟩
      · have h := g_it h q
        refine xr_iconst C 77 0 (by decide +kernel) dX8_sheet_77 ?_
        refine xr_goto C 78 82 dX8_sheet_78 rfl ?_
        exact xG.sub (bX8_sheet_82 C hL E h) ⟨rfl, rfl, trivial⟩
    · have h := g_if h q
      refine xr_aload_n C 54 rfl dX8_sheet_54 ?_
      refine xr_ldc C 55 k_X8_98 dX8_sheet_55 ?_
      obtain ⟨z2, q3, h⟩ := g_bind h
      refine xr_callV C 57 (mX8_finding q3) v_X8_finding ml_X8_125 (Nat.le_of_ble_eq_true rfl) (Nat.le_of_ble_eq_true rfl) (xrecv C rfl rfl) rfl rfl (Nat.le_of_ble_eq_true rfl) rfl dX8_sheet_57 ?_
      cases h
      exact xr_iret C 60 E dX8_sheet_60
  · have h := g_if h q
    refine xr_aload_n C 40 rfl dX8_sheet_40 ?_
    refine xr_ldcw C 41 k_X8_319 dX8_sheet_41 ?_
    obtain ⟨z4, q5, h⟩ := g_bind h
    refine xr_callV C 44 (mX8_finding q5) v_X8_finding ml_X8_125 (Nat.le_of_ble_eq_true rfl) (Nat.le_of_ble_eq_true rfl) (xrecv C rfl rfl) rfl rfl (Nat.le_of_ble_eq_true rfl) rfl dX8_sheet_44 ?_
    cases h
    exact xr_iret C 47 E dX8_sheet_47
set_option maxRecDepth 100000 in
set_option maxHeartbeats 4000000 in
theorem bX8_sheet_0 {Γ : xΓ} (C : xOK Γ cX8_sheet RX8 3) (hL : xn Γ = 5) {N : Nat} {w : xW} {x1 : Int32} {x2 : Int32} {x3 : Int32} {r : xW × Int32} (E : xEnd Γ (some .int) r.1 (some (.int r.2))) (h : fX8_sheet_0 N w x1 x2 x3 = some r) : xG Γ w 0 [(0, .ref (xad Γ 55)), (1, .int x1), (2, .int x2), (3, .int x3)] [] := by
  unfold fX8_sheet_0 at h
  refine xr_iload_n C 0 rfl dX8_sheet_0 ?_
  refine xr_callS C 1 (mX8_isSheet rfl) v_X8_isSheet ml_X8_316 (Nat.le_of_ble_eq_true rfl) (Nat.le_of_ble_eq_true rfl) rfl rfl (Nat.le_of_ble_eq_true rfl) rfl dX8_sheet_1 ?_
  refine xr_if_eq C 4 29 dX8_sheet_4 rfl (fun q => ?_) (fun q => ?_)
  · have h := g_it h q
    exact xG.sub (bX8_sheet_29 C hL E h) ⟨rfl, trivial⟩
  · have h := g_if h q
    refine xr_iload_n C 7 rfl dX8_sheet_7 ?_
    refine xr_if_eq C 8 36 dX8_sheet_8 rfl (fun q => ?_) (fun q => ?_)
    · have h := g_it h q
      exact xG.sub (bX8_sheet_36 C hL E h) ⟨rfl, rfl, rfl, rfl, trivial⟩
    · have h := g_if h q
      refine xr_iload_n C 11 rfl dX8_sheet_11 ?_
      refine xr_bipush C 12 8 (by decide +kernel) dX8_sheet_12 ?_
      refine xr_icmp_eq C 14 36 dX8_sheet_14 rfl (fun q => ?_) (fun q => ?_)
      · have h := g_it h q
        exact xG.sub (bX8_sheet_36 C hL E h) ⟨rfl, rfl, rfl, rfl, trivial⟩
      · have h := g_if h q
        refine xr_iload_n C 17 rfl dX8_sheet_17 ?_
        refine xr_bipush C 18 16 (by decide +kernel) dX8_sheet_18 ?_
        refine xr_icmp_eq C 20 36 dX8_sheet_20 rfl (fun q => ?_) (fun q => ?_)
        · have h := g_it h q
          exact xG.sub (bX8_sheet_36 C hL E h) ⟨rfl, rfl, rfl, rfl, trivial⟩
        · have h := g_if h q
          refine xr_iload_n C 23 rfl dX8_sheet_23 ?_
          refine xr_bipush C 24 64 (by decide +kernel) dX8_sheet_24 ?_
          refine xr_icmp_eq C 26 36 dX8_sheet_26 rfl (fun q => ?_) (fun q => ?_)
          · have h := g_it h q
            exact xG.sub (bX8_sheet_36 C hL E h) ⟨rfl, rfl, rfl, rfl, trivial⟩
          · have h := g_if h q
            exact xG.sub (bX8_sheet_29 C hL E h) ⟨rfl, trivial⟩
set_option maxRecDepth 100000 in
set_option maxHeartbeats 4000000 in
theorem mX8_sheet {l : Launch} {ad : Nat → Nat} {G : gEnv} {N : Nat} {w : xW} {x1 : Int32} {x2 : Int32} {x3 : Int32} {r : xW × Int32} (h : fX8_sheet N w x1 x2 x3 = some r) : xCt l ad G 3 yX8_sheet cX8_sheet 5 (some .int) [.ref (ad 55), .int x1, .int x2, .int x3] w r.1 (some (.int r.2)) := xCt.of RX8 rfl (by decide +kernel) (Nat.le_of_ble_eq_true rfl) (fun Γ el ea eG eL C E => by
    subst el
    subst ea
    subst eG
    unfold fX8_sheet at h
    exact xG.sub (bX8_sheet_0 C eL  E h) ⟨rfl, rfl, rfl, rfl, trivial⟩)
def fX2_isMissing_0 (w : xW) (k0 : Nat) : Option Int32 :=
  if (w.1 (47 + 2 * k0) 0) = 0 then
    some 1
  else
  some 0
def fX2_isMissing (w : xW) (k0 : Nat) : Option Int32 := if k0 < 4 then fX2_isMissing_0 w k0 else none
set_option maxRecDepth 100000 in
set_option maxHeartbeats 4000000 in
theorem bX2_isMissing_0 {Γ : xΓ} (C : xOK Γ cX2_isMissing RX2 1) (hL : xn Γ = 1) {k0 : Nat} {w : xW} {r : Int32} (hk0 : k0 < 4) (E : xEnd Γ (some .boolean) w (some (.int r))) (h : fX2_isMissing_0 w k0  = some r) : xG Γ w 0 [(0, .ref (xad Γ (47 + 2 * k0)))] [] := by
  unfold fX2_isMissing_0 at h
  refine xr_aload_n C 0 rfl dX2_isMissing_0 ?_
  refine xr_getI C 1 dX2_isMissing_1 fl_X2_7 (xsh_so hk0) rfl ?_
  refine xr_if_ne C 4 11 dX2_isMissing_4 rfl (fun q => ?_) (fun q => ?_)
  · have h := g_if h q
    refine xr_iconst C 11 0 (by decide +kernel) dX2_isMissing_11 ?_
    cases h
    exact xr_zret C 12 E dX2_isMissing_12 (by decide +kernel)
  · have h := g_it h q
    refine xr_iconst C 7 1 (by decide +kernel) dX2_isMissing_7 ?_
    refine xr_goto C 8 12 dX2_isMissing_8 rfl ?_
    cases h
    exact xr_zret C 12 E dX2_isMissing_12 (by decide +kernel)
set_option maxRecDepth 100000 in
set_option maxHeartbeats 4000000 in
theorem mX2_isMissing {l : Launch} {ad : Nat → Nat} {G : gEnv} {w : xW} {k0 : Nat} {r : Int32} (h : fX2_isMissing w k0 = some r) : xCt l ad G 1 yX2_isMissing cX2_isMissing 1 (some .boolean) [.ref (ad (47 + 2 * k0))] w w (some (.int r)) := xCt.of RX2 rfl (by decide +kernel) (Nat.le_of_ble_eq_true rfl) (fun Γ el ea eG eL C E => by
    subst el
    subst ea
    subst eG
    unfold fX2_isMissing at h
    obtain ⟨hk0, h⟩ := g_lt h
    exact xG.sub (bX2_isMissing_0 C eL hk0 E h) ⟨rfl, trivial⟩)
def fX2_put_0 (k0 : Nat) (w : xW) (x1 : Int32) (x2 : Int64) : Option xW :=
  if (w.1 (47 + 2 * k0) 0) = 8 then
    if ibd x1 40 = true then
    some (sL w (48 + 2 * k0) x1.toNatClampNeg ((((x2 : Int64).toInt32 : Int32).toInt8.toInt32 : Int32).toInt64))
    else none
  else
  if (w.1 (47 + 2 * k0) 0) = 16 then
    if ibd x1 40 = true then
    some (sL w (48 + 2 * k0) x1.toNatClampNeg ((((x2 : Int64).toInt32 : Int32).toInt16.toInt32 : Int32).toInt64))
    else none
  else
  if ibd x1 40 = true then
  some (sL w (48 + 2 * k0) x1.toNatClampNeg x2)
  else none
def fX2_put (w : xW) (k0 : Nat) (x1 : Int32) (x2 : Int64) : Option xW := if k0 < 4 then fX2_put_0 k0 w x1 x2 else none
set_option maxRecDepth 100000 in
set_option maxHeartbeats 4000000 in
theorem bX2_put_0 {Γ : xΓ} (C : xOK Γ cX2_put RX2 1) (hL : xn Γ = 4) {k0 : Nat} {w : xW} {x1 : Int32} {x2 : Int64} {r : xW} (hk0 : k0 < 4) (E : xEnd Γ none r none) (h : fX2_put_0 k0 w x1 x2 = some r) : xG Γ w 0 [(0, .ref (xad Γ (47 + 2 * k0))), (1, .int x1), (2, .long x2)] [] := by
  unfold fX2_put_0 at h
  refine xr_aload_n C 0 rfl dX2_put_0 ?_
  refine xr_getI C 1 dX2_put_1 fl_X2_7 (xsh_so hk0) rfl ?_
  refine xr_bipush C 4 8 (by decide +kernel) dX2_put_4 ?_
  refine xr_icmp_ne C 6 22 dX2_put_6 rfl (fun q => ?_) (fun q => ?_)
  · have h := g_if h q
    refine xr_aload_n C 22 rfl dX2_put_22 ?_
    refine xr_getI C 23 dX2_put_23 fl_X2_7 (xsh_so hk0) rfl ?_
    refine xr_bipush C 26 16 (by decide +kernel) dX2_put_26 ?_
    refine xr_icmp_ne C 28 44 dX2_put_28 rfl (fun q => ?_) (fun q => ?_)
    · have h := g_if h q
      refine xr_aload_n C 44 rfl dX2_put_44 ?_
      refine xr_getR C 45 dX2_put_45 fl_X2_16 (xsh_so hk0) rfl ?_
      refine xr_iload_n C 48 rfl dX2_put_48 ?_
      refine xr_lload_n C 49 rfl dX2_put_49 ?_
      obtain ⟨q1, h⟩ := g_ib h
      refine xr_last C 50 x1.toNatClampNeg rfl dX2_put_50 (xsh_sa hk0) (ibd_in q1) ?_
      cases h
      exact xr_vret C 51 E dX2_put_51
    · have h := g_it h q
      refine xr_aload_n C 31 rfl dX2_put_31 ?_
      refine xr_getR C 32 dX2_put_32 fl_X2_16 (xsh_so hk0) rfl ?_
      refine xr_iload_n C 35 rfl dX2_put_35 ?_
      refine xr_lload_n C 36 rfl dX2_put_36 ?_
      refine xr_l2i C 37 dX2_put_37 ?_
      refine xr_i2s C 38 dX2_put_38 ?_
      refine xr_i2l C 39 dX2_put_39 ?_
      obtain ⟨q2, h⟩ := g_ib h
      refine xr_last C 40 x1.toNatClampNeg rfl dX2_put_40 (xsh_sa hk0) (ibd_in q2) ?_
      refine xr_goto C 41 51 dX2_put_41 rfl ?_
      cases h
      exact xr_vret C 51 E dX2_put_51
  · have h := g_it h q
    refine xr_aload_n C 9 rfl dX2_put_9 ?_
    refine xr_getR C 10 dX2_put_10 fl_X2_16 (xsh_so hk0) rfl ?_
    refine xr_iload_n C 13 rfl dX2_put_13 ?_
    refine xr_lload_n C 14 rfl dX2_put_14 ?_
    refine xr_l2i C 15 dX2_put_15 ?_
    refine xr_i2b C 16 dX2_put_16 ?_
    refine xr_i2l C 17 dX2_put_17 ?_
    obtain ⟨q3, h⟩ := g_ib h
    refine xr_last C 18 x1.toNatClampNeg rfl dX2_put_18 (xsh_sa hk0) (ibd_in q3) ?_
    refine xr_goto C 19 51 dX2_put_19 rfl ?_
    cases h
    exact xr_vret C 51 E dX2_put_51
set_option maxRecDepth 100000 in
set_option maxHeartbeats 4000000 in
theorem mX2_put {l : Launch} {ad : Nat → Nat} {G : gEnv} {w : xW} {k0 : Nat} {x1 : Int32} {x2 : Int64} {r : xW} (h : fX2_put w k0 x1 x2 = some r) : xCt l ad G 1 yX2_put cX2_put 4 none [.ref (ad (47 + 2 * k0)), .int x1, .long x2] w r none := xCt.of RX2 rfl (by decide +kernel) (Nat.le_of_ble_eq_true rfl) (fun Γ el ea eG eL C E => by
    subst el
    subst ea
    subst eG
    unfold fX2_put at h
    obtain ⟨hk0, h⟩ := g_lt h
    exact xG.sub (bX2_put_0 C eL hk0 E h) ⟨rfl, rfl, rfl, trivial⟩)
def fX7_write_53 (w : xW) : Option (xW × Int64) :=
  (fX7_refuse w (-1000000001)).bind fun z11 =>
  some (z11.1, (z11.2 : Int32).toInt64)
def fX7_write_0 (w : xW) (x1 : Int32) (x2 : Int32) (x3 : Int64) : Option (xW × Int64) :=
  if (fX7_isSheet x1) = 0 then
    (fX7_refuse w (-1000000001)).bind fun z9 =>
    some (z9.1, (z9.2 : Int32).toInt64)
  else
  if ibd x1 4 = true then
  (fX2_isMissing w x1.toNatClampNeg).bind fun z2 =>
  if z2 = 0 then
    if x2 < 0 then
      fX7_write_53 w
    else
    if x2 < (w.1 (47 + 2 * x1.toNatClampNeg) 1) then
      if ibd x2 40 = true then
      (fX2_put w x1.toNatClampNeg x2 x3).bind fun z5 =>
      some (z5, w.2 (48 + 2 * x1.toNatClampNeg) x2.toNatClampNeg)
      else none
    else
    fX7_write_53 w
  else
  (fX7_refuse w (-1000000006)).bind fun z7 =>
  some (z7.1, (z7.2 : Int32).toInt64)
  else none
def fX7_write (w : xW) (x1 : Int32) (x2 : Int32) (x3 : Int64) : Option (xW × Int64) := fX7_write_0 w x1 x2 x3
set_option maxRecDepth 100000 in
set_option maxHeartbeats 4000000 in
theorem bX7_write_53 {Γ : xΓ} (C : xOK Γ cX7_write RX7 2) (hL : xn Γ = 7) {w : xW} {r : xW × Int64} (E : xEnd Γ (some .long) r.1 (some (.long r.2))) (h : fX7_write_53  w = some r) : xG Γ w 53 [(0, .ref (xad Γ 0))] [] := by
  unfold fX7_write_53 at h
  refine xr_aload_n C 53 rfl dX7_write_53 ?_
  refine xr_ldc C 54 k_X7_69 dX7_write_54 ?_
  obtain ⟨z11, q12, h⟩ := g_bind h
  refine xr_callV C 56 (mX7_refuse q12) v_X7_refuse ml_X7_70 (Nat.le_of_ble_eq_true rfl) (Nat.le_of_ble_eq_true rfl) (xrecv C rfl rfl) rfl rfl (Nat.le_of_ble_eq_true rfl) rfl dX7_write_56 ?_
  refine xr_i2l C 59 dX7_write_59 ?_
  cases h
  exact xr_lret C 60 E dX7_write_60
set_option maxRecDepth 100000 in
set_option maxHeartbeats 4000000 in
theorem bX7_write_0 {Γ : xΓ} (C : xOK Γ cX7_write RX7 2) (hL : xn Γ = 7) {w : xW} {x1 : Int32} {x2 : Int32} {x3 : Int64} {r : xW × Int64} (E : xEnd Γ (some .long) r.1 (some (.long r.2))) (h : fX7_write_0  w x1 x2 x3 = some r) : xG Γ w 0 [(0, .ref (xad Γ 0)), (1, .int x1), (2, .int x2), (3, .long x3)] [] := by
  unfold fX7_write_0 at h
  refine xr_iload_n C 0 rfl dX7_write_0 ?_
  refine xr_callS C 1 (mX7_isSheet rfl) v_X7_isSheet ml_X7_243 (Nat.le_of_ble_eq_true rfl) (Nat.le_of_ble_eq_true rfl) rfl rfl (Nat.le_of_ble_eq_true rfl) rfl dX7_write_1 ?_
  refine xr_if_ne C 4 15 dX7_write_4 rfl (fun q => ?_) (fun q => ?_)
  · have h := g_if h q
    refine xr_aload_n C 15 rfl dX7_write_15 ?_
    refine xr_getR C 16 dX7_write_16 fl_X7_54 rfl rfl ?_
    refine xr_iload_n C 19 rfl dX7_write_19 ?_
    obtain ⟨q1, h⟩ := g_ib h
    refine xr_aaldS C 20 dX7_write_20 rfl (ibd_in q1) ?_
    obtain ⟨z2, q3, h⟩ := g_bind h
    refine xr_callV C 21 (mX2_isMissing q3) v_X2_isMissing ml_X7_252 (Nat.le_of_ble_eq_true rfl) (Nat.le_of_ble_eq_true rfl) (xrecv C (xsh_so (ibd_lt q1)) rfl) rfl rfl (Nat.le_of_ble_eq_true rfl) rfl dX7_write_21 ?_
    refine xr_if_eq C 24 36 dX7_write_24 rfl (fun q => ?_) (fun q => ?_)
    · have h := g_it h q
      refine xr_iload_n C 36 rfl dX7_write_36 ?_
      refine xr_if_lt C 37 53 dX7_write_37 rfl (fun q => ?_) (fun q => ?_)
      · have h := g_it h q
        exact xG.sub (bX7_write_53 C hL E h) ⟨rfl, trivial⟩
      · have h := g_if h q
        refine xr_iload_n C 40 rfl dX7_write_40 ?_
        refine xr_aload_n C 41 rfl dX7_write_41 ?_
        refine xr_getR C 42 dX7_write_42 fl_X7_54 rfl rfl ?_
        refine xr_iload_n C 45 rfl dX7_write_45 ?_
        refine xr_aaldS C 46 dX7_write_46 rfl (ibd_in q1) ?_
        refine xr_getI C 47 dX7_write_47 fl_X7_257 (xsh_so (ibd_lt q1)) rfl ?_
        refine xr_icmp_lt C 50 61 dX7_write_50 rfl (fun q => ?_) (fun q => ?_)
        · have h := g_it h q
          refine xr_aload_n C 61 rfl dX7_write_61 ?_
          refine xr_getR C 62 dX7_write_62 fl_X7_54 rfl rfl ?_
          refine xr_iload_n C 65 rfl dX7_write_65 ?_
          refine xr_aaldS C 66 dX7_write_66 rfl (ibd_in q1) ?_
          refine xr_getR C 67 dX7_write_67 fl_X7_260 (xsh_so (ibd_lt q1)) rfl ?_
          refine xr_iload_n C 70 rfl dX7_write_70 ?_
          obtain ⟨q4, h⟩ := g_ib h
          refine xr_lald C 71 x2.toNatClampNeg rfl dX7_write_71 (xsh_sa (ibd_lt q1)) (ibd_in q4) ?_
          refine xr_lstore C 72 dX7_write_72 (xnb hL rfl) ?_
          refine xr_aload_n C 74 rfl dX7_write_74 ?_
          refine xr_getR C 75 dX7_write_75 fl_X7_54 rfl rfl ?_
          refine xr_iload_n C 78 rfl dX7_write_78 ?_
          refine xr_aaldS C 79 dX7_write_79 rfl (ibd_in q1) ?_
          refine xr_iload_n C 80 rfl dX7_write_80 ?_
          refine xr_lload_n C 81 rfl dX7_write_81 ?_
          obtain ⟨z5, q6, h⟩ := g_bind h
          refine xr_callV C 82 (mX2_put q6) v_X2_put ml_X7_264 (Nat.le_of_ble_eq_true rfl) (Nat.le_of_ble_eq_true rfl) (xrecv C (xsh_so (ibd_lt q1)) rfl) rfl rfl (Nat.le_of_ble_eq_true rfl) rfl dX7_write_82 ?_
          refine xr_lload C 85 rfl dX7_write_85 ?_
          cases h
          exact xr_lret C 87 E dX7_write_87
        · have h := g_if h q
          exact xG.sub (bX7_write_53 C hL E h) ⟨rfl, trivial⟩
    · have h := g_if h q
      refine xr_aload_n C 27 rfl dX7_write_27 ?_
      refine xr_ldcw C 28 k_X7_256 dX7_write_28 ?_
      obtain ⟨z7, q8, h⟩ := g_bind h
      refine xr_callV C 31 (mX7_refuse q8) v_X7_refuse ml_X7_70 (Nat.le_of_ble_eq_true rfl) (Nat.le_of_ble_eq_true rfl) (xrecv C rfl rfl) rfl rfl (Nat.le_of_ble_eq_true rfl) rfl dX7_write_31 ?_
      refine xr_i2l C 34 dX7_write_34 ?_
      cases h
      exact xr_lret C 35 E dX7_write_35
  · have h := g_it h q
    refine xr_aload_n C 7 rfl dX7_write_7 ?_
    refine xr_ldc C 8 k_X7_69 dX7_write_8 ?_
    obtain ⟨z9, q10, h⟩ := g_bind h
    refine xr_callV C 10 (mX7_refuse q10) v_X7_refuse ml_X7_70 (Nat.le_of_ble_eq_true rfl) (Nat.le_of_ble_eq_true rfl) (xrecv C rfl rfl) rfl rfl (Nat.le_of_ble_eq_true rfl) rfl dX7_write_10 ?_
    refine xr_i2l C 13 dX7_write_13 ?_
    cases h
    exact xr_lret C 14 E dX7_write_14
set_option maxRecDepth 100000 in
set_option maxHeartbeats 4000000 in
theorem mX7_write {l : Launch} {ad : Nat → Nat} {G : gEnv} {w : xW} {x1 : Int32} {x2 : Int32} {x3 : Int64} {r : xW × Int64} (h : fX7_write w x1 x2 x3 = some r) : xCt l ad G 2 yX7_write cX7_write 7 (some .long) [.ref (ad 0), .int x1, .int x2, .long x3] w r.1 (some (.long r.2)) := xCt.of RX7 rfl (by decide +kernel) (Nat.le_of_ble_eq_true rfl) (fun Γ el ea eG eL C E => by
    subst el
    subst ea
    subst eG
    unfold fX7_write at h
    exact xG.sub (bX7_write_0 C eL  E h) ⟨rfl, rfl, rfl, rfl, trivial⟩)
def fX8_cutTo_0 (x0 : Int64) (x2 : Int32) : Int64 :=
  if x2 = 8 then
    (((x0 : Int64).toInt32 : Int32).toInt8.toInt32 : Int32).toInt64
  else
  if x2 = 16 then
    (((x0 : Int64).toInt32 : Int32).toInt16.toInt32 : Int32).toInt64
  else
  x0
def fX8_cutTo (x0 : Int64) (x2 : Int32) : Int64 := fX8_cutTo_0 x0 x2
set_option maxRecDepth 100000 in
set_option maxHeartbeats 4000000 in
theorem bX8_cutTo_0 {Γ : xΓ} (C : xOK Γ cX8_cutTo RX8 1) (hL : xn Γ = 3) {w : xW} {x0 : Int64} {x2 : Int32} {r : Int64} (E : xEnd Γ (some .long) w (some (.long r))) (h : fX8_cutTo_0  x0 x2 = r) : xG Γ w 0 [(0, .long x0), (2, .int x2)] [] := by
  unfold fX8_cutTo_0 at h
  refine xr_iload_n C 0 rfl dX8_cutTo_0 ?_
  refine xr_bipush C 1 8 (by decide +kernel) dX8_cutTo_1 ?_
  refine xr_icmp_ne C 3 13 dX8_cutTo_3 rfl (fun q => ?_) (fun q => ?_)
  · have h := g_if h q
    refine xr_iload_n C 13 rfl dX8_cutTo_13 ?_
    refine xr_bipush C 14 16 (by decide +kernel) dX8_cutTo_14 ?_
    refine xr_icmp_ne C 16 26 dX8_cutTo_16 rfl (fun q => ?_) (fun q => ?_)
    · have h := g_if h q
      refine xr_lload_n C 26 rfl dX8_cutTo_26 ?_
      cases h
      exact xr_lret C 27 E dX8_cutTo_27
    · have h := g_it h q
      refine xr_lload_n C 19 rfl dX8_cutTo_19 ?_
      refine xr_l2i C 20 dX8_cutTo_20 ?_
      refine xr_i2s C 21 dX8_cutTo_21 ?_
      refine xr_i2l C 22 dX8_cutTo_22 ?_
      refine xr_goto C 23 27 dX8_cutTo_23 rfl ?_
      cases h
      exact xr_lret C 27 E dX8_cutTo_27
  · have h := g_it h q
    refine xr_lload_n C 6 rfl dX8_cutTo_6 ?_
    refine xr_l2i C 7 dX8_cutTo_7 ?_
    refine xr_i2b C 8 dX8_cutTo_8 ?_
    refine xr_i2l C 9 dX8_cutTo_9 ?_
    refine xr_goto C 10 27 dX8_cutTo_10 rfl ?_
    cases h
    exact xr_lret C 27 E dX8_cutTo_27
set_option maxRecDepth 100000 in
set_option maxHeartbeats 4000000 in
theorem mX8_cutTo {l : Launch} {ad : Nat → Nat} {G : gEnv} {w : xW} {x0 : Int64} {x2 : Int32} {r : Int64} (h : fX8_cutTo x0 x2 = r) : xCt l ad G 1 yX8_cutTo cX8_cutTo 3 (some .long) [.long x0, .int x2] w w (some (.long r)) := xCt.of RX8 rfl (by decide +kernel) (Nat.le_of_ble_eq_true rfl) (fun Γ el ea eG eL C E => by
    subst el
    subst ea
    subst eG
    unfold fX8_cutTo at h
    exact xG.sub (bX8_cutTo_0 C eL  E h) ⟨rfl, rfl, trivial⟩)
def fX8_write_0 (w : xW) (x1 : Int32) (x2 : Int32) (x3 : Int64) : Option (xW × Int64) :=
  if (fX8_isSheet x1) = 0 then
    (fX8_finding w (-1000000001)).bind fun z7 =>
    some (z7.1, (z7.2 : Int32).toInt64)
  else
  if ibd x1 4 = true then
  if (w.1 74 x1.toNatClampNeg) = 0 then
    (fX8_finding w (-1000000006)).bind fun z5 =>
    some (z5.1, (z5.2 : Int32).toInt64)
  else
  if (fX8_within x2 0 ((w.1 75 x1.toNatClampNeg) - 1)) = 0 then
    (fX8_finding w (-1000000001)).bind fun z3 =>
    some (z3.1, (z3.2 : Int32).toInt64)
  else
  if ibd ((40 * x1) + x2) 160 = true then
  some (sL w 76 (((40 * x1) + x2).toNatClampNeg) (fX8_cutTo x3 (w.1 74 x1.toNatClampNeg)), w.2 76 (((40 * x1) + x2).toNatClampNeg))
  else none
  else none
def fX8_write (w : xW) (x1 : Int32) (x2 : Int32) (x3 : Int64) : Option (xW × Int64) := fX8_write_0 w x1 x2 x3
set_option maxRecDepth 100000 in
set_option maxHeartbeats 4000000 in
theorem bX8_write_0 {Γ : xΓ} (C : xOK Γ cX8_write RX8 3) (hL : xn Γ = 7) {w : xW} {x1 : Int32} {x2 : Int32} {x3 : Int64} {r : xW × Int64} (E : xEnd Γ (some .long) r.1 (some (.long r.2))) (h : fX8_write_0  w x1 x2 x3 = some r) : xG Γ w 0 [(0, .ref (xad Γ 55)), (1, .int x1), (2, .int x2), (3, .long x3)] [] := by
  unfold fX8_write_0 at h
  refine xr_iload_n C 0 rfl dX8_write_0 ?_
  refine xr_callS C 1 (mX8_isSheet rfl) v_X8_isSheet ml_X8_316 (Nat.le_of_ble_eq_true rfl) (Nat.le_of_ble_eq_true rfl) rfl rfl (Nat.le_of_ble_eq_true rfl) rfl dX8_write_1 ?_
  refine xr_if_ne C 4 15 dX8_write_4 rfl (fun q => ?_) (fun q => ?_)
  · have h := g_if h q
    refine xr_aload_n C 15 rfl dX8_write_15 ?_
    refine xr_getR C 16 dX8_write_16 fl_X8_85 rfl rfl ?_
    refine xr_iload_n C 19 rfl dX8_write_19 ?_
    obtain ⟨q1, h⟩ := g_ib h
    refine xr_iald C 20 x1.toNatClampNeg rfl dX8_write_20 rfl (ibd_in q1) ?_
    refine xr_if_ne C 21 33 dX8_write_21 rfl (fun q => ?_) (fun q => ?_)
    · have h := g_if h q
      refine xr_iload_n C 33 rfl dX8_write_33 ?_
      refine xr_iconst C 34 0 (by decide +kernel) dX8_write_34 ?_
      refine xr_aload_n C 35 rfl dX8_write_35 ?_
      refine xr_getR C 36 dX8_write_36 fl_X8_88 rfl rfl ?_
      refine xr_iload_n C 39 rfl dX8_write_39 ?_
      refine xr_iald C 40 x1.toNatClampNeg rfl dX8_write_40 rfl (ibd_in q1) ?_
      refine xr_iconst C 41 1 (by decide +kernel) dX8_write_41 ?_
      refine xr_isub C 42 dX8_write_42 ?_
      refine xr_callS C 43 (mX8_within rfl) v_X8_within ml_X8_121 (Nat.le_of_ble_eq_true rfl) (Nat.le_of_ble_eq_true rfl) rfl rfl (Nat.le_of_ble_eq_true rfl) rfl dX8_write_43 ?_
      refine xr_if_ne C 46 57 dX8_write_46 rfl (fun q => ?_) (fun q => ?_)
      · have h := g_if h q
        refine xr_aload_n C 57 rfl dX8_write_57 ?_
        refine xr_getR C 58 dX8_write_58 fl_X8_91 rfl rfl ?_
        refine xr_bipush C 61 40 (by decide +kernel) dX8_write_61 ?_
        refine xr_iload_n C 63 rfl dX8_write_63 ?_
        refine xr_imul C 64 dX8_write_64 ?_
        refine xr_iload_n C 65 rfl dX8_write_65 ?_
        refine xr_iadd C 66 dX8_write_66 ?_
        obtain ⟨q2, h⟩ := g_ib h
        refine xr_lald C 67 (((40 * x1) + x2).toNatClampNeg) rfl dX8_write_67 rfl (ibd_in q2) ?_
        refine xr_lstore C 68 dX8_write_68 (xnb hL rfl) ?_
        refine xr_aload_n C 70 rfl dX8_write_70 ?_
        refine xr_getR C 71 dX8_write_71 fl_X8_91 rfl rfl ?_
        refine xr_bipush C 74 40 (by decide +kernel) dX8_write_74 ?_
        refine xr_iload_n C 76 rfl dX8_write_76 ?_
        refine xr_imul C 77 dX8_write_77 ?_
        refine xr_iload_n C 78 rfl dX8_write_78 ?_
        refine xr_iadd C 79 dX8_write_79 ?_
        refine xr_lload_n C 80 rfl dX8_write_80 ?_
        refine xr_aload_n C 81 rfl dX8_write_81 ?_
        refine xr_getR C 82 dX8_write_82 fl_X8_85 rfl rfl ?_
        refine xr_iload_n C 85 rfl dX8_write_85 ?_
        refine xr_iald C 86 x1.toNatClampNeg rfl dX8_write_86 rfl (ibd_in q1) ?_
        refine xr_callS C 87 (mX8_cutTo rfl) v_X8_cutTo ml_X8_321 (Nat.le_of_ble_eq_true rfl) (Nat.le_of_ble_eq_true rfl) rfl rfl (Nat.le_of_ble_eq_true rfl) rfl dX8_write_87 ?_
        refine xr_last C 90 (((40 * x1) + x2).toNatClampNeg) rfl dX8_write_90 rfl (ibd_in q2) ?_
        refine xr_lload C 91 rfl dX8_write_91 ?_
        cases h
        exact xr_lret C 93 E dX8_write_93
      · have h := g_it h q
        refine xr_aload_n C 49 rfl dX8_write_49 ?_
        refine xr_ldc C 50 k_X8_98 dX8_write_50 ?_
        obtain ⟨z3, q4, h⟩ := g_bind h
        refine xr_callV C 52 (mX8_finding q4) v_X8_finding ml_X8_125 (Nat.le_of_ble_eq_true rfl) (Nat.le_of_ble_eq_true rfl) (xrecv C rfl rfl) rfl rfl (Nat.le_of_ble_eq_true rfl) rfl dX8_write_52 ?_
        refine xr_i2l C 55 dX8_write_55 ?_
        cases h
        exact xr_lret C 56 E dX8_write_56
    · have h := g_it h q
      refine xr_aload_n C 24 rfl dX8_write_24 ?_
      refine xr_ldcw C 25 k_X8_320 dX8_write_25 ?_
      obtain ⟨z5, q6, h⟩ := g_bind h
      refine xr_callV C 28 (mX8_finding q6) v_X8_finding ml_X8_125 (Nat.le_of_ble_eq_true rfl) (Nat.le_of_ble_eq_true rfl) (xrecv C rfl rfl) rfl rfl (Nat.le_of_ble_eq_true rfl) rfl dX8_write_28 ?_
      refine xr_i2l C 31 dX8_write_31 ?_
      cases h
      exact xr_lret C 32 E dX8_write_32
  · have h := g_it h q
    refine xr_aload_n C 7 rfl dX8_write_7 ?_
    refine xr_ldc C 8 k_X8_98 dX8_write_8 ?_
    obtain ⟨z7, q8, h⟩ := g_bind h
    refine xr_callV C 10 (mX8_finding q8) v_X8_finding ml_X8_125 (Nat.le_of_ble_eq_true rfl) (Nat.le_of_ble_eq_true rfl) (xrecv C rfl rfl) rfl rfl (Nat.le_of_ble_eq_true rfl) rfl dX8_write_10 ?_
    refine xr_i2l C 13 dX8_write_13 ?_
    cases h
    exact xr_lret C 14 E dX8_write_14
set_option maxRecDepth 100000 in
set_option maxHeartbeats 4000000 in
theorem mX8_write {l : Launch} {ad : Nat → Nat} {G : gEnv} {w : xW} {x1 : Int32} {x2 : Int32} {x3 : Int64} {r : xW × Int64} (h : fX8_write w x1 x2 x3 = some r) : xCt l ad G 3 yX8_write cX8_write 7 (some .long) [.ref (ad 55), .int x1, .int x2, .long x3] w r.1 (some (.long r.2)) := xCt.of RX8 rfl (by decide +kernel) (Nat.le_of_ble_eq_true rfl) (fun Γ el ea eG eL C E => by
    subst el
    subst ea
    subst eG
    unfold fX8_write at h
    exact xG.sub (bX8_write_0 C eL  E h) ⟨rfl, rfl, rfl, rfl, trivial⟩)
def fX2_has_0 (w : xW) (k0 : Nat) (x1 : Int32) (x2 : Int32) : Option Int32 :=
  if x1 < 0 then
    some 0
  else
  if x2 < 0 then
    some 0
  else
  if (w.1 (47 + 2 * k0) 1) < x1 then
    some 0
  else
  if ((w.1 (47 + 2 * k0) 1) - x1) < x2 then
    some 0
  else
  some 1
def fX2_has (w : xW) (k0 : Nat) (x1 : Int32) (x2 : Int32) : Option Int32 := if k0 < 4 then fX2_has_0 w k0 x1 x2 else none
set_option maxRecDepth 100000 in
set_option maxHeartbeats 4000000 in
theorem bX2_has_0 {Γ : xΓ} (C : xOK Γ cX2_has RX2 1) (hL : xn Γ = 3) {k0 : Nat} {w : xW} {x1 : Int32} {x2 : Int32} {r : Int32} (hk0 : k0 < 4) (E : xEnd Γ (some .boolean) w (some (.int r))) (h : fX2_has_0 w k0 x1 x2 = some r) : xG Γ w 0 [(0, .ref (xad Γ (47 + 2 * k0))), (1, .int x1), (2, .int x2)] [] := by
  unfold fX2_has_0 at h
  refine xr_iload_n C 0 rfl dX2_has_0 ?_
  refine xr_if_lt C 1 30 dX2_has_1 rfl (fun q => ?_) (fun q => ?_)
  · have h := g_it h q
    refine xr_iconst C 30 0 (by decide +kernel) dX2_has_30 ?_
    cases h
    exact xr_zret C 31 E dX2_has_31 (by decide +kernel)
  · have h := g_if h q
    refine xr_iload_n C 4 rfl dX2_has_4 ?_
    refine xr_if_lt C 5 30 dX2_has_5 rfl (fun q => ?_) (fun q => ?_)
    · have h := g_it h q
      refine xr_iconst C 30 0 (by decide +kernel) dX2_has_30 ?_
      cases h
      exact xr_zret C 31 E dX2_has_31 (by decide +kernel)
    · have h := g_if h q
      refine xr_iload_n C 8 rfl dX2_has_8 ?_
      refine xr_aload_n C 9 rfl dX2_has_9 ?_
      refine xr_getI C 10 dX2_has_10 fl_X2_13 (xsh_so hk0) rfl ?_
      refine xr_icmp_gt C 13 30 dX2_has_13 rfl (fun q => ?_) (fun q => ?_)
      · have h := g_it h q
        refine xr_iconst C 30 0 (by decide +kernel) dX2_has_30 ?_
        cases h
        exact xr_zret C 31 E dX2_has_31 (by decide +kernel)
      · have h := g_if h q
        refine xr_iload_n C 16 rfl dX2_has_16 ?_
        refine xr_aload_n C 17 rfl dX2_has_17 ?_
        refine xr_getI C 18 dX2_has_18 fl_X2_13 (xsh_so hk0) rfl ?_
        refine xr_iload_n C 21 rfl dX2_has_21 ?_
        refine xr_isub C 22 dX2_has_22 ?_
        refine xr_icmp_gt C 23 30 dX2_has_23 rfl (fun q => ?_) (fun q => ?_)
        · have h := g_it h q
          refine xr_iconst C 30 0 (by decide +kernel) dX2_has_30 ?_
          cases h
          exact xr_zret C 31 E dX2_has_31 (by decide +kernel)
        · have h := g_if h q
          refine xr_iconst C 26 1 (by decide +kernel) dX2_has_26 ?_
          refine xr_goto C 27 31 dX2_has_27 rfl ?_
          cases h
          exact xr_zret C 31 E dX2_has_31 (by decide +kernel)
set_option maxRecDepth 100000 in
set_option maxHeartbeats 4000000 in
theorem mX2_has {l : Launch} {ad : Nat → Nat} {G : gEnv} {w : xW} {k0 : Nat} {x1 : Int32} {x2 : Int32} {r : Int32} (h : fX2_has w k0 x1 x2 = some r) : xCt l ad G 1 yX2_has cX2_has 3 (some .boolean) [.ref (ad (47 + 2 * k0)), .int x1, .int x2] w w (some (.int r)) := xCt.of RX2 rfl (by decide +kernel) (Nat.le_of_ble_eq_true rfl) (fun Γ el ea eG eL C E => by
    subst el
    subst ea
    subst eG
    unfold fX2_has at h
    obtain ⟨hk0, h⟩ := g_lt h
    exact xG.sub (bX2_has_0 C eL hk0 E h) ⟨rfl, rfl, rfl, trivial⟩)
def fX7_copy_14 (w : xW) : Option (xW × Int32) :=
  (fX7_refuse w (-1000000001)).bind fun z18 =>
  some (z18.1, z18.2)
def fX7_copy_45 (w : xW) : Option (xW × Int32) :=
  (fX7_refuse w (-1000000006)).bind fun z16 =>
  some (z16.1, z16.2)
def fX7_copy_112 (w : xW) : Option (xW × Int32) :=
  (fX7_refuse w (-1000000001)).bind fun z14 =>
  some (z14.1, z14.2)
def fX7_copy_0 (w : xW) (x1 : Int32) (x2 : Int32) (x3 : Int32) (x4 : Int32) (x5 : Int32) : Option (xW × Int32) :=
  if (fX7_isSheet x1) = 0 then
    fX7_copy_14 w
  else
  if (fX7_isSheet x3) = 0 then
    fX7_copy_14 w
  else
  if ibd x1 4 = true then
  (fX2_isMissing w x1.toNatClampNeg).bind fun z2 =>
  if z2 = 0 then
    if ibd x3 4 = true then
    (fX2_isMissing w x3.toNatClampNeg).bind fun z5 =>
    if z5 = 0 then
      if (w.1 (47 + 2 * x1.toNatClampNeg) 0) = (w.1 (47 + 2 * x3.toNatClampNeg) 0) then
        (fX2_has w x1.toNatClampNeg x2 x5).bind fun z7 =>
        if z7 = 0 then
          fX7_copy_112 w
        else
        (fX2_has w x3.toNatClampNeg x4 x5).bind fun z9 =>
        if z9 = 0 then
          fX7_copy_112 w
        else
        if xcp x2 x4 x5 40 40 = true then
        some (sB w (48 + 2 * x3.toNatClampNeg) (va_cpy (w.2 (48 + 2 * x1.toNatClampNeg)) (w.2 (48 + 2 * x3.toNatClampNeg)) (Int32.toNatClampNeg x2) (Int32.toNatClampNeg x4) (Int32.toNatClampNeg x5)), x5)
        else none
      else
      (fX7_refuse w (-1000000003)).bind fun z12 =>
      some (z12.1, z12.2)
    else
    fX7_copy_45 w
    else none
  else
  fX7_copy_45 w
  else none
def fX7_copy (w : xW) (x1 : Int32) (x2 : Int32) (x3 : Int32) (x4 : Int32) (x5 : Int32) : Option (xW × Int32) := fX7_copy_0 w x1 x2 x3 x4 x5
set_option maxRecDepth 100000 in
set_option maxHeartbeats 4000000 in
theorem bX7_copy_14 {Γ : xΓ} (C : xOK Γ cX7_copy RX7 2) (hL : xn Γ = 6) {w : xW} {r : xW × Int32} (E : xEnd Γ (some .int) r.1 (some (.int r.2))) (h : fX7_copy_14  w = some r) : xG Γ w 14 [(0, .ref (xad Γ 0))] [] := by
  unfold fX7_copy_14 at h
  refine xr_aload_n C 14 rfl dX7_copy_14 ?_
  refine xr_ldc C 15 k_X7_69 dX7_copy_15 ?_
  obtain ⟨z18, q19, h⟩ := g_bind h
  refine xr_callV C 17 (mX7_refuse q19) v_X7_refuse ml_X7_70 (Nat.le_of_ble_eq_true rfl) (Nat.le_of_ble_eq_true rfl) (xrecv C rfl rfl) rfl rfl (Nat.le_of_ble_eq_true rfl) rfl dX7_copy_17 ?_
  cases h
  exact xr_iret C 20 E dX7_copy_20
set_option maxRecDepth 100000 in
set_option maxHeartbeats 4000000 in
theorem bX7_copy_45 {Γ : xΓ} (C : xOK Γ cX7_copy RX7 2) (hL : xn Γ = 6) {w : xW} {r : xW × Int32} (E : xEnd Γ (some .int) r.1 (some (.int r.2))) (h : fX7_copy_45  w = some r) : xG Γ w 45 [(0, .ref (xad Γ 0))] [] := by
  unfold fX7_copy_45 at h
  refine xr_aload_n C 45 rfl dX7_copy_45 ?_
  refine xr_ldcw C 46 k_X7_256 dX7_copy_46 ?_
  obtain ⟨z16, q17, h⟩ := g_bind h
  refine xr_callV C 49 (mX7_refuse q17) v_X7_refuse ml_X7_70 (Nat.le_of_ble_eq_true rfl) (Nat.le_of_ble_eq_true rfl) (xrecv C rfl rfl) rfl rfl (Nat.le_of_ble_eq_true rfl) rfl dX7_copy_49 ?_
  cases h
  exact xr_iret C 52 E dX7_copy_52
set_option maxRecDepth 100000 in
set_option maxHeartbeats 4000000 in
theorem bX7_copy_112 {Γ : xΓ} (C : xOK Γ cX7_copy RX7 2) (hL : xn Γ = 6) {w : xW} {r : xW × Int32} (E : xEnd Γ (some .int) r.1 (some (.int r.2))) (h : fX7_copy_112  w = some r) : xG Γ w 112 [(0, .ref (xad Γ 0))] [] := by
  unfold fX7_copy_112 at h
  refine xr_aload_n C 112 rfl dX7_copy_112 ?_
  refine xr_ldc C 113 k_X7_69 dX7_copy_113 ?_
  obtain ⟨z14, q15, h⟩ := g_bind h
  refine xr_callV C 115 (mX7_refuse q15) v_X7_refuse ml_X7_70 (Nat.le_of_ble_eq_true rfl) (Nat.le_of_ble_eq_true rfl) (xrecv C rfl rfl) rfl rfl (Nat.le_of_ble_eq_true rfl) rfl dX7_copy_115 ?_
  cases h
  exact xr_iret C 118 E dX7_copy_118
set_option maxRecDepth 100000 in
set_option maxHeartbeats 4000000 in
theorem bX7_copy_0 {Γ : xΓ} (C : xOK Γ cX7_copy RX7 2) (hL : xn Γ = 6) {w : xW} {x1 : Int32} {x2 : Int32} {x3 : Int32} {x4 : Int32} {x5 : Int32} {r : xW × Int32} (E : xEnd Γ (some .int) r.1 (some (.int r.2))) (h : fX7_copy_0  w x1 x2 x3 x4 x5 = some r) : xG Γ w 0 [(0, .ref (xad Γ 0)), (1, .int x1), (2, .int x2), (3, .int x3), (4, .int x4), (5, .int x5)] [] := by
  unfold fX7_copy_0 at h
  refine xr_iload_n C 0 rfl dX7_copy_0 ?_
  refine xr_callS C 1 (mX7_isSheet rfl) v_X7_isSheet ml_X7_243 (Nat.le_of_ble_eq_true rfl) (Nat.le_of_ble_eq_true rfl) rfl rfl (Nat.le_of_ble_eq_true rfl) rfl dX7_copy_1 ?_
  refine xr_if_eq C 4 14 dX7_copy_4 rfl (fun q => ?_) (fun q => ?_)
  · have h := g_it h q
    exact xG.sub (bX7_copy_14 C hL E h) ⟨rfl, trivial⟩
  · have h := g_if h q
    refine xr_iload_n C 7 rfl dX7_copy_7 ?_
    refine xr_callS C 8 (mX7_isSheet rfl) v_X7_isSheet ml_X7_243 (Nat.le_of_ble_eq_true rfl) (Nat.le_of_ble_eq_true rfl) rfl rfl (Nat.le_of_ble_eq_true rfl) rfl dX7_copy_8 ?_
    refine xr_if_ne C 11 21 dX7_copy_11 rfl (fun q => ?_) (fun q => ?_)
    · have h := g_if h q
      refine xr_aload_n C 21 rfl dX7_copy_21 ?_
      refine xr_getR C 22 dX7_copy_22 fl_X7_54 rfl rfl ?_
      refine xr_iload_n C 25 rfl dX7_copy_25 ?_
      obtain ⟨q1, h⟩ := g_ib h
      refine xr_aaldS C 26 dX7_copy_26 rfl (ibd_in q1) ?_
      obtain ⟨z2, q3, h⟩ := g_bind h
      refine xr_callV C 27 (mX2_isMissing q3) v_X2_isMissing ml_X7_252 (Nat.le_of_ble_eq_true rfl) (Nat.le_of_ble_eq_true rfl) (xrecv C (xsh_so (ibd_lt q1)) rfl) rfl rfl (Nat.le_of_ble_eq_true rfl) rfl dX7_copy_27 ?_
      refine xr_if_ne C 30 45 dX7_copy_30 rfl (fun q => ?_) (fun q => ?_)
      · have h := g_if h q
        exact xG.sub (bX7_copy_45 C hL E h) ⟨rfl, trivial⟩
      · have h := g_it h q
        refine xr_aload_n C 33 rfl dX7_copy_33 ?_
        refine xr_getR C 34 dX7_copy_34 fl_X7_54 rfl rfl ?_
        refine xr_iload_n C 37 rfl dX7_copy_37 ?_
        obtain ⟨q4, h⟩ := g_ib h
        refine xr_aaldS C 38 dX7_copy_38 rfl (ibd_in q4) ?_
        obtain ⟨z5, q6, h⟩ := g_bind h
        refine xr_callV C 39 (mX2_isMissing q6) v_X2_isMissing ml_X7_252 (Nat.le_of_ble_eq_true rfl) (Nat.le_of_ble_eq_true rfl) (xrecv C (xsh_so (ibd_lt q4)) rfl) rfl rfl (Nat.le_of_ble_eq_true rfl) rfl dX7_copy_39 ?_
        refine xr_if_eq C 42 53 dX7_copy_42 rfl (fun q => ?_) (fun q => ?_)
        · have h := g_it h q
          refine xr_aload_n C 53 rfl dX7_copy_53 ?_
          refine xr_getR C 54 dX7_copy_54 fl_X7_54 rfl rfl ?_
          refine xr_iload_n C 57 rfl dX7_copy_57 ?_
          refine xr_aaldS C 58 dX7_copy_58 rfl (ibd_in q1) ?_
          refine xr_getI C 59 dX7_copy_59 fl_X7_268 (xsh_so (ibd_lt q1)) rfl ?_
          refine xr_aload_n C 62 rfl dX7_copy_62 ?_
          refine xr_getR C 63 dX7_copy_63 fl_X7_54 rfl rfl ?_
          refine xr_iload_n C 66 rfl dX7_copy_66 ?_
          refine xr_aaldS C 67 dX7_copy_67 rfl (ibd_in q4) ?_
          refine xr_getI C 68 dX7_copy_68 fl_X7_268 (xsh_so (ibd_lt q4)) rfl ?_
          refine xr_icmp_eq C 71 81 dX7_copy_71 rfl (fun q => ?_) (fun q => ?_)
          · have h := g_it h q
            refine xr_aload_n C 81 rfl dX7_copy_81 ?_
            refine xr_getR C 82 dX7_copy_82 fl_X7_54 rfl rfl ?_
            refine xr_iload_n C 85 rfl dX7_copy_85 ?_
            refine xr_aaldS C 86 dX7_copy_86 rfl (ibd_in q1) ?_
            refine xr_iload_n C 87 rfl dX7_copy_87 ?_
            refine xr_iload C 88 rfl dX7_copy_88 ?_
            obtain ⟨z7, q8, h⟩ := g_bind h
            refine xr_callV C 90 (mX2_has q8) v_X2_has ml_X7_271 (Nat.le_of_ble_eq_true rfl) (Nat.le_of_ble_eq_true rfl) (xrecv C (xsh_so (ibd_lt q1)) rfl) rfl rfl (Nat.le_of_ble_eq_true rfl) rfl dX7_copy_90 ?_
            refine xr_if_eq C 93 112 dX7_copy_93 rfl (fun q => ?_) (fun q => ?_)
            · have h := g_it h q
              exact xG.sub (bX7_copy_112 C hL E h) ⟨rfl, trivial⟩
            · have h := g_if h q
              refine xr_aload_n C 96 rfl dX7_copy_96 ?_
              refine xr_getR C 97 dX7_copy_97 fl_X7_54 rfl rfl ?_
              refine xr_iload_n C 100 rfl dX7_copy_100 ?_
              refine xr_aaldS C 101 dX7_copy_101 rfl (ibd_in q4) ?_
              refine xr_iload C 102 rfl dX7_copy_102 ?_
              refine xr_iload C 104 rfl dX7_copy_104 ?_
              obtain ⟨z9, q10, h⟩ := g_bind h
              refine xr_callV C 106 (mX2_has q10) v_X2_has ml_X7_271 (Nat.le_of_ble_eq_true rfl) (Nat.le_of_ble_eq_true rfl) (xrecv C (xsh_so (ibd_lt q4)) rfl) rfl rfl (Nat.le_of_ble_eq_true rfl) rfl dX7_copy_106 ?_
              refine xr_if_ne C 109 119 dX7_copy_109 rfl (fun q => ?_) (fun q => ?_)
              · have h := g_if h q
                refine xr_aload_n C 119 rfl dX7_copy_119 ?_
                refine xr_getR C 120 dX7_copy_120 fl_X7_54 rfl rfl ?_
                refine xr_iload_n C 123 rfl dX7_copy_123 ?_
                refine xr_aaldS C 124 dX7_copy_124 rfl (ibd_in q1) ?_
                refine xr_getR C 125 dX7_copy_125 fl_X7_260 (xsh_so (ibd_lt q1)) rfl ?_
                refine xr_iload_n C 128 rfl dX7_copy_128 ?_
                refine xr_aload_n C 129 rfl dX7_copy_129 ?_
                refine xr_getR C 130 dX7_copy_130 fl_X7_54 rfl rfl ?_
                refine xr_iload_n C 133 rfl dX7_copy_133 ?_
                refine xr_aaldS C 134 dX7_copy_134 rfl (ibd_in q4) ?_
                refine xr_getR C 135 dX7_copy_135 fl_X7_260 (xsh_so (ibd_lt q4)) rfl ?_
                refine xr_iload C 138 rfl dX7_copy_138 ?_
                refine xr_iload C 140 rfl dX7_copy_140 ?_
                obtain ⟨q11, h⟩ := g_lt h
                refine xr_copyl C 142 dX7_copy_142 cp_X7_274 (Nat.le_of_ble_eq_true rfl) (Nat.le_of_ble_eq_true rfl) (xsh_sa (ibd_lt q1)) (xsh_sa (ibd_lt q4)) q11 ?_
                refine xr_iload C 145 rfl dX7_copy_145 ?_
                cases h
                exact xr_iret C 147 E dX7_copy_147
              · have h := g_it h q
                exact xG.sub (bX7_copy_112 C hL E h) ⟨rfl, trivial⟩
          · have h := g_if h q
            refine xr_aload_n C 74 rfl dX7_copy_74 ?_
            refine xr_ldc C 75 k_X7_147 dX7_copy_75 ?_
            obtain ⟨z12, q13, h⟩ := g_bind h
            refine xr_callV C 77 (mX7_refuse q13) v_X7_refuse ml_X7_70 (Nat.le_of_ble_eq_true rfl) (Nat.le_of_ble_eq_true rfl) (xrecv C rfl rfl) rfl rfl (Nat.le_of_ble_eq_true rfl) rfl dX7_copy_77 ?_
            cases h
            exact xr_iret C 80 E dX7_copy_80
        · have h := g_if h q
          exact xG.sub (bX7_copy_45 C hL E h) ⟨rfl, trivial⟩
    · have h := g_it h q
      exact xG.sub (bX7_copy_14 C hL E h) ⟨rfl, trivial⟩
set_option maxRecDepth 100000 in
set_option maxHeartbeats 4000000 in
theorem mX7_copy {l : Launch} {ad : Nat → Nat} {G : gEnv} {w : xW} {x1 : Int32} {x2 : Int32} {x3 : Int32} {x4 : Int32} {x5 : Int32} {r : xW × Int32} (h : fX7_copy w x1 x2 x3 x4 x5 = some r) : xCt l ad G 2 yX7_copy cX7_copy 6 (some .int) [.ref (ad 0), .int x1, .int x2, .int x3, .int x4, .int x5] w r.1 (some (.int r.2)) := xCt.of RX7 rfl (by decide +kernel) (Nat.le_of_ble_eq_true rfl) (fun Γ el ea eG eL C E => by
    subst el
    subst ea
    subst eG
    unfold fX7_copy at h
    exact xG.sub (bX7_copy_0 C eL  E h) ⟨rfl, rfl, rfl, rfl, rfl, rfl, trivial⟩)
def fX8_copy_14 (N : Nat) (w : xW) : Option (xW × Int32) :=
  (fX8_finding w (-1000000001)).bind fun z13 =>
  some (z13.1, z13.2)
def fX8_copy_39 (N : Nat) (w : xW) : Option (xW × Int32) :=
  (fX8_finding w (-1000000006)).bind fun z11 =>
  some (z11.1, z11.2)
def fX8_copy_118 (N : Nat) (w : xW) : Option (xW × Int32) :=
  (fX8_finding w (-1000000001)).bind fun z9 =>
  some (z9.1, z9.2)
def fX8_copy_165b (N : Nat) (K165 : xW → Int32 → Int32 → Int32 → Int32 → Option (xW × Int32)) (w : xW) (x3 : Int32) (x4 : Int32) (x5 : Int32) (x6 : Int32) : Option (xW × Int32) :=
  if x5 ≤ x6 then
    some (w, x5)
  else
  if ibd x6 40 = true then
  if ibd (((40 * x3) + x4) + x6) 160 = true then
  K165 (sL w 76 ((((40 * x3) + x4) + x6).toNatClampNeg) (w.2 77 x6.toNatClampNeg)) x3 x4 x5 (x6 + 1)
  else none
  else none
def fX8_copy_165 (N : Nat) : Nat → xW → Int32 → Int32 → Int32 → Int32 → Option (xW × Int32)
  | 0, _, _, _, _, _ => none
  | n + 1, w, x3, x4, x5, x6 => fX8_copy_165b N (fX8_copy_165 N n) w x3 x4 x5 x6
def fX8_copy_128b (N : Nat) (K128 : xW → Int32 → Int32 → Int32 → Int32 → Int32 → Int32 → Option (xW × Int32)) (w : xW) (x1 : Int32) (x2 : Int32) (x3 : Int32) (x4 : Int32) (x5 : Int32) (x6 : Int32) : Option (xW × Int32) :=
  if x5 ≤ x6 then
    fX8_copy_165 N N w x3 x4 x5 0
  else
  if ibd (((40 * x1) + x2) + x6) 160 = true then
  if ibd x6 40 = true then
  K128 (sL w 77 x6.toNatClampNeg (w.2 76 ((((40 * x1) + x2) + x6).toNatClampNeg))) x1 x2 x3 x4 x5 (x6 + 1)
  else none
  else none
def fX8_copy_128 (N : Nat) : Nat → xW → Int32 → Int32 → Int32 → Int32 → Int32 → Int32 → Option (xW × Int32)
  | 0, _, _, _, _, _, _, _ => none
  | n + 1, w, x1, x2, x3, x4, x5, x6 => fX8_copy_128b N (fX8_copy_128 N n) w x1 x2 x3 x4 x5 x6
def fX8_copy_0 (N : Nat) (w : xW) (x1 : Int32) (x2 : Int32) (x3 : Int32) (x4 : Int32) (x5 : Int32) : Option (xW × Int32) :=
  if (fX8_isSheet x1) = 0 then
    fX8_copy_14 N w
  else
  if (fX8_isSheet x3) = 0 then
    fX8_copy_14 N w
  else
  if ibd x1 4 = true then
  if (w.1 74 x1.toNatClampNeg) = 0 then
    fX8_copy_39 N w
  else
  if ibd x3 4 = true then
  if (w.1 74 x3.toNatClampNeg) = 0 then
    fX8_copy_39 N w
  else
  if (w.1 74 x1.toNatClampNeg) = (w.1 74 x3.toNatClampNeg) then
    if x2 < 0 then
      fX8_copy_118 N w
    else
    if x4 < 0 then
      fX8_copy_118 N w
    else
    if x5 < 0 then
      fX8_copy_118 N w
    else
    if 0 < (lg_cmp (((x2 : Int32).toInt64) + ((x5 : Int32).toInt64)) ((w.1 75 x1.toNatClampNeg : Int32).toInt64)) then
      fX8_copy_118 N w
    else
    if (lg_cmp (((x4 : Int32).toInt64) + ((x5 : Int32).toInt64)) ((w.1 75 x3.toNatClampNeg : Int32).toInt64)) ≤ 0 then
      fX8_copy_128 N N w x1 x2 x3 x4 x5 0
    else
    fX8_copy_118 N w
  else
  (fX8_finding w (-1000000003)).bind fun z3 =>
  some (z3.1, z3.2)
  else none
  else none
def fX8_copy (N : Nat) (w : xW) (x1 : Int32) (x2 : Int32) (x3 : Int32) (x4 : Int32) (x5 : Int32) : Option (xW × Int32) := fX8_copy_0 N w x1 x2 x3 x4 x5
set_option maxRecDepth 100000 in
set_option maxHeartbeats 4000000 in
theorem bX8_copy_14 {Γ : xΓ} (C : xOK Γ cX8_copy RX8 3) (hL : xn Γ = 7) {N : Nat} {w : xW} {r : xW × Int32} (E : xEnd Γ (some .int) r.1 (some (.int r.2))) (h : fX8_copy_14 N w = some r) : xG Γ w 14 [(0, .ref (xad Γ 55))] [] := by
  unfold fX8_copy_14 at h
  refine xr_aload_n C 14 rfl dX8_copy_14 ?_
  refine xr_ldc C 15 k_X8_98 dX8_copy_15 ?_
  obtain ⟨z13, q14, h⟩ := g_bind h
  refine xr_callV C 17 (mX8_finding q14) v_X8_finding ml_X8_125 (Nat.le_of_ble_eq_true rfl) (Nat.le_of_ble_eq_true rfl) (xrecv C rfl rfl) rfl rfl (Nat.le_of_ble_eq_true rfl) rfl dX8_copy_17 ?_
  cases h
  exact xr_iret C 20 E dX8_copy_20
set_option maxRecDepth 100000 in
set_option maxHeartbeats 4000000 in
theorem bX8_copy_39 {Γ : xΓ} (C : xOK Γ cX8_copy RX8 3) (hL : xn Γ = 7) {N : Nat} {w : xW} {r : xW × Int32} (E : xEnd Γ (some .int) r.1 (some (.int r.2))) (h : fX8_copy_39 N w = some r) : xG Γ w 39 [(0, .ref (xad Γ 55))] [] := by
  unfold fX8_copy_39 at h
  refine xr_aload_n C 39 rfl dX8_copy_39 ?_
  refine xr_ldcw C 40 k_X8_320 dX8_copy_40 ?_
  obtain ⟨z11, q12, h⟩ := g_bind h
  refine xr_callV C 43 (mX8_finding q12) v_X8_finding ml_X8_125 (Nat.le_of_ble_eq_true rfl) (Nat.le_of_ble_eq_true rfl) (xrecv C rfl rfl) rfl rfl (Nat.le_of_ble_eq_true rfl) rfl dX8_copy_43 ?_
  cases h
  exact xr_iret C 46 E dX8_copy_46
set_option maxRecDepth 100000 in
set_option maxHeartbeats 4000000 in
theorem bX8_copy_118 {Γ : xΓ} (C : xOK Γ cX8_copy RX8 3) (hL : xn Γ = 7) {N : Nat} {w : xW} {r : xW × Int32} (E : xEnd Γ (some .int) r.1 (some (.int r.2))) (h : fX8_copy_118 N w = some r) : xG Γ w 118 [(0, .ref (xad Γ 55))] [] := by
  unfold fX8_copy_118 at h
  refine xr_aload_n C 118 rfl dX8_copy_118 ?_
  refine xr_ldc C 119 k_X8_98 dX8_copy_119 ?_
  obtain ⟨z9, q10, h⟩ := g_bind h
  refine xr_callV C 121 (mX8_finding q10) v_X8_finding ml_X8_125 (Nat.le_of_ble_eq_true rfl) (Nat.le_of_ble_eq_true rfl) (xrecv C rfl rfl) rfl rfl (Nat.le_of_ble_eq_true rfl) rfl dX8_copy_121 ?_
  cases h
  exact xr_iret C 124 E dX8_copy_124
set_option maxRecDepth 100000 in
set_option maxHeartbeats 4000000 in
theorem bX8_copy_165b {Γ : xΓ} (C : xOK Γ cX8_copy RX8 3) (hL : xn Γ = 7) {N : Nat} {K165 : xW → Int32 → Int32 → Int32 → Int32 → Option (xW × Int32)} {w : xW} {x3 : Int32} {x4 : Int32} {x5 : Int32} {x6 : Int32} {r : xW × Int32} (E : xEnd Γ (some .int) r.1 (some (.int r.2))) (hK165 : ∀ (w : xW) (x3 : Int32) (x4 : Int32) (x5 : Int32) (x6 : Int32), K165 w x3 x4 x5 x6 = some r → xG Γ w 165 [(0, .ref (xad Γ 55)), (3, .int x3), (4, .int x4), (5, .int x5), (6, .int x6)] []) (h : fX8_copy_165b N K165 w x3 x4 x5 x6 = some r) : xG Γ w 165 [(0, .ref (xad Γ 55)), (3, .int x3), (4, .int x4), (5, .int x5), (6, .int x6)] [] := by
  unfold fX8_copy_165b at h
  refine xr_iload C 165 rfl dX8_copy_165 ?_
  refine xr_iload C 167 rfl dX8_copy_167 ?_
  refine xr_icmp_ge C 169 200 dX8_copy_169 rfl (fun q => ?_) (fun q => ?_)
  · have h := g_it h q
    refine xr_iload C 200 rfl dX8_copy_200 ?_
    cases h
    exact xr_iret C 202 E dX8_copy_202
  · have h := g_if h q
    refine xr_aload_n C 172 rfl dX8_copy_172 ?_
    refine xr_getR C 173 dX8_copy_173 fl_X8_91 rfl rfl ?_
    refine xr_bipush C 176 40 (by decide +kernel) dX8_copy_176 ?_
    refine xr_iload_n C 178 rfl dX8_copy_178 ?_
    refine xr_imul C 179 dX8_copy_179 ?_
    refine xr_iload C 180 rfl dX8_copy_180 ?_
    refine xr_iadd C 182 dX8_copy_182 ?_
    refine xr_iload C 183 rfl dX8_copy_183 ?_
    refine xr_iadd C 185 dX8_copy_185 ?_
    refine xr_aload_n C 186 rfl dX8_copy_186 ?_
    refine xr_getR C 187 dX8_copy_187 fl_X8_95 rfl rfl ?_
    refine xr_iload C 190 rfl dX8_copy_190 ?_
    obtain ⟨q7, h⟩ := g_ib h
    refine xr_lald C 192 x6.toNatClampNeg rfl dX8_copy_192 rfl (ibd_in q7) ?_
    obtain ⟨q8, h⟩ := g_ib h
    refine xr_last C 193 ((((40 * x3) + x4) + x6).toNatClampNeg) rfl dX8_copy_193 rfl (ibd_in q8) ?_
    refine xr_iinc C 194 1 (by decide +kernel) rfl dX8_copy_194 (xnb hL rfl) ?_
    refine xr_goto C 197 165 dX8_copy_197 rfl ?_
    exact xG.sub (hK165 _ _ _ _ _ h) ⟨rfl, rfl, rfl, rfl, rfl, trivial⟩
set_option maxRecDepth 100000 in
set_option maxHeartbeats 4000000 in
theorem bX8_copy_165 {Γ : xΓ} (C : xOK Γ cX8_copy RX8 3) (hL : xn Γ = 7) {N : Nat} {r : xW × Int32} (E : xEnd Γ (some .int) r.1 (some (.int r.2))) : ∀ (n : Nat) (w : xW) (x3 : Int32) (x4 : Int32) (x5 : Int32) (x6 : Int32), fX8_copy_165 N n w x3 x4 x5 x6 = some r → xG Γ w 165 [(0, .ref (xad Γ 55)), (3, .int x3), (4, .int x4), (5, .int x5), (6, .int x6)] []
  | 0, _, _, _, _, _, h => by cases h
  | n + 1, w, x3, x4, x5, x6, h => bX8_copy_165b C hL E (bX8_copy_165 C hL E n) h
set_option maxRecDepth 100000 in
set_option maxHeartbeats 4000000 in
theorem bX8_copy_128b {Γ : xΓ} (C : xOK Γ cX8_copy RX8 3) (hL : xn Γ = 7) {N : Nat} {K128 : xW → Int32 → Int32 → Int32 → Int32 → Int32 → Int32 → Option (xW × Int32)} {w : xW} {x1 : Int32} {x2 : Int32} {x3 : Int32} {x4 : Int32} {x5 : Int32} {x6 : Int32} {r : xW × Int32} (E : xEnd Γ (some .int) r.1 (some (.int r.2))) (hK128 : ∀ (w : xW) (x1 : Int32) (x2 : Int32) (x3 : Int32) (x4 : Int32) (x5 : Int32) (x6 : Int32), K128 w x1 x2 x3 x4 x5 x6 = some r → xG Γ w 128 [(0, .ref (xad Γ 55)), (1, .int x1), (2, .int x2), (3, .int x3), (4, .int x4), (5, .int x5), (6, .int x6)] []) (h : fX8_copy_128b N K128 w x1 x2 x3 x4 x5 x6 = some r) : xG Γ w 128 [(0, .ref (xad Γ 55)), (1, .int x1), (2, .int x2), (3, .int x3), (4, .int x4), (5, .int x5), (6, .int x6)] [] := by
  unfold fX8_copy_128b at h
  refine xr_iload C 128 rfl dX8_copy_128 ?_
  refine xr_iload C 130 rfl dX8_copy_130 ?_
  refine xr_icmp_ge C 132 162 dX8_copy_132 rfl (fun q => ?_) (fun q => ?_)
  · have h := g_it h q
    refine xr_iconst C 162 0 (by decide +kernel) dX8_copy_162 ?_
    refine xr_istore C 163 dX8_copy_163 (xnb hL rfl) ?_
    exact xG.sub (bX8_copy_165 C hL E N _ _ _ _ _ h) ⟨rfl, rfl, rfl, rfl, rfl, trivial⟩
  · have h := g_if h q
    refine xr_aload_n C 135 rfl dX8_copy_135 ?_
    refine xr_getR C 136 dX8_copy_136 fl_X8_95 rfl rfl ?_
    refine xr_iload C 139 rfl dX8_copy_139 ?_
    refine xr_aload_n C 141 rfl dX8_copy_141 ?_
    refine xr_getR C 142 dX8_copy_142 fl_X8_91 rfl rfl ?_
    refine xr_bipush C 145 40 (by decide +kernel) dX8_copy_145 ?_
    refine xr_iload_n C 147 rfl dX8_copy_147 ?_
    refine xr_imul C 148 dX8_copy_148 ?_
    refine xr_iload_n C 149 rfl dX8_copy_149 ?_
    refine xr_iadd C 150 dX8_copy_150 ?_
    refine xr_iload C 151 rfl dX8_copy_151 ?_
    refine xr_iadd C 153 dX8_copy_153 ?_
    obtain ⟨q5, h⟩ := g_ib h
    refine xr_lald C 154 ((((40 * x1) + x2) + x6).toNatClampNeg) rfl dX8_copy_154 rfl (ibd_in q5) ?_
    obtain ⟨q6, h⟩ := g_ib h
    refine xr_last C 155 x6.toNatClampNeg rfl dX8_copy_155 rfl (ibd_in q6) ?_
    refine xr_iinc C 156 1 (by decide +kernel) rfl dX8_copy_156 (xnb hL rfl) ?_
    refine xr_goto C 159 128 dX8_copy_159 rfl ?_
    exact xG.sub (hK128 _ _ _ _ _ _ _ h) ⟨rfl, rfl, rfl, rfl, rfl, rfl, rfl, trivial⟩
set_option maxRecDepth 100000 in
set_option maxHeartbeats 4000000 in
theorem bX8_copy_128 {Γ : xΓ} (C : xOK Γ cX8_copy RX8 3) (hL : xn Γ = 7) {N : Nat} {r : xW × Int32} (E : xEnd Γ (some .int) r.1 (some (.int r.2))) : ∀ (n : Nat) (w : xW) (x1 : Int32) (x2 : Int32) (x3 : Int32) (x4 : Int32) (x5 : Int32) (x6 : Int32), fX8_copy_128 N n w x1 x2 x3 x4 x5 x6 = some r → xG Γ w 128 [(0, .ref (xad Γ 55)), (1, .int x1), (2, .int x2), (3, .int x3), (4, .int x4), (5, .int x5), (6, .int x6)] []
  | 0, _, _, _, _, _, _, _, h => by cases h
  | n + 1, w, x1, x2, x3, x4, x5, x6, h => bX8_copy_128b C hL E (bX8_copy_128 C hL E n) h
set_option maxRecDepth 100000 in
set_option maxHeartbeats 4000000 in
theorem bX8_copy_0 {Γ : xΓ} (C : xOK Γ cX8_copy RX8 3) (hL : xn Γ = 7) {N : Nat} {w : xW} {x1 : Int32} {x2 : Int32} {x3 : Int32} {x4 : Int32} {x5 : Int32} {r : xW × Int32} (E : xEnd Γ (some .int) r.1 (some (.int r.2))) (h : fX8_copy_0 N w x1 x2 x3 x4 x5 = some r) : xG Γ w 0 [(0, .ref (xad Γ 55)), (1, .int x1), (2, .int x2), (3, .int x3), (4, .int x4), (5, .int x5)] [] := by
  unfold fX8_copy_0 at h
  refine xr_iload_n C 0 rfl dX8_copy_0 ?_
  refine xr_callS C 1 (mX8_isSheet rfl) v_X8_isSheet ml_X8_316 (Nat.le_of_ble_eq_true rfl) (Nat.le_of_ble_eq_true rfl) rfl rfl (Nat.le_of_ble_eq_true rfl) rfl dX8_copy_1 ?_
  refine xr_if_eq C 4 14 dX8_copy_4 rfl (fun q => ?_) (fun q => ?_)
  · have h := g_it h q
    exact xG.sub (bX8_copy_14 C hL E h) ⟨rfl, trivial⟩
  · have h := g_if h q
    refine xr_iload_n C 7 rfl dX8_copy_7 ?_
    refine xr_callS C 8 (mX8_isSheet rfl) v_X8_isSheet ml_X8_316 (Nat.le_of_ble_eq_true rfl) (Nat.le_of_ble_eq_true rfl) rfl rfl (Nat.le_of_ble_eq_true rfl) rfl dX8_copy_8 ?_
    refine xr_if_ne C 11 21 dX8_copy_11 rfl (fun q => ?_) (fun q => ?_)
    · have h := g_if h q
      refine xr_aload_n C 21 rfl dX8_copy_21 ?_
      refine xr_getR C 22 dX8_copy_22 fl_X8_85 rfl rfl ?_
      refine xr_iload_n C 25 rfl dX8_copy_25 ?_
      obtain ⟨q1, h⟩ := g_ib h
      refine xr_iald C 26 x1.toNatClampNeg rfl dX8_copy_26 rfl (ibd_in q1) ?_
      refine xr_if_eq C 27 39 dX8_copy_27 rfl (fun q => ?_) (fun q => ?_)
      · have h := g_it h q
        exact xG.sub (bX8_copy_39 C hL E h) ⟨rfl, trivial⟩
      · have h := g_if h q
        refine xr_aload_n C 30 rfl dX8_copy_30 ?_
        refine xr_getR C 31 dX8_copy_31 fl_X8_85 rfl rfl ?_
        refine xr_iload_n C 34 rfl dX8_copy_34 ?_
        obtain ⟨q2, h⟩ := g_ib h
        refine xr_iald C 35 x3.toNatClampNeg rfl dX8_copy_35 rfl (ibd_in q2) ?_
        refine xr_if_ne C 36 47 dX8_copy_36 rfl (fun q => ?_) (fun q => ?_)
        · have h := g_if h q
          refine xr_aload_n C 47 rfl dX8_copy_47 ?_
          refine xr_getR C 48 dX8_copy_48 fl_X8_85 rfl rfl ?_
          refine xr_iload_n C 51 rfl dX8_copy_51 ?_
          refine xr_iald C 52 x1.toNatClampNeg rfl dX8_copy_52 rfl (ibd_in q1) ?_
          refine xr_aload_n C 53 rfl dX8_copy_53 ?_
          refine xr_getR C 54 dX8_copy_54 fl_X8_85 rfl rfl ?_
          refine xr_iload_n C 57 rfl dX8_copy_57 ?_
          refine xr_iald C 58 x3.toNatClampNeg rfl dX8_copy_58 rfl (ibd_in q2) ?_
          refine xr_icmp_eq C 59 69 dX8_copy_59 rfl (fun q => ?_) (fun q => ?_)
          · have h := g_it h q
            refine xr_iload_n C 69 rfl dX8_copy_69 ?_
            refine xr_if_lt C 70 118 dX8_copy_70 rfl (fun q => ?_) (fun q => ?_)
            · have h := g_it h q
              exact xG.sub (bX8_copy_118 C hL E h) ⟨rfl, trivial⟩
            · have h := g_if h q
              refine xr_iload C 73 rfl dX8_copy_73 ?_
              refine xr_if_lt C 75 118 dX8_copy_75 rfl (fun q => ?_) (fun q => ?_)
              · have h := g_it h q
                exact xG.sub (bX8_copy_118 C hL E h) ⟨rfl, trivial⟩
              · have h := g_if h q
                refine xr_iload C 78 rfl dX8_copy_78 ?_
                refine xr_if_lt C 80 118 dX8_copy_80 rfl (fun q => ?_) (fun q => ?_)
                · have h := g_it h q
                  exact xG.sub (bX8_copy_118 C hL E h) ⟨rfl, trivial⟩
                · have h := g_if h q
                  refine xr_iload_n C 83 rfl dX8_copy_83 ?_
                  refine xr_i2l C 84 dX8_copy_84 ?_
                  refine xr_iload C 85 rfl dX8_copy_85 ?_
                  refine xr_i2l C 87 dX8_copy_87 ?_
                  refine xr_ladd C 88 dX8_copy_88 ?_
                  refine xr_aload_n C 89 rfl dX8_copy_89 ?_
                  refine xr_getR C 90 dX8_copy_90 fl_X8_88 rfl rfl ?_
                  refine xr_iload_n C 93 rfl dX8_copy_93 ?_
                  refine xr_iald C 94 x1.toNatClampNeg rfl dX8_copy_94 rfl (ibd_in q1) ?_
                  refine xr_i2l C 95 dX8_copy_95 ?_
                  refine xr_lcmp C 96 dX8_copy_96 ?_
                  refine xr_if_gt C 97 118 dX8_copy_97 rfl (fun q => ?_) (fun q => ?_)
                  · have h := g_it h q
                    exact xG.sub (bX8_copy_118 C hL E h) ⟨rfl, trivial⟩
                  · have h := g_if h q
                    refine xr_iload C 100 rfl dX8_copy_100 ?_
                    refine xr_i2l C 102 dX8_copy_102 ?_
                    refine xr_iload C 103 rfl dX8_copy_103 ?_
                    refine xr_i2l C 105 dX8_copy_105 ?_
                    refine xr_ladd C 106 dX8_copy_106 ?_
                    refine xr_aload_n C 107 rfl dX8_copy_107 ?_
                    refine xr_getR C 108 dX8_copy_108 fl_X8_88 rfl rfl ?_
                    refine xr_iload_n C 111 rfl dX8_copy_111 ?_
                    refine xr_iald C 112 x3.toNatClampNeg rfl dX8_copy_112 rfl (ibd_in q2) ?_
                    refine xr_i2l C 113 dX8_copy_113 ?_
                    refine xr_lcmp C 114 dX8_copy_114 ?_
                    refine xr_if_le C 115 125 dX8_copy_115 rfl (fun q => ?_) (fun q => ?_)
                    · have h := g_it h q
                      refine xr_iconst C 125 0 (by decide +kernel) dX8_copy_125 ?_
                      refine xr_istore C 126 dX8_copy_126 (xnb hL rfl) ?_
                      exact xG.sub (bX8_copy_128 C hL E N _ _ _ _ _ _ _ h) ⟨rfl, rfl, rfl, rfl, rfl, rfl, rfl, trivial⟩
                    · have h := g_if h q
                      exact xG.sub (bX8_copy_118 C hL E h) ⟨rfl, trivial⟩
          · have h := g_if h q
            refine xr_aload_n C 62 rfl dX8_copy_62 ?_
            refine xr_ldc C 63 k_X8_166 dX8_copy_63 ?_
            obtain ⟨z3, q4, h⟩ := g_bind h
            refine xr_callV C 65 (mX8_finding q4) v_X8_finding ml_X8_125 (Nat.le_of_ble_eq_true rfl) (Nat.le_of_ble_eq_true rfl) (xrecv C rfl rfl) rfl rfl (Nat.le_of_ble_eq_true rfl) rfl dX8_copy_65 ?_
            cases h
            exact xr_iret C 68 E dX8_copy_68
        · have h := g_it h q
          exact xG.sub (bX8_copy_39 C hL E h) ⟨rfl, trivial⟩
    · have h := g_it h q
      exact xG.sub (bX8_copy_14 C hL E h) ⟨rfl, trivial⟩
set_option maxRecDepth 100000 in
set_option maxHeartbeats 4000000 in
theorem mX8_copy {l : Launch} {ad : Nat → Nat} {G : gEnv} {N : Nat} {w : xW} {x1 : Int32} {x2 : Int32} {x3 : Int32} {x4 : Int32} {x5 : Int32} {r : xW × Int32} (h : fX8_copy N w x1 x2 x3 x4 x5 = some r) : xCt l ad G 3 yX8_copy cX8_copy 7 (some .int) [.ref (ad 55), .int x1, .int x2, .int x3, .int x4, .int x5] w r.1 (some (.int r.2)) := xCt.of RX8 rfl (by decide +kernel) (Nat.le_of_ble_eq_true rfl) (fun Γ el ea eG eL C E => by
    subst el
    subst ea
    subst eG
    unfold fX8_copy at h
    exact xG.sub (bX8_copy_0 C eL  E h) ⟨rfl, rfl, rfl, rfl, rfl, rfl, trivial⟩)
def fX7_lays_106 (N : Nat) (K38 : xW → Int32 → Int32 → Int32 → Option (xW × Int32)) (w : xW) (x1 : Int32) (x2 : Int32) (x3 : Int32) : Option (xW × Int32) :=
  K38 w x1 x2 (x3 + 1)
def fX7_lays_38b (N : Nat) (K38 : xW → Int32 → Int32 → Int32 → Option (xW × Int32)) (w : xW) (x1 : Int32) (x2 : Int32) (x3 : Int32) : Option (xW × Int32) :=
  if ibd x1 4 = true then
  if (w.1 (47 + 2 * x1.toNatClampNeg) 1) ≤ x3 then
    some (w, x2)
  else
  if (w.1 1 3) ≤ x3 then
    some (w, x2)
  else
  if ibd x3 40 = true then
  if (lg_cmp (w.2 (48 + 2 * x1.toNatClampNeg) x3.toNatClampNeg) 0) < 0 then
    fX7_lays_106 N K38 w x1 x2 x3
  else
  if 0 ≤ (lg_cmp (w.2 (48 + 2 * x1.toNatClampNeg) x3.toNatClampNeg) 4) then
    fX7_lays_106 N K38 w x1 x2 x3
  else
  if ibd x3 8 = true then
  fX7_lays_106 N K38 (sI w 6 x3.toNatClampNeg ((w.2 (48 + 2 * x1.toNatClampNeg) x3.toNatClampNeg : Int64).toInt32)) x1 (x2 + 1) x3
  else none
  else none
  else none
def fX7_lays_38 (N : Nat) : Nat → xW → Int32 → Int32 → Int32 → Option (xW × Int32)
  | 0, _, _, _, _ => none
  | n + 1, w, x1, x2, x3 => fX7_lays_38b N (fX7_lays_38 N n) w x1 x2 x3
def fX7_lays_0 (N : Nat) (w : xW) (x1 : Int32) : Option (xW × Int32) :=
  if (fX7_isSheet x1) = 0 then
    (fX7_refuse w (-1000000001)).bind fun z6 =>
    some (z6.1, z6.2)
  else
  if ibd x1 4 = true then
  (fX2_isMissing w x1.toNatClampNeg).bind fun z2 =>
  if z2 = 0 then
    fX7_lays_38 N N w x1 0 0
  else
  (fX7_refuse w (-1000000006)).bind fun z4 =>
  some (z4.1, z4.2)
  else none
def fX7_lays (N : Nat) (w : xW) (x1 : Int32) : Option (xW × Int32) := fX7_lays_0 N w x1
set_option maxRecDepth 100000 in
set_option maxHeartbeats 4000000 in
theorem bX7_lays_106 {Γ : xΓ} (C : xOK Γ cX7_lays RX7 2) (hL : xn Γ = 6) {N : Nat} {K38 : xW → Int32 → Int32 → Int32 → Option (xW × Int32)} {w : xW} {x1 : Int32} {x2 : Int32} {x3 : Int32} {r : xW × Int32} (E : xEnd Γ (some .int) r.1 (some (.int r.2))) (hK38 : ∀ (w : xW) (x1 : Int32) (x2 : Int32) (x3 : Int32), K38 w x1 x2 x3 = some r → xG Γ w 38 [(0, .ref (xad Γ 0)), (1, .int x1), (2, .int x2), (3, .int x3)] []) (h : fX7_lays_106 N K38 w x1 x2 x3 = some r) : xG Γ w 106 [(0, .ref (xad Γ 0)), (1, .int x1), (2, .int x2), (3, .int x3)] [] := by
  unfold fX7_lays_106 at h
  refine xr_iinc C 106 1 (by decide +kernel) rfl dX7_lays_106 (xnb hL rfl) ?_
  refine xr_goto C 109 38 dX7_lays_109 rfl ?_
  exact xG.sub (hK38 _ _ _ _ h) ⟨rfl, rfl, rfl, rfl, trivial⟩
set_option maxRecDepth 100000 in
set_option maxHeartbeats 4000000 in
theorem bX7_lays_38b {Γ : xΓ} (C : xOK Γ cX7_lays RX7 2) (hL : xn Γ = 6) {N : Nat} {K38 : xW → Int32 → Int32 → Int32 → Option (xW × Int32)} {w : xW} {x1 : Int32} {x2 : Int32} {x3 : Int32} {r : xW × Int32} (E : xEnd Γ (some .int) r.1 (some (.int r.2))) (hK38 : ∀ (w : xW) (x1 : Int32) (x2 : Int32) (x3 : Int32), K38 w x1 x2 x3 = some r → xG Γ w 38 [(0, .ref (xad Γ 0)), (1, .int x1), (2, .int x2), (3, .int x3)] []) (h : fX7_lays_38b N K38 w x1 x2 x3 = some r) : xG Γ w 38 [(0, .ref (xad Γ 0)), (1, .int x1), (2, .int x2), (3, .int x3)] [] := by
  unfold fX7_lays_38b at h
  refine xr_iload_n C 38 rfl dX7_lays_38 ?_
  refine xr_aload_n C 39 rfl dX7_lays_39 ?_
  refine xr_getR C 40 dX7_lays_40 fl_X7_54 rfl rfl ?_
  refine xr_iload_n C 43 rfl dX7_lays_43 ?_
  obtain ⟨q8, h⟩ := g_ib h
  refine xr_aaldS C 44 dX7_lays_44 rfl (ibd_in q8) ?_
  refine xr_getI C 45 dX7_lays_45 fl_X7_257 (xsh_so (ibd_lt q8)) rfl ?_
  refine xr_icmp_ge C 48 112 dX7_lays_48 rfl (fun q => ?_) (fun q => ?_)
  · have h := g_it h q
    refine xr_iload_n C 112 rfl dX7_lays_112 ?_
    cases h
    exact xr_iret C 113 E dX7_lays_113
  · have h := g_if h q
    refine xr_iload_n C 51 rfl dX7_lays_51 ?_
    refine xr_aload_n C 52 rfl dX7_lays_52 ?_
    refine xr_getR C 53 dX7_lays_53 fl_X7_10 rfl rfl ?_
    refine xr_getI C 56 dX7_lays_56 fl_X7_127 rfl rfl ?_
    refine xr_icmp_ge C 59 112 dX7_lays_59 rfl (fun q => ?_) (fun q => ?_)
    · have h := g_it h q
      refine xr_iload_n C 112 rfl dX7_lays_112 ?_
      cases h
      exact xr_iret C 113 E dX7_lays_113
    · have h := g_if h q
      refine xr_aload_n C 62 rfl dX7_lays_62 ?_
      refine xr_getR C 63 dX7_lays_63 fl_X7_54 rfl rfl ?_
      refine xr_iload_n C 66 rfl dX7_lays_66 ?_
      refine xr_aaldS C 67 dX7_lays_67 rfl (ibd_in q8) ?_
      refine xr_getR C 68 dX7_lays_68 fl_X7_260 (xsh_so (ibd_lt q8)) rfl ?_
      refine xr_iload_n C 71 rfl dX7_lays_71 ?_
      obtain ⟨q9, h⟩ := g_ib h
      refine xr_lald C 72 x3.toNatClampNeg rfl dX7_lays_72 (xsh_sa (ibd_lt q8)) (ibd_in q9) ?_
      refine xr_lstore C 73 dX7_lays_73 (xnb hL rfl) ?_
      refine xr_lload C 75 rfl dX7_lays_75 ?_
      refine xr_lconst C 77 0 (by decide +kernel) dX7_lays_77 ?_
      refine xr_lcmp C 78 dX7_lays_78 ?_
      refine xr_if_lt C 79 106 dX7_lays_79 rfl (fun q => ?_) (fun q => ?_)
      · have h := g_it h q
        exact xG.sub (bX7_lays_106 C hL E hK38 h) ⟨rfl, rfl, rfl, rfl, trivial⟩
      · have h := g_if h q
        refine xr_lload C 82 rfl dX7_lays_82 ?_
        refine xr_ldc2 C 84 k_X7_280 dX7_lays_84 ?_
        refine xr_lcmp C 87 dX7_lays_87 ?_
        refine xr_if_ge C 88 106 dX7_lays_88 rfl (fun q => ?_) (fun q => ?_)
        · have h := g_it h q
          exact xG.sub (bX7_lays_106 C hL E hK38 h) ⟨rfl, rfl, rfl, rfl, trivial⟩
        · have h := g_if h q
          refine xr_aload_n C 91 rfl dX7_lays_91 ?_
          refine xr_getR C 92 dX7_lays_92 fl_X7_10 rfl rfl ?_
          refine xr_getR C 95 dX7_lays_95 fl_X7_141 rfl rfl ?_
          refine xr_iload_n C 98 rfl dX7_lays_98 ?_
          refine xr_lload C 99 rfl dX7_lays_99 ?_
          refine xr_l2i C 101 dX7_lays_101 ?_
          obtain ⟨q10, h⟩ := g_ib h
          refine xr_iast C 102 x3.toNatClampNeg rfl dX7_lays_102 rfl (ibd_in q10) ?_
          refine xr_iinc C 103 1 (by decide +kernel) rfl dX7_lays_103 (xnb hL rfl) ?_
          exact xG.sub (bX7_lays_106 C hL E hK38 h) ⟨rfl, rfl, rfl, rfl, trivial⟩
set_option maxRecDepth 100000 in
set_option maxHeartbeats 4000000 in
theorem bX7_lays_38 {Γ : xΓ} (C : xOK Γ cX7_lays RX7 2) (hL : xn Γ = 6) {N : Nat} {r : xW × Int32} (E : xEnd Γ (some .int) r.1 (some (.int r.2))) : ∀ (n : Nat) (w : xW) (x1 : Int32) (x2 : Int32) (x3 : Int32), fX7_lays_38 N n w x1 x2 x3 = some r → xG Γ w 38 [(0, .ref (xad Γ 0)), (1, .int x1), (2, .int x2), (3, .int x3)] []
  | 0, _, _, _, _, h => by cases h
  | n + 1, w, x1, x2, x3, h => bX7_lays_38b C hL E (bX7_lays_38 C hL E n) h
set_option maxRecDepth 100000 in
set_option maxHeartbeats 4000000 in
theorem bX7_lays_0 {Γ : xΓ} (C : xOK Γ cX7_lays RX7 2) (hL : xn Γ = 6) {N : Nat} {w : xW} {x1 : Int32} {r : xW × Int32} (E : xEnd Γ (some .int) r.1 (some (.int r.2))) (h : fX7_lays_0 N w x1 = some r) : xG Γ w 0 [(0, .ref (xad Γ 0)), (1, .int x1)] [] := by
  unfold fX7_lays_0 at h
  refine xr_iload_n C 0 rfl dX7_lays_0 ?_
  refine xr_callS C 1 (mX7_isSheet rfl) v_X7_isSheet ml_X7_243 (Nat.le_of_ble_eq_true rfl) (Nat.le_of_ble_eq_true rfl) rfl rfl (Nat.le_of_ble_eq_true rfl) rfl dX7_lays_1 ?_
  refine xr_if_ne C 4 14 dX7_lays_4 rfl (fun q => ?_) (fun q => ?_)
  · have h := g_if h q
    refine xr_aload_n C 14 rfl dX7_lays_14 ?_
    refine xr_getR C 15 dX7_lays_15 fl_X7_54 rfl rfl ?_
    refine xr_iload_n C 18 rfl dX7_lays_18 ?_
    obtain ⟨q1, h⟩ := g_ib h
    refine xr_aaldS C 19 dX7_lays_19 rfl (ibd_in q1) ?_
    obtain ⟨z2, q3, h⟩ := g_bind h
    refine xr_callV C 20 (mX2_isMissing q3) v_X2_isMissing ml_X7_252 (Nat.le_of_ble_eq_true rfl) (Nat.le_of_ble_eq_true rfl) (xrecv C (xsh_so (ibd_lt q1)) rfl) rfl rfl (Nat.le_of_ble_eq_true rfl) rfl dX7_lays_20 ?_
    refine xr_if_eq C 23 34 dX7_lays_23 rfl (fun q => ?_) (fun q => ?_)
    · have h := g_it h q
      refine xr_iconst C 34 0 (by decide +kernel) dX7_lays_34 ?_
      refine xr_istore_n C 35 dX7_lays_35 (xnb hL rfl) ?_
      refine xr_iconst C 36 0 (by decide +kernel) dX7_lays_36 ?_
      refine xr_istore_n C 37 dX7_lays_37 (xnb hL rfl) ?_
      exact xG.sub (bX7_lays_38 C hL E N _ _ _ _ h) ⟨rfl, rfl, rfl, rfl, trivial⟩
    · have h := g_if h q
      refine xr_aload_n C 26 rfl dX7_lays_26 ?_
      refine xr_ldcw C 27 k_X7_256 dX7_lays_27 ?_
      obtain ⟨z4, q5, h⟩ := g_bind h
      refine xr_callV C 30 (mX7_refuse q5) v_X7_refuse ml_X7_70 (Nat.le_of_ble_eq_true rfl) (Nat.le_of_ble_eq_true rfl) (xrecv C rfl rfl) rfl rfl (Nat.le_of_ble_eq_true rfl) rfl dX7_lays_30 ?_
      cases h
      exact xr_iret C 33 E dX7_lays_33
  · have h := g_it h q
    refine xr_aload_n C 7 rfl dX7_lays_7 ?_
    refine xr_ldc C 8 k_X7_69 dX7_lays_8 ?_
    obtain ⟨z6, q7, h⟩ := g_bind h
    refine xr_callV C 10 (mX7_refuse q7) v_X7_refuse ml_X7_70 (Nat.le_of_ble_eq_true rfl) (Nat.le_of_ble_eq_true rfl) (xrecv C rfl rfl) rfl rfl (Nat.le_of_ble_eq_true rfl) rfl dX7_lays_10 ?_
    cases h
    exact xr_iret C 13 E dX7_lays_13
set_option maxRecDepth 100000 in
set_option maxHeartbeats 4000000 in
theorem mX7_lays {l : Launch} {ad : Nat → Nat} {G : gEnv} {N : Nat} {w : xW} {x1 : Int32} {r : xW × Int32} (h : fX7_lays N w x1 = some r) : xCt l ad G 2 yX7_lays cX7_lays 6 (some .int) [.ref (ad 0), .int x1] w r.1 (some (.int r.2)) := xCt.of RX7 rfl (by decide +kernel) (Nat.le_of_ble_eq_true rfl) (fun Γ el ea eG eL C E => by
    subst el
    subst ea
    subst eG
    unfold fX7_lays at h
    exact xG.sub (bX7_lays_0 C eL  E h) ⟨rfl, rfl, trivial⟩)
def fX8_lays_104 (N : Nat) (K35 : xW → Int32 → Int32 → Int32 → Option (xW × Int32)) (w : xW) (x1 : Int32) (x2 : Int32) (x3 : Int32) : Option (xW × Int32) :=
  K35 w x1 x2 (x3 + 1)
def fX8_lays_35b (N : Nat) (K35 : xW → Int32 → Int32 → Int32 → Option (xW × Int32)) (w : xW) (x1 : Int32) (x2 : Int32) (x3 : Int32) : Option (xW × Int32) :=
  if ibd x1 4 = true then
  if (w.1 75 x1.toNatClampNeg) ≤ x3 then
    some (w, x2)
  else
  if (w.1 56 9) ≤ x3 then
    some (w, x2)
  else
  if ibd ((40 * x1) + x3) 160 = true then
  if (lg_cmp (w.2 76 (((40 * x1) + x3).toNatClampNeg)) 0) < 0 then
    fX8_lays_104 N K35 w x1 x2 x3
  else
  if 0 ≤ (lg_cmp (w.2 76 (((40 * x1) + x3).toNatClampNeg)) 4) then
    fX8_lays_104 N K35 w x1 x2 x3
  else
  if ibd ((11 + (2 * x3)) + 1) 51 = true then
  fX8_lays_104 N K35 (sI w 56 (((11 + (2 * x3)) + 1).toNatClampNeg) ((w.2 76 (((40 * x1) + x3).toNatClampNeg) : Int64).toInt32)) x1 (x2 + 1) x3
  else none
  else none
  else none
def fX8_lays_35 (N : Nat) : Nat → xW → Int32 → Int32 → Int32 → Option (xW × Int32)
  | 0, _, _, _, _ => none
  | n + 1, w, x1, x2, x3 => fX8_lays_35b N (fX8_lays_35 N n) w x1 x2 x3
def fX8_lays_0 (N : Nat) (w : xW) (x1 : Int32) : Option (xW × Int32) :=
  if (fX8_isSheet x1) = 0 then
    (fX8_finding w (-1000000001)).bind fun z4 =>
    some (z4.1, z4.2)
  else
  if ibd x1 4 = true then
  if (w.1 74 x1.toNatClampNeg) = 0 then
    (fX8_finding w (-1000000006)).bind fun z2 =>
    some (z2.1, z2.2)
  else
  fX8_lays_35 N N w x1 0 0
  else none
def fX8_lays (N : Nat) (w : xW) (x1 : Int32) : Option (xW × Int32) := fX8_lays_0 N w x1
set_option maxRecDepth 100000 in
set_option maxHeartbeats 4000000 in
theorem bX8_lays_104 {Γ : xΓ} (C : xOK Γ cX8_lays RX8 3) (hL : xn Γ = 6) {N : Nat} {K35 : xW → Int32 → Int32 → Int32 → Option (xW × Int32)} {w : xW} {x1 : Int32} {x2 : Int32} {x3 : Int32} {r : xW × Int32} (E : xEnd Γ (some .int) r.1 (some (.int r.2))) (hK35 : ∀ (w : xW) (x1 : Int32) (x2 : Int32) (x3 : Int32), K35 w x1 x2 x3 = some r → xG Γ w 35 [(0, .ref (xad Γ 55)), (1, .int x1), (2, .int x2), (3, .int x3)] []) (h : fX8_lays_104 N K35 w x1 x2 x3 = some r) : xG Γ w 104 [(0, .ref (xad Γ 55)), (1, .int x1), (2, .int x2), (3, .int x3)] [] := by
  unfold fX8_lays_104 at h
  refine xr_iinc C 104 1 (by decide +kernel) rfl dX8_lays_104 (xnb hL rfl) ?_
  refine xr_goto C 107 35 dX8_lays_107 rfl ?_
  exact xG.sub (hK35 _ _ _ _ h) ⟨rfl, rfl, rfl, rfl, trivial⟩
set_option maxRecDepth 100000 in
set_option maxHeartbeats 4000000 in
theorem bX8_lays_35b {Γ : xΓ} (C : xOK Γ cX8_lays RX8 3) (hL : xn Γ = 6) {N : Nat} {K35 : xW → Int32 → Int32 → Int32 → Option (xW × Int32)} {w : xW} {x1 : Int32} {x2 : Int32} {x3 : Int32} {r : xW × Int32} (E : xEnd Γ (some .int) r.1 (some (.int r.2))) (hK35 : ∀ (w : xW) (x1 : Int32) (x2 : Int32) (x3 : Int32), K35 w x1 x2 x3 = some r → xG Γ w 35 [(0, .ref (xad Γ 55)), (1, .int x1), (2, .int x2), (3, .int x3)] []) (h : fX8_lays_35b N K35 w x1 x2 x3 = some r) : xG Γ w 35 [(0, .ref (xad Γ 55)), (1, .int x1), (2, .int x2), (3, .int x3)] [] := by
  unfold fX8_lays_35b at h
  refine xr_iload_n C 35 rfl dX8_lays_35 ?_
  refine xr_aload_n C 36 rfl dX8_lays_36 ?_
  refine xr_getR C 37 dX8_lays_37 fl_X8_88 rfl rfl ?_
  refine xr_iload_n C 40 rfl dX8_lays_40 ?_
  obtain ⟨q6, h⟩ := g_ib h
  refine xr_iald C 41 x1.toNatClampNeg rfl dX8_lays_41 rfl (ibd_in q6) ?_
  refine xr_icmp_ge C 42 110 dX8_lays_42 rfl (fun q => ?_) (fun q => ?_)
  · have h := g_it h q
    refine xr_iload_n C 110 rfl dX8_lays_110 ?_
    cases h
    exact xr_iret C 111 E dX8_lays_111
  · have h := g_if h q
    refine xr_iload_n C 45 rfl dX8_lays_45 ?_
    refine xr_aload_n C 46 rfl dX8_lays_46 ?_
    refine xr_getR C 47 dX8_lays_47 fl_X8_9 rfl rfl ?_
    refine xr_bipush C 50 9 (by decide +kernel) dX8_lays_50 ?_
    refine xr_iald C 52 9 (by decide +kernel) dX8_lays_52 rfl (ibd_in (by decide +kernel)) ?_
    refine xr_icmp_ge C 53 110 dX8_lays_53 rfl (fun q => ?_) (fun q => ?_)
    · have h := g_it h q
      refine xr_iload_n C 110 rfl dX8_lays_110 ?_
      cases h
      exact xr_iret C 111 E dX8_lays_111
    · have h := g_if h q
      refine xr_aload_n C 56 rfl dX8_lays_56 ?_
      refine xr_getR C 57 dX8_lays_57 fl_X8_91 rfl rfl ?_
      refine xr_bipush C 60 40 (by decide +kernel) dX8_lays_60 ?_
      refine xr_iload_n C 62 rfl dX8_lays_62 ?_
      refine xr_imul C 63 dX8_lays_63 ?_
      refine xr_iload_n C 64 rfl dX8_lays_64 ?_
      refine xr_iadd C 65 dX8_lays_65 ?_
      obtain ⟨q7, h⟩ := g_ib h
      refine xr_lald C 66 (((40 * x1) + x3).toNatClampNeg) rfl dX8_lays_66 rfl (ibd_in q7) ?_
      refine xr_lstore C 67 dX8_lays_67 (xnb hL rfl) ?_
      refine xr_lload C 69 rfl dX8_lays_69 ?_
      refine xr_lconst C 71 0 (by decide +kernel) dX8_lays_71 ?_
      refine xr_lcmp C 72 dX8_lays_72 ?_
      refine xr_if_lt C 73 104 dX8_lays_73 rfl (fun q => ?_) (fun q => ?_)
      · have h := g_it h q
        exact xG.sub (bX8_lays_104 C hL E hK35 h) ⟨rfl, rfl, rfl, rfl, trivial⟩
      · have h := g_if h q
        refine xr_lload C 76 rfl dX8_lays_76 ?_
        refine xr_ldc2 C 78 k_X8_325 dX8_lays_78 ?_
        refine xr_lcmp C 81 dX8_lays_81 ?_
        refine xr_if_ge C 82 104 dX8_lays_82 rfl (fun q => ?_) (fun q => ?_)
        · have h := g_it h q
          exact xG.sub (bX8_lays_104 C hL E hK35 h) ⟨rfl, rfl, rfl, rfl, trivial⟩
        · have h := g_if h q
          refine xr_aload_n C 85 rfl dX8_lays_85 ?_
          refine xr_getR C 86 dX8_lays_86 fl_X8_9 rfl rfl ?_
          refine xr_bipush C 89 11 (by decide +kernel) dX8_lays_89 ?_
          refine xr_iconst C 91 2 (by decide +kernel) dX8_lays_91 ?_
          refine xr_iload_n C 92 rfl dX8_lays_92 ?_
          refine xr_imul C 93 dX8_lays_93 ?_
          refine xr_iadd C 94 dX8_lays_94 ?_
          refine xr_iconst C 95 1 (by decide +kernel) dX8_lays_95 ?_
          refine xr_iadd C 96 dX8_lays_96 ?_
          refine xr_lload C 97 rfl dX8_lays_97 ?_
          refine xr_l2i C 99 dX8_lays_99 ?_
          obtain ⟨q8, h⟩ := g_ib h
          refine xr_iast C 100 (((11 + (2 * x3)) + 1).toNatClampNeg) rfl dX8_lays_100 rfl (ibd_in q8) ?_
          refine xr_iinc C 101 1 (by decide +kernel) rfl dX8_lays_101 (xnb hL rfl) ?_
          exact xG.sub (bX8_lays_104 C hL E hK35 h) ⟨rfl, rfl, rfl, rfl, trivial⟩
set_option maxRecDepth 100000 in
set_option maxHeartbeats 4000000 in
theorem bX8_lays_35 {Γ : xΓ} (C : xOK Γ cX8_lays RX8 3) (hL : xn Γ = 6) {N : Nat} {r : xW × Int32} (E : xEnd Γ (some .int) r.1 (some (.int r.2))) : ∀ (n : Nat) (w : xW) (x1 : Int32) (x2 : Int32) (x3 : Int32), fX8_lays_35 N n w x1 x2 x3 = some r → xG Γ w 35 [(0, .ref (xad Γ 55)), (1, .int x1), (2, .int x2), (3, .int x3)] []
  | 0, _, _, _, _, h => by cases h
  | n + 1, w, x1, x2, x3, h => bX8_lays_35b C hL E (bX8_lays_35 C hL E n) h
set_option maxRecDepth 100000 in
set_option maxHeartbeats 4000000 in
theorem bX8_lays_0 {Γ : xΓ} (C : xOK Γ cX8_lays RX8 3) (hL : xn Γ = 6) {N : Nat} {w : xW} {x1 : Int32} {r : xW × Int32} (E : xEnd Γ (some .int) r.1 (some (.int r.2))) (h : fX8_lays_0 N w x1 = some r) : xG Γ w 0 [(0, .ref (xad Γ 55)), (1, .int x1)] [] := by
  unfold fX8_lays_0 at h
  refine xr_iload_n C 0 rfl dX8_lays_0 ?_
  refine xr_callS C 1 (mX8_isSheet rfl) v_X8_isSheet ml_X8_316 (Nat.le_of_ble_eq_true rfl) (Nat.le_of_ble_eq_true rfl) rfl rfl (Nat.le_of_ble_eq_true rfl) rfl dX8_lays_1 ?_
  refine xr_if_ne C 4 14 dX8_lays_4 rfl (fun q => ?_) (fun q => ?_)
  · have h := g_if h q
    refine xr_aload_n C 14 rfl dX8_lays_14 ?_
    refine xr_getR C 15 dX8_lays_15 fl_X8_85 rfl rfl ?_
    refine xr_iload_n C 18 rfl dX8_lays_18 ?_
    obtain ⟨q1, h⟩ := g_ib h
    refine xr_iald C 19 x1.toNatClampNeg rfl dX8_lays_19 rfl (ibd_in q1) ?_
    refine xr_if_ne C 20 31 dX8_lays_20 rfl (fun q => ?_) (fun q => ?_)
    · have h := g_if h q
      refine xr_iconst C 31 0 (by decide +kernel) dX8_lays_31 ?_
      refine xr_istore_n C 32 dX8_lays_32 (xnb hL rfl) ?_
      refine xr_iconst C 33 0 (by decide +kernel) dX8_lays_33 ?_
      refine xr_istore_n C 34 dX8_lays_34 (xnb hL rfl) ?_
      exact xG.sub (bX8_lays_35 C hL E N _ _ _ _ h) ⟨rfl, rfl, rfl, rfl, trivial⟩
    · have h := g_it h q
      refine xr_aload_n C 23 rfl dX8_lays_23 ?_
      refine xr_ldcw C 24 k_X8_320 dX8_lays_24 ?_
      obtain ⟨z2, q3, h⟩ := g_bind h
      refine xr_callV C 27 (mX8_finding q3) v_X8_finding ml_X8_125 (Nat.le_of_ble_eq_true rfl) (Nat.le_of_ble_eq_true rfl) (xrecv C rfl rfl) rfl rfl (Nat.le_of_ble_eq_true rfl) rfl dX8_lays_27 ?_
      cases h
      exact xr_iret C 30 E dX8_lays_30
  · have h := g_it h q
    refine xr_aload_n C 7 rfl dX8_lays_7 ?_
    refine xr_ldc C 8 k_X8_98 dX8_lays_8 ?_
    obtain ⟨z4, q5, h⟩ := g_bind h
    refine xr_callV C 10 (mX8_finding q5) v_X8_finding ml_X8_125 (Nat.le_of_ble_eq_true rfl) (Nat.le_of_ble_eq_true rfl) (xrecv C rfl rfl) rfl rfl (Nat.le_of_ble_eq_true rfl) rfl dX8_lays_10 ?_
    cases h
    exact xr_iret C 13 E dX8_lays_13
set_option maxRecDepth 100000 in
set_option maxHeartbeats 4000000 in
theorem mX8_lays {l : Launch} {ad : Nat → Nat} {G : gEnv} {N : Nat} {w : xW} {x1 : Int32} {r : xW × Int32} (h : fX8_lays N w x1 = some r) : xCt l ad G 3 yX8_lays cX8_lays 6 (some .int) [.ref (ad 55), .int x1] w r.1 (some (.int r.2)) := xCt.of RX8 rfl (by decide +kernel) (Nat.le_of_ble_eq_true rfl) (fun Γ el ea eG eL C E => by
    subst el
    subst ea
    subst eG
    unfold fX8_lays at h
    exact xG.sub (bX8_lays_0 C eL  E h) ⟨rfl, rfl, trivial⟩)
def fX7_calendarRefusal_0 (w : xW) (x1 : Int32) (x2 : Int32) (x3 : Int32) (x4 : Int32) : Option Int32 :=
  if (fX7_isSheet x1) = 0 then
    some (-1000000001)
  else
  if ibd x1 4 = true then
  (fX2_isMissing w x1.toNatClampNeg).bind fun z2 =>
  if z2 = 0 then
    if (fX7_isSide x2) = 0 then
      some (-1000000001)
    else
    if (fX7_isTick x3) = 0 then
      some (-1000000001)
    else
    if x4 < 1 then
      some (-1000000001)
    else
    if 96 < x4 then
      some (-1000000001)
    else
    some 0
  else
  some (-1000000006)
  else none
def fX7_calendarRefusal (w : xW) (x1 : Int32) (x2 : Int32) (x3 : Int32) (x4 : Int32) : Option Int32 := fX7_calendarRefusal_0 w x1 x2 x3 x4
set_option maxRecDepth 100000 in
set_option maxHeartbeats 4000000 in
theorem bX7_calendarRefusal_0 {Γ : xΓ} (C : xOK Γ cX7_calendarRefusal RX7 2) (hL : xn Γ = 5) {w : xW} {x1 : Int32} {x2 : Int32} {x3 : Int32} {x4 : Int32} {r : Int32} (E : xEnd Γ (some .int) w (some (.int r))) (h : fX7_calendarRefusal_0 w x1 x2 x3 x4 = some r) : xG Γ w 0 [(0, .ref (xad Γ 0)), (1, .int x1), (2, .int x2), (3, .int x3), (4, .int x4)] [] := by
  unfold fX7_calendarRefusal_0 at h
  refine xr_iload_n C 0 rfl dX7_calendarRefusal_0 ?_
  refine xr_callS C 1 (mX7_isSheet rfl) v_X7_isSheet ml_X7_243 (Nat.le_of_ble_eq_true rfl) (Nat.le_of_ble_eq_true rfl) rfl rfl (Nat.le_of_ble_eq_true rfl) rfl dX7_calendarRefusal_1 ?_
  refine xr_if_ne C 4 10 dX7_calendarRefusal_4 rfl (fun q => ?_) (fun q => ?_)
  · have h := g_if h q
    refine xr_aload_n C 10 rfl dX7_calendarRefusal_10 ?_
    refine xr_getR C 11 dX7_calendarRefusal_11 fl_X7_54 rfl rfl ?_
    refine xr_iload_n C 14 rfl dX7_calendarRefusal_14 ?_
    obtain ⟨q1, h⟩ := g_ib h
    refine xr_aaldS C 15 dX7_calendarRefusal_15 rfl (ibd_in q1) ?_
    obtain ⟨z2, q3, h⟩ := g_bind h
    refine xr_callV C 16 (mX2_isMissing q3) v_X2_isMissing ml_X7_252 (Nat.le_of_ble_eq_true rfl) (Nat.le_of_ble_eq_true rfl) (xrecv C (xsh_so (ibd_lt q1)) rfl) rfl rfl (Nat.le_of_ble_eq_true rfl) rfl dX7_calendarRefusal_16 ?_
    refine xr_if_eq C 19 26 dX7_calendarRefusal_19 rfl (fun q => ?_) (fun q => ?_)
    · have h := g_it h q
      refine xr_iload_n C 26 rfl dX7_calendarRefusal_26 ?_
      refine xr_callS C 27 (mX7_isSide rfl) v_X7_isSide ml_X7_87 (Nat.le_of_ble_eq_true rfl) (Nat.le_of_ble_eq_true rfl) rfl rfl (Nat.le_of_ble_eq_true rfl) rfl dX7_calendarRefusal_27 ?_
      refine xr_if_eq C 30 57 dX7_calendarRefusal_30 rfl (fun q => ?_) (fun q => ?_)
      · have h := g_it h q
        refine xr_ldc C 57 k_X7_69 dX7_calendarRefusal_57 ?_
        cases h
        exact xr_iret C 59 E dX7_calendarRefusal_59
      · have h := g_if h q
        refine xr_iload_n C 33 rfl dX7_calendarRefusal_33 ?_
        refine xr_callS C 34 (mX7_isTick rfl) v_X7_isTick ml_X7_104 (Nat.le_of_ble_eq_true rfl) (Nat.le_of_ble_eq_true rfl) rfl rfl (Nat.le_of_ble_eq_true rfl) rfl dX7_calendarRefusal_34 ?_
        refine xr_if_eq C 37 57 dX7_calendarRefusal_37 rfl (fun q => ?_) (fun q => ?_)
        · have h := g_it h q
          refine xr_ldc C 57 k_X7_69 dX7_calendarRefusal_57 ?_
          cases h
          exact xr_iret C 59 E dX7_calendarRefusal_59
        · have h := g_if h q
          refine xr_iload C 40 rfl dX7_calendarRefusal_40 ?_
          refine xr_iconst C 42 1 (by decide +kernel) dX7_calendarRefusal_42 ?_
          refine xr_icmp_lt C 43 57 dX7_calendarRefusal_43 rfl (fun q => ?_) (fun q => ?_)
          · have h := g_it h q
            refine xr_ldc C 57 k_X7_69 dX7_calendarRefusal_57 ?_
            cases h
            exact xr_iret C 59 E dX7_calendarRefusal_59
          · have h := g_if h q
            refine xr_iload C 46 rfl dX7_calendarRefusal_46 ?_
            refine xr_bipush C 48 96 (by decide +kernel) dX7_calendarRefusal_48 ?_
            refine xr_icmp_gt C 50 57 dX7_calendarRefusal_50 rfl (fun q => ?_) (fun q => ?_)
            · have h := g_it h q
              refine xr_ldc C 57 k_X7_69 dX7_calendarRefusal_57 ?_
              cases h
              exact xr_iret C 59 E dX7_calendarRefusal_59
            · have h := g_if h q
              refine xr_iconst C 53 0 (by decide +kernel) dX7_calendarRefusal_53 ?_
              refine xr_goto C 54 59 dX7_calendarRefusal_54 rfl ?_
              cases h
              exact xr_iret C 59 E dX7_calendarRefusal_59
    · have h := g_if h q
      refine xr_ldcw C 22 k_X7_256 dX7_calendarRefusal_22 ?_
      cases h
      exact xr_iret C 25 E dX7_calendarRefusal_25
  · have h := g_it h q
    refine xr_ldc C 7 k_X7_69 dX7_calendarRefusal_7 ?_
    cases h
    exact xr_iret C 9 E dX7_calendarRefusal_9
set_option maxRecDepth 100000 in
set_option maxHeartbeats 4000000 in
theorem mX7_calendarRefusal {l : Launch} {ad : Nat → Nat} {G : gEnv} {w : xW} {x1 : Int32} {x2 : Int32} {x3 : Int32} {x4 : Int32} {r : Int32} (h : fX7_calendarRefusal w x1 x2 x3 x4 = some r) : xCt l ad G 2 yX7_calendarRefusal cX7_calendarRefusal 5 (some .int) [.ref (ad 0), .int x1, .int x2, .int x3, .int x4] w w (some (.int r)) := xCt.of RX7 rfl (by decide +kernel) (Nat.le_of_ble_eq_true rfl) (fun Γ el ea eG eL C E => by
    subst el
    subst ea
    subst eG
    unfold fX7_calendarRefusal at h
    exact xG.sub (bX7_calendarRefusal_0 C eL  E h) ⟨rfl, rfl, rfl, rfl, rfl, trivial⟩)
def fX7_calendar_26b (N : Nat) (K26 : xW → Int32 → Int32 → Int32 → Int32 → Int32 → Option (xW × Int32)) (w : xW) (x1 : Int32) (x2 : Int32) (x3 : Int32) (x4 : Int32) (x6 : Int32) : Option (xW × Int32) :=
  if ibd x1 4 = true then
  if (w.1 (47 + 2 * x1.toNatClampNeg) 1) ≤ x6 then
    some (w, w.1 (47 + 2 * x1.toNatClampNeg) 1)
  else
  (fX6_at N w (x3 + (x6 * x4))).bind fun z6 =>
  (fX2_put z6 x1.toNatClampNeg x6 (((fX6_sideOf z6 x2) : Int32).toInt64)).bind fun z8 =>
  K26 z8 x1 x2 x3 x4 (x6 + 1)
  else none
def fX7_calendar_26 (N : Nat) : Nat → xW → Int32 → Int32 → Int32 → Int32 → Int32 → Option (xW × Int32)
  | 0, _, _, _, _, _, _ => none
  | n + 1, w, x1, x2, x3, x4, x6 => fX7_calendar_26b N (fX7_calendar_26 N n) w x1 x2 x3 x4 x6
def fX7_calendar_0 (N : Nat) (w : xW) (x1 : Int32) (x2 : Int32) (x3 : Int32) (x4 : Int32) : Option (xW × Int32) :=
  (fX7_calendarRefusal w x1 x2 x3 x4).bind fun z1 =>
  if z1 = 0 then
    fX7_calendar_26 N N w x1 x2 x3 x4 0
  else
  (fX7_refuse w z1).bind fun z3 =>
  some (z3.1, z3.2)
def fX7_calendar (N : Nat) (w : xW) (x1 : Int32) (x2 : Int32) (x3 : Int32) (x4 : Int32) : Option (xW × Int32) := fX7_calendar_0 N w x1 x2 x3 x4
set_option maxRecDepth 100000 in
set_option maxHeartbeats 4000000 in
theorem bX7_calendar_26b {Γ : xΓ} (C : xOK Γ cX7_calendar RX7 3) (hL : xn Γ = 7) {N : Nat} {K26 : xW → Int32 → Int32 → Int32 → Int32 → Int32 → Option (xW × Int32)} {w : xW} {x1 : Int32} {x2 : Int32} {x3 : Int32} {x4 : Int32} {x6 : Int32} {r : xW × Int32} (E : xEnd Γ (some .int) r.1 (some (.int r.2))) (hK26 : ∀ (w : xW) (x1 : Int32) (x2 : Int32) (x3 : Int32) (x4 : Int32) (x6 : Int32), K26 w x1 x2 x3 x4 x6 = some r → xG Γ w 26 [(0, .ref (xad Γ 0)), (1, .int x1), (2, .int x2), (3, .int x3), (4, .int x4), (6, .int x6)] []) (h : fX7_calendar_26b N K26 w x1 x2 x3 x4 x6 = some r) : xG Γ w 26 [(0, .ref (xad Γ 0)), (1, .int x1), (2, .int x2), (3, .int x3), (4, .int x4), (6, .int x6)] [] := by
  unfold fX7_calendar_26b at h
  refine xr_iload C 26 rfl dX7_calendar_26 ?_
  refine xr_aload_n C 28 rfl dX7_calendar_28 ?_
  refine xr_getR C 29 dX7_calendar_29 fl_X7_54 rfl rfl ?_
  refine xr_iload_n C 32 rfl dX7_calendar_32 ?_
  obtain ⟨q5, h⟩ := g_ib h
  refine xr_aaldS C 33 dX7_calendar_33 rfl (ibd_in q5) ?_
  refine xr_getI C 34 dX7_calendar_34 fl_X7_257 (xsh_so (ibd_lt q5)) rfl ?_
  refine xr_icmp_ge C 37 86 dX7_calendar_37 rfl (fun q => ?_) (fun q => ?_)
  · have h := g_it h q
    refine xr_aload_n C 86 rfl dX7_calendar_86 ?_
    refine xr_getR C 87 dX7_calendar_87 fl_X7_54 rfl rfl ?_
    refine xr_iload_n C 90 rfl dX7_calendar_90 ?_
    refine xr_aaldS C 91 dX7_calendar_91 rfl (ibd_in q5) ?_
    refine xr_getI C 92 dX7_calendar_92 fl_X7_257 (xsh_so (ibd_lt q5)) rfl ?_
    cases h
    exact xr_iret C 95 E dX7_calendar_95
  · have h := g_if h q
    refine xr_aload_n C 40 rfl dX7_calendar_40 ?_
    refine xr_getR C 41 dX7_calendar_41 fl_X7_10 rfl rfl ?_
    refine xr_getR C 44 dX7_calendar_44 fl_X7_77 rfl rfl ?_
    refine xr_iload_n C 47 rfl dX7_calendar_47 ?_
    refine xr_iload C 48 rfl dX7_calendar_48 ?_
    refine xr_iload C 50 rfl dX7_calendar_50 ?_
    refine xr_imul C 52 dX7_calendar_52 ?_
    refine xr_iadd C 53 dX7_calendar_53 ?_
    obtain ⟨z6, q7, h⟩ := g_bind h
    refine xr_callV C 54 (mX6_at q7) v_X6_at ml_X7_107 (Nat.le_of_ble_eq_true rfl) (Nat.le_of_ble_eq_true rfl) (xrecv C rfl rfl) rfl rfl (Nat.le_of_ble_eq_true rfl) rfl dX7_calendar_54 ?_
    refine xr_aload_n C 57 rfl dX7_calendar_57 ?_
    refine xr_getR C 58 dX7_calendar_58 fl_X7_54 rfl rfl ?_
    refine xr_iload_n C 61 rfl dX7_calendar_61 ?_
    refine xr_aaldS C 62 dX7_calendar_62 rfl (ibd_in q5) ?_
    refine xr_iload C 63 rfl dX7_calendar_63 ?_
    refine xr_aload_n C 65 rfl dX7_calendar_65 ?_
    refine xr_getR C 66 dX7_calendar_66 fl_X7_10 rfl rfl ?_
    refine xr_getR C 69 dX7_calendar_69 fl_X7_77 rfl rfl ?_
    refine xr_iload_n C 72 rfl dX7_calendar_72 ?_
    refine xr_callV C 73 (mX6_sideOf rfl) v_X6_sideOf ml_X7_117 (Nat.le_of_ble_eq_true rfl) (Nat.le_of_ble_eq_true rfl) (xrecv C rfl rfl) rfl rfl (Nat.le_of_ble_eq_true rfl) rfl dX7_calendar_73 ?_
    refine xr_i2l C 76 dX7_calendar_76 ?_
    obtain ⟨z8, q9, h⟩ := g_bind h
    refine xr_callV C 77 (mX2_put q9) v_X2_put ml_X7_264 (Nat.le_of_ble_eq_true rfl) (Nat.le_of_ble_eq_true rfl) (xrecv C (xsh_so (ibd_lt q5)) rfl) rfl rfl (Nat.le_of_ble_eq_true rfl) rfl dX7_calendar_77 ?_
    refine xr_iinc C 80 1 (by decide +kernel) rfl dX7_calendar_80 (xnb hL rfl) ?_
    refine xr_goto C 83 26 dX7_calendar_83 rfl ?_
    exact xG.sub (hK26 _ _ _ _ _ _ h) ⟨rfl, rfl, rfl, rfl, rfl, rfl, trivial⟩
set_option maxRecDepth 100000 in
set_option maxHeartbeats 4000000 in
theorem bX7_calendar_26 {Γ : xΓ} (C : xOK Γ cX7_calendar RX7 3) (hL : xn Γ = 7) {N : Nat} {r : xW × Int32} (E : xEnd Γ (some .int) r.1 (some (.int r.2))) : ∀ (n : Nat) (w : xW) (x1 : Int32) (x2 : Int32) (x3 : Int32) (x4 : Int32) (x6 : Int32), fX7_calendar_26 N n w x1 x2 x3 x4 x6 = some r → xG Γ w 26 [(0, .ref (xad Γ 0)), (1, .int x1), (2, .int x2), (3, .int x3), (4, .int x4), (6, .int x6)] []
  | 0, _, _, _, _, _, _, h => by cases h
  | n + 1, w, x1, x2, x3, x4, x6, h => bX7_calendar_26b C hL E (bX7_calendar_26 C hL E n) h
set_option maxRecDepth 100000 in
set_option maxHeartbeats 4000000 in
theorem bX7_calendar_0 {Γ : xΓ} (C : xOK Γ cX7_calendar RX7 3) (hL : xn Γ = 7) {N : Nat} {w : xW} {x1 : Int32} {x2 : Int32} {x3 : Int32} {x4 : Int32} {r : xW × Int32} (E : xEnd Γ (some .int) r.1 (some (.int r.2))) (h : fX7_calendar_0 N w x1 x2 x3 x4 = some r) : xG Γ w 0 [(0, .ref (xad Γ 0)), (1, .int x1), (2, .int x2), (3, .int x3), (4, .int x4)] [] := by
  unfold fX7_calendar_0 at h
  refine xr_aload_n C 0 rfl dX7_calendar_0 ?_
  refine xr_iload_n C 1 rfl dX7_calendar_1 ?_
  refine xr_iload_n C 2 rfl dX7_calendar_2 ?_
  refine xr_iload_n C 3 rfl dX7_calendar_3 ?_
  refine xr_iload C 4 rfl dX7_calendar_4 ?_
  obtain ⟨z1, q2, h⟩ := g_bind h
  refine xr_callV C 6 (mX7_calendarRefusal q2) v_X7_calendarRefusal ml_X7_282 (Nat.le_of_ble_eq_true rfl) (Nat.le_of_ble_eq_true rfl) (xrecv C rfl rfl) rfl rfl (Nat.le_of_ble_eq_true rfl) rfl dX7_calendar_6 ?_
  refine xr_istore C 9 dX7_calendar_9 (xnb hL rfl) ?_
  refine xr_iload C 11 rfl dX7_calendar_11 ?_
  refine xr_if_eq C 13 23 dX7_calendar_13 rfl (fun q => ?_) (fun q => ?_)
  · have h := g_it h q
    refine xr_iconst C 23 0 (by decide +kernel) dX7_calendar_23 ?_
    refine xr_istore C 24 dX7_calendar_24 (xnb hL rfl) ?_
    exact xG.sub (bX7_calendar_26 C hL E N _ _ _ _ _ _ h) ⟨rfl, rfl, rfl, rfl, rfl, rfl, trivial⟩
  · have h := g_if h q
    refine xr_aload_n C 16 rfl dX7_calendar_16 ?_
    refine xr_iload C 17 rfl dX7_calendar_17 ?_
    obtain ⟨z3, q4, h⟩ := g_bind h
    refine xr_callV C 19 (mX7_refuse q4) v_X7_refuse ml_X7_70 (Nat.le_of_ble_eq_true rfl) (Nat.le_of_ble_eq_true rfl) (xrecv C rfl rfl) rfl rfl (Nat.le_of_ble_eq_true rfl) rfl dX7_calendar_19 ?_
    cases h
    exact xr_iret C 22 E dX7_calendar_22
set_option maxRecDepth 100000 in
set_option maxHeartbeats 4000000 in
theorem mX7_calendar {l : Launch} {ad : Nat → Nat} {G : gEnv} {N : Nat} {w : xW} {x1 : Int32} {x2 : Int32} {x3 : Int32} {x4 : Int32} {r : xW × Int32} (h : fX7_calendar N w x1 x2 x3 x4 = some r) : xCt l ad G 3 yX7_calendar cX7_calendar 7 (some .int) [.ref (ad 0), .int x1, .int x2, .int x3, .int x4] w r.1 (some (.int r.2)) := xCt.of RX7 rfl (by decide +kernel) (Nat.le_of_ble_eq_true rfl) (fun Γ el ea eG eL C E => by
    subst el
    subst ea
    subst eG
    unfold fX7_calendar at h
    exact xG.sub (bX7_calendar_0 C eL  E h) ⟨rfl, rfl, rfl, rfl, rfl, trivial⟩)
