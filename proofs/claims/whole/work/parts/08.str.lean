/-! the texts that are literals: length() and charAt() -/
def xlen (j : Nat) : Int32 := nI (kLEN.getD j 0)
def xch (j k : Nat) : Int32 := (kBYT.getD j []).getD k 0
def xchar (j : Nat) (i : Int32) : Option Int32 := if ibd i (kLEN.getD j 0) = true then some (xch j i.toNatClampNeg) else none
theorem xlen_eq : ∀ j, j < 17 → Int32.ofNat (kLEN.getD j 0) >>> ((0 : Int32) &&& 31) = xlen j := by decide +kernel
theorem xlen_lt : ∀ j, j < 17 → kLEN.getD j 0 < 2 ^ 31 := by decide +kernel
theorem xch_c : ∀ j, j < 17 → ∀ k, k < kLEN.getD j 0 → ((xch j k &&& 255).toUInt32 % 65536).toInt32 = xch j k := by decide +kernel
theorem xch_n : ∀ j, j < 17 → ∀ k, k < kLEN.getD j 0 → xch j k &&& 255 = xch j k := by decide +kernel
theorem ibd_nn {i : Int32} {n : Nat} (h : ibd i n = true) : ¬ i < 0 := by
  simp only [ibd, Bool.and_eq_true, Bool.not_eq_true', decide_eq_false_iff_not] at h
  exact h.1
theorem ibd_lt32 {i : Int32} {n : Nat} (hn : n < 2 ^ 31) (h : ibd i n = true) : i < Int32.ofNat n := by
  obtain ⟨j, hj, rfl⟩ := vp_in_of (ibd_in h) hn
  exact nI_lt hj hn
section XSTR
variable {Γ : xΓ} {cc : ByteArray} {own : String} {De : Nat} {w : xW} {lv : List (Nat × Value)} {rest : List Value}
theorem xr_tret (C : xOK Γ cc own De) (pc : Nat) {v : Int32} {ty : FieldType} (E : xEnd Γ (some ty) w (some (.int v))) (d : decode cc pc = .ok (.ireturn, 1)) (hv : narrow ty (.int v) = .int v) : xG Γ w pc lv [.int v] := by
  obtain ⟨h1, h2, h3, h4, h5⟩ := E
  intro H locs ls hP hS hl
  rw [h3, h4, h5]
  exact W.zret C.x C.b h1 hv (fun t ht hW => ⟨⟨rfl, by rw [ht]; exact hP⟩, hS.F ht⟩) hS.2.2 d h2
theorem xr_i2c (C : xOK Γ cc own De) (pc : Nat) {x : Int32} (d : decode cc pc = .ok (.i2c, 1)) (k : xG Γ w (pc + 1) lv (.int (x.toUInt32 % 65536).toInt32 :: rest)) : xG Γ w pc lv (.int x :: rest) := fun H locs ls hP hS hl => lv_i2c C.x C.b d rfl (k H locs ls hP hS hl)
theorem xr_strval (C : xOK Γ cc own De) (pc : Nat) {idx j : Nat} (hj : j < 17) (d : decode cc pc = .ok (.getfield idx, 3)) (hk : Cond.fieldLink own idx "java/lang/String" "value" "[B" ∈ gW) (k : xG Γ w (pc + 3) lv (.ref (adV (xE Γ) j) :: rest)) : xG Γ w pc lv (.ref (adK (xE Γ) j) :: rest) := fun H locs ls hP hS hl => vk_getf C.x C.b (C.e.2.2.2.2.2.2.2.2.1.1 j hj).2.2.1 hS C.o (C.t _ hk) (fun _ h => h) d (k H locs ls hP hS hl)
theorem xr_strcod (C : xOK Γ cc own De) (pc : Nat) {idx j : Nat} (hj : j < 17) (d : decode cc pc = .ok (.getfield idx, 3)) (hk : Cond.fieldLink own idx "java/lang/String" "coder" "B" ∈ gW) (k : xG Γ w (pc + 3) lv (.int 0 :: rest)) : xG Γ w pc lv (.ref (adK (xE Γ) j) :: rest) := fun H locs ls hP hS hl => vk_getf C.x C.b (C.e.2.2.2.2.2.2.2.2.1.1 j hj).2.1 hS C.o (C.t _ hk) (fun _ h => h) d (k H locs ls hP hS hl)
theorem xr_stralen (C : xOK Γ cc own De) (pc : Nat) {j : Nat} (hj : j < 17) (d : decode cc pc = .ok (.arraylength, 1)) (k : xG Γ w (pc + 1) lv (.int (Int32.ofNat (kLEN.getD j 0)) :: rest)) : xG Γ w pc lv (.ref (adV (xE Γ) j) :: rest) := fun H locs ls hP hS hl => va_tlen C.x C.b (C.e.2.2.2.2.2.2.2.2.1.1 j hj).2.2.2 hS rfl d (k H locs ls hP hS hl)
theorem xr_strbald (C : xOK Γ cc own De) (pc : Nat) {j : Nat} {i : Int32} (hj : j < 17) (d : decode cc pc = .ok (.baload, 1)) (hin : vp_in i (kLEN.getD j 0)) (k : xG Γ w (pc + 1) lv (.int (xch j i.toNatClampNeg) :: rest)) : xG Γ w pc lv (.int i :: .ref (adV (xE Γ) j) :: rest) := fun H locs ls hP hS hl => va_tb C.x C.b (C.e.2.2.2.2.2.2.2.2.1.1 j hj).2.2.2 hS hin rfl d (k H locs ls hP hS hl)
theorem xr_getsCS (C : xOK Γ cc own De) (pc : Nat) {idx : Nat} (d : decode cc pc = .ok (.getstatic idx, 3)) (hk : Cond.fieldLink own idx "java/lang/String" "COMPACT_STRINGS" "Z" ∈ gW) (k : xG Γ w (pc + 3) lv (.int 1 :: rest)) : xG Γ w pc lv rest := fun H locs ls hP hS hl => va_gets C.x C.b C.e.2.2.2.2.2.2.1 hS C.o (C.t _ hk) (fun _ h => h) d (k H locs ls hP hS hl)
theorem xr_getsSI (C : xOK Γ cc own De) (pc : Nat) {idx : Nat} (d : decode cc pc = .ok (.getstatic idx, 3)) (hk : Cond.fieldLink own idx "jdk/internal/util/Preconditions" "SIOOBE_FORMATTER" "Ljava/util/function/BiFunction;" ∈ gW) (k : ∀ v : Value, (v = .null ∨ ∃ t, v = .ref t) → xG Γ w (pc + 3) lv (v :: rest)) : xG Γ w pc lv rest := by
  intro H locs ls hP hS hl
  rcases C.e.2.2.2.2.2.2.2.1 with h | ⟨t, h⟩
  · exact va_gets C.x C.b h hS C.o (C.t _ hk) (fun _ h => h) d (k _ (Or.inl rfl) H locs ls hP hS hl)
  · exact va_gets C.x C.b h hS C.o (C.t _ hk) (fun _ h => h) d (k _ (Or.inr ⟨t, rfl⟩) H locs ls hP hS hl)
theorem xr_callSN {cc1 : ByteArray} {D1 : Nat} {w1 : xW} {As st0 st1 : List Value} {y : MethodName} {maxL1 n index : Nat} {ret : Option FieldType} {rv : Option Value} {host : String} (C : xOK Γ cc own De) (pc : Nat) (hM : xCt (xl Γ) (xad Γ) (xE Γ) D1 y cc1 maxL1 ret As w w1 rv) (v : gVs y cc1 maxL1 ret n) (hN : va_Nw (.methodLinkNest own index y host) (xs Γ)) (hD : D1 + 1 ≤ De) (hm : maxL1 ≤ 45)
    (hn : As.length = n) (hs0 : st0 = As.reverse ++ rest) (hrest : (rest.map fun v => v.category).sum ≤ 8) (hst : rv.toList ++ rest = st1) (hdg : decode cc pc = .ok (.invokestatic index, 3)) (k : xG Γ w1 (pc + 3) lv st1) : xG Γ w pc lv st0 := by
  intro H locs ls hP hS hl
  refine xc_run (AA := As) C hP hS hl (va_runSN (own := own) (host := host) (Ts := gW) ⟨C.x, C.b, C.ml, C.o, C.t⟩ (hM H.size) ⟨va_cnB n C.t (gW_call v.1.1) rfl rfl rfl hN (C.t _ v.1.2.1) v.1.2.2 (xc_room C hD hm), C.t _ v.2, trivial⟩ ⟨g_Pblind, xc_pre C hP hS⟩ rfl hn hl.1 hs0 (lv_room hrest) hdg ⟨C.c, C.s⟩) hst k
end XSTR
section XSTRC
variable {l : Launch} {ad : Nat → Nat} {G : gEnv} {w : xW} {j : Nat}
theorem c_coder (hj : j < 17) : xCt l ad G 1 yJ0_coder_7d493 cJ0_coder_7d493 1 (some .byte) [.ref (adK G j)] w w (some (.int 0)) := xCt.of RJ0 rfl (by decide +kernel) (Nat.le_of_ble_eq_true rfl) (fun Γ el ea eG eL C E => by
  subst el
  subst ea
  subst eG
  refine xr_getsCS C 0 dJ0_coder_7d493_0 FS_cs ?_
  refine xr_if_eq C 3 13 dJ0_coder_7d493_3 rfl (fun q => absurd q (by decide)) (fun _ => ?_)
  refine xr_aload_n C 6 rfl dJ0_coder_7d493_6 ?_
  refine xr_strcod C 7 hj dJ0_coder_7d493_7 FS_co ?_
  refine xr_goto C 10 14 dJ0_coder_7d493_10 rfl ?_
  exact xr_tret C 14 E dJ0_coder_7d493_14 rfl)
theorem c_isLatin1 (hj : j < 17) : xCt l ad G 1 yJ0_isLatin1_aae02 cJ0_isLatin1_aae02 1 (some .boolean) [.ref (adK G j)] w w (some (.int 1)) := xCt.of RJ0 rfl (by decide +kernel) (Nat.le_of_ble_eq_true rfl) (fun Γ el ea eG eL C E => by
  subst el
  subst ea
  subst eG
  refine xr_getsCS C 0 dJ0_isLatin1_aae02_0 FS_cs ?_
  refine xr_if_eq C 3 17 dJ0_isLatin1_aae02_3 rfl (fun q => absurd q (by decide)) (fun _ => ?_)
  refine xr_aload_n C 6 rfl dJ0_isLatin1_aae02_6 ?_
  refine xr_strcod C 7 hj dJ0_isLatin1_aae02_7 FS_co ?_
  refine xr_if_ne C 10 17 dJ0_isLatin1_aae02_10 rfl (fun q => absurd rfl q) (fun _ => ?_)
  refine xr_iconst C 13 1 (by decide +kernel) dJ0_isLatin1_aae02_13 ?_
  refine xr_goto C 14 18 dJ0_isLatin1_aae02_14 rfl ?_
  exact xr_tret C 18 E dJ0_isLatin1_aae02_18 rfl)
theorem c_strlen (hj : j < 17) : xCt l ad G 2 yJ0_length_8abf5 cJ0_length_8abf5 1 (some .int) [.ref (adK G j)] w w (some (.int (xlen j))) := xCt.of RJ0 rfl (by decide +kernel) (Nat.le_of_ble_eq_true rfl) (fun Γ el ea eG eL C E => by
  subst el
  subst ea
  subst eG
  refine xr_aload_n C 0 rfl dJ0_length_8abf5_0 ?_
  refine xr_strval C 1 hj dJ0_length_8abf5_1 FS_va ?_
  refine xr_stralen C 4 hj dJ0_length_8abf5_4 ?_
  refine xr_aload_n C 5 rfl dJ0_length_8abf5_5 ?_
  refine xr_callV C 6 (c_coder hj) v_J0_coder_7d493 ml_J0_335 (Nat.le_of_ble_eq_true rfl) (Nat.le_of_ble_eq_true rfl) (xrecvS C hj) rfl rfl (Nat.le_of_ble_eq_true rfl) rfl dJ0_length_8abf5_6 ?_
  refine xr_ishr C 9 dJ0_length_8abf5_9 ?_
  rw [xlen_eq j hj]
  exact xr_iret C 10 E dJ0_length_8abf5_10)
theorem c_preCheck {i n : Int32} {v : Value} (hv : v = .null ∨ ∃ t, v = .ref t) (h0 : ¬ i < 0) (h1 : i < n) : xCt l ad G 1 yJ3_checkIndex_8e157 cJ3_checkIndex_8e157 3 (some .int) [.int i, .int n, v] w w (some (.int i)) := by
  have key : ∀ Γ : xΓ, xOK Γ cJ3_checkIndex_8e157 RJ3 1 → xEnd Γ (some .int) w (some (.int i)) → xG Γ w 0 [(0, .int i), (1, .int n)] [] := by
    intro Γ C E
    refine xr_iload_n C 0 rfl dJ3_checkIndex_8e157_0 ?_
    refine xr_if_lt C 1 9 dJ3_checkIndex_8e157_1 rfl (fun q => absurd q h0) (fun _ => ?_)
    refine xr_iload_n C 4 rfl dJ3_checkIndex_8e157_4 ?_
    refine xr_iload_n C 5 rfl dJ3_checkIndex_8e157_5 ?_
    refine xr_icmp_lt C 6 16 dJ3_checkIndex_8e157_6 rfl (fun _ => ?_) (fun q => absurd h1 q)
    refine xr_iload_n C 16 rfl dJ3_checkIndex_8e157_16 ?_
    exact xr_iret C 17 E dJ3_checkIndex_8e157_17
  rcases hv with rfl | ⟨t, rfl⟩
  · exact xCt.of RJ3 rfl (by decide +kernel) (Nat.le_of_ble_eq_true rfl) (fun Γ el ea eG eL C E => xG.sub (key Γ C E) ⟨rfl, rfl, trivial⟩)
  · exact xCt.of RJ3 rfl (by decide +kernel) (Nat.le_of_ble_eq_true rfl) (fun Γ el ea eG eL C E => xG.sub (key Γ C E) ⟨rfl, rfl, trivial⟩)
theorem c_checkIndex {i n : Int32} (h0 : ¬ i < 0) (h1 : i < n) : xCt l ad G 2 yJ0_checkIndex_df160 cJ0_checkIndex_df160 2 none [.int i, .int n] w w none := xCt.of RJ0 rfl (by decide +kernel) (Nat.le_of_ble_eq_true rfl) (fun Γ el ea eG eL C E => by
  refine xr_iload_n C 0 rfl dJ0_checkIndex_df160_0 ?_
  refine xr_iload_n C 1 rfl dJ0_checkIndex_df160_1 ?_
  refine xr_getsSI C 2 dJ0_checkIndex_df160_2 FS_si (fun v hv => ?_)
  have hc : (Value.category v) = 1 := by rcases hv with rfl | ⟨t, rfl⟩ <;> rfl
  refine xr_callS C 5 (c_preCheck hv h0 h1) v_J3_checkIndex_8e157 ml_J0_1059 (Nat.le_of_ble_eq_true rfl) (Nat.le_of_ble_eq_true rfl) rfl rfl (Nat.le_of_ble_eq_true rfl) rfl dJ0_checkIndex_df160_5 ?_
  refine xr_pop C 8 rfl dJ0_checkIndex_df160_8 ?_
  exact xr_vret C 9 E dJ0_checkIndex_df160_9)
theorem c_L1char {i : Int32} (hj : j < 17) (hi : ibd i (kLEN.getD j 0) = true) : xCt l ad G 3 yJ1_charAt_3b067 cJ1_charAt_3b067 2 (some .char) [.ref (adV G j), .int i] w w (some (.int (xch j i.toNatClampNeg))) := xCt.of RJ1 rfl (by decide +kernel) (Nat.le_of_ble_eq_true rfl) (fun Γ el ea eG eL C E => by
  subst el
  subst ea
  subst eG
  refine xr_iload_n C 0 rfl dJ1_charAt_3b067_0 ?_
  refine xr_aload_n C 1 rfl dJ1_charAt_3b067_1 ?_
  refine xr_stralen C 2 hj dJ1_charAt_3b067_2 ?_
  refine xr_callS C 3 (c_checkIndex (ibd_nn hi) (ibd_lt32 (xlen_lt j hj) hi)) v_J0_checkIndex_df160 ml_J1_9 (Nat.le_of_ble_eq_true rfl) (Nat.le_of_ble_eq_true rfl) rfl rfl (Nat.le_of_ble_eq_true rfl) rfl dJ1_charAt_3b067_3 ?_
  refine xr_aload_n C 6 rfl dJ1_charAt_3b067_6 ?_
  refine xr_iload_n C 7 rfl dJ1_charAt_3b067_7 ?_
  refine xr_strbald C 8 hj dJ1_charAt_3b067_8 (ibd_in hi) ?_
  refine xr_sipush C 9 255 (by decide +kernel) dJ1_charAt_3b067_9 ?_
  refine xr_iand C 12 dJ1_charAt_3b067_12 ?_
  refine xr_i2c C 13 dJ1_charAt_3b067_13 ?_
  have hk := ibd_lt hi
  rw [xch_c j hj _ hk]
  exact xr_tret C 14 E dJ1_charAt_3b067_14 (by rw [← xch_n j hj _ hk]; exact sc_nar _))
theorem c_strchar {i r : Int32} (hj : j < 17) (h : xchar j i = some r) : xCt l ad G 4 yJ0_charAt_5068e cJ0_charAt_5068e 2 (some .char) [.ref (adK G j), .int i] w w (some (.int r)) := by
  obtain ⟨hi, h⟩ := g_lt h
  cases h
  refine xCt.of RJ0 rfl (by decide +kernel) (Nat.le_of_ble_eq_true rfl) (fun Γ el ea eG eL C E => ?_)
  subst el
  subst ea
  subst eG
  refine xr_aload_n C 0 rfl dJ0_charAt_5068e_0 ?_
  refine xr_callV C 1 (c_isLatin1 hj) v_J0_isLatin1_aae02 ml_J0_492 (Nat.le_of_ble_eq_true rfl) (Nat.le_of_ble_eq_true rfl) (xrecvS C hj) rfl rfl (Nat.le_of_ble_eq_true rfl) rfl dJ0_charAt_5068e_1 ?_
  refine xr_if_eq C 4 16 dJ0_charAt_5068e_4 rfl (fun q => absurd q (by decide)) (fun _ => ?_)
  refine xr_aload_n C 7 rfl dJ0_charAt_5068e_7 ?_
  refine xr_strval C 8 hj dJ0_charAt_5068e_8 FS_va ?_
  refine xr_iload_n C 11 rfl dJ0_charAt_5068e_11 ?_
  refine xr_callS C 12 (c_L1char hj hi) v_J1_charAt_3b067 ml_J0_495 (Nat.le_of_ble_eq_true rfl) (Nat.le_of_ble_eq_true rfl) rfl rfl (Nat.le_of_ble_eq_true rfl) rfl dJ0_charAt_5068e_12 ?_
  have hk := ibd_lt hi
  exact xr_tret C 15 E dJ0_charAt_5068e_15 (by rw [← xch_n j hj _ hk]; exact sc_nar _)
end XSTRC
theorem xr_ldcSw {Γ : xΓ} {cc : ByteArray} {own : String} {De : Nat} (C : xOK Γ cc own De) {w : xW} {lv : List (Nat × Value)} {rest : List Value} (pc : Nat) {idx j : Nat} {tx : String} (d : decode cc pc = .ok (.ldc_w idx, 3)) (h : (own, idx, tx, j) ∈ gSTR) (k : xG Γ w (pc + 3) lv (.ref (adK (xE Γ) j) :: rest)) : xG Γ w pc lv rest := by
  intro H locs ls hP hS hl T hT X
  obtain ⟨t, a1, b1⟩ := k H locs ls hP hS hl T hT X
  have hZ := C.e.2.2.2.2.2.2.2.2.2.1 _ h
  have hb := C.b
  exact ⟨t, X.ldcStringW C.x C.o (text := tx) (a := adK (xE Γ) j) hZ.1 hZ.2 (g := F0 (xm Γ) pc ls rest) rfl (by rw [hb]; exact d) t a1, b1⟩
