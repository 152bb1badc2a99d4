/-! contracts over the state of all cells: from the state w to the state w1, with the answer rv, at depth De; no cell is made -/
def xrm (De : Nat) : Room := { frames := De, cells := 0, slots := 0, locals := 64 * De }
def xCt (l : Launch) (ad : Nat → Nat) (G : gEnv) (De : Nat) (y : MethodName) (cc : ByteArray) (maxL : Nat) (ret : Option FieldType) (av : List Value) (w w1 : xW) (rv : Option Value) : Prop := gC l G y cc maxL ret (xrm De) av (xWs ad G w) (xWs ad G w1) rv
/-- what a walk owes at its end -/
def xEnd (Γ : xΓ) (ret : Option FieldType) (w1 : xW) (rv : Option Value) : Prop := (xme Γ).sig.returnType = ret ∧ (xme Γ).locks = false ∧ xce Γ = 0 ∧ xsl Γ = 0 ∧ xQ Γ = MQ (xbe Γ) (g_Q rv (xE Γ) (xWs (xad Γ) (xE Γ) w1) (xA Γ)) (xar Γ) (xs Γ) 0 0 (xA Γ)
theorem xA_w {ad : Nat → Nat} {G : gEnv} {w w' : xW} {sz : Nat} : ∀ q, va_A (xWs ad G w) sz q → va_A (xWs ad G w') sz q := by
  intro q h
  rcases h with ⟨k, e, h⟩ | h
  · have h1 : ((xWs ad G w').map (fun q => q.1))[k]? = some q := by
      rw [xWs_fst (w' := w), List.getElem?_map, h]
      rfl
    rw [List.getElem?_map] at h1
    cases hi : (xWs ad G w')[k]? with
    | none => rw [hi] at h1; cases h1
    | some r =>
      rw [hi] at h1
      have e1 : r.1 = q := Option.some.inj h1
      exact Or.inl ⟨k, r.2, by rw [hi, ← e1]⟩
  · exact Or.inr h
theorem xCt.of {l : Launch} {ad : Nat → Nat} {G : gEnv} {De : Nat} {y : MethodName} {cc : ByteArray} {maxL : Nat} {ret : Option FieldType} {av : List Value} {w w1 : xW} {rv : Option Value} (own : String) (ho : y.cls = own) (hy : plainName y.cls = true) (hn : (lg_sl av).length ≤ maxL)
    (body : ∀ Γ : xΓ, xl Γ = l → xad Γ = ad → xE Γ = G → xn Γ = maxL → xOK Γ cc own De → xEnd Γ ret w1 rv → xG Γ w 0 (lv_args 0 av) []) : xCt l ad G De y cc maxL ret av w w1 rv := by
  refine gC.of hy hn ?_
  intro p e s m args below meth c A ls Q hx hb hml hr hlk hown hts hA hP hK hD hE hS hl hQ
  subst ho
  exact body (l, ad, G, p, e, xrm De, s, m, args, below, meth, c, Q, A, maxL, 0, 0) rfl rfl rfl rfl ⟨hx, hb, hml, hown, hts, hA, hK, fun w' => g_addr hD xWs_fst, hE, Nat.le_refl _, Nat.le_refl _, Nat.le_refl _, Nat.le_refl _⟩ ⟨hr, hlk, rfl, rfl, hQ⟩ s.heap [] ls hP hS hl
section XEND
variable {Γ : xΓ} {cc : ByteArray} {own : String} {De : Nat} {w : xW} {lv : List (Nat × Value)}
theorem xr_iret (C : xOK Γ cc own De) (pc : Nat) {v : Int32} (E : xEnd Γ (some .int) w (some (.int v))) (d : decode cc pc = .ok (.ireturn, 1)) : xG Γ w pc lv [.int v] := by
  obtain ⟨h1, h2, h3, h4, h5⟩ := E
  intro H locs ls hP hS hl
  rw [h3, h4]
  exact g_iret C.x C.b h1 h2 h5 d hP hS rfl
theorem xr_zret (C : xOK Γ cc own De) (pc : Nat) {v : Int32} (E : xEnd Γ (some .boolean) w (some (.int v))) (d : decode cc pc = .ok (.ireturn, 1)) (hv : xB v = true) : xG Γ w pc lv [.int v] := by
  obtain ⟨h1, h2, h3, h4, h5⟩ := E
  intro H locs ls hP hS hl
  rw [h3, h4, h5]
  exact W.zret C.x C.b h1 (xB_nar hv) (fun t ht hW => ⟨⟨rfl, by rw [ht]; exact hP⟩, hS.F ht⟩) hS.2.2 d h2
theorem xr_lret (C : xOK Γ cc own De) (pc : Nat) {v : Int64} (E : xEnd Γ (some .long) w (some (.long v))) (d : decode cc pc = .ok (.lreturn, 1)) : xG Γ w pc lv [.long v] := by
  obtain ⟨h1, h2, h3, h4, h5⟩ := E
  intro H locs ls hP hS hl
  rw [h3, h4]
  exact g_lret C.x C.b h1 h2 h5 d hP hS rfl
theorem xr_vret (C : xOK Γ cc own De) (pc : Nat) (E : xEnd Γ none w none) (d : decode cc pc = .ok (.return_, 1)) : xG Γ w pc lv [] := by
  obtain ⟨h1, h2, h3, h4, h5⟩ := E
  intro H locs ls hP hS hl
  rw [h3, h4]
  exact g_vret C.x C.b h1 h2 h5 d hP hS rfl
theorem xr_aret (C : xOK Γ cc own De) (pc : Nat) {v : Nat} {cn : String} (E : xEnd Γ (some (.object cn)) w (some (.ref v))) (d : decode cc pc = .ok (.areturn, 1)) : xG Γ w pc lv [.ref v] := by
  obtain ⟨h1, h2, h3, h4, h5⟩ := E
  intro H locs ls hP hS hl
  rw [h3, h4, h5]
  exact W.aret C.x C.b h1 (Or.inl ⟨cn, rfl⟩) (Or.inr ⟨v, rfl⟩) (fun t ht hW => ⟨⟨rfl, by rw [ht]; exact hP⟩, hS.F ht⟩) hS.2.2 d h2
end XEND
/-! calls -/
section XCALL
variable {Γ : xΓ} {cc cc1 : ByteArray} {own Cn : String} {De D1 : Nat} {w w1 : xW} {lv : List (Nat × Value)} {As rest st0 st1 : List Value} {y : MethodName} {maxL1 n index b : Nat} {ret : Option FieldType} {rv : Option Value} {pc : Nat}
theorem xc_run (C : xOK Γ cc own De) {H : Heap} {locs : List Loc} {ls : Array Slot} {AA : List Value} (hP : va_P (gD (xE Γ)) vwCl (xWs (xad Γ) (xE Γ) w) H) (hS : va_S (xA Γ) (xs Γ).heap H locs) (hl : lv_has ls (xn Γ) lv)
    (hr : va_Run (xp Γ) (xl Γ) (xe Γ) (xR Γ) (xs Γ) (xm Γ) (xar Γ) (xbe Γ) (xme Γ) (xc Γ) H locs (xce Γ) (xsl Γ) 0 0 (F0 (xm Γ) pc ls st0) rest (g_Q rv (xE Γ) (xWs (xad Γ) (xE Γ) w1) (va_A (xWs (xad Γ) (xE Γ) w) H.size) AA.toArray) (va_A (xWs (xad Γ) (xE Γ) w) H.size)) (hst : rv.toList ++ rest = st1)
    (k : xG Γ w1 (pc + 3) lv st1) : W (xp Γ) (xl Γ) (xe Γ) (xR Γ) (xs Γ) (xm Γ) (xar Γ) (xbe Γ) (xme Γ) (xc Γ) H locs (xce Γ) (xsl Γ) (xQ Γ) (F0 (xm Γ) pc ls st0) := by
  intro T hT X
  obtain ⟨v, st₀, t, T', L, h0, X', hL, e1, e2, ⟨⟨hv, hp⟩, hz, hk⟩, st⟩ := hr T hT X
  cases hv
  subst hst
  rw [h0] at hz hk
  have hf : ∀ q, va_A (xWs (xad Γ) (xE Γ) w) H.size q → xA Γ q := by
    intro q h
    rcases h with ⟨k, e, h⟩ | h
    · exact (C.d w).2 k _ h
    · exact C.a q (Nat.le_trans hS.1 h)
  obtain ⟨t2, a1, b1⟩ := k T'.heap (locs ++ L) ls (by rw [e1]; exact hp)
    ⟨Nat.le_trans hS.1 (by rw [e1]; exact hz), fun q h1 h2 => by rw [e1, hk q (Nat.lt_of_lt_of_le h1 hS.1) (fun z => h2 (hf q z))]; exact hS.2.1 q h1 h2, fun q hq => by
      rcases List.mem_append.mp hq with h | h
      · exact hS.2.2 q h
      · exact hf _ (hL q h)⟩ hl T' rfl X'
  exact ⟨t2, st t2 a1, b1⟩
theorem xc_pre (C : xOK Γ cc own De) {H : Heap} {locs : List Loc} (hP : va_P (gD (xE Γ)) vwCl (xWs (xad Γ) (xE Γ) w) H) (hS : va_S (xA Γ) (xs Γ).heap H locs) {av : List Value} : ∀ U : State, U.heap = H → (xs Γ).WarmedH U.vm → g_P (xE Γ) av (xWs (xad Γ) (xE Γ) w) H.size av.toArray U := by
  intro U hU hW
  refine ⟨rfl, by rw [hU], by rw [hU]; exact hP, va_K.moved hW.alike C.k, (C.d w).weaken (fun _ _ _ _ => trivial), ?_⟩
  refine C.e.call hS (fun q h => ?_) hU hW
  rcases h with ⟨k, e, h⟩ | h
  · exact (C.d w).2 k _ h
  · exact C.a q (Nat.le_trans hS.1 h)
theorem xc_room (C : xOK Γ cc own De) (hD : D1 + 1 ≤ De) (hm : maxL1 ≤ 45) : (xrm D1).frames + 1 ≤ (xR Γ).frames ∧ 8 + (maxL1 + 11) + (xrm D1).locals ≤ (xR Γ).locals := by
  have h1 := C.f
  have h2 := C.l
  refine ⟨?_, ?_⟩
  · show D1 + 1 ≤ _
    omega
  · show 8 + (maxL1 + 11) + 64 * D1 ≤ _
    omega
theorem xr_callV (C : xOK Γ cc own De) (pc : Nat) (hM : xCt (xl Γ) (xad Γ) (xE Γ) D1 y cc1 maxL1 ret (.ref b :: As) w w1 rv) (v : gVi y Cn cc1 maxL1 ret n) (hlink : Cond.methodLink own index y ∈ gW) (hD : D1 + 1 ≤ De) (hm : maxL1 ≤ 45)
    (hrecv : ∀ (H : Heap) (locs : List Loc), va_P (gD (xE Γ)) vwCl (xWs (xad Γ) (xE Γ) w) H → va_S (xA Γ) (xs Γ).heap H locs → ∃ cell : Cell, H[b]? = some cell ∧ cell.vm.isStatics = false ∧ (xs Γ).vm.findClass Cn = some cell.cls)
    (hn : As.length = n) (hs0 : st0 = As.reverse ++ .ref b :: rest) (hrest : (rest.map fun v => v.category).sum ≤ 8) (hst : rv.toList ++ rest = st1) (hdg : decode cc pc = .ok (.invokevirtual index, 3)) (k : xG Γ w1 (pc + 3) lv st1) : xG Γ w pc lv st0 := by
  intro H locs ls hP hS hl
  refine xc_run (AA := .ref b :: As) C hP hS hl (va_runV (own := own) (C := Cn) (Ts := gW) ⟨C.x, C.b, C.ml, C.o, C.t⟩ (hM H.size) ⟨callB_of n C.t (gW_call v.1.1) rfl rfl rfl (C.t _ v.1.2.1) (C.t _ hlink) v.1.2.2 (xc_room C hD hm), C.t _ v.2.1, C.t _ v.2.2⟩ ⟨g_Pblind, hrecv H locs hP hS, xc_pre C hP hS⟩ rfl hn hl.1 hs0 (lv_room hrest) hdg ⟨C.c, C.s⟩) hst k
theorem xr_callS (C : xOK Γ cc own De) (pc : Nat) (hM : xCt (xl Γ) (xad Γ) (xE Γ) D1 y cc1 maxL1 ret As w w1 rv) (v : gVs y cc1 maxL1 ret n) (hlink : Cond.methodLink own index y ∈ gW) (hD : D1 + 1 ≤ De) (hm : maxL1 ≤ 45)
    (hn : As.length = n) (hs0 : st0 = As.reverse ++ rest) (hrest : (rest.map fun v => v.category).sum ≤ 8) (hst : rv.toList ++ rest = st1) (hdg : decode cc pc = .ok (.invokestatic index, 3)) (k : xG Γ w1 (pc + 3) lv st1) : xG Γ w pc lv st0 := by
  intro H locs ls hP hS hl
  refine xc_run (AA := As) C hP hS hl (va_runS (own := own) (Ts := gW) ⟨C.x, C.b, C.ml, C.o, C.t⟩ (hM H.size) ⟨callB_of n C.t (gW_call v.1.1) rfl rfl rfl (C.t _ v.1.2.1) (C.t _ hlink) v.1.2.2 (xc_room C hD hm), C.t _ v.2⟩ ⟨g_Pblind, xc_pre C hP hS⟩ rfl hn hl.1 hs0 (lv_room hrest) hdg ⟨C.c, C.s⟩) hst k
/-- the receiver is one of our cells -/
theorem xrecv (C : xOK Γ cc own De) {q ci : Nat} {fs : List (Option Nat)} {T : u_T} {N : Nat} (hs : xSH[q]? = some (.inr (ci, fs))) (hc : vwCl[ci]? = some (Cn, T, N)) : ∀ (H : Heap) (locs : List Loc), va_P (gD (xE Γ)) vwCl (xWs (xad Γ) (xE Γ) w) H → va_S (xA Γ) (xs Γ).heap H locs → ∃ cell : Cell, H[xad Γ q]? = some cell ∧ cell.vm.isStatics = false ∧ (xs Γ).vm.findClass Cn = some cell.cls := fun H locs hP hS => va_recv C.k hP hc (xWs_get hs)
theorem xrecvS (C : xOK Γ cc own De) {j : Nat} (hj : j < 17) : ∀ (H : Heap) (locs : List Loc), va_P (gD (xE Γ)) vwCl (xWs (xad Γ) (xE Γ) w) H → va_S (xA Γ) (xs Γ).heap H locs → ∃ cell : Cell, H[adK (xE Γ) j]? = some cell ∧ cell.vm.isStatics = false ∧ (xs Γ).vm.findClass "java/lang/String" = some cell.cls := fun H locs hP hS => vk_recv C.e.2.2.2.2.2.2.2.2.1 hj hS
end XCALL
theorem xnb {a b i : Nat} (h : a = b) (e : Nat.ble i b = true) : Nat.ble i a = true := by
  rw [h]
  exact e
theorem ibd_lt {i : Int32} {n : Nat} (h : ibd i n = true) : i.toNatClampNeg < n := by
  simp only [ibd, Bool.and_eq_true, decide_eq_true_eq] at h
  exact h.2
theorem g_ib {α : Type} {i : Int32} {n : Nat} {A : Option α} {o : α} (h : (if ibd i n = true then A else none) = some o) : ibd i n = true ∧ A = some o := g_lt h
