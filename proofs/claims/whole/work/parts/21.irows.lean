/-! making cells: the walk over a world that is a list (laid by wip/whole/gen/irows.py) -/
def nOK (Γ : xΓ) (cc : ByteArray) (own : String) (De mc ms : Nat) : Prop := (xp Γ).tables.exec = Jvm.exec ∧ (xc Γ).code = cc ∧ (xc Γ).maxLocals = xn Γ ∧ (xs Γ).vm.findClass own = some (xm Γ).cls ∧ (∀ w ∈ gW, w.before (xar Γ) (xs Γ) = true) ∧ (∀ q, (xs Γ).heap.size ≤ q → xA Γ q) ∧ va_K (gD (xE Γ)) vwCl (gtys (xE Γ)) (xs Γ) ∧ gE (xE Γ) (xA Γ) (xs Γ) (xs Γ).heap ∧ De ≤ (xR Γ).frames ∧ 64 * De ≤ (xR Γ).locals ∧ mc ≤ (xR Γ).cells ∧ ms ≤ (xR Γ).slots
section NOK
variable {Γ : xΓ} {cc : ByteArray} {own : String} {De mc ms : Nat}
theorem nOK.x (C : nOK Γ cc own De mc ms) : (xp Γ).tables.exec = Jvm.exec := C.1
theorem nOK.b (C : nOK Γ cc own De mc ms) : (xc Γ).code = cc := C.2.1
theorem nOK.ml (C : nOK Γ cc own De mc ms) : (xc Γ).maxLocals = xn Γ := C.2.2.1
theorem nOK.o (C : nOK Γ cc own De mc ms) : (xs Γ).vm.findClass own = some (xm Γ).cls := C.2.2.2.1
theorem nOK.t (C : nOK Γ cc own De mc ms) : ∀ w ∈ gW, w.before (xar Γ) (xs Γ) = true := C.2.2.2.2.1
theorem nOK.a (C : nOK Γ cc own De mc ms) : ∀ q, (xs Γ).heap.size ≤ q → xA Γ q := C.2.2.2.2.2.1
theorem nOK.k (C : nOK Γ cc own De mc ms) : va_K (gD (xE Γ)) vwCl (gtys (xE Γ)) (xs Γ) := C.2.2.2.2.2.2.1
theorem nOK.e (C : nOK Γ cc own De mc ms) : gE (xE Γ) (xA Γ) (xs Γ) (xs Γ).heap := C.2.2.2.2.2.2.2.1
theorem nOK.f (C : nOK Γ cc own De mc ms) : De ≤ (xR Γ).frames := C.2.2.2.2.2.2.2.2.1
theorem nOK.l (C : nOK Γ cc own De mc ms) : 64 * De ≤ (xR Γ).locals := C.2.2.2.2.2.2.2.2.2.1
theorem nOK.c (C : nOK Γ cc own De mc ms) : mc ≤ (xR Γ).cells := C.2.2.2.2.2.2.2.2.2.2.1
theorem nOK.s (C : nOK Γ cc own De mc ms) : ms ≤ (xR Γ).slots := C.2.2.2.2.2.2.2.2.2.2.2
end NOK
def xN (Γ : xΓ) (ce sl : Nat) (ws : va_W) (pc : Nat) (lv : List (Nat × Value)) (st : List Value) : Prop := ∀ (H : Heap) (locs : List Loc) (ls : Array Slot), va_P (gD (xE Γ)) vwCl ws H → va_D (xA Γ) ws → va_S (xA Γ) (xs Γ).heap H locs → lv_has ls (xn Γ) lv → W (xp Γ) (xl Γ) (xe Γ) (xR Γ) (xs Γ) (xm Γ) (xar Γ) (xbe Γ) (xme Γ) (xc Γ) H locs ce sl (xQ Γ) (F0 (xm Γ) pc ls st)
theorem xN.sub {Γ : xΓ} {ce sl : Nat} {ws : va_W} {pc : Nat} {lv cur : List (Nat × Value)} {st : List Value} (k : xN Γ ce sl ws pc lv st) (h : xsub lv cur) : xN Γ ce sl ws pc cur st := fun H locs ls hP hD hS hl => k H locs ls hP hD hS (xsub_has h hl)
/-- a pool entry that names a final field -/
def xFf (own : String) (idx ci k : Nat) (t : FieldType) : Prop := ∃ (C : String) (T : u_T) (N : Nat) (ty : Nat → FieldType), xCls ci C T N ty ∧ k < N ∧ Cond.fieldLink own idx (T k).1 (T k).2.1 (T k).2.2.1 ∈ gW ∧ (T k).2.2.2 = true ∧ (T k).1 = own ∧ parseFieldDescriptor (T k).2.2.1 = some t
theorem xn_iconst {Γ : xΓ} {cc : ByteArray} {own : String} {De mc ms : Nat} (C : nOK Γ cc own De mc ms) {ce sl : Nat} {ws : va_W} {lv : List (Nat × Value)} {rest : List Value} (pc : Nat) {n : Int} (v : Int32) (hv : Int32.ofInt n = v) (d : decode cc pc = .ok (.iconst n, 1)) (k : xN Γ ce sl ws (pc + 1) lv (.int v :: rest)) : xN Γ ce sl ws pc lv (rest) := fun H locs ls hP hD hS hl => lv_iconst C.x C.b d hv (k H locs ls hP hD hS hl)
theorem xn_bipush {Γ : xΓ} {cc : ByteArray} {own : String} {De mc ms : Nat} (C : nOK Γ cc own De mc ms) {ce sl : Nat} {ws : va_W} {lv : List (Nat × Value)} {rest : List Value} (pc : Nat) {n : Int} (v : Int32) (hv : (Int8.ofInt n).toInt32 = v) (d : decode cc pc = .ok (.bipush n, 2)) (k : xN Γ ce sl ws (pc + 2) lv (.int v :: rest)) : xN Γ ce sl ws pc lv (rest) := fun H locs ls hP hD hS hl => lv_bipush C.x C.b d hv (k H locs ls hP hD hS hl)
theorem xn_sipush {Γ : xΓ} {cc : ByteArray} {own : String} {De mc ms : Nat} (C : nOK Γ cc own De mc ms) {ce sl : Nat} {ws : va_W} {lv : List (Nat × Value)} {rest : List Value} (pc : Nat) {n : Int} (v : Int32) (hv : (Int16.ofInt n).toInt32 = v) (d : decode cc pc = .ok (.sipush n, 3)) (k : xN Γ ce sl ws (pc + 3) lv (.int v :: rest)) : xN Γ ce sl ws pc lv (rest) := fun H locs ls hP hD hS hl => lv_sipush C.x C.b d hv (k H locs ls hP hD hS hl)
theorem xn_iload_n {Γ : xΓ} {cc : ByteArray} {own : String} {De mc ms : Nat} (C : nOK Γ cc own De mc ms) {ce sl : Nat} {ws : va_W} {lv : List (Nat × Value)} {rest : List Value} (pc : Nat) {i : Fin 4} {x : Int32} (h : lGet lv (i : Nat) = some (.int x)) (d : decode cc pc = .ok (.iload_n i, 1)) (k : xN Γ ce sl ws (pc + 1) lv (.int x :: rest)) : xN Γ ce sl ws pc lv (rest) := fun H locs ls hP hD hS hl => lv_iload_n C.x C.b d rfl (lGet_at hl h) (k H locs ls hP hD hS hl)
theorem xn_aload_n {Γ : xΓ} {cc : ByteArray} {own : String} {De mc ms : Nat} (C : nOK Γ cc own De mc ms) {ce sl : Nat} {ws : va_W} {lv : List (Nat × Value)} {rest : List Value} (pc : Nat) {i : Fin 4} {x : Nat} (h : lGet lv (i : Nat) = some (.ref x)) (d : decode cc pc = .ok (.aload_n i, 1)) (k : xN Γ ce sl ws (pc + 1) lv (.ref x :: rest)) : xN Γ ce sl ws pc lv (rest) := fun H locs ls hP hD hS hl => lv_aload_n C.x C.b d rfl (lGet_at hl h) (k H locs ls hP hD hS hl)
theorem xn_dup {Γ : xΓ} {cc : ByteArray} {own : String} {De mc ms : Nat} (C : nOK Γ cc own De mc ms) {ce sl : Nat} {ws : va_W} {lv : List (Nat × Value)} {rest : List Value} (pc : Nat) {v : Value} (hv : v.category = 1) (d : decode cc pc = .ok (.dup, 1)) (k : xN Γ ce sl ws (pc + 1) lv (v :: v :: rest)) : xN Γ ce sl ws pc lv (v :: rest) := fun H locs ls hP hD hS hl => lv_dup C.x C.b d hv (k H locs ls hP hD hS hl)
theorem xn_istore_n {Γ : xΓ} {cc : ByteArray} {own : String} {De mc ms : Nat} (C : nOK Γ cc own De mc ms) {ce sl : Nat} {ws : va_W} {lv : List (Nat × Value)} {rest : List Value} (pc : Nat) {i : Fin 4} {x : Int32} (d : decode cc pc = .ok (.istore_n i, 1)) (hn : Nat.ble ((i : Nat) + 1) (xn Γ) = true) (k : xN Γ ce sl ws (pc + 1) (((i : Nat), Value.int x) :: lDel lv (i : Nat)) rest) : xN Γ ce sl ws pc lv (.int x :: rest) := fun H locs ls hP hD hS hl => lv_istore_n C.x C.b d rfl hl (Nat.le_of_ble_eq_true hn) (congrArg (List.cons _) (lDel_eq lv (i : Nat)).symm) (fun ls hl => k H locs ls hP hD hS hl)
theorem xn_astore_n {Γ : xΓ} {cc : ByteArray} {own : String} {De mc ms : Nat} (C : nOK Γ cc own De mc ms) {ce sl : Nat} {ws : va_W} {lv : List (Nat × Value)} {rest : List Value} (pc : Nat) {i : Fin 4} {x : Nat} (d : decode cc pc = .ok (.astore_n i, 1)) (hn : Nat.ble ((i : Nat) + 1) (xn Γ) = true) (k : xN Γ ce sl ws (pc + 1) (((i : Nat), Value.ref x) :: lDel lv (i : Nat)) rest) : xN Γ ce sl ws pc lv (.ref x :: rest) := fun H locs ls hP hD hS hl => lv_astore_n C.x C.b d rfl hl (Nat.le_of_ble_eq_true hn) (congrArg (List.cons _) (lDel_eq lv (i : Nat)).symm) (fun ls hl => k H locs ls hP hD hS hl)
theorem xn_iinc {Γ : xΓ} {cc : ByteArray} {own : String} {De mc ms : Nat} (C : nOK Γ cc own De mc ms) {ce sl : Nat} {ws : va_W} {lv : List (Nat × Value)} {rest : List Value} (pc : Nat) {i : Nat} {n : Int} {x : Int32} (v z : Int32) (hv : Int32.ofInt n = v) (hz : x + v = z) (h : lGet lv i = some (.int x)) (d : decode cc pc = .ok (.iinc i n, 3)) (hn : Nat.ble (i + 1) (xn Γ) = true) (k : xN Γ ce sl ws (pc + 3) ((i, Value.int z) :: lDel lv i) rest) : xN Γ ce sl ws pc lv rest := by
  intro H locs ls hP hD hS hl
  obtain ⟨j, hj⟩ := lGet_get h
  exact lv_iinc C.x C.b d hl hj (by rw [hv, hz]) (Nat.le_of_ble_eq_true hn) (congrArg (List.cons _) (lDel_eq lv i).symm) (fun ls hl => k H locs ls hP hD hS hl)
theorem xn_icmp_ge {Γ : xΓ} {cc : ByteArray} {own : String} {De mc ms : Nat} (C : nOK Γ cc own De mc ms) {ce sl : Nat} {ws : va_W} {lv : List (Nat × Value)} {rest : List Value} (pc : Nat) (tgt : Nat) {x y : Int32} {off : Int} (d : decode cc pc = .ok (.if_icmp .ge off, 3)) (ht : (pc : Int) + off = (tgt : Int)) (kt : y ≤ x → xN Γ ce sl ws tgt lv rest) (kf : ¬ y ≤ x → xN Γ ce sl ws (pc + 3) lv rest) : xN Γ ce sl ws pc lv (.int y :: .int x :: rest) := fun H locs ls hP hD hS hl => lv_icmp_ge C.x C.b d ht (fun q => kt q H locs ls hP hD hS hl) (fun q => kf q H locs ls hP hD hS hl)
theorem xn_goto {Γ : xΓ} {cc : ByteArray} {own : String} {De mc ms : Nat} (C : nOK Γ cc own De mc ms) {ce sl : Nat} {ws : va_W} {lv : List (Nat × Value)} {rest : List Value} (pc : Nat) (tgt : Nat) {off : Int} (d : decode cc pc = .ok (.goto off, 3)) (ht : (pc : Int) + off = (tgt : Int)) (k : xN Γ ce sl ws tgt lv rest) : xN Γ ce sl ws pc lv rest := fun H locs ls hP hD hS hl => lv_goto C.x C.b d ht (k H locs ls hP hD hS hl)
theorem xn_ldcS {Γ : xΓ} {cc : ByteArray} {own : String} {De mc ms : Nat} (C : nOK Γ cc own De mc ms) {ce sl : Nat} {ws : va_W} {lv : List (Nat × Value)} {rest : List Value} (pc : Nat) {idx j : Nat} {tx : String} (d : decode cc pc = .ok (.ldc idx, 2)) (h : (own, idx, tx, j) ∈ gSTR) (k : xN Γ ce sl ws (pc + 2) lv (.ref (adK (xE Γ) j) :: rest)) : xN Γ ce sl ws pc lv rest := fun H locs ls hP hD hS hl => va_ldcS C.x C.b C.o (C.e.2.2.2.2.2.2.2.2.2.1 _ h) d (k H locs ls hP hD hS hl)
theorem xn_new {Γ : xΓ} {cc : ByteArray} {own : String} {De mc ms : Nat} (C : nOK Γ cc own De mc ms) {ce sl : Nat} {ws : va_W} {lv : List (Nat × Value)} {rest : List Value} (pc : Nat) {idx ci N : Nat} {Cn : String} {T : u_T} {ty : Nat → FieldType} (ce1 sl1 : Nat) (hc1 : ce + 1 = ce1) (hs1 : sl + N = sl1) (K : xCls ci Cn T N ty) (fs : List Value) (hfs : ∀ j, j < N → defaultValue (ty j) = vp_V fs j) (hw : Cond.classLink own idx Cn ∈ gW ∧ Cond.instantiable Cn N ∈ gW ∧ Cond.initialized Cn ∈ gW) (h1 : ce1 ≤ mc) (h2 : sl1 ≤ ms) (d : decode cc pc = .ok (.new idx, 3)) (k : ∀ q, xN Γ ce1 sl1 (ws ++ [(q, .inr (ci, fs))]) (pc + 3) lv (.ref q :: rest)) : xN Γ ce sl ws pc lv rest := by
  subst hc1
  subst hs1
  intro H locs ls hP hD hS hl
  exact va_new C.x C.b C.t K.2.1 ty K.2.2.1 C.o (C.t _ hw.1) (C.t _ hw.2.1) (C.t _ hw.2.2) C.k hP hD hS C.a K.1 hfs (Nat.le_trans h1 C.c) (Nat.le_trans h2 C.s) d (fun q H1 hP1 hD1 hS1 => k q H1 locs ls hP1 hD1 hS1 hl)
theorem xn_newI {Γ : xΓ} {cc : ByteArray} {own : String} {De mc ms : Nat} (C : nOK Γ cc own De mc ms) {ce sl : Nat} {ws : va_W} {lv : List (Nat × Value)} {rest : List Value} (pc : Nat) (ce1 sl1 : Nat) {n : Int32} (N : Nat) (hc1 : ce + 1 = ce1) (hs1 : sl + N = sl1) (hn : ¬ n < 0) (hN : n.toNatClampNeg = N) (hb : N ≤ 60000) (hw : Cond.arrayClass .int ∈ gW) (h1 : ce1 ≤ mc) (h2 : sl1 ≤ ms) (d : decode cc pc = .ok (.newarray .int, 2)) (k : ∀ q, xN Γ ce1 sl1 (ws ++ [(q, .inl (gI (xE Γ), N, .inl (fun _ => 0)))]) (pc + 2) lv (.ref q :: rest)) : xN Γ ce sl ws pc lv (.int n :: rest) := by
  subst hc1
  subst hs1
  intro H locs ls hP hD hS hl
  refine va_newa (atype := .int) (ty := .int) (a0 := (N, .inl (fun _ => 0))) C.x C.b (C.t _ hw) rfl C.k hP hD hS C.a (fun cA => rfl) hn hN (Nat.le_trans (Nat.mul_le_mul_right _ hb) (Nat.le_of_ble_eq_true rfl)) (Nat.le_trans h1 C.c) (Nat.le_trans h2 C.s) d (fun q cA H1 hK1 hP1 hD1 hS1 => ?_)
  have e1 : (xs Γ).vm.findClass ("[" ++ (FieldType.int).toString) = some cA := (hK1.2 5 (cA, .int) rfl).2
  have e2 : (xs Γ).vm.findClass ("[" ++ (FieldType.int).toString) = some (gI (xE Γ)) := (C.k.2 1 (gI (xE Γ), .int) rfl).2
  obtain rfl : gI (xE Γ) = cA := Option.some.inj (e2.symm.trans e1)
  exact k q H1 locs ls hP1 hD1 hS1 hl
theorem xn_newB {Γ : xΓ} {cc : ByteArray} {own : String} {De mc ms : Nat} (C : nOK Γ cc own De mc ms) {ce sl : Nat} {ws : va_W} {lv : List (Nat × Value)} {rest : List Value} (pc : Nat) (ce1 sl1 : Nat) {n : Int32} (N : Nat) (hc1 : ce + 1 = ce1) (hs1 : sl + N = sl1) (hn : ¬ n < 0) (hN : n.toNatClampNeg = N) (hb : N ≤ 60000) (hw : Cond.arrayClass .byte ∈ gW) (h1 : ce1 ≤ mc) (h2 : sl1 ≤ ms) (d : decode cc pc = .ok (.newarray .byte, 2)) (k : ∀ q, xN Γ ce1 sl1 (ws ++ [(q, .inl (gB (xE Γ), N, .inl (fun _ => 0)))]) (pc + 2) lv (.ref q :: rest)) : xN Γ ce sl ws pc lv (.int n :: rest) := by
  subst hc1
  subst hs1
  intro H locs ls hP hD hS hl
  refine va_newa (atype := .byte) (ty := .byte) (a0 := (N, .inl (fun _ => 0))) C.x C.b (C.t _ hw) rfl C.k hP hD hS C.a (fun cA => rfl) hn hN (Nat.le_trans (Nat.mul_le_mul_right _ hb) (Nat.le_of_ble_eq_true rfl)) (Nat.le_trans h1 C.c) (Nat.le_trans h2 C.s) d (fun q cA H1 hK1 hP1 hD1 hS1 => ?_)
  have e1 : (xs Γ).vm.findClass ("[" ++ (FieldType.byte).toString) = some cA := (hK1.2 5 (cA, .byte) rfl).2
  have e2 : (xs Γ).vm.findClass ("[" ++ (FieldType.byte).toString) = some (gB (xE Γ)) := (C.k.2 0 (gB (xE Γ), .byte) rfl).2
  obtain rfl : gB (xE Γ) = cA := Option.some.inj (e2.symm.trans e1)
  exact k q H1 locs ls hP1 hD1 hS1 hl
theorem xn_newL {Γ : xΓ} {cc : ByteArray} {own : String} {De mc ms : Nat} (C : nOK Γ cc own De mc ms) {ce sl : Nat} {ws : va_W} {lv : List (Nat × Value)} {rest : List Value} (pc : Nat) (ce1 sl1 : Nat) {n : Int32} (N : Nat) (hc1 : ce + 1 = ce1) (hs1 : sl + N = sl1) (hn : ¬ n < 0) (hN : n.toNatClampNeg = N) (hb : N ≤ 60000) (hw : Cond.arrayClass .long ∈ gW) (h1 : ce1 ≤ mc) (h2 : sl1 ≤ ms) (d : decode cc pc = .ok (.newarray .long, 2)) (k : ∀ q, xN Γ ce1 sl1 (ws ++ [(q, .inl (gJ (xE Γ), N, .inr (.inl (fun _ => 0))))]) (pc + 2) lv (.ref q :: rest)) : xN Γ ce sl ws pc lv (.int n :: rest) := by
  subst hc1
  subst hs1
  intro H locs ls hP hD hS hl
  refine va_newa (atype := .long) (ty := .long) (a0 := (N, .inr (.inl (fun _ => 0)))) C.x C.b (C.t _ hw) rfl C.k hP hD hS C.a (fun cA => rfl) hn hN (Nat.le_trans (Nat.mul_le_mul_right _ hb) (Nat.le_of_ble_eq_true rfl)) (Nat.le_trans h1 C.c) (Nat.le_trans h2 C.s) d (fun q cA H1 hK1 hP1 hD1 hS1 => ?_)
  have e1 : (xs Γ).vm.findClass ("[" ++ (FieldType.long).toString) = some cA := (hK1.2 5 (cA, .long) rfl).2
  have e2 : (xs Γ).vm.findClass ("[" ++ (FieldType.long).toString) = some (gJ (xE Γ)) := (C.k.2 2 (gJ (xE Γ), .long) rfl).2
  obtain rfl : gJ (xE Γ) = cA := Option.some.inj (e2.symm.trans e1)
  exact k q H1 locs ls hP1 hD1 hS1 hl
theorem xn_anewS {Γ : xΓ} {cc : ByteArray} {own : String} {De mc ms : Nat} (C : nOK Γ cc own De mc ms) {ce sl : Nat} {ws : va_W} {lv : List (Nat × Value)} {rest : List Value} (pc : Nat) (ce1 sl1 : Nat) {n : Int32} {idx : Nat} (N : Nat) (hc1 : ce + 1 = ce1) (hs1 : sl + N = sl1) (hn : ¬ n < 0) (hN : n.toNatClampNeg = N) (hb : N ≤ 60000) (hw : Cond.classLink own idx "TideQuarter$Sheet" ∈ gW) (h1 : ce1 ≤ mc) (h2 : sl1 ≤ ms) (d : decode cc pc = .ok (.anewarray idx, 3)) (k : ∀ q, xN Γ ce1 sl1 (ws ++ [(q, .inl (gS (xE Γ), N, .inr (.inr (.inr (.inr (fun _ => none))))))]) (pc + 3) lv (.ref q :: rest)) : xN Γ ce sl ws pc lv (.int n :: rest) := by
  subst hc1
  subst hs1
  intro H locs ls hP hD hS hl
  refine va_newq C.x C.b C.o (C.t _ hw) C.e.2.2.2.2.2.2.2.2.2.2.2.1 C.k hP hD hS C.a hn hN (Nat.le_trans (Nat.mul_le_mul_right _ hb) (Nat.le_of_ble_eq_true rfl)) (Nat.le_trans h1 C.c) (Nat.le_trans h2 C.s) d (fun q cA H1 hK1 hP1 hD1 hS1 => ?_)
  obtain ⟨kA, comp, -, -, -, e1⟩ := (hK1.2 5 (cA, .object "TideQuarter$Sheet") rfl).2
  obtain ⟨kB, comp', -, -, -, e2⟩ := (C.k.2 3 (gS (xE Γ), .object "TideQuarter$Sheet") rfl).2
  obtain rfl : gS (xE Γ) = cA := Option.some.inj (e2.symm.trans e1)
  exact k q H1 locs ls hP1 hD1 hS1 hl
theorem xn_anewT {Γ : xΓ} {cc : ByteArray} {own : String} {De mc ms : Nat} (C : nOK Γ cc own De mc ms) {ce sl : Nat} {ws : va_W} {lv : List (Nat × Value)} {rest : List Value} (pc : Nat) (ce1 sl1 : Nat) {n : Int32} {idx : Nat} (N : Nat) (hc1 : ce + 1 = ce1) (hs1 : sl + N = sl1) (hn : ¬ n < 0) (hN : n.toNatClampNeg = N) (hb : N ≤ 60000) (hw : Cond.classLink own idx "java/lang/String" ∈ gW) (h1 : ce1 ≤ mc) (h2 : sl1 ≤ ms) (d : decode cc pc = .ok (.anewarray idx, 3)) (k : ∀ q, xN Γ ce1 sl1 (ws ++ [(q, .inl (gT (xE Γ), N, .inr (.inr (.inr (.inr (fun _ => none))))))]) (pc + 3) lv (.ref q :: rest)) : xN Γ ce sl ws pc lv (.int n :: rest) := by
  subst hc1
  subst hs1
  intro H locs ls hP hD hS hl
  refine va_newq C.x C.b C.o (C.t _ hw) C.e.2.2.2.2.2.2.2.2.2.2.2.2 C.k hP hD hS C.a hn hN (Nat.le_trans (Nat.mul_le_mul_right _ hb) (Nat.le_of_ble_eq_true rfl)) (Nat.le_trans h1 C.c) (Nat.le_trans h2 C.s) d (fun q cA H1 hK1 hP1 hD1 hS1 => ?_)
  obtain ⟨kA, comp, -, -, -, e1⟩ := (hK1.2 5 (cA, .object "java/lang/String") rfl).2
  obtain ⟨kB, comp', -, -, -, e2⟩ := (C.k.2 4 (gT (xE Γ), .object "java/lang/String") rfl).2
  obtain rfl : gT (xE Γ) = cA := Option.some.inj (e2.symm.trans e1)
  exact k q H1 locs ls hP1 hD1 hS1 hl
theorem xn_putR {Γ : xΓ} {cc : ByteArray} {own : String} {De mc ms : Nat} (C : nOK Γ cc own De mc ms) {ce sl : Nat} {ws : va_W} {lv : List (Nat × Value)} {rest : List Value} (pc : Nat) {idx ci f a v : Nat} {t : FieldType} {fs : List Value} (q0 : Nat) (hm : (xme Γ).name = "<init>") (F : xFf own idx ci f t) (he : ws[q0]? = some (a, .inr (ci, fs))) (hl0 : f < fs.length) (hn : narrow t (.ref v) = .ref v) (hf : fits t (.ref v) = true) (d : decode cc pc = .ok (.putfield idx, 3)) (k : xN Γ ce sl (ws.set q0 (a, .inr (ci, fs.set f (.ref v)))) (pc + 3) lv rest) : xN Γ ce sl ws pc lv (.ref v :: .ref a :: rest) := by
  intro H locs ls hP hD hS hl
  obtain ⟨Cn, T, N, ty, ⟨h1, h2, h3, h3n⟩, h4, h5, h6, h7, h8⟩ := F
  exact va_putF C.x C.b C.t h2 ty h3 h3n C.o C.k hP hD hS q0 he h1 f h4 (C.t _ h5) (fun _ h => h) h6 hm h7 h8 hn hf hl0 d (fun H1 locs1 hP1 hD1 hS1 => k H1 locs1 ls hP1 hD1 hS1 hl)
theorem xn_putI {Γ : xΓ} {cc : ByteArray} {own : String} {De mc ms : Nat} (C : nOK Γ cc own De mc ms) {ce sl : Nat} {ws : va_W} {lv : List (Nat × Value)} {rest : List Value} (pc : Nat) {idx ci f a : Nat} {v : Int32} {fs : List Value} (q0 : Nat) (F : xFp own idx ci f .int) (he : ws[q0]? = some (a, .inr (ci, fs))) (hl0 : f < fs.length) (d : decode cc pc = .ok (.putfield idx, 3)) (k : xN Γ ce sl (ws.set q0 (a, .inr (ci, fs.set f (.int v)))) (pc + 3) lv rest) : xN Γ ce sl ws pc lv (.int v :: .ref a :: rest) := by
  intro H locs ls hP hD hS hl
  obtain ⟨Cn, T, N, ty, ⟨h1, h2, h3, h3n⟩, h4, h5, h6, h7⟩ := F
  exact va_put C.x C.b C.t h2 ty h3 h3n C.o C.k hP hD hS q0 he h1 f h4 (C.t _ h5) (fun _ h => h) h6 h7 rfl rfl hl0 d (fun H1 locs1 hP1 hD1 hS1 => k H1 locs1 ls hP1 hD1 hS1 hl)
theorem xn_putZ {Γ : xΓ} {cc : ByteArray} {own : String} {De mc ms : Nat} (C : nOK Γ cc own De mc ms) {ce sl : Nat} {ws : va_W} {lv : List (Nat × Value)} {rest : List Value} (pc : Nat) {idx ci f a : Nat}  {fs : List Value} (q0 : Nat) (F : xFp own idx ci f .boolean) (he : ws[q0]? = some (a, .inr (ci, fs))) (hl0 : f < fs.length) (d : decode cc pc = .ok (.putfield idx, 3)) (k : xN Γ ce sl (ws.set q0 (a, .inr (ci, fs.set f (.int 0)))) (pc + 3) lv rest) : xN Γ ce sl ws pc lv (.int 0 :: .ref a :: rest) := by
  intro H locs ls hP hD hS hl
  obtain ⟨Cn, T, N, ty, ⟨h1, h2, h3, h3n⟩, h4, h5, h6, h7⟩ := F
  exact va_put C.x C.b C.t h2 ty h3 h3n C.o C.k hP hD hS q0 he h1 f h4 (C.t _ h5) (fun _ h => h) h6 h7 rfl rfl hl0 d (fun H1 locs1 hP1 hD1 hS1 => k H1 locs1 ls hP1 hD1 hS1 hl)
theorem xn_get {Γ : xΓ} {cc : ByteArray} {own : String} {De mc ms : Nat} (C : nOK Γ cc own De mc ms) {ce sl : Nat} {ws : va_W} {lv : List (Nat × Value)} {rest : List Value} (pc : Nat) {idx ci f a : Nat} {v : Value} {fs : List Value} (q0 : Nat) (F : xFl own idx ci f) (he : ws[q0]? = some (a, .inr (ci, fs))) (hv : fs[f]? = some v) (d : decode cc pc = .ok (.getfield idx, 3)) (k : xN Γ ce sl ws (pc + 3) lv (v :: rest)) : xN Γ ce sl ws pc lv (.ref a :: rest) := by
  intro H locs ls hP hD hS hl
  obtain ⟨Cn, T, N, ty, ⟨h1, h2, -, -⟩, h4, h5⟩ := F
  exact va_get C.x C.b C.t h2 C.o C.k hP q0 he h1 f h4 (C.t _ h5) (fun _ h => h) hv d (k H locs ls hP hD hS hl)
theorem xn_iast {Γ : xΓ} {cc : ByteArray} {own : String} {De mc ms : Nat} (C : nOK Γ cc own De mc ms) {ce sl : Nat} {ws : va_W} {lv : List (Nat × Value)} {rest : List Value} (pc : Nat) {a n : Nat} {i x : Int32} {f : Nat → Int32} (q0 j : Nat) (hj : i.toNatClampNeg = j) (he : ws[q0]? = some (a, .inl (gI (xE Γ), n, .inl f))) (hin : vp_in i n) (d : decode cc pc = .ok (.iastore, 1)) (k : xN Γ ce sl (ws.set q0 (a, .inl (gI (xE Γ), n, .inl (upd f j x)))) (pc + 1) lv rest) : xN Γ ce sl ws pc lv (.int x :: .int i :: .ref a :: rest) := by
  subst hj
  exact fun H locs ls hP hD hS hl => va_iast C.x C.b C.k hP hD hS q0 1 he rfl hin d (fun H1 locs1 hP1 hD1 hS1 => k H1 locs1 ls hP1 hD1 hS1 hl)
theorem xn_aastS {Γ : xΓ} {cc : ByteArray} {own : String} {De mc ms : Nat} (C : nOK Γ cc own De mc ms) {ce sl : Nat} {ws : va_W} {lv : List (Nat × Value)} {rest : List Value} (pc : Nat) {a v n : Nat} {i : Int32} {f : Nat → Option Nat} {vs : List Value} (q0 qk j : Nat) (hj : i.toNatClampNeg = j) (he : ws[q0]? = some (a, .inl (gS (xE Γ), n, .inr (.inr (.inr (.inr f)))))) (hv : ws[qk]? = some (v, .inr (2, vs))) (hin : vp_in i n) (d : decode cc pc = .ok (.aastore, 1)) (k : xN Γ ce sl (ws.set q0 (a, .inl (gS (xE Γ), n, .inr (.inr (.inr (.inr (va_up f j (some v)))))))) (pc + 1) lv rest) : xN Γ ce sl ws pc lv (.ref v :: .int i :: .ref a :: rest) := by
  subst hj
  exact fun H locs ls hP hD hS hl => va_astq C.x C.b C.k hP hD hS q0 3 qk 2 (r := (RX2, TX2, 3)) he rfl hv rfl hin d (fun H1 locs1 hP1 hD1 hS1 => k H1 locs1 ls hP1 hD1 hS1 hl)
theorem xn_aastT {Γ : xΓ} {cc : ByteArray} {own : String} {De mc ms : Nat} (C : nOK Γ cc own De mc ms) {ce sl : Nat} {ws : va_W} {lv : List (Nat × Value)} {rest : List Value} (pc : Nat) {a n jj : Nat} {i : Int32} {f : Nat → Option Nat} (q0 j : Nat) (hj : i.toNatClampNeg = j) (hjj : jj < 17) (he : ws[q0]? = some (a, .inl (gT (xE Γ), n, .inr (.inr (.inr (.inr f)))))) (hin : vp_in i n) (d : decode cc pc = .ok (.aastore, 1)) (k : xN Γ ce sl (ws.set q0 (a, .inl (gT (xE Γ), n, .inr (.inr (.inr (.inr (va_up f j (some (adK (xE Γ) jj))))))))) (pc + 1) lv rest) : xN Γ ce sl ws pc lv (.ref (adK (xE Γ) jj) :: .int i :: .ref a :: rest) := by
  subst hj
  intro H locs ls hP hD hS hl
  have hany : va_Any "java/lang/String" (xs Γ) H (adK (xE Γ) jj) := by
    obtain ⟨cell, h1, h2, h3⟩ := vk_recv C.e.2.2.2.2.2.2.2.2.1 hjj hS
    obtain ⟨kC, hkC, -⟩ := Vm.findClass_spec h3
    exact ⟨cell, h1, h2, ⟨kC, hkC⟩, fun comp h => by
      rw [h3] at h
      cases h
      exact va_asg _ _⟩
  exact va_astqM C.x C.b C.k hP hD hS q0 4 (E := "java/lang/String") he rfl hany hin d (fun H1 locs1 hP1 hD1 hS1 => k H1 locs1 ls hP1 hD1 hS1 hl)
theorem xn_objInit {Γ : xΓ} {cc : ByteArray} {own : String} {De mc ms : Nat} (C : nOK Γ cc own De mc ms) {ce sl : Nat} {ws : va_W} {lv : List (Nat × Value)} {rest : List Value} (pc : Nat) {idx a : Nat} (h : Cond.methodLink own idx objectInit ∈ gW ∧ Cond.instanceMethod objectInit ∈ gW ∧ Cond.code objectInit ⟨#[0xb1]⟩ 1 none ∈ gW) (hD1 : 1 ≤ De) (hr : (rest.map fun v => v.category).sum ≤ 8) (d : decode cc pc = .ok (.invokespecial idx, 3)) (k : xN Γ ce sl ws (pc + 3) lv rest) : xN Γ ce sl ws pc lv (.ref a :: rest) := by
  intro H locs ls hP hD hS hl
  exact W.objInit C.x C.b C.o (C.t _ h.1) (C.t _ h.2.1) (C.t _ h.2.2) rfl (by rw [C.ml]; exact hl.1) rfl d (Nat.le_trans hD1 C.f) (by have h2 := C.l; show 2 * 0 + _ + 12 ≤ _; omega) (k H locs ls hP hD hS hl)
/-- a constructor's contract: from the world ws0 to P a, for some addresses a; it makes mc cells of ms slots -/
def n_Q (G : gEnv) (P : (Nat → Nat) → va_W) (h0 : Nat) (A : Nat → Prop) : Array Value → State → Outcome → State → Prop := fun _ st oc t => (oc = .returned none ∧ ∃ a : Nat → Nat, a 0 = h0 ∧ va_P (gD G) vwCl (P a) t.heap ∧ va_D A (P a)) ∧ va_F A st t
def nCt (l : Launch) (G : gEnv) (De mc ms : Nat) (y : MethodName) (cc : ByteArray) (maxL : Nat) (av : List Value) (ws0 : va_W) (h0 : Nat) (P : (Nat → Nat) → va_W) : Prop := ∀ sz : Nat, Met l y (Cond.code y cc maxL none :: gW) { frames := De, cells := mc, slots := ms, locals := 64 * De } (g_P G av ws0 sz) (n_Q G P h0 (va_A ws0 sz)) mc ms (va_A ws0 sz)
def nEnd (Γ : xΓ) (mc ms h0 : Nat) (P : (Nat → Nat) → va_W) : Prop := (xme Γ).sig.returnType = none ∧ (xme Γ).locks = false ∧ (xme Γ).name = "<init>" ∧ xQ Γ = MQ (xbe Γ) (n_Q (xE Γ) P h0 (xA Γ)) (xar Γ) (xs Γ) mc ms (xA Γ)
theorem nCt.of {l : Launch} {G : gEnv} {De mc ms : Nat} {y : MethodName} {cc : ByteArray} {maxL : Nat} {av : List Value} {ws0 : va_W} {h0 : Nat} {P : (Nat → Nat) → va_W} (own : String) (ho : y.cls = own) (hyi : y.name = "<init>") (hy : plainName y.cls = true) (hn : (lg_sl av).length ≤ maxL)
    (body : ∀ Γ : xΓ, xl Γ = l → xE Γ = G → xn Γ = maxL → nOK Γ cc own De mc ms → nEnd Γ mc ms h0 P → xN Γ 0 0 ws0 0 (lv_args 0 av) []) : nCt l G De mc ms y cc maxL av ws0 h0 P := by
  intro sz
  refine Met.ofW (cc := cc) (maxL := maxL) (ret := none) hy rfl ?_
  intro p e s m args below meth c s₁ B hml hv
  obtain ⟨rfl, hsz, hP, hK, hD0, hE⟩ := hv
  subst hsz
  subst ho
  have hnm : meth.name = "<init>" := (name_of_methodNamed B.named B.method).1.trans hyi
  rw [lg_entry_eq]
  exact body (l, (fun q => q), G, p, e, { frames := De, cells := mc, slots := ms, locals := 64 * De }, s, m, av.toArray, below, meth, c, MQ below (n_Q G P h0 (va_A ws0 s.heap.size)) av.toArray s mc ms (va_A ws0 s.heap.size), va_A ws0 s.heap.size, maxL, 0, 0) rfl rfl rfl ⟨B.exec, B.bytes, hml, findClass_of_methodNamed B.named, (fun w hw => atoms_spec (ws := Cond.code y cc maxL none :: gW) B.pre w (List.mem_cons_of_mem _ hw)), (fun q h => Or.inr h), hK, hE, Nat.le_refl _, Nat.le_refl _, Nat.le_refl _, Nat.le_refl _⟩ ⟨B.returns, B.notSynchronized, hnm, rfl⟩ s.heap [] _ hP hD0.self va_S.rf (lv_entry av hn)
theorem xn_ret {Γ : xΓ} {cc : ByteArray} {own : String} {De mc ms : Nat} (C : nOK Γ cc own De mc ms) {ce sl : Nat} {ws : va_W} {lv : List (Nat × Value)} (pc : Nat) {h0 : Nat} {P : (Nat → Nat) → va_W} (E : nEnd Γ ce sl h0 P) (a : Nat → Nat) (ha : a 0 = h0) (hw : P a = ws) (d : decode cc pc = .ok (.return_, 1)) : xN Γ ce sl ws pc lv [] := by
  obtain ⟨h1, h2, h3, h4⟩ := E
  intro H locs ls hP hD hS hl
  rw [h4]
  exact W.vret C.x C.b h1 (fun t ht hW => ⟨⟨rfl, a, ha, by rw [ht, hw]; exact hP, by rw [hw]; exact hD⟩, hS.F ht⟩) hS.2.2 d h2
theorem xn_callrun {Γ : xΓ} {cc : ByteArray} {own : String} {De mc ms : Nat} (C : nOK Γ cc own De mc ms) {ce sl : Nat} {ws : va_W} {lv : List (Nat × Value)} {rest : List Value} (pc : Nat) {H : Heap} {locs : List Loc} {ls : Array Slot} {AA : List Value} {st0 : List Value} {x : Nat × va_E} {wr : va_W} {h0 m1 s1 ce1 sl1 : Nat} {P : (Nat → Nat) → va_W} (isC isR : List Nat) (hC : isC.map (fun i => ws[i]?) = [x].map some) (hR : isR.map (fun i => ws[i]?) = wr.map some) (hnd : va_nd isR = true) (hdis : ∀ i ∈ isR, i ∉ isC) (hc1 : ce + m1 = ce1) (hs1 : sl + s1 = sl1) (hP : va_P (gD (xE Γ)) vwCl ws H) (hD : va_D (xA Γ) ws) (hS : va_S (xA Γ) (xs Γ).heap H locs) (hl : lv_has ls (xn Γ) lv)
    (hr : va_Run (xp Γ) (xl Γ) (xe Γ) (xR Γ) (xs Γ) (xm Γ) (xar Γ) (xbe Γ) (xme Γ) (xc Γ) H locs ce sl m1 s1 (F0 (xm Γ) pc ls st0) rest (n_Q (xE Γ) P h0 (va_A [x] H.size) AA.toArray) (va_A [x] H.size))
    (k : ∀ a : Nat → Nat, a 0 = h0 → xN Γ ce1 sl1 (wr ++ P a) (pc + 3) lv rest) : W (xp Γ) (xl Γ) (xe Γ) (xR Γ) (xs Γ) (xm Γ) (xar Γ) (xbe Γ) (xme Γ) (xc Γ) H locs ce sl (xQ Γ) (F0 (xm Γ) pc ls st0) := by
  subst hc1
  subst hs1
  intro T hT X
  obtain ⟨v, st₀, t, T', L, h0', X', hL, e1, e2, ⟨⟨hv, a, ha, hp, hd⟩, hz, hk⟩, st⟩ := hr T hT X
  cases hv
  rw [h0'] at hz hk
  have hf := va_free (wc := [x]) hD hS C.a isC hC
  have hk1 : ∀ q : Nat, q < H.size → ¬ va_A [x] H.size q → T'.heap[q]? = H[q]? := fun q h1 h2 => by rw [e1]; exact hk q h1 h2
  obtain ⟨hP2, hD2⟩ := va_join (wr := wr) (w1 := P a) hP hD isC isR hC hR hnd hdis hk1 hf (by rw [e1]; exact hp) hd
  obtain ⟨t2, a1, b1⟩ := k a ha T'.heap (locs ++ L) ls hP2 hD2
    ⟨Nat.le_trans hS.1 (by rw [e1]; exact hz), fun q h1 h2 => by rw [e1, hk q (Nat.lt_of_lt_of_le h1 hS.1) (fun z => h2 (hf q z))]; exact hS.2.1 q h1 h2, fun q hq => by
      rcases List.mem_append.mp hq with h | h
      · exact hS.2.2 q h
      · exact hf _ (hL q h)⟩ hl T' rfl X'
  exact ⟨t2, st t2 a1, b1⟩
theorem n_blind {G : gEnv} {av : List Value} {w0 : va_W} {sz : Nat} : FrameBlind (g_P G av w0 sz) := g_Pblind
theorem xn_pre {Γ : xΓ} {cc : ByteArray} {own : String} {De mc ms : Nat} (C : nOK Γ cc own De mc ms) {ws : va_W} {H : Heap} {locs : List Loc} {x : Nat × va_E} (isC : List Nat) (hnC : va_nd isC = true) (hC : isC.map (fun i => ws[i]?) = [x].map some) (hP : va_P (gD (xE Γ)) vwCl ws H) (hD : va_D (xA Γ) ws) (hS : va_S (xA Γ) (xs Γ).heap H locs) {av : List Value} : ∀ U : State, U.heap = H → (xs Γ).WarmedH U.vm → g_P (xE Γ) av [x] H.size av.toArray U := by
  intro U hU hW
  refine ⟨rfl, by rw [hU], ?_, va_K.moved hW.alike C.k, (hD.sub isC hnC hC).weaken (fun _ _ _ _ => trivial), ?_⟩
  · rw [hU]
    intro k q hk
    have h1 : (isC.map (fun i => ws[i]?))[k]? = some (some q) := by rw [hC, List.getElem?_map, hk]; rfl
    rw [List.getElem?_map] at h1
    cases hi : isC[k]? with
    | none => rw [hi] at h1; cases h1
    | some i => rw [hi] at h1; exact hP i q (Option.some.inj h1)
  · exact C.e.call hS (va_free (wc := [x]) hD hS C.a isC hC) hU hW
def nV (y : MethodName) (cc : ByteArray) (maxL n : Nat) : Prop := Cond.code y cc maxL none ∈ gW ∧ Cond.initialized y.cls ∈ gW ∧ (y.cls ≠ "java/lang/invoke/MethodHandle" ∧ y.cls ≠ "java/lang/invoke/VarHandle" ∧ (parseMethodDescriptor y.desc).map (fun d => d.parameters.length) = some n) ∧ Cond.instanceMethod y ∈ gW ∧ y.name = "<init>"
theorem xn_ctorN {Γ : xΓ} {cc : ByteArray} {own : String} {De mc ms : Nat} (C : nOK Γ cc own De mc ms) {ce sl : Nat} {ws : va_W} {lv : List (Nat × Value)} {rest : List Value} (pc : Nat) {idx D1 m1 s1 maxL1 n h0 : Nat} {cc1 : ByteArray} {y : MethodName} {host : String} {x : Nat × va_E} {As st0 : List Value} {P : (Nat → Nat) → va_W} (ce1 sl1 : Nat) (wr : va_W) (isC isR : List Nat) (hM : nCt (xl Γ) (xE Γ) D1 m1 s1 y cc1 maxL1 (.ref h0 :: As) [x] h0 P) (v : nV y cc1 maxL1 n) (hlink : (own, idx, y, host) ∈ gNEST) (hDe : D1 + 1 ≤ De) (hLo : 8 + (maxL1 + 11) + 64 * D1 ≤ 64 * De) (hc1 : ce + m1 = ce1) (hs1 : sl + s1 = sl1) (h1 : ce1 ≤ mc) (h2 : sl1 ≤ ms) (hC : isC.map (fun i => ws[i]?) = [x].map some) (hnC : va_nd isC = true) (hR : isR.map (fun i => ws[i]?) = wr.map some) (hnd : va_nd isR = true) (hdis : ∀ i ∈ isR, i ∉ isC) (hn : As.length = n) (hs0 : st0 = As.reverse ++ .ref h0 :: rest) (hrest : (rest.map fun v => v.category).sum ≤ 8) (d : decode cc pc = .ok (.invokespecial idx, 3))
    (k : ∀ a : Nat → Nat, a 0 = h0 → xN Γ ce1 sl1 (wr ++ P a) (pc + 3) lv rest) : xN Γ ce sl ws pc lv st0 := by
  intro H locs ls hP hD hS hl
  exact xn_callrun C pc isC isR hC hR hnd hdis hc1 hs1 hP hD hS hl (va_runIN (As := As) (own := own) (host := host) (Ts := gW) ⟨C.x, C.b, C.ml, C.o, C.t⟩ (hM H.size) (⟨va_cnB n C.t (gW_call v.1) rfl rfl rfl (C.e.2.2.2.2.2.2.2.2.2.2.1 _ hlink) (C.t _ v.2.1) v.2.2.1 ⟨Nat.le_trans hDe C.f, Nat.le_trans hLo C.l⟩, v.2.2.2.2, C.t _ v.2.2.2.1⟩) ⟨n_blind, xn_pre C isC hnC hC hP hD hS⟩ rfl hn hl.1 hs0 (lv_room hrest) d ⟨by rw [hc1]; exact Nat.le_trans h1 C.c, by rw [hs1]; exact Nat.le_trans h2 C.s⟩) k
theorem xn_ctor {Γ : xΓ} {cc : ByteArray} {own : String} {De mc ms : Nat} (C : nOK Γ cc own De mc ms) {ce sl : Nat} {ws : va_W} {lv : List (Nat × Value)} {rest : List Value} (pc : Nat) {idx D1 m1 s1 maxL1 n h0 : Nat} {cc1 : ByteArray} {y : MethodName} {x : Nat × va_E} {As st0 : List Value} {P : (Nat → Nat) → va_W} (ce1 sl1 : Nat) (wr : va_W) (isC isR : List Nat) (hM : nCt (xl Γ) (xE Γ) D1 m1 s1 y cc1 maxL1 (.ref h0 :: As) [x] h0 P) (v : nV y cc1 maxL1 n) (hlink : Cond.methodLink own idx y ∈ gW) (hDe : D1 + 1 ≤ De) (hLo : 8 + (maxL1 + 11) + 64 * D1 ≤ 64 * De) (hc1 : ce + m1 = ce1) (hs1 : sl + s1 = sl1) (h1 : ce1 ≤ mc) (h2 : sl1 ≤ ms) (hC : isC.map (fun i => ws[i]?) = [x].map some) (hnC : va_nd isC = true) (hR : isR.map (fun i => ws[i]?) = wr.map some) (hnd : va_nd isR = true) (hdis : ∀ i ∈ isR, i ∉ isC) (hn : As.length = n) (hs0 : st0 = As.reverse ++ .ref h0 :: rest) (hrest : (rest.map fun v => v.category).sum ≤ 8) (d : decode cc pc = .ok (.invokespecial idx, 3))
    (k : ∀ a : Nat → Nat, a 0 = h0 → xN Γ ce1 sl1 (wr ++ P a) (pc + 3) lv rest) : xN Γ ce sl ws pc lv st0 := by
  intro H locs ls hP hD hS hl
  exact xn_callrun C pc isC isR hC hR hnd hdis hc1 hs1 hP hD hS hl (va_runI (As := As) (own := own) (Ts := gW) ⟨C.x, C.b, C.ml, C.o, C.t⟩ (hM H.size) (cwI n C.t (gW_call v.1) rfl rfl rfl (C.t _ v.2.1) (C.t _ hlink) (C.t _ v.2.2.2.1) v.2.2.2.2 v.2.2.1 ⟨Nat.le_trans hDe C.f, Nat.le_trans hLo C.l⟩) ⟨n_blind, xn_pre C isC hnC hC hP hD hS⟩ rfl hn hl.1 hs0 (lv_room hrest) d ⟨by rw [hc1]; exact Nat.le_trans h1 C.c, by rw [hs1]; exact Nat.le_trans h2 C.s⟩) k
