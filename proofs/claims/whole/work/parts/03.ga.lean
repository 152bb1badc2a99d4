/-! what this proof adds to the kit: one environment for all methods, one form of contract, one row a call -/
def bi : Bool → Int32
  | true => 1
  | false => 0
theorem bi_nar (b : Bool) : narrow .boolean (.int (bi b)) = .int (bi b) := by cases b <;> rfl
theorem bi_fit (b : Bool) : fits .boolean (.int (bi b)) = true := by cases b <;> rfl
theorem bi_eq0 {b : Bool} (h : bi b = 0) : b = false := by
  cases b
  · rfl
  · exact absurd h (by decide)
theorem bi_ne0 {b : Bool} (h : ¬ bi b = 0) : b = true := by
  cases b
  · exact absurd rfl h
  · rfl
theorem g_it {α : Type} {c : Prop} [Decidable c] {A B o : α} (h : (if c then A else B) = o) (hc : c) : A = o := by rw [if_pos hc] at h; exact h
theorem g_if {α : Type} {c : Prop} [Decidable c] {A B o : α} (h : (if c then A else B) = o) (hc : ¬ c) : B = o := by rw [if_neg hc] at h; exact h
theorem g_bt {α : Type} {b : Bool} {A B o : Option α} (h : (if b = true then A else B) = o) (hc : ¬ bi b = 0) : A = o := g_it h (bi_ne0 hc)
theorem g_bf {α : Type} {b : Bool} {A B o : Option α} (h : (if b = true then A else B) = o) (hc : bi b = 0) : B = o := g_if h (by rw [bi_eq0 hc]; decide)
theorem g_bind {α β : Type} {x : Option α} {f : α → Option β} {o : β} (h : x.bind f = some o) : ∃ v, x = some v ∧ f v = some o := by
  cases x with
  | none => cases h
  | some v => exact ⟨v, rfl, h⟩
def ibd (i : Int32) (n : Nat) : Bool := !(decide (i < 0)) && decide (i.toNatClampNeg < n)
theorem ibd_in {i : Int32} {n : Nat} (h : ibd i n = true) : vp_in i n := by
  simp only [ibd, Bool.and_eq_true, Bool.not_eq_true', decide_eq_false_iff_not, decide_eq_true_eq] at h
  intro q
  rcases q with q | q
  · exact h.1 q
  · exact absurd h.2 (Nat.not_lt.mpr q)
theorem g_chk {α : Type} {i : Int32} {n : Nat} {A : Option α} {o : α} (h : (if ibd i n = true then A else none) = some o) : vp_in i n ∧ A = some o := by
  by_cases q : ibd i n = true
  · rw [if_pos q] at h
    exact ⟨ibd_in q, h⟩
  · rw [if_neg q] at h
    cases h
theorem g_div {α : Type} {y : Int32} {A : Option α} {o : α} (h : (if y = 0 then none else A) = some o) : ¬ y = 0 ∧ A = some o := by
  by_cases q : y = 0
  · rw [if_pos q] at h
    cases h
  · rw [if_neg q] at h
    exact ⟨q, h⟩
theorem g_none {α : Type} {C : Prop} {o : α} (h : (none : Option α) = some o) : C := by cases h
abbrev iushr (x y : Int32) : Int32 := (x.toUInt32 >>> (y.toUInt32 &&& Int32.toUInt32 31)).toInt32
abbrev irem (x y : Int32) : Int32 := x - x / y * y
abbrev imin (x y : Int32) : Int32 := if y < x then y else x
/-! the words of the tables that last -/
def gW : List Cond := lw_tbl.filter goodWord
theorem gW_of {w : Cond} (h : w ∈ lw_tbl) (g : goodWord w = true) : w ∈ gW := List.mem_filter.mpr ⟨h, g⟩
theorem gW_good {w : Cond} (h : w ∈ gW) : goodWord w = true := (List.mem_filter.mp h).2
theorem gW_in {w : Cond} (h : w ∈ gW) : w ∈ lw_tbl := (List.mem_filter.mp h).1
theorem gW_call {w0 : Cond} (h0 : w0 ∈ gW) : GoodIn gW (w0 :: gW) := by
  intro w hw
  have h1 : w ∈ gW := (List.mem_cons.mp hw).elim (fun e => by rw [e]; exact h0) id
  exact ⟨h1, good_of_word (gW_good h1)⟩
/-! the environment: classes, kinds of arrays, statics, texts -/
def gEnv : Type := (Nat → ClassId) × (Nat → Nat → Nat) × ClassId × ClassId × ClassId × ClassId × ClassId × Nat × Nat × Nat × (Nat → Nat) × (Nat → Nat)
abbrev gD (G : gEnv) : va_G := (G.1, G.2.1)
abbrev gB (G : gEnv) : ClassId := G.2.2.1
abbrev gI (G : gEnv) : ClassId := G.2.2.2.1
abbrev gJ (G : gEnv) : ClassId := G.2.2.2.2.1
abbrev gS (G : gEnv) : ClassId := G.2.2.2.2.2.1
abbrev gT (G : gEnv) : ClassId := G.2.2.2.2.2.2.1
abbrev tL (G : gEnv) : Nat := G.2.2.2.2.2.2.2.1
abbrev tM (G : gEnv) : Nat := G.2.2.2.2.2.2.2.2.1
abbrev tU (G : gEnv) : Nat := G.2.2.2.2.2.2.2.2.2.1
abbrev adK (G : gEnv) : Nat → Nat := G.2.2.2.2.2.2.2.2.2.2.1
abbrev adV (G : gEnv) : Nat → Nat := G.2.2.2.2.2.2.2.2.2.2.2
abbrev gtys (G : gEnv) : List (ClassId × FieldType) := [(gB G, .byte), (gI G, .int), (gJ G, .long), (gS G, .object "TideQuarter$Sheet"), (gT G, .object "java/lang/String")]
def kLEAST : Nat → Int32 := fun j => ([0, 16, 1, 0] : List Int32).getD j 0
def kMOST : Nat → Int32 := fun j => ([400, 400, 7, 8] : List Int32).getD j 0
def kUNDER : Nat → Int32 := fun j => ([-1, 0, 0, 0, 1, 3] : List Int32).getD j 0
def kLEN : List Nat := [5, 4, 4, 3, 5, 4, 4, 5, 6, 4, 5, 5, 4, 5, 6, 6, 4]
def kBYT : List (List Int32) := [[104, 111, 117, 115, 101], [109, 105, 108, 108], [115, 104, 101, 100], [105, 110, 110], [115, 97, 105, 108, 115], [100, 111, 114, 109], [108, 97, 116, 101], [102, 97, 105, 108, 115], [104, 97, 108, 118, 101, 115], [115, 104, 105, 112], [99, 111, 109, 101, 115], [115, 116, 97, 121, 115], [113, 117, 97, 121], [102, 108, 111, 111, 100], [112, 101, 114, 105, 111, 100], [108, 101, 110, 103, 116, 104], [119, 105, 110, 100]]
def gSTR : List (String × Nat × String × Nat) := [("TideQuarter$Teller", 91, "house", 0), ("TideQuarter$Teller", 93, "mill", 1), ("TideQuarter$Teller", 95, "shed", 2), ("TideQuarter$Teller", 97, "inn", 3), ("TideQuarter$Teller", 99, "sails", 4), ("TideQuarter$Teller", 101, "dorm", 5), ("TideQuarter$Teller", 70, "late", 6), ("TideQuarter$Teller", 78, "fails", 7), ("TideQuarter$Teller", 80, "halves", 8), ("TideQuarter$Teller", 46, "ship", 9), ("TideQuarter$Teller", 137, "comes", 10), ("TideQuarter$Teller", 139, "stays", 11), ("TideQuarter$Teller", 141, "quay", 12), ("TideQuarter$Teller", 55, "flood", 13), ("TideQuarter$Teller", 120, "period", 14), ("TideQuarter$Teller", 122, "length", 15), ("TideQuarter$Teller", 82, "wind", 16), ("TideQuarterModel", 57, "house", 0), ("TideQuarterModel", 59, "mill", 1), ("TideQuarterModel", 61, "shed", 2), ("TideQuarterModel", 63, "inn", 3), ("TideQuarterModel", 65, "sails", 4), ("TideQuarterModel", 67, "dorm", 5), ("TideQuarterModel", 73, "late", 6), ("TideQuarterModel", 75, "fails", 7), ("TideQuarterModel", 77, "halves", 8), ("TideQuarterModel", 285, "ship", 9), ("TideQuarterModel", 304, "comes", 10), ("TideQuarterModel", 306, "stays", 11), ("TideQuarterModel", 308, "quay", 12), ("TideQuarterModel", 290, "flood", 13), ("TideQuarterModel", 292, "period", 14), ("TideQuarterModel", 298, "length", 15), ("TideQuarterModel", 299, "wind", 16)]
def gNEST : List (String × Nat × MethodName × String) := [("TideQuarter$Tally", 36, ⟨"TideQuarter", "hourOf", "(I)I"⟩, "TideQuarter"), ("TideQuarter", 9, ⟨"TideQuarter$Isle", "<init>", "()V"⟩, "TideQuarter"), ("TideQuarter$Isle", 11, ⟨"TideQuarter$Tides", "<init>", "()V"⟩, "TideQuarter"), ("TideQuarter", 28, ⟨"TideQuarter$Tally", "<init>", "()V"⟩, "TideQuarter"), ("TideQuarter", 35, ⟨"TideQuarter$Harbour", "<init>", "()V"⟩, "TideQuarter"), ("TideQuarter", 42, ⟨"TideQuarter$Teller", "<init>", "()V"⟩, "TideQuarter"), ("TideQuarter$Teller", 11, ⟨"TideQuarter$Tape", "<init>", "()V"⟩, "TideQuarter"), ("TideQuarter", 62, ⟨"TideQuarter$Sheet", "<init>", "()V"⟩, "TideQuarter")]
def gE (G : gEnv) (A : Nat → Prop) (U : State) (H : Heap) : Prop :=
  va_Z "TideQuarter$Tides" "LEAST" "[I" (.ref (tL G)) A U H ∧ va_T .int (tL G) 4 (fun j => .int (kLEAST j)) A U H ∧
  va_Z "TideQuarter$Tides" "MOST" "[I" (.ref (tM G)) A U H ∧ va_T .int (tM G) 4 (fun j => .int (kMOST j)) A U H ∧
  va_Z "TideQuarter$Isle" "UNDER" "[I" (.ref (tU G)) A U H ∧ va_T .int (tU G) 6 (fun j => .int (kUNDER j)) A U H ∧
  va_Z "java/lang/String" "COMPACT_STRINGS" "Z" (.int 1) A U H ∧ va_Zq "jdk/internal/util/Preconditions" "SIOOBE_FORMATTER" "Ljava/util/function/BiFunction;" A U H ∧
  vk_S 17 kLEN kBYT (adK G) (adV G) A U H ∧ (∀ q ∈ gSTR, vk_R q.1 q.2.1 q.2.2.1 (adK G q.2.2.2) U) ∧ (∀ q ∈ gNEST, va_Nw (.methodLinkNest q.1 q.2.1 q.2.2.1 q.2.2.2) U) ∧ va_AO "TideQuarter$Sheet" U ∧ va_AO "java/lang/String" U
theorem gE.call {G : gEnv} {A0 A1 : Nat → Prop} {s U : State} {H : Heap} {locs : List Loc} (h : gE G A0 s s.heap) (hS : va_S A0 s.heap H locs) (hA : ∀ q, A1 q → A0 q) (hU : U.heap = H) (hW : s.WarmedH U.vm) : gE G A1 U U.heap := by
  rw [hU]
  obtain ⟨h1, h2, h3, h4, h5, h6, h7, h8, h9, h10, h11, h12, h13⟩ := h
  exact ⟨((h1.kept hS.2.1).moved hW.alike).narrow hA, ((h2.kept hS.2.1).moved hW.alike).narrow hA, ((h3.kept hS.2.1).moved hW.alike).narrow hA, ((h4.kept hS.2.1).moved hW.alike).narrow hA, ((h5.kept hS.2.1).moved hW.alike).narrow hA, ((h6.kept hS.2.1).moved hW.alike).narrow hA, ((h7.kept hS.2.1).moved hW.alike).narrow hA, ((h8.kept hS.2.1).moved hW.alike).narrow hA, ((h9.kept hS.2.1).moved hW.alike).narrow hA, fun q hq => vk_R.same rfl ((h10 q hq).warm hW), fun q hq => va_Nw.warmM hW (h11 q hq), h12.moved hW.alike, h13.moved hW.alike⟩
theorem gE.blind {G : gEnv} {A : Nat → Prop} {U : State} (g : JFrame) (mk : MethodId) (a : Array Value) (h : gE G A U U.heap) : gE G A (U.calling g mk a) (U.calling g mk a).heap := by
  obtain ⟨h1, h2, h3, h4, h5, h6, h7, h8, h9, h10, h11, h12, h13⟩ := h
  have e : U.vm.Alike (U.calling g mk a).vm := Vm.Alike.refl U.vm
  exact ⟨h1.moved e, h2.moved e, h3.moved e, h4.moved e, h5.moved e, h6.moved e, h7.moved e, h8.moved e, h9.moved e, fun q hq => vk_R.same rfl (h10 q hq), fun q hq => va_Nw.same rfl rfl (h11 q hq), h12.moved e, h13.moved e⟩
/-! the form of a contract: from the world w0 to the world w1, with the answer rv; no cell is made -/
def g_Q (rv : Option Value) (G : gEnv) (w1 : va_W) (A : Nat → Prop) : Array Value → State → Outcome → State → Prop := fun _ st oc t => (oc = .returned rv ∧ va_P (gD G) vwCl w1 t.heap) ∧ va_F A st t
def g_P (G : gEnv) (av : List Value) (w0 : va_W) (sz : Nat) : Array Value → State → Prop := va_Pc av (fun U => U.heap.size = sz ∧ va_P (gD G) vwCl w0 U.heap ∧ va_K (gD G) vwCl (gtys G) U ∧ va_D (fun _ => True) w0 ∧ gE G (va_A w0 sz) U U.heap)
def gC (l : Launch) (G : gEnv) (y : MethodName) (cc : ByteArray) (maxL : Nat) (ret : Option FieldType) (rm : Room) (av : List Value) (w0 w1 : va_W) (rv : Option Value) : Prop := ∀ sz : Nat, Met l y (Cond.code y cc maxL ret :: gW) rm (g_P G av w0 sz) (g_Q rv G w1 (va_A w0 sz)) 0 0 (va_A w0 sz)
theorem gC.of {l : Launch} {G : gEnv} {y : MethodName} {cc : ByteArray} {maxL : Nat} {ret : Option FieldType} {rm : Room} {av : List Value} {w0 w1 : va_W} {rv : Option Value} (hy : plainName y.cls = true) (hn : (lg_sl av).length ≤ maxL)
    (body : ∀ (p : Program) (e : Env) (s : State) (m : MethodId) (args : Array Value) (below : List Frame) (meth : Method) (c : Code) (A : Nat → Prop) (ls : Array Slot) (Q : State → Prop), p.tables.exec = Jvm.exec → c.code = cc → c.maxLocals = maxL → meth.sig.returnType = ret → meth.locks = false → s.vm.findClass y.cls = some m.cls → (∀ w ∈ gW, w.before args s = true) → (∀ q, s.heap.size ≤ q → A q) → va_P (gD G) vwCl w0 s.heap → va_K (gD G) vwCl (gtys G) s → va_D A w0 → gE G A s s.heap → va_S A s.heap s.heap [] → lv_has ls maxL (lv_args 0 av) → Q = MQ below (g_Q rv G w1 A) args s 0 0 A →
      W p l e rm s m args below meth c s.heap [] 0 0 Q (F0 m 0 ls [])) : gC l G y cc maxL ret rm av w0 w1 rv := by
  intro sz
  refine Met.ofW (cc := cc) (maxL := maxL) (ret := ret) hy rfl ?_
  intro p e s m args below meth c s₁ B hml hv
  obtain ⟨rfl, hsz, hP, hK, hD0, hE⟩ := hv
  subst hsz
  rw [lg_entry_eq]
  exact body p e s m _ below meth c (va_A w0 s.heap.size) _ _ B.exec B.bytes hml B.returns B.notSynchronized (findClass_of_methodNamed B.named) (fun w hw => atoms_spec (ws := Cond.code y cc maxL ret :: gW) B.pre w (List.mem_cons_of_mem _ hw)) (fun q h => Or.inr h) hP hK hD0.self hE va_S.rf (lv_entry av hn) rfl
/-! the ends -/
section GEND
variable {p : Program} {l : Launch} {e : Env} {R : Room} {s : State} {m : MethodId} {args : Array Value} {below : List Frame} {meth : Method} {c : Code} {H : Heap} {locs : List Loc} {Q : State → Prop}
variable {cc : ByteArray} {pc : Nat} {ls : Array Slot} {A : Nat → Prop} {G : gEnv} {w1 : va_W} {rv : Option Value}
theorem g_iret (hx : p.tables.exec = Jvm.exec) (hb : c.code = cc) (hr : meth.sig.returnType = some .int) (hlocks : meth.locks = false) (hQ : Q = MQ below (g_Q rv G w1 A) args s 0 0 A) (hd : decode cc pc = .ok (.ireturn, 1)) (hP : va_P (gD G) vwCl w1 H) (hS : va_S A s.heap H locs) {v : Int32} (hv : rv = some (.int v)) : W p l e R s m args below meth c H locs 0 0 Q (F0 m pc ls [.int v]) := by
  subst hQ; subst hv
  exact W.iret hx hb hr (fun t ht hW => ⟨⟨rfl, by rw [ht]; exact hP⟩, hS.F ht⟩) hS.2.2 hd hlocks
theorem g_zret (hx : p.tables.exec = Jvm.exec) (hb : c.code = cc) (hr : meth.sig.returnType = some .boolean) (hlocks : meth.locks = false) (hQ : Q = MQ below (g_Q rv G w1 A) args s 0 0 A) (hd : decode cc pc = .ok (.ireturn, 1)) (hP : va_P (gD G) vwCl w1 H) (hS : va_S A s.heap H locs) {v : Bool} (hv : rv = some (.int (bi v))) : W p l e R s m args below meth c H locs 0 0 Q (F0 m pc ls [.int (bi v)]) := by
  subst hQ; subst hv
  exact W.zret hx hb hr (bi_nar v) (fun t ht hW => ⟨⟨rfl, by rw [ht]; exact hP⟩, hS.F ht⟩) hS.2.2 hd hlocks
theorem g_lret (hx : p.tables.exec = Jvm.exec) (hb : c.code = cc) (hr : meth.sig.returnType = some .long) (hlocks : meth.locks = false) (hQ : Q = MQ below (g_Q rv G w1 A) args s 0 0 A) (hd : decode cc pc = .ok (.lreturn, 1)) (hP : va_P (gD G) vwCl w1 H) (hS : va_S A s.heap H locs) {v : Int64} (hv : rv = some (.long v)) : W p l e R s m args below meth c H locs 0 0 Q (F0 m pc ls [.long v]) := by
  subst hQ; subst hv
  exact W.lret hx hb hr (fun t ht hW => ⟨⟨rfl, by rw [ht]; exact hP⟩, hS.F ht⟩) hS.2.2 hd hlocks
theorem g_vret (hx : p.tables.exec = Jvm.exec) (hb : c.code = cc) (hr : meth.sig.returnType = none) (hlocks : meth.locks = false) (hQ : Q = MQ below (g_Q rv G w1 A) args s 0 0 A) (hd : decode cc pc = .ok (.return_, 1)) (hP : va_P (gD G) vwCl w1 H) (hS : va_S A s.heap H locs) (hv : rv = none) : W p l e R s m args below meth c H locs 0 0 Q (F0 m pc ls []) := by
  subst hQ; subst hv
  exact W.vret hx hb hr (fun t ht hW => ⟨⟨rfl, by rw [ht]; exact hP⟩, hS.F ht⟩) hS.2.2 hd hlocks
end GEND
theorem g_addr {A : Nat → Prop} {ws ws' : va_W} (h : va_D A ws) (he : ws'.map (fun q => q.1) = ws.map (fun q => q.1)) : va_D A ws' := by
  have key : ∀ (k : Nat) (q : Nat × va_E), ws'[k]? = some q → ∃ q' : Nat × va_E, ws[k]? = some q' ∧ q'.1 = q.1 := by
    intro k q hq
    have h1 : (ws'.map (fun q => q.1))[k]? = some q.1 := by rw [List.getElem?_map, hq]; rfl
    rw [he, List.getElem?_map] at h1
    cases hw : ws[k]? with
    | none => rw [hw] at h1; cases h1
    | some q' => rw [hw] at h1; exact ⟨q', rfl, Option.some.inj h1⟩
  refine ⟨fun i j p q hi hj hpq => ?_, fun k q hk => ?_⟩
  · obtain ⟨p', h1, e1⟩ := key i p hi
    obtain ⟨q', h2, e2⟩ := key j q hj
    exact h.1 i j p' q' h1 h2 (by rw [e1, e2]; exact hpq)
  · obtain ⟨q', h1, e1⟩ := key k q hk
    rw [← e1]
    exact h.2 k q' h1
/-! calls -/
def gV (y : MethodName) (cc : ByteArray) (maxL : Nat) (ret : Option FieldType) (n : Nat) : Prop := Cond.code y cc maxL ret ∈ gW ∧ Cond.initialized y.cls ∈ gW ∧ (y.cls ≠ "java/lang/invoke/MethodHandle" ∧ y.cls ≠ "java/lang/invoke/VarHandle" ∧ (parseMethodDescriptor y.desc).map (fun d => d.parameters.length) = some n)
def gVi (y : MethodName) (C : String) (cc : ByteArray) (maxL : Nat) (ret : Option FieldType) (n : Nat) : Prop := gV y cc maxL ret n ∧ Cond.instanceMethod y ∈ gW ∧ Cond.selects C y y ∈ gW
def gVs (y : MethodName) (cc : ByteArray) (maxL : Nat) (ret : Option FieldType) (n : Nat) : Prop := gV y cc maxL ret n ∧ Cond.static y ∈ gW
theorem g_Pblind {G : gEnv} {av : List Value} {w0 : va_W} {sz : Nat} : FrameBlind (g_P G av w0 sz) := fun a U g mk q => by
  obtain ⟨q0, q1, qP, qK, qD, qE⟩ := q
  exact ⟨q0, q1, qP, va_K.moved (u := U) (U := U.calling g mk a) (Vm.Alike.refl U.vm) qK, qD, gE.blind g mk a qE⟩
