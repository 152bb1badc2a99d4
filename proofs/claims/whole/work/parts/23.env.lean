/-! the environment, out of what the Statement gives (laid by wip/whole/gen/genstart.py) -/
def stT : List (String × Nat) := [("TideQuarter$Teller", 91), ("TideQuarter$Teller", 93), ("TideQuarter$Teller", 95), ("TideQuarter$Teller", 97), ("TideQuarter$Teller", 99), ("TideQuarter$Teller", 101), ("TideQuarter$Teller", 70), ("TideQuarter$Teller", 78), ("TideQuarter$Teller", 80), ("TideQuarter$Teller", 46), ("TideQuarter$Teller", 137), ("TideQuarter$Teller", 139), ("TideQuarter$Teller", 141), ("TideQuarter$Teller", 55), ("TideQuarter$Teller", 120), ("TideQuarter$Teller", 122), ("TideQuarter$Teller", 82)]
def stm (i : Nat) : Term := .string (stT.getD i ("", 0)).1 (stT.getD i ("", 0)).2
def stF : List Cond := flatC (Jvm.Cond.and given_1 narrow_1)
theorem st_ex : ∀ i, i < 17 → Cond.exactly (stm i) "java/lang/String" ∈ stF := by decide +kernel
theorem st_co : ∀ i, i < 17 → Cond.eq (.field (stm i) "java/lang/String" "coder" "B") (.int 0) ∈ stF := by decide +kernel
theorem st_ar : ∀ i, i < 17 → Cond.arrayOf (.field (stm i) "java/lang/String" "value" "[B") .byte ∈ stF := by decide +kernel
theorem st_le : ∀ i, i < 17 → Cond.eq (.length (.field (stm i) "java/lang/String" "value" "[B")) (.int (Int32.ofNat (kLEN.getD i 0))) ∈ stF := by decide +kernel
theorem st_el : ∀ i, i < 17 → ∀ j, j < kLEN.getD i 0 → Cond.eq (.elem (.field (stm i) "java/lang/String" "value" "[B") (.int (Int32.ofNat j))) (.int ((kBYT.getD i []).getD j 0)) ∈ stF := by decide +kernel
theorem st_ap : ∀ i, i < 17 → ∀ j, j < 17 → (kLEN.getD i 0 = kLEN.getD j 0 ∧ ∀ k, k < kLEN.getD i 0 → (kBYT.getD i []).getD k 0 = (kBYT.getD j []).getD k 0) → i = j := by decide +kernel
theorem st_S {args : Array Value} {s : State} {A : Nat → Prop} (hs : ∀ c ∈ stF, c.before args s = true) (hA : ∀ a : Nat, a < s.heap.size → ¬ A a) : ∃ adK adV : Nat → Nat, vk_S 17 kLEN kBYT adK adV A s s.heap ∧ ∀ i : Nat, i < 17 → (stm i).eval args s none [] s = some (.ref (adK i)) := by
  have h0 : ∀ i : Nat, ∃ q : Nat × Nat, i < 17 → (stm i).eval args s none [] s = some (.ref q.1) ∧ va_O "java/lang/String" q.1 A s s.heap ∧ va_OF "java/lang/String" "coder" "B" (.int 0) q.1 A s s.heap ∧ va_OF "java/lang/String" "value" "[B" (.ref q.2) q.1 A s s.heap ∧ va_T .byte q.2 (kLEN.getD i 0) (fun j => .int ((kBYT.getD i []).getD j 0)) A s s.heap := by
    intro i
    by_cases hi : i < 17
    · obtain ⟨aK, aV, hS, he⟩ := vk_Sof (args := args) (s := s) (N := 1) (tm := fun _ => stm i) (len := [kLEN.getD i 0]) (byt := [kBYT.getD i []]) (A := A) (fun k hk => by
          obtain rfl : k = 0 := by omega
          exact xlen_lt i hi) (fun _ _ => hs _ (st_ex i hi)) (fun _ _ => hs _ (st_co i hi)) (fun _ _ => hs _ (st_ar i hi)) (fun k hk => by
          obtain rfl : k = 0 := by omega
          exact hs _ (st_le i hi)) (fun k hk j hj => by
          obtain rfl : k = 0 := by omega
          exact hs _ (st_el i hi j hj)) (fun i j hi hj hij => absurd (show i = j by omega) hij) hA
      exact ⟨(aK 0, aV 0), fun _ => ⟨he 0 (by omega), hS.1 0 (by omega)⟩⟩
    · exact ⟨(0, 0), fun h => absurd h hi⟩
  obtain ⟨ad, had⟩ := Classical.axiomOfChoice h0
  refine ⟨fun i => (ad i).1, fun i => (ad i).2, ⟨fun i hi => (had i hi).2, fun i j hi hj e => ?_⟩, fun i hi => (had i hi).1⟩
  obtain ⟨-, -, -, ⟨cf, k, fi, f, cell, g1, g2, g3, g4, g5, g6⟩, ⟨cA, t1, t2, t3, t4, t5, t6, t7⟩⟩ := had i hi
  obtain ⟨-, -, -, ⟨cf', k', fi', f', cell', g1', g2', g3', g4', g5', g6'⟩, ⟨cA', t1', t2', t3', t4', t5', t6', t7'⟩⟩ := had j hj
  have e : (ad i).1 = (ad j).1 := e
  rw [e] at g3
  cases g3.symm.trans g3'
  cases g1.symm.trans g1'
  have e2 : (ad i).2 = (ad j).2 := Value.ref.inj (Option.some.inj (g5.symm.trans g5'))
  rw [e2] at t1
  cases t1.symm.trans t1'
  have hl : kLEN.getD i 0 = kLEN.getD j 0 := by
    have e3 : Int32.ofNat (kLEN.getD i 0) = Int32.ofNat (kLEN.getD j 0) := t5.symm.trans t5'
    have e4 := congrArg Int32.toNatClampNeg e3
    rwa [Int32.toNatClampNeg_ofNat_of_lt (xlen_lt i hi), Int32.toNatClampNeg_ofNat_of_lt (xlen_lt j hj)] at e4
  refine st_ap i hi j hj ⟨hl, fun k hk => ?_⟩
  exact Value.int.inj (Option.some.inj ((t6 k hk).symm.trans (t6' k (by rw [← hl]; exact hk))))
theorem st_R {args : Array Value} {s : State} {adK : Nat → Nat} (hts : ∀ w ∈ lw_tbl, w.before args s = true) (hs : ∀ c ∈ stF, c.before args s = true) (hev : ∀ i : Nat, i < 17 → (stm i).eval args s none [] s = some (.ref (adK i))) : ∀ q ∈ gSTR, vk_R q.1 q.2.1 q.2.2.1 (adK q.2.2.2) s := by
  unfold gSTR
  exact List.forall_mem_cons.mpr ⟨vk_R.of (hts (Cond.stringRef "TideQuarter$Teller" 91 "house") (List.mem_of_getElem? (i := 678) (by decide +kernel))) (hev 0 (by decide)), List.forall_mem_cons.mpr ⟨vk_R.of (hts (Cond.stringRef "TideQuarter$Teller" 93 "mill") (List.mem_of_getElem? (i := 679) (by decide +kernel))) (hev 1 (by decide)), List.forall_mem_cons.mpr ⟨vk_R.of (hts (Cond.stringRef "TideQuarter$Teller" 95 "shed") (List.mem_of_getElem? (i := 680) (by decide +kernel))) (hev 2 (by decide)), List.forall_mem_cons.mpr ⟨vk_R.of (hts (Cond.stringRef "TideQuarter$Teller" 97 "inn") (List.mem_of_getElem? (i := 681) (by decide +kernel))) (hev 3 (by decide)), List.forall_mem_cons.mpr ⟨vk_R.of (hts (Cond.stringRef "TideQuarter$Teller" 99 "sails") (List.mem_of_getElem? (i := 682) (by decide +kernel))) (hev 4 (by decide)), List.forall_mem_cons.mpr ⟨vk_R.of (hts (Cond.stringRef "TideQuarter$Teller" 101 "dorm") (List.mem_of_getElem? (i := 683) (by decide +kernel))) (hev 5 (by decide)), List.forall_mem_cons.mpr ⟨vk_R.of (hts (Cond.stringRef "TideQuarter$Teller" 70 "late") (List.mem_of_getElem? (i := 773) (by decide +kernel))) (hev 6 (by decide)), List.forall_mem_cons.mpr ⟨vk_R.of (hts (Cond.stringRef "TideQuarter$Teller" 78 "fails") (List.mem_of_getElem? (i := 778) (by decide +kernel))) (hev 7 (by decide)), List.forall_mem_cons.mpr ⟨vk_R.of (hts (Cond.stringRef "TideQuarter$Teller" 80 "halves") (List.mem_of_getElem? (i := 779) (by decide +kernel))) (hev 8 (by decide)), List.forall_mem_cons.mpr ⟨vk_R.of (hts (Cond.stringRef "TideQuarter$Teller" 46 "ship") (List.mem_of_getElem? (i := 751) (by decide +kernel))) (hev 9 (by decide)), List.forall_mem_cons.mpr ⟨vk_R.of (hts (Cond.stringRef "TideQuarter$Teller" 137 "comes") (List.mem_of_getElem? (i := 756) (by decide +kernel))) (hev 10 (by decide)), List.forall_mem_cons.mpr ⟨vk_R.of (hts (Cond.stringRef "TideQuarter$Teller" 139 "stays") (List.mem_of_getElem? (i := 761) (by decide +kernel))) (hev 11 (by decide)), List.forall_mem_cons.mpr ⟨vk_R.of (hts (Cond.stringRef "TideQuarter$Teller" 141 "quay") (List.mem_of_getElem? (i := 762) (by decide +kernel))) (hev 12 (by decide)), List.forall_mem_cons.mpr ⟨vk_R.of (hts (Cond.stringRef "TideQuarter$Teller" 55 "flood") (List.mem_of_getElem? (i := 764) (by decide +kernel))) (hev 13 (by decide)), List.forall_mem_cons.mpr ⟨vk_R.of (hts (Cond.stringRef "TideQuarter$Teller" 120 "period") (List.mem_of_getElem? (i := 771) (by decide +kernel))) (hev 14 (by decide)), List.forall_mem_cons.mpr ⟨vk_R.of (hts (Cond.stringRef "TideQuarter$Teller" 122 "length") (List.mem_of_getElem? (i := 772) (by decide +kernel))) (hev 15 (by decide)), List.forall_mem_cons.mpr ⟨vk_R.of (hts (Cond.stringRef "TideQuarter$Teller" 82 "wind") (List.mem_of_getElem? (i := 780) (by decide +kernel))) (hev 16 (by decide)), List.forall_mem_cons.mpr ⟨vk_R.of (hts (Cond.stringRef "TideQuarterModel" 57 "house") (List.mem_of_getElem? (i := 874) (by decide +kernel))) (va_eqR (hs (Cond.eq (.string "TideQuarter$Teller" 91) (.string "TideQuarterModel" 57)) (by decide +kernel)) (hev 0 (by decide))), List.forall_mem_cons.mpr ⟨vk_R.of (hts (Cond.stringRef "TideQuarterModel" 59 "mill") (List.mem_of_getElem? (i := 875) (by decide +kernel))) (va_eqR (hs (Cond.eq (.string "TideQuarter$Teller" 93) (.string "TideQuarterModel" 59)) (by decide +kernel)) (hev 1 (by decide))), List.forall_mem_cons.mpr ⟨vk_R.of (hts (Cond.stringRef "TideQuarterModel" 61 "shed") (List.mem_of_getElem? (i := 876) (by decide +kernel))) (va_eqR (hs (Cond.eq (.string "TideQuarter$Teller" 95) (.string "TideQuarterModel" 61)) (by decide +kernel)) (hev 2 (by decide))), List.forall_mem_cons.mpr ⟨vk_R.of (hts (Cond.stringRef "TideQuarterModel" 63 "inn") (List.mem_of_getElem? (i := 877) (by decide +kernel))) (va_eqR (hs (Cond.eq (.string "TideQuarter$Teller" 97) (.string "TideQuarterModel" 63)) (by decide +kernel)) (hev 3 (by decide))), List.forall_mem_cons.mpr ⟨vk_R.of (hts (Cond.stringRef "TideQuarterModel" 65 "sails") (List.mem_of_getElem? (i := 878) (by decide +kernel))) (va_eqR (hs (Cond.eq (.string "TideQuarter$Teller" 99) (.string "TideQuarterModel" 65)) (by decide +kernel)) (hev 4 (by decide))), List.forall_mem_cons.mpr ⟨vk_R.of (hts (Cond.stringRef "TideQuarterModel" 67 "dorm") (List.mem_of_getElem? (i := 879) (by decide +kernel))) (va_eqR (hs (Cond.eq (.string "TideQuarter$Teller" 101) (.string "TideQuarterModel" 67)) (by decide +kernel)) (hev 5 (by decide))), List.forall_mem_cons.mpr ⟨vk_R.of (hts (Cond.stringRef "TideQuarterModel" 73 "late") (List.mem_of_getElem? (i := 880) (by decide +kernel))) (va_eqR (hs (Cond.eq (.string "TideQuarter$Teller" 70) (.string "TideQuarterModel" 73)) (by decide +kernel)) (hev 6 (by decide))), List.forall_mem_cons.mpr ⟨vk_R.of (hts (Cond.stringRef "TideQuarterModel" 75 "fails") (List.mem_of_getElem? (i := 881) (by decide +kernel))) (va_eqR (hs (Cond.eq (.string "TideQuarter$Teller" 78) (.string "TideQuarterModel" 75)) (by decide +kernel)) (hev 7 (by decide))), List.forall_mem_cons.mpr ⟨vk_R.of (hts (Cond.stringRef "TideQuarterModel" 77 "halves") (List.mem_of_getElem? (i := 882) (by decide +kernel))) (va_eqR (hs (Cond.eq (.string "TideQuarter$Teller" 80) (.string "TideQuarterModel" 77)) (by decide +kernel)) (hev 8 (by decide))), List.forall_mem_cons.mpr ⟨vk_R.of (hts (Cond.stringRef "TideQuarterModel" 285 "ship") (List.mem_of_getElem? (i := 1282) (by decide +kernel))) (va_eqR (hs (Cond.eq (.string "TideQuarter$Teller" 46) (.string "TideQuarterModel" 285)) (by decide +kernel)) (hev 9 (by decide))), List.forall_mem_cons.mpr ⟨vk_R.of (hts (Cond.stringRef "TideQuarterModel" 304 "comes") (List.mem_of_getElem? (i := 1287) (by decide +kernel))) (va_eqR (hs (Cond.eq (.string "TideQuarter$Teller" 137) (.string "TideQuarterModel" 304)) (by decide +kernel)) (hev 10 (by decide))), List.forall_mem_cons.mpr ⟨vk_R.of (hts (Cond.stringRef "TideQuarterModel" 306 "stays") (List.mem_of_getElem? (i := 1288) (by decide +kernel))) (va_eqR (hs (Cond.eq (.string "TideQuarter$Teller" 139) (.string "TideQuarterModel" 306)) (by decide +kernel)) (hev 11 (by decide))), List.forall_mem_cons.mpr ⟨vk_R.of (hts (Cond.stringRef "TideQuarterModel" 308 "quay") (List.mem_of_getElem? (i := 1289) (by decide +kernel))) (va_eqR (hs (Cond.eq (.string "TideQuarter$Teller" 141) (.string "TideQuarterModel" 308)) (by decide +kernel)) (hev 12 (by decide))), List.forall_mem_cons.mpr ⟨vk_R.of (hts (Cond.stringRef "TideQuarterModel" 290 "flood") (List.mem_of_getElem? (i := 1294) (by decide +kernel))) (va_eqR (hs (Cond.eq (.string "TideQuarter$Teller" 55) (.string "TideQuarterModel" 290)) (by decide +kernel)) (hev 13 (by decide))), List.forall_mem_cons.mpr ⟨vk_R.of (hts (Cond.stringRef "TideQuarterModel" 292 "period") (List.mem_of_getElem? (i := 1295) (by decide +kernel))) (va_eqR (hs (Cond.eq (.string "TideQuarter$Teller" 120) (.string "TideQuarterModel" 292)) (by decide +kernel)) (hev 14 (by decide))), List.forall_mem_cons.mpr ⟨vk_R.of (hts (Cond.stringRef "TideQuarterModel" 298 "length") (List.mem_of_getElem? (i := 1296) (by decide +kernel))) (va_eqR (hs (Cond.eq (.string "TideQuarter$Teller" 122) (.string "TideQuarterModel" 298)) (by decide +kernel)) (hev 15 (by decide))), List.forall_mem_cons.mpr ⟨vk_R.of (hts (Cond.stringRef "TideQuarterModel" 299 "wind") (List.mem_of_getElem? (i := 1297) (by decide +kernel))) (va_eqR (hs (Cond.eq (.string "TideQuarter$Teller" 82) (.string "TideQuarterModel" 299)) (by decide +kernel)) (hev 16 (by decide))), fun _ h => absurd h List.not_mem_nil⟩⟩⟩⟩⟩⟩⟩⟩⟩⟩⟩⟩⟩⟩⟩⟩⟩⟩⟩⟩⟩⟩⟩⟩⟩⟩⟩⟩⟩⟩⟩⟩⟩⟩
theorem st_eLEAST : ∀ j, j < 4 → Cond.eq (.elem (.static "TideQuarter$Tides" "LEAST" "[I") (.int (Int32.ofNat j))) (.int (kLEAST j)) ∈ stF := by decide +kernel
theorem st_LEAST {args : Array Value} {s : State} {A : Nat → Prop} (hts : ∀ w ∈ lw_tbl, w.before args s = true) (hs : ∀ c ∈ stF, c.before args s = true) (hA : ∀ a : Nat, a < s.heap.size → ¬ A a) : ∃ t : Nat, va_Z "TideQuarter$Tides" "LEAST" "[I" (.ref t) A s s.heap ∧ va_T .int t 4 (fun j => .int (kLEAST j)) A s s.heap := by
  obtain ⟨t, ht, hT⟩ := va_Tof (tm := .static "TideQuarter$Tides" "LEAST" "[I") (ty := .int) (N := 4) (f := fun j => .int (kLEAST j)) (A := A) (by decide) (hs (Cond.arrayOf (.static "TideQuarter$Tides" "LEAST" "[I") .int) (by decide +kernel)) (va_eqt (hs (Cond.eq (.length (.static "TideQuarter$Tides" "LEAST" "[I")) (.int (Int32.ofNat 4))) (by decide +kernel))) (fun j hj => va_eqt (hs _ (st_eLEAST j hj))) hA
  exact ⟨t, va_Zref (hts (Cond.laysStatic "TideQuarter$Tides" "LEAST" "[I") (List.mem_of_getElem? (i := 330) (by decide +kernel))) (hts (Cond.initialized "TideQuarter$Tides") (List.mem_of_getElem? (i := 63) (by decide +kernel))) ht hA, hT⟩
theorem st_eMOST : ∀ j, j < 4 → Cond.eq (.elem (.static "TideQuarter$Tides" "MOST" "[I") (.int (Int32.ofNat j))) (.int (kMOST j)) ∈ stF := by decide +kernel
theorem st_MOST {args : Array Value} {s : State} {A : Nat → Prop} (hts : ∀ w ∈ lw_tbl, w.before args s = true) (hs : ∀ c ∈ stF, c.before args s = true) (hA : ∀ a : Nat, a < s.heap.size → ¬ A a) : ∃ t : Nat, va_Z "TideQuarter$Tides" "MOST" "[I" (.ref t) A s s.heap ∧ va_T .int t 4 (fun j => .int (kMOST j)) A s s.heap := by
  obtain ⟨t, ht, hT⟩ := va_Tof (tm := .static "TideQuarter$Tides" "MOST" "[I") (ty := .int) (N := 4) (f := fun j => .int (kMOST j)) (A := A) (by decide) (hs (Cond.arrayOf (.static "TideQuarter$Tides" "MOST" "[I") .int) (by decide +kernel)) (va_eqt (hs (Cond.eq (.length (.static "TideQuarter$Tides" "MOST" "[I")) (.int (Int32.ofNat 4))) (by decide +kernel))) (fun j hj => va_eqt (hs _ (st_eMOST j hj))) hA
  exact ⟨t, va_Zref (hts (Cond.laysStatic "TideQuarter$Tides" "MOST" "[I") (List.mem_of_getElem? (i := 332) (by decide +kernel))) (hts (Cond.initialized "TideQuarter$Tides") (List.mem_of_getElem? (i := 63) (by decide +kernel))) ht hA, hT⟩
theorem st_eUNDER : ∀ j, j < 6 → Cond.eq (.elem (.static "TideQuarter$Isle" "UNDER" "[I") (.int (Int32.ofNat j))) (.int (kUNDER j)) ∈ stF := by decide +kernel
theorem st_UNDER {args : Array Value} {s : State} {A : Nat → Prop} (hts : ∀ w ∈ lw_tbl, w.before args s = true) (hs : ∀ c ∈ stF, c.before args s = true) (hA : ∀ a : Nat, a < s.heap.size → ¬ A a) : ∃ t : Nat, va_Z "TideQuarter$Isle" "UNDER" "[I" (.ref t) A s s.heap ∧ va_T .int t 6 (fun j => .int (kUNDER j)) A s s.heap := by
  obtain ⟨t, ht, hT⟩ := va_Tof (tm := .static "TideQuarter$Isle" "UNDER" "[I") (ty := .int) (N := 6) (f := fun j => .int (kUNDER j)) (A := A) (by decide) (hs (Cond.arrayOf (.static "TideQuarter$Isle" "UNDER" "[I") .int) (by decide +kernel)) (va_eqt (hs (Cond.eq (.length (.static "TideQuarter$Isle" "UNDER" "[I")) (.int (Int32.ofNat 6))) (by decide +kernel))) (fun j hj => va_eqt (hs _ (st_eUNDER j hj))) hA
  exact ⟨t, va_Zref (hts (Cond.laysStatic "TideQuarter$Isle" "UNDER" "[I") (List.mem_of_getElem? (i := 453) (by decide +kernel))) (hts (Cond.initialized "TideQuarter$Isle") (List.mem_of_getElem? (i := 62) (by decide +kernel))) ht hA, hT⟩
theorem goodW {args : Array Value} {s : State} (hts : ∀ w ∈ lw_tbl, w.before args s = true) : ∀ w ∈ gW, w.before args s = true := fun w h => hts w (gW_in h)
theorem st_nest {args : Array Value} {s : State} (hts : ∀ w ∈ lw_tbl, w.before args s = true) : ∀ q ∈ gNEST, va_Nw (.methodLinkNest q.1 q.2.1 q.2.2.1 q.2.2.2) s := by
  unfold gNEST
  exact List.forall_mem_cons.mpr ⟨va_Nw.of rfl (hts (Cond.methodLinkNest "TideQuarter$Tally" 36 ⟨"TideQuarter", "hourOf", "(I)I"⟩ "TideQuarter") (List.mem_of_getElem? (i := 492) (by decide +kernel))), List.forall_mem_cons.mpr ⟨va_Nw.of rfl (hts (Cond.methodLinkNest "TideQuarter" 9 ⟨"TideQuarter$Isle", "<init>", "()V"⟩ "TideQuarter") (List.mem_of_getElem? (i := 88) (by decide +kernel))), List.forall_mem_cons.mpr ⟨va_Nw.of rfl (hts (Cond.methodLinkNest "TideQuarter$Isle" 11 ⟨"TideQuarter$Tides", "<init>", "()V"⟩ "TideQuarter") (List.mem_of_getElem? (i := 94) (by decide +kernel))), List.forall_mem_cons.mpr ⟨va_Nw.of rfl (hts (Cond.methodLinkNest "TideQuarter" 28 ⟨"TideQuarter$Tally", "<init>", "()V"⟩ "TideQuarter") (List.mem_of_getElem? (i := 177) (by decide +kernel))), List.forall_mem_cons.mpr ⟨va_Nw.of rfl (hts (Cond.methodLinkNest "TideQuarter" 35 ⟨"TideQuarter$Harbour", "<init>", "()V"⟩ "TideQuarter") (List.mem_of_getElem? (i := 191) (by decide +kernel))), List.forall_mem_cons.mpr ⟨va_Nw.of rfl (hts (Cond.methodLinkNest "TideQuarter" 42 ⟨"TideQuarter$Teller", "<init>", "()V"⟩ "TideQuarter") (List.mem_of_getElem? (i := 232) (by decide +kernel))), List.forall_mem_cons.mpr ⟨va_Nw.of rfl (hts (Cond.methodLinkNest "TideQuarter$Teller" 11 ⟨"TideQuarter$Tape", "<init>", "()V"⟩ "TideQuarter") (List.mem_of_getElem? (i := 238) (by decide +kernel))), List.forall_mem_cons.mpr ⟨va_Nw.of rfl (hts (Cond.methodLinkNest "TideQuarter" 62 ⟨"TideQuarter$Sheet", "<init>", "()V"⟩ "TideQuarter") (List.mem_of_getElem? (i := 273) (by decide +kernel))), fun _ h => absurd h List.not_mem_nil⟩⟩⟩⟩⟩⟩⟩⟩
theorem st_arr {args : Array Value} {s : State} {ty : FieldType} (h : (Cond.arrayClass ty).before args s = true) : ∃ c : ClassId, ArrOfT s c ty ∧ s.vm.findClass ("[" ++ ty.toString) = some c := by
  obtain ⟨c, k, comp, h1, h2, h3⟩ := Cond.arrayClass_spec h
  cases ty with
  | object C => exact ⟨c, fun N z => ⟨(fun k h => by cases h), k, h2, comp, h3⟩, h1⟩
  | _ => exact ⟨c, fun N z => ⟨(fun k h => by cases h), k, h2, comp, h3⟩, h1⟩
theorem st_ao {args : Array Value} {s : State} {C : String} (h : (Cond.arrayOver (.object C)).before args s = true) : ∃ c : ClassId, ArrOfT s c (.object C) ∧ va_RA s c (.object C) := by
  obtain ⟨comp, c, k, h1, h2, h3, h4, h5⟩ := Cond.arrayOver_spec h
  exact ⟨c, fun N z => ⟨(fun k h => by cases h), k, h3, comp, h4⟩, k, comp, h3, h4, h1, h5⟩
set_option maxHeartbeats 4000000 in
theorem st_env {args : Array Value} {s : State} (hts : ∀ w ∈ lw_tbl, w.before args s = true) (hs : ∀ c ∈ stF, c.before args s = true) : ∃ G : gEnv, va_K (gD G) vwCl (gtys G) s ∧ gE G (fun q : Nat => s.heap.size ≤ q) s s.heap := by
  have hg := goodW hts
  have hA : ∀ a : Nat, a < s.heap.size → ¬ (fun q : Nat => s.heap.size ≤ q) a := fun a h => Nat.not_le.mpr h
  obtain ⟨c0, iS0, hKn0⟩ := u_known (C := RX0) (T := TX0) (N := 10) (n := 10) hg xw0 (hts (.instantiable RX0 10) (List.mem_of_getElem? (i := 190) (by decide +kernel)))
  obtain ⟨c1, iS1, hKn1⟩ := u_known (C := RX1) (T := TX1) (N := 11) (n := 11) hg xw1 (hts (.instantiable RX1 11) (List.mem_of_getElem? (i := 87) (by decide +kernel)))
  obtain ⟨c2, iS2, hKn2⟩ := u_known (C := RX2) (T := TX2) (N := 3) (n := 3) hg xw2 (hts (.instantiable RX2 3) (List.mem_of_getElem? (i := 272) (by decide +kernel)))
  obtain ⟨c3, iS3, hKn3⟩ := u_known (C := RX3) (T := TX3) (N := 2) (n := 2) hg xw3 (hts (.instantiable RX3 2) (List.mem_of_getElem? (i := 176) (by decide +kernel)))
  obtain ⟨c4, iS4, hKn4⟩ := u_known (C := RX4) (T := TX4) (N := 5) (n := 5) hg xw4 (hts (.instantiable RX4 5) (List.mem_of_getElem? (i := 237) (by decide +kernel)))
  obtain ⟨c5, iS5, hKn5⟩ := u_known (C := RX5) (T := TX5) (N := 2) (n := 2) hg xw5 (hts (.instantiable RX5 2) (List.mem_of_getElem? (i := 231) (by decide +kernel)))
  obtain ⟨c6, iS6, hKn6⟩ := u_known (C := RX6) (T := TX6) (N := 5) (n := 5) hg xw6 (hts (.instantiable RX6 5) (List.mem_of_getElem? (i := 93) (by decide +kernel)))
  obtain ⟨c7, iS7, hKn7⟩ := u_known (C := RX7) (T := TX7) (N := 10) (n := 10) hg xw7 (hts (.instantiable RX7 10) (List.mem_of_getElem? (i := 79) (by decide +kernel)))
  obtain ⟨c8, iS8, hKn8⟩ := u_known (C := RX8) (T := TX8) (N := 34) (n := 34) hg xw8 (hts (.instantiable RX8 34) (List.mem_of_getElem? (i := 867) (by decide +kernel)))
  obtain ⟨aB, aB1, aB2⟩ := st_arr (ty := .byte) (hts (Cond.arrayClass .byte) (List.mem_of_getElem? (i := 261) (by decide +kernel)))
  obtain ⟨aI, aI1, aI2⟩ := st_arr (ty := .int) (hts (Cond.arrayClass .int) (List.mem_of_getElem? (i := 121) (by decide +kernel)))
  obtain ⟨aJ, aJ1, aJ2⟩ := st_arr (ty := .long) (hts (Cond.arrayClass .long) (List.mem_of_getElem? (i := 290) (by decide +kernel)))
  have oS := hts (Cond.arrayOver (.object "TideQuarter$Sheet")) (List.mem_of_getElem? (i := 271) (by decide +kernel))
  have oT := hts (Cond.arrayOver (.object "java/lang/String")) (List.mem_of_getElem? (i := 873) (by decide +kernel))
  obtain ⟨aS, aS1, aS2⟩ := st_ao oS
  obtain ⟨aT, aT1, aT2⟩ := st_ao oT
  obtain ⟨tl, hl1, hl2⟩ := st_LEAST hts hs hA
  obtain ⟨tm, hm1, hm2⟩ := st_MOST hts hs hA
  obtain ⟨tu, hu1, hu2⟩ := st_UNDER hts hs hA
  obtain ⟨aK, aV, hS, hev⟩ := st_S hs hA
  refine ⟨(fun k => [c0, c1, c2, c3, c4, c5, c6, c7, c8].getD k c0, fun k => [iS0, iS1, iS2, iS3, iS4, iS5, iS6, iS7, iS8].getD k iS0, aB, aI, aJ, aS, aT, tl, tm, tu, aK, aV), ⟨?_, ?_⟩, ?_⟩
  · intro c q hq
    match c, hq with
    | 0, hq => cases hq; exact hKn0
    | 1, hq => cases hq; exact hKn1
    | 2, hq => cases hq; exact hKn2
    | 3, hq => cases hq; exact hKn3
    | 4, hq => cases hq; exact hKn4
    | 5, hq => cases hq; exact hKn5
    | 6, hq => cases hq; exact hKn6
    | 7, hq => cases hq; exact hKn7
    | 8, hq => cases hq; exact hKn8
    | c + 9, hq => simp [vwCl] at hq
  · intro k q hq
    match k, hq with
    | 0, hq => cases hq; exact ⟨aB1, aB2⟩
    | 1, hq => cases hq; exact ⟨aI1, aI2⟩
    | 2, hq => cases hq; exact ⟨aJ1, aJ2⟩
    | 3, hq => cases hq; exact ⟨aS1, aS2⟩
    | 4, hq => cases hq; exact ⟨aT1, aT2⟩
    | k + 5, hq => simp [gtys] at hq
  · exact ⟨hl1, hl2, hm1, hm2, hu1, hu2, va_Zof (hts (Cond.laysStatic "java/lang/String" "COMPACT_STRINGS" "Z") (List.mem_of_getElem? (i := 697) (by decide +kernel))) (hts (Cond.initialized "java/lang/String") (List.mem_of_getElem? (i := 74) (by decide +kernel))) (va_eqt (hs (Cond.eq (.static "java/lang/String" "COMPACT_STRINGS" "Z") (.int 1)) (by decide +kernel))) hA,
      va_Zqof (hts (Cond.laysStatic "jdk/internal/util/Preconditions" "SIOOBE_FORMATTER" "Ljava/util/function/BiFunction;") (List.mem_of_getElem? (i := 713) (by decide +kernel))) (hts (Cond.initialized "jdk/internal/util/Preconditions") (List.mem_of_getElem? (i := 76) (by decide +kernel))) (hs (Cond.isRef (.static "jdk/internal/util/Preconditions" "SIOOBE_FORMATTER" "Ljava/util/function/BiFunction;")) (by decide +kernel)) hA,
      hS, st_R hts hs hev, st_nest hts, va_AO.of oS, va_AO.of oT⟩
