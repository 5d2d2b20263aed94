/-! THE CLAIM OUT OF ONE WALK OF THE LAW'S BODY. Your part is whole_start (and what it stands on); all else here is the same for every law, but numbers. -/
def R_law : String := "StepBenchLaw"
def lw_P (b : Addr) (xs : List Int32) (args : Array Value) (s : State) : Prop := args = #[.ref b] ∧ s.IntsAt b xs ∧ xs.length ≤ 3072 ∧ (Jvm.Cond.and given_1 narrow_1).before args s = true
def lw_Q (_ : Array Value) (s : State) (o : Outcome) (t : State) : Prop := o = .returned (some (.int 1)) ∧ Framed s o t [] 603072 7112810
def lw_Z (below : List Frame) (a : Array Value) (s : State) : State → Prop := fun t => ∃ o, t.status = .running ∧ Ended t below o ∧ lw_Q a s o t
/-- the law's own end, with 1 on the stack, nothing written that was there before, its room as the claim has it -/
theorem lw_ret {p : Program} {l : Launch} {e : Env} {s : State} {m : MethodId} {below : List Frame} {meth : Method} {c : Code} {b : Nat} (hx : p.tables.exec = Jvm.exec) (hb : c.code = code) (hr : meth.sig.returnType = ret) (hlocks : meth.locks = false) {pc : Nat} {H : Heap} {ls : Array Slot} (hdg : decode code pc = .ok (.ireturn, 1)) : W p l e room_1 s m #[Value.ref b] below meth c H [] 603072 7112810 (lw_Z below #[Value.ref b] s) (F0 m pc ls [.int 1]) := by
  intro T hT X
  obtain ⟨fs, hret, hrun, hended, hW, hframe⟩ := X.leave (v := some (.int 1)) (hlocks := hlocks) (fun h => by rw [hr] at h; cases h)
  have hmeth' : T.vm.method? m = some meth := X.method'
  refine ⟨T.setFrames fs, ?_, .returned (some (.int 1)), hrun, hended, rfl, ⟨_, rfl⟩, hW, hframe⟩
  jvm_step X.here [X.here.top, hx, hb, hdg, hmeth', hr, ret, narrow_b1]
  (try refine ⟨rfl, ?_⟩); (try refine ⟨rfl, ?_⟩)
  first | (intro acts; rw [hret _ acts rfl rfl rfl]) | rw [hret _ _ rfl rfl rfl]
  exact Steps.refl _
/-- what holds at the law's entry: the machine, the code, the tables' words (any of lw_tbl by 'hts w (by decide +kernel)'), the script of L ints xs at the cell b, what the Statement gives of the start (any of its parts by flat_of_before) -/
def lw_At (p : Program) (s : State) (m : MethodId) (meth : Method) (c : Code) (b L : Nat) (xs : Nat → Int32) : Prop :=
  p.tables.exec = Jvm.exec ∧ c.code = code ∧ meth.sig.returnType = ret ∧ c.maxLocals = 8 ∧ s.vm.findClass R_law = some m.cls ∧ (∀ w ∈ lw_tbl, w.before #[Value.ref b] s = true) ∧ va_X b L xs s s.heap ∧ b < s.heap.size ∧ meth.locks = false ∧ (Jvm.Cond.and given_1 narrow_1).before #[Value.ref b] s = true
set_option maxRecDepth 100000 in
theorem lwj0 : ∀ w ∈ wsJ00, w ∈ lw_tbl := by decide +kernel
set_option maxRecDepth 100000 in
theorem lm_ia : Cond.arrayClass .int ∈ lw_tbl := by decide +kernel
set_option maxRecDepth 100000 in
theorem lm_il : Cond.arrayClass .long ∈ lw_tbl := by decide +kernel
set_option maxRecDepth 100000 in
theorem lm_in0 : Cond.instantiable RJ0 4 ∈ lw_tbl := by decide +kernel
set_option maxRecDepth 100000 in
theorem lm_in1 : Cond.instantiable RX0 3 ∈ lw_tbl := by decide +kernel
set_option maxRecDepth 100000 in
theorem lm_in2 : Cond.instantiable RX1 6 ∈ lw_tbl := by decide +kernel
set_option maxRecDepth 100000 in
theorem lm_in3 : Cond.instantiable RX2 2 ∈ lw_tbl := by decide +kernel
set_option maxRecDepth 100000 in
theorem lm_in4 : Cond.instantiable RX3 1 ∈ lw_tbl := by decide +kernel
set_option maxRecDepth 100000 in
theorem lm_in5 : Cond.instantiable RX4 3 ∈ lw_tbl := by decide +kernel
set_option maxRecDepth 100000 in
theorem lm_in6 : Cond.instantiable RX5 4 ∈ lw_tbl := by decide +kernel
set_option maxRecDepth 100000 in
theorem lm_in7 : Cond.instantiable RX6 2 ∈ lw_tbl := by decide +kernel
set_option maxRecDepth 100000 in
theorem lm_in8 : Cond.instantiable RX7 15 ∈ lw_tbl := by decide +kernel
set_option maxRecDepth 100000 in
theorem lm_in9 : Cond.instantiable RX8 33 ∈ lw_tbl := by decide +kernel
set_option maxRecDepth 100000 in
theorem lm_ne0 : Cond.methodLinkNest "StepBench$Fractions" 22 yX7_commonDivisor "StepBench" ∈ lw_tbl := by decide +kernel
set_option maxRecDepth 100000 in
theorem lm_ne1 : Cond.methodLinkNest "StepBench$Shares" 76 yX7_isNumber "StepBench" ∈ lw_tbl := by decide +kernel
set_option maxRecDepth 100000 in
theorem lm_ne2 : Cond.methodLinkNest "StepBench$Shapes" 44 yX7_isNumber "StepBench" ∈ lw_tbl := by decide +kernel
set_option maxRecDepth 100000 in
theorem lm_ne3 : Cond.methodLinkNest "StepBench$Shapes" 48 yX7_commonDivisor "StepBench" ∈ lw_tbl := by decide +kernel
set_option maxRecDepth 100000 in
theorem lm_ne4 : Cond.methodLinkNest "StepBench$Shares" 90 yX7_commonDivisor "StepBench" ∈ lw_tbl := by decide +kernel
set_option maxRecDepth 100000 in
theorem lm_ne5 : Cond.methodLinkNest "StepBench" 15 yX5_init "StepBench" ∈ lw_tbl := by decide +kernel
set_option maxRecDepth 100000 in
theorem lm_ne6 : Cond.methodLinkNest "StepBench" 28 yX0_init "StepBench" ∈ lw_tbl := by decide +kernel
set_option maxRecDepth 100000 in
theorem lm_ne7 : Cond.methodLinkNest "StepBench" 35 yX6_init "StepBench" ∈ lw_tbl := by decide +kernel
set_option maxRecDepth 100000 in
theorem lm_ne8 : Cond.methodLinkNest "StepBench" 70 yX3_init "StepBench" ∈ lw_tbl := by decide +kernel
set_option maxRecDepth 100000 in
theorem lm_ne9 : Cond.methodLinkNest "StepBench" 80 yX1_init "StepBench" ∈ lw_tbl := by decide +kernel
set_option maxRecDepth 100000 in
theorem lm_sr0 : Cond.stringRef "StepBench" 124 "no draft" ∈ lw_tbl := by decide +kernel
set_option maxRecDepth 100000 in
theorem lm_sr1 : Cond.stringRef "StepBench" 167 "no such part of the rule" ∈ lw_tbl := by decide +kernel
set_option maxRecDepth 100000 in
theorem lm_sr2 : Cond.stringRef "StepBench" 188 "the list ends" ∈ lw_tbl := by decide +kernel
set_option maxRecDepth 100000 in
theorem lm_sr3 : Cond.stringRef "StepBench" 194 "beyond the numbers" ∈ lw_tbl := by decide +kernel
set_option maxRecDepth 100000 in
theorem lm_sr4 : Cond.stringRef "StepBench" 349 "a heap is not 0 to 1000" ∈ lw_tbl := by decide +kernel
set_option maxRecDepth 100000 in
theorem lm_sr5 : Cond.stringRef "StepBench" 367 "no such number of the row" ∈ lw_tbl := by decide +kernel
set_option maxRecDepth 100000 in
theorem lm_sr6 : Cond.stringRef "StepBench" 379 "k is not 0 to 100000" ∈ lw_tbl := by decide +kernel
set_option maxRecDepth 100000 in
theorem lm_sr7 : Cond.stringRef "StepBench" 381 "no rule" ∈ lw_tbl := by decide +kernel
set_option maxRecDepth 100000 in
theorem lm_sr8 : Cond.stringRef "StepBench" 383 "x is no number" ∈ lw_tbl := by decide +kernel
set_option maxRecDepth 100000 in
theorem lm_ca0 : Cond.castable "java/lang/IllegalStateException" "java/lang/IllegalStateException" ∈ lw_tbl := by decide +kernel
set_option maxRecDepth 100000 in
theorem lm_ca1 : Cond.castable "java/util/NoSuchElementException" "java/util/NoSuchElementException" ∈ lw_tbl := by decide +kernel
set_option maxRecDepth 100000 in
theorem lm_ca2 : Cond.castable "java/lang/ArithmeticException" "java/lang/ArithmeticException" ∈ lw_tbl := by decide +kernel
set_option maxRecDepth 100000 in
theorem lm_ca3 : Cond.castable "java/lang/IllegalArgumentException" "java/lang/IllegalArgumentException" ∈ lw_tbl := by decide +kernel
set_option maxRecDepth 100000 in
theorem lm_de0 : Cond.declares (Bundle.initS "java/lang/RuntimeException") ∈ lw_tbl := by decide +kernel
set_option maxRecDepth 100000 in
theorem lm_de1 : Cond.declares (Bundle.initS "java/lang/Exception") ∈ lw_tbl := by decide +kernel
set_option maxRecDepth 100000 in
theorem lm_de2 : Cond.declares (Bundle.initS Bundle.tN) ∈ lw_tbl := by decide +kernel
set_option maxRecDepth 100000 in
theorem lm_lp : Cond.laysStatic "StepBench" "PRIMES" "[I" ∈ lw_tbl := by decide +kernel
set_option maxRecDepth 100000 in
theorem lm_lu : Cond.laysStatic Bundle.tN "UNASSIGNED_STACK" Bundle.steD ∈ lw_tbl := by decide +kernel
set_option maxRecDepth 100000 in
theorem lm_ls : Cond.laysStatic Bundle.tN "SUPPRESSED_SENTINEL" Bundle.listD ∈ lw_tbl := by decide +kernel
set_option maxRecDepth 100000 in
theorem lm_it : Cond.initialized Bundle.tN ∈ lw_tbl := by decide +kernel
set_option maxRecDepth 100000 in
theorem lm_ib : Cond.initialized "StepBench" ∈ lw_tbl := by decide +kernel
set_option maxRecDepth 100000 in
theorem lf_pa : Cond.arrayOf (.static "StepBench" "PRIMES" "[I") .int ∈ flatC (Jvm.Cond.and given_1 narrow_1) := by decide +kernel
set_option maxRecDepth 100000 in
theorem lf_pl : Cond.eq (.length (.static "StepBench" "PRIMES" "[I")) (.int 28) ∈ flatC (Jvm.Cond.and given_1 narrow_1) := by decide +kernel
set_option maxRecDepth 100000 in
theorem lf_p0 : Cond.eq (.elem (.static "StepBench" "PRIMES" "[I") (.int 0)) (.int 2) ∈ flatC (Jvm.Cond.and given_1 narrow_1) := by decide +kernel
set_option maxRecDepth 100000 in
theorem lf_p1 : Cond.eq (.elem (.static "StepBench" "PRIMES" "[I") (.int 1)) (.int 3) ∈ flatC (Jvm.Cond.and given_1 narrow_1) := by decide +kernel
set_option maxRecDepth 100000 in
theorem lf_p2 : Cond.eq (.elem (.static "StepBench" "PRIMES" "[I") (.int 2)) (.int 5) ∈ flatC (Jvm.Cond.and given_1 narrow_1) := by decide +kernel
set_option maxRecDepth 100000 in
theorem lf_p3 : Cond.eq (.elem (.static "StepBench" "PRIMES" "[I") (.int 3)) (.int 7) ∈ flatC (Jvm.Cond.and given_1 narrow_1) := by decide +kernel
set_option maxRecDepth 100000 in
theorem lf_p4 : Cond.eq (.elem (.static "StepBench" "PRIMES" "[I") (.int 4)) (.int 11) ∈ flatC (Jvm.Cond.and given_1 narrow_1) := by decide +kernel
set_option maxRecDepth 100000 in
theorem lf_p5 : Cond.eq (.elem (.static "StepBench" "PRIMES" "[I") (.int 5)) (.int 13) ∈ flatC (Jvm.Cond.and given_1 narrow_1) := by decide +kernel
set_option maxRecDepth 100000 in
theorem lf_p6 : Cond.eq (.elem (.static "StepBench" "PRIMES" "[I") (.int 6)) (.int 17) ∈ flatC (Jvm.Cond.and given_1 narrow_1) := by decide +kernel
set_option maxRecDepth 100000 in
theorem lf_p7 : Cond.eq (.elem (.static "StepBench" "PRIMES" "[I") (.int 7)) (.int 19) ∈ flatC (Jvm.Cond.and given_1 narrow_1) := by decide +kernel
set_option maxRecDepth 100000 in
theorem lf_p8 : Cond.eq (.elem (.static "StepBench" "PRIMES" "[I") (.int 8)) (.int 23) ∈ flatC (Jvm.Cond.and given_1 narrow_1) := by decide +kernel
set_option maxRecDepth 100000 in
theorem lf_p9 : Cond.eq (.elem (.static "StepBench" "PRIMES" "[I") (.int 9)) (.int 29) ∈ flatC (Jvm.Cond.and given_1 narrow_1) := by decide +kernel
set_option maxRecDepth 100000 in
theorem lf_p10 : Cond.eq (.elem (.static "StepBench" "PRIMES" "[I") (.int 10)) (.int 31) ∈ flatC (Jvm.Cond.and given_1 narrow_1) := by decide +kernel
set_option maxRecDepth 100000 in
theorem lf_p11 : Cond.eq (.elem (.static "StepBench" "PRIMES" "[I") (.int 11)) (.int 37) ∈ flatC (Jvm.Cond.and given_1 narrow_1) := by decide +kernel
set_option maxRecDepth 100000 in
theorem lf_p12 : Cond.eq (.elem (.static "StepBench" "PRIMES" "[I") (.int 12)) (.int 41) ∈ flatC (Jvm.Cond.and given_1 narrow_1) := by decide +kernel
set_option maxRecDepth 100000 in
theorem lf_p13 : Cond.eq (.elem (.static "StepBench" "PRIMES" "[I") (.int 13)) (.int 43) ∈ flatC (Jvm.Cond.and given_1 narrow_1) := by decide +kernel
set_option maxRecDepth 100000 in
theorem lf_p14 : Cond.eq (.elem (.static "StepBench" "PRIMES" "[I") (.int 14)) (.int 47) ∈ flatC (Jvm.Cond.and given_1 narrow_1) := by decide +kernel
set_option maxRecDepth 100000 in
theorem lf_p15 : Cond.eq (.elem (.static "StepBench" "PRIMES" "[I") (.int 15)) (.int 53) ∈ flatC (Jvm.Cond.and given_1 narrow_1) := by decide +kernel
set_option maxRecDepth 100000 in
theorem lf_p16 : Cond.eq (.elem (.static "StepBench" "PRIMES" "[I") (.int 16)) (.int 59) ∈ flatC (Jvm.Cond.and given_1 narrow_1) := by decide +kernel
set_option maxRecDepth 100000 in
theorem lf_p17 : Cond.eq (.elem (.static "StepBench" "PRIMES" "[I") (.int 17)) (.int 61) ∈ flatC (Jvm.Cond.and given_1 narrow_1) := by decide +kernel
set_option maxRecDepth 100000 in
theorem lf_p18 : Cond.eq (.elem (.static "StepBench" "PRIMES" "[I") (.int 18)) (.int 67) ∈ flatC (Jvm.Cond.and given_1 narrow_1) := by decide +kernel
set_option maxRecDepth 100000 in
theorem lf_p19 : Cond.eq (.elem (.static "StepBench" "PRIMES" "[I") (.int 19)) (.int 71) ∈ flatC (Jvm.Cond.and given_1 narrow_1) := by decide +kernel
set_option maxRecDepth 100000 in
theorem lf_p20 : Cond.eq (.elem (.static "StepBench" "PRIMES" "[I") (.int 20)) (.int 73) ∈ flatC (Jvm.Cond.and given_1 narrow_1) := by decide +kernel
set_option maxRecDepth 100000 in
theorem lf_p21 : Cond.eq (.elem (.static "StepBench" "PRIMES" "[I") (.int 21)) (.int 79) ∈ flatC (Jvm.Cond.and given_1 narrow_1) := by decide +kernel
set_option maxRecDepth 100000 in
theorem lf_p22 : Cond.eq (.elem (.static "StepBench" "PRIMES" "[I") (.int 22)) (.int 83) ∈ flatC (Jvm.Cond.and given_1 narrow_1) := by decide +kernel
set_option maxRecDepth 100000 in
theorem lf_p23 : Cond.eq (.elem (.static "StepBench" "PRIMES" "[I") (.int 23)) (.int 89) ∈ flatC (Jvm.Cond.and given_1 narrow_1) := by decide +kernel
set_option maxRecDepth 100000 in
theorem lf_p24 : Cond.eq (.elem (.static "StepBench" "PRIMES" "[I") (.int 24)) (.int 97) ∈ flatC (Jvm.Cond.and given_1 narrow_1) := by decide +kernel
set_option maxRecDepth 100000 in
theorem lf_p25 : Cond.eq (.elem (.static "StepBench" "PRIMES" "[I") (.int 25)) (.int 101) ∈ flatC (Jvm.Cond.and given_1 narrow_1) := by decide +kernel
set_option maxRecDepth 100000 in
theorem lf_p26 : Cond.eq (.elem (.static "StepBench" "PRIMES" "[I") (.int 26)) (.int 103) ∈ flatC (Jvm.Cond.and given_1 narrow_1) := by decide +kernel
set_option maxRecDepth 100000 in
theorem lf_p27 : Cond.eq (.elem (.static "StepBench" "PRIMES" "[I") (.int 27)) (.int 107) ∈ flatC (Jvm.Cond.and given_1 narrow_1) := by decide +kernel
set_option maxRecDepth 100000 in
theorem lf_s0 : Cond.exactly (.string "StepBench" 124) "java/lang/String" ∈ flatC (Jvm.Cond.and given_1 narrow_1) := by decide +kernel
set_option maxRecDepth 100000 in
theorem lf_s1 : Cond.exactly (.string "StepBench" 167) "java/lang/String" ∈ flatC (Jvm.Cond.and given_1 narrow_1) := by decide +kernel
set_option maxRecDepth 100000 in
theorem lf_s2 : Cond.exactly (.string "StepBench" 188) "java/lang/String" ∈ flatC (Jvm.Cond.and given_1 narrow_1) := by decide +kernel
set_option maxRecDepth 100000 in
theorem lf_s3 : Cond.exactly (.string "StepBench" 194) "java/lang/String" ∈ flatC (Jvm.Cond.and given_1 narrow_1) := by decide +kernel
set_option maxRecDepth 100000 in
theorem lf_s4 : Cond.exactly (.string "StepBench" 349) "java/lang/String" ∈ flatC (Jvm.Cond.and given_1 narrow_1) := by decide +kernel
set_option maxRecDepth 100000 in
theorem lf_s5 : Cond.exactly (.string "StepBench" 367) "java/lang/String" ∈ flatC (Jvm.Cond.and given_1 narrow_1) := by decide +kernel
set_option maxRecDepth 100000 in
theorem lf_s6 : Cond.exactly (.string "StepBench" 379) "java/lang/String" ∈ flatC (Jvm.Cond.and given_1 narrow_1) := by decide +kernel
set_option maxRecDepth 100000 in
theorem lf_s7 : Cond.exactly (.string "StepBench" 381) "java/lang/String" ∈ flatC (Jvm.Cond.and given_1 narrow_1) := by decide +kernel
set_option maxRecDepth 100000 in
theorem lf_s8 : Cond.exactly (.string "StepBench" 383) "java/lang/String" ∈ flatC (Jvm.Cond.and given_1 narrow_1) := by decide +kernel
set_option maxRecDepth 100000 in
theorem lf_n01 : Cond.not (.castable "java/lang/IllegalStateException" "java/util/NoSuchElementException") ∈ flatC (Jvm.Cond.and given_1 narrow_1) := by decide +kernel
set_option maxRecDepth 100000 in
theorem lf_n02 : Cond.not (.castable "java/lang/IllegalStateException" "java/lang/ArithmeticException") ∈ flatC (Jvm.Cond.and given_1 narrow_1) := by decide +kernel
set_option maxRecDepth 100000 in
theorem lf_n03 : Cond.not (.castable "java/lang/IllegalStateException" "java/lang/IllegalArgumentException") ∈ flatC (Jvm.Cond.and given_1 narrow_1) := by decide +kernel
set_option maxRecDepth 100000 in
theorem lf_n10 : Cond.not (.castable "java/util/NoSuchElementException" "java/lang/IllegalStateException") ∈ flatC (Jvm.Cond.and given_1 narrow_1) := by decide +kernel
set_option maxRecDepth 100000 in
theorem lf_n12 : Cond.not (.castable "java/util/NoSuchElementException" "java/lang/ArithmeticException") ∈ flatC (Jvm.Cond.and given_1 narrow_1) := by decide +kernel
set_option maxRecDepth 100000 in
theorem lf_n13 : Cond.not (.castable "java/util/NoSuchElementException" "java/lang/IllegalArgumentException") ∈ flatC (Jvm.Cond.and given_1 narrow_1) := by decide +kernel
set_option maxRecDepth 100000 in
theorem lf_n20 : Cond.not (.castable "java/lang/ArithmeticException" "java/lang/IllegalStateException") ∈ flatC (Jvm.Cond.and given_1 narrow_1) := by decide +kernel
set_option maxRecDepth 100000 in
theorem lf_n21 : Cond.not (.castable "java/lang/ArithmeticException" "java/util/NoSuchElementException") ∈ flatC (Jvm.Cond.and given_1 narrow_1) := by decide +kernel
set_option maxRecDepth 100000 in
theorem lf_n23 : Cond.not (.castable "java/lang/ArithmeticException" "java/lang/IllegalArgumentException") ∈ flatC (Jvm.Cond.and given_1 narrow_1) := by decide +kernel
set_option maxRecDepth 100000 in
theorem lf_n30 : Cond.not (.castable "java/lang/IllegalArgumentException" "java/lang/IllegalStateException") ∈ flatC (Jvm.Cond.and given_1 narrow_1) := by decide +kernel
set_option maxRecDepth 100000 in
theorem lf_n31 : Cond.not (.castable "java/lang/IllegalArgumentException" "java/util/NoSuchElementException") ∈ flatC (Jvm.Cond.and given_1 narrow_1) := by decide +kernel
set_option maxRecDepth 100000 in
theorem lf_n32 : Cond.not (.castable "java/lang/IllegalArgumentException" "java/lang/ArithmeticException") ∈ flatC (Jvm.Cond.and given_1 narrow_1) := by decide +kernel
set_option maxRecDepth 100000 in
theorem lf_ru : Cond.isRef (.static Bundle.tN "UNASSIGNED_STACK" Bundle.steD) ∈ flatC (Jvm.Cond.and given_1 narrow_1) := by decide +kernel
set_option maxRecDepth 100000 in
theorem lf_rs : Cond.isRef (.static Bundle.tN "SUPPRESSED_SENTINEL" Bundle.listD) ∈ flatC (Jvm.Cond.and given_1 narrow_1) := by decide +kernel
section
variable {s : State} {args : Array Value}
theorem st_K (hts : ∀ w ∈ lw_tbl, w.before args s = true) : ∃ (D : va_G) (cI cJ : ClassId), va_K D vwCl (tys cI cJ) s := by
  obtain ⟨c0, i0, k0⟩ := u_known (C := RJ0) (T := TJ0) (N := 2) (n := 4) hts lwj0 (hts _ lm_in0)
  obtain ⟨c1, i1, k1⟩ := u_known (C := RX0) (T := TX0) (N := 3) (n := 3) hts lwu_0 (hts _ lm_in1)
  obtain ⟨c2, i2, k2⟩ := u_known (C := RX1) (T := TX1) (N := 6) (n := 6) hts lwu_1 (hts _ lm_in2)
  obtain ⟨c3, i3, k3⟩ := u_known (C := RX2) (T := TX2) (N := 2) (n := 2) hts lwu_2 (hts _ lm_in3)
  obtain ⟨c4, i4, k4⟩ := u_known (C := RX3) (T := TX3) (N := 1) (n := 1) hts lwu_3 (hts _ lm_in4)
  obtain ⟨c5, i5, k5⟩ := u_known (C := RX4) (T := TX4) (N := 3) (n := 3) hts lwu_4 (hts _ lm_in5)
  obtain ⟨c6, i6, k6⟩ := u_known (C := RX5) (T := TX5) (N := 4) (n := 4) hts lwu_5 (hts _ lm_in6)
  obtain ⟨c7, i7, k7⟩ := u_known (C := RX6) (T := TX6) (N := 2) (n := 2) hts lwu_6 (hts _ lm_in7)
  obtain ⟨c8, i8, k8⟩ := u_known (C := RX7) (T := TX7) (N := 15) (n := 15) hts lwu_7 (hts _ lm_in8)
  obtain ⟨c9, i9, k9⟩ := u_known (C := RX8) (T := TX8) (N := 33) (n := 33) hts lwu_8 (hts _ lm_in9)
  obtain ⟨cI, kI, compI, f1, f2, f3⟩ := Cond.arrayClass_spec (type := .int) (hts _ lm_ia)
  obtain ⟨cJ, kJ, compJ, g1, g2, g3⟩ := Cond.arrayClass_spec (type := .long) (hts _ lm_il)
  refine ⟨(fun k => [c0, c1, c2, c3, c4, c5, c6, c7, c8, c9].getD k c0, fun k => [i0, i1, i2, i3, i4, i5, i6, i7, i8, i9].getD k i0), cI, cJ, ?_, ?_⟩
  · intro k q hq
    match k, hq with
    | 0, hq => cases hq; exact k0
    | 1, hq => cases hq; exact k1
    | 2, hq => cases hq; exact k2
    | 3, hq => cases hq; exact k3
    | 4, hq => cases hq; exact k4
    | 5, hq => cases hq; exact k5
    | 6, hq => cases hq; exact k6
    | 7, hq => cases hq; exact k7
    | 8, hq => cases hq; exact k8
    | 9, hq => cases hq; exact k9
    | k + 10, hq => simp [vwCl] at hq
  · intro k q hq
    match k, hq with
    | 0, hq => cases hq; exact ⟨fun n z => ⟨fun k h => (by cases h), kJ, g2, compJ, g3⟩, g1⟩
    | 1, hq => cases hq; exact ⟨fun n z => ⟨fun k h => (by cases h), kI, f2, compI, f3⟩, f1⟩
    | k + 2, hq => simp [tys] at hq
theorem ev_eq {t : Term} {v : Int32} (h : (Cond.eq t (.int v)).before args s = true) : t.eval args s none [] s = some (.int v) := by
  obtain ⟨w, h1, h2⟩ := Cond.eq_one (show (Cond.eq t (.int v)).holds args s none s [] = true from h)
  have h3 : (Term.int v).eval args s none [] s = some (.int v) := rfl
  rw [h3] at h2
  cases h2
  exact h1
set_option maxRecDepth 100000 in
theorem st_Sta (hts : ∀ w ∈ lw_tbl, w.before args s = true) (hg : ∀ w ∈ flatC (Jvm.Cond.and given_1 narrow_1), w.before args s = true) : Sta s.heap.size s := by
  have hA : ∀ a : Nat, a < s.heap.size → ¬ fr s.heap.size a := fun a h q => Nat.not_le.mpr h q
  obtain ⟨tp, e1, hT⟩ := va_Tof (N := 28) (f := fun i => .int (primeF i)) (by decide) (hg _ lf_pa) (ev_eq (hg _ lf_pl)) (fun j hj => by
    match j, hj with
    | 0, _ => exact ev_eq (hg _ lf_p0)
    | 1, _ => exact ev_eq (hg _ lf_p1)
    | 2, _ => exact ev_eq (hg _ lf_p2)
    | 3, _ => exact ev_eq (hg _ lf_p3)
    | 4, _ => exact ev_eq (hg _ lf_p4)
    | 5, _ => exact ev_eq (hg _ lf_p5)
    | 6, _ => exact ev_eq (hg _ lf_p6)
    | 7, _ => exact ev_eq (hg _ lf_p7)
    | 8, _ => exact ev_eq (hg _ lf_p8)
    | 9, _ => exact ev_eq (hg _ lf_p9)
    | 10, _ => exact ev_eq (hg _ lf_p10)
    | 11, _ => exact ev_eq (hg _ lf_p11)
    | 12, _ => exact ev_eq (hg _ lf_p12)
    | 13, _ => exact ev_eq (hg _ lf_p13)
    | 14, _ => exact ev_eq (hg _ lf_p14)
    | 15, _ => exact ev_eq (hg _ lf_p15)
    | 16, _ => exact ev_eq (hg _ lf_p16)
    | 17, _ => exact ev_eq (hg _ lf_p17)
    | 18, _ => exact ev_eq (hg _ lf_p18)
    | 19, _ => exact ev_eq (hg _ lf_p19)
    | 20, _ => exact ev_eq (hg _ lf_p20)
    | 21, _ => exact ev_eq (hg _ lf_p21)
    | 22, _ => exact ev_eq (hg _ lf_p22)
    | 23, _ => exact ev_eq (hg _ lf_p23)
    | 24, _ => exact ev_eq (hg _ lf_p24)
    | 25, _ => exact ev_eq (hg _ lf_p25)
    | 26, _ => exact ev_eq (hg _ lf_p26)
    | 27, _ => exact ev_eq (hg _ lf_p27)
    | j + 28, hj => exact absurd hj (by omega)) hA
  exact ⟨⟨tp, va_Zof (hts _ lm_lp) (hts _ lm_ib) e1 hA, hT⟩, vx_Zqof (hts _ lm_lu) (hts _ lm_it) (hg _ lf_ru) hA, vx_Zqof (hts _ lm_ls) (hts _ lm_it) (hg _ lf_rs) hA⟩
theorem st_Nst (hts : ∀ w ∈ lw_tbl, w.before args s = true) : Nst s := by
  intro q hq
  simp only [nestL, List.mem_cons, List.not_mem_nil, or_false] at hq
  rcases hq with rfl | rfl | rfl | rfl | rfl | rfl | rfl | rfl | rfl | rfl
  · exact va_Nw.of rfl (hts _ lm_ne0)
  · exact va_Nw.of rfl (hts _ lm_ne1)
  · exact va_Nw.of rfl (hts _ lm_ne2)
  · exact va_Nw.of rfl (hts _ lm_ne3)
  · exact va_Nw.of rfl (hts _ lm_ne4)
  · exact va_Nw.of rfl (hts _ lm_ne5)
  · exact va_Nw.of rfl (hts _ lm_ne6)
  · exact va_Nw.of rfl (hts _ lm_ne7)
  · exact va_Nw.of rfl (hts _ lm_ne8)
  · exact va_Nw.of rfl (hts _ lm_ne9)
theorem st_str {own tx : String} {k : Nat} (h1 : (Cond.stringRef own k tx).before args s = true) (h2 : (Cond.exactly (.string own k) "java/lang/String").before args s = true) : ∃ a : Nat, vk_R own k tx a s := by
  obtain ⟨a, -, -, -, h3, -⟩ := Cond.exactly_spec (show (Cond.exactly (.string own k) "java/lang/String").holds args s none s [] = true from h2)
  exact ⟨a, vk_R.of h1 h3⟩
theorem st_Str (hts : ∀ w ∈ lw_tbl, w.before args s = true) (hg : ∀ w ∈ flatC (Jvm.Cond.and given_1 narrow_1), w.before args s = true) : Str s := by
  intro q hq
  simp only [strL, List.mem_cons, List.not_mem_nil, or_false] at hq
  rcases hq with rfl | rfl | rfl | rfl | rfl | rfl | rfl | rfl | rfl
  · exact st_str (hts _ lm_sr0) (hg _ lf_s0)
  · exact st_str (hts _ lm_sr1) (hg _ lf_s1)
  · exact st_str (hts _ lm_sr2) (hg _ lf_s2)
  · exact st_str (hts _ lm_sr3) (hg _ lf_s3)
  · exact st_str (hts _ lm_sr4) (hg _ lf_s4)
  · exact st_str (hts _ lm_sr5) (hg _ lf_s5)
  · exact st_str (hts _ lm_sr6) (hg _ lf_s6)
  · exact st_str (hts _ lm_sr7) (hg _ lf_s7)
  · exact st_str (hts _ lm_sr8) (hg _ lf_s8)
theorem st_Exc (hts : ∀ w ∈ lw_tbl, w.before args s = true) (hg : ∀ w ∈ flatC (Jvm.Cond.and given_1 narrow_1), w.before args s = true) : Exc s := by
  refine ⟨fun x hx => ?_, fun E hE => ?_, fun E hE T hT hn => ?_⟩
  · simp only [exD, List.mem_cons, List.not_mem_nil, or_false] at hx
    rcases hx with rfl | rfl | rfl
    · exact va_Nw.of rfl (hts _ lm_de0)
    · exact va_Nw.of rfl (hts _ lm_de1)
    · exact va_Nw.of rfl (hts _ lm_de2)
  · simp only [exE, List.mem_cons, List.not_mem_nil, or_false] at hE
    rcases hE with rfl | rfl | rfl | rfl
    · exact va_Nw.of rfl (hts _ lm_ca0)
    · exact va_Nw.of rfl (hts _ lm_ca1)
    · exact va_Nw.of rfl (hts _ lm_ca2)
    · exact va_Nw.of rfl (hts _ lm_ca3)
  · simp only [exE, List.mem_cons, List.not_mem_nil, or_false] at hE hT
    rcases hE with rfl | rfl | rfl | rfl <;> rcases hT with rfl | rfl | rfl | rfl
    · exact absurd rfl hn
    · exact va_Nc.of (hg _ lf_n01)
    · exact va_Nc.of (hg _ lf_n02)
    · exact va_Nc.of (hg _ lf_n03)
    · exact va_Nc.of (hg _ lf_n10)
    · exact absurd rfl hn
    · exact va_Nc.of (hg _ lf_n12)
    · exact va_Nc.of (hg _ lf_n13)
    · exact va_Nc.of (hg _ lf_n20)
    · exact va_Nc.of (hg _ lf_n21)
    · exact absurd rfl hn
    · exact va_Nc.of (hg _ lf_n23)
    · exact va_Nc.of (hg _ lf_n30)
    · exact va_Nc.of (hg _ lf_n31)
    · exact va_Nc.of (hg _ lf_n32)
    · exact absurd rfl hn
theorem st_En (hts : ∀ w ∈ lw_tbl, w.before args s = true) (hg : ∀ w ∈ flatC (Jvm.Cond.and given_1 narrow_1), w.before args s = true) : ∃ (D : va_G) (cI cJ : ClassId), En D s.heap.size cI cJ s := by
  obtain ⟨D, cI, cJ, hK⟩ := st_K hts
  exact ⟨D, cI, cJ, Nat.le_refl _, hK, st_Nst hts, st_Str hts hg, st_Sta hts hg, st_Exc hts hg⟩
end
