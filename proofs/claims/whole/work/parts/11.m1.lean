section
variable {p : Program} {l : Launch} {e : Env} {s : State} {m : MethodId} {args : Array Value} {below : List Frame} {meth : Method} {c : Code}
variable {D : va_G} {n0 : Nat} {ad : Nat → Nat} {cI cJ : ClassId} {X : va_W}
/-! StepBench$Shapes.factor(I)J -/
abbrev rm_X4_factor : Room := { frames := 1, cells := 0, slots := 0, locals := 20 }
set_option maxRecDepth 20000 in
theorem fw_X4_factor_9 : Cond.fieldLink RX4 9 "StepBench$Shapes" "factors" "[J" ∈ wsX4_factor := by decide +kernel
set_option maxRecDepth 20000 in
theorem iw_X4_factor_X4 : ∀ w ∈ wsX40, w ∈ wsX4_factor := by decide +kernel
set_option maxRecDepth 20000 in
theorem hd_X4_factor : yX4_factor.cls = RX4 ∧ yX4_factor.cls ≠ "java/lang/invoke/MethodHandle" ∧ yX4_factor.cls ≠ "java/lang/invoke/VarHandle" ∧ (parseMethodDescriptor yX4_factor.desc).map (fun d => d.parameters.length) = some 1 := by decide +kernel
def V_X4_factor  (p0 : Int32) (S : SS) (post : Int64 → SS → Prop) : Prop :=
  (V_X4_has p0 S (fun (r1 : Int32) (S2 : SS) => ((r1 = 0 → (post (0 : Int64) S2)) ∧ (¬ r1 = 0 → (vp_in p0 41 ∧ (post (gA S2 17 p0.toNatClampNeg) S2))))))
set_option maxHeartbeats 4000000 in
set_option maxRecDepth 100000 in
theorem c_X4_factor  {S : SS} {p0 : Int32} {post : Int64 → SS → Prop} (hV : V_X4_factor  p0 S post) : ML l yX4_factor wsX4_factor rm_X4_factor [.ref (ad 29), .int p0] D n0 ad cI cJ X S post := by
  refine Met.ofW (cc := cX4_factor) (maxL := 2) (ret := (some .long)) (by decide) rfl ?_
  intro p e s m args below meth c s₁ B hml hv
  obtain ⟨rfl, hv⟩ := hv
  have C0 := Bd.mk B hml (atoms_spec (ws := wsX4_factor) B.pre) (findClass_of_methodNamed B.named) hv.1
  have hw : Wh D n0 ad cI cJ X S s s.heap [] := ⟨hv.2.1, hv.2.2, va_S.rf⟩
  refine r_entry (Nat.le_of_ble_eq_true rfl) (fun ls hl => ?_)
  have hl : lv_has ls 2 [(0, .ref (ad 29)), (1, .int p0)] := hl
  unfold V_X4_factor at hV
  refine lv_iload_n C0.x C0.b dX4_factor_0 rfl (lv_at hl 1 rfl) ?_
  refine r_cS_i (As := [.int p0]) (rest := []) C0 hw (c_X4_has  hV) (va_cwS 1 C0.ts gX4_factor_X4_has rfl rfl rfl hd_X4_has ⟨Nat.le_of_ble_eq_true rfl, Nat.le_of_ble_eq_true rfl⟩) rfl hl.1 rfl (Nat.le_of_ble_eq_true rfl) ⟨Nat.le_of_ble_eq_true rfl, Nat.le_of_ble_eq_true rfl⟩ dX4_factor_1 (fun r1 S2 H locs hV hw => ?_)
  refine lv_if_eq (tgt := 16) C0.x C0.b dX4_factor_4 (by decide) (fun c3 => ?_) (fun c3 => ?_)
  · have hV := hV.1 c3
    refine lv_lconst (v := 0) C0.x C0.b dX4_factor_16 (by decide) ?_
    exact r_lret C0 rfl hw hV dX4_factor_17
  · have hV := hV.2 c3
    refine lv_aload_n C0.x C0.b dX4_factor_7 rfl (lv_at hl 0 rfl) ?_
    refine r_get C0 hw (C := RX4) (T := TX4) (N := 3) (v := .ref (ad 30)) iw_X4_factor_X4 (lg_29 ad cI cJ X S2) rfl 0 (by decide) (C0.ts _ fw_X4_factor_9) rfl dX4_factor_8 ?_
    refine lv_iload_n C0.x C0.b dX4_factor_11 rfl (lv_at hl 1 rfl) ?_
    refine r_lald C0 hw (lg_30 ad cI cJ X S2) hV.1 dX4_factor_12 ?_
    have hV := hV.2
    refine lv_goto (tgt := 17) C0.x C0.b dX4_factor_13 (by decide) ?_
    exact r_lret C0 rfl hw hV dX4_factor_17
/-! StepBench$Shapes.addend(I)J -/
abbrev rm_X4_addend : Room := { frames := 1, cells := 0, slots := 0, locals := 20 }
set_option maxRecDepth 20000 in
theorem fw_X4_addend_15 : Cond.fieldLink RX4 15 "StepBench$Shapes" "addends" "[J" ∈ wsX4_addend := by decide +kernel
set_option maxRecDepth 20000 in
theorem iw_X4_addend_X4 : ∀ w ∈ wsX40, w ∈ wsX4_addend := by decide +kernel
set_option maxRecDepth 20000 in
theorem hd_X4_addend : yX4_addend.cls = RX4 ∧ yX4_addend.cls ≠ "java/lang/invoke/MethodHandle" ∧ yX4_addend.cls ≠ "java/lang/invoke/VarHandle" ∧ (parseMethodDescriptor yX4_addend.desc).map (fun d => d.parameters.length) = some 1 := by decide +kernel
def V_X4_addend  (p0 : Int32) (S : SS) (post : Int64 → SS → Prop) : Prop :=
  (V_X4_has p0 S (fun (r1 : Int32) (S2 : SS) => ((r1 = 0 → (post (0 : Int64) S2)) ∧ (¬ r1 = 0 → (vp_in p0 41 ∧ (post (gA S2 18 p0.toNatClampNeg) S2))))))
set_option maxHeartbeats 4000000 in
set_option maxRecDepth 100000 in
theorem c_X4_addend  {S : SS} {p0 : Int32} {post : Int64 → SS → Prop} (hV : V_X4_addend  p0 S post) : ML l yX4_addend wsX4_addend rm_X4_addend [.ref (ad 29), .int p0] D n0 ad cI cJ X S post := by
  refine Met.ofW (cc := cX4_addend) (maxL := 2) (ret := (some .long)) (by decide) rfl ?_
  intro p e s m args below meth c s₁ B hml hv
  obtain ⟨rfl, hv⟩ := hv
  have C0 := Bd.mk B hml (atoms_spec (ws := wsX4_addend) B.pre) (findClass_of_methodNamed B.named) hv.1
  have hw : Wh D n0 ad cI cJ X S s s.heap [] := ⟨hv.2.1, hv.2.2, va_S.rf⟩
  refine r_entry (Nat.le_of_ble_eq_true rfl) (fun ls hl => ?_)
  have hl : lv_has ls 2 [(0, .ref (ad 29)), (1, .int p0)] := hl
  unfold V_X4_addend at hV
  refine lv_iload_n C0.x C0.b dX4_addend_0 rfl (lv_at hl 1 rfl) ?_
  refine r_cS_i (As := [.int p0]) (rest := []) C0 hw (c_X4_has  hV) (va_cwS 1 C0.ts gX4_addend_X4_has rfl rfl rfl hd_X4_has ⟨Nat.le_of_ble_eq_true rfl, Nat.le_of_ble_eq_true rfl⟩) rfl hl.1 rfl (Nat.le_of_ble_eq_true rfl) ⟨Nat.le_of_ble_eq_true rfl, Nat.le_of_ble_eq_true rfl⟩ dX4_addend_1 (fun r1 S2 H locs hV hw => ?_)
  refine lv_if_eq (tgt := 16) C0.x C0.b dX4_addend_4 (by decide) (fun c3 => ?_) (fun c3 => ?_)
  · have hV := hV.1 c3
    refine lv_lconst (v := 0) C0.x C0.b dX4_addend_16 (by decide) ?_
    exact r_lret C0 rfl hw hV dX4_addend_17
  · have hV := hV.2 c3
    refine lv_aload_n C0.x C0.b dX4_addend_7 rfl (lv_at hl 0 rfl) ?_
    refine r_get C0 hw (C := RX4) (T := TX4) (N := 3) (v := .ref (ad 31)) iw_X4_addend_X4 (lg_29 ad cI cJ X S2) rfl 1 (by decide) (C0.ts _ fw_X4_addend_15) rfl dX4_addend_8 ?_
    refine lv_iload_n C0.x C0.b dX4_addend_11 rfl (lv_at hl 1 rfl) ?_
    refine r_lald C0 hw (lg_31 ad cI cJ X S2) hV.1 dX4_addend_12 ?_
    have hV := hV.2
    refine lv_goto (tgt := 17) C0.x C0.b dX4_addend_13 (by decide) ?_
    exact r_lret C0 rfl hw hV dX4_addend_17
/-! StepBench$Shapes.divisor(I)J -/
abbrev rm_X4_divisor : Room := { frames := 1, cells := 0, slots := 0, locals := 20 }
set_option maxRecDepth 20000 in
theorem fw_X4_divisor_18 : Cond.fieldLink RX4 18 "StepBench$Shapes" "divisors" "[J" ∈ wsX4_divisor := by decide +kernel
set_option maxRecDepth 20000 in
theorem iw_X4_divisor_X4 : ∀ w ∈ wsX40, w ∈ wsX4_divisor := by decide +kernel
set_option maxRecDepth 20000 in
theorem hd_X4_divisor : yX4_divisor.cls = RX4 ∧ yX4_divisor.cls ≠ "java/lang/invoke/MethodHandle" ∧ yX4_divisor.cls ≠ "java/lang/invoke/VarHandle" ∧ (parseMethodDescriptor yX4_divisor.desc).map (fun d => d.parameters.length) = some 1 := by decide +kernel
def V_X4_divisor  (p0 : Int32) (S : SS) (post : Int64 → SS → Prop) : Prop :=
  (V_X4_has p0 S (fun (r1 : Int32) (S2 : SS) => ((r1 = 0 → (post (1 : Int64) S2)) ∧ (¬ r1 = 0 → (vp_in p0 41 ∧ (post (gA S2 19 p0.toNatClampNeg) S2))))))
set_option maxHeartbeats 4000000 in
set_option maxRecDepth 100000 in
theorem c_X4_divisor  {S : SS} {p0 : Int32} {post : Int64 → SS → Prop} (hV : V_X4_divisor  p0 S post) : ML l yX4_divisor wsX4_divisor rm_X4_divisor [.ref (ad 29), .int p0] D n0 ad cI cJ X S post := by
  refine Met.ofW (cc := cX4_divisor) (maxL := 2) (ret := (some .long)) (by decide) rfl ?_
  intro p e s m args below meth c s₁ B hml hv
  obtain ⟨rfl, hv⟩ := hv
  have C0 := Bd.mk B hml (atoms_spec (ws := wsX4_divisor) B.pre) (findClass_of_methodNamed B.named) hv.1
  have hw : Wh D n0 ad cI cJ X S s s.heap [] := ⟨hv.2.1, hv.2.2, va_S.rf⟩
  refine r_entry (Nat.le_of_ble_eq_true rfl) (fun ls hl => ?_)
  have hl : lv_has ls 2 [(0, .ref (ad 29)), (1, .int p0)] := hl
  unfold V_X4_divisor at hV
  refine lv_iload_n C0.x C0.b dX4_divisor_0 rfl (lv_at hl 1 rfl) ?_
  refine r_cS_i (As := [.int p0]) (rest := []) C0 hw (c_X4_has  hV) (va_cwS 1 C0.ts gX4_divisor_X4_has rfl rfl rfl hd_X4_has ⟨Nat.le_of_ble_eq_true rfl, Nat.le_of_ble_eq_true rfl⟩) rfl hl.1 rfl (Nat.le_of_ble_eq_true rfl) ⟨Nat.le_of_ble_eq_true rfl, Nat.le_of_ble_eq_true rfl⟩ dX4_divisor_1 (fun r1 S2 H locs hV hw => ?_)
  refine lv_if_eq (tgt := 16) C0.x C0.b dX4_divisor_4 (by decide) (fun c3 => ?_) (fun c3 => ?_)
  · have hV := hV.1 c3
    refine lv_lconst (v := 1) C0.x C0.b dX4_divisor_16 (by decide) ?_
    exact r_lret C0 rfl hw hV dX4_divisor_17
  · have hV := hV.2 c3
    refine lv_aload_n C0.x C0.b dX4_divisor_7 rfl (lv_at hl 0 rfl) ?_
    refine r_get C0 hw (C := RX4) (T := TX4) (N := 3) (v := .ref (ad 32)) iw_X4_divisor_X4 (lg_29 ad cI cJ X S2) rfl 2 (by decide) (C0.ts _ fw_X4_divisor_18) rfl dX4_divisor_8 ?_
    refine lv_iload_n C0.x C0.b dX4_divisor_11 rfl (lv_at hl 1 rfl) ?_
    refine r_lald C0 hw (lg_32 ad cI cJ X S2) hV.1 dX4_divisor_12 ?_
    have hV := hV.2
    refine lv_goto (tgt := 17) C0.x C0.b dX4_divisor_13 (by decide) ?_
    exact r_lret C0 rfl hw hV dX4_divisor_17
/-! StepBench.isNumber(J)Z -/
abbrev rm_X7_isNumber : Room := { frames := 0, cells := 0, slots := 0, locals := 0 }
set_option maxRecDepth 20000 in
theorem cw_X7_isNumber_372 : Cond.constantLong RX7 372 (-1000000000000000) ∈ wsX7_isNumber := by decide +kernel
set_option maxRecDepth 20000 in
theorem cw_X7_isNumber_374 : Cond.constantLong RX7 374 1000000000000000 ∈ wsX7_isNumber := by decide +kernel
set_option maxRecDepth 20000 in
theorem hd_X7_isNumber : yX7_isNumber.cls ≠ "java/lang/invoke/MethodHandle" ∧ yX7_isNumber.cls ≠ "java/lang/invoke/VarHandle" ∧ (parseMethodDescriptor yX7_isNumber.desc).map (fun d => d.parameters.length) = some 1 := by decide +kernel
def V_X7_isNumber  (p0 : Int64) (S : SS) (post : Int32 → SS → Prop) : Prop :=
  ((p0 < (-1000000000000000 : Int64) → (post (0 : Int32) S)) ∧ (¬ p0 < (-1000000000000000 : Int64) → (((1000000000000000 : Int64) < p0 → (post (0 : Int32) S)) ∧ (¬ (1000000000000000 : Int64) < p0 → (post (1 : Int32) S)))))
set_option maxHeartbeats 4000000 in
set_option maxRecDepth 100000 in
theorem c_X7_isNumber  {S : SS} {p0 : Int64} {post : Int32 → SS → Prop} (hV : V_X7_isNumber  p0 S post) : MI l yX7_isNumber wsX7_isNumber rm_X7_isNumber [.long p0] D n0 ad cI cJ X S post := by
  refine Met.ofW (cc := cX7_isNumber) (maxL := 2) (ret := (some .boolean)) (by decide) rfl ?_
  intro p e s m args below meth c s₁ B hml hv
  obtain ⟨rfl, hv⟩ := hv
  have C0 := Bd.mk B hml (atoms_spec (ws := wsX7_isNumber) B.pre) (findClass_of_methodNamed B.named) hv.1
  have hw : Wh D n0 ad cI cJ X S s s.heap [] := ⟨hv.2.1, hv.2.2, va_S.rf⟩
  refine r_entry (Nat.le_of_ble_eq_true rfl) (fun ls hl => ?_)
  have hl : lv_has ls 2 [(0, .long p0)] := hl
  unfold V_X7_isNumber at hV
  refine lv_lload_n C0.x C0.b dX7_isNumber_0 rfl (lv_at hl 0 rfl) ?_
  refine lv_ldc2 (v := -1000000000000000) C0.x C0.b C0.ow (C0.ts _ cw_X7_isNumber_372) dX7_isNumber_1 ?_
  refine r_lcmp C0 dX7_isNumber_4 ?_
  refine lv_if_lt (tgt := 20) C0.x C0.b dX7_isNumber_5 (by decide) (fun c1 => ?_) (fun c1 => ?_)
  · have hV := hV.1 ((lc_lt _ _).mp c1)
    refine lv_iconst (v := 0) C0.x C0.b dX7_isNumber_20 (by decide) ?_
    exact r_zret C0 rfl bz_0 hw hV dX7_isNumber_21
  · have hV := hV.2 (fun h => c1 ((lc_lt _ _).mpr h))
    refine lv_lload_n C0.x C0.b dX7_isNumber_8 rfl (lv_at hl 0 rfl) ?_
    refine lv_ldc2 (v := 1000000000000000) C0.x C0.b C0.ow (C0.ts _ cw_X7_isNumber_374) dX7_isNumber_9 ?_
    refine r_lcmp C0 dX7_isNumber_12 ?_
    refine lv_if_gt (tgt := 20) C0.x C0.b dX7_isNumber_13 (by decide) (fun c2 => ?_) (fun c2 => ?_)
    · have hV := hV.1 ((lc_gt _ _).mp c2)
      refine lv_iconst (v := 0) C0.x C0.b dX7_isNumber_20 (by decide) ?_
      exact r_zret C0 rfl bz_0 hw hV dX7_isNumber_21
    · have hV := hV.2 (fun h => c2 ((lc_gt _ _).mpr h))
      refine lv_iconst (v := 1) C0.x C0.b dX7_isNumber_16 (by decide) ?_
      refine lv_goto (tgt := 21) C0.x C0.b dX7_isNumber_17 (by decide) ?_
      exact r_zret C0 rfl bz_1 hw hV dX7_isNumber_21
/-! StepBench$Shapes.fits(I)Z -/
abbrev rm_X4_fits : Room := { frames := 1, cells := 0, slots := 0, locals := 21 }
set_option maxRecDepth 20000 in
theorem fw_X4_fits_9 : Cond.fieldLink RX4 9 "StepBench$Shapes" "factors" "[J" ∈ wsX4_fits := by decide +kernel
set_option maxRecDepth 20000 in
theorem iw_X4_fits_X4 : ∀ w ∈ wsX40, w ∈ wsX4_fits := by decide +kernel
set_option maxRecDepth 20000 in
theorem fw_X4_fits_15 : Cond.fieldLink RX4 15 "StepBench$Shapes" "addends" "[J" ∈ wsX4_fits := by decide +kernel
set_option maxRecDepth 20000 in
theorem fw_X4_fits_18 : Cond.fieldLink RX4 18 "StepBench$Shapes" "divisors" "[J" ∈ wsX4_fits := by decide +kernel
set_option maxRecDepth 20000 in
theorem ns_X4_fits_44 : Cond.static yX7_isNumber ∈ wsX4_fits := by decide +kernel
set_option maxRecDepth 20000 in
theorem ni_X4_fits_44 : Cond.initialized yX7_isNumber.cls ∈ wsX4_fits := by decide +kernel
set_option maxRecDepth 20000 in
theorem hd_X4_fits : yX4_fits.cls = RX4 ∧ yX4_fits.cls ≠ "java/lang/invoke/MethodHandle" ∧ yX4_fits.cls ≠ "java/lang/invoke/VarHandle" ∧ (parseMethodDescriptor yX4_fits.desc).map (fun d => d.parameters.length) = some 1 := by decide +kernel
def V_X4_fits  (p0 : Int32) (S : SS) (post : Int32 → SS → Prop) : Prop :=
  (V_X4_has p0 S (fun (r1 : Int32) (S2 : SS) => ((r1 = 0 → (post (0 : Int32) S2)) ∧ (¬ r1 = 0 → (vp_in p0 41 ∧ (V_X7_isNumber (gA S2 17 p0.toNatClampNeg) S2 (fun (r4 : Int32) (S5 : SS) => ((r4 = 0 → (post (0 : Int32) S5)) ∧ (¬ r4 = 0 → (vp_in p0 41 ∧ (V_X7_isNumber (gA S5 18 p0.toNatClampNeg) S5 (fun (r7 : Int32) (S8 : SS) => ((r7 = 0 → (post (0 : Int32) S8)) ∧ (¬ r7 = 0 → (vp_in p0 41 ∧ (V_X7_isNumber (gA S8 19 p0.toNatClampNeg) S8 (fun (r10 : Int32) (S11 : SS) => ((r10 = 0 → (post (0 : Int32) S11)) ∧ (¬ r10 = 0 → (post (1 : Int32) S11))))))))))))))))))))
set_option maxHeartbeats 4000000 in
set_option maxRecDepth 100000 in
theorem c_X4_fits  {S : SS} {p0 : Int32} {post : Int32 → SS → Prop} (hV : V_X4_fits  p0 S post) : MI l yX4_fits wsX4_fits rm_X4_fits [.ref (ad 29), .int p0] D n0 ad cI cJ X S post := by
  refine Met.ofW (cc := cX4_fits) (maxL := 2) (ret := (some .boolean)) (by decide) rfl ?_
  intro p e s m args below meth c s₁ B hml hv
  obtain ⟨rfl, hv⟩ := hv
  have C0 := Bd.mk B hml (atoms_spec (ws := wsX4_fits) B.pre) (findClass_of_methodNamed B.named) hv.1
  have hw : Wh D n0 ad cI cJ X S s s.heap [] := ⟨hv.2.1, hv.2.2, va_S.rf⟩
  refine r_entry (Nat.le_of_ble_eq_true rfl) (fun ls hl => ?_)
  have hl : lv_has ls 2 [(0, .ref (ad 29)), (1, .int p0)] := hl
  unfold V_X4_fits at hV
  refine lv_iload_n C0.x C0.b dX4_fits_0 rfl (lv_at hl 1 rfl) ?_
  refine r_cS_i (As := [.int p0]) (rest := []) C0 hw (c_X4_has  hV) (va_cwS 1 C0.ts gX4_fits_X4_has rfl rfl rfl hd_X4_has ⟨Nat.le_of_ble_eq_true rfl, Nat.le_of_ble_eq_true rfl⟩) rfl hl.1 rfl (Nat.le_of_ble_eq_true rfl) ⟨Nat.le_of_ble_eq_true rfl, Nat.le_of_ble_eq_true rfl⟩ dX4_fits_1 (fun r1 S2 H locs hV hw => ?_)
  refine lv_if_eq (tgt := 47) C0.x C0.b dX4_fits_4 (by decide) (fun c3 => ?_) (fun c3 => ?_)
  · have hV := hV.1 c3
    refine lv_iconst (v := 0) C0.x C0.b dX4_fits_47 (by decide) ?_
    exact r_zret C0 rfl bz_0 hw hV dX4_fits_48
  · have hV := hV.2 c3
    refine lv_aload_n C0.x C0.b dX4_fits_7 rfl (lv_at hl 0 rfl) ?_
    refine r_get C0 hw (C := RX4) (T := TX4) (N := 3) (v := .ref (ad 30)) iw_X4_fits_X4 (lg_29 ad cI cJ X S2) rfl 0 (by decide) (C0.ts _ fw_X4_fits_9) rfl dX4_fits_8 ?_
    refine lv_iload_n C0.x C0.b dX4_fits_11 rfl (lv_at hl 1 rfl) ?_
    refine r_lald C0 hw (lg_30 ad cI cJ X S2) hV.1 dX4_fits_12 ?_
    have hV := hV.2
    refine r_cN_i (As := [.long (gA S2 17 p0.toNatClampNeg)]) (rest := []) C0 hw (c_X7_isNumber  hV) ⟨va_cnB 1 C0.ts gX4_fits_X7_isNumber_n44 rfl rfl rfl (C0.en.2.2.1 ("StepBench$Shapes", 44, yX7_isNumber, "StepBench") (by simp [nestL])) (C0.ts _ ni_X4_fits_44) hd_X7_isNumber ⟨Nat.le_of_ble_eq_true rfl, Nat.le_of_ble_eq_true rfl⟩, C0.ts _ ns_X4_fits_44, trivial⟩ rfl hl.1 rfl (Nat.le_of_ble_eq_true rfl) ⟨Nat.le_of_ble_eq_true rfl, Nat.le_of_ble_eq_true rfl⟩ dX4_fits_13 (fun r4 S5 H locs hV hw => ?_)
    refine lv_if_eq (tgt := 47) C0.x C0.b dX4_fits_16 (by decide) (fun c6 => ?_) (fun c6 => ?_)
    · have hV := hV.1 c6
      refine lv_iconst (v := 0) C0.x C0.b dX4_fits_47 (by decide) ?_
      exact r_zret C0 rfl bz_0 hw hV dX4_fits_48
    · have hV := hV.2 c6
      refine lv_aload_n C0.x C0.b dX4_fits_19 rfl (lv_at hl 0 rfl) ?_
      refine r_get C0 hw (C := RX4) (T := TX4) (N := 3) (v := .ref (ad 31)) iw_X4_fits_X4 (lg_29 ad cI cJ X S5) rfl 1 (by decide) (C0.ts _ fw_X4_fits_15) rfl dX4_fits_20 ?_
      refine lv_iload_n C0.x C0.b dX4_fits_23 rfl (lv_at hl 1 rfl) ?_
      refine r_lald C0 hw (lg_31 ad cI cJ X S5) hV.1 dX4_fits_24 ?_
      have hV := hV.2
      refine r_cN_i (As := [.long (gA S5 18 p0.toNatClampNeg)]) (rest := []) C0 hw (c_X7_isNumber  hV) ⟨va_cnB 1 C0.ts gX4_fits_X7_isNumber_n44 rfl rfl rfl (C0.en.2.2.1 ("StepBench$Shapes", 44, yX7_isNumber, "StepBench") (by simp [nestL])) (C0.ts _ ni_X4_fits_44) hd_X7_isNumber ⟨Nat.le_of_ble_eq_true rfl, Nat.le_of_ble_eq_true rfl⟩, C0.ts _ ns_X4_fits_44, trivial⟩ rfl hl.1 rfl (Nat.le_of_ble_eq_true rfl) ⟨Nat.le_of_ble_eq_true rfl, Nat.le_of_ble_eq_true rfl⟩ dX4_fits_25 (fun r7 S8 H locs hV hw => ?_)
      refine lv_if_eq (tgt := 47) C0.x C0.b dX4_fits_28 (by decide) (fun c9 => ?_) (fun c9 => ?_)
      · have hV := hV.1 c9
        refine lv_iconst (v := 0) C0.x C0.b dX4_fits_47 (by decide) ?_
        exact r_zret C0 rfl bz_0 hw hV dX4_fits_48
      · have hV := hV.2 c9
        refine lv_aload_n C0.x C0.b dX4_fits_31 rfl (lv_at hl 0 rfl) ?_
        refine r_get C0 hw (C := RX4) (T := TX4) (N := 3) (v := .ref (ad 32)) iw_X4_fits_X4 (lg_29 ad cI cJ X S8) rfl 2 (by decide) (C0.ts _ fw_X4_fits_18) rfl dX4_fits_32 ?_
        refine lv_iload_n C0.x C0.b dX4_fits_35 rfl (lv_at hl 1 rfl) ?_
        refine r_lald C0 hw (lg_32 ad cI cJ X S8) hV.1 dX4_fits_36 ?_
        have hV := hV.2
        refine r_cN_i (As := [.long (gA S8 19 p0.toNatClampNeg)]) (rest := []) C0 hw (c_X7_isNumber  hV) ⟨va_cnB 1 C0.ts gX4_fits_X7_isNumber_n44 rfl rfl rfl (C0.en.2.2.1 ("StepBench$Shapes", 44, yX7_isNumber, "StepBench") (by simp [nestL])) (C0.ts _ ni_X4_fits_44) hd_X7_isNumber ⟨Nat.le_of_ble_eq_true rfl, Nat.le_of_ble_eq_true rfl⟩, C0.ts _ ns_X4_fits_44, trivial⟩ rfl hl.1 rfl (Nat.le_of_ble_eq_true rfl) ⟨Nat.le_of_ble_eq_true rfl, Nat.le_of_ble_eq_true rfl⟩ dX4_fits_37 (fun r10 S11 H locs hV hw => ?_)
        refine lv_if_eq (tgt := 47) C0.x C0.b dX4_fits_40 (by decide) (fun c12 => ?_) (fun c12 => ?_)
        · have hV := hV.1 c12
          refine lv_iconst (v := 0) C0.x C0.b dX4_fits_47 (by decide) ?_
          exact r_zret C0 rfl bz_0 hw hV dX4_fits_48
        · have hV := hV.2 c12
          refine lv_iconst (v := 1) C0.x C0.b dX4_fits_43 (by decide) ?_
          refine lv_goto (tgt := 48) C0.x C0.b dX4_fits_44 (by decide) ?_
          exact r_zret C0 rfl bz_1 hw hV dX4_fits_48
/-! StepBench$Shapes.reduce(I)V -/
abbrev rm_X4_reduce : Room := { frames := 2, cells := 0, slots := 0, locals := 54 }
set_option maxRecDepth 20000 in
theorem fw_X4_reduce_9 : Cond.fieldLink RX4 9 "StepBench$Shapes" "factors" "[J" ∈ wsX4_reduce := by decide +kernel
set_option maxRecDepth 20000 in
theorem iw_X4_reduce_X4 : ∀ w ∈ wsX40, w ∈ wsX4_reduce := by decide +kernel
set_option maxRecDepth 20000 in
theorem fw_X4_reduce_18 : Cond.fieldLink RX4 18 "StepBench$Shapes" "divisors" "[J" ∈ wsX4_reduce := by decide +kernel
set_option maxRecDepth 20000 in
theorem fw_X4_reduce_15 : Cond.fieldLink RX4 15 "StepBench$Shapes" "addends" "[J" ∈ wsX4_reduce := by decide +kernel
set_option maxRecDepth 20000 in
theorem ns_X4_reduce_48 : Cond.static yX7_commonDivisor ∈ wsX4_reduce := by decide +kernel
set_option maxRecDepth 20000 in
theorem ni_X4_reduce_48 : Cond.initialized yX7_commonDivisor.cls ∈ wsX4_reduce := by decide +kernel
set_option maxRecDepth 20000 in
theorem hd_X4_reduce : yX4_reduce.cls = RX4 ∧ yX4_reduce.cls ≠ "java/lang/invoke/MethodHandle" ∧ yX4_reduce.cls ≠ "java/lang/invoke/VarHandle" ∧ (parseMethodDescriptor yX4_reduce.desc).map (fun d => d.parameters.length) = some 1 := by decide +kernel
def V_X4_reduce  (p0 : Int32) (S : SS) (post : SS → Prop) : Prop :=
  (V_X4_has p0 S (fun (r1 : Int32) (S2 : SS) => ((r1 = 0 → (post S2)) ∧ (¬ r1 = 0 → (vp_in p0 41 ∧ (vp_in p0 41 ∧ (V_X7_commonDivisor (gA S2 17 p0.toNatClampNeg) (gA S2 19 p0.toNatClampNeg) S2 (fun (r4 : Int64) (S5 : SS) => (vp_in p0 41 ∧ (V_X7_commonDivisor r4 (gA S5 18 p0.toNatClampNeg) S5 (fun (r6 : Int64) (S7 : SS) => (vp_in p0 41 ∧ (¬ r6 = 0 ∧ (vp_in p0 41 ∧ ∀ S8 : SS, S8 = (sA S7 17 (vp_updL (gA S7 17) p0.toNatClampNeg ((gA S7 17 p0.toNatClampNeg) / r6))) → (vp_in p0 41 ∧ (¬ r6 = 0 ∧ (vp_in p0 41 ∧ ∀ S9 : SS, S9 = (sA S8 18 (vp_updL (gA S8 18) p0.toNatClampNeg ((gA S8 18 p0.toNatClampNeg) / r6))) → (vp_in p0 41 ∧ (¬ r6 = 0 ∧ (vp_in p0 41 ∧ ∀ S10 : SS, S10 = (sA S9 19 (vp_updL (gA S9 19) p0.toNatClampNeg ((gA S9 19 p0.toNatClampNeg) / r6))) → (post S10)))))))))))))))))))))
set_option maxHeartbeats 4000000 in
set_option maxRecDepth 100000 in
theorem c_X4_reduce  {S : SS} {p0 : Int32} {post : SS → Prop} (hV : V_X4_reduce  p0 S post) : MV l yX4_reduce wsX4_reduce rm_X4_reduce [.ref (ad 29), .int p0] D n0 ad cI cJ X S post := by
  refine Met.ofW (cc := cX4_reduce) (maxL := 4) (ret := none) (by decide) rfl ?_
  intro p e s m args below meth c s₁ B hml hv
  obtain ⟨rfl, hv⟩ := hv
  have C0 := Bd.mk B hml (atoms_spec (ws := wsX4_reduce) B.pre) (findClass_of_methodNamed B.named) hv.1
  have hw : Wh D n0 ad cI cJ X S s s.heap [] := ⟨hv.2.1, hv.2.2, va_S.rf⟩
  refine r_entry (Nat.le_of_ble_eq_true rfl) (fun ls hl => ?_)
  have hl : lv_has ls 4 [(0, .ref (ad 29)), (1, .int p0)] := hl
  unfold V_X4_reduce at hV
  refine lv_iload_n C0.x C0.b dX4_reduce_0 rfl (lv_at hl 1 rfl) ?_
  refine r_cS_i (As := [.int p0]) (rest := []) C0 hw (c_X4_has  hV) (va_cwS 1 C0.ts gX4_reduce_X4_has rfl rfl rfl hd_X4_has ⟨Nat.le_of_ble_eq_true rfl, Nat.le_of_ble_eq_true rfl⟩) rfl hl.1 rfl (Nat.le_of_ble_eq_true rfl) ⟨Nat.le_of_ble_eq_true rfl, Nat.le_of_ble_eq_true rfl⟩ dX4_reduce_1 (fun r1 S2 H locs hV hw => ?_)
  refine lv_if_eq (tgt := 62) C0.x C0.b dX4_reduce_4 (by decide) (fun c3 => ?_) (fun c3 => ?_)
  · have hV := hV.1 c3
    exact r_vret C0 rfl hw hV dX4_reduce_62
  · have hV := hV.2 c3
    refine lv_aload_n C0.x C0.b dX4_reduce_7 rfl (lv_at hl 0 rfl) ?_
    refine r_get C0 hw (C := RX4) (T := TX4) (N := 3) (v := .ref (ad 30)) iw_X4_reduce_X4 (lg_29 ad cI cJ X S2) rfl 0 (by decide) (C0.ts _ fw_X4_reduce_9) rfl dX4_reduce_8 ?_
    refine lv_iload_n C0.x C0.b dX4_reduce_11 rfl (lv_at hl 1 rfl) ?_
    refine r_lald C0 hw (lg_30 ad cI cJ X S2) hV.1 dX4_reduce_12 ?_
    have hV := hV.2
    refine lv_aload_n C0.x C0.b dX4_reduce_13 rfl (lv_at hl 0 rfl) ?_
    refine r_get C0 hw (C := RX4) (T := TX4) (N := 3) (v := .ref (ad 32)) iw_X4_reduce_X4 (lg_29 ad cI cJ X S2) rfl 2 (by decide) (C0.ts _ fw_X4_reduce_18) rfl dX4_reduce_14 ?_
    refine lv_iload_n C0.x C0.b dX4_reduce_17 rfl (lv_at hl 1 rfl) ?_
    refine r_lald C0 hw (lg_32 ad cI cJ X S2) hV.1 dX4_reduce_18 ?_
    have hV := hV.2
    refine r_cN_l (As := [.long (gA S2 17 p0.toNatClampNeg), .long (gA S2 19 p0.toNatClampNeg)]) (rest := []) C0 hw (c_X7_commonDivisor  hV) ⟨va_cnB 2 C0.ts gX4_reduce_X7_commonDivisor_n48 rfl rfl rfl (C0.en.2.2.1 ("StepBench$Shapes", 48, yX7_commonDivisor, "StepBench") (by simp [nestL])) (C0.ts _ ni_X4_reduce_48) hd_X7_commonDivisor ⟨Nat.le_of_ble_eq_true rfl, Nat.le_of_ble_eq_true rfl⟩, C0.ts _ ns_X4_reduce_48, trivial⟩ rfl hl.1 rfl (Nat.le_of_ble_eq_true rfl) ⟨Nat.le_of_ble_eq_true rfl, Nat.le_of_ble_eq_true rfl⟩ dX4_reduce_19 (fun r4 S5 H locs hV hw => ?_)
    refine lv_aload_n C0.x C0.b dX4_reduce_22 rfl (lv_at hl 0 rfl) ?_
    refine r_get C0 hw (C := RX4) (T := TX4) (N := 3) (v := .ref (ad 31)) iw_X4_reduce_X4 (lg_29 ad cI cJ X S5) rfl 1 (by decide) (C0.ts _ fw_X4_reduce_15) rfl dX4_reduce_23 ?_
    refine lv_iload_n C0.x C0.b dX4_reduce_26 rfl (lv_at hl 1 rfl) ?_
    refine r_lald C0 hw (lg_31 ad cI cJ X S5) hV.1 dX4_reduce_27 ?_
    have hV := hV.2
    refine r_cN_l (As := [.long r4, .long (gA S5 18 p0.toNatClampNeg)]) (rest := []) C0 hw (c_X7_commonDivisor  hV) ⟨va_cnB 2 C0.ts gX4_reduce_X7_commonDivisor_n48 rfl rfl rfl (C0.en.2.2.1 ("StepBench$Shapes", 48, yX7_commonDivisor, "StepBench") (by simp [nestL])) (C0.ts _ ni_X4_reduce_48) hd_X7_commonDivisor ⟨Nat.le_of_ble_eq_true rfl, Nat.le_of_ble_eq_true rfl⟩, C0.ts _ ns_X4_reduce_48, trivial⟩ rfl hl.1 rfl (Nat.le_of_ble_eq_true rfl) ⟨Nat.le_of_ble_eq_true rfl, Nat.le_of_ble_eq_true rfl⟩ dX4_reduce_28 (fun r6 S7 H locs hV hw => ?_)
    refine lv_lstore_n (lv' := [(2, .long r6), (0, .ref (ad 29)), (1, .int p0)]) C0.x C0.b dX4_reduce_31 rfl hl (by decide) rfl (fun ls hl => ?_)
    refine lv_aload_n C0.x C0.b dX4_reduce_32 rfl (lv_at hl 1 rfl) ?_
    refine r_get C0 hw (C := RX4) (T := TX4) (N := 3) (v := .ref (ad 30)) iw_X4_reduce_X4 (lg_29 ad cI cJ X S7) rfl 0 (by decide) (C0.ts _ fw_X4_reduce_9) rfl dX4_reduce_33 ?_
    refine lv_iload_n C0.x C0.b dX4_reduce_36 rfl (lv_at hl 2 rfl) ?_
    refine lv_dup2_11 C0.x C0.b dX4_reduce_37 rfl rfl ?_
    refine r_lald C0 hw (lg_30 ad cI cJ X S7) hV.1 dX4_reduce_38 ?_
    have hV := hV.2
    refine lv_lload_n C0.x C0.b dX4_reduce_39 rfl (lv_at hl 0 rfl) ?_
    refine lv_ldiv C0.x C0.b dX4_reduce_40 hV.1 ?_
    have hV := hV.2
    refine r_last C0 hw (lg_30 ad cI cJ X S7) hV.1 dX4_reduce_41 (S' := (sA S7 17 (vp_updL (gA S7 17) p0.toNatClampNeg ((gA S7 17 p0.toNatClampNeg) / r6)))) (ls_30 ad cI cJ X S7 (vp_updL (gA S7 17) p0.toNatClampNeg ((gA S7 17 p0.toNatClampNeg) / r6))) (fun S8 H locs eS8 hw => ?_)
    have hV := hV.2 S8 eS8
    refine lv_aload_n C0.x C0.b dX4_reduce_42 rfl (lv_at hl 1 rfl) ?_
    refine r_get C0 hw (C := RX4) (T := TX4) (N := 3) (v := .ref (ad 31)) iw_X4_reduce_X4 (lg_29 ad cI cJ X S8) rfl 1 (by decide) (C0.ts _ fw_X4_reduce_15) rfl dX4_reduce_43 ?_
    refine lv_iload_n C0.x C0.b dX4_reduce_46 rfl (lv_at hl 2 rfl) ?_
    refine lv_dup2_11 C0.x C0.b dX4_reduce_47 rfl rfl ?_
    refine r_lald C0 hw (lg_31 ad cI cJ X S8) hV.1 dX4_reduce_48 ?_
    have hV := hV.2
    refine lv_lload_n C0.x C0.b dX4_reduce_49 rfl (lv_at hl 0 rfl) ?_
    refine lv_ldiv C0.x C0.b dX4_reduce_50 hV.1 ?_
    have hV := hV.2
    refine r_last C0 hw (lg_31 ad cI cJ X S8) hV.1 dX4_reduce_51 (S' := (sA S8 18 (vp_updL (gA S8 18) p0.toNatClampNeg ((gA S8 18 p0.toNatClampNeg) / r6)))) (ls_31 ad cI cJ X S8 (vp_updL (gA S8 18) p0.toNatClampNeg ((gA S8 18 p0.toNatClampNeg) / r6))) (fun S9 H locs eS9 hw => ?_)
    have hV := hV.2 S9 eS9
    refine lv_aload_n C0.x C0.b dX4_reduce_52 rfl (lv_at hl 1 rfl) ?_
    refine r_get C0 hw (C := RX4) (T := TX4) (N := 3) (v := .ref (ad 32)) iw_X4_reduce_X4 (lg_29 ad cI cJ X S9) rfl 2 (by decide) (C0.ts _ fw_X4_reduce_18) rfl dX4_reduce_53 ?_
    refine lv_iload_n C0.x C0.b dX4_reduce_56 rfl (lv_at hl 2 rfl) ?_
    refine lv_dup2_11 C0.x C0.b dX4_reduce_57 rfl rfl ?_
    refine r_lald C0 hw (lg_32 ad cI cJ X S9) hV.1 dX4_reduce_58 ?_
    have hV := hV.2
    refine lv_lload_n C0.x C0.b dX4_reduce_59 rfl (lv_at hl 0 rfl) ?_
    refine lv_ldiv C0.x C0.b dX4_reduce_60 hV.1 ?_
    have hV := hV.2
    refine r_last C0 hw (lg_32 ad cI cJ X S9) hV.1 dX4_reduce_61 (S' := (sA S9 19 (vp_updL (gA S9 19) p0.toNatClampNeg ((gA S9 19 p0.toNatClampNeg) / r6)))) (ls_32 ad cI cJ X S9 (vp_updL (gA S9 19) p0.toNatClampNeg ((gA S9 19 p0.toNatClampNeg) / r6))) (fun S10 H locs eS10 hw => ?_)
    have hV := hV.2 S10 eS10
    exact r_vret C0 rfl hw hV dX4_reduce_62
/-! StepBench$Shares.has(I)Z -/
abbrev rm_X5_has : Room := { frames := 0, cells := 0, slots := 0, locals := 0 }
set_option maxRecDepth 20000 in
theorem fw_X5_has_9 : Cond.fieldLink RX5 9 "StepBench$Shares" "measure" "I" ∈ wsX5_has := by decide +kernel
set_option maxRecDepth 20000 in
theorem iw_X5_has_X5 : ∀ w ∈ wsX50, w ∈ wsX5_has := by decide +kernel
set_option maxRecDepth 20000 in
theorem hd_X5_has : yX5_has.cls = RX5 ∧ yX5_has.cls ≠ "java/lang/invoke/MethodHandle" ∧ yX5_has.cls ≠ "java/lang/invoke/VarHandle" ∧ (parseMethodDescriptor yX5_has.desc).map (fun d => d.parameters.length) = some 1 := by decide +kernel
def V_X5_has (mi ai bi di : Nat) (p0 : Int32) (S : SS) (post : Int32 → SS → Prop) : Prop :=
  ((p0 < 0 → (post (0 : Int32) S)) ∧ (¬ p0 < 0 → (((gI S mi) ≤ p0 → (post (0 : Int32) S)) ∧ (¬ (gI S mi) ≤ p0 → (((64 : Int32) ≤ p0 → (post (0 : Int32) S)) ∧ (¬ (64 : Int32) ≤ p0 → (post (1 : Int32) S)))))))
set_option maxHeartbeats 4000000 in
set_option maxRecDepth 100000 in
theorem c_X5_has {po pa pb pd mi ai bi di : Nat} (hO : lnH ad cI cJ X po pa pb pd mi ai bi di) {S : SS} {p0 : Int32} {post : Int32 → SS → Prop} (hV : V_X5_has mi ai bi di p0 S post) : MI l yX5_has wsX5_has rm_X5_has [.ref (ad po), .int p0] D n0 ad cI cJ X S post := by
  refine Met.ofW (cc := cX5_has) (maxL := 2) (ret := (some .boolean)) (by decide) rfl ?_
  intro p e s m args below meth c s₁ B hml hv
  obtain ⟨rfl, hv⟩ := hv
  have C0 := Bd.mk B hml (atoms_spec (ws := wsX5_has) B.pre) (findClass_of_methodNamed B.named) hv.1
  have hw : Wh D n0 ad cI cJ X S s s.heap [] := ⟨hv.2.1, hv.2.2, va_S.rf⟩
  refine r_entry (Nat.le_of_ble_eq_true rfl) (fun ls hl => ?_)
  have hl : lv_has ls 2 [(0, .ref (ad po)), (1, .int p0)] := hl
  unfold V_X5_has at hV
  refine lv_iload_n C0.x C0.b dX5_has_0 rfl (lv_at hl 1 rfl) ?_
  refine lv_if_lt (tgt := 22) C0.x C0.b dX5_has_1 (by decide) (fun c1 => ?_) (fun c1 => ?_)
  · have hV := hV.1 c1
    refine lv_iconst (v := 0) C0.x C0.b dX5_has_22 (by decide) ?_
    exact r_zret C0 rfl bz_0 hw hV dX5_has_23
  · have hV := hV.2 c1
    refine lv_iload_n C0.x C0.b dX5_has_4 rfl (lv_at hl 1 rfl) ?_
    refine lv_aload_n C0.x C0.b dX5_has_5 rfl (lv_at hl 0 rfl) ?_
    refine r_get C0 hw (C := RX5) (T := TX5) (N := 4) (v := .int (gI S mi)) iw_X5_has_X5 (hO S).1 rfl 0 (by decide) (C0.ts _ fw_X5_has_9) rfl dX5_has_6 ?_
    refine lv_icmp_ge (tgt := 22) C0.x C0.b dX5_has_9 (by decide) (fun c2 => ?_) (fun c2 => ?_)
    · have hV := hV.1 c2
      refine lv_iconst (v := 0) C0.x C0.b dX5_has_22 (by decide) ?_
      exact r_zret C0 rfl bz_0 hw hV dX5_has_23
    · have hV := hV.2 c2
      refine lv_iload_n C0.x C0.b dX5_has_12 rfl (lv_at hl 1 rfl) ?_
      refine lv_bipush (v := 64) C0.x C0.b dX5_has_13 (by decide) ?_
      refine lv_icmp_ge (tgt := 22) C0.x C0.b dX5_has_15 (by decide) (fun c3 => ?_) (fun c3 => ?_)
      · have hV := hV.1 c3
        refine lv_iconst (v := 0) C0.x C0.b dX5_has_22 (by decide) ?_
        exact r_zret C0 rfl bz_0 hw hV dX5_has_23
      · have hV := hV.2 c3
        refine lv_iconst (v := 1) C0.x C0.b dX5_has_18 (by decide) ?_
        refine lv_goto (tgt := 23) C0.x C0.b dX5_has_19 (by decide) ?_
        exact r_zret C0 rfl bz_1 hw hV dX5_has_23
/-! StepBench$Shares.a(I)J -/
abbrev rm_X5_a : Room := { frames := 1, cells := 0, slots := 0, locals := 21 }
set_option maxRecDepth 20000 in
theorem fw_X5_a_15 : Cond.fieldLink RX5 15 "StepBench$Shares" "as" "[J" ∈ wsX5_a := by decide +kernel
set_option maxRecDepth 20000 in
theorem iw_X5_a_X5 : ∀ w ∈ wsX50, w ∈ wsX5_a := by decide +kernel
set_option maxRecDepth 20000 in
theorem hd_X5_a : yX5_a.cls = RX5 ∧ yX5_a.cls ≠ "java/lang/invoke/MethodHandle" ∧ yX5_a.cls ≠ "java/lang/invoke/VarHandle" ∧ (parseMethodDescriptor yX5_a.desc).map (fun d => d.parameters.length) = some 1 := by decide +kernel
def V_X5_a (mi ai bi di : Nat) (p0 : Int32) (S : SS) (post : Int64 → SS → Prop) : Prop :=
  (V_X5_has mi ai bi di p0 S (fun (r1 : Int32) (S2 : SS) => ((r1 = 0 → (post (0 : Int64) S2)) ∧ (¬ r1 = 0 → (vp_in p0 64 ∧ (post (gA S2 ai p0.toNatClampNeg) S2))))))
set_option maxHeartbeats 4000000 in
set_option maxRecDepth 100000 in
theorem c_X5_a {po pa pb pd mi ai bi di : Nat} (hO : lnH ad cI cJ X po pa pb pd mi ai bi di) {S : SS} {p0 : Int32} {post : Int64 → SS → Prop} (hV : V_X5_a mi ai bi di p0 S post) : ML l yX5_a wsX5_a rm_X5_a [.ref (ad po), .int p0] D n0 ad cI cJ X S post := by
  refine Met.ofW (cc := cX5_a) (maxL := 2) (ret := (some .long)) (by decide) rfl ?_
  intro p e s m args below meth c s₁ B hml hv
  obtain ⟨rfl, hv⟩ := hv
  have C0 := Bd.mk B hml (atoms_spec (ws := wsX5_a) B.pre) (findClass_of_methodNamed B.named) hv.1
  have hw : Wh D n0 ad cI cJ X S s s.heap [] := ⟨hv.2.1, hv.2.2, va_S.rf⟩
  refine r_entry (Nat.le_of_ble_eq_true rfl) (fun ls hl => ?_)
  have hl : lv_has ls 2 [(0, .ref (ad po)), (1, .int p0)] := hl
  unfold V_X5_a at hV
  refine lv_aload_n C0.x C0.b dX5_a_0 rfl (lv_at hl 0 rfl) ?_
  refine lv_iload_n C0.x C0.b dX5_a_1 rfl (lv_at hl 1 rfl) ?_
  refine r_cV_i (As := [.int p0]) (rest := []) C0 hw (c_X5_has hO hV) (cwV 1 C0.ts gX5_a_X5_has rfl rfl rfl hd_X5_has ⟨Nat.le_of_ble_eq_true rfl, Nat.le_of_ble_eq_true rfl⟩) (hO S).1 rfl rfl hl.1 rfl (Nat.le_of_ble_eq_true rfl) ⟨Nat.le_of_ble_eq_true rfl, Nat.le_of_ble_eq_true rfl⟩ dX5_a_2 (fun r1 S2 H locs hV hw => ?_)
  refine lv_if_eq (tgt := 17) C0.x C0.b dX5_a_5 (by decide) (fun c3 => ?_) (fun c3 => ?_)
  · have hV := hV.1 c3
    refine lv_lconst (v := 0) C0.x C0.b dX5_a_17 (by decide) ?_
    exact r_lret C0 rfl hw hV dX5_a_18
  · have hV := hV.2 c3
    refine lv_aload_n C0.x C0.b dX5_a_8 rfl (lv_at hl 0 rfl) ?_
    refine r_get C0 hw (C := RX5) (T := TX5) (N := 4) (v := .ref (ad pa)) iw_X5_a_X5 (hO S2).1 rfl 1 (by decide) (C0.ts _ fw_X5_a_15) rfl dX5_a_9 ?_
    refine lv_iload_n C0.x C0.b dX5_a_12 rfl (lv_at hl 1 rfl) ?_
    refine r_lald C0 hw (hO S2).2.1 hV.1 dX5_a_13 ?_
    have hV := hV.2
    refine lv_goto (tgt := 18) C0.x C0.b dX5_a_14 (by decide) ?_
    exact r_lret C0 rfl hw hV dX5_a_18
/-! StepBench$Shares.b(I)J -/
abbrev rm_X5_b : Room := { frames := 1, cells := 0, slots := 0, locals := 21 }
set_option maxRecDepth 20000 in
theorem fw_X5_b_19 : Cond.fieldLink RX5 19 "StepBench$Shares" "bs" "[J" ∈ wsX5_b := by decide +kernel
set_option maxRecDepth 20000 in
theorem iw_X5_b_X5 : ∀ w ∈ wsX50, w ∈ wsX5_b := by decide +kernel
set_option maxRecDepth 20000 in
theorem hd_X5_b : yX5_b.cls = RX5 ∧ yX5_b.cls ≠ "java/lang/invoke/MethodHandle" ∧ yX5_b.cls ≠ "java/lang/invoke/VarHandle" ∧ (parseMethodDescriptor yX5_b.desc).map (fun d => d.parameters.length) = some 1 := by decide +kernel
def V_X5_b (mi ai bi di : Nat) (p0 : Int32) (S : SS) (post : Int64 → SS → Prop) : Prop :=
  (V_X5_has mi ai bi di p0 S (fun (r1 : Int32) (S2 : SS) => ((r1 = 0 → (post (0 : Int64) S2)) ∧ (¬ r1 = 0 → (vp_in p0 64 ∧ (post (gA S2 bi p0.toNatClampNeg) S2))))))
set_option maxHeartbeats 4000000 in
set_option maxRecDepth 100000 in
theorem c_X5_b {po pa pb pd mi ai bi di : Nat} (hO : lnH ad cI cJ X po pa pb pd mi ai bi di) {S : SS} {p0 : Int32} {post : Int64 → SS → Prop} (hV : V_X5_b mi ai bi di p0 S post) : ML l yX5_b wsX5_b rm_X5_b [.ref (ad po), .int p0] D n0 ad cI cJ X S post := by
  refine Met.ofW (cc := cX5_b) (maxL := 2) (ret := (some .long)) (by decide) rfl ?_
  intro p e s m args below meth c s₁ B hml hv
  obtain ⟨rfl, hv⟩ := hv
  have C0 := Bd.mk B hml (atoms_spec (ws := wsX5_b) B.pre) (findClass_of_methodNamed B.named) hv.1
  have hw : Wh D n0 ad cI cJ X S s s.heap [] := ⟨hv.2.1, hv.2.2, va_S.rf⟩
  refine r_entry (Nat.le_of_ble_eq_true rfl) (fun ls hl => ?_)
  have hl : lv_has ls 2 [(0, .ref (ad po)), (1, .int p0)] := hl
  unfold V_X5_b at hV
  refine lv_aload_n C0.x C0.b dX5_b_0 rfl (lv_at hl 0 rfl) ?_
  refine lv_iload_n C0.x C0.b dX5_b_1 rfl (lv_at hl 1 rfl) ?_
  refine r_cV_i (As := [.int p0]) (rest := []) C0 hw (c_X5_has hO hV) (cwV 1 C0.ts gX5_b_X5_has rfl rfl rfl hd_X5_has ⟨Nat.le_of_ble_eq_true rfl, Nat.le_of_ble_eq_true rfl⟩) (hO S).1 rfl rfl hl.1 rfl (Nat.le_of_ble_eq_true rfl) ⟨Nat.le_of_ble_eq_true rfl, Nat.le_of_ble_eq_true rfl⟩ dX5_b_2 (fun r1 S2 H locs hV hw => ?_)
  refine lv_if_eq (tgt := 17) C0.x C0.b dX5_b_5 (by decide) (fun c3 => ?_) (fun c3 => ?_)
  · have hV := hV.1 c3
    refine lv_lconst (v := 0) C0.x C0.b dX5_b_17 (by decide) ?_
    exact r_lret C0 rfl hw hV dX5_b_18
  · have hV := hV.2 c3
    refine lv_aload_n C0.x C0.b dX5_b_8 rfl (lv_at hl 0 rfl) ?_
    refine r_get C0 hw (C := RX5) (T := TX5) (N := 4) (v := .ref (ad pb)) iw_X5_b_X5 (hO S2).1 rfl 2 (by decide) (C0.ts _ fw_X5_b_19) rfl dX5_b_9 ?_
    refine lv_iload_n C0.x C0.b dX5_b_12 rfl (lv_at hl 1 rfl) ?_
    refine r_lald C0 hw (hO S2).2.2.1 hV.1 dX5_b_13 ?_
    have hV := hV.2
    refine lv_goto (tgt := 18) C0.x C0.b dX5_b_14 (by decide) ?_
    exact r_lret C0 rfl hw hV dX5_b_18
/-! StepBench$Shares.d(I)J -/
abbrev rm_X5_d : Room := { frames := 1, cells := 0, slots := 0, locals := 21 }
set_option maxRecDepth 20000 in
theorem fw_X5_d_22 : Cond.fieldLink RX5 22 "StepBench$Shares" "ds" "[J" ∈ wsX5_d := by decide +kernel
set_option maxRecDepth 20000 in
theorem iw_X5_d_X5 : ∀ w ∈ wsX50, w ∈ wsX5_d := by decide +kernel
set_option maxRecDepth 20000 in
theorem hd_X5_d : yX5_d.cls = RX5 ∧ yX5_d.cls ≠ "java/lang/invoke/MethodHandle" ∧ yX5_d.cls ≠ "java/lang/invoke/VarHandle" ∧ (parseMethodDescriptor yX5_d.desc).map (fun d => d.parameters.length) = some 1 := by decide +kernel
def V_X5_d (mi ai bi di : Nat) (p0 : Int32) (S : SS) (post : Int64 → SS → Prop) : Prop :=
  (V_X5_has mi ai bi di p0 S (fun (r1 : Int32) (S2 : SS) => ((r1 = 0 → (post (1 : Int64) S2)) ∧ (¬ r1 = 0 → (vp_in p0 64 ∧ (((gA S2 di p0.toNatClampNeg) ≤ (1 : Int64) → (post (1 : Int64) S2)) ∧ (¬ (gA S2 di p0.toNatClampNeg) ≤ (1 : Int64) → (vp_in p0 64 ∧ (post (gA S2 di p0.toNatClampNeg) S2)))))))))
set_option maxHeartbeats 4000000 in
set_option maxRecDepth 100000 in
theorem c_X5_d {po pa pb pd mi ai bi di : Nat} (hO : lnH ad cI cJ X po pa pb pd mi ai bi di) {S : SS} {p0 : Int32} {post : Int64 → SS → Prop} (hV : V_X5_d mi ai bi di p0 S post) : ML l yX5_d wsX5_d rm_X5_d [.ref (ad po), .int p0] D n0 ad cI cJ X S post := by
  refine Met.ofW (cc := cX5_d) (maxL := 2) (ret := (some .long)) (by decide) rfl ?_
  intro p e s m args below meth c s₁ B hml hv
  obtain ⟨rfl, hv⟩ := hv
  have C0 := Bd.mk B hml (atoms_spec (ws := wsX5_d) B.pre) (findClass_of_methodNamed B.named) hv.1
  have hw : Wh D n0 ad cI cJ X S s s.heap [] := ⟨hv.2.1, hv.2.2, va_S.rf⟩
  refine r_entry (Nat.le_of_ble_eq_true rfl) (fun ls hl => ?_)
  have hl : lv_has ls 2 [(0, .ref (ad po)), (1, .int p0)] := hl
  unfold V_X5_d at hV
  refine lv_aload_n C0.x C0.b dX5_d_0 rfl (lv_at hl 0 rfl) ?_
  refine lv_iload_n C0.x C0.b dX5_d_1 rfl (lv_at hl 1 rfl) ?_
  refine r_cV_i (As := [.int p0]) (rest := []) C0 hw (c_X5_has hO hV) (cwV 1 C0.ts gX5_d_X5_has rfl rfl rfl hd_X5_has ⟨Nat.le_of_ble_eq_true rfl, Nat.le_of_ble_eq_true rfl⟩) (hO S).1 rfl rfl hl.1 rfl (Nat.le_of_ble_eq_true rfl) ⟨Nat.le_of_ble_eq_true rfl, Nat.le_of_ble_eq_true rfl⟩ dX5_d_2 (fun r1 S2 H locs hV hw => ?_)
  refine lv_if_eq (tgt := 28) C0.x C0.b dX5_d_5 (by decide) (fun c3 => ?_) (fun c3 => ?_)
  · have hV := hV.1 c3
    refine lv_lconst (v := 1) C0.x C0.b dX5_d_28 (by decide) ?_
    exact r_lret C0 rfl hw hV dX5_d_29
  · have hV := hV.2 c3
    refine lv_aload_n C0.x C0.b dX5_d_8 rfl (lv_at hl 0 rfl) ?_
    refine r_get C0 hw (C := RX5) (T := TX5) (N := 4) (v := .ref (ad pd)) iw_X5_d_X5 (hO S2).1 rfl 3 (by decide) (C0.ts _ fw_X5_d_22) rfl dX5_d_9 ?_
    refine lv_iload_n C0.x C0.b dX5_d_12 rfl (lv_at hl 1 rfl) ?_
    refine r_lald C0 hw (hO S2).2.2.2.1 hV.1 dX5_d_13 ?_
    have hV := hV.2
    refine lv_lconst (v := 1) C0.x C0.b dX5_d_14 (by decide) ?_
    refine r_lcmp C0 dX5_d_15 ?_
    refine lv_if_le (tgt := 28) C0.x C0.b dX5_d_16 (by decide) (fun c4 => ?_) (fun c4 => ?_)
    · have hV := hV.1 ((lc_le _ _).mp c4)
      refine lv_lconst (v := 1) C0.x C0.b dX5_d_28 (by decide) ?_
      exact r_lret C0 rfl hw hV dX5_d_29
    · have hV := hV.2 (fun h => c4 ((lc_le _ _).mpr h))
      refine lv_aload_n C0.x C0.b dX5_d_19 rfl (lv_at hl 0 rfl) ?_
      refine r_get C0 hw (C := RX5) (T := TX5) (N := 4) (v := .ref (ad pd)) iw_X5_d_X5 (hO S2).1 rfl 3 (by decide) (C0.ts _ fw_X5_d_22) rfl dX5_d_20 ?_
      refine lv_iload_n C0.x C0.b dX5_d_23 rfl (lv_at hl 1 rfl) ?_
      refine r_lald C0 hw (hO S2).2.2.2.1 hV.1 dX5_d_24 ?_
      have hV := hV.2
      refine lv_goto (tgt := 29) C0.x C0.b dX5_d_25 (by decide) ?_
      exact r_lret C0 rfl hw hV dX5_d_29
/-! StepBench$Shapes.extend(ILStepBench$Shares;I)Z -/
abbrev rm_X4_extend : Room := { frames := 3, cells := 0, slots := 0, locals := 77 }
set_option maxRecDepth 20000 in
theorem fw_X4_extend_9 : Cond.fieldLink RX4 9 "StepBench$Shapes" "factors" "[J" ∈ wsX4_extend := by decide +kernel
set_option maxRecDepth 20000 in
theorem iw_X4_extend_X4 : ∀ w ∈ wsX40, w ∈ wsX4_extend := by decide +kernel
set_option maxRecDepth 20000 in
theorem fw_X4_extend_15 : Cond.fieldLink RX4 15 "StepBench$Shapes" "addends" "[J" ∈ wsX4_extend := by decide +kernel
set_option maxRecDepth 20000 in
theorem fw_X4_extend_18 : Cond.fieldLink RX4 18 "StepBench$Shapes" "divisors" "[J" ∈ wsX4_extend := by decide +kernel
set_option maxRecDepth 20000 in
theorem hd_X4_extend : yX4_extend.cls = RX4 ∧ yX4_extend.cls ≠ "java/lang/invoke/MethodHandle" ∧ yX4_extend.cls ≠ "java/lang/invoke/VarHandle" ∧ (parseMethodDescriptor yX4_extend.desc).map (fun d => d.parameters.length) = some 3 := by decide +kernel
def V_X4_extend (mi1 ai1 bi1 di1 : Nat) (p0 : Int32) (p2 : Int32) (S : SS) (post : Int32 → SS → Prop) : Prop :=
  (V_X4_has p0 S (fun (r1 : Int32) (S2 : SS) => ((r1 = 0 → (post (0 : Int32) S2)) ∧ (¬ r1 = 0 → (V_X4_has (p0 + (1 : Int32)) S2 (fun (r4 : Int32) (S5 : SS) => ((r4 = 0 → (post (0 : Int32) S5)) ∧ (¬ r4 = 0 → (V_X5_a mi1 ai1 bi1 di1 p2 S5 (fun (r7 : Int64) (S8 : SS) => (vp_in p0 41 ∧ (vp_in (p0 + (1 : Int32)) 41 ∧ ∀ S9 : SS, S9 = (sA S8 17 (vp_updL (gA S8 17) (p0 + (1 : Int32)).toNatClampNeg (r7 * (gA S8 17 p0.toNatClampNeg)))) → (V_X5_a mi1 ai1 bi1 di1 p2 S9 (fun (r10 : Int64) (S11 : SS) => (vp_in p0 41 ∧ (V_X5_b mi1 ai1 bi1 di1 p2 S11 (fun (r12 : Int64) (S13 : SS) => (vp_in p0 41 ∧ (vp_in (p0 + (1 : Int32)) 41 ∧ ∀ S14 : SS, S14 = (sA S13 18 (vp_updL (gA S13 18) (p0 + (1 : Int32)).toNatClampNeg ((r10 * (gA S11 18 p0.toNatClampNeg)) + (r12 * (gA S13 19 p0.toNatClampNeg))))) → (V_X5_d mi1 ai1 bi1 di1 p2 S14 (fun (r15 : Int64) (S16 : SS) => (vp_in p0 41 ∧ (vp_in (p0 + (1 : Int32)) 41 ∧ ∀ S17 : SS, S17 = (sA S16 19 (vp_updL (gA S16 19) (p0 + (1 : Int32)).toNatClampNeg (r15 * (gA S16 19 p0.toNatClampNeg)))) → (V_X4_fits (p0 + (1 : Int32)) S17 (fun (r18 : Int32) (S19 : SS) => ((r18 = 0 → (V_X4_reduce (p0 + (1 : Int32)) S19 (fun (S22 : SS) => (V_X4_fits (p0 + (1 : Int32)) S22 (fun (r23 : Int32) (S24 : SS) => (bz r23 ∧ post r23 S24)))))) ∧ (¬ r18 = 0 → (post (1 : Int32) S19))))))))))))))))))))))))))))
set_option maxHeartbeats 4000000 in
set_option maxRecDepth 100000 in
theorem c_X4_extend {po1 pa1 pb1 pd1 mi1 ai1 bi1 di1 : Nat} (hO1 : lnH ad cI cJ X po1 pa1 pb1 pd1 mi1 ai1 bi1 di1) {S : SS} {p0 : Int32} {p2 : Int32} {post : Int32 → SS → Prop} (hV : V_X4_extend mi1 ai1 bi1 di1 p0 p2 S post) : MI l yX4_extend wsX4_extend rm_X4_extend [.ref (ad 29), .int p0, .ref (ad po1), .int p2] D n0 ad cI cJ X S post := by
  refine Met.ofW (cc := cX4_extend) (maxL := 4) (ret := (some .boolean)) (by decide) rfl ?_
  intro p e s m args below meth c s₁ B hml hv
  obtain ⟨rfl, hv⟩ := hv
  have C0 := Bd.mk B hml (atoms_spec (ws := wsX4_extend) B.pre) (findClass_of_methodNamed B.named) hv.1
  have hw : Wh D n0 ad cI cJ X S s s.heap [] := ⟨hv.2.1, hv.2.2, va_S.rf⟩
  refine r_entry (Nat.le_of_ble_eq_true rfl) (fun ls hl => ?_)
  have hl : lv_has ls 4 [(0, .ref (ad 29)), (1, .int p0), (2, .ref (ad po1)), (3, .int p2)] := hl
  unfold V_X4_extend at hV
  refine lv_iload_n C0.x C0.b dX4_extend_0 rfl (lv_at hl 1 rfl) ?_
  refine r_cS_i (As := [.int p0]) (rest := []) C0 hw (c_X4_has  hV) (va_cwS 1 C0.ts gX4_extend_X4_has rfl rfl rfl hd_X4_has ⟨Nat.le_of_ble_eq_true rfl, Nat.le_of_ble_eq_true rfl⟩) rfl hl.1 rfl (Nat.le_of_ble_eq_true rfl) ⟨Nat.le_of_ble_eq_true rfl, Nat.le_of_ble_eq_true rfl⟩ dX4_extend_1 (fun r1 S2 H locs hV hw => ?_)
  refine lv_if_eq (tgt := 16) C0.x C0.b dX4_extend_4 (by decide) (fun c3 => ?_) (fun c3 => ?_)
  · have hV := hV.1 c3
    refine lv_iconst (v := 0) C0.x C0.b dX4_extend_16 (by decide) ?_
    exact r_zret C0 rfl bz_0 hw hV dX4_extend_17
  · have hV := hV.2 c3
    refine lv_iload_n C0.x C0.b dX4_extend_7 rfl (lv_at hl 1 rfl) ?_
    refine lv_iconst (v := 1) C0.x C0.b dX4_extend_8 (by decide) ?_
    refine lv_iadd C0.x C0.b dX4_extend_9 ?_
    refine r_cS_i (As := [.int (p0 + (1 : Int32))]) (rest := []) C0 hw (c_X4_has  hV) (va_cwS 1 C0.ts gX4_extend_X4_has rfl rfl rfl hd_X4_has ⟨Nat.le_of_ble_eq_true rfl, Nat.le_of_ble_eq_true rfl⟩) rfl hl.1 rfl (Nat.le_of_ble_eq_true rfl) ⟨Nat.le_of_ble_eq_true rfl, Nat.le_of_ble_eq_true rfl⟩ dX4_extend_10 (fun r4 S5 H locs hV hw => ?_)
    refine lv_if_ne (tgt := 18) C0.x C0.b dX4_extend_13 (by decide) (fun c6 => ?_) (fun c6 => ?_)
    · have hV := hV.2 c6
      refine lv_aload_n C0.x C0.b dX4_extend_18 rfl (lv_at hl 0 rfl) ?_
      refine r_get C0 hw (C := RX4) (T := TX4) (N := 3) (v := .ref (ad 30)) iw_X4_extend_X4 (lg_29 ad cI cJ X S5) rfl 0 (by decide) (C0.ts _ fw_X4_extend_9) rfl dX4_extend_19 ?_
      refine lv_iload_n C0.x C0.b dX4_extend_22 rfl (lv_at hl 1 rfl) ?_
      refine lv_iconst (v := 1) C0.x C0.b dX4_extend_23 (by decide) ?_
      refine lv_iadd C0.x C0.b dX4_extend_24 ?_
      refine lv_aload_n C0.x C0.b dX4_extend_25 rfl (lv_at hl 2 rfl) ?_
      refine lv_iload_n C0.x C0.b dX4_extend_26 rfl (lv_at hl 3 rfl) ?_
      refine r_cV_l (As := [.int p2]) (rest := [.int (p0 + (1 : Int32)), .ref (ad 30)]) C0 hw (c_X5_a hO1 hV) (cwV 1 C0.ts gX4_extend_X5_a rfl rfl rfl hd_X5_a ⟨Nat.le_of_ble_eq_true rfl, Nat.le_of_ble_eq_true rfl⟩) (hO1 S5).1 rfl rfl hl.1 rfl (Nat.le_of_ble_eq_true rfl) ⟨Nat.le_of_ble_eq_true rfl, Nat.le_of_ble_eq_true rfl⟩ dX4_extend_27 (fun r7 S8 H locs hV hw => ?_)
      refine lv_aload_n C0.x C0.b dX4_extend_30 rfl (lv_at hl 0 rfl) ?_
      refine r_get C0 hw (C := RX4) (T := TX4) (N := 3) (v := .ref (ad 30)) iw_X4_extend_X4 (lg_29 ad cI cJ X S8) rfl 0 (by decide) (C0.ts _ fw_X4_extend_9) rfl dX4_extend_31 ?_
      refine lv_iload_n C0.x C0.b dX4_extend_34 rfl (lv_at hl 1 rfl) ?_
      refine r_lald C0 hw (lg_30 ad cI cJ X S8) hV.1 dX4_extend_35 ?_
      have hV := hV.2
      refine lv_lmul C0.x C0.b dX4_extend_36 ?_
      refine r_last C0 hw (lg_30 ad cI cJ X S8) hV.1 dX4_extend_37 (S' := (sA S8 17 (vp_updL (gA S8 17) (p0 + (1 : Int32)).toNatClampNeg (r7 * (gA S8 17 p0.toNatClampNeg))))) (ls_30 ad cI cJ X S8 (vp_updL (gA S8 17) (p0 + (1 : Int32)).toNatClampNeg (r7 * (gA S8 17 p0.toNatClampNeg)))) (fun S9 H locs eS9 hw => ?_)
      have hV := hV.2 S9 eS9
      refine lv_aload_n C0.x C0.b dX4_extend_38 rfl (lv_at hl 0 rfl) ?_
      refine r_get C0 hw (C := RX4) (T := TX4) (N := 3) (v := .ref (ad 31)) iw_X4_extend_X4 (lg_29 ad cI cJ X S9) rfl 1 (by decide) (C0.ts _ fw_X4_extend_15) rfl dX4_extend_39 ?_
      refine lv_iload_n C0.x C0.b dX4_extend_42 rfl (lv_at hl 1 rfl) ?_
      refine lv_iconst (v := 1) C0.x C0.b dX4_extend_43 (by decide) ?_
      refine lv_iadd C0.x C0.b dX4_extend_44 ?_
      refine lv_aload_n C0.x C0.b dX4_extend_45 rfl (lv_at hl 2 rfl) ?_
      refine lv_iload_n C0.x C0.b dX4_extend_46 rfl (lv_at hl 3 rfl) ?_
      refine r_cV_l (As := [.int p2]) (rest := [.int (p0 + (1 : Int32)), .ref (ad 31)]) C0 hw (c_X5_a hO1 hV) (cwV 1 C0.ts gX4_extend_X5_a rfl rfl rfl hd_X5_a ⟨Nat.le_of_ble_eq_true rfl, Nat.le_of_ble_eq_true rfl⟩) (hO1 S9).1 rfl rfl hl.1 rfl (Nat.le_of_ble_eq_true rfl) ⟨Nat.le_of_ble_eq_true rfl, Nat.le_of_ble_eq_true rfl⟩ dX4_extend_47 (fun r10 S11 H locs hV hw => ?_)
      refine lv_aload_n C0.x C0.b dX4_extend_50 rfl (lv_at hl 0 rfl) ?_
      refine r_get C0 hw (C := RX4) (T := TX4) (N := 3) (v := .ref (ad 31)) iw_X4_extend_X4 (lg_29 ad cI cJ X S11) rfl 1 (by decide) (C0.ts _ fw_X4_extend_15) rfl dX4_extend_51 ?_
      refine lv_iload_n C0.x C0.b dX4_extend_54 rfl (lv_at hl 1 rfl) ?_
      refine r_lald C0 hw (lg_31 ad cI cJ X S11) hV.1 dX4_extend_55 ?_
      have hV := hV.2
      refine lv_lmul C0.x C0.b dX4_extend_56 ?_
      refine lv_aload_n C0.x C0.b dX4_extend_57 rfl (lv_at hl 2 rfl) ?_
      refine lv_iload_n C0.x C0.b dX4_extend_58 rfl (lv_at hl 3 rfl) ?_
      refine r_cV_l (As := [.int p2]) (rest := [.long (r10 * (gA S11 18 p0.toNatClampNeg)), .int (p0 + (1 : Int32)), .ref (ad 31)]) C0 hw (c_X5_b hO1 hV) (cwV 1 C0.ts gX4_extend_X5_b rfl rfl rfl hd_X5_b ⟨Nat.le_of_ble_eq_true rfl, Nat.le_of_ble_eq_true rfl⟩) (hO1 S11).1 rfl rfl hl.1 rfl (Nat.le_of_ble_eq_true rfl) ⟨Nat.le_of_ble_eq_true rfl, Nat.le_of_ble_eq_true rfl⟩ dX4_extend_59 (fun r12 S13 H locs hV hw => ?_)
      refine lv_aload_n C0.x C0.b dX4_extend_62 rfl (lv_at hl 0 rfl) ?_
      refine r_get C0 hw (C := RX4) (T := TX4) (N := 3) (v := .ref (ad 32)) iw_X4_extend_X4 (lg_29 ad cI cJ X S13) rfl 2 (by decide) (C0.ts _ fw_X4_extend_18) rfl dX4_extend_63 ?_
      refine lv_iload_n C0.x C0.b dX4_extend_66 rfl (lv_at hl 1 rfl) ?_
      refine r_lald C0 hw (lg_32 ad cI cJ X S13) hV.1 dX4_extend_67 ?_
      have hV := hV.2
      refine lv_lmul C0.x C0.b dX4_extend_68 ?_
      refine lv_ladd C0.x C0.b dX4_extend_69 ?_
      refine r_last C0 hw (lg_31 ad cI cJ X S13) hV.1 dX4_extend_70 (S' := (sA S13 18 (vp_updL (gA S13 18) (p0 + (1 : Int32)).toNatClampNeg ((r10 * (gA S11 18 p0.toNatClampNeg)) + (r12 * (gA S13 19 p0.toNatClampNeg)))))) (ls_31 ad cI cJ X S13 (vp_updL (gA S13 18) (p0 + (1 : Int32)).toNatClampNeg ((r10 * (gA S11 18 p0.toNatClampNeg)) + (r12 * (gA S13 19 p0.toNatClampNeg))))) (fun S14 H locs eS14 hw => ?_)
      have hV := hV.2 S14 eS14
      refine lv_aload_n C0.x C0.b dX4_extend_71 rfl (lv_at hl 0 rfl) ?_
      refine r_get C0 hw (C := RX4) (T := TX4) (N := 3) (v := .ref (ad 32)) iw_X4_extend_X4 (lg_29 ad cI cJ X S14) rfl 2 (by decide) (C0.ts _ fw_X4_extend_18) rfl dX4_extend_72 ?_
      refine lv_iload_n C0.x C0.b dX4_extend_75 rfl (lv_at hl 1 rfl) ?_
      refine lv_iconst (v := 1) C0.x C0.b dX4_extend_76 (by decide) ?_
      refine lv_iadd C0.x C0.b dX4_extend_77 ?_
      refine lv_aload_n C0.x C0.b dX4_extend_78 rfl (lv_at hl 2 rfl) ?_
      refine lv_iload_n C0.x C0.b dX4_extend_79 rfl (lv_at hl 3 rfl) ?_
      refine r_cV_l (As := [.int p2]) (rest := [.int (p0 + (1 : Int32)), .ref (ad 32)]) C0 hw (c_X5_d hO1 hV) (cwV 1 C0.ts gX4_extend_X5_d rfl rfl rfl hd_X5_d ⟨Nat.le_of_ble_eq_true rfl, Nat.le_of_ble_eq_true rfl⟩) (hO1 S14).1 rfl rfl hl.1 rfl (Nat.le_of_ble_eq_true rfl) ⟨Nat.le_of_ble_eq_true rfl, Nat.le_of_ble_eq_true rfl⟩ dX4_extend_80 (fun r15 S16 H locs hV hw => ?_)
      refine lv_aload_n C0.x C0.b dX4_extend_83 rfl (lv_at hl 0 rfl) ?_
      refine r_get C0 hw (C := RX4) (T := TX4) (N := 3) (v := .ref (ad 32)) iw_X4_extend_X4 (lg_29 ad cI cJ X S16) rfl 2 (by decide) (C0.ts _ fw_X4_extend_18) rfl dX4_extend_84 ?_
      refine lv_iload_n C0.x C0.b dX4_extend_87 rfl (lv_at hl 1 rfl) ?_
      refine r_lald C0 hw (lg_32 ad cI cJ X S16) hV.1 dX4_extend_88 ?_
      have hV := hV.2
      refine lv_lmul C0.x C0.b dX4_extend_89 ?_
      refine r_last C0 hw (lg_32 ad cI cJ X S16) hV.1 dX4_extend_90 (S' := (sA S16 19 (vp_updL (gA S16 19) (p0 + (1 : Int32)).toNatClampNeg (r15 * (gA S16 19 p0.toNatClampNeg))))) (ls_32 ad cI cJ X S16 (vp_updL (gA S16 19) (p0 + (1 : Int32)).toNatClampNeg (r15 * (gA S16 19 p0.toNatClampNeg)))) (fun S17 H locs eS17 hw => ?_)
      have hV := hV.2 S17 eS17
      refine lv_aload_n C0.x C0.b dX4_extend_91 rfl (lv_at hl 0 rfl) ?_
      refine lv_iload_n C0.x C0.b dX4_extend_92 rfl (lv_at hl 1 rfl) ?_
      refine lv_iconst (v := 1) C0.x C0.b dX4_extend_93 (by decide) ?_
      refine lv_iadd C0.x C0.b dX4_extend_94 ?_
      refine r_cV_i (As := [.int (p0 + (1 : Int32))]) (rest := []) C0 hw (c_X4_fits  hV) (cwV 1 C0.ts gX4_extend_X4_fits rfl rfl rfl hd_X4_fits ⟨Nat.le_of_ble_eq_true rfl, Nat.le_of_ble_eq_true rfl⟩) (lg_29 ad cI cJ X S17) rfl rfl hl.1 rfl (Nat.le_of_ble_eq_true rfl) ⟨Nat.le_of_ble_eq_true rfl, Nat.le_of_ble_eq_true rfl⟩ dX4_extend_95 (fun r18 S19 H locs hV hw => ?_)
      refine lv_if_eq (tgt := 103) C0.x C0.b dX4_extend_98 (by decide) (fun c20 => ?_) (fun c20 => ?_)
      · have hV := hV.1 c20
        refine lv_aload_n C0.x C0.b dX4_extend_103 rfl (lv_at hl 0 rfl) ?_
        refine lv_iload_n C0.x C0.b dX4_extend_104 rfl (lv_at hl 1 rfl) ?_
        refine lv_iconst (v := 1) C0.x C0.b dX4_extend_105 (by decide) ?_
        refine lv_iadd C0.x C0.b dX4_extend_106 ?_
        refine r_cV_v (As := [.int (p0 + (1 : Int32))]) (rest := []) C0 hw (c_X4_reduce  hV) (cwV 1 C0.ts gX4_extend_X4_reduce rfl rfl rfl hd_X4_reduce ⟨Nat.le_of_ble_eq_true rfl, Nat.le_of_ble_eq_true rfl⟩) (lg_29 ad cI cJ X S19) rfl rfl hl.1 rfl (Nat.le_of_ble_eq_true rfl) ⟨Nat.le_of_ble_eq_true rfl, Nat.le_of_ble_eq_true rfl⟩ dX4_extend_107 (fun S22 H locs hV hw => ?_)
        refine lv_aload_n C0.x C0.b dX4_extend_110 rfl (lv_at hl 0 rfl) ?_
        refine lv_iload_n C0.x C0.b dX4_extend_111 rfl (lv_at hl 1 rfl) ?_
        refine lv_iconst (v := 1) C0.x C0.b dX4_extend_112 (by decide) ?_
        refine lv_iadd C0.x C0.b dX4_extend_113 ?_
        refine r_cV_i (As := [.int (p0 + (1 : Int32))]) (rest := []) C0 hw (c_X4_fits  hV) (cwV 1 C0.ts gX4_extend_X4_fits rfl rfl rfl hd_X4_fits ⟨Nat.le_of_ble_eq_true rfl, Nat.le_of_ble_eq_true rfl⟩) (lg_29 ad cI cJ X S22) rfl rfl hl.1 rfl (Nat.le_of_ble_eq_true rfl) ⟨Nat.le_of_ble_eq_true rfl, Nat.le_of_ble_eq_true rfl⟩ dX4_extend_114 (fun r23 S24 H locs hV hw => ?_)
        exact r_zret C0 rfl hV.1 hw hV.2 dX4_extend_117
      · have hV := hV.2 c20
        refine lv_iconst (v := 1) C0.x C0.b dX4_extend_101 (by decide) ?_
        exact r_zret C0 rfl bz_1 hw hV dX4_extend_102
    · have hV := hV.1 c6
      refine lv_iconst (v := 0) C0.x C0.b dX4_extend_16 (by decide) ?_
      exact r_zret C0 rfl bz_0 hw hV dX4_extend_17
/-! StepBench$Shares.measure()I -/
abbrev rm_X5_measure : Room := { frames := 0, cells := 0, slots := 0, locals := 0 }
set_option maxRecDepth 20000 in
theorem fw_X5_measure_9 : Cond.fieldLink RX5 9 "StepBench$Shares" "measure" "I" ∈ wsX5_measure := by decide +kernel
set_option maxRecDepth 20000 in
theorem iw_X5_measure_X5 : ∀ w ∈ wsX50, w ∈ wsX5_measure := by decide +kernel
set_option maxRecDepth 20000 in
theorem hd_X5_measure : yX5_measure.cls = RX5 ∧ yX5_measure.cls ≠ "java/lang/invoke/MethodHandle" ∧ yX5_measure.cls ≠ "java/lang/invoke/VarHandle" ∧ (parseMethodDescriptor yX5_measure.desc).map (fun d => d.parameters.length) = some 0 := by decide +kernel
def V_X5_measure (mi ai bi di : Nat)  (S : SS) (post : Int32 → SS → Prop) : Prop :=
  (post (gI S mi) S)
set_option maxHeartbeats 4000000 in
set_option maxRecDepth 100000 in
theorem c_X5_measure {po pa pb pd mi ai bi di : Nat} (hO : lnH ad cI cJ X po pa pb pd mi ai bi di) {S : SS}  {post : Int32 → SS → Prop} (hV : V_X5_measure mi ai bi di  S post) : MI l yX5_measure wsX5_measure rm_X5_measure [.ref (ad po)] D n0 ad cI cJ X S post := by
  refine Met.ofW (cc := cX5_measure) (maxL := 1) (ret := (some .int)) (by decide) rfl ?_
  intro p e s m args below meth c s₁ B hml hv
  obtain ⟨rfl, hv⟩ := hv
  have C0 := Bd.mk B hml (atoms_spec (ws := wsX5_measure) B.pre) (findClass_of_methodNamed B.named) hv.1
  have hw : Wh D n0 ad cI cJ X S s s.heap [] := ⟨hv.2.1, hv.2.2, va_S.rf⟩
  refine r_entry (Nat.le_of_ble_eq_true rfl) (fun ls hl => ?_)
  have hl : lv_has ls 1 [(0, .ref (ad po))] := hl
  unfold V_X5_measure at hV
  refine lv_aload_n C0.x C0.b dX5_measure_0 rfl (lv_at hl 0 rfl) ?_
  refine r_get C0 hw (C := RX5) (T := TX5) (N := 4) (v := .int (gI S mi)) iw_X5_measure_X5 (hO S).1 rfl 0 (by decide) (C0.ts _ fw_X5_measure_9) rfl dX5_measure_1 ?_
  exact r_iret C0 rfl hw hV dX5_measure_4
/-! StepBench$Shares.begin(I)V -/
abbrev rm_X5_begin : Room := { frames := 1, cells := 0, slots := 0, locals := 24 }
set_option maxRecDepth 20000 in
theorem fw_X5_begin_9 : Cond.fieldLink RX5 9 "StepBench$Shares" "measure" "I" ∈ wsX5_begin := by decide +kernel
set_option maxRecDepth 20000 in
theorem iw_X5_begin_X5 : ∀ w ∈ wsX50, w ∈ wsX5_begin := by decide +kernel
set_option maxRecDepth 20000 in
theorem fw_X5_begin_15 : Cond.fieldLink RX5 15 "StepBench$Shares" "as" "[J" ∈ wsX5_begin := by decide +kernel
set_option maxRecDepth 20000 in
theorem fw_X5_begin_19 : Cond.fieldLink RX5 19 "StepBench$Shares" "bs" "[J" ∈ wsX5_begin := by decide +kernel
set_option maxRecDepth 20000 in
theorem fw_X5_begin_22 : Cond.fieldLink RX5 22 "StepBench$Shares" "ds" "[J" ∈ wsX5_begin := by decide +kernel
set_option maxRecDepth 20000 in
theorem hd_X5_begin : yX5_begin.cls = RX5 ∧ yX5_begin.cls ≠ "java/lang/invoke/MethodHandle" ∧ yX5_begin.cls ≠ "java/lang/invoke/VarHandle" ∧ (parseMethodDescriptor yX5_begin.desc).map (fun d => d.parameters.length) = some 1 := by decide +kernel
def V_X5_begin (mi ai bi di : Nat) (p0 : Int32) (S : SS) (post : SS → Prop) : Prop :=
  (∀ S1 : SS, S1 = (sI S mi p0) → (V_J7_fill_d0a16 ai 64 (1 : Int64) S1 (fun (S3 : SS) => (V_J7_fill_d0a16 bi 64 (0 : Int64) S3 (fun (S5 : SS) => (V_J7_fill_d0a16 di 64 (1 : Int64) S5 (fun (S7 : SS) => (post S7))))))))
set_option maxHeartbeats 4000000 in
set_option maxRecDepth 100000 in
theorem c_X5_begin {po pa pb pd mi ai bi di : Nat} (hO : lnH ad cI cJ X po pa pb pd mi ai bi di) {S : SS} {p0 : Int32} {post : SS → Prop} (hV : V_X5_begin mi ai bi di p0 S post) : MV l yX5_begin wsX5_begin rm_X5_begin [.ref (ad po), .int p0] D n0 ad cI cJ X S post := by
  refine Met.ofW (cc := cX5_begin) (maxL := 2) (ret := none) (by decide) rfl ?_
  intro p e s m args below meth c s₁ B hml hv
  obtain ⟨rfl, hv⟩ := hv
  have C0 := Bd.mk B hml (atoms_spec (ws := wsX5_begin) B.pre) (findClass_of_methodNamed B.named) hv.1
  have hw : Wh D n0 ad cI cJ X S s s.heap [] := ⟨hv.2.1, hv.2.2, va_S.rf⟩
  refine r_entry (Nat.le_of_ble_eq_true rfl) (fun ls hl => ?_)
  have hl : lv_has ls 2 [(0, .ref (ad po)), (1, .int p0)] := hl
  unfold V_X5_begin at hV
  refine lv_aload_n C0.x C0.b dX5_begin_0 rfl (lv_at hl 0 rfl) ?_
  refine lv_iload_n C0.x C0.b dX5_begin_1 rfl (lv_at hl 1 rfl) ?_
  refine r_put C0 hw (C := RX5) (T := TX5) (N := 4) (ty := .int) iw_X5_begin_X5 tyX5 tyX5_ok nmX5 (hO S).1 rfl 0 (by decide) (C0.ts _ fw_X5_begin_9) rfl (by decide +kernel) rfl rfl (Nat.le_of_ble_eq_true rfl) dX5_begin_2 (S' := (sI S mi p0)) ((hO S).2.2.2.2.1 p0) (fun S1 H locs eS1 hw => ?_)
  have hV := hV S1 eS1
  refine lv_aload_n C0.x C0.b dX5_begin_5 rfl (lv_at hl 0 rfl) ?_
  refine r_get C0 hw (C := RX5) (T := TX5) (N := 4) (v := .ref (ad pa)) iw_X5_begin_X5 (hO S1).1 rfl 1 (by decide) (C0.ts _ fw_X5_begin_15) rfl dX5_begin_6 ?_
  refine lv_lconst (v := 1) C0.x C0.b dX5_begin_9 (by decide) ?_
  refine r_cS_v (As := [.ref (ad pa), .long (1 : Int64)]) (rest := []) C0 hw (c_J7_fill_d0a16 (fun S => ⟨(hO S).2.1, (hO S).2.2.2.2.2.1⟩) hV) (va_cwS 2 C0.ts gX5_begin_J7_fill_d0a16 rfl rfl rfl hd_J7_fill_d0a16 ⟨Nat.le_of_ble_eq_true rfl, Nat.le_of_ble_eq_true rfl⟩) rfl hl.1 rfl (Nat.le_of_ble_eq_true rfl) ⟨Nat.le_of_ble_eq_true rfl, Nat.le_of_ble_eq_true rfl⟩ dX5_begin_10 (fun S3 H locs hV hw => ?_)
  refine lv_aload_n C0.x C0.b dX5_begin_13 rfl (lv_at hl 0 rfl) ?_
  refine r_get C0 hw (C := RX5) (T := TX5) (N := 4) (v := .ref (ad pb)) iw_X5_begin_X5 (hO S3).1 rfl 2 (by decide) (C0.ts _ fw_X5_begin_19) rfl dX5_begin_14 ?_
  refine lv_lconst (v := 0) C0.x C0.b dX5_begin_17 (by decide) ?_
  refine r_cS_v (As := [.ref (ad pb), .long (0 : Int64)]) (rest := []) C0 hw (c_J7_fill_d0a16 (fun S => ⟨(hO S).2.2.1, (hO S).2.2.2.2.2.2.1⟩) hV) (va_cwS 2 C0.ts gX5_begin_J7_fill_d0a16 rfl rfl rfl hd_J7_fill_d0a16 ⟨Nat.le_of_ble_eq_true rfl, Nat.le_of_ble_eq_true rfl⟩) rfl hl.1 rfl (Nat.le_of_ble_eq_true rfl) ⟨Nat.le_of_ble_eq_true rfl, Nat.le_of_ble_eq_true rfl⟩ dX5_begin_18 (fun S5 H locs hV hw => ?_)
  refine lv_aload_n C0.x C0.b dX5_begin_21 rfl (lv_at hl 0 rfl) ?_
  refine r_get C0 hw (C := RX5) (T := TX5) (N := 4) (v := .ref (ad pd)) iw_X5_begin_X5 (hO S5).1 rfl 3 (by decide) (C0.ts _ fw_X5_begin_22) rfl dX5_begin_22 ?_
  refine lv_lconst (v := 1) C0.x C0.b dX5_begin_25 (by decide) ?_
  refine r_cS_v (As := [.ref (ad pd), .long (1 : Int64)]) (rest := []) C0 hw (c_J7_fill_d0a16 (fun S => ⟨(hO S).2.2.2.1, (hO S).2.2.2.2.2.2.2⟩) hV) (va_cwS 2 C0.ts gX5_begin_J7_fill_d0a16 rfl rfl rfl hd_J7_fill_d0a16 ⟨Nat.le_of_ble_eq_true rfl, Nat.le_of_ble_eq_true rfl⟩) rfl hl.1 rfl (Nat.le_of_ble_eq_true rfl) ⟨Nat.le_of_ble_eq_true rfl, Nat.le_of_ble_eq_true rfl⟩ dX5_begin_26 (fun S7 H locs hV hw => ?_)
  exact r_vret C0 rfl hw hV dX5_begin_29
/-! StepBench$Shares.drop()V -/
abbrev rm_X5_drop : Room := { frames := 0, cells := 0, slots := 0, locals := 0 }
set_option maxRecDepth 20000 in
theorem fw_X5_drop_9 : Cond.fieldLink RX5 9 "StepBench$Shares" "measure" "I" ∈ wsX5_drop := by decide +kernel
set_option maxRecDepth 20000 in
theorem iw_X5_drop_X5 : ∀ w ∈ wsX50, w ∈ wsX5_drop := by decide +kernel
set_option maxRecDepth 20000 in
theorem hd_X5_drop : yX5_drop.cls = RX5 ∧ yX5_drop.cls ≠ "java/lang/invoke/MethodHandle" ∧ yX5_drop.cls ≠ "java/lang/invoke/VarHandle" ∧ (parseMethodDescriptor yX5_drop.desc).map (fun d => d.parameters.length) = some 0 := by decide +kernel
def V_X5_drop (mi ai bi di : Nat)  (S : SS) (post : SS → Prop) : Prop :=
  (∀ S1 : SS, S1 = (sI S mi (0 : Int32)) → (post S1))
set_option maxHeartbeats 4000000 in
set_option maxRecDepth 100000 in
theorem c_X5_drop {po pa pb pd mi ai bi di : Nat} (hO : lnH ad cI cJ X po pa pb pd mi ai bi di) {S : SS}  {post : SS → Prop} (hV : V_X5_drop mi ai bi di  S post) : MV l yX5_drop wsX5_drop rm_X5_drop [.ref (ad po)] D n0 ad cI cJ X S post := by
  refine Met.ofW (cc := cX5_drop) (maxL := 1) (ret := none) (by decide) rfl ?_
  intro p e s m args below meth c s₁ B hml hv
  obtain ⟨rfl, hv⟩ := hv
  have C0 := Bd.mk B hml (atoms_spec (ws := wsX5_drop) B.pre) (findClass_of_methodNamed B.named) hv.1
  have hw : Wh D n0 ad cI cJ X S s s.heap [] := ⟨hv.2.1, hv.2.2, va_S.rf⟩
  refine r_entry (Nat.le_of_ble_eq_true rfl) (fun ls hl => ?_)
  have hl : lv_has ls 1 [(0, .ref (ad po))] := hl
  unfold V_X5_drop at hV
  refine lv_aload_n C0.x C0.b dX5_drop_0 rfl (lv_at hl 0 rfl) ?_
  refine lv_iconst (v := 0) C0.x C0.b dX5_drop_1 (by decide) ?_
  refine r_put C0 hw (C := RX5) (T := TX5) (N := 4) (ty := .int) iw_X5_drop_X5 tyX5 tyX5_ok nmX5 (hO S).1 rfl 0 (by decide) (C0.ts _ fw_X5_drop_9) rfl (by decide +kernel) rfl rfl (Nat.le_of_ble_eq_true rfl) dX5_drop_2 (S' := (sI S mi (0 : Int32))) ((hO S).2.2.2.2.1 (0 : Int32)) (fun S1 H locs eS1 hw => ?_)
  have hV := hV S1 eS1
  exact r_vret C0 rfl hw hV dX5_drop_5
/-! StepBench$Shares.become(LStepBench$Shares;)V -/
abbrev rm_X5_become : Room := { frames := 1, cells := 0, slots := 0, locals := 60 }
set_option maxRecDepth 20000 in
theorem fw_X5_become_9 : Cond.fieldLink RX5 9 "StepBench$Shares" "measure" "I" ∈ wsX5_become := by decide +kernel
set_option maxRecDepth 20000 in
theorem iw_X5_become_X5 : ∀ w ∈ wsX50, w ∈ wsX5_become := by decide +kernel
set_option maxRecDepth 20000 in
theorem fw_X5_become_15 : Cond.fieldLink RX5 15 "StepBench$Shares" "as" "[J" ∈ wsX5_become := by decide +kernel
set_option maxRecDepth 20000 in
theorem ac0_X5_become_31 : Cond.methodLink RX5 31 arraycopyName ∈ wsX5_become := by decide +kernel
set_option maxRecDepth 20000 in
theorem ac1_X5_become_31 : Cond.native arraycopyName ∈ wsX5_become := by decide +kernel
set_option maxRecDepth 20000 in
theorem ac2_X5_become_31 : Cond.static arraycopyName ∈ wsX5_become := by decide +kernel
set_option maxRecDepth 20000 in
theorem ac3_X5_become_31 : Cond.initialized "java/lang/System" ∈ wsX5_become := by decide +kernel
set_option maxRecDepth 20000 in
theorem fw_X5_become_19 : Cond.fieldLink RX5 19 "StepBench$Shares" "bs" "[J" ∈ wsX5_become := by decide +kernel
set_option maxRecDepth 20000 in
theorem fw_X5_become_22 : Cond.fieldLink RX5 22 "StepBench$Shares" "ds" "[J" ∈ wsX5_become := by decide +kernel
set_option maxRecDepth 20000 in
theorem hd_X5_become : yX5_become.cls = RX5 ∧ yX5_become.cls ≠ "java/lang/invoke/MethodHandle" ∧ yX5_become.cls ≠ "java/lang/invoke/VarHandle" ∧ (parseMethodDescriptor yX5_become.desc).map (fun d => d.parameters.length) = some 1 := by decide +kernel
def V_X5_become (mi ai bi di : Nat) (mi0 ai0 bi0 di0 : Nat)  (S : SS) (post : SS → Prop) : Prop :=
  (∀ S1 : SS, S1 = (sI S mi (gI S mi0)) → (∀ S2 : SS, S2 = (sA S1 ai (va_cpy (gA S1 ai0) (gA S1 ai) 0 0 64)) → (∀ S3 : SS, S3 = (sA S2 bi (va_cpy (gA S2 bi0) (gA S2 bi) 0 0 64)) → (∀ S4 : SS, S4 = (sA S3 di (va_cpy (gA S3 di0) (gA S3 di) 0 0 64)) → (post S4)))))
set_option maxHeartbeats 4000000 in
set_option maxRecDepth 100000 in
theorem c_X5_become {po pa pb pd mi ai bi di : Nat} (hO : lnH ad cI cJ X po pa pb pd mi ai bi di) {po0 pa0 pb0 pd0 mi0 ai0 bi0 di0 : Nat} (hO0 : lnH ad cI cJ X po0 pa0 pb0 pd0 mi0 ai0 bi0 di0) {S : SS}  {post : SS → Prop} (hV : V_X5_become mi ai bi di mi0 ai0 bi0 di0  S post) : MV l yX5_become wsX5_become rm_X5_become [.ref (ad po), .ref (ad po0)] D n0 ad cI cJ X S post := by
  refine Met.ofW (cc := cX5_become) (maxL := 2) (ret := none) (by decide) rfl ?_
  intro p e s m args below meth c s₁ B hml hv
  obtain ⟨rfl, hv⟩ := hv
  have C0 := Bd.mk B hml (atoms_spec (ws := wsX5_become) B.pre) (findClass_of_methodNamed B.named) hv.1
  have hw : Wh D n0 ad cI cJ X S s s.heap [] := ⟨hv.2.1, hv.2.2, va_S.rf⟩
  refine r_entry (Nat.le_of_ble_eq_true rfl) (fun ls hl => ?_)
  have hl : lv_has ls 2 [(0, .ref (ad po)), (1, .ref (ad po0))] := hl
  unfold V_X5_become at hV
  refine lv_aload_n C0.x C0.b dX5_become_0 rfl (lv_at hl 0 rfl) ?_
  refine lv_aload_n C0.x C0.b dX5_become_1 rfl (lv_at hl 1 rfl) ?_
  refine r_get C0 hw (C := RX5) (T := TX5) (N := 4) (v := .int (gI S mi0)) iw_X5_become_X5 (hO0 S).1 rfl 0 (by decide) (C0.ts _ fw_X5_become_9) rfl dX5_become_2 ?_
  refine r_put C0 hw (C := RX5) (T := TX5) (N := 4) (ty := .int) iw_X5_become_X5 tyX5 tyX5_ok nmX5 (hO S).1 rfl 0 (by decide) (C0.ts _ fw_X5_become_9) rfl (by decide +kernel) rfl rfl (Nat.le_of_ble_eq_true rfl) dX5_become_5 (S' := (sI S mi (gI S mi0))) ((hO S).2.2.2.2.1 (gI S mi0)) (fun S1 H locs eS1 hw => ?_)
  have hV := hV S1 eS1
  refine lv_aload_n C0.x C0.b dX5_become_8 rfl (lv_at hl 1 rfl) ?_
  refine r_get C0 hw (C := RX5) (T := TX5) (N := 4) (v := .ref (ad pa0)) iw_X5_become_X5 (hO0 S1).1 rfl 1 (by decide) (C0.ts _ fw_X5_become_15) rfl dX5_become_9 ?_
  refine lv_iconst (v := 0) C0.x C0.b dX5_become_12 (by decide) ?_
  refine lv_aload_n C0.x C0.b dX5_become_13 rfl (lv_at hl 0 rfl) ?_
  refine r_get C0 hw (C := RX5) (T := TX5) (N := 4) (v := .ref (ad pa)) iw_X5_become_X5 (hO S1).1 rfl 1 (by decide) (C0.ts _ fw_X5_become_15) rfl dX5_become_14 ?_
  refine lv_iconst (v := 0) C0.x C0.b dX5_become_17 (by decide) ?_
  refine lv_bipush (v := 64) C0.x C0.b dX5_become_18 (by decide) ?_
  refine r_copy C0 hw (C0.ts _ ac0_X5_become_31) (C0.ts _ ac1_X5_become_31) (C0.ts _ ac2_X5_become_31) (C0.ts _ ac3_X5_become_31) (hO0 S1).2.1 (hO S1).2.1 hl.1 (Nat.le_of_ble_eq_true rfl) (by decide) dX5_become_20 (S' := (sA S1 ai (va_cpy (gA S1 ai0) (gA S1 ai) 0 0 64))) ((hO S1).2.2.2.2.2.1 (va_cpy (gA S1 ai0) (gA S1 ai) 0 0 64)) (fun S2 H locs eS2 hw => ?_)
  have hV := hV S2 eS2
  refine lv_aload_n C0.x C0.b dX5_become_23 rfl (lv_at hl 1 rfl) ?_
  refine r_get C0 hw (C := RX5) (T := TX5) (N := 4) (v := .ref (ad pb0)) iw_X5_become_X5 (hO0 S2).1 rfl 2 (by decide) (C0.ts _ fw_X5_become_19) rfl dX5_become_24 ?_
  refine lv_iconst (v := 0) C0.x C0.b dX5_become_27 (by decide) ?_
  refine lv_aload_n C0.x C0.b dX5_become_28 rfl (lv_at hl 0 rfl) ?_
  refine r_get C0 hw (C := RX5) (T := TX5) (N := 4) (v := .ref (ad pb)) iw_X5_become_X5 (hO S2).1 rfl 2 (by decide) (C0.ts _ fw_X5_become_19) rfl dX5_become_29 ?_
  refine lv_iconst (v := 0) C0.x C0.b dX5_become_32 (by decide) ?_
  refine lv_bipush (v := 64) C0.x C0.b dX5_become_33 (by decide) ?_
  refine r_copy C0 hw (C0.ts _ ac0_X5_become_31) (C0.ts _ ac1_X5_become_31) (C0.ts _ ac2_X5_become_31) (C0.ts _ ac3_X5_become_31) (hO0 S2).2.2.1 (hO S2).2.2.1 hl.1 (Nat.le_of_ble_eq_true rfl) (by decide) dX5_become_35 (S' := (sA S2 bi (va_cpy (gA S2 bi0) (gA S2 bi) 0 0 64))) ((hO S2).2.2.2.2.2.2.1 (va_cpy (gA S2 bi0) (gA S2 bi) 0 0 64)) (fun S3 H locs eS3 hw => ?_)
  have hV := hV S3 eS3
  refine lv_aload_n C0.x C0.b dX5_become_38 rfl (lv_at hl 1 rfl) ?_
  refine r_get C0 hw (C := RX5) (T := TX5) (N := 4) (v := .ref (ad pd0)) iw_X5_become_X5 (hO0 S3).1 rfl 3 (by decide) (C0.ts _ fw_X5_become_22) rfl dX5_become_39 ?_
  refine lv_iconst (v := 0) C0.x C0.b dX5_become_42 (by decide) ?_
  refine lv_aload_n C0.x C0.b dX5_become_43 rfl (lv_at hl 0 rfl) ?_
  refine r_get C0 hw (C := RX5) (T := TX5) (N := 4) (v := .ref (ad pd)) iw_X5_become_X5 (hO S3).1 rfl 3 (by decide) (C0.ts _ fw_X5_become_22) rfl dX5_become_44 ?_
  refine lv_iconst (v := 0) C0.x C0.b dX5_become_47 (by decide) ?_
  refine lv_bipush (v := 64) C0.x C0.b dX5_become_48 (by decide) ?_
  refine r_copy C0 hw (C0.ts _ ac0_X5_become_31) (C0.ts _ ac1_X5_become_31) (C0.ts _ ac2_X5_become_31) (C0.ts _ ac3_X5_become_31) (hO0 S3).2.2.2.1 (hO S3).2.2.2.1 hl.1 (Nat.le_of_ble_eq_true rfl) (by decide) dX5_become_50 (S' := (sA S3 di (va_cpy (gA S3 di0) (gA S3 di) 0 0 64))) ((hO S3).2.2.2.2.2.2.2 (va_cpy (gA S3 di0) (gA S3 di) 0 0 64)) (fun S4 H locs eS4 hw => ?_)
  have hV := hV S4 eS4
  exact r_vret C0 rfl hw hV dX5_become_53
/-! StepBench$Shares.read(II)J -/
abbrev rm_X5_read : Room := { frames := 1, cells := 0, slots := 0, locals := 21 }
set_option maxRecDepth 20000 in
theorem fw_X5_read_15 : Cond.fieldLink RX5 15 "StepBench$Shares" "as" "[J" ∈ wsX5_read := by decide +kernel
set_option maxRecDepth 20000 in
theorem iw_X5_read_X5 : ∀ w ∈ wsX50, w ∈ wsX5_read := by decide +kernel
set_option maxRecDepth 20000 in
theorem fw_X5_read_19 : Cond.fieldLink RX5 19 "StepBench$Shares" "bs" "[J" ∈ wsX5_read := by decide +kernel
set_option maxRecDepth 20000 in
theorem fw_X5_read_22 : Cond.fieldLink RX5 22 "StepBench$Shares" "ds" "[J" ∈ wsX5_read := by decide +kernel
set_option maxRecDepth 20000 in
theorem hd_X5_read : yX5_read.cls = RX5 ∧ yX5_read.cls ≠ "java/lang/invoke/MethodHandle" ∧ yX5_read.cls ≠ "java/lang/invoke/VarHandle" ∧ (parseMethodDescriptor yX5_read.desc).map (fun d => d.parameters.length) = some 2 := by decide +kernel
def V_X5_read (mi ai bi di : Nat) (p0 : Int32) (p1 : Int32) (S : SS) (post : Int64 → SS → Prop) : Prop :=
  (V_X5_has mi ai bi di p0 S (fun (r1 : Int32) (S2 : SS) => ((r1 = 0 → (post (0 : Int64) S2)) ∧ (¬ r1 = 0 → ((p1 = 0 → (vp_in p0 64 ∧ (post (gA S2 ai p0.toNatClampNeg) S2))) ∧ (¬ p1 = 0 → ((p1 = (1 : Int32) → (vp_in p0 64 ∧ (post (gA S2 bi p0.toNatClampNeg) S2))) ∧ (¬ p1 = (1 : Int32) → (vp_in p0 64 ∧ (post (gA S2 di p0.toNatClampNeg) S2))))))))))
set_option maxHeartbeats 4000000 in
set_option maxRecDepth 100000 in
theorem c_X5_read {po pa pb pd mi ai bi di : Nat} (hO : lnH ad cI cJ X po pa pb pd mi ai bi di) {S : SS} {p0 : Int32} {p1 : Int32} {post : Int64 → SS → Prop} (hV : V_X5_read mi ai bi di p0 p1 S post) : ML l yX5_read wsX5_read rm_X5_read [.ref (ad po), .int p0, .int p1] D n0 ad cI cJ X S post := by
  refine Met.ofW (cc := cX5_read) (maxL := 3) (ret := (some .long)) (by decide) rfl ?_
  intro p e s m args below meth c s₁ B hml hv
  obtain ⟨rfl, hv⟩ := hv
  have C0 := Bd.mk B hml (atoms_spec (ws := wsX5_read) B.pre) (findClass_of_methodNamed B.named) hv.1
  have hw : Wh D n0 ad cI cJ X S s s.heap [] := ⟨hv.2.1, hv.2.2, va_S.rf⟩
  refine r_entry (Nat.le_of_ble_eq_true rfl) (fun ls hl => ?_)
  have hl : lv_has ls 3 [(0, .ref (ad po)), (1, .int p0), (2, .int p1)] := hl
  unfold V_X5_read at hV
  refine lv_aload_n C0.x C0.b dX5_read_0 rfl (lv_at hl 0 rfl) ?_
  refine lv_iload_n C0.x C0.b dX5_read_1 rfl (lv_at hl 1 rfl) ?_
  refine r_cV_i (As := [.int p0]) (rest := []) C0 hw (c_X5_has hO hV) (cwV 1 C0.ts gX5_read_X5_has rfl rfl rfl hd_X5_has ⟨Nat.le_of_ble_eq_true rfl, Nat.le_of_ble_eq_true rfl⟩) (hO S).1 rfl rfl hl.1 rfl (Nat.le_of_ble_eq_true rfl) ⟨Nat.le_of_ble_eq_true rfl, Nat.le_of_ble_eq_true rfl⟩ dX5_read_2 (fun r1 S2 H locs hV hw => ?_)
  refine lv_if_ne (tgt := 10) C0.x C0.b dX5_read_5 (by decide) (fun c3 => ?_) (fun c3 => ?_)
  · have hV := hV.2 c3
    refine lv_iload_n C0.x C0.b dX5_read_10 rfl (lv_at hl 2 rfl) ?_
    refine lv_if_ne (tgt := 23) C0.x C0.b dX5_read_11 (by decide) (fun c4 => ?_) (fun c4 => ?_)
    · have hV := hV.2 c4
      refine lv_iload_n C0.x C0.b dX5_read_23 rfl (lv_at hl 2 rfl) ?_
      refine lv_iconst (v := 1) C0.x C0.b dX5_read_24 (by decide) ?_
      refine lv_icmp_ne (tgt := 37) C0.x C0.b dX5_read_25 (by decide) (fun c5 => ?_) (fun c5 => ?_)
      · have hV := hV.2 c5
        refine lv_aload_n C0.x C0.b dX5_read_37 rfl (lv_at hl 0 rfl) ?_
        refine r_get C0 hw (C := RX5) (T := TX5) (N := 4) (v := .ref (ad pd)) iw_X5_read_X5 (hO S2).1 rfl 3 (by decide) (C0.ts _ fw_X5_read_22) rfl dX5_read_38 ?_
        refine lv_iload_n C0.x C0.b dX5_read_41 rfl (lv_at hl 1 rfl) ?_
        refine r_lald C0 hw (hO S2).2.2.2.1 hV.1 dX5_read_42 ?_
        have hV := hV.2
        exact r_lret C0 rfl hw hV dX5_read_43
      · have hV := hV.1 c5
        refine lv_aload_n C0.x C0.b dX5_read_28 rfl (lv_at hl 0 rfl) ?_
        refine r_get C0 hw (C := RX5) (T := TX5) (N := 4) (v := .ref (ad pb)) iw_X5_read_X5 (hO S2).1 rfl 2 (by decide) (C0.ts _ fw_X5_read_19) rfl dX5_read_29 ?_
        refine lv_iload_n C0.x C0.b dX5_read_32 rfl (lv_at hl 1 rfl) ?_
        refine r_lald C0 hw (hO S2).2.2.1 hV.1 dX5_read_33 ?_
        have hV := hV.2
        refine lv_goto (tgt := 43) C0.x C0.b dX5_read_34 (by decide) ?_
        exact r_lret C0 rfl hw hV dX5_read_43
    · have hV := hV.1 c4
      refine lv_aload_n C0.x C0.b dX5_read_14 rfl (lv_at hl 0 rfl) ?_
      refine r_get C0 hw (C := RX5) (T := TX5) (N := 4) (v := .ref (ad pa)) iw_X5_read_X5 (hO S2).1 rfl 1 (by decide) (C0.ts _ fw_X5_read_15) rfl dX5_read_15 ?_
      refine lv_iload_n C0.x C0.b dX5_read_18 rfl (lv_at hl 1 rfl) ?_
      refine r_lald C0 hw (hO S2).2.1 hV.1 dX5_read_19 ?_
      have hV := hV.2
      refine lv_goto (tgt := 43) C0.x C0.b dX5_read_20 (by decide) ?_
      exact r_lret C0 rfl hw hV dX5_read_43
  · have hV := hV.1 c3
    refine lv_lconst (v := 0) C0.x C0.b dX5_read_8 (by decide) ?_
    exact r_lret C0 rfl hw hV dX5_read_9
/-! StepBench$Shares.write(IIJ)V -/
abbrev rm_X5_write : Room := { frames := 1, cells := 0, slots := 0, locals := 21 }
set_option maxRecDepth 20000 in
theorem fw_X5_write_15 : Cond.fieldLink RX5 15 "StepBench$Shares" "as" "[J" ∈ wsX5_write := by decide +kernel
set_option maxRecDepth 20000 in
theorem iw_X5_write_X5 : ∀ w ∈ wsX50, w ∈ wsX5_write := by decide +kernel
set_option maxRecDepth 20000 in
theorem fw_X5_write_19 : Cond.fieldLink RX5 19 "StepBench$Shares" "bs" "[J" ∈ wsX5_write := by decide +kernel
set_option maxRecDepth 20000 in
theorem fw_X5_write_22 : Cond.fieldLink RX5 22 "StepBench$Shares" "ds" "[J" ∈ wsX5_write := by decide +kernel
set_option maxRecDepth 20000 in
theorem hd_X5_write : yX5_write.cls = RX5 ∧ yX5_write.cls ≠ "java/lang/invoke/MethodHandle" ∧ yX5_write.cls ≠ "java/lang/invoke/VarHandle" ∧ (parseMethodDescriptor yX5_write.desc).map (fun d => d.parameters.length) = some 3 := by decide +kernel
def V_X5_write (mi ai bi di : Nat) (p0 : Int32) (p1 : Int32) (p2 : Int64) (S : SS) (post : SS → Prop) : Prop :=
  (V_X5_has mi ai bi di p0 S (fun (r1 : Int32) (S2 : SS) => ((r1 = 0 → (post S2)) ∧ (¬ r1 = 0 → ((p1 = 0 → (vp_in p0 64 ∧ ∀ S5 : SS, S5 = (sA S2 ai (vp_updL (gA S2 ai) p0.toNatClampNeg p2)) → (post S5))) ∧ (¬ p1 = 0 → ((p1 = (1 : Int32) → (vp_in p0 64 ∧ ∀ S7 : SS, S7 = (sA S2 bi (vp_updL (gA S2 bi) p0.toNatClampNeg p2)) → (post S7))) ∧ (¬ p1 = (1 : Int32) → (vp_in p0 64 ∧ ∀ S8 : SS, S8 = (sA S2 di (vp_updL (gA S2 di) p0.toNatClampNeg p2)) → (post S8))))))))))
set_option maxHeartbeats 4000000 in
set_option maxRecDepth 100000 in
theorem c_X5_write {po pa pb pd mi ai bi di : Nat} (hO : lnH ad cI cJ X po pa pb pd mi ai bi di) {S : SS} {p0 : Int32} {p1 : Int32} {p2 : Int64} {post : SS → Prop} (hV : V_X5_write mi ai bi di p0 p1 p2 S post) : MV l yX5_write wsX5_write rm_X5_write [.ref (ad po), .int p0, .int p1, .long p2] D n0 ad cI cJ X S post := by
  refine Met.ofW (cc := cX5_write) (maxL := 5) (ret := none) (by decide) rfl ?_
  intro p e s m args below meth c s₁ B hml hv
  obtain ⟨rfl, hv⟩ := hv
  have C0 := Bd.mk B hml (atoms_spec (ws := wsX5_write) B.pre) (findClass_of_methodNamed B.named) hv.1
  have hw : Wh D n0 ad cI cJ X S s s.heap [] := ⟨hv.2.1, hv.2.2, va_S.rf⟩
  refine r_entry (Nat.le_of_ble_eq_true rfl) (fun ls hl => ?_)
  have hl : lv_has ls 5 [(0, .ref (ad po)), (1, .int p0), (2, .int p1), (3, .long p2)] := hl
  unfold V_X5_write at hV
  refine lv_aload_n C0.x C0.b dX5_write_0 rfl (lv_at hl 0 rfl) ?_
  refine lv_iload_n C0.x C0.b dX5_write_1 rfl (lv_at hl 1 rfl) ?_
  refine r_cV_i (As := [.int p0]) (rest := []) C0 hw (c_X5_has hO hV) (cwV 1 C0.ts gX5_write_X5_has rfl rfl rfl hd_X5_has ⟨Nat.le_of_ble_eq_true rfl, Nat.le_of_ble_eq_true rfl⟩) (hO S).1 rfl rfl hl.1 rfl (Nat.le_of_ble_eq_true rfl) ⟨Nat.le_of_ble_eq_true rfl, Nat.le_of_ble_eq_true rfl⟩ dX5_write_2 (fun r1 S2 H locs hV hw => ?_)
  refine lv_if_ne (tgt := 9) C0.x C0.b dX5_write_5 (by decide) (fun c3 => ?_) (fun c3 => ?_)
  · have hV := hV.2 c3
    refine lv_iload_n C0.x C0.b dX5_write_9 rfl (lv_at hl 2 rfl) ?_
    refine lv_if_ne (tgt := 23) C0.x C0.b dX5_write_10 (by decide) (fun c4 => ?_) (fun c4 => ?_)
    · have hV := hV.2 c4
      refine lv_iload_n C0.x C0.b dX5_write_23 rfl (lv_at hl 2 rfl) ?_
      refine lv_iconst (v := 1) C0.x C0.b dX5_write_24 (by decide) ?_
      refine lv_icmp_ne (tgt := 38) C0.x C0.b dX5_write_25 (by decide) (fun c6 => ?_) (fun c6 => ?_)
      · have hV := hV.2 c6
        refine lv_aload_n C0.x C0.b dX5_write_38 rfl (lv_at hl 0 rfl) ?_
        refine r_get C0 hw (C := RX5) (T := TX5) (N := 4) (v := .ref (ad pd)) iw_X5_write_X5 (hO S2).1 rfl 3 (by decide) (C0.ts _ fw_X5_write_22) rfl dX5_write_39 ?_
        refine lv_iload_n C0.x C0.b dX5_write_42 rfl (lv_at hl 1 rfl) ?_
        refine lv_lload_n C0.x C0.b dX5_write_43 rfl (lv_at hl 3 rfl) ?_
        refine r_last C0 hw (hO S2).2.2.2.1 hV.1 dX5_write_44 (S' := (sA S2 di (vp_updL (gA S2 di) p0.toNatClampNeg p2))) ((hO S2).2.2.2.2.2.2.2 (vp_updL (gA S2 di) p0.toNatClampNeg p2)) (fun S8 H locs eS8 hw => ?_)
        have hV := hV.2 S8 eS8
        exact r_vret C0 rfl hw hV dX5_write_45
      · have hV := hV.1 c6
        refine lv_aload_n C0.x C0.b dX5_write_28 rfl (lv_at hl 0 rfl) ?_
        refine r_get C0 hw (C := RX5) (T := TX5) (N := 4) (v := .ref (ad pb)) iw_X5_write_X5 (hO S2).1 rfl 2 (by decide) (C0.ts _ fw_X5_write_19) rfl dX5_write_29 ?_
        refine lv_iload_n C0.x C0.b dX5_write_32 rfl (lv_at hl 1 rfl) ?_
        refine lv_lload_n C0.x C0.b dX5_write_33 rfl (lv_at hl 3 rfl) ?_
        refine r_last C0 hw (hO S2).2.2.1 hV.1 dX5_write_34 (S' := (sA S2 bi (vp_updL (gA S2 bi) p0.toNatClampNeg p2))) ((hO S2).2.2.2.2.2.2.1 (vp_updL (gA S2 bi) p0.toNatClampNeg p2)) (fun S7 H locs eS7 hw => ?_)
        have hV := hV.2 S7 eS7
        refine lv_goto (tgt := 45) C0.x C0.b dX5_write_35 (by decide) ?_
        exact r_vret C0 rfl hw hV dX5_write_45
    · have hV := hV.1 c4
      refine lv_aload_n C0.x C0.b dX5_write_13 rfl (lv_at hl 0 rfl) ?_
      refine r_get C0 hw (C := RX5) (T := TX5) (N := 4) (v := .ref (ad pa)) iw_X5_write_X5 (hO S2).1 rfl 1 (by decide) (C0.ts _ fw_X5_write_15) rfl dX5_write_14 ?_
      refine lv_iload_n C0.x C0.b dX5_write_17 rfl (lv_at hl 1 rfl) ?_
      refine lv_lload_n C0.x C0.b dX5_write_18 rfl (lv_at hl 3 rfl) ?_
      refine r_last C0 hw (hO S2).2.1 hV.1 dX5_write_19 (S' := (sA S2 ai (vp_updL (gA S2 ai) p0.toNatClampNeg p2))) ((hO S2).2.2.2.2.2.1 (vp_updL (gA S2 ai) p0.toNatClampNeg p2)) (fun S5 H locs eS5 hw => ?_)
      have hV := hV.2 S5 eS5
      refine lv_goto (tgt := 45) C0.x C0.b dX5_write_20 (by decide) ?_
      exact r_vret C0 rfl hw hV dX5_write_45
  · have hV := hV.1 c3
    exact r_vret C0 rfl hw hV dX5_write_8
/-! StepBench$Shares.isPart(J)Z -/
abbrev rm_X5_isPart : Room := { frames := 0, cells := 0, slots := 0, locals := 0 }
set_option maxRecDepth 20000 in
theorem cw_X5_isPart_62 : Cond.constantLong RX5 62 (-1000) ∈ wsX5_isPart := by decide +kernel
set_option maxRecDepth 20000 in
theorem cw_X5_isPart_64 : Cond.constantLong RX5 64 1000 ∈ wsX5_isPart := by decide +kernel
set_option maxRecDepth 20000 in
theorem hd_X5_isPart : yX5_isPart.cls ≠ "java/lang/invoke/MethodHandle" ∧ yX5_isPart.cls ≠ "java/lang/invoke/VarHandle" ∧ (parseMethodDescriptor yX5_isPart.desc).map (fun d => d.parameters.length) = some 1 := by decide +kernel
def V_X5_isPart  (p0 : Int64) (S : SS) (post : Int32 → SS → Prop) : Prop :=
  ((p0 < (-1000 : Int64) → (post (0 : Int32) S)) ∧ (¬ p0 < (-1000 : Int64) → (((1000 : Int64) < p0 → (post (0 : Int32) S)) ∧ (¬ (1000 : Int64) < p0 → (post (1 : Int32) S)))))
set_option maxHeartbeats 4000000 in
set_option maxRecDepth 100000 in
theorem c_X5_isPart  {S : SS} {p0 : Int64} {post : Int32 → SS → Prop} (hV : V_X5_isPart  p0 S post) : MI l yX5_isPart wsX5_isPart rm_X5_isPart [.long p0] D n0 ad cI cJ X S post := by
  refine Met.ofW (cc := cX5_isPart) (maxL := 2) (ret := (some .boolean)) (by decide) rfl ?_
  intro p e s m args below meth c s₁ B hml hv
  obtain ⟨rfl, hv⟩ := hv
  have C0 := Bd.mk B hml (atoms_spec (ws := wsX5_isPart) B.pre) (findClass_of_methodNamed B.named) hv.1
  have hw : Wh D n0 ad cI cJ X S s s.heap [] := ⟨hv.2.1, hv.2.2, va_S.rf⟩
  refine r_entry (Nat.le_of_ble_eq_true rfl) (fun ls hl => ?_)
  have hl : lv_has ls 2 [(0, .long p0)] := hl
  unfold V_X5_isPart at hV
  refine lv_lload_n C0.x C0.b dX5_isPart_0 rfl (lv_at hl 0 rfl) ?_
  refine lv_ldc2 (v := -1000) C0.x C0.b C0.ow (C0.ts _ cw_X5_isPart_62) dX5_isPart_1 ?_
  refine r_lcmp C0 dX5_isPart_4 ?_
  refine lv_if_lt (tgt := 20) C0.x C0.b dX5_isPart_5 (by decide) (fun c1 => ?_) (fun c1 => ?_)
  · have hV := hV.1 ((lc_lt _ _).mp c1)
    refine lv_iconst (v := 0) C0.x C0.b dX5_isPart_20 (by decide) ?_
    exact r_zret C0 rfl bz_0 hw hV dX5_isPart_21
  · have hV := hV.2 (fun h => c1 ((lc_lt _ _).mpr h))
    refine lv_lload_n C0.x C0.b dX5_isPart_8 rfl (lv_at hl 0 rfl) ?_
    refine lv_ldc2 (v := 1000) C0.x C0.b C0.ow (C0.ts _ cw_X5_isPart_64) dX5_isPart_9 ?_
    refine r_lcmp C0 dX5_isPart_12 ?_
    refine lv_if_gt (tgt := 20) C0.x C0.b dX5_isPart_13 (by decide) (fun c2 => ?_) (fun c2 => ?_)
    · have hV := hV.1 ((lc_gt _ _).mp c2)
      refine lv_iconst (v := 0) C0.x C0.b dX5_isPart_20 (by decide) ?_
      exact r_zret C0 rfl bz_0 hw hV dX5_isPart_21
    · have hV := hV.2 (fun h => c2 ((lc_gt _ _).mpr h))
      refine lv_iconst (v := 1) C0.x C0.b dX5_isPart_16 (by decide) ?_
      refine lv_goto (tgt := 21) C0.x C0.b dX5_isPart_17 (by decide) ?_
      exact r_zret C0 rfl bz_1 hw hV dX5_isPart_21
/-! StepBench$Shares.isSound(I)Z -/
abbrev rm_X5_isSound : Room := { frames := 2, cells := 0, slots := 0, locals := 43 }
set_option maxRecDepth 20000 in
theorem fw_X5_isSound_9 : Cond.fieldLink RX5 9 "StepBench$Shares" "measure" "I" ∈ wsX5_isSound := by decide +kernel
set_option maxRecDepth 20000 in
theorem iw_X5_isSound_X5 : ∀ w ∈ wsX50, w ∈ wsX5_isSound := by decide +kernel
set_option maxRecDepth 20000 in
theorem hd_X5_isSound : yX5_isSound.cls = RX5 ∧ yX5_isSound.cls ≠ "java/lang/invoke/MethodHandle" ∧ yX5_isSound.cls ≠ "java/lang/invoke/VarHandle" ∧ (parseMethodDescriptor yX5_isSound.desc).map (fun d => d.parameters.length) = some 1 := by decide +kernel
def V_X5_isSound (mi ai bi di : Nat) (p0 : Int32) (S : SS) (post : Int32 → SS → Prop) : Prop :=
  (V_X5_read mi ai bi di p0 (0 : Int32) S (fun (r1 : Int64) (S2 : SS) => (V_X5_isPart r1 S2 (fun (r3 : Int32) (S4 : SS) => ((r3 = 0 → (post (0 : Int32) S4)) ∧ (¬ r3 = 0 → (V_X5_read mi ai bi di p0 (1 : Int32) S4 (fun (r6 : Int64) (S7 : SS) => (V_X5_isPart r6 S7 (fun (r8 : Int32) (S9 : SS) => ((r8 = 0 → (post (0 : Int32) S9)) ∧ (¬ r8 = 0 → (V_X5_read mi ai bi di p0 (2 : Int32) S9 (fun (r11 : Int64) (S12 : SS) => (V_X5_isPart r11 S12 (fun (r13 : Int32) (S14 : SS) => ((r13 = 0 → (post (0 : Int32) S14)) ∧ (¬ r13 = 0 → (V_X5_read mi ai bi di p0 (2 : Int32) S14 (fun (r16 : Int64) (S17 : SS) => ((r16 < (1 : Int64) → (post (0 : Int32) S17)) ∧ (¬ r16 < (1 : Int64) → (V_X5_a mi ai bi di p0 S17 (fun (r19 : Int64) (S20 : SS) => (V_X5_b mi ai bi di p0 S20 (fun (r21 : Int64) (S22 : SS) => (V_X5_d mi ai bi di p0 S22 (fun (r23 : Int64) (S24 : SS) => (¬ r23 = 0 ∧ (((lrm ((r19 * p0.toInt64) + r21) r23) = (0 : Int64) → (V_X5_a mi ai bi di p0 S24 (fun (r26 : Int64) (S27 : SS) => (V_X5_d mi ai bi di p0 S27 (fun (r28 : Int64) (S29 : SS) => (¬ r28 = 0 ∧ (((lrm (r26 * (gI S27 mi).toInt64) r28) = (0 : Int64) → (post (1 : Int32) S29)) ∧ (¬ (lrm (r26 * (gI S27 mi).toInt64) r28) = (0 : Int64) → (post (0 : Int32) S29))))))))) ∧ (¬ (lrm ((r19 * p0.toInt64) + r21) r23) = (0 : Int64) → (post (0 : Int32) S24))))))))))))))))))))))))))))))))
set_option maxHeartbeats 4000000 in
set_option maxRecDepth 100000 in
theorem c_X5_isSound {po pa pb pd mi ai bi di : Nat} (hO : lnH ad cI cJ X po pa pb pd mi ai bi di) {S : SS} {p0 : Int32} {post : Int32 → SS → Prop} (hV : V_X5_isSound mi ai bi di p0 S post) : MI l yX5_isSound wsX5_isSound rm_X5_isSound [.ref (ad po), .int p0] D n0 ad cI cJ X S post := by
  refine Met.ofW (cc := cX5_isSound) (maxL := 2) (ret := (some .boolean)) (by decide) rfl ?_
  intro p e s m args below meth c s₁ B hml hv
  obtain ⟨rfl, hv⟩ := hv
  have C0 := Bd.mk B hml (atoms_spec (ws := wsX5_isSound) B.pre) (findClass_of_methodNamed B.named) hv.1
  have hw : Wh D n0 ad cI cJ X S s s.heap [] := ⟨hv.2.1, hv.2.2, va_S.rf⟩
  refine r_entry (Nat.le_of_ble_eq_true rfl) (fun ls hl => ?_)
  have hl : lv_has ls 2 [(0, .ref (ad po)), (1, .int p0)] := hl
  unfold V_X5_isSound at hV
  refine lv_aload_n C0.x C0.b dX5_isSound_0 rfl (lv_at hl 0 rfl) ?_
  refine lv_iload_n C0.x C0.b dX5_isSound_1 rfl (lv_at hl 1 rfl) ?_
  refine lv_iconst (v := 0) C0.x C0.b dX5_isSound_2 (by decide) ?_
  refine r_cV_l (As := [.int p0, .int (0 : Int32)]) (rest := []) C0 hw (c_X5_read hO hV) (cwV 2 C0.ts gX5_isSound_X5_read rfl rfl rfl hd_X5_read ⟨Nat.le_of_ble_eq_true rfl, Nat.le_of_ble_eq_true rfl⟩) (hO S).1 rfl rfl hl.1 rfl (Nat.le_of_ble_eq_true rfl) ⟨Nat.le_of_ble_eq_true rfl, Nat.le_of_ble_eq_true rfl⟩ dX5_isSound_3 (fun r1 S2 H locs hV hw => ?_)
  refine r_cS_i (As := [.long r1]) (rest := []) C0 hw (c_X5_isPart  hV) (va_cwS 1 C0.ts gX5_isSound_X5_isPart rfl rfl rfl hd_X5_isPart ⟨Nat.le_of_ble_eq_true rfl, Nat.le_of_ble_eq_true rfl⟩) rfl hl.1 rfl (Nat.le_of_ble_eq_true rfl) ⟨Nat.le_of_ble_eq_true rfl, Nat.le_of_ble_eq_true rfl⟩ dX5_isSound_6 (fun r3 S4 H locs hV hw => ?_)
  refine lv_if_eq (tgt := 98) C0.x C0.b dX5_isSound_9 (by decide) (fun c5 => ?_) (fun c5 => ?_)
  · have hV := hV.1 c5
    refine lv_iconst (v := 0) C0.x C0.b dX5_isSound_98 (by decide) ?_
    exact r_zret C0 rfl bz_0 hw hV dX5_isSound_99
  · have hV := hV.2 c5
    refine lv_aload_n C0.x C0.b dX5_isSound_12 rfl (lv_at hl 0 rfl) ?_
    refine lv_iload_n C0.x C0.b dX5_isSound_13 rfl (lv_at hl 1 rfl) ?_
    refine lv_iconst (v := 1) C0.x C0.b dX5_isSound_14 (by decide) ?_
    refine r_cV_l (As := [.int p0, .int (1 : Int32)]) (rest := []) C0 hw (c_X5_read hO hV) (cwV 2 C0.ts gX5_isSound_X5_read rfl rfl rfl hd_X5_read ⟨Nat.le_of_ble_eq_true rfl, Nat.le_of_ble_eq_true rfl⟩) (hO S4).1 rfl rfl hl.1 rfl (Nat.le_of_ble_eq_true rfl) ⟨Nat.le_of_ble_eq_true rfl, Nat.le_of_ble_eq_true rfl⟩ dX5_isSound_15 (fun r6 S7 H locs hV hw => ?_)
    refine r_cS_i (As := [.long r6]) (rest := []) C0 hw (c_X5_isPart  hV) (va_cwS 1 C0.ts gX5_isSound_X5_isPart rfl rfl rfl hd_X5_isPart ⟨Nat.le_of_ble_eq_true rfl, Nat.le_of_ble_eq_true rfl⟩) rfl hl.1 rfl (Nat.le_of_ble_eq_true rfl) ⟨Nat.le_of_ble_eq_true rfl, Nat.le_of_ble_eq_true rfl⟩ dX5_isSound_18 (fun r8 S9 H locs hV hw => ?_)
    refine lv_if_eq (tgt := 98) C0.x C0.b dX5_isSound_21 (by decide) (fun c10 => ?_) (fun c10 => ?_)
    · have hV := hV.1 c10
      refine lv_iconst (v := 0) C0.x C0.b dX5_isSound_98 (by decide) ?_
      exact r_zret C0 rfl bz_0 hw hV dX5_isSound_99
    · have hV := hV.2 c10
      refine lv_aload_n C0.x C0.b dX5_isSound_24 rfl (lv_at hl 0 rfl) ?_
      refine lv_iload_n C0.x C0.b dX5_isSound_25 rfl (lv_at hl 1 rfl) ?_
      refine lv_iconst (v := 2) C0.x C0.b dX5_isSound_26 (by decide) ?_
      refine r_cV_l (As := [.int p0, .int (2 : Int32)]) (rest := []) C0 hw (c_X5_read hO hV) (cwV 2 C0.ts gX5_isSound_X5_read rfl rfl rfl hd_X5_read ⟨Nat.le_of_ble_eq_true rfl, Nat.le_of_ble_eq_true rfl⟩) (hO S9).1 rfl rfl hl.1 rfl (Nat.le_of_ble_eq_true rfl) ⟨Nat.le_of_ble_eq_true rfl, Nat.le_of_ble_eq_true rfl⟩ dX5_isSound_27 (fun r11 S12 H locs hV hw => ?_)
      refine r_cS_i (As := [.long r11]) (rest := []) C0 hw (c_X5_isPart  hV) (va_cwS 1 C0.ts gX5_isSound_X5_isPart rfl rfl rfl hd_X5_isPart ⟨Nat.le_of_ble_eq_true rfl, Nat.le_of_ble_eq_true rfl⟩) rfl hl.1 rfl (Nat.le_of_ble_eq_true rfl) ⟨Nat.le_of_ble_eq_true rfl, Nat.le_of_ble_eq_true rfl⟩ dX5_isSound_30 (fun r13 S14 H locs hV hw => ?_)
      refine lv_if_eq (tgt := 98) C0.x C0.b dX5_isSound_33 (by decide) (fun c15 => ?_) (fun c15 => ?_)
      · have hV := hV.1 c15
        refine lv_iconst (v := 0) C0.x C0.b dX5_isSound_98 (by decide) ?_
        exact r_zret C0 rfl bz_0 hw hV dX5_isSound_99
      · have hV := hV.2 c15
        refine lv_aload_n C0.x C0.b dX5_isSound_36 rfl (lv_at hl 0 rfl) ?_
        refine lv_iload_n C0.x C0.b dX5_isSound_37 rfl (lv_at hl 1 rfl) ?_
        refine lv_iconst (v := 2) C0.x C0.b dX5_isSound_38 (by decide) ?_
        refine r_cV_l (As := [.int p0, .int (2 : Int32)]) (rest := []) C0 hw (c_X5_read hO hV) (cwV 2 C0.ts gX5_isSound_X5_read rfl rfl rfl hd_X5_read ⟨Nat.le_of_ble_eq_true rfl, Nat.le_of_ble_eq_true rfl⟩) (hO S14).1 rfl rfl hl.1 rfl (Nat.le_of_ble_eq_true rfl) ⟨Nat.le_of_ble_eq_true rfl, Nat.le_of_ble_eq_true rfl⟩ dX5_isSound_39 (fun r16 S17 H locs hV hw => ?_)
        refine lv_lconst (v := 1) C0.x C0.b dX5_isSound_42 (by decide) ?_
        refine r_lcmp C0 dX5_isSound_43 ?_
        refine lv_if_lt (tgt := 98) C0.x C0.b dX5_isSound_44 (by decide) (fun c18 => ?_) (fun c18 => ?_)
        · have hV := hV.1 ((lc_lt _ _).mp c18)
          refine lv_iconst (v := 0) C0.x C0.b dX5_isSound_98 (by decide) ?_
          exact r_zret C0 rfl bz_0 hw hV dX5_isSound_99
        · have hV := hV.2 (fun h => c18 ((lc_lt _ _).mpr h))
          refine lv_aload_n C0.x C0.b dX5_isSound_47 rfl (lv_at hl 0 rfl) ?_
          refine lv_iload_n C0.x C0.b dX5_isSound_48 rfl (lv_at hl 1 rfl) ?_
          refine r_cV_l (As := [.int p0]) (rest := []) C0 hw (c_X5_a hO hV) (cwV 1 C0.ts gX5_isSound_X5_a rfl rfl rfl hd_X5_a ⟨Nat.le_of_ble_eq_true rfl, Nat.le_of_ble_eq_true rfl⟩) (hO S17).1 rfl rfl hl.1 rfl (Nat.le_of_ble_eq_true rfl) ⟨Nat.le_of_ble_eq_true rfl, Nat.le_of_ble_eq_true rfl⟩ dX5_isSound_49 (fun r19 S20 H locs hV hw => ?_)
          refine lv_iload_n C0.x C0.b dX5_isSound_52 rfl (lv_at hl 1 rfl) ?_
          refine lv_i2l C0.x C0.b dX5_isSound_53 rfl ?_
          refine lv_lmul C0.x C0.b dX5_isSound_54 ?_
          refine lv_aload_n C0.x C0.b dX5_isSound_55 rfl (lv_at hl 0 rfl) ?_
          refine lv_iload_n C0.x C0.b dX5_isSound_56 rfl (lv_at hl 1 rfl) ?_
          refine r_cV_l (As := [.int p0]) (rest := [.long (r19 * p0.toInt64)]) C0 hw (c_X5_b hO hV) (cwV 1 C0.ts gX5_isSound_X5_b rfl rfl rfl hd_X5_b ⟨Nat.le_of_ble_eq_true rfl, Nat.le_of_ble_eq_true rfl⟩) (hO S20).1 rfl rfl hl.1 rfl (Nat.le_of_ble_eq_true rfl) ⟨Nat.le_of_ble_eq_true rfl, Nat.le_of_ble_eq_true rfl⟩ dX5_isSound_57 (fun r21 S22 H locs hV hw => ?_)
          refine lv_ladd C0.x C0.b dX5_isSound_60 ?_
          refine lv_aload_n C0.x C0.b dX5_isSound_61 rfl (lv_at hl 0 rfl) ?_
          refine lv_iload_n C0.x C0.b dX5_isSound_62 rfl (lv_at hl 1 rfl) ?_
          refine r_cV_l (As := [.int p0]) (rest := [.long ((r19 * p0.toInt64) + r21)]) C0 hw (c_X5_d hO hV) (cwV 1 C0.ts gX5_isSound_X5_d rfl rfl rfl hd_X5_d ⟨Nat.le_of_ble_eq_true rfl, Nat.le_of_ble_eq_true rfl⟩) (hO S22).1 rfl rfl hl.1 rfl (Nat.le_of_ble_eq_true rfl) ⟨Nat.le_of_ble_eq_true rfl, Nat.le_of_ble_eq_true rfl⟩ dX5_isSound_63 (fun r23 S24 H locs hV hw => ?_)
          refine lv_lrem C0.x C0.b dX5_isSound_66 hV.1 ?_
          have hV := hV.2
          refine lv_lconst (v := 0) C0.x C0.b dX5_isSound_67 (by decide) ?_
          refine r_lcmp C0 dX5_isSound_68 ?_
          refine lv_if_ne (tgt := 98) C0.x C0.b dX5_isSound_69 (by decide) (fun c25 => ?_) (fun c25 => ?_)
          · have hV := hV.2 (fun h => c25 ((lc_eq _ _).mpr h))
            refine lv_iconst (v := 0) C0.x C0.b dX5_isSound_98 (by decide) ?_
            exact r_zret C0 rfl bz_0 hw hV dX5_isSound_99
          · have hV := hV.1 ((lc_eq _ _).mp c25)
            refine lv_aload_n C0.x C0.b dX5_isSound_72 rfl (lv_at hl 0 rfl) ?_
            refine lv_iload_n C0.x C0.b dX5_isSound_73 rfl (lv_at hl 1 rfl) ?_
            refine r_cV_l (As := [.int p0]) (rest := []) C0 hw (c_X5_a hO hV) (cwV 1 C0.ts gX5_isSound_X5_a rfl rfl rfl hd_X5_a ⟨Nat.le_of_ble_eq_true rfl, Nat.le_of_ble_eq_true rfl⟩) (hO S24).1 rfl rfl hl.1 rfl (Nat.le_of_ble_eq_true rfl) ⟨Nat.le_of_ble_eq_true rfl, Nat.le_of_ble_eq_true rfl⟩ dX5_isSound_74 (fun r26 S27 H locs hV hw => ?_)
            refine lv_aload_n C0.x C0.b dX5_isSound_77 rfl (lv_at hl 0 rfl) ?_
            refine r_get C0 hw (C := RX5) (T := TX5) (N := 4) (v := .int (gI S27 mi)) iw_X5_isSound_X5 (hO S27).1 rfl 0 (by decide) (C0.ts _ fw_X5_isSound_9) rfl dX5_isSound_78 ?_
            refine lv_i2l C0.x C0.b dX5_isSound_81 rfl ?_
            refine lv_lmul C0.x C0.b dX5_isSound_82 ?_
            refine lv_aload_n C0.x C0.b dX5_isSound_83 rfl (lv_at hl 0 rfl) ?_
            refine lv_iload_n C0.x C0.b dX5_isSound_84 rfl (lv_at hl 1 rfl) ?_
            refine r_cV_l (As := [.int p0]) (rest := [.long (r26 * (gI S27 mi).toInt64)]) C0 hw (c_X5_d hO hV) (cwV 1 C0.ts gX5_isSound_X5_d rfl rfl rfl hd_X5_d ⟨Nat.le_of_ble_eq_true rfl, Nat.le_of_ble_eq_true rfl⟩) (hO S27).1 rfl rfl hl.1 rfl (Nat.le_of_ble_eq_true rfl) ⟨Nat.le_of_ble_eq_true rfl, Nat.le_of_ble_eq_true rfl⟩ dX5_isSound_85 (fun r28 S29 H locs hV hw => ?_)
            refine lv_lrem C0.x C0.b dX5_isSound_88 hV.1 ?_
            have hV := hV.2
            refine lv_lconst (v := 0) C0.x C0.b dX5_isSound_89 (by decide) ?_
            refine r_lcmp C0 dX5_isSound_90 ?_
            refine lv_if_ne (tgt := 98) C0.x C0.b dX5_isSound_91 (by decide) (fun c30 => ?_) (fun c30 => ?_)
            · have hV := hV.2 (fun h => c30 ((lc_eq _ _).mpr h))
              refine lv_iconst (v := 0) C0.x C0.b dX5_isSound_98 (by decide) ?_
              exact r_zret C0 rfl bz_0 hw hV dX5_isSound_99
            · have hV := hV.1 ((lc_eq _ _).mp c30)
              refine lv_iconst (v := 1) C0.x C0.b dX5_isSound_94 (by decide) ?_
              refine lv_goto (tgt := 99) C0.x C0.b dX5_isSound_95 (by decide) ?_
              exact r_zret C0 rfl bz_1 hw hV dX5_isSound_99
/-! StepBench$Shares.firstUnsound()I -/
abbrev rm_X5_firstUnsound : Room := { frames := 3, cells := 0, slots := 0, locals := 64 }
set_option maxRecDepth 20000 in
theorem fw_X5_firstUnsound_9 : Cond.fieldLink RX5 9 "StepBench$Shares" "measure" "I" ∈ wsX5_firstUnsound := by decide +kernel
set_option maxRecDepth 20000 in
theorem iw_X5_firstUnsound_X5 : ∀ w ∈ wsX50, w ∈ wsX5_firstUnsound := by decide +kernel
set_option maxRecDepth 20000 in
theorem hd_X5_firstUnsound : yX5_firstUnsound.cls = RX5 ∧ yX5_firstUnsound.cls ≠ "java/lang/invoke/MethodHandle" ∧ yX5_firstUnsound.cls ≠ "java/lang/invoke/VarHandle" ∧ (parseMethodDescriptor yX5_firstUnsound.desc).map (fun d => d.parameters.length) = some 0 := by decide +kernel
def V_X5_firstUnsound_2 (mi ai bi di : Nat)   (post : Int32 → SS → Prop) : Nat → Int32 → SS → Prop
  | 0, _, _ => False
  | n + 1, v1, S =>
    (((gI S mi) ≤ v1 → (post (-1 : Int32) S)) ∧ (¬ (gI S mi) ≤ v1 → (V_X5_isSound mi ai bi di v1 S (fun (r2 : Int32) (S3 : SS) => ((r2 = 0 → (post v1 S3)) ∧ (¬ r2 = 0 → (∀ x5 : Int32, x5 = v1 + 1 → (V_X5_firstUnsound_2 mi ai bi di   post n x5 S3))))))))
set_option maxHeartbeats 4000000 in
set_option maxRecDepth 100000 in
theorem lp_X5_firstUnsound_2 {po pa pb pd mi ai bi di : Nat} (hO : lnH ad cI cJ X po pa pb pd mi ai bi di)   (post : Int32 → SS → Prop) (C0 : Bd p s m meth c args cX5_firstUnsound 2 (some .int) wsX5_firstUnsound RX5 D n0 cI cJ) : ∀ (n : Nat) (v1 : Int32) (S : SS), V_X5_firstUnsound_2 mi ai bi di   post n v1 S → ∀ (H : Heap) (locs : List Loc), Wh D n0 ad cI cJ X S s H locs → ∀ ls : Array Slot, lv_has ls 2 [(0, .ref (ad po)), (1, .int v1)] → W p l e rm_X5_firstUnsound s m args below meth c H locs 0 0 (MQ below (va_Qi post (fun S' t => Wd D n0 ad cI cJ X S' t) (fr n0)) args s 0 0 (fr n0)) (F0 m 2 ls []) := by
  intro n
  induction n with
  | zero => intro v1 S hV; exact False.elim hV
  | succ n ih =>
    intro v1 S hV H locs hw ls hl
    rw [V_X5_firstUnsound_2] at hV
    refine lv_iload_n C0.x C0.b dX5_firstUnsound_2 rfl (lv_at hl 1 rfl) ?_
    refine lv_aload_n C0.x C0.b dX5_firstUnsound_3 rfl (lv_at hl 0 rfl) ?_
    refine r_get C0 hw (C := RX5) (T := TX5) (N := 4) (v := .int (gI S mi)) iw_X5_firstUnsound_X5 (hO S).1 rfl 0 (by decide) (C0.ts _ fw_X5_firstUnsound_9) rfl dX5_firstUnsound_4 ?_
    refine lv_icmp_ge (tgt := 26) C0.x C0.b dX5_firstUnsound_7 (by decide) (fun c1 => ?_) (fun c1 => ?_)
    · have hV := hV.1 c1
      refine lv_iconst (v := -1) C0.x C0.b dX5_firstUnsound_26 (by decide) ?_
      exact r_iret C0 rfl hw hV dX5_firstUnsound_27
    · have hV := hV.2 c1
      refine lv_aload_n C0.x C0.b dX5_firstUnsound_10 rfl (lv_at hl 0 rfl) ?_
      refine lv_iload_n C0.x C0.b dX5_firstUnsound_11 rfl (lv_at hl 1 rfl) ?_
      refine r_cV_i (As := [.int v1]) (rest := []) C0 hw (c_X5_isSound hO hV) (cwV 1 C0.ts gX5_firstUnsound_X5_isSound rfl rfl rfl hd_X5_isSound ⟨Nat.le_of_ble_eq_true rfl, Nat.le_of_ble_eq_true rfl⟩) (hO S).1 rfl rfl hl.1 rfl (Nat.le_of_ble_eq_true rfl) ⟨Nat.le_of_ble_eq_true rfl, Nat.le_of_ble_eq_true rfl⟩ dX5_firstUnsound_12 (fun r2 S3 H locs hV hw => ?_)
      refine lv_if_ne (tgt := 20) C0.x C0.b dX5_firstUnsound_15 (by decide) (fun c4 => ?_) (fun c4 => ?_)
      · have hV := hV.2 c4
        obtain ⟨x5, ex5⟩ : ∃ z : Int32, z = v1 + 1 := ⟨_, rfl⟩
        have hV := hV x5 ex5
        refine lv_iinc (v := x5) (lv' := [(1, .int x5), (0, .ref (ad po))]) C0.x C0.b dX5_firstUnsound_20 hl (k := 1) rfl (by rw [ex5]; rfl) (by decide) rfl (fun ls hl => ?_)
        refine lv_goto (tgt := 2) C0.x C0.b dX5_firstUnsound_23 (by decide) ?_
        exact ih _ _ hV _ _ hw _ (lv_sub hl [1, 0] rfl)
      · have hV := hV.1 c4
        refine lv_iload_n C0.x C0.b dX5_firstUnsound_18 rfl (lv_at hl 1 rfl) ?_
        exact r_iret C0 rfl hw hV dX5_firstUnsound_19
def V_X5_firstUnsound (mi ai bi di : Nat)  (S : SS) (post : Int32 → SS → Prop) : Prop :=
  (∃ n2 : Nat, V_X5_firstUnsound_2 mi ai bi di   post n2 (0 : Int32) S)
set_option maxHeartbeats 4000000 in
set_option maxRecDepth 100000 in
theorem c_X5_firstUnsound {po pa pb pd mi ai bi di : Nat} (hO : lnH ad cI cJ X po pa pb pd mi ai bi di) {S : SS}  {post : Int32 → SS → Prop} (hV : V_X5_firstUnsound mi ai bi di  S post) : MI l yX5_firstUnsound wsX5_firstUnsound rm_X5_firstUnsound [.ref (ad po)] D n0 ad cI cJ X S post := by
  refine Met.ofW (cc := cX5_firstUnsound) (maxL := 2) (ret := (some .int)) (by decide) rfl ?_
  intro p e s m args below meth c s₁ B hml hv
  obtain ⟨rfl, hv⟩ := hv
  have C0 := Bd.mk B hml (atoms_spec (ws := wsX5_firstUnsound) B.pre) (findClass_of_methodNamed B.named) hv.1
  have hw : Wh D n0 ad cI cJ X S s s.heap [] := ⟨hv.2.1, hv.2.2, va_S.rf⟩
  refine r_entry (Nat.le_of_ble_eq_true rfl) (fun ls hl => ?_)
  have hl : lv_has ls 2 [(0, .ref (ad po))] := hl
  unfold V_X5_firstUnsound at hV
  refine lv_iconst (v := 0) C0.x C0.b dX5_firstUnsound_0 (by decide) ?_
  refine lv_istore_n (lv' := [(1, .int (0 : Int32)), (0, .ref (ad po))]) C0.x C0.b dX5_firstUnsound_1 rfl hl (by decide) rfl (fun ls hl => ?_)
  obtain ⟨n2, hV⟩ := hV
  exact lp_X5_firstUnsound_2 hO  post C0  n2 _ _ hV _ _ hw _ (lv_sub hl [1, 0] rfl)
/-! StepBench$Shares.restOf(J)I -/
abbrev rm_X5_restOf : Room := { frames := 1, cells := 0, slots := 0, locals := 25 }
set_option maxRecDepth 20000 in
theorem fw_X5_restOf_9 : Cond.fieldLink RX5 9 "StepBench$Shares" "measure" "I" ∈ wsX5_restOf := by decide +kernel
set_option maxRecDepth 20000 in
theorem iw_X5_restOf_X5 : ∀ w ∈ wsX50, w ∈ wsX5_restOf := by decide +kernel
set_option maxRecDepth 20000 in
theorem hd_X5_restOf : yX5_restOf.cls = RX5 ∧ yX5_restOf.cls ≠ "java/lang/invoke/MethodHandle" ∧ yX5_restOf.cls ≠ "java/lang/invoke/VarHandle" ∧ (parseMethodDescriptor yX5_restOf.desc).map (fun d => d.parameters.length) = some 1 := by decide +kernel
def V_X5_restOf (mi ai bi di : Nat) (p0 : Int64) (S : SS) (post : Int32 → SS → Prop) : Prop :=
  (((1 : Int32) ≤ (gI S mi) → (V_J9_floorMod_f86c9 p0 ((gI S mi).toInt64) S (fun (r2 : Int64) (S3 : SS) => (post r2.toInt32 S3)))) ∧ (¬ (1 : Int32) ≤ (gI S mi) → (post (0 : Int32) S)))
set_option maxHeartbeats 4000000 in
set_option maxRecDepth 100000 in
theorem c_X5_restOf {po pa pb pd mi ai bi di : Nat} (hO : lnH ad cI cJ X po pa pb pd mi ai bi di) {S : SS} {p0 : Int64} {post : Int32 → SS → Prop} (hV : V_X5_restOf mi ai bi di p0 S post) : MI l yX5_restOf wsX5_restOf rm_X5_restOf [.ref (ad po), .long p0] D n0 ad cI cJ X S post := by
  refine Met.ofW (cc := cX5_restOf) (maxL := 3) (ret := (some .int)) (by decide) rfl ?_
  intro p e s m args below meth c s₁ B hml hv
  obtain ⟨rfl, hv⟩ := hv
  have C0 := Bd.mk B hml (atoms_spec (ws := wsX5_restOf) B.pre) (findClass_of_methodNamed B.named) hv.1
  have hw : Wh D n0 ad cI cJ X S s s.heap [] := ⟨hv.2.1, hv.2.2, va_S.rf⟩
  refine r_entry (Nat.le_of_ble_eq_true rfl) (fun ls hl => ?_)
  have hl : lv_has ls 3 [(0, .ref (ad po)), (1, .long p0)] := hl
  unfold V_X5_restOf at hV
  refine lv_aload_n C0.x C0.b dX5_restOf_0 rfl (lv_at hl 0 rfl) ?_
  refine r_get C0 hw (C := RX5) (T := TX5) (N := 4) (v := .int (gI S mi)) iw_X5_restOf_X5 (hO S).1 rfl 0 (by decide) (C0.ts _ fw_X5_restOf_9) rfl dX5_restOf_1 ?_
  refine lv_iconst (v := 1) C0.x C0.b dX5_restOf_4 (by decide) ?_
  refine lv_icmp_ge (tgt := 12) C0.x C0.b dX5_restOf_5 (by decide) (fun c1 => ?_) (fun c1 => ?_)
  · have hV := hV.1 c1
    refine lv_lload_n C0.x C0.b dX5_restOf_12 rfl (lv_at hl 1 rfl) ?_
    refine lv_aload_n C0.x C0.b dX5_restOf_13 rfl (lv_at hl 0 rfl) ?_
    refine r_get C0 hw (C := RX5) (T := TX5) (N := 4) (v := .int (gI S mi)) iw_X5_restOf_X5 (hO S).1 rfl 0 (by decide) (C0.ts _ fw_X5_restOf_9) rfl dX5_restOf_14 ?_
    refine lv_i2l C0.x C0.b dX5_restOf_17 rfl ?_
    refine r_cS_l (As := [.long p0, .long (gI S mi).toInt64]) (rest := []) C0 hw (c_J9_floorMod_f86c9  hV) (va_cwS 2 C0.ts gX5_restOf_J9_floorMod_f86c9 rfl rfl rfl hd_J9_floorMod_f86c9 ⟨Nat.le_of_ble_eq_true rfl, Nat.le_of_ble_eq_true rfl⟩) rfl hl.1 rfl (Nat.le_of_ble_eq_true rfl) ⟨Nat.le_of_ble_eq_true rfl, Nat.le_of_ble_eq_true rfl⟩ dX5_restOf_18 (fun r2 S3 H locs hV hw => ?_)
    refine lv_l2i C0.x C0.b dX5_restOf_21 rfl ?_
    exact r_iret C0 rfl hw hV dX5_restOf_22
  · have hV := hV.2 c1
    refine lv_iconst (v := 0) C0.x C0.b dX5_restOf_8 (by decide) ?_
    refine lv_goto (tgt := 22) C0.x C0.b dX5_restOf_9 (by decide) ?_
    exact r_iret C0 rfl hw hV dX5_restOf_22
/-! StepBench$Shares.after(J)J -/
abbrev rm_X5_after : Room := { frames := 2, cells := 0, slots := 0, locals := 47 }
set_option maxRecDepth 20000 in
theorem cw_X5_after_79 : Cond.constantLong RX5 79 3000000000000000 ∈ wsX5_after := by decide +kernel
set_option maxRecDepth 20000 in
theorem ns_X5_after_76 : Cond.static yX7_isNumber ∈ wsX5_after := by decide +kernel
set_option maxRecDepth 20000 in
theorem ni_X5_after_76 : Cond.initialized yX7_isNumber.cls ∈ wsX5_after := by decide +kernel
set_option maxRecDepth 20000 in
theorem hd_X5_after : yX5_after.cls = RX5 ∧ yX5_after.cls ≠ "java/lang/invoke/MethodHandle" ∧ yX5_after.cls ≠ "java/lang/invoke/VarHandle" ∧ (parseMethodDescriptor yX5_after.desc).map (fun d => d.parameters.length) = some 1 := by decide +kernel
def V_X5_after (mi ai bi di : Nat) (p0 : Int64) (S : SS) (post : Int64 → SS → Prop) : Prop :=
  (V_X5_restOf mi ai bi di p0 S (fun (r1 : Int32) (S2 : SS) => (V_X5_a mi ai bi di r1 S2 (fun (r3 : Int64) (S4 : SS) => (V_X5_b mi ai bi di r1 S4 (fun (r5 : Int64) (S6 : SS) => (V_X5_d mi ai bi di r1 S6 (fun (r7 : Int64) (S8 : SS) => (¬ r7 = 0 ∧ (∀ y9 : Int64, y9 = (((r3 * p0) + r5) / r7) → (V_X7_isNumber y9 S8 (fun (r10 : Int32) (S11 : SS) => ((r10 = 0 → (post (3000000000000000 : Int64) S11)) ∧ (¬ r10 = 0 → (post y9 S11)))))))))))))))
set_option maxHeartbeats 4000000 in
set_option maxRecDepth 100000 in
theorem c_X5_after {po pa pb pd mi ai bi di : Nat} (hO : lnH ad cI cJ X po pa pb pd mi ai bi di) {S : SS} {p0 : Int64} {post : Int64 → SS → Prop} (hV : V_X5_after mi ai bi di p0 S post) : ML l yX5_after wsX5_after rm_X5_after [.ref (ad po), .long p0] D n0 ad cI cJ X S post := by
  refine Met.ofW (cc := cX5_after) (maxL := 6) (ret := (some .long)) (by decide) rfl ?_
  intro p e s m args below meth c s₁ B hml hv
  obtain ⟨rfl, hv⟩ := hv
  have C0 := Bd.mk B hml (atoms_spec (ws := wsX5_after) B.pre) (findClass_of_methodNamed B.named) hv.1
  have hw : Wh D n0 ad cI cJ X S s s.heap [] := ⟨hv.2.1, hv.2.2, va_S.rf⟩
  refine r_entry (Nat.le_of_ble_eq_true rfl) (fun ls hl => ?_)
  have hl : lv_has ls 6 [(0, .ref (ad po)), (1, .long p0)] := hl
  unfold V_X5_after at hV
  refine lv_aload_n C0.x C0.b dX5_after_0 rfl (lv_at hl 0 rfl) ?_
  refine lv_lload_n C0.x C0.b dX5_after_1 rfl (lv_at hl 1 rfl) ?_
  refine r_cV_i (As := [.long p0]) (rest := []) C0 hw (c_X5_restOf hO hV) (cwV 1 C0.ts gX5_after_X5_restOf rfl rfl rfl hd_X5_restOf ⟨Nat.le_of_ble_eq_true rfl, Nat.le_of_ble_eq_true rfl⟩) (hO S).1 rfl rfl hl.1 rfl (Nat.le_of_ble_eq_true rfl) ⟨Nat.le_of_ble_eq_true rfl, Nat.le_of_ble_eq_true rfl⟩ dX5_after_2 (fun r1 S2 H locs hV hw => ?_)
  refine lv_istore_n (lv' := [(3, .int r1), (0, .ref (ad po)), (1, .long p0)]) C0.x C0.b dX5_after_5 rfl hl (by decide) rfl (fun ls hl => ?_)
  refine lv_aload_n C0.x C0.b dX5_after_6 rfl (lv_at hl 1 rfl) ?_
  refine lv_iload_n C0.x C0.b dX5_after_7 rfl (lv_at hl 0 rfl) ?_
  refine r_cV_l (As := [.int r1]) (rest := []) C0 hw (c_X5_a hO hV) (cwV 1 C0.ts gX5_after_X5_a rfl rfl rfl hd_X5_a ⟨Nat.le_of_ble_eq_true rfl, Nat.le_of_ble_eq_true rfl⟩) (hO S2).1 rfl rfl hl.1 rfl (Nat.le_of_ble_eq_true rfl) ⟨Nat.le_of_ble_eq_true rfl, Nat.le_of_ble_eq_true rfl⟩ dX5_after_8 (fun r3 S4 H locs hV hw => ?_)
  refine lv_lload_n C0.x C0.b dX5_after_11 rfl (lv_at hl 2 rfl) ?_
  refine lv_lmul C0.x C0.b dX5_after_12 ?_
  refine lv_aload_n C0.x C0.b dX5_after_13 rfl (lv_at hl 1 rfl) ?_
  refine lv_iload_n C0.x C0.b dX5_after_14 rfl (lv_at hl 0 rfl) ?_
  refine r_cV_l (As := [.int r1]) (rest := [.long (r3 * p0)]) C0 hw (c_X5_b hO hV) (cwV 1 C0.ts gX5_after_X5_b rfl rfl rfl hd_X5_b ⟨Nat.le_of_ble_eq_true rfl, Nat.le_of_ble_eq_true rfl⟩) (hO S4).1 rfl rfl hl.1 rfl (Nat.le_of_ble_eq_true rfl) ⟨Nat.le_of_ble_eq_true rfl, Nat.le_of_ble_eq_true rfl⟩ dX5_after_15 (fun r5 S6 H locs hV hw => ?_)
  refine lv_ladd C0.x C0.b dX5_after_18 ?_
  refine lv_aload_n C0.x C0.b dX5_after_19 rfl (lv_at hl 1 rfl) ?_
  refine lv_iload_n C0.x C0.b dX5_after_20 rfl (lv_at hl 0 rfl) ?_
  refine r_cV_l (As := [.int r1]) (rest := [.long ((r3 * p0) + r5)]) C0 hw (c_X5_d hO hV) (cwV 1 C0.ts gX5_after_X5_d rfl rfl rfl hd_X5_d ⟨Nat.le_of_ble_eq_true rfl, Nat.le_of_ble_eq_true rfl⟩) (hO S6).1 rfl rfl hl.1 rfl (Nat.le_of_ble_eq_true rfl) ⟨Nat.le_of_ble_eq_true rfl, Nat.le_of_ble_eq_true rfl⟩ dX5_after_21 (fun r7 S8 H locs hV hw => ?_)
  refine lv_ldiv C0.x C0.b dX5_after_24 hV.1 ?_
  have hV := hV.2
  refine lv_topl (fun y9 ey9 => ?_)
  have hV := hV y9 ey9
  refine lv_lstore (lv' := [(4, .long y9), (3, .int r1), (0, .ref (ad po)), (1, .long p0)]) C0.x C0.b dX5_after_25 hl (by decide) rfl (fun ls hl => ?_)
  refine lv_lload C0.x C0.b dX5_after_27 (lv_at hl 0 rfl) ?_
  refine r_cN_i (As := [.long y9]) (rest := []) C0 hw (c_X7_isNumber  hV) ⟨va_cnB 1 C0.ts gX5_after_X7_isNumber_n76 rfl rfl rfl (C0.en.2.2.1 ("StepBench$Shares", 76, yX7_isNumber, "StepBench") (by simp [nestL])) (C0.ts _ ni_X5_after_76) hd_X7_isNumber ⟨Nat.le_of_ble_eq_true rfl, Nat.le_of_ble_eq_true rfl⟩, C0.ts _ ns_X5_after_76, trivial⟩ rfl hl.1 rfl (Nat.le_of_ble_eq_true rfl) ⟨Nat.le_of_ble_eq_true rfl, Nat.le_of_ble_eq_true rfl⟩ dX5_after_29 (fun r10 S11 H locs hV hw => ?_)
  refine lv_if_eq (tgt := 40) C0.x C0.b dX5_after_32 (by decide) (fun c12 => ?_) (fun c12 => ?_)
  · have hV := hV.1 c12
    refine lv_ldc2 (v := 3000000000000000) C0.x C0.b C0.ow (C0.ts _ cw_X5_after_79) dX5_after_40 ?_
    exact r_lret C0 rfl hw hV dX5_after_43
  · have hV := hV.2 c12
    refine lv_lload C0.x C0.b dX5_after_35 (lv_at hl 0 rfl) ?_
    refine lv_goto (tgt := 43) C0.x C0.b dX5_after_37 (by decide) ?_
    exact r_lret C0 rfl hw hV dX5_after_43
/-! StepBench$Shares.before(JI)J -/
abbrev rm_X5_before : Room := { frames := 2, cells := 0, slots := 0, locals := 47 }
set_option maxRecDepth 20000 in
theorem cw_X5_before_79 : Cond.constantLong RX5 79 3000000000000000 ∈ wsX5_before := by decide +kernel
set_option maxRecDepth 20000 in
theorem ns_X5_before_76 : Cond.static yX7_isNumber ∈ wsX5_before := by decide +kernel
set_option maxRecDepth 20000 in
theorem ni_X5_before_76 : Cond.initialized yX7_isNumber.cls ∈ wsX5_before := by decide +kernel
set_option maxRecDepth 20000 in
theorem hd_X5_before : yX5_before.cls = RX5 ∧ yX5_before.cls ≠ "java/lang/invoke/MethodHandle" ∧ yX5_before.cls ≠ "java/lang/invoke/VarHandle" ∧ (parseMethodDescriptor yX5_before.desc).map (fun d => d.parameters.length) = some 2 := by decide +kernel
def V_X5_before (mi ai bi di : Nat) (p0 : Int64) (p1 : Int32) (S : SS) (post : Int64 → SS → Prop) : Prop :=
  (V_X5_a mi ai bi di p1 S (fun (r1 : Int64) (S2 : SS) => ((r1 = (0 : Int64) → (post (3000000000000000 : Int64) S2)) ∧ (¬ r1 = (0 : Int64) → (V_X5_d mi ai bi di p1 S2 (fun (r4 : Int64) (S5 : SS) => (V_X5_b mi ai bi di p1 S5 (fun (r6 : Int64) (S7 : SS) => (∀ y8 : Int64, y8 = ((r4 * p0) - r6) → (¬ r1 = 0 ∧ (((lrm y8 r1) = (0 : Int64) → (¬ r1 = 0 ∧ (∀ y10 : Int64, y10 = (y8 / r1) → (V_X7_isNumber y10 S7 (fun (r11 : Int32) (S12 : SS) => ((r11 = 0 → (post (3000000000000000 : Int64) S12)) ∧ (¬ r11 = 0 → (V_X5_restOf mi ai bi di y10 S12 (fun (r14 : Int32) (S15 : SS) => ((r14 = p1 → (post y10 S15)) ∧ (¬ r14 = p1 → (post (3000000000000000 : Int64) S15)))))))))))) ∧ (¬ (lrm y8 r1) = (0 : Int64) → (post (3000000000000000 : Int64) S7)))))))))))))
set_option maxHeartbeats 4000000 in
set_option maxRecDepth 100000 in
theorem c_X5_before {po pa pb pd mi ai bi di : Nat} (hO : lnH ad cI cJ X po pa pb pd mi ai bi di) {S : SS} {p0 : Int64} {p1 : Int32} {post : Int64 → SS → Prop} (hV : V_X5_before mi ai bi di p0 p1 S post) : ML l yX5_before wsX5_before rm_X5_before [.ref (ad po), .long p0, .int p1] D n0 ad cI cJ X S post := by
  refine Met.ofW (cc := cX5_before) (maxL := 10) (ret := (some .long)) (by decide) rfl ?_
  intro p e s m args below meth c s₁ B hml hv
  obtain ⟨rfl, hv⟩ := hv
  have C0 := Bd.mk B hml (atoms_spec (ws := wsX5_before) B.pre) (findClass_of_methodNamed B.named) hv.1
  have hw : Wh D n0 ad cI cJ X S s s.heap [] := ⟨hv.2.1, hv.2.2, va_S.rf⟩
  refine r_entry (Nat.le_of_ble_eq_true rfl) (fun ls hl => ?_)
  have hl : lv_has ls 10 [(0, .ref (ad po)), (1, .long p0), (3, .int p1)] := hl
  unfold V_X5_before at hV
  refine lv_aload_n C0.x C0.b dX5_before_0 rfl (lv_at hl 0 rfl) ?_
  refine lv_iload_n C0.x C0.b dX5_before_1 rfl (lv_at hl 2 rfl) ?_
  refine r_cV_l (As := [.int p1]) (rest := []) C0 hw (c_X5_a hO hV) (cwV 1 C0.ts gX5_before_X5_a rfl rfl rfl hd_X5_a ⟨Nat.le_of_ble_eq_true rfl, Nat.le_of_ble_eq_true rfl⟩) (hO S).1 rfl rfl hl.1 rfl (Nat.le_of_ble_eq_true rfl) ⟨Nat.le_of_ble_eq_true rfl, Nat.le_of_ble_eq_true rfl⟩ dX5_before_2 (fun r1 S2 H locs hV hw => ?_)
  refine lv_lstore (lv' := [(4, .long r1), (0, .ref (ad po)), (1, .long p0), (3, .int p1)]) C0.x C0.b dX5_before_5 hl (by decide) rfl (fun ls hl => ?_)
  refine lv_lload C0.x C0.b dX5_before_7 (lv_at hl 0 rfl) ?_
  refine lv_lconst (v := 0) C0.x C0.b dX5_before_9 (by decide) ?_
  refine r_lcmp C0 dX5_before_10 ?_
  refine lv_if_ne (tgt := 18) C0.x C0.b dX5_before_11 (by decide) (fun c3 => ?_) (fun c3 => ?_)
  · have hV := hV.2 (fun h => c3 ((lc_eq _ _).mpr h))
    refine lv_aload_n C0.x C0.b dX5_before_18 rfl (lv_at hl 1 rfl) ?_
    refine lv_iload_n C0.x C0.b dX5_before_19 rfl (lv_at hl 3 rfl) ?_
    refine r_cV_l (As := [.int p1]) (rest := []) C0 hw (c_X5_d hO hV) (cwV 1 C0.ts gX5_before_X5_d rfl rfl rfl hd_X5_d ⟨Nat.le_of_ble_eq_true rfl, Nat.le_of_ble_eq_true rfl⟩) (hO S2).1 rfl rfl hl.1 rfl (Nat.le_of_ble_eq_true rfl) ⟨Nat.le_of_ble_eq_true rfl, Nat.le_of_ble_eq_true rfl⟩ dX5_before_20 (fun r4 S5 H locs hV hw => ?_)
    refine lv_lload_n C0.x C0.b dX5_before_23 rfl (lv_at hl 2 rfl) ?_
    refine lv_lmul C0.x C0.b dX5_before_24 ?_
    refine lv_aload_n C0.x C0.b dX5_before_25 rfl (lv_at hl 1 rfl) ?_
    refine lv_iload_n C0.x C0.b dX5_before_26 rfl (lv_at hl 3 rfl) ?_
    refine r_cV_l (As := [.int p1]) (rest := [.long (r4 * p0)]) C0 hw (c_X5_b hO hV) (cwV 1 C0.ts gX5_before_X5_b rfl rfl rfl hd_X5_b ⟨Nat.le_of_ble_eq_true rfl, Nat.le_of_ble_eq_true rfl⟩) (hO S5).1 rfl rfl hl.1 rfl (Nat.le_of_ble_eq_true rfl) ⟨Nat.le_of_ble_eq_true rfl, Nat.le_of_ble_eq_true rfl⟩ dX5_before_27 (fun r6 S7 H locs hV hw => ?_)
    refine lv_lsub C0.x C0.b dX5_before_30 ?_
    refine lv_topl (fun y8 ey8 => ?_)
    have hV := hV y8 ey8
    refine lv_lstore (lv' := [(6, .long y8), (4, .long r1), (0, .ref (ad po)), (1, .long p0), (3, .int p1)]) C0.x C0.b dX5_before_31 hl (by decide) rfl (fun ls hl => ?_)
    refine lv_lload C0.x C0.b dX5_before_33 (lv_at hl 0 rfl) ?_
    refine lv_lload C0.x C0.b dX5_before_35 (lv_at hl 1 rfl) ?_
    refine lv_lrem C0.x C0.b dX5_before_37 hV.1 ?_
    have hV := hV.2
    refine lv_lconst (v := 0) C0.x C0.b dX5_before_38 (by decide) ?_
    refine r_lcmp C0 dX5_before_39 ?_
    refine lv_if_eq (tgt := 47) C0.x C0.b dX5_before_40 (by decide) (fun c9 => ?_) (fun c9 => ?_)
    · have hV := hV.1 ((lc_eq _ _).mp c9)
      refine lv_lload C0.x C0.b dX5_before_47 (lv_at hl 0 rfl) ?_
      refine lv_lload C0.x C0.b dX5_before_49 (lv_at hl 1 rfl) ?_
      refine lv_ldiv C0.x C0.b dX5_before_51 hV.1 ?_
      have hV := hV.2
      refine lv_topl (fun y10 ey10 => ?_)
      have hV := hV y10 ey10
      refine lv_lstore (lv' := [(8, .long y10), (6, .long y8), (4, .long r1), (0, .ref (ad po)), (1, .long p0), (3, .int p1)]) C0.x C0.b dX5_before_52 hl (by decide) rfl (fun ls hl => ?_)
      refine lv_lload C0.x C0.b dX5_before_54 (lv_at hl 0 rfl) ?_
      refine r_cN_i (As := [.long y10]) (rest := []) C0 hw (c_X7_isNumber  hV) ⟨va_cnB 1 C0.ts gX5_before_X7_isNumber_n76 rfl rfl rfl (C0.en.2.2.1 ("StepBench$Shares", 76, yX7_isNumber, "StepBench") (by simp [nestL])) (C0.ts _ ni_X5_before_76) hd_X7_isNumber ⟨Nat.le_of_ble_eq_true rfl, Nat.le_of_ble_eq_true rfl⟩, C0.ts _ ns_X5_before_76, trivial⟩ rfl hl.1 rfl (Nat.le_of_ble_eq_true rfl) ⟨Nat.le_of_ble_eq_true rfl, Nat.le_of_ble_eq_true rfl⟩ dX5_before_56 (fun r11 S12 H locs hV hw => ?_)
      refine lv_if_eq (tgt := 77) C0.x C0.b dX5_before_59 (by decide) (fun c13 => ?_) (fun c13 => ?_)
      · have hV := hV.1 c13
        refine lv_ldc2 (v := 3000000000000000) C0.x C0.b C0.ow (C0.ts _ cw_X5_before_79) dX5_before_77 ?_
        exact r_lret C0 rfl hw hV dX5_before_80
      · have hV := hV.2 c13
        refine lv_aload_n C0.x C0.b dX5_before_62 rfl (lv_at hl 3 rfl) ?_
        refine lv_lload C0.x C0.b dX5_before_63 (lv_at hl 0 rfl) ?_
        refine r_cV_i (As := [.long y10]) (rest := []) C0 hw (c_X5_restOf hO hV) (cwV 1 C0.ts gX5_before_X5_restOf rfl rfl rfl hd_X5_restOf ⟨Nat.le_of_ble_eq_true rfl, Nat.le_of_ble_eq_true rfl⟩) (hO S12).1 rfl rfl hl.1 rfl (Nat.le_of_ble_eq_true rfl) ⟨Nat.le_of_ble_eq_true rfl, Nat.le_of_ble_eq_true rfl⟩ dX5_before_65 (fun r14 S15 H locs hV hw => ?_)
        refine lv_iload_n C0.x C0.b dX5_before_68 rfl (lv_at hl 5 rfl) ?_
        refine lv_icmp_ne (tgt := 77) C0.x C0.b dX5_before_69 (by decide) (fun c16 => ?_) (fun c16 => ?_)
        · have hV := hV.2 c16
          refine lv_ldc2 (v := 3000000000000000) C0.x C0.b C0.ow (C0.ts _ cw_X5_before_79) dX5_before_77 ?_
          exact r_lret C0 rfl hw hV dX5_before_80
        · have hV := hV.1 c16
          refine lv_lload C0.x C0.b dX5_before_72 (lv_at hl 0 rfl) ?_
          refine lv_goto (tgt := 80) C0.x C0.b dX5_before_74 (by decide) ?_
          exact r_lret C0 rfl hw hV dX5_before_80
    · have hV := hV.2 (fun h => c9 ((lc_eq _ _).mpr h))
      refine lv_ldc2 (v := 3000000000000000) C0.x C0.b C0.ow (C0.ts _ cw_X5_before_79) dX5_before_43 ?_
      exact r_lret C0 rfl hw hV dX5_before_46
  · have hV := hV.1 ((lc_eq _ _).mp c3)
    refine lv_ldc2 (v := 3000000000000000) C0.x C0.b C0.ow (C0.ts _ cw_X5_before_79) dX5_before_14 ?_
    exact r_lret C0 rfl hw hV dX5_before_17
/-! StepBench$Shares.hasNoShare()Z -/
abbrev rm_X5_hasNoShare : Room := { frames := 2, cells := 0, slots := 0, locals := 42 }
set_option maxRecDepth 20000 in
theorem fw_X5_hasNoShare_9 : Cond.fieldLink RX5 9 "StepBench$Shares" "measure" "I" ∈ wsX5_hasNoShare := by decide +kernel
set_option maxRecDepth 20000 in
theorem iw_X5_hasNoShare_X5 : ∀ w ∈ wsX50, w ∈ wsX5_hasNoShare := by decide +kernel
set_option maxRecDepth 20000 in
theorem hd_X5_hasNoShare : yX5_hasNoShare.cls = RX5 ∧ yX5_hasNoShare.cls ≠ "java/lang/invoke/MethodHandle" ∧ yX5_hasNoShare.cls ≠ "java/lang/invoke/VarHandle" ∧ (parseMethodDescriptor yX5_hasNoShare.desc).map (fun d => d.parameters.length) = some 0 := by decide +kernel
def V_X5_hasNoShare_2 (mi ai bi di : Nat)   (post : Int32 → SS → Prop) : Nat → Int32 → SS → Prop
  | 0, _, _ => False
  | n + 1, v1, S =>
    (((gI S mi) ≤ v1 → (post (0 : Int32) S)) ∧ (¬ (gI S mi) ≤ v1 → (V_X5_a mi ai bi di v1 S (fun (r2 : Int64) (S3 : SS) => ((r2 = (0 : Int64) → (post (1 : Int32) S3)) ∧ (¬ r2 = (0 : Int64) → (∀ x5 : Int32, x5 = v1 + 1 → (V_X5_hasNoShare_2 mi ai bi di   post n x5 S3))))))))
set_option maxHeartbeats 4000000 in
set_option maxRecDepth 100000 in
theorem lp_X5_hasNoShare_2 {po pa pb pd mi ai bi di : Nat} (hO : lnH ad cI cJ X po pa pb pd mi ai bi di)   (post : Int32 → SS → Prop) (C0 : Bd p s m meth c args cX5_hasNoShare 2 (some .boolean) wsX5_hasNoShare RX5 D n0 cI cJ) : ∀ (n : Nat) (v1 : Int32) (S : SS), V_X5_hasNoShare_2 mi ai bi di   post n v1 S → ∀ (H : Heap) (locs : List Loc), Wh D n0 ad cI cJ X S s H locs → ∀ ls : Array Slot, lv_has ls 2 [(0, .ref (ad po)), (1, .int v1)] → W p l e rm_X5_hasNoShare s m args below meth c H locs 0 0 (MQ below (va_Qi post (fun S' t => Wd D n0 ad cI cJ X S' t) (fr n0)) args s 0 0 (fr n0)) (F0 m 2 ls []) := by
  intro n
  induction n with
  | zero => intro v1 S hV; exact False.elim hV
  | succ n ih =>
    intro v1 S hV H locs hw ls hl
    rw [V_X5_hasNoShare_2] at hV
    refine lv_iload_n C0.x C0.b dX5_hasNoShare_2 rfl (lv_at hl 1 rfl) ?_
    refine lv_aload_n C0.x C0.b dX5_hasNoShare_3 rfl (lv_at hl 0 rfl) ?_
    refine r_get C0 hw (C := RX5) (T := TX5) (N := 4) (v := .int (gI S mi)) iw_X5_hasNoShare_X5 (hO S).1 rfl 0 (by decide) (C0.ts _ fw_X5_hasNoShare_9) rfl dX5_hasNoShare_4 ?_
    refine lv_icmp_ge (tgt := 28) C0.x C0.b dX5_hasNoShare_7 (by decide) (fun c1 => ?_) (fun c1 => ?_)
    · have hV := hV.1 c1
      refine lv_iconst (v := 0) C0.x C0.b dX5_hasNoShare_28 (by decide) ?_
      exact r_zret C0 rfl bz_0 hw hV dX5_hasNoShare_29
    · have hV := hV.2 c1
      refine lv_aload_n C0.x C0.b dX5_hasNoShare_10 rfl (lv_at hl 0 rfl) ?_
      refine lv_iload_n C0.x C0.b dX5_hasNoShare_11 rfl (lv_at hl 1 rfl) ?_
      refine r_cV_l (As := [.int v1]) (rest := []) C0 hw (c_X5_a hO hV) (cwV 1 C0.ts gX5_hasNoShare_X5_a rfl rfl rfl hd_X5_a ⟨Nat.le_of_ble_eq_true rfl, Nat.le_of_ble_eq_true rfl⟩) (hO S).1 rfl rfl hl.1 rfl (Nat.le_of_ble_eq_true rfl) ⟨Nat.le_of_ble_eq_true rfl, Nat.le_of_ble_eq_true rfl⟩ dX5_hasNoShare_12 (fun r2 S3 H locs hV hw => ?_)
      refine lv_lconst (v := 0) C0.x C0.b dX5_hasNoShare_15 (by decide) ?_
      refine r_lcmp C0 dX5_hasNoShare_16 ?_
      refine lv_if_ne (tgt := 22) C0.x C0.b dX5_hasNoShare_17 (by decide) (fun c4 => ?_) (fun c4 => ?_)
      · have hV := hV.2 (fun h => c4 ((lc_eq _ _).mpr h))
        obtain ⟨x5, ex5⟩ : ∃ z : Int32, z = v1 + 1 := ⟨_, rfl⟩
        have hV := hV x5 ex5
        refine lv_iinc (v := x5) (lv' := [(1, .int x5), (0, .ref (ad po))]) C0.x C0.b dX5_hasNoShare_22 hl (k := 1) rfl (by rw [ex5]; rfl) (by decide) rfl (fun ls hl => ?_)
        refine lv_goto (tgt := 2) C0.x C0.b dX5_hasNoShare_25 (by decide) ?_
        exact ih _ _ hV _ _ hw _ (lv_sub hl [1, 0] rfl)
      · have hV := hV.1 ((lc_eq _ _).mp c4)
        refine lv_iconst (v := 1) C0.x C0.b dX5_hasNoShare_20 (by decide) ?_
        exact r_zret C0 rfl bz_1 hw hV dX5_hasNoShare_21
def V_X5_hasNoShare (mi ai bi di : Nat)  (S : SS) (post : Int32 → SS → Prop) : Prop :=
  (∃ n2 : Nat, V_X5_hasNoShare_2 mi ai bi di   post n2 (0 : Int32) S)
set_option maxHeartbeats 4000000 in
set_option maxRecDepth 100000 in
theorem c_X5_hasNoShare {po pa pb pd mi ai bi di : Nat} (hO : lnH ad cI cJ X po pa pb pd mi ai bi di) {S : SS}  {post : Int32 → SS → Prop} (hV : V_X5_hasNoShare mi ai bi di  S post) : MI l yX5_hasNoShare wsX5_hasNoShare rm_X5_hasNoShare [.ref (ad po)] D n0 ad cI cJ X S post := by
  refine Met.ofW (cc := cX5_hasNoShare) (maxL := 2) (ret := (some .boolean)) (by decide) rfl ?_
  intro p e s m args below meth c s₁ B hml hv
  obtain ⟨rfl, hv⟩ := hv
  have C0 := Bd.mk B hml (atoms_spec (ws := wsX5_hasNoShare) B.pre) (findClass_of_methodNamed B.named) hv.1
  have hw : Wh D n0 ad cI cJ X S s s.heap [] := ⟨hv.2.1, hv.2.2, va_S.rf⟩
  refine r_entry (Nat.le_of_ble_eq_true rfl) (fun ls hl => ?_)
  have hl : lv_has ls 2 [(0, .ref (ad po))] := hl
  unfold V_X5_hasNoShare at hV
  refine lv_iconst (v := 0) C0.x C0.b dX5_hasNoShare_0 (by decide) ?_
  refine lv_istore_n (lv' := [(1, .int (0 : Int32)), (0, .ref (ad po))]) C0.x C0.b dX5_hasNoShare_1 rfl hl (by decide) rfl (fun ls hl => ?_)
  obtain ⟨n2, hV⟩ := hV
  exact lp_X5_hasNoShare_2 hO  post C0  n2 _ _ hV _ _ hw _ (lv_sub hl [1, 0] rfl)
/-! StepBench$Shares.first(I)J -/
abbrev rm_X5_first : Room := { frames := 2, cells := 0, slots := 0, locals := 42 }
set_option maxRecDepth 20000 in
theorem hd_X5_first : yX5_first.cls = RX5 ∧ yX5_first.cls ≠ "java/lang/invoke/MethodHandle" ∧ yX5_first.cls ≠ "java/lang/invoke/VarHandle" ∧ (parseMethodDescriptor yX5_first.desc).map (fun d => d.parameters.length) = some 1 := by decide +kernel
def V_X5_first (mi ai bi di : Nat) (p0 : Int32) (S : SS) (post : Int64 → SS → Prop) : Prop :=
  (V_X5_a mi ai bi di p0 S (fun (r1 : Int64) (S2 : SS) => (V_X5_b mi ai bi di p0 S2 (fun (r3 : Int64) (S4 : SS) => (V_X5_d mi ai bi di p0 S4 (fun (r5 : Int64) (S6 : SS) => (¬ r5 = 0 ∧ (post (((r1 * p0.toInt64) + r3) / r5) S6))))))))
set_option maxHeartbeats 4000000 in
set_option maxRecDepth 100000 in
theorem c_X5_first {po pa pb pd mi ai bi di : Nat} (hO : lnH ad cI cJ X po pa pb pd mi ai bi di) {S : SS} {p0 : Int32} {post : Int64 → SS → Prop} (hV : V_X5_first mi ai bi di p0 S post) : ML l yX5_first wsX5_first rm_X5_first [.ref (ad po), .int p0] D n0 ad cI cJ X S post := by
  refine Met.ofW (cc := cX5_first) (maxL := 2) (ret := (some .long)) (by decide) rfl ?_
  intro p e s m args below meth c s₁ B hml hv
  obtain ⟨rfl, hv⟩ := hv
  have C0 := Bd.mk B hml (atoms_spec (ws := wsX5_first) B.pre) (findClass_of_methodNamed B.named) hv.1
  have hw : Wh D n0 ad cI cJ X S s s.heap [] := ⟨hv.2.1, hv.2.2, va_S.rf⟩
  refine r_entry (Nat.le_of_ble_eq_true rfl) (fun ls hl => ?_)
  have hl : lv_has ls 2 [(0, .ref (ad po)), (1, .int p0)] := hl
  unfold V_X5_first at hV
  refine lv_aload_n C0.x C0.b dX5_first_0 rfl (lv_at hl 0 rfl) ?_
  refine lv_iload_n C0.x C0.b dX5_first_1 rfl (lv_at hl 1 rfl) ?_
  refine r_cV_l (As := [.int p0]) (rest := []) C0 hw (c_X5_a hO hV) (cwV 1 C0.ts gX5_first_X5_a rfl rfl rfl hd_X5_a ⟨Nat.le_of_ble_eq_true rfl, Nat.le_of_ble_eq_true rfl⟩) (hO S).1 rfl rfl hl.1 rfl (Nat.le_of_ble_eq_true rfl) ⟨Nat.le_of_ble_eq_true rfl, Nat.le_of_ble_eq_true rfl⟩ dX5_first_2 (fun r1 S2 H locs hV hw => ?_)
  refine lv_iload_n C0.x C0.b dX5_first_5 rfl (lv_at hl 1 rfl) ?_
  refine lv_i2l C0.x C0.b dX5_first_6 rfl ?_
  refine lv_lmul C0.x C0.b dX5_first_7 ?_
  refine lv_aload_n C0.x C0.b dX5_first_8 rfl (lv_at hl 0 rfl) ?_
  refine lv_iload_n C0.x C0.b dX5_first_9 rfl (lv_at hl 1 rfl) ?_
  refine r_cV_l (As := [.int p0]) (rest := [.long (r1 * p0.toInt64)]) C0 hw (c_X5_b hO hV) (cwV 1 C0.ts gX5_first_X5_b rfl rfl rfl hd_X5_b ⟨Nat.le_of_ble_eq_true rfl, Nat.le_of_ble_eq_true rfl⟩) (hO S2).1 rfl rfl hl.1 rfl (Nat.le_of_ble_eq_true rfl) ⟨Nat.le_of_ble_eq_true rfl, Nat.le_of_ble_eq_true rfl⟩ dX5_first_10 (fun r3 S4 H locs hV hw => ?_)
  refine lv_ladd C0.x C0.b dX5_first_13 ?_
  refine lv_aload_n C0.x C0.b dX5_first_14 rfl (lv_at hl 0 rfl) ?_
  refine lv_iload_n C0.x C0.b dX5_first_15 rfl (lv_at hl 1 rfl) ?_
  refine r_cV_l (As := [.int p0]) (rest := [.long ((r1 * p0.toInt64) + r3)]) C0 hw (c_X5_d hO hV) (cwV 1 C0.ts gX5_first_X5_d rfl rfl rfl hd_X5_d ⟨Nat.le_of_ble_eq_true rfl, Nat.le_of_ble_eq_true rfl⟩) (hO S4).1 rfl rfl hl.1 rfl (Nat.le_of_ble_eq_true rfl) ⟨Nat.le_of_ble_eq_true rfl, Nat.le_of_ble_eq_true rfl⟩ dX5_first_16 (fun r5 S6 H locs hV hw => ?_)
  refine lv_ldiv C0.x C0.b dX5_first_19 hV.1 ?_
  have hV := hV.2
  exact r_lret C0 rfl hw hV dX5_first_20
/-! StepBench$Shares.stride(I)J -/
abbrev rm_X5_stride : Room := { frames := 2, cells := 0, slots := 0, locals := 42 }
set_option maxRecDepth 20000 in
theorem fw_X5_stride_9 : Cond.fieldLink RX5 9 "StepBench$Shares" "measure" "I" ∈ wsX5_stride := by decide +kernel
set_option maxRecDepth 20000 in
theorem iw_X5_stride_X5 : ∀ w ∈ wsX50, w ∈ wsX5_stride := by decide +kernel
set_option maxRecDepth 20000 in
theorem ml_X5_stride_81 : Cond.methodLink RX5 81 Lib.MathLoose.abs_long.x ∈ wsX5_stride := by decide +kernel
set_option maxRecDepth 20000 in
theorem ms_X5_stride_81 : Cond.static Lib.MathLoose.abs_long.x ∈ wsX5_stride := by decide +kernel
set_option maxRecDepth 20000 in
theorem mi_X5_stride_81 : Cond.initialized "java/lang/Math" ∈ wsX5_stride := by decide +kernel
set_option maxRecDepth 20000 in
theorem mc_X5_stride_81 : Cond.code Lib.MathLoose.abs_long.x Lib.MathLoose.abs_long.code 2 (some .long) ∈ wsX5_stride := by decide +kernel
set_option maxRecDepth 20000 in
theorem hd_X5_stride : yX5_stride.cls = RX5 ∧ yX5_stride.cls ≠ "java/lang/invoke/MethodHandle" ∧ yX5_stride.cls ≠ "java/lang/invoke/VarHandle" ∧ (parseMethodDescriptor yX5_stride.desc).map (fun d => d.parameters.length) = some 1 := by decide +kernel
def V_X5_stride (mi ai bi di : Nat) (p0 : Int32) (S : SS) (post : Int64 → SS → Prop) : Prop :=
  (V_X5_a mi ai bi di p0 S (fun (r1 : Int64) (S2 : SS) => (V_X5_d mi ai bi di p0 S2 (fun (r3 : Int64) (S4 : SS) => (¬ r3 = 0 ∧ (∀ y5 : Int64, y5 = (abL ((r1 * (gI S2 mi).toInt64) / r3)) → (post y5 S4)))))))
set_option maxHeartbeats 4000000 in
set_option maxRecDepth 100000 in
theorem c_X5_stride {po pa pb pd mi ai bi di : Nat} (hO : lnH ad cI cJ X po pa pb pd mi ai bi di) {S : SS} {p0 : Int32} {post : Int64 → SS → Prop} (hV : V_X5_stride mi ai bi di p0 S post) : ML l yX5_stride wsX5_stride rm_X5_stride [.ref (ad po), .int p0] D n0 ad cI cJ X S post := by
  refine Met.ofW (cc := cX5_stride) (maxL := 2) (ret := (some .long)) (by decide) rfl ?_
  intro p e s m args below meth c s₁ B hml hv
  obtain ⟨rfl, hv⟩ := hv
  have C0 := Bd.mk B hml (atoms_spec (ws := wsX5_stride) B.pre) (findClass_of_methodNamed B.named) hv.1
  have hw : Wh D n0 ad cI cJ X S s s.heap [] := ⟨hv.2.1, hv.2.2, va_S.rf⟩
  refine r_entry (Nat.le_of_ble_eq_true rfl) (fun ls hl => ?_)
  have hl : lv_has ls 2 [(0, .ref (ad po)), (1, .int p0)] := hl
  unfold V_X5_stride at hV
  refine lv_aload_n C0.x C0.b dX5_stride_0 rfl (lv_at hl 0 rfl) ?_
  refine lv_iload_n C0.x C0.b dX5_stride_1 rfl (lv_at hl 1 rfl) ?_
  refine r_cV_l (As := [.int p0]) (rest := []) C0 hw (c_X5_a hO hV) (cwV 1 C0.ts gX5_stride_X5_a rfl rfl rfl hd_X5_a ⟨Nat.le_of_ble_eq_true rfl, Nat.le_of_ble_eq_true rfl⟩) (hO S).1 rfl rfl hl.1 rfl (Nat.le_of_ble_eq_true rfl) ⟨Nat.le_of_ble_eq_true rfl, Nat.le_of_ble_eq_true rfl⟩ dX5_stride_2 (fun r1 S2 H locs hV hw => ?_)
  refine lv_aload_n C0.x C0.b dX5_stride_5 rfl (lv_at hl 0 rfl) ?_
  refine r_get C0 hw (C := RX5) (T := TX5) (N := 4) (v := .int (gI S2 mi)) iw_X5_stride_X5 (hO S2).1 rfl 0 (by decide) (C0.ts _ fw_X5_stride_9) rfl dX5_stride_6 ?_
  refine lv_i2l C0.x C0.b dX5_stride_9 rfl ?_
  refine lv_lmul C0.x C0.b dX5_stride_10 ?_
  refine lv_aload_n C0.x C0.b dX5_stride_11 rfl (lv_at hl 0 rfl) ?_
  refine lv_iload_n C0.x C0.b dX5_stride_12 rfl (lv_at hl 1 rfl) ?_
  refine r_cV_l (As := [.int p0]) (rest := [.long (r1 * (gI S2 mi).toInt64)]) C0 hw (c_X5_d hO hV) (cwV 1 C0.ts gX5_stride_X5_d rfl rfl rfl hd_X5_d ⟨Nat.le_of_ble_eq_true rfl, Nat.le_of_ble_eq_true rfl⟩) (hO S2).1 rfl rfl hl.1 rfl (Nat.le_of_ble_eq_true rfl) ⟨Nat.le_of_ble_eq_true rfl, Nat.le_of_ble_eq_true rfl⟩ dX5_stride_13 (fun r3 S4 H locs hV hw => ?_)
  refine lv_ldiv C0.x C0.b dX5_stride_16 hV.1 ?_
  have hV := hV.2
  refine va_mabs_long C0.x C0.b (C0.ml.trans hl.1.symm) C0.ow (C0.ts _ ml_X5_stride_81) (C0.ts _ ms_X5_stride_81) (C0.ts _ mi_X5_stride_81) (C0.ts _ mc_X5_stride_81) (Nat.le_of_ble_eq_true rfl) (Nat.le_of_ble_eq_true rfl) (Nat.le_of_ble_eq_true rfl) (Nat.le_of_ble_eq_true rfl) dX5_stride_17 ?_
  refine lv_topl (fun y5 ey5 => ?_)
  have hV := hV y5 ey5
  exact r_lret C0 rfl hw hV dX5_stride_20
/-! StepBench$Shares.commonStride()I -/
abbrev rm_X5_commonStride : Room := { frames := 3, cells := 0, slots := 0, locals := 63 }
set_option maxRecDepth 20000 in
theorem fw_X5_commonStride_9 : Cond.fieldLink RX5 9 "StepBench$Shares" "measure" "I" ∈ wsX5_commonStride := by decide +kernel
set_option maxRecDepth 20000 in
theorem iw_X5_commonStride_X5 : ∀ w ∈ wsX50, w ∈ wsX5_commonStride := by decide +kernel
set_option maxRecDepth 20000 in
theorem cw_X5_commonStride_93 : Cond.constantLong RX5 93 100001 ∈ wsX5_commonStride := by decide +kernel
set_option maxRecDepth 20000 in
theorem ml_X5_commonStride_95 : Cond.methodLink RX5 95 Lib.MathLoose.min_long.x ∈ wsX5_commonStride := by decide +kernel
set_option maxRecDepth 20000 in
theorem ms_X5_commonStride_95 : Cond.static Lib.MathLoose.min_long.x ∈ wsX5_commonStride := by decide +kernel
set_option maxRecDepth 20000 in
theorem mi_X5_commonStride_95 : Cond.initialized "java/lang/Math" ∈ wsX5_commonStride := by decide +kernel
set_option maxRecDepth 20000 in
theorem mc_X5_commonStride_95 : Cond.code Lib.MathLoose.min_long.x Lib.MathLoose.min_long.code 4 (some .long) ∈ wsX5_commonStride := by decide +kernel
set_option maxRecDepth 20000 in
theorem cw_X5_commonStride_85 : Cond.constantLong RX5 85 100000 ∈ wsX5_commonStride := by decide +kernel
set_option maxRecDepth 20000 in
theorem ns_X5_commonStride_90 : Cond.static yX7_commonDivisor ∈ wsX5_commonStride := by decide +kernel
set_option maxRecDepth 20000 in
theorem ni_X5_commonStride_90 : Cond.initialized yX7_commonDivisor.cls ∈ wsX5_commonStride := by decide +kernel
set_option maxRecDepth 20000 in
theorem hd_X5_commonStride : yX5_commonStride.cls = RX5 ∧ yX5_commonStride.cls ≠ "java/lang/invoke/MethodHandle" ∧ yX5_commonStride.cls ≠ "java/lang/invoke/VarHandle" ∧ (parseMethodDescriptor yX5_commonStride.desc).map (fun d => d.parameters.length) = some 0 := by decide +kernel
def V_X5_commonStride_4 (mi ai bi di : Nat)   (post : Int32 → SS → Prop) : Nat → Int64 → Int32 → SS → Prop
  | 0, _, _, _ => False
  | n + 1, v1, v3, S =>
    (((gI S mi) ≤ v3 → (∀ y2 : Int64, y2 = (mnL v1 (100001 : Int64)) → (post y2.toInt32 S))) ∧ (¬ (gI S mi) ≤ v3 → (((100000 : Int64) < v1 → (∀ y4 : Int64, y4 = (mnL v1 (100001 : Int64)) → (post y4.toInt32 S))) ∧ (¬ (100000 : Int64) < v1 → (V_X5_stride mi ai bi di v3 S (fun (r5 : Int64) (S6 : SS) => ((r5 ≤ (0 : Int64) → (∀ x8 : Int32, x8 = v3 + 1 → (V_X5_commonStride_4 mi ai bi di   post n v1 x8 S6))) ∧ (¬ r5 ≤ (0 : Int64) → (V_X7_commonDivisor v1 r5 S6 (fun (r9 : Int64) (S10 : SS) => (¬ r9 = 0 ∧ (∀ y11 : Int64, y11 = ((v1 / r9) * r5) → (∀ x12 : Int32, x12 = v3 + 1 → (V_X5_commonStride_4 mi ai bi di   post n y11 x12 S10))))))))))))))
set_option maxHeartbeats 4000000 in
set_option maxRecDepth 100000 in
theorem lp_X5_commonStride_4 {po pa pb pd mi ai bi di : Nat} (hO : lnH ad cI cJ X po pa pb pd mi ai bi di)   (post : Int32 → SS → Prop) (C0 : Bd p s m meth c args cX5_commonStride 6 (some .int) wsX5_commonStride RX5 D n0 cI cJ) : ∀ (n : Nat) (v1 : Int64) (v3 : Int32) (S : SS), V_X5_commonStride_4 mi ai bi di   post n v1 v3 S → ∀ (H : Heap) (locs : List Loc), Wh D n0 ad cI cJ X S s H locs → ∀ ls : Array Slot, lv_has ls 6 [(0, .ref (ad po)), (1, .long v1), (3, .int v3)] → W p l e rm_X5_commonStride s m args below meth c H locs 0 0 (MQ below (va_Qi post (fun S' t => Wd D n0 ad cI cJ X S' t) (fr n0)) args s 0 0 (fr n0)) (F0 m 4 ls []) := by
  intro n
  induction n with
  | zero => intro v1 v3 S hV; exact False.elim hV
  | succ n ih =>
    intro v1 v3 S hV H locs hw ls hl
    rw [V_X5_commonStride_4] at hV
    refine lv_iload_n C0.x C0.b dX5_commonStride_4 rfl (lv_at hl 2 rfl) ?_
    refine lv_aload_n C0.x C0.b dX5_commonStride_5 rfl (lv_at hl 0 rfl) ?_
    refine r_get C0 hw (C := RX5) (T := TX5) (N := 4) (v := .int (gI S mi)) iw_X5_commonStride_X5 (hO S).1 rfl 0 (by decide) (C0.ts _ fw_X5_commonStride_9) rfl dX5_commonStride_6 ?_
    refine lv_icmp_ge (tgt := 52) C0.x C0.b dX5_commonStride_9 (by decide) (fun c1 => ?_) (fun c1 => ?_)
    · have hV := hV.1 c1
      refine lv_lload_n C0.x C0.b dX5_commonStride_52 rfl (lv_at hl 1 rfl) ?_
      refine lv_ldc2 (v := 100001) C0.x C0.b C0.ow (C0.ts _ cw_X5_commonStride_93) dX5_commonStride_53 ?_
      refine va_mmin_long C0.x C0.b (C0.ml.trans hl.1.symm) C0.ow (C0.ts _ ml_X5_commonStride_95) (C0.ts _ ms_X5_commonStride_95) (C0.ts _ mi_X5_commonStride_95) (C0.ts _ mc_X5_commonStride_95) (Nat.le_of_ble_eq_true rfl) (Nat.le_of_ble_eq_true rfl) (Nat.le_of_ble_eq_true rfl) (Nat.le_of_ble_eq_true rfl) dX5_commonStride_56 ?_
      refine lv_topl (fun y2 ey2 => ?_)
      have hV := hV y2 ey2
      refine lv_l2i C0.x C0.b dX5_commonStride_59 rfl ?_
      exact r_iret C0 rfl hw hV dX5_commonStride_60
    · have hV := hV.2 c1
      refine lv_lload_n C0.x C0.b dX5_commonStride_12 rfl (lv_at hl 1 rfl) ?_
      refine lv_ldc2 (v := 100000) C0.x C0.b C0.ow (C0.ts _ cw_X5_commonStride_85) dX5_commonStride_13 ?_
      refine r_lcmp C0 dX5_commonStride_16 ?_
      refine lv_if_gt (tgt := 52) C0.x C0.b dX5_commonStride_17 (by decide) (fun c3 => ?_) (fun c3 => ?_)
      · have hV := hV.1 ((lc_gt _ _).mp c3)
        refine lv_lload_n C0.x C0.b dX5_commonStride_52 rfl (lv_at hl 1 rfl) ?_
        refine lv_ldc2 (v := 100001) C0.x C0.b C0.ow (C0.ts _ cw_X5_commonStride_93) dX5_commonStride_53 ?_
        refine va_mmin_long C0.x C0.b (C0.ml.trans hl.1.symm) C0.ow (C0.ts _ ml_X5_commonStride_95) (C0.ts _ ms_X5_commonStride_95) (C0.ts _ mi_X5_commonStride_95) (C0.ts _ mc_X5_commonStride_95) (Nat.le_of_ble_eq_true rfl) (Nat.le_of_ble_eq_true rfl) (Nat.le_of_ble_eq_true rfl) (Nat.le_of_ble_eq_true rfl) dX5_commonStride_56 ?_
        refine lv_topl (fun y4 ey4 => ?_)
        have hV := hV y4 ey4
        refine lv_l2i C0.x C0.b dX5_commonStride_59 rfl ?_
        exact r_iret C0 rfl hw hV dX5_commonStride_60
      · have hV := hV.2 (fun h => c3 ((lc_gt _ _).mpr h))
        refine lv_aload_n C0.x C0.b dX5_commonStride_20 rfl (lv_at hl 0 rfl) ?_
        refine lv_iload_n C0.x C0.b dX5_commonStride_21 rfl (lv_at hl 2 rfl) ?_
        refine r_cV_l (As := [.int v3]) (rest := []) C0 hw (c_X5_stride hO hV) (cwV 1 C0.ts gX5_commonStride_X5_stride rfl rfl rfl hd_X5_stride ⟨Nat.le_of_ble_eq_true rfl, Nat.le_of_ble_eq_true rfl⟩) (hO S).1 rfl rfl hl.1 rfl (Nat.le_of_ble_eq_true rfl) ⟨Nat.le_of_ble_eq_true rfl, Nat.le_of_ble_eq_true rfl⟩ dX5_commonStride_22 (fun r5 S6 H locs hV hw => ?_)
        refine lv_lstore (lv' := [(4, .long r5), (0, .ref (ad po)), (1, .long v1), (3, .int v3)]) C0.x C0.b dX5_commonStride_25 hl (by decide) rfl (fun ls hl => ?_)
        refine lv_lload C0.x C0.b dX5_commonStride_27 (lv_at hl 0 rfl) ?_
        refine lv_lconst (v := 0) C0.x C0.b dX5_commonStride_29 (by decide) ?_
        refine r_lcmp C0 dX5_commonStride_30 ?_
        refine lv_if_le (tgt := 46) C0.x C0.b dX5_commonStride_31 (by decide) (fun c7 => ?_) (fun c7 => ?_)
        · have hV := hV.1 ((lc_le _ _).mp c7)
          obtain ⟨x8, ex8⟩ : ∃ z : Int32, z = v3 + 1 := ⟨_, rfl⟩
          have hV := hV x8 ex8
          refine lv_iinc (v := x8) (lv' := [(3, .int x8), (4, .long r5), (0, .ref (ad po)), (1, .long v1)]) C0.x C0.b dX5_commonStride_46 hl (k := 3) rfl (by rw [ex8]; rfl) (by decide) rfl (fun ls hl => ?_)
          refine lv_goto (tgt := 4) C0.x C0.b dX5_commonStride_49 (by decide) ?_
          exact ih _ _ _ hV _ _ hw _ (lv_sub hl [2, 3, 0] rfl)
        · have hV := hV.2 (fun h => c7 ((lc_le _ _).mpr h))
          refine lv_lload_n C0.x C0.b dX5_commonStride_34 rfl (lv_at hl 2 rfl) ?_
          refine lv_lload_n C0.x C0.b dX5_commonStride_35 rfl (lv_at hl 2 rfl) ?_
          refine lv_lload C0.x C0.b dX5_commonStride_36 (lv_at hl 0 rfl) ?_
          refine r_cN_l (As := [.long v1, .long r5]) (rest := [.long v1]) C0 hw (c_X7_commonDivisor  hV) ⟨va_cnB 2 C0.ts gX5_commonStride_X7_commonDivisor_n90 rfl rfl rfl (C0.en.2.2.1 ("StepBench$Shares", 90, yX7_commonDivisor, "StepBench") (by simp [nestL])) (C0.ts _ ni_X5_commonStride_90) hd_X7_commonDivisor ⟨Nat.le_of_ble_eq_true rfl, Nat.le_of_ble_eq_true rfl⟩, C0.ts _ ns_X5_commonStride_90, trivial⟩ rfl hl.1 rfl (Nat.le_of_ble_eq_true rfl) ⟨Nat.le_of_ble_eq_true rfl, Nat.le_of_ble_eq_true rfl⟩ dX5_commonStride_38 (fun r9 S10 H locs hV hw => ?_)
          refine lv_ldiv C0.x C0.b dX5_commonStride_41 hV.1 ?_
          have hV := hV.2
          refine lv_lload C0.x C0.b dX5_commonStride_42 (lv_at hl 0 rfl) ?_
          refine lv_lmul C0.x C0.b dX5_commonStride_44 ?_
          refine lv_topl (fun y11 ey11 => ?_)
          have hV := hV y11 ey11
          refine lv_lstore_n (lv' := [(1, .long y11), (4, .long r5), (0, .ref (ad po)), (3, .int v3)]) C0.x C0.b dX5_commonStride_45 rfl hl (by decide) rfl (fun ls hl => ?_)
          obtain ⟨x12, ex12⟩ : ∃ z : Int32, z = v3 + 1 := ⟨_, rfl⟩
          have hV := hV x12 ex12
          refine lv_iinc (v := x12) (lv' := [(3, .int x12), (1, .long y11), (4, .long r5), (0, .ref (ad po))]) C0.x C0.b dX5_commonStride_46 hl (k := 3) rfl (by rw [ex12]; rfl) (by decide) rfl (fun ls hl => ?_)
          refine lv_goto (tgt := 4) C0.x C0.b dX5_commonStride_49 (by decide) ?_
          exact ih _ _ _ hV _ _ hw _ (lv_sub hl [3, 1, 0] rfl)
def V_X5_commonStride (mi ai bi di : Nat)  (S : SS) (post : Int32 → SS → Prop) : Prop :=
  (∃ n4 : Nat, V_X5_commonStride_4 mi ai bi di   post n4 (1 : Int64) (0 : Int32) S)
set_option maxHeartbeats 4000000 in
set_option maxRecDepth 100000 in
theorem c_X5_commonStride {po pa pb pd mi ai bi di : Nat} (hO : lnH ad cI cJ X po pa pb pd mi ai bi di) {S : SS}  {post : Int32 → SS → Prop} (hV : V_X5_commonStride mi ai bi di  S post) : MI l yX5_commonStride wsX5_commonStride rm_X5_commonStride [.ref (ad po)] D n0 ad cI cJ X S post := by
  refine Met.ofW (cc := cX5_commonStride) (maxL := 6) (ret := (some .int)) (by decide) rfl ?_
  intro p e s m args below meth c s₁ B hml hv
  obtain ⟨rfl, hv⟩ := hv
  have C0 := Bd.mk B hml (atoms_spec (ws := wsX5_commonStride) B.pre) (findClass_of_methodNamed B.named) hv.1
  have hw : Wh D n0 ad cI cJ X S s s.heap [] := ⟨hv.2.1, hv.2.2, va_S.rf⟩
  refine r_entry (Nat.le_of_ble_eq_true rfl) (fun ls hl => ?_)
  have hl : lv_has ls 6 [(0, .ref (ad po))] := hl
  unfold V_X5_commonStride at hV
  refine lv_lconst (v := 1) C0.x C0.b dX5_commonStride_0 (by decide) ?_
  refine lv_lstore_n (lv' := [(1, .long (1 : Int64)), (0, .ref (ad po))]) C0.x C0.b dX5_commonStride_1 rfl hl (by decide) rfl (fun ls hl => ?_)
  refine lv_iconst (v := 0) C0.x C0.b dX5_commonStride_2 (by decide) ?_
  refine lv_istore_n (lv' := [(3, .int (0 : Int32)), (1, .long (1 : Int64)), (0, .ref (ad po))]) C0.x C0.b dX5_commonStride_3 rfl hl (by decide) rfl (fun ls hl => ?_)
  obtain ⟨n4, hV⟩ := hV
  exact lp_X5_commonStride_4 hO  post C0  n4 _ _ _ hV _ _ hw _ (lv_sub hl [2, 1, 0] rfl)
/-! StepBench$Shares.fillsOnce(I)Z -/
abbrev rm_X5_fillsOnce : Room := { frames := 3, cells := 0, slots := 0, locals := 63 }
set_option maxRecDepth 20000 in
theorem fw_X5_fillsOnce_9 : Cond.fieldLink RX5 9 "StepBench$Shares" "measure" "I" ∈ wsX5_fillsOnce := by decide +kernel
set_option maxRecDepth 20000 in
theorem iw_X5_fillsOnce_X5 : ∀ w ∈ wsX50, w ∈ wsX5_fillsOnce := by decide +kernel
set_option maxRecDepth 20000 in
theorem ml_X5_fillsOnce_98 : Cond.methodLink RX5 98 Lib.MathLoose.max_long.x ∈ wsX5_fillsOnce := by decide +kernel
set_option maxRecDepth 20000 in
theorem ms_X5_fillsOnce_98 : Cond.static Lib.MathLoose.max_long.x ∈ wsX5_fillsOnce := by decide +kernel
set_option maxRecDepth 20000 in
theorem mi_X5_fillsOnce_98 : Cond.initialized "java/lang/Math" ∈ wsX5_fillsOnce := by decide +kernel
set_option maxRecDepth 20000 in
theorem mc_X5_fillsOnce_98 : Cond.code Lib.MathLoose.max_long.x Lib.MathLoose.max_long.code 4 (some .long) ∈ wsX5_fillsOnce := by decide +kernel
set_option maxRecDepth 20000 in
theorem ns_X5_fillsOnce_90 : Cond.static yX7_commonDivisor ∈ wsX5_fillsOnce := by decide +kernel
set_option maxRecDepth 20000 in
theorem ni_X5_fillsOnce_90 : Cond.initialized yX7_commonDivisor.cls ∈ wsX5_fillsOnce := by decide +kernel
set_option maxRecDepth 20000 in
theorem hd_X5_fillsOnce : yX5_fillsOnce.cls = RX5 ∧ yX5_fillsOnce.cls ≠ "java/lang/invoke/MethodHandle" ∧ yX5_fillsOnce.cls ≠ "java/lang/invoke/VarHandle" ∧ (parseMethodDescriptor yX5_fillsOnce.desc).map (fun d => d.parameters.length) = some 1 := by decide +kernel
def V_X5_fillsOnce_33 (mi ai bi di : Nat) (v1 : Int32) (v2 : Int64) (v4 : Int32) (K5 : Int64 → Int32 → SS → Prop) (post : Int32 → SS → Prop) : Nat → Int32 → SS → Prop
  | 0, _, _ => False
  | n + 1, v5, S =>
    ((v4 ≤ v5 → (∀ x8 : Int32, x8 = v4 + 1 → (K5 v2 x8 S))) ∧ (¬ v4 ≤ v5 → (V_X5_first mi ai bi di v4 S (fun (r9 : Int64) (S10 : SS) => (V_X5_first mi ai bi di v5 S10 (fun (r11 : Int64) (S12 : SS) => (V_X5_stride mi ai bi di v4 S12 (fun (r13 : Int64) (S14 : SS) => (V_X5_stride mi ai bi di v5 S14 (fun (r15 : Int64) (S16 : SS) => (V_X7_commonDivisor r13 r15 S16 (fun (r17 : Int64) (S18 : SS) => (¬ r17 = 0 ∧ (((lrm (r9 - r11) r17) = (0 : Int64) → (post (0 : Int32) S18)) ∧ (¬ (lrm (r9 - r11) r17) = (0 : Int64) → (∀ x20 : Int32, x20 = v5 + 1 → (V_X5_fillsOnce_33 mi ai bi di v1 v2 v4 K5 post n x20 S18)))))))))))))))))
set_option maxHeartbeats 4000000 in
set_option maxRecDepth 100000 in
theorem lp_X5_fillsOnce_33 {po pa pb pd mi ai bi di : Nat} (hO : lnH ad cI cJ X po pa pb pd mi ai bi di) (v1 : Int32) (v2 : Int64) (v4 : Int32) (K5 : Int64 → Int32 → SS → Prop) (post : Int32 → SS → Prop) (C0 : Bd p s m meth c args cX5_fillsOnce 6 (some .boolean) wsX5_fillsOnce RX5 D n0 cI cJ) (hK5 : ∀ (v2 : Int64) (v4 : Int32) (S : SS), K5 v2 v4 S → ∀ (H : Heap) (locs : List Loc), Wh D n0 ad cI cJ X S s H locs → ∀ ls : Array Slot, lv_has ls 6 [(0, .ref (ad po)), (1, .int v1), (2, .long v2), (4, .int v4)] → W p l e rm_X5_fillsOnce s m args below meth c H locs 0 0 (MQ below (va_Qi post (fun S' t => Wd D n0 ad cI cJ X S' t) (fr n0)) args s 0 0 (fr n0)) (F0 m 5 ls [])) : ∀ (n : Nat) (v5 : Int32) (S : SS), V_X5_fillsOnce_33 mi ai bi di v1 v2 v4 K5 post n v5 S → ∀ (H : Heap) (locs : List Loc), Wh D n0 ad cI cJ X S s H locs → ∀ ls : Array Slot, lv_has ls 6 [(0, .ref (ad po)), (1, .int v1), (2, .long v2), (4, .int v4), (5, .int v5)] → W p l e rm_X5_fillsOnce s m args below meth c H locs 0 0 (MQ below (va_Qi post (fun S' t => Wd D n0 ad cI cJ X S' t) (fr n0)) args s 0 0 (fr n0)) (F0 m 33 ls []) := by
  intro n
  induction n with
  | zero => intro v5 S hV; exact False.elim hV
  | succ n ih =>
    intro v5 S hV H locs hw ls hl
    rw [V_X5_fillsOnce_33] at hV
    refine lv_iload C0.x C0.b dX5_fillsOnce_33 (lv_at hl 4 rfl) ?_
    refine lv_iload C0.x C0.b dX5_fillsOnce_35 (lv_at hl 3 rfl) ?_
    refine lv_icmp_ge (tgt := 82) C0.x C0.b dX5_fillsOnce_37 (by decide) (fun c7 => ?_) (fun c7 => ?_)
    · have hV := hV.1 c7
      obtain ⟨x8, ex8⟩ : ∃ z : Int32, z = v4 + 1 := ⟨_, rfl⟩
      have hV := hV x8 ex8
      refine lv_iinc (v := x8) (lv' := [(4, .int x8), (0, .ref (ad po)), (1, .int v1), (2, .long v2), (5, .int v5)]) C0.x C0.b dX5_fillsOnce_82 hl (k := 3) rfl (by rw [ex8]; rfl) (by decide) rfl (fun ls hl => ?_)
      refine lv_goto (tgt := 5) C0.x C0.b dX5_fillsOnce_85 (by decide) ?_
      exact hK5 _ _ _ hV _ _ hw _ (lv_sub hl [1, 2, 3, 0] rfl)
    · have hV := hV.2 c7
      refine lv_aload_n C0.x C0.b dX5_fillsOnce_40 rfl (lv_at hl 0 rfl) ?_
      refine lv_iload C0.x C0.b dX5_fillsOnce_41 (lv_at hl 3 rfl) ?_
      refine r_cV_l (As := [.int v4]) (rest := []) C0 hw (c_X5_first hO hV) (cwV 1 C0.ts gX5_fillsOnce_X5_first rfl rfl rfl hd_X5_first ⟨Nat.le_of_ble_eq_true rfl, Nat.le_of_ble_eq_true rfl⟩) (hO S).1 rfl rfl hl.1 rfl (Nat.le_of_ble_eq_true rfl) ⟨Nat.le_of_ble_eq_true rfl, Nat.le_of_ble_eq_true rfl⟩ dX5_fillsOnce_43 (fun r9 S10 H locs hV hw => ?_)
      refine lv_aload_n C0.x C0.b dX5_fillsOnce_46 rfl (lv_at hl 0 rfl) ?_
      refine lv_iload C0.x C0.b dX5_fillsOnce_47 (lv_at hl 4 rfl) ?_
      refine r_cV_l (As := [.int v5]) (rest := [.long r9]) C0 hw (c_X5_first hO hV) (cwV 1 C0.ts gX5_fillsOnce_X5_first rfl rfl rfl hd_X5_first ⟨Nat.le_of_ble_eq_true rfl, Nat.le_of_ble_eq_true rfl⟩) (hO S10).1 rfl rfl hl.1 rfl (Nat.le_of_ble_eq_true rfl) ⟨Nat.le_of_ble_eq_true rfl, Nat.le_of_ble_eq_true rfl⟩ dX5_fillsOnce_49 (fun r11 S12 H locs hV hw => ?_)
      refine lv_lsub C0.x C0.b dX5_fillsOnce_52 ?_
      refine lv_aload_n C0.x C0.b dX5_fillsOnce_53 rfl (lv_at hl 0 rfl) ?_
      refine lv_iload C0.x C0.b dX5_fillsOnce_54 (lv_at hl 3 rfl) ?_
      refine r_cV_l (As := [.int v4]) (rest := [.long (r9 - r11)]) C0 hw (c_X5_stride hO hV) (cwV 1 C0.ts gX5_fillsOnce_X5_stride rfl rfl rfl hd_X5_stride ⟨Nat.le_of_ble_eq_true rfl, Nat.le_of_ble_eq_true rfl⟩) (hO S12).1 rfl rfl hl.1 rfl (Nat.le_of_ble_eq_true rfl) ⟨Nat.le_of_ble_eq_true rfl, Nat.le_of_ble_eq_true rfl⟩ dX5_fillsOnce_56 (fun r13 S14 H locs hV hw => ?_)
      refine lv_aload_n C0.x C0.b dX5_fillsOnce_59 rfl (lv_at hl 0 rfl) ?_
      refine lv_iload C0.x C0.b dX5_fillsOnce_60 (lv_at hl 4 rfl) ?_
      refine r_cV_l (As := [.int v5]) (rest := [.long r13, .long (r9 - r11)]) C0 hw (c_X5_stride hO hV) (cwV 1 C0.ts gX5_fillsOnce_X5_stride rfl rfl rfl hd_X5_stride ⟨Nat.le_of_ble_eq_true rfl, Nat.le_of_ble_eq_true rfl⟩) (hO S14).1 rfl rfl hl.1 rfl (Nat.le_of_ble_eq_true rfl) ⟨Nat.le_of_ble_eq_true rfl, Nat.le_of_ble_eq_true rfl⟩ dX5_fillsOnce_62 (fun r15 S16 H locs hV hw => ?_)
      refine r_cN_l (As := [.long r13, .long r15]) (rest := [.long (r9 - r11)]) C0 hw (c_X7_commonDivisor  hV) ⟨va_cnB 2 C0.ts gX5_fillsOnce_X7_commonDivisor_n90 rfl rfl rfl (C0.en.2.2.1 ("StepBench$Shares", 90, yX7_commonDivisor, "StepBench") (by simp [nestL])) (C0.ts _ ni_X5_fillsOnce_90) hd_X7_commonDivisor ⟨Nat.le_of_ble_eq_true rfl, Nat.le_of_ble_eq_true rfl⟩, C0.ts _ ns_X5_fillsOnce_90, trivial⟩ rfl hl.1 rfl (Nat.le_of_ble_eq_true rfl) ⟨Nat.le_of_ble_eq_true rfl, Nat.le_of_ble_eq_true rfl⟩ dX5_fillsOnce_65 (fun r17 S18 H locs hV hw => ?_)
      refine lv_lrem C0.x C0.b dX5_fillsOnce_68 hV.1 ?_
      have hV := hV.2
      refine lv_lconst (v := 0) C0.x C0.b dX5_fillsOnce_69 (by decide) ?_
      refine r_lcmp C0 dX5_fillsOnce_70 ?_
      refine lv_if_ne (tgt := 76) C0.x C0.b dX5_fillsOnce_71 (by decide) (fun c19 => ?_) (fun c19 => ?_)
      · have hV := hV.2 (fun h => c19 ((lc_eq _ _).mpr h))
        obtain ⟨x20, ex20⟩ : ∃ z : Int32, z = v5 + 1 := ⟨_, rfl⟩
        have hV := hV x20 ex20
        refine lv_iinc (v := x20) (lv' := [(5, .int x20), (0, .ref (ad po)), (1, .int v1), (2, .long v2), (4, .int v4)]) C0.x C0.b dX5_fillsOnce_76 hl (k := 4) rfl (by rw [ex20]; rfl) (by decide) rfl (fun ls hl => ?_)
        refine lv_goto (tgt := 33) C0.x C0.b dX5_fillsOnce_79 (by decide) ?_
        exact ih _ _ hV _ _ hw _ (lv_sub hl [1, 2, 3, 4, 0] rfl)
      · have hV := hV.1 ((lc_eq _ _).mp c19)
        refine lv_iconst (v := 0) C0.x C0.b dX5_fillsOnce_74 (by decide) ?_
        exact r_zret C0 rfl bz_0 hw hV dX5_fillsOnce_75
def V_X5_fillsOnce_5 (mi ai bi di : Nat) (v1 : Int32)  (post : Int32 → SS → Prop) : Nat → Int64 → Int32 → SS → Prop
  | 0, _, _, _ => False
  | n + 1, v2, v4, S =>
    (((gI S mi) ≤ v4 → ((v2 = v1.toInt64 → (post (1 : Int32) S)) ∧ (¬ v2 = v1.toInt64 → (post (0 : Int32) S)))) ∧ (¬ (gI S mi) ≤ v4 → (V_X5_stride mi ai bi di v4 S (fun (r3 : Int64) (S4 : SS) => (∀ y5 : Int64, y5 = (mxL r3 (1 : Int64)) → (¬ y5 = 0 ∧ (∀ y6 : Int64, y6 = (v2 + (v1.toInt64 / y5)) → (∃ n33 : Nat, V_X5_fillsOnce_33 mi ai bi di v1 y6 v4 (fun w2 w4 T => V_X5_fillsOnce_5 mi ai bi di v1  post n w2 w4 T) post n33 (0 : Int32) S4))))))))
set_option maxHeartbeats 4000000 in
set_option maxRecDepth 100000 in
theorem lp_X5_fillsOnce_5 {po pa pb pd mi ai bi di : Nat} (hO : lnH ad cI cJ X po pa pb pd mi ai bi di) (v1 : Int32)  (post : Int32 → SS → Prop) (C0 : Bd p s m meth c args cX5_fillsOnce 6 (some .boolean) wsX5_fillsOnce RX5 D n0 cI cJ) : ∀ (n : Nat) (v2 : Int64) (v4 : Int32) (S : SS), V_X5_fillsOnce_5 mi ai bi di v1  post n v2 v4 S → ∀ (H : Heap) (locs : List Loc), Wh D n0 ad cI cJ X S s H locs → ∀ ls : Array Slot, lv_has ls 6 [(0, .ref (ad po)), (1, .int v1), (2, .long v2), (4, .int v4)] → W p l e rm_X5_fillsOnce s m args below meth c H locs 0 0 (MQ below (va_Qi post (fun S' t => Wd D n0 ad cI cJ X S' t) (fr n0)) args s 0 0 (fr n0)) (F0 m 5 ls []) := by
  intro n
  induction n with
  | zero => intro v2 v4 S hV; exact False.elim hV
  | succ n ih =>
    intro v2 v4 S hV H locs hw ls hl
    rw [V_X5_fillsOnce_5] at hV
    refine lv_iload C0.x C0.b dX5_fillsOnce_5 (lv_at hl 3 rfl) ?_
    refine lv_aload_n C0.x C0.b dX5_fillsOnce_7 rfl (lv_at hl 0 rfl) ?_
    refine r_get C0 hw (C := RX5) (T := TX5) (N := 4) (v := .int (gI S mi)) iw_X5_fillsOnce_X5 (hO S).1 rfl 0 (by decide) (C0.ts _ fw_X5_fillsOnce_9) rfl dX5_fillsOnce_8 ?_
    refine lv_icmp_ge (tgt := 88) C0.x C0.b dX5_fillsOnce_11 (by decide) (fun c1 => ?_) (fun c1 => ?_)
    · have hV := hV.1 c1
      refine lv_lload_n C0.x C0.b dX5_fillsOnce_88 rfl (lv_at hl 2 rfl) ?_
      refine lv_iload_n C0.x C0.b dX5_fillsOnce_89 rfl (lv_at hl 1 rfl) ?_
      refine lv_i2l C0.x C0.b dX5_fillsOnce_90 rfl ?_
      refine r_lcmp C0 dX5_fillsOnce_91 ?_
      refine lv_if_ne (tgt := 99) C0.x C0.b dX5_fillsOnce_92 (by decide) (fun c2 => ?_) (fun c2 => ?_)
      · have hV := hV.2 (fun h => c2 ((lc_eq _ _).mpr h))
        refine lv_iconst (v := 0) C0.x C0.b dX5_fillsOnce_99 (by decide) ?_
        exact r_zret C0 rfl bz_0 hw hV dX5_fillsOnce_100
      · have hV := hV.1 ((lc_eq _ _).mp c2)
        refine lv_iconst (v := 1) C0.x C0.b dX5_fillsOnce_95 (by decide) ?_
        refine lv_goto (tgt := 100) C0.x C0.b dX5_fillsOnce_96 (by decide) ?_
        exact r_zret C0 rfl bz_1 hw hV dX5_fillsOnce_100
    · have hV := hV.2 c1
      refine lv_lload_n C0.x C0.b dX5_fillsOnce_14 rfl (lv_at hl 2 rfl) ?_
      refine lv_iload_n C0.x C0.b dX5_fillsOnce_15 rfl (lv_at hl 1 rfl) ?_
      refine lv_i2l C0.x C0.b dX5_fillsOnce_16 rfl ?_
      refine lv_aload_n C0.x C0.b dX5_fillsOnce_17 rfl (lv_at hl 0 rfl) ?_
      refine lv_iload C0.x C0.b dX5_fillsOnce_18 (lv_at hl 3 rfl) ?_
      refine r_cV_l (As := [.int v4]) (rest := [.long v1.toInt64, .long v2]) C0 hw (c_X5_stride hO hV) (cwV 1 C0.ts gX5_fillsOnce_X5_stride rfl rfl rfl hd_X5_stride ⟨Nat.le_of_ble_eq_true rfl, Nat.le_of_ble_eq_true rfl⟩) (hO S).1 rfl rfl hl.1 rfl (Nat.le_of_ble_eq_true rfl) ⟨Nat.le_of_ble_eq_true rfl, Nat.le_of_ble_eq_true rfl⟩ dX5_fillsOnce_20 (fun r3 S4 H locs hV hw => ?_)
      refine lv_lconst (v := 1) C0.x C0.b dX5_fillsOnce_23 (by decide) ?_
      refine va_mmax_long C0.x C0.b (C0.ml.trans hl.1.symm) C0.ow (C0.ts _ ml_X5_fillsOnce_98) (C0.ts _ ms_X5_fillsOnce_98) (C0.ts _ mi_X5_fillsOnce_98) (C0.ts _ mc_X5_fillsOnce_98) (Nat.le_of_ble_eq_true rfl) (Nat.le_of_ble_eq_true rfl) (Nat.le_of_ble_eq_true rfl) (Nat.le_of_ble_eq_true rfl) dX5_fillsOnce_24 ?_
      refine lv_topl (fun y5 ey5 => ?_)
      have hV := hV y5 ey5
      refine lv_ldiv C0.x C0.b dX5_fillsOnce_27 hV.1 ?_
      have hV := hV.2
      refine lv_ladd C0.x C0.b dX5_fillsOnce_28 ?_
      refine lv_topl (fun y6 ey6 => ?_)
      have hV := hV y6 ey6
      refine lv_lstore_n (lv' := [(2, .long y6), (0, .ref (ad po)), (1, .int v1), (4, .int v4)]) C0.x C0.b dX5_fillsOnce_29 rfl hl (by decide) rfl (fun ls hl => ?_)
      refine lv_iconst (v := 0) C0.x C0.b dX5_fillsOnce_30 (by decide) ?_
      refine lv_istore (lv' := [(5, .int (0 : Int32)), (2, .long y6), (0, .ref (ad po)), (1, .int v1), (4, .int v4)]) C0.x C0.b dX5_fillsOnce_31 hl (by decide) rfl (fun ls hl => ?_)
      obtain ⟨n33, hV⟩ := hV
      exact lp_X5_fillsOnce_33 hO _ _ _ _ post C0 ih n33 _ _ hV _ _ hw _ (lv_sub hl [2, 3, 1, 4, 0] rfl)
def V_X5_fillsOnce (mi ai bi di : Nat) (p0 : Int32) (S : SS) (post : Int32 → SS → Prop) : Prop :=
  (∃ n5 : Nat, V_X5_fillsOnce_5 mi ai bi di p0  post n5 (0 : Int64) (0 : Int32) S)
set_option maxHeartbeats 4000000 in
set_option maxRecDepth 100000 in
theorem c_X5_fillsOnce {po pa pb pd mi ai bi di : Nat} (hO : lnH ad cI cJ X po pa pb pd mi ai bi di) {S : SS} {p0 : Int32} {post : Int32 → SS → Prop} (hV : V_X5_fillsOnce mi ai bi di p0 S post) : MI l yX5_fillsOnce wsX5_fillsOnce rm_X5_fillsOnce [.ref (ad po), .int p0] D n0 ad cI cJ X S post := by
  refine Met.ofW (cc := cX5_fillsOnce) (maxL := 6) (ret := (some .boolean)) (by decide) rfl ?_
  intro p e s m args below meth c s₁ B hml hv
  obtain ⟨rfl, hv⟩ := hv
  have C0 := Bd.mk B hml (atoms_spec (ws := wsX5_fillsOnce) B.pre) (findClass_of_methodNamed B.named) hv.1
  have hw : Wh D n0 ad cI cJ X S s s.heap [] := ⟨hv.2.1, hv.2.2, va_S.rf⟩
  refine r_entry (Nat.le_of_ble_eq_true rfl) (fun ls hl => ?_)
  have hl : lv_has ls 6 [(0, .ref (ad po)), (1, .int p0)] := hl
  unfold V_X5_fillsOnce at hV
  refine lv_lconst (v := 0) C0.x C0.b dX5_fillsOnce_0 (by decide) ?_
  refine lv_lstore_n (lv' := [(2, .long (0 : Int64)), (0, .ref (ad po)), (1, .int p0)]) C0.x C0.b dX5_fillsOnce_1 rfl hl (by decide) rfl (fun ls hl => ?_)
  refine lv_iconst (v := 0) C0.x C0.b dX5_fillsOnce_2 (by decide) ?_
  refine lv_istore (lv' := [(4, .int (0 : Int32)), (2, .long (0 : Int64)), (0, .ref (ad po)), (1, .int p0)]) C0.x C0.b dX5_fillsOnce_3 hl (by decide) rfl (fun ls hl => ?_)
  obtain ⟨n5, hV⟩ := hV
  exact lp_X5_fillsOnce_5 hO _ post C0  n5 _ _ _ hV _ _ hw _ (lv_sub hl [2, 3, 1, 0] rfl)
/-! StepBench$Shares.restThatComesTo(J)I -/
abbrev rm_X5_restThatComesTo : Room := { frames := 3, cells := 0, slots := 0, locals := 63 }
set_option maxRecDepth 20000 in
theorem fw_X5_restThatComesTo_9 : Cond.fieldLink RX5 9 "StepBench$Shares" "measure" "I" ∈ wsX5_restThatComesTo := by decide +kernel
set_option maxRecDepth 20000 in
theorem iw_X5_restThatComesTo_X5 : ∀ w ∈ wsX50, w ∈ wsX5_restThatComesTo := by decide +kernel
set_option maxRecDepth 20000 in
theorem ml_X5_restThatComesTo_98 : Cond.methodLink RX5 98 Lib.MathLoose.max_long.x ∈ wsX5_restThatComesTo := by decide +kernel
set_option maxRecDepth 20000 in
theorem ms_X5_restThatComesTo_98 : Cond.static Lib.MathLoose.max_long.x ∈ wsX5_restThatComesTo := by decide +kernel
set_option maxRecDepth 20000 in
theorem mi_X5_restThatComesTo_98 : Cond.initialized "java/lang/Math" ∈ wsX5_restThatComesTo := by decide +kernel
set_option maxRecDepth 20000 in
theorem mc_X5_restThatComesTo_98 : Cond.code Lib.MathLoose.max_long.x Lib.MathLoose.max_long.code 4 (some .long) ∈ wsX5_restThatComesTo := by decide +kernel
set_option maxRecDepth 20000 in
theorem hd_X5_restThatComesTo : yX5_restThatComesTo.cls = RX5 ∧ yX5_restThatComesTo.cls ≠ "java/lang/invoke/MethodHandle" ∧ yX5_restThatComesTo.cls ≠ "java/lang/invoke/VarHandle" ∧ (parseMethodDescriptor yX5_restThatComesTo.desc).map (fun d => d.parameters.length) = some 1 := by decide +kernel
def V_X5_restThatComesTo_2 (mi ai bi di : Nat) (v1 : Int64)  (post : Int32 → SS → Prop) : Nat → Int32 → SS → Prop
  | 0, _, _ => False
  | n + 1, v3, S =>
    (((gI S mi) ≤ v3 → (post (0 : Int32) S)) ∧ (¬ (gI S mi) ≤ v3 → (V_X5_first mi ai bi di v3 S (fun (r2 : Int64) (S3 : SS) => (V_X5_stride mi ai bi di v3 S3 (fun (r4 : Int64) (S5 : SS) => (∀ y6 : Int64, y6 = (mxL r4 (1 : Int64)) → (¬ y6 = 0 ∧ (((lrm (v1 - r2) y6) = (0 : Int64) → (post v3 S5)) ∧ (¬ (lrm (v1 - r2) y6) = (0 : Int64) → (∀ x8 : Int32, x8 = v3 + 1 → (V_X5_restThatComesTo_2 mi ai bi di v1  post n x8 S5))))))))))))
set_option maxHeartbeats 4000000 in
set_option maxRecDepth 100000 in
theorem lp_X5_restThatComesTo_2 {po pa pb pd mi ai bi di : Nat} (hO : lnH ad cI cJ X po pa pb pd mi ai bi di) (v1 : Int64)  (post : Int32 → SS → Prop) (C0 : Bd p s m meth c args cX5_restThatComesTo 4 (some .int) wsX5_restThatComesTo RX5 D n0 cI cJ) : ∀ (n : Nat) (v3 : Int32) (S : SS), V_X5_restThatComesTo_2 mi ai bi di v1  post n v3 S → ∀ (H : Heap) (locs : List Loc), Wh D n0 ad cI cJ X S s H locs → ∀ ls : Array Slot, lv_has ls 4 [(0, .ref (ad po)), (1, .long v1), (3, .int v3)] → W p l e rm_X5_restThatComesTo s m args below meth c H locs 0 0 (MQ below (va_Qi post (fun S' t => Wd D n0 ad cI cJ X S' t) (fr n0)) args s 0 0 (fr n0)) (F0 m 2 ls []) := by
  intro n
  induction n with
  | zero => intro v3 S hV; exact False.elim hV
  | succ n ih =>
    intro v3 S hV H locs hw ls hl
    rw [V_X5_restThatComesTo_2] at hV
    refine lv_iload_n C0.x C0.b dX5_restThatComesTo_2 rfl (lv_at hl 2 rfl) ?_
    refine lv_aload_n C0.x C0.b dX5_restThatComesTo_3 rfl (lv_at hl 0 rfl) ?_
    refine r_get C0 hw (C := RX5) (T := TX5) (N := 4) (v := .int (gI S mi)) iw_X5_restThatComesTo_X5 (hO S).1 rfl 0 (by decide) (C0.ts _ fw_X5_restThatComesTo_9) rfl dX5_restThatComesTo_4 ?_
    refine lv_icmp_ge (tgt := 40) C0.x C0.b dX5_restThatComesTo_7 (by decide) (fun c1 => ?_) (fun c1 => ?_)
    · have hV := hV.1 c1
      refine lv_iconst (v := 0) C0.x C0.b dX5_restThatComesTo_40 (by decide) ?_
      exact r_iret C0 rfl hw hV dX5_restThatComesTo_41
    · have hV := hV.2 c1
      refine lv_lload_n C0.x C0.b dX5_restThatComesTo_10 rfl (lv_at hl 1 rfl) ?_
      refine lv_aload_n C0.x C0.b dX5_restThatComesTo_11 rfl (lv_at hl 0 rfl) ?_
      refine lv_iload_n C0.x C0.b dX5_restThatComesTo_12 rfl (lv_at hl 2 rfl) ?_
      refine r_cV_l (As := [.int v3]) (rest := [.long v1]) C0 hw (c_X5_first hO hV) (cwV 1 C0.ts gX5_restThatComesTo_X5_first rfl rfl rfl hd_X5_first ⟨Nat.le_of_ble_eq_true rfl, Nat.le_of_ble_eq_true rfl⟩) (hO S).1 rfl rfl hl.1 rfl (Nat.le_of_ble_eq_true rfl) ⟨Nat.le_of_ble_eq_true rfl, Nat.le_of_ble_eq_true rfl⟩ dX5_restThatComesTo_13 (fun r2 S3 H locs hV hw => ?_)
      refine lv_lsub C0.x C0.b dX5_restThatComesTo_16 ?_
      refine lv_aload_n C0.x C0.b dX5_restThatComesTo_17 rfl (lv_at hl 0 rfl) ?_
      refine lv_iload_n C0.x C0.b dX5_restThatComesTo_18 rfl (lv_at hl 2 rfl) ?_
      refine r_cV_l (As := [.int v3]) (rest := [.long (v1 - r2)]) C0 hw (c_X5_stride hO hV) (cwV 1 C0.ts gX5_restThatComesTo_X5_stride rfl rfl rfl hd_X5_stride ⟨Nat.le_of_ble_eq_true rfl, Nat.le_of_ble_eq_true rfl⟩) (hO S3).1 rfl rfl hl.1 rfl (Nat.le_of_ble_eq_true rfl) ⟨Nat.le_of_ble_eq_true rfl, Nat.le_of_ble_eq_true rfl⟩ dX5_restThatComesTo_19 (fun r4 S5 H locs hV hw => ?_)
      refine lv_lconst (v := 1) C0.x C0.b dX5_restThatComesTo_22 (by decide) ?_
      refine va_mmax_long C0.x C0.b (C0.ml.trans hl.1.symm) C0.ow (C0.ts _ ml_X5_restThatComesTo_98) (C0.ts _ ms_X5_restThatComesTo_98) (C0.ts _ mi_X5_restThatComesTo_98) (C0.ts _ mc_X5_restThatComesTo_98) (Nat.le_of_ble_eq_true rfl) (Nat.le_of_ble_eq_true rfl) (Nat.le_of_ble_eq_true rfl) (Nat.le_of_ble_eq_true rfl) dX5_restThatComesTo_23 ?_
      refine lv_topl (fun y6 ey6 => ?_)
      have hV := hV y6 ey6
      refine lv_lrem C0.x C0.b dX5_restThatComesTo_26 hV.1 ?_
      have hV := hV.2
      refine lv_lconst (v := 0) C0.x C0.b dX5_restThatComesTo_27 (by decide) ?_
      refine r_lcmp C0 dX5_restThatComesTo_28 ?_
      refine lv_if_ne (tgt := 34) C0.x C0.b dX5_restThatComesTo_29 (by decide) (fun c7 => ?_) (fun c7 => ?_)
      · have hV := hV.2 (fun h => c7 ((lc_eq _ _).mpr h))
        obtain ⟨x8, ex8⟩ : ∃ z : Int32, z = v3 + 1 := ⟨_, rfl⟩
        have hV := hV x8 ex8
        refine lv_iinc (v := x8) (lv' := [(3, .int x8), (0, .ref (ad po)), (1, .long v1)]) C0.x C0.b dX5_restThatComesTo_34 hl (k := 2) rfl (by rw [ex8]; rfl) (by decide) rfl (fun ls hl => ?_)
        refine lv_goto (tgt := 2) C0.x C0.b dX5_restThatComesTo_37 (by decide) ?_
        exact ih _ _ hV _ _ hw _ (lv_sub hl [1, 2, 0] rfl)
      · have hV := hV.1 ((lc_eq _ _).mp c7)
        refine lv_iload_n C0.x C0.b dX5_restThatComesTo_32 rfl (lv_at hl 2 rfl) ?_
        exact r_iret C0 rfl hw hV dX5_restThatComesTo_33
def V_X5_restThatComesTo (mi ai bi di : Nat) (p0 : Int64) (S : SS) (post : Int32 → SS → Prop) : Prop :=
  (∃ n2 : Nat, V_X5_restThatComesTo_2 mi ai bi di p0  post n2 (0 : Int32) S)
set_option maxHeartbeats 4000000 in
set_option maxRecDepth 100000 in
theorem c_X5_restThatComesTo {po pa pb pd mi ai bi di : Nat} (hO : lnH ad cI cJ X po pa pb pd mi ai bi di) {S : SS} {p0 : Int64} {post : Int32 → SS → Prop} (hV : V_X5_restThatComesTo mi ai bi di p0 S post) : MI l yX5_restThatComesTo wsX5_restThatComesTo rm_X5_restThatComesTo [.ref (ad po), .long p0] D n0 ad cI cJ X S post := by
  refine Met.ofW (cc := cX5_restThatComesTo) (maxL := 4) (ret := (some .int)) (by decide) rfl ?_
  intro p e s m args below meth c s₁ B hml hv
  obtain ⟨rfl, hv⟩ := hv
  have C0 := Bd.mk B hml (atoms_spec (ws := wsX5_restThatComesTo) B.pre) (findClass_of_methodNamed B.named) hv.1
  have hw : Wh D n0 ad cI cJ X S s s.heap [] := ⟨hv.2.1, hv.2.2, va_S.rf⟩
  refine r_entry (Nat.le_of_ble_eq_true rfl) (fun ls hl => ?_)
  have hl : lv_has ls 4 [(0, .ref (ad po)), (1, .long p0)] := hl
  unfold V_X5_restThatComesTo at hV
  refine lv_iconst (v := 0) C0.x C0.b dX5_restThatComesTo_0 (by decide) ?_
  refine lv_istore_n (lv' := [(3, .int (0 : Int32)), (0, .ref (ad po)), (1, .long p0)]) C0.x C0.b dX5_restThatComesTo_1 rfl hl (by decide) rfl (fun ls hl => ?_)
  obtain ⟨n2, hV⟩ := hV
  exact lp_X5_restThatComesTo_2 hO _ post C0  n2 _ _ hV _ _ hw _ (lv_sub hl [1, 2, 0] rfl)
/-! StepBench$Sheet.begin(II)Z -/
abbrev rm_X6_begin : Room := { frames := 2, cells := 0, slots := 0, locals := 44 }
set_option maxRecDepth 20000 in
theorem fw_X6_begin_11 : Cond.fieldLink RX6 11 "StepBench$Sheet" "type" "I" ∈ wsX6_begin := by decide +kernel
set_option maxRecDepth 20000 in
theorem iw_X6_begin_X6 : ∀ w ∈ wsX60, w ∈ wsX6_begin := by decide +kernel
set_option maxRecDepth 20000 in
theorem fw_X6_begin_20 : Cond.fieldLink RX6 20 "StepBench$Sheet" "cells" "LStepBench$Numbers;" ∈ wsX6_begin := by decide +kernel
set_option maxRecDepth 20000 in
theorem hd_X6_begin : yX6_begin.cls = RX6 ∧ yX6_begin.cls ≠ "java/lang/invoke/MethodHandle" ∧ yX6_begin.cls ≠ "java/lang/invoke/VarHandle" ∧ (parseMethodDescriptor yX6_begin.desc).map (fun d => d.parameters.length) = some 2 := by decide +kernel
def V_X6_begin  (p0 : Int32) (p1 : Int32) (S : SS) (post : Int32 → SS → Prop) : Prop :=
  ((p0 < 0 → ((p0 = (3 : Int32) → (∀ S4 : SS, S4 = (sI S 5 p0) → (V_X2_zeros 6 11 64 (0 : Int32) S4 (fun (S7 : SS) => (post (1 : Int32) S7))))) ∧ (¬ p0 = (3 : Int32) → (post (0 : Int32) S)))) ∧ (¬ p0 < 0 → (((2 : Int32) < p0 → ((p0 = (3 : Int32) → (∀ S11 : SS, S11 = (sI S 5 p0) → (V_X2_zeros 6 11 64 (0 : Int32) S11 (fun (S14 : SS) => (post (1 : Int32) S14))))) ∧ (¬ p0 = (3 : Int32) → (post (0 : Int32) S)))) ∧ (¬ (2 : Int32) < p0 → ((p1 < 0 → ((p0 = (3 : Int32) → (∀ S18 : SS, S18 = (sI S 5 p0) → (V_X2_zeros 6 11 64 (0 : Int32) S18 (fun (S21 : SS) => (post (1 : Int32) S21))))) ∧ (¬ p0 = (3 : Int32) → (post (0 : Int32) S)))) ∧ (¬ p1 < 0 → (((64 : Int32) < p1 → ((p0 = (3 : Int32) → (∀ S25 : SS, S25 = (sI S 5 p0) → (V_X2_zeros 6 11 64 (0 : Int32) S25 (fun (S28 : SS) => (post (1 : Int32) S28))))) ∧ (¬ p0 = (3 : Int32) → (post (0 : Int32) S)))) ∧ (¬ (64 : Int32) < p1 → (∀ S30 : SS, S30 = (sI S 5 p0) → (V_X2_zeros 6 11 64 p1 S30 (fun (S33 : SS) => (post (1 : Int32) S33))))))))))))
set_option maxHeartbeats 4000000 in
set_option maxRecDepth 100000 in
theorem c_X6_begin  {S : SS} {p0 : Int32} {p1 : Int32} {post : Int32 → SS → Prop} (hV : V_X6_begin  p0 p1 S post) : MI l yX6_begin wsX6_begin rm_X6_begin [.ref (ad 16), .int p0, .int p1] D n0 ad cI cJ X S post := by
  refine Met.ofW (cc := cX6_begin) (maxL := 4) (ret := (some .boolean)) (by decide) rfl ?_
  intro p e s m args below meth c s₁ B hml hv
  obtain ⟨rfl, hv⟩ := hv
  have C0 := Bd.mk B hml (atoms_spec (ws := wsX6_begin) B.pre) (findClass_of_methodNamed B.named) hv.1
  have hw : Wh D n0 ad cI cJ X S s s.heap [] := ⟨hv.2.1, hv.2.2, va_S.rf⟩
  refine r_entry (Nat.le_of_ble_eq_true rfl) (fun ls hl => ?_)
  have hl : lv_has ls 4 [(0, .ref (ad 16)), (1, .int p0), (2, .int p1)] := hl
  unfold V_X6_begin at hV
  refine lv_iload_n C0.x C0.b dX6_begin_0 rfl (lv_at hl 1 rfl) ?_
  refine lv_if_lt (tgt := 23) C0.x C0.b dX6_begin_1 (by decide) (fun c1 => ?_) (fun c1 => ?_)
  · have hV := hV.1 c1
    refine lv_iconst (v := 0) C0.x C0.b dX6_begin_23 (by decide) ?_
    refine lv_istore_n (lv' := [(3, .int (0 : Int32)), (0, .ref (ad 16)), (1, .int p0), (2, .int p1)]) C0.x C0.b dX6_begin_24 rfl hl (by decide) rfl (fun ls hl => ?_)
    refine lv_iload_n C0.x C0.b dX6_begin_25 rfl (lv_at hl 0 rfl) ?_
    refine lv_if_ne (tgt := 36) C0.x C0.b dX6_begin_26 (by decide) (fun c2 => absurd (by decide) c2) (fun c2 => ?_)
    refine lv_iload_n C0.x C0.b dX6_begin_29 rfl (lv_at hl 2 rfl) ?_
    refine lv_iconst (v := 3) C0.x C0.b dX6_begin_30 (by decide) ?_
    refine lv_icmp_eq (tgt := 36) C0.x C0.b dX6_begin_31 (by decide) (fun c3 => ?_) (fun c3 => ?_)
    · have hV := hV.1 c3
      refine lv_aload_n C0.x C0.b dX6_begin_36 rfl (lv_at hl 1 rfl) ?_
      refine lv_iload_n C0.x C0.b dX6_begin_37 rfl (lv_at hl 2 rfl) ?_
      refine r_put C0 hw (C := RX6) (T := TX6) (N := 2) (ty := .int) iw_X6_begin_X6 tyX6 tyX6_ok nmX6 (lg_16 ad cI cJ X S) rfl 0 (by decide) (C0.ts _ fw_X6_begin_11) rfl (by decide +kernel) rfl rfl (Nat.le_of_ble_eq_true rfl) dX6_begin_38 (S' := (sI S 5 p0)) (ls_16_0 ad cI cJ X S p0) (fun S4 H locs eS4 hw => ?_)
      have hV := hV S4 eS4
      refine lv_aload_n C0.x C0.b dX6_begin_41 rfl (lv_at hl 1 rfl) ?_
      refine r_get C0 hw (C := RX6) (T := TX6) (N := 2) (v := .ref (ad 17)) iw_X6_begin_X6 (lg_16 ad cI cJ X S4) rfl 1 (by decide) (C0.ts _ fw_X6_begin_20) rfl dX6_begin_42 ?_
      refine lv_iload_n C0.x C0.b dX6_begin_45 rfl (lv_at hl 0 rfl) ?_
      refine lv_if_eq (tgt := 53) C0.x C0.b dX6_begin_46 (by decide) (fun c5 => ?_) (fun c5 => absurd (by decide) c5)
      refine lv_iconst (v := 0) C0.x C0.b dX6_begin_53 (by decide) ?_
      refine r_cV_v (As := [.int (0 : Int32)]) (rest := []) C0 hw (c_X2_zeros (ln_17 ad cI cJ X) hV) (cwV 1 C0.ts gX6_begin_X2_zeros rfl rfl rfl hd_X2_zeros ⟨Nat.le_of_ble_eq_true rfl, Nat.le_of_ble_eq_true rfl⟩) (lg_17 ad cI cJ X S4) rfl rfl hl.1 rfl (Nat.le_of_ble_eq_true rfl) ⟨Nat.le_of_ble_eq_true rfl, Nat.le_of_ble_eq_true rfl⟩ dX6_begin_54 (fun S7 H locs hV hw => ?_)
      refine lv_iconst (v := 1) C0.x C0.b dX6_begin_57 (by decide) ?_
      exact r_zret C0 rfl bz_1 hw hV dX6_begin_58
    · have hV := hV.2 c3
      refine lv_iconst (v := 0) C0.x C0.b dX6_begin_34 (by decide) ?_
      exact r_zret C0 rfl bz_0 hw hV dX6_begin_35
  · have hV := hV.2 c1
    refine lv_iload_n C0.x C0.b dX6_begin_4 rfl (lv_at hl 1 rfl) ?_
    refine lv_iconst (v := 2) C0.x C0.b dX6_begin_5 (by decide) ?_
    refine lv_icmp_gt (tgt := 23) C0.x C0.b dX6_begin_6 (by decide) (fun c8 => ?_) (fun c8 => ?_)
    · have hV := hV.1 c8
      refine lv_iconst (v := 0) C0.x C0.b dX6_begin_23 (by decide) ?_
      refine lv_istore_n (lv' := [(3, .int (0 : Int32)), (0, .ref (ad 16)), (1, .int p0), (2, .int p1)]) C0.x C0.b dX6_begin_24 rfl hl (by decide) rfl (fun ls hl => ?_)
      refine lv_iload_n C0.x C0.b dX6_begin_25 rfl (lv_at hl 0 rfl) ?_
      refine lv_if_ne (tgt := 36) C0.x C0.b dX6_begin_26 (by decide) (fun c9 => absurd (by decide) c9) (fun c9 => ?_)
      refine lv_iload_n C0.x C0.b dX6_begin_29 rfl (lv_at hl 2 rfl) ?_
      refine lv_iconst (v := 3) C0.x C0.b dX6_begin_30 (by decide) ?_
      refine lv_icmp_eq (tgt := 36) C0.x C0.b dX6_begin_31 (by decide) (fun c10 => ?_) (fun c10 => ?_)
      · have hV := hV.1 c10
        refine lv_aload_n C0.x C0.b dX6_begin_36 rfl (lv_at hl 1 rfl) ?_
        refine lv_iload_n C0.x C0.b dX6_begin_37 rfl (lv_at hl 2 rfl) ?_
        refine r_put C0 hw (C := RX6) (T := TX6) (N := 2) (ty := .int) iw_X6_begin_X6 tyX6 tyX6_ok nmX6 (lg_16 ad cI cJ X S) rfl 0 (by decide) (C0.ts _ fw_X6_begin_11) rfl (by decide +kernel) rfl rfl (Nat.le_of_ble_eq_true rfl) dX6_begin_38 (S' := (sI S 5 p0)) (ls_16_0 ad cI cJ X S p0) (fun S11 H locs eS11 hw => ?_)
        have hV := hV S11 eS11
        refine lv_aload_n C0.x C0.b dX6_begin_41 rfl (lv_at hl 1 rfl) ?_
        refine r_get C0 hw (C := RX6) (T := TX6) (N := 2) (v := .ref (ad 17)) iw_X6_begin_X6 (lg_16 ad cI cJ X S11) rfl 1 (by decide) (C0.ts _ fw_X6_begin_20) rfl dX6_begin_42 ?_
        refine lv_iload_n C0.x C0.b dX6_begin_45 rfl (lv_at hl 0 rfl) ?_
        refine lv_if_eq (tgt := 53) C0.x C0.b dX6_begin_46 (by decide) (fun c12 => ?_) (fun c12 => absurd (by decide) c12)
        refine lv_iconst (v := 0) C0.x C0.b dX6_begin_53 (by decide) ?_
        refine r_cV_v (As := [.int (0 : Int32)]) (rest := []) C0 hw (c_X2_zeros (ln_17 ad cI cJ X) hV) (cwV 1 C0.ts gX6_begin_X2_zeros rfl rfl rfl hd_X2_zeros ⟨Nat.le_of_ble_eq_true rfl, Nat.le_of_ble_eq_true rfl⟩) (lg_17 ad cI cJ X S11) rfl rfl hl.1 rfl (Nat.le_of_ble_eq_true rfl) ⟨Nat.le_of_ble_eq_true rfl, Nat.le_of_ble_eq_true rfl⟩ dX6_begin_54 (fun S14 H locs hV hw => ?_)
        refine lv_iconst (v := 1) C0.x C0.b dX6_begin_57 (by decide) ?_
        exact r_zret C0 rfl bz_1 hw hV dX6_begin_58
      · have hV := hV.2 c10
        refine lv_iconst (v := 0) C0.x C0.b dX6_begin_34 (by decide) ?_
        exact r_zret C0 rfl bz_0 hw hV dX6_begin_35
    · have hV := hV.2 c8
      refine lv_iload_n C0.x C0.b dX6_begin_9 rfl (lv_at hl 2 rfl) ?_
      refine lv_if_lt (tgt := 23) C0.x C0.b dX6_begin_10 (by decide) (fun c15 => ?_) (fun c15 => ?_)
      · have hV := hV.1 c15
        refine lv_iconst (v := 0) C0.x C0.b dX6_begin_23 (by decide) ?_
        refine lv_istore_n (lv' := [(3, .int (0 : Int32)), (0, .ref (ad 16)), (1, .int p0), (2, .int p1)]) C0.x C0.b dX6_begin_24 rfl hl (by decide) rfl (fun ls hl => ?_)
        refine lv_iload_n C0.x C0.b dX6_begin_25 rfl (lv_at hl 0 rfl) ?_
        refine lv_if_ne (tgt := 36) C0.x C0.b dX6_begin_26 (by decide) (fun c16 => absurd (by decide) c16) (fun c16 => ?_)
        refine lv_iload_n C0.x C0.b dX6_begin_29 rfl (lv_at hl 2 rfl) ?_
        refine lv_iconst (v := 3) C0.x C0.b dX6_begin_30 (by decide) ?_
        refine lv_icmp_eq (tgt := 36) C0.x C0.b dX6_begin_31 (by decide) (fun c17 => ?_) (fun c17 => ?_)
        · have hV := hV.1 c17
          refine lv_aload_n C0.x C0.b dX6_begin_36 rfl (lv_at hl 1 rfl) ?_
          refine lv_iload_n C0.x C0.b dX6_begin_37 rfl (lv_at hl 2 rfl) ?_
          refine r_put C0 hw (C := RX6) (T := TX6) (N := 2) (ty := .int) iw_X6_begin_X6 tyX6 tyX6_ok nmX6 (lg_16 ad cI cJ X S) rfl 0 (by decide) (C0.ts _ fw_X6_begin_11) rfl (by decide +kernel) rfl rfl (Nat.le_of_ble_eq_true rfl) dX6_begin_38 (S' := (sI S 5 p0)) (ls_16_0 ad cI cJ X S p0) (fun S18 H locs eS18 hw => ?_)
          have hV := hV S18 eS18
          refine lv_aload_n C0.x C0.b dX6_begin_41 rfl (lv_at hl 1 rfl) ?_
          refine r_get C0 hw (C := RX6) (T := TX6) (N := 2) (v := .ref (ad 17)) iw_X6_begin_X6 (lg_16 ad cI cJ X S18) rfl 1 (by decide) (C0.ts _ fw_X6_begin_20) rfl dX6_begin_42 ?_
          refine lv_iload_n C0.x C0.b dX6_begin_45 rfl (lv_at hl 0 rfl) ?_
          refine lv_if_eq (tgt := 53) C0.x C0.b dX6_begin_46 (by decide) (fun c19 => ?_) (fun c19 => absurd (by decide) c19)
          refine lv_iconst (v := 0) C0.x C0.b dX6_begin_53 (by decide) ?_
          refine r_cV_v (As := [.int (0 : Int32)]) (rest := []) C0 hw (c_X2_zeros (ln_17 ad cI cJ X) hV) (cwV 1 C0.ts gX6_begin_X2_zeros rfl rfl rfl hd_X2_zeros ⟨Nat.le_of_ble_eq_true rfl, Nat.le_of_ble_eq_true rfl⟩) (lg_17 ad cI cJ X S18) rfl rfl hl.1 rfl (Nat.le_of_ble_eq_true rfl) ⟨Nat.le_of_ble_eq_true rfl, Nat.le_of_ble_eq_true rfl⟩ dX6_begin_54 (fun S21 H locs hV hw => ?_)
          refine lv_iconst (v := 1) C0.x C0.b dX6_begin_57 (by decide) ?_
          exact r_zret C0 rfl bz_1 hw hV dX6_begin_58
        · have hV := hV.2 c17
          refine lv_iconst (v := 0) C0.x C0.b dX6_begin_34 (by decide) ?_
          exact r_zret C0 rfl bz_0 hw hV dX6_begin_35
      · have hV := hV.2 c15
        refine lv_iload_n C0.x C0.b dX6_begin_13 rfl (lv_at hl 2 rfl) ?_
        refine lv_bipush (v := 64) C0.x C0.b dX6_begin_14 (by decide) ?_
        refine lv_icmp_gt (tgt := 23) C0.x C0.b dX6_begin_16 (by decide) (fun c22 => ?_) (fun c22 => ?_)
        · have hV := hV.1 c22
          refine lv_iconst (v := 0) C0.x C0.b dX6_begin_23 (by decide) ?_
          refine lv_istore_n (lv' := [(3, .int (0 : Int32)), (0, .ref (ad 16)), (1, .int p0), (2, .int p1)]) C0.x C0.b dX6_begin_24 rfl hl (by decide) rfl (fun ls hl => ?_)
          refine lv_iload_n C0.x C0.b dX6_begin_25 rfl (lv_at hl 0 rfl) ?_
          refine lv_if_ne (tgt := 36) C0.x C0.b dX6_begin_26 (by decide) (fun c23 => absurd (by decide) c23) (fun c23 => ?_)
          refine lv_iload_n C0.x C0.b dX6_begin_29 rfl (lv_at hl 2 rfl) ?_
          refine lv_iconst (v := 3) C0.x C0.b dX6_begin_30 (by decide) ?_
          refine lv_icmp_eq (tgt := 36) C0.x C0.b dX6_begin_31 (by decide) (fun c24 => ?_) (fun c24 => ?_)
          · have hV := hV.1 c24
            refine lv_aload_n C0.x C0.b dX6_begin_36 rfl (lv_at hl 1 rfl) ?_
            refine lv_iload_n C0.x C0.b dX6_begin_37 rfl (lv_at hl 2 rfl) ?_
            refine r_put C0 hw (C := RX6) (T := TX6) (N := 2) (ty := .int) iw_X6_begin_X6 tyX6 tyX6_ok nmX6 (lg_16 ad cI cJ X S) rfl 0 (by decide) (C0.ts _ fw_X6_begin_11) rfl (by decide +kernel) rfl rfl (Nat.le_of_ble_eq_true rfl) dX6_begin_38 (S' := (sI S 5 p0)) (ls_16_0 ad cI cJ X S p0) (fun S25 H locs eS25 hw => ?_)
            have hV := hV S25 eS25
            refine lv_aload_n C0.x C0.b dX6_begin_41 rfl (lv_at hl 1 rfl) ?_
            refine r_get C0 hw (C := RX6) (T := TX6) (N := 2) (v := .ref (ad 17)) iw_X6_begin_X6 (lg_16 ad cI cJ X S25) rfl 1 (by decide) (C0.ts _ fw_X6_begin_20) rfl dX6_begin_42 ?_
            refine lv_iload_n C0.x C0.b dX6_begin_45 rfl (lv_at hl 0 rfl) ?_
            refine lv_if_eq (tgt := 53) C0.x C0.b dX6_begin_46 (by decide) (fun c26 => ?_) (fun c26 => absurd (by decide) c26)
            refine lv_iconst (v := 0) C0.x C0.b dX6_begin_53 (by decide) ?_
            refine r_cV_v (As := [.int (0 : Int32)]) (rest := []) C0 hw (c_X2_zeros (ln_17 ad cI cJ X) hV) (cwV 1 C0.ts gX6_begin_X2_zeros rfl rfl rfl hd_X2_zeros ⟨Nat.le_of_ble_eq_true rfl, Nat.le_of_ble_eq_true rfl⟩) (lg_17 ad cI cJ X S25) rfl rfl hl.1 rfl (Nat.le_of_ble_eq_true rfl) ⟨Nat.le_of_ble_eq_true rfl, Nat.le_of_ble_eq_true rfl⟩ dX6_begin_54 (fun S28 H locs hV hw => ?_)
            refine lv_iconst (v := 1) C0.x C0.b dX6_begin_57 (by decide) ?_
            exact r_zret C0 rfl bz_1 hw hV dX6_begin_58
          · have hV := hV.2 c24
            refine lv_iconst (v := 0) C0.x C0.b dX6_begin_34 (by decide) ?_
            exact r_zret C0 rfl bz_0 hw hV dX6_begin_35
        · have hV := hV.2 c22
          refine lv_iconst (v := 1) C0.x C0.b dX6_begin_19 (by decide) ?_
          refine lv_goto (tgt := 24) C0.x C0.b dX6_begin_20 (by decide) ?_
          refine lv_istore_n (lv' := [(3, .int (1 : Int32)), (0, .ref (ad 16)), (1, .int p0), (2, .int p1)]) C0.x C0.b dX6_begin_24 rfl hl (by decide) rfl (fun ls hl => ?_)
          refine lv_iload_n C0.x C0.b dX6_begin_25 rfl (lv_at hl 0 rfl) ?_
          refine lv_if_ne (tgt := 36) C0.x C0.b dX6_begin_26 (by decide) (fun c29 => ?_) (fun c29 => absurd c29 (by decide))
          refine lv_aload_n C0.x C0.b dX6_begin_36 rfl (lv_at hl 1 rfl) ?_
          refine lv_iload_n C0.x C0.b dX6_begin_37 rfl (lv_at hl 2 rfl) ?_
          refine r_put C0 hw (C := RX6) (T := TX6) (N := 2) (ty := .int) iw_X6_begin_X6 tyX6 tyX6_ok nmX6 (lg_16 ad cI cJ X S) rfl 0 (by decide) (C0.ts _ fw_X6_begin_11) rfl (by decide +kernel) rfl rfl (Nat.le_of_ble_eq_true rfl) dX6_begin_38 (S' := (sI S 5 p0)) (ls_16_0 ad cI cJ X S p0) (fun S30 H locs eS30 hw => ?_)
          have hV := hV S30 eS30
          refine lv_aload_n C0.x C0.b dX6_begin_41 rfl (lv_at hl 1 rfl) ?_
          refine r_get C0 hw (C := RX6) (T := TX6) (N := 2) (v := .ref (ad 17)) iw_X6_begin_X6 (lg_16 ad cI cJ X S30) rfl 1 (by decide) (C0.ts _ fw_X6_begin_20) rfl dX6_begin_42 ?_
          refine lv_iload_n C0.x C0.b dX6_begin_45 rfl (lv_at hl 0 rfl) ?_
          refine lv_if_eq (tgt := 53) C0.x C0.b dX6_begin_46 (by decide) (fun c31 => absurd c31 (by decide)) (fun c31 => ?_)
          refine lv_iload_n C0.x C0.b dX6_begin_49 rfl (lv_at hl 3 rfl) ?_
          refine lv_goto (tgt := 54) C0.x C0.b dX6_begin_50 (by decide) ?_
          refine r_cV_v (As := [.int p1]) (rest := []) C0 hw (c_X2_zeros (ln_17 ad cI cJ X) hV) (cwV 1 C0.ts gX6_begin_X2_zeros rfl rfl rfl hd_X2_zeros ⟨Nat.le_of_ble_eq_true rfl, Nat.le_of_ble_eq_true rfl⟩) (lg_17 ad cI cJ X S30) rfl rfl hl.1 rfl (Nat.le_of_ble_eq_true rfl) ⟨Nat.le_of_ble_eq_true rfl, Nat.le_of_ble_eq_true rfl⟩ dX6_begin_54 (fun S33 H locs hV hw => ?_)
          refine lv_iconst (v := 1) C0.x C0.b dX6_begin_57 (by decide) ?_
          exact r_zret C0 rfl bz_1 hw hV dX6_begin_58
end
