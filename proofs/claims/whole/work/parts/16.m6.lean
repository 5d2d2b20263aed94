section
variable {p : Program} {l : Launch} {e : Env} {s : State} {m : MethodId} {args : Array Value} {below : List Frame} {meth : Method} {c : Code}
variable {D : va_G} {n0 : Nat} {ad : Nat → Nat} {cI cJ : ClassId} {X : va_W}
/-! StepBenchModel.rest(I)I -/
abbrev rm_X8_rest : Room := { frames := 1, cells := 0, slots := 0, locals := 25 }
set_option maxRecDepth 20000 in
theorem fw_X8_rest_61 : Cond.fieldLink RX8 61 "StepBenchModel" "thrown" "I" ∈ wsX8_rest := by decide +kernel
set_option maxRecDepth 20000 in
theorem iw_X8_rest_X8 : ∀ w ∈ wsX80, w ∈ wsX8_rest := by decide +kernel
set_option maxRecDepth 20000 in
theorem cw_X8_rest_168 : Cond.constantLong RX8 168 63 ∈ wsX8_rest := by decide +kernel
set_option maxRecDepth 20000 in
theorem fw_X8_rest_127 : Cond.fieldLink RX8 127 "StepBenchModel" "words" "I" ∈ wsX8_rest := by decide +kernel
set_option maxRecDepth 20000 in
theorem fw_X8_rest_35 : Cond.fieldLink RX8 35 "StepBenchModel" "word" "[I" ∈ wsX8_rest := by decide +kernel
set_option maxRecDepth 20000 in
theorem hd_X8_rest : yX8_rest.cls = RX8 ∧ yX8_rest.cls ≠ "java/lang/invoke/MethodHandle" ∧ yX8_rest.cls ≠ "java/lang/invoke/VarHandle" ∧ (parseMethodDescriptor yX8_rest.desc).map (fun d => d.parameters.length) = some 1 := by decide +kernel
def V_X8_rest  (p0 : Int32) (S : SS) (post : Int32 → SS → Prop) : Prop :=
  (∀ S1 : SS, S1 = (sI S 20 (0 : Int32)) → (V_X8_in p0.toInt64 (0 : Int64) (63 : Int64) S1 (fun (r2 : Int32) (S3 : SS) => ((r2 = 0 → (post (-1 : Int32) S3)) ∧ (¬ r2 = 0 → (((gI S3 29) = (40 : Int32) → (post (-1 : Int32) S3)) ∧ (¬ (gI S3 29) = (40 : Int32) → (vp_in (gI S3 29) 40 ∧ ∀ S6 : SS, S6 = (sB S3 0 (upd (gB S3 0) (gI S3 29).toNatClampNeg p0)) → (∀ S7 : SS, S7 = (sI S6 29 ((gI S6 29) + (1 : Int32))) → (post (gI S7 29) S7))))))))))
set_option maxHeartbeats 4000000 in
set_option maxRecDepth 100000 in
theorem c_X8_rest  {S : SS} {p0 : Int32} {post : Int32 → SS → Prop} (hV : V_X8_rest  p0 S post) : MI l yX8_rest wsX8_rest rm_X8_rest [.ref (ad 48), .int p0] D n0 ad cI cJ X S post := by
  refine Met.ofW (cc := cX8_rest) (maxL := 2) (ret := (some .int)) (by decide) rfl ?_
  intro p e s m args below meth c s₁ B hml hv
  obtain ⟨rfl, hv⟩ := hv
  have C0 := Bd.mk B hml (atoms_spec (ws := wsX8_rest) B.pre) (findClass_of_methodNamed B.named) hv.1
  have hw : Wh D n0 ad cI cJ X S s s.heap [] := ⟨hv.2.1, hv.2.2, va_S.rf⟩
  refine r_entry (Nat.le_of_ble_eq_true rfl) (fun ls hl => ?_)
  have hl : lv_has ls 2 [(0, .ref (ad 48)), (1, .int p0)] := hl
  unfold V_X8_rest at hV
  refine lv_aload_n C0.x C0.b dX8_rest_0 rfl (lv_at hl 0 rfl) ?_
  refine lv_iconst (v := 0) C0.x C0.b dX8_rest_1 (by decide) ?_
  refine r_put C0 hw (C := RX8) (T := TX8) (N := 33) (ty := .int) iw_X8_rest_X8 tyX8 tyX8_ok nmX8 (lg_48 ad cI cJ X S) rfl 0 (by decide) (C0.ts _ fw_X8_rest_61) rfl (by decide +kernel) rfl rfl (Nat.le_of_ble_eq_true rfl) dX8_rest_2 (S' := (sI S 20 (0 : Int32))) (ls_48_0 ad cI cJ X S (0 : Int32)) (fun S1 H locs eS1 hw => ?_)
  have hV := hV S1 eS1
  refine lv_iload_n C0.x C0.b dX8_rest_5 rfl (lv_at hl 1 rfl) ?_
  refine lv_i2l C0.x C0.b dX8_rest_6 rfl ?_
  refine lv_lconst (v := 0) C0.x C0.b dX8_rest_7 (by decide) ?_
  refine lv_ldc2 (v := 63) C0.x C0.b C0.ow (C0.ts _ cw_X8_rest_168) dX8_rest_8 ?_
  refine r_cS_i (As := [.long p0.toInt64, .long (0 : Int64), .long (63 : Int64)]) (rest := []) C0 hw (c_X8_in  hV) (va_cwS 3 C0.ts gX8_rest_X8_in rfl rfl rfl hd_X8_in ⟨Nat.le_of_ble_eq_true rfl, Nat.le_of_ble_eq_true rfl⟩) rfl hl.1 rfl (Nat.le_of_ble_eq_true rfl) ⟨Nat.zero_le _, Nat.zero_le _⟩ dX8_rest_11 (fun r2 S3 H locs hV hw => ?_)
  refine lv_if_eq (tgt := 26) C0.x C0.b dX8_rest_14 (by decide) (fun c4 => ?_) (fun c4 => ?_)
  · have hV := hV.1 c4
    refine lv_iconst (v := -1) C0.x C0.b dX8_rest_26 (by decide) ?_
    exact r_iret C0 rfl hw hV dX8_rest_27
  · have hV := hV.2 c4
    refine lv_aload_n C0.x C0.b dX8_rest_17 rfl (lv_at hl 0 rfl) ?_
    refine r_get C0 hw (C := RX8) (T := TX8) (N := 33) (v := .int (gI S3 29)) iw_X8_rest_X8 (lg_48 ad cI cJ X S3) rfl 18 (by decide) (C0.ts _ fw_X8_rest_127) rfl dX8_rest_18 ?_
    refine lv_bipush (v := 40) C0.x C0.b dX8_rest_21 (by decide) ?_
    refine lv_icmp_ne (tgt := 28) C0.x C0.b dX8_rest_23 (by decide) (fun c5 => ?_) (fun c5 => ?_)
    · have hV := hV.2 c5
      refine lv_aload_n C0.x C0.b dX8_rest_28 rfl (lv_at hl 0 rfl) ?_
      refine r_get C0 hw (C := RX8) (T := TX8) (N := 33) (v := .ref (ad 56)) iw_X8_rest_X8 (lg_48 ad cI cJ X S3) rfl 17 (by decide) (C0.ts _ fw_X8_rest_35) rfl dX8_rest_29 ?_
      refine lv_aload_n C0.x C0.b dX8_rest_32 rfl (lv_at hl 0 rfl) ?_
      refine r_get C0 hw (C := RX8) (T := TX8) (N := 33) (v := .int (gI S3 29)) iw_X8_rest_X8 (lg_48 ad cI cJ X S3) rfl 18 (by decide) (C0.ts _ fw_X8_rest_127) rfl dX8_rest_33 ?_
      refine lv_iload_n C0.x C0.b dX8_rest_36 rfl (lv_at hl 1 rfl) ?_
      refine r_iast C0 hw (lg_56 ad cI cJ X S3) hV.1 dX8_rest_37 (S' := (sB S3 0 (upd (gB S3 0) (gI S3 29).toNatClampNeg p0))) (ls_56 ad cI cJ X S3 (upd (gB S3 0) (gI S3 29).toNatClampNeg p0)) (fun S6 H locs eS6 hw => ?_)
      have hV := hV.2 S6 eS6
      refine lv_aload_n C0.x C0.b dX8_rest_38 rfl (lv_at hl 0 rfl) ?_
      refine lv_dup C0.x C0.b dX8_rest_39 rfl ?_
      refine r_get C0 hw (C := RX8) (T := TX8) (N := 33) (v := .int (gI S6 29)) iw_X8_rest_X8 (lg_48 ad cI cJ X S6) rfl 18 (by decide) (C0.ts _ fw_X8_rest_127) rfl dX8_rest_40 ?_
      refine lv_iconst (v := 1) C0.x C0.b dX8_rest_43 (by decide) ?_
      refine lv_iadd C0.x C0.b dX8_rest_44 ?_
      refine r_put C0 hw (C := RX8) (T := TX8) (N := 33) (ty := .int) iw_X8_rest_X8 tyX8 tyX8_ok nmX8 (lg_48 ad cI cJ X S6) rfl 18 (by decide) (C0.ts _ fw_X8_rest_127) rfl (by decide +kernel) rfl rfl (Nat.le_of_ble_eq_true rfl) dX8_rest_45 (S' := (sI S6 29 ((gI S6 29) + (1 : Int32)))) (ls_48_18 ad cI cJ X S6 ((gI S6 29) + (1 : Int32))) (fun S7 H locs eS7 hw => ?_)
      have hV := hV S7 eS7
      refine lv_aload_n C0.x C0.b dX8_rest_48 rfl (lv_at hl 0 rfl) ?_
      refine r_get C0 hw (C := RX8) (T := TX8) (N := 33) (v := .int (gI S7 29)) iw_X8_rest_X8 (lg_48 ad cI cJ X S7) rfl 18 (by decide) (C0.ts _ fw_X8_rest_127) rfl dX8_rest_49 ?_
      exact r_iret C0 rfl hw hV dX8_rest_52
    · have hV := hV.1 c5
      refine lv_iconst (v := -1) C0.x C0.b dX8_rest_26 (by decide) ?_
      exact r_iret C0 rfl hw hV dX8_rest_27
/-! StepBenchModel.clear()I -/
abbrev rm_X8_clear : Room := { frames := 0, cells := 0, slots := 0, locals := 0 }
set_option maxRecDepth 20000 in
theorem fw_X8_clear_61 : Cond.fieldLink RX8 61 "StepBenchModel" "thrown" "I" ∈ wsX8_clear := by decide +kernel
set_option maxRecDepth 20000 in
theorem iw_X8_clear_X8 : ∀ w ∈ wsX80, w ∈ wsX8_clear := by decide +kernel
set_option maxRecDepth 20000 in
theorem fw_X8_clear_127 : Cond.fieldLink RX8 127 "StepBenchModel" "words" "I" ∈ wsX8_clear := by decide +kernel
set_option maxRecDepth 20000 in
theorem hd_X8_clear : yX8_clear.cls = RX8 ∧ yX8_clear.cls ≠ "java/lang/invoke/MethodHandle" ∧ yX8_clear.cls ≠ "java/lang/invoke/VarHandle" ∧ (parseMethodDescriptor yX8_clear.desc).map (fun d => d.parameters.length) = some 0 := by decide +kernel
def V_X8_clear   (S : SS) (post : Int32 → SS → Prop) : Prop :=
  (∀ S1 : SS, S1 = (sI S 20 (0 : Int32)) → (∀ S2 : SS, S2 = (sI S1 29 (0 : Int32)) → (post (gI S1 29) S2)))
set_option maxHeartbeats 4000000 in
set_option maxRecDepth 100000 in
theorem c_X8_clear  {S : SS}  {post : Int32 → SS → Prop} (hV : V_X8_clear   S post) : MI l yX8_clear wsX8_clear rm_X8_clear [.ref (ad 48)] D n0 ad cI cJ X S post := by
  refine Met.ofW (cc := cX8_clear) (maxL := 2) (ret := (some .int)) (by decide) rfl ?_
  intro p e s m args below meth c s₁ B hml hv
  obtain ⟨rfl, hv⟩ := hv
  have C0 := Bd.mk B hml (atoms_spec (ws := wsX8_clear) B.pre) (findClass_of_methodNamed B.named) hv.1
  have hw : Wh D n0 ad cI cJ X S s s.heap [] := ⟨hv.2.1, hv.2.2, va_S.rf⟩
  refine r_entry (Nat.le_of_ble_eq_true rfl) (fun ls hl => ?_)
  have hl : lv_has ls 2 [(0, .ref (ad 48))] := hl
  unfold V_X8_clear at hV
  refine lv_aload_n C0.x C0.b dX8_clear_0 rfl (lv_at hl 0 rfl) ?_
  refine lv_iconst (v := 0) C0.x C0.b dX8_clear_1 (by decide) ?_
  refine r_put C0 hw (C := RX8) (T := TX8) (N := 33) (ty := .int) iw_X8_clear_X8 tyX8 tyX8_ok nmX8 (lg_48 ad cI cJ X S) rfl 0 (by decide) (C0.ts _ fw_X8_clear_61) rfl (by decide +kernel) rfl rfl (Nat.le_of_ble_eq_true rfl) dX8_clear_2 (S' := (sI S 20 (0 : Int32))) (ls_48_0 ad cI cJ X S (0 : Int32)) (fun S1 H locs eS1 hw => ?_)
  have hV := hV S1 eS1
  refine lv_aload_n C0.x C0.b dX8_clear_5 rfl (lv_at hl 0 rfl) ?_
  refine r_get C0 hw (C := RX8) (T := TX8) (N := 33) (v := .int (gI S1 29)) iw_X8_clear_X8 (lg_48 ad cI cJ X S1) rfl 18 (by decide) (C0.ts _ fw_X8_clear_127) rfl dX8_clear_6 ?_
  refine lv_istore_n (lv' := [(1, .int (gI S1 29)), (0, .ref (ad 48))]) C0.x C0.b dX8_clear_9 rfl hl (by decide) rfl (fun ls hl => ?_)
  refine lv_aload_n C0.x C0.b dX8_clear_10 rfl (lv_at hl 1 rfl) ?_
  refine lv_iconst (v := 0) C0.x C0.b dX8_clear_11 (by decide) ?_
  refine r_put C0 hw (C := RX8) (T := TX8) (N := 33) (ty := .int) iw_X8_clear_X8 tyX8 tyX8_ok nmX8 (lg_48 ad cI cJ X S1) rfl 18 (by decide) (C0.ts _ fw_X8_clear_127) rfl (by decide +kernel) rfl rfl (Nat.le_of_ble_eq_true rfl) dX8_clear_12 (S' := (sI S1 29 (0 : Int32))) (ls_48_18 ad cI cJ X S1 (0 : Int32)) (fun S2 H locs eS2 hw => ?_)
  have hV := hV S2 eS2
  refine lv_iload_n C0.x C0.b dX8_clear_15 rfl (lv_at hl 0 rfl) ?_
  exact r_iret C0 rfl hw hV dX8_clear_16
/-! StepBenchModel.shaped([II)Z -/
abbrev rm_X8_shaped : Room := { frames := 2, cells := 0, slots := 0, locals := 46 }
set_option maxRecDepth 20000 in
theorem fw_X8_shaped_170 : Cond.fieldLink RX8 170 "StepBenchModel" "shapeA" "J" ∈ wsX8_shaped := by decide +kernel
set_option maxRecDepth 20000 in
theorem iw_X8_shaped_X8 : ∀ w ∈ wsX80, w ∈ wsX8_shaped := by decide +kernel
set_option maxRecDepth 20000 in
theorem fw_X8_shaped_173 : Cond.fieldLink RX8 173 "StepBenchModel" "shapeB" "J" ∈ wsX8_shaped := by decide +kernel
set_option maxRecDepth 20000 in
theorem fw_X8_shaped_176 : Cond.fieldLink RX8 176 "StepBenchModel" "shapeD" "J" ∈ wsX8_shaped := by decide +kernel
set_option maxRecDepth 20000 in
theorem fw_X8_shaped_20 : Cond.fieldLink RX8 20 "StepBenchModel" "rule" "[J" ∈ wsX8_shaped := by decide +kernel
set_option maxRecDepth 20000 in
theorem hd_X8_shaped : yX8_shaped.cls = RX8 ∧ yX8_shaped.cls ≠ "java/lang/invoke/MethodHandle" ∧ yX8_shaped.cls ≠ "java/lang/invoke/VarHandle" ∧ (parseMethodDescriptor yX8_shaped.desc).map (fun d => d.parameters.length) = some 2 := by decide +kernel
def V_X8_shaped_17 (bi0 L0 : Nat) (v2 : Int32)  (post : Int32 → SS → Prop) : Nat → Int32 → SS → Prop
  | 0, _, _ => False
  | n + 1, v3, S =>
    ((v2 ≤ v3 → (post (1 : Int32) S)) ∧ (¬ v2 ≤ v3 → (vp_in v3 L0 ∧ (vp_in ((3 : Int32) * (gB S bi0 v3.toNatClampNeg)) 192 ∧ (vp_in v3 L0 ∧ (vp_in (((3 : Int32) * (gB S bi0 v3.toNatClampNeg)) + (1 : Int32)) 192 ∧ (vp_in v3 L0 ∧ (vp_in (((3 : Int32) * (gB S bi0 v3.toNatClampNeg)) + (2 : Int32)) 192 ∧ (∀ S5 : SS, S5 = (sJ S 2 (((gA S 32 ((3 : Int32) * (gB S bi0 v3.toNatClampNeg)).toNatClampNeg) * (gJ S 2)) + ((gA S 32 (((3 : Int32) * (gB S bi0 v3.toNatClampNeg)) + (1 : Int32)).toNatClampNeg) * (gJ S 3)))) → (∀ S6 : SS, S6 = (sJ S5 1 ((gA S 32 ((3 : Int32) * (gB S bi0 v3.toNatClampNeg)).toNatClampNeg) * (gJ S5 1))) → (∀ S7 : SS, S7 = (sJ S6 3 ((gA S 32 (((3 : Int32) * (gB S bi0 v3.toNatClampNeg)) + (2 : Int32)).toNatClampNeg) * (gJ S6 3))) → (V_X8_common (gJ S7 1) (gJ S7 2) S7 (fun (r8 : Int64) (S9 : SS) => (V_X8_common r8 (gJ S9 3) S9 (fun (r10 : Int64) (S11 : SS) => (¬ r10 = 0 ∧ (∀ S12 : SS, S12 = (sJ S11 1 ((gJ S11 1) / r10)) → (¬ r10 = 0 ∧ (∀ S13 : SS, S13 = (sJ S12 2 ((gJ S12 2) / r10)) → (¬ r10 = 0 ∧ (∀ S14 : SS, S14 = (sJ S13 3 ((gJ S13 3) / r10)) → (V_X8_isNumber (gJ S14 1) S14 (fun (r15 : Int32) (S16 : SS) => ((r15 = 0 → (post (0 : Int32) S16)) ∧ (¬ r15 = 0 → (V_X8_isNumber (gJ S16 2) S16 (fun (r18 : Int32) (S19 : SS) => ((r18 = 0 → (post (0 : Int32) S19)) ∧ (¬ r18 = 0 → (V_X8_isNumber (gJ S19 3) S19 (fun (r21 : Int32) (S22 : SS) => ((r21 = 0 → (post (0 : Int32) S22)) ∧ (¬ r21 = 0 → (∀ x24 : Int32, x24 = v3 + 1 → (V_X8_shaped_17 bi0 L0 v2  post n x24 S22)))))))))))))))))))))))))))))))))))
set_option maxHeartbeats 4000000 in
set_option maxRecDepth 100000 in
theorem lp_X8_shaped_17 {pa0 bi0 L0 : Nat} (hO0 : lnB ad cI cJ X pa0 bi0 L0) (v2 : Int32)  (post : Int32 → SS → Prop) (C0 : Bd p s m meth c args cX8_shaped 12 (some .boolean) wsX8_shaped RX8 D n0 cI cJ) : ∀ (n : Nat) (v3 : Int32) (S : SS), V_X8_shaped_17 bi0 L0 v2  post n v3 S → ∀ (H : Heap) (locs : List Loc), Wh D n0 ad cI cJ X S s H locs → ∀ ls : Array Slot, lv_has ls 12 [(0, .ref (ad 48)), (1, .ref (ad pa0)), (2, .int v2), (3, .int v3)] → W p l e rm_X8_shaped s m args below meth c H locs 0 0 (MQ below (va_Qi post (fun S' t => Wd D n0 ad cI cJ X S' t) (fr n0)) args s 0 0 (fr n0)) (F0 m 17 ls []) := by
  intro n
  induction n with
  | zero => intro v3 S hV; exact False.elim hV
  | succ n ih =>
    intro v3 S hV H locs hw ls hl
    rw [V_X8_shaped_17] at hV
    refine lv_iload_n C0.x C0.b dX8_shaped_17 rfl (lv_at hl 3 rfl) ?_
    refine lv_iload_n C0.x C0.b dX8_shaped_18 rfl (lv_at hl 2 rfl) ?_
    refine lv_icmp_ge (tgt := 194) C0.x C0.b dX8_shaped_19 (by decide) (fun c4 => ?_) (fun c4 => ?_)
    · have hV := hV.1 c4
      refine lv_iconst (v := 1) C0.x C0.b dX8_shaped_194 (by decide) ?_
      exact r_zret C0 rfl bz_1 hw hV dX8_shaped_195
    · have hV := hV.2 c4
      refine lv_aload_n C0.x C0.b dX8_shaped_22 rfl (lv_at hl 0 rfl) ?_
      refine r_get C0 hw (C := RX8) (T := TX8) (N := 33) (v := .ref (ad 51)) iw_X8_shaped_X8 (lg_48 ad cI cJ X S) rfl 9 (by decide) (C0.ts _ fw_X8_shaped_20) rfl dX8_shaped_23 ?_
      refine lv_iconst (v := 3) C0.x C0.b dX8_shaped_26 (by decide) ?_
      refine lv_aload_n C0.x C0.b dX8_shaped_27 rfl (lv_at hl 1 rfl) ?_
      refine lv_iload_n C0.x C0.b dX8_shaped_28 rfl (lv_at hl 3 rfl) ?_
      refine r_iald C0 hw (hO0 S).1 hV.1 dX8_shaped_29 ?_
      have hV := hV.2
      refine lv_imul C0.x C0.b dX8_shaped_30 ?_
      refine r_lald C0 hw (lg_51 ad cI cJ X S) hV.1 dX8_shaped_31 ?_
      have hV := hV.2
      refine lv_lstore (lv' := [(4, .long (gA S 32 ((3 : Int32) * (gB S bi0 v3.toNatClampNeg)).toNatClampNeg)), (0, .ref (ad 48)), (1, .ref (ad pa0)), (2, .int v2), (3, .int v3)]) C0.x C0.b dX8_shaped_32 hl (by decide) rfl (fun ls hl => ?_)
      refine lv_aload_n C0.x C0.b dX8_shaped_34 rfl (lv_at hl 1 rfl) ?_
      refine r_get C0 hw (C := RX8) (T := TX8) (N := 33) (v := .ref (ad 51)) iw_X8_shaped_X8 (lg_48 ad cI cJ X S) rfl 9 (by decide) (C0.ts _ fw_X8_shaped_20) rfl dX8_shaped_35 ?_
      refine lv_iconst (v := 3) C0.x C0.b dX8_shaped_38 (by decide) ?_
      refine lv_aload_n C0.x C0.b dX8_shaped_39 rfl (lv_at hl 2 rfl) ?_
      refine lv_iload_n C0.x C0.b dX8_shaped_40 rfl (lv_at hl 4 rfl) ?_
      refine r_iald C0 hw (hO0 S).1 hV.1 dX8_shaped_41 ?_
      have hV := hV.2
      refine lv_imul C0.x C0.b dX8_shaped_42 ?_
      refine lv_iconst (v := 1) C0.x C0.b dX8_shaped_43 (by decide) ?_
      refine lv_iadd C0.x C0.b dX8_shaped_44 ?_
      refine r_lald C0 hw (lg_51 ad cI cJ X S) hV.1 dX8_shaped_45 ?_
      have hV := hV.2
      refine lv_lstore (lv' := [(6, .long (gA S 32 (((3 : Int32) * (gB S bi0 v3.toNatClampNeg)) + (1 : Int32)).toNatClampNeg)), (4, .long (gA S 32 ((3 : Int32) * (gB S bi0 v3.toNatClampNeg)).toNatClampNeg)), (0, .ref (ad 48)), (1, .ref (ad pa0)), (2, .int v2), (3, .int v3)]) C0.x C0.b dX8_shaped_46 hl (by decide) rfl (fun ls hl => ?_)
      refine lv_aload_n C0.x C0.b dX8_shaped_48 rfl (lv_at hl 2 rfl) ?_
      refine r_get C0 hw (C := RX8) (T := TX8) (N := 33) (v := .ref (ad 51)) iw_X8_shaped_X8 (lg_48 ad cI cJ X S) rfl 9 (by decide) (C0.ts _ fw_X8_shaped_20) rfl dX8_shaped_49 ?_
      refine lv_iconst (v := 3) C0.x C0.b dX8_shaped_52 (by decide) ?_
      refine lv_aload_n C0.x C0.b dX8_shaped_53 rfl (lv_at hl 3 rfl) ?_
      refine lv_iload_n C0.x C0.b dX8_shaped_54 rfl (lv_at hl 5 rfl) ?_
      refine r_iald C0 hw (hO0 S).1 hV.1 dX8_shaped_55 ?_
      have hV := hV.2
      refine lv_imul C0.x C0.b dX8_shaped_56 ?_
      refine lv_iconst (v := 2) C0.x C0.b dX8_shaped_57 (by decide) ?_
      refine lv_iadd C0.x C0.b dX8_shaped_58 ?_
      refine r_lald C0 hw (lg_51 ad cI cJ X S) hV.1 dX8_shaped_59 ?_
      have hV := hV.2
      refine lv_lstore (lv' := [(8, .long (gA S 32 (((3 : Int32) * (gB S bi0 v3.toNatClampNeg)) + (2 : Int32)).toNatClampNeg)), (6, .long (gA S 32 (((3 : Int32) * (gB S bi0 v3.toNatClampNeg)) + (1 : Int32)).toNatClampNeg)), (4, .long (gA S 32 ((3 : Int32) * (gB S bi0 v3.toNatClampNeg)).toNatClampNeg)), (0, .ref (ad 48)), (1, .ref (ad pa0)), (2, .int v2), (3, .int v3)]) C0.x C0.b dX8_shaped_60 hl (by decide) rfl (fun ls hl => ?_)
      refine lv_aload_n C0.x C0.b dX8_shaped_62 rfl (lv_at hl 3 rfl) ?_
      refine lv_lload C0.x C0.b dX8_shaped_63 (lv_at hl 2 rfl) ?_
      refine lv_aload_n C0.x C0.b dX8_shaped_65 rfl (lv_at hl 3 rfl) ?_
      refine r_get C0 hw (C := RX8) (T := TX8) (N := 33) (v := .long (gJ S 2)) iw_X8_shaped_X8 (lg_48 ad cI cJ X S) rfl 20 (by decide) (C0.ts _ fw_X8_shaped_173) rfl dX8_shaped_66 ?_
      refine lv_lmul C0.x C0.b dX8_shaped_69 ?_
      refine lv_lload C0.x C0.b dX8_shaped_70 (lv_at hl 1 rfl) ?_
      refine lv_aload_n C0.x C0.b dX8_shaped_72 rfl (lv_at hl 3 rfl) ?_
      refine r_get C0 hw (C := RX8) (T := TX8) (N := 33) (v := .long (gJ S 3)) iw_X8_shaped_X8 (lg_48 ad cI cJ X S) rfl 21 (by decide) (C0.ts _ fw_X8_shaped_176) rfl dX8_shaped_73 ?_
      refine lv_lmul C0.x C0.b dX8_shaped_76 ?_
      refine lv_ladd C0.x C0.b dX8_shaped_77 ?_
      refine r_put C0 hw (C := RX8) (T := TX8) (N := 33) (ty := .long) iw_X8_shaped_X8 tyX8 tyX8_ok nmX8 (lg_48 ad cI cJ X S) rfl 20 (by decide) (C0.ts _ fw_X8_shaped_173) rfl (by decide +kernel) rfl rfl (Nat.le_of_ble_eq_true rfl) dX8_shaped_78 (S' := (sJ S 2 (((gA S 32 ((3 : Int32) * (gB S bi0 v3.toNatClampNeg)).toNatClampNeg) * (gJ S 2)) + ((gA S 32 (((3 : Int32) * (gB S bi0 v3.toNatClampNeg)) + (1 : Int32)).toNatClampNeg) * (gJ S 3))))) (ls_48_20 ad cI cJ X S (((gA S 32 ((3 : Int32) * (gB S bi0 v3.toNatClampNeg)).toNatClampNeg) * (gJ S 2)) + ((gA S 32 (((3 : Int32) * (gB S bi0 v3.toNatClampNeg)) + (1 : Int32)).toNatClampNeg) * (gJ S 3)))) (fun S5 H locs eS5 hw => ?_)
      have hV := hV S5 eS5
      refine lv_aload_n C0.x C0.b dX8_shaped_81 rfl (lv_at hl 3 rfl) ?_
      refine lv_lload C0.x C0.b dX8_shaped_82 (lv_at hl 2 rfl) ?_
      refine lv_aload_n C0.x C0.b dX8_shaped_84 rfl (lv_at hl 3 rfl) ?_
      refine r_get C0 hw (C := RX8) (T := TX8) (N := 33) (v := .long (gJ S5 1)) iw_X8_shaped_X8 (lg_48 ad cI cJ X S5) rfl 19 (by decide) (C0.ts _ fw_X8_shaped_170) rfl dX8_shaped_85 ?_
      refine lv_lmul C0.x C0.b dX8_shaped_88 ?_
      refine r_put C0 hw (C := RX8) (T := TX8) (N := 33) (ty := .long) iw_X8_shaped_X8 tyX8 tyX8_ok nmX8 (lg_48 ad cI cJ X S5) rfl 19 (by decide) (C0.ts _ fw_X8_shaped_170) rfl (by decide +kernel) rfl rfl (Nat.le_of_ble_eq_true rfl) dX8_shaped_89 (S' := (sJ S5 1 ((gA S 32 ((3 : Int32) * (gB S bi0 v3.toNatClampNeg)).toNatClampNeg) * (gJ S5 1)))) (ls_48_19 ad cI cJ X S5 ((gA S 32 ((3 : Int32) * (gB S bi0 v3.toNatClampNeg)).toNatClampNeg) * (gJ S5 1))) (fun S6 H locs eS6 hw => ?_)
      have hV := hV S6 eS6
      refine lv_aload_n C0.x C0.b dX8_shaped_92 rfl (lv_at hl 3 rfl) ?_
      refine lv_lload C0.x C0.b dX8_shaped_93 (lv_at hl 0 rfl) ?_
      refine lv_aload_n C0.x C0.b dX8_shaped_95 rfl (lv_at hl 3 rfl) ?_
      refine r_get C0 hw (C := RX8) (T := TX8) (N := 33) (v := .long (gJ S6 3)) iw_X8_shaped_X8 (lg_48 ad cI cJ X S6) rfl 21 (by decide) (C0.ts _ fw_X8_shaped_176) rfl dX8_shaped_96 ?_
      refine lv_lmul C0.x C0.b dX8_shaped_99 ?_
      refine r_put C0 hw (C := RX8) (T := TX8) (N := 33) (ty := .long) iw_X8_shaped_X8 tyX8 tyX8_ok nmX8 (lg_48 ad cI cJ X S6) rfl 21 (by decide) (C0.ts _ fw_X8_shaped_176) rfl (by decide +kernel) rfl rfl (Nat.le_of_ble_eq_true rfl) dX8_shaped_100 (S' := (sJ S6 3 ((gA S 32 (((3 : Int32) * (gB S bi0 v3.toNatClampNeg)) + (2 : Int32)).toNatClampNeg) * (gJ S6 3)))) (ls_48_21 ad cI cJ X S6 ((gA S 32 (((3 : Int32) * (gB S bi0 v3.toNatClampNeg)) + (2 : Int32)).toNatClampNeg) * (gJ S6 3))) (fun S7 H locs eS7 hw => ?_)
      have hV := hV S7 eS7
      refine lv_aload_n C0.x C0.b dX8_shaped_103 rfl (lv_at hl 3 rfl) ?_
      refine r_get C0 hw (C := RX8) (T := TX8) (N := 33) (v := .long (gJ S7 1)) iw_X8_shaped_X8 (lg_48 ad cI cJ X S7) rfl 19 (by decide) (C0.ts _ fw_X8_shaped_170) rfl dX8_shaped_104 ?_
      refine lv_aload_n C0.x C0.b dX8_shaped_107 rfl (lv_at hl 3 rfl) ?_
      refine r_get C0 hw (C := RX8) (T := TX8) (N := 33) (v := .long (gJ S7 2)) iw_X8_shaped_X8 (lg_48 ad cI cJ X S7) rfl 20 (by decide) (C0.ts _ fw_X8_shaped_173) rfl dX8_shaped_108 ?_
      refine r_cS_l (As := [.long (gJ S7 1), .long (gJ S7 2)]) (rest := []) C0 hw (c_X8_common  hV) (va_cwS 2 C0.ts gX8_shaped_X8_common rfl rfl rfl hd_X8_common ⟨Nat.le_of_ble_eq_true rfl, Nat.le_of_ble_eq_true rfl⟩) rfl hl.1 rfl (Nat.le_of_ble_eq_true rfl) ⟨Nat.zero_le _, Nat.zero_le _⟩ dX8_shaped_111 (fun r8 S9 H locs hV hw => ?_)
      refine lv_aload_n C0.x C0.b dX8_shaped_114 rfl (lv_at hl 3 rfl) ?_
      refine r_get C0 hw (C := RX8) (T := TX8) (N := 33) (v := .long (gJ S9 3)) iw_X8_shaped_X8 (lg_48 ad cI cJ X S9) rfl 21 (by decide) (C0.ts _ fw_X8_shaped_176) rfl dX8_shaped_115 ?_
      refine r_cS_l (As := [.long r8, .long (gJ S9 3)]) (rest := []) C0 hw (c_X8_common  hV) (va_cwS 2 C0.ts gX8_shaped_X8_common rfl rfl rfl hd_X8_common ⟨Nat.le_of_ble_eq_true rfl, Nat.le_of_ble_eq_true rfl⟩) rfl hl.1 rfl (Nat.le_of_ble_eq_true rfl) ⟨Nat.zero_le _, Nat.zero_le _⟩ dX8_shaped_118 (fun r10 S11 H locs hV hw => ?_)
      refine lv_lstore (lv' := [(10, .long r10), (8, .long (gA S 32 (((3 : Int32) * (gB S bi0 v3.toNatClampNeg)) + (2 : Int32)).toNatClampNeg)), (6, .long (gA S 32 (((3 : Int32) * (gB S bi0 v3.toNatClampNeg)) + (1 : Int32)).toNatClampNeg)), (4, .long (gA S 32 ((3 : Int32) * (gB S bi0 v3.toNatClampNeg)).toNatClampNeg)), (0, .ref (ad 48)), (1, .ref (ad pa0)), (2, .int v2), (3, .int v3)]) C0.x C0.b dX8_shaped_121 hl (by decide) rfl (fun ls hl => ?_)
      refine lv_aload_n C0.x C0.b dX8_shaped_123 rfl (lv_at hl 4 rfl) ?_
      refine lv_dup C0.x C0.b dX8_shaped_124 rfl ?_
      refine r_get C0 hw (C := RX8) (T := TX8) (N := 33) (v := .long (gJ S11 1)) iw_X8_shaped_X8 (lg_48 ad cI cJ X S11) rfl 19 (by decide) (C0.ts _ fw_X8_shaped_170) rfl dX8_shaped_125 ?_
      refine lv_lload C0.x C0.b dX8_shaped_128 (lv_at hl 0 rfl) ?_
      refine lv_ldiv C0.x C0.b dX8_shaped_130 hV.1 ?_
      have hV := hV.2
      refine r_put C0 hw (C := RX8) (T := TX8) (N := 33) (ty := .long) iw_X8_shaped_X8 tyX8 tyX8_ok nmX8 (lg_48 ad cI cJ X S11) rfl 19 (by decide) (C0.ts _ fw_X8_shaped_170) rfl (by decide +kernel) rfl rfl (Nat.le_of_ble_eq_true rfl) dX8_shaped_131 (S' := (sJ S11 1 ((gJ S11 1) / r10))) (ls_48_19 ad cI cJ X S11 ((gJ S11 1) / r10)) (fun S12 H locs eS12 hw => ?_)
      have hV := hV S12 eS12
      refine lv_aload_n C0.x C0.b dX8_shaped_134 rfl (lv_at hl 4 rfl) ?_
      refine lv_dup C0.x C0.b dX8_shaped_135 rfl ?_
      refine r_get C0 hw (C := RX8) (T := TX8) (N := 33) (v := .long (gJ S12 2)) iw_X8_shaped_X8 (lg_48 ad cI cJ X S12) rfl 20 (by decide) (C0.ts _ fw_X8_shaped_173) rfl dX8_shaped_136 ?_
      refine lv_lload C0.x C0.b dX8_shaped_139 (lv_at hl 0 rfl) ?_
      refine lv_ldiv C0.x C0.b dX8_shaped_141 hV.1 ?_
      have hV := hV.2
      refine r_put C0 hw (C := RX8) (T := TX8) (N := 33) (ty := .long) iw_X8_shaped_X8 tyX8 tyX8_ok nmX8 (lg_48 ad cI cJ X S12) rfl 20 (by decide) (C0.ts _ fw_X8_shaped_173) rfl (by decide +kernel) rfl rfl (Nat.le_of_ble_eq_true rfl) dX8_shaped_142 (S' := (sJ S12 2 ((gJ S12 2) / r10))) (ls_48_20 ad cI cJ X S12 ((gJ S12 2) / r10)) (fun S13 H locs eS13 hw => ?_)
      have hV := hV S13 eS13
      refine lv_aload_n C0.x C0.b dX8_shaped_145 rfl (lv_at hl 4 rfl) ?_
      refine lv_dup C0.x C0.b dX8_shaped_146 rfl ?_
      refine r_get C0 hw (C := RX8) (T := TX8) (N := 33) (v := .long (gJ S13 3)) iw_X8_shaped_X8 (lg_48 ad cI cJ X S13) rfl 21 (by decide) (C0.ts _ fw_X8_shaped_176) rfl dX8_shaped_147 ?_
      refine lv_lload C0.x C0.b dX8_shaped_150 (lv_at hl 0 rfl) ?_
      refine lv_ldiv C0.x C0.b dX8_shaped_152 hV.1 ?_
      have hV := hV.2
      refine r_put C0 hw (C := RX8) (T := TX8) (N := 33) (ty := .long) iw_X8_shaped_X8 tyX8 tyX8_ok nmX8 (lg_48 ad cI cJ X S13) rfl 21 (by decide) (C0.ts _ fw_X8_shaped_176) rfl (by decide +kernel) rfl rfl (Nat.le_of_ble_eq_true rfl) dX8_shaped_153 (S' := (sJ S13 3 ((gJ S13 3) / r10))) (ls_48_21 ad cI cJ X S13 ((gJ S13 3) / r10)) (fun S14 H locs eS14 hw => ?_)
      have hV := hV S14 eS14
      refine lv_aload_n C0.x C0.b dX8_shaped_156 rfl (lv_at hl 4 rfl) ?_
      refine r_get C0 hw (C := RX8) (T := TX8) (N := 33) (v := .long (gJ S14 1)) iw_X8_shaped_X8 (lg_48 ad cI cJ X S14) rfl 19 (by decide) (C0.ts _ fw_X8_shaped_170) rfl dX8_shaped_157 ?_
      refine r_cS_i (As := [.long (gJ S14 1)]) (rest := []) C0 hw (c_X8_isNumber  hV) (va_cwS 1 C0.ts gX8_shaped_X8_isNumber rfl rfl rfl hd_X8_isNumber ⟨Nat.le_of_ble_eq_true rfl, Nat.le_of_ble_eq_true rfl⟩) rfl hl.1 rfl (Nat.le_of_ble_eq_true rfl) ⟨Nat.zero_le _, Nat.zero_le _⟩ dX8_shaped_160 (fun r15 S16 H locs hV hw => ?_)
      refine lv_if_eq (tgt := 186) C0.x C0.b dX8_shaped_163 (by decide) (fun c17 => ?_) (fun c17 => ?_)
      · have hV := hV.1 c17
        refine lv_iconst (v := 0) C0.x C0.b dX8_shaped_186 (by decide) ?_
        exact r_zret C0 rfl bz_0 hw hV dX8_shaped_187
      · have hV := hV.2 c17
        refine lv_aload_n C0.x C0.b dX8_shaped_166 rfl (lv_at hl 4 rfl) ?_
        refine r_get C0 hw (C := RX8) (T := TX8) (N := 33) (v := .long (gJ S16 2)) iw_X8_shaped_X8 (lg_48 ad cI cJ X S16) rfl 20 (by decide) (C0.ts _ fw_X8_shaped_173) rfl dX8_shaped_167 ?_
        refine r_cS_i (As := [.long (gJ S16 2)]) (rest := []) C0 hw (c_X8_isNumber  hV) (va_cwS 1 C0.ts gX8_shaped_X8_isNumber rfl rfl rfl hd_X8_isNumber ⟨Nat.le_of_ble_eq_true rfl, Nat.le_of_ble_eq_true rfl⟩) rfl hl.1 rfl (Nat.le_of_ble_eq_true rfl) ⟨Nat.zero_le _, Nat.zero_le _⟩ dX8_shaped_170 (fun r18 S19 H locs hV hw => ?_)
        refine lv_if_eq (tgt := 186) C0.x C0.b dX8_shaped_173 (by decide) (fun c20 => ?_) (fun c20 => ?_)
        · have hV := hV.1 c20
          refine lv_iconst (v := 0) C0.x C0.b dX8_shaped_186 (by decide) ?_
          exact r_zret C0 rfl bz_0 hw hV dX8_shaped_187
        · have hV := hV.2 c20
          refine lv_aload_n C0.x C0.b dX8_shaped_176 rfl (lv_at hl 4 rfl) ?_
          refine r_get C0 hw (C := RX8) (T := TX8) (N := 33) (v := .long (gJ S19 3)) iw_X8_shaped_X8 (lg_48 ad cI cJ X S19) rfl 21 (by decide) (C0.ts _ fw_X8_shaped_176) rfl dX8_shaped_177 ?_
          refine r_cS_i (As := [.long (gJ S19 3)]) (rest := []) C0 hw (c_X8_isNumber  hV) (va_cwS 1 C0.ts gX8_shaped_X8_isNumber rfl rfl rfl hd_X8_isNumber ⟨Nat.le_of_ble_eq_true rfl, Nat.le_of_ble_eq_true rfl⟩) rfl hl.1 rfl (Nat.le_of_ble_eq_true rfl) ⟨Nat.zero_le _, Nat.zero_le _⟩ dX8_shaped_180 (fun r21 S22 H locs hV hw => ?_)
          refine lv_if_ne (tgt := 188) C0.x C0.b dX8_shaped_183 (by decide) (fun c23 => ?_) (fun c23 => ?_)
          · have hV := hV.2 c23
            obtain ⟨x24, ex24⟩ : ∃ z : Int32, z = v3 + 1 := ⟨_, rfl⟩
            have hV := hV x24 ex24
            refine lv_iinc (v := x24) (lv' := [(3, .int x24), (10, .long r10), (8, .long (gA S 32 (((3 : Int32) * (gB S bi0 v3.toNatClampNeg)) + (2 : Int32)).toNatClampNeg)), (6, .long (gA S 32 (((3 : Int32) * (gB S bi0 v3.toNatClampNeg)) + (1 : Int32)).toNatClampNeg)), (4, .long (gA S 32 ((3 : Int32) * (gB S bi0 v3.toNatClampNeg)).toNatClampNeg)), (0, .ref (ad 48)), (1, .ref (ad pa0)), (2, .int v2)]) C0.x C0.b dX8_shaped_188 hl (k := 7) rfl (by rw [ex24]; rfl) (by decide) rfl (fun ls hl => ?_)
            refine lv_goto (tgt := 17) C0.x C0.b dX8_shaped_191 (by decide) ?_
            exact ih _ _ hV _ _ hw _ (lv_sub hl [5, 6, 7, 0] rfl)
          · have hV := hV.1 c23
            refine lv_iconst (v := 0) C0.x C0.b dX8_shaped_186 (by decide) ?_
            exact r_zret C0 rfl bz_0 hw hV dX8_shaped_187
def V_X8_shaped (bi0 L0 : Nat) (p1 : Int32) (S : SS) (post : Int32 → SS → Prop) : Prop :=
  (∀ S1 : SS, S1 = (sJ S 1 (1 : Int64)) → (∀ S2 : SS, S2 = (sJ S1 2 (0 : Int64)) → (∀ S3 : SS, S3 = (sJ S2 3 (1 : Int64)) → (∃ n17 : Nat, V_X8_shaped_17 bi0 L0 p1  post n17 (0 : Int32) S3))))
set_option maxHeartbeats 4000000 in
set_option maxRecDepth 100000 in
theorem c_X8_shaped {pa0 bi0 L0 : Nat} (hO0 : lnB ad cI cJ X pa0 bi0 L0) {S : SS} {p1 : Int32} {post : Int32 → SS → Prop} (hV : V_X8_shaped bi0 L0 p1 S post) : MI l yX8_shaped wsX8_shaped rm_X8_shaped [.ref (ad 48), .ref (ad pa0), .int p1] D n0 ad cI cJ X S post := by
  refine Met.ofW (cc := cX8_shaped) (maxL := 12) (ret := (some .boolean)) (by decide) rfl ?_
  intro p e s m args below meth c s₁ B hml hv
  obtain ⟨rfl, hv⟩ := hv
  have C0 := Bd.mk B hml (atoms_spec (ws := wsX8_shaped) B.pre) (findClass_of_methodNamed B.named) hv.1
  have hw : Wh D n0 ad cI cJ X S s s.heap [] := ⟨hv.2.1, hv.2.2, va_S.rf⟩
  refine r_entry (Nat.le_of_ble_eq_true rfl) (fun ls hl => ?_)
  have hl : lv_has ls 12 [(0, .ref (ad 48)), (1, .ref (ad pa0)), (2, .int p1)] := hl
  unfold V_X8_shaped at hV
  refine lv_aload_n C0.x C0.b dX8_shaped_0 rfl (lv_at hl 0 rfl) ?_
  refine lv_lconst (v := 1) C0.x C0.b dX8_shaped_1 (by decide) ?_
  refine r_put C0 hw (C := RX8) (T := TX8) (N := 33) (ty := .long) iw_X8_shaped_X8 tyX8 tyX8_ok nmX8 (lg_48 ad cI cJ X S) rfl 19 (by decide) (C0.ts _ fw_X8_shaped_170) rfl (by decide +kernel) rfl rfl (Nat.le_of_ble_eq_true rfl) dX8_shaped_2 (S' := (sJ S 1 (1 : Int64))) (ls_48_19 ad cI cJ X S (1 : Int64)) (fun S1 H locs eS1 hw => ?_)
  have hV := hV S1 eS1
  refine lv_aload_n C0.x C0.b dX8_shaped_5 rfl (lv_at hl 0 rfl) ?_
  refine lv_lconst (v := 0) C0.x C0.b dX8_shaped_6 (by decide) ?_
  refine r_put C0 hw (C := RX8) (T := TX8) (N := 33) (ty := .long) iw_X8_shaped_X8 tyX8 tyX8_ok nmX8 (lg_48 ad cI cJ X S1) rfl 20 (by decide) (C0.ts _ fw_X8_shaped_173) rfl (by decide +kernel) rfl rfl (Nat.le_of_ble_eq_true rfl) dX8_shaped_7 (S' := (sJ S1 2 (0 : Int64))) (ls_48_20 ad cI cJ X S1 (0 : Int64)) (fun S2 H locs eS2 hw => ?_)
  have hV := hV S2 eS2
  refine lv_aload_n C0.x C0.b dX8_shaped_10 rfl (lv_at hl 0 rfl) ?_
  refine lv_lconst (v := 1) C0.x C0.b dX8_shaped_11 (by decide) ?_
  refine r_put C0 hw (C := RX8) (T := TX8) (N := 33) (ty := .long) iw_X8_shaped_X8 tyX8 tyX8_ok nmX8 (lg_48 ad cI cJ X S2) rfl 21 (by decide) (C0.ts _ fw_X8_shaped_176) rfl (by decide +kernel) rfl rfl (Nat.le_of_ble_eq_true rfl) dX8_shaped_12 (S' := (sJ S2 3 (1 : Int64))) (ls_48_21 ad cI cJ X S2 (1 : Int64)) (fun S3 H locs eS3 hw => ?_)
  have hV := hV S3 eS3
  refine lv_iconst (v := 0) C0.x C0.b dX8_shaped_15 (by decide) ?_
  refine lv_istore_n (lv' := [(3, .int (0 : Int32)), (0, .ref (ad 48)), (1, .ref (ad pa0)), (2, .int p1)]) C0.x C0.b dX8_shaped_16 rfl hl (by decide) rfl (fun ls hl => ?_)
  obtain ⟨n17, hV⟩ := hV
  exact lp_X8_shaped_17 hO0 _ post C0  n17 _ _ hV _ _ hw _ (lv_sub hl [1, 2, 3, 0] rfl)
/-! StepBenchModel.isWord()Z -/
abbrev rm_X8_isWord : Room := { frames := 0, cells := 0, slots := 0, locals := 0 }
set_option maxRecDepth 20000 in
theorem fw_X8_isWord_108 : Cond.fieldLink RX8 108 "StepBenchModel" "sort" "I" ∈ wsX8_isWord := by decide +kernel
set_option maxRecDepth 20000 in
theorem iw_X8_isWord_X8 : ∀ w ∈ wsX80, w ∈ wsX8_isWord := by decide +kernel
set_option maxRecDepth 20000 in
theorem fw_X8_isWord_127 : Cond.fieldLink RX8 127 "StepBenchModel" "words" "I" ∈ wsX8_isWord := by decide +kernel
set_option maxRecDepth 20000 in
theorem fw_X8_isWord_35 : Cond.fieldLink RX8 35 "StepBenchModel" "word" "[I" ∈ wsX8_isWord := by decide +kernel
set_option maxRecDepth 20000 in
theorem fw_X8_isWord_105 : Cond.fieldLink RX8 105 "StepBenchModel" "m" "I" ∈ wsX8_isWord := by decide +kernel
set_option maxRecDepth 20000 in
theorem hd_X8_isWord : yX8_isWord.cls = RX8 ∧ yX8_isWord.cls ≠ "java/lang/invoke/MethodHandle" ∧ yX8_isWord.cls ≠ "java/lang/invoke/VarHandle" ∧ (parseMethodDescriptor yX8_isWord.desc).map (fun d => d.parameters.length) = some 0 := by decide +kernel
def V_X8_isWord_23    (post : Int32 → SS → Prop) : Nat → Int32 → Int32 → SS → Prop
  | 0, _, _, _ => False
  | n + 1, v1, v2, S =>
    (((gI S 29) ≤ v2 → (bz v1 ∧ post v1 S)) ∧ (¬ (gI S 29) ≤ v2 → ((v1 = 0 → (bz v1 ∧ post v1 S)) ∧ (¬ v1 = 0 → (vp_in v2 40 ∧ (((gI S 26) ≤ (gB S 0 v2.toNatClampNeg) → (∀ x6 : Int32, x6 = v2 + 1 → (V_X8_isWord_23    post n (0 : Int32) x6 S))) ∧ (¬ (gI S 26) ≤ (gB S 0 v2.toNatClampNeg) → (∀ x7 : Int32, x7 = v2 + 1 → (V_X8_isWord_23    post n (1 : Int32) x7 S)))))))))
set_option maxHeartbeats 4000000 in
set_option maxRecDepth 100000 in
theorem lp_X8_isWord_23    (post : Int32 → SS → Prop) (C0 : Bd p s m meth c args cX8_isWord 3 (some .boolean) wsX8_isWord RX8 D n0 cI cJ) : ∀ (n : Nat) (v1 : Int32) (v2 : Int32) (S : SS), V_X8_isWord_23    post n v1 v2 S → ∀ (H : Heap) (locs : List Loc), Wh D n0 ad cI cJ X S s H locs → ∀ ls : Array Slot, lv_has ls 3 [(0, .ref (ad 48)), (1, .int v1), (2, .int v2)] → W p l e rm_X8_isWord s m args below meth c H locs 0 0 (MQ below (va_Qi post (fun S' t => Wd D n0 ad cI cJ X S' t) (fr n0)) args s 0 0 (fr n0)) (F0 m 23 ls []) := by
  intro n
  induction n with
  | zero => intro v1 v2 S hV; exact False.elim hV
  | succ n ih =>
    intro v1 v2 S hV H locs hw ls hl
    rw [V_X8_isWord_23] at hV
    refine lv_iload_n C0.x C0.b dX8_isWord_23 rfl (lv_at hl 2 rfl) ?_
    refine lv_aload_n C0.x C0.b dX8_isWord_24 rfl (lv_at hl 0 rfl) ?_
    refine r_get C0 hw (C := RX8) (T := TX8) (N := 33) (v := .int (gI S 29)) iw_X8_isWord_X8 (lg_48 ad cI cJ X S) rfl 18 (by decide) (C0.ts _ fw_X8_isWord_127) rfl dX8_isWord_25 ?_
    refine lv_icmp_ge (tgt := 60) C0.x C0.b dX8_isWord_28 (by decide) (fun c3 => ?_) (fun c3 => ?_)
    · have hV := hV.1 c3
      refine lv_iload_n C0.x C0.b dX8_isWord_60 rfl (lv_at hl 1 rfl) ?_
      exact r_zret C0 rfl hV.1 hw hV.2 dX8_isWord_61
    · have hV := hV.2 c3
      refine lv_iload_n C0.x C0.b dX8_isWord_31 rfl (lv_at hl 1 rfl) ?_
      refine lv_if_eq (tgt := 60) C0.x C0.b dX8_isWord_32 (by decide) (fun c4 => ?_) (fun c4 => ?_)
      · have hV := hV.1 c4
        refine lv_iload_n C0.x C0.b dX8_isWord_60 rfl (lv_at hl 1 rfl) ?_
        exact r_zret C0 rfl hV.1 hw hV.2 dX8_isWord_61
      · have hV := hV.2 c4
        refine lv_aload_n C0.x C0.b dX8_isWord_35 rfl (lv_at hl 0 rfl) ?_
        refine r_get C0 hw (C := RX8) (T := TX8) (N := 33) (v := .ref (ad 56)) iw_X8_isWord_X8 (lg_48 ad cI cJ X S) rfl 17 (by decide) (C0.ts _ fw_X8_isWord_35) rfl dX8_isWord_36 ?_
        refine lv_iload_n C0.x C0.b dX8_isWord_39 rfl (lv_at hl 2 rfl) ?_
        refine r_iald C0 hw (lg_56 ad cI cJ X S) hV.1 dX8_isWord_40 ?_
        have hV := hV.2
        refine lv_aload_n C0.x C0.b dX8_isWord_41 rfl (lv_at hl 0 rfl) ?_
        refine r_get C0 hw (C := RX8) (T := TX8) (N := 33) (v := .int (gI S 26)) iw_X8_isWord_X8 (lg_48 ad cI cJ X S) rfl 8 (by decide) (C0.ts _ fw_X8_isWord_105) rfl dX8_isWord_42 ?_
        refine lv_icmp_ge (tgt := 52) C0.x C0.b dX8_isWord_45 (by decide) (fun c5 => ?_) (fun c5 => ?_)
        · have hV := hV.1 c5
          refine lv_iconst (v := 0) C0.x C0.b dX8_isWord_52 (by decide) ?_
          refine lv_istore_n (lv' := [(1, .int (0 : Int32)), (0, .ref (ad 48)), (2, .int v2)]) C0.x C0.b dX8_isWord_53 rfl hl (by decide) rfl (fun ls hl => ?_)
          obtain ⟨x6, ex6⟩ : ∃ z : Int32, z = v2 + 1 := ⟨_, rfl⟩
          have hV := hV x6 ex6
          refine lv_iinc (v := x6) (lv' := [(2, .int x6), (1, .int (0 : Int32)), (0, .ref (ad 48))]) C0.x C0.b dX8_isWord_54 hl (k := 2) rfl (by rw [ex6]; rfl) (by decide) rfl (fun ls hl => ?_)
          refine lv_goto (tgt := 23) C0.x C0.b dX8_isWord_57 (by decide) ?_
          exact ih _ _ _ hV _ _ hw _ (lv_sub hl [2, 1, 0] rfl)
        · have hV := hV.2 c5
          refine lv_iconst (v := 1) C0.x C0.b dX8_isWord_48 (by decide) ?_
          refine lv_goto (tgt := 53) C0.x C0.b dX8_isWord_49 (by decide) ?_
          refine lv_istore_n (lv' := [(1, .int (1 : Int32)), (0, .ref (ad 48)), (2, .int v2)]) C0.x C0.b dX8_isWord_53 rfl hl (by decide) rfl (fun ls hl => ?_)
          obtain ⟨x7, ex7⟩ : ∃ z : Int32, z = v2 + 1 := ⟨_, rfl⟩
          have hV := hV x7 ex7
          refine lv_iinc (v := x7) (lv' := [(2, .int x7), (1, .int (1 : Int32)), (0, .ref (ad 48))]) C0.x C0.b dX8_isWord_54 hl (k := 2) rfl (by rw [ex7]; rfl) (by decide) rfl (fun ls hl => ?_)
          refine lv_goto (tgt := 23) C0.x C0.b dX8_isWord_57 (by decide) ?_
          exact ih _ _ _ hV _ _ hw _ (lv_sub hl [2, 1, 0] rfl)
def V_X8_isWord   (S : SS) (post : Int32 → SS → Prop) : Prop :=
  (((gI S 25) = (1 : Int32) → (((gI S 29) ≤ 0 → (∃ n23 : Nat, V_X8_isWord_23    post n23 (0 : Int32) (0 : Int32) S)) ∧ (¬ (gI S 29) ≤ 0 → (∃ n23 : Nat, V_X8_isWord_23    post n23 (1 : Int32) (0 : Int32) S)))) ∧ (¬ (gI S 25) = (1 : Int32) → (∃ n23 : Nat, V_X8_isWord_23    post n23 (0 : Int32) (0 : Int32) S)))
set_option maxHeartbeats 4000000 in
set_option maxRecDepth 100000 in
theorem c_X8_isWord  {S : SS}  {post : Int32 → SS → Prop} (hV : V_X8_isWord   S post) : MI l yX8_isWord wsX8_isWord rm_X8_isWord [.ref (ad 48)] D n0 ad cI cJ X S post := by
  refine Met.ofW (cc := cX8_isWord) (maxL := 3) (ret := (some .boolean)) (by decide) rfl ?_
  intro p e s m args below meth c s₁ B hml hv
  obtain ⟨rfl, hv⟩ := hv
  have C0 := Bd.mk B hml (atoms_spec (ws := wsX8_isWord) B.pre) (findClass_of_methodNamed B.named) hv.1
  have hw : Wh D n0 ad cI cJ X S s s.heap [] := ⟨hv.2.1, hv.2.2, va_S.rf⟩
  refine r_entry (Nat.le_of_ble_eq_true rfl) (fun ls hl => ?_)
  have hl : lv_has ls 3 [(0, .ref (ad 48))] := hl
  unfold V_X8_isWord at hV
  refine lv_aload_n C0.x C0.b dX8_isWord_0 rfl (lv_at hl 0 rfl) ?_
  refine r_get C0 hw (C := RX8) (T := TX8) (N := 33) (v := .int (gI S 25)) iw_X8_isWord_X8 (lg_48 ad cI cJ X S) rfl 7 (by decide) (C0.ts _ fw_X8_isWord_108) rfl dX8_isWord_1 ?_
  refine lv_iconst (v := 1) C0.x C0.b dX8_isWord_4 (by decide) ?_
  refine lv_icmp_ne (tgt := 19) C0.x C0.b dX8_isWord_5 (by decide) (fun c1 => ?_) (fun c1 => ?_)
  · have hV := hV.2 c1
    refine lv_iconst (v := 0) C0.x C0.b dX8_isWord_19 (by decide) ?_
    refine lv_istore_n (lv' := [(1, .int (0 : Int32)), (0, .ref (ad 48))]) C0.x C0.b dX8_isWord_20 rfl hl (by decide) rfl (fun ls hl => ?_)
    refine lv_iconst (v := 0) C0.x C0.b dX8_isWord_21 (by decide) ?_
    refine lv_istore_n (lv' := [(2, .int (0 : Int32)), (1, .int (0 : Int32)), (0, .ref (ad 48))]) C0.x C0.b dX8_isWord_22 rfl hl (by decide) rfl (fun ls hl => ?_)
    obtain ⟨n23, hV⟩ := hV
    exact lp_X8_isWord_23   post C0  n23 _ _ _ hV _ _ hw _ (lv_sub hl [2, 1, 0] rfl)
  · have hV := hV.1 c1
    refine lv_aload_n C0.x C0.b dX8_isWord_8 rfl (lv_at hl 0 rfl) ?_
    refine r_get C0 hw (C := RX8) (T := TX8) (N := 33) (v := .int (gI S 29)) iw_X8_isWord_X8 (lg_48 ad cI cJ X S) rfl 18 (by decide) (C0.ts _ fw_X8_isWord_127) rfl dX8_isWord_9 ?_
    refine lv_if_le (tgt := 19) C0.x C0.b dX8_isWord_12 (by decide) (fun c2 => ?_) (fun c2 => ?_)
    · have hV := hV.1 c2
      refine lv_iconst (v := 0) C0.x C0.b dX8_isWord_19 (by decide) ?_
      refine lv_istore_n (lv' := [(1, .int (0 : Int32)), (0, .ref (ad 48))]) C0.x C0.b dX8_isWord_20 rfl hl (by decide) rfl (fun ls hl => ?_)
      refine lv_iconst (v := 0) C0.x C0.b dX8_isWord_21 (by decide) ?_
      refine lv_istore_n (lv' := [(2, .int (0 : Int32)), (1, .int (0 : Int32)), (0, .ref (ad 48))]) C0.x C0.b dX8_isWord_22 rfl hl (by decide) rfl (fun ls hl => ?_)
      obtain ⟨n23, hV⟩ := hV
      exact lp_X8_isWord_23   post C0  n23 _ _ _ hV _ _ hw _ (lv_sub hl [2, 1, 0] rfl)
    · have hV := hV.2 c2
      refine lv_iconst (v := 1) C0.x C0.b dX8_isWord_15 (by decide) ?_
      refine lv_goto (tgt := 20) C0.x C0.b dX8_isWord_16 (by decide) ?_
      refine lv_istore_n (lv' := [(1, .int (1 : Int32)), (0, .ref (ad 48))]) C0.x C0.b dX8_isWord_20 rfl hl (by decide) rfl (fun ls hl => ?_)
      refine lv_iconst (v := 0) C0.x C0.b dX8_isWord_21 (by decide) ?_
      refine lv_istore_n (lv' := [(2, .int (0 : Int32)), (1, .int (1 : Int32)), (0, .ref (ad 48))]) C0.x C0.b dX8_isWord_22 rfl hl (by decide) rfl (fun ls hl => ?_)
      obtain ⟨n23, hV⟩ := hV
      exact lp_X8_isWord_23   post C0  n23 _ _ _ hV _ _ hw _ (lv_sub hl [2, 1, 0] rfl)
/-! StepBenchModel.shape()I -/
abbrev rm_X8_shape : Room := { frames := 3, cells := 0, slots := 0, locals := 77 }
set_option maxRecDepth 20000 in
theorem fw_X8_shape_61 : Cond.fieldLink RX8 61 "StepBenchModel" "thrown" "I" ∈ wsX8_shape := by decide +kernel
set_option maxRecDepth 20000 in
theorem iw_X8_shape_X8 : ∀ w ∈ wsX80, w ∈ wsX8_shape := by decide +kernel
set_option maxRecDepth 20000 in
theorem fw_X8_shape_35 : Cond.fieldLink RX8 35 "StepBenchModel" "word" "[I" ∈ wsX8_shape := by decide +kernel
set_option maxRecDepth 20000 in
theorem fw_X8_shape_127 : Cond.fieldLink RX8 127 "StepBenchModel" "words" "I" ∈ wsX8_shape := by decide +kernel
set_option maxRecDepth 20000 in
theorem fw_X8_shape_32 : Cond.fieldLink RX8 32 "StepBenchModel" "found" "[J" ∈ wsX8_shape := by decide +kernel
set_option maxRecDepth 20000 in
theorem fw_X8_shape_170 : Cond.fieldLink RX8 170 "StepBenchModel" "shapeA" "J" ∈ wsX8_shape := by decide +kernel
set_option maxRecDepth 20000 in
theorem fw_X8_shape_173 : Cond.fieldLink RX8 173 "StepBenchModel" "shapeB" "J" ∈ wsX8_shape := by decide +kernel
set_option maxRecDepth 20000 in
theorem fw_X8_shape_176 : Cond.fieldLink RX8 176 "StepBenchModel" "shapeD" "J" ∈ wsX8_shape := by decide +kernel
set_option maxRecDepth 20000 in
theorem hd_X8_shape : yX8_shape.cls = RX8 ∧ yX8_shape.cls ≠ "java/lang/invoke/MethodHandle" ∧ yX8_shape.cls ≠ "java/lang/invoke/VarHandle" ∧ (parseMethodDescriptor yX8_shape.desc).map (fun d => d.parameters.length) = some 0 := by decide +kernel
def V_X8_shape   (S : SS) (post : Int32 → SS → Prop) : Prop :=
  (∀ S1 : SS, S1 = (sI S 20 (0 : Int32)) → (V_X8_isWord  S1 (fun (r2 : Int32) (S3 : SS) => ((r2 = 0 → (post (-1 : Int32) S3)) ∧ (¬ r2 = 0 → (V_X8_shaped 0 40 (gI S3 29) S3 (fun (r5 : Int32) (S6 : SS) => ((r5 = 0 → (post (-2 : Int32) S6)) ∧ (¬ r5 = 0 → (vp_in (0 : Int32) 20000 ∧ ∀ S8 : SS, S8 = (sA S6 36 (vp_updL (gA S6 36) (0 : Int32).toNatClampNeg (gJ S6 1))) → (vp_in (1 : Int32) 20000 ∧ ∀ S9 : SS, S9 = (sA S8 36 (vp_updL (gA S8 36) (1 : Int32).toNatClampNeg (gJ S8 2))) → (vp_in (2 : Int32) 20000 ∧ ∀ S10 : SS, S10 = (sA S9 36 (vp_updL (gA S9 36) (2 : Int32).toNatClampNeg (gJ S9 3))) → (V_X8_tells (3 : Int32) S10 (fun (S12 : SS) => (post (1 : Int32) S12)))))))))))))))
set_option maxHeartbeats 4000000 in
set_option maxRecDepth 100000 in
theorem c_X8_shape  {S : SS}  {post : Int32 → SS → Prop} (hV : V_X8_shape   S post) : MI l yX8_shape wsX8_shape rm_X8_shape [.ref (ad 48)] D n0 ad cI cJ X S post := by
  refine Met.ofW (cc := cX8_shape) (maxL := 1) (ret := (some .int)) (by decide) rfl ?_
  intro p e s m args below meth c s₁ B hml hv
  obtain ⟨rfl, hv⟩ := hv
  have C0 := Bd.mk B hml (atoms_spec (ws := wsX8_shape) B.pre) (findClass_of_methodNamed B.named) hv.1
  have hw : Wh D n0 ad cI cJ X S s s.heap [] := ⟨hv.2.1, hv.2.2, va_S.rf⟩
  refine r_entry (Nat.le_of_ble_eq_true rfl) (fun ls hl => ?_)
  have hl : lv_has ls 1 [(0, .ref (ad 48))] := hl
  unfold V_X8_shape at hV
  refine lv_aload_n C0.x C0.b dX8_shape_0 rfl (lv_at hl 0 rfl) ?_
  refine lv_iconst (v := 0) C0.x C0.b dX8_shape_1 (by decide) ?_
  refine r_put C0 hw (C := RX8) (T := TX8) (N := 33) (ty := .int) iw_X8_shape_X8 tyX8 tyX8_ok nmX8 (lg_48 ad cI cJ X S) rfl 0 (by decide) (C0.ts _ fw_X8_shape_61) rfl (by decide +kernel) rfl rfl (Nat.le_of_ble_eq_true rfl) dX8_shape_2 (S' := (sI S 20 (0 : Int32))) (ls_48_0 ad cI cJ X S (0 : Int32)) (fun S1 H locs eS1 hw => ?_)
  have hV := hV S1 eS1
  refine lv_aload_n C0.x C0.b dX8_shape_5 rfl (lv_at hl 0 rfl) ?_
  refine r_cV_i (As := []) (rest := []) C0 hw (c_X8_isWord  hV) (cwV 0 C0.ts gX8_shape_X8_isWord rfl rfl rfl hd_X8_isWord ⟨Nat.le_of_ble_eq_true rfl, Nat.le_of_ble_eq_true rfl⟩) (lg_48 ad cI cJ X S1) rfl rfl hl.1 rfl (Nat.le_of_ble_eq_true rfl) ⟨Nat.zero_le _, Nat.zero_le _⟩ dX8_shape_6 (fun r2 S3 H locs hV hw => ?_)
  refine lv_if_ne (tgt := 14) C0.x C0.b dX8_shape_9 (by decide) (fun c4 => ?_) (fun c4 => ?_)
  · have hV := hV.2 c4
    refine lv_aload_n C0.x C0.b dX8_shape_14 rfl (lv_at hl 0 rfl) ?_
    refine lv_aload_n C0.x C0.b dX8_shape_15 rfl (lv_at hl 0 rfl) ?_
    refine r_get C0 hw (C := RX8) (T := TX8) (N := 33) (v := .ref (ad 56)) iw_X8_shape_X8 (lg_48 ad cI cJ X S3) rfl 17 (by decide) (C0.ts _ fw_X8_shape_35) rfl dX8_shape_16 ?_
    refine lv_aload_n C0.x C0.b dX8_shape_19 rfl (lv_at hl 0 rfl) ?_
    refine r_get C0 hw (C := RX8) (T := TX8) (N := 33) (v := .int (gI S3 29)) iw_X8_shape_X8 (lg_48 ad cI cJ X S3) rfl 18 (by decide) (C0.ts _ fw_X8_shape_127) rfl dX8_shape_20 ?_
    refine r_cV_i (As := [.ref (ad 56), .int (gI S3 29)]) (rest := []) C0 hw (c_X8_shaped (la_56 ad cI cJ X) hV) (cwV 2 C0.ts gX8_shape_X8_shaped rfl rfl rfl hd_X8_shaped ⟨Nat.le_of_ble_eq_true rfl, Nat.le_of_ble_eq_true rfl⟩) (lg_48 ad cI cJ X S3) rfl rfl hl.1 rfl (Nat.le_of_ble_eq_true rfl) ⟨Nat.zero_le _, Nat.zero_le _⟩ dX8_shape_23 (fun r5 S6 H locs hV hw => ?_)
    refine lv_if_ne (tgt := 32) C0.x C0.b dX8_shape_26 (by decide) (fun c7 => ?_) (fun c7 => ?_)
    · have hV := hV.2 c7
      refine lv_aload_n C0.x C0.b dX8_shape_32 rfl (lv_at hl 0 rfl) ?_
      refine r_get C0 hw (C := RX8) (T := TX8) (N := 33) (v := .ref (ad 55)) iw_X8_shape_X8 (lg_48 ad cI cJ X S6) rfl 16 (by decide) (C0.ts _ fw_X8_shape_32) rfl dX8_shape_33 ?_
      refine lv_iconst (v := 0) C0.x C0.b dX8_shape_36 (by decide) ?_
      refine lv_aload_n C0.x C0.b dX8_shape_37 rfl (lv_at hl 0 rfl) ?_
      refine r_get C0 hw (C := RX8) (T := TX8) (N := 33) (v := .long (gJ S6 1)) iw_X8_shape_X8 (lg_48 ad cI cJ X S6) rfl 19 (by decide) (C0.ts _ fw_X8_shape_170) rfl dX8_shape_38 ?_
      refine r_last C0 hw (lg_55 ad cI cJ X S6) hV.1 dX8_shape_41 (S' := (sA S6 36 (vp_updL (gA S6 36) (0 : Int32).toNatClampNeg (gJ S6 1)))) (ls_55 ad cI cJ X S6 (vp_updL (gA S6 36) (0 : Int32).toNatClampNeg (gJ S6 1))) (fun S8 H locs eS8 hw => ?_)
      have hV := hV.2 S8 eS8
      refine lv_aload_n C0.x C0.b dX8_shape_42 rfl (lv_at hl 0 rfl) ?_
      refine r_get C0 hw (C := RX8) (T := TX8) (N := 33) (v := .ref (ad 55)) iw_X8_shape_X8 (lg_48 ad cI cJ X S8) rfl 16 (by decide) (C0.ts _ fw_X8_shape_32) rfl dX8_shape_43 ?_
      refine lv_iconst (v := 1) C0.x C0.b dX8_shape_46 (by decide) ?_
      refine lv_aload_n C0.x C0.b dX8_shape_47 rfl (lv_at hl 0 rfl) ?_
      refine r_get C0 hw (C := RX8) (T := TX8) (N := 33) (v := .long (gJ S8 2)) iw_X8_shape_X8 (lg_48 ad cI cJ X S8) rfl 20 (by decide) (C0.ts _ fw_X8_shape_173) rfl dX8_shape_48 ?_
      refine r_last C0 hw (lg_55 ad cI cJ X S8) hV.1 dX8_shape_51 (S' := (sA S8 36 (vp_updL (gA S8 36) (1 : Int32).toNatClampNeg (gJ S8 2)))) (ls_55 ad cI cJ X S8 (vp_updL (gA S8 36) (1 : Int32).toNatClampNeg (gJ S8 2))) (fun S9 H locs eS9 hw => ?_)
      have hV := hV.2 S9 eS9
      refine lv_aload_n C0.x C0.b dX8_shape_52 rfl (lv_at hl 0 rfl) ?_
      refine r_get C0 hw (C := RX8) (T := TX8) (N := 33) (v := .ref (ad 55)) iw_X8_shape_X8 (lg_48 ad cI cJ X S9) rfl 16 (by decide) (C0.ts _ fw_X8_shape_32) rfl dX8_shape_53 ?_
      refine lv_iconst (v := 2) C0.x C0.b dX8_shape_56 (by decide) ?_
      refine lv_aload_n C0.x C0.b dX8_shape_57 rfl (lv_at hl 0 rfl) ?_
      refine r_get C0 hw (C := RX8) (T := TX8) (N := 33) (v := .long (gJ S9 3)) iw_X8_shape_X8 (lg_48 ad cI cJ X S9) rfl 21 (by decide) (C0.ts _ fw_X8_shape_176) rfl dX8_shape_58 ?_
      refine r_last C0 hw (lg_55 ad cI cJ X S9) hV.1 dX8_shape_61 (S' := (sA S9 36 (vp_updL (gA S9 36) (2 : Int32).toNatClampNeg (gJ S9 3)))) (ls_55 ad cI cJ X S9 (vp_updL (gA S9 36) (2 : Int32).toNatClampNeg (gJ S9 3))) (fun S10 H locs eS10 hw => ?_)
      have hV := hV.2 S10 eS10
      refine lv_aload_n C0.x C0.b dX8_shape_62 rfl (lv_at hl 0 rfl) ?_
      refine lv_iconst (v := 3) C0.x C0.b dX8_shape_63 (by decide) ?_
      refine r_cV_v (As := [.int (3 : Int32)]) (rest := []) C0 hw (c_X8_tells  hV) (cwV 1 C0.ts gX8_shape_X8_tells rfl rfl rfl hd_X8_tells ⟨Nat.le_of_ble_eq_true rfl, Nat.le_of_ble_eq_true rfl⟩) (lg_48 ad cI cJ X S10) rfl rfl hl.1 rfl (Nat.le_of_ble_eq_true rfl) ⟨Nat.zero_le _, Nat.zero_le _⟩ dX8_shape_64 (fun S12 H locs hV hw => ?_)
      refine lv_iconst (v := 1) C0.x C0.b dX8_shape_67 (by decide) ?_
      exact r_iret C0 rfl hw hV dX8_shape_68
    · have hV := hV.1 c7
      refine lv_bipush (v := -2) C0.x C0.b dX8_shape_29 (by decide) ?_
      exact r_iret C0 rfl hw hV dX8_shape_31
  · have hV := hV.1 c4
    refine lv_iconst (v := -1) C0.x C0.b dX8_shape_12 (by decide) ?_
    exact r_iret C0 rfl hw hV dX8_shape_13
/-! StepBenchModel.ringOf([II)I -/
abbrev rm_X8_ringOf : Room := { frames := 4, cells := 0, slots := 0, locals := 95 }
set_option maxRecDepth 20000 in
theorem fw_X8_ringOf_170 : Cond.fieldLink RX8 170 "StepBenchModel" "shapeA" "J" ∈ wsX8_ringOf := by decide +kernel
set_option maxRecDepth 20000 in
theorem iw_X8_ringOf_X8 : ∀ w ∈ wsX80, w ∈ wsX8_ringOf := by decide +kernel
set_option maxRecDepth 20000 in
theorem fw_X8_ringOf_176 : Cond.fieldLink RX8 176 "StepBenchModel" "shapeD" "J" ∈ wsX8_ringOf := by decide +kernel
set_option maxRecDepth 20000 in
theorem fw_X8_ringOf_173 : Cond.fieldLink RX8 173 "StepBenchModel" "shapeB" "J" ∈ wsX8_ringOf := by decide +kernel
set_option maxRecDepth 20000 in
theorem fw_X8_ringOf_187 : Cond.fieldLink RX8 187 "StepBenchModel" "ringX" "J" ∈ wsX8_ringOf := by decide +kernel
set_option maxRecDepth 20000 in
theorem fw_X8_ringOf_190 : Cond.fieldLink RX8 190 "StepBenchModel" "ringLeast" "J" ∈ wsX8_ringOf := by decide +kernel
set_option maxRecDepth 20000 in
theorem fw_X8_ringOf_193 : Cond.fieldLink RX8 193 "StepBenchModel" "isUnlike" "Z" ∈ wsX8_ringOf := by decide +kernel
set_option maxRecDepth 20000 in
theorem fw_X8_ringOf_146 : Cond.fieldLink RX8 146 "StepBenchModel" "at" "J" ∈ wsX8_ringOf := by decide +kernel
set_option maxRecDepth 20000 in
theorem fw_X8_ringOf_105 : Cond.fieldLink RX8 105 "StepBenchModel" "m" "I" ∈ wsX8_ringOf := by decide +kernel
set_option maxRecDepth 20000 in
theorem ml_X8_ringOf_196 : Cond.methodLink RX8 196 Lib.MathLoose.min_long.x ∈ wsX8_ringOf := by decide +kernel
set_option maxRecDepth 20000 in
theorem ms_X8_ringOf_196 : Cond.static Lib.MathLoose.min_long.x ∈ wsX8_ringOf := by decide +kernel
set_option maxRecDepth 20000 in
theorem mi_X8_ringOf_196 : Cond.initialized "java/lang/Math" ∈ wsX8_ringOf := by decide +kernel
set_option maxRecDepth 20000 in
theorem mc_X8_ringOf_196 : Cond.code Lib.MathLoose.min_long.x Lib.MathLoose.min_long.code 4 (some .long) ∈ wsX8_ringOf := by decide +kernel
set_option maxRecDepth 20000 in
theorem hd_X8_ringOf : yX8_ringOf.cls = RX8 ∧ yX8_ringOf.cls ≠ "java/lang/invoke/MethodHandle" ∧ yX8_ringOf.cls ≠ "java/lang/invoke/VarHandle" ∧ (parseMethodDescriptor yX8_ringOf.desc).map (fun d => d.parameters.length) = some 2 := by decide +kernel
def V_X8_ringOf_84 (bi0 L0 : Nat) (v2 : Int32)  (post : Int32 → SS → Prop) : Nat → Int32 → SS → Prop
  | 0, _, _ => False
  | n + 1, v5, S =>
    ((v2 ≤ v5 → (((gJ S 0) = (gJ S 4) → (post (1 : Int32) S)) ∧ (¬ (gJ S 0) = (gJ S 4) → (post (0 : Int32) S)))) ∧ (¬ v2 ≤ v5 → (V_X8_isNumber (gJ S 0) S (fun (r11 : Int32) (S12 : SS) => ((r11 = 0 → (post (0 : Int32) S12)) ∧ (¬ r11 = 0 → (V_X8_restBy (gJ S12 0) (gI S12 26) S12 (fun (r14 : Int64) (S15 : SS) => (vp_in v5 L0 ∧ ((r14 = (gB S15 bi0 v5.toNatClampNeg).toInt64 → (((gI S15 30) = 0 → (∀ S18 : SS, S18 = (sI S15 30 (0 : Int32)) → (∀ y19 : Int64, y19 = (mnL (gJ S18 5) (gJ S18 0)) → (∀ S20 : SS, S20 = (sJ S18 5 y19) → (V_X8_goes (gJ S20 0) S20 (fun (r21 : Int32) (S22 : SS) => ((r21 = 0 → (∀ x24 : Int32, x24 = v5 + 1 → (V_X8_ringOf_84 bi0 L0 v2  post n x24 S22))) ∧ (¬ r21 = 0 → (post (0 : Int32) S22))))))))) ∧ (¬ (gI S15 30) = 0 → ((v5 = 0 → (∀ S26 : SS, S26 = (sI S15 30 (1 : Int32)) → (∀ y27 : Int64, y27 = (mnL (gJ S26 5) (gJ S26 0)) → (∀ S28 : SS, S28 = (sJ S26 5 y27) → (V_X8_goes (gJ S28 0) S28 (fun (r29 : Int32) (S30 : SS) => ((r29 = 0 → (∀ x32 : Int32, x32 = v5 + 1 → (V_X8_ringOf_84 bi0 L0 v2  post n x32 S30))) ∧ (¬ r29 = 0 → (post (0 : Int32) S30))))))))) ∧ (¬ v5 = 0 → (((gJ S15 0) = (gJ S15 4) → (∀ S34 : SS, S34 = (sI S15 30 (0 : Int32)) → (∀ y35 : Int64, y35 = (mnL (gJ S34 5) (gJ S34 0)) → (∀ S36 : SS, S36 = (sJ S34 5 y35) → (V_X8_goes (gJ S36 0) S36 (fun (r37 : Int32) (S38 : SS) => ((r37 = 0 → (∀ x40 : Int32, x40 = v5 + 1 → (V_X8_ringOf_84 bi0 L0 v2  post n x40 S38))) ∧ (¬ r37 = 0 → (post (0 : Int32) S38))))))))) ∧ (¬ (gJ S15 0) = (gJ S15 4) → (∀ S41 : SS, S41 = (sI S15 30 (1 : Int32)) → (∀ y42 : Int64, y42 = (mnL (gJ S41 5) (gJ S41 0)) → (∀ S43 : SS, S43 = (sJ S41 5 y42) → (V_X8_goes (gJ S43 0) S43 (fun (r44 : Int32) (S45 : SS) => ((r44 = 0 → (∀ x47 : Int32, x47 = v5 + 1 → (V_X8_ringOf_84 bi0 L0 v2  post n x47 S45))) ∧ (¬ r44 = 0 → (post (0 : Int32) S45))))))))))))))) ∧ (¬ r14 = (gB S15 bi0 v5.toNatClampNeg).toInt64 → (post (0 : Int32) S15))))))))))))
set_option maxHeartbeats 4000000 in
set_option maxRecDepth 100000 in
theorem lp_X8_ringOf_84 {pa0 bi0 L0 : Nat} (hO0 : lnB ad cI cJ X pa0 bi0 L0) (v2 : Int32)  (post : Int32 → SS → Prop) (C0 : Bd p s m meth c args cX8_ringOf 6 (some .int) wsX8_ringOf RX8 D n0 cI cJ) : ∀ (n : Nat) (v5 : Int32) (S : SS), V_X8_ringOf_84 bi0 L0 v2  post n v5 S → ∀ (H : Heap) (locs : List Loc), Wh D n0 ad cI cJ X S s H locs → ∀ ls : Array Slot, lv_has ls 6 [(0, .ref (ad 48)), (1, .ref (ad pa0)), (2, .int v2), (5, .int v5)] → W p l e rm_X8_ringOf s m args below meth c H locs 0 0 (MQ below (va_Qi post (fun S' t => Wd D n0 ad cI cJ X S' t) (fr n0)) args s 0 0 (fr n0)) (F0 m 84 ls []) := by
  intro n
  induction n with
  | zero => intro v5 S hV; exact False.elim hV
  | succ n ih =>
    intro v5 S hV H locs hw ls hl
    rw [V_X8_ringOf_84] at hV
    refine lv_iload C0.x C0.b dX8_ringOf_84 (lv_at hl 3 rfl) ?_
    refine lv_iload_n C0.x C0.b dX8_ringOf_86 rfl (lv_at hl 2 rfl) ?_
    refine lv_icmp_ge (tgt := 189) C0.x C0.b dX8_ringOf_87 (by decide) (fun c9 => ?_) (fun c9 => ?_)
    · have hV := hV.1 c9
      refine lv_aload_n C0.x C0.b dX8_ringOf_189 rfl (lv_at hl 0 rfl) ?_
      refine r_get C0 hw (C := RX8) (T := TX8) (N := 33) (v := .long (gJ S 0)) iw_X8_ringOf_X8 (lg_48 ad cI cJ X S) rfl 13 (by decide) (C0.ts _ fw_X8_ringOf_146) rfl dX8_ringOf_190 ?_
      refine lv_aload_n C0.x C0.b dX8_ringOf_193 rfl (lv_at hl 0 rfl) ?_
      refine r_get C0 hw (C := RX8) (T := TX8) (N := 33) (v := .long (gJ S 4)) iw_X8_ringOf_X8 (lg_48 ad cI cJ X S) rfl 23 (by decide) (C0.ts _ fw_X8_ringOf_187) rfl dX8_ringOf_194 ?_
      refine r_lcmp C0 dX8_ringOf_197 ?_
      refine lv_if_ne (tgt := 205) C0.x C0.b dX8_ringOf_198 (by decide) (fun c10 => ?_) (fun c10 => ?_)
      · have hV := hV.2 (fun h => c10 ((lc_eq _ _).mpr h))
        refine lv_iconst (v := 0) C0.x C0.b dX8_ringOf_205 (by decide) ?_
        exact r_iret C0 rfl hw hV dX8_ringOf_206
      · have hV := hV.1 ((lc_eq _ _).mp c10)
        refine lv_iconst (v := 1) C0.x C0.b dX8_ringOf_201 (by decide) ?_
        refine lv_goto (tgt := 206) C0.x C0.b dX8_ringOf_202 (by decide) ?_
        exact r_iret C0 rfl hw hV dX8_ringOf_206
    · have hV := hV.2 c9
      refine lv_aload_n C0.x C0.b dX8_ringOf_90 rfl (lv_at hl 0 rfl) ?_
      refine r_get C0 hw (C := RX8) (T := TX8) (N := 33) (v := .long (gJ S 0)) iw_X8_ringOf_X8 (lg_48 ad cI cJ X S) rfl 13 (by decide) (C0.ts _ fw_X8_ringOf_146) rfl dX8_ringOf_91 ?_
      refine r_cS_i (As := [.long (gJ S 0)]) (rest := []) C0 hw (c_X8_isNumber  hV) (va_cwS 1 C0.ts gX8_ringOf_X8_isNumber rfl rfl rfl hd_X8_isNumber ⟨Nat.le_of_ble_eq_true rfl, Nat.le_of_ble_eq_true rfl⟩) rfl hl.1 rfl (Nat.le_of_ble_eq_true rfl) ⟨Nat.zero_le _, Nat.zero_le _⟩ dX8_ringOf_94 (fun r11 S12 H locs hV hw => ?_)
      refine lv_if_eq (tgt := 120) C0.x C0.b dX8_ringOf_97 (by decide) (fun c13 => ?_) (fun c13 => ?_)
      · have hV := hV.1 c13
        refine lv_iconst (v := 0) C0.x C0.b dX8_ringOf_120 (by decide) ?_
        exact r_iret C0 rfl hw hV dX8_ringOf_121
      · have hV := hV.2 c13
        refine lv_aload_n C0.x C0.b dX8_ringOf_100 rfl (lv_at hl 0 rfl) ?_
        refine r_get C0 hw (C := RX8) (T := TX8) (N := 33) (v := .long (gJ S12 0)) iw_X8_ringOf_X8 (lg_48 ad cI cJ X S12) rfl 13 (by decide) (C0.ts _ fw_X8_ringOf_146) rfl dX8_ringOf_101 ?_
        refine lv_aload_n C0.x C0.b dX8_ringOf_104 rfl (lv_at hl 0 rfl) ?_
        refine r_get C0 hw (C := RX8) (T := TX8) (N := 33) (v := .int (gI S12 26)) iw_X8_ringOf_X8 (lg_48 ad cI cJ X S12) rfl 8 (by decide) (C0.ts _ fw_X8_ringOf_105) rfl dX8_ringOf_105 ?_
        refine r_cS_l (As := [.long (gJ S12 0), .int (gI S12 26)]) (rest := []) C0 hw (c_X8_restBy  hV) (va_cwS 2 C0.ts gX8_ringOf_X8_restBy rfl rfl rfl hd_X8_restBy ⟨Nat.le_of_ble_eq_true rfl, Nat.le_of_ble_eq_true rfl⟩) rfl hl.1 rfl (Nat.le_of_ble_eq_true rfl) ⟨Nat.zero_le _, Nat.zero_le _⟩ dX8_ringOf_108 (fun r14 S15 H locs hV hw => ?_)
        refine lv_aload_n C0.x C0.b dX8_ringOf_111 rfl (lv_at hl 1 rfl) ?_
        refine lv_iload C0.x C0.b dX8_ringOf_112 (lv_at hl 3 rfl) ?_
        refine r_iald C0 hw (hO0 S15).1 hV.1 dX8_ringOf_114 ?_
        have hV := hV.2
        refine lv_i2l C0.x C0.b dX8_ringOf_115 rfl ?_
        refine r_lcmp C0 dX8_ringOf_116 ?_
        refine lv_if_eq (tgt := 122) C0.x C0.b dX8_ringOf_117 (by decide) (fun c16 => ?_) (fun c16 => ?_)
        · have hV := hV.1 ((lc_eq _ _).mp c16)
          refine lv_aload_n C0.x C0.b dX8_ringOf_122 rfl (lv_at hl 0 rfl) ?_
          refine lv_aload_n C0.x C0.b dX8_ringOf_123 rfl (lv_at hl 0 rfl) ?_
          refine r_get C0 hw (C := RX8) (T := TX8) (N := 33) (v := .int (gI S15 30)) iw_X8_ringOf_X8 (lg_48 ad cI cJ X S15) rfl 25 (by decide) (C0.ts _ fw_X8_ringOf_193) rfl dX8_ringOf_124 ?_
          refine lv_if_eq (tgt := 151) C0.x C0.b dX8_ringOf_127 (by decide) (fun c17 => ?_) (fun c17 => ?_)
          · have hV := hV.1 c17
            refine lv_iconst (v := 0) C0.x C0.b dX8_ringOf_151 (by decide) ?_
            refine r_put C0 hw (C := RX8) (T := TX8) (N := 33) (ty := .boolean) iw_X8_ringOf_X8 tyX8 tyX8_ok nmX8 (lg_48 ad cI cJ X S15) rfl 25 (by decide) (C0.ts _ fw_X8_ringOf_193) rfl (by decide +kernel) rfl rfl (Nat.le_of_ble_eq_true rfl) dX8_ringOf_152 (S' := (sI S15 30 (0 : Int32))) (ls_48_25 ad cI cJ X S15 (0 : Int32)) (fun S18 H locs eS18 hw => ?_)
            have hV := hV S18 eS18
            refine lv_aload_n C0.x C0.b dX8_ringOf_155 rfl (lv_at hl 0 rfl) ?_
            refine lv_aload_n C0.x C0.b dX8_ringOf_156 rfl (lv_at hl 0 rfl) ?_
            refine r_get C0 hw (C := RX8) (T := TX8) (N := 33) (v := .long (gJ S18 5)) iw_X8_ringOf_X8 (lg_48 ad cI cJ X S18) rfl 24 (by decide) (C0.ts _ fw_X8_ringOf_190) rfl dX8_ringOf_157 ?_
            refine lv_aload_n C0.x C0.b dX8_ringOf_160 rfl (lv_at hl 0 rfl) ?_
            refine r_get C0 hw (C := RX8) (T := TX8) (N := 33) (v := .long (gJ S18 0)) iw_X8_ringOf_X8 (lg_48 ad cI cJ X S18) rfl 13 (by decide) (C0.ts _ fw_X8_ringOf_146) rfl dX8_ringOf_161 ?_
            refine va_mmin_long C0.x C0.b (C0.ml.trans hl.1.symm) C0.ow (C0.ts _ ml_X8_ringOf_196) (C0.ts _ ms_X8_ringOf_196) (C0.ts _ mi_X8_ringOf_196) (C0.ts _ mc_X8_ringOf_196) (Nat.le_of_ble_eq_true rfl) (Nat.le_of_ble_eq_true rfl) (Nat.zero_le _) (Nat.zero_le _) dX8_ringOf_164 ?_
            refine lv_topl (fun y19 ey19 => ?_)
            have hV := hV y19 ey19
            refine r_put C0 hw (C := RX8) (T := TX8) (N := 33) (ty := .long) iw_X8_ringOf_X8 tyX8 tyX8_ok nmX8 (lg_48 ad cI cJ X S18) rfl 24 (by decide) (C0.ts _ fw_X8_ringOf_190) rfl (by decide +kernel) rfl rfl (Nat.le_of_ble_eq_true rfl) dX8_ringOf_167 (S' := (sJ S18 5 y19)) (ls_48_24 ad cI cJ X S18 y19) (fun S20 H locs eS20 hw => ?_)
            have hV := hV S20 eS20
            refine lv_aload_n C0.x C0.b dX8_ringOf_170 rfl (lv_at hl 0 rfl) ?_
            refine lv_aload_n C0.x C0.b dX8_ringOf_171 rfl (lv_at hl 0 rfl) ?_
            refine r_get C0 hw (C := RX8) (T := TX8) (N := 33) (v := .long (gJ S20 0)) iw_X8_ringOf_X8 (lg_48 ad cI cJ X S20) rfl 13 (by decide) (C0.ts _ fw_X8_ringOf_146) rfl dX8_ringOf_172 ?_
            refine r_cV_i (As := [.long (gJ S20 0)]) (rest := []) C0 hw (c_X8_goes  hV) (cwV 1 C0.ts gX8_ringOf_X8_goes rfl rfl rfl hd_X8_goes ⟨Nat.le_of_ble_eq_true rfl, Nat.le_of_ble_eq_true rfl⟩) (lg_48 ad cI cJ X S20) rfl rfl hl.1 rfl (Nat.le_of_ble_eq_true rfl) ⟨Nat.zero_le _, Nat.zero_le _⟩ dX8_ringOf_175 (fun r21 S22 H locs hV hw => ?_)
            refine lv_if_eq (tgt := 183) C0.x C0.b dX8_ringOf_178 (by decide) (fun c23 => ?_) (fun c23 => ?_)
            · have hV := hV.1 c23
              obtain ⟨x24, ex24⟩ : ∃ z : Int32, z = v5 + 1 := ⟨_, rfl⟩
              have hV := hV x24 ex24
              refine lv_iinc (v := x24) (lv' := [(5, .int x24), (0, .ref (ad 48)), (1, .ref (ad pa0)), (2, .int v2)]) C0.x C0.b dX8_ringOf_183 hl (k := 3) rfl (by rw [ex24]; rfl) (by decide) rfl (fun ls hl => ?_)
              refine lv_goto (tgt := 84) C0.x C0.b dX8_ringOf_186 (by decide) ?_
              exact ih _ _ hV _ _ hw _ (lv_sub hl [1, 2, 3, 0] rfl)
            · have hV := hV.2 c23
              refine lv_iconst (v := 0) C0.x C0.b dX8_ringOf_181 (by decide) ?_
              exact r_iret C0 rfl hw hV dX8_ringOf_182
          · have hV := hV.2 c17
            refine lv_iload C0.x C0.b dX8_ringOf_130 (lv_at hl 3 rfl) ?_
            refine lv_if_eq (tgt := 147) C0.x C0.b dX8_ringOf_132 (by decide) (fun c25 => ?_) (fun c25 => ?_)
            · have hV := hV.1 c25
              refine lv_iconst (v := 1) C0.x C0.b dX8_ringOf_147 (by decide) ?_
              refine lv_goto (tgt := 152) C0.x C0.b dX8_ringOf_148 (by decide) ?_
              refine r_put C0 hw (C := RX8) (T := TX8) (N := 33) (ty := .boolean) iw_X8_ringOf_X8 tyX8 tyX8_ok nmX8 (lg_48 ad cI cJ X S15) rfl 25 (by decide) (C0.ts _ fw_X8_ringOf_193) rfl (by decide +kernel) rfl rfl (Nat.le_of_ble_eq_true rfl) dX8_ringOf_152 (S' := (sI S15 30 (1 : Int32))) (ls_48_25 ad cI cJ X S15 (1 : Int32)) (fun S26 H locs eS26 hw => ?_)
              have hV := hV S26 eS26
              refine lv_aload_n C0.x C0.b dX8_ringOf_155 rfl (lv_at hl 0 rfl) ?_
              refine lv_aload_n C0.x C0.b dX8_ringOf_156 rfl (lv_at hl 0 rfl) ?_
              refine r_get C0 hw (C := RX8) (T := TX8) (N := 33) (v := .long (gJ S26 5)) iw_X8_ringOf_X8 (lg_48 ad cI cJ X S26) rfl 24 (by decide) (C0.ts _ fw_X8_ringOf_190) rfl dX8_ringOf_157 ?_
              refine lv_aload_n C0.x C0.b dX8_ringOf_160 rfl (lv_at hl 0 rfl) ?_
              refine r_get C0 hw (C := RX8) (T := TX8) (N := 33) (v := .long (gJ S26 0)) iw_X8_ringOf_X8 (lg_48 ad cI cJ X S26) rfl 13 (by decide) (C0.ts _ fw_X8_ringOf_146) rfl dX8_ringOf_161 ?_
              refine va_mmin_long C0.x C0.b (C0.ml.trans hl.1.symm) C0.ow (C0.ts _ ml_X8_ringOf_196) (C0.ts _ ms_X8_ringOf_196) (C0.ts _ mi_X8_ringOf_196) (C0.ts _ mc_X8_ringOf_196) (Nat.le_of_ble_eq_true rfl) (Nat.le_of_ble_eq_true rfl) (Nat.zero_le _) (Nat.zero_le _) dX8_ringOf_164 ?_
              refine lv_topl (fun y27 ey27 => ?_)
              have hV := hV y27 ey27
              refine r_put C0 hw (C := RX8) (T := TX8) (N := 33) (ty := .long) iw_X8_ringOf_X8 tyX8 tyX8_ok nmX8 (lg_48 ad cI cJ X S26) rfl 24 (by decide) (C0.ts _ fw_X8_ringOf_190) rfl (by decide +kernel) rfl rfl (Nat.le_of_ble_eq_true rfl) dX8_ringOf_167 (S' := (sJ S26 5 y27)) (ls_48_24 ad cI cJ X S26 y27) (fun S28 H locs eS28 hw => ?_)
              have hV := hV S28 eS28
              refine lv_aload_n C0.x C0.b dX8_ringOf_170 rfl (lv_at hl 0 rfl) ?_
              refine lv_aload_n C0.x C0.b dX8_ringOf_171 rfl (lv_at hl 0 rfl) ?_
              refine r_get C0 hw (C := RX8) (T := TX8) (N := 33) (v := .long (gJ S28 0)) iw_X8_ringOf_X8 (lg_48 ad cI cJ X S28) rfl 13 (by decide) (C0.ts _ fw_X8_ringOf_146) rfl dX8_ringOf_172 ?_
              refine r_cV_i (As := [.long (gJ S28 0)]) (rest := []) C0 hw (c_X8_goes  hV) (cwV 1 C0.ts gX8_ringOf_X8_goes rfl rfl rfl hd_X8_goes ⟨Nat.le_of_ble_eq_true rfl, Nat.le_of_ble_eq_true rfl⟩) (lg_48 ad cI cJ X S28) rfl rfl hl.1 rfl (Nat.le_of_ble_eq_true rfl) ⟨Nat.zero_le _, Nat.zero_le _⟩ dX8_ringOf_175 (fun r29 S30 H locs hV hw => ?_)
              refine lv_if_eq (tgt := 183) C0.x C0.b dX8_ringOf_178 (by decide) (fun c31 => ?_) (fun c31 => ?_)
              · have hV := hV.1 c31
                obtain ⟨x32, ex32⟩ : ∃ z : Int32, z = v5 + 1 := ⟨_, rfl⟩
                have hV := hV x32 ex32
                refine lv_iinc (v := x32) (lv' := [(5, .int x32), (0, .ref (ad 48)), (1, .ref (ad pa0)), (2, .int v2)]) C0.x C0.b dX8_ringOf_183 hl (k := 3) rfl (by rw [ex32]; rfl) (by decide) rfl (fun ls hl => ?_)
                refine lv_goto (tgt := 84) C0.x C0.b dX8_ringOf_186 (by decide) ?_
                exact ih _ _ hV _ _ hw _ (lv_sub hl [1, 2, 3, 0] rfl)
              · have hV := hV.2 c31
                refine lv_iconst (v := 0) C0.x C0.b dX8_ringOf_181 (by decide) ?_
                exact r_iret C0 rfl hw hV dX8_ringOf_182
            · have hV := hV.2 c25
              refine lv_aload_n C0.x C0.b dX8_ringOf_135 rfl (lv_at hl 0 rfl) ?_
              refine r_get C0 hw (C := RX8) (T := TX8) (N := 33) (v := .long (gJ S15 0)) iw_X8_ringOf_X8 (lg_48 ad cI cJ X S15) rfl 13 (by decide) (C0.ts _ fw_X8_ringOf_146) rfl dX8_ringOf_136 ?_
              refine lv_aload_n C0.x C0.b dX8_ringOf_139 rfl (lv_at hl 0 rfl) ?_
              refine r_get C0 hw (C := RX8) (T := TX8) (N := 33) (v := .long (gJ S15 4)) iw_X8_ringOf_X8 (lg_48 ad cI cJ X S15) rfl 23 (by decide) (C0.ts _ fw_X8_ringOf_187) rfl dX8_ringOf_140 ?_
              refine r_lcmp C0 dX8_ringOf_143 ?_
              refine lv_if_eq (tgt := 151) C0.x C0.b dX8_ringOf_144 (by decide) (fun c33 => ?_) (fun c33 => ?_)
              · have hV := hV.1 ((lc_eq _ _).mp c33)
                refine lv_iconst (v := 0) C0.x C0.b dX8_ringOf_151 (by decide) ?_
                refine r_put C0 hw (C := RX8) (T := TX8) (N := 33) (ty := .boolean) iw_X8_ringOf_X8 tyX8 tyX8_ok nmX8 (lg_48 ad cI cJ X S15) rfl 25 (by decide) (C0.ts _ fw_X8_ringOf_193) rfl (by decide +kernel) rfl rfl (Nat.le_of_ble_eq_true rfl) dX8_ringOf_152 (S' := (sI S15 30 (0 : Int32))) (ls_48_25 ad cI cJ X S15 (0 : Int32)) (fun S34 H locs eS34 hw => ?_)
                have hV := hV S34 eS34
                refine lv_aload_n C0.x C0.b dX8_ringOf_155 rfl (lv_at hl 0 rfl) ?_
                refine lv_aload_n C0.x C0.b dX8_ringOf_156 rfl (lv_at hl 0 rfl) ?_
                refine r_get C0 hw (C := RX8) (T := TX8) (N := 33) (v := .long (gJ S34 5)) iw_X8_ringOf_X8 (lg_48 ad cI cJ X S34) rfl 24 (by decide) (C0.ts _ fw_X8_ringOf_190) rfl dX8_ringOf_157 ?_
                refine lv_aload_n C0.x C0.b dX8_ringOf_160 rfl (lv_at hl 0 rfl) ?_
                refine r_get C0 hw (C := RX8) (T := TX8) (N := 33) (v := .long (gJ S34 0)) iw_X8_ringOf_X8 (lg_48 ad cI cJ X S34) rfl 13 (by decide) (C0.ts _ fw_X8_ringOf_146) rfl dX8_ringOf_161 ?_
                refine va_mmin_long C0.x C0.b (C0.ml.trans hl.1.symm) C0.ow (C0.ts _ ml_X8_ringOf_196) (C0.ts _ ms_X8_ringOf_196) (C0.ts _ mi_X8_ringOf_196) (C0.ts _ mc_X8_ringOf_196) (Nat.le_of_ble_eq_true rfl) (Nat.le_of_ble_eq_true rfl) (Nat.zero_le _) (Nat.zero_le _) dX8_ringOf_164 ?_
                refine lv_topl (fun y35 ey35 => ?_)
                have hV := hV y35 ey35
                refine r_put C0 hw (C := RX8) (T := TX8) (N := 33) (ty := .long) iw_X8_ringOf_X8 tyX8 tyX8_ok nmX8 (lg_48 ad cI cJ X S34) rfl 24 (by decide) (C0.ts _ fw_X8_ringOf_190) rfl (by decide +kernel) rfl rfl (Nat.le_of_ble_eq_true rfl) dX8_ringOf_167 (S' := (sJ S34 5 y35)) (ls_48_24 ad cI cJ X S34 y35) (fun S36 H locs eS36 hw => ?_)
                have hV := hV S36 eS36
                refine lv_aload_n C0.x C0.b dX8_ringOf_170 rfl (lv_at hl 0 rfl) ?_
                refine lv_aload_n C0.x C0.b dX8_ringOf_171 rfl (lv_at hl 0 rfl) ?_
                refine r_get C0 hw (C := RX8) (T := TX8) (N := 33) (v := .long (gJ S36 0)) iw_X8_ringOf_X8 (lg_48 ad cI cJ X S36) rfl 13 (by decide) (C0.ts _ fw_X8_ringOf_146) rfl dX8_ringOf_172 ?_
                refine r_cV_i (As := [.long (gJ S36 0)]) (rest := []) C0 hw (c_X8_goes  hV) (cwV 1 C0.ts gX8_ringOf_X8_goes rfl rfl rfl hd_X8_goes ⟨Nat.le_of_ble_eq_true rfl, Nat.le_of_ble_eq_true rfl⟩) (lg_48 ad cI cJ X S36) rfl rfl hl.1 rfl (Nat.le_of_ble_eq_true rfl) ⟨Nat.zero_le _, Nat.zero_le _⟩ dX8_ringOf_175 (fun r37 S38 H locs hV hw => ?_)
                refine lv_if_eq (tgt := 183) C0.x C0.b dX8_ringOf_178 (by decide) (fun c39 => ?_) (fun c39 => ?_)
                · have hV := hV.1 c39
                  obtain ⟨x40, ex40⟩ : ∃ z : Int32, z = v5 + 1 := ⟨_, rfl⟩
                  have hV := hV x40 ex40
                  refine lv_iinc (v := x40) (lv' := [(5, .int x40), (0, .ref (ad 48)), (1, .ref (ad pa0)), (2, .int v2)]) C0.x C0.b dX8_ringOf_183 hl (k := 3) rfl (by rw [ex40]; rfl) (by decide) rfl (fun ls hl => ?_)
                  refine lv_goto (tgt := 84) C0.x C0.b dX8_ringOf_186 (by decide) ?_
                  exact ih _ _ hV _ _ hw _ (lv_sub hl [1, 2, 3, 0] rfl)
                · have hV := hV.2 c39
                  refine lv_iconst (v := 0) C0.x C0.b dX8_ringOf_181 (by decide) ?_
                  exact r_iret C0 rfl hw hV dX8_ringOf_182
              · have hV := hV.2 (fun h => c33 ((lc_eq _ _).mpr h))
                refine lv_iconst (v := 1) C0.x C0.b dX8_ringOf_147 (by decide) ?_
                refine lv_goto (tgt := 152) C0.x C0.b dX8_ringOf_148 (by decide) ?_
                refine r_put C0 hw (C := RX8) (T := TX8) (N := 33) (ty := .boolean) iw_X8_ringOf_X8 tyX8 tyX8_ok nmX8 (lg_48 ad cI cJ X S15) rfl 25 (by decide) (C0.ts _ fw_X8_ringOf_193) rfl (by decide +kernel) rfl rfl (Nat.le_of_ble_eq_true rfl) dX8_ringOf_152 (S' := (sI S15 30 (1 : Int32))) (ls_48_25 ad cI cJ X S15 (1 : Int32)) (fun S41 H locs eS41 hw => ?_)
                have hV := hV S41 eS41
                refine lv_aload_n C0.x C0.b dX8_ringOf_155 rfl (lv_at hl 0 rfl) ?_
                refine lv_aload_n C0.x C0.b dX8_ringOf_156 rfl (lv_at hl 0 rfl) ?_
                refine r_get C0 hw (C := RX8) (T := TX8) (N := 33) (v := .long (gJ S41 5)) iw_X8_ringOf_X8 (lg_48 ad cI cJ X S41) rfl 24 (by decide) (C0.ts _ fw_X8_ringOf_190) rfl dX8_ringOf_157 ?_
                refine lv_aload_n C0.x C0.b dX8_ringOf_160 rfl (lv_at hl 0 rfl) ?_
                refine r_get C0 hw (C := RX8) (T := TX8) (N := 33) (v := .long (gJ S41 0)) iw_X8_ringOf_X8 (lg_48 ad cI cJ X S41) rfl 13 (by decide) (C0.ts _ fw_X8_ringOf_146) rfl dX8_ringOf_161 ?_
                refine va_mmin_long C0.x C0.b (C0.ml.trans hl.1.symm) C0.ow (C0.ts _ ml_X8_ringOf_196) (C0.ts _ ms_X8_ringOf_196) (C0.ts _ mi_X8_ringOf_196) (C0.ts _ mc_X8_ringOf_196) (Nat.le_of_ble_eq_true rfl) (Nat.le_of_ble_eq_true rfl) (Nat.zero_le _) (Nat.zero_le _) dX8_ringOf_164 ?_
                refine lv_topl (fun y42 ey42 => ?_)
                have hV := hV y42 ey42
                refine r_put C0 hw (C := RX8) (T := TX8) (N := 33) (ty := .long) iw_X8_ringOf_X8 tyX8 tyX8_ok nmX8 (lg_48 ad cI cJ X S41) rfl 24 (by decide) (C0.ts _ fw_X8_ringOf_190) rfl (by decide +kernel) rfl rfl (Nat.le_of_ble_eq_true rfl) dX8_ringOf_167 (S' := (sJ S41 5 y42)) (ls_48_24 ad cI cJ X S41 y42) (fun S43 H locs eS43 hw => ?_)
                have hV := hV S43 eS43
                refine lv_aload_n C0.x C0.b dX8_ringOf_170 rfl (lv_at hl 0 rfl) ?_
                refine lv_aload_n C0.x C0.b dX8_ringOf_171 rfl (lv_at hl 0 rfl) ?_
                refine r_get C0 hw (C := RX8) (T := TX8) (N := 33) (v := .long (gJ S43 0)) iw_X8_ringOf_X8 (lg_48 ad cI cJ X S43) rfl 13 (by decide) (C0.ts _ fw_X8_ringOf_146) rfl dX8_ringOf_172 ?_
                refine r_cV_i (As := [.long (gJ S43 0)]) (rest := []) C0 hw (c_X8_goes  hV) (cwV 1 C0.ts gX8_ringOf_X8_goes rfl rfl rfl hd_X8_goes ⟨Nat.le_of_ble_eq_true rfl, Nat.le_of_ble_eq_true rfl⟩) (lg_48 ad cI cJ X S43) rfl rfl hl.1 rfl (Nat.le_of_ble_eq_true rfl) ⟨Nat.zero_le _, Nat.zero_le _⟩ dX8_ringOf_175 (fun r44 S45 H locs hV hw => ?_)
                refine lv_if_eq (tgt := 183) C0.x C0.b dX8_ringOf_178 (by decide) (fun c46 => ?_) (fun c46 => ?_)
                · have hV := hV.1 c46
                  obtain ⟨x47, ex47⟩ : ∃ z : Int32, z = v5 + 1 := ⟨_, rfl⟩
                  have hV := hV x47 ex47
                  refine lv_iinc (v := x47) (lv' := [(5, .int x47), (0, .ref (ad 48)), (1, .ref (ad pa0)), (2, .int v2)]) C0.x C0.b dX8_ringOf_183 hl (k := 3) rfl (by rw [ex47]; rfl) (by decide) rfl (fun ls hl => ?_)
                  refine lv_goto (tgt := 84) C0.x C0.b dX8_ringOf_186 (by decide) ?_
                  exact ih _ _ hV _ _ hw _ (lv_sub hl [1, 2, 3, 0] rfl)
                · have hV := hV.2 c46
                  refine lv_iconst (v := 0) C0.x C0.b dX8_ringOf_181 (by decide) ?_
                  exact r_iret C0 rfl hw hV dX8_ringOf_182
        · have hV := hV.2 (fun h => c16 ((lc_eq _ _).mpr h))
          refine lv_iconst (v := 0) C0.x C0.b dX8_ringOf_120 (by decide) ?_
          exact r_iret C0 rfl hw hV dX8_ringOf_121
def V_X8_ringOf (bi0 L0 : Nat) (p1 : Int32) (S : SS) (post : Int32 → SS → Prop) : Prop :=
  (((gJ S 1) = (gJ S 3) → (((gJ S 2) = (0 : Int64) → (post (2 : Int32) S)) ∧ (¬ (gJ S 2) = (0 : Int64) → (post (0 : Int32) S)))) ∧ (¬ (gJ S 1) = (gJ S 3) → (∀ y3 : Int64, y3 = ((gJ S 3) - (gJ S 1)) → (¬ y3 = 0 ∧ (((lrm (gJ S 2) y3) = (0 : Int64) → (¬ y3 = 0 ∧ (∀ S5 : SS, S5 = (sJ S 4 ((gJ S 2) / y3)) → (∀ S6 : SS, S6 = (sJ S5 5 (gJ S5 4)) → (∀ S7 : SS, S7 = (sI S6 30 (1 : Int32)) → (∀ S8 : SS, S8 = (sJ S7 0 (gJ S7 4)) → (∃ n84 : Nat, V_X8_ringOf_84 bi0 L0 p1  post n84 (0 : Int32) S8))))))) ∧ (¬ (lrm (gJ S 2) y3) = (0 : Int64) → (post (0 : Int32) S)))))))
set_option maxHeartbeats 4000000 in
set_option maxRecDepth 100000 in
theorem c_X8_ringOf {pa0 bi0 L0 : Nat} (hO0 : lnB ad cI cJ X pa0 bi0 L0) {S : SS} {p1 : Int32} {post : Int32 → SS → Prop} (hV : V_X8_ringOf bi0 L0 p1 S post) : MI l yX8_ringOf wsX8_ringOf rm_X8_ringOf [.ref (ad 48), .ref (ad pa0), .int p1] D n0 ad cI cJ X S post := by
  refine Met.ofW (cc := cX8_ringOf) (maxL := 6) (ret := (some .int)) (by decide) rfl ?_
  intro p e s m args below meth c s₁ B hml hv
  obtain ⟨rfl, hv⟩ := hv
  have C0 := Bd.mk B hml (atoms_spec (ws := wsX8_ringOf) B.pre) (findClass_of_methodNamed B.named) hv.1
  have hw : Wh D n0 ad cI cJ X S s s.heap [] := ⟨hv.2.1, hv.2.2, va_S.rf⟩
  refine r_entry (Nat.le_of_ble_eq_true rfl) (fun ls hl => ?_)
  have hl : lv_has ls 6 [(0, .ref (ad 48)), (1, .ref (ad pa0)), (2, .int p1)] := hl
  unfold V_X8_ringOf at hV
  refine lv_aload_n C0.x C0.b dX8_ringOf_0 rfl (lv_at hl 0 rfl) ?_
  refine r_get C0 hw (C := RX8) (T := TX8) (N := 33) (v := .long (gJ S 1)) iw_X8_ringOf_X8 (lg_48 ad cI cJ X S) rfl 19 (by decide) (C0.ts _ fw_X8_ringOf_170) rfl dX8_ringOf_1 ?_
  refine lv_aload_n C0.x C0.b dX8_ringOf_4 rfl (lv_at hl 0 rfl) ?_
  refine r_get C0 hw (C := RX8) (T := TX8) (N := 33) (v := .long (gJ S 3)) iw_X8_ringOf_X8 (lg_48 ad cI cJ X S) rfl 21 (by decide) (C0.ts _ fw_X8_ringOf_176) rfl dX8_ringOf_5 ?_
  refine r_lcmp C0 dX8_ringOf_8 ?_
  refine lv_if_ne (tgt := 27) C0.x C0.b dX8_ringOf_9 (by decide) (fun c1 => ?_) (fun c1 => ?_)
  · have hV := hV.2 (fun h => c1 ((lc_eq _ _).mpr h))
    refine lv_aload_n C0.x C0.b dX8_ringOf_27 rfl (lv_at hl 0 rfl) ?_
    refine r_get C0 hw (C := RX8) (T := TX8) (N := 33) (v := .long (gJ S 3)) iw_X8_ringOf_X8 (lg_48 ad cI cJ X S) rfl 21 (by decide) (C0.ts _ fw_X8_ringOf_176) rfl dX8_ringOf_28 ?_
    refine lv_aload_n C0.x C0.b dX8_ringOf_31 rfl (lv_at hl 0 rfl) ?_
    refine r_get C0 hw (C := RX8) (T := TX8) (N := 33) (v := .long (gJ S 1)) iw_X8_ringOf_X8 (lg_48 ad cI cJ X S) rfl 19 (by decide) (C0.ts _ fw_X8_ringOf_170) rfl dX8_ringOf_32 ?_
    refine lv_lsub C0.x C0.b dX8_ringOf_35 ?_
    refine lv_topl (fun y3 ey3 => ?_)
    have hV := hV y3 ey3
    refine lv_lstore_n (lv' := [(3, .long y3), (0, .ref (ad 48)), (1, .ref (ad pa0)), (2, .int p1)]) C0.x C0.b dX8_ringOf_36 rfl hl (by decide) rfl (fun ls hl => ?_)
    refine lv_aload_n C0.x C0.b dX8_ringOf_37 rfl (lv_at hl 1 rfl) ?_
    refine r_get C0 hw (C := RX8) (T := TX8) (N := 33) (v := .long (gJ S 2)) iw_X8_ringOf_X8 (lg_48 ad cI cJ X S) rfl 20 (by decide) (C0.ts _ fw_X8_ringOf_173) rfl dX8_ringOf_38 ?_
    refine lv_lload_n C0.x C0.b dX8_ringOf_41 rfl (lv_at hl 0 rfl) ?_
    refine lv_lrem C0.x C0.b dX8_ringOf_42 hV.1 ?_
    have hV := hV.2
    refine lv_lconst (v := 0) C0.x C0.b dX8_ringOf_43 (by decide) ?_
    refine r_lcmp C0 dX8_ringOf_44 ?_
    refine lv_if_eq (tgt := 50) C0.x C0.b dX8_ringOf_45 (by decide) (fun c4 => ?_) (fun c4 => ?_)
    · have hV := hV.1 ((lc_eq _ _).mp c4)
      refine lv_aload_n C0.x C0.b dX8_ringOf_50 rfl (lv_at hl 1 rfl) ?_
      refine lv_aload_n C0.x C0.b dX8_ringOf_51 rfl (lv_at hl 1 rfl) ?_
      refine r_get C0 hw (C := RX8) (T := TX8) (N := 33) (v := .long (gJ S 2)) iw_X8_ringOf_X8 (lg_48 ad cI cJ X S) rfl 20 (by decide) (C0.ts _ fw_X8_ringOf_173) rfl dX8_ringOf_52 ?_
      refine lv_lload_n C0.x C0.b dX8_ringOf_55 rfl (lv_at hl 0 rfl) ?_
      refine lv_ldiv C0.x C0.b dX8_ringOf_56 hV.1 ?_
      have hV := hV.2
      refine r_put C0 hw (C := RX8) (T := TX8) (N := 33) (ty := .long) iw_X8_ringOf_X8 tyX8 tyX8_ok nmX8 (lg_48 ad cI cJ X S) rfl 23 (by decide) (C0.ts _ fw_X8_ringOf_187) rfl (by decide +kernel) rfl rfl (Nat.le_of_ble_eq_true rfl) dX8_ringOf_57 (S' := (sJ S 4 ((gJ S 2) / y3))) (ls_48_23 ad cI cJ X S ((gJ S 2) / y3)) (fun S5 H locs eS5 hw => ?_)
      have hV := hV S5 eS5
      refine lv_aload_n C0.x C0.b dX8_ringOf_60 rfl (lv_at hl 1 rfl) ?_
      refine lv_aload_n C0.x C0.b dX8_ringOf_61 rfl (lv_at hl 1 rfl) ?_
      refine r_get C0 hw (C := RX8) (T := TX8) (N := 33) (v := .long (gJ S5 4)) iw_X8_ringOf_X8 (lg_48 ad cI cJ X S5) rfl 23 (by decide) (C0.ts _ fw_X8_ringOf_187) rfl dX8_ringOf_62 ?_
      refine r_put C0 hw (C := RX8) (T := TX8) (N := 33) (ty := .long) iw_X8_ringOf_X8 tyX8 tyX8_ok nmX8 (lg_48 ad cI cJ X S5) rfl 24 (by decide) (C0.ts _ fw_X8_ringOf_190) rfl (by decide +kernel) rfl rfl (Nat.le_of_ble_eq_true rfl) dX8_ringOf_65 (S' := (sJ S5 5 (gJ S5 4))) (ls_48_24 ad cI cJ X S5 (gJ S5 4)) (fun S6 H locs eS6 hw => ?_)
      have hV := hV S6 eS6
      refine lv_aload_n C0.x C0.b dX8_ringOf_68 rfl (lv_at hl 1 rfl) ?_
      refine lv_iconst (v := 1) C0.x C0.b dX8_ringOf_69 (by decide) ?_
      refine r_put C0 hw (C := RX8) (T := TX8) (N := 33) (ty := .boolean) iw_X8_ringOf_X8 tyX8 tyX8_ok nmX8 (lg_48 ad cI cJ X S6) rfl 25 (by decide) (C0.ts _ fw_X8_ringOf_193) rfl (by decide +kernel) rfl rfl (Nat.le_of_ble_eq_true rfl) dX8_ringOf_70 (S' := (sI S6 30 (1 : Int32))) (ls_48_25 ad cI cJ X S6 (1 : Int32)) (fun S7 H locs eS7 hw => ?_)
      have hV := hV S7 eS7
      refine lv_aload_n C0.x C0.b dX8_ringOf_73 rfl (lv_at hl 1 rfl) ?_
      refine lv_aload_n C0.x C0.b dX8_ringOf_74 rfl (lv_at hl 1 rfl) ?_
      refine r_get C0 hw (C := RX8) (T := TX8) (N := 33) (v := .long (gJ S7 4)) iw_X8_ringOf_X8 (lg_48 ad cI cJ X S7) rfl 23 (by decide) (C0.ts _ fw_X8_ringOf_187) rfl dX8_ringOf_75 ?_
      refine r_put C0 hw (C := RX8) (T := TX8) (N := 33) (ty := .long) iw_X8_ringOf_X8 tyX8 tyX8_ok nmX8 (lg_48 ad cI cJ X S7) rfl 13 (by decide) (C0.ts _ fw_X8_ringOf_146) rfl (by decide +kernel) rfl rfl (Nat.le_of_ble_eq_true rfl) dX8_ringOf_78 (S' := (sJ S7 0 (gJ S7 4))) (ls_48_13 ad cI cJ X S7 (gJ S7 4)) (fun S8 H locs eS8 hw => ?_)
      have hV := hV S8 eS8
      refine lv_iconst (v := 0) C0.x C0.b dX8_ringOf_81 (by decide) ?_
      refine lv_istore (lv' := [(5, .int (0 : Int32)), (3, .long y3), (0, .ref (ad 48)), (1, .ref (ad pa0)), (2, .int p1)]) C0.x C0.b dX8_ringOf_82 hl (by decide) rfl (fun ls hl => ?_)
      obtain ⟨n84, hV⟩ := hV
      exact lp_X8_ringOf_84 hO0 _ post C0  n84 _ _ hV _ _ hw _ (lv_sub hl [2, 3, 4, 0] rfl)
    · have hV := hV.2 (fun h => c4 ((lc_eq _ _).mpr h))
      refine lv_iconst (v := 0) C0.x C0.b dX8_ringOf_48 (by decide) ?_
      exact r_iret C0 rfl hw hV dX8_ringOf_49
  · have hV := hV.1 ((lc_eq _ _).mp c1)
    refine lv_aload_n C0.x C0.b dX8_ringOf_12 rfl (lv_at hl 0 rfl) ?_
    refine r_get C0 hw (C := RX8) (T := TX8) (N := 33) (v := .long (gJ S 2)) iw_X8_ringOf_X8 (lg_48 ad cI cJ X S) rfl 20 (by decide) (C0.ts _ fw_X8_ringOf_173) rfl dX8_ringOf_13 ?_
    refine lv_lconst (v := 0) C0.x C0.b dX8_ringOf_16 (by decide) ?_
    refine r_lcmp C0 dX8_ringOf_17 ?_
    refine lv_if_ne (tgt := 25) C0.x C0.b dX8_ringOf_18 (by decide) (fun c2 => ?_) (fun c2 => ?_)
    · have hV := hV.2 (fun h => c2 ((lc_eq _ _).mpr h))
      refine lv_iconst (v := 0) C0.x C0.b dX8_ringOf_25 (by decide) ?_
      exact r_iret C0 rfl hw hV dX8_ringOf_26
    · have hV := hV.1 ((lc_eq _ _).mp c2)
      refine lv_iconst (v := 2) C0.x C0.b dX8_ringOf_21 (by decide) ?_
      refine lv_goto (tgt := 26) C0.x C0.b dX8_ringOf_22 (by decide) ?_
      exact r_iret C0 rfl hw hV dX8_ringOf_26
/-! StepBenchModel.ring()I -/
abbrev rm_X8_ring : Room := { frames := 5, cells := 0, slots := 0, locals := 120 }
set_option maxRecDepth 20000 in
theorem fw_X8_ring_61 : Cond.fieldLink RX8 61 "StepBenchModel" "thrown" "I" ∈ wsX8_ring := by decide +kernel
set_option maxRecDepth 20000 in
theorem iw_X8_ring_X8 : ∀ w ∈ wsX80, w ∈ wsX8_ring := by decide +kernel
set_option maxRecDepth 20000 in
theorem fw_X8_ring_35 : Cond.fieldLink RX8 35 "StepBenchModel" "word" "[I" ∈ wsX8_ring := by decide +kernel
set_option maxRecDepth 20000 in
theorem fw_X8_ring_127 : Cond.fieldLink RX8 127 "StepBenchModel" "words" "I" ∈ wsX8_ring := by decide +kernel
set_option maxRecDepth 20000 in
theorem fw_X8_ring_32 : Cond.fieldLink RX8 32 "StepBenchModel" "found" "[J" ∈ wsX8_ring := by decide +kernel
set_option maxRecDepth 20000 in
theorem fw_X8_ring_187 : Cond.fieldLink RX8 187 "StepBenchModel" "ringX" "J" ∈ wsX8_ring := by decide +kernel
set_option maxRecDepth 20000 in
theorem hd_X8_ring : yX8_ring.cls = RX8 ∧ yX8_ring.cls ≠ "java/lang/invoke/MethodHandle" ∧ yX8_ring.cls ≠ "java/lang/invoke/VarHandle" ∧ (parseMethodDescriptor yX8_ring.desc).map (fun d => d.parameters.length) = some 0 := by decide +kernel
def V_X8_ring   (S : SS) (post : Int32 → SS → Prop) : Prop :=
  (∀ S1 : SS, S1 = (sI S 20 (0 : Int32)) → (V_X8_isWord  S1 (fun (r2 : Int32) (S3 : SS) => ((r2 = 0 → (post (-1 : Int32) S3)) ∧ (¬ r2 = 0 → (V_X8_shaped 0 40 (gI S3 29) S3 (fun (r5 : Int32) (S6 : SS) => ((r5 = 0 → (post (-2 : Int32) S6)) ∧ (¬ r5 = 0 → (V_X8_ringOf 0 40 (gI S6 29) S6 (fun (r8 : Int32) (S9 : SS) => ((r8 = (1 : Int32) → (vp_in (0 : Int32) 20000 ∧ ∀ S11 : SS, S11 = (sA S9 36 (vp_updL (gA S9 36) (0 : Int32).toNatClampNeg (gJ S9 4))) → (V_X8_tells (1 : Int32) S11 (fun (S13 : SS) => (post r8 S13))))) ∧ (¬ r8 = (1 : Int32) → (post r8 S9))))))))))))))
set_option maxHeartbeats 4000000 in
set_option maxRecDepth 100000 in
theorem c_X8_ring  {S : SS}  {post : Int32 → SS → Prop} (hV : V_X8_ring   S post) : MI l yX8_ring wsX8_ring rm_X8_ring [.ref (ad 48)] D n0 ad cI cJ X S post := by
  refine Met.ofW (cc := cX8_ring) (maxL := 2) (ret := (some .int)) (by decide) rfl ?_
  intro p e s m args below meth c s₁ B hml hv
  obtain ⟨rfl, hv⟩ := hv
  have C0 := Bd.mk B hml (atoms_spec (ws := wsX8_ring) B.pre) (findClass_of_methodNamed B.named) hv.1
  have hw : Wh D n0 ad cI cJ X S s s.heap [] := ⟨hv.2.1, hv.2.2, va_S.rf⟩
  refine r_entry (Nat.le_of_ble_eq_true rfl) (fun ls hl => ?_)
  have hl : lv_has ls 2 [(0, .ref (ad 48))] := hl
  unfold V_X8_ring at hV
  refine lv_aload_n C0.x C0.b dX8_ring_0 rfl (lv_at hl 0 rfl) ?_
  refine lv_iconst (v := 0) C0.x C0.b dX8_ring_1 (by decide) ?_
  refine r_put C0 hw (C := RX8) (T := TX8) (N := 33) (ty := .int) iw_X8_ring_X8 tyX8 tyX8_ok nmX8 (lg_48 ad cI cJ X S) rfl 0 (by decide) (C0.ts _ fw_X8_ring_61) rfl (by decide +kernel) rfl rfl (Nat.le_of_ble_eq_true rfl) dX8_ring_2 (S' := (sI S 20 (0 : Int32))) (ls_48_0 ad cI cJ X S (0 : Int32)) (fun S1 H locs eS1 hw => ?_)
  have hV := hV S1 eS1
  refine lv_aload_n C0.x C0.b dX8_ring_5 rfl (lv_at hl 0 rfl) ?_
  refine r_cV_i (As := []) (rest := []) C0 hw (c_X8_isWord  hV) (cwV 0 C0.ts gX8_ring_X8_isWord rfl rfl rfl hd_X8_isWord ⟨Nat.le_of_ble_eq_true rfl, Nat.le_of_ble_eq_true rfl⟩) (lg_48 ad cI cJ X S1) rfl rfl hl.1 rfl (Nat.le_of_ble_eq_true rfl) ⟨Nat.zero_le _, Nat.zero_le _⟩ dX8_ring_6 (fun r2 S3 H locs hV hw => ?_)
  refine lv_if_ne (tgt := 14) C0.x C0.b dX8_ring_9 (by decide) (fun c4 => ?_) (fun c4 => ?_)
  · have hV := hV.2 c4
    refine lv_aload_n C0.x C0.b dX8_ring_14 rfl (lv_at hl 0 rfl) ?_
    refine lv_aload_n C0.x C0.b dX8_ring_15 rfl (lv_at hl 0 rfl) ?_
    refine r_get C0 hw (C := RX8) (T := TX8) (N := 33) (v := .ref (ad 56)) iw_X8_ring_X8 (lg_48 ad cI cJ X S3) rfl 17 (by decide) (C0.ts _ fw_X8_ring_35) rfl dX8_ring_16 ?_
    refine lv_aload_n C0.x C0.b dX8_ring_19 rfl (lv_at hl 0 rfl) ?_
    refine r_get C0 hw (C := RX8) (T := TX8) (N := 33) (v := .int (gI S3 29)) iw_X8_ring_X8 (lg_48 ad cI cJ X S3) rfl 18 (by decide) (C0.ts _ fw_X8_ring_127) rfl dX8_ring_20 ?_
    refine r_cV_i (As := [.ref (ad 56), .int (gI S3 29)]) (rest := []) C0 hw (c_X8_shaped (la_56 ad cI cJ X) hV) (cwV 2 C0.ts gX8_ring_X8_shaped rfl rfl rfl hd_X8_shaped ⟨Nat.le_of_ble_eq_true rfl, Nat.le_of_ble_eq_true rfl⟩) (lg_48 ad cI cJ X S3) rfl rfl hl.1 rfl (Nat.le_of_ble_eq_true rfl) ⟨Nat.zero_le _, Nat.zero_le _⟩ dX8_ring_23 (fun r5 S6 H locs hV hw => ?_)
    refine lv_if_ne (tgt := 32) C0.x C0.b dX8_ring_26 (by decide) (fun c7 => ?_) (fun c7 => ?_)
    · have hV := hV.2 c7
      refine lv_aload_n C0.x C0.b dX8_ring_32 rfl (lv_at hl 0 rfl) ?_
      refine lv_aload_n C0.x C0.b dX8_ring_33 rfl (lv_at hl 0 rfl) ?_
      refine r_get C0 hw (C := RX8) (T := TX8) (N := 33) (v := .ref (ad 56)) iw_X8_ring_X8 (lg_48 ad cI cJ X S6) rfl 17 (by decide) (C0.ts _ fw_X8_ring_35) rfl dX8_ring_34 ?_
      refine lv_aload_n C0.x C0.b dX8_ring_37 rfl (lv_at hl 0 rfl) ?_
      refine r_get C0 hw (C := RX8) (T := TX8) (N := 33) (v := .int (gI S6 29)) iw_X8_ring_X8 (lg_48 ad cI cJ X S6) rfl 18 (by decide) (C0.ts _ fw_X8_ring_127) rfl dX8_ring_38 ?_
      refine r_cV_i (As := [.ref (ad 56), .int (gI S6 29)]) (rest := []) C0 hw (c_X8_ringOf (la_56 ad cI cJ X) hV) (cwV 2 C0.ts gX8_ring_X8_ringOf rfl rfl rfl hd_X8_ringOf ⟨Nat.le_of_ble_eq_true rfl, Nat.le_of_ble_eq_true rfl⟩) (lg_48 ad cI cJ X S6) rfl rfl hl.1 rfl (Nat.le_of_ble_eq_true rfl) ⟨Nat.zero_le _, Nat.zero_le _⟩ dX8_ring_41 (fun r8 S9 H locs hV hw => ?_)
      refine lv_istore_n (lv' := [(1, .int r8), (0, .ref (ad 48))]) C0.x C0.b dX8_ring_44 rfl hl (by decide) rfl (fun ls hl => ?_)
      refine lv_iload_n C0.x C0.b dX8_ring_45 rfl (lv_at hl 0 rfl) ?_
      refine lv_iconst (v := 1) C0.x C0.b dX8_ring_46 (by decide) ?_
      refine lv_icmp_ne (tgt := 65) C0.x C0.b dX8_ring_47 (by decide) (fun c10 => ?_) (fun c10 => ?_)
      · have hV := hV.2 c10
        refine lv_iload_n C0.x C0.b dX8_ring_65 rfl (lv_at hl 0 rfl) ?_
        exact r_iret C0 rfl hw hV dX8_ring_66
      · have hV := hV.1 c10
        refine lv_aload_n C0.x C0.b dX8_ring_50 rfl (lv_at hl 1 rfl) ?_
        refine r_get C0 hw (C := RX8) (T := TX8) (N := 33) (v := .ref (ad 55)) iw_X8_ring_X8 (lg_48 ad cI cJ X S9) rfl 16 (by decide) (C0.ts _ fw_X8_ring_32) rfl dX8_ring_51 ?_
        refine lv_iconst (v := 0) C0.x C0.b dX8_ring_54 (by decide) ?_
        refine lv_aload_n C0.x C0.b dX8_ring_55 rfl (lv_at hl 1 rfl) ?_
        refine r_get C0 hw (C := RX8) (T := TX8) (N := 33) (v := .long (gJ S9 4)) iw_X8_ring_X8 (lg_48 ad cI cJ X S9) rfl 23 (by decide) (C0.ts _ fw_X8_ring_187) rfl dX8_ring_56 ?_
        refine r_last C0 hw (lg_55 ad cI cJ X S9) hV.1 dX8_ring_59 (S' := (sA S9 36 (vp_updL (gA S9 36) (0 : Int32).toNatClampNeg (gJ S9 4)))) (ls_55 ad cI cJ X S9 (vp_updL (gA S9 36) (0 : Int32).toNatClampNeg (gJ S9 4))) (fun S11 H locs eS11 hw => ?_)
        have hV := hV.2 S11 eS11
        refine lv_aload_n C0.x C0.b dX8_ring_60 rfl (lv_at hl 1 rfl) ?_
        refine lv_iconst (v := 1) C0.x C0.b dX8_ring_61 (by decide) ?_
        refine r_cV_v (As := [.int (1 : Int32)]) (rest := []) C0 hw (c_X8_tells  hV) (cwV 1 C0.ts gX8_ring_X8_tells rfl rfl rfl hd_X8_tells ⟨Nat.le_of_ble_eq_true rfl, Nat.le_of_ble_eq_true rfl⟩) (lg_48 ad cI cJ X S11) rfl rfl hl.1 rfl (Nat.le_of_ble_eq_true rfl) ⟨Nat.zero_le _, Nat.zero_le _⟩ dX8_ring_62 (fun S13 H locs hV hw => ?_)
        refine lv_iload_n C0.x C0.b dX8_ring_65 rfl (lv_at hl 0 rfl) ?_
        exact r_iret C0 rfl hw hV dX8_ring_66
    · have hV := hV.1 c7
      refine lv_bipush (v := -2) C0.x C0.b dX8_ring_29 (by decide) ?_
      exact r_iret C0 rfl hw hV dX8_ring_31
  · have hV := hV.1 c4
    refine lv_iconst (v := -1) C0.x C0.b dX8_ring_12 (by decide) ?_
    exact r_iret C0 rfl hw hV dX8_ring_13
/-! StepBenchModel.power(I)I -/
abbrev rm_X8_power : Room := { frames := 1, cells := 0, slots := 0, locals := 24 }
set_option maxRecDepth 20000 in
theorem ml_X8_power_88 : Cond.methodLink RX8 88 Lib.Math.min.name ∈ wsX8_power := by decide +kernel
set_option maxRecDepth 20000 in
theorem ms_X8_power_88 : Cond.static Lib.Math.min.name ∈ wsX8_power := by decide +kernel
set_option maxRecDepth 20000 in
theorem mi_X8_power_88 : Cond.initialized "java/lang/Math" ∈ wsX8_power := by decide +kernel
set_option maxRecDepth 20000 in
theorem mc_X8_power_88 : Cond.code Lib.Math.min.name Lib.Math.min.code 2 (some .int) ∈ wsX8_power := by decide +kernel
set_option maxRecDepth 20000 in
theorem fw_X8_power_105 : Cond.fieldLink RX8 105 "StepBenchModel" "m" "I" ∈ wsX8_power := by decide +kernel
set_option maxRecDepth 20000 in
theorem iw_X8_power_X8 : ∀ w ∈ wsX80, w ∈ wsX8_power := by decide +kernel
set_option maxRecDepth 20000 in
theorem hd_X8_power : yX8_power.cls = RX8 ∧ yX8_power.cls ≠ "java/lang/invoke/MethodHandle" ∧ yX8_power.cls ≠ "java/lang/invoke/VarHandle" ∧ (parseMethodDescriptor yX8_power.desc).map (fun d => d.parameters.length) = some 1 := by decide +kernel
def V_X8_power_4  (v1 : Int32)  (post : Int32 → SS → Prop) : Nat → Int32 → Int32 → SS → Prop
  | 0, _, _, _ => False
  | n + 1, v2, v3, S =>
    ((v1 ≤ v3 → (∀ x2 : Int32, x2 = (mnI v2 (20001 : Int32)) → (post x2 S))) ∧ (¬ v1 ≤ v3 → (((20000 : Int32) < v2 → (∀ x4 : Int32, x4 = (mnI v2 (20001 : Int32)) → (post x4 S))) ∧ (¬ (20000 : Int32) < v2 → (∀ x5 : Int32, x5 = (v2 * (gI S 26)) → (∀ x6 : Int32, x6 = v3 + 1 → (V_X8_power_4  v1  post n x5 x6 S)))))))
set_option maxHeartbeats 4000000 in
set_option maxRecDepth 100000 in
theorem lp_X8_power_4  (v1 : Int32)  (post : Int32 → SS → Prop) (C0 : Bd p s m meth c args cX8_power 4 (some .int) wsX8_power RX8 D n0 cI cJ) : ∀ (n : Nat) (v2 : Int32) (v3 : Int32) (S : SS), V_X8_power_4  v1  post n v2 v3 S → ∀ (H : Heap) (locs : List Loc), Wh D n0 ad cI cJ X S s H locs → ∀ ls : Array Slot, lv_has ls 4 [(0, .ref (ad 48)), (1, .int v1), (2, .int v2), (3, .int v3)] → W p l e rm_X8_power s m args below meth c H locs 0 0 (MQ below (va_Qi post (fun S' t => Wd D n0 ad cI cJ X S' t) (fr n0)) args s 0 0 (fr n0)) (F0 m 4 ls []) := by
  intro n
  induction n with
  | zero => intro v2 v3 S hV; exact False.elim hV
  | succ n ih =>
    intro v2 v3 S hV H locs hw ls hl
    rw [V_X8_power_4] at hV
    refine lv_iload_n C0.x C0.b dX8_power_4 rfl (lv_at hl 3 rfl) ?_
    refine lv_iload_n C0.x C0.b dX8_power_5 rfl (lv_at hl 1 rfl) ?_
    refine lv_icmp_ge (tgt := 29) C0.x C0.b dX8_power_6 (by decide) (fun c1 => ?_) (fun c1 => ?_)
    · have hV := hV.1 c1
      refine lv_iload_n C0.x C0.b dX8_power_29 rfl (lv_at hl 2 rfl) ?_
      refine lv_sipush (v := 20001) C0.x C0.b dX8_power_30 (by decide) ?_
      refine va_mmin C0.x C0.b (C0.ml.trans hl.1.symm) C0.ow (C0.ts _ ml_X8_power_88) (C0.ts _ ms_X8_power_88) (C0.ts _ mi_X8_power_88) (C0.ts _ mc_X8_power_88) (Nat.le_of_ble_eq_true rfl) (Nat.le_of_ble_eq_true rfl) (Nat.zero_le _) (Nat.zero_le _) dX8_power_33 ?_
      refine lv_topi (fun x2 ex2 => ?_)
      have hV := hV x2 ex2
      exact r_iret C0 rfl hw hV dX8_power_36
    · have hV := hV.2 c1
      refine lv_iload_n C0.x C0.b dX8_power_9 rfl (lv_at hl 2 rfl) ?_
      refine lv_sipush (v := 20000) C0.x C0.b dX8_power_10 (by decide) ?_
      refine lv_icmp_gt (tgt := 29) C0.x C0.b dX8_power_13 (by decide) (fun c3 => ?_) (fun c3 => ?_)
      · have hV := hV.1 c3
        refine lv_iload_n C0.x C0.b dX8_power_29 rfl (lv_at hl 2 rfl) ?_
        refine lv_sipush (v := 20001) C0.x C0.b dX8_power_30 (by decide) ?_
        refine va_mmin C0.x C0.b (C0.ml.trans hl.1.symm) C0.ow (C0.ts _ ml_X8_power_88) (C0.ts _ ms_X8_power_88) (C0.ts _ mi_X8_power_88) (C0.ts _ mc_X8_power_88) (Nat.le_of_ble_eq_true rfl) (Nat.le_of_ble_eq_true rfl) (Nat.zero_le _) (Nat.zero_le _) dX8_power_33 ?_
        refine lv_topi (fun x4 ex4 => ?_)
        have hV := hV x4 ex4
        exact r_iret C0 rfl hw hV dX8_power_36
      · have hV := hV.2 c3
        refine lv_iload_n C0.x C0.b dX8_power_16 rfl (lv_at hl 2 rfl) ?_
        refine lv_aload_n C0.x C0.b dX8_power_17 rfl (lv_at hl 0 rfl) ?_
        refine r_get C0 hw (C := RX8) (T := TX8) (N := 33) (v := .int (gI S 26)) iw_X8_power_X8 (lg_48 ad cI cJ X S) rfl 8 (by decide) (C0.ts _ fw_X8_power_105) rfl dX8_power_18 ?_
        refine lv_imul C0.x C0.b dX8_power_21 ?_
        refine lv_topi (fun x5 ex5 => ?_)
        have hV := hV x5 ex5
        refine lv_istore_n (lv' := [(2, .int x5), (0, .ref (ad 48)), (1, .int v1), (3, .int v3)]) C0.x C0.b dX8_power_22 rfl hl (by decide) rfl (fun ls hl => ?_)
        obtain ⟨x6, ex6⟩ : ∃ z : Int32, z = v3 + 1 := ⟨_, rfl⟩
        have hV := hV x6 ex6
        refine lv_iinc (v := x6) (lv' := [(3, .int x6), (2, .int x5), (0, .ref (ad 48)), (1, .int v1)]) C0.x C0.b dX8_power_23 hl (k := 3) rfl (by rw [ex6]; rfl) (by decide) rfl (fun ls hl => ?_)
        refine lv_goto (tgt := 4) C0.x C0.b dX8_power_26 (by decide) ?_
        exact ih _ _ _ hV _ _ hw _ (lv_sub hl [2, 3, 1, 0] rfl)
def V_X8_power  (p0 : Int32) (S : SS) (post : Int32 → SS → Prop) : Prop :=
  (∃ n4 : Nat, V_X8_power_4  p0  post n4 (1 : Int32) (0 : Int32) S)
set_option maxHeartbeats 4000000 in
set_option maxRecDepth 100000 in
theorem c_X8_power  {S : SS} {p0 : Int32} {post : Int32 → SS → Prop} (hV : V_X8_power  p0 S post) : MI l yX8_power wsX8_power rm_X8_power [.ref (ad 48), .int p0] D n0 ad cI cJ X S post := by
  refine Met.ofW (cc := cX8_power) (maxL := 4) (ret := (some .int)) (by decide) rfl ?_
  intro p e s m args below meth c s₁ B hml hv
  obtain ⟨rfl, hv⟩ := hv
  have C0 := Bd.mk B hml (atoms_spec (ws := wsX8_power) B.pre) (findClass_of_methodNamed B.named) hv.1
  have hw : Wh D n0 ad cI cJ X S s s.heap [] := ⟨hv.2.1, hv.2.2, va_S.rf⟩
  refine r_entry (Nat.le_of_ble_eq_true rfl) (fun ls hl => ?_)
  have hl : lv_has ls 4 [(0, .ref (ad 48)), (1, .int p0)] := hl
  unfold V_X8_power at hV
  refine lv_iconst (v := 1) C0.x C0.b dX8_power_0 (by decide) ?_
  refine lv_istore_n (lv' := [(2, .int (1 : Int32)), (0, .ref (ad 48)), (1, .int p0)]) C0.x C0.b dX8_power_1 rfl hl (by decide) rfl (fun ls hl => ?_)
  refine lv_iconst (v := 0) C0.x C0.b dX8_power_2 (by decide) ?_
  refine lv_istore_n (lv' := [(3, .int (0 : Int32)), (2, .int (1 : Int32)), (0, .ref (ad 48)), (1, .int p0)]) C0.x C0.b dX8_power_3 rfl hl (by decide) rfl (fun ls hl => ?_)
  obtain ⟨n4, hV⟩ := hV
  exact lp_X8_power_4  _ post C0  n4 _ _ _ hV _ _ hw _ (lv_sub hl [2, 3, 1, 0] rfl)
/-! StepBenchModel.ascend(I)V -/
abbrev rm_X8_ascend : Room := { frames := 0, cells := 0, slots := 0, locals := 0 }
set_option maxRecDepth 20000 in
theorem fw_X8_ascend_32 : Cond.fieldLink RX8 32 "StepBenchModel" "found" "[J" ∈ wsX8_ascend := by decide +kernel
set_option maxRecDepth 20000 in
theorem iw_X8_ascend_X8 : ∀ w ∈ wsX80, w ∈ wsX8_ascend := by decide +kernel
set_option maxRecDepth 20000 in
theorem hd_X8_ascend : yX8_ascend.cls = RX8 ∧ yX8_ascend.cls ≠ "java/lang/invoke/MethodHandle" ∧ yX8_ascend.cls ≠ "java/lang/invoke/VarHandle" ∧ (parseMethodDescriptor yX8_ascend.desc).map (fun d => d.parameters.length) = some 1 := by decide +kernel
def V_X8_ascend_17  (v1 : Int32) (v2 : Int32) (v3 : Int64) (K2 : Int32 → SS → Prop) (post : SS → Prop) : Nat → Int32 → SS → Prop
  | 0, _, _ => False
  | n + 1, v5, S =>
    ((v5 ≤ 0 → (vp_in v5 20000 ∧ ∀ S3 : SS, S3 = (sA S 36 (vp_updL (gA S 36) v5.toNatClampNeg v3)) → (∀ x4 : Int32, x4 = v2 + 1 → (K2 x4 S3)))) ∧ (¬ v5 ≤ 0 → (vp_in (v5 - (1 : Int32)) 20000 ∧ (((gA S 36 (v5 - (1 : Int32)).toNatClampNeg) ≤ v3 → (vp_in v5 20000 ∧ ∀ S6 : SS, S6 = (sA S 36 (vp_updL (gA S 36) v5.toNatClampNeg v3)) → (∀ x7 : Int32, x7 = v2 + 1 → (K2 x7 S6)))) ∧ (¬ (gA S 36 (v5 - (1 : Int32)).toNatClampNeg) ≤ v3 → (vp_in (v5 - (1 : Int32)) 20000 ∧ (vp_in v5 20000 ∧ ∀ S8 : SS, S8 = (sA S 36 (vp_updL (gA S 36) v5.toNatClampNeg (gA S 36 (v5 - (1 : Int32)).toNatClampNeg))) → (∀ x9 : Int32, x9 = v5 + (-1) → (V_X8_ascend_17  v1 v2 v3 K2 post n x9 S8)))))))))
set_option maxHeartbeats 4000000 in
set_option maxRecDepth 100000 in
theorem lp_X8_ascend_17  (v1 : Int32) (v2 : Int32) (v3 : Int64) (K2 : Int32 → SS → Prop) (post : SS → Prop) (C0 : Bd p s m meth c args cX8_ascend 6 none wsX8_ascend RX8 D n0 cI cJ) (hK2 : ∀ (v2 : Int32) (S : SS), K2 v2 S → ∀ (H : Heap) (locs : List Loc), Wh D n0 ad cI cJ X S s H locs → ∀ ls : Array Slot, lv_has ls 6 [(0, .ref (ad 48)), (1, .int v1), (2, .int v2)] → W p l e rm_X8_ascend s m args below meth c H locs 0 0 (MQ below (va_Qv post (fun S' t => Wd D n0 ad cI cJ X S' t) (fr n0)) args s 0 0 (fr n0)) (F0 m 2 ls [])) : ∀ (n : Nat) (v5 : Int32) (S : SS), V_X8_ascend_17  v1 v2 v3 K2 post n v5 S → ∀ (H : Heap) (locs : List Loc), Wh D n0 ad cI cJ X S s H locs → ∀ ls : Array Slot, lv_has ls 6 [(0, .ref (ad 48)), (1, .int v1), (2, .int v2), (3, .long v3), (5, .int v5)] → W p l e rm_X8_ascend s m args below meth c H locs 0 0 (MQ below (va_Qv post (fun S' t => Wd D n0 ad cI cJ X S' t) (fr n0)) args s 0 0 (fr n0)) (F0 m 17 ls []) := by
  intro n
  induction n with
  | zero => intro v5 S hV; exact False.elim hV
  | succ n ih =>
    intro v5 S hV H locs hw ls hl
    rw [V_X8_ascend_17] at hV
    refine lv_iload C0.x C0.b dX8_ascend_17 (lv_at hl 4 rfl) ?_
    refine lv_if_le (tgt := 58) C0.x C0.b dX8_ascend_19 (by decide) (fun c2 => ?_) (fun c2 => ?_)
    · have hV := hV.1 c2
      refine lv_aload_n C0.x C0.b dX8_ascend_58 rfl (lv_at hl 0 rfl) ?_
      refine r_get C0 hw (C := RX8) (T := TX8) (N := 33) (v := .ref (ad 55)) iw_X8_ascend_X8 (lg_48 ad cI cJ X S) rfl 16 (by decide) (C0.ts _ fw_X8_ascend_32) rfl dX8_ascend_59 ?_
      refine lv_iload C0.x C0.b dX8_ascend_62 (lv_at hl 4 rfl) ?_
      refine lv_lload_n C0.x C0.b dX8_ascend_64 rfl (lv_at hl 3 rfl) ?_
      refine r_last C0 hw (lg_55 ad cI cJ X S) hV.1 dX8_ascend_65 (S' := (sA S 36 (vp_updL (gA S 36) v5.toNatClampNeg v3))) (ls_55 ad cI cJ X S (vp_updL (gA S 36) v5.toNatClampNeg v3)) (fun S3 H locs eS3 hw => ?_)
      have hV := hV.2 S3 eS3
      obtain ⟨x4, ex4⟩ : ∃ z : Int32, z = v2 + 1 := ⟨_, rfl⟩
      have hV := hV x4 ex4
      refine lv_iinc (v := x4) (lv' := [(2, .int x4), (0, .ref (ad 48)), (1, .int v1), (3, .long v3), (5, .int v5)]) C0.x C0.b dX8_ascend_66 hl (k := 2) rfl (by rw [ex4]; rfl) (by decide) rfl (fun ls hl => ?_)
      refine lv_goto (tgt := 2) C0.x C0.b dX8_ascend_69 (by decide) ?_
      exact hK2 _ _ hV _ _ hw _ (lv_sub hl [1, 2, 0] rfl)
    · have hV := hV.2 c2
      refine lv_aload_n C0.x C0.b dX8_ascend_22 rfl (lv_at hl 0 rfl) ?_
      refine r_get C0 hw (C := RX8) (T := TX8) (N := 33) (v := .ref (ad 55)) iw_X8_ascend_X8 (lg_48 ad cI cJ X S) rfl 16 (by decide) (C0.ts _ fw_X8_ascend_32) rfl dX8_ascend_23 ?_
      refine lv_iload C0.x C0.b dX8_ascend_26 (lv_at hl 4 rfl) ?_
      refine lv_iconst (v := 1) C0.x C0.b dX8_ascend_28 (by decide) ?_
      refine lv_isub C0.x C0.b dX8_ascend_29 ?_
      refine r_lald C0 hw (lg_55 ad cI cJ X S) hV.1 dX8_ascend_30 ?_
      have hV := hV.2
      refine lv_lload_n C0.x C0.b dX8_ascend_31 rfl (lv_at hl 3 rfl) ?_
      refine r_lcmp C0 dX8_ascend_32 ?_
      refine lv_if_le (tgt := 58) C0.x C0.b dX8_ascend_33 (by decide) (fun c5 => ?_) (fun c5 => ?_)
      · have hV := hV.1 ((lc_le _ _).mp c5)
        refine lv_aload_n C0.x C0.b dX8_ascend_58 rfl (lv_at hl 0 rfl) ?_
        refine r_get C0 hw (C := RX8) (T := TX8) (N := 33) (v := .ref (ad 55)) iw_X8_ascend_X8 (lg_48 ad cI cJ X S) rfl 16 (by decide) (C0.ts _ fw_X8_ascend_32) rfl dX8_ascend_59 ?_
        refine lv_iload C0.x C0.b dX8_ascend_62 (lv_at hl 4 rfl) ?_
        refine lv_lload_n C0.x C0.b dX8_ascend_64 rfl (lv_at hl 3 rfl) ?_
        refine r_last C0 hw (lg_55 ad cI cJ X S) hV.1 dX8_ascend_65 (S' := (sA S 36 (vp_updL (gA S 36) v5.toNatClampNeg v3))) (ls_55 ad cI cJ X S (vp_updL (gA S 36) v5.toNatClampNeg v3)) (fun S6 H locs eS6 hw => ?_)
        have hV := hV.2 S6 eS6
        obtain ⟨x7, ex7⟩ : ∃ z : Int32, z = v2 + 1 := ⟨_, rfl⟩
        have hV := hV x7 ex7
        refine lv_iinc (v := x7) (lv' := [(2, .int x7), (0, .ref (ad 48)), (1, .int v1), (3, .long v3), (5, .int v5)]) C0.x C0.b dX8_ascend_66 hl (k := 2) rfl (by rw [ex7]; rfl) (by decide) rfl (fun ls hl => ?_)
        refine lv_goto (tgt := 2) C0.x C0.b dX8_ascend_69 (by decide) ?_
        exact hK2 _ _ hV _ _ hw _ (lv_sub hl [1, 2, 0] rfl)
      · have hV := hV.2 (fun h => c5 ((lc_le _ _).mpr h))
        refine lv_aload_n C0.x C0.b dX8_ascend_36 rfl (lv_at hl 0 rfl) ?_
        refine r_get C0 hw (C := RX8) (T := TX8) (N := 33) (v := .ref (ad 55)) iw_X8_ascend_X8 (lg_48 ad cI cJ X S) rfl 16 (by decide) (C0.ts _ fw_X8_ascend_32) rfl dX8_ascend_37 ?_
        refine lv_iload C0.x C0.b dX8_ascend_40 (lv_at hl 4 rfl) ?_
        refine lv_aload_n C0.x C0.b dX8_ascend_42 rfl (lv_at hl 0 rfl) ?_
        refine r_get C0 hw (C := RX8) (T := TX8) (N := 33) (v := .ref (ad 55)) iw_X8_ascend_X8 (lg_48 ad cI cJ X S) rfl 16 (by decide) (C0.ts _ fw_X8_ascend_32) rfl dX8_ascend_43 ?_
        refine lv_iload C0.x C0.b dX8_ascend_46 (lv_at hl 4 rfl) ?_
        refine lv_iconst (v := 1) C0.x C0.b dX8_ascend_48 (by decide) ?_
        refine lv_isub C0.x C0.b dX8_ascend_49 ?_
        refine r_lald C0 hw (lg_55 ad cI cJ X S) hV.1 dX8_ascend_50 ?_
        have hV := hV.2
        refine r_last C0 hw (lg_55 ad cI cJ X S) hV.1 dX8_ascend_51 (S' := (sA S 36 (vp_updL (gA S 36) v5.toNatClampNeg (gA S 36 (v5 - (1 : Int32)).toNatClampNeg)))) (ls_55 ad cI cJ X S (vp_updL (gA S 36) v5.toNatClampNeg (gA S 36 (v5 - (1 : Int32)).toNatClampNeg))) (fun S8 H locs eS8 hw => ?_)
        have hV := hV.2 S8 eS8
        obtain ⟨x9, ex9⟩ : ∃ z : Int32, z = v5 + (-1) := ⟨_, rfl⟩
        have hV := hV x9 ex9
        refine lv_iinc (v := x9) (lv' := [(5, .int x9), (0, .ref (ad 48)), (1, .int v1), (2, .int v2), (3, .long v3)]) C0.x C0.b dX8_ascend_52 hl (k := 4) rfl (by rw [ex9]; rfl) (by decide) rfl (fun ls hl => ?_)
        refine lv_goto (tgt := 17) C0.x C0.b dX8_ascend_55 (by decide) ?_
        exact ih _ _ hV _ _ hw _ (lv_sub hl [1, 2, 3, 4, 0] rfl)
def V_X8_ascend_2  (v1 : Int32)  (post : SS → Prop) : Nat → Int32 → SS → Prop
  | 0, _, _ => False
  | n + 1, v2, S =>
    ((v1 ≤ v2 → (post S)) ∧ (¬ v1 ≤ v2 → (vp_in v2 20000 ∧ (∃ n17 : Nat, V_X8_ascend_17  v1 v2 (gA S 36 v2.toNatClampNeg) (fun w2 T => V_X8_ascend_2  v1  post n w2 T) post n17 v2 S))))
set_option maxHeartbeats 4000000 in
set_option maxRecDepth 100000 in
theorem lp_X8_ascend_2  (v1 : Int32)  (post : SS → Prop) (C0 : Bd p s m meth c args cX8_ascend 6 none wsX8_ascend RX8 D n0 cI cJ) : ∀ (n : Nat) (v2 : Int32) (S : SS), V_X8_ascend_2  v1  post n v2 S → ∀ (H : Heap) (locs : List Loc), Wh D n0 ad cI cJ X S s H locs → ∀ ls : Array Slot, lv_has ls 6 [(0, .ref (ad 48)), (1, .int v1), (2, .int v2)] → W p l e rm_X8_ascend s m args below meth c H locs 0 0 (MQ below (va_Qv post (fun S' t => Wd D n0 ad cI cJ X S' t) (fr n0)) args s 0 0 (fr n0)) (F0 m 2 ls []) := by
  intro n
  induction n with
  | zero => intro v2 S hV; exact False.elim hV
  | succ n ih =>
    intro v2 S hV H locs hw ls hl
    rw [V_X8_ascend_2] at hV
    refine lv_iload_n C0.x C0.b dX8_ascend_2 rfl (lv_at hl 2 rfl) ?_
    refine lv_iload_n C0.x C0.b dX8_ascend_3 rfl (lv_at hl 1 rfl) ?_
    refine lv_icmp_ge (tgt := 72) C0.x C0.b dX8_ascend_4 (by decide) (fun c1 => ?_) (fun c1 => ?_)
    · have hV := hV.1 c1
      exact r_vret C0 rfl hw hV dX8_ascend_72
    · have hV := hV.2 c1
      refine lv_aload_n C0.x C0.b dX8_ascend_7 rfl (lv_at hl 0 rfl) ?_
      refine r_get C0 hw (C := RX8) (T := TX8) (N := 33) (v := .ref (ad 55)) iw_X8_ascend_X8 (lg_48 ad cI cJ X S) rfl 16 (by decide) (C0.ts _ fw_X8_ascend_32) rfl dX8_ascend_8 ?_
      refine lv_iload_n C0.x C0.b dX8_ascend_11 rfl (lv_at hl 2 rfl) ?_
      refine r_lald C0 hw (lg_55 ad cI cJ X S) hV.1 dX8_ascend_12 ?_
      have hV := hV.2
      refine lv_lstore_n (lv' := [(3, .long (gA S 36 v2.toNatClampNeg)), (0, .ref (ad 48)), (1, .int v1), (2, .int v2)]) C0.x C0.b dX8_ascend_13 rfl hl (by decide) rfl (fun ls hl => ?_)
      refine lv_iload_n C0.x C0.b dX8_ascend_14 rfl (lv_at hl 3 rfl) ?_
      refine lv_istore (lv' := [(5, .int v2), (3, .long (gA S 36 v2.toNatClampNeg)), (0, .ref (ad 48)), (1, .int v1), (2, .int v2)]) C0.x C0.b dX8_ascend_15 hl (by decide) rfl (fun ls hl => ?_)
      obtain ⟨n17, hV⟩ := hV
      exact lp_X8_ascend_17  _ _ _ _ post C0 ih n17 _ _ hV _ _ hw _ (lv_sub hl [2, 3, 4, 1, 0] rfl)
def V_X8_ascend  (p0 : Int32) (S : SS) (post : SS → Prop) : Prop :=
  (∃ n2 : Nat, V_X8_ascend_2  p0  post n2 (1 : Int32) S)
set_option maxHeartbeats 4000000 in
set_option maxRecDepth 100000 in
theorem c_X8_ascend  {S : SS} {p0 : Int32} {post : SS → Prop} (hV : V_X8_ascend  p0 S post) : MV l yX8_ascend wsX8_ascend rm_X8_ascend [.ref (ad 48), .int p0] D n0 ad cI cJ X S post := by
  refine Met.ofW (cc := cX8_ascend) (maxL := 6) (ret := none) (by decide) rfl ?_
  intro p e s m args below meth c s₁ B hml hv
  obtain ⟨rfl, hv⟩ := hv
  have C0 := Bd.mk B hml (atoms_spec (ws := wsX8_ascend) B.pre) (findClass_of_methodNamed B.named) hv.1
  have hw : Wh D n0 ad cI cJ X S s s.heap [] := ⟨hv.2.1, hv.2.2, va_S.rf⟩
  refine r_entry (Nat.le_of_ble_eq_true rfl) (fun ls hl => ?_)
  have hl : lv_has ls 6 [(0, .ref (ad 48)), (1, .int p0)] := hl
  unfold V_X8_ascend at hV
  refine lv_iconst (v := 1) C0.x C0.b dX8_ascend_0 (by decide) ?_
  refine lv_istore_n (lv' := [(2, .int (1 : Int32)), (0, .ref (ad 48)), (1, .int p0)]) C0.x C0.b dX8_ascend_1 rfl hl (by decide) rfl (fun ls hl => ?_)
  obtain ⟨n2, hV⟩ := hV
  exact lp_X8_ascend_2  _ post C0  n2 _ _ hV _ _ hw _ (lv_sub hl [1, 2, 0] rfl)
/-! StepBenchModel.rings(I)I -/
abbrev rm_X8_rings : Room := { frames := 5, cells := 0, slots := 0, locals := 120 }
set_option maxRecDepth 20000 in
theorem fw_X8_rings_61 : Cond.fieldLink RX8 61 "StepBenchModel" "thrown" "I" ∈ wsX8_rings := by decide +kernel
set_option maxRecDepth 20000 in
theorem iw_X8_rings_X8 : ∀ w ∈ wsX80, w ∈ wsX8_rings := by decide +kernel
set_option maxRecDepth 20000 in
theorem fw_X8_rings_108 : Cond.fieldLink RX8 108 "StepBenchModel" "sort" "I" ∈ wsX8_rings := by decide +kernel
set_option maxRecDepth 20000 in
theorem cw_X8_rings_202 : Cond.constantLong RX8 202 12 ∈ wsX8_rings := by decide +kernel
set_option maxRecDepth 20000 in
theorem fw_X8_rings_39 : Cond.fieldLink RX8 39 "StepBenchModel" "tried" "[I" ∈ wsX8_rings := by decide +kernel
set_option maxRecDepth 20000 in
theorem fw_X8_rings_193 : Cond.fieldLink RX8 193 "StepBenchModel" "isUnlike" "Z" ∈ wsX8_rings := by decide +kernel
set_option maxRecDepth 20000 in
theorem fw_X8_rings_190 : Cond.fieldLink RX8 190 "StepBenchModel" "ringLeast" "J" ∈ wsX8_rings := by decide +kernel
set_option maxRecDepth 20000 in
theorem fw_X8_rings_187 : Cond.fieldLink RX8 187 "StepBenchModel" "ringX" "J" ∈ wsX8_rings := by decide +kernel
set_option maxRecDepth 20000 in
theorem fw_X8_rings_32 : Cond.fieldLink RX8 32 "StepBenchModel" "found" "[J" ∈ wsX8_rings := by decide +kernel
set_option maxRecDepth 20000 in
theorem fw_X8_rings_105 : Cond.fieldLink RX8 105 "StepBenchModel" "m" "I" ∈ wsX8_rings := by decide +kernel
set_option maxRecDepth 20000 in
theorem hd_X8_rings : yX8_rings.cls = RX8 ∧ yX8_rings.cls ≠ "java/lang/invoke/MethodHandle" ∧ yX8_rings.cls ≠ "java/lang/invoke/VarHandle" ∧ (parseMethodDescriptor yX8_rings.desc).map (fun d => d.parameters.length) = some 1 := by decide +kernel
def V_X8_rings_61  (v1 : Int32) (v2 : Int32) (v3 : Int32) (v4 : Int32) (K48 : Int32 → Int32 → SS → Prop) (post : Int32 → SS → Prop) : Nat → Int32 → Int32 → SS → Prop
  | 0, _, _, _ => False
  | n + 1, v5, v6, S =>
    ((v1 ≤ v6 → (V_X8_shaped 1 40 v1 S (fun (r15 : Int32) (S16 : SS) => ((r15 = 0 → (post (-2 : Int32) S16)) ∧ (¬ r15 = 0 → (V_X8_ringOf 1 40 v1 S16 (fun (r18 : Int32) (S19 : SS) => ((r18 = (1 : Int32) → (((gI S19 30) = 0 → (∀ x22 : Int32, x22 = v4 + 1 → (K48 v3 x22 S19))) ∧ (¬ (gI S19 30) = 0 → (((gJ S19 5) = (gJ S19 4) → (vp_in v3 20000 ∧ ∀ S24 : SS, S24 = (sA S19 36 (vp_updL (gA S19 36) v3.toNatClampNeg (gJ S19 4))) → (∀ x25 : Int32, x25 = v3 + 1 → (∀ x26 : Int32, x26 = v4 + 1 → (K48 x25 x26 S24))))) ∧ (¬ (gJ S19 5) = (gJ S19 4) → (∀ x27 : Int32, x27 = v4 + 1 → (K48 v3 x27 S19))))))) ∧ (¬ r18 = (1 : Int32) → (∀ x28 : Int32, x28 = v4 + 1 → (K48 v3 x28 S19))))))))))) ∧ (¬ v1 ≤ v6 → (¬ (gI S 26) = 0 ∧ (vp_in v6 40 ∧ ∀ S29 : SS, S29 = (sB S 1 (upd (gB S 1) v6.toNatClampNeg (irm v5 (gI S 26)))) → (¬ (gI S29 26) = 0 ∧ (∀ x30 : Int32, x30 = (v5 / (gI S29 26)) → (∀ x31 : Int32, x31 = v6 + 1 → (V_X8_rings_61  v1 v2 v3 v4 K48 post n x30 x31 S29))))))))
set_option maxHeartbeats 4000000 in
set_option maxRecDepth 100000 in
theorem lp_X8_rings_61  (v1 : Int32) (v2 : Int32) (v3 : Int32) (v4 : Int32) (K48 : Int32 → Int32 → SS → Prop) (post : Int32 → SS → Prop) (C0 : Bd p s m meth c args cX8_rings 7 (some .int) wsX8_rings RX8 D n0 cI cJ) (hK48 : ∀ (v3 : Int32) (v4 : Int32) (S : SS), K48 v3 v4 S → ∀ (H : Heap) (locs : List Loc), Wh D n0 ad cI cJ X S s H locs → ∀ ls : Array Slot, lv_has ls 7 [(0, .ref (ad 48)), (1, .int v1), (2, .int v2), (3, .int v3), (4, .int v4)] → W p l e rm_X8_rings s m args below meth c H locs 0 0 (MQ below (va_Qi post (fun S' t => Wd D n0 ad cI cJ X S' t) (fr n0)) args s 0 0 (fr n0)) (F0 m 48 ls [])) : ∀ (n : Nat) (v5 : Int32) (v6 : Int32) (S : SS), V_X8_rings_61  v1 v2 v3 v4 K48 post n v5 v6 S → ∀ (H : Heap) (locs : List Loc), Wh D n0 ad cI cJ X S s H locs → ∀ ls : Array Slot, lv_has ls 7 [(0, .ref (ad 48)), (1, .int v1), (2, .int v2), (3, .int v3), (4, .int v4), (5, .int v5), (6, .int v6)] → W p l e rm_X8_rings s m args below meth c H locs 0 0 (MQ below (va_Qi post (fun S' t => Wd D n0 ad cI cJ X S' t) (fr n0)) args s 0 0 (fr n0)) (F0 m 61 ls []) := by
  intro n
  induction n with
  | zero => intro v5 v6 S hV; exact False.elim hV
  | succ n ih =>
    intro v5 v6 S hV H locs hw ls hl
    rw [V_X8_rings_61] at hV
    refine lv_iload C0.x C0.b dX8_rings_61 (lv_at hl 6 rfl) ?_
    refine lv_iload_n C0.x C0.b dX8_rings_63 rfl (lv_at hl 1 rfl) ?_
    refine lv_icmp_ge (tgt := 96) C0.x C0.b dX8_rings_64 (by decide) (fun c14 => ?_) (fun c14 => ?_)
    · have hV := hV.1 c14
      refine lv_aload_n C0.x C0.b dX8_rings_96 rfl (lv_at hl 0 rfl) ?_
      refine lv_aload_n C0.x C0.b dX8_rings_97 rfl (lv_at hl 0 rfl) ?_
      refine r_get C0 hw (C := RX8) (T := TX8) (N := 33) (v := .ref (ad 57)) iw_X8_rings_X8 (lg_48 ad cI cJ X S) rfl 22 (by decide) (C0.ts _ fw_X8_rings_39) rfl dX8_rings_98 ?_
      refine lv_iload_n C0.x C0.b dX8_rings_101 rfl (lv_at hl 1 rfl) ?_
      refine r_cV_i (As := [.ref (ad 57), .int v1]) (rest := []) C0 hw (c_X8_shaped (la_57 ad cI cJ X) hV) (cwV 2 C0.ts gX8_rings_X8_shaped rfl rfl rfl hd_X8_shaped ⟨Nat.le_of_ble_eq_true rfl, Nat.le_of_ble_eq_true rfl⟩) (lg_48 ad cI cJ X S) rfl rfl hl.1 rfl (Nat.le_of_ble_eq_true rfl) ⟨Nat.zero_le _, Nat.zero_le _⟩ dX8_rings_102 (fun r15 S16 H locs hV hw => ?_)
      refine lv_if_ne (tgt := 111) C0.x C0.b dX8_rings_105 (by decide) (fun c17 => ?_) (fun c17 => ?_)
      · have hV := hV.2 c17
        refine lv_aload_n C0.x C0.b dX8_rings_111 rfl (lv_at hl 0 rfl) ?_
        refine lv_aload_n C0.x C0.b dX8_rings_112 rfl (lv_at hl 0 rfl) ?_
        refine r_get C0 hw (C := RX8) (T := TX8) (N := 33) (v := .ref (ad 57)) iw_X8_rings_X8 (lg_48 ad cI cJ X S16) rfl 22 (by decide) (C0.ts _ fw_X8_rings_39) rfl dX8_rings_113 ?_
        refine lv_iload_n C0.x C0.b dX8_rings_116 rfl (lv_at hl 1 rfl) ?_
        refine r_cV_i (As := [.ref (ad 57), .int v1]) (rest := []) C0 hw (c_X8_ringOf (la_57 ad cI cJ X) hV) (cwV 2 C0.ts gX8_rings_X8_ringOf rfl rfl rfl hd_X8_ringOf ⟨Nat.le_of_ble_eq_true rfl, Nat.le_of_ble_eq_true rfl⟩) (lg_48 ad cI cJ X S16) rfl rfl hl.1 rfl (Nat.le_of_ble_eq_true rfl) ⟨Nat.zero_le _, Nat.zero_le _⟩ dX8_rings_117 (fun r18 S19 H locs hV hw => ?_)
        refine lv_iconst (v := 1) C0.x C0.b dX8_rings_120 (by decide) ?_
        refine lv_icmp_ne (tgt := 156) C0.x C0.b dX8_rings_121 (by decide) (fun c20 => ?_) (fun c20 => ?_)
        · have hV := hV.2 c20
          obtain ⟨x28, ex28⟩ : ∃ z : Int32, z = v4 + 1 := ⟨_, rfl⟩
          have hV := hV x28 ex28
          refine lv_iinc (v := x28) (lv' := [(4, .int x28), (0, .ref (ad 48)), (1, .int v1), (2, .int v2), (3, .int v3), (5, .int v5), (6, .int v6)]) C0.x C0.b dX8_rings_156 hl (k := 4) rfl (by rw [ex28]; rfl) (by decide) rfl (fun ls hl => ?_)
          refine lv_goto (tgt := 48) C0.x C0.b dX8_rings_159 (by decide) ?_
          exact hK48 _ _ _ hV _ _ hw _ (lv_sub hl [1, 2, 3, 4, 0] rfl)
        · have hV := hV.1 c20
          refine lv_aload_n C0.x C0.b dX8_rings_124 rfl (lv_at hl 0 rfl) ?_
          refine r_get C0 hw (C := RX8) (T := TX8) (N := 33) (v := .int (gI S19 30)) iw_X8_rings_X8 (lg_48 ad cI cJ X S19) rfl 25 (by decide) (C0.ts _ fw_X8_rings_193) rfl dX8_rings_125 ?_
          refine lv_if_eq (tgt := 156) C0.x C0.b dX8_rings_128 (by decide) (fun c21 => ?_) (fun c21 => ?_)
          · have hV := hV.1 c21
            obtain ⟨x22, ex22⟩ : ∃ z : Int32, z = v4 + 1 := ⟨_, rfl⟩
            have hV := hV x22 ex22
            refine lv_iinc (v := x22) (lv' := [(4, .int x22), (0, .ref (ad 48)), (1, .int v1), (2, .int v2), (3, .int v3), (5, .int v5), (6, .int v6)]) C0.x C0.b dX8_rings_156 hl (k := 4) rfl (by rw [ex22]; rfl) (by decide) rfl (fun ls hl => ?_)
            refine lv_goto (tgt := 48) C0.x C0.b dX8_rings_159 (by decide) ?_
            exact hK48 _ _ _ hV _ _ hw _ (lv_sub hl [1, 2, 3, 4, 0] rfl)
          · have hV := hV.2 c21
            refine lv_aload_n C0.x C0.b dX8_rings_131 rfl (lv_at hl 0 rfl) ?_
            refine r_get C0 hw (C := RX8) (T := TX8) (N := 33) (v := .long (gJ S19 5)) iw_X8_rings_X8 (lg_48 ad cI cJ X S19) rfl 24 (by decide) (C0.ts _ fw_X8_rings_190) rfl dX8_rings_132 ?_
            refine lv_aload_n C0.x C0.b dX8_rings_135 rfl (lv_at hl 0 rfl) ?_
            refine r_get C0 hw (C := RX8) (T := TX8) (N := 33) (v := .long (gJ S19 4)) iw_X8_rings_X8 (lg_48 ad cI cJ X S19) rfl 23 (by decide) (C0.ts _ fw_X8_rings_187) rfl dX8_rings_136 ?_
            refine r_lcmp C0 dX8_rings_139 ?_
            refine lv_if_ne (tgt := 156) C0.x C0.b dX8_rings_140 (by decide) (fun c23 => ?_) (fun c23 => ?_)
            · have hV := hV.2 (fun h => c23 ((lc_eq _ _).mpr h))
              obtain ⟨x27, ex27⟩ : ∃ z : Int32, z = v4 + 1 := ⟨_, rfl⟩
              have hV := hV x27 ex27
              refine lv_iinc (v := x27) (lv' := [(4, .int x27), (0, .ref (ad 48)), (1, .int v1), (2, .int v2), (3, .int v3), (5, .int v5), (6, .int v6)]) C0.x C0.b dX8_rings_156 hl (k := 4) rfl (by rw [ex27]; rfl) (by decide) rfl (fun ls hl => ?_)
              refine lv_goto (tgt := 48) C0.x C0.b dX8_rings_159 (by decide) ?_
              exact hK48 _ _ _ hV _ _ hw _ (lv_sub hl [1, 2, 3, 4, 0] rfl)
            · have hV := hV.1 ((lc_eq _ _).mp c23)
              refine lv_aload_n C0.x C0.b dX8_rings_143 rfl (lv_at hl 0 rfl) ?_
              refine r_get C0 hw (C := RX8) (T := TX8) (N := 33) (v := .ref (ad 55)) iw_X8_rings_X8 (lg_48 ad cI cJ X S19) rfl 16 (by decide) (C0.ts _ fw_X8_rings_32) rfl dX8_rings_144 ?_
              refine lv_iload_n C0.x C0.b dX8_rings_147 rfl (lv_at hl 3 rfl) ?_
              refine lv_aload_n C0.x C0.b dX8_rings_148 rfl (lv_at hl 0 rfl) ?_
              refine r_get C0 hw (C := RX8) (T := TX8) (N := 33) (v := .long (gJ S19 4)) iw_X8_rings_X8 (lg_48 ad cI cJ X S19) rfl 23 (by decide) (C0.ts _ fw_X8_rings_187) rfl dX8_rings_149 ?_
              refine r_last C0 hw (lg_55 ad cI cJ X S19) hV.1 dX8_rings_152 (S' := (sA S19 36 (vp_updL (gA S19 36) v3.toNatClampNeg (gJ S19 4)))) (ls_55 ad cI cJ X S19 (vp_updL (gA S19 36) v3.toNatClampNeg (gJ S19 4))) (fun S24 H locs eS24 hw => ?_)
              have hV := hV.2 S24 eS24
              obtain ⟨x25, ex25⟩ : ∃ z : Int32, z = v3 + 1 := ⟨_, rfl⟩
              have hV := hV x25 ex25
              refine lv_iinc (v := x25) (lv' := [(3, .int x25), (0, .ref (ad 48)), (1, .int v1), (2, .int v2), (4, .int v4), (5, .int v5), (6, .int v6)]) C0.x C0.b dX8_rings_153 hl (k := 3) rfl (by rw [ex25]; rfl) (by decide) rfl (fun ls hl => ?_)
              obtain ⟨x26, ex26⟩ : ∃ z : Int32, z = v4 + 1 := ⟨_, rfl⟩
              have hV := hV x26 ex26
              refine lv_iinc (v := x26) (lv' := [(4, .int x26), (3, .int x25), (0, .ref (ad 48)), (1, .int v1), (2, .int v2), (5, .int v5), (6, .int v6)]) C0.x C0.b dX8_rings_156 hl (k := 4) rfl (by rw [ex26]; rfl) (by decide) rfl (fun ls hl => ?_)
              refine lv_goto (tgt := 48) C0.x C0.b dX8_rings_159 (by decide) ?_
              exact hK48 _ _ _ hV _ _ hw _ (lv_sub hl [2, 3, 4, 1, 0] rfl)
      · have hV := hV.1 c17
        refine lv_bipush (v := -2) C0.x C0.b dX8_rings_108 (by decide) ?_
        exact r_iret C0 rfl hw hV dX8_rings_110
    · have hV := hV.2 c14
      refine lv_aload_n C0.x C0.b dX8_rings_67 rfl (lv_at hl 0 rfl) ?_
      refine r_get C0 hw (C := RX8) (T := TX8) (N := 33) (v := .ref (ad 57)) iw_X8_rings_X8 (lg_48 ad cI cJ X S) rfl 22 (by decide) (C0.ts _ fw_X8_rings_39) rfl dX8_rings_68 ?_
      refine lv_iload C0.x C0.b dX8_rings_71 (lv_at hl 6 rfl) ?_
      refine lv_iload C0.x C0.b dX8_rings_73 (lv_at hl 5 rfl) ?_
      refine lv_aload_n C0.x C0.b dX8_rings_75 rfl (lv_at hl 0 rfl) ?_
      refine r_get C0 hw (C := RX8) (T := TX8) (N := 33) (v := .int (gI S 26)) iw_X8_rings_X8 (lg_48 ad cI cJ X S) rfl 8 (by decide) (C0.ts _ fw_X8_rings_105) rfl dX8_rings_76 ?_
      refine lv_irem C0.x C0.b dX8_rings_79 hV.1 ?_
      have hV := hV.2
      refine r_iast C0 hw (lg_57 ad cI cJ X S) hV.1 dX8_rings_80 (S' := (sB S 1 (upd (gB S 1) v6.toNatClampNeg (irm v5 (gI S 26))))) (ls_57 ad cI cJ X S (upd (gB S 1) v6.toNatClampNeg (irm v5 (gI S 26)))) (fun S29 H locs eS29 hw => ?_)
      have hV := hV.2 S29 eS29
      refine lv_iload C0.x C0.b dX8_rings_81 (lv_at hl 5 rfl) ?_
      refine lv_aload_n C0.x C0.b dX8_rings_83 rfl (lv_at hl 0 rfl) ?_
      refine r_get C0 hw (C := RX8) (T := TX8) (N := 33) (v := .int (gI S29 26)) iw_X8_rings_X8 (lg_48 ad cI cJ X S29) rfl 8 (by decide) (C0.ts _ fw_X8_rings_105) rfl dX8_rings_84 ?_
      refine lv_idiv C0.x C0.b dX8_rings_87 hV.1 ?_
      have hV := hV.2
      refine lv_topi (fun x30 ex30 => ?_)
      have hV := hV x30 ex30
      refine lv_istore (lv' := [(5, .int x30), (0, .ref (ad 48)), (1, .int v1), (2, .int v2), (3, .int v3), (4, .int v4), (6, .int v6)]) C0.x C0.b dX8_rings_88 hl (by decide) rfl (fun ls hl => ?_)
      obtain ⟨x31, ex31⟩ : ∃ z : Int32, z = v6 + 1 := ⟨_, rfl⟩
      have hV := hV x31 ex31
      refine lv_iinc (v := x31) (lv' := [(6, .int x31), (5, .int x30), (0, .ref (ad 48)), (1, .int v1), (2, .int v2), (3, .int v3), (4, .int v4)]) C0.x C0.b dX8_rings_90 hl (k := 6) rfl (by rw [ex31]; rfl) (by decide) rfl (fun ls hl => ?_)
      refine lv_goto (tgt := 61) C0.x C0.b dX8_rings_93 (by decide) ?_
      exact ih _ _ _ hV _ _ hw _ (lv_sub hl [2, 3, 4, 5, 6, 1, 0] rfl)
def V_X8_rings_48  (v1 : Int32) (v2 : Int32)  (post : Int32 → SS → Prop) : Nat → Int32 → Int32 → SS → Prop
  | 0, _, _, _ => False
  | n + 1, v3, v4, S =>
    ((v2 ≤ v4 → (V_X8_ascend v3 S (fun (S11 : SS) => (V_X8_tells v3 S11 (fun (S13 : SS) => (post v3 S13)))))) ∧ (¬ v2 ≤ v4 → (∃ n61 : Nat, V_X8_rings_61  v1 v2 v3 v4 (fun w3 w4 T => V_X8_rings_48  v1 v2  post n w3 w4 T) post n61 v4 (0 : Int32) S)))
set_option maxHeartbeats 4000000 in
set_option maxRecDepth 100000 in
theorem lp_X8_rings_48  (v1 : Int32) (v2 : Int32)  (post : Int32 → SS → Prop) (C0 : Bd p s m meth c args cX8_rings 7 (some .int) wsX8_rings RX8 D n0 cI cJ) : ∀ (n : Nat) (v3 : Int32) (v4 : Int32) (S : SS), V_X8_rings_48  v1 v2  post n v3 v4 S → ∀ (H : Heap) (locs : List Loc), Wh D n0 ad cI cJ X S s H locs → ∀ ls : Array Slot, lv_has ls 7 [(0, .ref (ad 48)), (1, .int v1), (2, .int v2), (3, .int v3), (4, .int v4)] → W p l e rm_X8_rings s m args below meth c H locs 0 0 (MQ below (va_Qi post (fun S' t => Wd D n0 ad cI cJ X S' t) (fr n0)) args s 0 0 (fr n0)) (F0 m 48 ls []) := by
  intro n
  induction n with
  | zero => intro v3 v4 S hV; exact False.elim hV
  | succ n ih =>
    intro v3 v4 S hV H locs hw ls hl
    rw [V_X8_rings_48] at hV
    refine lv_iload C0.x C0.b dX8_rings_48 (lv_at hl 4 rfl) ?_
    refine lv_iload_n C0.x C0.b dX8_rings_50 rfl (lv_at hl 2 rfl) ?_
    refine lv_icmp_ge (tgt := 162) C0.x C0.b dX8_rings_51 (by decide) (fun c9 => ?_) (fun c9 => ?_)
    · have hV := hV.1 c9
      refine lv_aload_n C0.x C0.b dX8_rings_162 rfl (lv_at hl 0 rfl) ?_
      refine lv_iload_n C0.x C0.b dX8_rings_163 rfl (lv_at hl 3 rfl) ?_
      refine r_cV_v (As := [.int v3]) (rest := []) C0 hw (c_X8_ascend  hV) (cwV 1 C0.ts gX8_rings_X8_ascend rfl rfl rfl hd_X8_ascend ⟨Nat.le_of_ble_eq_true rfl, Nat.le_of_ble_eq_true rfl⟩) (lg_48 ad cI cJ X S) rfl rfl hl.1 rfl (Nat.le_of_ble_eq_true rfl) ⟨Nat.zero_le _, Nat.zero_le _⟩ dX8_rings_164 (fun S11 H locs hV hw => ?_)
      refine lv_aload_n C0.x C0.b dX8_rings_167 rfl (lv_at hl 0 rfl) ?_
      refine lv_iload_n C0.x C0.b dX8_rings_168 rfl (lv_at hl 3 rfl) ?_
      refine r_cV_v (As := [.int v3]) (rest := []) C0 hw (c_X8_tells  hV) (cwV 1 C0.ts gX8_rings_X8_tells rfl rfl rfl hd_X8_tells ⟨Nat.le_of_ble_eq_true rfl, Nat.le_of_ble_eq_true rfl⟩) (lg_48 ad cI cJ X S11) rfl rfl hl.1 rfl (Nat.le_of_ble_eq_true rfl) ⟨Nat.zero_le _, Nat.zero_le _⟩ dX8_rings_169 (fun S13 H locs hV hw => ?_)
      refine lv_iload_n C0.x C0.b dX8_rings_172 rfl (lv_at hl 3 rfl) ?_
      exact r_iret C0 rfl hw hV dX8_rings_173
    · have hV := hV.2 c9
      refine lv_iload C0.x C0.b dX8_rings_54 (lv_at hl 4 rfl) ?_
      refine lv_istore (lv' := [(5, .int v4), (0, .ref (ad 48)), (1, .int v1), (2, .int v2), (3, .int v3), (4, .int v4)]) C0.x C0.b dX8_rings_56 hl (by decide) rfl (fun ls hl => ?_)
      refine lv_iconst (v := 0) C0.x C0.b dX8_rings_58 (by decide) ?_
      refine lv_istore (lv' := [(6, .int (0 : Int32)), (5, .int v4), (0, .ref (ad 48)), (1, .int v1), (2, .int v2), (3, .int v3), (4, .int v4)]) C0.x C0.b dX8_rings_59 hl (by decide) rfl (fun ls hl => ?_)
      obtain ⟨n61, hV⟩ := hV
      exact lp_X8_rings_61  _ _ _ _ _ post C0 ih n61 _ _ _ hV _ _ hw _ (lv_sub hl [2, 3, 4, 5, 6, 1, 0] rfl)
def V_X8_rings  (p0 : Int32) (S : SS) (post : Int32 → SS → Prop) : Prop :=
  (∀ S1 : SS, S1 = (sI S 20 (0 : Int32)) → (((gI S1 25) = (1 : Int32) → (V_X8_in p0.toInt64 (1 : Int64) (12 : Int64) S1 (fun (r3 : Int32) (S4 : SS) => ((r3 = 0 → (post (-1 : Int32) S4)) ∧ (¬ r3 = 0 → (V_X8_power p0 S4 (fun (r6 : Int32) (S7 : SS) => ((r6 ≤ (20000 : Int32) → (∃ n48 : Nat, V_X8_rings_48  p0 r6  post n48 (0 : Int32) (0 : Int32) S7)) ∧ (¬ r6 ≤ (20000 : Int32) → (post (-2 : Int32) S7)))))))))) ∧ (¬ (gI S1 25) = (1 : Int32) → (post (-1 : Int32) S1))))
set_option maxHeartbeats 4000000 in
set_option maxRecDepth 100000 in
theorem c_X8_rings  {S : SS} {p0 : Int32} {post : Int32 → SS → Prop} (hV : V_X8_rings  p0 S post) : MI l yX8_rings wsX8_rings rm_X8_rings [.ref (ad 48), .int p0] D n0 ad cI cJ X S post := by
  refine Met.ofW (cc := cX8_rings) (maxL := 7) (ret := (some .int)) (by decide) rfl ?_
  intro p e s m args below meth c s₁ B hml hv
  obtain ⟨rfl, hv⟩ := hv
  have C0 := Bd.mk B hml (atoms_spec (ws := wsX8_rings) B.pre) (findClass_of_methodNamed B.named) hv.1
  have hw : Wh D n0 ad cI cJ X S s s.heap [] := ⟨hv.2.1, hv.2.2, va_S.rf⟩
  refine r_entry (Nat.le_of_ble_eq_true rfl) (fun ls hl => ?_)
  have hl : lv_has ls 7 [(0, .ref (ad 48)), (1, .int p0)] := hl
  unfold V_X8_rings at hV
  refine lv_aload_n C0.x C0.b dX8_rings_0 rfl (lv_at hl 0 rfl) ?_
  refine lv_iconst (v := 0) C0.x C0.b dX8_rings_1 (by decide) ?_
  refine r_put C0 hw (C := RX8) (T := TX8) (N := 33) (ty := .int) iw_X8_rings_X8 tyX8 tyX8_ok nmX8 (lg_48 ad cI cJ X S) rfl 0 (by decide) (C0.ts _ fw_X8_rings_61) rfl (by decide +kernel) rfl rfl (Nat.le_of_ble_eq_true rfl) dX8_rings_2 (S' := (sI S 20 (0 : Int32))) (ls_48_0 ad cI cJ X S (0 : Int32)) (fun S1 H locs eS1 hw => ?_)
  have hV := hV S1 eS1
  refine lv_aload_n C0.x C0.b dX8_rings_5 rfl (lv_at hl 0 rfl) ?_
  refine r_get C0 hw (C := RX8) (T := TX8) (N := 33) (v := .int (gI S1 25)) iw_X8_rings_X8 (lg_48 ad cI cJ X S1) rfl 7 (by decide) (C0.ts _ fw_X8_rings_108) rfl dX8_rings_6 ?_
  refine lv_iconst (v := 1) C0.x C0.b dX8_rings_9 (by decide) ?_
  refine lv_icmp_ne (tgt := 25) C0.x C0.b dX8_rings_10 (by decide) (fun c2 => ?_) (fun c2 => ?_)
  · have hV := hV.2 c2
    refine lv_iconst (v := -1) C0.x C0.b dX8_rings_25 (by decide) ?_
    exact r_iret C0 rfl hw hV dX8_rings_26
  · have hV := hV.1 c2
    refine lv_iload_n C0.x C0.b dX8_rings_13 rfl (lv_at hl 1 rfl) ?_
    refine lv_i2l C0.x C0.b dX8_rings_14 rfl ?_
    refine lv_lconst (v := 1) C0.x C0.b dX8_rings_15 (by decide) ?_
    refine lv_ldc2 (v := 12) C0.x C0.b C0.ow (C0.ts _ cw_X8_rings_202) dX8_rings_16 ?_
    refine r_cS_i (As := [.long p0.toInt64, .long (1 : Int64), .long (12 : Int64)]) (rest := []) C0 hw (c_X8_in  hV) (va_cwS 3 C0.ts gX8_rings_X8_in rfl rfl rfl hd_X8_in ⟨Nat.le_of_ble_eq_true rfl, Nat.le_of_ble_eq_true rfl⟩) rfl hl.1 rfl (Nat.le_of_ble_eq_true rfl) ⟨Nat.zero_le _, Nat.zero_le _⟩ dX8_rings_19 (fun r3 S4 H locs hV hw => ?_)
    refine lv_if_ne (tgt := 27) C0.x C0.b dX8_rings_22 (by decide) (fun c5 => ?_) (fun c5 => ?_)
    · have hV := hV.2 c5
      refine lv_aload_n C0.x C0.b dX8_rings_27 rfl (lv_at hl 0 rfl) ?_
      refine lv_iload_n C0.x C0.b dX8_rings_28 rfl (lv_at hl 1 rfl) ?_
      refine r_cV_i (As := [.int p0]) (rest := []) C0 hw (c_X8_power  hV) (cwV 1 C0.ts gX8_rings_X8_power rfl rfl rfl hd_X8_power ⟨Nat.le_of_ble_eq_true rfl, Nat.le_of_ble_eq_true rfl⟩) (lg_48 ad cI cJ X S4) rfl rfl hl.1 rfl (Nat.le_of_ble_eq_true rfl) ⟨Nat.zero_le _, Nat.zero_le _⟩ dX8_rings_29 (fun r6 S7 H locs hV hw => ?_)
      refine lv_istore_n (lv' := [(2, .int r6), (0, .ref (ad 48)), (1, .int p0)]) C0.x C0.b dX8_rings_32 rfl hl (by decide) rfl (fun ls hl => ?_)
      refine lv_iload_n C0.x C0.b dX8_rings_33 rfl (lv_at hl 0 rfl) ?_
      refine lv_sipush (v := 20000) C0.x C0.b dX8_rings_34 (by decide) ?_
      refine lv_icmp_le (tgt := 43) C0.x C0.b dX8_rings_37 (by decide) (fun c8 => ?_) (fun c8 => ?_)
      · have hV := hV.1 c8
        refine lv_iconst (v := 0) C0.x C0.b dX8_rings_43 (by decide) ?_
        refine lv_istore_n (lv' := [(3, .int (0 : Int32)), (2, .int r6), (0, .ref (ad 48)), (1, .int p0)]) C0.x C0.b dX8_rings_44 rfl hl (by decide) rfl (fun ls hl => ?_)
        refine lv_iconst (v := 0) C0.x C0.b dX8_rings_45 (by decide) ?_
        refine lv_istore (lv' := [(4, .int (0 : Int32)), (3, .int (0 : Int32)), (2, .int r6), (0, .ref (ad 48)), (1, .int p0)]) C0.x C0.b dX8_rings_46 hl (by decide) rfl (fun ls hl => ?_)
        obtain ⟨n48, hV⟩ := hV
        exact lp_X8_rings_48  _ _ post C0  n48 _ _ _ hV _ _ hw _ (lv_sub hl [3, 4, 2, 1, 0] rfl)
      · have hV := hV.2 c8
        refine lv_bipush (v := -2) C0.x C0.b dX8_rings_40 (by decide) ?_
        exact r_iret C0 rfl hw hV dX8_rings_42
    · have hV := hV.1 c5
      refine lv_iconst (v := -1) C0.x C0.b dX8_rings_25 (by decide) ?_
      exact r_iret C0 rfl hw hV dX8_rings_26
/-! StepBenchModel.set([JJ)V -/
abbrev rm_X8_set : Room := { frames := 0, cells := 0, slots := 0, locals := 0 }
set_option maxRecDepth 20000 in
theorem cw_X8_set_118 : Cond.constantLong RX8 118 1000000000 ∈ wsX8_set := by decide +kernel
set_option maxRecDepth 20000 in
theorem hd_X8_set : yX8_set.cls ≠ "java/lang/invoke/MethodHandle" ∧ yX8_set.cls ≠ "java/lang/invoke/VarHandle" ∧ (parseMethodDescriptor yX8_set.desc).map (fun d => d.parameters.length) = some 2 := by decide +kernel
def V_X8_set_16 (ai0 L0 : Nat)   (post : SS → Prop) : Nat → Int64 → Int32 → SS → Prop
  | 0, _, _, _ => False
  | n + 1, v3, v5, S =>
    (((26 : Int32) ≤ v5 → (post S)) ∧ (¬ (26 : Int32) ≤ v5 → (vp_in v5 L0 ∧ ∀ S3 : SS, S3 = (sA S ai0 (vp_updL (gA S ai0) v5.toNatClampNeg (lrm v3 (1000000000 : Int64)))) → (∀ y4 : Int64, y4 = (v3 / (1000000000 : Int64)) → (∀ x5 : Int32, x5 = v5 + 1 → (V_X8_set_16 ai0 L0   post n y4 x5 S3))))))
set_option maxHeartbeats 4000000 in
set_option maxRecDepth 100000 in
theorem lp_X8_set_16 {pa0 ai0 L0 : Nat} (hO0 : lnA ad cI cJ X pa0 ai0 L0)   (post : SS → Prop) (C0 : Bd p s m meth c args cX8_set 6 none wsX8_set RX8 D n0 cI cJ) : ∀ (n : Nat) (v3 : Int64) (v5 : Int32) (S : SS), V_X8_set_16 ai0 L0   post n v3 v5 S → ∀ (H : Heap) (locs : List Loc), Wh D n0 ad cI cJ X S s H locs → ∀ ls : Array Slot, lv_has ls 6 [(0, .ref (ad pa0)), (3, .long v3), (5, .int v5)] → W p l e rm_X8_set s m args below meth c H locs 0 0 (MQ below (va_Qv post (fun S' t => Wd D n0 ad cI cJ X S' t) (fr n0)) args s 0 0 (fr n0)) (F0 m 16 ls []) := by
  intro n
  induction n with
  | zero => intro v3 v5 S hV; exact False.elim hV
  | succ n ih =>
    intro v3 v5 S hV H locs hw ls hl
    rw [V_X8_set_16] at hV
    refine lv_iload C0.x C0.b dX8_set_16 (lv_at hl 2 rfl) ?_
    refine lv_bipush (v := 26) C0.x C0.b dX8_set_18 (by decide) ?_
    refine lv_icmp_ge (tgt := 44) C0.x C0.b dX8_set_20 (by decide) (fun c2 => ?_) (fun c2 => ?_)
    · have hV := hV.1 c2
      exact r_vret C0 rfl hw hV dX8_set_44
    · have hV := hV.2 c2
      refine lv_aload_n C0.x C0.b dX8_set_23 rfl (lv_at hl 0 rfl) ?_
      refine lv_iload C0.x C0.b dX8_set_24 (lv_at hl 2 rfl) ?_
      refine lv_lload_n C0.x C0.b dX8_set_26 rfl (lv_at hl 1 rfl) ?_
      refine lv_ldc2 (v := 1000000000) C0.x C0.b C0.ow (C0.ts _ cw_X8_set_118) dX8_set_27 ?_
      refine lv_lrem C0.x C0.b dX8_set_30 (by decide) ?_
      refine r_last C0 hw (hO0 S).1 hV.1 dX8_set_31 (S' := (sA S ai0 (vp_updL (gA S ai0) v5.toNatClampNeg (lrm v3 (1000000000 : Int64))))) ((hO0 S).2 (vp_updL (gA S ai0) v5.toNatClampNeg (lrm v3 (1000000000 : Int64)))) (fun S3 H locs eS3 hw => ?_)
      have hV := hV.2 S3 eS3
      refine lv_lload_n C0.x C0.b dX8_set_32 rfl (lv_at hl 1 rfl) ?_
      refine lv_ldc2 (v := 1000000000) C0.x C0.b C0.ow (C0.ts _ cw_X8_set_118) dX8_set_33 ?_
      refine lv_ldiv C0.x C0.b dX8_set_36 (by decide) ?_
      refine lv_topl (fun y4 ey4 => ?_)
      have hV := hV y4 ey4
      refine lv_lstore_n (lv' := [(3, .long y4), (0, .ref (ad pa0)), (5, .int v5)]) C0.x C0.b dX8_set_37 rfl hl (by decide) rfl (fun ls hl => ?_)
      obtain ⟨x5, ex5⟩ : ∃ z : Int32, z = v5 + 1 := ⟨_, rfl⟩
      have hV := hV x5 ex5
      refine lv_iinc (v := x5) (lv' := [(5, .int x5), (3, .long y4), (0, .ref (ad pa0))]) C0.x C0.b dX8_set_38 hl (k := 2) rfl (by rw [ex5]; rfl) (by decide) rfl (fun ls hl => ?_)
      refine lv_goto (tgt := 16) C0.x C0.b dX8_set_41 (by decide) ?_
      exact ih _ _ _ hV _ _ hw _ (lv_sub hl [2, 1, 0] rfl)
def V_X8_set (ai0 L0 : Nat) (p1 : Int64) (S : SS) (post : SS → Prop) : Prop :=
  (((0 : Int64) ≤ p1 → (∃ n16 : Nat, V_X8_set_16 ai0 L0   post n16 p1 (0 : Int32) S)) ∧ (¬ (0 : Int64) ≤ p1 → (∀ y6 : Int64, y6 = (-p1) → (∃ n16 : Nat, V_X8_set_16 ai0 L0   post n16 y6 (0 : Int32) S))))
set_option maxHeartbeats 4000000 in
set_option maxRecDepth 100000 in
theorem c_X8_set {pa0 ai0 L0 : Nat} (hO0 : lnA ad cI cJ X pa0 ai0 L0) {S : SS} {p1 : Int64} {post : SS → Prop} (hV : V_X8_set ai0 L0 p1 S post) : MV l yX8_set wsX8_set rm_X8_set [.ref (ad pa0), .long p1] D n0 ad cI cJ X S post := by
  refine Met.ofW (cc := cX8_set) (maxL := 6) (ret := none) (by decide) rfl ?_
  intro p e s m args below meth c s₁ B hml hv
  obtain ⟨rfl, hv⟩ := hv
  have C0 := Bd.mk B hml (atoms_spec (ws := wsX8_set) B.pre) (findClass_of_methodNamed B.named) hv.1
  have hw : Wh D n0 ad cI cJ X S s s.heap [] := ⟨hv.2.1, hv.2.2, va_S.rf⟩
  refine r_entry (Nat.le_of_ble_eq_true rfl) (fun ls hl => ?_)
  have hl : lv_has ls 6 [(0, .ref (ad pa0)), (1, .long p1)] := hl
  unfold V_X8_set at hV
  refine lv_lload_n C0.x C0.b dX8_set_0 rfl (lv_at hl 1 rfl) ?_
  refine lv_lconst (v := 0) C0.x C0.b dX8_set_1 (by decide) ?_
  refine r_lcmp C0 dX8_set_2 ?_
  refine lv_if_ge (tgt := 11) C0.x C0.b dX8_set_3 (by decide) (fun c1 => ?_) (fun c1 => ?_)
  · have hV := hV.1 ((lc_ge _ _).mp c1)
    refine lv_lload_n C0.x C0.b dX8_set_11 rfl (lv_at hl 1 rfl) ?_
    refine lv_lstore_n (lv' := [(3, .long p1), (0, .ref (ad pa0)), (1, .long p1)]) C0.x C0.b dX8_set_12 rfl hl (by decide) rfl (fun ls hl => ?_)
    refine lv_iconst (v := 0) C0.x C0.b dX8_set_13 (by decide) ?_
    refine lv_istore (lv' := [(5, .int (0 : Int32)), (3, .long p1), (0, .ref (ad pa0)), (1, .long p1)]) C0.x C0.b dX8_set_14 hl (by decide) rfl (fun ls hl => ?_)
    obtain ⟨n16, hV⟩ := hV
    exact lp_X8_set_16 hO0  post C0  n16 _ _ _ hV _ _ hw _ (lv_sub hl [2, 1, 0] rfl)
  · have hV := hV.2 (fun h => c1 ((lc_ge _ _).mpr h))
    refine lv_lload_n C0.x C0.b dX8_set_6 rfl (lv_at hl 1 rfl) ?_
    refine lv_lneg C0.x C0.b dX8_set_7 ?_
    refine lv_goto (tgt := 12) C0.x C0.b dX8_set_8 (by decide) ?_
    refine lv_topl (fun y6 ey6 => ?_)
    have hV := hV y6 ey6
    refine lv_lstore_n (lv' := [(3, .long y6), (0, .ref (ad pa0)), (1, .long p1)]) C0.x C0.b dX8_set_12 rfl hl (by decide) rfl (fun ls hl => ?_)
    refine lv_iconst (v := 0) C0.x C0.b dX8_set_13 (by decide) ?_
    refine lv_istore (lv' := [(5, .int (0 : Int32)), (3, .long y6), (0, .ref (ad pa0)), (1, .long p1)]) C0.x C0.b dX8_set_14 hl (by decide) rfl (fun ls hl => ?_)
    obtain ⟨n16, hV⟩ := hV
    exact lp_X8_set_16 hO0  post C0  n16 _ _ _ hV _ _ hw _ (lv_sub hl [2, 1, 0] rfl)
/-! StepBenchModel.times([JJ)V -/
abbrev rm_X8_times : Room := { frames := 0, cells := 0, slots := 0, locals := 0 }
set_option maxRecDepth 20000 in
theorem cw_X8_times_118 : Cond.constantLong RX8 118 1000000000 ∈ wsX8_times := by decide +kernel
set_option maxRecDepth 20000 in
theorem hd_X8_times : yX8_times.cls ≠ "java/lang/invoke/MethodHandle" ∧ yX8_times.cls ≠ "java/lang/invoke/VarHandle" ∧ (parseMethodDescriptor yX8_times.desc).map (fun d => d.parameters.length) = some 2 := by decide +kernel
def V_X8_times_5 (ai0 L0 : Nat) (v1 : Int64)  (post : SS → Prop) : Nat → Int64 → Int32 → SS → Prop
  | 0, _, _, _ => False
  | n + 1, v3, v5, S =>
    (((26 : Int32) ≤ v5 → (post S)) ∧ (¬ (26 : Int32) ≤ v5 → (vp_in v5 L0 ∧ (∀ y2 : Int64, y2 = (((gA S ai0 v5.toNatClampNeg) * v1) + v3) → (vp_in v5 L0 ∧ ∀ S3 : SS, S3 = (sA S ai0 (vp_updL (gA S ai0) v5.toNatClampNeg (lrm y2 (1000000000 : Int64)))) → (∀ y4 : Int64, y4 = (y2 / (1000000000 : Int64)) → (∀ x5 : Int32, x5 = v5 + 1 → (V_X8_times_5 ai0 L0 v1  post n y4 x5 S3))))))))
set_option maxHeartbeats 4000000 in
set_option maxRecDepth 100000 in
theorem lp_X8_times_5 {pa0 ai0 L0 : Nat} (hO0 : lnA ad cI cJ X pa0 ai0 L0) (v1 : Int64)  (post : SS → Prop) (C0 : Bd p s m meth c args cX8_times 8 none wsX8_times RX8 D n0 cI cJ) : ∀ (n : Nat) (v3 : Int64) (v5 : Int32) (S : SS), V_X8_times_5 ai0 L0 v1  post n v3 v5 S → ∀ (H : Heap) (locs : List Loc), Wh D n0 ad cI cJ X S s H locs → ∀ ls : Array Slot, lv_has ls 8 [(0, .ref (ad pa0)), (1, .long v1), (3, .long v3), (5, .int v5)] → W p l e rm_X8_times s m args below meth c H locs 0 0 (MQ below (va_Qv post (fun S' t => Wd D n0 ad cI cJ X S' t) (fr n0)) args s 0 0 (fr n0)) (F0 m 5 ls []) := by
  intro n
  induction n with
  | zero => intro v3 v5 S hV; exact False.elim hV
  | succ n ih =>
    intro v3 v5 S hV H locs hw ls hl
    rw [V_X8_times_5] at hV
    refine lv_iload C0.x C0.b dX8_times_5 (lv_at hl 3 rfl) ?_
    refine lv_bipush (v := 26) C0.x C0.b dX8_times_7 (by decide) ?_
    refine lv_icmp_ge (tgt := 45) C0.x C0.b dX8_times_9 (by decide) (fun c1 => ?_) (fun c1 => ?_)
    · have hV := hV.1 c1
      exact r_vret C0 rfl hw hV dX8_times_45
    · have hV := hV.2 c1
      refine lv_aload_n C0.x C0.b dX8_times_12 rfl (lv_at hl 0 rfl) ?_
      refine lv_iload C0.x C0.b dX8_times_13 (lv_at hl 3 rfl) ?_
      refine r_lald C0 hw (hO0 S).1 hV.1 dX8_times_15 ?_
      have hV := hV.2
      refine lv_lload_n C0.x C0.b dX8_times_16 rfl (lv_at hl 1 rfl) ?_
      refine lv_lmul C0.x C0.b dX8_times_17 ?_
      refine lv_lload_n C0.x C0.b dX8_times_18 rfl (lv_at hl 2 rfl) ?_
      refine lv_ladd C0.x C0.b dX8_times_19 ?_
      refine lv_topl (fun y2 ey2 => ?_)
      have hV := hV y2 ey2
      refine lv_lstore (lv' := [(6, .long y2), (0, .ref (ad pa0)), (1, .long v1), (3, .long v3), (5, .int v5)]) C0.x C0.b dX8_times_20 hl (by decide) rfl (fun ls hl => ?_)
      refine lv_aload_n C0.x C0.b dX8_times_22 rfl (lv_at hl 1 rfl) ?_
      refine lv_iload C0.x C0.b dX8_times_23 (lv_at hl 4 rfl) ?_
      refine lv_lload C0.x C0.b dX8_times_25 (lv_at hl 0 rfl) ?_
      refine lv_ldc2 (v := 1000000000) C0.x C0.b C0.ow (C0.ts _ cw_X8_times_118) dX8_times_27 ?_
      refine lv_lrem C0.x C0.b dX8_times_30 (by decide) ?_
      refine r_last C0 hw (hO0 S).1 hV.1 dX8_times_31 (S' := (sA S ai0 (vp_updL (gA S ai0) v5.toNatClampNeg (lrm y2 (1000000000 : Int64))))) ((hO0 S).2 (vp_updL (gA S ai0) v5.toNatClampNeg (lrm y2 (1000000000 : Int64)))) (fun S3 H locs eS3 hw => ?_)
      have hV := hV.2 S3 eS3
      refine lv_lload C0.x C0.b dX8_times_32 (lv_at hl 0 rfl) ?_
      refine lv_ldc2 (v := 1000000000) C0.x C0.b C0.ow (C0.ts _ cw_X8_times_118) dX8_times_34 ?_
      refine lv_ldiv C0.x C0.b dX8_times_37 (by decide) ?_
      refine lv_topl (fun y4 ey4 => ?_)
      have hV := hV y4 ey4
      refine lv_lstore_n (lv' := [(3, .long y4), (6, .long y2), (0, .ref (ad pa0)), (1, .long v1), (5, .int v5)]) C0.x C0.b dX8_times_38 rfl hl (by decide) rfl (fun ls hl => ?_)
      obtain ⟨x5, ex5⟩ : ∃ z : Int32, z = v5 + 1 := ⟨_, rfl⟩
      have hV := hV x5 ex5
      refine lv_iinc (v := x5) (lv' := [(5, .int x5), (3, .long y4), (6, .long y2), (0, .ref (ad pa0)), (1, .long v1)]) C0.x C0.b dX8_times_39 hl (k := 4) rfl (by rw [ex5]; rfl) (by decide) rfl (fun ls hl => ?_)
      refine lv_goto (tgt := 5) C0.x C0.b dX8_times_42 (by decide) ?_
      exact ih _ _ _ hV _ _ hw _ (lv_sub hl [3, 4, 1, 0] rfl)
def V_X8_times (ai0 L0 : Nat) (p1 : Int64) (S : SS) (post : SS → Prop) : Prop :=
  (∃ n5 : Nat, V_X8_times_5 ai0 L0 p1  post n5 (0 : Int64) (0 : Int32) S)
set_option maxHeartbeats 4000000 in
set_option maxRecDepth 100000 in
theorem c_X8_times {pa0 ai0 L0 : Nat} (hO0 : lnA ad cI cJ X pa0 ai0 L0) {S : SS} {p1 : Int64} {post : SS → Prop} (hV : V_X8_times ai0 L0 p1 S post) : MV l yX8_times wsX8_times rm_X8_times [.ref (ad pa0), .long p1] D n0 ad cI cJ X S post := by
  refine Met.ofW (cc := cX8_times) (maxL := 8) (ret := none) (by decide) rfl ?_
  intro p e s m args below meth c s₁ B hml hv
  obtain ⟨rfl, hv⟩ := hv
  have C0 := Bd.mk B hml (atoms_spec (ws := wsX8_times) B.pre) (findClass_of_methodNamed B.named) hv.1
  have hw : Wh D n0 ad cI cJ X S s s.heap [] := ⟨hv.2.1, hv.2.2, va_S.rf⟩
  refine r_entry (Nat.le_of_ble_eq_true rfl) (fun ls hl => ?_)
  have hl : lv_has ls 8 [(0, .ref (ad pa0)), (1, .long p1)] := hl
  unfold V_X8_times at hV
  refine lv_lconst (v := 0) C0.x C0.b dX8_times_0 (by decide) ?_
  refine lv_lstore_n (lv' := [(3, .long (0 : Int64)), (0, .ref (ad pa0)), (1, .long p1)]) C0.x C0.b dX8_times_1 rfl hl (by decide) rfl (fun ls hl => ?_)
  refine lv_iconst (v := 0) C0.x C0.b dX8_times_2 (by decide) ?_
  refine lv_istore (lv' := [(5, .int (0 : Int32)), (3, .long (0 : Int64)), (0, .ref (ad pa0)), (1, .long p1)]) C0.x C0.b dX8_times_3 hl (by decide) rfl (fun ls hl => ?_)
  obtain ⟨n5, hV⟩ := hV
  exact lp_X8_times_5 hO0 _ post C0  n5 _ _ _ hV _ _ hw _ (lv_sub hl [2, 3, 1, 0] rfl)
/-! StepBenchModel.takesOne(III)I -/
abbrev rm_X8_takesOne : Room := { frames := 3, cells := 0, slots := 0, locals := 77 }
set_option maxRecDepth 20000 in
theorem fw_X8_takesOne_105 : Cond.fieldLink RX8 105 "StepBenchModel" "m" "I" ∈ wsX8_takesOne := by decide +kernel
set_option maxRecDepth 20000 in
theorem iw_X8_takesOne_X8 : ∀ w ∈ wsX80, w ∈ wsX8_takesOne := by decide +kernel
set_option maxRecDepth 20000 in
theorem fw_X8_takesOne_39 : Cond.fieldLink RX8 39 "StepBenchModel" "tried" "[I" ∈ wsX8_takesOne := by decide +kernel
set_option maxRecDepth 20000 in
theorem fw_X8_takesOne_20 : Cond.fieldLink RX8 20 "StepBenchModel" "rule" "[J" ∈ wsX8_takesOne := by decide +kernel
set_option maxRecDepth 20000 in
theorem hd_X8_takesOne : yX8_takesOne.cls = RX8 ∧ yX8_takesOne.cls ≠ "java/lang/invoke/MethodHandle" ∧ yX8_takesOne.cls ≠ "java/lang/invoke/VarHandle" ∧ (parseMethodDescriptor yX8_takesOne.desc).map (fun d => d.parameters.length) = some 3 := by decide +kernel
def V_X8_takesOne_11  (v3 : Int32)  (post : Int32 → SS → Prop) : Nat → Int64 → Int64 → Int32 → SS → Prop
  | 0, _, _, _, _ => False
  | n + 1, v4, v6, v8, S =>
    ((v3 ≤ v8 → (post (0 : Int32) S)) ∧ (¬ v3 ≤ v8 → (¬ (gI S 26).toInt64 = 0 ∧ (((lrm v6 (gI S 26).toInt64) = (0 : Int64) → (V_X8_restBy v4 (gI S 26) S (fun (r3 : Int64) (S4 : SS) => (∀ x5 : Int32, x5 = r3.toInt32 → (vp_in v8 40 ∧ ∀ S6 : SS, S6 = (sB S4 1 (upd (gB S4 1) v8.toNatClampNeg x5)) → (vp_in ((3 : Int32) * x5) 192 ∧ (vp_in (((3 : Int32) * x5) + (1 : Int32)) 192 ∧ (vp_in (((3 : Int32) * x5) + (2 : Int32)) 192 ∧ (¬ (gA S6 32 (((3 : Int32) * x5) + (2 : Int32)).toNatClampNeg) = 0 ∧ (∀ y7 : Int64, y7 = ((((gA S6 32 ((3 : Int32) * x5).toNatClampNeg) * v4) + (gA S6 32 (((3 : Int32) * x5) + (1 : Int32)).toNatClampNeg)) / (gA S6 32 (((3 : Int32) * x5) + (2 : Int32)).toNatClampNeg)) → (vp_in ((3 : Int32) * x5) 192 ∧ (vp_in (((3 : Int32) * x5) + (2 : Int32)) 192 ∧ (¬ (gA S6 32 (((3 : Int32) * x5) + (2 : Int32)).toNatClampNeg) = 0 ∧ (∀ y8 : Int64, y8 = (((gA S6 32 ((3 : Int32) * x5).toNatClampNeg) * v6) / (gA S6 32 (((3 : Int32) * x5) + (2 : Int32)).toNatClampNeg)) → (V_X8_shaped 1 40 (v8 + (1 : Int32)) S6 (fun (r9 : Int32) (S10 : SS) => ((r9 = 0 → (post (-4 : Int32) S10)) ∧ (¬ r9 = 0 → (V_X8_isNumber y7 S10 (fun (r12 : Int32) (S13 : SS) => ((r12 = 0 → (post (-4 : Int32) S13)) ∧ (¬ r12 = 0 → (V_X8_isNumber y8 S13 (fun (r15 : Int32) (S16 : SS) => ((r15 = 0 → (post (-4 : Int32) S16)) ∧ (¬ r15 = 0 → (∀ x18 : Int32, x18 = v8 + 1 → (V_X8_takesOne_11  v3  post n y7 y8 x18 S16)))))))))))))))))))))))))))) ∧ (¬ (lrm v6 (gI S 26).toInt64) = (0 : Int64) → (post (-3 : Int32) S))))))
set_option maxHeartbeats 4000000 in
set_option maxRecDepth 100000 in
theorem lp_X8_takesOne_11  (v3 : Int32)  (post : Int32 → SS → Prop) (C0 : Bd p s m meth c args cX8_takesOne 10 (some .int) wsX8_takesOne RX8 D n0 cI cJ) : ∀ (n : Nat) (v4 : Int64) (v6 : Int64) (v8 : Int32) (S : SS), V_X8_takesOne_11  v3  post n v4 v6 v8 S → ∀ (H : Heap) (locs : List Loc), Wh D n0 ad cI cJ X S s H locs → ∀ ls : Array Slot, lv_has ls 10 [(0, .ref (ad 48)), (3, .int v3), (4, .long v4), (6, .long v6), (8, .int v8)] → W p l e rm_X8_takesOne s m args below meth c H locs 0 0 (MQ below (va_Qi post (fun S' t => Wd D n0 ad cI cJ X S' t) (fr n0)) args s 0 0 (fr n0)) (F0 m 11 ls []) := by
  intro n
  induction n with
  | zero => intro v4 v6 v8 S hV; exact False.elim hV
  | succ n ih =>
    intro v4 v6 v8 S hV H locs hw ls hl
    rw [V_X8_takesOne_11] at hV
    refine lv_iload C0.x C0.b dX8_takesOne_11 (lv_at hl 4 rfl) ?_
    refine lv_iload_n C0.x C0.b dX8_takesOne_13 rfl (lv_at hl 1 rfl) ?_
    refine lv_icmp_ge (tgt := 158) C0.x C0.b dX8_takesOne_14 (by decide) (fun c1 => ?_) (fun c1 => ?_)
    · have hV := hV.1 c1
      refine lv_iconst (v := 0) C0.x C0.b dX8_takesOne_158 (by decide) ?_
      exact r_iret C0 rfl hw hV dX8_takesOne_159
    · have hV := hV.2 c1
      refine lv_lload C0.x C0.b dX8_takesOne_17 (lv_at hl 3 rfl) ?_
      refine lv_aload_n C0.x C0.b dX8_takesOne_19 rfl (lv_at hl 0 rfl) ?_
      refine r_get C0 hw (C := RX8) (T := TX8) (N := 33) (v := .int (gI S 26)) iw_X8_takesOne_X8 (lg_48 ad cI cJ X S) rfl 8 (by decide) (C0.ts _ fw_X8_takesOne_105) rfl dX8_takesOne_20 ?_
      refine lv_i2l C0.x C0.b dX8_takesOne_23 rfl ?_
      refine lv_lrem C0.x C0.b dX8_takesOne_24 hV.1 ?_
      have hV := hV.2
      refine lv_lconst (v := 0) C0.x C0.b dX8_takesOne_25 (by decide) ?_
      refine r_lcmp C0 dX8_takesOne_26 ?_
      refine lv_if_eq (tgt := 33) C0.x C0.b dX8_takesOne_27 (by decide) (fun c2 => ?_) (fun c2 => ?_)
      · have hV := hV.1 ((lc_eq _ _).mp c2)
        refine lv_lload C0.x C0.b dX8_takesOne_33 (lv_at hl 2 rfl) ?_
        refine lv_aload_n C0.x C0.b dX8_takesOne_35 rfl (lv_at hl 0 rfl) ?_
        refine r_get C0 hw (C := RX8) (T := TX8) (N := 33) (v := .int (gI S 26)) iw_X8_takesOne_X8 (lg_48 ad cI cJ X S) rfl 8 (by decide) (C0.ts _ fw_X8_takesOne_105) rfl dX8_takesOne_36 ?_
        refine r_cS_l (As := [.long v4, .int (gI S 26)]) (rest := []) C0 hw (c_X8_restBy  hV) (va_cwS 2 C0.ts gX8_takesOne_X8_restBy rfl rfl rfl hd_X8_restBy ⟨Nat.le_of_ble_eq_true rfl, Nat.le_of_ble_eq_true rfl⟩) rfl hl.1 rfl (Nat.le_of_ble_eq_true rfl) ⟨Nat.zero_le _, Nat.zero_le _⟩ dX8_takesOne_39 (fun r3 S4 H locs hV hw => ?_)
        refine lv_l2i C0.x C0.b dX8_takesOne_42 rfl ?_
        refine lv_topi (fun x5 ex5 => ?_)
        have hV := hV x5 ex5
        refine lv_istore (lv' := [(9, .int x5), (0, .ref (ad 48)), (3, .int v3), (4, .long v4), (6, .long v6), (8, .int v8)]) C0.x C0.b dX8_takesOne_43 hl (by decide) rfl (fun ls hl => ?_)
        refine lv_aload_n C0.x C0.b dX8_takesOne_45 rfl (lv_at hl 1 rfl) ?_
        refine r_get C0 hw (C := RX8) (T := TX8) (N := 33) (v := .ref (ad 57)) iw_X8_takesOne_X8 (lg_48 ad cI cJ X S4) rfl 22 (by decide) (C0.ts _ fw_X8_takesOne_39) rfl dX8_takesOne_46 ?_
        refine lv_iload C0.x C0.b dX8_takesOne_49 (lv_at hl 5 rfl) ?_
        refine lv_iload C0.x C0.b dX8_takesOne_51 (lv_at hl 0 rfl) ?_
        refine r_iast C0 hw (lg_57 ad cI cJ X S4) hV.1 dX8_takesOne_53 (S' := (sB S4 1 (upd (gB S4 1) v8.toNatClampNeg x5))) (ls_57 ad cI cJ X S4 (upd (gB S4 1) v8.toNatClampNeg x5)) (fun S6 H locs eS6 hw => ?_)
        have hV := hV.2 S6 eS6
        refine lv_aload_n C0.x C0.b dX8_takesOne_54 rfl (lv_at hl 1 rfl) ?_
        refine r_get C0 hw (C := RX8) (T := TX8) (N := 33) (v := .ref (ad 51)) iw_X8_takesOne_X8 (lg_48 ad cI cJ X S6) rfl 9 (by decide) (C0.ts _ fw_X8_takesOne_20) rfl dX8_takesOne_55 ?_
        refine lv_iconst (v := 3) C0.x C0.b dX8_takesOne_58 (by decide) ?_
        refine lv_iload C0.x C0.b dX8_takesOne_59 (lv_at hl 0 rfl) ?_
        refine lv_imul C0.x C0.b dX8_takesOne_61 ?_
        refine r_lald C0 hw (lg_51 ad cI cJ X S6) hV.1 dX8_takesOne_62 ?_
        have hV := hV.2
        refine lv_lload C0.x C0.b dX8_takesOne_63 (lv_at hl 3 rfl) ?_
        refine lv_lmul C0.x C0.b dX8_takesOne_65 ?_
        refine lv_aload_n C0.x C0.b dX8_takesOne_66 rfl (lv_at hl 1 rfl) ?_
        refine r_get C0 hw (C := RX8) (T := TX8) (N := 33) (v := .ref (ad 51)) iw_X8_takesOne_X8 (lg_48 ad cI cJ X S6) rfl 9 (by decide) (C0.ts _ fw_X8_takesOne_20) rfl dX8_takesOne_67 ?_
        refine lv_iconst (v := 3) C0.x C0.b dX8_takesOne_70 (by decide) ?_
        refine lv_iload C0.x C0.b dX8_takesOne_71 (lv_at hl 0 rfl) ?_
        refine lv_imul C0.x C0.b dX8_takesOne_73 ?_
        refine lv_iconst (v := 1) C0.x C0.b dX8_takesOne_74 (by decide) ?_
        refine lv_iadd C0.x C0.b dX8_takesOne_75 ?_
        refine r_lald C0 hw (lg_51 ad cI cJ X S6) hV.1 dX8_takesOne_76 ?_
        have hV := hV.2
        refine lv_ladd C0.x C0.b dX8_takesOne_77 ?_
        refine lv_aload_n C0.x C0.b dX8_takesOne_78 rfl (lv_at hl 1 rfl) ?_
        refine r_get C0 hw (C := RX8) (T := TX8) (N := 33) (v := .ref (ad 51)) iw_X8_takesOne_X8 (lg_48 ad cI cJ X S6) rfl 9 (by decide) (C0.ts _ fw_X8_takesOne_20) rfl dX8_takesOne_79 ?_
        refine lv_iconst (v := 3) C0.x C0.b dX8_takesOne_82 (by decide) ?_
        refine lv_iload C0.x C0.b dX8_takesOne_83 (lv_at hl 0 rfl) ?_
        refine lv_imul C0.x C0.b dX8_takesOne_85 ?_
        refine lv_iconst (v := 2) C0.x C0.b dX8_takesOne_86 (by decide) ?_
        refine lv_iadd C0.x C0.b dX8_takesOne_87 ?_
        refine r_lald C0 hw (lg_51 ad cI cJ X S6) hV.1 dX8_takesOne_88 ?_
        have hV := hV.2
        refine lv_ldiv C0.x C0.b dX8_takesOne_89 hV.1 ?_
        have hV := hV.2
        refine lv_topl (fun y7 ey7 => ?_)
        have hV := hV y7 ey7
        refine lv_lstore (lv' := [(4, .long y7), (9, .int x5), (0, .ref (ad 48)), (3, .int v3), (6, .long v6), (8, .int v8)]) C0.x C0.b dX8_takesOne_90 hl (by decide) rfl (fun ls hl => ?_)
        refine lv_aload_n C0.x C0.b dX8_takesOne_92 rfl (lv_at hl 2 rfl) ?_
        refine r_get C0 hw (C := RX8) (T := TX8) (N := 33) (v := .ref (ad 51)) iw_X8_takesOne_X8 (lg_48 ad cI cJ X S6) rfl 9 (by decide) (C0.ts _ fw_X8_takesOne_20) rfl dX8_takesOne_93 ?_
        refine lv_iconst (v := 3) C0.x C0.b dX8_takesOne_96 (by decide) ?_
        refine lv_iload C0.x C0.b dX8_takesOne_97 (lv_at hl 1 rfl) ?_
        refine lv_imul C0.x C0.b dX8_takesOne_99 ?_
        refine r_lald C0 hw (lg_51 ad cI cJ X S6) hV.1 dX8_takesOne_100 ?_
        have hV := hV.2
        refine lv_lload C0.x C0.b dX8_takesOne_101 (lv_at hl 4 rfl) ?_
        refine lv_lmul C0.x C0.b dX8_takesOne_103 ?_
        refine lv_aload_n C0.x C0.b dX8_takesOne_104 rfl (lv_at hl 2 rfl) ?_
        refine r_get C0 hw (C := RX8) (T := TX8) (N := 33) (v := .ref (ad 51)) iw_X8_takesOne_X8 (lg_48 ad cI cJ X S6) rfl 9 (by decide) (C0.ts _ fw_X8_takesOne_20) rfl dX8_takesOne_105 ?_
        refine lv_iconst (v := 3) C0.x C0.b dX8_takesOne_108 (by decide) ?_
        refine lv_iload C0.x C0.b dX8_takesOne_109 (lv_at hl 1 rfl) ?_
        refine lv_imul C0.x C0.b dX8_takesOne_111 ?_
        refine lv_iconst (v := 2) C0.x C0.b dX8_takesOne_112 (by decide) ?_
        refine lv_iadd C0.x C0.b dX8_takesOne_113 ?_
        refine r_lald C0 hw (lg_51 ad cI cJ X S6) hV.1 dX8_takesOne_114 ?_
        have hV := hV.2
        refine lv_ldiv C0.x C0.b dX8_takesOne_115 hV.1 ?_
        have hV := hV.2
        refine lv_topl (fun y8 ey8 => ?_)
        have hV := hV y8 ey8
        refine lv_lstore (lv' := [(6, .long y8), (4, .long y7), (9, .int x5), (0, .ref (ad 48)), (3, .int v3), (8, .int v8)]) C0.x C0.b dX8_takesOne_116 hl (by decide) rfl (fun ls hl => ?_)
        refine lv_aload_n C0.x C0.b dX8_takesOne_118 rfl (lv_at hl 3 rfl) ?_
        refine lv_aload_n C0.x C0.b dX8_takesOne_119 rfl (lv_at hl 3 rfl) ?_
        refine r_get C0 hw (C := RX8) (T := TX8) (N := 33) (v := .ref (ad 57)) iw_X8_takesOne_X8 (lg_48 ad cI cJ X S6) rfl 22 (by decide) (C0.ts _ fw_X8_takesOne_39) rfl dX8_takesOne_120 ?_
        refine lv_iload C0.x C0.b dX8_takesOne_123 (lv_at hl 5 rfl) ?_
        refine lv_iconst (v := 1) C0.x C0.b dX8_takesOne_125 (by decide) ?_
        refine lv_iadd C0.x C0.b dX8_takesOne_126 ?_
        refine r_cV_i (As := [.ref (ad 57), .int (v8 + (1 : Int32))]) (rest := []) C0 hw (c_X8_shaped (la_57 ad cI cJ X) hV) (cwV 2 C0.ts gX8_takesOne_X8_shaped rfl rfl rfl hd_X8_shaped ⟨Nat.le_of_ble_eq_true rfl, Nat.le_of_ble_eq_true rfl⟩) (lg_48 ad cI cJ X S6) rfl rfl hl.1 rfl (Nat.le_of_ble_eq_true rfl) ⟨Nat.zero_le _, Nat.zero_le _⟩ dX8_takesOne_127 (fun r9 S10 H locs hV hw => ?_)
        refine lv_if_eq (tgt := 149) C0.x C0.b dX8_takesOne_130 (by decide) (fun c11 => ?_) (fun c11 => ?_)
        · have hV := hV.1 c11
          refine lv_bipush (v := -4) C0.x C0.b dX8_takesOne_149 (by decide) ?_
          exact r_iret C0 rfl hw hV dX8_takesOne_151
        · have hV := hV.2 c11
          refine lv_lload C0.x C0.b dX8_takesOne_133 (lv_at hl 1 rfl) ?_
          refine r_cS_i (As := [.long y7]) (rest := []) C0 hw (c_X8_isNumber  hV) (va_cwS 1 C0.ts gX8_takesOne_X8_isNumber rfl rfl rfl hd_X8_isNumber ⟨Nat.le_of_ble_eq_true rfl, Nat.le_of_ble_eq_true rfl⟩) rfl hl.1 rfl (Nat.le_of_ble_eq_true rfl) ⟨Nat.zero_le _, Nat.zero_le _⟩ dX8_takesOne_135 (fun r12 S13 H locs hV hw => ?_)
          refine lv_if_eq (tgt := 149) C0.x C0.b dX8_takesOne_138 (by decide) (fun c14 => ?_) (fun c14 => ?_)
          · have hV := hV.1 c14
            refine lv_bipush (v := -4) C0.x C0.b dX8_takesOne_149 (by decide) ?_
            exact r_iret C0 rfl hw hV dX8_takesOne_151
          · have hV := hV.2 c14
            refine lv_lload C0.x C0.b dX8_takesOne_141 (lv_at hl 0 rfl) ?_
            refine r_cS_i (As := [.long y8]) (rest := []) C0 hw (c_X8_isNumber  hV) (va_cwS 1 C0.ts gX8_takesOne_X8_isNumber rfl rfl rfl hd_X8_isNumber ⟨Nat.le_of_ble_eq_true rfl, Nat.le_of_ble_eq_true rfl⟩) rfl hl.1 rfl (Nat.le_of_ble_eq_true rfl) ⟨Nat.zero_le _, Nat.zero_le _⟩ dX8_takesOne_143 (fun r15 S16 H locs hV hw => ?_)
            refine lv_if_ne (tgt := 152) C0.x C0.b dX8_takesOne_146 (by decide) (fun c17 => ?_) (fun c17 => ?_)
            · have hV := hV.2 c17
              obtain ⟨x18, ex18⟩ : ∃ z : Int32, z = v8 + 1 := ⟨_, rfl⟩
              have hV := hV x18 ex18
              refine lv_iinc (v := x18) (lv' := [(8, .int x18), (6, .long y8), (4, .long y7), (9, .int x5), (0, .ref (ad 48)), (3, .int v3)]) C0.x C0.b dX8_takesOne_152 hl (k := 5) rfl (by rw [ex18]; rfl) (by decide) rfl (fun ls hl => ?_)
              refine lv_goto (tgt := 11) C0.x C0.b dX8_takesOne_155 (by decide) ?_
              exact ih _ _ _ _ hV _ _ hw _ (lv_sub hl [4, 5, 2, 1, 0] rfl)
            · have hV := hV.1 c17
              refine lv_bipush (v := -4) C0.x C0.b dX8_takesOne_149 (by decide) ?_
              exact r_iret C0 rfl hw hV dX8_takesOne_151
      · have hV := hV.2 (fun h => c2 ((lc_eq _ _).mpr h))
        refine lv_bipush (v := -3) C0.x C0.b dX8_takesOne_30 (by decide) ?_
        exact r_iret C0 rfl hw hV dX8_takesOne_32
def V_X8_takesOne  (p0 : Int32) (p1 : Int32) (p2 : Int32) (S : SS) (post : Int32 → SS → Prop) : Prop :=
  (∃ n11 : Nat, V_X8_takesOne_11  p2  post n11 p0.toInt64 p1.toInt64 (0 : Int32) S)
set_option maxHeartbeats 4000000 in
set_option maxRecDepth 100000 in
theorem c_X8_takesOne  {S : SS} {p0 : Int32} {p1 : Int32} {p2 : Int32} {post : Int32 → SS → Prop} (hV : V_X8_takesOne  p0 p1 p2 S post) : MI l yX8_takesOne wsX8_takesOne rm_X8_takesOne [.ref (ad 48), .int p0, .int p1, .int p2] D n0 ad cI cJ X S post := by
  refine Met.ofW (cc := cX8_takesOne) (maxL := 10) (ret := (some .int)) (by decide) rfl ?_
  intro p e s m args below meth c s₁ B hml hv
  obtain ⟨rfl, hv⟩ := hv
  have C0 := Bd.mk B hml (atoms_spec (ws := wsX8_takesOne) B.pre) (findClass_of_methodNamed B.named) hv.1
  have hw : Wh D n0 ad cI cJ X S s s.heap [] := ⟨hv.2.1, hv.2.2, va_S.rf⟩
  refine r_entry (Nat.le_of_ble_eq_true rfl) (fun ls hl => ?_)
  have hl : lv_has ls 10 [(0, .ref (ad 48)), (1, .int p0), (2, .int p1), (3, .int p2)] := hl
  unfold V_X8_takesOne at hV
  refine lv_iload_n C0.x C0.b dX8_takesOne_0 rfl (lv_at hl 1 rfl) ?_
  refine lv_i2l C0.x C0.b dX8_takesOne_1 rfl ?_
  refine lv_lstore (lv' := [(4, .long p0.toInt64), (0, .ref (ad 48)), (1, .int p0), (2, .int p1), (3, .int p2)]) C0.x C0.b dX8_takesOne_2 hl (by decide) rfl (fun ls hl => ?_)
  refine lv_iload_n C0.x C0.b dX8_takesOne_4 rfl (lv_at hl 3 rfl) ?_
  refine lv_i2l C0.x C0.b dX8_takesOne_5 rfl ?_
  refine lv_lstore (lv' := [(6, .long p1.toInt64), (4, .long p0.toInt64), (0, .ref (ad 48)), (1, .int p0), (2, .int p1), (3, .int p2)]) C0.x C0.b dX8_takesOne_6 hl (by decide) rfl (fun ls hl => ?_)
  refine lv_iconst (v := 0) C0.x C0.b dX8_takesOne_8 (by decide) ?_
  refine lv_istore (lv' := [(8, .int (0 : Int32)), (6, .long p1.toInt64), (4, .long p0.toInt64), (0, .ref (ad 48)), (1, .int p0), (2, .int p1), (3, .int p2)]) C0.x C0.b dX8_takesOne_9 hl (by decide) rfl (fun ls hl => ?_)
  obtain ⟨n11, hV⟩ := hV
  exact lp_X8_takesOne_11  _ post C0  n11 _ _ _ _ hV _ _ hw _ (lv_sub hl [3, 6, 2, 1, 0] rfl)
/-! StepBenchModel.falls(I)I -/
abbrev rm_X8_falls : Room := { frames := 4, cells := 0, slots := 0, locals := 106 }
set_option maxRecDepth 20000 in
theorem fw_X8_falls_61 : Cond.fieldLink RX8 61 "StepBenchModel" "thrown" "I" ∈ wsX8_falls := by decide +kernel
set_option maxRecDepth 20000 in
theorem iw_X8_falls_X8 : ∀ w ∈ wsX80, w ∈ wsX8_falls := by decide +kernel
set_option maxRecDepth 20000 in
theorem fw_X8_falls_108 : Cond.fieldLink RX8 108 "StepBenchModel" "sort" "I" ∈ wsX8_falls := by decide +kernel
set_option maxRecDepth 20000 in
theorem cw_X8_falls_202 : Cond.constantLong RX8 202 12 ∈ wsX8_falls := by decide +kernel
set_option maxRecDepth 20000 in
theorem fw_X8_falls_170 : Cond.fieldLink RX8 170 "StepBenchModel" "shapeA" "J" ∈ wsX8_falls := by decide +kernel
set_option maxRecDepth 20000 in
theorem fw_X8_falls_176 : Cond.fieldLink RX8 176 "StepBenchModel" "shapeD" "J" ∈ wsX8_falls := by decide +kernel
set_option maxRecDepth 20000 in
theorem hd_X8_falls : yX8_falls.cls = RX8 ∧ yX8_falls.cls ≠ "java/lang/invoke/MethodHandle" ∧ yX8_falls.cls ≠ "java/lang/invoke/VarHandle" ∧ (parseMethodDescriptor yX8_falls.desc).map (fun d => d.parameters.length) = some 1 := by decide +kernel
def V_X8_falls_48  (v1 : Int32) (v2 : Int32)  (post : Int32 → SS → Prop) : Nat → Int32 → Int32 → SS → Prop
  | 0, _, _, _ => False
  | n + 1, v3, v4, S =>
    ((v2 ≤ v4 → (post v3 S)) ∧ (¬ v2 ≤ v4 → (V_X8_takesOne v4 v2 v1 S (fun (r10 : Int32) (S11 : SS) => ((r10 = 0 → (((gJ S11 3) ≤ (gJ S11 1) → (∀ x14 : Int32, x14 = (v3 + (0 : Int32)) → (∀ x15 : Int32, x15 = v4 + 1 → (V_X8_falls_48  v1 v2  post n x14 x15 S11)))) ∧ (¬ (gJ S11 3) ≤ (gJ S11 1) → (∀ x16 : Int32, x16 = (v3 + (1 : Int32)) → (∀ x17 : Int32, x17 = v4 + 1 → (V_X8_falls_48  v1 v2  post n x16 x17 S11)))))) ∧ (¬ r10 = 0 → (post r10 S11)))))))
set_option maxHeartbeats 4000000 in
set_option maxRecDepth 100000 in
theorem lp_X8_falls_48  (v1 : Int32) (v2 : Int32)  (post : Int32 → SS → Prop) (C0 : Bd p s m meth c args cX8_falls 6 (some .int) wsX8_falls RX8 D n0 cI cJ) : ∀ (n : Nat) (v3 : Int32) (v4 : Int32) (S : SS), V_X8_falls_48  v1 v2  post n v3 v4 S → ∀ (H : Heap) (locs : List Loc), Wh D n0 ad cI cJ X S s H locs → ∀ ls : Array Slot, lv_has ls 6 [(0, .ref (ad 48)), (1, .int v1), (2, .int v2), (3, .int v3), (4, .int v4)] → W p l e rm_X8_falls s m args below meth c H locs 0 0 (MQ below (va_Qi post (fun S' t => Wd D n0 ad cI cJ X S' t) (fr n0)) args s 0 0 (fr n0)) (F0 m 48 ls []) := by
  intro n
  induction n with
  | zero => intro v3 v4 S hV; exact False.elim hV
  | succ n ih =>
    intro v3 v4 S hV H locs hw ls hl
    rw [V_X8_falls_48] at hV
    refine lv_iload C0.x C0.b dX8_falls_48 (lv_at hl 4 rfl) ?_
    refine lv_iload_n C0.x C0.b dX8_falls_50 rfl (lv_at hl 2 rfl) ?_
    refine lv_icmp_ge (tgt := 98) C0.x C0.b dX8_falls_51 (by decide) (fun c9 => ?_) (fun c9 => ?_)
    · have hV := hV.1 c9
      refine lv_iload_n C0.x C0.b dX8_falls_98 rfl (lv_at hl 3 rfl) ?_
      exact r_iret C0 rfl hw hV dX8_falls_99
    · have hV := hV.2 c9
      refine lv_aload_n C0.x C0.b dX8_falls_54 rfl (lv_at hl 0 rfl) ?_
      refine lv_iload C0.x C0.b dX8_falls_55 (lv_at hl 4 rfl) ?_
      refine lv_iload_n C0.x C0.b dX8_falls_57 rfl (lv_at hl 2 rfl) ?_
      refine lv_iload_n C0.x C0.b dX8_falls_58 rfl (lv_at hl 1 rfl) ?_
      refine r_cV_i (As := [.int v4, .int v2, .int v1]) (rest := []) C0 hw (c_X8_takesOne  hV) (cwV 3 C0.ts gX8_falls_X8_takesOne rfl rfl rfl hd_X8_takesOne ⟨Nat.le_of_ble_eq_true rfl, Nat.le_of_ble_eq_true rfl⟩) (lg_48 ad cI cJ X S) rfl rfl hl.1 rfl (Nat.le_of_ble_eq_true rfl) ⟨Nat.zero_le _, Nat.zero_le _⟩ dX8_falls_59 (fun r10 S11 H locs hV hw => ?_)
      refine lv_istore (lv' := [(5, .int r10), (0, .ref (ad 48)), (1, .int v1), (2, .int v2), (3, .int v3), (4, .int v4)]) C0.x C0.b dX8_falls_62 hl (by decide) rfl (fun ls hl => ?_)
      refine lv_iload C0.x C0.b dX8_falls_64 (lv_at hl 0 rfl) ?_
      refine lv_if_eq (tgt := 72) C0.x C0.b dX8_falls_66 (by decide) (fun c12 => ?_) (fun c12 => ?_)
      · have hV := hV.1 c12
        refine lv_iload_n C0.x C0.b dX8_falls_72 rfl (lv_at hl 4 rfl) ?_
        refine lv_aload_n C0.x C0.b dX8_falls_73 rfl (lv_at hl 1 rfl) ?_
        refine r_get C0 hw (C := RX8) (T := TX8) (N := 33) (v := .long (gJ S11 1)) iw_X8_falls_X8 (lg_48 ad cI cJ X S11) rfl 19 (by decide) (C0.ts _ fw_X8_falls_170) rfl dX8_falls_74 ?_
        refine lv_aload_n C0.x C0.b dX8_falls_77 rfl (lv_at hl 1 rfl) ?_
        refine r_get C0 hw (C := RX8) (T := TX8) (N := 33) (v := .long (gJ S11 3)) iw_X8_falls_X8 (lg_48 ad cI cJ X S11) rfl 21 (by decide) (C0.ts _ fw_X8_falls_176) rfl dX8_falls_78 ?_
        refine r_lcmp C0 dX8_falls_81 ?_
        refine lv_if_ge (tgt := 89) C0.x C0.b dX8_falls_82 (by decide) (fun c13 => ?_) (fun c13 => ?_)
        · have hV := hV.1 ((lc_ge _ _).mp c13)
          refine lv_iconst (v := 0) C0.x C0.b dX8_falls_89 (by decide) ?_
          refine lv_iadd C0.x C0.b dX8_falls_90 ?_
          refine lv_topi (fun x14 ex14 => ?_)
          have hV := hV x14 ex14
          refine lv_istore_n (lv' := [(3, .int x14), (5, .int r10), (0, .ref (ad 48)), (1, .int v1), (2, .int v2), (4, .int v4)]) C0.x C0.b dX8_falls_91 rfl hl (by decide) rfl (fun ls hl => ?_)
          obtain ⟨x15, ex15⟩ : ∃ z : Int32, z = v4 + 1 := ⟨_, rfl⟩
          have hV := hV x15 ex15
          refine lv_iinc (v := x15) (lv' := [(4, .int x15), (3, .int x14), (5, .int r10), (0, .ref (ad 48)), (1, .int v1), (2, .int v2)]) C0.x C0.b dX8_falls_92 hl (k := 5) rfl (by rw [ex15]; rfl) (by decide) rfl (fun ls hl => ?_)
          refine lv_goto (tgt := 48) C0.x C0.b dX8_falls_95 (by decide) ?_
          exact ih _ _ _ hV _ _ hw _ (lv_sub hl [3, 4, 5, 1, 0] rfl)
        · have hV := hV.2 (fun h => c13 ((lc_ge _ _).mpr h))
          refine lv_iconst (v := 1) C0.x C0.b dX8_falls_85 (by decide) ?_
          refine lv_goto (tgt := 90) C0.x C0.b dX8_falls_86 (by decide) ?_
          refine lv_iadd C0.x C0.b dX8_falls_90 ?_
          refine lv_topi (fun x16 ex16 => ?_)
          have hV := hV x16 ex16
          refine lv_istore_n (lv' := [(3, .int x16), (5, .int r10), (0, .ref (ad 48)), (1, .int v1), (2, .int v2), (4, .int v4)]) C0.x C0.b dX8_falls_91 rfl hl (by decide) rfl (fun ls hl => ?_)
          obtain ⟨x17, ex17⟩ : ∃ z : Int32, z = v4 + 1 := ⟨_, rfl⟩
          have hV := hV x17 ex17
          refine lv_iinc (v := x17) (lv' := [(4, .int x17), (3, .int x16), (5, .int r10), (0, .ref (ad 48)), (1, .int v1), (2, .int v2)]) C0.x C0.b dX8_falls_92 hl (k := 5) rfl (by rw [ex17]; rfl) (by decide) rfl (fun ls hl => ?_)
          refine lv_goto (tgt := 48) C0.x C0.b dX8_falls_95 (by decide) ?_
          exact ih _ _ _ hV _ _ hw _ (lv_sub hl [3, 4, 5, 1, 0] rfl)
      · have hV := hV.2 c12
        refine lv_iload C0.x C0.b dX8_falls_69 (lv_at hl 0 rfl) ?_
        exact r_iret C0 rfl hw hV dX8_falls_71
def V_X8_falls  (p0 : Int32) (S : SS) (post : Int32 → SS → Prop) : Prop :=
  (∀ S1 : SS, S1 = (sI S 20 (0 : Int32)) → (((gI S1 25) = (1 : Int32) → (V_X8_in p0.toInt64 (1 : Int64) (12 : Int64) S1 (fun (r3 : Int32) (S4 : SS) => ((r3 = 0 → (post (-1 : Int32) S4)) ∧ (¬ r3 = 0 → (V_X8_power p0 S4 (fun (r6 : Int32) (S7 : SS) => ((r6 ≤ (20000 : Int32) → (∃ n48 : Nat, V_X8_falls_48  p0 r6  post n48 (0 : Int32) (0 : Int32) S7)) ∧ (¬ r6 ≤ (20000 : Int32) → (post (-2 : Int32) S7)))))))))) ∧ (¬ (gI S1 25) = (1 : Int32) → (post (-1 : Int32) S1))))
set_option maxHeartbeats 4000000 in
set_option maxRecDepth 100000 in
theorem c_X8_falls  {S : SS} {p0 : Int32} {post : Int32 → SS → Prop} (hV : V_X8_falls  p0 S post) : MI l yX8_falls wsX8_falls rm_X8_falls [.ref (ad 48), .int p0] D n0 ad cI cJ X S post := by
  refine Met.ofW (cc := cX8_falls) (maxL := 6) (ret := (some .int)) (by decide) rfl ?_
  intro p e s m args below meth c s₁ B hml hv
  obtain ⟨rfl, hv⟩ := hv
  have C0 := Bd.mk B hml (atoms_spec (ws := wsX8_falls) B.pre) (findClass_of_methodNamed B.named) hv.1
  have hw : Wh D n0 ad cI cJ X S s s.heap [] := ⟨hv.2.1, hv.2.2, va_S.rf⟩
  refine r_entry (Nat.le_of_ble_eq_true rfl) (fun ls hl => ?_)
  have hl : lv_has ls 6 [(0, .ref (ad 48)), (1, .int p0)] := hl
  unfold V_X8_falls at hV
  refine lv_aload_n C0.x C0.b dX8_falls_0 rfl (lv_at hl 0 rfl) ?_
  refine lv_iconst (v := 0) C0.x C0.b dX8_falls_1 (by decide) ?_
  refine r_put C0 hw (C := RX8) (T := TX8) (N := 33) (ty := .int) iw_X8_falls_X8 tyX8 tyX8_ok nmX8 (lg_48 ad cI cJ X S) rfl 0 (by decide) (C0.ts _ fw_X8_falls_61) rfl (by decide +kernel) rfl rfl (Nat.le_of_ble_eq_true rfl) dX8_falls_2 (S' := (sI S 20 (0 : Int32))) (ls_48_0 ad cI cJ X S (0 : Int32)) (fun S1 H locs eS1 hw => ?_)
  have hV := hV S1 eS1
  refine lv_aload_n C0.x C0.b dX8_falls_5 rfl (lv_at hl 0 rfl) ?_
  refine r_get C0 hw (C := RX8) (T := TX8) (N := 33) (v := .int (gI S1 25)) iw_X8_falls_X8 (lg_48 ad cI cJ X S1) rfl 7 (by decide) (C0.ts _ fw_X8_falls_108) rfl dX8_falls_6 ?_
  refine lv_iconst (v := 1) C0.x C0.b dX8_falls_9 (by decide) ?_
  refine lv_icmp_ne (tgt := 25) C0.x C0.b dX8_falls_10 (by decide) (fun c2 => ?_) (fun c2 => ?_)
  · have hV := hV.2 c2
    refine lv_iconst (v := -1) C0.x C0.b dX8_falls_25 (by decide) ?_
    exact r_iret C0 rfl hw hV dX8_falls_26
  · have hV := hV.1 c2
    refine lv_iload_n C0.x C0.b dX8_falls_13 rfl (lv_at hl 1 rfl) ?_
    refine lv_i2l C0.x C0.b dX8_falls_14 rfl ?_
    refine lv_lconst (v := 1) C0.x C0.b dX8_falls_15 (by decide) ?_
    refine lv_ldc2 (v := 12) C0.x C0.b C0.ow (C0.ts _ cw_X8_falls_202) dX8_falls_16 ?_
    refine r_cS_i (As := [.long p0.toInt64, .long (1 : Int64), .long (12 : Int64)]) (rest := []) C0 hw (c_X8_in  hV) (va_cwS 3 C0.ts gX8_falls_X8_in rfl rfl rfl hd_X8_in ⟨Nat.le_of_ble_eq_true rfl, Nat.le_of_ble_eq_true rfl⟩) rfl hl.1 rfl (Nat.le_of_ble_eq_true rfl) ⟨Nat.zero_le _, Nat.zero_le _⟩ dX8_falls_19 (fun r3 S4 H locs hV hw => ?_)
    refine lv_if_ne (tgt := 27) C0.x C0.b dX8_falls_22 (by decide) (fun c5 => ?_) (fun c5 => ?_)
    · have hV := hV.2 c5
      refine lv_aload_n C0.x C0.b dX8_falls_27 rfl (lv_at hl 0 rfl) ?_
      refine lv_iload_n C0.x C0.b dX8_falls_28 rfl (lv_at hl 1 rfl) ?_
      refine r_cV_i (As := [.int p0]) (rest := []) C0 hw (c_X8_power  hV) (cwV 1 C0.ts gX8_falls_X8_power rfl rfl rfl hd_X8_power ⟨Nat.le_of_ble_eq_true rfl, Nat.le_of_ble_eq_true rfl⟩) (lg_48 ad cI cJ X S4) rfl rfl hl.1 rfl (Nat.le_of_ble_eq_true rfl) ⟨Nat.zero_le _, Nat.zero_le _⟩ dX8_falls_29 (fun r6 S7 H locs hV hw => ?_)
      refine lv_istore_n (lv' := [(2, .int r6), (0, .ref (ad 48)), (1, .int p0)]) C0.x C0.b dX8_falls_32 rfl hl (by decide) rfl (fun ls hl => ?_)
      refine lv_iload_n C0.x C0.b dX8_falls_33 rfl (lv_at hl 0 rfl) ?_
      refine lv_sipush (v := 20000) C0.x C0.b dX8_falls_34 (by decide) ?_
      refine lv_icmp_le (tgt := 43) C0.x C0.b dX8_falls_37 (by decide) (fun c8 => ?_) (fun c8 => ?_)
      · have hV := hV.1 c8
        refine lv_iconst (v := 0) C0.x C0.b dX8_falls_43 (by decide) ?_
        refine lv_istore_n (lv' := [(3, .int (0 : Int32)), (2, .int r6), (0, .ref (ad 48)), (1, .int p0)]) C0.x C0.b dX8_falls_44 rfl hl (by decide) rfl (fun ls hl => ?_)
        refine lv_iconst (v := 0) C0.x C0.b dX8_falls_45 (by decide) ?_
        refine lv_istore (lv' := [(4, .int (0 : Int32)), (3, .int (0 : Int32)), (2, .int r6), (0, .ref (ad 48)), (1, .int p0)]) C0.x C0.b dX8_falls_46 hl (by decide) rfl (fun ls hl => ?_)
        obtain ⟨n48, hV⟩ := hV
        exact lp_X8_falls_48  _ _ post C0  n48 _ _ _ hV _ _ hw _ (lv_sub hl [3, 4, 2, 1, 0] rfl)
      · have hV := hV.2 c8
        refine lv_bipush (v := -2) C0.x C0.b dX8_falls_40 (by decide) ?_
        exact r_iret C0 rfl hw hV dX8_falls_42
    · have hV := hV.1 c5
      refine lv_iconst (v := -1) C0.x C0.b dX8_falls_25 (by decide) ?_
      exact r_iret C0 rfl hw hV dX8_falls_26
/-! StepBenchModel.least(II)I -/
abbrev rm_X8_least : Room := { frames := 4, cells := 0, slots := 0, locals := 95 }
set_option maxRecDepth 20000 in
theorem fw_X8_least_61 : Cond.fieldLink RX8 61 "StepBenchModel" "thrown" "I" ∈ wsX8_least := by decide +kernel
set_option maxRecDepth 20000 in
theorem iw_X8_least_X8 : ∀ w ∈ wsX80, w ∈ wsX8_least := by decide +kernel
set_option maxRecDepth 20000 in
theorem fw_X8_least_108 : Cond.fieldLink RX8 108 "StepBenchModel" "sort" "I" ∈ wsX8_least := by decide +kernel
set_option maxRecDepth 20000 in
theorem cw_X8_least_215 : Cond.constantLong RX8 215 20000 ∈ wsX8_least := by decide +kernel
set_option maxRecDepth 20000 in
theorem cw_X8_least_217 : Cond.constantLong RX8 217 2000 ∈ wsX8_least := by decide +kernel
set_option maxRecDepth 20000 in
theorem fw_X8_least_146 : Cond.fieldLink RX8 146 "StepBenchModel" "at" "J" ∈ wsX8_least := by decide +kernel
set_option maxRecDepth 20000 in
theorem hd_X8_least : yX8_least.cls = RX8 ∧ yX8_least.cls ≠ "java/lang/invoke/MethodHandle" ∧ yX8_least.cls ≠ "java/lang/invoke/VarHandle" ∧ (parseMethodDescriptor yX8_least.desc).map (fun d => d.parameters.length) = some 2 := by decide +kernel
def V_X8_least_57  (v1 : Int32) (v2 : Int32) (v3 : Int32) (K40 : Int32 → SS → Prop) (post : Int32 → SS → Prop) : Nat → Int32 → Int32 → SS → Prop
  | 0, _, _, _ => False
  | n + 1, v4, v5, S =>
    ((v2 ≤ v5 → ((v4 = 0 → (post v3 S)) ∧ (¬ v4 = 0 → (∀ x13 : Int32, x13 = v3 + 1 → (K40 x13 S))))) ∧ (¬ v2 ≤ v5 → ((v4 = 0 → (V_X8_goes (gJ S 0) S (fun (r15 : Int32) (S16 : SS) => ((r15 = 0 → (((gJ S16 0) < v3.toInt64 → (∀ x19 : Int32, x19 = v5 + 1 → (V_X8_least_57  v1 v2 v3 K40 post n (1 : Int32) x19 S16))) ∧ (¬ (gJ S16 0) < v3.toInt64 → (((gJ S16 0) = (1 : Int64) → (∀ x21 : Int32, x21 = v5 + 1 → (V_X8_least_57  v1 v2 v3 K40 post n (1 : Int32) x21 S16))) ∧ (¬ (gJ S16 0) = (1 : Int64) → (∀ x22 : Int32, x22 = v5 + 1 → (V_X8_least_57  v1 v2 v3 K40 post n (0 : Int32) x22 S16))))))) ∧ (¬ r15 = 0 → ((v4 = 0 → (post v3 S16)) ∧ (¬ v4 = 0 → (∀ x24 : Int32, x24 = v3 + 1 → (K40 x24 S16))))))))) ∧ (¬ v4 = 0 → ((v4 = 0 → (post v3 S)) ∧ (¬ v4 = 0 → (∀ x26 : Int32, x26 = v3 + 1 → (K40 x26 S))))))))
set_option maxHeartbeats 4000000 in
set_option maxRecDepth 100000 in
theorem lp_X8_least_57  (v1 : Int32) (v2 : Int32) (v3 : Int32) (K40 : Int32 → SS → Prop) (post : Int32 → SS → Prop) (C0 : Bd p s m meth c args cX8_least 6 (some .int) wsX8_least RX8 D n0 cI cJ) (hK40 : ∀ (v3 : Int32) (S : SS), K40 v3 S → ∀ (H : Heap) (locs : List Loc), Wh D n0 ad cI cJ X S s H locs → ∀ ls : Array Slot, lv_has ls 6 [(0, .ref (ad 48)), (1, .int v1), (2, .int v2), (3, .int v3)] → W p l e rm_X8_least s m args below meth c H locs 0 0 (MQ below (va_Qi post (fun S' t => Wd D n0 ad cI cJ X S' t) (fr n0)) args s 0 0 (fr n0)) (F0 m 40 ls [])) : ∀ (n : Nat) (v4 : Int32) (v5 : Int32) (S : SS), V_X8_least_57  v1 v2 v3 K40 post n v4 v5 S → ∀ (H : Heap) (locs : List Loc), Wh D n0 ad cI cJ X S s H locs → ∀ ls : Array Slot, lv_has ls 6 [(0, .ref (ad 48)), (1, .int v1), (2, .int v2), (3, .int v3), (4, .int v4), (5, .int v5)] → W p l e rm_X8_least s m args below meth c H locs 0 0 (MQ below (va_Qi post (fun S' t => Wd D n0 ad cI cJ X S' t) (fr n0)) args s 0 0 (fr n0)) (F0 m 57 ls []) := by
  intro n
  induction n with
  | zero => intro v4 v5 S hV; exact False.elim hV
  | succ n ih =>
    intro v4 v5 S hV H locs hw ls hl
    rw [V_X8_least_57] at hV
    refine lv_iload C0.x C0.b dX8_least_57 (lv_at hl 5 rfl) ?_
    refine lv_iload_n C0.x C0.b dX8_least_59 rfl (lv_at hl 2 rfl) ?_
    refine lv_icmp_ge (tgt := 111) C0.x C0.b dX8_least_60 (by decide) (fun c11 => ?_) (fun c11 => ?_)
    · have hV := hV.1 c11
      refine lv_iload C0.x C0.b dX8_least_111 (lv_at hl 4 rfl) ?_
      refine lv_if_ne (tgt := 118) C0.x C0.b dX8_least_113 (by decide) (fun c12 => ?_) (fun c12 => ?_)
      · have hV := hV.2 c12
        obtain ⟨x13, ex13⟩ : ∃ z : Int32, z = v3 + 1 := ⟨_, rfl⟩
        have hV := hV x13 ex13
        refine lv_iinc (v := x13) (lv' := [(3, .int x13), (0, .ref (ad 48)), (1, .int v1), (2, .int v2), (4, .int v4), (5, .int v5)]) C0.x C0.b dX8_least_118 hl (k := 3) rfl (by rw [ex13]; rfl) (by decide) rfl (fun ls hl => ?_)
        refine lv_goto (tgt := 40) C0.x C0.b dX8_least_121 (by decide) ?_
        exact hK40 _ _ hV _ _ hw _ (lv_sub hl [1, 2, 3, 0] rfl)
      · have hV := hV.1 c12
        refine lv_iload_n C0.x C0.b dX8_least_116 rfl (lv_at hl 3 rfl) ?_
        exact r_iret C0 rfl hw hV dX8_least_117
    · have hV := hV.2 c11
      refine lv_iload C0.x C0.b dX8_least_63 (lv_at hl 4 rfl) ?_
      refine lv_if_ne (tgt := 111) C0.x C0.b dX8_least_65 (by decide) (fun c14 => ?_) (fun c14 => ?_)
      · have hV := hV.2 c14
        refine lv_iload C0.x C0.b dX8_least_111 (lv_at hl 4 rfl) ?_
        refine lv_if_ne (tgt := 118) C0.x C0.b dX8_least_113 (by decide) (fun c25 => ?_) (fun c25 => ?_)
        · have hV := hV.2 c25
          obtain ⟨x26, ex26⟩ : ∃ z : Int32, z = v3 + 1 := ⟨_, rfl⟩
          have hV := hV x26 ex26
          refine lv_iinc (v := x26) (lv' := [(3, .int x26), (0, .ref (ad 48)), (1, .int v1), (2, .int v2), (4, .int v4), (5, .int v5)]) C0.x C0.b dX8_least_118 hl (k := 3) rfl (by rw [ex26]; rfl) (by decide) rfl (fun ls hl => ?_)
          refine lv_goto (tgt := 40) C0.x C0.b dX8_least_121 (by decide) ?_
          exact hK40 _ _ hV _ _ hw _ (lv_sub hl [1, 2, 3, 0] rfl)
        · have hV := hV.1 c25
          refine lv_iload_n C0.x C0.b dX8_least_116 rfl (lv_at hl 3 rfl) ?_
          exact r_iret C0 rfl hw hV dX8_least_117
      · have hV := hV.1 c14
        refine lv_aload_n C0.x C0.b dX8_least_68 rfl (lv_at hl 0 rfl) ?_
        refine lv_aload_n C0.x C0.b dX8_least_69 rfl (lv_at hl 0 rfl) ?_
        refine r_get C0 hw (C := RX8) (T := TX8) (N := 33) (v := .long (gJ S 0)) iw_X8_least_X8 (lg_48 ad cI cJ X S) rfl 13 (by decide) (C0.ts _ fw_X8_least_146) rfl dX8_least_70 ?_
        refine r_cV_i (As := [.long (gJ S 0)]) (rest := []) C0 hw (c_X8_goes  hV) (cwV 1 C0.ts gX8_least_X8_goes rfl rfl rfl hd_X8_goes ⟨Nat.le_of_ble_eq_true rfl, Nat.le_of_ble_eq_true rfl⟩) (lg_48 ad cI cJ X S) rfl rfl hl.1 rfl (Nat.le_of_ble_eq_true rfl) ⟨Nat.zero_le _, Nat.zero_le _⟩ dX8_least_73 (fun r15 S16 H locs hV hw => ?_)
        refine lv_if_ne (tgt := 111) C0.x C0.b dX8_least_76 (by decide) (fun c17 => ?_) (fun c17 => ?_)
        · have hV := hV.2 c17
          refine lv_iload C0.x C0.b dX8_least_111 (lv_at hl 4 rfl) ?_
          refine lv_if_ne (tgt := 118) C0.x C0.b dX8_least_113 (by decide) (fun c23 => ?_) (fun c23 => ?_)
          · have hV := hV.2 c23
            obtain ⟨x24, ex24⟩ : ∃ z : Int32, z = v3 + 1 := ⟨_, rfl⟩
            have hV := hV x24 ex24
            refine lv_iinc (v := x24) (lv' := [(3, .int x24), (0, .ref (ad 48)), (1, .int v1), (2, .int v2), (4, .int v4), (5, .int v5)]) C0.x C0.b dX8_least_118 hl (k := 3) rfl (by rw [ex24]; rfl) (by decide) rfl (fun ls hl => ?_)
            refine lv_goto (tgt := 40) C0.x C0.b dX8_least_121 (by decide) ?_
            exact hK40 _ _ hV _ _ hw _ (lv_sub hl [1, 2, 3, 0] rfl)
          · have hV := hV.1 c23
            refine lv_iload_n C0.x C0.b dX8_least_116 rfl (lv_at hl 3 rfl) ?_
            exact r_iret C0 rfl hw hV dX8_least_117
        · have hV := hV.1 c17
          refine lv_aload_n C0.x C0.b dX8_least_79 rfl (lv_at hl 0 rfl) ?_
          refine r_get C0 hw (C := RX8) (T := TX8) (N := 33) (v := .long (gJ S16 0)) iw_X8_least_X8 (lg_48 ad cI cJ X S16) rfl 13 (by decide) (C0.ts _ fw_X8_least_146) rfl dX8_least_80 ?_
          refine lv_iload_n C0.x C0.b dX8_least_83 rfl (lv_at hl 3 rfl) ?_
          refine lv_i2l C0.x C0.b dX8_least_84 rfl ?_
          refine r_lcmp C0 dX8_least_85 ?_
          refine lv_if_lt (tgt := 98) C0.x C0.b dX8_least_86 (by decide) (fun c18 => ?_) (fun c18 => ?_)
          · have hV := hV.1 ((lc_lt _ _).mp c18)
            refine lv_iconst (v := 1) C0.x C0.b dX8_least_98 (by decide) ?_
            refine lv_goto (tgt := 103) C0.x C0.b dX8_least_99 (by decide) ?_
            refine lv_istore (lv' := [(4, .int (1 : Int32)), (0, .ref (ad 48)), (1, .int v1), (2, .int v2), (3, .int v3), (5, .int v5)]) C0.x C0.b dX8_least_103 hl (by decide) rfl (fun ls hl => ?_)
            obtain ⟨x19, ex19⟩ : ∃ z : Int32, z = v5 + 1 := ⟨_, rfl⟩
            have hV := hV x19 ex19
            refine lv_iinc (v := x19) (lv' := [(5, .int x19), (4, .int (1 : Int32)), (0, .ref (ad 48)), (1, .int v1), (2, .int v2), (3, .int v3)]) C0.x C0.b dX8_least_105 hl (k := 5) rfl (by rw [ex19]; rfl) (by decide) rfl (fun ls hl => ?_)
            refine lv_goto (tgt := 57) C0.x C0.b dX8_least_108 (by decide) ?_
            exact ih _ _ _ hV _ _ hw _ (lv_sub hl [2, 3, 4, 5, 1, 0] rfl)
          · have hV := hV.2 (fun h => c18 ((lc_lt _ _).mpr h))
            refine lv_aload_n C0.x C0.b dX8_least_89 rfl (lv_at hl 0 rfl) ?_
            refine r_get C0 hw (C := RX8) (T := TX8) (N := 33) (v := .long (gJ S16 0)) iw_X8_least_X8 (lg_48 ad cI cJ X S16) rfl 13 (by decide) (C0.ts _ fw_X8_least_146) rfl dX8_least_90 ?_
            refine lv_lconst (v := 1) C0.x C0.b dX8_least_93 (by decide) ?_
            refine r_lcmp C0 dX8_least_94 ?_
            refine lv_if_ne (tgt := 102) C0.x C0.b dX8_least_95 (by decide) (fun c20 => ?_) (fun c20 => ?_)
            · have hV := hV.2 (fun h => c20 ((lc_eq _ _).mpr h))
              refine lv_iconst (v := 0) C0.x C0.b dX8_least_102 (by decide) ?_
              refine lv_istore (lv' := [(4, .int (0 : Int32)), (0, .ref (ad 48)), (1, .int v1), (2, .int v2), (3, .int v3), (5, .int v5)]) C0.x C0.b dX8_least_103 hl (by decide) rfl (fun ls hl => ?_)
              obtain ⟨x22, ex22⟩ : ∃ z : Int32, z = v5 + 1 := ⟨_, rfl⟩
              have hV := hV x22 ex22
              refine lv_iinc (v := x22) (lv' := [(5, .int x22), (4, .int (0 : Int32)), (0, .ref (ad 48)), (1, .int v1), (2, .int v2), (3, .int v3)]) C0.x C0.b dX8_least_105 hl (k := 5) rfl (by rw [ex22]; rfl) (by decide) rfl (fun ls hl => ?_)
              refine lv_goto (tgt := 57) C0.x C0.b dX8_least_108 (by decide) ?_
              exact ih _ _ _ hV _ _ hw _ (lv_sub hl [2, 3, 4, 5, 1, 0] rfl)
            · have hV := hV.1 ((lc_eq _ _).mp c20)
              refine lv_iconst (v := 1) C0.x C0.b dX8_least_98 (by decide) ?_
              refine lv_goto (tgt := 103) C0.x C0.b dX8_least_99 (by decide) ?_
              refine lv_istore (lv' := [(4, .int (1 : Int32)), (0, .ref (ad 48)), (1, .int v1), (2, .int v2), (3, .int v3), (5, .int v5)]) C0.x C0.b dX8_least_103 hl (by decide) rfl (fun ls hl => ?_)
              obtain ⟨x21, ex21⟩ : ∃ z : Int32, z = v5 + 1 := ⟨_, rfl⟩
              have hV := hV x21 ex21
              refine lv_iinc (v := x21) (lv' := [(5, .int x21), (4, .int (1 : Int32)), (0, .ref (ad 48)), (1, .int v1), (2, .int v2), (3, .int v3)]) C0.x C0.b dX8_least_105 hl (k := 5) rfl (by rw [ex21]; rfl) (by decide) rfl (fun ls hl => ?_)
              refine lv_goto (tgt := 57) C0.x C0.b dX8_least_108 (by decide) ?_
              exact ih _ _ _ hV _ _ hw _ (lv_sub hl [2, 3, 4, 5, 1, 0] rfl)
def V_X8_least_40  (v1 : Int32) (v2 : Int32)  (post : Int32 → SS → Prop) : Nat → Int32 → SS → Prop
  | 0, _, _ => False
  | n + 1, v3, S =>
    ((v1 < v3 → (post (0 : Int32) S)) ∧ (¬ v1 < v3 → (∀ S10 : SS, S10 = (sJ S 0 v3.toInt64) → (∃ n57 : Nat, V_X8_least_57  v1 v2 v3 (fun w3 T => V_X8_least_40  v1 v2  post n w3 T) post n57 (0 : Int32) (0 : Int32) S10))))
set_option maxHeartbeats 4000000 in
set_option maxRecDepth 100000 in
theorem lp_X8_least_40  (v1 : Int32) (v2 : Int32)  (post : Int32 → SS → Prop) (C0 : Bd p s m meth c args cX8_least 6 (some .int) wsX8_least RX8 D n0 cI cJ) : ∀ (n : Nat) (v3 : Int32) (S : SS), V_X8_least_40  v1 v2  post n v3 S → ∀ (H : Heap) (locs : List Loc), Wh D n0 ad cI cJ X S s H locs → ∀ ls : Array Slot, lv_has ls 6 [(0, .ref (ad 48)), (1, .int v1), (2, .int v2), (3, .int v3)] → W p l e rm_X8_least s m args below meth c H locs 0 0 (MQ below (va_Qi post (fun S' t => Wd D n0 ad cI cJ X S' t) (fr n0)) args s 0 0 (fr n0)) (F0 m 40 ls []) := by
  intro n
  induction n with
  | zero => intro v3 S hV; exact False.elim hV
  | succ n ih =>
    intro v3 S hV H locs hw ls hl
    rw [V_X8_least_40] at hV
    refine lv_iload_n C0.x C0.b dX8_least_40 rfl (lv_at hl 3 rfl) ?_
    refine lv_iload_n C0.x C0.b dX8_least_41 rfl (lv_at hl 1 rfl) ?_
    refine lv_icmp_gt (tgt := 124) C0.x C0.b dX8_least_42 (by decide) (fun c9 => ?_) (fun c9 => ?_)
    · have hV := hV.1 c9
      refine lv_iconst (v := 0) C0.x C0.b dX8_least_124 (by decide) ?_
      exact r_iret C0 rfl hw hV dX8_least_125
    · have hV := hV.2 c9
      refine lv_aload_n C0.x C0.b dX8_least_45 rfl (lv_at hl 0 rfl) ?_
      refine lv_iload_n C0.x C0.b dX8_least_46 rfl (lv_at hl 3 rfl) ?_
      refine lv_i2l C0.x C0.b dX8_least_47 rfl ?_
      refine r_put C0 hw (C := RX8) (T := TX8) (N := 33) (ty := .long) iw_X8_least_X8 tyX8 tyX8_ok nmX8 (lg_48 ad cI cJ X S) rfl 13 (by decide) (C0.ts _ fw_X8_least_146) rfl (by decide +kernel) rfl rfl (Nat.le_of_ble_eq_true rfl) dX8_least_48 (S' := (sJ S 0 v3.toInt64)) (ls_48_13 ad cI cJ X S v3.toInt64) (fun S10 H locs eS10 hw => ?_)
      have hV := hV S10 eS10
      refine lv_iconst (v := 0) C0.x C0.b dX8_least_51 (by decide) ?_
      refine lv_istore (lv' := [(4, .int (0 : Int32)), (0, .ref (ad 48)), (1, .int v1), (2, .int v2), (3, .int v3)]) C0.x C0.b dX8_least_52 hl (by decide) rfl (fun ls hl => ?_)
      refine lv_iconst (v := 0) C0.x C0.b dX8_least_54 (by decide) ?_
      refine lv_istore (lv' := [(5, .int (0 : Int32)), (4, .int (0 : Int32)), (0, .ref (ad 48)), (1, .int v1), (2, .int v2), (3, .int v3)]) C0.x C0.b dX8_least_55 hl (by decide) rfl (fun ls hl => ?_)
      obtain ⟨n57, hV⟩ := hV
      exact lp_X8_least_57  _ _ _ _ post C0 ih n57 _ _ _ hV _ _ hw _ (lv_sub hl [2, 3, 4, 5, 1, 0] rfl)
def V_X8_least  (p0 : Int32) (p1 : Int32) (S : SS) (post : Int32 → SS → Prop) : Prop :=
  (∀ S1 : SS, S1 = (sI S 20 (0 : Int32)) → (((gI S1 25) = 0 → (post (-1 : Int32) S1)) ∧ (¬ (gI S1 25) = 0 → (V_X8_in p0.toInt64 (1 : Int64) (20000 : Int64) S1 (fun (r3 : Int32) (S4 : SS) => ((r3 = 0 → (post (-1 : Int32) S4)) ∧ (¬ r3 = 0 → (V_X8_in p1.toInt64 (0 : Int64) (2000 : Int64) S4 (fun (r6 : Int32) (S7 : SS) => ((r6 = 0 → (post (-1 : Int32) S7)) ∧ (¬ r6 = 0 → (∃ n40 : Nat, V_X8_least_40  p0 p1  post n40 (2 : Int32) S7))))))))))))
set_option maxHeartbeats 4000000 in
set_option maxRecDepth 100000 in
theorem c_X8_least  {S : SS} {p0 : Int32} {p1 : Int32} {post : Int32 → SS → Prop} (hV : V_X8_least  p0 p1 S post) : MI l yX8_least wsX8_least rm_X8_least [.ref (ad 48), .int p0, .int p1] D n0 ad cI cJ X S post := by
  refine Met.ofW (cc := cX8_least) (maxL := 6) (ret := (some .int)) (by decide) rfl ?_
  intro p e s m args below meth c s₁ B hml hv
  obtain ⟨rfl, hv⟩ := hv
  have C0 := Bd.mk B hml (atoms_spec (ws := wsX8_least) B.pre) (findClass_of_methodNamed B.named) hv.1
  have hw : Wh D n0 ad cI cJ X S s s.heap [] := ⟨hv.2.1, hv.2.2, va_S.rf⟩
  refine r_entry (Nat.le_of_ble_eq_true rfl) (fun ls hl => ?_)
  have hl : lv_has ls 6 [(0, .ref (ad 48)), (1, .int p0), (2, .int p1)] := hl
  unfold V_X8_least at hV
  refine lv_aload_n C0.x C0.b dX8_least_0 rfl (lv_at hl 0 rfl) ?_
  refine lv_iconst (v := 0) C0.x C0.b dX8_least_1 (by decide) ?_
  refine r_put C0 hw (C := RX8) (T := TX8) (N := 33) (ty := .int) iw_X8_least_X8 tyX8 tyX8_ok nmX8 (lg_48 ad cI cJ X S) rfl 0 (by decide) (C0.ts _ fw_X8_least_61) rfl (by decide +kernel) rfl rfl (Nat.le_of_ble_eq_true rfl) dX8_least_2 (S' := (sI S 20 (0 : Int32))) (ls_48_0 ad cI cJ X S (0 : Int32)) (fun S1 H locs eS1 hw => ?_)
  have hV := hV S1 eS1
  refine lv_aload_n C0.x C0.b dX8_least_5 rfl (lv_at hl 0 rfl) ?_
  refine r_get C0 hw (C := RX8) (T := TX8) (N := 33) (v := .int (gI S1 25)) iw_X8_least_X8 (lg_48 ad cI cJ X S1) rfl 7 (by decide) (C0.ts _ fw_X8_least_108) rfl dX8_least_6 ?_
  refine lv_if_eq (tgt := 36) C0.x C0.b dX8_least_9 (by decide) (fun c2 => ?_) (fun c2 => ?_)
  · have hV := hV.1 c2
    refine lv_iconst (v := -1) C0.x C0.b dX8_least_36 (by decide) ?_
    exact r_iret C0 rfl hw hV dX8_least_37
  · have hV := hV.2 c2
    refine lv_iload_n C0.x C0.b dX8_least_12 rfl (lv_at hl 1 rfl) ?_
    refine lv_i2l C0.x C0.b dX8_least_13 rfl ?_
    refine lv_lconst (v := 1) C0.x C0.b dX8_least_14 (by decide) ?_
    refine lv_ldc2 (v := 20000) C0.x C0.b C0.ow (C0.ts _ cw_X8_least_215) dX8_least_15 ?_
    refine r_cS_i (As := [.long p0.toInt64, .long (1 : Int64), .long (20000 : Int64)]) (rest := []) C0 hw (c_X8_in  hV) (va_cwS 3 C0.ts gX8_least_X8_in rfl rfl rfl hd_X8_in ⟨Nat.le_of_ble_eq_true rfl, Nat.le_of_ble_eq_true rfl⟩) rfl hl.1 rfl (Nat.le_of_ble_eq_true rfl) ⟨Nat.zero_le _, Nat.zero_le _⟩ dX8_least_18 (fun r3 S4 H locs hV hw => ?_)
    refine lv_if_eq (tgt := 36) C0.x C0.b dX8_least_21 (by decide) (fun c5 => ?_) (fun c5 => ?_)
    · have hV := hV.1 c5
      refine lv_iconst (v := -1) C0.x C0.b dX8_least_36 (by decide) ?_
      exact r_iret C0 rfl hw hV dX8_least_37
    · have hV := hV.2 c5
      refine lv_iload_n C0.x C0.b dX8_least_24 rfl (lv_at hl 2 rfl) ?_
      refine lv_i2l C0.x C0.b dX8_least_25 rfl ?_
      refine lv_lconst (v := 0) C0.x C0.b dX8_least_26 (by decide) ?_
      refine lv_ldc2 (v := 2000) C0.x C0.b C0.ow (C0.ts _ cw_X8_least_217) dX8_least_27 ?_
      refine r_cS_i (As := [.long p1.toInt64, .long (0 : Int64), .long (2000 : Int64)]) (rest := []) C0 hw (c_X8_in  hV) (va_cwS 3 C0.ts gX8_least_X8_in rfl rfl rfl hd_X8_in ⟨Nat.le_of_ble_eq_true rfl, Nat.le_of_ble_eq_true rfl⟩) rfl hl.1 rfl (Nat.le_of_ble_eq_true rfl) ⟨Nat.zero_le _, Nat.zero_le _⟩ dX8_least_30 (fun r6 S7 H locs hV hw => ?_)
      refine lv_if_ne (tgt := 38) C0.x C0.b dX8_least_33 (by decide) (fun c8 => ?_) (fun c8 => ?_)
      · have hV := hV.2 c8
        refine lv_iconst (v := 2) C0.x C0.b dX8_least_38 (by decide) ?_
        refine lv_istore_n (lv' := [(3, .int (2 : Int32)), (0, .ref (ad 48)), (1, .int p0), (2, .int p1)]) C0.x C0.b dX8_least_39 rfl hl (by decide) rfl (fun ls hl => ?_)
        obtain ⟨n40, hV⟩ := hV
        exact lp_X8_least_40  _ _ post C0  n40 _ _ hV _ _ hw _ (lv_sub hl [1, 2, 3, 0] rfl)
      · have hV := hV.1 c8
        refine lv_iconst (v := -1) C0.x C0.b dX8_least_36 (by decide) ?_
        exact r_iret C0 rfl hw hV dX8_least_37
end
