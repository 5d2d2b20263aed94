section
variable {p : Program} {l : Launch} {e : Env} {s : State} {m : MethodId} {args : Array Value} {below : List Frame} {meth : Method} {c : Code}
variable {D : va_G} {n0 : Nat} {ad : Nat → Nat} {cI cJ : ClassId} {X : va_W}
/-! StepBench$Sheet.isThere()Z -/
abbrev rm_X6_isThere : Room := { frames := 0, cells := 0, slots := 0, locals := 0 }
set_option maxRecDepth 20000 in
theorem fw_X6_isThere_11 : Cond.fieldLink RX6 11 "StepBench$Sheet" "type" "I" ∈ wsX6_isThere := by decide +kernel
set_option maxRecDepth 20000 in
theorem iw_X6_isThere_X6 : ∀ w ∈ wsX60, w ∈ wsX6_isThere := by decide +kernel
set_option maxRecDepth 20000 in
theorem hd_X6_isThere : yX6_isThere.cls = RX6 ∧ yX6_isThere.cls ≠ "java/lang/invoke/MethodHandle" ∧ yX6_isThere.cls ≠ "java/lang/invoke/VarHandle" ∧ (parseMethodDescriptor yX6_isThere.desc).map (fun d => d.parameters.length) = some 0 := by decide +kernel
def V_X6_isThere   (S : SS) (post : Int32 → SS → Prop) : Prop :=
  (((gI S 5) = (-1 : Int32) → (post (0 : Int32) S)) ∧ (¬ (gI S 5) = (-1 : Int32) → (post (1 : Int32) S)))
set_option maxHeartbeats 4000000 in
set_option maxRecDepth 100000 in
theorem c_X6_isThere  {S : SS}  {post : Int32 → SS → Prop} (hV : V_X6_isThere   S post) : MI l yX6_isThere wsX6_isThere rm_X6_isThere [.ref (ad 16)] D n0 ad cI cJ X S post := by
  refine Met.ofW (cc := cX6_isThere) (maxL := 1) (ret := (some .boolean)) (by decide) rfl ?_
  intro p e s m args below meth c s₁ B hml hv
  obtain ⟨rfl, hv⟩ := hv
  have C0 := Bd.mk B hml (atoms_spec (ws := wsX6_isThere) B.pre) (findClass_of_methodNamed B.named) hv.1
  have hw : Wh D n0 ad cI cJ X S s s.heap [] := ⟨hv.2.1, hv.2.2, va_S.rf⟩
  refine r_entry (Nat.le_of_ble_eq_true rfl) (fun ls hl => ?_)
  have hl : lv_has ls 1 [(0, .ref (ad 16))] := hl
  unfold V_X6_isThere at hV
  refine lv_aload_n C0.x C0.b dX6_isThere_0 rfl (lv_at hl 0 rfl) ?_
  refine r_get C0 hw (C := RX6) (T := TX6) (N := 2) (v := .int (gI S 5)) iw_X6_isThere_X6 (lg_16 ad cI cJ X S) rfl 0 (by decide) (C0.ts _ fw_X6_isThere_11) rfl dX6_isThere_1 ?_
  refine lv_iconst (v := -1) C0.x C0.b dX6_isThere_4 (by decide) ?_
  refine lv_icmp_eq (tgt := 12) C0.x C0.b dX6_isThere_5 (by decide) (fun c1 => ?_) (fun c1 => ?_)
  · have hV := hV.1 c1
    refine lv_iconst (v := 0) C0.x C0.b dX6_isThere_12 (by decide) ?_
    exact r_zret C0 rfl bz_0 hw hV dX6_isThere_13
  · have hV := hV.2 c1
    refine lv_iconst (v := 1) C0.x C0.b dX6_isThere_8 (by decide) ?_
    refine lv_goto (tgt := 13) C0.x C0.b dX6_isThere_9 (by decide) ?_
    exact r_zret C0 rfl bz_1 hw hV dX6_isThere_13
/-! StepBench$Sheet.entries()I -/
abbrev rm_X6_entries : Room := { frames := 1, cells := 0, slots := 0, locals := 20 }
set_option maxRecDepth 20000 in
theorem fw_X6_entries_20 : Cond.fieldLink RX6 20 "StepBench$Sheet" "cells" "LStepBench$Numbers;" ∈ wsX6_entries := by decide +kernel
set_option maxRecDepth 20000 in
theorem iw_X6_entries_X6 : ∀ w ∈ wsX60, w ∈ wsX6_entries := by decide +kernel
set_option maxRecDepth 20000 in
theorem hd_X6_entries : yX6_entries.cls = RX6 ∧ yX6_entries.cls ≠ "java/lang/invoke/MethodHandle" ∧ yX6_entries.cls ≠ "java/lang/invoke/VarHandle" ∧ (parseMethodDescriptor yX6_entries.desc).map (fun d => d.parameters.length) = some 0 := by decide +kernel
def V_X6_entries   (S : SS) (post : Int32 → SS → Prop) : Prop :=
  (V_X2_size 6 11 64 S (fun (r1 : Int32) (S2 : SS) => (post r1 S2)))
set_option maxHeartbeats 4000000 in
set_option maxRecDepth 100000 in
theorem c_X6_entries  {S : SS}  {post : Int32 → SS → Prop} (hV : V_X6_entries   S post) : MI l yX6_entries wsX6_entries rm_X6_entries [.ref (ad 16)] D n0 ad cI cJ X S post := by
  refine Met.ofW (cc := cX6_entries) (maxL := 1) (ret := (some .int)) (by decide) rfl ?_
  intro p e s m args below meth c s₁ B hml hv
  obtain ⟨rfl, hv⟩ := hv
  have C0 := Bd.mk B hml (atoms_spec (ws := wsX6_entries) B.pre) (findClass_of_methodNamed B.named) hv.1
  have hw : Wh D n0 ad cI cJ X S s s.heap [] := ⟨hv.2.1, hv.2.2, va_S.rf⟩
  refine r_entry (Nat.le_of_ble_eq_true rfl) (fun ls hl => ?_)
  have hl : lv_has ls 1 [(0, .ref (ad 16))] := hl
  unfold V_X6_entries at hV
  refine lv_aload_n C0.x C0.b dX6_entries_0 rfl (lv_at hl 0 rfl) ?_
  refine r_get C0 hw (C := RX6) (T := TX6) (N := 2) (v := .ref (ad 17)) iw_X6_entries_X6 (lg_16 ad cI cJ X S) rfl 1 (by decide) (C0.ts _ fw_X6_entries_20) rfl dX6_entries_1 ?_
  refine r_cV_i (As := []) (rest := []) C0 hw (c_X2_size (ln_17 ad cI cJ X) hV) (cwV 0 C0.ts gX6_entries_X2_size rfl rfl rfl hd_X2_size ⟨Nat.le_of_ble_eq_true rfl, Nat.le_of_ble_eq_true rfl⟩) (lg_17 ad cI cJ X S) rfl rfl hl.1 rfl (Nat.le_of_ble_eq_true rfl) ⟨Nat.le_of_ble_eq_true rfl, Nat.le_of_ble_eq_true rfl⟩ dX6_entries_4 (fun r1 S2 H locs hV hw => ?_)
  exact r_iret C0 rfl hw hV dX6_entries_7
/-! StepBench$Sheet.read(I)J -/
abbrev rm_X6_read : Room := { frames := 2, cells := 0, slots := 0, locals := 42 }
set_option maxRecDepth 20000 in
theorem fw_X6_read_20 : Cond.fieldLink RX6 20 "StepBench$Sheet" "cells" "LStepBench$Numbers;" ∈ wsX6_read := by decide +kernel
set_option maxRecDepth 20000 in
theorem iw_X6_read_X6 : ∀ w ∈ wsX60, w ∈ wsX6_read := by decide +kernel
set_option maxRecDepth 20000 in
theorem hd_X6_read : yX6_read.cls = RX6 ∧ yX6_read.cls ≠ "java/lang/invoke/MethodHandle" ∧ yX6_read.cls ≠ "java/lang/invoke/VarHandle" ∧ (parseMethodDescriptor yX6_read.desc).map (fun d => d.parameters.length) = some 1 := by decide +kernel
def V_X6_read  (p0 : Int32) (S : SS) (post : Int64 → SS → Prop) : Prop :=
  (V_X2_at 6 11 64 p0 S (fun (r1 : Int64) (S2 : SS) => (post r1 S2)))
set_option maxHeartbeats 4000000 in
set_option maxRecDepth 100000 in
theorem c_X6_read  {S : SS} {p0 : Int32} {post : Int64 → SS → Prop} (hV : V_X6_read  p0 S post) : ML l yX6_read wsX6_read rm_X6_read [.ref (ad 16), .int p0] D n0 ad cI cJ X S post := by
  refine Met.ofW (cc := cX6_read) (maxL := 2) (ret := (some .long)) (by decide) rfl ?_
  intro p e s m args below meth c s₁ B hml hv
  obtain ⟨rfl, hv⟩ := hv
  have C0 := Bd.mk B hml (atoms_spec (ws := wsX6_read) B.pre) (findClass_of_methodNamed B.named) hv.1
  have hw : Wh D n0 ad cI cJ X S s s.heap [] := ⟨hv.2.1, hv.2.2, va_S.rf⟩
  refine r_entry (Nat.le_of_ble_eq_true rfl) (fun ls hl => ?_)
  have hl : lv_has ls 2 [(0, .ref (ad 16)), (1, .int p0)] := hl
  unfold V_X6_read at hV
  refine lv_aload_n C0.x C0.b dX6_read_0 rfl (lv_at hl 0 rfl) ?_
  refine r_get C0 hw (C := RX6) (T := TX6) (N := 2) (v := .ref (ad 17)) iw_X6_read_X6 (lg_16 ad cI cJ X S) rfl 1 (by decide) (C0.ts _ fw_X6_read_20) rfl dX6_read_1 ?_
  refine lv_iload_n C0.x C0.b dX6_read_4 rfl (lv_at hl 1 rfl) ?_
  refine r_cV_l (As := [.int p0]) (rest := []) C0 hw (c_X2_at (ln_17 ad cI cJ X) hV) (cwV 1 C0.ts gX6_read_X2_at rfl rfl rfl hd_X2_at ⟨Nat.le_of_ble_eq_true rfl, Nat.le_of_ble_eq_true rfl⟩) (lg_17 ad cI cJ X S) rfl rfl hl.1 rfl (Nat.le_of_ble_eq_true rfl) ⟨Nat.le_of_ble_eq_true rfl, Nat.le_of_ble_eq_true rfl⟩ dX6_read_5 (fun r1 S2 H locs hV hw => ?_)
  exact r_lret C0 rfl hw hV dX6_read_8
/-! StepBench$Sheet.write(IJ)Z -/
abbrev rm_X6_write : Room := { frames := 2, cells := 0, slots := 0, locals := 44 }
set_option maxRecDepth 20000 in
theorem fw_X6_write_20 : Cond.fieldLink RX6 20 "StepBench$Sheet" "cells" "LStepBench$Numbers;" ∈ wsX6_write := by decide +kernel
set_option maxRecDepth 20000 in
theorem iw_X6_write_X6 : ∀ w ∈ wsX60, w ∈ wsX6_write := by decide +kernel
set_option maxRecDepth 20000 in
theorem fw_X6_write_11 : Cond.fieldLink RX6 11 "StepBench$Sheet" "type" "I" ∈ wsX6_write := by decide +kernel
set_option maxRecDepth 20000 in
theorem hd_X6_write : yX6_write.cls = RX6 ∧ yX6_write.cls ≠ "java/lang/invoke/MethodHandle" ∧ yX6_write.cls ≠ "java/lang/invoke/VarHandle" ∧ (parseMethodDescriptor yX6_write.desc).map (fun d => d.parameters.length) = some 2 := by decide +kernel
def V_X6_write  (p0 : Int32) (p1 : Int64) (S : SS) (post : Int32 → SS → Prop) : Prop :=
  (V_X2_has 6 11 64 p0 S (fun (r1 : Int32) (S2 : SS) => ((r1 = 0 → (post (0 : Int32) S2)) ∧ (¬ r1 = 0 → (((gI S2 5) = 0 → (V_X2_put 6 11 64 p0 p1.toInt32.toInt8.toInt32.toInt64 S2 (fun (S6 : SS) => (post (1 : Int32) S6)))) ∧ (¬ (gI S2 5) = 0 → (((gI S2 5) = (1 : Int32) → (V_X2_put 6 11 64 p0 p1.toInt32.toInt64 S2 (fun (S9 : SS) => (post (1 : Int32) S9)))) ∧ (¬ (gI S2 5) = (1 : Int32) → (V_X2_put 6 11 64 p0 p1 S2 (fun (S11 : SS) => (post (1 : Int32) S11)))))))))))
set_option maxHeartbeats 4000000 in
set_option maxRecDepth 100000 in
theorem c_X6_write  {S : SS} {p0 : Int32} {p1 : Int64} {post : Int32 → SS → Prop} (hV : V_X6_write  p0 p1 S post) : MI l yX6_write wsX6_write rm_X6_write [.ref (ad 16), .int p0, .long p1] D n0 ad cI cJ X S post := by
  refine Met.ofW (cc := cX6_write) (maxL := 4) (ret := (some .boolean)) (by decide) rfl ?_
  intro p e s m args below meth c s₁ B hml hv
  obtain ⟨rfl, hv⟩ := hv
  have C0 := Bd.mk B hml (atoms_spec (ws := wsX6_write) B.pre) (findClass_of_methodNamed B.named) hv.1
  have hw : Wh D n0 ad cI cJ X S s s.heap [] := ⟨hv.2.1, hv.2.2, va_S.rf⟩
  refine r_entry (Nat.le_of_ble_eq_true rfl) (fun ls hl => ?_)
  have hl : lv_has ls 4 [(0, .ref (ad 16)), (1, .int p0), (2, .long p1)] := hl
  unfold V_X6_write at hV
  refine lv_aload_n C0.x C0.b dX6_write_0 rfl (lv_at hl 0 rfl) ?_
  refine r_get C0 hw (C := RX6) (T := TX6) (N := 2) (v := .ref (ad 17)) iw_X6_write_X6 (lg_16 ad cI cJ X S) rfl 1 (by decide) (C0.ts _ fw_X6_write_20) rfl dX6_write_1 ?_
  refine lv_iload_n C0.x C0.b dX6_write_4 rfl (lv_at hl 1 rfl) ?_
  refine r_cV_i (As := [.int p0]) (rest := []) C0 hw (c_X2_has (ln_17 ad cI cJ X) hV) (cwV 1 C0.ts gX6_write_X2_has rfl rfl rfl hd_X2_has ⟨Nat.le_of_ble_eq_true rfl, Nat.le_of_ble_eq_true rfl⟩) (lg_17 ad cI cJ X S) rfl rfl hl.1 rfl (Nat.le_of_ble_eq_true rfl) ⟨Nat.le_of_ble_eq_true rfl, Nat.le_of_ble_eq_true rfl⟩ dX6_write_5 (fun r1 S2 H locs hV hw => ?_)
  refine lv_if_ne (tgt := 13) C0.x C0.b dX6_write_8 (by decide) (fun c3 => ?_) (fun c3 => ?_)
  · have hV := hV.2 c3
    refine lv_aload_n C0.x C0.b dX6_write_13 rfl (lv_at hl 0 rfl) ?_
    refine r_get C0 hw (C := RX6) (T := TX6) (N := 2) (v := .int (gI S2 5)) iw_X6_write_X6 (lg_16 ad cI cJ X S2) rfl 0 (by decide) (C0.ts _ fw_X6_write_11) rfl dX6_write_14 ?_
    refine lv_if_ne (tgt := 35) C0.x C0.b dX6_write_17 (by decide) (fun c4 => ?_) (fun c4 => ?_)
    · have hV := hV.2 c4
      refine lv_aload_n C0.x C0.b dX6_write_35 rfl (lv_at hl 0 rfl) ?_
      refine r_get C0 hw (C := RX6) (T := TX6) (N := 2) (v := .int (gI S2 5)) iw_X6_write_X6 (lg_16 ad cI cJ X S2) rfl 0 (by decide) (C0.ts _ fw_X6_write_11) rfl dX6_write_36 ?_
      refine lv_iconst (v := 1) C0.x C0.b dX6_write_39 (by decide) ?_
      refine lv_icmp_ne (tgt := 57) C0.x C0.b dX6_write_40 (by decide) (fun c7 => ?_) (fun c7 => ?_)
      · have hV := hV.2 c7
        refine lv_aload_n C0.x C0.b dX6_write_57 rfl (lv_at hl 0 rfl) ?_
        refine r_get C0 hw (C := RX6) (T := TX6) (N := 2) (v := .ref (ad 17)) iw_X6_write_X6 (lg_16 ad cI cJ X S2) rfl 1 (by decide) (C0.ts _ fw_X6_write_20) rfl dX6_write_58 ?_
        refine lv_iload_n C0.x C0.b dX6_write_61 rfl (lv_at hl 1 rfl) ?_
        refine lv_lload_n C0.x C0.b dX6_write_62 rfl (lv_at hl 2 rfl) ?_
        refine r_cV_v (As := [.int p0, .long p1]) (rest := []) C0 hw (c_X2_put (ln_17 ad cI cJ X) hV) (cwV 2 C0.ts gX6_write_X2_put rfl rfl rfl hd_X2_put ⟨Nat.le_of_ble_eq_true rfl, Nat.le_of_ble_eq_true rfl⟩) (lg_17 ad cI cJ X S2) rfl rfl hl.1 rfl (Nat.le_of_ble_eq_true rfl) ⟨Nat.le_of_ble_eq_true rfl, Nat.le_of_ble_eq_true rfl⟩ dX6_write_63 (fun S11 H locs hV hw => ?_)
        refine lv_iconst (v := 1) C0.x C0.b dX6_write_66 (by decide) ?_
        exact r_zret C0 rfl bz_1 hw hV dX6_write_67
      · have hV := hV.1 c7
        refine lv_aload_n C0.x C0.b dX6_write_43 rfl (lv_at hl 0 rfl) ?_
        refine r_get C0 hw (C := RX6) (T := TX6) (N := 2) (v := .ref (ad 17)) iw_X6_write_X6 (lg_16 ad cI cJ X S2) rfl 1 (by decide) (C0.ts _ fw_X6_write_20) rfl dX6_write_44 ?_
        refine lv_iload_n C0.x C0.b dX6_write_47 rfl (lv_at hl 1 rfl) ?_
        refine lv_lload_n C0.x C0.b dX6_write_48 rfl (lv_at hl 2 rfl) ?_
        refine lv_l2i C0.x C0.b dX6_write_49 rfl ?_
        refine lv_i2l C0.x C0.b dX6_write_50 rfl ?_
        refine r_cV_v (As := [.int p0, .long p1.toInt32.toInt64]) (rest := []) C0 hw (c_X2_put (ln_17 ad cI cJ X) hV) (cwV 2 C0.ts gX6_write_X2_put rfl rfl rfl hd_X2_put ⟨Nat.le_of_ble_eq_true rfl, Nat.le_of_ble_eq_true rfl⟩) (lg_17 ad cI cJ X S2) rfl rfl hl.1 rfl (Nat.le_of_ble_eq_true rfl) ⟨Nat.le_of_ble_eq_true rfl, Nat.le_of_ble_eq_true rfl⟩ dX6_write_51 (fun S9 H locs hV hw => ?_)
        refine lv_goto (tgt := 66) C0.x C0.b dX6_write_54 (by decide) ?_
        refine lv_iconst (v := 1) C0.x C0.b dX6_write_66 (by decide) ?_
        exact r_zret C0 rfl bz_1 hw hV dX6_write_67
    · have hV := hV.1 c4
      refine lv_aload_n C0.x C0.b dX6_write_20 rfl (lv_at hl 0 rfl) ?_
      refine r_get C0 hw (C := RX6) (T := TX6) (N := 2) (v := .ref (ad 17)) iw_X6_write_X6 (lg_16 ad cI cJ X S2) rfl 1 (by decide) (C0.ts _ fw_X6_write_20) rfl dX6_write_21 ?_
      refine lv_iload_n C0.x C0.b dX6_write_24 rfl (lv_at hl 1 rfl) ?_
      refine lv_lload_n C0.x C0.b dX6_write_25 rfl (lv_at hl 2 rfl) ?_
      refine lv_l2i C0.x C0.b dX6_write_26 rfl ?_
      refine lv_i2b C0.x C0.b dX6_write_27 rfl ?_
      refine lv_i2l C0.x C0.b dX6_write_28 rfl ?_
      refine r_cV_v (As := [.int p0, .long p1.toInt32.toInt8.toInt32.toInt64]) (rest := []) C0 hw (c_X2_put (ln_17 ad cI cJ X) hV) (cwV 2 C0.ts gX6_write_X2_put rfl rfl rfl hd_X2_put ⟨Nat.le_of_ble_eq_true rfl, Nat.le_of_ble_eq_true rfl⟩) (lg_17 ad cI cJ X S2) rfl rfl hl.1 rfl (Nat.le_of_ble_eq_true rfl) ⟨Nat.le_of_ble_eq_true rfl, Nat.le_of_ble_eq_true rfl⟩ dX6_write_29 (fun S6 H locs hV hw => ?_)
      refine lv_goto (tgt := 66) C0.x C0.b dX6_write_32 (by decide) ?_
      refine lv_iconst (v := 1) C0.x C0.b dX6_write_66 (by decide) ?_
      exact r_zret C0 rfl bz_1 hw hV dX6_write_67
  · have hV := hV.1 c3
    refine lv_iconst (v := 0) C0.x C0.b dX6_write_11 (by decide) ?_
    exact r_zret C0 rfl bz_0 hw hV dX6_write_12
/-! StepBench$Sheet.drop()V -/
abbrev rm_X6_drop : Room := { frames := 1, cells := 0, slots := 0, locals := 20 }
set_option maxRecDepth 20000 in
theorem fw_X6_drop_11 : Cond.fieldLink RX6 11 "StepBench$Sheet" "type" "I" ∈ wsX6_drop := by decide +kernel
set_option maxRecDepth 20000 in
theorem iw_X6_drop_X6 : ∀ w ∈ wsX60, w ∈ wsX6_drop := by decide +kernel
set_option maxRecDepth 20000 in
theorem fw_X6_drop_20 : Cond.fieldLink RX6 20 "StepBench$Sheet" "cells" "LStepBench$Numbers;" ∈ wsX6_drop := by decide +kernel
set_option maxRecDepth 20000 in
theorem hd_X6_drop : yX6_drop.cls = RX6 ∧ yX6_drop.cls ≠ "java/lang/invoke/MethodHandle" ∧ yX6_drop.cls ≠ "java/lang/invoke/VarHandle" ∧ (parseMethodDescriptor yX6_drop.desc).map (fun d => d.parameters.length) = some 0 := by decide +kernel
def V_X6_drop   (S : SS) (post : SS → Prop) : Prop :=
  (∀ S1 : SS, S1 = (sI S 5 (-1 : Int32)) → (V_X2_empty 6 11 64 S1 (fun (S3 : SS) => (post S3))))
set_option maxHeartbeats 4000000 in
set_option maxRecDepth 100000 in
theorem c_X6_drop  {S : SS}  {post : SS → Prop} (hV : V_X6_drop   S post) : MV l yX6_drop wsX6_drop rm_X6_drop [.ref (ad 16)] D n0 ad cI cJ X S post := by
  refine Met.ofW (cc := cX6_drop) (maxL := 1) (ret := none) (by decide) rfl ?_
  intro p e s m args below meth c s₁ B hml hv
  obtain ⟨rfl, hv⟩ := hv
  have C0 := Bd.mk B hml (atoms_spec (ws := wsX6_drop) B.pre) (findClass_of_methodNamed B.named) hv.1
  have hw : Wh D n0 ad cI cJ X S s s.heap [] := ⟨hv.2.1, hv.2.2, va_S.rf⟩
  refine r_entry (Nat.le_of_ble_eq_true rfl) (fun ls hl => ?_)
  have hl : lv_has ls 1 [(0, .ref (ad 16))] := hl
  unfold V_X6_drop at hV
  refine lv_aload_n C0.x C0.b dX6_drop_0 rfl (lv_at hl 0 rfl) ?_
  refine lv_iconst (v := -1) C0.x C0.b dX6_drop_1 (by decide) ?_
  refine r_put C0 hw (C := RX6) (T := TX6) (N := 2) (ty := .int) iw_X6_drop_X6 tyX6 tyX6_ok nmX6 (lg_16 ad cI cJ X S) rfl 0 (by decide) (C0.ts _ fw_X6_drop_11) rfl (by decide +kernel) rfl rfl (Nat.le_of_ble_eq_true rfl) dX6_drop_2 (S' := (sI S 5 (-1 : Int32))) (ls_16_0 ad cI cJ X S (-1 : Int32)) (fun S1 H locs eS1 hw => ?_)
  have hV := hV S1 eS1
  refine lv_aload_n C0.x C0.b dX6_drop_5 rfl (lv_at hl 0 rfl) ?_
  refine r_get C0 hw (C := RX6) (T := TX6) (N := 2) (v := .ref (ad 17)) iw_X6_drop_X6 (lg_16 ad cI cJ X S1) rfl 1 (by decide) (C0.ts _ fw_X6_drop_20) rfl dX6_drop_6 ?_
  refine r_cV_v (As := []) (rest := []) C0 hw (c_X2_empty (ln_17 ad cI cJ X) hV) (cwV 0 C0.ts gX6_drop_X2_empty rfl rfl rfl hd_X2_empty ⟨Nat.le_of_ble_eq_true rfl, Nat.le_of_ble_eq_true rfl⟩) (lg_17 ad cI cJ X S1) rfl rfl hl.1 rfl (Nat.le_of_ble_eq_true rfl) ⟨Nat.le_of_ble_eq_true rfl, Nat.le_of_ble_eq_true rfl⟩ dX6_drop_9 (fun S3 H locs hV hw => ?_)
  exact r_vret C0 rfl hw hV dX6_drop_12
/-! StepBench.draft(I)Z -/
abbrev rm_X7_draft : Room := { frames := 2, cells := 0, slots := 0, locals := 45 }
set_option maxRecDepth 20000 in
theorem fw_X7_draft_20 : Cond.fieldLink RX7 20 "StepBench" "drafted" "LStepBench$Shares;" ∈ wsX7_draft := by decide +kernel
set_option maxRecDepth 20000 in
theorem iw_X7_draft_X7 : ∀ w ∈ wsX70, w ∈ wsX7_draft := by decide +kernel
set_option maxRecDepth 20000 in
theorem hd_X7_draft : yX7_draft.cls = RX7 ∧ yX7_draft.cls ≠ "java/lang/invoke/MethodHandle" ∧ yX7_draft.cls ≠ "java/lang/invoke/VarHandle" ∧ (parseMethodDescriptor yX7_draft.desc).map (fun d => d.parameters.length) = some 1 := by decide +kernel
def V_X7_draft  (p0 : Int32) (S : SS) (post : Int32 → SS → Prop) : Prop :=
  ((p0 < (2 : Int32) → (post (0 : Int32) S)) ∧ (¬ p0 < (2 : Int32) → ((p0 ≤ (64 : Int32) → (V_X5_begin 2 3 4 5 p0 S (fun (S4 : SS) => (post (1 : Int32) S4)))) ∧ (¬ p0 ≤ (64 : Int32) → (post (0 : Int32) S)))))
set_option maxHeartbeats 4000000 in
set_option maxRecDepth 100000 in
theorem c_X7_draft  {S : SS} {p0 : Int32} {post : Int32 → SS → Prop} (hV : V_X7_draft  p0 S post) : MI l yX7_draft wsX7_draft rm_X7_draft [.ref (ad 0), .int p0] D n0 ad cI cJ X S post := by
  refine Met.ofW (cc := cX7_draft) (maxL := 2) (ret := (some .boolean)) (by decide) rfl ?_
  intro p e s m args below meth c s₁ B hml hv
  obtain ⟨rfl, hv⟩ := hv
  have C0 := Bd.mk B hml (atoms_spec (ws := wsX7_draft) B.pre) (findClass_of_methodNamed B.named) hv.1
  have hw : Wh D n0 ad cI cJ X S s s.heap [] := ⟨hv.2.1, hv.2.2, va_S.rf⟩
  refine r_entry (Nat.le_of_ble_eq_true rfl) (fun ls hl => ?_)
  have hl : lv_has ls 2 [(0, .ref (ad 0)), (1, .int p0)] := hl
  unfold V_X7_draft at hV
  refine lv_iload_n C0.x C0.b dX7_draft_0 rfl (lv_at hl 1 rfl) ?_
  refine lv_iconst (v := 2) C0.x C0.b dX7_draft_1 (by decide) ?_
  refine lv_icmp_lt (tgt := 11) C0.x C0.b dX7_draft_2 (by decide) (fun c1 => ?_) (fun c1 => ?_)
  · have hV := hV.1 c1
    refine lv_iconst (v := 0) C0.x C0.b dX7_draft_11 (by decide) ?_
    exact r_zret C0 rfl bz_0 hw hV dX7_draft_12
  · have hV := hV.2 c1
    refine lv_iload_n C0.x C0.b dX7_draft_5 rfl (lv_at hl 1 rfl) ?_
    refine lv_bipush (v := 64) C0.x C0.b dX7_draft_6 (by decide) ?_
    refine lv_icmp_le (tgt := 13) C0.x C0.b dX7_draft_8 (by decide) (fun c2 => ?_) (fun c2 => ?_)
    · have hV := hV.1 c2
      refine lv_aload_n C0.x C0.b dX7_draft_13 rfl (lv_at hl 0 rfl) ?_
      refine r_get C0 hw (C := RX7) (T := TX7) (N := 15) (v := .ref (ad 5)) iw_X7_draft_X7 (lg_0 ad cI cJ X S) rfl 2 (by decide) (C0.ts _ fw_X7_draft_20) rfl dX7_draft_14 ?_
      refine lv_iload_n C0.x C0.b dX7_draft_17 rfl (lv_at hl 1 rfl) ?_
      refine r_cV_v (As := [.int p0]) (rest := []) C0 hw (c_X5_begin (ln_5 ad cI cJ X) hV) (cwV 1 C0.ts gX7_draft_X5_begin rfl rfl rfl hd_X5_begin ⟨Nat.le_of_ble_eq_true rfl, Nat.le_of_ble_eq_true rfl⟩) (lg_5 ad cI cJ X S) rfl rfl hl.1 rfl (Nat.le_of_ble_eq_true rfl) ⟨Nat.le_of_ble_eq_true rfl, Nat.le_of_ble_eq_true rfl⟩ dX7_draft_18 (fun S4 H locs hV hw => ?_)
      refine lv_iconst (v := 1) C0.x C0.b dX7_draft_21 (by decide) ?_
      exact r_zret C0 rfl bz_1 hw hV dX7_draft_22
    · have hV := hV.2 c2
      refine lv_iconst (v := 0) C0.x C0.b dX7_draft_11 (by decide) ?_
      exact r_zret C0 rfl bz_0 hw hV dX7_draft_12
/-! StepBench.sheet(II)Z -/
abbrev rm_X7_sheet : Room := { frames := 3, cells := 0, slots := 0, locals := 67 }
set_option maxRecDepth 20000 in
theorem fw_X7_sheet_36 : Cond.fieldLink RX7 36 "StepBench" "laid" "LStepBench$Sheet;" ∈ wsX7_sheet := by decide +kernel
set_option maxRecDepth 20000 in
theorem iw_X7_sheet_X7 : ∀ w ∈ wsX70, w ∈ wsX7_sheet := by decide +kernel
set_option maxRecDepth 20000 in
theorem hd_X7_sheet : yX7_sheet.cls = RX7 ∧ yX7_sheet.cls ≠ "java/lang/invoke/MethodHandle" ∧ yX7_sheet.cls ≠ "java/lang/invoke/VarHandle" ∧ (parseMethodDescriptor yX7_sheet.desc).map (fun d => d.parameters.length) = some 2 := by decide +kernel
def V_X7_sheet  (p0 : Int32) (p1 : Int32) (S : SS) (post : Int32 → SS → Prop) : Prop :=
  (V_X6_begin p0 p1 S (fun (r1 : Int32) (S2 : SS) => (bz r1 ∧ post r1 S2)))
set_option maxHeartbeats 4000000 in
set_option maxRecDepth 100000 in
theorem c_X7_sheet  {S : SS} {p0 : Int32} {p1 : Int32} {post : Int32 → SS → Prop} (hV : V_X7_sheet  p0 p1 S post) : MI l yX7_sheet wsX7_sheet rm_X7_sheet [.ref (ad 0), .int p0, .int p1] D n0 ad cI cJ X S post := by
  refine Met.ofW (cc := cX7_sheet) (maxL := 3) (ret := (some .boolean)) (by decide) rfl ?_
  intro p e s m args below meth c s₁ B hml hv
  obtain ⟨rfl, hv⟩ := hv
  have C0 := Bd.mk B hml (atoms_spec (ws := wsX7_sheet) B.pre) (findClass_of_methodNamed B.named) hv.1
  have hw : Wh D n0 ad cI cJ X S s s.heap [] := ⟨hv.2.1, hv.2.2, va_S.rf⟩
  refine r_entry (Nat.le_of_ble_eq_true rfl) (fun ls hl => ?_)
  have hl : lv_has ls 3 [(0, .ref (ad 0)), (1, .int p0), (2, .int p1)] := hl
  unfold V_X7_sheet at hV
  refine lv_aload_n C0.x C0.b dX7_sheet_0 rfl (lv_at hl 0 rfl) ?_
  refine r_get C0 hw (C := RX7) (T := TX7) (N := 15) (v := .ref (ad 16)) iw_X7_sheet_X7 (lg_0 ad cI cJ X S) rfl 5 (by decide) (C0.ts _ fw_X7_sheet_36) rfl dX7_sheet_1 ?_
  refine lv_iload_n C0.x C0.b dX7_sheet_4 rfl (lv_at hl 1 rfl) ?_
  refine lv_iload_n C0.x C0.b dX7_sheet_5 rfl (lv_at hl 2 rfl) ?_
  refine r_cV_i (As := [.int p0, .int p1]) (rest := []) C0 hw (c_X6_begin  hV) (cwV 2 C0.ts gX7_sheet_X6_begin rfl rfl rfl hd_X6_begin ⟨Nat.le_of_ble_eq_true rfl, Nat.le_of_ble_eq_true rfl⟩) (lg_16 ad cI cJ X S) rfl rfl hl.1 rfl (Nat.le_of_ble_eq_true rfl) ⟨Nat.le_of_ble_eq_true rfl, Nat.le_of_ble_eq_true rfl⟩ dX7_sheet_6 (fun r1 S2 H locs hV hw => ?_)
  exact r_zret C0 rfl hV.1 hw hV.2 dX7_sheet_9
/-! StepBench.entry(IJ)Z -/
abbrev rm_X7_entry : Room := { frames := 3, cells := 0, slots := 0, locals := 67 }
set_option maxRecDepth 20000 in
theorem fw_X7_entry_36 : Cond.fieldLink RX7 36 "StepBench" "laid" "LStepBench$Sheet;" ∈ wsX7_entry := by decide +kernel
set_option maxRecDepth 20000 in
theorem iw_X7_entry_X7 : ∀ w ∈ wsX70, w ∈ wsX7_entry := by decide +kernel
set_option maxRecDepth 20000 in
theorem hd_X7_entry : yX7_entry.cls = RX7 ∧ yX7_entry.cls ≠ "java/lang/invoke/MethodHandle" ∧ yX7_entry.cls ≠ "java/lang/invoke/VarHandle" ∧ (parseMethodDescriptor yX7_entry.desc).map (fun d => d.parameters.length) = some 2 := by decide +kernel
def V_X7_entry  (p0 : Int32) (p1 : Int64) (S : SS) (post : Int32 → SS → Prop) : Prop :=
  (V_X6_write p0 p1 S (fun (r1 : Int32) (S2 : SS) => (bz r1 ∧ post r1 S2)))
set_option maxHeartbeats 4000000 in
set_option maxRecDepth 100000 in
theorem c_X7_entry  {S : SS} {p0 : Int32} {p1 : Int64} {post : Int32 → SS → Prop} (hV : V_X7_entry  p0 p1 S post) : MI l yX7_entry wsX7_entry rm_X7_entry [.ref (ad 0), .int p0, .long p1] D n0 ad cI cJ X S post := by
  refine Met.ofW (cc := cX7_entry) (maxL := 4) (ret := (some .boolean)) (by decide) rfl ?_
  intro p e s m args below meth c s₁ B hml hv
  obtain ⟨rfl, hv⟩ := hv
  have C0 := Bd.mk B hml (atoms_spec (ws := wsX7_entry) B.pre) (findClass_of_methodNamed B.named) hv.1
  have hw : Wh D n0 ad cI cJ X S s s.heap [] := ⟨hv.2.1, hv.2.2, va_S.rf⟩
  refine r_entry (Nat.le_of_ble_eq_true rfl) (fun ls hl => ?_)
  have hl : lv_has ls 4 [(0, .ref (ad 0)), (1, .int p0), (2, .long p1)] := hl
  unfold V_X7_entry at hV
  refine lv_aload_n C0.x C0.b dX7_entry_0 rfl (lv_at hl 0 rfl) ?_
  refine r_get C0 hw (C := RX7) (T := TX7) (N := 15) (v := .ref (ad 16)) iw_X7_entry_X7 (lg_0 ad cI cJ X S) rfl 5 (by decide) (C0.ts _ fw_X7_entry_36) rfl dX7_entry_1 ?_
  refine lv_iload_n C0.x C0.b dX7_entry_4 rfl (lv_at hl 1 rfl) ?_
  refine lv_lload_n C0.x C0.b dX7_entry_5 rfl (lv_at hl 2 rfl) ?_
  refine r_cV_i (As := [.int p0, .long p1]) (rest := []) C0 hw (c_X6_write  hV) (cwV 2 C0.ts gX7_entry_X6_write rfl rfl rfl hd_X6_write ⟨Nat.le_of_ble_eq_true rfl, Nat.le_of_ble_eq_true rfl⟩) (lg_16 ad cI cJ X S) rfl rfl hl.1 rfl (Nat.le_of_ble_eq_true rfl) ⟨Nat.le_of_ble_eq_true rfl, Nat.le_of_ble_eq_true rfl⟩ dX7_entry_6 (fun r1 S2 H locs hV hw => ?_)
  exact r_zret C0 rfl hV.1 hw hV.2 dX7_entry_9
/-! StepBench.lay(I)I -/
abbrev rm_X7_lay : Room := { frames := 3, cells := 0, slots := 0, locals := 63 }
set_option maxRecDepth 20000 in
theorem fw_X7_lay_36 : Cond.fieldLink RX7 36 "StepBench" "laid" "LStepBench$Sheet;" ∈ wsX7_lay := by decide +kernel
set_option maxRecDepth 20000 in
theorem iw_X7_lay_X7 : ∀ w ∈ wsX70, w ∈ wsX7_lay := by decide +kernel
set_option maxRecDepth 20000 in
theorem fw_X7_lay_20 : Cond.fieldLink RX7 20 "StepBench" "drafted" "LStepBench$Shares;" ∈ wsX7_lay := by decide +kernel
set_option maxRecDepth 20000 in
theorem ml_X7_lay_106 : Cond.methodLink RX7 106 Lib.Math.min.name ∈ wsX7_lay := by decide +kernel
set_option maxRecDepth 20000 in
theorem ms_X7_lay_106 : Cond.static Lib.Math.min.name ∈ wsX7_lay := by decide +kernel
set_option maxRecDepth 20000 in
theorem mi_X7_lay_106 : Cond.initialized "java/lang/Math" ∈ wsX7_lay := by decide +kernel
set_option maxRecDepth 20000 in
theorem mc_X7_lay_106 : Cond.code Lib.Math.min.name Lib.Math.min.code 2 (some .int) ∈ wsX7_lay := by decide +kernel
set_option maxRecDepth 20000 in
theorem hd_X7_lay : yX7_lay.cls = RX7 ∧ yX7_lay.cls ≠ "java/lang/invoke/MethodHandle" ∧ yX7_lay.cls ≠ "java/lang/invoke/VarHandle" ∧ (parseMethodDescriptor yX7_lay.desc).map (fun d => d.parameters.length) = some 1 := by decide +kernel
def V_X7_lay_51  (v1 : Int32) (v2 : Int32)  (post : Int32 → SS → Prop) : Nat → Int32 → SS → Prop
  | 0, _, _ => False
  | n + 1, v3, S =>
    ((v2 ≤ v3 → (V_X6_drop  S (fun (S16 : SS) => (post v2 S16)))) ∧ (¬ v2 ≤ v3 → (V_X6_read v3 S (fun (r17 : Int64) (S18 : SS) => (V_X5_write 2 3 4 5 v3 v1 r17 S18 (fun (S20 : SS) => (∀ x21 : Int32, x21 = v3 + 1 → (V_X7_lay_51  v1 v2  post n x21 S20))))))))
set_option maxHeartbeats 4000000 in
set_option maxRecDepth 100000 in
theorem lp_X7_lay_51  (v1 : Int32) (v2 : Int32)  (post : Int32 → SS → Prop) (C0 : Bd p s m meth c args cX7_lay 4 (some .int) wsX7_lay RX7 D n0 cI cJ) : ∀ (n : Nat) (v3 : Int32) (S : SS), V_X7_lay_51  v1 v2  post n v3 S → ∀ (H : Heap) (locs : List Loc), Wh D n0 ad cI cJ X S s H locs → ∀ ls : Array Slot, lv_has ls 4 [(0, .ref (ad 0)), (1, .int v1), (2, .int v2), (3, .int v3)] → W p l e rm_X7_lay s m args below meth c H locs 0 0 (MQ below (va_Qi post (fun S' t => Wd D n0 ad cI cJ X S' t) (fr n0)) args s 0 0 (fr n0)) (F0 m 51 ls []) := by
  intro n
  induction n with
  | zero => intro v3 S hV; exact False.elim hV
  | succ n ih =>
    intro v3 S hV H locs hw ls hl
    rw [V_X7_lay_51] at hV
    refine lv_iload_n C0.x C0.b dX7_lay_51 rfl (lv_at hl 3 rfl) ?_
    refine lv_iload_n C0.x C0.b dX7_lay_52 rfl (lv_at hl 2 rfl) ?_
    refine lv_icmp_ge (tgt := 79) C0.x C0.b dX7_lay_53 (by decide) (fun c14 => ?_) (fun c14 => ?_)
    · have hV := hV.1 c14
      refine lv_aload_n C0.x C0.b dX7_lay_79 rfl (lv_at hl 0 rfl) ?_
      refine r_get C0 hw (C := RX7) (T := TX7) (N := 15) (v := .ref (ad 16)) iw_X7_lay_X7 (lg_0 ad cI cJ X S) rfl 5 (by decide) (C0.ts _ fw_X7_lay_36) rfl dX7_lay_80 ?_
      refine r_cV_v (As := []) (rest := []) C0 hw (c_X6_drop  hV) (cwV 0 C0.ts gX7_lay_X6_drop rfl rfl rfl hd_X6_drop ⟨Nat.le_of_ble_eq_true rfl, Nat.le_of_ble_eq_true rfl⟩) (lg_16 ad cI cJ X S) rfl rfl hl.1 rfl (Nat.le_of_ble_eq_true rfl) ⟨Nat.le_of_ble_eq_true rfl, Nat.le_of_ble_eq_true rfl⟩ dX7_lay_83 (fun S16 H locs hV hw => ?_)
      refine lv_iload_n C0.x C0.b dX7_lay_86 rfl (lv_at hl 2 rfl) ?_
      exact r_iret C0 rfl hw hV dX7_lay_87
    · have hV := hV.2 c14
      refine lv_aload_n C0.x C0.b dX7_lay_56 rfl (lv_at hl 0 rfl) ?_
      refine r_get C0 hw (C := RX7) (T := TX7) (N := 15) (v := .ref (ad 5)) iw_X7_lay_X7 (lg_0 ad cI cJ X S) rfl 2 (by decide) (C0.ts _ fw_X7_lay_20) rfl dX7_lay_57 ?_
      refine lv_iload_n C0.x C0.b dX7_lay_60 rfl (lv_at hl 3 rfl) ?_
      refine lv_iload_n C0.x C0.b dX7_lay_61 rfl (lv_at hl 1 rfl) ?_
      refine lv_aload_n C0.x C0.b dX7_lay_62 rfl (lv_at hl 0 rfl) ?_
      refine r_get C0 hw (C := RX7) (T := TX7) (N := 15) (v := .ref (ad 16)) iw_X7_lay_X7 (lg_0 ad cI cJ X S) rfl 5 (by decide) (C0.ts _ fw_X7_lay_36) rfl dX7_lay_63 ?_
      refine lv_iload_n C0.x C0.b dX7_lay_66 rfl (lv_at hl 3 rfl) ?_
      refine r_cV_l (As := [.int v3]) (rest := [.int v1, .int v3, .ref (ad 5)]) C0 hw (c_X6_read  hV) (cwV 1 C0.ts gX7_lay_X6_read rfl rfl rfl hd_X6_read ⟨Nat.le_of_ble_eq_true rfl, Nat.le_of_ble_eq_true rfl⟩) (lg_16 ad cI cJ X S) rfl rfl hl.1 rfl (Nat.le_of_ble_eq_true rfl) ⟨Nat.le_of_ble_eq_true rfl, Nat.le_of_ble_eq_true rfl⟩ dX7_lay_67 (fun r17 S18 H locs hV hw => ?_)
      refine r_cV_v (As := [.int v3, .int v1, .long r17]) (rest := []) C0 hw (c_X5_write (ln_5 ad cI cJ X) hV) (cwV 3 C0.ts gX7_lay_X5_write rfl rfl rfl hd_X5_write ⟨Nat.le_of_ble_eq_true rfl, Nat.le_of_ble_eq_true rfl⟩) (lg_5 ad cI cJ X S18) rfl rfl hl.1 rfl (Nat.le_of_ble_eq_true rfl) ⟨Nat.le_of_ble_eq_true rfl, Nat.le_of_ble_eq_true rfl⟩ dX7_lay_70 (fun S20 H locs hV hw => ?_)
      obtain ⟨x21, ex21⟩ : ∃ z : Int32, z = v3 + 1 := ⟨_, rfl⟩
      have hV := hV x21 ex21
      refine lv_iinc (v := x21) (lv' := [(3, .int x21), (0, .ref (ad 0)), (1, .int v1), (2, .int v2)]) C0.x C0.b dX7_lay_73 hl (k := 3) rfl (by rw [ex21]; rfl) (by decide) rfl (fun ls hl => ?_)
      refine lv_goto (tgt := 51) C0.x C0.b dX7_lay_76 (by decide) ?_
      exact ih _ _ hV _ _ hw _ (lv_sub hl [1, 2, 3, 0] rfl)
def V_X7_lay  (p0 : Int32) (S : SS) (post : Int32 → SS → Prop) : Prop :=
  (V_X6_isThere  S (fun (r1 : Int32) (S2 : SS) => ((r1 = 0 → (post (-1 : Int32) S2)) ∧ (¬ r1 = 0 → (V_X5_measure 2 3 4 5 S2 (fun (r4 : Int32) (S5 : SS) => ((r4 = 0 → (post (-1 : Int32) S5)) ∧ (¬ r4 = 0 → ((p0 < 0 → (post (-1 : Int32) S5)) ∧ (¬ p0 < 0 → ((p0 ≤ (2 : Int32) → (V_X6_entries  S5 (fun (r9 : Int32) (S10 : SS) => (V_X5_measure 2 3 4 5 S10 (fun (r11 : Int32) (S12 : SS) => (∀ x13 : Int32, x13 = (mnI r9 r11) → (∃ n51 : Nat, V_X7_lay_51  p0 x13  post n51 (0 : Int32) S12))))))) ∧ (¬ p0 ≤ (2 : Int32) → (post (-1 : Int32) S5)))))))))))))
set_option maxHeartbeats 4000000 in
set_option maxRecDepth 100000 in
theorem c_X7_lay  {S : SS} {p0 : Int32} {post : Int32 → SS → Prop} (hV : V_X7_lay  p0 S post) : MI l yX7_lay wsX7_lay rm_X7_lay [.ref (ad 0), .int p0] D n0 ad cI cJ X S post := by
  refine Met.ofW (cc := cX7_lay) (maxL := 4) (ret := (some .int)) (by decide) rfl ?_
  intro p e s m args below meth c s₁ B hml hv
  obtain ⟨rfl, hv⟩ := hv
  have C0 := Bd.mk B hml (atoms_spec (ws := wsX7_lay) B.pre) (findClass_of_methodNamed B.named) hv.1
  have hw : Wh D n0 ad cI cJ X S s s.heap [] := ⟨hv.2.1, hv.2.2, va_S.rf⟩
  refine r_entry (Nat.le_of_ble_eq_true rfl) (fun ls hl => ?_)
  have hl : lv_has ls 4 [(0, .ref (ad 0)), (1, .int p0)] := hl
  unfold V_X7_lay at hV
  refine lv_aload_n C0.x C0.b dX7_lay_0 rfl (lv_at hl 0 rfl) ?_
  refine r_get C0 hw (C := RX7) (T := TX7) (N := 15) (v := .ref (ad 16)) iw_X7_lay_X7 (lg_0 ad cI cJ X S) rfl 5 (by decide) (C0.ts _ fw_X7_lay_36) rfl dX7_lay_1 ?_
  refine r_cV_i (As := []) (rest := []) C0 hw (c_X6_isThere  hV) (cwV 0 C0.ts gX7_lay_X6_isThere rfl rfl rfl hd_X6_isThere ⟨Nat.le_of_ble_eq_true rfl, Nat.le_of_ble_eq_true rfl⟩) (lg_16 ad cI cJ X S) rfl rfl hl.1 rfl (Nat.le_of_ble_eq_true rfl) ⟨Nat.le_of_ble_eq_true rfl, Nat.le_of_ble_eq_true rfl⟩ dX7_lay_4 (fun r1 S2 H locs hV hw => ?_)
  refine lv_if_eq (tgt := 29) C0.x C0.b dX7_lay_7 (by decide) (fun c3 => ?_) (fun c3 => ?_)
  · have hV := hV.1 c3
    refine lv_iconst (v := -1) C0.x C0.b dX7_lay_29 (by decide) ?_
    exact r_iret C0 rfl hw hV dX7_lay_30
  · have hV := hV.2 c3
    refine lv_aload_n C0.x C0.b dX7_lay_10 rfl (lv_at hl 0 rfl) ?_
    refine r_get C0 hw (C := RX7) (T := TX7) (N := 15) (v := .ref (ad 5)) iw_X7_lay_X7 (lg_0 ad cI cJ X S2) rfl 2 (by decide) (C0.ts _ fw_X7_lay_20) rfl dX7_lay_11 ?_
    refine r_cV_i (As := []) (rest := []) C0 hw (c_X5_measure (ln_5 ad cI cJ X) hV) (cwV 0 C0.ts gX7_lay_X5_measure rfl rfl rfl hd_X5_measure ⟨Nat.le_of_ble_eq_true rfl, Nat.le_of_ble_eq_true rfl⟩) (lg_5 ad cI cJ X S2) rfl rfl hl.1 rfl (Nat.le_of_ble_eq_true rfl) ⟨Nat.le_of_ble_eq_true rfl, Nat.le_of_ble_eq_true rfl⟩ dX7_lay_14 (fun r4 S5 H locs hV hw => ?_)
    refine lv_if_eq (tgt := 29) C0.x C0.b dX7_lay_17 (by decide) (fun c6 => ?_) (fun c6 => ?_)
    · have hV := hV.1 c6
      refine lv_iconst (v := -1) C0.x C0.b dX7_lay_29 (by decide) ?_
      exact r_iret C0 rfl hw hV dX7_lay_30
    · have hV := hV.2 c6
      refine lv_iload_n C0.x C0.b dX7_lay_20 rfl (lv_at hl 1 rfl) ?_
      refine lv_if_lt (tgt := 29) C0.x C0.b dX7_lay_21 (by decide) (fun c7 => ?_) (fun c7 => ?_)
      · have hV := hV.1 c7
        refine lv_iconst (v := -1) C0.x C0.b dX7_lay_29 (by decide) ?_
        exact r_iret C0 rfl hw hV dX7_lay_30
      · have hV := hV.2 c7
        refine lv_iload_n C0.x C0.b dX7_lay_24 rfl (lv_at hl 1 rfl) ?_
        refine lv_iconst (v := 2) C0.x C0.b dX7_lay_25 (by decide) ?_
        refine lv_icmp_le (tgt := 31) C0.x C0.b dX7_lay_26 (by decide) (fun c8 => ?_) (fun c8 => ?_)
        · have hV := hV.1 c8
          refine lv_aload_n C0.x C0.b dX7_lay_31 rfl (lv_at hl 0 rfl) ?_
          refine r_get C0 hw (C := RX7) (T := TX7) (N := 15) (v := .ref (ad 16)) iw_X7_lay_X7 (lg_0 ad cI cJ X S5) rfl 5 (by decide) (C0.ts _ fw_X7_lay_36) rfl dX7_lay_32 ?_
          refine r_cV_i (As := []) (rest := []) C0 hw (c_X6_entries  hV) (cwV 0 C0.ts gX7_lay_X6_entries rfl rfl rfl hd_X6_entries ⟨Nat.le_of_ble_eq_true rfl, Nat.le_of_ble_eq_true rfl⟩) (lg_16 ad cI cJ X S5) rfl rfl hl.1 rfl (Nat.le_of_ble_eq_true rfl) ⟨Nat.le_of_ble_eq_true rfl, Nat.le_of_ble_eq_true rfl⟩ dX7_lay_35 (fun r9 S10 H locs hV hw => ?_)
          refine lv_aload_n C0.x C0.b dX7_lay_38 rfl (lv_at hl 0 rfl) ?_
          refine r_get C0 hw (C := RX7) (T := TX7) (N := 15) (v := .ref (ad 5)) iw_X7_lay_X7 (lg_0 ad cI cJ X S10) rfl 2 (by decide) (C0.ts _ fw_X7_lay_20) rfl dX7_lay_39 ?_
          refine r_cV_i (As := []) (rest := [.int r9]) C0 hw (c_X5_measure (ln_5 ad cI cJ X) hV) (cwV 0 C0.ts gX7_lay_X5_measure rfl rfl rfl hd_X5_measure ⟨Nat.le_of_ble_eq_true rfl, Nat.le_of_ble_eq_true rfl⟩) (lg_5 ad cI cJ X S10) rfl rfl hl.1 rfl (Nat.le_of_ble_eq_true rfl) ⟨Nat.le_of_ble_eq_true rfl, Nat.le_of_ble_eq_true rfl⟩ dX7_lay_42 (fun r11 S12 H locs hV hw => ?_)
          refine va_mmin C0.x C0.b (C0.ml.trans hl.1.symm) C0.ow (C0.ts _ ml_X7_lay_106) (C0.ts _ ms_X7_lay_106) (C0.ts _ mi_X7_lay_106) (C0.ts _ mc_X7_lay_106) (Nat.le_of_ble_eq_true rfl) (Nat.le_of_ble_eq_true rfl) (Nat.le_of_ble_eq_true rfl) (Nat.le_of_ble_eq_true rfl) dX7_lay_45 ?_
          refine lv_topi (fun x13 ex13 => ?_)
          have hV := hV x13 ex13
          refine lv_istore_n (lv' := [(2, .int x13), (0, .ref (ad 0)), (1, .int p0)]) C0.x C0.b dX7_lay_48 rfl hl (by decide) rfl (fun ls hl => ?_)
          refine lv_iconst (v := 0) C0.x C0.b dX7_lay_49 (by decide) ?_
          refine lv_istore_n (lv' := [(3, .int (0 : Int32)), (2, .int x13), (0, .ref (ad 0)), (1, .int p0)]) C0.x C0.b dX7_lay_50 rfl hl (by decide) rfl (fun ls hl => ?_)
          obtain ⟨n51, hV⟩ := hV
          exact lp_X7_lay_51  _ _ post C0  n51 _ _ hV _ _ hw _ (lv_sub hl [2, 3, 1, 0] rfl)
        · have hV := hV.2 c8
          refine lv_iconst (v := -1) C0.x C0.b dX7_lay_29 (by decide) ?_
          exact r_iret C0 rfl hw hV dX7_lay_30
/-! StepBench.seal()I -/
abbrev rm_X7_seal : Room := { frames := 6, cells := 1, slots := 6, locals := 110 }
set_option maxRecDepth 20000 in
theorem fw_X7_seal_20 : Cond.fieldLink RX7 20 "StepBench" "drafted" "LStepBench$Shares;" ∈ wsX7_seal := by decide +kernel
set_option maxRecDepth 20000 in
theorem iw_X7_seal_X7 : ∀ w ∈ wsX70, w ∈ wsX7_seal := by decide +kernel
set_option maxRecDepth 20000 in
theorem tk_X7_seal_122 : Cond.classLink RX7 122 "java/lang/IllegalStateException" ∈ wsX7_seal := by decide +kernel
set_option maxRecDepth 20000 in
theorem ti_X7_seal_122 : Cond.initialized "java/lang/IllegalStateException" ∈ wsX7_seal := by decide +kernel
set_option maxRecDepth 20000 in
theorem th_X7_seal_126 : ∀ w ∈ (vx_atS RX7 126 "java/lang/IllegalStateException" exN).filter goodWord, w ∈ wsX7_seal := by decide +kernel
set_option maxRecDepth 20000 in
theorem fw_X7_seal_16 : Cond.fieldLink RX7 16 "StepBench" "rule" "LStepBench$Shares;" ∈ wsX7_seal := by decide +kernel
set_option maxRecDepth 20000 in
theorem fw_X7_seal_9 : Cond.fieldLink RX7 9 "StepBench" "ruleKind" "I" ∈ wsX7_seal := by decide +kernel
set_option maxRecDepth 20000 in
theorem hd_X7_seal : yX7_seal.cls = RX7 ∧ yX7_seal.cls ≠ "java/lang/invoke/MethodHandle" ∧ yX7_seal.cls ≠ "java/lang/invoke/VarHandle" ∧ (parseMethodDescriptor yX7_seal.desc).map (fun d => d.parameters.length) = some 0 := by decide +kernel
def V_X7_seal   (S : SS) (post : Int32 → SS → Prop) (px : String → SS → Prop) : Prop :=
  (V_X5_measure 2 3 4 5 S (fun (r1 : Int32) (S2 : SS) => ((r1 = 0 → (px "java/lang/IllegalStateException" S2)) ∧ (¬ r1 = 0 → (V_X5_firstUnsound 2 3 4 5 S2 (fun (r4 : Int32) (S5 : SS) => ((r4 < 0 → (V_X5_become 1 0 1 2 2 3 4 5 S5 (fun (S8 : SS) => (V_X5_drop 2 3 4 5 S8 (fun (S10 : SS) => (∀ S11 : SS, S11 = (sI S10 0 (1 : Int32)) → (post (0 : Int32) S11))))))) ∧ (¬ r4 < 0 → (post ((-1 : Int32) - r4) S5)))))))))
set_option maxHeartbeats 4000000 in
set_option maxRecDepth 100000 in
theorem c_X7_seal (hlt : l.stackTraces = false)  {S : SS}  {post : Int32 → SS → Prop} {px : String → SS → Prop} (hV : V_X7_seal   S post px) : XI l yX7_seal wsX7_seal rm_X7_seal [.ref (ad 0)] D n0 ad cI cJ X S post px 1 6 := by
  refine vx_ofW (cc := cX7_seal) (maxL := 2) (ret := (some .int)) (by decide) rfl ?_
  intro p e s m args below meth c s₁ B hml ht hv
  obtain ⟨rfl, hv⟩ := hv
  have C0 := Bd.mk B hml (atoms_spec (ws := wsX7_seal) B.pre) (findClass_of_methodNamed B.named) hv.1
  have hw : Wh D n0 ad cI cJ X S s s.heap [] := ⟨hv.2.1, hv.2.2, va_S.rf⟩
  refine r_entry (Nat.le_of_ble_eq_true rfl) (fun ls hl => ?_)
  have hl : lv_has ls 2 [(0, .ref (ad 0))] := hl
  unfold V_X7_seal at hV
  refine lv_aload_n C0.x C0.b dX7_seal_0 rfl (lv_at hl 0 rfl) ?_
  refine r_get C0 hw (C := RX7) (T := TX7) (N := 15) (v := .ref (ad 5)) iw_X7_seal_X7 (lg_0 ad cI cJ X S) rfl 2 (by decide) (C0.ts _ fw_X7_seal_20) rfl dX7_seal_1 ?_
  refine r_cV_i (As := []) (rest := []) C0 hw (c_X5_measure (ln_5 ad cI cJ X) hV) (cwV 0 C0.ts gX7_seal_X5_measure rfl rfl rfl hd_X5_measure ⟨Nat.le_of_ble_eq_true rfl, Nat.le_of_ble_eq_true rfl⟩) (lg_5 ad cI cJ X S) rfl rfl hl.1 rfl (Nat.le_of_ble_eq_true rfl) ⟨Nat.le_of_ble_eq_true rfl, Nat.le_of_ble_eq_true rfl⟩ dX7_seal_4 (fun r1 S2 H locs hV hw => ?_)
  refine lv_if_ne (tgt := 20) C0.x C0.b dX7_seal_7 (by decide) (fun c3 => ?_) (fun c3 => ?_)
  · have hV := hV.2 c3
    refine lv_aload_n C0.x C0.b dX7_seal_20 rfl (lv_at hl 0 rfl) ?_
    refine r_get C0 hw (C := RX7) (T := TX7) (N := 15) (v := .ref (ad 5)) iw_X7_seal_X7 (lg_0 ad cI cJ X S2) rfl 2 (by decide) (C0.ts _ fw_X7_seal_20) rfl dX7_seal_21 ?_
    refine r_cV_i (As := []) (rest := []) C0 hw (c_X5_firstUnsound (ln_5 ad cI cJ X) hV) (cwV 0 C0.ts gX7_seal_X5_firstUnsound rfl rfl rfl hd_X5_firstUnsound ⟨Nat.le_of_ble_eq_true rfl, Nat.le_of_ble_eq_true rfl⟩) (lg_5 ad cI cJ X S2) rfl rfl hl.1 rfl (Nat.le_of_ble_eq_true rfl) ⟨Nat.le_of_ble_eq_true rfl, Nat.le_of_ble_eq_true rfl⟩ dX7_seal_24 (fun r4 S5 H locs hV hw => ?_)
    refine lv_istore_n (lv' := [(1, .int r4), (0, .ref (ad 0))]) C0.x C0.b dX7_seal_27 rfl hl (by decide) rfl (fun ls hl => ?_)
    refine lv_iload_n C0.x C0.b dX7_seal_28 rfl (lv_at hl 0 rfl) ?_
    refine lv_if_lt (tgt := 36) C0.x C0.b dX7_seal_29 (by decide) (fun c6 => ?_) (fun c6 => ?_)
    · have hV := hV.1 c6
      refine lv_aload_n C0.x C0.b dX7_seal_36 rfl (lv_at hl 1 rfl) ?_
      refine r_get C0 hw (C := RX7) (T := TX7) (N := 15) (v := .ref (ad 1)) iw_X7_seal_X7 (lg_0 ad cI cJ X S5) rfl 1 (by decide) (C0.ts _ fw_X7_seal_16) rfl dX7_seal_37 ?_
      refine lv_aload_n C0.x C0.b dX7_seal_40 rfl (lv_at hl 1 rfl) ?_
      refine r_get C0 hw (C := RX7) (T := TX7) (N := 15) (v := .ref (ad 5)) iw_X7_seal_X7 (lg_0 ad cI cJ X S5) rfl 2 (by decide) (C0.ts _ fw_X7_seal_20) rfl dX7_seal_41 ?_
      refine r_cV_v (As := [.ref (ad 5)]) (rest := []) C0 hw (c_X5_become (ln_1 ad cI cJ X) (ln_5 ad cI cJ X) hV) (cwV 1 C0.ts gX7_seal_X5_become rfl rfl rfl hd_X5_become ⟨Nat.le_of_ble_eq_true rfl, Nat.le_of_ble_eq_true rfl⟩) (lg_1 ad cI cJ X S5) rfl rfl hl.1 rfl (Nat.le_of_ble_eq_true rfl) ⟨Nat.le_of_ble_eq_true rfl, Nat.le_of_ble_eq_true rfl⟩ dX7_seal_44 (fun S8 H locs hV hw => ?_)
      refine lv_aload_n C0.x C0.b dX7_seal_47 rfl (lv_at hl 1 rfl) ?_
      refine r_get C0 hw (C := RX7) (T := TX7) (N := 15) (v := .ref (ad 5)) iw_X7_seal_X7 (lg_0 ad cI cJ X S8) rfl 2 (by decide) (C0.ts _ fw_X7_seal_20) rfl dX7_seal_48 ?_
      refine r_cV_v (As := []) (rest := []) C0 hw (c_X5_drop (ln_5 ad cI cJ X) hV) (cwV 0 C0.ts gX7_seal_X5_drop rfl rfl rfl hd_X5_drop ⟨Nat.le_of_ble_eq_true rfl, Nat.le_of_ble_eq_true rfl⟩) (lg_5 ad cI cJ X S8) rfl rfl hl.1 rfl (Nat.le_of_ble_eq_true rfl) ⟨Nat.le_of_ble_eq_true rfl, Nat.le_of_ble_eq_true rfl⟩ dX7_seal_51 (fun S10 H locs hV hw => ?_)
      refine lv_aload_n C0.x C0.b dX7_seal_54 rfl (lv_at hl 1 rfl) ?_
      refine lv_iconst (v := 1) C0.x C0.b dX7_seal_55 (by decide) ?_
      refine r_put C0 hw (C := RX7) (T := TX7) (N := 15) (ty := .int) iw_X7_seal_X7 tyX7 tyX7_ok nmX7 (lg_0 ad cI cJ X S10) rfl 0 (by decide) (C0.ts _ fw_X7_seal_9) rfl (by decide +kernel) rfl rfl (Nat.le_of_ble_eq_true rfl) dX7_seal_56 (S' := (sI S10 0 (1 : Int32))) (ls_0_0 ad cI cJ X S10 (1 : Int32)) (fun S11 H locs eS11 hw => ?_)
      have hV := hV S11 eS11
      refine lv_iconst (v := 0) C0.x C0.b dX7_seal_59 (by decide) ?_
      exact r_xret (Nat.le_of_ble_eq_true rfl) (Nat.le_of_ble_eq_true rfl) (r_iret C0 rfl hw hV dX7_seal_60)
    · have hV := hV.2 c6
      refine lv_iconst (v := -1) C0.x C0.b dX7_seal_32 (by decide) ?_
      refine lv_iload_n C0.x C0.b dX7_seal_33 rfl (lv_at hl 0 rfl) ?_
      refine lv_isub C0.x C0.b dX7_seal_34 ?_
      exact r_xret (Nat.le_of_ble_eq_true rfl) (Nat.le_of_ble_eq_true rfl) (r_iret C0 rfl hw hV dX7_seal_35)
  · have hV := hV.1 c3
    exact r_thr (cls := "java/lang/IllegalStateException") (text := "no draft") C0 hlt ht hw (by decide) (by decide +kernel) (C0.ts _ tk_X7_seal_122) (C0.ts _ ti_X7_seal_122) (by decide +kernel) th_X7_seal_126 hg_126 ho_126 hl.1 dX7_seal_10 dX7_seal_13 dX7_seal_14 dX7_seal_16 dX7_seal_19 (Nat.le_of_ble_eq_true rfl) (Nat.le_of_ble_eq_true rfl) (Nat.le_of_ble_eq_true rfl) (Nat.le_of_ble_eq_true rfl) (Nat.le_of_ble_eq_true rfl) (Nat.le_of_ble_eq_true rfl) hV
/-! StepBench.list()Z -/
abbrev rm_X7_list : Room := { frames := 1, cells := 0, slots := 0, locals := 20 }
set_option maxRecDepth 20000 in
theorem fw_X7_list_29 : Cond.fieldLink RX7 29 "StepBench" "fractions" "LStepBench$Fractions;" ∈ wsX7_list := by decide +kernel
set_option maxRecDepth 20000 in
theorem iw_X7_list_X7 : ∀ w ∈ wsX70, w ∈ wsX7_list := by decide +kernel
set_option maxRecDepth 20000 in
theorem fw_X7_list_9 : Cond.fieldLink RX7 9 "StepBench" "ruleKind" "I" ∈ wsX7_list := by decide +kernel
set_option maxRecDepth 20000 in
theorem hd_X7_list : yX7_list.cls = RX7 ∧ yX7_list.cls ≠ "java/lang/invoke/MethodHandle" ∧ yX7_list.cls ≠ "java/lang/invoke/VarHandle" ∧ (parseMethodDescriptor yX7_list.desc).map (fun d => d.parameters.length) = some 0 := by decide +kernel
def V_X7_list   (S : SS) (post : Int32 → SS → Prop) : Prop :=
  (V_X0_empty  S (fun (S2 : SS) => (∀ S3 : SS, S3 = (sI S2 0 (2 : Int32)) → (post (1 : Int32) S3))))
set_option maxHeartbeats 4000000 in
set_option maxRecDepth 100000 in
theorem c_X7_list  {S : SS}  {post : Int32 → SS → Prop} (hV : V_X7_list   S post) : MI l yX7_list wsX7_list rm_X7_list [.ref (ad 0)] D n0 ad cI cJ X S post := by
  refine Met.ofW (cc := cX7_list) (maxL := 1) (ret := (some .boolean)) (by decide) rfl ?_
  intro p e s m args below meth c s₁ B hml hv
  obtain ⟨rfl, hv⟩ := hv
  have C0 := Bd.mk B hml (atoms_spec (ws := wsX7_list) B.pre) (findClass_of_methodNamed B.named) hv.1
  have hw : Wh D n0 ad cI cJ X S s s.heap [] := ⟨hv.2.1, hv.2.2, va_S.rf⟩
  refine r_entry (Nat.le_of_ble_eq_true rfl) (fun ls hl => ?_)
  have hl : lv_has ls 1 [(0, .ref (ad 0))] := hl
  unfold V_X7_list at hV
  refine lv_aload_n C0.x C0.b dX7_list_0 rfl (lv_at hl 0 rfl) ?_
  refine r_get C0 hw (C := RX7) (T := TX7) (N := 15) (v := .ref (ad 13)) iw_X7_list_X7 (lg_0 ad cI cJ X S) rfl 4 (by decide) (C0.ts _ fw_X7_list_29) rfl dX7_list_1 ?_
  refine r_cV_v (As := []) (rest := []) C0 hw (c_X0_empty  hV) (cwV 0 C0.ts gX7_list_X0_empty rfl rfl rfl hd_X0_empty ⟨Nat.le_of_ble_eq_true rfl, Nat.le_of_ble_eq_true rfl⟩) (lg_13 ad cI cJ X S) rfl rfl hl.1 rfl (Nat.le_of_ble_eq_true rfl) ⟨Nat.le_of_ble_eq_true rfl, Nat.le_of_ble_eq_true rfl⟩ dX7_list_4 (fun S2 H locs hV hw => ?_)
  refine lv_aload_n C0.x C0.b dX7_list_7 rfl (lv_at hl 0 rfl) ?_
  refine lv_iconst (v := 2) C0.x C0.b dX7_list_8 (by decide) ?_
  refine r_put C0 hw (C := RX7) (T := TX7) (N := 15) (ty := .int) iw_X7_list_X7 tyX7 tyX7_ok nmX7 (lg_0 ad cI cJ X S2) rfl 0 (by decide) (C0.ts _ fw_X7_list_9) rfl (by decide +kernel) rfl rfl (Nat.le_of_ble_eq_true rfl) dX7_list_9 (S' := (sI S2 0 (2 : Int32))) (ls_0_0 ad cI cJ X S2 (2 : Int32)) (fun S3 H locs eS3 hw => ?_)
  have hV := hV S3 eS3
  refine lv_iconst (v := 1) C0.x C0.b dX7_list_12 (by decide) ?_
  exact r_zret C0 rfl bz_1 hw hV dX7_list_13
/-! StepBench.fraction(JJ)I -/
abbrev rm_X7_fraction : Room := { frames := 3, cells := 0, slots := 0, locals := 80 }
set_option maxRecDepth 20000 in
theorem fw_X7_fraction_9 : Cond.fieldLink RX7 9 "StepBench" "ruleKind" "I" ∈ wsX7_fraction := by decide +kernel
set_option maxRecDepth 20000 in
theorem iw_X7_fraction_X7 : ∀ w ∈ wsX70, w ∈ wsX7_fraction := by decide +kernel
set_option maxRecDepth 20000 in
theorem cw_X7_fraction_140 : Cond.constantLong RX7 140 1000000000 ∈ wsX7_fraction := by decide +kernel
set_option maxRecDepth 20000 in
theorem fw_X7_fraction_29 : Cond.fieldLink RX7 29 "StepBench" "fractions" "LStepBench$Fractions;" ∈ wsX7_fraction := by decide +kernel
set_option maxRecDepth 20000 in
theorem hd_X7_fraction : yX7_fraction.cls = RX7 ∧ yX7_fraction.cls ≠ "java/lang/invoke/MethodHandle" ∧ yX7_fraction.cls ≠ "java/lang/invoke/VarHandle" ∧ (parseMethodDescriptor yX7_fraction.desc).map (fun d => d.parameters.length) = some 2 := by decide +kernel
def V_X7_fraction  (p0 : Int64) (p1 : Int64) (S : SS) (post : Int32 → SS → Prop) : Prop :=
  (((gI S 0) = (2 : Int32) → ((p0 < (1 : Int64) → (post (-1 : Int32) S)) ∧ (¬ p0 < (1 : Int64) → (((1000000000 : Int64) < p0 → (post (-1 : Int32) S)) ∧ (¬ (1000000000 : Int64) < p0 → ((p1 < (1 : Int64) → (post (-1 : Int32) S)) ∧ (¬ p1 < (1 : Int64) → ((p1 ≤ (1000000000 : Int64) → (V_X0_add p0 p1 S (fun (r6 : Int32) (S7 : SS) => ((r6 = 0 → (post (-1 : Int32) S7)) ∧ (¬ r6 = 0 → (V_X0_size  S7 (fun (r9 : Int32) (S10 : SS) => (post r9 S10)))))))) ∧ (¬ p1 ≤ (1000000000 : Int64) → (post (-1 : Int32) S)))))))))) ∧ (¬ (gI S 0) = (2 : Int32) → (post (-1 : Int32) S)))
set_option maxHeartbeats 4000000 in
set_option maxRecDepth 100000 in
theorem c_X7_fraction  {S : SS} {p0 : Int64} {p1 : Int64} {post : Int32 → SS → Prop} (hV : V_X7_fraction  p0 p1 S post) : MI l yX7_fraction wsX7_fraction rm_X7_fraction [.ref (ad 0), .long p0, .long p1] D n0 ad cI cJ X S post := by
  refine Met.ofW (cc := cX7_fraction) (maxL := 5) (ret := (some .int)) (by decide) rfl ?_
  intro p e s m args below meth c s₁ B hml hv
  obtain ⟨rfl, hv⟩ := hv
  have C0 := Bd.mk B hml (atoms_spec (ws := wsX7_fraction) B.pre) (findClass_of_methodNamed B.named) hv.1
  have hw : Wh D n0 ad cI cJ X S s s.heap [] := ⟨hv.2.1, hv.2.2, va_S.rf⟩
  refine r_entry (Nat.le_of_ble_eq_true rfl) (fun ls hl => ?_)
  have hl : lv_has ls 5 [(0, .ref (ad 0)), (1, .long p0), (3, .long p1)] := hl
  unfold V_X7_fraction at hV
  refine lv_aload_n C0.x C0.b dX7_fraction_0 rfl (lv_at hl 0 rfl) ?_
  refine r_get C0 hw (C := RX7) (T := TX7) (N := 15) (v := .int (gI S 0)) iw_X7_fraction_X7 (lg_0 ad cI cJ X S) rfl 0 (by decide) (C0.ts _ fw_X7_fraction_9) rfl dX7_fraction_1 ?_
  refine lv_iconst (v := 2) C0.x C0.b dX7_fraction_4 (by decide) ?_
  refine lv_icmp_ne (tgt := 36) C0.x C0.b dX7_fraction_5 (by decide) (fun c1 => ?_) (fun c1 => ?_)
  · have hV := hV.2 c1
    refine lv_iconst (v := -1) C0.x C0.b dX7_fraction_36 (by decide) ?_
    exact r_iret C0 rfl hw hV dX7_fraction_37
  · have hV := hV.1 c1
    refine lv_lload_n C0.x C0.b dX7_fraction_8 rfl (lv_at hl 1 rfl) ?_
    refine lv_lconst (v := 1) C0.x C0.b dX7_fraction_9 (by decide) ?_
    refine r_lcmp C0 dX7_fraction_10 ?_
    refine lv_if_lt (tgt := 36) C0.x C0.b dX7_fraction_11 (by decide) (fun c2 => ?_) (fun c2 => ?_)
    · have hV := hV.1 ((lc_lt _ _).mp c2)
      refine lv_iconst (v := -1) C0.x C0.b dX7_fraction_36 (by decide) ?_
      exact r_iret C0 rfl hw hV dX7_fraction_37
    · have hV := hV.2 (fun h => c2 ((lc_lt _ _).mpr h))
      refine lv_lload_n C0.x C0.b dX7_fraction_14 rfl (lv_at hl 1 rfl) ?_
      refine lv_ldc2 (v := 1000000000) C0.x C0.b C0.ow (C0.ts _ cw_X7_fraction_140) dX7_fraction_15 ?_
      refine r_lcmp C0 dX7_fraction_18 ?_
      refine lv_if_gt (tgt := 36) C0.x C0.b dX7_fraction_19 (by decide) (fun c3 => ?_) (fun c3 => ?_)
      · have hV := hV.1 ((lc_gt _ _).mp c3)
        refine lv_iconst (v := -1) C0.x C0.b dX7_fraction_36 (by decide) ?_
        exact r_iret C0 rfl hw hV dX7_fraction_37
      · have hV := hV.2 (fun h => c3 ((lc_gt _ _).mpr h))
        refine lv_lload_n C0.x C0.b dX7_fraction_22 rfl (lv_at hl 2 rfl) ?_
        refine lv_lconst (v := 1) C0.x C0.b dX7_fraction_23 (by decide) ?_
        refine r_lcmp C0 dX7_fraction_24 ?_
        refine lv_if_lt (tgt := 36) C0.x C0.b dX7_fraction_25 (by decide) (fun c4 => ?_) (fun c4 => ?_)
        · have hV := hV.1 ((lc_lt _ _).mp c4)
          refine lv_iconst (v := -1) C0.x C0.b dX7_fraction_36 (by decide) ?_
          exact r_iret C0 rfl hw hV dX7_fraction_37
        · have hV := hV.2 (fun h => c4 ((lc_lt _ _).mpr h))
          refine lv_lload_n C0.x C0.b dX7_fraction_28 rfl (lv_at hl 2 rfl) ?_
          refine lv_ldc2 (v := 1000000000) C0.x C0.b C0.ow (C0.ts _ cw_X7_fraction_140) dX7_fraction_29 ?_
          refine r_lcmp C0 dX7_fraction_32 ?_
          refine lv_if_le (tgt := 38) C0.x C0.b dX7_fraction_33 (by decide) (fun c5 => ?_) (fun c5 => ?_)
          · have hV := hV.1 ((lc_le _ _).mp c5)
            refine lv_aload_n C0.x C0.b dX7_fraction_38 rfl (lv_at hl 0 rfl) ?_
            refine r_get C0 hw (C := RX7) (T := TX7) (N := 15) (v := .ref (ad 13)) iw_X7_fraction_X7 (lg_0 ad cI cJ X S) rfl 4 (by decide) (C0.ts _ fw_X7_fraction_29) rfl dX7_fraction_39 ?_
            refine lv_lload_n C0.x C0.b dX7_fraction_42 rfl (lv_at hl 1 rfl) ?_
            refine lv_lload_n C0.x C0.b dX7_fraction_43 rfl (lv_at hl 2 rfl) ?_
            refine r_cV_i (As := [.long p0, .long p1]) (rest := []) C0 hw (c_X0_add  hV) (cwV 2 C0.ts gX7_fraction_X0_add rfl rfl rfl hd_X0_add ⟨Nat.le_of_ble_eq_true rfl, Nat.le_of_ble_eq_true rfl⟩) (lg_13 ad cI cJ X S) rfl rfl hl.1 rfl (Nat.le_of_ble_eq_true rfl) ⟨Nat.le_of_ble_eq_true rfl, Nat.le_of_ble_eq_true rfl⟩ dX7_fraction_44 (fun r6 S7 H locs hV hw => ?_)
            refine lv_if_eq (tgt := 60) C0.x C0.b dX7_fraction_47 (by decide) (fun c8 => ?_) (fun c8 => ?_)
            · have hV := hV.1 c8
              refine lv_iconst (v := -1) C0.x C0.b dX7_fraction_60 (by decide) ?_
              exact r_iret C0 rfl hw hV dX7_fraction_61
            · have hV := hV.2 c8
              refine lv_aload_n C0.x C0.b dX7_fraction_50 rfl (lv_at hl 0 rfl) ?_
              refine r_get C0 hw (C := RX7) (T := TX7) (N := 15) (v := .ref (ad 13)) iw_X7_fraction_X7 (lg_0 ad cI cJ X S7) rfl 4 (by decide) (C0.ts _ fw_X7_fraction_29) rfl dX7_fraction_51 ?_
              refine r_cV_i (As := []) (rest := []) C0 hw (c_X0_size  hV) (cwV 0 C0.ts gX7_fraction_X0_size rfl rfl rfl hd_X0_size ⟨Nat.le_of_ble_eq_true rfl, Nat.le_of_ble_eq_true rfl⟩) (lg_13 ad cI cJ X S7) rfl rfl hl.1 rfl (Nat.le_of_ble_eq_true rfl) ⟨Nat.le_of_ble_eq_true rfl, Nat.le_of_ble_eq_true rfl⟩ dX7_fraction_54 (fun r9 S10 H locs hV hw => ?_)
              refine lv_goto (tgt := 61) C0.x C0.b dX7_fraction_57 (by decide) ?_
              exact r_iret C0 rfl hw hV dX7_fraction_61
          · have hV := hV.2 (fun h => c5 ((lc_le _ _).mpr h))
            refine lv_iconst (v := -1) C0.x C0.b dX7_fraction_36 (by decide) ?_
            exact r_iret C0 rfl hw hV dX7_fraction_37
/-! StepBench.count(I)I -/
abbrev rm_X7_count : Room := { frames := 2, cells := 0, slots := 0, locals := 40 }
set_option maxRecDepth 20000 in
theorem fw_X7_count_9 : Cond.fieldLink RX7 9 "StepBench" "ruleKind" "I" ∈ wsX7_count := by decide +kernel
set_option maxRecDepth 20000 in
theorem iw_X7_count_X7 : ∀ w ∈ wsX70, w ∈ wsX7_count := by decide +kernel
set_option maxRecDepth 20000 in
theorem fw_X7_count_16 : Cond.fieldLink RX7 16 "StepBench" "rule" "LStepBench$Shares;" ∈ wsX7_count := by decide +kernel
set_option maxRecDepth 20000 in
theorem fw_X7_count_29 : Cond.fieldLink RX7 29 "StepBench" "fractions" "LStepBench$Fractions;" ∈ wsX7_count := by decide +kernel
set_option maxRecDepth 20000 in
theorem fw_X7_count_45 : Cond.fieldLink RX7 45 "StepBench" "numbers" "LStepBench$Numbers;" ∈ wsX7_count := by decide +kernel
set_option maxRecDepth 20000 in
theorem fw_X7_count_55 : Cond.fieldLink RX7 55 "StepBench" "theWord" "LStepBench$Numbers;" ∈ wsX7_count := by decide +kernel
set_option maxRecDepth 20000 in
theorem fw_X7_count_81 : Cond.fieldLink RX7 81 "StepBench" "machine" "LStepBench$Machine;" ∈ wsX7_count := by decide +kernel
set_option maxRecDepth 20000 in
theorem fw_X7_count_36 : Cond.fieldLink RX7 36 "StepBench" "laid" "LStepBench$Sheet;" ∈ wsX7_count := by decide +kernel
set_option maxRecDepth 20000 in
theorem hd_X7_count : yX7_count.cls = RX7 ∧ yX7_count.cls ≠ "java/lang/invoke/MethodHandle" ∧ yX7_count.cls ≠ "java/lang/invoke/VarHandle" ∧ (parseMethodDescriptor yX7_count.desc).map (fun d => d.parameters.length) = some 1 := by decide +kernel
def V_X7_count  (p0 : Int32) (S : SS) (post : Int32 → SS → Prop) : Prop :=
  ((p0 = 0 → (post (gI S 0) S)) ∧ (p0 = 1 → (((gI S 0) = (1 : Int32) → (V_X5_measure 1 0 1 2 S (fun (r2 : Int32) (S3 : SS) => (post r2 S3)))) ∧ (¬ (gI S 0) = (1 : Int32) → (post (0 : Int32) S)))) ∧ (p0 = 2 → (((gI S 0) = (2 : Int32) → (V_X0_size  S (fun (r5 : Int32) (S6 : SS) => (post r5 S6)))) ∧ (¬ (gI S 0) = (2 : Int32) → (post (0 : Int32) S)))) ∧ (p0 = 3 → (V_X2_size 7 12 1000 S (fun (r7 : Int32) (S8 : SS) => (post r7 S8)))) ∧ (p0 = 4 → (V_X2_size 10 15 40 S (fun (r9 : Int32) (S10 : SS) => (post r9 S10)))) ∧ (p0 = 5 → (V_X1_size  S (fun (r11 : Int32) (S12 : SS) => (post r11 S12)))) ∧ (p0 = 6 → (V_X6_isThere  S (fun (r13 : Int32) (S14 : SS) => ((r13 = 0 → (post (-1 : Int32) S14)) ∧ (¬ r13 = 0 → (V_X6_entries  S14 (fun (r16 : Int32) (S17 : SS) => (post r16 S17)))))))) ∧ ((p0.toInt < 0 ∨ 6 < p0.toInt) → (post (-1 : Int32) S)))
set_option maxHeartbeats 4000000 in
set_option maxRecDepth 100000 in
theorem c_X7_count  {S : SS} {p0 : Int32} {post : Int32 → SS → Prop} (hV : V_X7_count  p0 S post) : MI l yX7_count wsX7_count rm_X7_count [.ref (ad 0), .int p0] D n0 ad cI cJ X S post := by
  refine Met.ofW (cc := cX7_count) (maxL := 2) (ret := (some .int)) (by decide) rfl ?_
  intro p e s m args below meth c s₁ B hml hv
  obtain ⟨rfl, hv⟩ := hv
  have C0 := Bd.mk B hml (atoms_spec (ws := wsX7_count) B.pre) (findClass_of_methodNamed B.named) hv.1
  have hw : Wh D n0 ad cI cJ X S s s.heap [] := ⟨hv.2.1, hv.2.2, va_S.rf⟩
  refine r_entry (Nat.le_of_ble_eq_true rfl) (fun ls hl => ?_)
  have hl : lv_has ls 2 [(0, .ref (ad 0)), (1, .int p0)] := hl
  unfold V_X7_count at hV
  refine lv_iload_n C0.x C0.b dX7_count_0 rfl (lv_at hl 1 rfl) ?_
  by_cases hsw : p0.toInt < 0 ∨ 6 < p0.toInt
  · refine lv_tableOut (tgt := 135) C0.x C0.b dX7_count_1 hsw (by decide) ?_
    have hV := hV.2.2.2.2.2.2.2 hsw
    refine lv_iconst (v := -1) C0.x C0.b dX7_count_135 (by decide) ?_
    exact r_iret C0 rfl hw hV dX7_count_136
  · obtain ⟨k, hk, ek⟩ := sw_of hsw
    have hk : k = 0 ∨ k = 1 ∨ k = 2 ∨ k = 3 ∨ k = 4 ∨ k = 5 ∨ k = 6 := by omega
    rcases hk with rfl | rfl | rfl | rfl | rfl | rfl | rfl
    · have ek : p0 = 0 := ek
      have hV := hV.1 ek
      refine lv_tableIn (tgt := 44) C0.x C0.b dX7_count_1 (by rw [ek]; decide) (by rw [ek]; decide) (by rw [ek]; rfl) (by decide) ?_
      refine lv_aload_n C0.x C0.b dX7_count_44 rfl (lv_at hl 0 rfl) ?_
      refine r_get C0 hw (C := RX7) (T := TX7) (N := 15) (v := .int (gI S 0)) iw_X7_count_X7 (lg_0 ad cI cJ X S) rfl 0 (by decide) (C0.ts _ fw_X7_count_9) rfl dX7_count_45 ?_
      exact r_iret C0 rfl hw hV dX7_count_48
    · have ek : p0 = 1 := ek
      have hV := hV.2.1 ek
      refine lv_tableIn (tgt := 49) C0.x C0.b dX7_count_1 (by rw [ek]; decide) (by rw [ek]; decide) (by rw [ek]; rfl) (by decide) ?_
      refine lv_aload_n C0.x C0.b dX7_count_49 rfl (lv_at hl 0 rfl) ?_
      refine r_get C0 hw (C := RX7) (T := TX7) (N := 15) (v := .int (gI S 0)) iw_X7_count_X7 (lg_0 ad cI cJ X S) rfl 0 (by decide) (C0.ts _ fw_X7_count_9) rfl dX7_count_50 ?_
      refine lv_iconst (v := 1) C0.x C0.b dX7_count_53 (by decide) ?_
      refine lv_icmp_ne (tgt := 67) C0.x C0.b dX7_count_54 (by decide) (fun c1 => ?_) (fun c1 => ?_)
      · have hV := hV.2 c1
        refine lv_iconst (v := 0) C0.x C0.b dX7_count_67 (by decide) ?_
        exact r_iret C0 rfl hw hV dX7_count_68
      · have hV := hV.1 c1
        refine lv_aload_n C0.x C0.b dX7_count_57 rfl (lv_at hl 0 rfl) ?_
        refine r_get C0 hw (C := RX7) (T := TX7) (N := 15) (v := .ref (ad 1)) iw_X7_count_X7 (lg_0 ad cI cJ X S) rfl 1 (by decide) (C0.ts _ fw_X7_count_16) rfl dX7_count_58 ?_
        refine r_cV_i (As := []) (rest := []) C0 hw (c_X5_measure (ln_1 ad cI cJ X) hV) (cwV 0 C0.ts gX7_count_X5_measure rfl rfl rfl hd_X5_measure ⟨Nat.le_of_ble_eq_true rfl, Nat.le_of_ble_eq_true rfl⟩) (lg_1 ad cI cJ X S) rfl rfl hl.1 rfl (Nat.le_of_ble_eq_true rfl) ⟨Nat.le_of_ble_eq_true rfl, Nat.le_of_ble_eq_true rfl⟩ dX7_count_61 (fun r2 S3 H locs hV hw => ?_)
        refine lv_goto (tgt := 68) C0.x C0.b dX7_count_64 (by decide) ?_
        exact r_iret C0 rfl hw hV dX7_count_68
    · have ek : p0 = 2 := ek
      have hV := hV.2.2.1 ek
      refine lv_tableIn (tgt := 69) C0.x C0.b dX7_count_1 (by rw [ek]; decide) (by rw [ek]; decide) (by rw [ek]; rfl) (by decide) ?_
      refine lv_aload_n C0.x C0.b dX7_count_69 rfl (lv_at hl 0 rfl) ?_
      refine r_get C0 hw (C := RX7) (T := TX7) (N := 15) (v := .int (gI S 0)) iw_X7_count_X7 (lg_0 ad cI cJ X S) rfl 0 (by decide) (C0.ts _ fw_X7_count_9) rfl dX7_count_70 ?_
      refine lv_iconst (v := 2) C0.x C0.b dX7_count_73 (by decide) ?_
      refine lv_icmp_ne (tgt := 87) C0.x C0.b dX7_count_74 (by decide) (fun c4 => ?_) (fun c4 => ?_)
      · have hV := hV.2 c4
        refine lv_iconst (v := 0) C0.x C0.b dX7_count_87 (by decide) ?_
        exact r_iret C0 rfl hw hV dX7_count_88
      · have hV := hV.1 c4
        refine lv_aload_n C0.x C0.b dX7_count_77 rfl (lv_at hl 0 rfl) ?_
        refine r_get C0 hw (C := RX7) (T := TX7) (N := 15) (v := .ref (ad 13)) iw_X7_count_X7 (lg_0 ad cI cJ X S) rfl 4 (by decide) (C0.ts _ fw_X7_count_29) rfl dX7_count_78 ?_
        refine r_cV_i (As := []) (rest := []) C0 hw (c_X0_size  hV) (cwV 0 C0.ts gX7_count_X0_size rfl rfl rfl hd_X0_size ⟨Nat.le_of_ble_eq_true rfl, Nat.le_of_ble_eq_true rfl⟩) (lg_13 ad cI cJ X S) rfl rfl hl.1 rfl (Nat.le_of_ble_eq_true rfl) ⟨Nat.le_of_ble_eq_true rfl, Nat.le_of_ble_eq_true rfl⟩ dX7_count_81 (fun r5 S6 H locs hV hw => ?_)
        refine lv_goto (tgt := 88) C0.x C0.b dX7_count_84 (by decide) ?_
        exact r_iret C0 rfl hw hV dX7_count_88
    · have ek : p0 = 3 := ek
      have hV := hV.2.2.2.1 ek
      refine lv_tableIn (tgt := 89) C0.x C0.b dX7_count_1 (by rw [ek]; decide) (by rw [ek]; decide) (by rw [ek]; rfl) (by decide) ?_
      refine lv_aload_n C0.x C0.b dX7_count_89 rfl (lv_at hl 0 rfl) ?_
      refine r_get C0 hw (C := RX7) (T := TX7) (N := 15) (v := .ref (ad 19)) iw_X7_count_X7 (lg_0 ad cI cJ X S) rfl 6 (by decide) (C0.ts _ fw_X7_count_45) rfl dX7_count_90 ?_
      refine r_cV_i (As := []) (rest := []) C0 hw (c_X2_size (ln_19 ad cI cJ X) hV) (cwV 0 C0.ts gX7_count_X2_size rfl rfl rfl hd_X2_size ⟨Nat.le_of_ble_eq_true rfl, Nat.le_of_ble_eq_true rfl⟩) (lg_19 ad cI cJ X S) rfl rfl hl.1 rfl (Nat.le_of_ble_eq_true rfl) ⟨Nat.le_of_ble_eq_true rfl, Nat.le_of_ble_eq_true rfl⟩ dX7_count_93 (fun r7 S8 H locs hV hw => ?_)
      exact r_iret C0 rfl hw hV dX7_count_96
    · have ek : p0 = 4 := ek
      have hV := hV.2.2.2.2.1 ek
      refine lv_tableIn (tgt := 97) C0.x C0.b dX7_count_1 (by rw [ek]; decide) (by rw [ek]; decide) (by rw [ek]; rfl) (by decide) ?_
      refine lv_aload_n C0.x C0.b dX7_count_97 rfl (lv_at hl 0 rfl) ?_
      refine r_get C0 hw (C := RX7) (T := TX7) (N := 15) (v := .ref (ad 25)) iw_X7_count_X7 (lg_0 ad cI cJ X S) rfl 9 (by decide) (C0.ts _ fw_X7_count_55) rfl dX7_count_98 ?_
      refine r_cV_i (As := []) (rest := []) C0 hw (c_X2_size (ln_25 ad cI cJ X) hV) (cwV 0 C0.ts gX7_count_X2_size rfl rfl rfl hd_X2_size ⟨Nat.le_of_ble_eq_true rfl, Nat.le_of_ble_eq_true rfl⟩) (lg_25 ad cI cJ X S) rfl rfl hl.1 rfl (Nat.le_of_ble_eq_true rfl) ⟨Nat.le_of_ble_eq_true rfl, Nat.le_of_ble_eq_true rfl⟩ dX7_count_101 (fun r9 S10 H locs hV hw => ?_)
      exact r_iret C0 rfl hw hV dX7_count_104
    · have ek : p0 = 5 := ek
      have hV := hV.2.2.2.2.2.1 ek
      refine lv_tableIn (tgt := 105) C0.x C0.b dX7_count_1 (by rw [ek]; decide) (by rw [ek]; decide) (by rw [ek]; rfl) (by decide) ?_
      refine lv_aload_n C0.x C0.b dX7_count_105 rfl (lv_at hl 0 rfl) ?_
      refine r_get C0 hw (C := RX7) (T := TX7) (N := 15) (v := .ref (ad 37)) iw_X7_count_X7 (lg_0 ad cI cJ X S) rfl 14 (by decide) (C0.ts _ fw_X7_count_81) rfl dX7_count_106 ?_
      refine r_cV_i (As := []) (rest := []) C0 hw (c_X1_size  hV) (cwV 0 C0.ts gX7_count_X1_size rfl rfl rfl hd_X1_size ⟨Nat.le_of_ble_eq_true rfl, Nat.le_of_ble_eq_true rfl⟩) (lg_37 ad cI cJ X S) rfl rfl hl.1 rfl (Nat.le_of_ble_eq_true rfl) ⟨Nat.le_of_ble_eq_true rfl, Nat.le_of_ble_eq_true rfl⟩ dX7_count_109 (fun r11 S12 H locs hV hw => ?_)
      exact r_iret C0 rfl hw hV dX7_count_112
    · have ek : p0 = 6 := ek
      have hV := hV.2.2.2.2.2.2.1 ek
      refine lv_tableIn (tgt := 113) C0.x C0.b dX7_count_1 (by rw [ek]; decide) (by rw [ek]; decide) (by rw [ek]; rfl) (by decide) ?_
      refine lv_aload_n C0.x C0.b dX7_count_113 rfl (lv_at hl 0 rfl) ?_
      refine r_get C0 hw (C := RX7) (T := TX7) (N := 15) (v := .ref (ad 16)) iw_X7_count_X7 (lg_0 ad cI cJ X S) rfl 5 (by decide) (C0.ts _ fw_X7_count_36) rfl dX7_count_114 ?_
      refine r_cV_i (As := []) (rest := []) C0 hw (c_X6_isThere  hV) (cwV 0 C0.ts gX7_count_X6_isThere rfl rfl rfl hd_X6_isThere ⟨Nat.le_of_ble_eq_true rfl, Nat.le_of_ble_eq_true rfl⟩) (lg_16 ad cI cJ X S) rfl rfl hl.1 rfl (Nat.le_of_ble_eq_true rfl) ⟨Nat.le_of_ble_eq_true rfl, Nat.le_of_ble_eq_true rfl⟩ dX7_count_117 (fun r13 S14 H locs hV hw => ?_)
      refine lv_if_eq (tgt := 133) C0.x C0.b dX7_count_120 (by decide) (fun c15 => ?_) (fun c15 => ?_)
      · have hV := hV.1 c15
        refine lv_iconst (v := -1) C0.x C0.b dX7_count_133 (by decide) ?_
        exact r_iret C0 rfl hw hV dX7_count_134
      · have hV := hV.2 c15
        refine lv_aload_n C0.x C0.b dX7_count_123 rfl (lv_at hl 0 rfl) ?_
        refine r_get C0 hw (C := RX7) (T := TX7) (N := 15) (v := .ref (ad 16)) iw_X7_count_X7 (lg_0 ad cI cJ X S14) rfl 5 (by decide) (C0.ts _ fw_X7_count_36) rfl dX7_count_124 ?_
        refine r_cV_i (As := []) (rest := []) C0 hw (c_X6_entries  hV) (cwV 0 C0.ts gX7_count_X6_entries rfl rfl rfl hd_X6_entries ⟨Nat.le_of_ble_eq_true rfl, Nat.le_of_ble_eq_true rfl⟩) (lg_16 ad cI cJ X S14) rfl rfl hl.1 rfl (Nat.le_of_ble_eq_true rfl) ⟨Nat.le_of_ble_eq_true rfl, Nat.le_of_ble_eq_true rfl⟩ dX7_count_127 (fun r16 S17 H locs hV hw => ?_)
        refine lv_goto (tgt := 134) C0.x C0.b dX7_count_130 (by decide) ?_
        exact r_iret C0 rfl hw hV dX7_count_134
/-! StepBench.told(II)J -/
abbrev rm_X7_told : Room := { frames := 6, cells := 1, slots := 6, locals := 110 }
set_option maxRecDepth 20000 in
theorem fw_X7_told_9 : Cond.fieldLink RX7 9 "StepBench" "ruleKind" "I" ∈ wsnX7_told := by decide +kernel
set_option maxRecDepth 20000 in
theorem iw_X7_told_X7 : ∀ w ∈ wsX70, w ∈ wsnX7_told := by decide +kernel
set_option maxRecDepth 20000 in
theorem fw_X7_told_16 : Cond.fieldLink RX7 16 "StepBench" "rule" "LStepBench$Shares;" ∈ wsnX7_told := by decide +kernel
set_option maxRecDepth 20000 in
theorem fw_X7_told_29 : Cond.fieldLink RX7 29 "StepBench" "fractions" "LStepBench$Fractions;" ∈ wsnX7_told := by decide +kernel
set_option maxRecDepth 20000 in
theorem tk_X7_told_165 : Cond.classLink RX7 165 "java/util/NoSuchElementException" ∈ wsnX7_told := by decide +kernel
set_option maxRecDepth 20000 in
theorem ti_X7_told_165 : Cond.initialized "java/util/NoSuchElementException" ∈ wsnX7_told := by decide +kernel
set_option maxRecDepth 20000 in
theorem th_X7_told_169 : ∀ w ∈ (nsAt RX7 169).filter goodWord, w ∈ wsnX7_told := by decide +kernel
set_option maxRecDepth 20000 in
theorem hd_X7_told : yX7_told.cls = RX7 ∧ yX7_told.cls ≠ "java/lang/invoke/MethodHandle" ∧ yX7_told.cls ≠ "java/lang/invoke/VarHandle" ∧ (parseMethodDescriptor yX7_told.desc).map (fun d => d.parameters.length) = some 2 := by decide +kernel
def V_X7_told  (p0 : Int32) (p1 : Int32) (S : SS) (post : Int64 → SS → Prop) (px : String → SS → Prop) : Prop :=
  (((gI S 0) = (1 : Int32) → (V_X5_has 1 0 1 2 p0 S (fun (r2 : Int32) (S3 : SS) => ((r2 = 0 → (((gI S3 0) = (2 : Int32) → (V_X0_has p0 S3 (fun (r6 : Int32) (S7 : SS) => ((r6 = 0 → (px "java/util/NoSuchElementException" S7)) ∧ (¬ r6 = 0 → ((p1 < 0 → (px "java/util/NoSuchElementException" S7)) ∧ (¬ p1 < 0 → (((1 : Int32) < p1 → (px "java/util/NoSuchElementException" S7)) ∧ (¬ (1 : Int32) < p1 → ((p1 = 0 → (V_X0_over p0 S7 (fun (r12 : Int64) (S13 : SS) => (post r12 S13)))) ∧ (¬ p1 = 0 → (V_X0_under p0 S7 (fun (r14 : Int64) (S15 : SS) => (post r14 S15)))))))))))))) ∧ (¬ (gI S3 0) = (2 : Int32) → (px "java/util/NoSuchElementException" S3)))) ∧ (¬ r2 = 0 → ((p1 < 0 → (((gI S3 0) = (2 : Int32) → (V_X0_has p0 S3 (fun (r18 : Int32) (S19 : SS) => ((r18 = 0 → (px "java/util/NoSuchElementException" S19)) ∧ (¬ r18 = 0 → ((p1 < 0 → (px "java/util/NoSuchElementException" S19)) ∧ (¬ p1 < 0 → (((1 : Int32) < p1 → (px "java/util/NoSuchElementException" S19)) ∧ (¬ (1 : Int32) < p1 → ((p1 = 0 → (V_X0_over p0 S19 (fun (r24 : Int64) (S25 : SS) => (post r24 S25)))) ∧ (¬ p1 = 0 → (V_X0_under p0 S19 (fun (r26 : Int64) (S27 : SS) => (post r26 S27)))))))))))))) ∧ (¬ (gI S3 0) = (2 : Int32) → (px "java/util/NoSuchElementException" S3)))) ∧ (¬ p1 < 0 → (((2 : Int32) < p1 → (((gI S3 0) = (2 : Int32) → (V_X0_has p0 S3 (fun (r30 : Int32) (S31 : SS) => ((r30 = 0 → (px "java/util/NoSuchElementException" S31)) ∧ (¬ r30 = 0 → ((p1 < 0 → (px "java/util/NoSuchElementException" S31)) ∧ (¬ p1 < 0 → (((1 : Int32) < p1 → (px "java/util/NoSuchElementException" S31)) ∧ (¬ (1 : Int32) < p1 → ((p1 = 0 → (V_X0_over p0 S31 (fun (r36 : Int64) (S37 : SS) => (post r36 S37)))) ∧ (¬ p1 = 0 → (V_X0_under p0 S31 (fun (r38 : Int64) (S39 : SS) => (post r38 S39)))))))))))))) ∧ (¬ (gI S3 0) = (2 : Int32) → (px "java/util/NoSuchElementException" S3)))) ∧ (¬ (2 : Int32) < p1 → (V_X5_read 1 0 1 2 p0 p1 S3 (fun (r40 : Int64) (S41 : SS) => (post r40 S41)))))))))))) ∧ (¬ (gI S 0) = (1 : Int32) → (((gI S 0) = (2 : Int32) → (V_X0_has p0 S (fun (r43 : Int32) (S44 : SS) => ((r43 = 0 → (px "java/util/NoSuchElementException" S44)) ∧ (¬ r43 = 0 → ((p1 < 0 → (px "java/util/NoSuchElementException" S44)) ∧ (¬ p1 < 0 → (((1 : Int32) < p1 → (px "java/util/NoSuchElementException" S44)) ∧ (¬ (1 : Int32) < p1 → ((p1 = 0 → (V_X0_over p0 S44 (fun (r49 : Int64) (S50 : SS) => (post r49 S50)))) ∧ (¬ p1 = 0 → (V_X0_under p0 S44 (fun (r51 : Int64) (S52 : SS) => (post r51 S52)))))))))))))) ∧ (¬ (gI S 0) = (2 : Int32) → (px "java/util/NoSuchElementException" S)))))
set_option maxHeartbeats 4000000 in
set_option maxRecDepth 100000 in
theorem c_X7_told (hlt : l.stackTraces = false)  {S : SS} {p0 : Int32} {p1 : Int32} {post : Int64 → SS → Prop} {px : String → SS → Prop} (hV : V_X7_told  p0 p1 S post px) : XL l yX7_told wsnX7_told rm_X7_told [.ref (ad 0), .int p0, .int p1] D n0 ad cI cJ X S post px 1 6 := by
  refine vx_ofW (cc := cX7_told) (maxL := 3) (ret := (some .long)) (by decide) rfl ?_
  intro p e s m args below meth c s₁ B hml ht hv
  obtain ⟨rfl, hv⟩ := hv
  have C0 := Bd.mk B hml (atoms_spec (ws := wsnX7_told) B.pre) (findClass_of_methodNamed B.named) hv.1
  have hw : Wh D n0 ad cI cJ X S s s.heap [] := ⟨hv.2.1, hv.2.2, va_S.rf⟩
  refine r_entry (Nat.le_of_ble_eq_true rfl) (fun ls hl => ?_)
  have hl : lv_has ls 3 [(0, .ref (ad 0)), (1, .int p0), (2, .int p1)] := hl
  unfold V_X7_told at hV
  refine lv_aload_n C0.x C0.b dX7_told_0 rfl (lv_at hl 0 rfl) ?_
  refine r_get C0 hw (C := RX7) (T := TX7) (N := 15) (v := .int (gI S 0)) iw_X7_told_X7 (lg_0 ad cI cJ X S) rfl 0 (by decide) (C0.ts _ fw_X7_told_9) rfl dX7_told_1 ?_
  refine lv_iconst (v := 1) C0.x C0.b dX7_told_4 (by decide) ?_
  refine lv_icmp_ne (tgt := 38) C0.x C0.b dX7_told_5 (by decide) (fun c1 => ?_) (fun c1 => ?_)
  · have hV := hV.2 c1
    refine lv_aload_n C0.x C0.b dX7_told_38 rfl (lv_at hl 0 rfl) ?_
    refine r_get C0 hw (C := RX7) (T := TX7) (N := 15) (v := .int (gI S 0)) iw_X7_told_X7 (lg_0 ad cI cJ X S) rfl 0 (by decide) (C0.ts _ fw_X7_told_9) rfl dX7_told_39 ?_
    refine lv_iconst (v := 2) C0.x C0.b dX7_told_42 (by decide) ?_
    refine lv_icmp_ne (tgt := 90) C0.x C0.b dX7_told_43 (by decide) (fun c42 => ?_) (fun c42 => ?_)
    · have hV := hV.2 c42
      exact r_nth (text := "no such part of the rule") C0 hlt ht hw (C0.ts _ tk_X7_told_165) (C0.ts _ ti_X7_told_165) (by decide +kernel) th_X7_told_169 hg_169 ho_169 hl.1 dX7_told_90 dX7_told_93 dX7_told_94 dX7_told_96 dX7_told_99 (Nat.le_of_ble_eq_true rfl) (Nat.le_of_ble_eq_true rfl) (Nat.le_of_ble_eq_true rfl) (Nat.le_of_ble_eq_true rfl) (Nat.le_of_ble_eq_true rfl) (Nat.le_of_ble_eq_true rfl) hV
    · have hV := hV.1 c42
      refine lv_aload_n C0.x C0.b dX7_told_46 rfl (lv_at hl 0 rfl) ?_
      refine r_get C0 hw (C := RX7) (T := TX7) (N := 15) (v := .ref (ad 13)) iw_X7_told_X7 (lg_0 ad cI cJ X S) rfl 4 (by decide) (C0.ts _ fw_X7_told_29) rfl dX7_told_47 ?_
      refine lv_iload_n C0.x C0.b dX7_told_50 rfl (lv_at hl 1 rfl) ?_
      refine r_cV_i (As := [.int p0]) (rest := []) C0 hw (c_X0_has  hV) (cwV 1 C0.ts ngX7_told_X0_has rfl rfl rfl hd_X0_has ⟨Nat.le_of_ble_eq_true rfl, Nat.le_of_ble_eq_true rfl⟩) (lg_13 ad cI cJ X S) rfl rfl hl.1 rfl (Nat.le_of_ble_eq_true rfl) ⟨Nat.le_of_ble_eq_true rfl, Nat.le_of_ble_eq_true rfl⟩ dX7_told_51 (fun r43 S44 H locs hV hw => ?_)
      refine lv_if_eq (tgt := 90) C0.x C0.b dX7_told_54 (by decide) (fun c45 => ?_) (fun c45 => ?_)
      · have hV := hV.1 c45
        exact r_nth (text := "no such part of the rule") C0 hlt ht hw (C0.ts _ tk_X7_told_165) (C0.ts _ ti_X7_told_165) (by decide +kernel) th_X7_told_169 hg_169 ho_169 hl.1 dX7_told_90 dX7_told_93 dX7_told_94 dX7_told_96 dX7_told_99 (Nat.le_of_ble_eq_true rfl) (Nat.le_of_ble_eq_true rfl) (Nat.le_of_ble_eq_true rfl) (Nat.le_of_ble_eq_true rfl) (Nat.le_of_ble_eq_true rfl) (Nat.le_of_ble_eq_true rfl) hV
      · have hV := hV.2 c45
        refine lv_iload_n C0.x C0.b dX7_told_57 rfl (lv_at hl 2 rfl) ?_
        refine lv_if_lt (tgt := 90) C0.x C0.b dX7_told_58 (by decide) (fun c46 => ?_) (fun c46 => ?_)
        · have hV := hV.1 c46
          exact r_nth (text := "no such part of the rule") C0 hlt ht hw (C0.ts _ tk_X7_told_165) (C0.ts _ ti_X7_told_165) (by decide +kernel) th_X7_told_169 hg_169 ho_169 hl.1 dX7_told_90 dX7_told_93 dX7_told_94 dX7_told_96 dX7_told_99 (Nat.le_of_ble_eq_true rfl) (Nat.le_of_ble_eq_true rfl) (Nat.le_of_ble_eq_true rfl) (Nat.le_of_ble_eq_true rfl) (Nat.le_of_ble_eq_true rfl) (Nat.le_of_ble_eq_true rfl) hV
        · have hV := hV.2 c46
          refine lv_iload_n C0.x C0.b dX7_told_61 rfl (lv_at hl 2 rfl) ?_
          refine lv_iconst (v := 1) C0.x C0.b dX7_told_62 (by decide) ?_
          refine lv_icmp_gt (tgt := 90) C0.x C0.b dX7_told_63 (by decide) (fun c47 => ?_) (fun c47 => ?_)
          · have hV := hV.1 c47
            exact r_nth (text := "no such part of the rule") C0 hlt ht hw (C0.ts _ tk_X7_told_165) (C0.ts _ ti_X7_told_165) (by decide +kernel) th_X7_told_169 hg_169 ho_169 hl.1 dX7_told_90 dX7_told_93 dX7_told_94 dX7_told_96 dX7_told_99 (Nat.le_of_ble_eq_true rfl) (Nat.le_of_ble_eq_true rfl) (Nat.le_of_ble_eq_true rfl) (Nat.le_of_ble_eq_true rfl) (Nat.le_of_ble_eq_true rfl) (Nat.le_of_ble_eq_true rfl) hV
          · have hV := hV.2 c47
            refine lv_iload_n C0.x C0.b dX7_told_66 rfl (lv_at hl 2 rfl) ?_
            refine lv_if_ne (tgt := 81) C0.x C0.b dX7_told_67 (by decide) (fun c48 => ?_) (fun c48 => ?_)
            · have hV := hV.2 c48
              refine lv_aload_n C0.x C0.b dX7_told_81 rfl (lv_at hl 0 rfl) ?_
              refine r_get C0 hw (C := RX7) (T := TX7) (N := 15) (v := .ref (ad 13)) iw_X7_told_X7 (lg_0 ad cI cJ X S44) rfl 4 (by decide) (C0.ts _ fw_X7_told_29) rfl dX7_told_82 ?_
              refine lv_iload_n C0.x C0.b dX7_told_85 rfl (lv_at hl 1 rfl) ?_
              refine r_cV_l (As := [.int p0]) (rest := []) C0 hw (c_X0_under  hV) (cwV 1 C0.ts ngX7_told_X0_under rfl rfl rfl hd_X0_under ⟨Nat.le_of_ble_eq_true rfl, Nat.le_of_ble_eq_true rfl⟩) (lg_13 ad cI cJ X S44) rfl rfl hl.1 rfl (Nat.le_of_ble_eq_true rfl) ⟨Nat.le_of_ble_eq_true rfl, Nat.le_of_ble_eq_true rfl⟩ dX7_told_86 (fun r51 S52 H locs hV hw => ?_)
              exact r_xret (Nat.le_of_ble_eq_true rfl) (Nat.le_of_ble_eq_true rfl) (r_lret C0 rfl hw hV dX7_told_89)
            · have hV := hV.1 c48
              refine lv_aload_n C0.x C0.b dX7_told_70 rfl (lv_at hl 0 rfl) ?_
              refine r_get C0 hw (C := RX7) (T := TX7) (N := 15) (v := .ref (ad 13)) iw_X7_told_X7 (lg_0 ad cI cJ X S44) rfl 4 (by decide) (C0.ts _ fw_X7_told_29) rfl dX7_told_71 ?_
              refine lv_iload_n C0.x C0.b dX7_told_74 rfl (lv_at hl 1 rfl) ?_
              refine r_cV_l (As := [.int p0]) (rest := []) C0 hw (c_X0_over  hV) (cwV 1 C0.ts ngX7_told_X0_over rfl rfl rfl hd_X0_over ⟨Nat.le_of_ble_eq_true rfl, Nat.le_of_ble_eq_true rfl⟩) (lg_13 ad cI cJ X S44) rfl rfl hl.1 rfl (Nat.le_of_ble_eq_true rfl) ⟨Nat.le_of_ble_eq_true rfl, Nat.le_of_ble_eq_true rfl⟩ dX7_told_75 (fun r49 S50 H locs hV hw => ?_)
              refine lv_goto (tgt := 89) C0.x C0.b dX7_told_78 (by decide) ?_
              exact r_xret (Nat.le_of_ble_eq_true rfl) (Nat.le_of_ble_eq_true rfl) (r_lret C0 rfl hw hV dX7_told_89)
  · have hV := hV.1 c1
    refine lv_aload_n C0.x C0.b dX7_told_8 rfl (lv_at hl 0 rfl) ?_
    refine r_get C0 hw (C := RX7) (T := TX7) (N := 15) (v := .ref (ad 1)) iw_X7_told_X7 (lg_0 ad cI cJ X S) rfl 1 (by decide) (C0.ts _ fw_X7_told_16) rfl dX7_told_9 ?_
    refine lv_iload_n C0.x C0.b dX7_told_12 rfl (lv_at hl 1 rfl) ?_
    refine r_cV_i (As := [.int p0]) (rest := []) C0 hw (c_X5_has (ln_1 ad cI cJ X) hV) (cwV 1 C0.ts ngX7_told_X5_has rfl rfl rfl hd_X5_has ⟨Nat.le_of_ble_eq_true rfl, Nat.le_of_ble_eq_true rfl⟩) (lg_1 ad cI cJ X S) rfl rfl hl.1 rfl (Nat.le_of_ble_eq_true rfl) ⟨Nat.le_of_ble_eq_true rfl, Nat.le_of_ble_eq_true rfl⟩ dX7_told_13 (fun r2 S3 H locs hV hw => ?_)
    refine lv_if_eq (tgt := 38) C0.x C0.b dX7_told_16 (by decide) (fun c4 => ?_) (fun c4 => ?_)
    · have hV := hV.1 c4
      refine lv_aload_n C0.x C0.b dX7_told_38 rfl (lv_at hl 0 rfl) ?_
      refine r_get C0 hw (C := RX7) (T := TX7) (N := 15) (v := .int (gI S3 0)) iw_X7_told_X7 (lg_0 ad cI cJ X S3) rfl 0 (by decide) (C0.ts _ fw_X7_told_9) rfl dX7_told_39 ?_
      refine lv_iconst (v := 2) C0.x C0.b dX7_told_42 (by decide) ?_
      refine lv_icmp_ne (tgt := 90) C0.x C0.b dX7_told_43 (by decide) (fun c5 => ?_) (fun c5 => ?_)
      · have hV := hV.2 c5
        exact r_nth (text := "no such part of the rule") C0 hlt ht hw (C0.ts _ tk_X7_told_165) (C0.ts _ ti_X7_told_165) (by decide +kernel) th_X7_told_169 hg_169 ho_169 hl.1 dX7_told_90 dX7_told_93 dX7_told_94 dX7_told_96 dX7_told_99 (Nat.le_of_ble_eq_true rfl) (Nat.le_of_ble_eq_true rfl) (Nat.le_of_ble_eq_true rfl) (Nat.le_of_ble_eq_true rfl) (Nat.le_of_ble_eq_true rfl) (Nat.le_of_ble_eq_true rfl) hV
      · have hV := hV.1 c5
        refine lv_aload_n C0.x C0.b dX7_told_46 rfl (lv_at hl 0 rfl) ?_
        refine r_get C0 hw (C := RX7) (T := TX7) (N := 15) (v := .ref (ad 13)) iw_X7_told_X7 (lg_0 ad cI cJ X S3) rfl 4 (by decide) (C0.ts _ fw_X7_told_29) rfl dX7_told_47 ?_
        refine lv_iload_n C0.x C0.b dX7_told_50 rfl (lv_at hl 1 rfl) ?_
        refine r_cV_i (As := [.int p0]) (rest := []) C0 hw (c_X0_has  hV) (cwV 1 C0.ts ngX7_told_X0_has rfl rfl rfl hd_X0_has ⟨Nat.le_of_ble_eq_true rfl, Nat.le_of_ble_eq_true rfl⟩) (lg_13 ad cI cJ X S3) rfl rfl hl.1 rfl (Nat.le_of_ble_eq_true rfl) ⟨Nat.le_of_ble_eq_true rfl, Nat.le_of_ble_eq_true rfl⟩ dX7_told_51 (fun r6 S7 H locs hV hw => ?_)
        refine lv_if_eq (tgt := 90) C0.x C0.b dX7_told_54 (by decide) (fun c8 => ?_) (fun c8 => ?_)
        · have hV := hV.1 c8
          exact r_nth (text := "no such part of the rule") C0 hlt ht hw (C0.ts _ tk_X7_told_165) (C0.ts _ ti_X7_told_165) (by decide +kernel) th_X7_told_169 hg_169 ho_169 hl.1 dX7_told_90 dX7_told_93 dX7_told_94 dX7_told_96 dX7_told_99 (Nat.le_of_ble_eq_true rfl) (Nat.le_of_ble_eq_true rfl) (Nat.le_of_ble_eq_true rfl) (Nat.le_of_ble_eq_true rfl) (Nat.le_of_ble_eq_true rfl) (Nat.le_of_ble_eq_true rfl) hV
        · have hV := hV.2 c8
          refine lv_iload_n C0.x C0.b dX7_told_57 rfl (lv_at hl 2 rfl) ?_
          refine lv_if_lt (tgt := 90) C0.x C0.b dX7_told_58 (by decide) (fun c9 => ?_) (fun c9 => ?_)
          · have hV := hV.1 c9
            exact r_nth (text := "no such part of the rule") C0 hlt ht hw (C0.ts _ tk_X7_told_165) (C0.ts _ ti_X7_told_165) (by decide +kernel) th_X7_told_169 hg_169 ho_169 hl.1 dX7_told_90 dX7_told_93 dX7_told_94 dX7_told_96 dX7_told_99 (Nat.le_of_ble_eq_true rfl) (Nat.le_of_ble_eq_true rfl) (Nat.le_of_ble_eq_true rfl) (Nat.le_of_ble_eq_true rfl) (Nat.le_of_ble_eq_true rfl) (Nat.le_of_ble_eq_true rfl) hV
          · have hV := hV.2 c9
            refine lv_iload_n C0.x C0.b dX7_told_61 rfl (lv_at hl 2 rfl) ?_
            refine lv_iconst (v := 1) C0.x C0.b dX7_told_62 (by decide) ?_
            refine lv_icmp_gt (tgt := 90) C0.x C0.b dX7_told_63 (by decide) (fun c10 => ?_) (fun c10 => ?_)
            · have hV := hV.1 c10
              exact r_nth (text := "no such part of the rule") C0 hlt ht hw (C0.ts _ tk_X7_told_165) (C0.ts _ ti_X7_told_165) (by decide +kernel) th_X7_told_169 hg_169 ho_169 hl.1 dX7_told_90 dX7_told_93 dX7_told_94 dX7_told_96 dX7_told_99 (Nat.le_of_ble_eq_true rfl) (Nat.le_of_ble_eq_true rfl) (Nat.le_of_ble_eq_true rfl) (Nat.le_of_ble_eq_true rfl) (Nat.le_of_ble_eq_true rfl) (Nat.le_of_ble_eq_true rfl) hV
            · have hV := hV.2 c10
              refine lv_iload_n C0.x C0.b dX7_told_66 rfl (lv_at hl 2 rfl) ?_
              refine lv_if_ne (tgt := 81) C0.x C0.b dX7_told_67 (by decide) (fun c11 => ?_) (fun c11 => ?_)
              · have hV := hV.2 c11
                refine lv_aload_n C0.x C0.b dX7_told_81 rfl (lv_at hl 0 rfl) ?_
                refine r_get C0 hw (C := RX7) (T := TX7) (N := 15) (v := .ref (ad 13)) iw_X7_told_X7 (lg_0 ad cI cJ X S7) rfl 4 (by decide) (C0.ts _ fw_X7_told_29) rfl dX7_told_82 ?_
                refine lv_iload_n C0.x C0.b dX7_told_85 rfl (lv_at hl 1 rfl) ?_
                refine r_cV_l (As := [.int p0]) (rest := []) C0 hw (c_X0_under  hV) (cwV 1 C0.ts ngX7_told_X0_under rfl rfl rfl hd_X0_under ⟨Nat.le_of_ble_eq_true rfl, Nat.le_of_ble_eq_true rfl⟩) (lg_13 ad cI cJ X S7) rfl rfl hl.1 rfl (Nat.le_of_ble_eq_true rfl) ⟨Nat.le_of_ble_eq_true rfl, Nat.le_of_ble_eq_true rfl⟩ dX7_told_86 (fun r14 S15 H locs hV hw => ?_)
                exact r_xret (Nat.le_of_ble_eq_true rfl) (Nat.le_of_ble_eq_true rfl) (r_lret C0 rfl hw hV dX7_told_89)
              · have hV := hV.1 c11
                refine lv_aload_n C0.x C0.b dX7_told_70 rfl (lv_at hl 0 rfl) ?_
                refine r_get C0 hw (C := RX7) (T := TX7) (N := 15) (v := .ref (ad 13)) iw_X7_told_X7 (lg_0 ad cI cJ X S7) rfl 4 (by decide) (C0.ts _ fw_X7_told_29) rfl dX7_told_71 ?_
                refine lv_iload_n C0.x C0.b dX7_told_74 rfl (lv_at hl 1 rfl) ?_
                refine r_cV_l (As := [.int p0]) (rest := []) C0 hw (c_X0_over  hV) (cwV 1 C0.ts ngX7_told_X0_over rfl rfl rfl hd_X0_over ⟨Nat.le_of_ble_eq_true rfl, Nat.le_of_ble_eq_true rfl⟩) (lg_13 ad cI cJ X S7) rfl rfl hl.1 rfl (Nat.le_of_ble_eq_true rfl) ⟨Nat.le_of_ble_eq_true rfl, Nat.le_of_ble_eq_true rfl⟩ dX7_told_75 (fun r12 S13 H locs hV hw => ?_)
                refine lv_goto (tgt := 89) C0.x C0.b dX7_told_78 (by decide) ?_
                exact r_xret (Nat.le_of_ble_eq_true rfl) (Nat.le_of_ble_eq_true rfl) (r_lret C0 rfl hw hV dX7_told_89)
    · have hV := hV.2 c4
      refine lv_iload_n C0.x C0.b dX7_told_19 rfl (lv_at hl 2 rfl) ?_
      refine lv_if_lt (tgt := 38) C0.x C0.b dX7_told_20 (by decide) (fun c16 => ?_) (fun c16 => ?_)
      · have hV := hV.1 c16
        refine lv_aload_n C0.x C0.b dX7_told_38 rfl (lv_at hl 0 rfl) ?_
        refine r_get C0 hw (C := RX7) (T := TX7) (N := 15) (v := .int (gI S3 0)) iw_X7_told_X7 (lg_0 ad cI cJ X S3) rfl 0 (by decide) (C0.ts _ fw_X7_told_9) rfl dX7_told_39 ?_
        refine lv_iconst (v := 2) C0.x C0.b dX7_told_42 (by decide) ?_
        refine lv_icmp_ne (tgt := 90) C0.x C0.b dX7_told_43 (by decide) (fun c17 => ?_) (fun c17 => ?_)
        · have hV := hV.2 c17
          exact r_nth (text := "no such part of the rule") C0 hlt ht hw (C0.ts _ tk_X7_told_165) (C0.ts _ ti_X7_told_165) (by decide +kernel) th_X7_told_169 hg_169 ho_169 hl.1 dX7_told_90 dX7_told_93 dX7_told_94 dX7_told_96 dX7_told_99 (Nat.le_of_ble_eq_true rfl) (Nat.le_of_ble_eq_true rfl) (Nat.le_of_ble_eq_true rfl) (Nat.le_of_ble_eq_true rfl) (Nat.le_of_ble_eq_true rfl) (Nat.le_of_ble_eq_true rfl) hV
        · have hV := hV.1 c17
          refine lv_aload_n C0.x C0.b dX7_told_46 rfl (lv_at hl 0 rfl) ?_
          refine r_get C0 hw (C := RX7) (T := TX7) (N := 15) (v := .ref (ad 13)) iw_X7_told_X7 (lg_0 ad cI cJ X S3) rfl 4 (by decide) (C0.ts _ fw_X7_told_29) rfl dX7_told_47 ?_
          refine lv_iload_n C0.x C0.b dX7_told_50 rfl (lv_at hl 1 rfl) ?_
          refine r_cV_i (As := [.int p0]) (rest := []) C0 hw (c_X0_has  hV) (cwV 1 C0.ts ngX7_told_X0_has rfl rfl rfl hd_X0_has ⟨Nat.le_of_ble_eq_true rfl, Nat.le_of_ble_eq_true rfl⟩) (lg_13 ad cI cJ X S3) rfl rfl hl.1 rfl (Nat.le_of_ble_eq_true rfl) ⟨Nat.le_of_ble_eq_true rfl, Nat.le_of_ble_eq_true rfl⟩ dX7_told_51 (fun r18 S19 H locs hV hw => ?_)
          refine lv_if_eq (tgt := 90) C0.x C0.b dX7_told_54 (by decide) (fun c20 => ?_) (fun c20 => ?_)
          · have hV := hV.1 c20
            exact r_nth (text := "no such part of the rule") C0 hlt ht hw (C0.ts _ tk_X7_told_165) (C0.ts _ ti_X7_told_165) (by decide +kernel) th_X7_told_169 hg_169 ho_169 hl.1 dX7_told_90 dX7_told_93 dX7_told_94 dX7_told_96 dX7_told_99 (Nat.le_of_ble_eq_true rfl) (Nat.le_of_ble_eq_true rfl) (Nat.le_of_ble_eq_true rfl) (Nat.le_of_ble_eq_true rfl) (Nat.le_of_ble_eq_true rfl) (Nat.le_of_ble_eq_true rfl) hV
          · have hV := hV.2 c20
            refine lv_iload_n C0.x C0.b dX7_told_57 rfl (lv_at hl 2 rfl) ?_
            refine lv_if_lt (tgt := 90) C0.x C0.b dX7_told_58 (by decide) (fun c21 => ?_) (fun c21 => ?_)
            · have hV := hV.1 c21
              exact r_nth (text := "no such part of the rule") C0 hlt ht hw (C0.ts _ tk_X7_told_165) (C0.ts _ ti_X7_told_165) (by decide +kernel) th_X7_told_169 hg_169 ho_169 hl.1 dX7_told_90 dX7_told_93 dX7_told_94 dX7_told_96 dX7_told_99 (Nat.le_of_ble_eq_true rfl) (Nat.le_of_ble_eq_true rfl) (Nat.le_of_ble_eq_true rfl) (Nat.le_of_ble_eq_true rfl) (Nat.le_of_ble_eq_true rfl) (Nat.le_of_ble_eq_true rfl) hV
            · have hV := hV.2 c21
              refine lv_iload_n C0.x C0.b dX7_told_61 rfl (lv_at hl 2 rfl) ?_
              refine lv_iconst (v := 1) C0.x C0.b dX7_told_62 (by decide) ?_
              refine lv_icmp_gt (tgt := 90) C0.x C0.b dX7_told_63 (by decide) (fun c22 => ?_) (fun c22 => ?_)
              · have hV := hV.1 c22
                exact r_nth (text := "no such part of the rule") C0 hlt ht hw (C0.ts _ tk_X7_told_165) (C0.ts _ ti_X7_told_165) (by decide +kernel) th_X7_told_169 hg_169 ho_169 hl.1 dX7_told_90 dX7_told_93 dX7_told_94 dX7_told_96 dX7_told_99 (Nat.le_of_ble_eq_true rfl) (Nat.le_of_ble_eq_true rfl) (Nat.le_of_ble_eq_true rfl) (Nat.le_of_ble_eq_true rfl) (Nat.le_of_ble_eq_true rfl) (Nat.le_of_ble_eq_true rfl) hV
              · have hV := hV.2 c22
                refine lv_iload_n C0.x C0.b dX7_told_66 rfl (lv_at hl 2 rfl) ?_
                refine lv_if_ne (tgt := 81) C0.x C0.b dX7_told_67 (by decide) (fun c23 => ?_) (fun c23 => ?_)
                · have hV := hV.2 c23
                  refine lv_aload_n C0.x C0.b dX7_told_81 rfl (lv_at hl 0 rfl) ?_
                  refine r_get C0 hw (C := RX7) (T := TX7) (N := 15) (v := .ref (ad 13)) iw_X7_told_X7 (lg_0 ad cI cJ X S19) rfl 4 (by decide) (C0.ts _ fw_X7_told_29) rfl dX7_told_82 ?_
                  refine lv_iload_n C0.x C0.b dX7_told_85 rfl (lv_at hl 1 rfl) ?_
                  refine r_cV_l (As := [.int p0]) (rest := []) C0 hw (c_X0_under  hV) (cwV 1 C0.ts ngX7_told_X0_under rfl rfl rfl hd_X0_under ⟨Nat.le_of_ble_eq_true rfl, Nat.le_of_ble_eq_true rfl⟩) (lg_13 ad cI cJ X S19) rfl rfl hl.1 rfl (Nat.le_of_ble_eq_true rfl) ⟨Nat.le_of_ble_eq_true rfl, Nat.le_of_ble_eq_true rfl⟩ dX7_told_86 (fun r26 S27 H locs hV hw => ?_)
                  exact r_xret (Nat.le_of_ble_eq_true rfl) (Nat.le_of_ble_eq_true rfl) (r_lret C0 rfl hw hV dX7_told_89)
                · have hV := hV.1 c23
                  refine lv_aload_n C0.x C0.b dX7_told_70 rfl (lv_at hl 0 rfl) ?_
                  refine r_get C0 hw (C := RX7) (T := TX7) (N := 15) (v := .ref (ad 13)) iw_X7_told_X7 (lg_0 ad cI cJ X S19) rfl 4 (by decide) (C0.ts _ fw_X7_told_29) rfl dX7_told_71 ?_
                  refine lv_iload_n C0.x C0.b dX7_told_74 rfl (lv_at hl 1 rfl) ?_
                  refine r_cV_l (As := [.int p0]) (rest := []) C0 hw (c_X0_over  hV) (cwV 1 C0.ts ngX7_told_X0_over rfl rfl rfl hd_X0_over ⟨Nat.le_of_ble_eq_true rfl, Nat.le_of_ble_eq_true rfl⟩) (lg_13 ad cI cJ X S19) rfl rfl hl.1 rfl (Nat.le_of_ble_eq_true rfl) ⟨Nat.le_of_ble_eq_true rfl, Nat.le_of_ble_eq_true rfl⟩ dX7_told_75 (fun r24 S25 H locs hV hw => ?_)
                  refine lv_goto (tgt := 89) C0.x C0.b dX7_told_78 (by decide) ?_
                  exact r_xret (Nat.le_of_ble_eq_true rfl) (Nat.le_of_ble_eq_true rfl) (r_lret C0 rfl hw hV dX7_told_89)
      · have hV := hV.2 c16
        refine lv_iload_n C0.x C0.b dX7_told_23 rfl (lv_at hl 2 rfl) ?_
        refine lv_iconst (v := 2) C0.x C0.b dX7_told_24 (by decide) ?_
        refine lv_icmp_gt (tgt := 38) C0.x C0.b dX7_told_25 (by decide) (fun c28 => ?_) (fun c28 => ?_)
        · have hV := hV.1 c28
          refine lv_aload_n C0.x C0.b dX7_told_38 rfl (lv_at hl 0 rfl) ?_
          refine r_get C0 hw (C := RX7) (T := TX7) (N := 15) (v := .int (gI S3 0)) iw_X7_told_X7 (lg_0 ad cI cJ X S3) rfl 0 (by decide) (C0.ts _ fw_X7_told_9) rfl dX7_told_39 ?_
          refine lv_iconst (v := 2) C0.x C0.b dX7_told_42 (by decide) ?_
          refine lv_icmp_ne (tgt := 90) C0.x C0.b dX7_told_43 (by decide) (fun c29 => ?_) (fun c29 => ?_)
          · have hV := hV.2 c29
            exact r_nth (text := "no such part of the rule") C0 hlt ht hw (C0.ts _ tk_X7_told_165) (C0.ts _ ti_X7_told_165) (by decide +kernel) th_X7_told_169 hg_169 ho_169 hl.1 dX7_told_90 dX7_told_93 dX7_told_94 dX7_told_96 dX7_told_99 (Nat.le_of_ble_eq_true rfl) (Nat.le_of_ble_eq_true rfl) (Nat.le_of_ble_eq_true rfl) (Nat.le_of_ble_eq_true rfl) (Nat.le_of_ble_eq_true rfl) (Nat.le_of_ble_eq_true rfl) hV
          · have hV := hV.1 c29
            refine lv_aload_n C0.x C0.b dX7_told_46 rfl (lv_at hl 0 rfl) ?_
            refine r_get C0 hw (C := RX7) (T := TX7) (N := 15) (v := .ref (ad 13)) iw_X7_told_X7 (lg_0 ad cI cJ X S3) rfl 4 (by decide) (C0.ts _ fw_X7_told_29) rfl dX7_told_47 ?_
            refine lv_iload_n C0.x C0.b dX7_told_50 rfl (lv_at hl 1 rfl) ?_
            refine r_cV_i (As := [.int p0]) (rest := []) C0 hw (c_X0_has  hV) (cwV 1 C0.ts ngX7_told_X0_has rfl rfl rfl hd_X0_has ⟨Nat.le_of_ble_eq_true rfl, Nat.le_of_ble_eq_true rfl⟩) (lg_13 ad cI cJ X S3) rfl rfl hl.1 rfl (Nat.le_of_ble_eq_true rfl) ⟨Nat.le_of_ble_eq_true rfl, Nat.le_of_ble_eq_true rfl⟩ dX7_told_51 (fun r30 S31 H locs hV hw => ?_)
            refine lv_if_eq (tgt := 90) C0.x C0.b dX7_told_54 (by decide) (fun c32 => ?_) (fun c32 => ?_)
            · have hV := hV.1 c32
              exact r_nth (text := "no such part of the rule") C0 hlt ht hw (C0.ts _ tk_X7_told_165) (C0.ts _ ti_X7_told_165) (by decide +kernel) th_X7_told_169 hg_169 ho_169 hl.1 dX7_told_90 dX7_told_93 dX7_told_94 dX7_told_96 dX7_told_99 (Nat.le_of_ble_eq_true rfl) (Nat.le_of_ble_eq_true rfl) (Nat.le_of_ble_eq_true rfl) (Nat.le_of_ble_eq_true rfl) (Nat.le_of_ble_eq_true rfl) (Nat.le_of_ble_eq_true rfl) hV
            · have hV := hV.2 c32
              refine lv_iload_n C0.x C0.b dX7_told_57 rfl (lv_at hl 2 rfl) ?_
              refine lv_if_lt (tgt := 90) C0.x C0.b dX7_told_58 (by decide) (fun c33 => ?_) (fun c33 => ?_)
              · have hV := hV.1 c33
                exact r_nth (text := "no such part of the rule") C0 hlt ht hw (C0.ts _ tk_X7_told_165) (C0.ts _ ti_X7_told_165) (by decide +kernel) th_X7_told_169 hg_169 ho_169 hl.1 dX7_told_90 dX7_told_93 dX7_told_94 dX7_told_96 dX7_told_99 (Nat.le_of_ble_eq_true rfl) (Nat.le_of_ble_eq_true rfl) (Nat.le_of_ble_eq_true rfl) (Nat.le_of_ble_eq_true rfl) (Nat.le_of_ble_eq_true rfl) (Nat.le_of_ble_eq_true rfl) hV
              · have hV := hV.2 c33
                refine lv_iload_n C0.x C0.b dX7_told_61 rfl (lv_at hl 2 rfl) ?_
                refine lv_iconst (v := 1) C0.x C0.b dX7_told_62 (by decide) ?_
                refine lv_icmp_gt (tgt := 90) C0.x C0.b dX7_told_63 (by decide) (fun c34 => ?_) (fun c34 => ?_)
                · have hV := hV.1 c34
                  exact r_nth (text := "no such part of the rule") C0 hlt ht hw (C0.ts _ tk_X7_told_165) (C0.ts _ ti_X7_told_165) (by decide +kernel) th_X7_told_169 hg_169 ho_169 hl.1 dX7_told_90 dX7_told_93 dX7_told_94 dX7_told_96 dX7_told_99 (Nat.le_of_ble_eq_true rfl) (Nat.le_of_ble_eq_true rfl) (Nat.le_of_ble_eq_true rfl) (Nat.le_of_ble_eq_true rfl) (Nat.le_of_ble_eq_true rfl) (Nat.le_of_ble_eq_true rfl) hV
                · have hV := hV.2 c34
                  refine lv_iload_n C0.x C0.b dX7_told_66 rfl (lv_at hl 2 rfl) ?_
                  refine lv_if_ne (tgt := 81) C0.x C0.b dX7_told_67 (by decide) (fun c35 => ?_) (fun c35 => ?_)
                  · have hV := hV.2 c35
                    refine lv_aload_n C0.x C0.b dX7_told_81 rfl (lv_at hl 0 rfl) ?_
                    refine r_get C0 hw (C := RX7) (T := TX7) (N := 15) (v := .ref (ad 13)) iw_X7_told_X7 (lg_0 ad cI cJ X S31) rfl 4 (by decide) (C0.ts _ fw_X7_told_29) rfl dX7_told_82 ?_
                    refine lv_iload_n C0.x C0.b dX7_told_85 rfl (lv_at hl 1 rfl) ?_
                    refine r_cV_l (As := [.int p0]) (rest := []) C0 hw (c_X0_under  hV) (cwV 1 C0.ts ngX7_told_X0_under rfl rfl rfl hd_X0_under ⟨Nat.le_of_ble_eq_true rfl, Nat.le_of_ble_eq_true rfl⟩) (lg_13 ad cI cJ X S31) rfl rfl hl.1 rfl (Nat.le_of_ble_eq_true rfl) ⟨Nat.le_of_ble_eq_true rfl, Nat.le_of_ble_eq_true rfl⟩ dX7_told_86 (fun r38 S39 H locs hV hw => ?_)
                    exact r_xret (Nat.le_of_ble_eq_true rfl) (Nat.le_of_ble_eq_true rfl) (r_lret C0 rfl hw hV dX7_told_89)
                  · have hV := hV.1 c35
                    refine lv_aload_n C0.x C0.b dX7_told_70 rfl (lv_at hl 0 rfl) ?_
                    refine r_get C0 hw (C := RX7) (T := TX7) (N := 15) (v := .ref (ad 13)) iw_X7_told_X7 (lg_0 ad cI cJ X S31) rfl 4 (by decide) (C0.ts _ fw_X7_told_29) rfl dX7_told_71 ?_
                    refine lv_iload_n C0.x C0.b dX7_told_74 rfl (lv_at hl 1 rfl) ?_
                    refine r_cV_l (As := [.int p0]) (rest := []) C0 hw (c_X0_over  hV) (cwV 1 C0.ts ngX7_told_X0_over rfl rfl rfl hd_X0_over ⟨Nat.le_of_ble_eq_true rfl, Nat.le_of_ble_eq_true rfl⟩) (lg_13 ad cI cJ X S31) rfl rfl hl.1 rfl (Nat.le_of_ble_eq_true rfl) ⟨Nat.le_of_ble_eq_true rfl, Nat.le_of_ble_eq_true rfl⟩ dX7_told_75 (fun r36 S37 H locs hV hw => ?_)
                    refine lv_goto (tgt := 89) C0.x C0.b dX7_told_78 (by decide) ?_
                    exact r_xret (Nat.le_of_ble_eq_true rfl) (Nat.le_of_ble_eq_true rfl) (r_lret C0 rfl hw hV dX7_told_89)
        · have hV := hV.2 c28
          refine lv_aload_n C0.x C0.b dX7_told_28 rfl (lv_at hl 0 rfl) ?_
          refine r_get C0 hw (C := RX7) (T := TX7) (N := 15) (v := .ref (ad 1)) iw_X7_told_X7 (lg_0 ad cI cJ X S3) rfl 1 (by decide) (C0.ts _ fw_X7_told_16) rfl dX7_told_29 ?_
          refine lv_iload_n C0.x C0.b dX7_told_32 rfl (lv_at hl 1 rfl) ?_
          refine lv_iload_n C0.x C0.b dX7_told_33 rfl (lv_at hl 2 rfl) ?_
          refine r_cV_l (As := [.int p0, .int p1]) (rest := []) C0 hw (c_X5_read (ln_1 ad cI cJ X) hV) (cwV 2 C0.ts ngX7_told_X5_read rfl rfl rfl hd_X5_read ⟨Nat.le_of_ble_eq_true rfl, Nat.le_of_ble_eq_true rfl⟩) (lg_1 ad cI cJ X S3) rfl rfl hl.1 rfl (Nat.le_of_ble_eq_true rfl) ⟨Nat.le_of_ble_eq_true rfl, Nat.le_of_ble_eq_true rfl⟩ dX7_told_34 (fun r40 S41 H locs hV hw => ?_)
          exact r_xret (Nat.le_of_ble_eq_true rfl) (Nat.le_of_ble_eq_true rfl) (r_lret C0 rfl hw hV dX7_told_37)
/-! StepBench.after(J)J -/
abbrev rm_X7_after : Room := { frames := 4, cells := 0, slots := 0, locals := 90 }
set_option maxRecDepth 20000 in
theorem fw_X7_after_9 : Cond.fieldLink RX7 9 "StepBench" "ruleKind" "I" ∈ wsX7_after := by decide +kernel
set_option maxRecDepth 20000 in
theorem iw_X7_after_X7 : ∀ w ∈ wsX70, w ∈ wsX7_after := by decide +kernel
set_option maxRecDepth 20000 in
theorem fw_X7_after_16 : Cond.fieldLink RX7 16 "StepBench" "rule" "LStepBench$Shares;" ∈ wsX7_after := by decide +kernel
set_option maxRecDepth 20000 in
theorem fw_X7_after_29 : Cond.fieldLink RX7 29 "StepBench" "fractions" "LStepBench$Fractions;" ∈ wsX7_after := by decide +kernel
set_option maxRecDepth 20000 in
theorem hd_X7_after : yX7_after.cls = RX7 ∧ yX7_after.cls ≠ "java/lang/invoke/MethodHandle" ∧ yX7_after.cls ≠ "java/lang/invoke/VarHandle" ∧ (parseMethodDescriptor yX7_after.desc).map (fun d => d.parameters.length) = some 1 := by decide +kernel
def V_X7_after  (p0 : Int64) (S : SS) (post : Int64 → SS → Prop) : Prop :=
  (((gI S 0) = (1 : Int32) → (V_X5_after 1 0 1 2 p0 S (fun (r2 : Int64) (S3 : SS) => (post r2 S3)))) ∧ (¬ (gI S 0) = (1 : Int32) → (V_X0_after p0 S (fun (r4 : Int64) (S5 : SS) => (post r4 S5)))))
set_option maxHeartbeats 4000000 in
set_option maxRecDepth 100000 in
theorem c_X7_after  {S : SS} {p0 : Int64} {post : Int64 → SS → Prop} (hV : V_X7_after  p0 S post) : ML l yX7_after wsX7_after rm_X7_after [.ref (ad 0), .long p0] D n0 ad cI cJ X S post := by
  refine Met.ofW (cc := cX7_after) (maxL := 3) (ret := (some .long)) (by decide) rfl ?_
  intro p e s m args below meth c s₁ B hml hv
  obtain ⟨rfl, hv⟩ := hv
  have C0 := Bd.mk B hml (atoms_spec (ws := wsX7_after) B.pre) (findClass_of_methodNamed B.named) hv.1
  have hw : Wh D n0 ad cI cJ X S s s.heap [] := ⟨hv.2.1, hv.2.2, va_S.rf⟩
  refine r_entry (Nat.le_of_ble_eq_true rfl) (fun ls hl => ?_)
  have hl : lv_has ls 3 [(0, .ref (ad 0)), (1, .long p0)] := hl
  unfold V_X7_after at hV
  refine lv_aload_n C0.x C0.b dX7_after_0 rfl (lv_at hl 0 rfl) ?_
  refine r_get C0 hw (C := RX7) (T := TX7) (N := 15) (v := .int (gI S 0)) iw_X7_after_X7 (lg_0 ad cI cJ X S) rfl 0 (by decide) (C0.ts _ fw_X7_after_9) rfl dX7_after_1 ?_
  refine lv_iconst (v := 1) C0.x C0.b dX7_after_4 (by decide) ?_
  refine lv_icmp_ne (tgt := 19) C0.x C0.b dX7_after_5 (by decide) (fun c1 => ?_) (fun c1 => ?_)
  · have hV := hV.2 c1
    refine lv_aload_n C0.x C0.b dX7_after_19 rfl (lv_at hl 0 rfl) ?_
    refine r_get C0 hw (C := RX7) (T := TX7) (N := 15) (v := .ref (ad 13)) iw_X7_after_X7 (lg_0 ad cI cJ X S) rfl 4 (by decide) (C0.ts _ fw_X7_after_29) rfl dX7_after_20 ?_
    refine lv_lload_n C0.x C0.b dX7_after_23 rfl (lv_at hl 1 rfl) ?_
    refine r_cV_l (As := [.long p0]) (rest := []) C0 hw (c_X0_after  hV) (cwV 1 C0.ts gX7_after_X0_after rfl rfl rfl hd_X0_after ⟨Nat.le_of_ble_eq_true rfl, Nat.le_of_ble_eq_true rfl⟩) (lg_13 ad cI cJ X S) rfl rfl hl.1 rfl (Nat.le_of_ble_eq_true rfl) ⟨Nat.le_of_ble_eq_true rfl, Nat.le_of_ble_eq_true rfl⟩ dX7_after_24 (fun r4 S5 H locs hV hw => ?_)
    exact r_lret C0 rfl hw hV dX7_after_27
  · have hV := hV.1 c1
    refine lv_aload_n C0.x C0.b dX7_after_8 rfl (lv_at hl 0 rfl) ?_
    refine r_get C0 hw (C := RX7) (T := TX7) (N := 15) (v := .ref (ad 1)) iw_X7_after_X7 (lg_0 ad cI cJ X S) rfl 1 (by decide) (C0.ts _ fw_X7_after_16) rfl dX7_after_9 ?_
    refine lv_lload_n C0.x C0.b dX7_after_12 rfl (lv_at hl 1 rfl) ?_
    refine r_cV_l (As := [.long p0]) (rest := []) C0 hw (c_X5_after (ln_1 ad cI cJ X) hV) (cwV 1 C0.ts gX7_after_X5_after rfl rfl rfl hd_X5_after ⟨Nat.le_of_ble_eq_true rfl, Nat.le_of_ble_eq_true rfl⟩) (lg_1 ad cI cJ X S) rfl rfl hl.1 rfl (Nat.le_of_ble_eq_true rfl) ⟨Nat.le_of_ble_eq_true rfl, Nat.le_of_ble_eq_true rfl⟩ dX7_after_13 (fun r2 S3 H locs hV hw => ?_)
    refine lv_goto (tgt := 27) C0.x C0.b dX7_after_16 (by decide) ?_
    exact r_lret C0 rfl hw hV dX7_after_27
/-! StepBench.isStepCount(I)Z -/
abbrev rm_X7_isStepCount : Room := { frames := 0, cells := 0, slots := 0, locals := 0 }
set_option maxRecDepth 20000 in
theorem cw_X7_isStepCount_281 : Cond.constant RX7 281 100000 ∈ wsX7_isStepCount := by decide +kernel
set_option maxRecDepth 20000 in
theorem hd_X7_isStepCount : yX7_isStepCount.cls ≠ "java/lang/invoke/MethodHandle" ∧ yX7_isStepCount.cls ≠ "java/lang/invoke/VarHandle" ∧ (parseMethodDescriptor yX7_isStepCount.desc).map (fun d => d.parameters.length) = some 1 := by decide +kernel
def V_X7_isStepCount  (p0 : Int32) (S : SS) (post : Int32 → SS → Prop) : Prop :=
  ((p0 < 0 → (post (0 : Int32) S)) ∧ (¬ p0 < 0 → (((100000 : Int32) < p0 → (post (0 : Int32) S)) ∧ (¬ (100000 : Int32) < p0 → (post (1 : Int32) S)))))
set_option maxHeartbeats 4000000 in
set_option maxRecDepth 100000 in
theorem c_X7_isStepCount  {S : SS} {p0 : Int32} {post : Int32 → SS → Prop} (hV : V_X7_isStepCount  p0 S post) : MI l yX7_isStepCount wsX7_isStepCount rm_X7_isStepCount [.int p0] D n0 ad cI cJ X S post := by
  refine Met.ofW (cc := cX7_isStepCount) (maxL := 1) (ret := (some .boolean)) (by decide) rfl ?_
  intro p e s m args below meth c s₁ B hml hv
  obtain ⟨rfl, hv⟩ := hv
  have C0 := Bd.mk B hml (atoms_spec (ws := wsX7_isStepCount) B.pre) (findClass_of_methodNamed B.named) hv.1
  have hw : Wh D n0 ad cI cJ X S s s.heap [] := ⟨hv.2.1, hv.2.2, va_S.rf⟩
  refine r_entry (Nat.le_of_ble_eq_true rfl) (fun ls hl => ?_)
  have hl : lv_has ls 1 [(0, .int p0)] := hl
  unfold V_X7_isStepCount at hV
  refine lv_iload_n C0.x C0.b dX7_isStepCount_0 rfl (lv_at hl 0 rfl) ?_
  refine lv_if_lt (tgt := 15) C0.x C0.b dX7_isStepCount_1 (by decide) (fun c1 => ?_) (fun c1 => ?_)
  · have hV := hV.1 c1
    refine lv_iconst (v := 0) C0.x C0.b dX7_isStepCount_15 (by decide) ?_
    exact r_zret C0 rfl bz_0 hw hV dX7_isStepCount_16
  · have hV := hV.2 c1
    refine lv_iload_n C0.x C0.b dX7_isStepCount_4 rfl (lv_at hl 0 rfl) ?_
    refine lv_ldcw (v := 100000) C0.x C0.b C0.ow (C0.ts _ cw_X7_isStepCount_281) dX7_isStepCount_5 ?_
    refine lv_icmp_gt (tgt := 15) C0.x C0.b dX7_isStepCount_8 (by decide) (fun c2 => ?_) (fun c2 => ?_)
    · have hV := hV.1 c2
      refine lv_iconst (v := 0) C0.x C0.b dX7_isStepCount_15 (by decide) ?_
      exact r_zret C0 rfl bz_0 hw hV dX7_isStepCount_16
    · have hV := hV.2 c2
      refine lv_iconst (v := 1) C0.x C0.b dX7_isStepCount_11 (by decide) ?_
      refine lv_goto (tgt := 16) C0.x C0.b dX7_isStepCount_12 (by decide) ?_
      exact r_zret C0 rfl bz_1 hw hV dX7_isStepCount_16
/-! StepBench.refuseWrongStart(JI)V -/
abbrev rm_X7_refuseWrongStart : Room := { frames := 6, cells := 1, slots := 6, locals := 110 }
set_option maxRecDepth 20000 in
theorem tk_X7_refuseWrongStart_347 : Cond.classLink RX7 347 "java/lang/IllegalArgumentException" ∈ wsX7_refuseWrongStart := by decide +kernel
set_option maxRecDepth 20000 in
theorem ti_X7_refuseWrongStart_347 : Cond.initialized "java/lang/IllegalArgumentException" ∈ wsX7_refuseWrongStart := by decide +kernel
set_option maxRecDepth 20000 in
theorem th_X7_refuseWrongStart_351 : ∀ w ∈ (vx_atS RX7 351 "java/lang/IllegalArgumentException" exN).filter goodWord, w ∈ wsX7_refuseWrongStart := by decide +kernel
set_option maxRecDepth 20000 in
theorem fw_X7_refuseWrongStart_9 : Cond.fieldLink RX7 9 "StepBench" "ruleKind" "I" ∈ wsX7_refuseWrongStart := by decide +kernel
set_option maxRecDepth 20000 in
theorem iw_X7_refuseWrongStart_X7 : ∀ w ∈ wsX70, w ∈ wsX7_refuseWrongStart := by decide +kernel
set_option maxRecDepth 20000 in
theorem tk_X7_refuseWrongStart_122 : Cond.classLink RX7 122 "java/lang/IllegalStateException" ∈ wsX7_refuseWrongStart := by decide +kernel
set_option maxRecDepth 20000 in
theorem ti_X7_refuseWrongStart_122 : Cond.initialized "java/lang/IllegalStateException" ∈ wsX7_refuseWrongStart := by decide +kernel
set_option maxRecDepth 20000 in
theorem th_X7_refuseWrongStart_126 : ∀ w ∈ (vx_atS RX7 126 "java/lang/IllegalStateException" exN).filter goodWord, w ∈ wsX7_refuseWrongStart := by decide +kernel
set_option maxRecDepth 20000 in
theorem tk_X7_refuseWrongStart_192 : Cond.classLink RX7 192 "java/lang/ArithmeticException" ∈ wsX7_refuseWrongStart := by decide +kernel
set_option maxRecDepth 20000 in
theorem ti_X7_refuseWrongStart_192 : Cond.initialized "java/lang/ArithmeticException" ∈ wsX7_refuseWrongStart := by decide +kernel
set_option maxRecDepth 20000 in
theorem th_X7_refuseWrongStart_196 : ∀ w ∈ (vx_atS RX7 196 "java/lang/ArithmeticException" exN).filter goodWord, w ∈ wsX7_refuseWrongStart := by decide +kernel
set_option maxRecDepth 20000 in
theorem hd_X7_refuseWrongStart : yX7_refuseWrongStart.cls = RX7 ∧ yX7_refuseWrongStart.cls ≠ "java/lang/invoke/MethodHandle" ∧ yX7_refuseWrongStart.cls ≠ "java/lang/invoke/VarHandle" ∧ (parseMethodDescriptor yX7_refuseWrongStart.desc).map (fun d => d.parameters.length) = some 2 := by decide +kernel
def V_X7_refuseWrongStart  (p0 : Int64) (p1 : Int32) (S : SS) (post : SS → Prop) (px : String → SS → Prop) : Prop :=
  (V_X7_isStepCount p1 S (fun (r1 : Int32) (S2 : SS) => ((r1 = 0 → (px "java/lang/IllegalArgumentException" S2)) ∧ (¬ r1 = 0 → (((gI S2 0) = 0 → (px "java/lang/IllegalStateException" S2)) ∧ (¬ (gI S2 0) = 0 → (V_X7_isNumber p0 S2 (fun (r5 : Int32) (S6 : SS) => ((r5 = 0 → (px "java/lang/ArithmeticException" S6)) ∧ (¬ r5 = 0 → (post S6)))))))))))
set_option maxHeartbeats 4000000 in
set_option maxRecDepth 100000 in
theorem c_X7_refuseWrongStart (hlt : l.stackTraces = false)  {S : SS} {p0 : Int64} {p1 : Int32} {post : SS → Prop} {px : String → SS → Prop} (hV : V_X7_refuseWrongStart  p0 p1 S post px) : XV l yX7_refuseWrongStart wsX7_refuseWrongStart rm_X7_refuseWrongStart [.ref (ad 0), .long p0, .int p1] D n0 ad cI cJ X S post px 1 6 := by
  refine vx_ofW (cc := cX7_refuseWrongStart) (maxL := 4) (ret := none) (by decide) rfl ?_
  intro p e s m args below meth c s₁ B hml ht hv
  obtain ⟨rfl, hv⟩ := hv
  have C0 := Bd.mk B hml (atoms_spec (ws := wsX7_refuseWrongStart) B.pre) (findClass_of_methodNamed B.named) hv.1
  have hw : Wh D n0 ad cI cJ X S s s.heap [] := ⟨hv.2.1, hv.2.2, va_S.rf⟩
  refine r_entry (Nat.le_of_ble_eq_true rfl) (fun ls hl => ?_)
  have hl : lv_has ls 4 [(0, .ref (ad 0)), (1, .long p0), (3, .int p1)] := hl
  unfold V_X7_refuseWrongStart at hV
  refine lv_iload_n C0.x C0.b dX7_refuseWrongStart_0 rfl (lv_at hl 2 rfl) ?_
  refine r_cS_i (As := [.int p1]) (rest := []) C0 hw (c_X7_isStepCount  hV) (va_cwS 1 C0.ts gX7_refuseWrongStart_X7_isStepCount rfl rfl rfl hd_X7_isStepCount ⟨Nat.le_of_ble_eq_true rfl, Nat.le_of_ble_eq_true rfl⟩) rfl hl.1 rfl (Nat.le_of_ble_eq_true rfl) ⟨Nat.le_of_ble_eq_true rfl, Nat.le_of_ble_eq_true rfl⟩ dX7_refuseWrongStart_1 (fun r1 S2 H locs hV hw => ?_)
  refine lv_if_ne (tgt := 18) C0.x C0.b dX7_refuseWrongStart_4 (by decide) (fun c3 => ?_) (fun c3 => ?_)
  · have hV := hV.2 c3
    refine lv_aload_n C0.x C0.b dX7_refuseWrongStart_18 rfl (lv_at hl 0 rfl) ?_
    refine r_get C0 hw (C := RX7) (T := TX7) (N := 15) (v := .int (gI S2 0)) iw_X7_refuseWrongStart_X7 (lg_0 ad cI cJ X S2) rfl 0 (by decide) (C0.ts _ fw_X7_refuseWrongStart_9) rfl dX7_refuseWrongStart_19 ?_
    refine lv_if_ne (tgt := 36) C0.x C0.b dX7_refuseWrongStart_22 (by decide) (fun c4 => ?_) (fun c4 => ?_)
    · have hV := hV.2 c4
      refine lv_lload_n C0.x C0.b dX7_refuseWrongStart_36 rfl (lv_at hl 1 rfl) ?_
      refine r_cS_i (As := [.long p0]) (rest := []) C0 hw (c_X7_isNumber  hV) (va_cwS 1 C0.ts gX7_refuseWrongStart_X7_isNumber rfl rfl rfl hd_X7_isNumber ⟨Nat.le_of_ble_eq_true rfl, Nat.le_of_ble_eq_true rfl⟩) rfl hl.1 rfl (Nat.le_of_ble_eq_true rfl) ⟨Nat.le_of_ble_eq_true rfl, Nat.le_of_ble_eq_true rfl⟩ dX7_refuseWrongStart_37 (fun r5 S6 H locs hV hw => ?_)
      refine lv_if_ne (tgt := 54) C0.x C0.b dX7_refuseWrongStart_40 (by decide) (fun c7 => ?_) (fun c7 => ?_)
      · have hV := hV.2 c7
        exact r_xret (Nat.le_of_ble_eq_true rfl) (Nat.le_of_ble_eq_true rfl) (r_vret C0 rfl hw hV dX7_refuseWrongStart_54)
      · have hV := hV.1 c7
        exact r_thrW (cls := "java/lang/ArithmeticException") (text := "x is no number") C0 hlt ht hw (by decide) (by decide +kernel) (C0.ts _ tk_X7_refuseWrongStart_192) (C0.ts _ ti_X7_refuseWrongStart_192) (by decide +kernel) th_X7_refuseWrongStart_196 hg_196 ho_196 hl.1 dX7_refuseWrongStart_43 dX7_refuseWrongStart_46 dX7_refuseWrongStart_47 dX7_refuseWrongStart_50 dX7_refuseWrongStart_53 (Nat.le_of_ble_eq_true rfl) (Nat.le_of_ble_eq_true rfl) (Nat.le_of_ble_eq_true rfl) (Nat.le_of_ble_eq_true rfl) (Nat.le_of_ble_eq_true rfl) (Nat.le_of_ble_eq_true rfl) hV
    · have hV := hV.1 c4
      exact r_thrW (cls := "java/lang/IllegalStateException") (text := "no rule") C0 hlt ht hw (by decide) (by decide +kernel) (C0.ts _ tk_X7_refuseWrongStart_122) (C0.ts _ ti_X7_refuseWrongStart_122) (by decide +kernel) th_X7_refuseWrongStart_126 hg_126 ho_126 hl.1 dX7_refuseWrongStart_25 dX7_refuseWrongStart_28 dX7_refuseWrongStart_29 dX7_refuseWrongStart_32 dX7_refuseWrongStart_35 (Nat.le_of_ble_eq_true rfl) (Nat.le_of_ble_eq_true rfl) (Nat.le_of_ble_eq_true rfl) (Nat.le_of_ble_eq_true rfl) (Nat.le_of_ble_eq_true rfl) (Nat.le_of_ble_eq_true rfl) hV
  · have hV := hV.1 c3
    exact r_thrW (cls := "java/lang/IllegalArgumentException") (text := "k is not 0 to 100000") C0 hlt ht hw (by decide) (by decide +kernel) (C0.ts _ tk_X7_refuseWrongStart_347) (C0.ts _ ti_X7_refuseWrongStart_347) (by decide +kernel) th_X7_refuseWrongStart_351 hg_351 ho_351 hl.1 dX7_refuseWrongStart_7 dX7_refuseWrongStart_10 dX7_refuseWrongStart_11 dX7_refuseWrongStart_14 dX7_refuseWrongStart_17 (Nat.le_of_ble_eq_true rfl) (Nat.le_of_ble_eq_true rfl) (Nat.le_of_ble_eq_true rfl) (Nat.le_of_ble_eq_true rfl) (Nat.le_of_ble_eq_true rfl) (Nat.le_of_ble_eq_true rfl) hV
/-! StepBench.run(JI)J -/
abbrev rm_X7_run : Room := { frames := 7, cells := 2, slots := 12, locals := 133 }
set_option maxRecDepth 20000 in
theorem cw_X7_run_186 : Cond.constantLong RX7 186 2000000000000000 ∈ wsnX7_run := by decide +kernel
set_option maxRecDepth 20000 in
theorem tk_X7_run_165 : Cond.classLink RX7 165 "java/util/NoSuchElementException" ∈ wsnX7_run := by decide +kernel
set_option maxRecDepth 20000 in
theorem ti_X7_run_165 : Cond.initialized "java/util/NoSuchElementException" ∈ wsnX7_run := by decide +kernel
set_option maxRecDepth 20000 in
theorem th_X7_run_169 : ∀ w ∈ (nsAt RX7 169).filter goodWord, w ∈ wsnX7_run := by decide +kernel
set_option maxRecDepth 20000 in
theorem cw_X7_run_190 : Cond.constantLong RX7 190 3000000000000000 ∈ wsnX7_run := by decide +kernel
set_option maxRecDepth 20000 in
theorem tk_X7_run_192 : Cond.classLink RX7 192 "java/lang/ArithmeticException" ∈ wsnX7_run := by decide +kernel
set_option maxRecDepth 20000 in
theorem ti_X7_run_192 : Cond.initialized "java/lang/ArithmeticException" ∈ wsnX7_run := by decide +kernel
set_option maxRecDepth 20000 in
theorem th_X7_run_196 : ∀ w ∈ (vx_atS RX7 196 "java/lang/ArithmeticException" exN).filter goodWord, w ∈ wsnX7_run := by decide +kernel
set_option maxRecDepth 20000 in
theorem hd_X7_run : yX7_run.cls = RX7 ∧ yX7_run.cls ≠ "java/lang/invoke/MethodHandle" ∧ yX7_run.cls ≠ "java/lang/invoke/VarHandle" ∧ (parseMethodDescriptor yX7_run.desc).map (fun d => d.parameters.length) = some 2 := by decide +kernel
def V_X7_run_12  (v3 : Int32)  (post : Int64 → SS → Prop) (px : String → SS → Prop) : Nat → Int64 → Int32 → SS → Prop
  | 0, _, _, _ => False
  | n + 1, v4, v6, S =>
    ((v3 ≤ v6 → ((v4 = (2000000000000000 : Int64) → (px "java/util/NoSuchElementException" S)) ∧ (¬ v4 = (2000000000000000 : Int64) → ((v4 = (3000000000000000 : Int64) → (px "java/lang/ArithmeticException" S)) ∧ (¬ v4 = (3000000000000000 : Int64) → (post v4 S)))))) ∧ (¬ v3 ≤ v6 → (V_X7_isNumber v4 S (fun (r6 : Int32) (S7 : SS) => ((r6 = 0 → ((v4 = (2000000000000000 : Int64) → (px "java/util/NoSuchElementException" S7)) ∧ (¬ v4 = (2000000000000000 : Int64) → ((v4 = (3000000000000000 : Int64) → (px "java/lang/ArithmeticException" S7)) ∧ (¬ v4 = (3000000000000000 : Int64) → (post v4 S7)))))) ∧ (¬ r6 = 0 → (V_X7_after v4 S7 (fun (r11 : Int64) (S12 : SS) => (∀ x13 : Int32, x13 = v6 + 1 → (V_X7_run_12  v3  post px n r11 x13 S12))))))))))
set_option maxHeartbeats 4000000 in
set_option maxRecDepth 100000 in
theorem lp_X7_run_12  (v3 : Int32)  (post : Int64 → SS → Prop) (px : String → SS → Prop) (C0 : Bd p s m meth c args cX7_run 7 (some .long) wsnX7_run RX7 D n0 cI cJ) (hlt : l.stackTraces = false) (ht : ∀ x ∈ c.exceptionTable.toList, False) : ∀ (n : Nat) (v4 : Int64) (v6 : Int32) (S : SS), V_X7_run_12  v3  post px n v4 v6 S → ∀ (H : Heap) (locs : List Loc), Wh D n0 ad cI cJ X S s H locs → ∀ ls : Array Slot, lv_has ls 7 [(0, .ref (ad 0)), (3, .int v3), (4, .long v4), (6, .int v6)] → W p l e rm_X7_run s m args below meth c H locs 1 6 (vx_MQ below (va_Ql post (fun S' t => Wd D n0 ad cI cJ X S' t) (fr n0)) (XCW px D n0 ad cI cJ X) args s 2 12 (fr n0)) (F0 m 12 ls []) := by
  intro n
  induction n with
  | zero => intro v4 v6 S hV; exact False.elim hV
  | succ n ih =>
    intro v4 v6 S hV H locs hw ls hl
    rw [V_X7_run_12] at hV
    refine lv_iload C0.x C0.b dX7_run_12 (lv_at hl 3 rfl) ?_
    refine lv_iload_n C0.x C0.b dX7_run_14 rfl (lv_at hl 1 rfl) ?_
    refine lv_icmp_ge (tgt := 40) C0.x C0.b dX7_run_15 (by decide) (fun c3 => ?_) (fun c3 => ?_)
    · have hV := hV.1 c3
      refine lv_lload C0.x C0.b dX7_run_40 (lv_at hl 2 rfl) ?_
      refine lv_ldc2 (v := 2000000000000000) C0.x C0.b C0.ow (C0.ts _ cw_X7_run_186) dX7_run_42 ?_
      refine r_lcmp C0 dX7_run_45 ?_
      refine lv_if_ne (tgt := 59) C0.x C0.b dX7_run_46 (by decide) (fun c4 => ?_) (fun c4 => ?_)
      · have hV := hV.2 (fun h => c4 ((lc_eq _ _).mpr h))
        refine lv_lload C0.x C0.b dX7_run_59 (lv_at hl 2 rfl) ?_
        refine lv_ldc2 (v := 3000000000000000) C0.x C0.b C0.ow (C0.ts _ cw_X7_run_190) dX7_run_61 ?_
        refine r_lcmp C0 dX7_run_64 ?_
        refine lv_if_ne (tgt := 78) C0.x C0.b dX7_run_65 (by decide) (fun c5 => ?_) (fun c5 => ?_)
        · have hV := hV.2 (fun h => c5 ((lc_eq _ _).mpr h))
          refine lv_lload C0.x C0.b dX7_run_78 (lv_at hl 2 rfl) ?_
          exact r_xret (Nat.le_of_ble_eq_true rfl) (Nat.le_of_ble_eq_true rfl) (r_lret C0 rfl hw hV dX7_run_80)
        · have hV := hV.1 ((lc_eq _ _).mp c5)
          exact r_thr (cls := "java/lang/ArithmeticException") (text := "beyond the numbers") C0 hlt ht hw (by decide) (by decide +kernel) (C0.ts _ tk_X7_run_192) (C0.ts _ ti_X7_run_192) (by decide +kernel) th_X7_run_196 hg_196 ho_196 hl.1 dX7_run_68 dX7_run_71 dX7_run_72 dX7_run_74 dX7_run_77 (Nat.le_of_ble_eq_true rfl) (Nat.le_of_ble_eq_true rfl) (Nat.le_of_ble_eq_true rfl) (Nat.le_of_ble_eq_true rfl) (Nat.le_of_ble_eq_true rfl) (Nat.le_of_ble_eq_true rfl) hV
      · have hV := hV.1 ((lc_eq _ _).mp c4)
        exact r_nth (text := "the list ends") C0 hlt ht hw (C0.ts _ tk_X7_run_165) (C0.ts _ ti_X7_run_165) (by decide +kernel) th_X7_run_169 hg_169 ho_169 hl.1 dX7_run_49 dX7_run_52 dX7_run_53 dX7_run_55 dX7_run_58 (Nat.le_of_ble_eq_true rfl) (Nat.le_of_ble_eq_true rfl) (Nat.le_of_ble_eq_true rfl) (Nat.le_of_ble_eq_true rfl) (Nat.le_of_ble_eq_true rfl) (Nat.le_of_ble_eq_true rfl) hV
    · have hV := hV.2 c3
      refine lv_lload C0.x C0.b dX7_run_18 (lv_at hl 2 rfl) ?_
      refine r_cS_i (As := [.long v4]) (rest := []) C0 hw (c_X7_isNumber  hV) (va_cwS 1 C0.ts ngX7_run_X7_isNumber rfl rfl rfl hd_X7_isNumber ⟨Nat.le_of_ble_eq_true rfl, Nat.le_of_ble_eq_true rfl⟩) rfl hl.1 rfl (Nat.le_of_ble_eq_true rfl) ⟨Nat.le_of_ble_eq_true rfl, Nat.le_of_ble_eq_true rfl⟩ dX7_run_20 (fun r6 S7 H locs hV hw => ?_)
      refine lv_if_eq (tgt := 40) C0.x C0.b dX7_run_23 (by decide) (fun c8 => ?_) (fun c8 => ?_)
      · have hV := hV.1 c8
        refine lv_lload C0.x C0.b dX7_run_40 (lv_at hl 2 rfl) ?_
        refine lv_ldc2 (v := 2000000000000000) C0.x C0.b C0.ow (C0.ts _ cw_X7_run_186) dX7_run_42 ?_
        refine r_lcmp C0 dX7_run_45 ?_
        refine lv_if_ne (tgt := 59) C0.x C0.b dX7_run_46 (by decide) (fun c9 => ?_) (fun c9 => ?_)
        · have hV := hV.2 (fun h => c9 ((lc_eq _ _).mpr h))
          refine lv_lload C0.x C0.b dX7_run_59 (lv_at hl 2 rfl) ?_
          refine lv_ldc2 (v := 3000000000000000) C0.x C0.b C0.ow (C0.ts _ cw_X7_run_190) dX7_run_61 ?_
          refine r_lcmp C0 dX7_run_64 ?_
          refine lv_if_ne (tgt := 78) C0.x C0.b dX7_run_65 (by decide) (fun c10 => ?_) (fun c10 => ?_)
          · have hV := hV.2 (fun h => c10 ((lc_eq _ _).mpr h))
            refine lv_lload C0.x C0.b dX7_run_78 (lv_at hl 2 rfl) ?_
            exact r_xret (Nat.le_of_ble_eq_true rfl) (Nat.le_of_ble_eq_true rfl) (r_lret C0 rfl hw hV dX7_run_80)
          · have hV := hV.1 ((lc_eq _ _).mp c10)
            exact r_thr (cls := "java/lang/ArithmeticException") (text := "beyond the numbers") C0 hlt ht hw (by decide) (by decide +kernel) (C0.ts _ tk_X7_run_192) (C0.ts _ ti_X7_run_192) (by decide +kernel) th_X7_run_196 hg_196 ho_196 hl.1 dX7_run_68 dX7_run_71 dX7_run_72 dX7_run_74 dX7_run_77 (Nat.le_of_ble_eq_true rfl) (Nat.le_of_ble_eq_true rfl) (Nat.le_of_ble_eq_true rfl) (Nat.le_of_ble_eq_true rfl) (Nat.le_of_ble_eq_true rfl) (Nat.le_of_ble_eq_true rfl) hV
        · have hV := hV.1 ((lc_eq _ _).mp c9)
          exact r_nth (text := "the list ends") C0 hlt ht hw (C0.ts _ tk_X7_run_165) (C0.ts _ ti_X7_run_165) (by decide +kernel) th_X7_run_169 hg_169 ho_169 hl.1 dX7_run_49 dX7_run_52 dX7_run_53 dX7_run_55 dX7_run_58 (Nat.le_of_ble_eq_true rfl) (Nat.le_of_ble_eq_true rfl) (Nat.le_of_ble_eq_true rfl) (Nat.le_of_ble_eq_true rfl) (Nat.le_of_ble_eq_true rfl) (Nat.le_of_ble_eq_true rfl) hV
      · have hV := hV.2 c8
        refine lv_aload_n C0.x C0.b dX7_run_26 rfl (lv_at hl 0 rfl) ?_
        refine lv_lload C0.x C0.b dX7_run_27 (lv_at hl 2 rfl) ?_
        refine r_cV_l (As := [.long v4]) (rest := []) C0 hw (c_X7_after  hV) (cwV 1 C0.ts ngX7_run_X7_after rfl rfl rfl hd_X7_after ⟨Nat.le_of_ble_eq_true rfl, Nat.le_of_ble_eq_true rfl⟩) (lg_0 ad cI cJ X S7) rfl rfl hl.1 rfl (Nat.le_of_ble_eq_true rfl) ⟨Nat.le_of_ble_eq_true rfl, Nat.le_of_ble_eq_true rfl⟩ dX7_run_29 (fun r11 S12 H locs hV hw => ?_)
        refine lv_lstore (lv' := [(4, .long r11), (0, .ref (ad 0)), (3, .int v3), (6, .int v6)]) C0.x C0.b dX7_run_32 hl (by decide) rfl (fun ls hl => ?_)
        obtain ⟨x13, ex13⟩ : ∃ z : Int32, z = v6 + 1 := ⟨_, rfl⟩
        have hV := hV x13 ex13
        refine lv_iinc (v := x13) (lv' := [(6, .int x13), (4, .long r11), (0, .ref (ad 0)), (3, .int v3)]) C0.x C0.b dX7_run_34 hl (k := 3) rfl (by rw [ex13]; rfl) (by decide) rfl (fun ls hl => ?_)
        refine lv_goto (tgt := 12) C0.x C0.b dX7_run_37 (by decide) ?_
        exact ih _ _ _ hV _ _ hw _ (lv_sub hl [2, 3, 1, 0] rfl)
def V_X7_run  (p0 : Int64) (p1 : Int32) (S : SS) (post : Int64 → SS → Prop) (px : String → SS → Prop) : Prop :=
  (V_X7_refuseWrongStart p0 p1 S (fun (S2 : SS) => (∃ n12 : Nat, V_X7_run_12  p1  post px n12 p0 (0 : Int32) S2)) px)
set_option maxHeartbeats 4000000 in
set_option maxRecDepth 100000 in
theorem c_X7_run (hlt : l.stackTraces = false)  {S : SS} {p0 : Int64} {p1 : Int32} {post : Int64 → SS → Prop} {px : String → SS → Prop} (hV : V_X7_run  p0 p1 S post px) : XL l yX7_run wsnX7_run rm_X7_run [.ref (ad 0), .long p0, .int p1] D n0 ad cI cJ X S post px 2 12 := by
  refine vx_ofW (cc := cX7_run) (maxL := 7) (ret := (some .long)) (by decide) rfl ?_
  intro p e s m args below meth c s₁ B hml ht hv
  obtain ⟨rfl, hv⟩ := hv
  have C0 := Bd.mk B hml (atoms_spec (ws := wsnX7_run) B.pre) (findClass_of_methodNamed B.named) hv.1
  have hw : Wh D n0 ad cI cJ X S s s.heap [] := ⟨hv.2.1, hv.2.2, va_S.rf⟩
  refine r_entry (Nat.le_of_ble_eq_true rfl) (fun ls hl => ?_)
  have hl : lv_has ls 7 [(0, .ref (ad 0)), (1, .long p0), (3, .int p1)] := hl
  unfold V_X7_run at hV
  refine lv_aload_n C0.x C0.b dX7_run_0 rfl (lv_at hl 0 rfl) ?_
  refine lv_lload_n C0.x C0.b dX7_run_1 rfl (lv_at hl 1 rfl) ?_
  refine lv_iload_n C0.x C0.b dX7_run_2 rfl (lv_at hl 2 rfl) ?_
  refine r_xV_v (As := [.long p0, .int p1]) (rest := []) C0 hw (c_X7_refuseWrongStart hlt  hV) (cwV 2 C0.ts ngX7_run_X7_refuseWrongStart rfl rfl rfl hd_X7_refuseWrongStart ⟨Nat.le_of_ble_eq_true rfl, Nat.le_of_ble_eq_true rfl⟩) (lg_0 ad cI cJ X S) rfl rfl hl.1 rfl (Nat.le_of_ble_eq_true rfl) ⟨Nat.le_of_ble_eq_true rfl, Nat.le_of_ble_eq_true rfl⟩ dX7_run_3 (r_out C0 ht (Nat.le_of_ble_eq_true rfl) (Nat.le_of_ble_eq_true rfl)) (fun S2 H locs hV hw => ?_)
  refine lv_lload_n C0.x C0.b dX7_run_6 rfl (lv_at hl 1 rfl) ?_
  refine lv_lstore (lv' := [(4, .long p0), (0, .ref (ad 0)), (1, .long p0), (3, .int p1)]) C0.x C0.b dX7_run_7 hl (by decide) rfl (fun ls hl => ?_)
  refine lv_iconst (v := 0) C0.x C0.b dX7_run_9 (by decide) ?_
  refine lv_istore (lv' := [(6, .int (0 : Int32)), (4, .long p0), (0, .ref (ad 0)), (1, .long p0), (3, .int p1)]) C0.x C0.b dX7_run_10 hl (by decide) rfl (fun ls hl => ?_)
  obtain ⟨n12, hV⟩ := hV
  exact lp_X7_run_12  _ post px C0 hlt ht  n12 _ _ _ hV _ _ hw _ (lv_sub hl [2, 4, 1, 0] rfl)
/-! StepBench.step(J)J -/
abbrev rm_X7_step : Room := { frames := 8, cells := 2, slots := 12, locals := 159 }
set_option maxRecDepth 20000 in
theorem hd_X7_step : yX7_step.cls = RX7 ∧ yX7_step.cls ≠ "java/lang/invoke/MethodHandle" ∧ yX7_step.cls ≠ "java/lang/invoke/VarHandle" ∧ (parseMethodDescriptor yX7_step.desc).map (fun d => d.parameters.length) = some 1 := by decide +kernel
def V_X7_step  (p0 : Int64) (S : SS) (post : Int64 → SS → Prop) (px : String → SS → Prop) : Prop :=
  (V_X7_run p0 (1 : Int32) S (fun (r1 : Int64) (S2 : SS) => (post r1 S2)) px)
set_option maxHeartbeats 4000000 in
set_option maxRecDepth 100000 in
theorem c_X7_step (hlt : l.stackTraces = false)  {S : SS} {p0 : Int64} {post : Int64 → SS → Prop} {px : String → SS → Prop} (hV : V_X7_step  p0 S post px) : XL l yX7_step wsnX7_step rm_X7_step [.ref (ad 0), .long p0] D n0 ad cI cJ X S post px 2 12 := by
  refine vx_ofW (cc := cX7_step) (maxL := 3) (ret := (some .long)) (by decide) rfl ?_
  intro p e s m args below meth c s₁ B hml ht hv
  obtain ⟨rfl, hv⟩ := hv
  have C0 := Bd.mk B hml (atoms_spec (ws := wsnX7_step) B.pre) (findClass_of_methodNamed B.named) hv.1
  have hw : Wh D n0 ad cI cJ X S s s.heap [] := ⟨hv.2.1, hv.2.2, va_S.rf⟩
  refine r_entry (Nat.le_of_ble_eq_true rfl) (fun ls hl => ?_)
  have hl : lv_has ls 3 [(0, .ref (ad 0)), (1, .long p0)] := hl
  unfold V_X7_step at hV
  refine lv_aload_n C0.x C0.b dX7_step_0 rfl (lv_at hl 0 rfl) ?_
  refine lv_lload_n C0.x C0.b dX7_step_1 rfl (lv_at hl 1 rfl) ?_
  refine lv_iconst (v := 1) C0.x C0.b dX7_step_2 (by decide) ?_
  refine r_xV_l (As := [.long p0, .int (1 : Int32)]) (rest := []) C0 hw (c_X7_run hlt  hV) (cwV 2 C0.ts ngX7_step_X7_run rfl rfl rfl hd_X7_run ⟨Nat.le_of_ble_eq_true rfl, Nat.le_of_ble_eq_true rfl⟩) (lg_0 ad cI cJ X S) rfl rfl hl.1 rfl (Nat.le_of_ble_eq_true rfl) ⟨Nat.le_of_ble_eq_true rfl, Nat.le_of_ble_eq_true rfl⟩ dX7_step_3 (r_out C0 ht (Nat.le_of_ble_eq_true rfl) (Nat.le_of_ble_eq_true rfl)) (fun r1 S2 H locs hV hw => ?_)
  exact r_xret (Nat.le_of_ble_eq_true rfl) (Nat.le_of_ble_eq_true rfl) (r_lret C0 rfl hw hV dX7_step_6)
/-! StepBench.until(JJI)I -/
abbrev rm_X7_until : Room := { frames := 5, cells := 0, slots := 0, locals := 112 }
set_option maxRecDepth 20000 in
theorem fw_X7_until_9 : Cond.fieldLink RX7 9 "StepBench" "ruleKind" "I" ∈ wsX7_until := by decide +kernel
set_option maxRecDepth 20000 in
theorem iw_X7_until_X7 : ∀ w ∈ wsX70, w ∈ wsX7_until := by decide +kernel
set_option maxRecDepth 20000 in
theorem hd_X7_until : yX7_until.cls = RX7 ∧ yX7_until.cls ≠ "java/lang/invoke/MethodHandle" ∧ yX7_until.cls ≠ "java/lang/invoke/VarHandle" ∧ (parseMethodDescriptor yX7_until.desc).map (fun d => d.parameters.length) = some 3 := by decide +kernel
def V_X7_until_45  (v3 : Int64) (v5 : Int32)  (post : Int32 → SS → Prop) : Nat → Int64 → Int32 → SS → Prop
  | 0, _, _, _ => False
  | n + 1, v6, v8, S =>
    ((v5 < v8 → (post (-2 : Int32) S)) ∧ (¬ v5 < v8 → (V_X7_after v6 S (fun (r13 : Int64) (S14 : SS) => (V_X7_isNumber r13 S14 (fun (r15 : Int32) (S16 : SS) => ((r15 = 0 → (post (-1 : Int32) S16)) ∧ (¬ r15 = 0 → ((r13 = v3 → (post v8 S16)) ∧ (¬ r13 = v3 → (∀ x19 : Int32, x19 = v8 + 1 → (V_X7_until_45  v3 v5  post n r13 x19 S16))))))))))))
set_option maxHeartbeats 4000000 in
set_option maxRecDepth 100000 in
theorem lp_X7_until_45  (v3 : Int64) (v5 : Int32)  (post : Int32 → SS → Prop) (C0 : Bd p s m meth c args cX7_until 9 (some .int) wsX7_until RX7 D n0 cI cJ) : ∀ (n : Nat) (v6 : Int64) (v8 : Int32) (S : SS), V_X7_until_45  v3 v5  post n v6 v8 S → ∀ (H : Heap) (locs : List Loc), Wh D n0 ad cI cJ X S s H locs → ∀ ls : Array Slot, lv_has ls 9 [(0, .ref (ad 0)), (3, .long v3), (5, .int v5), (6, .long v6), (8, .int v8)] → W p l e rm_X7_until s m args below meth c H locs 0 0 (MQ below (va_Qi post (fun S' t => Wd D n0 ad cI cJ X S' t) (fr n0)) args s 0 0 (fr n0)) (F0 m 45 ls []) := by
  intro n
  induction n with
  | zero => intro v6 v8 S hV; exact False.elim hV
  | succ n ih =>
    intro v6 v8 S hV H locs hw ls hl
    rw [V_X7_until_45] at hV
    refine lv_iload C0.x C0.b dX7_until_45 (lv_at hl 4 rfl) ?_
    refine lv_iload C0.x C0.b dX7_until_47 (lv_at hl 2 rfl) ?_
    refine lv_icmp_gt (tgt := 86) C0.x C0.b dX7_until_49 (by decide) (fun c12 => ?_) (fun c12 => ?_)
    · have hV := hV.1 c12
      refine lv_bipush (v := -2) C0.x C0.b dX7_until_86 (by decide) ?_
      exact r_iret C0 rfl hw hV dX7_until_88
    · have hV := hV.2 c12
      refine lv_aload_n C0.x C0.b dX7_until_52 rfl (lv_at hl 0 rfl) ?_
      refine lv_lload C0.x C0.b dX7_until_53 (lv_at hl 3 rfl) ?_
      refine r_cV_l (As := [.long v6]) (rest := []) C0 hw (c_X7_after  hV) (cwV 1 C0.ts gX7_until_X7_after rfl rfl rfl hd_X7_after ⟨Nat.le_of_ble_eq_true rfl, Nat.le_of_ble_eq_true rfl⟩) (lg_0 ad cI cJ X S) rfl rfl hl.1 rfl (Nat.le_of_ble_eq_true rfl) ⟨Nat.le_of_ble_eq_true rfl, Nat.le_of_ble_eq_true rfl⟩ dX7_until_55 (fun r13 S14 H locs hV hw => ?_)
      refine lv_lstore (lv' := [(6, .long r13), (0, .ref (ad 0)), (3, .long v3), (5, .int v5), (8, .int v8)]) C0.x C0.b dX7_until_58 hl (by decide) rfl (fun ls hl => ?_)
      refine lv_lload C0.x C0.b dX7_until_60 (lv_at hl 0 rfl) ?_
      refine r_cS_i (As := [.long r13]) (rest := []) C0 hw (c_X7_isNumber  hV) (va_cwS 1 C0.ts gX7_until_X7_isNumber rfl rfl rfl hd_X7_isNumber ⟨Nat.le_of_ble_eq_true rfl, Nat.le_of_ble_eq_true rfl⟩) rfl hl.1 rfl (Nat.le_of_ble_eq_true rfl) ⟨Nat.le_of_ble_eq_true rfl, Nat.le_of_ble_eq_true rfl⟩ dX7_until_62 (fun r15 S16 H locs hV hw => ?_)
      refine lv_if_ne (tgt := 70) C0.x C0.b dX7_until_65 (by decide) (fun c17 => ?_) (fun c17 => ?_)
      · have hV := hV.2 c17
        refine lv_lload C0.x C0.b dX7_until_70 (lv_at hl 0 rfl) ?_
        refine lv_lload_n C0.x C0.b dX7_until_72 rfl (lv_at hl 2 rfl) ?_
        refine r_lcmp C0 dX7_until_73 ?_
        refine lv_if_ne (tgt := 80) C0.x C0.b dX7_until_74 (by decide) (fun c18 => ?_) (fun c18 => ?_)
        · have hV := hV.2 (fun h => c18 ((lc_eq _ _).mpr h))
          obtain ⟨x19, ex19⟩ : ∃ z : Int32, z = v8 + 1 := ⟨_, rfl⟩
          have hV := hV x19 ex19
          refine lv_iinc (v := x19) (lv' := [(8, .int x19), (6, .long r13), (0, .ref (ad 0)), (3, .long v3), (5, .int v5)]) C0.x C0.b dX7_until_80 hl (k := 4) rfl (by rw [ex19]; rfl) (by decide) rfl (fun ls hl => ?_)
          refine lv_goto (tgt := 45) C0.x C0.b dX7_until_83 (by decide) ?_
          exact ih _ _ _ hV _ _ hw _ (lv_sub hl [2, 3, 4, 1, 0] rfl)
        · have hV := hV.1 ((lc_eq _ _).mp c18)
          refine lv_iload C0.x C0.b dX7_until_77 (lv_at hl 4 rfl) ?_
          exact r_iret C0 rfl hw hV dX7_until_79
      · have hV := hV.1 c17
        refine lv_iconst (v := -1) C0.x C0.b dX7_until_68 (by decide) ?_
        exact r_iret C0 rfl hw hV dX7_until_69
def V_X7_until  (p0 : Int64) (p1 : Int64) (p2 : Int32) (S : SS) (post : Int32 → SS → Prop) : Prop :=
  (((gI S 0) = 0 → (post (-1 : Int32) S)) ∧ (¬ (gI S 0) = 0 → (V_X7_isNumber p0 S (fun (r2 : Int32) (S3 : SS) => ((r2 = 0 → (post (-1 : Int32) S3)) ∧ (¬ r2 = 0 → (V_X7_isNumber p1 S3 (fun (r5 : Int32) (S6 : SS) => ((r5 = 0 → (post (-1 : Int32) S6)) ∧ (¬ r5 = 0 → (V_X7_isStepCount p2 S6 (fun (r8 : Int32) (S9 : SS) => ((r8 = 0 → (post (-1 : Int32) S9)) ∧ (¬ r8 = 0 → ((p0 = p1 → (post (0 : Int32) S9)) ∧ (¬ p0 = p1 → (∃ n45 : Nat, V_X7_until_45  p1 p2  post n45 p0 (1 : Int32) S9)))))))))))))))))
set_option maxHeartbeats 4000000 in
set_option maxRecDepth 100000 in
theorem c_X7_until  {S : SS} {p0 : Int64} {p1 : Int64} {p2 : Int32} {post : Int32 → SS → Prop} (hV : V_X7_until  p0 p1 p2 S post) : MI l yX7_until wsX7_until rm_X7_until [.ref (ad 0), .long p0, .long p1, .int p2] D n0 ad cI cJ X S post := by
  refine Met.ofW (cc := cX7_until) (maxL := 9) (ret := (some .int)) (by decide) rfl ?_
  intro p e s m args below meth c s₁ B hml hv
  obtain ⟨rfl, hv⟩ := hv
  have C0 := Bd.mk B hml (atoms_spec (ws := wsX7_until) B.pre) (findClass_of_methodNamed B.named) hv.1
  have hw : Wh D n0 ad cI cJ X S s s.heap [] := ⟨hv.2.1, hv.2.2, va_S.rf⟩
  refine r_entry (Nat.le_of_ble_eq_true rfl) (fun ls hl => ?_)
  have hl : lv_has ls 9 [(0, .ref (ad 0)), (1, .long p0), (3, .long p1), (5, .int p2)] := hl
  unfold V_X7_until at hV
  refine lv_aload_n C0.x C0.b dX7_until_0 rfl (lv_at hl 0 rfl) ?_
  refine r_get C0 hw (C := RX7) (T := TX7) (N := 15) (v := .int (gI S 0)) iw_X7_until_X7 (lg_0 ad cI cJ X S) rfl 0 (by decide) (C0.ts _ fw_X7_until_9) rfl dX7_until_1 ?_
  refine lv_if_eq (tgt := 29) C0.x C0.b dX7_until_4 (by decide) (fun c1 => ?_) (fun c1 => ?_)
  · have hV := hV.1 c1
    refine lv_iconst (v := -1) C0.x C0.b dX7_until_29 (by decide) ?_
    exact r_iret C0 rfl hw hV dX7_until_30
  · have hV := hV.2 c1
    refine lv_lload_n C0.x C0.b dX7_until_7 rfl (lv_at hl 1 rfl) ?_
    refine r_cS_i (As := [.long p0]) (rest := []) C0 hw (c_X7_isNumber  hV) (va_cwS 1 C0.ts gX7_until_X7_isNumber rfl rfl rfl hd_X7_isNumber ⟨Nat.le_of_ble_eq_true rfl, Nat.le_of_ble_eq_true rfl⟩) rfl hl.1 rfl (Nat.le_of_ble_eq_true rfl) ⟨Nat.le_of_ble_eq_true rfl, Nat.le_of_ble_eq_true rfl⟩ dX7_until_8 (fun r2 S3 H locs hV hw => ?_)
    refine lv_if_eq (tgt := 29) C0.x C0.b dX7_until_11 (by decide) (fun c4 => ?_) (fun c4 => ?_)
    · have hV := hV.1 c4
      refine lv_iconst (v := -1) C0.x C0.b dX7_until_29 (by decide) ?_
      exact r_iret C0 rfl hw hV dX7_until_30
    · have hV := hV.2 c4
      refine lv_lload_n C0.x C0.b dX7_until_14 rfl (lv_at hl 2 rfl) ?_
      refine r_cS_i (As := [.long p1]) (rest := []) C0 hw (c_X7_isNumber  hV) (va_cwS 1 C0.ts gX7_until_X7_isNumber rfl rfl rfl hd_X7_isNumber ⟨Nat.le_of_ble_eq_true rfl, Nat.le_of_ble_eq_true rfl⟩) rfl hl.1 rfl (Nat.le_of_ble_eq_true rfl) ⟨Nat.le_of_ble_eq_true rfl, Nat.le_of_ble_eq_true rfl⟩ dX7_until_15 (fun r5 S6 H locs hV hw => ?_)
      refine lv_if_eq (tgt := 29) C0.x C0.b dX7_until_18 (by decide) (fun c7 => ?_) (fun c7 => ?_)
      · have hV := hV.1 c7
        refine lv_iconst (v := -1) C0.x C0.b dX7_until_29 (by decide) ?_
        exact r_iret C0 rfl hw hV dX7_until_30
      · have hV := hV.2 c7
        refine lv_iload C0.x C0.b dX7_until_21 (lv_at hl 3 rfl) ?_
        refine r_cS_i (As := [.int p2]) (rest := []) C0 hw (c_X7_isStepCount  hV) (va_cwS 1 C0.ts gX7_until_X7_isStepCount rfl rfl rfl hd_X7_isStepCount ⟨Nat.le_of_ble_eq_true rfl, Nat.le_of_ble_eq_true rfl⟩) rfl hl.1 rfl (Nat.le_of_ble_eq_true rfl) ⟨Nat.le_of_ble_eq_true rfl, Nat.le_of_ble_eq_true rfl⟩ dX7_until_23 (fun r8 S9 H locs hV hw => ?_)
        refine lv_if_ne (tgt := 31) C0.x C0.b dX7_until_26 (by decide) (fun c10 => ?_) (fun c10 => ?_)
        · have hV := hV.2 c10
          refine lv_lload_n C0.x C0.b dX7_until_31 rfl (lv_at hl 1 rfl) ?_
          refine lv_lload_n C0.x C0.b dX7_until_32 rfl (lv_at hl 2 rfl) ?_
          refine r_lcmp C0 dX7_until_33 ?_
          refine lv_if_ne (tgt := 39) C0.x C0.b dX7_until_34 (by decide) (fun c11 => ?_) (fun c11 => ?_)
          · have hV := hV.2 (fun h => c11 ((lc_eq _ _).mpr h))
            refine lv_lload_n C0.x C0.b dX7_until_39 rfl (lv_at hl 1 rfl) ?_
            refine lv_lstore (lv' := [(6, .long p0), (0, .ref (ad 0)), (1, .long p0), (3, .long p1), (5, .int p2)]) C0.x C0.b dX7_until_40 hl (by decide) rfl (fun ls hl => ?_)
            refine lv_iconst (v := 1) C0.x C0.b dX7_until_42 (by decide) ?_
            refine lv_istore (lv' := [(8, .int (1 : Int32)), (6, .long p0), (0, .ref (ad 0)), (1, .long p0), (3, .long p1), (5, .int p2)]) C0.x C0.b dX7_until_43 hl (by decide) rfl (fun ls hl => ?_)
            obtain ⟨n45, hV⟩ := hV
            exact lp_X7_until_45  _ _ post C0  n45 _ _ _ hV _ _ hw _ (lv_sub hl [2, 4, 5, 1, 0] rfl)
          · have hV := hV.1 ((lc_eq _ _).mp c11)
            refine lv_iconst (v := 0) C0.x C0.b dX7_until_37 (by decide) ?_
            exact r_iret C0 rfl hw hV dX7_until_38
        · have hV := hV.1 c10
          refine lv_iconst (v := -1) C0.x C0.b dX7_until_29 (by decide) ?_
          exact r_iret C0 rfl hw hV dX7_until_30
/-! StepBench.stepsTillBelow(JI)I -/
abbrev rm_X7_stepsTillBelow : Room := { frames := 5, cells := 0, slots := 0, locals := 112 }
set_option maxRecDepth 20000 in
theorem hd_X7_stepsTillBelow : yX7_stepsTillBelow.cls = RX7 ∧ yX7_stepsTillBelow.cls ≠ "java/lang/invoke/MethodHandle" ∧ yX7_stepsTillBelow.cls ≠ "java/lang/invoke/VarHandle" ∧ (parseMethodDescriptor yX7_stepsTillBelow.desc).map (fun d => d.parameters.length) = some 2 := by decide +kernel
def V_X7_stepsTillBelow_6  (v1 : Int64) (v3 : Int32)  (post : Int32 → SS → Prop) : Nat → Int64 → Int32 → SS → Prop
  | 0, _, _, _ => False
  | n + 1, v4, v6, S =>
    ((v3 < v6 → (post (-2 : Int32) S)) ∧ (¬ v3 < v6 → (V_X7_after v4 S (fun (r2 : Int64) (S3 : SS) => (V_X7_isNumber r2 S3 (fun (r4 : Int32) (S5 : SS) => ((r4 = 0 → (post (-1 : Int32) S5)) ∧ (¬ r4 = 0 → ((v1 ≤ r2 → (∀ x8 : Int32, x8 = v6 + 1 → (V_X7_stepsTillBelow_6  v1 v3  post n r2 x8 S5))) ∧ (¬ v1 ≤ r2 → (post v6 S5)))))))))))
set_option maxHeartbeats 4000000 in
set_option maxRecDepth 100000 in
theorem lp_X7_stepsTillBelow_6  (v1 : Int64) (v3 : Int32)  (post : Int32 → SS → Prop) (C0 : Bd p s m meth c args cX7_stepsTillBelow 7 (some .int) wsX7_stepsTillBelow RX7 D n0 cI cJ) : ∀ (n : Nat) (v4 : Int64) (v6 : Int32) (S : SS), V_X7_stepsTillBelow_6  v1 v3  post n v4 v6 S → ∀ (H : Heap) (locs : List Loc), Wh D n0 ad cI cJ X S s H locs → ∀ ls : Array Slot, lv_has ls 7 [(0, .ref (ad 0)), (1, .long v1), (3, .int v3), (4, .long v4), (6, .int v6)] → W p l e rm_X7_stepsTillBelow s m args below meth c H locs 0 0 (MQ below (va_Qi post (fun S' t => Wd D n0 ad cI cJ X S' t) (fr n0)) args s 0 0 (fr n0)) (F0 m 6 ls []) := by
  intro n
  induction n with
  | zero => intro v4 v6 S hV; exact False.elim hV
  | succ n ih =>
    intro v4 v6 S hV H locs hw ls hl
    rw [V_X7_stepsTillBelow_6] at hV
    refine lv_iload C0.x C0.b dX7_stepsTillBelow_6 (lv_at hl 4 rfl) ?_
    refine lv_iload_n C0.x C0.b dX7_stepsTillBelow_8 rfl (lv_at hl 2 rfl) ?_
    refine lv_icmp_gt (tgt := 46) C0.x C0.b dX7_stepsTillBelow_9 (by decide) (fun c1 => ?_) (fun c1 => ?_)
    · have hV := hV.1 c1
      refine lv_bipush (v := -2) C0.x C0.b dX7_stepsTillBelow_46 (by decide) ?_
      exact r_iret C0 rfl hw hV dX7_stepsTillBelow_48
    · have hV := hV.2 c1
      refine lv_aload_n C0.x C0.b dX7_stepsTillBelow_12 rfl (lv_at hl 0 rfl) ?_
      refine lv_lload C0.x C0.b dX7_stepsTillBelow_13 (lv_at hl 3 rfl) ?_
      refine r_cV_l (As := [.long v4]) (rest := []) C0 hw (c_X7_after  hV) (cwV 1 C0.ts gX7_stepsTillBelow_X7_after rfl rfl rfl hd_X7_after ⟨Nat.le_of_ble_eq_true rfl, Nat.le_of_ble_eq_true rfl⟩) (lg_0 ad cI cJ X S) rfl rfl hl.1 rfl (Nat.le_of_ble_eq_true rfl) ⟨Nat.le_of_ble_eq_true rfl, Nat.le_of_ble_eq_true rfl⟩ dX7_stepsTillBelow_15 (fun r2 S3 H locs hV hw => ?_)
      refine lv_lstore (lv' := [(4, .long r2), (0, .ref (ad 0)), (1, .long v1), (3, .int v3), (6, .int v6)]) C0.x C0.b dX7_stepsTillBelow_18 hl (by decide) rfl (fun ls hl => ?_)
      refine lv_lload C0.x C0.b dX7_stepsTillBelow_20 (lv_at hl 0 rfl) ?_
      refine r_cS_i (As := [.long r2]) (rest := []) C0 hw (c_X7_isNumber  hV) (va_cwS 1 C0.ts gX7_stepsTillBelow_X7_isNumber rfl rfl rfl hd_X7_isNumber ⟨Nat.le_of_ble_eq_true rfl, Nat.le_of_ble_eq_true rfl⟩) rfl hl.1 rfl (Nat.le_of_ble_eq_true rfl) ⟨Nat.le_of_ble_eq_true rfl, Nat.le_of_ble_eq_true rfl⟩ dX7_stepsTillBelow_22 (fun r4 S5 H locs hV hw => ?_)
      refine lv_if_ne (tgt := 30) C0.x C0.b dX7_stepsTillBelow_25 (by decide) (fun c6 => ?_) (fun c6 => ?_)
      · have hV := hV.2 c6
        refine lv_lload C0.x C0.b dX7_stepsTillBelow_30 (lv_at hl 0 rfl) ?_
        refine lv_lload_n C0.x C0.b dX7_stepsTillBelow_32 rfl (lv_at hl 2 rfl) ?_
        refine r_lcmp C0 dX7_stepsTillBelow_33 ?_
        refine lv_if_ge (tgt := 40) C0.x C0.b dX7_stepsTillBelow_34 (by decide) (fun c7 => ?_) (fun c7 => ?_)
        · have hV := hV.1 ((lc_ge _ _).mp c7)
          obtain ⟨x8, ex8⟩ : ∃ z : Int32, z = v6 + 1 := ⟨_, rfl⟩
          have hV := hV x8 ex8
          refine lv_iinc (v := x8) (lv' := [(6, .int x8), (4, .long r2), (0, .ref (ad 0)), (1, .long v1), (3, .int v3)]) C0.x C0.b dX7_stepsTillBelow_40 hl (k := 4) rfl (by rw [ex8]; rfl) (by decide) rfl (fun ls hl => ?_)
          refine lv_goto (tgt := 6) C0.x C0.b dX7_stepsTillBelow_43 (by decide) ?_
          exact ih _ _ _ hV _ _ hw _ (lv_sub hl [2, 3, 4, 1, 0] rfl)
        · have hV := hV.2 (fun h => c7 ((lc_ge _ _).mpr h))
          refine lv_iload C0.x C0.b dX7_stepsTillBelow_37 (lv_at hl 4 rfl) ?_
          exact r_iret C0 rfl hw hV dX7_stepsTillBelow_39
      · have hV := hV.1 c6
        refine lv_iconst (v := -1) C0.x C0.b dX7_stepsTillBelow_28 (by decide) ?_
        exact r_iret C0 rfl hw hV dX7_stepsTillBelow_29
def V_X7_stepsTillBelow  (p0 : Int64) (p1 : Int32) (S : SS) (post : Int32 → SS → Prop) : Prop :=
  (∃ n6 : Nat, V_X7_stepsTillBelow_6  p0 p1  post n6 p0 (1 : Int32) S)
set_option maxHeartbeats 4000000 in
set_option maxRecDepth 100000 in
theorem c_X7_stepsTillBelow  {S : SS} {p0 : Int64} {p1 : Int32} {post : Int32 → SS → Prop} (hV : V_X7_stepsTillBelow  p0 p1 S post) : MI l yX7_stepsTillBelow wsX7_stepsTillBelow rm_X7_stepsTillBelow [.ref (ad 0), .long p0, .int p1] D n0 ad cI cJ X S post := by
  refine Met.ofW (cc := cX7_stepsTillBelow) (maxL := 7) (ret := (some .int)) (by decide) rfl ?_
  intro p e s m args below meth c s₁ B hml hv
  obtain ⟨rfl, hv⟩ := hv
  have C0 := Bd.mk B hml (atoms_spec (ws := wsX7_stepsTillBelow) B.pre) (findClass_of_methodNamed B.named) hv.1
  have hw : Wh D n0 ad cI cJ X S s s.heap [] := ⟨hv.2.1, hv.2.2, va_S.rf⟩
  refine r_entry (Nat.le_of_ble_eq_true rfl) (fun ls hl => ?_)
  have hl : lv_has ls 7 [(0, .ref (ad 0)), (1, .long p0), (3, .int p1)] := hl
  unfold V_X7_stepsTillBelow at hV
  refine lv_lload_n C0.x C0.b dX7_stepsTillBelow_0 rfl (lv_at hl 1 rfl) ?_
  refine lv_lstore (lv' := [(4, .long p0), (0, .ref (ad 0)), (1, .long p0), (3, .int p1)]) C0.x C0.b dX7_stepsTillBelow_1 hl (by decide) rfl (fun ls hl => ?_)
  refine lv_iconst (v := 1) C0.x C0.b dX7_stepsTillBelow_3 (by decide) ?_
  refine lv_istore (lv' := [(6, .int (1 : Int32)), (4, .long p0), (0, .ref (ad 0)), (1, .long p0), (3, .int p1)]) C0.x C0.b dX7_stepsTillBelow_4 hl (by decide) rfl (fun ls hl => ?_)
  obtain ⟨n6, hV⟩ := hV
  exact lp_X7_stepsTillBelow_6  _ _ post C0  n6 _ _ _ hV _ _ hw _ (lv_sub hl [2, 3, 4, 1, 0] rfl)
/-! StepBench.height(JI)I -/
abbrev rm_X7_height : Room := { frames := 6, cells := 0, slots := 0, locals := 138 }
set_option maxRecDepth 20000 in
theorem fw_X7_height_9 : Cond.fieldLink RX7 9 "StepBench" "ruleKind" "I" ∈ wsX7_height := by decide +kernel
set_option maxRecDepth 20000 in
theorem iw_X7_height_X7 : ∀ w ∈ wsX70, w ∈ wsX7_height := by decide +kernel
set_option maxRecDepth 20000 in
theorem hd_X7_height : yX7_height.cls = RX7 ∧ yX7_height.cls ≠ "java/lang/invoke/MethodHandle" ∧ yX7_height.cls ≠ "java/lang/invoke/VarHandle" ∧ (parseMethodDescriptor yX7_height.desc).map (fun d => d.parameters.length) = some 2 := by decide +kernel
def V_X7_height  (p0 : Int64) (p1 : Int32) (S : SS) (post : Int32 → SS → Prop) : Prop :=
  (((gI S 0) = 0 → (post (-1 : Int32) S)) ∧ (¬ (gI S 0) = 0 → (V_X7_isNumber p0 S (fun (r2 : Int32) (S3 : SS) => ((r2 = 0 → (post (-1 : Int32) S3)) ∧ (¬ r2 = 0 → (V_X7_isStepCount p1 S3 (fun (r5 : Int32) (S6 : SS) => ((r5 = 0 → (post (-1 : Int32) S6)) ∧ (¬ r5 = 0 → (V_X7_stepsTillBelow p0 p1 S6 (fun (r8 : Int32) (S9 : SS) => (post r8 S9)))))))))))))
set_option maxHeartbeats 4000000 in
set_option maxRecDepth 100000 in
theorem c_X7_height  {S : SS} {p0 : Int64} {p1 : Int32} {post : Int32 → SS → Prop} (hV : V_X7_height  p0 p1 S post) : MI l yX7_height wsX7_height rm_X7_height [.ref (ad 0), .long p0, .int p1] D n0 ad cI cJ X S post := by
  refine Met.ofW (cc := cX7_height) (maxL := 4) (ret := (some .int)) (by decide) rfl ?_
  intro p e s m args below meth c s₁ B hml hv
  obtain ⟨rfl, hv⟩ := hv
  have C0 := Bd.mk B hml (atoms_spec (ws := wsX7_height) B.pre) (findClass_of_methodNamed B.named) hv.1
  have hw : Wh D n0 ad cI cJ X S s s.heap [] := ⟨hv.2.1, hv.2.2, va_S.rf⟩
  refine r_entry (Nat.le_of_ble_eq_true rfl) (fun ls hl => ?_)
  have hl : lv_has ls 4 [(0, .ref (ad 0)), (1, .long p0), (3, .int p1)] := hl
  unfold V_X7_height at hV
  refine lv_aload_n C0.x C0.b dX7_height_0 rfl (lv_at hl 0 rfl) ?_
  refine r_get C0 hw (C := RX7) (T := TX7) (N := 15) (v := .int (gI S 0)) iw_X7_height_X7 (lg_0 ad cI cJ X S) rfl 0 (by decide) (C0.ts _ fw_X7_height_9) rfl dX7_height_1 ?_
  refine lv_if_eq (tgt := 21) C0.x C0.b dX7_height_4 (by decide) (fun c1 => ?_) (fun c1 => ?_)
  · have hV := hV.1 c1
    refine lv_iconst (v := -1) C0.x C0.b dX7_height_21 (by decide) ?_
    exact r_iret C0 rfl hw hV dX7_height_22
  · have hV := hV.2 c1
    refine lv_lload_n C0.x C0.b dX7_height_7 rfl (lv_at hl 1 rfl) ?_
    refine r_cS_i (As := [.long p0]) (rest := []) C0 hw (c_X7_isNumber  hV) (va_cwS 1 C0.ts gX7_height_X7_isNumber rfl rfl rfl hd_X7_isNumber ⟨Nat.le_of_ble_eq_true rfl, Nat.le_of_ble_eq_true rfl⟩) rfl hl.1 rfl (Nat.le_of_ble_eq_true rfl) ⟨Nat.le_of_ble_eq_true rfl, Nat.le_of_ble_eq_true rfl⟩ dX7_height_8 (fun r2 S3 H locs hV hw => ?_)
    refine lv_if_eq (tgt := 21) C0.x C0.b dX7_height_11 (by decide) (fun c4 => ?_) (fun c4 => ?_)
    · have hV := hV.1 c4
      refine lv_iconst (v := -1) C0.x C0.b dX7_height_21 (by decide) ?_
      exact r_iret C0 rfl hw hV dX7_height_22
    · have hV := hV.2 c4
      refine lv_iload_n C0.x C0.b dX7_height_14 rfl (lv_at hl 2 rfl) ?_
      refine r_cS_i (As := [.int p1]) (rest := []) C0 hw (c_X7_isStepCount  hV) (va_cwS 1 C0.ts gX7_height_X7_isStepCount rfl rfl rfl hd_X7_isStepCount ⟨Nat.le_of_ble_eq_true rfl, Nat.le_of_ble_eq_true rfl⟩) rfl hl.1 rfl (Nat.le_of_ble_eq_true rfl) ⟨Nat.le_of_ble_eq_true rfl, Nat.le_of_ble_eq_true rfl⟩ dX7_height_15 (fun r5 S6 H locs hV hw => ?_)
      refine lv_if_ne (tgt := 23) C0.x C0.b dX7_height_18 (by decide) (fun c7 => ?_) (fun c7 => ?_)
      · have hV := hV.2 c7
        refine lv_aload_n C0.x C0.b dX7_height_23 rfl (lv_at hl 0 rfl) ?_
        refine lv_lload_n C0.x C0.b dX7_height_24 rfl (lv_at hl 1 rfl) ?_
        refine lv_iload_n C0.x C0.b dX7_height_25 rfl (lv_at hl 2 rfl) ?_
        refine r_cV_i (As := [.long p0, .int p1]) (rest := []) C0 hw (c_X7_stepsTillBelow  hV) (cwV 2 C0.ts gX7_height_X7_stepsTillBelow rfl rfl rfl hd_X7_stepsTillBelow ⟨Nat.le_of_ble_eq_true rfl, Nat.le_of_ble_eq_true rfl⟩) (lg_0 ad cI cJ X S6) rfl rfl hl.1 rfl (Nat.le_of_ble_eq_true rfl) ⟨Nat.le_of_ble_eq_true rfl, Nat.le_of_ble_eq_true rfl⟩ dX7_height_26 (fun r8 S9 H locs hV hw => ?_)
        exact r_iret C0 rfl hw hV dX7_height_29
      · have hV := hV.1 c7
        refine lv_iconst (v := -1) C0.x C0.b dX7_height_21 (by decide) ?_
        exact r_iret C0 rfl hw hV dX7_height_22
/-! StepBench.peak(JI)J -/
abbrev rm_X7_peak : Room := { frames := 7, cells := 1, slots := 6, locals := 133 }
set_option maxRecDepth 20000 in
theorem ml_X7_peak_204 : Cond.methodLink RX7 204 Lib.MathLoose.max_long.x ∈ wsX7_peak := by decide +kernel
set_option maxRecDepth 20000 in
theorem ms_X7_peak_204 : Cond.static Lib.MathLoose.max_long.x ∈ wsX7_peak := by decide +kernel
set_option maxRecDepth 20000 in
theorem mi_X7_peak_204 : Cond.initialized "java/lang/Math" ∈ wsX7_peak := by decide +kernel
set_option maxRecDepth 20000 in
theorem mc_X7_peak_204 : Cond.code Lib.MathLoose.max_long.x Lib.MathLoose.max_long.code 4 (some .long) ∈ wsX7_peak := by decide +kernel
set_option maxRecDepth 20000 in
theorem hd_X7_peak : yX7_peak.cls = RX7 ∧ yX7_peak.cls ≠ "java/lang/invoke/MethodHandle" ∧ yX7_peak.cls ≠ "java/lang/invoke/VarHandle" ∧ (parseMethodDescriptor yX7_peak.desc).map (fun d => d.parameters.length) = some 2 := by decide +kernel
def V_X7_peak_15  (v3 : Int32)  (post : Int64 → SS → Prop) (px : String → SS → Prop) : Nat → Int64 → Int64 → Int32 → SS → Prop
  | 0, _, _, _, _ => False
  | n + 1, v4, v6, v8, S =>
    ((v3 ≤ v8 → (post v4 S)) ∧ (¬ v3 ≤ v8 → (V_X7_after v6 S (fun (r4 : Int64) (S5 : SS) => (V_X7_isNumber r4 S5 (fun (r6 : Int32) (S7 : SS) => ((r6 = 0 → (post v4 S7)) ∧ (¬ r6 = 0 → (∀ y9 : Int64, y9 = (mxL v4 r4) → (∀ x10 : Int32, x10 = v8 + 1 → (V_X7_peak_15  v3  post px n y9 r4 x10 S7)))))))))))
set_option maxHeartbeats 4000000 in
set_option maxRecDepth 100000 in
theorem lp_X7_peak_15  (v3 : Int32)  (post : Int64 → SS → Prop) (px : String → SS → Prop) (C0 : Bd p s m meth c args cX7_peak 9 (some .long) wsX7_peak RX7 D n0 cI cJ) (hlt : l.stackTraces = false) (ht : ∀ x ∈ c.exceptionTable.toList, False) : ∀ (n : Nat) (v4 : Int64) (v6 : Int64) (v8 : Int32) (S : SS), V_X7_peak_15  v3  post px n v4 v6 v8 S → ∀ (H : Heap) (locs : List Loc), Wh D n0 ad cI cJ X S s H locs → ∀ ls : Array Slot, lv_has ls 9 [(0, .ref (ad 0)), (3, .int v3), (4, .long v4), (6, .long v6), (8, .int v8)] → W p l e rm_X7_peak s m args below meth c H locs 1 6 (vx_MQ below (va_Ql post (fun S' t => Wd D n0 ad cI cJ X S' t) (fr n0)) (XCW px D n0 ad cI cJ X) args s 1 6 (fr n0)) (F0 m 15 ls []) := by
  intro n
  induction n with
  | zero => intro v4 v6 v8 S hV; exact False.elim hV
  | succ n ih =>
    intro v4 v6 v8 S hV H locs hw ls hl
    rw [V_X7_peak_15] at hV
    refine lv_iload C0.x C0.b dX7_peak_15 (lv_at hl 4 rfl) ?_
    refine lv_iload_n C0.x C0.b dX7_peak_17 rfl (lv_at hl 1 rfl) ?_
    refine lv_icmp_ge (tgt := 55) C0.x C0.b dX7_peak_18 (by decide) (fun c3 => ?_) (fun c3 => ?_)
    · have hV := hV.1 c3
      refine lv_lload C0.x C0.b dX7_peak_55 (lv_at hl 2 rfl) ?_
      exact r_xret (Nat.le_of_ble_eq_true rfl) (Nat.le_of_ble_eq_true rfl) (r_lret C0 rfl hw hV dX7_peak_57)
    · have hV := hV.2 c3
      refine lv_aload_n C0.x C0.b dX7_peak_21 rfl (lv_at hl 0 rfl) ?_
      refine lv_lload C0.x C0.b dX7_peak_22 (lv_at hl 3 rfl) ?_
      refine r_cV_l (As := [.long v6]) (rest := []) C0 hw (c_X7_after  hV) (cwV 1 C0.ts gX7_peak_X7_after rfl rfl rfl hd_X7_after ⟨Nat.le_of_ble_eq_true rfl, Nat.le_of_ble_eq_true rfl⟩) (lg_0 ad cI cJ X S) rfl rfl hl.1 rfl (Nat.le_of_ble_eq_true rfl) ⟨Nat.le_of_ble_eq_true rfl, Nat.le_of_ble_eq_true rfl⟩ dX7_peak_24 (fun r4 S5 H locs hV hw => ?_)
      refine lv_lstore (lv' := [(6, .long r4), (0, .ref (ad 0)), (3, .int v3), (4, .long v4), (8, .int v8)]) C0.x C0.b dX7_peak_27 hl (by decide) rfl (fun ls hl => ?_)
      refine lv_lload C0.x C0.b dX7_peak_29 (lv_at hl 0 rfl) ?_
      refine r_cS_i (As := [.long r4]) (rest := []) C0 hw (c_X7_isNumber  hV) (va_cwS 1 C0.ts gX7_peak_X7_isNumber rfl rfl rfl hd_X7_isNumber ⟨Nat.le_of_ble_eq_true rfl, Nat.le_of_ble_eq_true rfl⟩) rfl hl.1 rfl (Nat.le_of_ble_eq_true rfl) ⟨Nat.le_of_ble_eq_true rfl, Nat.le_of_ble_eq_true rfl⟩ dX7_peak_31 (fun r6 S7 H locs hV hw => ?_)
      refine lv_if_ne (tgt := 40) C0.x C0.b dX7_peak_34 (by decide) (fun c8 => ?_) (fun c8 => ?_)
      · have hV := hV.2 c8
        refine lv_lload C0.x C0.b dX7_peak_40 (lv_at hl 3 rfl) ?_
        refine lv_lload C0.x C0.b dX7_peak_42 (lv_at hl 0 rfl) ?_
        refine va_mmax_long C0.x C0.b (C0.ml.trans hl.1.symm) C0.ow (C0.ts _ ml_X7_peak_204) (C0.ts _ ms_X7_peak_204) (C0.ts _ mi_X7_peak_204) (C0.ts _ mc_X7_peak_204) (Nat.le_of_ble_eq_true rfl) (Nat.le_of_ble_eq_true rfl) (Nat.le_of_ble_eq_true rfl) (Nat.le_of_ble_eq_true rfl) dX7_peak_44 ?_
        refine lv_topl (fun y9 ey9 => ?_)
        have hV := hV y9 ey9
        refine lv_lstore (lv' := [(4, .long y9), (6, .long r4), (0, .ref (ad 0)), (3, .int v3), (8, .int v8)]) C0.x C0.b dX7_peak_47 hl (by decide) rfl (fun ls hl => ?_)
        obtain ⟨x10, ex10⟩ : ∃ z : Int32, z = v8 + 1 := ⟨_, rfl⟩
        have hV := hV x10 ex10
        refine lv_iinc (v := x10) (lv' := [(8, .int x10), (4, .long y9), (6, .long r4), (0, .ref (ad 0)), (3, .int v3)]) C0.x C0.b dX7_peak_49 hl (k := 4) rfl (by rw [ex10]; rfl) (by decide) rfl (fun ls hl => ?_)
        refine lv_goto (tgt := 15) C0.x C0.b dX7_peak_52 (by decide) ?_
        exact ih _ _ _ _ hV _ _ hw _ (lv_sub hl [3, 4, 1, 2, 0] rfl)
      · have hV := hV.1 c8
        refine lv_lload C0.x C0.b dX7_peak_37 (lv_at hl 3 rfl) ?_
        exact r_xret (Nat.le_of_ble_eq_true rfl) (Nat.le_of_ble_eq_true rfl) (r_lret C0 rfl hw hV dX7_peak_39)
def V_X7_peak  (p0 : Int64) (p1 : Int32) (S : SS) (post : Int64 → SS → Prop) (px : String → SS → Prop) : Prop :=
  (V_X7_refuseWrongStart p0 p1 S (fun (S2 : SS) => (∃ n15 : Nat, V_X7_peak_15  p1  post px n15 p0 p0 (0 : Int32) S2)) px)
set_option maxHeartbeats 4000000 in
set_option maxRecDepth 100000 in
theorem c_X7_peak (hlt : l.stackTraces = false)  {S : SS} {p0 : Int64} {p1 : Int32} {post : Int64 → SS → Prop} {px : String → SS → Prop} (hV : V_X7_peak  p0 p1 S post px) : XL l yX7_peak wsX7_peak rm_X7_peak [.ref (ad 0), .long p0, .int p1] D n0 ad cI cJ X S post px 1 6 := by
  refine vx_ofW (cc := cX7_peak) (maxL := 9) (ret := (some .long)) (by decide) rfl ?_
  intro p e s m args below meth c s₁ B hml ht hv
  obtain ⟨rfl, hv⟩ := hv
  have C0 := Bd.mk B hml (atoms_spec (ws := wsX7_peak) B.pre) (findClass_of_methodNamed B.named) hv.1
  have hw : Wh D n0 ad cI cJ X S s s.heap [] := ⟨hv.2.1, hv.2.2, va_S.rf⟩
  refine r_entry (Nat.le_of_ble_eq_true rfl) (fun ls hl => ?_)
  have hl : lv_has ls 9 [(0, .ref (ad 0)), (1, .long p0), (3, .int p1)] := hl
  unfold V_X7_peak at hV
  refine lv_aload_n C0.x C0.b dX7_peak_0 rfl (lv_at hl 0 rfl) ?_
  refine lv_lload_n C0.x C0.b dX7_peak_1 rfl (lv_at hl 1 rfl) ?_
  refine lv_iload_n C0.x C0.b dX7_peak_2 rfl (lv_at hl 2 rfl) ?_
  refine r_xV_v (As := [.long p0, .int p1]) (rest := []) C0 hw (c_X7_refuseWrongStart hlt  hV) (cwV 2 C0.ts gX7_peak_X7_refuseWrongStart rfl rfl rfl hd_X7_refuseWrongStart ⟨Nat.le_of_ble_eq_true rfl, Nat.le_of_ble_eq_true rfl⟩) (lg_0 ad cI cJ X S) rfl rfl hl.1 rfl (Nat.le_of_ble_eq_true rfl) ⟨Nat.le_of_ble_eq_true rfl, Nat.le_of_ble_eq_true rfl⟩ dX7_peak_3 (r_out C0 ht (Nat.le_of_ble_eq_true rfl) (Nat.le_of_ble_eq_true rfl)) (fun S2 H locs hV hw => ?_)
  refine lv_lload_n C0.x C0.b dX7_peak_6 rfl (lv_at hl 1 rfl) ?_
  refine lv_lstore (lv' := [(4, .long p0), (0, .ref (ad 0)), (1, .long p0), (3, .int p1)]) C0.x C0.b dX7_peak_7 hl (by decide) rfl (fun ls hl => ?_)
  refine lv_lload_n C0.x C0.b dX7_peak_9 rfl (lv_at hl 2 rfl) ?_
  refine lv_lstore (lv' := [(6, .long p0), (4, .long p0), (0, .ref (ad 0)), (1, .long p0), (3, .int p1)]) C0.x C0.b dX7_peak_10 hl (by decide) rfl (fun ls hl => ?_)
  refine lv_iconst (v := 0) C0.x C0.b dX7_peak_12 (by decide) ?_
  refine lv_istore (lv' := [(8, .int (0 : Int32)), (6, .long p0), (4, .long p0), (0, .ref (ad 0)), (1, .long p0), (3, .int p1)]) C0.x C0.b dX7_peak_13 hl (by decide) rfl (fun ls hl => ?_)
  obtain ⟨n15, hV⟩ := hV
  exact lp_X7_peak_15  _ post px C0 hlt ht  n15 _ _ _ _ hV _ _ hw _ (lv_sub hl [3, 5, 2, 1, 0] rfl)
/-! StepBench.signOf(J)I -/
abbrev rm_X7_signOf : Room := { frames := 3, cells := 0, slots := 0, locals := 65 }
set_option maxRecDepth 20000 in
theorem fw_X7_signOf_9 : Cond.fieldLink RX7 9 "StepBench" "ruleKind" "I" ∈ wsX7_signOf := by decide +kernel
set_option maxRecDepth 20000 in
theorem iw_X7_signOf_X7 : ∀ w ∈ wsX70, w ∈ wsX7_signOf := by decide +kernel
set_option maxRecDepth 20000 in
theorem fw_X7_signOf_16 : Cond.fieldLink RX7 16 "StepBench" "rule" "LStepBench$Shares;" ∈ wsX7_signOf := by decide +kernel
set_option maxRecDepth 20000 in
theorem fw_X7_signOf_29 : Cond.fieldLink RX7 29 "StepBench" "fractions" "LStepBench$Fractions;" ∈ wsX7_signOf := by decide +kernel
set_option maxRecDepth 20000 in
theorem hd_X7_signOf : yX7_signOf.cls = RX7 ∧ yX7_signOf.cls ≠ "java/lang/invoke/MethodHandle" ∧ yX7_signOf.cls ≠ "java/lang/invoke/VarHandle" ∧ (parseMethodDescriptor yX7_signOf.desc).map (fun d => d.parameters.length) = some 1 := by decide +kernel
def V_X7_signOf  (p0 : Int64) (S : SS) (post : Int32 → SS → Prop) : Prop :=
  (((gI S 0) = (1 : Int32) → (V_X5_restOf 1 0 1 2 p0 S (fun (r2 : Int32) (S3 : SS) => (post r2 S3)))) ∧ (¬ (gI S 0) = (1 : Int32) → (V_X0_firstFit p0 S (fun (r4 : Int32) (S5 : SS) => (post r4 S5)))))
set_option maxHeartbeats 4000000 in
set_option maxRecDepth 100000 in
theorem c_X7_signOf  {S : SS} {p0 : Int64} {post : Int32 → SS → Prop} (hV : V_X7_signOf  p0 S post) : MI l yX7_signOf wsX7_signOf rm_X7_signOf [.ref (ad 0), .long p0] D n0 ad cI cJ X S post := by
  refine Met.ofW (cc := cX7_signOf) (maxL := 3) (ret := (some .int)) (by decide) rfl ?_
  intro p e s m args below meth c s₁ B hml hv
  obtain ⟨rfl, hv⟩ := hv
  have C0 := Bd.mk B hml (atoms_spec (ws := wsX7_signOf) B.pre) (findClass_of_methodNamed B.named) hv.1
  have hw : Wh D n0 ad cI cJ X S s s.heap [] := ⟨hv.2.1, hv.2.2, va_S.rf⟩
  refine r_entry (Nat.le_of_ble_eq_true rfl) (fun ls hl => ?_)
  have hl : lv_has ls 3 [(0, .ref (ad 0)), (1, .long p0)] := hl
  unfold V_X7_signOf at hV
  refine lv_aload_n C0.x C0.b dX7_signOf_0 rfl (lv_at hl 0 rfl) ?_
  refine r_get C0 hw (C := RX7) (T := TX7) (N := 15) (v := .int (gI S 0)) iw_X7_signOf_X7 (lg_0 ad cI cJ X S) rfl 0 (by decide) (C0.ts _ fw_X7_signOf_9) rfl dX7_signOf_1 ?_
  refine lv_iconst (v := 1) C0.x C0.b dX7_signOf_4 (by decide) ?_
  refine lv_icmp_ne (tgt := 19) C0.x C0.b dX7_signOf_5 (by decide) (fun c1 => ?_) (fun c1 => ?_)
  · have hV := hV.2 c1
    refine lv_aload_n C0.x C0.b dX7_signOf_19 rfl (lv_at hl 0 rfl) ?_
    refine r_get C0 hw (C := RX7) (T := TX7) (N := 15) (v := .ref (ad 13)) iw_X7_signOf_X7 (lg_0 ad cI cJ X S) rfl 4 (by decide) (C0.ts _ fw_X7_signOf_29) rfl dX7_signOf_20 ?_
    refine lv_lload_n C0.x C0.b dX7_signOf_23 rfl (lv_at hl 1 rfl) ?_
    refine r_cV_i (As := [.long p0]) (rest := []) C0 hw (c_X0_firstFit  hV) (cwV 1 C0.ts gX7_signOf_X0_firstFit rfl rfl rfl hd_X0_firstFit ⟨Nat.le_of_ble_eq_true rfl, Nat.le_of_ble_eq_true rfl⟩) (lg_13 ad cI cJ X S) rfl rfl hl.1 rfl (Nat.le_of_ble_eq_true rfl) ⟨Nat.le_of_ble_eq_true rfl, Nat.le_of_ble_eq_true rfl⟩ dX7_signOf_24 (fun r4 S5 H locs hV hw => ?_)
    exact r_iret C0 rfl hw hV dX7_signOf_27
  · have hV := hV.1 c1
    refine lv_aload_n C0.x C0.b dX7_signOf_8 rfl (lv_at hl 0 rfl) ?_
    refine r_get C0 hw (C := RX7) (T := TX7) (N := 15) (v := .ref (ad 1)) iw_X7_signOf_X7 (lg_0 ad cI cJ X S) rfl 1 (by decide) (C0.ts _ fw_X7_signOf_16) rfl dX7_signOf_9 ?_
    refine lv_lload_n C0.x C0.b dX7_signOf_12 rfl (lv_at hl 1 rfl) ?_
    refine r_cV_i (As := [.long p0]) (rest := []) C0 hw (c_X5_restOf (ln_1 ad cI cJ X) hV) (cwV 1 C0.ts gX7_signOf_X5_restOf rfl rfl rfl hd_X5_restOf ⟨Nat.le_of_ble_eq_true rfl, Nat.le_of_ble_eq_true rfl⟩) (lg_1 ad cI cJ X S) rfl rfl hl.1 rfl (Nat.le_of_ble_eq_true rfl) ⟨Nat.le_of_ble_eq_true rfl, Nat.le_of_ble_eq_true rfl⟩ dX7_signOf_13 (fun r2 S3 H locs hV hw => ?_)
    refine lv_goto (tgt := 27) C0.x C0.b dX7_signOf_16 (by decide) ?_
    exact r_iret C0 rfl hw hV dX7_signOf_27
/-! StepBench.word(JI)I -/
abbrev rm_X7_word : Room := { frames := 5, cells := 0, slots := 0, locals := 112 }
set_option maxRecDepth 20000 in
theorem fw_X7_word_9 : Cond.fieldLink RX7 9 "StepBench" "ruleKind" "I" ∈ wsX7_word := by decide +kernel
set_option maxRecDepth 20000 in
theorem iw_X7_word_X7 : ∀ w ∈ wsX70, w ∈ wsX7_word := by decide +kernel
set_option maxRecDepth 20000 in
theorem fw_X7_word_49 : Cond.fieldLink RX7 49 "StepBench" "found" "LStepBench$Numbers;" ∈ wsX7_word := by decide +kernel
set_option maxRecDepth 20000 in
theorem fw_X7_word_45 : Cond.fieldLink RX7 45 "StepBench" "numbers" "LStepBench$Numbers;" ∈ wsX7_word := by decide +kernel
set_option maxRecDepth 20000 in
theorem cw_X7_word_190 : Cond.constantLong RX7 190 3000000000000000 ∈ wsX7_word := by decide +kernel
set_option maxRecDepth 20000 in
theorem hd_X7_word : yX7_word.cls = RX7 ∧ yX7_word.cls ≠ "java/lang/invoke/MethodHandle" ∧ yX7_word.cls ≠ "java/lang/invoke/VarHandle" ∧ (parseMethodDescriptor yX7_word.desc).map (fun d => d.parameters.length) = some 2 := by decide +kernel
def V_X7_word_40  (v3 : Int32)  (post : Int32 → SS → Prop) : Nat → Int64 → Int32 → SS → Prop
  | 0, _, _, _ => False
  | n + 1, v4, v6, S =>
    ((v3 ≤ v6 → (V_X2_become 7 12 1000 8 13 1000 S (fun (S11 : SS) => (V_X2_size 7 12 1000 S11 (fun (r12 : Int32) (S13 : SS) => (post r12 S13)))))) ∧ (¬ v3 ≤ v6 → ((v6 ≤ 0 → ((v4 = (3000000000000000 : Int64) → (post (-1 : Int32) S)) ∧ (¬ v4 = (3000000000000000 : Int64) → (V_X7_signOf v4 S (fun (r16 : Int32) (S17 : SS) => ((0 ≤ r16 → (V_X2_add 8 13 1000 r16.toInt64 S17 (fun (r19 : Int32) (S20 : SS) => (∀ x21 : Int32, x21 = v6 + 1 → (V_X7_word_40  v3  post n v4 x21 S20))))) ∧ (¬ 0 ≤ r16 → (V_X2_become 7 12 1000 8 13 1000 S17 (fun (S23 : SS) => (V_X2_size 7 12 1000 S23 (fun (r24 : Int32) (S25 : SS) => (post r24 S25)))))))))))) ∧ (¬ v6 ≤ 0 → (V_X7_after v4 S (fun (r26 : Int64) (S27 : SS) => ((r26 = (3000000000000000 : Int64) → (post (-1 : Int32) S27)) ∧ (¬ r26 = (3000000000000000 : Int64) → (V_X7_signOf r26 S27 (fun (r29 : Int32) (S30 : SS) => ((0 ≤ r29 → (V_X2_add 8 13 1000 r29.toInt64 S30 (fun (r32 : Int32) (S33 : SS) => (∀ x34 : Int32, x34 = v6 + 1 → (V_X7_word_40  v3  post n r26 x34 S33))))) ∧ (¬ 0 ≤ r29 → (V_X2_become 7 12 1000 8 13 1000 S30 (fun (S36 : SS) => (V_X2_size 7 12 1000 S36 (fun (r37 : Int32) (S38 : SS) => (post r37 S38)))))))))))))))))
set_option maxHeartbeats 4000000 in
set_option maxRecDepth 100000 in
theorem lp_X7_word_40  (v3 : Int32)  (post : Int32 → SS → Prop) (C0 : Bd p s m meth c args cX7_word 8 (some .int) wsX7_word RX7 D n0 cI cJ) : ∀ (n : Nat) (v4 : Int64) (v6 : Int32) (S : SS), V_X7_word_40  v3  post n v4 v6 S → ∀ (H : Heap) (locs : List Loc), Wh D n0 ad cI cJ X S s H locs → ∀ ls : Array Slot, lv_has ls 8 [(0, .ref (ad 0)), (3, .int v3), (4, .long v4), (6, .int v6)] → W p l e rm_X7_word s m args below meth c H locs 0 0 (MQ below (va_Qi post (fun S' t => Wd D n0 ad cI cJ X S' t) (fr n0)) args s 0 0 (fr n0)) (F0 m 40 ls []) := by
  intro n
  induction n with
  | zero => intro v4 v6 S hV; exact False.elim hV
  | succ n ih =>
    intro v4 v6 S hV H locs hw ls hl
    rw [V_X7_word_40] at hV
    refine lv_iload C0.x C0.b dX7_word_40 (lv_at hl 3 rfl) ?_
    refine lv_iload_n C0.x C0.b dX7_word_42 rfl (lv_at hl 1 rfl) ?_
    refine lv_icmp_ge (tgt := 103) C0.x C0.b dX7_word_43 (by decide) (fun c9 => ?_) (fun c9 => ?_)
    · have hV := hV.1 c9
      refine lv_aload_n C0.x C0.b dX7_word_103 rfl (lv_at hl 0 rfl) ?_
      refine r_get C0 hw (C := RX7) (T := TX7) (N := 15) (v := .ref (ad 19)) iw_X7_word_X7 (lg_0 ad cI cJ X S) rfl 6 (by decide) (C0.ts _ fw_X7_word_45) rfl dX7_word_104 ?_
      refine lv_aload_n C0.x C0.b dX7_word_107 rfl (lv_at hl 0 rfl) ?_
      refine r_get C0 hw (C := RX7) (T := TX7) (N := 15) (v := .ref (ad 21)) iw_X7_word_X7 (lg_0 ad cI cJ X S) rfl 7 (by decide) (C0.ts _ fw_X7_word_49) rfl dX7_word_108 ?_
      refine r_cV_v (As := [.ref (ad 21)]) (rest := []) C0 hw (c_X2_become (ln_19 ad cI cJ X) (ln_21 ad cI cJ X) hV) (cwV 1 C0.ts gX7_word_X2_become rfl rfl rfl hd_X2_become ⟨Nat.le_of_ble_eq_true rfl, Nat.le_of_ble_eq_true rfl⟩) (lg_19 ad cI cJ X S) rfl rfl hl.1 rfl (Nat.le_of_ble_eq_true rfl) ⟨Nat.le_of_ble_eq_true rfl, Nat.le_of_ble_eq_true rfl⟩ dX7_word_111 (fun S11 H locs hV hw => ?_)
      refine lv_aload_n C0.x C0.b dX7_word_114 rfl (lv_at hl 0 rfl) ?_
      refine r_get C0 hw (C := RX7) (T := TX7) (N := 15) (v := .ref (ad 19)) iw_X7_word_X7 (lg_0 ad cI cJ X S11) rfl 6 (by decide) (C0.ts _ fw_X7_word_45) rfl dX7_word_115 ?_
      refine r_cV_i (As := []) (rest := []) C0 hw (c_X2_size (ln_19 ad cI cJ X) hV) (cwV 0 C0.ts gX7_word_X2_size rfl rfl rfl hd_X2_size ⟨Nat.le_of_ble_eq_true rfl, Nat.le_of_ble_eq_true rfl⟩) (lg_19 ad cI cJ X S11) rfl rfl hl.1 rfl (Nat.le_of_ble_eq_true rfl) ⟨Nat.le_of_ble_eq_true rfl, Nat.le_of_ble_eq_true rfl⟩ dX7_word_118 (fun r12 S13 H locs hV hw => ?_)
      exact r_iret C0 rfl hw hV dX7_word_121
    · have hV := hV.2 c9
      refine lv_iload C0.x C0.b dX7_word_46 (lv_at hl 3 rfl) ?_
      refine lv_if_le (tgt := 59) C0.x C0.b dX7_word_48 (by decide) (fun c14 => ?_) (fun c14 => ?_)
      · have hV := hV.1 c14
        refine lv_lload C0.x C0.b dX7_word_59 (lv_at hl 2 rfl) ?_
        refine lv_ldc2 (v := 3000000000000000) C0.x C0.b C0.ow (C0.ts _ cw_X7_word_190) dX7_word_61 ?_
        refine r_lcmp C0 dX7_word_64 ?_
        refine lv_if_ne (tgt := 70) C0.x C0.b dX7_word_65 (by decide) (fun c15 => ?_) (fun c15 => ?_)
        · have hV := hV.2 (fun h => c15 ((lc_eq _ _).mpr h))
          refine lv_aload_n C0.x C0.b dX7_word_70 rfl (lv_at hl 0 rfl) ?_
          refine lv_lload C0.x C0.b dX7_word_71 (lv_at hl 2 rfl) ?_
          refine r_cV_i (As := [.long v4]) (rest := []) C0 hw (c_X7_signOf  hV) (cwV 1 C0.ts gX7_word_X7_signOf rfl rfl rfl hd_X7_signOf ⟨Nat.le_of_ble_eq_true rfl, Nat.le_of_ble_eq_true rfl⟩) (lg_0 ad cI cJ X S) rfl rfl hl.1 rfl (Nat.le_of_ble_eq_true rfl) ⟨Nat.le_of_ble_eq_true rfl, Nat.le_of_ble_eq_true rfl⟩ dX7_word_73 (fun r16 S17 H locs hV hw => ?_)
          refine lv_istore (lv' := [(7, .int r16), (0, .ref (ad 0)), (3, .int v3), (4, .long v4), (6, .int v6)]) C0.x C0.b dX7_word_76 hl (by decide) rfl (fun ls hl => ?_)
          refine lv_iload C0.x C0.b dX7_word_78 (lv_at hl 0 rfl) ?_
          refine lv_if_ge (tgt := 86) C0.x C0.b dX7_word_80 (by decide) (fun c18 => ?_) (fun c18 => ?_)
          · have hV := hV.1 c18
            refine lv_aload_n C0.x C0.b dX7_word_86 rfl (lv_at hl 1 rfl) ?_
            refine r_get C0 hw (C := RX7) (T := TX7) (N := 15) (v := .ref (ad 21)) iw_X7_word_X7 (lg_0 ad cI cJ X S17) rfl 7 (by decide) (C0.ts _ fw_X7_word_49) rfl dX7_word_87 ?_
            refine lv_iload C0.x C0.b dX7_word_90 (lv_at hl 0 rfl) ?_
            refine lv_i2l C0.x C0.b dX7_word_92 rfl ?_
            refine r_cV_i (As := [.long r16.toInt64]) (rest := []) C0 hw (c_X2_add (ln_21 ad cI cJ X) hV) (cwV 1 C0.ts gX7_word_X2_add rfl rfl rfl hd_X2_add ⟨Nat.le_of_ble_eq_true rfl, Nat.le_of_ble_eq_true rfl⟩) (lg_21 ad cI cJ X S17) rfl rfl hl.1 rfl (Nat.le_of_ble_eq_true rfl) ⟨Nat.le_of_ble_eq_true rfl, Nat.le_of_ble_eq_true rfl⟩ dX7_word_93 (fun r19 S20 H locs hV hw => ?_)
            refine lv_pop C0.x C0.b dX7_word_96 rfl ?_
            obtain ⟨x21, ex21⟩ : ∃ z : Int32, z = v6 + 1 := ⟨_, rfl⟩
            have hV := hV x21 ex21
            refine lv_iinc (v := x21) (lv' := [(6, .int x21), (7, .int r16), (0, .ref (ad 0)), (3, .int v3), (4, .long v4)]) C0.x C0.b dX7_word_97 hl (k := 4) rfl (by rw [ex21]; rfl) (by decide) rfl (fun ls hl => ?_)
            refine lv_goto (tgt := 40) C0.x C0.b dX7_word_100 (by decide) ?_
            exact ih _ _ _ hV _ _ hw _ (lv_sub hl [2, 3, 4, 0] rfl)
          · have hV := hV.2 c18
            refine lv_goto (tgt := 103) C0.x C0.b dX7_word_83 (by decide) ?_
            refine lv_aload_n C0.x C0.b dX7_word_103 rfl (lv_at hl 1 rfl) ?_
            refine r_get C0 hw (C := RX7) (T := TX7) (N := 15) (v := .ref (ad 19)) iw_X7_word_X7 (lg_0 ad cI cJ X S17) rfl 6 (by decide) (C0.ts _ fw_X7_word_45) rfl dX7_word_104 ?_
            refine lv_aload_n C0.x C0.b dX7_word_107 rfl (lv_at hl 1 rfl) ?_
            refine r_get C0 hw (C := RX7) (T := TX7) (N := 15) (v := .ref (ad 21)) iw_X7_word_X7 (lg_0 ad cI cJ X S17) rfl 7 (by decide) (C0.ts _ fw_X7_word_49) rfl dX7_word_108 ?_
            refine r_cV_v (As := [.ref (ad 21)]) (rest := []) C0 hw (c_X2_become (ln_19 ad cI cJ X) (ln_21 ad cI cJ X) hV) (cwV 1 C0.ts gX7_word_X2_become rfl rfl rfl hd_X2_become ⟨Nat.le_of_ble_eq_true rfl, Nat.le_of_ble_eq_true rfl⟩) (lg_19 ad cI cJ X S17) rfl rfl hl.1 rfl (Nat.le_of_ble_eq_true rfl) ⟨Nat.le_of_ble_eq_true rfl, Nat.le_of_ble_eq_true rfl⟩ dX7_word_111 (fun S23 H locs hV hw => ?_)
            refine lv_aload_n C0.x C0.b dX7_word_114 rfl (lv_at hl 1 rfl) ?_
            refine r_get C0 hw (C := RX7) (T := TX7) (N := 15) (v := .ref (ad 19)) iw_X7_word_X7 (lg_0 ad cI cJ X S23) rfl 6 (by decide) (C0.ts _ fw_X7_word_45) rfl dX7_word_115 ?_
            refine r_cV_i (As := []) (rest := []) C0 hw (c_X2_size (ln_19 ad cI cJ X) hV) (cwV 0 C0.ts gX7_word_X2_size rfl rfl rfl hd_X2_size ⟨Nat.le_of_ble_eq_true rfl, Nat.le_of_ble_eq_true rfl⟩) (lg_19 ad cI cJ X S23) rfl rfl hl.1 rfl (Nat.le_of_ble_eq_true rfl) ⟨Nat.le_of_ble_eq_true rfl, Nat.le_of_ble_eq_true rfl⟩ dX7_word_118 (fun r24 S25 H locs hV hw => ?_)
            exact r_iret C0 rfl hw hV dX7_word_121
        · have hV := hV.1 ((lc_eq _ _).mp c15)
          refine lv_iconst (v := -1) C0.x C0.b dX7_word_68 (by decide) ?_
          exact r_iret C0 rfl hw hV dX7_word_69
      · have hV := hV.2 c14
        refine lv_aload_n C0.x C0.b dX7_word_51 rfl (lv_at hl 0 rfl) ?_
        refine lv_lload C0.x C0.b dX7_word_52 (lv_at hl 2 rfl) ?_
        refine r_cV_l (As := [.long v4]) (rest := []) C0 hw (c_X7_after  hV) (cwV 1 C0.ts gX7_word_X7_after rfl rfl rfl hd_X7_after ⟨Nat.le_of_ble_eq_true rfl, Nat.le_of_ble_eq_true rfl⟩) (lg_0 ad cI cJ X S) rfl rfl hl.1 rfl (Nat.le_of_ble_eq_true rfl) ⟨Nat.le_of_ble_eq_true rfl, Nat.le_of_ble_eq_true rfl⟩ dX7_word_54 (fun r26 S27 H locs hV hw => ?_)
        refine lv_lstore (lv' := [(4, .long r26), (0, .ref (ad 0)), (3, .int v3), (6, .int v6)]) C0.x C0.b dX7_word_57 hl (by decide) rfl (fun ls hl => ?_)
        refine lv_lload C0.x C0.b dX7_word_59 (lv_at hl 0 rfl) ?_
        refine lv_ldc2 (v := 3000000000000000) C0.x C0.b C0.ow (C0.ts _ cw_X7_word_190) dX7_word_61 ?_
        refine r_lcmp C0 dX7_word_64 ?_
        refine lv_if_ne (tgt := 70) C0.x C0.b dX7_word_65 (by decide) (fun c28 => ?_) (fun c28 => ?_)
        · have hV := hV.2 (fun h => c28 ((lc_eq _ _).mpr h))
          refine lv_aload_n C0.x C0.b dX7_word_70 rfl (lv_at hl 1 rfl) ?_
          refine lv_lload C0.x C0.b dX7_word_71 (lv_at hl 0 rfl) ?_
          refine r_cV_i (As := [.long r26]) (rest := []) C0 hw (c_X7_signOf  hV) (cwV 1 C0.ts gX7_word_X7_signOf rfl rfl rfl hd_X7_signOf ⟨Nat.le_of_ble_eq_true rfl, Nat.le_of_ble_eq_true rfl⟩) (lg_0 ad cI cJ X S27) rfl rfl hl.1 rfl (Nat.le_of_ble_eq_true rfl) ⟨Nat.le_of_ble_eq_true rfl, Nat.le_of_ble_eq_true rfl⟩ dX7_word_73 (fun r29 S30 H locs hV hw => ?_)
          refine lv_istore (lv' := [(7, .int r29), (4, .long r26), (0, .ref (ad 0)), (3, .int v3), (6, .int v6)]) C0.x C0.b dX7_word_76 hl (by decide) rfl (fun ls hl => ?_)
          refine lv_iload C0.x C0.b dX7_word_78 (lv_at hl 0 rfl) ?_
          refine lv_if_ge (tgt := 86) C0.x C0.b dX7_word_80 (by decide) (fun c31 => ?_) (fun c31 => ?_)
          · have hV := hV.1 c31
            refine lv_aload_n C0.x C0.b dX7_word_86 rfl (lv_at hl 2 rfl) ?_
            refine r_get C0 hw (C := RX7) (T := TX7) (N := 15) (v := .ref (ad 21)) iw_X7_word_X7 (lg_0 ad cI cJ X S30) rfl 7 (by decide) (C0.ts _ fw_X7_word_49) rfl dX7_word_87 ?_
            refine lv_iload C0.x C0.b dX7_word_90 (lv_at hl 0 rfl) ?_
            refine lv_i2l C0.x C0.b dX7_word_92 rfl ?_
            refine r_cV_i (As := [.long r29.toInt64]) (rest := []) C0 hw (c_X2_add (ln_21 ad cI cJ X) hV) (cwV 1 C0.ts gX7_word_X2_add rfl rfl rfl hd_X2_add ⟨Nat.le_of_ble_eq_true rfl, Nat.le_of_ble_eq_true rfl⟩) (lg_21 ad cI cJ X S30) rfl rfl hl.1 rfl (Nat.le_of_ble_eq_true rfl) ⟨Nat.le_of_ble_eq_true rfl, Nat.le_of_ble_eq_true rfl⟩ dX7_word_93 (fun r32 S33 H locs hV hw => ?_)
            refine lv_pop C0.x C0.b dX7_word_96 rfl ?_
            obtain ⟨x34, ex34⟩ : ∃ z : Int32, z = v6 + 1 := ⟨_, rfl⟩
            have hV := hV x34 ex34
            refine lv_iinc (v := x34) (lv' := [(6, .int x34), (7, .int r29), (4, .long r26), (0, .ref (ad 0)), (3, .int v3)]) C0.x C0.b dX7_word_97 hl (k := 4) rfl (by rw [ex34]; rfl) (by decide) rfl (fun ls hl => ?_)
            refine lv_goto (tgt := 40) C0.x C0.b dX7_word_100 (by decide) ?_
            exact ih _ _ _ hV _ _ hw _ (lv_sub hl [3, 4, 2, 0] rfl)
          · have hV := hV.2 c31
            refine lv_goto (tgt := 103) C0.x C0.b dX7_word_83 (by decide) ?_
            refine lv_aload_n C0.x C0.b dX7_word_103 rfl (lv_at hl 2 rfl) ?_
            refine r_get C0 hw (C := RX7) (T := TX7) (N := 15) (v := .ref (ad 19)) iw_X7_word_X7 (lg_0 ad cI cJ X S30) rfl 6 (by decide) (C0.ts _ fw_X7_word_45) rfl dX7_word_104 ?_
            refine lv_aload_n C0.x C0.b dX7_word_107 rfl (lv_at hl 2 rfl) ?_
            refine r_get C0 hw (C := RX7) (T := TX7) (N := 15) (v := .ref (ad 21)) iw_X7_word_X7 (lg_0 ad cI cJ X S30) rfl 7 (by decide) (C0.ts _ fw_X7_word_49) rfl dX7_word_108 ?_
            refine r_cV_v (As := [.ref (ad 21)]) (rest := []) C0 hw (c_X2_become (ln_19 ad cI cJ X) (ln_21 ad cI cJ X) hV) (cwV 1 C0.ts gX7_word_X2_become rfl rfl rfl hd_X2_become ⟨Nat.le_of_ble_eq_true rfl, Nat.le_of_ble_eq_true rfl⟩) (lg_19 ad cI cJ X S30) rfl rfl hl.1 rfl (Nat.le_of_ble_eq_true rfl) ⟨Nat.le_of_ble_eq_true rfl, Nat.le_of_ble_eq_true rfl⟩ dX7_word_111 (fun S36 H locs hV hw => ?_)
            refine lv_aload_n C0.x C0.b dX7_word_114 rfl (lv_at hl 2 rfl) ?_
            refine r_get C0 hw (C := RX7) (T := TX7) (N := 15) (v := .ref (ad 19)) iw_X7_word_X7 (lg_0 ad cI cJ X S36) rfl 6 (by decide) (C0.ts _ fw_X7_word_45) rfl dX7_word_115 ?_
            refine r_cV_i (As := []) (rest := []) C0 hw (c_X2_size (ln_19 ad cI cJ X) hV) (cwV 0 C0.ts gX7_word_X2_size rfl rfl rfl hd_X2_size ⟨Nat.le_of_ble_eq_true rfl, Nat.le_of_ble_eq_true rfl⟩) (lg_19 ad cI cJ X S36) rfl rfl hl.1 rfl (Nat.le_of_ble_eq_true rfl) ⟨Nat.le_of_ble_eq_true rfl, Nat.le_of_ble_eq_true rfl⟩ dX7_word_118 (fun r37 S38 H locs hV hw => ?_)
            exact r_iret C0 rfl hw hV dX7_word_121
        · have hV := hV.1 ((lc_eq _ _).mp c28)
          refine lv_iconst (v := -1) C0.x C0.b dX7_word_68 (by decide) ?_
          exact r_iret C0 rfl hw hV dX7_word_69
def V_X7_word  (p0 : Int64) (p1 : Int32) (S : SS) (post : Int32 → SS → Prop) : Prop :=
  (((gI S 0) = 0 → (post (-1 : Int32) S)) ∧ (¬ (gI S 0) = 0 → (V_X7_isNumber p0 S (fun (r2 : Int32) (S3 : SS) => ((r2 = 0 → (post (-1 : Int32) S3)) ∧ (¬ r2 = 0 → ((p1 < (1 : Int32) → (post (-1 : Int32) S3)) ∧ (¬ p1 < (1 : Int32) → ((p1 ≤ (40 : Int32) → (V_X2_empty 8 13 1000 S3 (fun (S8 : SS) => (∃ n40 : Nat, V_X7_word_40  p1  post n40 p0 (0 : Int32) S8)))) ∧ (¬ p1 ≤ (40 : Int32) → (post (-1 : Int32) S3)))))))))))
set_option maxHeartbeats 4000000 in
set_option maxRecDepth 100000 in
theorem c_X7_word  {S : SS} {p0 : Int64} {p1 : Int32} {post : Int32 → SS → Prop} (hV : V_X7_word  p0 p1 S post) : MI l yX7_word wsX7_word rm_X7_word [.ref (ad 0), .long p0, .int p1] D n0 ad cI cJ X S post := by
  refine Met.ofW (cc := cX7_word) (maxL := 8) (ret := (some .int)) (by decide) rfl ?_
  intro p e s m args below meth c s₁ B hml hv
  obtain ⟨rfl, hv⟩ := hv
  have C0 := Bd.mk B hml (atoms_spec (ws := wsX7_word) B.pre) (findClass_of_methodNamed B.named) hv.1
  have hw : Wh D n0 ad cI cJ X S s s.heap [] := ⟨hv.2.1, hv.2.2, va_S.rf⟩
  refine r_entry (Nat.le_of_ble_eq_true rfl) (fun ls hl => ?_)
  have hl : lv_has ls 8 [(0, .ref (ad 0)), (1, .long p0), (3, .int p1)] := hl
  unfold V_X7_word at hV
  refine lv_aload_n C0.x C0.b dX7_word_0 rfl (lv_at hl 0 rfl) ?_
  refine r_get C0 hw (C := RX7) (T := TX7) (N := 15) (v := .int (gI S 0)) iw_X7_word_X7 (lg_0 ad cI cJ X S) rfl 0 (by decide) (C0.ts _ fw_X7_word_9) rfl dX7_word_1 ?_
  refine lv_if_eq (tgt := 25) C0.x C0.b dX7_word_4 (by decide) (fun c1 => ?_) (fun c1 => ?_)
  · have hV := hV.1 c1
    refine lv_iconst (v := -1) C0.x C0.b dX7_word_25 (by decide) ?_
    exact r_iret C0 rfl hw hV dX7_word_26
  · have hV := hV.2 c1
    refine lv_lload_n C0.x C0.b dX7_word_7 rfl (lv_at hl 1 rfl) ?_
    refine r_cS_i (As := [.long p0]) (rest := []) C0 hw (c_X7_isNumber  hV) (va_cwS 1 C0.ts gX7_word_X7_isNumber rfl rfl rfl hd_X7_isNumber ⟨Nat.le_of_ble_eq_true rfl, Nat.le_of_ble_eq_true rfl⟩) rfl hl.1 rfl (Nat.le_of_ble_eq_true rfl) ⟨Nat.le_of_ble_eq_true rfl, Nat.le_of_ble_eq_true rfl⟩ dX7_word_8 (fun r2 S3 H locs hV hw => ?_)
    refine lv_if_eq (tgt := 25) C0.x C0.b dX7_word_11 (by decide) (fun c4 => ?_) (fun c4 => ?_)
    · have hV := hV.1 c4
      refine lv_iconst (v := -1) C0.x C0.b dX7_word_25 (by decide) ?_
      exact r_iret C0 rfl hw hV dX7_word_26
    · have hV := hV.2 c4
      refine lv_iload_n C0.x C0.b dX7_word_14 rfl (lv_at hl 2 rfl) ?_
      refine lv_iconst (v := 1) C0.x C0.b dX7_word_15 (by decide) ?_
      refine lv_icmp_lt (tgt := 25) C0.x C0.b dX7_word_16 (by decide) (fun c5 => ?_) (fun c5 => ?_)
      · have hV := hV.1 c5
        refine lv_iconst (v := -1) C0.x C0.b dX7_word_25 (by decide) ?_
        exact r_iret C0 rfl hw hV dX7_word_26
      · have hV := hV.2 c5
        refine lv_iload_n C0.x C0.b dX7_word_19 rfl (lv_at hl 2 rfl) ?_
        refine lv_bipush (v := 40) C0.x C0.b dX7_word_20 (by decide) ?_
        refine lv_icmp_le (tgt := 27) C0.x C0.b dX7_word_22 (by decide) (fun c6 => ?_) (fun c6 => ?_)
        · have hV := hV.1 c6
          refine lv_aload_n C0.x C0.b dX7_word_27 rfl (lv_at hl 0 rfl) ?_
          refine r_get C0 hw (C := RX7) (T := TX7) (N := 15) (v := .ref (ad 21)) iw_X7_word_X7 (lg_0 ad cI cJ X S3) rfl 7 (by decide) (C0.ts _ fw_X7_word_49) rfl dX7_word_28 ?_
          refine r_cV_v (As := []) (rest := []) C0 hw (c_X2_empty (ln_21 ad cI cJ X) hV) (cwV 0 C0.ts gX7_word_X2_empty rfl rfl rfl hd_X2_empty ⟨Nat.le_of_ble_eq_true rfl, Nat.le_of_ble_eq_true rfl⟩) (lg_21 ad cI cJ X S3) rfl rfl hl.1 rfl (Nat.le_of_ble_eq_true rfl) ⟨Nat.le_of_ble_eq_true rfl, Nat.le_of_ble_eq_true rfl⟩ dX7_word_31 (fun S8 H locs hV hw => ?_)
          refine lv_lload_n C0.x C0.b dX7_word_34 rfl (lv_at hl 1 rfl) ?_
          refine lv_lstore (lv' := [(4, .long p0), (0, .ref (ad 0)), (1, .long p0), (3, .int p1)]) C0.x C0.b dX7_word_35 hl (by decide) rfl (fun ls hl => ?_)
          refine lv_iconst (v := 0) C0.x C0.b dX7_word_37 (by decide) ?_
          refine lv_istore (lv' := [(6, .int (0 : Int32)), (4, .long p0), (0, .ref (ad 0)), (1, .long p0), (3, .int p1)]) C0.x C0.b dX7_word_38 hl (by decide) rfl (fun ls hl => ?_)
          obtain ⟨n40, hV⟩ := hV
          exact lp_X7_word_40  _ post C0  n40 _ _ _ hV _ _ hw _ (lv_sub hl [2, 4, 1, 0] rfl)
        · have hV := hV.2 c6
          refine lv_iconst (v := -1) C0.x C0.b dX7_word_25 (by decide) ?_
          exact r_iret C0 rfl hw hV dX7_word_26
end
