section
variable {p : Program} {l : Launch} {e : Env} {s : State} {m : MethodId} {args : Array Value} {below : List Frame} {meth : Method} {c : Code}
variable {D : va_G} {n0 : Nat} {ad : Nat → Nat} {cI cJ : ClassId} {X : va_W}
/-! StepBench$Sheet.isThere()Z -/
abbrev rm_X6_isThere : Room := { frames := 0, cells := 0, slots := 0, locals := 0 }
set_option maxRecDepth 20000 in
theorem fw_X6_isThere_11 : Cond.fieldLink RX6 11 "StepBench$Sheet" "type" "I" ∈ wsX6_isThere := by decide +kernel
set_option maxRecDepth 20000 in
theorem iw_X6_isThere_X6 : ∀ w ∈ wsX60, w ∈ wsX6_isThere := by decide +kernel
set_option maxRecDepth 20000 in
theorem hd_X6_isThere : yX6_isThere.cls = RX6 ∧ yX6_isThere.cls ≠ "java/lang/invoke/MethodHandle" ∧ yX6_isThere.cls ≠ "java/lang/invoke/VarHandle" ∧ (parseMethodDescriptor yX6_isThere.desc).map (fun d => d.parameters.length) = some 0 := by decide +kernel
def V_X6_isThere   (S : SS) (post : Int32 → SS → Prop) : Prop :=
  (((gI S 5) = (-1 : Int32) → (post (0 : Int32) S)) ∧ (¬ (gI S 5) = (-1 : Int32) → (post (1 : Int32) S)))
set_option maxHeartbeats 4000000 in
set_option maxRecDepth 100000 in
theorem c_X6_isThere  {S : SS}  {post : Int32 → SS → Prop} (hV : V_X6_isThere   S post) : MI l yX6_isThere wsX6_isThere rm_X6_isThere [.ref (ad 16)] D n0 ad cI cJ X S post := by
  refine Met.ofW (cc := cX6_isThere) (maxL := 1) (ret := (some .boolean)) (by decide) rfl ?_
  intro p e s m args below meth c s₁ B hml hv
  obtain ⟨rfl, hv⟩ := hv
  have C0 := Bd.mk B hml (atoms_spec (ws := wsX6_isThere) B.pre) (findClass_of_methodNamed B.named) hv.1
  have hw : Wh D n0 ad cI cJ X S s s.heap [] := ⟨hv.2.1, hv.2.2, va_S.rf⟩
  refine r_entry (Nat.le_of_ble_eq_true rfl) (fun ls hl => ?_)
  have hl : lv_has ls 1 [(0, .ref (ad 16))] := hl
  unfold V_X6_isThere at hV
  refine lv_aload_n C0.x C0.b dX6_isThere_0 rfl (lv_at hl 0 rfl) ?_
  refine r_get C0 hw (C := RX6) (T := TX6) (N := 2) (v := .int (gI S 5)) iw_X6_isThere_X6 (lg_16 ad cI cJ X S) rfl 0 (by decide) (C0.ts _ fw_X6_isThere_11) rfl dX6_isThere_1 ?_
  refine lv_iconst (v := -1) C0.x C0.b dX6_isThere_4 (by decide) ?_
  refine lv_icmp_eq (tgt := 12) C0.x C0.b dX6_isThere_5 (by decide) (fun c1 => ?_) (fun c1 => ?_)
  · have hV := hV.1 c1
    refine lv_iconst (v := 0) C0.x C0.b dX6_isThere_12 (by decide) ?_
    exact r_zret C0 rfl bz_0 hw hV dX6_isThere_13
  · have hV := hV.2 c1
    refine lv_iconst (v := 1) C0.x C0.b dX6_isThere_8 (by decide) ?_
    refine lv_goto (tgt := 13) C0.x C0.b dX6_isThere_9 (by decide) ?_
    exact r_zret C0 rfl bz_1 hw hV dX6_isThere_13
/-! StepBench$Sheet.entries()I -/
abbrev rm_X6_entries : Room := { frames := 1, cells := 0, slots := 0, locals := 20 }
set_option maxRecDepth 20000 in
theorem fw_X6_entries_20 : Cond.fieldLink RX6 20 "StepBench$Sheet" "cells" "LStepBench$Numbers;" ∈ wsX6_entries := by decide +kernel
set_option maxRecDepth 20000 in
theorem iw_X6_entries_X6 : ∀ w ∈ wsX60, w ∈ wsX6_entries := by decide +kernel
set_option maxRecDepth 20000 in
theorem hd_X6_entries : yX6_entries.cls = RX6 ∧ yX6_entries.cls ≠ "java/lang/invoke/MethodHandle" ∧ yX6_entries.cls ≠ "java/lang/invoke/VarHandle" ∧ (parseMethodDescriptor yX6_entries.desc).map (fun d => d.parameters.length) = some 0 := by decide +kernel
def V_X6_entries   (S : SS) (post : Int32 → SS → Prop) : Prop :=
  (V_X2_size 6 11 64 S (fun (r1 : Int32) (S2 : SS) => (post r1 S2)))
set_option maxHeartbeats 4000000 in
set_option maxRecDepth 100000 in
theorem c_X6_entries  {S : SS}  {post : Int32 → SS → Prop} (hV : V_X6_entries   S post) : MI l yX6_entries wsX6_entries rm_X6_entries [.ref (ad 16)] D n0 ad cI cJ X S post := by
  refine Met.ofW (cc := cX6_entries) (maxL := 1) (ret := (some .int)) (by decide) rfl ?_
  intro p e s m args below meth c s₁ B hml hv
  obtain ⟨rfl, hv⟩ := hv
  have C0 := Bd.mk B hml (atoms_spec (ws := wsX6_entries) B.pre) (findClass_of_methodNamed B.named) hv.1
  have hw : Wh D n0 ad cI cJ X S s s.heap [] := ⟨hv.2.1, hv.2.2, va_S.rf⟩
  refine r_entry (Nat.le_of_ble_eq_true rfl) (fun ls hl => ?_)
  have hl : lv_has ls 1 [(0, .ref (ad 16))] := hl
  unfold V_X6_entries at hV
  refine lv_aload_n C0.x C0.b dX6_entries_0 rfl (lv_at hl 0 rfl) ?_
  refine r_get C0 hw (C := RX6) (T := TX6) (N := 2) (v := .ref (ad 17)) iw_X6_entries_X6 (lg_16 ad cI cJ X S) rfl 1 (by decide) (C0.ts _ fw_X6_entries_20) rfl dX6_entries_1 ?_
  refine r_cV_i (As := []) (rest := []) C0 hw (c_X2_size (ln_17 ad cI cJ X) hV) (cwV 0 C0.ts gX6_entries_X2_size rfl rfl rfl hd_X2_size ⟨Nat.le_of_ble_eq_true rfl, Nat.le_of_ble_eq_true rfl⟩) (lg_17 ad cI cJ X S) rfl rfl hl.1 rfl (Nat.le_of_ble_eq_true rfl) ⟨Nat.zero_le _, Nat.zero_le _⟩ dX6_entries_4 (fun r1 S2 H locs hV hw => ?_)
  exact r_iret C0 rfl hw hV dX6_entries_7
/-! StepBench$Sheet.read(I)J -/
abbrev rm_X6_read : Room := { frames := 2, cells := 0, slots := 0, locals := 42 }
set_option maxRecDepth 20000 in
theorem fw_X6_read_20 : Cond.fieldLink RX6 20 "StepBench$Sheet" "cells" "LStepBench$Numbers;" ∈ wsX6_read := by decide +kernel
set_option maxRecDepth 20000 in
theorem iw_X6_read_X6 : ∀ w ∈ wsX60, w ∈ wsX6_read := by decide +kernel
set_option maxRecDepth 20000 in
theorem hd_X6_read : yX6_read.cls = RX6 ∧ yX6_read.cls ≠ "java/lang/invoke/MethodHandle" ∧ yX6_read.cls ≠ "java/lang/invoke/VarHandle" ∧ (parseMethodDescriptor yX6_read.desc).map (fun d => d.parameters.length) = some 1 := by decide +kernel
def V_X6_read  (p0 : Int32) (S : SS) (post : Int64 → SS → Prop) : Prop :=
  (V_X2_at 6 11 64 p0 S (fun (r1 : Int64) (S2 : SS) => (post r1 S2)))
set_option maxHeartbeats 4000000 in
set_option maxRecDepth 100000 in
theorem c_X6_read  {S : SS} {p0 : Int32} {post : Int64 → SS → Prop} (hV : V_X6_read  p0 S post) : ML l yX6_read wsX6_read rm_X6_read [.ref (ad 16), .int p0] D n0 ad cI cJ X S post := by
  refine Met.ofW (cc := cX6_read) (maxL := 2) (ret := (some .long)) (by decide) rfl ?_
  intro p e s m args below meth c s₁ B hml hv
  obtain ⟨rfl, hv⟩ := hv
  have C0 := Bd.mk B hml (atoms_spec (ws := wsX6_read) B.pre) (findClass_of_methodNamed B.named) hv.1
  have hw : Wh D n0 ad cI cJ X S s s.heap [] := ⟨hv.2.1, hv.2.2, va_S.rf⟩
  refine r_entry (Nat.le_of_ble_eq_true rfl) (fun ls hl => ?_)
  have hl : lv_has ls 2 [(0, .ref (ad 16)), (1, .int p0)] := hl
  unfold V_X6_read at hV
  refine lv_aload_n C0.x C0.b dX6_read_0 rfl (lv_at hl 0 rfl) ?_
  refine r_get C0 hw (C := RX6) (T := TX6) (N := 2) (v := .ref (ad 17)) iw_X6_read_X6 (lg_16 ad cI cJ X S) rfl 1 (by decide) (C0.ts _ fw_X6_read_20) rfl dX6_read_1 ?_
  refine lv_iload_n C0.x C0.b dX6_read_4 rfl (lv_at hl 1 rfl) ?_
  refine r_cV_l (As := [.int p0]) (rest := []) C0 hw (c_X2_at (ln_17 ad cI cJ X) hV) (cwV 1 C0.ts gX6_read_X2_at rfl rfl rfl hd_X2_at ⟨Nat.le_of_ble_eq_true rfl, Nat.le_of_ble_eq_true rfl⟩) (lg_17 ad cI cJ X S) rfl rfl hl.1 rfl (Nat.le_of_ble_eq_true rfl) ⟨Nat.zero_le _, Nat.zero_le _⟩ dX6_read_5 (fun r1 S2 H locs hV hw => ?_)
  exact r_lret C0 rfl hw hV dX6_read_8
/-! StepBench$Sheet.write(IJ)Z -/
abbrev rm_X6_write : Room := { frames := 2, cells := 0, slots := 0, locals := 44 }
set_option maxRecDepth 20000 in
theorem fw_X6_write_20 : Cond.fieldLink RX6 20 "StepBench$Sheet" "cells" "LStepBench$Numbers;" ∈ wsX6_write := by decide +kernel
set_option maxRecDepth 20000 in
theorem iw_X6_write_X6 : ∀ w ∈ wsX60, w ∈ wsX6_write := by decide +kernel
set_option maxRecDepth 20000 in
theorem fw_X6_write_11 : Cond.fieldLink RX6 11 "StepBench$Sheet" "type" "I" ∈ wsX6_write := by decide +kernel
set_option maxRecDepth 20000 in
theorem hd_X6_write : yX6_write.cls = RX6 ∧ yX6_write.cls ≠ "java/lang/invoke/MethodHandle" ∧ yX6_write.cls ≠ "java/lang/invoke/VarHandle" ∧ (parseMethodDescriptor yX6_write.desc).map (fun d => d.parameters.length) = some 2 := by decide +kernel
def V_X6_write  (p0 : Int32) (p1 : Int64) (S : SS) (post : Int32 → SS → Prop) : Prop :=
  (V_X2_has 6 11 64 p0 S (fun (r1 : Int32) (S2 : SS) => ((r1 = 0 → (post (0 : Int32) S2)) ∧ (¬ r1 = 0 → (((gI S2 5) = 0 → (V_X2_put 6 11 64 p0 p1.toInt32.toInt8.toInt32.toInt64 S2 (fun (S6 : SS) => (post (1 : Int32) S6)))) ∧ (¬ (gI S2 5) = 0 → (((gI S2 5) = (1 : Int32) → (V_X2_put 6 11 64 p0 p1.toInt32.toInt64 S2 (fun (S9 : SS) => (post (1 : Int32) S9)))) ∧ (¬ (gI S2 5) = (1 : Int32) → (V_X2_put 6 11 64 p0 p1 S2 (fun (S11 : SS) => (post (1 : Int32) S11)))))))))))
set_option maxHeartbeats 4000000 in
set_option maxRecDepth 100000 in
theorem c_X6_write  {S : SS} {p0 : Int32} {p1 : Int64} {post : Int32 → SS → Prop} (hV : V_X6_write  p0 p1 S post) : MI l yX6_write wsX6_write rm_X6_write [.ref (ad 16), .int p0, .long p1] D n0 ad cI cJ X S post := by
  refine Met.ofW (cc := cX6_write) (maxL := 4) (ret := (some .boolean)) (by decide) rfl ?_
  intro p e s m args below meth c s₁ B hml hv
  obtain ⟨rfl, hv⟩ := hv
  have C0 := Bd.mk B hml (atoms_spec (ws := wsX6_write) B.pre) (findClass_of_methodNamed B.named) hv.1
  have hw : Wh D n0 ad cI cJ X S s s.heap [] := ⟨hv.2.1, hv.2.2, va_S.rf⟩
  refine r_entry (Nat.le_of_ble_eq_true rfl) (fun ls hl => ?_)
  have hl : lv_has ls 4 [(0, .ref (ad 16)), (1, .int p0), (2, .long p1)] := hl
  unfold V_X6_write at hV
  refine lv_aload_n C0.x C0.b dX6_write_0 rfl (lv_at hl 0 rfl) ?_
  refine r_get C0 hw (C := RX6) (T := TX6) (N := 2) (v := .ref (ad 17)) iw_X6_write_X6 (lg_16 ad cI cJ X S) rfl 1 (by decide) (C0.ts _ fw_X6_write_20) rfl dX6_write_1 ?_
  refine lv_iload_n C0.x C0.b dX6_write_4 rfl (lv_at hl 1 rfl) ?_
  refine r_cV_i (As := [.int p0]) (rest := []) C0 hw (c_X2_has (ln_17 ad cI cJ X) hV) (cwV 1 C0.ts gX6_write_X2_has rfl rfl rfl hd_X2_has ⟨Nat.le_of_ble_eq_true rfl, Nat.le_of_ble_eq_true rfl⟩) (lg_17 ad cI cJ X S) rfl rfl hl.1 rfl (Nat.le_of_ble_eq_true rfl) ⟨Nat.zero_le _, Nat.zero_le _⟩ dX6_write_5 (fun r1 S2 H locs hV hw => ?_)
  refine lv_if_ne (tgt := 13) C0.x C0.b dX6_write_8 (by decide) (fun c3 => ?_) (fun c3 => ?_)
  · have hV := hV.2 c3
    refine lv_aload_n C0.x C0.b dX6_write_13 rfl (lv_at hl 0 rfl) ?_
    refine r_get C0 hw (C := RX6) (T := TX6) (N := 2) (v := .int (gI S2 5)) iw_X6_write_X6 (lg_16 ad cI cJ X S2) rfl 0 (by decide) (C0.ts _ fw_X6_write_11) rfl dX6_write_14 ?_
    refine lv_if_ne (tgt := 35) C0.x C0.b dX6_write_17 (by decide) (fun c4 => ?_) (fun c4 => ?_)
    · have hV := hV.2 c4
      refine lv_aload_n C0.x C0.b dX6_write_35 rfl (lv_at hl 0 rfl) ?_
      refine r_get C0 hw (C := RX6) (T := TX6) (N := 2) (v := .int (gI S2 5)) iw_X6_write_X6 (lg_16 ad cI cJ X S2) rfl 0 (by decide) (C0.ts _ fw_X6_write_11) rfl dX6_write_36 ?_
      refine lv_iconst (v := 1) C0.x C0.b dX6_write_39 (by decide) ?_
      refine lv_icmp_ne (tgt := 57) C0.x C0.b dX6_write_40 (by decide) (fun c7 => ?_) (fun c7 => ?_)
      · have hV := hV.2 c7
        refine lv_aload_n C0.x C0.b dX6_write_57 rfl (lv_at hl 0 rfl) ?_
        refine r_get C0 hw (C := RX6) (T := TX6) (N := 2) (v := .ref (ad 17)) iw_X6_write_X6 (lg_16 ad cI cJ X S2) rfl 1 (by decide) (C0.ts _ fw_X6_write_20) rfl dX6_write_58 ?_
        refine lv_iload_n C0.x C0.b dX6_write_61 rfl (lv_at hl 1 rfl) ?_
        refine lv_lload_n C0.x C0.b dX6_write_62 rfl (lv_at hl 2 rfl) ?_
        refine r_cV_v (As := [.int p0, .long p1]) (rest := []) C0 hw (c_X2_put (ln_17 ad cI cJ X) hV) (cwV 2 C0.ts gX6_write_X2_put rfl rfl rfl hd_X2_put ⟨Nat.le_of_ble_eq_true rfl, Nat.le_of_ble_eq_true rfl⟩) (lg_17 ad cI cJ X S2) rfl rfl hl.1 rfl (Nat.le_of_ble_eq_true rfl) ⟨Nat.zero_le _, Nat.zero_le _⟩ dX6_write_63 (fun S11 H locs hV hw => ?_)
        refine lv_iconst (v := 1) C0.x C0.b dX6_write_66 (by decide) ?_
        exact r_zret C0 rfl bz_1 hw hV dX6_write_67
      · have hV := hV.1 c7
        refine lv_aload_n C0.x C0.b dX6_write_43 rfl (lv_at hl 0 rfl) ?_
        refine r_get C0 hw (C := RX6) (T := TX6) (N := 2) (v := .ref (ad 17)) iw_X6_write_X6 (lg_16 ad cI cJ X S2) rfl 1 (by decide) (C0.ts _ fw_X6_write_20) rfl dX6_write_44 ?_
        refine lv_iload_n C0.x C0.b dX6_write_47 rfl (lv_at hl 1 rfl) ?_
        refine lv_lload_n C0.x C0.b dX6_write_48 rfl (lv_at hl 2 rfl) ?_
        refine lv_l2i C0.x C0.b dX6_write_49 rfl ?_
        refine lv_i2l C0.x C0.b dX6_write_50 rfl ?_
        refine r_cV_v (As := [.int p0, .long p1.toInt32.toInt64]) (rest := []) C0 hw (c_X2_put (ln_17 ad cI cJ X) hV) (cwV 2 C0.ts gX6_write_X2_put rfl rfl rfl hd_X2_put ⟨Nat.le_of_ble_eq_true rfl, Nat.le_of_ble_eq_true rfl⟩) (lg_17 ad cI cJ X S2) rfl rfl hl.1 rfl (Nat.le_of_ble_eq_true rfl) ⟨Nat.zero_le _, Nat.zero_le _⟩ dX6_write_51 (fun S9 H locs hV hw => ?_)
        refine lv_goto (tgt := 66) C0.x C0.b dX6_write_54 (by decide) ?_
        refine lv_iconst (v := 1) C0.x C0.b dX6_write_66 (by decide) ?_
        exact r_zret C0 rfl bz_1 hw hV dX6_write_67
    · have hV := hV.1 c4
      refine lv_aload_n C0.x C0.b dX6_write_20 rfl (lv_at hl 0 rfl) ?_
      refine r_get C0 hw (C := RX6) (T := TX6) (N := 2) (v := .ref (ad 17)) iw_X6_write_X6 (lg_16 ad cI cJ X S2) rfl 1 (by decide) (C0.ts _ fw_X6_write_20) rfl dX6_write_21 ?_
      refine lv_iload_n C0.x C0.b dX6_write_24 rfl (lv_at hl 1 rfl) ?_
      refine lv_lload_n C0.x C0.b dX6_write_25 rfl (lv_at hl 2 rfl) ?_
      refine lv_l2i C0.x C0.b dX6_write_26 rfl ?_
      refine lv_i2b C0.x C0.b dX6_write_27 rfl ?_
      refine lv_i2l C0.x C0.b dX6_write_28 rfl ?_
      refine r_cV_v (As := [.int p0, .long p1.toInt32.toInt8.toInt32.toInt64]) (rest := []) C0 hw (c_X2_put (ln_17 ad cI cJ X) hV) (cwV 2 C0.ts gX6_write_X2_put rfl rfl rfl hd_X2_put ⟨Nat.le_of_ble_eq_true rfl, Nat.le_of_ble_eq_true rfl⟩) (lg_17 ad cI cJ X S2) rfl rfl hl.1 rfl (Nat.le_of_ble_eq_true rfl) ⟨Nat.zero_le _, Nat.zero_le _⟩ dX6_write_29 (fun S6 H locs hV hw => ?_)
      refine lv_goto (tgt := 66) C0.x C0.b dX6_write_32 (by decide) ?_
      refine lv_iconst (v := 1) C0.x C0.b dX6_write_66 (by decide) ?_
      exact r_zret C0 rfl bz_1 hw hV dX6_write_67
  · have hV := hV.1 c3
    refine lv_iconst (v := 0) C0.x C0.b dX6_write_11 (by decide) ?_
    exact r_zret C0 rfl bz_0 hw hV dX6_write_12
/-! StepBench$Sheet.drop()V -/
abbrev rm_X6_drop : Room := { frames := 1, cells := 0, slots := 0, locals := 20 }
set_option maxRecDepth 20000 in
theorem fw_X6_drop_11 : Cond.fieldLink RX6 11 "StepBench$Sheet" "type" "I" ∈ wsX6_drop := by decide +kernel
set_option maxRecDepth 20000 in
theorem iw_X6_drop_X6 : ∀ w ∈ wsX60, w ∈ wsX6_drop := by decide +kernel
set_option maxRecDepth 20000 in
theorem fw_X6_drop_20 : Cond.fieldLink RX6 20 "StepBench$Sheet" "cells" "LStepBench$Numbers;" ∈ wsX6_drop := by decide +kernel
set_option maxRecDepth 20000 in
theorem hd_X6_drop : yX6_drop.cls = RX6 ∧ yX6_drop.cls ≠ "java/lang/invoke/MethodHandle" ∧ yX6_drop.cls ≠ "java/lang/invoke/VarHandle" ∧ (parseMethodDescriptor yX6_drop.desc).map (fun d => d.parameters.length) = some 0 := by decide +kernel
def V_X6_drop   (S : SS) (post : SS → Prop) : Prop :=
  (∀ S1 : SS, S1 = (sI S 5 (-1 : Int32)) → (V_X2_empty 6 11 64 S1 (fun (S3 : SS) => (post S3))))
set_option maxHeartbeats 4000000 in
set_option maxRecDepth 100000 in
theorem c_X6_drop  {S : SS}  {post : SS → Prop} (hV : V_X6_drop   S post) : MV l yX6_drop wsX6_drop rm_X6_drop [.ref (ad 16)] D n0 ad cI cJ X S post := by
  refine Met.ofW (cc := cX6_drop) (maxL := 1) (ret := none) (by decide) rfl ?_
  intro p e s m args below meth c s₁ B hml hv
  obtain ⟨rfl, hv⟩ := hv
  have C0 := Bd.mk B hml (atoms_spec (ws := wsX6_drop) B.pre) (findClass_of_methodNamed B.named) hv.1
  have hw : Wh D n0 ad cI cJ X S s s.heap [] := ⟨hv.2.1, hv.2.2, va_S.rf⟩
  refine r_entry (Nat.le_of_ble_eq_true rfl) (fun ls hl => ?_)
  have hl : lv_has ls 1 [(0, .ref (ad 16))] := hl
  unfold V_X6_drop at hV
  refine lv_aload_n C0.x C0.b dX6_drop_0 rfl (lv_at hl 0 rfl) ?_
  refine lv_iconst (v := -1) C0.x C0.b dX6_drop_1 (by decide) ?_
  refine r_put C0 hw (C := RX6) (T := TX6) (N := 2) (ty := .int) iw_X6_drop_X6 tyX6 tyX6_ok nmX6 (lg_16 ad cI cJ X S) rfl 0 (by decide) (C0.ts _ fw_X6_drop_11) rfl (by decide +kernel) rfl rfl (Nat.le_of_ble_eq_true rfl) dX6_drop_2 (S' := (sI S 5 (-1 : Int32))) (ls_16_0 ad cI cJ X S (-1 : Int32)) (fun S1 H locs eS1 hw => ?_)
  have hV := hV S1 eS1
  refine lv_aload_n C0.x C0.b dX6_drop_5 rfl (lv_at hl 0 rfl) ?_
  refine r_get C0 hw (C := RX6) (T := TX6) (N := 2) (v := .ref (ad 17)) iw_X6_drop_X6 (lg_16 ad cI cJ X S1) rfl 1 (by decide) (C0.ts _ fw_X6_drop_20) rfl dX6_drop_6 ?_
  refine r_cV_v (As := []) (rest := []) C0 hw (c_X2_empty (ln_17 ad cI cJ X) hV) (cwV 0 C0.ts gX6_drop_X2_empty rfl rfl rfl hd_X2_empty ⟨Nat.le_of_ble_eq_true rfl, Nat.le_of_ble_eq_true rfl⟩) (lg_17 ad cI cJ X S1) rfl rfl hl.1 rfl (Nat.le_of_ble_eq_true rfl) ⟨Nat.zero_le _, Nat.zero_le _⟩ dX6_drop_9 (fun S3 H locs hV hw => ?_)
  exact r_vret C0 rfl hw hV dX6_drop_12
/-! StepBench.draft(I)Z -/
abbrev rm_X7_draft : Room := { frames := 2, cells := 0, slots := 0, locals := 45 }
set_option maxRecDepth 20000 in
theorem fw_X7_draft_20 : Cond.fieldLink RX7 20 "StepBench" "drafted" "LStepBench$Shares;" ∈ wsX7_draft := by decide +kernel
set_option maxRecDepth 20000 in
theorem iw_X7_draft_X7 : ∀ w ∈ wsX70, w ∈ wsX7_draft := by decide +kernel
set_option maxRecDepth 20000 in
theorem hd_X7_draft : yX7_draft.cls = RX7 ∧ yX7_draft.cls ≠ "java/lang/invoke/MethodHandle" ∧ yX7_draft.cls ≠ "java/lang/invoke/VarHandle" ∧ (parseMethodDescriptor yX7_draft.desc).map (fun d => d.parameters.length) = some 1 := by decide +kernel
def V_X7_draft  (p0 : Int32) (S : SS) (post : Int32 → SS → Prop) : Prop :=
  ((p0 < (2 : Int32) → (post (0 : Int32) S)) ∧ (¬ p0 < (2 : Int32) → ((p0 ≤ (64 : Int32) → (V_X5_begin 2 3 4 5 p0 S (fun (S4 : SS) => (post (1 : Int32) S4)))) ∧ (¬ p0 ≤ (64 : Int32) → (post (0 : Int32) S)))))
set_option maxHeartbeats 4000000 in
set_option maxRecDepth 100000 in
theorem c_X7_draft  {S : SS} {p0 : Int32} {post : Int32 → SS → Prop} (hV : V_X7_draft  p0 S post) : MI l yX7_draft wsX7_draft rm_X7_draft [.ref (ad 0), .int p0] D n0 ad cI cJ X S post := by
  refine Met.ofW (cc := cX7_draft) (maxL := 2) (ret := (some .boolean)) (by decide) rfl ?_
  intro p e s m args below meth c s₁ B hml hv
  obtain ⟨rfl, hv⟩ := hv
  have C0 := Bd.mk B hml (atoms_spec (ws := wsX7_draft) B.pre) (findClass_of_methodNamed B.named) hv.1
  have hw : Wh D n0 ad cI cJ X S s s.heap [] := ⟨hv.2.1, hv.2.2, va_S.rf⟩
  refine r_entry (Nat.le_of_ble_eq_true rfl) (fun ls hl => ?_)
  have hl : lv_has ls 2 [(0, .ref (ad 0)), (1, .int p0)] := hl
  unfold V_X7_draft at hV
  refine lv_iload_n C0.x C0.b dX7_draft_0 rfl (lv_at hl 1 rfl) ?_
  refine lv_iconst (v := 2) C0.x C0.b dX7_draft_1 (by decide) ?_
  refine lv_icmp_lt (tgt := 11) C0.x C0.b dX7_draft_2 (by decide) (fun c1 => ?_) (fun c1 => ?_)
  · have hV := hV.1 c1
    refine lv_iconst (v := 0) C0.x C0.b dX7_draft_11 (by decide) ?_
    exact r_zret C0 rfl bz_0 hw hV dX7_draft_12
  · have hV := hV.2 c1
    refine lv_iload_n C0.x C0.b dX7_draft_5 rfl (lv_at hl 1 rfl) ?_
    refine lv_bipush (v := 64) C0.x C0.b dX7_draft_6 (by decide) ?_
    refine lv_icmp_le (tgt := 13) C0.x C0.b dX7_draft_8 (by decide) (fun c2 => ?_) (fun c2 => ?_)
    · have hV := hV.1 c2
      refine lv_aload_n C0.x C0.b dX7_draft_13 rfl (lv_at hl 0 rfl) ?_
      refine r_get C0 hw (C := RX7) (T := TX7) (N := 15) (v := .ref (ad 5)) iw_X7_draft_X7 (lg_0 ad cI cJ X S) rfl 2 (by decide) (C0.ts _ fw_X7_draft_20) rfl dX7_draft_14 ?_
      refine lv_iload_n C0.x C0.b dX7_draft_17 rfl (lv_at hl 1 rfl) ?_
      refine r_cV_v (As := [.int p0]) (rest := []) C0 hw (c_X5_begin (ln_5 ad cI cJ X) hV) (cwV 1 C0.ts gX7_draft_X5_begin rfl rfl rfl hd_X5_begin ⟨Nat.le_of_ble_eq_true rfl, Nat.le_of_ble_eq_true rfl⟩) (lg_5 ad cI cJ X S) rfl rfl hl.1 rfl (Nat.le_of_ble_eq_true rfl) ⟨Nat.zero_le _, Nat.zero_le _⟩ dX7_draft_18 (fun S4 H locs hV hw => ?_)
      refine lv_iconst (v := 1) C0.x C0.b dX7_draft_21 (by decide) ?_
      exact r_zret C0 rfl bz_1 hw hV dX7_draft_22
    · have hV := hV.2 c2
      refine lv_iconst (v := 0) C0.x C0.b dX7_draft_11 (by decide) ?_
      exact r_zret C0 rfl bz_0 hw hV dX7_draft_12
/-! StepBench.sheet(II)Z -/
abbrev rm_X7_sheet : Room := { frames := 3, cells := 0, slots := 0, locals := 67 }
set_option maxRecDepth 20000 in
theorem fw_X7_sheet_36 : Cond.fieldLink RX7 36 "StepBench" "laid" "LStepBench$Sheet;" ∈ wsX7_sheet := by decide +kernel
set_option maxRecDepth 20000 in
theorem iw_X7_sheet_X7 : ∀ w ∈ wsX70, w ∈ wsX7_sheet := by decide +kernel
set_option maxRecDepth 20000 in
theorem hd_X7_sheet : yX7_sheet.cls = RX7 ∧ yX7_sheet.cls ≠ "java/lang/invoke/MethodHandle" ∧ yX7_sheet.cls ≠ "java/lang/invoke/VarHandle" ∧ (parseMethodDescriptor yX7_sheet.desc).map (fun d => d.parameters.length) = some 2 := by decide +kernel
def V_X7_sheet  (p0 : Int32) (p1 : Int32) (S : SS) (post : Int32 → SS → Prop) : Prop :=
  (V_X6_begin p0 p1 S (fun (r1 : Int32) (S2 : SS) => (bz r1 ∧ post r1 S2)))
set_option maxHeartbeats 4000000 in
set_option maxRecDepth 100000 in
theorem c_X7_sheet  {S : SS} {p0 : Int32} {p1 : Int32} {post : Int32 → SS → Prop} (hV : V_X7_sheet  p0 p1 S post) : MI l yX7_sheet wsX7_sheet rm_X7_sheet [.ref (ad 0), .int p0, .int p1] D n0 ad cI cJ X S post := by
  refine Met.ofW (cc := cX7_sheet) (maxL := 3) (ret := (some .boolean)) (by decide) rfl ?_
  intro p e s m args below meth c s₁ B hml hv
  obtain ⟨rfl, hv⟩ := hv
  have C0 := Bd.mk B hml (atoms_spec (ws := wsX7_sheet) B.pre) (findClass_of_methodNamed B.named) hv.1
  have hw : Wh D n0 ad cI cJ X S s s.heap [] := ⟨hv.2.1, hv.2.2, va_S.rf⟩
  refine r_entry (Nat.le_of_ble_eq_true rfl) (fun ls hl => ?_)
  have hl : lv_has ls 3 [(0, .ref (ad 0)), (1, .int p0), (2, .int p1)] := hl
  unfold V_X7_sheet at hV
  refine lv_aload_n C0.x C0.b dX7_sheet_0 rfl (lv_at hl 0 rfl) ?_
  refine r_get C0 hw (C := RX7) (T := TX7) (N := 15) (v := .ref (ad 16)) iw_X7_sheet_X7 (lg_0 ad cI cJ X S) rfl 5 (by decide) (C0.ts _ fw_X7_sheet_36) rfl dX7_sheet_1 ?_
  refine lv_iload_n C0.x C0.b dX7_sheet_4 rfl (lv_at hl 1 rfl) ?_
  refine lv_iload_n C0.x C0.b dX7_sheet_5 rfl (lv_at hl 2 rfl) ?_
  refine r_cV_i (As := [.int p0, .int p1]) (rest := []) C0 hw (c_X6_begin  hV) (cwV 2 C0.ts gX7_sheet_X6_begin rfl rfl rfl hd_X6_begin ⟨Nat.le_of_ble_eq_true rfl, Nat.le_of_ble_eq_true rfl⟩) (lg_16 ad cI cJ X S) rfl rfl hl.1 rfl (Nat.le_of_ble_eq_true rfl) ⟨Nat.zero_le _, Nat.zero_le _⟩ dX7_sheet_6 (fun r1 S2 H locs hV hw => ?_)
  exact r_zret C0 rfl hV.1 hw hV.2 dX7_sheet_9
/-! StepBench.entry(IJ)Z -/
abbrev rm_X7_entry : Room := { frames := 3, cells := 0, slots := 0, locals := 67 }
set_option maxRecDepth 20000 in
theorem fw_X7_entry_36 : Cond.fieldLink RX7 36 "StepBench" "laid" "LStepBench$Sheet;" ∈ wsX7_entry := by decide +kernel
set_option maxRecDepth 20000 in
theorem iw_X7_entry_X7 : ∀ w ∈ wsX70, w ∈ wsX7_entry := by decide +kernel
set_option maxRecDepth 20000 in
theorem hd_X7_entry : yX7_entry.cls = RX7 ∧ yX7_entry.cls ≠ "java/lang/invoke/MethodHandle" ∧ yX7_entry.cls ≠ "java/lang/invoke/VarHandle" ∧ (parseMethodDescriptor yX7_entry.desc).map (fun d => d.parameters.length) = some 2 := by decide +kernel
def V_X7_entry  (p0 : Int32) (p1 : Int64) (S : SS) (post : Int32 → SS → Prop) : Prop :=
  (V_X6_write p0 p1 S (fun (r1 : Int32) (S2 : SS) => (bz r1 ∧ post r1 S2)))
set_option maxHeartbeats 4000000 in
set_option maxRecDepth 100000 in
theorem c_X7_entry  {S : SS} {p0 : Int32} {p1 : Int64} {post : Int32 → SS → Prop} (hV : V_X7_entry  p0 p1 S post) : MI l yX7_entry wsX7_entry rm_X7_entry [.ref (ad 0), .int p0, .long p1] D n0 ad cI cJ X S post := by
  refine Met.ofW (cc := cX7_entry) (maxL := 4) (ret := (some .boolean)) (by decide) rfl ?_
  intro p e s m args below meth c s₁ B hml hv
  obtain ⟨rfl, hv⟩ := hv
  have C0 := Bd.mk B hml (atoms_spec (ws := wsX7_entry) B.pre) (findClass_of_methodNamed B.named) hv.1
  have hw : Wh D n0 ad cI cJ X S s s.heap [] := ⟨hv.2.1, hv.2.2, va_S.rf⟩
  refine r_entry (Nat.le_of_ble_eq_true rfl) (fun ls hl => ?_)
  have hl : lv_has ls 4 [(0, .ref (ad 0)), (1, .int p0), (2, .long p1)] := hl
  unfold V_X7_entry at hV
  refine lv_aload_n C0.x C0.b dX7_entry_0 rfl (lv_at hl 0 rfl) ?_
  refine r_get C0 hw (C := RX7) (T := TX7) (N := 15) (v := .ref (ad 16)) iw_X7_entry_X7 (lg_0 ad cI cJ X S) rfl 5 (by decide) (C0.ts _ fw_X7_entry_36) rfl dX7_entry_1 ?_
  refine lv_iload_n C0.x C0.b dX7_entry_4 rfl (lv_at hl 1 rfl) ?_
  refine lv_lload_n C0.x C0.b dX7_entry_5 rfl (lv_at hl 2 rfl) ?_
  refine r_cV_i (As := [.int p0, .long p1]) (rest := []) C0 hw (c_X6_write  hV) (cwV 2 C0.ts gX7_entry_X6_write rfl rfl rfl hd_X6_write ⟨Nat.le_of_ble_eq_true rfl, Nat.le_of_ble_eq_true rfl⟩) (lg_16 ad cI cJ X S) rfl rfl hl.1 rfl (Nat.le_of_ble_eq_true rfl) ⟨Nat.zero_le _, Nat.zero_le _⟩ dX7_entry_6 (fun r1 S2 H locs hV hw => ?_)
  exact r_zret C0 rfl hV.1 hw hV.2 dX7_entry_9
/-! StepBench.lay(I)I -/
abbrev rm_X7_lay : Room := { frames := 3, cells := 0, slots := 0, locals := 63 }
set_option maxRecDepth 20000 in
theorem fw_X7_lay_36 : Cond.fieldLink RX7 36 "StepBench" "laid" "LStepBench$Sheet;" ∈ wsX7_lay := by decide +kernel
set_option maxRecDepth 20000 in
theorem iw_X7_lay_X7 : ∀ w ∈ wsX70, w ∈ wsX7_lay := by decide +kernel
set_option maxRecDepth 20000 in
theorem fw_X7_lay_20 : Cond.fieldLink RX7 20 "StepBench" "drafted" "LStepBench$Shares;" ∈ wsX7_lay := by decide +kernel
set_option maxRecDepth 20000 in
theorem ml_X7_lay_106 : Cond.methodLink RX7 106 Lib.Math.min.name ∈ wsX7_lay := by decide +kernel
set_option maxRecDepth 20000 in
theorem ms_X7_lay_106 : Cond.static Lib.Math.min.name ∈ wsX7_lay := by decide +kernel
set_option maxRecDepth 20000 in
theorem mi_X7_lay_106 : Cond.initialized "java/lang/Math" ∈ wsX7_lay := by decide +kernel
set_option maxRecDepth 20000 in
theorem mc_X7_lay_106 : Cond.code Lib.Math.min.name Lib.Math.min.code 2 (some .int) ∈ wsX7_lay := by decide +kernel
set_option maxRecDepth 20000 in
theorem hd_X7_lay : yX7_lay.cls = RX7 ∧ yX7_lay.cls ≠ "java/lang/invoke/MethodHandle" ∧ yX7_lay.cls ≠ "java/lang/invoke/VarHandle" ∧ (parseMethodDescriptor yX7_lay.desc).map (fun d => d.parameters.length) = some 1 := by decide +kernel
def V_X7_lay_51  (v1 : Int32) (v2 : Int32)  (post : Int32 → SS → Prop) : Nat → Int32 → SS → Prop
  | 0, _, _ => False
  | n + 1, v3, S =>
    ((v2 ≤ v3 → (V_X6_drop  S (fun (S16 : SS) => (post v2 S16)))) ∧ (¬ v2 ≤ v3 → (V_X6_read v3 S (fun (r17 : Int64) (S18 : SS) => (V_X5_write 2 3 4 5 v3 v1 r17 S18 (fun (S20 : SS) => (∀ x21 : Int32, x21 = v3 + 1 → (V_X7_lay_51  v1 v2  post n x21 S20))))))))
set_option maxHeartbeats 4000000 in
set_option maxRecDepth 100000 in
theorem lp_X7_lay_51  (v1 : Int32) (v2 : Int32)  (post : Int32 → SS → Prop) (C0 : Bd p s m meth c args cX7_lay 4 (some .int) wsX7_lay RX7 D n0 cI cJ) : ∀ (n : Nat) (v3 : Int32) (S : SS), V_X7_lay_51  v1 v2  post n v3 S → ∀ (H : Heap) (locs : List Loc), Wh D n0 ad cI cJ X S s H locs → ∀ ls : Array Slot, lv_has ls 4 [(0, .ref (ad 0)), (1, .int v1), (2, .int v2), (3, .int v3)] → W p l e rm_X7_lay s m args below meth c H locs 0 0 (MQ below (va_Qi post (fun S' t => Wd D n0 ad cI cJ X S' t) (fr n0)) args s 0 0 (fr n0)) (F0 m 51 ls []) := by
  intro n
  induction n with
  | zero => intro v3 S hV; exact False.elim hV
  | succ n ih =>
    intro v3 S hV H locs hw ls hl
    rw [V_X7_lay_51] at hV
    refine lv_iload_n C0.x C0.b dX7_lay_51 rfl (lv_at hl 3 rfl) ?_
    refine lv_iload_n C0.x C0.b dX7_lay_52 rfl (lv_at hl 2 rfl) ?_
    refine lv_icmp_ge (tgt := 79) C0.x C0.b dX7_lay_53 (by decide) (fun c14 => ?_) (fun c14 => ?_)
    · have hV := hV.1 c14
      refine lv_aload_n C0.x C0.b dX7_lay_79 rfl (lv_at hl 0 rfl) ?_
      refine r_get C0 hw (C := RX7) (T := TX7) (N := 15) (v := .ref (ad 16)) iw_X7_lay_X7 (lg_0 ad cI cJ X S) rfl 5 (by decide) (C0.ts _ fw_X7_lay_36) rfl dX7_lay_80 ?_
      refine r_cV_v (As := []) (rest := []) C0 hw (c_X6_drop  hV) (cwV 0 C0.ts gX7_lay_X6_drop rfl rfl rfl hd_X6_drop ⟨Nat.le_of_ble_eq_true rfl, Nat.le_of_ble_eq_true rfl⟩) (lg_16 ad cI cJ X S) rfl rfl hl.1 rfl (Nat.le_of_ble_eq_true rfl) ⟨Nat.zero_le _, Nat.zero_le _⟩ dX7_lay_83 (fun S16 H locs hV hw => ?_)
      refine lv_iload_n C0.x C0.b dX7_lay_86 rfl (lv_at hl 2 rfl) ?_
      exact r_iret C0 rfl hw hV dX7_lay_87
    · have hV := hV.2 c14
      refine lv_aload_n C0.x C0.b dX7_lay_56 rfl (lv_at hl 0 rfl) ?_
      refine r_get C0 hw (C := RX7) (T := TX7) (N := 15) (v := .ref (ad 5)) iw_X7_lay_X7 (lg_0 ad cI cJ X S) rfl 2 (by decide) (C0.ts _ fw_X7_lay_20) rfl dX7_lay_57 ?_
      refine lv_iload_n C0.x C0.b dX7_lay_60 rfl (lv_at hl 3 rfl) ?_
      refine lv_iload_n C0.x C0.b dX7_lay_61 rfl (lv_at hl 1 rfl) ?_
      refine lv_aload_n C0.x C0.b dX7_lay_62 rfl (lv_at hl 0 rfl) ?_
      refine r_get C0 hw (C := RX7) (T := TX7) (N := 15) (v := .ref (ad 16)) iw_X7_lay_X7 (lg_0 ad cI cJ X S) rfl 5 (by decide) (C0.ts _ fw_X7_lay_36) rfl dX7_lay_63 ?_
      refine lv_iload_n C0.x C0.b dX7_lay_66 rfl (lv_at hl 3 rfl) ?_
      refine r_cV_l (As := [.int v3]) (rest := [.int v1, .int v3, .ref (ad 5)]) C0 hw (c_X6_read  hV) (cwV 1 C0.ts gX7_lay_X6_read rfl rfl rfl hd_X6_read ⟨Nat.le_of_ble_eq_true rfl, Nat.le_of_ble_eq_true rfl⟩) (lg_16 ad cI cJ X S) rfl rfl hl.1 rfl (Nat.le_of_ble_eq_true rfl) ⟨Nat.zero_le _, Nat.zero_le _⟩ dX7_lay_67 (fun r17 S18 H locs hV hw => ?_)
      refine r_cV_v (As := [.int v3, .int v1, .long r17]) (rest := []) C0 hw (c_X5_write (ln_5 ad cI cJ X) hV) (cwV 3 C0.ts gX7_lay_X5_write rfl rfl rfl hd_X5_write ⟨Nat.le_of_ble_eq_true rfl, Nat.le_of_ble_eq_true rfl⟩) (lg_5 ad cI cJ X S18) rfl rfl hl.1 rfl (Nat.le_of_ble_eq_true rfl) ⟨Nat.zero_le _, Nat.zero_le _⟩ dX7_lay_70 (fun S20 H locs hV hw => ?_)
      obtain ⟨x21, ex21⟩ : ∃ z : Int32, z = v3 + 1 := ⟨_, rfl⟩
      have hV := hV x21 ex21
      refine lv_iinc (v := x21) (lv' := [(3, .int x21), (0, .ref (ad 0)), (1, .int v1), (2, .int v2)]) C0.x C0.b dX7_lay_73 hl (k := 3) rfl (by rw [ex21]; rfl) (by decide) rfl (fun ls hl => ?_)
      refine lv_goto (tgt := 51) C0.x C0.b dX7_lay_76 (by decide) ?_
      exact ih _ _ hV _ _ hw _ (lv_sub hl [1, 2, 3, 0] rfl)
def V_X7_lay  (p0 : Int32) (S : SS) (post : Int32 → SS → Prop) : Prop :=
  (V_X6_isThere  S (fun (r1 : Int32) (S2 : SS) => ((r1 = 0 → (post (-1 : Int32) S2)) ∧ (¬ r1 = 0 → (V_X5_measure 2 3 4 5 S2 (fun (r4 : Int32) (S5 : SS) => ((r4 = 0 → (post (-1 : Int32) S5)) ∧ (¬ r4 = 0 → ((p0 < 0 → (post (-1 : Int32) S5)) ∧ (¬ p0 < 0 → ((p0 ≤ (2 : Int32) → (V_X6_entries  S5 (fun (r9 : Int32) (S10 : SS) => (V_X5_measure 2 3 4 5 S10 (fun (r11 : Int32) (S12 : SS) => (∀ x13 : Int32, x13 = (mnI r9 r11) → (∃ n51 : Nat, V_X7_lay_51  p0 x13  post n51 (0 : Int32) S12))))))) ∧ (¬ p0 ≤ (2 : Int32) → (post (-1 : Int32) S5)))))))))))))
set_option maxHeartbeats 4000000 in
set_option maxRecDepth 100000 in
theorem c_X7_lay  {S : SS} {p0 : Int32} {post : Int32 → SS → Prop} (hV : V_X7_lay  p0 S post) : MI l yX7_lay wsX7_lay rm_X7_lay [.ref (ad 0), .int p0] D n0 ad cI cJ X S post := by
  refine Met.ofW (cc := cX7_lay) (maxL := 4) (ret := (some .int)) (by decide) rfl ?_
  intro p e s m args below meth c s₁ B hml hv
  obtain ⟨rfl, hv⟩ := hv
  have C0 := Bd.mk B hml (atoms_spec (ws := wsX7_lay) B.pre) (findClass_of_methodNamed B.named) hv.1
  have hw : Wh D n0 ad cI cJ X S s s.heap [] := ⟨hv.2.1, hv.2.2, va_S.rf⟩
  refine r_entry (Nat.le_of_ble_eq_true rfl) (fun ls hl => ?_)
  have hl : lv_has ls 4 [(0, .ref (ad 0)), (1, .int p0)] := hl
  unfold V_X7_lay at hV
  refine lv_aload_n C0.x C0.b dX7_lay_0 rfl (lv_at hl 0 rfl) ?_
  refine r_get C0 hw (C := RX7) (T := TX7) (N := 15) (v := .ref (ad 16)) iw_X7_lay_X7 (lg_0 ad cI cJ X S) rfl 5 (by decide) (C0.ts _ fw_X7_lay_36) rfl dX7_lay_1 ?_
  refine r_cV_i (As := []) (rest := []) C0 hw (c_X6_isThere  hV) (cwV 0 C0.ts gX7_lay_X6_isThere rfl rfl rfl hd_X6_isThere ⟨Nat.le_of_ble_eq_true rfl, Nat.le_of_ble_eq_true rfl⟩) (lg_16 ad cI cJ X S) rfl rfl hl.1 rfl (Nat.le_of_ble_eq_true rfl) ⟨Nat.zero_le _, Nat.zero_le _⟩ dX7_lay_4 (fun r1 S2 H locs hV hw => ?_)
  refine lv_if_eq (tgt := 29) C0.x C0.b dX7_lay_7 (by decide) (fun c3 => ?_) (fun c3 => ?_)
  · have hV := hV.1 c3
    refine lv_iconst (v := -1) C0.x C0.b dX7_lay_29 (by decide) ?_
    exact r_iret C0 rfl hw hV dX7_lay_30
  · have hV := hV.2 c3
    refine lv_aload_n C0.x C0.b dX7_lay_10 rfl (lv_at hl 0 rfl) ?_
    refine r_get C0 hw (C := RX7) (T := TX7) (N := 15) (v := .ref (ad 5)) iw_X7_lay_X7 (lg_0 ad cI cJ X S2) rfl 2 (by decide) (C0.ts _ fw_X7_lay_20) rfl dX7_lay_11 ?_
    refine r_cV_i (As := []) (rest := []) C0 hw (c_X5_measure (ln_5 ad cI cJ X) hV) (cwV 0 C0.ts gX7_lay_X5_measure rfl rfl rfl hd_X5_measure ⟨Nat.le_of_ble_eq_true rfl, Nat.le_of_ble_eq_true rfl⟩) (lg_5 ad cI cJ X S2) rfl rfl hl.1 rfl (Nat.le_of_ble_eq_true rfl) ⟨Nat.zero_le _, Nat.zero_le _⟩ dX7_lay_14 (fun r4 S5 H locs hV hw => ?_)
    refine lv_if_eq (tgt := 29) C0.x C0.b dX7_lay_17 (by decide) (fun c6 => ?_) (fun c6 => ?_)
    · have hV := hV.1 c6
      refine lv_iconst (v := -1) C0.x C0.b dX7_lay_29 (by decide) ?_
      exact r_iret C0 rfl hw hV dX7_lay_30
    · have hV := hV.2 c6
      refine lv_iload_n C0.x C0.b dX7_lay_20 rfl (lv_at hl 1 rfl) ?_
      refine lv_if_lt (tgt := 29) C0.x C0.b dX7_lay_21 (by decide) (fun c7 => ?_) (fun c7 => ?_)
      · have hV := hV.1 c7
        refine lv_iconst (v := -1) C0.x C0.b dX7_lay_29 (by decide) ?_
        exact r_iret C0 rfl hw hV dX7_lay_30
      · have hV := hV.2 c7
        refine lv_iload_n C0.x C0.b dX7_lay_24 rfl (lv_at hl 1 rfl) ?_
        refine lv_iconst (v := 2) C0.x C0.b dX7_lay_25 (by decide) ?_
        refine lv_icmp_le (tgt := 31) C0.x C0.b dX7_lay_26 (by decide) (fun c8 => ?_) (fun c8 => ?_)
        · have hV := hV.1 c8
          refine lv_aload_n C0.x C0.b dX7_lay_31 rfl (lv_at hl 0 rfl) ?_
          refine r_get C0 hw (C := RX7) (T := TX7) (N := 15) (v := .ref (ad 16)) iw_X7_lay_X7 (lg_0 ad cI cJ X S5) rfl 5 (by decide) (C0.ts _ fw_X7_lay_36) rfl dX7_lay_32 ?_
          refine r_cV_i (As := []) (rest := []) C0 hw (c_X6_entries  hV) (cwV 0 C0.ts gX7_lay_X6_entries rfl rfl rfl hd_X6_entries ⟨Nat.le_of_ble_eq_true rfl, Nat.le_of_ble_eq_true rfl⟩) (lg_16 ad cI cJ X S5) rfl rfl hl.1 rfl (Nat.le_of_ble_eq_true rfl) ⟨Nat.zero_le _, Nat.zero_le _⟩ dX7_lay_35 (fun r9 S10 H locs hV hw => ?_)
          refine lv_aload_n C0.x C0.b dX7_lay_38 rfl (lv_at hl 0 rfl) ?_
          refine r_get C0 hw (C := RX7) (T := TX7) (N := 15) (v := .ref (ad 5)) iw_X7_lay_X7 (lg_0 ad cI cJ X S10) rfl 2 (by decide) (C0.ts _ fw_X7_lay_20) rfl dX7_lay_39 ?_
          refine r_cV_i (As := []) (rest := [.int r9]) C0 hw (c_X5_measure (ln_5 ad cI cJ X) hV) (cwV 0 C0.ts gX7_lay_X5_measure rfl rfl rfl hd_X5_measure ⟨Nat.le_of_ble_eq_true rfl, Nat.le_of_ble_eq_true rfl⟩) (lg_5 ad cI cJ X S10) rfl rfl hl.1 rfl (Nat.le_of_ble_eq_true rfl) ⟨Nat.zero_le _, Nat.zero_le _⟩ dX7_lay_42 (fun r11 S12 H locs hV hw => ?_)
          refine va_mmin C0.x C0.b (C0.ml.trans hl.1.symm) C0.ow (C0.ts _ ml_X7_lay_106) (C0.ts _ ms_X7_lay_106) (C0.ts _ mi_X7_lay_106) (C0.ts _ mc_X7_lay_106) (Nat.le_of_ble_eq_true rfl) (Nat.le_of_ble_eq_true rfl) (Nat.zero_le _) (Nat.zero_le _) dX7_lay_45 ?_
          refine lv_topi (fun x13 ex13 => ?_)
          have hV := hV x13 ex13
          refine lv_istore_n (lv' := [(2, .int x13), (0, .ref (ad 0)), (1, .int p0)]) C0.x C0.b dX7_lay_48 rfl hl (by decide) rfl (fun ls hl => ?_)
          refine lv_iconst (v := 0) C0.x C0.b dX7_lay_49 (by decide) ?_
          refine lv_istore_n (lv' := [(3, .int (0 : Int32)), (2, .int x13), (0, .ref (ad 0)), (1, .int p0)]) C0.x C0.b dX7_lay_50 rfl hl (by decide) rfl (fun ls hl => ?_)
          obtain ⟨n51, hV⟩ := hV
          exact lp_X7_lay_51  _ _ post C0  n51 _ _ hV _ _ hw _ (lv_sub hl [2, 3, 1, 0] rfl)
        · have hV := hV.2 c8
          refine lv_iconst (v := -1) C0.x C0.b dX7_lay_29 (by decide) ?_
          exact r_iret C0 rfl hw hV dX7_lay_30
/-! StepBench.list()Z -/
abbrev rm_X7_list : Room := { frames := 1, cells := 0, slots := 0, locals := 20 }
set_option maxRecDepth 20000 in
theorem fw_X7_list_29 : Cond.fieldLink RX7 29 "StepBench" "fractions" "LStepBench$Fractions;" ∈ wsX7_list := by decide +kernel
set_option maxRecDepth 20000 in
theorem iw_X7_list_X7 : ∀ w ∈ wsX70, w ∈ wsX7_list := by decide +kernel
set_option maxRecDepth 20000 in
theorem fw_X7_list_9 : Cond.fieldLink RX7 9 "StepBench" "ruleKind" "I" ∈ wsX7_list := by decide +kernel
set_option maxRecDepth 20000 in
theorem hd_X7_list : yX7_list.cls = RX7 ∧ yX7_list.cls ≠ "java/lang/invoke/MethodHandle" ∧ yX7_list.cls ≠ "java/lang/invoke/VarHandle" ∧ (parseMethodDescriptor yX7_list.desc).map (fun d => d.parameters.length) = some 0 := by decide +kernel
def V_X7_list   (S : SS) (post : Int32 → SS → Prop) : Prop :=
  (V_X0_empty  S (fun (S2 : SS) => (∀ S3 : SS, S3 = (sI S2 0 (2 : Int32)) → (post (1 : Int32) S3))))
set_option maxHeartbeats 4000000 in
set_option maxRecDepth 100000 in
theorem c_X7_list  {S : SS}  {post : Int32 → SS → Prop} (hV : V_X7_list   S post) : MI l yX7_list wsX7_list rm_X7_list [.ref (ad 0)] D n0 ad cI cJ X S post := by
  refine Met.ofW (cc := cX7_list) (maxL := 1) (ret := (some .boolean)) (by decide) rfl ?_
  intro p e s m args below meth c s₁ B hml hv
  obtain ⟨rfl, hv⟩ := hv
  have C0 := Bd.mk B hml (atoms_spec (ws := wsX7_list) B.pre) (findClass_of_methodNamed B.named) hv.1
  have hw : Wh D n0 ad cI cJ X S s s.heap [] := ⟨hv.2.1, hv.2.2, va_S.rf⟩
  refine r_entry (Nat.le_of_ble_eq_true rfl) (fun ls hl => ?_)
  have hl : lv_has ls 1 [(0, .ref (ad 0))] := hl
  unfold V_X7_list at hV
  refine lv_aload_n C0.x C0.b dX7_list_0 rfl (lv_at hl 0 rfl) ?_
  refine r_get C0 hw (C := RX7) (T := TX7) (N := 15) (v := .ref (ad 13)) iw_X7_list_X7 (lg_0 ad cI cJ X S) rfl 4 (by decide) (C0.ts _ fw_X7_list_29) rfl dX7_list_1 ?_
  refine r_cV_v (As := []) (rest := []) C0 hw (c_X0_empty  hV) (cwV 0 C0.ts gX7_list_X0_empty rfl rfl rfl hd_X0_empty ⟨Nat.le_of_ble_eq_true rfl, Nat.le_of_ble_eq_true rfl⟩) (lg_13 ad cI cJ X S) rfl rfl hl.1 rfl (Nat.le_of_ble_eq_true rfl) ⟨Nat.zero_le _, Nat.zero_le _⟩ dX7_list_4 (fun S2 H locs hV hw => ?_)
  refine lv_aload_n C0.x C0.b dX7_list_7 rfl (lv_at hl 0 rfl) ?_
  refine lv_iconst (v := 2) C0.x C0.b dX7_list_8 (by decide) ?_
  refine r_put C0 hw (C := RX7) (T := TX7) (N := 15) (ty := .int) iw_X7_list_X7 tyX7 tyX7_ok nmX7 (lg_0 ad cI cJ X S2) rfl 0 (by decide) (C0.ts _ fw_X7_list_9) rfl (by decide +kernel) rfl rfl (Nat.le_of_ble_eq_true rfl) dX7_list_9 (S' := (sI S2 0 (2 : Int32))) (ls_0_0 ad cI cJ X S2 (2 : Int32)) (fun S3 H locs eS3 hw => ?_)
  have hV := hV S3 eS3
  refine lv_iconst (v := 1) C0.x C0.b dX7_list_12 (by decide) ?_
  exact r_zret C0 rfl bz_1 hw hV dX7_list_13
/-! StepBench.fraction(JJ)I -/
abbrev rm_X7_fraction : Room := { frames := 3, cells := 0, slots := 0, locals := 80 }
set_option maxRecDepth 20000 in
theorem fw_X7_fraction_9 : Cond.fieldLink RX7 9 "StepBench" "ruleKind" "I" ∈ wsX7_fraction := by decide +kernel
set_option maxRecDepth 20000 in
theorem iw_X7_fraction_X7 : ∀ w ∈ wsX70, w ∈ wsX7_fraction := by decide +kernel
set_option maxRecDepth 20000 in
theorem cw_X7_fraction_140 : Cond.constantLong RX7 140 1000000000 ∈ wsX7_fraction := by decide +kernel
set_option maxRecDepth 20000 in
theorem fw_X7_fraction_29 : Cond.fieldLink RX7 29 "StepBench" "fractions" "LStepBench$Fractions;" ∈ wsX7_fraction := by decide +kernel
set_option maxRecDepth 20000 in
theorem hd_X7_fraction : yX7_fraction.cls = RX7 ∧ yX7_fraction.cls ≠ "java/lang/invoke/MethodHandle" ∧ yX7_fraction.cls ≠ "java/lang/invoke/VarHandle" ∧ (parseMethodDescriptor yX7_fraction.desc).map (fun d => d.parameters.length) = some 2 := by decide +kernel
def V_X7_fraction  (p0 : Int64) (p1 : Int64) (S : SS) (post : Int32 → SS → Prop) : Prop :=
  (((gI S 0) = (2 : Int32) → ((p0 < (1 : Int64) → (post (-1 : Int32) S)) ∧ (¬ p0 < (1 : Int64) → (((1000000000 : Int64) < p0 → (post (-1 : Int32) S)) ∧ (¬ (1000000000 : Int64) < p0 → ((p1 < (1 : Int64) → (post (-1 : Int32) S)) ∧ (¬ p1 < (1 : Int64) → ((p1 ≤ (1000000000 : Int64) → (V_X0_add p0 p1 S (fun (r6 : Int32) (S7 : SS) => ((r6 = 0 → (post (-1 : Int32) S7)) ∧ (¬ r6 = 0 → (V_X0_size  S7 (fun (r9 : Int32) (S10 : SS) => (post r9 S10)))))))) ∧ (¬ p1 ≤ (1000000000 : Int64) → (post (-1 : Int32) S)))))))))) ∧ (¬ (gI S 0) = (2 : Int32) → (post (-1 : Int32) S)))
set_option maxHeartbeats 4000000 in
set_option maxRecDepth 100000 in
theorem c_X7_fraction  {S : SS} {p0 : Int64} {p1 : Int64} {post : Int32 → SS → Prop} (hV : V_X7_fraction  p0 p1 S post) : MI l yX7_fraction wsX7_fraction rm_X7_fraction [.ref (ad 0), .long p0, .long p1] D n0 ad cI cJ X S post := by
  refine Met.ofW (cc := cX7_fraction) (maxL := 5) (ret := (some .int)) (by decide) rfl ?_
  intro p e s m args below meth c s₁ B hml hv
  obtain ⟨rfl, hv⟩ := hv
  have C0 := Bd.mk B hml (atoms_spec (ws := wsX7_fraction) B.pre) (findClass_of_methodNamed B.named) hv.1
  have hw : Wh D n0 ad cI cJ X S s s.heap [] := ⟨hv.2.1, hv.2.2, va_S.rf⟩
  refine r_entry (Nat.le_of_ble_eq_true rfl) (fun ls hl => ?_)
  have hl : lv_has ls 5 [(0, .ref (ad 0)), (1, .long p0), (3, .long p1)] := hl
  unfold V_X7_fraction at hV
  refine lv_aload_n C0.x C0.b dX7_fraction_0 rfl (lv_at hl 0 rfl) ?_
  refine r_get C0 hw (C := RX7) (T := TX7) (N := 15) (v := .int (gI S 0)) iw_X7_fraction_X7 (lg_0 ad cI cJ X S) rfl 0 (by decide) (C0.ts _ fw_X7_fraction_9) rfl dX7_fraction_1 ?_
  refine lv_iconst (v := 2) C0.x C0.b dX7_fraction_4 (by decide) ?_
  refine lv_icmp_ne (tgt := 36) C0.x C0.b dX7_fraction_5 (by decide) (fun c1 => ?_) (fun c1 => ?_)
  · have hV := hV.2 c1
    refine lv_iconst (v := -1) C0.x C0.b dX7_fraction_36 (by decide) ?_
    exact r_iret C0 rfl hw hV dX7_fraction_37
  · have hV := hV.1 c1
    refine lv_lload_n C0.x C0.b dX7_fraction_8 rfl (lv_at hl 1 rfl) ?_
    refine lv_lconst (v := 1) C0.x C0.b dX7_fraction_9 (by decide) ?_
    refine r_lcmp C0 dX7_fraction_10 ?_
    refine lv_if_lt (tgt := 36) C0.x C0.b dX7_fraction_11 (by decide) (fun c2 => ?_) (fun c2 => ?_)
    · have hV := hV.1 ((lc_lt _ _).mp c2)
      refine lv_iconst (v := -1) C0.x C0.b dX7_fraction_36 (by decide) ?_
      exact r_iret C0 rfl hw hV dX7_fraction_37
    · have hV := hV.2 (fun h => c2 ((lc_lt _ _).mpr h))
      refine lv_lload_n C0.x C0.b dX7_fraction_14 rfl (lv_at hl 1 rfl) ?_
      refine lv_ldc2 (v := 1000000000) C0.x C0.b C0.ow (C0.ts _ cw_X7_fraction_140) dX7_fraction_15 ?_
      refine r_lcmp C0 dX7_fraction_18 ?_
      refine lv_if_gt (tgt := 36) C0.x C0.b dX7_fraction_19 (by decide) (fun c3 => ?_) (fun c3 => ?_)
      · have hV := hV.1 ((lc_gt _ _).mp c3)
        refine lv_iconst (v := -1) C0.x C0.b dX7_fraction_36 (by decide) ?_
        exact r_iret C0 rfl hw hV dX7_fraction_37
      · have hV := hV.2 (fun h => c3 ((lc_gt _ _).mpr h))
        refine lv_lload_n C0.x C0.b dX7_fraction_22 rfl (lv_at hl 2 rfl) ?_
        refine lv_lconst (v := 1) C0.x C0.b dX7_fraction_23 (by decide) ?_
        refine r_lcmp C0 dX7_fraction_24 ?_
        refine lv_if_lt (tgt := 36) C0.x C0.b dX7_fraction_25 (by decide) (fun c4 => ?_) (fun c4 => ?_)
        · have hV := hV.1 ((lc_lt _ _).mp c4)
          refine lv_iconst (v := -1) C0.x C0.b dX7_fraction_36 (by decide) ?_
          exact r_iret C0 rfl hw hV dX7_fraction_37
        · have hV := hV.2 (fun h => c4 ((lc_lt _ _).mpr h))
          refine lv_lload_n C0.x C0.b dX7_fraction_28 rfl (lv_at hl 2 rfl) ?_
          refine lv_ldc2 (v := 1000000000) C0.x C0.b C0.ow (C0.ts _ cw_X7_fraction_140) dX7_fraction_29 ?_
          refine r_lcmp C0 dX7_fraction_32 ?_
          refine lv_if_le (tgt := 38) C0.x C0.b dX7_fraction_33 (by decide) (fun c5 => ?_) (fun c5 => ?_)
          · have hV := hV.1 ((lc_le _ _).mp c5)
            refine lv_aload_n C0.x C0.b dX7_fraction_38 rfl (lv_at hl 0 rfl) ?_
            refine r_get C0 hw (C := RX7) (T := TX7) (N := 15) (v := .ref (ad 13)) iw_X7_fraction_X7 (lg_0 ad cI cJ X S) rfl 4 (by decide) (C0.ts _ fw_X7_fraction_29) rfl dX7_fraction_39 ?_
            refine lv_lload_n C0.x C0.b dX7_fraction_42 rfl (lv_at hl 1 rfl) ?_
            refine lv_lload_n C0.x C0.b dX7_fraction_43 rfl (lv_at hl 2 rfl) ?_
            refine r_cV_i (As := [.long p0, .long p1]) (rest := []) C0 hw (c_X0_add  hV) (cwV 2 C0.ts gX7_fraction_X0_add rfl rfl rfl hd_X0_add ⟨Nat.le_of_ble_eq_true rfl, Nat.le_of_ble_eq_true rfl⟩) (lg_13 ad cI cJ X S) rfl rfl hl.1 rfl (Nat.le_of_ble_eq_true rfl) ⟨Nat.zero_le _, Nat.zero_le _⟩ dX7_fraction_44 (fun r6 S7 H locs hV hw => ?_)
            refine lv_if_eq (tgt := 60) C0.x C0.b dX7_fraction_47 (by decide) (fun c8 => ?_) (fun c8 => ?_)
            · have hV := hV.1 c8
              refine lv_iconst (v := -1) C0.x C0.b dX7_fraction_60 (by decide) ?_
              exact r_iret C0 rfl hw hV dX7_fraction_61
            · have hV := hV.2 c8
              refine lv_aload_n C0.x C0.b dX7_fraction_50 rfl (lv_at hl 0 rfl) ?_
              refine r_get C0 hw (C := RX7) (T := TX7) (N := 15) (v := .ref (ad 13)) iw_X7_fraction_X7 (lg_0 ad cI cJ X S7) rfl 4 (by decide) (C0.ts _ fw_X7_fraction_29) rfl dX7_fraction_51 ?_
              refine r_cV_i (As := []) (rest := []) C0 hw (c_X0_size  hV) (cwV 0 C0.ts gX7_fraction_X0_size rfl rfl rfl hd_X0_size ⟨Nat.le_of_ble_eq_true rfl, Nat.le_of_ble_eq_true rfl⟩) (lg_13 ad cI cJ X S7) rfl rfl hl.1 rfl (Nat.le_of_ble_eq_true rfl) ⟨Nat.zero_le _, Nat.zero_le _⟩ dX7_fraction_54 (fun r9 S10 H locs hV hw => ?_)
              refine lv_goto (tgt := 61) C0.x C0.b dX7_fraction_57 (by decide) ?_
              exact r_iret C0 rfl hw hV dX7_fraction_61
          · have hV := hV.2 (fun h => c5 ((lc_le _ _).mpr h))
            refine lv_iconst (v := -1) C0.x C0.b dX7_fraction_36 (by decide) ?_
            exact r_iret C0 rfl hw hV dX7_fraction_37
/-! StepBench.count(I)I -/
abbrev rm_X7_count : Room := { frames := 2, cells := 0, slots := 0, locals := 40 }
set_option maxRecDepth 20000 in
theorem fw_X7_count_9 : Cond.fieldLink RX7 9 "StepBench" "ruleKind" "I" ∈ wsX7_count := by decide +kernel
set_option maxRecDepth 20000 in
theorem iw_X7_count_X7 : ∀ w ∈ wsX70, w ∈ wsX7_count := by decide +kernel
set_option maxRecDepth 20000 in
theorem fw_X7_count_16 : Cond.fieldLink RX7 16 "StepBench" "rule" "LStepBench$Shares;" ∈ wsX7_count := by decide +kernel
set_option maxRecDepth 20000 in
theorem fw_X7_count_29 : Cond.fieldLink RX7 29 "StepBench" "fractions" "LStepBench$Fractions;" ∈ wsX7_count := by decide +kernel
set_option maxRecDepth 20000 in
theorem fw_X7_count_45 : Cond.fieldLink RX7 45 "StepBench" "numbers" "LStepBench$Numbers;" ∈ wsX7_count := by decide +kernel
set_option maxRecDepth 20000 in
theorem fw_X7_count_55 : Cond.fieldLink RX7 55 "StepBench" "theWord" "LStepBench$Numbers;" ∈ wsX7_count := by decide +kernel
set_option maxRecDepth 20000 in
theorem fw_X7_count_81 : Cond.fieldLink RX7 81 "StepBench" "machine" "LStepBench$Machine;" ∈ wsX7_count := by decide +kernel
set_option maxRecDepth 20000 in
theorem fw_X7_count_36 : Cond.fieldLink RX7 36 "StepBench" "laid" "LStepBench$Sheet;" ∈ wsX7_count := by decide +kernel
set_option maxRecDepth 20000 in
theorem hd_X7_count : yX7_count.cls = RX7 ∧ yX7_count.cls ≠ "java/lang/invoke/MethodHandle" ∧ yX7_count.cls ≠ "java/lang/invoke/VarHandle" ∧ (parseMethodDescriptor yX7_count.desc).map (fun d => d.parameters.length) = some 1 := by decide +kernel
def V_X7_count  (p0 : Int32) (S : SS) (post : Int32 → SS → Prop) : Prop :=
  ((p0 = 0 → (post (gI S 0) S)) ∧ (p0 = 1 → (((gI S 0) = (1 : Int32) → (V_X5_measure 1 0 1 2 S (fun (r2 : Int32) (S3 : SS) => (post r2 S3)))) ∧ (¬ (gI S 0) = (1 : Int32) → (post (0 : Int32) S)))) ∧ (p0 = 2 → (((gI S 0) = (2 : Int32) → (V_X0_size  S (fun (r5 : Int32) (S6 : SS) => (post r5 S6)))) ∧ (¬ (gI S 0) = (2 : Int32) → (post (0 : Int32) S)))) ∧ (p0 = 3 → (V_X2_size 7 12 1000 S (fun (r7 : Int32) (S8 : SS) => (post r7 S8)))) ∧ (p0 = 4 → (V_X2_size 10 15 40 S (fun (r9 : Int32) (S10 : SS) => (post r9 S10)))) ∧ (p0 = 5 → (V_X1_size  S (fun (r11 : Int32) (S12 : SS) => (post r11 S12)))) ∧ (p0 = 6 → (V_X6_isThere  S (fun (r13 : Int32) (S14 : SS) => ((r13 = 0 → (post (-1 : Int32) S14)) ∧ (¬ r13 = 0 → (V_X6_entries  S14 (fun (r16 : Int32) (S17 : SS) => (post r16 S17)))))))) ∧ ((p0.toInt < 0 ∨ 6 < p0.toInt) → (post (-1 : Int32) S)))
set_option maxHeartbeats 4000000 in
set_option maxRecDepth 100000 in
theorem c_X7_count  {S : SS} {p0 : Int32} {post : Int32 → SS → Prop} (hV : V_X7_count  p0 S post) : MI l yX7_count wsX7_count rm_X7_count [.ref (ad 0), .int p0] D n0 ad cI cJ X S post := by
  refine Met.ofW (cc := cX7_count) (maxL := 2) (ret := (some .int)) (by decide) rfl ?_
  intro p e s m args below meth c s₁ B hml hv
  obtain ⟨rfl, hv⟩ := hv
  have C0 := Bd.mk B hml (atoms_spec (ws := wsX7_count) B.pre) (findClass_of_methodNamed B.named) hv.1
  have hw : Wh D n0 ad cI cJ X S s s.heap [] := ⟨hv.2.1, hv.2.2, va_S.rf⟩
  refine r_entry (Nat.le_of_ble_eq_true rfl) (fun ls hl => ?_)
  have hl : lv_has ls 2 [(0, .ref (ad 0)), (1, .int p0)] := hl
  unfold V_X7_count at hV
  refine lv_iload_n C0.x C0.b dX7_count_0 rfl (lv_at hl 1 rfl) ?_
  by_cases hsw : p0.toInt < 0 ∨ 6 < p0.toInt
  · refine lv_tableOut (tgt := 135) C0.x C0.b dX7_count_1 hsw (by decide) ?_
    have hV := hV.2.2.2.2.2.2.2 hsw
    refine lv_iconst (v := -1) C0.x C0.b dX7_count_135 (by decide) ?_
    exact r_iret C0 rfl hw hV dX7_count_136
  · obtain ⟨k, hk, ek⟩ := sw_of hsw
    have hk : k = 0 ∨ k = 1 ∨ k = 2 ∨ k = 3 ∨ k = 4 ∨ k = 5 ∨ k = 6 := by omega
    rcases hk with rfl | rfl | rfl | rfl | rfl | rfl | rfl
    · have ek : p0 = 0 := ek
      have hV := hV.1 ek
      refine lv_tableIn (tgt := 44) C0.x C0.b dX7_count_1 (by rw [ek]; decide) (by rw [ek]; decide) (by rw [ek]; rfl) (by decide) ?_
      refine lv_aload_n C0.x C0.b dX7_count_44 rfl (lv_at hl 0 rfl) ?_
      refine r_get C0 hw (C := RX7) (T := TX7) (N := 15) (v := .int (gI S 0)) iw_X7_count_X7 (lg_0 ad cI cJ X S) rfl 0 (by decide) (C0.ts _ fw_X7_count_9) rfl dX7_count_45 ?_
      exact r_iret C0 rfl hw hV dX7_count_48
    · have ek : p0 = 1 := ek
      have hV := hV.2.1 ek
      refine lv_tableIn (tgt := 49) C0.x C0.b dX7_count_1 (by rw [ek]; decide) (by rw [ek]; decide) (by rw [ek]; rfl) (by decide) ?_
      refine lv_aload_n C0.x C0.b dX7_count_49 rfl (lv_at hl 0 rfl) ?_
      refine r_get C0 hw (C := RX7) (T := TX7) (N := 15) (v := .int (gI S 0)) iw_X7_count_X7 (lg_0 ad cI cJ X S) rfl 0 (by decide) (C0.ts _ fw_X7_count_9) rfl dX7_count_50 ?_
      refine lv_iconst (v := 1) C0.x C0.b dX7_count_53 (by decide) ?_
      refine lv_icmp_ne (tgt := 67) C0.x C0.b dX7_count_54 (by decide) (fun c1 => ?_) (fun c1 => ?_)
      · have hV := hV.2 c1
        refine lv_iconst (v := 0) C0.x C0.b dX7_count_67 (by decide) ?_
        exact r_iret C0 rfl hw hV dX7_count_68
      · have hV := hV.1 c1
        refine lv_aload_n C0.x C0.b dX7_count_57 rfl (lv_at hl 0 rfl) ?_
        refine r_get C0 hw (C := RX7) (T := TX7) (N := 15) (v := .ref (ad 1)) iw_X7_count_X7 (lg_0 ad cI cJ X S) rfl 1 (by decide) (C0.ts _ fw_X7_count_16) rfl dX7_count_58 ?_
        refine r_cV_i (As := []) (rest := []) C0 hw (c_X5_measure (ln_1 ad cI cJ X) hV) (cwV 0 C0.ts gX7_count_X5_measure rfl rfl rfl hd_X5_measure ⟨Nat.le_of_ble_eq_true rfl, Nat.le_of_ble_eq_true rfl⟩) (lg_1 ad cI cJ X S) rfl rfl hl.1 rfl (Nat.le_of_ble_eq_true rfl) ⟨Nat.zero_le _, Nat.zero_le _⟩ dX7_count_61 (fun r2 S3 H locs hV hw => ?_)
        refine lv_goto (tgt := 68) C0.x C0.b dX7_count_64 (by decide) ?_
        exact r_iret C0 rfl hw hV dX7_count_68
    · have ek : p0 = 2 := ek
      have hV := hV.2.2.1 ek
      refine lv_tableIn (tgt := 69) C0.x C0.b dX7_count_1 (by rw [ek]; decide) (by rw [ek]; decide) (by rw [ek]; rfl) (by decide) ?_
      refine lv_aload_n C0.x C0.b dX7_count_69 rfl (lv_at hl 0 rfl) ?_
      refine r_get C0 hw (C := RX7) (T := TX7) (N := 15) (v := .int (gI S 0)) iw_X7_count_X7 (lg_0 ad cI cJ X S) rfl 0 (by decide) (C0.ts _ fw_X7_count_9) rfl dX7_count_70 ?_
      refine lv_iconst (v := 2) C0.x C0.b dX7_count_73 (by decide) ?_
      refine lv_icmp_ne (tgt := 87) C0.x C0.b dX7_count_74 (by decide) (fun c4 => ?_) (fun c4 => ?_)
      · have hV := hV.2 c4
        refine lv_iconst (v := 0) C0.x C0.b dX7_count_87 (by decide) ?_
        exact r_iret C0 rfl hw hV dX7_count_88
      · have hV := hV.1 c4
        refine lv_aload_n C0.x C0.b dX7_count_77 rfl (lv_at hl 0 rfl) ?_
        refine r_get C0 hw (C := RX7) (T := TX7) (N := 15) (v := .ref (ad 13)) iw_X7_count_X7 (lg_0 ad cI cJ X S) rfl 4 (by decide) (C0.ts _ fw_X7_count_29) rfl dX7_count_78 ?_
        refine r_cV_i (As := []) (rest := []) C0 hw (c_X0_size  hV) (cwV 0 C0.ts gX7_count_X0_size rfl rfl rfl hd_X0_size ⟨Nat.le_of_ble_eq_true rfl, Nat.le_of_ble_eq_true rfl⟩) (lg_13 ad cI cJ X S) rfl rfl hl.1 rfl (Nat.le_of_ble_eq_true rfl) ⟨Nat.zero_le _, Nat.zero_le _⟩ dX7_count_81 (fun r5 S6 H locs hV hw => ?_)
        refine lv_goto (tgt := 88) C0.x C0.b dX7_count_84 (by decide) ?_
        exact r_iret C0 rfl hw hV dX7_count_88
    · have ek : p0 = 3 := ek
      have hV := hV.2.2.2.1 ek
      refine lv_tableIn (tgt := 89) C0.x C0.b dX7_count_1 (by rw [ek]; decide) (by rw [ek]; decide) (by rw [ek]; rfl) (by decide) ?_
      refine lv_aload_n C0.x C0.b dX7_count_89 rfl (lv_at hl 0 rfl) ?_
      refine r_get C0 hw (C := RX7) (T := TX7) (N := 15) (v := .ref (ad 19)) iw_X7_count_X7 (lg_0 ad cI cJ X S) rfl 6 (by decide) (C0.ts _ fw_X7_count_45) rfl dX7_count_90 ?_
      refine r_cV_i (As := []) (rest := []) C0 hw (c_X2_size (ln_19 ad cI cJ X) hV) (cwV 0 C0.ts gX7_count_X2_size rfl rfl rfl hd_X2_size ⟨Nat.le_of_ble_eq_true rfl, Nat.le_of_ble_eq_true rfl⟩) (lg_19 ad cI cJ X S) rfl rfl hl.1 rfl (Nat.le_of_ble_eq_true rfl) ⟨Nat.zero_le _, Nat.zero_le _⟩ dX7_count_93 (fun r7 S8 H locs hV hw => ?_)
      exact r_iret C0 rfl hw hV dX7_count_96
    · have ek : p0 = 4 := ek
      have hV := hV.2.2.2.2.1 ek
      refine lv_tableIn (tgt := 97) C0.x C0.b dX7_count_1 (by rw [ek]; decide) (by rw [ek]; decide) (by rw [ek]; rfl) (by decide) ?_
      refine lv_aload_n C0.x C0.b dX7_count_97 rfl (lv_at hl 0 rfl) ?_
      refine r_get C0 hw (C := RX7) (T := TX7) (N := 15) (v := .ref (ad 25)) iw_X7_count_X7 (lg_0 ad cI cJ X S) rfl 9 (by decide) (C0.ts _ fw_X7_count_55) rfl dX7_count_98 ?_
      refine r_cV_i (As := []) (rest := []) C0 hw (c_X2_size (ln_25 ad cI cJ X) hV) (cwV 0 C0.ts gX7_count_X2_size rfl rfl rfl hd_X2_size ⟨Nat.le_of_ble_eq_true rfl, Nat.le_of_ble_eq_true rfl⟩) (lg_25 ad cI cJ X S) rfl rfl hl.1 rfl (Nat.le_of_ble_eq_true rfl) ⟨Nat.zero_le _, Nat.zero_le _⟩ dX7_count_101 (fun r9 S10 H locs hV hw => ?_)
      exact r_iret C0 rfl hw hV dX7_count_104
    · have ek : p0 = 5 := ek
      have hV := hV.2.2.2.2.2.1 ek
      refine lv_tableIn (tgt := 105) C0.x C0.b dX7_count_1 (by rw [ek]; decide) (by rw [ek]; decide) (by rw [ek]; rfl) (by decide) ?_
      refine lv_aload_n C0.x C0.b dX7_count_105 rfl (lv_at hl 0 rfl) ?_
      refine r_get C0 hw (C := RX7) (T := TX7) (N := 15) (v := .ref (ad 37)) iw_X7_count_X7 (lg_0 ad cI cJ X S) rfl 14 (by decide) (C0.ts _ fw_X7_count_81) rfl dX7_count_106 ?_
      refine r_cV_i (As := []) (rest := []) C0 hw (c_X1_size  hV) (cwV 0 C0.ts gX7_count_X1_size rfl rfl rfl hd_X1_size ⟨Nat.le_of_ble_eq_true rfl, Nat.le_of_ble_eq_true rfl⟩) (lg_37 ad cI cJ X S) rfl rfl hl.1 rfl (Nat.le_of_ble_eq_true rfl) ⟨Nat.zero_le _, Nat.zero_le _⟩ dX7_count_109 (fun r11 S12 H locs hV hw => ?_)
      exact r_iret C0 rfl hw hV dX7_count_112
    · have ek : p0 = 6 := ek
      have hV := hV.2.2.2.2.2.2.1 ek
      refine lv_tableIn (tgt := 113) C0.x C0.b dX7_count_1 (by rw [ek]; decide) (by rw [ek]; decide) (by rw [ek]; rfl) (by decide) ?_
      refine lv_aload_n C0.x C0.b dX7_count_113 rfl (lv_at hl 0 rfl) ?_
      refine r_get C0 hw (C := RX7) (T := TX7) (N := 15) (v := .ref (ad 16)) iw_X7_count_X7 (lg_0 ad cI cJ X S) rfl 5 (by decide) (C0.ts _ fw_X7_count_36) rfl dX7_count_114 ?_
      refine r_cV_i (As := []) (rest := []) C0 hw (c_X6_isThere  hV) (cwV 0 C0.ts gX7_count_X6_isThere rfl rfl rfl hd_X6_isThere ⟨Nat.le_of_ble_eq_true rfl, Nat.le_of_ble_eq_true rfl⟩) (lg_16 ad cI cJ X S) rfl rfl hl.1 rfl (Nat.le_of_ble_eq_true rfl) ⟨Nat.zero_le _, Nat.zero_le _⟩ dX7_count_117 (fun r13 S14 H locs hV hw => ?_)
      refine lv_if_eq (tgt := 133) C0.x C0.b dX7_count_120 (by decide) (fun c15 => ?_) (fun c15 => ?_)
      · have hV := hV.1 c15
        refine lv_iconst (v := -1) C0.x C0.b dX7_count_133 (by decide) ?_
        exact r_iret C0 rfl hw hV dX7_count_134
      · have hV := hV.2 c15
        refine lv_aload_n C0.x C0.b dX7_count_123 rfl (lv_at hl 0 rfl) ?_
        refine r_get C0 hw (C := RX7) (T := TX7) (N := 15) (v := .ref (ad 16)) iw_X7_count_X7 (lg_0 ad cI cJ X S14) rfl 5 (by decide) (C0.ts _ fw_X7_count_36) rfl dX7_count_124 ?_
        refine r_cV_i (As := []) (rest := []) C0 hw (c_X6_entries  hV) (cwV 0 C0.ts gX7_count_X6_entries rfl rfl rfl hd_X6_entries ⟨Nat.le_of_ble_eq_true rfl, Nat.le_of_ble_eq_true rfl⟩) (lg_16 ad cI cJ X S14) rfl rfl hl.1 rfl (Nat.le_of_ble_eq_true rfl) ⟨Nat.zero_le _, Nat.zero_le _⟩ dX7_count_127 (fun r16 S17 H locs hV hw => ?_)
        refine lv_goto (tgt := 134) C0.x C0.b dX7_count_130 (by decide) ?_
        exact r_iret C0 rfl hw hV dX7_count_134
/-! StepBench.after(J)J -/
abbrev rm_X7_after : Room := { frames := 4, cells := 0, slots := 0, locals := 90 }
set_option maxRecDepth 20000 in
theorem fw_X7_after_9 : Cond.fieldLink RX7 9 "StepBench" "ruleKind" "I" ∈ wsX7_after := by decide +kernel
set_option maxRecDepth 20000 in
theorem iw_X7_after_X7 : ∀ w ∈ wsX70, w ∈ wsX7_after := by decide +kernel
set_option maxRecDepth 20000 in
theorem fw_X7_after_16 : Cond.fieldLink RX7 16 "StepBench" "rule" "LStepBench$Shares;" ∈ wsX7_after := by decide +kernel
set_option maxRecDepth 20000 in
theorem fw_X7_after_29 : Cond.fieldLink RX7 29 "StepBench" "fractions" "LStepBench$Fractions;" ∈ wsX7_after := by decide +kernel
set_option maxRecDepth 20000 in
theorem hd_X7_after : yX7_after.cls = RX7 ∧ yX7_after.cls ≠ "java/lang/invoke/MethodHandle" ∧ yX7_after.cls ≠ "java/lang/invoke/VarHandle" ∧ (parseMethodDescriptor yX7_after.desc).map (fun d => d.parameters.length) = some 1 := by decide +kernel
def V_X7_after  (p0 : Int64) (S : SS) (post : Int64 → SS → Prop) : Prop :=
  (((gI S 0) = (1 : Int32) → (V_X5_after 1 0 1 2 p0 S (fun (r2 : Int64) (S3 : SS) => (post r2 S3)))) ∧ (¬ (gI S 0) = (1 : Int32) → (V_X0_after p0 S (fun (r4 : Int64) (S5 : SS) => (post r4 S5)))))
set_option maxHeartbeats 4000000 in
set_option maxRecDepth 100000 in
theorem c_X7_after  {S : SS} {p0 : Int64} {post : Int64 → SS → Prop} (hV : V_X7_after  p0 S post) : ML l yX7_after wsX7_after rm_X7_after [.ref (ad 0), .long p0] D n0 ad cI cJ X S post := by
  refine Met.ofW (cc := cX7_after) (maxL := 3) (ret := (some .long)) (by decide) rfl ?_
  intro p e s m args below meth c s₁ B hml hv
  obtain ⟨rfl, hv⟩ := hv
  have C0 := Bd.mk B hml (atoms_spec (ws := wsX7_after) B.pre) (findClass_of_methodNamed B.named) hv.1
  have hw : Wh D n0 ad cI cJ X S s s.heap [] := ⟨hv.2.1, hv.2.2, va_S.rf⟩
  refine r_entry (Nat.le_of_ble_eq_true rfl) (fun ls hl => ?_)
  have hl : lv_has ls 3 [(0, .ref (ad 0)), (1, .long p0)] := hl
  unfold V_X7_after at hV
  refine lv_aload_n C0.x C0.b dX7_after_0 rfl (lv_at hl 0 rfl) ?_
  refine r_get C0 hw (C := RX7) (T := TX7) (N := 15) (v := .int (gI S 0)) iw_X7_after_X7 (lg_0 ad cI cJ X S) rfl 0 (by decide) (C0.ts _ fw_X7_after_9) rfl dX7_after_1 ?_
  refine lv_iconst (v := 1) C0.x C0.b dX7_after_4 (by decide) ?_
  refine lv_icmp_ne (tgt := 19) C0.x C0.b dX7_after_5 (by decide) (fun c1 => ?_) (fun c1 => ?_)
  · have hV := hV.2 c1
    refine lv_aload_n C0.x C0.b dX7_after_19 rfl (lv_at hl 0 rfl) ?_
    refine r_get C0 hw (C := RX7) (T := TX7) (N := 15) (v := .ref (ad 13)) iw_X7_after_X7 (lg_0 ad cI cJ X S) rfl 4 (by decide) (C0.ts _ fw_X7_after_29) rfl dX7_after_20 ?_
    refine lv_lload_n C0.x C0.b dX7_after_23 rfl (lv_at hl 1 rfl) ?_
    refine r_cV_l (As := [.long p0]) (rest := []) C0 hw (c_X0_after  hV) (cwV 1 C0.ts gX7_after_X0_after rfl rfl rfl hd_X0_after ⟨Nat.le_of_ble_eq_true rfl, Nat.le_of_ble_eq_true rfl⟩) (lg_13 ad cI cJ X S) rfl rfl hl.1 rfl (Nat.le_of_ble_eq_true rfl) ⟨Nat.zero_le _, Nat.zero_le _⟩ dX7_after_24 (fun r4 S5 H locs hV hw => ?_)
    exact r_lret C0 rfl hw hV dX7_after_27
  · have hV := hV.1 c1
    refine lv_aload_n C0.x C0.b dX7_after_8 rfl (lv_at hl 0 rfl) ?_
    refine r_get C0 hw (C := RX7) (T := TX7) (N := 15) (v := .ref (ad 1)) iw_X7_after_X7 (lg_0 ad cI cJ X S) rfl 1 (by decide) (C0.ts _ fw_X7_after_16) rfl dX7_after_9 ?_
    refine lv_lload_n C0.x C0.b dX7_after_12 rfl (lv_at hl 1 rfl) ?_
    refine r_cV_l (As := [.long p0]) (rest := []) C0 hw (c_X5_after (ln_1 ad cI cJ X) hV) (cwV 1 C0.ts gX7_after_X5_after rfl rfl rfl hd_X5_after ⟨Nat.le_of_ble_eq_true rfl, Nat.le_of_ble_eq_true rfl⟩) (lg_1 ad cI cJ X S) rfl rfl hl.1 rfl (Nat.le_of_ble_eq_true rfl) ⟨Nat.zero_le _, Nat.zero_le _⟩ dX7_after_13 (fun r2 S3 H locs hV hw => ?_)
    refine lv_goto (tgt := 27) C0.x C0.b dX7_after_16 (by decide) ?_
    exact r_lret C0 rfl hw hV dX7_after_27
/-! StepBench.isStepCount(I)Z -/
abbrev rm_X7_isStepCount : Room := { frames := 0, cells := 0, slots := 0, locals := 0 }
set_option maxRecDepth 20000 in
theorem cw_X7_isStepCount_281 : Cond.constant RX7 281 100000 ∈ wsX7_isStepCount := by decide +kernel
set_option maxRecDepth 20000 in
theorem hd_X7_isStepCount : yX7_isStepCount.cls ≠ "java/lang/invoke/MethodHandle" ∧ yX7_isStepCount.cls ≠ "java/lang/invoke/VarHandle" ∧ (parseMethodDescriptor yX7_isStepCount.desc).map (fun d => d.parameters.length) = some 1 := by decide +kernel
def V_X7_isStepCount  (p0 : Int32) (S : SS) (post : Int32 → SS → Prop) : Prop :=
  ((p0 < 0 → (post (0 : Int32) S)) ∧ (¬ p0 < 0 → (((100000 : Int32) < p0 → (post (0 : Int32) S)) ∧ (¬ (100000 : Int32) < p0 → (post (1 : Int32) S)))))
set_option maxHeartbeats 4000000 in
set_option maxRecDepth 100000 in
theorem c_X7_isStepCount  {S : SS} {p0 : Int32} {post : Int32 → SS → Prop} (hV : V_X7_isStepCount  p0 S post) : MI l yX7_isStepCount wsX7_isStepCount rm_X7_isStepCount [.int p0] D n0 ad cI cJ X S post := by
  refine Met.ofW (cc := cX7_isStepCount) (maxL := 1) (ret := (some .boolean)) (by decide) rfl ?_
  intro p e s m args below meth c s₁ B hml hv
  obtain ⟨rfl, hv⟩ := hv
  have C0 := Bd.mk B hml (atoms_spec (ws := wsX7_isStepCount) B.pre) (findClass_of_methodNamed B.named) hv.1
  have hw : Wh D n0 ad cI cJ X S s s.heap [] := ⟨hv.2.1, hv.2.2, va_S.rf⟩
  refine r_entry (Nat.le_of_ble_eq_true rfl) (fun ls hl => ?_)
  have hl : lv_has ls 1 [(0, .int p0)] := hl
  unfold V_X7_isStepCount at hV
  refine lv_iload_n C0.x C0.b dX7_isStepCount_0 rfl (lv_at hl 0 rfl) ?_
  refine lv_if_lt (tgt := 15) C0.x C0.b dX7_isStepCount_1 (by decide) (fun c1 => ?_) (fun c1 => ?_)
  · have hV := hV.1 c1
    refine lv_iconst (v := 0) C0.x C0.b dX7_isStepCount_15 (by decide) ?_
    exact r_zret C0 rfl bz_0 hw hV dX7_isStepCount_16
  · have hV := hV.2 c1
    refine lv_iload_n C0.x C0.b dX7_isStepCount_4 rfl (lv_at hl 0 rfl) ?_
    refine lv_ldcw (v := 100000) C0.x C0.b C0.ow (C0.ts _ cw_X7_isStepCount_281) dX7_isStepCount_5 ?_
    refine lv_icmp_gt (tgt := 15) C0.x C0.b dX7_isStepCount_8 (by decide) (fun c2 => ?_) (fun c2 => ?_)
    · have hV := hV.1 c2
      refine lv_iconst (v := 0) C0.x C0.b dX7_isStepCount_15 (by decide) ?_
      exact r_zret C0 rfl bz_0 hw hV dX7_isStepCount_16
    · have hV := hV.2 c2
      refine lv_iconst (v := 1) C0.x C0.b dX7_isStepCount_11 (by decide) ?_
      refine lv_goto (tgt := 16) C0.x C0.b dX7_isStepCount_12 (by decide) ?_
      exact r_zret C0 rfl bz_1 hw hV dX7_isStepCount_16
/-! StepBench.until(JJI)I -/
abbrev rm_X7_until : Room := { frames := 5, cells := 0, slots := 0, locals := 112 }
set_option maxRecDepth 20000 in
theorem fw_X7_until_9 : Cond.fieldLink RX7 9 "StepBench" "ruleKind" "I" ∈ wsX7_until := by decide +kernel
set_option maxRecDepth 20000 in
theorem iw_X7_until_X7 : ∀ w ∈ wsX70, w ∈ wsX7_until := by decide +kernel
set_option maxRecDepth 20000 in
theorem hd_X7_until : yX7_until.cls = RX7 ∧ yX7_until.cls ≠ "java/lang/invoke/MethodHandle" ∧ yX7_until.cls ≠ "java/lang/invoke/VarHandle" ∧ (parseMethodDescriptor yX7_until.desc).map (fun d => d.parameters.length) = some 3 := by decide +kernel
def V_X7_until_45  (v3 : Int64) (v5 : Int32)  (post : Int32 → SS → Prop) : Nat → Int64 → Int32 → SS → Prop
  | 0, _, _, _ => False
  | n + 1, v6, v8, S =>
    ((v5 < v8 → (post (-2 : Int32) S)) ∧ (¬ v5 < v8 → (V_X7_after v6 S (fun (r13 : Int64) (S14 : SS) => (V_X7_isNumber r13 S14 (fun (r15 : Int32) (S16 : SS) => ((r15 = 0 → (post (-1 : Int32) S16)) ∧ (¬ r15 = 0 → ((r13 = v3 → (post v8 S16)) ∧ (¬ r13 = v3 → (∀ x19 : Int32, x19 = v8 + 1 → (V_X7_until_45  v3 v5  post n r13 x19 S16))))))))))))
set_option maxHeartbeats 4000000 in
set_option maxRecDepth 100000 in
theorem lp_X7_until_45  (v3 : Int64) (v5 : Int32)  (post : Int32 → SS → Prop) (C0 : Bd p s m meth c args cX7_until 9 (some .int) wsX7_until RX7 D n0 cI cJ) : ∀ (n : Nat) (v6 : Int64) (v8 : Int32) (S : SS), V_X7_until_45  v3 v5  post n v6 v8 S → ∀ (H : Heap) (locs : List Loc), Wh D n0 ad cI cJ X S s H locs → ∀ ls : Array Slot, lv_has ls 9 [(0, .ref (ad 0)), (3, .long v3), (5, .int v5), (6, .long v6), (8, .int v8)] → W p l e rm_X7_until s m args below meth c H locs 0 0 (MQ below (va_Qi post (fun S' t => Wd D n0 ad cI cJ X S' t) (fr n0)) args s 0 0 (fr n0)) (F0 m 45 ls []) := by
  intro n
  induction n with
  | zero => intro v6 v8 S hV; exact False.elim hV
  | succ n ih =>
    intro v6 v8 S hV H locs hw ls hl
    rw [V_X7_until_45] at hV
    refine lv_iload C0.x C0.b dX7_until_45 (lv_at hl 4 rfl) ?_
    refine lv_iload C0.x C0.b dX7_until_47 (lv_at hl 2 rfl) ?_
    refine lv_icmp_gt (tgt := 86) C0.x C0.b dX7_until_49 (by decide) (fun c12 => ?_) (fun c12 => ?_)
    · have hV := hV.1 c12
      refine lv_bipush (v := -2) C0.x C0.b dX7_until_86 (by decide) ?_
      exact r_iret C0 rfl hw hV dX7_until_88
    · have hV := hV.2 c12
      refine lv_aload_n C0.x C0.b dX7_until_52 rfl (lv_at hl 0 rfl) ?_
      refine lv_lload C0.x C0.b dX7_until_53 (lv_at hl 3 rfl) ?_
      refine r_cV_l (As := [.long v6]) (rest := []) C0 hw (c_X7_after  hV) (cwV 1 C0.ts gX7_until_X7_after rfl rfl rfl hd_X7_after ⟨Nat.le_of_ble_eq_true rfl, Nat.le_of_ble_eq_true rfl⟩) (lg_0 ad cI cJ X S) rfl rfl hl.1 rfl (Nat.le_of_ble_eq_true rfl) ⟨Nat.zero_le _, Nat.zero_le _⟩ dX7_until_55 (fun r13 S14 H locs hV hw => ?_)
      refine lv_lstore (lv' := [(6, .long r13), (0, .ref (ad 0)), (3, .long v3), (5, .int v5), (8, .int v8)]) C0.x C0.b dX7_until_58 hl (by decide) rfl (fun ls hl => ?_)
      refine lv_lload C0.x C0.b dX7_until_60 (lv_at hl 0 rfl) ?_
      refine r_cS_i (As := [.long r13]) (rest := []) C0 hw (c_X7_isNumber  hV) (va_cwS 1 C0.ts gX7_until_X7_isNumber rfl rfl rfl hd_X7_isNumber ⟨Nat.le_of_ble_eq_true rfl, Nat.le_of_ble_eq_true rfl⟩) rfl hl.1 rfl (Nat.le_of_ble_eq_true rfl) ⟨Nat.zero_le _, Nat.zero_le _⟩ dX7_until_62 (fun r15 S16 H locs hV hw => ?_)
      refine lv_if_ne (tgt := 70) C0.x C0.b dX7_until_65 (by decide) (fun c17 => ?_) (fun c17 => ?_)
      · have hV := hV.2 c17
        refine lv_lload C0.x C0.b dX7_until_70 (lv_at hl 0 rfl) ?_
        refine lv_lload_n C0.x C0.b dX7_until_72 rfl (lv_at hl 2 rfl) ?_
        refine r_lcmp C0 dX7_until_73 ?_
        refine lv_if_ne (tgt := 80) C0.x C0.b dX7_until_74 (by decide) (fun c18 => ?_) (fun c18 => ?_)
        · have hV := hV.2 (fun h => c18 ((lc_eq _ _).mpr h))
          obtain ⟨x19, ex19⟩ : ∃ z : Int32, z = v8 + 1 := ⟨_, rfl⟩
          have hV := hV x19 ex19
          refine lv_iinc (v := x19) (lv' := [(8, .int x19), (6, .long r13), (0, .ref (ad 0)), (3, .long v3), (5, .int v5)]) C0.x C0.b dX7_until_80 hl (k := 4) rfl (by rw [ex19]; rfl) (by decide) rfl (fun ls hl => ?_)
          refine lv_goto (tgt := 45) C0.x C0.b dX7_until_83 (by decide) ?_
          exact ih _ _ _ hV _ _ hw _ (lv_sub hl [2, 3, 4, 1, 0] rfl)
        · have hV := hV.1 ((lc_eq _ _).mp c18)
          refine lv_iload C0.x C0.b dX7_until_77 (lv_at hl 4 rfl) ?_
          exact r_iret C0 rfl hw hV dX7_until_79
      · have hV := hV.1 c17
        refine lv_iconst (v := -1) C0.x C0.b dX7_until_68 (by decide) ?_
        exact r_iret C0 rfl hw hV dX7_until_69
def V_X7_until  (p0 : Int64) (p1 : Int64) (p2 : Int32) (S : SS) (post : Int32 → SS → Prop) : Prop :=
  (((gI S 0) = 0 → (post (-1 : Int32) S)) ∧ (¬ (gI S 0) = 0 → (V_X7_isNumber p0 S (fun (r2 : Int32) (S3 : SS) => ((r2 = 0 → (post (-1 : Int32) S3)) ∧ (¬ r2 = 0 → (V_X7_isNumber p1 S3 (fun (r5 : Int32) (S6 : SS) => ((r5 = 0 → (post (-1 : Int32) S6)) ∧ (¬ r5 = 0 → (V_X7_isStepCount p2 S6 (fun (r8 : Int32) (S9 : SS) => ((r8 = 0 → (post (-1 : Int32) S9)) ∧ (¬ r8 = 0 → ((p0 = p1 → (post (0 : Int32) S9)) ∧ (¬ p0 = p1 → (∃ n45 : Nat, V_X7_until_45  p1 p2  post n45 p0 (1 : Int32) S9)))))))))))))))))
set_option maxHeartbeats 4000000 in
set_option maxRecDepth 100000 in
theorem c_X7_until  {S : SS} {p0 : Int64} {p1 : Int64} {p2 : Int32} {post : Int32 → SS → Prop} (hV : V_X7_until  p0 p1 p2 S post) : MI l yX7_until wsX7_until rm_X7_until [.ref (ad 0), .long p0, .long p1, .int p2] D n0 ad cI cJ X S post := by
  refine Met.ofW (cc := cX7_until) (maxL := 9) (ret := (some .int)) (by decide) rfl ?_
  intro p e s m args below meth c s₁ B hml hv
  obtain ⟨rfl, hv⟩ := hv
  have C0 := Bd.mk B hml (atoms_spec (ws := wsX7_until) B.pre) (findClass_of_methodNamed B.named) hv.1
  have hw : Wh D n0 ad cI cJ X S s s.heap [] := ⟨hv.2.1, hv.2.2, va_S.rf⟩
  refine r_entry (Nat.le_of_ble_eq_true rfl) (fun ls hl => ?_)
  have hl : lv_has ls 9 [(0, .ref (ad 0)), (1, .long p0), (3, .long p1), (5, .int p2)] := hl
  unfold V_X7_until at hV
  refine lv_aload_n C0.x C0.b dX7_until_0 rfl (lv_at hl 0 rfl) ?_
  refine r_get C0 hw (C := RX7) (T := TX7) (N := 15) (v := .int (gI S 0)) iw_X7_until_X7 (lg_0 ad cI cJ X S) rfl 0 (by decide) (C0.ts _ fw_X7_until_9) rfl dX7_until_1 ?_
  refine lv_if_eq (tgt := 29) C0.x C0.b dX7_until_4 (by decide) (fun c1 => ?_) (fun c1 => ?_)
  · have hV := hV.1 c1
    refine lv_iconst (v := -1) C0.x C0.b dX7_until_29 (by decide) ?_
    exact r_iret C0 rfl hw hV dX7_until_30
  · have hV := hV.2 c1
    refine lv_lload_n C0.x C0.b dX7_until_7 rfl (lv_at hl 1 rfl) ?_
    refine r_cS_i (As := [.long p0]) (rest := []) C0 hw (c_X7_isNumber  hV) (va_cwS 1 C0.ts gX7_until_X7_isNumber rfl rfl rfl hd_X7_isNumber ⟨Nat.le_of_ble_eq_true rfl, Nat.le_of_ble_eq_true rfl⟩) rfl hl.1 rfl (Nat.le_of_ble_eq_true rfl) ⟨Nat.zero_le _, Nat.zero_le _⟩ dX7_until_8 (fun r2 S3 H locs hV hw => ?_)
    refine lv_if_eq (tgt := 29) C0.x C0.b dX7_until_11 (by decide) (fun c4 => ?_) (fun c4 => ?_)
    · have hV := hV.1 c4
      refine lv_iconst (v := -1) C0.x C0.b dX7_until_29 (by decide) ?_
      exact r_iret C0 rfl hw hV dX7_until_30
    · have hV := hV.2 c4
      refine lv_lload_n C0.x C0.b dX7_until_14 rfl (lv_at hl 2 rfl) ?_
      refine r_cS_i (As := [.long p1]) (rest := []) C0 hw (c_X7_isNumber  hV) (va_cwS 1 C0.ts gX7_until_X7_isNumber rfl rfl rfl hd_X7_isNumber ⟨Nat.le_of_ble_eq_true rfl, Nat.le_of_ble_eq_true rfl⟩) rfl hl.1 rfl (Nat.le_of_ble_eq_true rfl) ⟨Nat.zero_le _, Nat.zero_le _⟩ dX7_until_15 (fun r5 S6 H locs hV hw => ?_)
      refine lv_if_eq (tgt := 29) C0.x C0.b dX7_until_18 (by decide) (fun c7 => ?_) (fun c7 => ?_)
      · have hV := hV.1 c7
        refine lv_iconst (v := -1) C0.x C0.b dX7_until_29 (by decide) ?_
        exact r_iret C0 rfl hw hV dX7_until_30
      · have hV := hV.2 c7
        refine lv_iload C0.x C0.b dX7_until_21 (lv_at hl 3 rfl) ?_
        refine r_cS_i (As := [.int p2]) (rest := []) C0 hw (c_X7_isStepCount  hV) (va_cwS 1 C0.ts gX7_until_X7_isStepCount rfl rfl rfl hd_X7_isStepCount ⟨Nat.le_of_ble_eq_true rfl, Nat.le_of_ble_eq_true rfl⟩) rfl hl.1 rfl (Nat.le_of_ble_eq_true rfl) ⟨Nat.zero_le _, Nat.zero_le _⟩ dX7_until_23 (fun r8 S9 H locs hV hw => ?_)
        refine lv_if_ne (tgt := 31) C0.x C0.b dX7_until_26 (by decide) (fun c10 => ?_) (fun c10 => ?_)
        · have hV := hV.2 c10
          refine lv_lload_n C0.x C0.b dX7_until_31 rfl (lv_at hl 1 rfl) ?_
          refine lv_lload_n C0.x C0.b dX7_until_32 rfl (lv_at hl 2 rfl) ?_
          refine r_lcmp C0 dX7_until_33 ?_
          refine lv_if_ne (tgt := 39) C0.x C0.b dX7_until_34 (by decide) (fun c11 => ?_) (fun c11 => ?_)
          · have hV := hV.2 (fun h => c11 ((lc_eq _ _).mpr h))
            refine lv_lload_n C0.x C0.b dX7_until_39 rfl (lv_at hl 1 rfl) ?_
            refine lv_lstore (lv' := [(6, .long p0), (0, .ref (ad 0)), (1, .long p0), (3, .long p1), (5, .int p2)]) C0.x C0.b dX7_until_40 hl (by decide) rfl (fun ls hl => ?_)
            refine lv_iconst (v := 1) C0.x C0.b dX7_until_42 (by decide) ?_
            refine lv_istore (lv' := [(8, .int (1 : Int32)), (6, .long p0), (0, .ref (ad 0)), (1, .long p0), (3, .long p1), (5, .int p2)]) C0.x C0.b dX7_until_43 hl (by decide) rfl (fun ls hl => ?_)
            obtain ⟨n45, hV⟩ := hV
            exact lp_X7_until_45  _ _ post C0  n45 _ _ _ hV _ _ hw _ (lv_sub hl [2, 4, 5, 1, 0] rfl)
          · have hV := hV.1 ((lc_eq _ _).mp c11)
            refine lv_iconst (v := 0) C0.x C0.b dX7_until_37 (by decide) ?_
            exact r_iret C0 rfl hw hV dX7_until_38
        · have hV := hV.1 c10
          refine lv_iconst (v := -1) C0.x C0.b dX7_until_29 (by decide) ?_
          exact r_iret C0 rfl hw hV dX7_until_30
/-! StepBench.stepsTillBelow(JI)I -/
abbrev rm_X7_stepsTillBelow : Room := { frames := 5, cells := 0, slots := 0, locals := 112 }
set_option maxRecDepth 20000 in
theorem hd_X7_stepsTillBelow : yX7_stepsTillBelow.cls = RX7 ∧ yX7_stepsTillBelow.cls ≠ "java/lang/invoke/MethodHandle" ∧ yX7_stepsTillBelow.cls ≠ "java/lang/invoke/VarHandle" ∧ (parseMethodDescriptor yX7_stepsTillBelow.desc).map (fun d => d.parameters.length) = some 2 := by decide +kernel
def V_X7_stepsTillBelow_6  (v1 : Int64) (v3 : Int32)  (post : Int32 → SS → Prop) : Nat → Int64 → Int32 → SS → Prop
  | 0, _, _, _ => False
  | n + 1, v4, v6, S =>
    ((v3 < v6 → (post (-2 : Int32) S)) ∧ (¬ v3 < v6 → (V_X7_after v4 S (fun (r2 : Int64) (S3 : SS) => (V_X7_isNumber r2 S3 (fun (r4 : Int32) (S5 : SS) => ((r4 = 0 → (post (-1 : Int32) S5)) ∧ (¬ r4 = 0 → ((v1 ≤ r2 → (∀ x8 : Int32, x8 = v6 + 1 → (V_X7_stepsTillBelow_6  v1 v3  post n r2 x8 S5))) ∧ (¬ v1 ≤ r2 → (post v6 S5)))))))))))
set_option maxHeartbeats 4000000 in
set_option maxRecDepth 100000 in
theorem lp_X7_stepsTillBelow_6  (v1 : Int64) (v3 : Int32)  (post : Int32 → SS → Prop) (C0 : Bd p s m meth c args cX7_stepsTillBelow 7 (some .int) wsX7_stepsTillBelow RX7 D n0 cI cJ) : ∀ (n : Nat) (v4 : Int64) (v6 : Int32) (S : SS), V_X7_stepsTillBelow_6  v1 v3  post n v4 v6 S → ∀ (H : Heap) (locs : List Loc), Wh D n0 ad cI cJ X S s H locs → ∀ ls : Array Slot, lv_has ls 7 [(0, .ref (ad 0)), (1, .long v1), (3, .int v3), (4, .long v4), (6, .int v6)] → W p l e rm_X7_stepsTillBelow s m args below meth c H locs 0 0 (MQ below (va_Qi post (fun S' t => Wd D n0 ad cI cJ X S' t) (fr n0)) args s 0 0 (fr n0)) (F0 m 6 ls []) := by
  intro n
  induction n with
  | zero => intro v4 v6 S hV; exact False.elim hV
  | succ n ih =>
    intro v4 v6 S hV H locs hw ls hl
    rw [V_X7_stepsTillBelow_6] at hV
    refine lv_iload C0.x C0.b dX7_stepsTillBelow_6 (lv_at hl 4 rfl) ?_
    refine lv_iload_n C0.x C0.b dX7_stepsTillBelow_8 rfl (lv_at hl 2 rfl) ?_
    refine lv_icmp_gt (tgt := 46) C0.x C0.b dX7_stepsTillBelow_9 (by decide) (fun c1 => ?_) (fun c1 => ?_)
    · have hV := hV.1 c1
      refine lv_bipush (v := -2) C0.x C0.b dX7_stepsTillBelow_46 (by decide) ?_
      exact r_iret C0 rfl hw hV dX7_stepsTillBelow_48
    · have hV := hV.2 c1
      refine lv_aload_n C0.x C0.b dX7_stepsTillBelow_12 rfl (lv_at hl 0 rfl) ?_
      refine lv_lload C0.x C0.b dX7_stepsTillBelow_13 (lv_at hl 3 rfl) ?_
      refine r_cV_l (As := [.long v4]) (rest := []) C0 hw (c_X7_after  hV) (cwV 1 C0.ts gX7_stepsTillBelow_X7_after rfl rfl rfl hd_X7_after ⟨Nat.le_of_ble_eq_true rfl, Nat.le_of_ble_eq_true rfl⟩) (lg_0 ad cI cJ X S) rfl rfl hl.1 rfl (Nat.le_of_ble_eq_true rfl) ⟨Nat.zero_le _, Nat.zero_le _⟩ dX7_stepsTillBelow_15 (fun r2 S3 H locs hV hw => ?_)
      refine lv_lstore (lv' := [(4, .long r2), (0, .ref (ad 0)), (1, .long v1), (3, .int v3), (6, .int v6)]) C0.x C0.b dX7_stepsTillBelow_18 hl (by decide) rfl (fun ls hl => ?_)
      refine lv_lload C0.x C0.b dX7_stepsTillBelow_20 (lv_at hl 0 rfl) ?_
      refine r_cS_i (As := [.long r2]) (rest := []) C0 hw (c_X7_isNumber  hV) (va_cwS 1 C0.ts gX7_stepsTillBelow_X7_isNumber rfl rfl rfl hd_X7_isNumber ⟨Nat.le_of_ble_eq_true rfl, Nat.le_of_ble_eq_true rfl⟩) rfl hl.1 rfl (Nat.le_of_ble_eq_true rfl) ⟨Nat.zero_le _, Nat.zero_le _⟩ dX7_stepsTillBelow_22 (fun r4 S5 H locs hV hw => ?_)
      refine lv_if_ne (tgt := 30) C0.x C0.b dX7_stepsTillBelow_25 (by decide) (fun c6 => ?_) (fun c6 => ?_)
      · have hV := hV.2 c6
        refine lv_lload C0.x C0.b dX7_stepsTillBelow_30 (lv_at hl 0 rfl) ?_
        refine lv_lload_n C0.x C0.b dX7_stepsTillBelow_32 rfl (lv_at hl 2 rfl) ?_
        refine r_lcmp C0 dX7_stepsTillBelow_33 ?_
        refine lv_if_ge (tgt := 40) C0.x C0.b dX7_stepsTillBelow_34 (by decide) (fun c7 => ?_) (fun c7 => ?_)
        · have hV := hV.1 ((lc_ge _ _).mp c7)
          obtain ⟨x8, ex8⟩ : ∃ z : Int32, z = v6 + 1 := ⟨_, rfl⟩
          have hV := hV x8 ex8
          refine lv_iinc (v := x8) (lv' := [(6, .int x8), (4, .long r2), (0, .ref (ad 0)), (1, .long v1), (3, .int v3)]) C0.x C0.b dX7_stepsTillBelow_40 hl (k := 4) rfl (by rw [ex8]; rfl) (by decide) rfl (fun ls hl => ?_)
          refine lv_goto (tgt := 6) C0.x C0.b dX7_stepsTillBelow_43 (by decide) ?_
          exact ih _ _ _ hV _ _ hw _ (lv_sub hl [2, 3, 4, 1, 0] rfl)
        · have hV := hV.2 (fun h => c7 ((lc_ge _ _).mpr h))
          refine lv_iload C0.x C0.b dX7_stepsTillBelow_37 (lv_at hl 4 rfl) ?_
          exact r_iret C0 rfl hw hV dX7_stepsTillBelow_39
      · have hV := hV.1 c6
        refine lv_iconst (v := -1) C0.x C0.b dX7_stepsTillBelow_28 (by decide) ?_
        exact r_iret C0 rfl hw hV dX7_stepsTillBelow_29
def V_X7_stepsTillBelow  (p0 : Int64) (p1 : Int32) (S : SS) (post : Int32 → SS → Prop) : Prop :=
  (∃ n6 : Nat, V_X7_stepsTillBelow_6  p0 p1  post n6 p0 (1 : Int32) S)
set_option maxHeartbeats 4000000 in
set_option maxRecDepth 100000 in
theorem c_X7_stepsTillBelow  {S : SS} {p0 : Int64} {p1 : Int32} {post : Int32 → SS → Prop} (hV : V_X7_stepsTillBelow  p0 p1 S post) : MI l yX7_stepsTillBelow wsX7_stepsTillBelow rm_X7_stepsTillBelow [.ref (ad 0), .long p0, .int p1] D n0 ad cI cJ X S post := by
  refine Met.ofW (cc := cX7_stepsTillBelow) (maxL := 7) (ret := (some .int)) (by decide) rfl ?_
  intro p e s m args below meth c s₁ B hml hv
  obtain ⟨rfl, hv⟩ := hv
  have C0 := Bd.mk B hml (atoms_spec (ws := wsX7_stepsTillBelow) B.pre) (findClass_of_methodNamed B.named) hv.1
  have hw : Wh D n0 ad cI cJ X S s s.heap [] := ⟨hv.2.1, hv.2.2, va_S.rf⟩
  refine r_entry (Nat.le_of_ble_eq_true rfl) (fun ls hl => ?_)
  have hl : lv_has ls 7 [(0, .ref (ad 0)), (1, .long p0), (3, .int p1)] := hl
  unfold V_X7_stepsTillBelow at hV
  refine lv_lload_n C0.x C0.b dX7_stepsTillBelow_0 rfl (lv_at hl 1 rfl) ?_
  refine lv_lstore (lv' := [(4, .long p0), (0, .ref (ad 0)), (1, .long p0), (3, .int p1)]) C0.x C0.b dX7_stepsTillBelow_1 hl (by decide) rfl (fun ls hl => ?_)
  refine lv_iconst (v := 1) C0.x C0.b dX7_stepsTillBelow_3 (by decide) ?_
  refine lv_istore (lv' := [(6, .int (1 : Int32)), (4, .long p0), (0, .ref (ad 0)), (1, .long p0), (3, .int p1)]) C0.x C0.b dX7_stepsTillBelow_4 hl (by decide) rfl (fun ls hl => ?_)
  obtain ⟨n6, hV⟩ := hV
  exact lp_X7_stepsTillBelow_6  _ _ post C0  n6 _ _ _ hV _ _ hw _ (lv_sub hl [2, 3, 4, 1, 0] rfl)
/-! StepBench.height(JI)I -/
abbrev rm_X7_height : Room := { frames := 6, cells := 0, slots := 0, locals := 138 }
set_option maxRecDepth 20000 in
theorem fw_X7_height_9 : Cond.fieldLink RX7 9 "StepBench" "ruleKind" "I" ∈ wsX7_height := by decide +kernel
set_option maxRecDepth 20000 in
theorem iw_X7_height_X7 : ∀ w ∈ wsX70, w ∈ wsX7_height := by decide +kernel
set_option maxRecDepth 20000 in
theorem hd_X7_height : yX7_height.cls = RX7 ∧ yX7_height.cls ≠ "java/lang/invoke/MethodHandle" ∧ yX7_height.cls ≠ "java/lang/invoke/VarHandle" ∧ (parseMethodDescriptor yX7_height.desc).map (fun d => d.parameters.length) = some 2 := by decide +kernel
def V_X7_height  (p0 : Int64) (p1 : Int32) (S : SS) (post : Int32 → SS → Prop) : Prop :=
  (((gI S 0) = 0 → (post (-1 : Int32) S)) ∧ (¬ (gI S 0) = 0 → (V_X7_isNumber p0 S (fun (r2 : Int32) (S3 : SS) => ((r2 = 0 → (post (-1 : Int32) S3)) ∧ (¬ r2 = 0 → (V_X7_isStepCount p1 S3 (fun (r5 : Int32) (S6 : SS) => ((r5 = 0 → (post (-1 : Int32) S6)) ∧ (¬ r5 = 0 → (V_X7_stepsTillBelow p0 p1 S6 (fun (r8 : Int32) (S9 : SS) => (post r8 S9)))))))))))))
set_option maxHeartbeats 4000000 in
set_option maxRecDepth 100000 in
theorem c_X7_height  {S : SS} {p0 : Int64} {p1 : Int32} {post : Int32 → SS → Prop} (hV : V_X7_height  p0 p1 S post) : MI l yX7_height wsX7_height rm_X7_height [.ref (ad 0), .long p0, .int p1] D n0 ad cI cJ X S post := by
  refine Met.ofW (cc := cX7_height) (maxL := 4) (ret := (some .int)) (by decide) rfl ?_
  intro p e s m args below meth c s₁ B hml hv
  obtain ⟨rfl, hv⟩ := hv
  have C0 := Bd.mk B hml (atoms_spec (ws := wsX7_height) B.pre) (findClass_of_methodNamed B.named) hv.1
  have hw : Wh D n0 ad cI cJ X S s s.heap [] := ⟨hv.2.1, hv.2.2, va_S.rf⟩
  refine r_entry (Nat.le_of_ble_eq_true rfl) (fun ls hl => ?_)
  have hl : lv_has ls 4 [(0, .ref (ad 0)), (1, .long p0), (3, .int p1)] := hl
  unfold V_X7_height at hV
  refine lv_aload_n C0.x C0.b dX7_height_0 rfl (lv_at hl 0 rfl) ?_
  refine r_get C0 hw (C := RX7) (T := TX7) (N := 15) (v := .int (gI S 0)) iw_X7_height_X7 (lg_0 ad cI cJ X S) rfl 0 (by decide) (C0.ts _ fw_X7_height_9) rfl dX7_height_1 ?_
  refine lv_if_eq (tgt := 21) C0.x C0.b dX7_height_4 (by decide) (fun c1 => ?_) (fun c1 => ?_)
  · have hV := hV.1 c1
    refine lv_iconst (v := -1) C0.x C0.b dX7_height_21 (by decide) ?_
    exact r_iret C0 rfl hw hV dX7_height_22
  · have hV := hV.2 c1
    refine lv_lload_n C0.x C0.b dX7_height_7 rfl (lv_at hl 1 rfl) ?_
    refine r_cS_i (As := [.long p0]) (rest := []) C0 hw (c_X7_isNumber  hV) (va_cwS 1 C0.ts gX7_height_X7_isNumber rfl rfl rfl hd_X7_isNumber ⟨Nat.le_of_ble_eq_true rfl, Nat.le_of_ble_eq_true rfl⟩) rfl hl.1 rfl (Nat.le_of_ble_eq_true rfl) ⟨Nat.zero_le _, Nat.zero_le _⟩ dX7_height_8 (fun r2 S3 H locs hV hw => ?_)
    refine lv_if_eq (tgt := 21) C0.x C0.b dX7_height_11 (by decide) (fun c4 => ?_) (fun c4 => ?_)
    · have hV := hV.1 c4
      refine lv_iconst (v := -1) C0.x C0.b dX7_height_21 (by decide) ?_
      exact r_iret C0 rfl hw hV dX7_height_22
    · have hV := hV.2 c4
      refine lv_iload_n C0.x C0.b dX7_height_14 rfl (lv_at hl 2 rfl) ?_
      refine r_cS_i (As := [.int p1]) (rest := []) C0 hw (c_X7_isStepCount  hV) (va_cwS 1 C0.ts gX7_height_X7_isStepCount rfl rfl rfl hd_X7_isStepCount ⟨Nat.le_of_ble_eq_true rfl, Nat.le_of_ble_eq_true rfl⟩) rfl hl.1 rfl (Nat.le_of_ble_eq_true rfl) ⟨Nat.zero_le _, Nat.zero_le _⟩ dX7_height_15 (fun r5 S6 H locs hV hw => ?_)
      refine lv_if_ne (tgt := 23) C0.x C0.b dX7_height_18 (by decide) (fun c7 => ?_) (fun c7 => ?_)
      · have hV := hV.2 c7
        refine lv_aload_n C0.x C0.b dX7_height_23 rfl (lv_at hl 0 rfl) ?_
        refine lv_lload_n C0.x C0.b dX7_height_24 rfl (lv_at hl 1 rfl) ?_
        refine lv_iload_n C0.x C0.b dX7_height_25 rfl (lv_at hl 2 rfl) ?_
        refine r_cV_i (As := [.long p0, .int p1]) (rest := []) C0 hw (c_X7_stepsTillBelow  hV) (cwV 2 C0.ts gX7_height_X7_stepsTillBelow rfl rfl rfl hd_X7_stepsTillBelow ⟨Nat.le_of_ble_eq_true rfl, Nat.le_of_ble_eq_true rfl⟩) (lg_0 ad cI cJ X S6) rfl rfl hl.1 rfl (Nat.le_of_ble_eq_true rfl) ⟨Nat.zero_le _, Nat.zero_le _⟩ dX7_height_26 (fun r8 S9 H locs hV hw => ?_)
        exact r_iret C0 rfl hw hV dX7_height_29
      · have hV := hV.1 c7
        refine lv_iconst (v := -1) C0.x C0.b dX7_height_21 (by decide) ?_
        exact r_iret C0 rfl hw hV dX7_height_22
/-! StepBench.signOf(J)I -/
abbrev rm_X7_signOf : Room := { frames := 3, cells := 0, slots := 0, locals := 65 }
set_option maxRecDepth 20000 in
theorem fw_X7_signOf_9 : Cond.fieldLink RX7 9 "StepBench" "ruleKind" "I" ∈ wsX7_signOf := by decide +kernel
set_option maxRecDepth 20000 in
theorem iw_X7_signOf_X7 : ∀ w ∈ wsX70, w ∈ wsX7_signOf := by decide +kernel
set_option maxRecDepth 20000 in
theorem fw_X7_signOf_16 : Cond.fieldLink RX7 16 "StepBench" "rule" "LStepBench$Shares;" ∈ wsX7_signOf := by decide +kernel
set_option maxRecDepth 20000 in
theorem fw_X7_signOf_29 : Cond.fieldLink RX7 29 "StepBench" "fractions" "LStepBench$Fractions;" ∈ wsX7_signOf := by decide +kernel
set_option maxRecDepth 20000 in
theorem hd_X7_signOf : yX7_signOf.cls = RX7 ∧ yX7_signOf.cls ≠ "java/lang/invoke/MethodHandle" ∧ yX7_signOf.cls ≠ "java/lang/invoke/VarHandle" ∧ (parseMethodDescriptor yX7_signOf.desc).map (fun d => d.parameters.length) = some 1 := by decide +kernel
def V_X7_signOf  (p0 : Int64) (S : SS) (post : Int32 → SS → Prop) : Prop :=
  (((gI S 0) = (1 : Int32) → (V_X5_restOf 1 0 1 2 p0 S (fun (r2 : Int32) (S3 : SS) => (post r2 S3)))) ∧ (¬ (gI S 0) = (1 : Int32) → (V_X0_firstFit p0 S (fun (r4 : Int32) (S5 : SS) => (post r4 S5)))))
set_option maxHeartbeats 4000000 in
set_option maxRecDepth 100000 in
theorem c_X7_signOf  {S : SS} {p0 : Int64} {post : Int32 → SS → Prop} (hV : V_X7_signOf  p0 S post) : MI l yX7_signOf wsX7_signOf rm_X7_signOf [.ref (ad 0), .long p0] D n0 ad cI cJ X S post := by
  refine Met.ofW (cc := cX7_signOf) (maxL := 3) (ret := (some .int)) (by decide) rfl ?_
  intro p e s m args below meth c s₁ B hml hv
  obtain ⟨rfl, hv⟩ := hv
  have C0 := Bd.mk B hml (atoms_spec (ws := wsX7_signOf) B.pre) (findClass_of_methodNamed B.named) hv.1
  have hw : Wh D n0 ad cI cJ X S s s.heap [] := ⟨hv.2.1, hv.2.2, va_S.rf⟩
  refine r_entry (Nat.le_of_ble_eq_true rfl) (fun ls hl => ?_)
  have hl : lv_has ls 3 [(0, .ref (ad 0)), (1, .long p0)] := hl
  unfold V_X7_signOf at hV
  refine lv_aload_n C0.x C0.b dX7_signOf_0 rfl (lv_at hl 0 rfl) ?_
  refine r_get C0 hw (C := RX7) (T := TX7) (N := 15) (v := .int (gI S 0)) iw_X7_signOf_X7 (lg_0 ad cI cJ X S) rfl 0 (by decide) (C0.ts _ fw_X7_signOf_9) rfl dX7_signOf_1 ?_
  refine lv_iconst (v := 1) C0.x C0.b dX7_signOf_4 (by decide) ?_
  refine lv_icmp_ne (tgt := 19) C0.x C0.b dX7_signOf_5 (by decide) (fun c1 => ?_) (fun c1 => ?_)
  · have hV := hV.2 c1
    refine lv_aload_n C0.x C0.b dX7_signOf_19 rfl (lv_at hl 0 rfl) ?_
    refine r_get C0 hw (C := RX7) (T := TX7) (N := 15) (v := .ref (ad 13)) iw_X7_signOf_X7 (lg_0 ad cI cJ X S) rfl 4 (by decide) (C0.ts _ fw_X7_signOf_29) rfl dX7_signOf_20 ?_
    refine lv_lload_n C0.x C0.b dX7_signOf_23 rfl (lv_at hl 1 rfl) ?_
    refine r_cV_i (As := [.long p0]) (rest := []) C0 hw (c_X0_firstFit  hV) (cwV 1 C0.ts gX7_signOf_X0_firstFit rfl rfl rfl hd_X0_firstFit ⟨Nat.le_of_ble_eq_true rfl, Nat.le_of_ble_eq_true rfl⟩) (lg_13 ad cI cJ X S) rfl rfl hl.1 rfl (Nat.le_of_ble_eq_true rfl) ⟨Nat.zero_le _, Nat.zero_le _⟩ dX7_signOf_24 (fun r4 S5 H locs hV hw => ?_)
    exact r_iret C0 rfl hw hV dX7_signOf_27
  · have hV := hV.1 c1
    refine lv_aload_n C0.x C0.b dX7_signOf_8 rfl (lv_at hl 0 rfl) ?_
    refine r_get C0 hw (C := RX7) (T := TX7) (N := 15) (v := .ref (ad 1)) iw_X7_signOf_X7 (lg_0 ad cI cJ X S) rfl 1 (by decide) (C0.ts _ fw_X7_signOf_16) rfl dX7_signOf_9 ?_
    refine lv_lload_n C0.x C0.b dX7_signOf_12 rfl (lv_at hl 1 rfl) ?_
    refine r_cV_i (As := [.long p0]) (rest := []) C0 hw (c_X5_restOf (ln_1 ad cI cJ X) hV) (cwV 1 C0.ts gX7_signOf_X5_restOf rfl rfl rfl hd_X5_restOf ⟨Nat.le_of_ble_eq_true rfl, Nat.le_of_ble_eq_true rfl⟩) (lg_1 ad cI cJ X S) rfl rfl hl.1 rfl (Nat.le_of_ble_eq_true rfl) ⟨Nat.zero_le _, Nat.zero_le _⟩ dX7_signOf_13 (fun r2 S3 H locs hV hw => ?_)
    refine lv_goto (tgt := 27) C0.x C0.b dX7_signOf_16 (by decide) ?_
    exact r_iret C0 rfl hw hV dX7_signOf_27
/-! StepBench.word(JI)I -/
abbrev rm_X7_word : Room := { frames := 5, cells := 0, slots := 0, locals := 112 }
set_option maxRecDepth 20000 in
theorem fw_X7_word_9 : Cond.fieldLink RX7 9 "StepBench" "ruleKind" "I" ∈ wsX7_word := by decide +kernel
set_option maxRecDepth 20000 in
theorem iw_X7_word_X7 : ∀ w ∈ wsX70, w ∈ wsX7_word := by decide +kernel
set_option maxRecDepth 20000 in
theorem fw_X7_word_49 : Cond.fieldLink RX7 49 "StepBench" "found" "LStepBench$Numbers;" ∈ wsX7_word := by decide +kernel
set_option maxRecDepth 20000 in
theorem fw_X7_word_45 : Cond.fieldLink RX7 45 "StepBench" "numbers" "LStepBench$Numbers;" ∈ wsX7_word := by decide +kernel
set_option maxRecDepth 20000 in
theorem cw_X7_word_190 : Cond.constantLong RX7 190 3000000000000000 ∈ wsX7_word := by decide +kernel
set_option maxRecDepth 20000 in
theorem hd_X7_word : yX7_word.cls = RX7 ∧ yX7_word.cls ≠ "java/lang/invoke/MethodHandle" ∧ yX7_word.cls ≠ "java/lang/invoke/VarHandle" ∧ (parseMethodDescriptor yX7_word.desc).map (fun d => d.parameters.length) = some 2 := by decide +kernel
def V_X7_word_40  (v3 : Int32)  (post : Int32 → SS → Prop) : Nat → Int64 → Int32 → SS → Prop
  | 0, _, _, _ => False
  | n + 1, v4, v6, S =>
    ((v3 ≤ v6 → (V_X2_become 7 12 1000 8 13 1000 S (fun (S11 : SS) => (V_X2_size 7 12 1000 S11 (fun (r12 : Int32) (S13 : SS) => (post r12 S13)))))) ∧ (¬ v3 ≤ v6 → ((v6 ≤ 0 → ((v4 = (3000000000000000 : Int64) → (post (-1 : Int32) S)) ∧ (¬ v4 = (3000000000000000 : Int64) → (V_X7_signOf v4 S (fun (r16 : Int32) (S17 : SS) => ((0 ≤ r16 → (V_X2_add 8 13 1000 r16.toInt64 S17 (fun (r19 : Int32) (S20 : SS) => (∀ x21 : Int32, x21 = v6 + 1 → (V_X7_word_40  v3  post n v4 x21 S20))))) ∧ (¬ 0 ≤ r16 → (V_X2_become 7 12 1000 8 13 1000 S17 (fun (S23 : SS) => (V_X2_size 7 12 1000 S23 (fun (r24 : Int32) (S25 : SS) => (post r24 S25)))))))))))) ∧ (¬ v6 ≤ 0 → (V_X7_after v4 S (fun (r26 : Int64) (S27 : SS) => ((r26 = (3000000000000000 : Int64) → (post (-1 : Int32) S27)) ∧ (¬ r26 = (3000000000000000 : Int64) → (V_X7_signOf r26 S27 (fun (r29 : Int32) (S30 : SS) => ((0 ≤ r29 → (V_X2_add 8 13 1000 r29.toInt64 S30 (fun (r32 : Int32) (S33 : SS) => (∀ x34 : Int32, x34 = v6 + 1 → (V_X7_word_40  v3  post n r26 x34 S33))))) ∧ (¬ 0 ≤ r29 → (V_X2_become 7 12 1000 8 13 1000 S30 (fun (S36 : SS) => (V_X2_size 7 12 1000 S36 (fun (r37 : Int32) (S38 : SS) => (post r37 S38)))))))))))))))))
set_option maxHeartbeats 4000000 in
set_option maxRecDepth 100000 in
theorem lp_X7_word_40  (v3 : Int32)  (post : Int32 → SS → Prop) (C0 : Bd p s m meth c args cX7_word 8 (some .int) wsX7_word RX7 D n0 cI cJ) : ∀ (n : Nat) (v4 : Int64) (v6 : Int32) (S : SS), V_X7_word_40  v3  post n v4 v6 S → ∀ (H : Heap) (locs : List Loc), Wh D n0 ad cI cJ X S s H locs → ∀ ls : Array Slot, lv_has ls 8 [(0, .ref (ad 0)), (3, .int v3), (4, .long v4), (6, .int v6)] → W p l e rm_X7_word s m args below meth c H locs 0 0 (MQ below (va_Qi post (fun S' t => Wd D n0 ad cI cJ X S' t) (fr n0)) args s 0 0 (fr n0)) (F0 m 40 ls []) := by
  intro n
  induction n with
  | zero => intro v4 v6 S hV; exact False.elim hV
  | succ n ih =>
    intro v4 v6 S hV H locs hw ls hl
    rw [V_X7_word_40] at hV
    refine lv_iload C0.x C0.b dX7_word_40 (lv_at hl 3 rfl) ?_
    refine lv_iload_n C0.x C0.b dX7_word_42 rfl (lv_at hl 1 rfl) ?_
    refine lv_icmp_ge (tgt := 103) C0.x C0.b dX7_word_43 (by decide) (fun c9 => ?_) (fun c9 => ?_)
    · have hV := hV.1 c9
      refine lv_aload_n C0.x C0.b dX7_word_103 rfl (lv_at hl 0 rfl) ?_
      refine r_get C0 hw (C := RX7) (T := TX7) (N := 15) (v := .ref (ad 19)) iw_X7_word_X7 (lg_0 ad cI cJ X S) rfl 6 (by decide) (C0.ts _ fw_X7_word_45) rfl dX7_word_104 ?_
      refine lv_aload_n C0.x C0.b dX7_word_107 rfl (lv_at hl 0 rfl) ?_
      refine r_get C0 hw (C := RX7) (T := TX7) (N := 15) (v := .ref (ad 21)) iw_X7_word_X7 (lg_0 ad cI cJ X S) rfl 7 (by decide) (C0.ts _ fw_X7_word_49) rfl dX7_word_108 ?_
      refine r_cV_v (As := [.ref (ad 21)]) (rest := []) C0 hw (c_X2_become (ln_19 ad cI cJ X) (ln_21 ad cI cJ X) hV) (cwV 1 C0.ts gX7_word_X2_become rfl rfl rfl hd_X2_become ⟨Nat.le_of_ble_eq_true rfl, Nat.le_of_ble_eq_true rfl⟩) (lg_19 ad cI cJ X S) rfl rfl hl.1 rfl (Nat.le_of_ble_eq_true rfl) ⟨Nat.zero_le _, Nat.zero_le _⟩ dX7_word_111 (fun S11 H locs hV hw => ?_)
      refine lv_aload_n C0.x C0.b dX7_word_114 rfl (lv_at hl 0 rfl) ?_
      refine r_get C0 hw (C := RX7) (T := TX7) (N := 15) (v := .ref (ad 19)) iw_X7_word_X7 (lg_0 ad cI cJ X S11) rfl 6 (by decide) (C0.ts _ fw_X7_word_45) rfl dX7_word_115 ?_
      refine r_cV_i (As := []) (rest := []) C0 hw (c_X2_size (ln_19 ad cI cJ X) hV) (cwV 0 C0.ts gX7_word_X2_size rfl rfl rfl hd_X2_size ⟨Nat.le_of_ble_eq_true rfl, Nat.le_of_ble_eq_true rfl⟩) (lg_19 ad cI cJ X S11) rfl rfl hl.1 rfl (Nat.le_of_ble_eq_true rfl) ⟨Nat.zero_le _, Nat.zero_le _⟩ dX7_word_118 (fun r12 S13 H locs hV hw => ?_)
      exact r_iret C0 rfl hw hV dX7_word_121
    · have hV := hV.2 c9
      refine lv_iload C0.x C0.b dX7_word_46 (lv_at hl 3 rfl) ?_
      refine lv_if_le (tgt := 59) C0.x C0.b dX7_word_48 (by decide) (fun c14 => ?_) (fun c14 => ?_)
      · have hV := hV.1 c14
        refine lv_lload C0.x C0.b dX7_word_59 (lv_at hl 2 rfl) ?_
        refine lv_ldc2 (v := 3000000000000000) C0.x C0.b C0.ow (C0.ts _ cw_X7_word_190) dX7_word_61 ?_
        refine r_lcmp C0 dX7_word_64 ?_
        refine lv_if_ne (tgt := 70) C0.x C0.b dX7_word_65 (by decide) (fun c15 => ?_) (fun c15 => ?_)
        · have hV := hV.2 (fun h => c15 ((lc_eq _ _).mpr h))
          refine lv_aload_n C0.x C0.b dX7_word_70 rfl (lv_at hl 0 rfl) ?_
          refine lv_lload C0.x C0.b dX7_word_71 (lv_at hl 2 rfl) ?_
          refine r_cV_i (As := [.long v4]) (rest := []) C0 hw (c_X7_signOf  hV) (cwV 1 C0.ts gX7_word_X7_signOf rfl rfl rfl hd_X7_signOf ⟨Nat.le_of_ble_eq_true rfl, Nat.le_of_ble_eq_true rfl⟩) (lg_0 ad cI cJ X S) rfl rfl hl.1 rfl (Nat.le_of_ble_eq_true rfl) ⟨Nat.zero_le _, Nat.zero_le _⟩ dX7_word_73 (fun r16 S17 H locs hV hw => ?_)
          refine lv_istore (lv' := [(7, .int r16), (0, .ref (ad 0)), (3, .int v3), (4, .long v4), (6, .int v6)]) C0.x C0.b dX7_word_76 hl (by decide) rfl (fun ls hl => ?_)
          refine lv_iload C0.x C0.b dX7_word_78 (lv_at hl 0 rfl) ?_
          refine lv_if_ge (tgt := 86) C0.x C0.b dX7_word_80 (by decide) (fun c18 => ?_) (fun c18 => ?_)
          · have hV := hV.1 c18
            refine lv_aload_n C0.x C0.b dX7_word_86 rfl (lv_at hl 1 rfl) ?_
            refine r_get C0 hw (C := RX7) (T := TX7) (N := 15) (v := .ref (ad 21)) iw_X7_word_X7 (lg_0 ad cI cJ X S17) rfl 7 (by decide) (C0.ts _ fw_X7_word_49) rfl dX7_word_87 ?_
            refine lv_iload C0.x C0.b dX7_word_90 (lv_at hl 0 rfl) ?_
            refine lv_i2l C0.x C0.b dX7_word_92 rfl ?_
            refine r_cV_i (As := [.long r16.toInt64]) (rest := []) C0 hw (c_X2_add (ln_21 ad cI cJ X) hV) (cwV 1 C0.ts gX7_word_X2_add rfl rfl rfl hd_X2_add ⟨Nat.le_of_ble_eq_true rfl, Nat.le_of_ble_eq_true rfl⟩) (lg_21 ad cI cJ X S17) rfl rfl hl.1 rfl (Nat.le_of_ble_eq_true rfl) ⟨Nat.zero_le _, Nat.zero_le _⟩ dX7_word_93 (fun r19 S20 H locs hV hw => ?_)
            refine lv_pop C0.x C0.b dX7_word_96 rfl ?_
            obtain ⟨x21, ex21⟩ : ∃ z : Int32, z = v6 + 1 := ⟨_, rfl⟩
            have hV := hV x21 ex21
            refine lv_iinc (v := x21) (lv' := [(6, .int x21), (7, .int r16), (0, .ref (ad 0)), (3, .int v3), (4, .long v4)]) C0.x C0.b dX7_word_97 hl (k := 4) rfl (by rw [ex21]; rfl) (by decide) rfl (fun ls hl => ?_)
            refine lv_goto (tgt := 40) C0.x C0.b dX7_word_100 (by decide) ?_
            exact ih _ _ _ hV _ _ hw _ (lv_sub hl [2, 3, 4, 0] rfl)
          · have hV := hV.2 c18
            refine lv_goto (tgt := 103) C0.x C0.b dX7_word_83 (by decide) ?_
            refine lv_aload_n C0.x C0.b dX7_word_103 rfl (lv_at hl 1 rfl) ?_
            refine r_get C0 hw (C := RX7) (T := TX7) (N := 15) (v := .ref (ad 19)) iw_X7_word_X7 (lg_0 ad cI cJ X S17) rfl 6 (by decide) (C0.ts _ fw_X7_word_45) rfl dX7_word_104 ?_
            refine lv_aload_n C0.x C0.b dX7_word_107 rfl (lv_at hl 1 rfl) ?_
            refine r_get C0 hw (C := RX7) (T := TX7) (N := 15) (v := .ref (ad 21)) iw_X7_word_X7 (lg_0 ad cI cJ X S17) rfl 7 (by decide) (C0.ts _ fw_X7_word_49) rfl dX7_word_108 ?_
            refine r_cV_v (As := [.ref (ad 21)]) (rest := []) C0 hw (c_X2_become (ln_19 ad cI cJ X) (ln_21 ad cI cJ X) hV) (cwV 1 C0.ts gX7_word_X2_become rfl rfl rfl hd_X2_become ⟨Nat.le_of_ble_eq_true rfl, Nat.le_of_ble_eq_true rfl⟩) (lg_19 ad cI cJ X S17) rfl rfl hl.1 rfl (Nat.le_of_ble_eq_true rfl) ⟨Nat.zero_le _, Nat.zero_le _⟩ dX7_word_111 (fun S23 H locs hV hw => ?_)
            refine lv_aload_n C0.x C0.b dX7_word_114 rfl (lv_at hl 1 rfl) ?_
            refine r_get C0 hw (C := RX7) (T := TX7) (N := 15) (v := .ref (ad 19)) iw_X7_word_X7 (lg_0 ad cI cJ X S23) rfl 6 (by decide) (C0.ts _ fw_X7_word_45) rfl dX7_word_115 ?_
            refine r_cV_i (As := []) (rest := []) C0 hw (c_X2_size (ln_19 ad cI cJ X) hV) (cwV 0 C0.ts gX7_word_X2_size rfl rfl rfl hd_X2_size ⟨Nat.le_of_ble_eq_true rfl, Nat.le_of_ble_eq_true rfl⟩) (lg_19 ad cI cJ X S23) rfl rfl hl.1 rfl (Nat.le_of_ble_eq_true rfl) ⟨Nat.zero_le _, Nat.zero_le _⟩ dX7_word_118 (fun r24 S25 H locs hV hw => ?_)
            exact r_iret C0 rfl hw hV dX7_word_121
        · have hV := hV.1 ((lc_eq _ _).mp c15)
          refine lv_iconst (v := -1) C0.x C0.b dX7_word_68 (by decide) ?_
          exact r_iret C0 rfl hw hV dX7_word_69
      · have hV := hV.2 c14
        refine lv_aload_n C0.x C0.b dX7_word_51 rfl (lv_at hl 0 rfl) ?_
        refine lv_lload C0.x C0.b dX7_word_52 (lv_at hl 2 rfl) ?_
        refine r_cV_l (As := [.long v4]) (rest := []) C0 hw (c_X7_after  hV) (cwV 1 C0.ts gX7_word_X7_after rfl rfl rfl hd_X7_after ⟨Nat.le_of_ble_eq_true rfl, Nat.le_of_ble_eq_true rfl⟩) (lg_0 ad cI cJ X S) rfl rfl hl.1 rfl (Nat.le_of_ble_eq_true rfl) ⟨Nat.zero_le _, Nat.zero_le _⟩ dX7_word_54 (fun r26 S27 H locs hV hw => ?_)
        refine lv_lstore (lv' := [(4, .long r26), (0, .ref (ad 0)), (3, .int v3), (6, .int v6)]) C0.x C0.b dX7_word_57 hl (by decide) rfl (fun ls hl => ?_)
        refine lv_lload C0.x C0.b dX7_word_59 (lv_at hl 0 rfl) ?_
        refine lv_ldc2 (v := 3000000000000000) C0.x C0.b C0.ow (C0.ts _ cw_X7_word_190) dX7_word_61 ?_
        refine r_lcmp C0 dX7_word_64 ?_
        refine lv_if_ne (tgt := 70) C0.x C0.b dX7_word_65 (by decide) (fun c28 => ?_) (fun c28 => ?_)
        · have hV := hV.2 (fun h => c28 ((lc_eq _ _).mpr h))
          refine lv_aload_n C0.x C0.b dX7_word_70 rfl (lv_at hl 1 rfl) ?_
          refine lv_lload C0.x C0.b dX7_word_71 (lv_at hl 0 rfl) ?_
          refine r_cV_i (As := [.long r26]) (rest := []) C0 hw (c_X7_signOf  hV) (cwV 1 C0.ts gX7_word_X7_signOf rfl rfl rfl hd_X7_signOf ⟨Nat.le_of_ble_eq_true rfl, Nat.le_of_ble_eq_true rfl⟩) (lg_0 ad cI cJ X S27) rfl rfl hl.1 rfl (Nat.le_of_ble_eq_true rfl) ⟨Nat.zero_le _, Nat.zero_le _⟩ dX7_word_73 (fun r29 S30 H locs hV hw => ?_)
          refine lv_istore (lv' := [(7, .int r29), (4, .long r26), (0, .ref (ad 0)), (3, .int v3), (6, .int v6)]) C0.x C0.b dX7_word_76 hl (by decide) rfl (fun ls hl => ?_)
          refine lv_iload C0.x C0.b dX7_word_78 (lv_at hl 0 rfl) ?_
          refine lv_if_ge (tgt := 86) C0.x C0.b dX7_word_80 (by decide) (fun c31 => ?_) (fun c31 => ?_)
          · have hV := hV.1 c31
            refine lv_aload_n C0.x C0.b dX7_word_86 rfl (lv_at hl 2 rfl) ?_
            refine r_get C0 hw (C := RX7) (T := TX7) (N := 15) (v := .ref (ad 21)) iw_X7_word_X7 (lg_0 ad cI cJ X S30) rfl 7 (by decide) (C0.ts _ fw_X7_word_49) rfl dX7_word_87 ?_
            refine lv_iload C0.x C0.b dX7_word_90 (lv_at hl 0 rfl) ?_
            refine lv_i2l C0.x C0.b dX7_word_92 rfl ?_
            refine r_cV_i (As := [.long r29.toInt64]) (rest := []) C0 hw (c_X2_add (ln_21 ad cI cJ X) hV) (cwV 1 C0.ts gX7_word_X2_add rfl rfl rfl hd_X2_add ⟨Nat.le_of_ble_eq_true rfl, Nat.le_of_ble_eq_true rfl⟩) (lg_21 ad cI cJ X S30) rfl rfl hl.1 rfl (Nat.le_of_ble_eq_true rfl) ⟨Nat.zero_le _, Nat.zero_le _⟩ dX7_word_93 (fun r32 S33 H locs hV hw => ?_)
            refine lv_pop C0.x C0.b dX7_word_96 rfl ?_
            obtain ⟨x34, ex34⟩ : ∃ z : Int32, z = v6 + 1 := ⟨_, rfl⟩
            have hV := hV x34 ex34
            refine lv_iinc (v := x34) (lv' := [(6, .int x34), (7, .int r29), (4, .long r26), (0, .ref (ad 0)), (3, .int v3)]) C0.x C0.b dX7_word_97 hl (k := 4) rfl (by rw [ex34]; rfl) (by decide) rfl (fun ls hl => ?_)
            refine lv_goto (tgt := 40) C0.x C0.b dX7_word_100 (by decide) ?_
            exact ih _ _ _ hV _ _ hw _ (lv_sub hl [3, 4, 2, 0] rfl)
          · have hV := hV.2 c31
            refine lv_goto (tgt := 103) C0.x C0.b dX7_word_83 (by decide) ?_
            refine lv_aload_n C0.x C0.b dX7_word_103 rfl (lv_at hl 2 rfl) ?_
            refine r_get C0 hw (C := RX7) (T := TX7) (N := 15) (v := .ref (ad 19)) iw_X7_word_X7 (lg_0 ad cI cJ X S30) rfl 6 (by decide) (C0.ts _ fw_X7_word_45) rfl dX7_word_104 ?_
            refine lv_aload_n C0.x C0.b dX7_word_107 rfl (lv_at hl 2 rfl) ?_
            refine r_get C0 hw (C := RX7) (T := TX7) (N := 15) (v := .ref (ad 21)) iw_X7_word_X7 (lg_0 ad cI cJ X S30) rfl 7 (by decide) (C0.ts _ fw_X7_word_49) rfl dX7_word_108 ?_
            refine r_cV_v (As := [.ref (ad 21)]) (rest := []) C0 hw (c_X2_become (ln_19 ad cI cJ X) (ln_21 ad cI cJ X) hV) (cwV 1 C0.ts gX7_word_X2_become rfl rfl rfl hd_X2_become ⟨Nat.le_of_ble_eq_true rfl, Nat.le_of_ble_eq_true rfl⟩) (lg_19 ad cI cJ X S30) rfl rfl hl.1 rfl (Nat.le_of_ble_eq_true rfl) ⟨Nat.zero_le _, Nat.zero_le _⟩ dX7_word_111 (fun S36 H locs hV hw => ?_)
            refine lv_aload_n C0.x C0.b dX7_word_114 rfl (lv_at hl 2 rfl) ?_
            refine r_get C0 hw (C := RX7) (T := TX7) (N := 15) (v := .ref (ad 19)) iw_X7_word_X7 (lg_0 ad cI cJ X S36) rfl 6 (by decide) (C0.ts _ fw_X7_word_45) rfl dX7_word_115 ?_
            refine r_cV_i (As := []) (rest := []) C0 hw (c_X2_size (ln_19 ad cI cJ X) hV) (cwV 0 C0.ts gX7_word_X2_size rfl rfl rfl hd_X2_size ⟨Nat.le_of_ble_eq_true rfl, Nat.le_of_ble_eq_true rfl⟩) (lg_19 ad cI cJ X S36) rfl rfl hl.1 rfl (Nat.le_of_ble_eq_true rfl) ⟨Nat.zero_le _, Nat.zero_le _⟩ dX7_word_118 (fun r37 S38 H locs hV hw => ?_)
            exact r_iret C0 rfl hw hV dX7_word_121
        · have hV := hV.1 ((lc_eq _ _).mp c28)
          refine lv_iconst (v := -1) C0.x C0.b dX7_word_68 (by decide) ?_
          exact r_iret C0 rfl hw hV dX7_word_69
def V_X7_word  (p0 : Int64) (p1 : Int32) (S : SS) (post : Int32 → SS → Prop) : Prop :=
  (((gI S 0) = 0 → (post (-1 : Int32) S)) ∧ (¬ (gI S 0) = 0 → (V_X7_isNumber p0 S (fun (r2 : Int32) (S3 : SS) => ((r2 = 0 → (post (-1 : Int32) S3)) ∧ (¬ r2 = 0 → ((p1 < (1 : Int32) → (post (-1 : Int32) S3)) ∧ (¬ p1 < (1 : Int32) → ((p1 ≤ (40 : Int32) → (V_X2_empty 8 13 1000 S3 (fun (S8 : SS) => (∃ n40 : Nat, V_X7_word_40  p1  post n40 p0 (0 : Int32) S8)))) ∧ (¬ p1 ≤ (40 : Int32) → (post (-1 : Int32) S3)))))))))))
set_option maxHeartbeats 4000000 in
set_option maxRecDepth 100000 in
theorem c_X7_word  {S : SS} {p0 : Int64} {p1 : Int32} {post : Int32 → SS → Prop} (hV : V_X7_word  p0 p1 S post) : MI l yX7_word wsX7_word rm_X7_word [.ref (ad 0), .long p0, .int p1] D n0 ad cI cJ X S post := by
  refine Met.ofW (cc := cX7_word) (maxL := 8) (ret := (some .int)) (by decide) rfl ?_
  intro p e s m args below meth c s₁ B hml hv
  obtain ⟨rfl, hv⟩ := hv
  have C0 := Bd.mk B hml (atoms_spec (ws := wsX7_word) B.pre) (findClass_of_methodNamed B.named) hv.1
  have hw : Wh D n0 ad cI cJ X S s s.heap [] := ⟨hv.2.1, hv.2.2, va_S.rf⟩
  refine r_entry (Nat.le_of_ble_eq_true rfl) (fun ls hl => ?_)
  have hl : lv_has ls 8 [(0, .ref (ad 0)), (1, .long p0), (3, .int p1)] := hl
  unfold V_X7_word at hV
  refine lv_aload_n C0.x C0.b dX7_word_0 rfl (lv_at hl 0 rfl) ?_
  refine r_get C0 hw (C := RX7) (T := TX7) (N := 15) (v := .int (gI S 0)) iw_X7_word_X7 (lg_0 ad cI cJ X S) rfl 0 (by decide) (C0.ts _ fw_X7_word_9) rfl dX7_word_1 ?_
  refine lv_if_eq (tgt := 25) C0.x C0.b dX7_word_4 (by decide) (fun c1 => ?_) (fun c1 => ?_)
  · have hV := hV.1 c1
    refine lv_iconst (v := -1) C0.x C0.b dX7_word_25 (by decide) ?_
    exact r_iret C0 rfl hw hV dX7_word_26
  · have hV := hV.2 c1
    refine lv_lload_n C0.x C0.b dX7_word_7 rfl (lv_at hl 1 rfl) ?_
    refine r_cS_i (As := [.long p0]) (rest := []) C0 hw (c_X7_isNumber  hV) (va_cwS 1 C0.ts gX7_word_X7_isNumber rfl rfl rfl hd_X7_isNumber ⟨Nat.le_of_ble_eq_true rfl, Nat.le_of_ble_eq_true rfl⟩) rfl hl.1 rfl (Nat.le_of_ble_eq_true rfl) ⟨Nat.zero_le _, Nat.zero_le _⟩ dX7_word_8 (fun r2 S3 H locs hV hw => ?_)
    refine lv_if_eq (tgt := 25) C0.x C0.b dX7_word_11 (by decide) (fun c4 => ?_) (fun c4 => ?_)
    · have hV := hV.1 c4
      refine lv_iconst (v := -1) C0.x C0.b dX7_word_25 (by decide) ?_
      exact r_iret C0 rfl hw hV dX7_word_26
    · have hV := hV.2 c4
      refine lv_iload_n C0.x C0.b dX7_word_14 rfl (lv_at hl 2 rfl) ?_
      refine lv_iconst (v := 1) C0.x C0.b dX7_word_15 (by decide) ?_
      refine lv_icmp_lt (tgt := 25) C0.x C0.b dX7_word_16 (by decide) (fun c5 => ?_) (fun c5 => ?_)
      · have hV := hV.1 c5
        refine lv_iconst (v := -1) C0.x C0.b dX7_word_25 (by decide) ?_
        exact r_iret C0 rfl hw hV dX7_word_26
      · have hV := hV.2 c5
        refine lv_iload_n C0.x C0.b dX7_word_19 rfl (lv_at hl 2 rfl) ?_
        refine lv_bipush (v := 40) C0.x C0.b dX7_word_20 (by decide) ?_
        refine lv_icmp_le (tgt := 27) C0.x C0.b dX7_word_22 (by decide) (fun c6 => ?_) (fun c6 => ?_)
        · have hV := hV.1 c6
          refine lv_aload_n C0.x C0.b dX7_word_27 rfl (lv_at hl 0 rfl) ?_
          refine r_get C0 hw (C := RX7) (T := TX7) (N := 15) (v := .ref (ad 21)) iw_X7_word_X7 (lg_0 ad cI cJ X S3) rfl 7 (by decide) (C0.ts _ fw_X7_word_49) rfl dX7_word_28 ?_
          refine r_cV_v (As := []) (rest := []) C0 hw (c_X2_empty (ln_21 ad cI cJ X) hV) (cwV 0 C0.ts gX7_word_X2_empty rfl rfl rfl hd_X2_empty ⟨Nat.le_of_ble_eq_true rfl, Nat.le_of_ble_eq_true rfl⟩) (lg_21 ad cI cJ X S3) rfl rfl hl.1 rfl (Nat.le_of_ble_eq_true rfl) ⟨Nat.zero_le _, Nat.zero_le _⟩ dX7_word_31 (fun S8 H locs hV hw => ?_)
          refine lv_lload_n C0.x C0.b dX7_word_34 rfl (lv_at hl 1 rfl) ?_
          refine lv_lstore (lv' := [(4, .long p0), (0, .ref (ad 0)), (1, .long p0), (3, .int p1)]) C0.x C0.b dX7_word_35 hl (by decide) rfl (fun ls hl => ?_)
          refine lv_iconst (v := 0) C0.x C0.b dX7_word_37 (by decide) ?_
          refine lv_istore (lv' := [(6, .int (0 : Int32)), (4, .long p0), (0, .ref (ad 0)), (1, .long p0), (3, .int p1)]) C0.x C0.b dX7_word_38 hl (by decide) rfl (fun ls hl => ?_)
          obtain ⟨n40, hV⟩ := hV
          exact lp_X7_word_40  _ post C0  n40 _ _ _ hV _ _ hw _ (lv_sub hl [2, 4, 1, 0] rfl)
        · have hV := hV.2 c6
          refine lv_iconst (v := -1) C0.x C0.b dX7_word_25 (by decide) ?_
          exact r_iret C0 rfl hw hV dX7_word_26
/-! StepBench.rest(I)I -/
abbrev rm_X7_rest : Room := { frames := 1, cells := 0, slots := 0, locals := 22 }
set_option maxRecDepth 20000 in
theorem fw_X7_rest_55 : Cond.fieldLink RX7 55 "StepBench" "theWord" "LStepBench$Numbers;" ∈ wsX7_rest := by decide +kernel
set_option maxRecDepth 20000 in
theorem iw_X7_rest_X7 : ∀ w ∈ wsX70, w ∈ wsX7_rest := by decide +kernel
set_option maxRecDepth 20000 in
theorem hd_X7_rest : yX7_rest.cls = RX7 ∧ yX7_rest.cls ≠ "java/lang/invoke/MethodHandle" ∧ yX7_rest.cls ≠ "java/lang/invoke/VarHandle" ∧ (parseMethodDescriptor yX7_rest.desc).map (fun d => d.parameters.length) = some 1 := by decide +kernel
def V_X7_rest  (p0 : Int32) (S : SS) (post : Int32 → SS → Prop) : Prop :=
  ((p0 < 0 → (post (-1 : Int32) S)) ∧ (¬ p0 < 0 → ((p0 < (64 : Int32) → (V_X2_add 10 15 40 p0.toInt64 S (fun (r3 : Int32) (S4 : SS) => ((r3 = 0 → (post (-1 : Int32) S4)) ∧ (¬ r3 = 0 → (V_X2_size 10 15 40 S4 (fun (r6 : Int32) (S7 : SS) => (post r6 S7)))))))) ∧ (¬ p0 < (64 : Int32) → (post (-1 : Int32) S)))))
set_option maxHeartbeats 4000000 in
set_option maxRecDepth 100000 in
theorem c_X7_rest  {S : SS} {p0 : Int32} {post : Int32 → SS → Prop} (hV : V_X7_rest  p0 S post) : MI l yX7_rest wsX7_rest rm_X7_rest [.ref (ad 0), .int p0] D n0 ad cI cJ X S post := by
  refine Met.ofW (cc := cX7_rest) (maxL := 2) (ret := (some .int)) (by decide) rfl ?_
  intro p e s m args below meth c s₁ B hml hv
  obtain ⟨rfl, hv⟩ := hv
  have C0 := Bd.mk B hml (atoms_spec (ws := wsX7_rest) B.pre) (findClass_of_methodNamed B.named) hv.1
  have hw : Wh D n0 ad cI cJ X S s s.heap [] := ⟨hv.2.1, hv.2.2, va_S.rf⟩
  refine r_entry (Nat.le_of_ble_eq_true rfl) (fun ls hl => ?_)
  have hl : lv_has ls 2 [(0, .ref (ad 0)), (1, .int p0)] := hl
  unfold V_X7_rest at hV
  refine lv_iload_n C0.x C0.b dX7_rest_0 rfl (lv_at hl 1 rfl) ?_
  refine lv_if_lt (tgt := 10) C0.x C0.b dX7_rest_1 (by decide) (fun c1 => ?_) (fun c1 => ?_)
  · have hV := hV.1 c1
    refine lv_iconst (v := -1) C0.x C0.b dX7_rest_10 (by decide) ?_
    exact r_iret C0 rfl hw hV dX7_rest_11
  · have hV := hV.2 c1
    refine lv_iload_n C0.x C0.b dX7_rest_4 rfl (lv_at hl 1 rfl) ?_
    refine lv_bipush (v := 64) C0.x C0.b dX7_rest_5 (by decide) ?_
    refine lv_icmp_lt (tgt := 12) C0.x C0.b dX7_rest_7 (by decide) (fun c2 => ?_) (fun c2 => ?_)
    · have hV := hV.1 c2
      refine lv_aload_n C0.x C0.b dX7_rest_12 rfl (lv_at hl 0 rfl) ?_
      refine r_get C0 hw (C := RX7) (T := TX7) (N := 15) (v := .ref (ad 25)) iw_X7_rest_X7 (lg_0 ad cI cJ X S) rfl 9 (by decide) (C0.ts _ fw_X7_rest_55) rfl dX7_rest_13 ?_
      refine lv_iload_n C0.x C0.b dX7_rest_16 rfl (lv_at hl 1 rfl) ?_
      refine lv_i2l C0.x C0.b dX7_rest_17 rfl ?_
      refine r_cV_i (As := [.long p0.toInt64]) (rest := []) C0 hw (c_X2_add (ln_25 ad cI cJ X) hV) (cwV 1 C0.ts gX7_rest_X2_add rfl rfl rfl hd_X2_add ⟨Nat.le_of_ble_eq_true rfl, Nat.le_of_ble_eq_true rfl⟩) (lg_25 ad cI cJ X S) rfl rfl hl.1 rfl (Nat.le_of_ble_eq_true rfl) ⟨Nat.zero_le _, Nat.zero_le _⟩ dX7_rest_18 (fun r3 S4 H locs hV hw => ?_)
      refine lv_if_eq (tgt := 34) C0.x C0.b dX7_rest_21 (by decide) (fun c5 => ?_) (fun c5 => ?_)
      · have hV := hV.1 c5
        refine lv_iconst (v := -1) C0.x C0.b dX7_rest_34 (by decide) ?_
        exact r_iret C0 rfl hw hV dX7_rest_35
      · have hV := hV.2 c5
        refine lv_aload_n C0.x C0.b dX7_rest_24 rfl (lv_at hl 0 rfl) ?_
        refine r_get C0 hw (C := RX7) (T := TX7) (N := 15) (v := .ref (ad 25)) iw_X7_rest_X7 (lg_0 ad cI cJ X S4) rfl 9 (by decide) (C0.ts _ fw_X7_rest_55) rfl dX7_rest_25 ?_
        refine r_cV_i (As := []) (rest := []) C0 hw (c_X2_size (ln_25 ad cI cJ X) hV) (cwV 0 C0.ts gX7_rest_X2_size rfl rfl rfl hd_X2_size ⟨Nat.le_of_ble_eq_true rfl, Nat.le_of_ble_eq_true rfl⟩) (lg_25 ad cI cJ X S4) rfl rfl hl.1 rfl (Nat.le_of_ble_eq_true rfl) ⟨Nat.zero_le _, Nat.zero_le _⟩ dX7_rest_28 (fun r6 S7 H locs hV hw => ?_)
        refine lv_goto (tgt := 35) C0.x C0.b dX7_rest_31 (by decide) ?_
        exact r_iret C0 rfl hw hV dX7_rest_35
    · have hV := hV.2 c2
      refine lv_iconst (v := -1) C0.x C0.b dX7_rest_10 (by decide) ?_
      exact r_iret C0 rfl hw hV dX7_rest_11
/-! StepBench.clear()I -/
abbrev rm_X7_clear : Room := { frames := 1, cells := 0, slots := 0, locals := 20 }
set_option maxRecDepth 20000 in
theorem fw_X7_clear_55 : Cond.fieldLink RX7 55 "StepBench" "theWord" "LStepBench$Numbers;" ∈ wsX7_clear := by decide +kernel
set_option maxRecDepth 20000 in
theorem iw_X7_clear_X7 : ∀ w ∈ wsX70, w ∈ wsX7_clear := by decide +kernel
set_option maxRecDepth 20000 in
theorem hd_X7_clear : yX7_clear.cls = RX7 ∧ yX7_clear.cls ≠ "java/lang/invoke/MethodHandle" ∧ yX7_clear.cls ≠ "java/lang/invoke/VarHandle" ∧ (parseMethodDescriptor yX7_clear.desc).map (fun d => d.parameters.length) = some 0 := by decide +kernel
def V_X7_clear   (S : SS) (post : Int32 → SS → Prop) : Prop :=
  (V_X2_size 10 15 40 S (fun (r1 : Int32) (S2 : SS) => (V_X2_empty 10 15 40 S2 (fun (S4 : SS) => (post r1 S4)))))
set_option maxHeartbeats 4000000 in
set_option maxRecDepth 100000 in
theorem c_X7_clear  {S : SS}  {post : Int32 → SS → Prop} (hV : V_X7_clear   S post) : MI l yX7_clear wsX7_clear rm_X7_clear [.ref (ad 0)] D n0 ad cI cJ X S post := by
  refine Met.ofW (cc := cX7_clear) (maxL := 2) (ret := (some .int)) (by decide) rfl ?_
  intro p e s m args below meth c s₁ B hml hv
  obtain ⟨rfl, hv⟩ := hv
  have C0 := Bd.mk B hml (atoms_spec (ws := wsX7_clear) B.pre) (findClass_of_methodNamed B.named) hv.1
  have hw : Wh D n0 ad cI cJ X S s s.heap [] := ⟨hv.2.1, hv.2.2, va_S.rf⟩
  refine r_entry (Nat.le_of_ble_eq_true rfl) (fun ls hl => ?_)
  have hl : lv_has ls 2 [(0, .ref (ad 0))] := hl
  unfold V_X7_clear at hV
  refine lv_aload_n C0.x C0.b dX7_clear_0 rfl (lv_at hl 0 rfl) ?_
  refine r_get C0 hw (C := RX7) (T := TX7) (N := 15) (v := .ref (ad 25)) iw_X7_clear_X7 (lg_0 ad cI cJ X S) rfl 9 (by decide) (C0.ts _ fw_X7_clear_55) rfl dX7_clear_1 ?_
  refine r_cV_i (As := []) (rest := []) C0 hw (c_X2_size (ln_25 ad cI cJ X) hV) (cwV 0 C0.ts gX7_clear_X2_size rfl rfl rfl hd_X2_size ⟨Nat.le_of_ble_eq_true rfl, Nat.le_of_ble_eq_true rfl⟩) (lg_25 ad cI cJ X S) rfl rfl hl.1 rfl (Nat.le_of_ble_eq_true rfl) ⟨Nat.zero_le _, Nat.zero_le _⟩ dX7_clear_4 (fun r1 S2 H locs hV hw => ?_)
  refine lv_istore_n (lv' := [(1, .int r1), (0, .ref (ad 0))]) C0.x C0.b dX7_clear_7 rfl hl (by decide) rfl (fun ls hl => ?_)
  refine lv_aload_n C0.x C0.b dX7_clear_8 rfl (lv_at hl 1 rfl) ?_
  refine r_get C0 hw (C := RX7) (T := TX7) (N := 15) (v := .ref (ad 25)) iw_X7_clear_X7 (lg_0 ad cI cJ X S2) rfl 9 (by decide) (C0.ts _ fw_X7_clear_55) rfl dX7_clear_9 ?_
  refine r_cV_v (As := []) (rest := []) C0 hw (c_X2_empty (ln_25 ad cI cJ X) hV) (cwV 0 C0.ts gX7_clear_X2_empty rfl rfl rfl hd_X2_empty ⟨Nat.le_of_ble_eq_true rfl, Nat.le_of_ble_eq_true rfl⟩) (lg_25 ad cI cJ X S2) rfl rfl hl.1 rfl (Nat.le_of_ble_eq_true rfl) ⟨Nat.zero_le _, Nat.zero_le _⟩ dX7_clear_12 (fun S4 H locs hV hw => ?_)
  refine lv_iload_n C0.x C0.b dX7_clear_15 rfl (lv_at hl 0 rfl) ?_
  exact r_iret C0 rfl hw hV dX7_clear_16
/-! StepBench.shapeWord(LStepBench$Numbers;I)Z -/
abbrev rm_X7_shapeWord : Room := { frames := 4, cells := 0, slots := 0, locals := 100 }
set_option maxRecDepth 20000 in
theorem fw_X7_shapeWord_64 : Cond.fieldLink RX7 64 "StepBench" "shapes" "LStepBench$Shapes;" ∈ wsX7_shapeWord := by decide +kernel
set_option maxRecDepth 20000 in
theorem iw_X7_shapeWord_X7 : ∀ w ∈ wsX70, w ∈ wsX7_shapeWord := by decide +kernel
set_option maxRecDepth 20000 in
theorem fw_X7_shapeWord_16 : Cond.fieldLink RX7 16 "StepBench" "rule" "LStepBench$Shares;" ∈ wsX7_shapeWord := by decide +kernel
set_option maxRecDepth 20000 in
theorem hd_X7_shapeWord : yX7_shapeWord.cls = RX7 ∧ yX7_shapeWord.cls ≠ "java/lang/invoke/MethodHandle" ∧ yX7_shapeWord.cls ≠ "java/lang/invoke/VarHandle" ∧ (parseMethodDescriptor yX7_shapeWord.desc).map (fun d => d.parameters.length) = some 2 := by decide +kernel
def V_X7_shapeWord_2 (si0 ai0 L0 : Nat)   (post : Int32 → SS → Prop) : Nat → Int32 → SS → Prop
  | 0, _, _ => False
  | n + 1, v3, S =>
    (V_X2_size si0 ai0 L0 S (fun (r1 : Int32) (S2 : SS) => ((r1 ≤ v3 → (post (1 : Int32) S2)) ∧ (¬ r1 ≤ v3 → (V_X2_at si0 ai0 L0 v3 S2 (fun (r4 : Int64) (S5 : SS) => (V_X4_extend 1 0 1 2 v3 r4.toInt32 S5 (fun (r6 : Int32) (S7 : SS) => ((r6 = 0 → (post (0 : Int32) S7)) ∧ (¬ r6 = 0 → (∀ x9 : Int32, x9 = v3 + 1 → (V_X7_shapeWord_2 si0 ai0 L0   post n x9 S7))))))))))))
set_option maxHeartbeats 4000000 in
set_option maxRecDepth 100000 in
theorem lp_X7_shapeWord_2 {po0 pa0 si0 ai0 L0 : Nat} (hO0 : lnN ad cI cJ X po0 pa0 si0 ai0 L0)   (post : Int32 → SS → Prop) (C0 : Bd p s m meth c args cX7_shapeWord 4 (some .boolean) wsX7_shapeWord RX7 D n0 cI cJ) : ∀ (n : Nat) (v3 : Int32) (S : SS), V_X7_shapeWord_2 si0 ai0 L0   post n v3 S → ∀ (H : Heap) (locs : List Loc), Wh D n0 ad cI cJ X S s H locs → ∀ ls : Array Slot, lv_has ls 4 [(0, .ref (ad 0)), (1, .ref (ad po0)), (3, .int v3)] → W p l e rm_X7_shapeWord s m args below meth c H locs 0 0 (MQ below (va_Qi post (fun S' t => Wd D n0 ad cI cJ X S' t) (fr n0)) args s 0 0 (fr n0)) (F0 m 2 ls []) := by
  intro n
  induction n with
  | zero => intro v3 S hV; exact False.elim hV
  | succ n ih =>
    intro v3 S hV H locs hw ls hl
    rw [V_X7_shapeWord_2] at hV
    refine lv_iload_n C0.x C0.b dX7_shapeWord_2 rfl (lv_at hl 2 rfl) ?_
    refine lv_aload_n C0.x C0.b dX7_shapeWord_3 rfl (lv_at hl 1 rfl) ?_
    refine r_cV_i (As := []) (rest := [.int v3]) C0 hw (c_X2_size hO0 hV) (cwV 0 C0.ts gX7_shapeWord_X2_size rfl rfl rfl hd_X2_size ⟨Nat.le_of_ble_eq_true rfl, Nat.le_of_ble_eq_true rfl⟩) (hO0 S).1 rfl rfl hl.1 rfl (Nat.le_of_ble_eq_true rfl) ⟨Nat.zero_le _, Nat.zero_le _⟩ dX7_shapeWord_4 (fun r1 S2 H locs hV hw => ?_)
    refine lv_icmp_ge (tgt := 39) C0.x C0.b dX7_shapeWord_7 (by decide) (fun c3 => ?_) (fun c3 => ?_)
    · have hV := hV.1 c3
      refine lv_iconst (v := 1) C0.x C0.b dX7_shapeWord_39 (by decide) ?_
      exact r_zret C0 rfl bz_1 hw hV dX7_shapeWord_40
    · have hV := hV.2 c3
      refine lv_aload_n C0.x C0.b dX7_shapeWord_10 rfl (lv_at hl 0 rfl) ?_
      refine r_get C0 hw (C := RX7) (T := TX7) (N := 15) (v := .ref (ad 29)) iw_X7_shapeWord_X7 (lg_0 ad cI cJ X S2) rfl 11 (by decide) (C0.ts _ fw_X7_shapeWord_64) rfl dX7_shapeWord_11 ?_
      refine lv_iload_n C0.x C0.b dX7_shapeWord_14 rfl (lv_at hl 2 rfl) ?_
      refine lv_aload_n C0.x C0.b dX7_shapeWord_15 rfl (lv_at hl 0 rfl) ?_
      refine r_get C0 hw (C := RX7) (T := TX7) (N := 15) (v := .ref (ad 1)) iw_X7_shapeWord_X7 (lg_0 ad cI cJ X S2) rfl 1 (by decide) (C0.ts _ fw_X7_shapeWord_16) rfl dX7_shapeWord_16 ?_
      refine lv_aload_n C0.x C0.b dX7_shapeWord_19 rfl (lv_at hl 1 rfl) ?_
      refine lv_iload_n C0.x C0.b dX7_shapeWord_20 rfl (lv_at hl 2 rfl) ?_
      refine r_cV_l (As := [.int v3]) (rest := [.ref (ad 1), .int v3, .ref (ad 29)]) C0 hw (c_X2_at hO0 hV) (cwV 1 C0.ts gX7_shapeWord_X2_at rfl rfl rfl hd_X2_at ⟨Nat.le_of_ble_eq_true rfl, Nat.le_of_ble_eq_true rfl⟩) (hO0 S2).1 rfl rfl hl.1 rfl (Nat.le_of_ble_eq_true rfl) ⟨Nat.zero_le _, Nat.zero_le _⟩ dX7_shapeWord_21 (fun r4 S5 H locs hV hw => ?_)
      refine lv_l2i C0.x C0.b dX7_shapeWord_24 rfl ?_
      refine r_cV_i (As := [.int v3, .ref (ad 1), .int r4.toInt32]) (rest := []) C0 hw (c_X4_extend (ln_1 ad cI cJ X) hV) (cwV 3 C0.ts gX7_shapeWord_X4_extend rfl rfl rfl hd_X4_extend ⟨Nat.le_of_ble_eq_true rfl, Nat.le_of_ble_eq_true rfl⟩) (lg_29 ad cI cJ X S5) rfl rfl hl.1 rfl (Nat.le_of_ble_eq_true rfl) ⟨Nat.zero_le _, Nat.zero_le _⟩ dX7_shapeWord_25 (fun r6 S7 H locs hV hw => ?_)
      refine lv_if_ne (tgt := 33) C0.x C0.b dX7_shapeWord_28 (by decide) (fun c8 => ?_) (fun c8 => ?_)
      · have hV := hV.2 c8
        obtain ⟨x9, ex9⟩ : ∃ z : Int32, z = v3 + 1 := ⟨_, rfl⟩
        have hV := hV x9 ex9
        refine lv_iinc (v := x9) (lv' := [(3, .int x9), (0, .ref (ad 0)), (1, .ref (ad po0))]) C0.x C0.b dX7_shapeWord_33 hl (k := 2) rfl (by rw [ex9]; rfl) (by decide) rfl (fun ls hl => ?_)
        refine lv_goto (tgt := 2) C0.x C0.b dX7_shapeWord_36 (by decide) ?_
        exact ih _ _ hV _ _ hw _ (lv_sub hl [1, 2, 0] rfl)
      · have hV := hV.1 c8
        refine lv_iconst (v := 0) C0.x C0.b dX7_shapeWord_31 (by decide) ?_
        exact r_zret C0 rfl bz_0 hw hV dX7_shapeWord_32
def V_X7_shapeWord (si0 ai0 L0 : Nat) (p1 : Int32) (S : SS) (post : Int32 → SS → Prop) : Prop :=
  (∃ n2 : Nat, V_X7_shapeWord_2 si0 ai0 L0   post n2 p1 S)
set_option maxHeartbeats 4000000 in
set_option maxRecDepth 100000 in
theorem c_X7_shapeWord {po0 pa0 si0 ai0 L0 : Nat} (hO0 : lnN ad cI cJ X po0 pa0 si0 ai0 L0) {S : SS} {p1 : Int32} {post : Int32 → SS → Prop} (hV : V_X7_shapeWord si0 ai0 L0 p1 S post) : MI l yX7_shapeWord wsX7_shapeWord rm_X7_shapeWord [.ref (ad 0), .ref (ad po0), .int p1] D n0 ad cI cJ X S post := by
  refine Met.ofW (cc := cX7_shapeWord) (maxL := 4) (ret := (some .boolean)) (by decide) rfl ?_
  intro p e s m args below meth c s₁ B hml hv
  obtain ⟨rfl, hv⟩ := hv
  have C0 := Bd.mk B hml (atoms_spec (ws := wsX7_shapeWord) B.pre) (findClass_of_methodNamed B.named) hv.1
  have hw : Wh D n0 ad cI cJ X S s s.heap [] := ⟨hv.2.1, hv.2.2, va_S.rf⟩
  refine r_entry (Nat.le_of_ble_eq_true rfl) (fun ls hl => ?_)
  have hl : lv_has ls 4 [(0, .ref (ad 0)), (1, .ref (ad po0)), (2, .int p1)] := hl
  unfold V_X7_shapeWord at hV
  refine lv_iload_n C0.x C0.b dX7_shapeWord_0 rfl (lv_at hl 2 rfl) ?_
  refine lv_istore_n (lv' := [(3, .int p1), (0, .ref (ad 0)), (1, .ref (ad po0)), (2, .int p1)]) C0.x C0.b dX7_shapeWord_1 rfl hl (by decide) rfl (fun ls hl => ?_)
  obtain ⟨n2, hV⟩ := hV
  exact lp_X7_shapeWord_2 hO0  post C0  n2 _ _ hV _ _ hw _ (lv_sub hl [1, 2, 0] rfl)
/-! StepBench.shapeTold()I -/
abbrev rm_X7_shapeTold : Room := { frames := 5, cells := 0, slots := 0, locals := 123 }
set_option maxRecDepth 20000 in
theorem fw_X7_shapeTold_9 : Cond.fieldLink RX7 9 "StepBench" "ruleKind" "I" ∈ wsX7_shapeTold := by decide +kernel
set_option maxRecDepth 20000 in
theorem iw_X7_shapeTold_X7 : ∀ w ∈ wsX70, w ∈ wsX7_shapeTold := by decide +kernel
set_option maxRecDepth 20000 in
theorem fw_X7_shapeTold_55 : Cond.fieldLink RX7 55 "StepBench" "theWord" "LStepBench$Numbers;" ∈ wsX7_shapeTold := by decide +kernel
set_option maxRecDepth 20000 in
theorem fw_X7_shapeTold_16 : Cond.fieldLink RX7 16 "StepBench" "rule" "LStepBench$Shares;" ∈ wsX7_shapeTold := by decide +kernel
set_option maxRecDepth 20000 in
theorem hd_X7_shapeTold : yX7_shapeTold.cls = RX7 ∧ yX7_shapeTold.cls ≠ "java/lang/invoke/MethodHandle" ∧ yX7_shapeTold.cls ≠ "java/lang/invoke/VarHandle" ∧ (parseMethodDescriptor yX7_shapeTold.desc).map (fun d => d.parameters.length) = some 0 := by decide +kernel
def V_X7_shapeTold_22    (post : Int32 → SS → Prop) : Nat → Int32 → SS → Prop
  | 0, _, _ => False
  | n + 1, v1, S =>
    (V_X2_size 10 15 40 S (fun (r5 : Int32) (S6 : SS) => ((r5 ≤ v1 → (V_X7_shapeWord 10 15 40 (0 : Int32) S6 (fun (r8 : Int32) (S9 : SS) => ((r8 = 0 → (post (-2 : Int32) S9)) ∧ (¬ r8 = 0 → (post (1 : Int32) S9)))))) ∧ (¬ r5 ≤ v1 → (V_X2_at 10 15 40 v1 S6 (fun (r11 : Int64) (S12 : SS) => (V_X5_measure 1 0 1 2 S12 (fun (r13 : Int32) (S14 : SS) => ((r11 < r13.toInt64 → (∀ x16 : Int32, x16 = v1 + 1 → (V_X7_shapeTold_22    post n x16 S14))) ∧ (¬ r11 < r13.toInt64 → (post (-1 : Int32) S14)))))))))))
set_option maxHeartbeats 4000000 in
set_option maxRecDepth 100000 in
theorem lp_X7_shapeTold_22    (post : Int32 → SS → Prop) (C0 : Bd p s m meth c args cX7_shapeTold 2 (some .int) wsX7_shapeTold RX7 D n0 cI cJ) : ∀ (n : Nat) (v1 : Int32) (S : SS), V_X7_shapeTold_22    post n v1 S → ∀ (H : Heap) (locs : List Loc), Wh D n0 ad cI cJ X S s H locs → ∀ ls : Array Slot, lv_has ls 2 [(0, .ref (ad 0)), (1, .int v1)] → W p l e rm_X7_shapeTold s m args below meth c H locs 0 0 (MQ below (va_Qi post (fun S' t => Wd D n0 ad cI cJ X S' t) (fr n0)) args s 0 0 (fr n0)) (F0 m 22 ls []) := by
  intro n
  induction n with
  | zero => intro v1 S hV; exact False.elim hV
  | succ n ih =>
    intro v1 S hV H locs hw ls hl
    rw [V_X7_shapeTold_22] at hV
    refine lv_iload_n C0.x C0.b dX7_shapeTold_22 rfl (lv_at hl 1 rfl) ?_
    refine lv_aload_n C0.x C0.b dX7_shapeTold_23 rfl (lv_at hl 0 rfl) ?_
    refine r_get C0 hw (C := RX7) (T := TX7) (N := 15) (v := .ref (ad 25)) iw_X7_shapeTold_X7 (lg_0 ad cI cJ X S) rfl 9 (by decide) (C0.ts _ fw_X7_shapeTold_55) rfl dX7_shapeTold_24 ?_
    refine r_cV_i (As := []) (rest := [.int v1]) C0 hw (c_X2_size (ln_25 ad cI cJ X) hV) (cwV 0 C0.ts gX7_shapeTold_X2_size rfl rfl rfl hd_X2_size ⟨Nat.le_of_ble_eq_true rfl, Nat.le_of_ble_eq_true rfl⟩) (lg_25 ad cI cJ X S) rfl rfl hl.1 rfl (Nat.le_of_ble_eq_true rfl) ⟨Nat.zero_le _, Nat.zero_le _⟩ dX7_shapeTold_27 (fun r5 S6 H locs hV hw => ?_)
    refine lv_icmp_ge (tgt := 61) C0.x C0.b dX7_shapeTold_30 (by decide) (fun c7 => ?_) (fun c7 => ?_)
    · have hV := hV.1 c7
      refine lv_aload_n C0.x C0.b dX7_shapeTold_61 rfl (lv_at hl 0 rfl) ?_
      refine lv_aload_n C0.x C0.b dX7_shapeTold_62 rfl (lv_at hl 0 rfl) ?_
      refine r_get C0 hw (C := RX7) (T := TX7) (N := 15) (v := .ref (ad 25)) iw_X7_shapeTold_X7 (lg_0 ad cI cJ X S6) rfl 9 (by decide) (C0.ts _ fw_X7_shapeTold_55) rfl dX7_shapeTold_63 ?_
      refine lv_iconst (v := 0) C0.x C0.b dX7_shapeTold_66 (by decide) ?_
      refine r_cV_i (As := [.ref (ad 25), .int (0 : Int32)]) (rest := []) C0 hw (c_X7_shapeWord (ln_25 ad cI cJ X) hV) (cwV 2 C0.ts gX7_shapeTold_X7_shapeWord rfl rfl rfl hd_X7_shapeWord ⟨Nat.le_of_ble_eq_true rfl, Nat.le_of_ble_eq_true rfl⟩) (lg_0 ad cI cJ X S6) rfl rfl hl.1 rfl (Nat.le_of_ble_eq_true rfl) ⟨Nat.zero_le _, Nat.zero_le _⟩ dX7_shapeTold_67 (fun r8 S9 H locs hV hw => ?_)
      refine lv_if_eq (tgt := 77) C0.x C0.b dX7_shapeTold_70 (by decide) (fun c10 => ?_) (fun c10 => ?_)
      · have hV := hV.1 c10
        refine lv_bipush (v := -2) C0.x C0.b dX7_shapeTold_77 (by decide) ?_
        exact r_iret C0 rfl hw hV dX7_shapeTold_79
      · have hV := hV.2 c10
        refine lv_iconst (v := 1) C0.x C0.b dX7_shapeTold_73 (by decide) ?_
        refine lv_goto (tgt := 79) C0.x C0.b dX7_shapeTold_74 (by decide) ?_
        exact r_iret C0 rfl hw hV dX7_shapeTold_79
    · have hV := hV.2 c7
      refine lv_aload_n C0.x C0.b dX7_shapeTold_33 rfl (lv_at hl 0 rfl) ?_
      refine r_get C0 hw (C := RX7) (T := TX7) (N := 15) (v := .ref (ad 25)) iw_X7_shapeTold_X7 (lg_0 ad cI cJ X S6) rfl 9 (by decide) (C0.ts _ fw_X7_shapeTold_55) rfl dX7_shapeTold_34 ?_
      refine lv_iload_n C0.x C0.b dX7_shapeTold_37 rfl (lv_at hl 1 rfl) ?_
      refine r_cV_l (As := [.int v1]) (rest := []) C0 hw (c_X2_at (ln_25 ad cI cJ X) hV) (cwV 1 C0.ts gX7_shapeTold_X2_at rfl rfl rfl hd_X2_at ⟨Nat.le_of_ble_eq_true rfl, Nat.le_of_ble_eq_true rfl⟩) (lg_25 ad cI cJ X S6) rfl rfl hl.1 rfl (Nat.le_of_ble_eq_true rfl) ⟨Nat.zero_le _, Nat.zero_le _⟩ dX7_shapeTold_38 (fun r11 S12 H locs hV hw => ?_)
      refine lv_aload_n C0.x C0.b dX7_shapeTold_41 rfl (lv_at hl 0 rfl) ?_
      refine r_get C0 hw (C := RX7) (T := TX7) (N := 15) (v := .ref (ad 1)) iw_X7_shapeTold_X7 (lg_0 ad cI cJ X S12) rfl 1 (by decide) (C0.ts _ fw_X7_shapeTold_16) rfl dX7_shapeTold_42 ?_
      refine r_cV_i (As := []) (rest := [.long r11]) C0 hw (c_X5_measure (ln_1 ad cI cJ X) hV) (cwV 0 C0.ts gX7_shapeTold_X5_measure rfl rfl rfl hd_X5_measure ⟨Nat.le_of_ble_eq_true rfl, Nat.le_of_ble_eq_true rfl⟩) (lg_1 ad cI cJ X S12) rfl rfl hl.1 rfl (Nat.le_of_ble_eq_true rfl) ⟨Nat.zero_le _, Nat.zero_le _⟩ dX7_shapeTold_45 (fun r13 S14 H locs hV hw => ?_)
      refine lv_i2l C0.x C0.b dX7_shapeTold_48 rfl ?_
      refine r_lcmp C0 dX7_shapeTold_49 ?_
      refine lv_if_lt (tgt := 55) C0.x C0.b dX7_shapeTold_50 (by decide) (fun c15 => ?_) (fun c15 => ?_)
      · have hV := hV.1 ((lc_lt _ _).mp c15)
        obtain ⟨x16, ex16⟩ : ∃ z : Int32, z = v1 + 1 := ⟨_, rfl⟩
        have hV := hV x16 ex16
        refine lv_iinc (v := x16) (lv' := [(1, .int x16), (0, .ref (ad 0))]) C0.x C0.b dX7_shapeTold_55 hl (k := 1) rfl (by rw [ex16]; rfl) (by decide) rfl (fun ls hl => ?_)
        refine lv_goto (tgt := 22) C0.x C0.b dX7_shapeTold_58 (by decide) ?_
        exact ih _ _ hV _ _ hw _ (lv_sub hl [1, 0] rfl)
      · have hV := hV.2 (fun h => c15 ((lc_lt _ _).mpr h))
        refine lv_iconst (v := -1) C0.x C0.b dX7_shapeTold_53 (by decide) ?_
        exact r_iret C0 rfl hw hV dX7_shapeTold_54
def V_X7_shapeTold   (S : SS) (post : Int32 → SS → Prop) : Prop :=
  (((gI S 0) = (1 : Int32) → (V_X2_size 10 15 40 S (fun (r2 : Int32) (S3 : SS) => ((r2 = 0 → (post (-1 : Int32) S3)) ∧ (¬ r2 = 0 → (∃ n22 : Nat, V_X7_shapeTold_22    post n22 (0 : Int32) S3)))))) ∧ (¬ (gI S 0) = (1 : Int32) → (post (-1 : Int32) S)))
set_option maxHeartbeats 4000000 in
set_option maxRecDepth 100000 in
theorem c_X7_shapeTold  {S : SS}  {post : Int32 → SS → Prop} (hV : V_X7_shapeTold   S post) : MI l yX7_shapeTold wsX7_shapeTold rm_X7_shapeTold [.ref (ad 0)] D n0 ad cI cJ X S post := by
  refine Met.ofW (cc := cX7_shapeTold) (maxL := 2) (ret := (some .int)) (by decide) rfl ?_
  intro p e s m args below meth c s₁ B hml hv
  obtain ⟨rfl, hv⟩ := hv
  have C0 := Bd.mk B hml (atoms_spec (ws := wsX7_shapeTold) B.pre) (findClass_of_methodNamed B.named) hv.1
  have hw : Wh D n0 ad cI cJ X S s s.heap [] := ⟨hv.2.1, hv.2.2, va_S.rf⟩
  refine r_entry (Nat.le_of_ble_eq_true rfl) (fun ls hl => ?_)
  have hl : lv_has ls 2 [(0, .ref (ad 0))] := hl
  unfold V_X7_shapeTold at hV
  refine lv_aload_n C0.x C0.b dX7_shapeTold_0 rfl (lv_at hl 0 rfl) ?_
  refine r_get C0 hw (C := RX7) (T := TX7) (N := 15) (v := .int (gI S 0)) iw_X7_shapeTold_X7 (lg_0 ad cI cJ X S) rfl 0 (by decide) (C0.ts _ fw_X7_shapeTold_9) rfl dX7_shapeTold_1 ?_
  refine lv_iconst (v := 1) C0.x C0.b dX7_shapeTold_4 (by decide) ?_
  refine lv_icmp_ne (tgt := 18) C0.x C0.b dX7_shapeTold_5 (by decide) (fun c1 => ?_) (fun c1 => ?_)
  · have hV := hV.2 c1
    refine lv_iconst (v := -1) C0.x C0.b dX7_shapeTold_18 (by decide) ?_
    exact r_iret C0 rfl hw hV dX7_shapeTold_19
  · have hV := hV.1 c1
    refine lv_aload_n C0.x C0.b dX7_shapeTold_8 rfl (lv_at hl 0 rfl) ?_
    refine r_get C0 hw (C := RX7) (T := TX7) (N := 15) (v := .ref (ad 25)) iw_X7_shapeTold_X7 (lg_0 ad cI cJ X S) rfl 9 (by decide) (C0.ts _ fw_X7_shapeTold_55) rfl dX7_shapeTold_9 ?_
    refine r_cV_i (As := []) (rest := []) C0 hw (c_X2_size (ln_25 ad cI cJ X) hV) (cwV 0 C0.ts gX7_shapeTold_X2_size rfl rfl rfl hd_X2_size ⟨Nat.le_of_ble_eq_true rfl, Nat.le_of_ble_eq_true rfl⟩) (lg_25 ad cI cJ X S) rfl rfl hl.1 rfl (Nat.le_of_ble_eq_true rfl) ⟨Nat.zero_le _, Nat.zero_le _⟩ dX7_shapeTold_12 (fun r2 S3 H locs hV hw => ?_)
    refine lv_if_ne (tgt := 20) C0.x C0.b dX7_shapeTold_15 (by decide) (fun c4 => ?_) (fun c4 => ?_)
    · have hV := hV.2 c4
      refine lv_iconst (v := 0) C0.x C0.b dX7_shapeTold_20 (by decide) ?_
      refine lv_istore_n (lv' := [(1, .int (0 : Int32)), (0, .ref (ad 0))]) C0.x C0.b dX7_shapeTold_21 rfl hl (by decide) rfl (fun ls hl => ?_)
      obtain ⟨n22, hV⟩ := hV
      exact lp_X7_shapeTold_22   post C0  n22 _ _ hV _ _ hw _ (lv_sub hl [1, 0] rfl)
    · have hV := hV.1 c4
      refine lv_iconst (v := -1) C0.x C0.b dX7_shapeTold_18 (by decide) ?_
      exact r_iret C0 rfl hw hV dX7_shapeTold_19
/-! StepBench.shape()I -/
abbrev rm_X7_shape : Room := { frames := 6, cells := 0, slots := 0, locals := 144 }
set_option maxRecDepth 20000 in
theorem fw_X7_shape_55 : Cond.fieldLink RX7 55 "StepBench" "theWord" "LStepBench$Numbers;" ∈ wsX7_shape := by decide +kernel
set_option maxRecDepth 20000 in
theorem iw_X7_shape_X7 : ∀ w ∈ wsX70, w ∈ wsX7_shape := by decide +kernel
set_option maxRecDepth 20000 in
theorem fw_X7_shape_64 : Cond.fieldLink RX7 64 "StepBench" "shapes" "LStepBench$Shapes;" ∈ wsX7_shape := by decide +kernel
set_option maxRecDepth 20000 in
theorem fw_X7_shape_45 : Cond.fieldLink RX7 45 "StepBench" "numbers" "LStepBench$Numbers;" ∈ wsX7_shape := by decide +kernel
set_option maxRecDepth 20000 in
theorem hd_X7_shape : yX7_shape.cls = RX7 ∧ yX7_shape.cls ≠ "java/lang/invoke/MethodHandle" ∧ yX7_shape.cls ≠ "java/lang/invoke/VarHandle" ∧ (parseMethodDescriptor yX7_shape.desc).map (fun d => d.parameters.length) = some 0 := by decide +kernel
def V_X7_shape   (S : SS) (post : Int32 → SS → Prop) : Prop :=
  (V_X7_shapeTold  S (fun (r1 : Int32) (S2 : SS) => ((r1 = (1 : Int32) → (V_X2_size 10 15 40 S2 (fun (r4 : Int32) (S5 : SS) => (V_X4_reduce r4 S5 (fun (S7 : SS) => (V_X2_empty 7 12 1000 S7 (fun (S9 : SS) => (V_X4_factor r4 S9 (fun (r10 : Int64) (S11 : SS) => (V_X2_add 7 12 1000 r10 S11 (fun (r12 : Int32) (S13 : SS) => (V_X4_addend r4 S13 (fun (r14 : Int64) (S15 : SS) => (V_X2_add 7 12 1000 r14 S15 (fun (r16 : Int32) (S17 : SS) => (V_X4_divisor r4 S17 (fun (r18 : Int64) (S19 : SS) => (V_X2_add 7 12 1000 r18 S19 (fun (r20 : Int32) (S21 : SS) => (post r1 S21)))))))))))))))))))) ∧ (¬ r1 = (1 : Int32) → (post r1 S2)))))
set_option maxHeartbeats 4000000 in
set_option maxRecDepth 100000 in
theorem c_X7_shape  {S : SS}  {post : Int32 → SS → Prop} (hV : V_X7_shape   S post) : MI l yX7_shape wsX7_shape rm_X7_shape [.ref (ad 0)] D n0 ad cI cJ X S post := by
  refine Met.ofW (cc := cX7_shape) (maxL := 3) (ret := (some .int)) (by decide) rfl ?_
  intro p e s m args below meth c s₁ B hml hv
  obtain ⟨rfl, hv⟩ := hv
  have C0 := Bd.mk B hml (atoms_spec (ws := wsX7_shape) B.pre) (findClass_of_methodNamed B.named) hv.1
  have hw : Wh D n0 ad cI cJ X S s s.heap [] := ⟨hv.2.1, hv.2.2, va_S.rf⟩
  refine r_entry (Nat.le_of_ble_eq_true rfl) (fun ls hl => ?_)
  have hl : lv_has ls 3 [(0, .ref (ad 0))] := hl
  unfold V_X7_shape at hV
  refine lv_aload_n C0.x C0.b dX7_shape_0 rfl (lv_at hl 0 rfl) ?_
  refine r_cV_i (As := []) (rest := []) C0 hw (c_X7_shapeTold  hV) (cwV 0 C0.ts gX7_shape_X7_shapeTold rfl rfl rfl hd_X7_shapeTold ⟨Nat.le_of_ble_eq_true rfl, Nat.le_of_ble_eq_true rfl⟩) (lg_0 ad cI cJ X S) rfl rfl hl.1 rfl (Nat.le_of_ble_eq_true rfl) ⟨Nat.zero_le _, Nat.zero_le _⟩ dX7_shape_1 (fun r1 S2 H locs hV hw => ?_)
  refine lv_istore_n (lv' := [(1, .int r1), (0, .ref (ad 0))]) C0.x C0.b dX7_shape_4 rfl hl (by decide) rfl (fun ls hl => ?_)
  refine lv_iload_n C0.x C0.b dX7_shape_5 rfl (lv_at hl 0 rfl) ?_
  refine lv_iconst (v := 1) C0.x C0.b dX7_shape_6 (by decide) ?_
  refine lv_icmp_ne (tgt := 81) C0.x C0.b dX7_shape_7 (by decide) (fun c3 => ?_) (fun c3 => ?_)
  · have hV := hV.2 c3
    refine lv_iload_n C0.x C0.b dX7_shape_81 rfl (lv_at hl 0 rfl) ?_
    exact r_iret C0 rfl hw hV dX7_shape_82
  · have hV := hV.1 c3
    refine lv_aload_n C0.x C0.b dX7_shape_10 rfl (lv_at hl 1 rfl) ?_
    refine r_get C0 hw (C := RX7) (T := TX7) (N := 15) (v := .ref (ad 25)) iw_X7_shape_X7 (lg_0 ad cI cJ X S2) rfl 9 (by decide) (C0.ts _ fw_X7_shape_55) rfl dX7_shape_11 ?_
    refine r_cV_i (As := []) (rest := []) C0 hw (c_X2_size (ln_25 ad cI cJ X) hV) (cwV 0 C0.ts gX7_shape_X2_size rfl rfl rfl hd_X2_size ⟨Nat.le_of_ble_eq_true rfl, Nat.le_of_ble_eq_true rfl⟩) (lg_25 ad cI cJ X S2) rfl rfl hl.1 rfl (Nat.le_of_ble_eq_true rfl) ⟨Nat.zero_le _, Nat.zero_le _⟩ dX7_shape_14 (fun r4 S5 H locs hV hw => ?_)
    refine lv_istore_n (lv' := [(2, .int r4), (1, .int r1), (0, .ref (ad 0))]) C0.x C0.b dX7_shape_17 rfl hl (by decide) rfl (fun ls hl => ?_)
    refine lv_aload_n C0.x C0.b dX7_shape_18 rfl (lv_at hl 2 rfl) ?_
    refine r_get C0 hw (C := RX7) (T := TX7) (N := 15) (v := .ref (ad 29)) iw_X7_shape_X7 (lg_0 ad cI cJ X S5) rfl 11 (by decide) (C0.ts _ fw_X7_shape_64) rfl dX7_shape_19 ?_
    refine lv_iload_n C0.x C0.b dX7_shape_22 rfl (lv_at hl 0 rfl) ?_
    refine r_cV_v (As := [.int r4]) (rest := []) C0 hw (c_X4_reduce  hV) (cwV 1 C0.ts gX7_shape_X4_reduce rfl rfl rfl hd_X4_reduce ⟨Nat.le_of_ble_eq_true rfl, Nat.le_of_ble_eq_true rfl⟩) (lg_29 ad cI cJ X S5) rfl rfl hl.1 rfl (Nat.le_of_ble_eq_true rfl) ⟨Nat.zero_le _, Nat.zero_le _⟩ dX7_shape_23 (fun S7 H locs hV hw => ?_)
    refine lv_aload_n C0.x C0.b dX7_shape_26 rfl (lv_at hl 2 rfl) ?_
    refine r_get C0 hw (C := RX7) (T := TX7) (N := 15) (v := .ref (ad 19)) iw_X7_shape_X7 (lg_0 ad cI cJ X S7) rfl 6 (by decide) (C0.ts _ fw_X7_shape_45) rfl dX7_shape_27 ?_
    refine r_cV_v (As := []) (rest := []) C0 hw (c_X2_empty (ln_19 ad cI cJ X) hV) (cwV 0 C0.ts gX7_shape_X2_empty rfl rfl rfl hd_X2_empty ⟨Nat.le_of_ble_eq_true rfl, Nat.le_of_ble_eq_true rfl⟩) (lg_19 ad cI cJ X S7) rfl rfl hl.1 rfl (Nat.le_of_ble_eq_true rfl) ⟨Nat.zero_le _, Nat.zero_le _⟩ dX7_shape_30 (fun S9 H locs hV hw => ?_)
    refine lv_aload_n C0.x C0.b dX7_shape_33 rfl (lv_at hl 2 rfl) ?_
    refine r_get C0 hw (C := RX7) (T := TX7) (N := 15) (v := .ref (ad 19)) iw_X7_shape_X7 (lg_0 ad cI cJ X S9) rfl 6 (by decide) (C0.ts _ fw_X7_shape_45) rfl dX7_shape_34 ?_
    refine lv_aload_n C0.x C0.b dX7_shape_37 rfl (lv_at hl 2 rfl) ?_
    refine r_get C0 hw (C := RX7) (T := TX7) (N := 15) (v := .ref (ad 29)) iw_X7_shape_X7 (lg_0 ad cI cJ X S9) rfl 11 (by decide) (C0.ts _ fw_X7_shape_64) rfl dX7_shape_38 ?_
    refine lv_iload_n C0.x C0.b dX7_shape_41 rfl (lv_at hl 0 rfl) ?_
    refine r_cV_l (As := [.int r4]) (rest := [.ref (ad 19)]) C0 hw (c_X4_factor  hV) (cwV 1 C0.ts gX7_shape_X4_factor rfl rfl rfl hd_X4_factor ⟨Nat.le_of_ble_eq_true rfl, Nat.le_of_ble_eq_true rfl⟩) (lg_29 ad cI cJ X S9) rfl rfl hl.1 rfl (Nat.le_of_ble_eq_true rfl) ⟨Nat.zero_le _, Nat.zero_le _⟩ dX7_shape_42 (fun r10 S11 H locs hV hw => ?_)
    refine r_cV_i (As := [.long r10]) (rest := []) C0 hw (c_X2_add (ln_19 ad cI cJ X) hV) (cwV 1 C0.ts gX7_shape_X2_add rfl rfl rfl hd_X2_add ⟨Nat.le_of_ble_eq_true rfl, Nat.le_of_ble_eq_true rfl⟩) (lg_19 ad cI cJ X S11) rfl rfl hl.1 rfl (Nat.le_of_ble_eq_true rfl) ⟨Nat.zero_le _, Nat.zero_le _⟩ dX7_shape_45 (fun r12 S13 H locs hV hw => ?_)
    refine lv_pop C0.x C0.b dX7_shape_48 rfl ?_
    refine lv_aload_n C0.x C0.b dX7_shape_49 rfl (lv_at hl 2 rfl) ?_
    refine r_get C0 hw (C := RX7) (T := TX7) (N := 15) (v := .ref (ad 19)) iw_X7_shape_X7 (lg_0 ad cI cJ X S13) rfl 6 (by decide) (C0.ts _ fw_X7_shape_45) rfl dX7_shape_50 ?_
    refine lv_aload_n C0.x C0.b dX7_shape_53 rfl (lv_at hl 2 rfl) ?_
    refine r_get C0 hw (C := RX7) (T := TX7) (N := 15) (v := .ref (ad 29)) iw_X7_shape_X7 (lg_0 ad cI cJ X S13) rfl 11 (by decide) (C0.ts _ fw_X7_shape_64) rfl dX7_shape_54 ?_
    refine lv_iload_n C0.x C0.b dX7_shape_57 rfl (lv_at hl 0 rfl) ?_
    refine r_cV_l (As := [.int r4]) (rest := [.ref (ad 19)]) C0 hw (c_X4_addend  hV) (cwV 1 C0.ts gX7_shape_X4_addend rfl rfl rfl hd_X4_addend ⟨Nat.le_of_ble_eq_true rfl, Nat.le_of_ble_eq_true rfl⟩) (lg_29 ad cI cJ X S13) rfl rfl hl.1 rfl (Nat.le_of_ble_eq_true rfl) ⟨Nat.zero_le _, Nat.zero_le _⟩ dX7_shape_58 (fun r14 S15 H locs hV hw => ?_)
    refine r_cV_i (As := [.long r14]) (rest := []) C0 hw (c_X2_add (ln_19 ad cI cJ X) hV) (cwV 1 C0.ts gX7_shape_X2_add rfl rfl rfl hd_X2_add ⟨Nat.le_of_ble_eq_true rfl, Nat.le_of_ble_eq_true rfl⟩) (lg_19 ad cI cJ X S15) rfl rfl hl.1 rfl (Nat.le_of_ble_eq_true rfl) ⟨Nat.zero_le _, Nat.zero_le _⟩ dX7_shape_61 (fun r16 S17 H locs hV hw => ?_)
    refine lv_pop C0.x C0.b dX7_shape_64 rfl ?_
    refine lv_aload_n C0.x C0.b dX7_shape_65 rfl (lv_at hl 2 rfl) ?_
    refine r_get C0 hw (C := RX7) (T := TX7) (N := 15) (v := .ref (ad 19)) iw_X7_shape_X7 (lg_0 ad cI cJ X S17) rfl 6 (by decide) (C0.ts _ fw_X7_shape_45) rfl dX7_shape_66 ?_
    refine lv_aload_n C0.x C0.b dX7_shape_69 rfl (lv_at hl 2 rfl) ?_
    refine r_get C0 hw (C := RX7) (T := TX7) (N := 15) (v := .ref (ad 29)) iw_X7_shape_X7 (lg_0 ad cI cJ X S17) rfl 11 (by decide) (C0.ts _ fw_X7_shape_64) rfl dX7_shape_70 ?_
    refine lv_iload_n C0.x C0.b dX7_shape_73 rfl (lv_at hl 0 rfl) ?_
    refine r_cV_l (As := [.int r4]) (rest := [.ref (ad 19)]) C0 hw (c_X4_divisor  hV) (cwV 1 C0.ts gX7_shape_X4_divisor rfl rfl rfl hd_X4_divisor ⟨Nat.le_of_ble_eq_true rfl, Nat.le_of_ble_eq_true rfl⟩) (lg_29 ad cI cJ X S17) rfl rfl hl.1 rfl (Nat.le_of_ble_eq_true rfl) ⟨Nat.zero_le _, Nat.zero_le _⟩ dX7_shape_74 (fun r18 S19 H locs hV hw => ?_)
    refine r_cV_i (As := [.long r18]) (rest := []) C0 hw (c_X2_add (ln_19 ad cI cJ X) hV) (cwV 1 C0.ts gX7_shape_X2_add rfl rfl rfl hd_X2_add ⟨Nat.le_of_ble_eq_true rfl, Nat.le_of_ble_eq_true rfl⟩) (lg_19 ad cI cJ X S19) rfl rfl hl.1 rfl (Nat.le_of_ble_eq_true rfl) ⟨Nat.zero_le _, Nat.zero_le _⟩ dX7_shape_77 (fun r20 S21 H locs hV hw => ?_)
    refine lv_pop C0.x C0.b dX7_shape_80 rfl ?_
    refine lv_iload_n C0.x C0.b dX7_shape_81 rfl (lv_at hl 1 rfl) ?_
    exact r_iret C0 rfl hw hV dX7_shape_82
/-! StepBench.ringNumber(LStepBench$Numbers;I)J -/
abbrev rm_X7_ringNumber : Room := { frames := 3, cells := 0, slots := 0, locals := 72 }
set_option maxRecDepth 20000 in
theorem fw_X7_ringNumber_64 : Cond.fieldLink RX7 64 "StepBench" "shapes" "LStepBench$Shapes;" ∈ wsX7_ringNumber := by decide +kernel
set_option maxRecDepth 20000 in
theorem iw_X7_ringNumber_X7 : ∀ w ∈ wsX70, w ∈ wsX7_ringNumber := by decide +kernel
set_option maxRecDepth 20000 in
theorem cw_X7_ringNumber_190 : Cond.constantLong RX7 190 3000000000000000 ∈ wsX7_ringNumber := by decide +kernel
set_option maxRecDepth 20000 in
theorem fw_X7_ringNumber_16 : Cond.fieldLink RX7 16 "StepBench" "rule" "LStepBench$Shares;" ∈ wsX7_ringNumber := by decide +kernel
set_option maxRecDepth 20000 in
theorem hd_X7_ringNumber : yX7_ringNumber.cls = RX7 ∧ yX7_ringNumber.cls ≠ "java/lang/invoke/MethodHandle" ∧ yX7_ringNumber.cls ≠ "java/lang/invoke/VarHandle" ∧ (parseMethodDescriptor yX7_ringNumber.desc).map (fun d => d.parameters.length) = some 2 := by decide +kernel
def V_X7_ringNumber_62 (si0 ai0 L0 : Nat) (v2 : Int32) (v5 : Int64)  (post : Int64 → SS → Prop) : Nat → Int64 → Int32 → SS → Prop
  | 0, _, _, _ => False
  | n + 1, v7, v9, S =>
    ((v2 ≤ v9 → ((v7 = v5 → (post v5 S)) ∧ (¬ v7 = v5 → (post (3000000000000000 : Int64) S)))) ∧ (¬ v2 ≤ v9 → (V_X7_isNumber v7 S (fun (r15 : Int32) (S16 : SS) => ((r15 = 0 → (post (3000000000000000 : Int64) S16)) ∧ (¬ r15 = 0 → (V_X5_restOf 1 0 1 2 v7 S16 (fun (r18 : Int32) (S19 : SS) => (V_X2_at si0 ai0 L0 v9 S19 (fun (r20 : Int64) (S21 : SS) => ((r18.toInt64 = r20 → (V_X5_after 1 0 1 2 v7 S21 (fun (r23 : Int64) (S24 : SS) => (∀ x25 : Int32, x25 = v9 + 1 → (V_X7_ringNumber_62 si0 ai0 L0 v2 v5  post n r23 x25 S24))))) ∧ (¬ r18.toInt64 = r20 → (post (3000000000000000 : Int64) S21)))))))))))))
set_option maxHeartbeats 4000000 in
set_option maxRecDepth 100000 in
theorem lp_X7_ringNumber_62 {po0 pa0 si0 ai0 L0 : Nat} (hO0 : lnN ad cI cJ X po0 pa0 si0 ai0 L0) (v2 : Int32) (v5 : Int64)  (post : Int64 → SS → Prop) (C0 : Bd p s m meth c args cX7_ringNumber 10 (some .long) wsX7_ringNumber RX7 D n0 cI cJ) : ∀ (n : Nat) (v7 : Int64) (v9 : Int32) (S : SS), V_X7_ringNumber_62 si0 ai0 L0 v2 v5  post n v7 v9 S → ∀ (H : Heap) (locs : List Loc), Wh D n0 ad cI cJ X S s H locs → ∀ ls : Array Slot, lv_has ls 10 [(0, .ref (ad 0)), (1, .ref (ad po0)), (2, .int v2), (5, .long v5), (7, .long v7), (9, .int v9)] → W p l e rm_X7_ringNumber s m args below meth c H locs 0 0 (MQ below (va_Ql post (fun S' t => Wd D n0 ad cI cJ X S' t) (fr n0)) args s 0 0 (fr n0)) (F0 m 62 ls []) := by
  intro n
  induction n with
  | zero => intro v7 v9 S hV; exact False.elim hV
  | succ n ih =>
    intro v7 v9 S hV H locs hw ls hl
    rw [V_X7_ringNumber_62] at hV
    refine lv_iload C0.x C0.b dX7_ringNumber_62 (lv_at hl 5 rfl) ?_
    refine lv_iload_n C0.x C0.b dX7_ringNumber_64 rfl (lv_at hl 2 rfl) ?_
    refine lv_icmp_ge (tgt := 117) C0.x C0.b dX7_ringNumber_65 (by decide) (fun c13 => ?_) (fun c13 => ?_)
    · have hV := hV.1 c13
      refine lv_lload C0.x C0.b dX7_ringNumber_117 (lv_at hl 4 rfl) ?_
      refine lv_lload C0.x C0.b dX7_ringNumber_119 (lv_at hl 3 rfl) ?_
      refine r_lcmp C0 dX7_ringNumber_121 ?_
      refine lv_if_ne (tgt := 130) C0.x C0.b dX7_ringNumber_122 (by decide) (fun c14 => ?_) (fun c14 => ?_)
      · have hV := hV.2 (fun h => c14 ((lc_eq _ _).mpr h))
        refine lv_ldc2 (v := 3000000000000000) C0.x C0.b C0.ow (C0.ts _ cw_X7_ringNumber_190) dX7_ringNumber_130 ?_
        exact r_lret C0 rfl hw hV dX7_ringNumber_133
      · have hV := hV.1 ((lc_eq _ _).mp c14)
        refine lv_lload C0.x C0.b dX7_ringNumber_125 (lv_at hl 3 rfl) ?_
        refine lv_goto (tgt := 133) C0.x C0.b dX7_ringNumber_127 (by decide) ?_
        exact r_lret C0 rfl hw hV dX7_ringNumber_133
    · have hV := hV.2 c13
      refine lv_lload C0.x C0.b dX7_ringNumber_68 (lv_at hl 4 rfl) ?_
      refine r_cS_i (As := [.long v7]) (rest := []) C0 hw (c_X7_isNumber  hV) (va_cwS 1 C0.ts gX7_ringNumber_X7_isNumber rfl rfl rfl hd_X7_isNumber ⟨Nat.le_of_ble_eq_true rfl, Nat.le_of_ble_eq_true rfl⟩) rfl hl.1 rfl (Nat.le_of_ble_eq_true rfl) ⟨Nat.zero_le _, Nat.zero_le _⟩ dX7_ringNumber_70 (fun r15 S16 H locs hV hw => ?_)
      refine lv_if_eq (tgt := 96) C0.x C0.b dX7_ringNumber_73 (by decide) (fun c17 => ?_) (fun c17 => ?_)
      · have hV := hV.1 c17
        refine lv_ldc2 (v := 3000000000000000) C0.x C0.b C0.ow (C0.ts _ cw_X7_ringNumber_190) dX7_ringNumber_96 ?_
        exact r_lret C0 rfl hw hV dX7_ringNumber_99
      · have hV := hV.2 c17
        refine lv_aload_n C0.x C0.b dX7_ringNumber_76 rfl (lv_at hl 0 rfl) ?_
        refine r_get C0 hw (C := RX7) (T := TX7) (N := 15) (v := .ref (ad 1)) iw_X7_ringNumber_X7 (lg_0 ad cI cJ X S16) rfl 1 (by decide) (C0.ts _ fw_X7_ringNumber_16) rfl dX7_ringNumber_77 ?_
        refine lv_lload C0.x C0.b dX7_ringNumber_80 (lv_at hl 4 rfl) ?_
        refine r_cV_i (As := [.long v7]) (rest := []) C0 hw (c_X5_restOf (ln_1 ad cI cJ X) hV) (cwV 1 C0.ts gX7_ringNumber_X5_restOf rfl rfl rfl hd_X5_restOf ⟨Nat.le_of_ble_eq_true rfl, Nat.le_of_ble_eq_true rfl⟩) (lg_1 ad cI cJ X S16) rfl rfl hl.1 rfl (Nat.le_of_ble_eq_true rfl) ⟨Nat.zero_le _, Nat.zero_le _⟩ dX7_ringNumber_82 (fun r18 S19 H locs hV hw => ?_)
        refine lv_i2l C0.x C0.b dX7_ringNumber_85 rfl ?_
        refine lv_aload_n C0.x C0.b dX7_ringNumber_86 rfl (lv_at hl 1 rfl) ?_
        refine lv_iload C0.x C0.b dX7_ringNumber_87 (lv_at hl 5 rfl) ?_
        refine r_cV_l (As := [.int v9]) (rest := [.long r18.toInt64]) C0 hw (c_X2_at hO0 hV) (cwV 1 C0.ts gX7_ringNumber_X2_at rfl rfl rfl hd_X2_at ⟨Nat.le_of_ble_eq_true rfl, Nat.le_of_ble_eq_true rfl⟩) (hO0 S19).1 rfl rfl hl.1 rfl (Nat.le_of_ble_eq_true rfl) ⟨Nat.zero_le _, Nat.zero_le _⟩ dX7_ringNumber_89 (fun r20 S21 H locs hV hw => ?_)
        refine r_lcmp C0 dX7_ringNumber_92 ?_
        refine lv_if_eq (tgt := 100) C0.x C0.b dX7_ringNumber_93 (by decide) (fun c22 => ?_) (fun c22 => ?_)
        · have hV := hV.1 ((lc_eq _ _).mp c22)
          refine lv_aload_n C0.x C0.b dX7_ringNumber_100 rfl (lv_at hl 0 rfl) ?_
          refine r_get C0 hw (C := RX7) (T := TX7) (N := 15) (v := .ref (ad 1)) iw_X7_ringNumber_X7 (lg_0 ad cI cJ X S21) rfl 1 (by decide) (C0.ts _ fw_X7_ringNumber_16) rfl dX7_ringNumber_101 ?_
          refine lv_lload C0.x C0.b dX7_ringNumber_104 (lv_at hl 4 rfl) ?_
          refine r_cV_l (As := [.long v7]) (rest := []) C0 hw (c_X5_after (ln_1 ad cI cJ X) hV) (cwV 1 C0.ts gX7_ringNumber_X5_after rfl rfl rfl hd_X5_after ⟨Nat.le_of_ble_eq_true rfl, Nat.le_of_ble_eq_true rfl⟩) (lg_1 ad cI cJ X S21) rfl rfl hl.1 rfl (Nat.le_of_ble_eq_true rfl) ⟨Nat.zero_le _, Nat.zero_le _⟩ dX7_ringNumber_106 (fun r23 S24 H locs hV hw => ?_)
          refine lv_lstore (lv' := [(7, .long r23), (0, .ref (ad 0)), (1, .ref (ad po0)), (2, .int v2), (5, .long v5), (9, .int v9)]) C0.x C0.b dX7_ringNumber_109 hl (by decide) rfl (fun ls hl => ?_)
          obtain ⟨x25, ex25⟩ : ∃ z : Int32, z = v9 + 1 := ⟨_, rfl⟩
          have hV := hV x25 ex25
          refine lv_iinc (v := x25) (lv' := [(9, .int x25), (7, .long r23), (0, .ref (ad 0)), (1, .ref (ad po0)), (2, .int v2), (5, .long v5)]) C0.x C0.b dX7_ringNumber_111 hl (k := 5) rfl (by rw [ex25]; rfl) (by decide) rfl (fun ls hl => ?_)
          refine lv_goto (tgt := 62) C0.x C0.b dX7_ringNumber_114 (by decide) ?_
          exact ih _ _ _ hV _ _ hw _ (lv_sub hl [2, 3, 4, 5, 1, 0] rfl)
        · have hV := hV.2 (fun h => c22 ((lc_eq _ _).mpr h))
          refine lv_ldc2 (v := 3000000000000000) C0.x C0.b C0.ow (C0.ts _ cw_X7_ringNumber_190) dX7_ringNumber_96 ?_
          exact r_lret C0 rfl hw hV dX7_ringNumber_99
def V_X7_ringNumber (si0 ai0 L0 : Nat) (p1 : Int32) (S : SS) (post : Int64 → SS → Prop) : Prop :=
  (V_X4_divisor p1 S (fun (r1 : Int64) (S2 : SS) => (V_X4_factor p1 S2 (fun (r3 : Int64) (S4 : SS) => (∀ y5 : Int64, y5 = (r1 - r3) → ((y5 = (0 : Int64) → (post (3000000000000000 : Int64) S4)) ∧ (¬ y5 = (0 : Int64) → (V_X4_addend p1 S4 (fun (r7 : Int64) (S8 : SS) => (¬ y5 = 0 ∧ (((lrm r7 y5) = (0 : Int64) → (V_X4_addend p1 S8 (fun (r10 : Int64) (S11 : SS) => (¬ y5 = 0 ∧ (∀ y12 : Int64, y12 = (r10 / y5) → (∃ n62 : Nat, V_X7_ringNumber_62 si0 ai0 L0 p1 y12  post n62 y12 (0 : Int32) S11)))))) ∧ (¬ (lrm r7 y5) = (0 : Int64) → (post (3000000000000000 : Int64) S8)))))))))))))
set_option maxHeartbeats 4000000 in
set_option maxRecDepth 100000 in
theorem c_X7_ringNumber {po0 pa0 si0 ai0 L0 : Nat} (hO0 : lnN ad cI cJ X po0 pa0 si0 ai0 L0) {S : SS} {p1 : Int32} {post : Int64 → SS → Prop} (hV : V_X7_ringNumber si0 ai0 L0 p1 S post) : ML l yX7_ringNumber wsX7_ringNumber rm_X7_ringNumber [.ref (ad 0), .ref (ad po0), .int p1] D n0 ad cI cJ X S post := by
  refine Met.ofW (cc := cX7_ringNumber) (maxL := 10) (ret := (some .long)) (by decide) rfl ?_
  intro p e s m args below meth c s₁ B hml hv
  obtain ⟨rfl, hv⟩ := hv
  have C0 := Bd.mk B hml (atoms_spec (ws := wsX7_ringNumber) B.pre) (findClass_of_methodNamed B.named) hv.1
  have hw : Wh D n0 ad cI cJ X S s s.heap [] := ⟨hv.2.1, hv.2.2, va_S.rf⟩
  refine r_entry (Nat.le_of_ble_eq_true rfl) (fun ls hl => ?_)
  have hl : lv_has ls 10 [(0, .ref (ad 0)), (1, .ref (ad po0)), (2, .int p1)] := hl
  unfold V_X7_ringNumber at hV
  refine lv_aload_n C0.x C0.b dX7_ringNumber_0 rfl (lv_at hl 0 rfl) ?_
  refine r_get C0 hw (C := RX7) (T := TX7) (N := 15) (v := .ref (ad 29)) iw_X7_ringNumber_X7 (lg_0 ad cI cJ X S) rfl 11 (by decide) (C0.ts _ fw_X7_ringNumber_64) rfl dX7_ringNumber_1 ?_
  refine lv_iload_n C0.x C0.b dX7_ringNumber_4 rfl (lv_at hl 2 rfl) ?_
  refine r_cV_l (As := [.int p1]) (rest := []) C0 hw (c_X4_divisor  hV) (cwV 1 C0.ts gX7_ringNumber_X4_divisor rfl rfl rfl hd_X4_divisor ⟨Nat.le_of_ble_eq_true rfl, Nat.le_of_ble_eq_true rfl⟩) (lg_29 ad cI cJ X S) rfl rfl hl.1 rfl (Nat.le_of_ble_eq_true rfl) ⟨Nat.zero_le _, Nat.zero_le _⟩ dX7_ringNumber_5 (fun r1 S2 H locs hV hw => ?_)
  refine lv_aload_n C0.x C0.b dX7_ringNumber_8 rfl (lv_at hl 0 rfl) ?_
  refine r_get C0 hw (C := RX7) (T := TX7) (N := 15) (v := .ref (ad 29)) iw_X7_ringNumber_X7 (lg_0 ad cI cJ X S2) rfl 11 (by decide) (C0.ts _ fw_X7_ringNumber_64) rfl dX7_ringNumber_9 ?_
  refine lv_iload_n C0.x C0.b dX7_ringNumber_12 rfl (lv_at hl 2 rfl) ?_
  refine r_cV_l (As := [.int p1]) (rest := [.long r1]) C0 hw (c_X4_factor  hV) (cwV 1 C0.ts gX7_ringNumber_X4_factor rfl rfl rfl hd_X4_factor ⟨Nat.le_of_ble_eq_true rfl, Nat.le_of_ble_eq_true rfl⟩) (lg_29 ad cI cJ X S2) rfl rfl hl.1 rfl (Nat.le_of_ble_eq_true rfl) ⟨Nat.zero_le _, Nat.zero_le _⟩ dX7_ringNumber_13 (fun r3 S4 H locs hV hw => ?_)
  refine lv_lsub C0.x C0.b dX7_ringNumber_16 ?_
  refine lv_topl (fun y5 ey5 => ?_)
  have hV := hV y5 ey5
  refine lv_lstore_n (lv' := [(3, .long y5), (0, .ref (ad 0)), (1, .ref (ad po0)), (2, .int p1)]) C0.x C0.b dX7_ringNumber_17 rfl hl (by decide) rfl (fun ls hl => ?_)
  refine lv_lload_n C0.x C0.b dX7_ringNumber_18 rfl (lv_at hl 0 rfl) ?_
  refine lv_lconst (v := 0) C0.x C0.b dX7_ringNumber_19 (by decide) ?_
  refine r_lcmp C0 dX7_ringNumber_20 ?_
  refine lv_if_eq (tgt := 39) C0.x C0.b dX7_ringNumber_21 (by decide) (fun c6 => ?_) (fun c6 => ?_)
  · have hV := hV.1 ((lc_eq _ _).mp c6)
    refine lv_ldc2 (v := 3000000000000000) C0.x C0.b C0.ow (C0.ts _ cw_X7_ringNumber_190) dX7_ringNumber_39 ?_
    exact r_lret C0 rfl hw hV dX7_ringNumber_42
  · have hV := hV.2 (fun h => c6 ((lc_eq _ _).mpr h))
    refine lv_aload_n C0.x C0.b dX7_ringNumber_24 rfl (lv_at hl 1 rfl) ?_
    refine r_get C0 hw (C := RX7) (T := TX7) (N := 15) (v := .ref (ad 29)) iw_X7_ringNumber_X7 (lg_0 ad cI cJ X S4) rfl 11 (by decide) (C0.ts _ fw_X7_ringNumber_64) rfl dX7_ringNumber_25 ?_
    refine lv_iload_n C0.x C0.b dX7_ringNumber_28 rfl (lv_at hl 3 rfl) ?_
    refine r_cV_l (As := [.int p1]) (rest := []) C0 hw (c_X4_addend  hV) (cwV 1 C0.ts gX7_ringNumber_X4_addend rfl rfl rfl hd_X4_addend ⟨Nat.le_of_ble_eq_true rfl, Nat.le_of_ble_eq_true rfl⟩) (lg_29 ad cI cJ X S4) rfl rfl hl.1 rfl (Nat.le_of_ble_eq_true rfl) ⟨Nat.zero_le _, Nat.zero_le _⟩ dX7_ringNumber_29 (fun r7 S8 H locs hV hw => ?_)
    refine lv_lload_n C0.x C0.b dX7_ringNumber_32 rfl (lv_at hl 0 rfl) ?_
    refine lv_lrem C0.x C0.b dX7_ringNumber_33 hV.1 ?_
    have hV := hV.2
    refine lv_lconst (v := 0) C0.x C0.b dX7_ringNumber_34 (by decide) ?_
    refine r_lcmp C0 dX7_ringNumber_35 ?_
    refine lv_if_eq (tgt := 43) C0.x C0.b dX7_ringNumber_36 (by decide) (fun c9 => ?_) (fun c9 => ?_)
    · have hV := hV.1 ((lc_eq _ _).mp c9)
      refine lv_aload_n C0.x C0.b dX7_ringNumber_43 rfl (lv_at hl 1 rfl) ?_
      refine r_get C0 hw (C := RX7) (T := TX7) (N := 15) (v := .ref (ad 29)) iw_X7_ringNumber_X7 (lg_0 ad cI cJ X S8) rfl 11 (by decide) (C0.ts _ fw_X7_ringNumber_64) rfl dX7_ringNumber_44 ?_
      refine lv_iload_n C0.x C0.b dX7_ringNumber_47 rfl (lv_at hl 3 rfl) ?_
      refine r_cV_l (As := [.int p1]) (rest := []) C0 hw (c_X4_addend  hV) (cwV 1 C0.ts gX7_ringNumber_X4_addend rfl rfl rfl hd_X4_addend ⟨Nat.le_of_ble_eq_true rfl, Nat.le_of_ble_eq_true rfl⟩) (lg_29 ad cI cJ X S8) rfl rfl hl.1 rfl (Nat.le_of_ble_eq_true rfl) ⟨Nat.zero_le _, Nat.zero_le _⟩ dX7_ringNumber_48 (fun r10 S11 H locs hV hw => ?_)
      refine lv_lload_n C0.x C0.b dX7_ringNumber_51 rfl (lv_at hl 0 rfl) ?_
      refine lv_ldiv C0.x C0.b dX7_ringNumber_52 hV.1 ?_
      have hV := hV.2
      refine lv_topl (fun y12 ey12 => ?_)
      have hV := hV y12 ey12
      refine lv_lstore (lv' := [(5, .long y12), (3, .long y5), (0, .ref (ad 0)), (1, .ref (ad po0)), (2, .int p1)]) C0.x C0.b dX7_ringNumber_53 hl (by decide) rfl (fun ls hl => ?_)
      refine lv_lload C0.x C0.b dX7_ringNumber_55 (lv_at hl 0 rfl) ?_
      refine lv_lstore (lv' := [(7, .long y12), (5, .long y12), (3, .long y5), (0, .ref (ad 0)), (1, .ref (ad po0)), (2, .int p1)]) C0.x C0.b dX7_ringNumber_57 hl (by decide) rfl (fun ls hl => ?_)
      refine lv_iconst (v := 0) C0.x C0.b dX7_ringNumber_59 (by decide) ?_
      refine lv_istore (lv' := [(9, .int (0 : Int32)), (7, .long y12), (5, .long y12), (3, .long y5), (0, .ref (ad 0)), (1, .ref (ad po0)), (2, .int p1)]) C0.x C0.b dX7_ringNumber_60 hl (by decide) rfl (fun ls hl => ?_)
      obtain ⟨n62, hV⟩ := hV
      exact lp_X7_ringNumber_62 hO0 _ _ post C0  n62 _ _ _ hV _ _ hw _ (lv_sub hl [4, 5, 6, 2, 1, 0] rfl)
    · have hV := hV.2 (fun h => c9 ((lc_eq _ _).mpr h))
      refine lv_ldc2 (v := 3000000000000000) C0.x C0.b C0.ow (C0.ts _ cw_X7_ringNumber_190) dX7_ringNumber_39 ?_
      exact r_lret C0 rfl hw hV dX7_ringNumber_42
/-! StepBench.ring()I -/
abbrev rm_X7_ring : Room := { frames := 6, cells := 0, slots := 0, locals := 144 }
set_option maxRecDepth 20000 in
theorem fw_X7_ring_55 : Cond.fieldLink RX7 55 "StepBench" "theWord" "LStepBench$Numbers;" ∈ wsX7_ring := by decide +kernel
set_option maxRecDepth 20000 in
theorem iw_X7_ring_X7 : ∀ w ∈ wsX70, w ∈ wsX7_ring := by decide +kernel
set_option maxRecDepth 20000 in
theorem fw_X7_ring_64 : Cond.fieldLink RX7 64 "StepBench" "shapes" "LStepBench$Shapes;" ∈ wsX7_ring := by decide +kernel
set_option maxRecDepth 20000 in
theorem fw_X7_ring_45 : Cond.fieldLink RX7 45 "StepBench" "numbers" "LStepBench$Numbers;" ∈ wsX7_ring := by decide +kernel
set_option maxRecDepth 20000 in
theorem hd_X7_ring : yX7_ring.cls = RX7 ∧ yX7_ring.cls ≠ "java/lang/invoke/MethodHandle" ∧ yX7_ring.cls ≠ "java/lang/invoke/VarHandle" ∧ (parseMethodDescriptor yX7_ring.desc).map (fun d => d.parameters.length) = some 0 := by decide +kernel
def V_X7_ring   (S : SS) (post : Int32 → SS → Prop) : Prop :=
  (V_X7_shapeTold  S (fun (r1 : Int32) (S2 : SS) => ((r1 = (1 : Int32) → (V_X2_size 10 15 40 S2 (fun (r4 : Int32) (S5 : SS) => (V_X4_factor r4 S5 (fun (r6 : Int64) (S7 : SS) => (V_X4_divisor r4 S7 (fun (r8 : Int64) (S9 : SS) => ((r6 = r8 → (V_X4_addend r4 S9 (fun (r11 : Int64) (S12 : SS) => ((r11 = (0 : Int64) → (post (2 : Int32) S12)) ∧ (¬ r11 = (0 : Int64) → (post (0 : Int32) S12)))))) ∧ (¬ r6 = r8 → (V_X7_ringNumber 10 15 40 r4 S9 (fun (r14 : Int64) (S15 : SS) => (V_X7_isNumber r14 S15 (fun (r16 : Int32) (S17 : SS) => ((r16 = 0 → (post (0 : Int32) S17)) ∧ (¬ r16 = 0 → (V_X2_empty 7 12 1000 S17 (fun (S20 : SS) => (V_X2_add 7 12 1000 r14 S20 (fun (r21 : Int32) (S22 : SS) => (post (1 : Int32) S22)))))))))))))))))))) ∧ (¬ r1 = (1 : Int32) → (post r1 S2)))))
set_option maxHeartbeats 4000000 in
set_option maxRecDepth 100000 in
theorem c_X7_ring  {S : SS}  {post : Int32 → SS → Prop} (hV : V_X7_ring   S post) : MI l yX7_ring wsX7_ring rm_X7_ring [.ref (ad 0)] D n0 ad cI cJ X S post := by
  refine Met.ofW (cc := cX7_ring) (maxL := 5) (ret := (some .int)) (by decide) rfl ?_
  intro p e s m args below meth c s₁ B hml hv
  obtain ⟨rfl, hv⟩ := hv
  have C0 := Bd.mk B hml (atoms_spec (ws := wsX7_ring) B.pre) (findClass_of_methodNamed B.named) hv.1
  have hw : Wh D n0 ad cI cJ X S s s.heap [] := ⟨hv.2.1, hv.2.2, va_S.rf⟩
  refine r_entry (Nat.le_of_ble_eq_true rfl) (fun ls hl => ?_)
  have hl : lv_has ls 5 [(0, .ref (ad 0))] := hl
  unfold V_X7_ring at hV
  refine lv_aload_n C0.x C0.b dX7_ring_0 rfl (lv_at hl 0 rfl) ?_
  refine r_cV_i (As := []) (rest := []) C0 hw (c_X7_shapeTold  hV) (cwV 0 C0.ts gX7_ring_X7_shapeTold rfl rfl rfl hd_X7_shapeTold ⟨Nat.le_of_ble_eq_true rfl, Nat.le_of_ble_eq_true rfl⟩) (lg_0 ad cI cJ X S) rfl rfl hl.1 rfl (Nat.le_of_ble_eq_true rfl) ⟨Nat.zero_le _, Nat.zero_le _⟩ dX7_ring_1 (fun r1 S2 H locs hV hw => ?_)
  refine lv_istore_n (lv' := [(1, .int r1), (0, .ref (ad 0))]) C0.x C0.b dX7_ring_4 rfl hl (by decide) rfl (fun ls hl => ?_)
  refine lv_iload_n C0.x C0.b dX7_ring_5 rfl (lv_at hl 0 rfl) ?_
  refine lv_iconst (v := 1) C0.x C0.b dX7_ring_6 (by decide) ?_
  refine lv_icmp_eq (tgt := 12) C0.x C0.b dX7_ring_7 (by decide) (fun c3 => ?_) (fun c3 => ?_)
  · have hV := hV.1 c3
    refine lv_aload_n C0.x C0.b dX7_ring_12 rfl (lv_at hl 1 rfl) ?_
    refine r_get C0 hw (C := RX7) (T := TX7) (N := 15) (v := .ref (ad 25)) iw_X7_ring_X7 (lg_0 ad cI cJ X S2) rfl 9 (by decide) (C0.ts _ fw_X7_ring_55) rfl dX7_ring_13 ?_
    refine r_cV_i (As := []) (rest := []) C0 hw (c_X2_size (ln_25 ad cI cJ X) hV) (cwV 0 C0.ts gX7_ring_X2_size rfl rfl rfl hd_X2_size ⟨Nat.le_of_ble_eq_true rfl, Nat.le_of_ble_eq_true rfl⟩) (lg_25 ad cI cJ X S2) rfl rfl hl.1 rfl (Nat.le_of_ble_eq_true rfl) ⟨Nat.zero_le _, Nat.zero_le _⟩ dX7_ring_16 (fun r4 S5 H locs hV hw => ?_)
    refine lv_istore_n (lv' := [(2, .int r4), (1, .int r1), (0, .ref (ad 0))]) C0.x C0.b dX7_ring_19 rfl hl (by decide) rfl (fun ls hl => ?_)
    refine lv_aload_n C0.x C0.b dX7_ring_20 rfl (lv_at hl 2 rfl) ?_
    refine r_get C0 hw (C := RX7) (T := TX7) (N := 15) (v := .ref (ad 29)) iw_X7_ring_X7 (lg_0 ad cI cJ X S5) rfl 11 (by decide) (C0.ts _ fw_X7_ring_64) rfl dX7_ring_21 ?_
    refine lv_iload_n C0.x C0.b dX7_ring_24 rfl (lv_at hl 0 rfl) ?_
    refine r_cV_l (As := [.int r4]) (rest := []) C0 hw (c_X4_factor  hV) (cwV 1 C0.ts gX7_ring_X4_factor rfl rfl rfl hd_X4_factor ⟨Nat.le_of_ble_eq_true rfl, Nat.le_of_ble_eq_true rfl⟩) (lg_29 ad cI cJ X S5) rfl rfl hl.1 rfl (Nat.le_of_ble_eq_true rfl) ⟨Nat.zero_le _, Nat.zero_le _⟩ dX7_ring_25 (fun r6 S7 H locs hV hw => ?_)
    refine lv_aload_n C0.x C0.b dX7_ring_28 rfl (lv_at hl 2 rfl) ?_
    refine r_get C0 hw (C := RX7) (T := TX7) (N := 15) (v := .ref (ad 29)) iw_X7_ring_X7 (lg_0 ad cI cJ X S7) rfl 11 (by decide) (C0.ts _ fw_X7_ring_64) rfl dX7_ring_29 ?_
    refine lv_iload_n C0.x C0.b dX7_ring_32 rfl (lv_at hl 0 rfl) ?_
    refine r_cV_l (As := [.int r4]) (rest := [.long r6]) C0 hw (c_X4_divisor  hV) (cwV 1 C0.ts gX7_ring_X4_divisor rfl rfl rfl hd_X4_divisor ⟨Nat.le_of_ble_eq_true rfl, Nat.le_of_ble_eq_true rfl⟩) (lg_29 ad cI cJ X S7) rfl rfl hl.1 rfl (Nat.le_of_ble_eq_true rfl) ⟨Nat.zero_le _, Nat.zero_le _⟩ dX7_ring_33 (fun r8 S9 H locs hV hw => ?_)
    refine r_lcmp C0 dX7_ring_36 ?_
    refine lv_if_ne (tgt := 59) C0.x C0.b dX7_ring_37 (by decide) (fun c10 => ?_) (fun c10 => ?_)
    · have hV := hV.2 (fun h => c10 ((lc_eq _ _).mpr h))
      refine lv_aload_n C0.x C0.b dX7_ring_59 rfl (lv_at hl 2 rfl) ?_
      refine lv_aload_n C0.x C0.b dX7_ring_60 rfl (lv_at hl 2 rfl) ?_
      refine r_get C0 hw (C := RX7) (T := TX7) (N := 15) (v := .ref (ad 25)) iw_X7_ring_X7 (lg_0 ad cI cJ X S9) rfl 9 (by decide) (C0.ts _ fw_X7_ring_55) rfl dX7_ring_61 ?_
      refine lv_iload_n C0.x C0.b dX7_ring_64 rfl (lv_at hl 0 rfl) ?_
      refine r_cV_l (As := [.ref (ad 25), .int r4]) (rest := []) C0 hw (c_X7_ringNumber (ln_25 ad cI cJ X) hV) (cwV 2 C0.ts gX7_ring_X7_ringNumber rfl rfl rfl hd_X7_ringNumber ⟨Nat.le_of_ble_eq_true rfl, Nat.le_of_ble_eq_true rfl⟩) (lg_0 ad cI cJ X S9) rfl rfl hl.1 rfl (Nat.le_of_ble_eq_true rfl) ⟨Nat.zero_le _, Nat.zero_le _⟩ dX7_ring_65 (fun r14 S15 H locs hV hw => ?_)
      refine lv_lstore_n (lv' := [(3, .long r14), (2, .int r4), (1, .int r1), (0, .ref (ad 0))]) C0.x C0.b dX7_ring_68 rfl hl (by decide) rfl (fun ls hl => ?_)
      refine lv_lload_n C0.x C0.b dX7_ring_69 rfl (lv_at hl 0 rfl) ?_
      refine r_cS_i (As := [.long r14]) (rest := []) C0 hw (c_X7_isNumber  hV) (va_cwS 1 C0.ts gX7_ring_X7_isNumber rfl rfl rfl hd_X7_isNumber ⟨Nat.le_of_ble_eq_true rfl, Nat.le_of_ble_eq_true rfl⟩) rfl hl.1 rfl (Nat.le_of_ble_eq_true rfl) ⟨Nat.zero_le _, Nat.zero_le _⟩ dX7_ring_70 (fun r16 S17 H locs hV hw => ?_)
      refine lv_if_ne (tgt := 78) C0.x C0.b dX7_ring_73 (by decide) (fun c18 => ?_) (fun c18 => ?_)
      · have hV := hV.2 c18
        refine lv_aload_n C0.x C0.b dX7_ring_78 rfl (lv_at hl 3 rfl) ?_
        refine r_get C0 hw (C := RX7) (T := TX7) (N := 15) (v := .ref (ad 19)) iw_X7_ring_X7 (lg_0 ad cI cJ X S17) rfl 6 (by decide) (C0.ts _ fw_X7_ring_45) rfl dX7_ring_79 ?_
        refine r_cV_v (As := []) (rest := []) C0 hw (c_X2_empty (ln_19 ad cI cJ X) hV) (cwV 0 C0.ts gX7_ring_X2_empty rfl rfl rfl hd_X2_empty ⟨Nat.le_of_ble_eq_true rfl, Nat.le_of_ble_eq_true rfl⟩) (lg_19 ad cI cJ X S17) rfl rfl hl.1 rfl (Nat.le_of_ble_eq_true rfl) ⟨Nat.zero_le _, Nat.zero_le _⟩ dX7_ring_82 (fun S20 H locs hV hw => ?_)
        refine lv_aload_n C0.x C0.b dX7_ring_85 rfl (lv_at hl 3 rfl) ?_
        refine r_get C0 hw (C := RX7) (T := TX7) (N := 15) (v := .ref (ad 19)) iw_X7_ring_X7 (lg_0 ad cI cJ X S20) rfl 6 (by decide) (C0.ts _ fw_X7_ring_45) rfl dX7_ring_86 ?_
        refine lv_lload_n C0.x C0.b dX7_ring_89 rfl (lv_at hl 0 rfl) ?_
        refine r_cV_i (As := [.long r14]) (rest := []) C0 hw (c_X2_add (ln_19 ad cI cJ X) hV) (cwV 1 C0.ts gX7_ring_X2_add rfl rfl rfl hd_X2_add ⟨Nat.le_of_ble_eq_true rfl, Nat.le_of_ble_eq_true rfl⟩) (lg_19 ad cI cJ X S20) rfl rfl hl.1 rfl (Nat.le_of_ble_eq_true rfl) ⟨Nat.zero_le _, Nat.zero_le _⟩ dX7_ring_90 (fun r21 S22 H locs hV hw => ?_)
        refine lv_pop C0.x C0.b dX7_ring_93 rfl ?_
        refine lv_iconst (v := 1) C0.x C0.b dX7_ring_94 (by decide) ?_
        exact r_iret C0 rfl hw hV dX7_ring_95
      · have hV := hV.1 c18
        refine lv_iconst (v := 0) C0.x C0.b dX7_ring_76 (by decide) ?_
        exact r_iret C0 rfl hw hV dX7_ring_77
    · have hV := hV.1 ((lc_eq _ _).mp c10)
      refine lv_aload_n C0.x C0.b dX7_ring_40 rfl (lv_at hl 2 rfl) ?_
      refine r_get C0 hw (C := RX7) (T := TX7) (N := 15) (v := .ref (ad 29)) iw_X7_ring_X7 (lg_0 ad cI cJ X S9) rfl 11 (by decide) (C0.ts _ fw_X7_ring_64) rfl dX7_ring_41 ?_
      refine lv_iload_n C0.x C0.b dX7_ring_44 rfl (lv_at hl 0 rfl) ?_
      refine r_cV_l (As := [.int r4]) (rest := []) C0 hw (c_X4_addend  hV) (cwV 1 C0.ts gX7_ring_X4_addend rfl rfl rfl hd_X4_addend ⟨Nat.le_of_ble_eq_true rfl, Nat.le_of_ble_eq_true rfl⟩) (lg_29 ad cI cJ X S9) rfl rfl hl.1 rfl (Nat.le_of_ble_eq_true rfl) ⟨Nat.zero_le _, Nat.zero_le _⟩ dX7_ring_45 (fun r11 S12 H locs hV hw => ?_)
      refine lv_lconst (v := 0) C0.x C0.b dX7_ring_48 (by decide) ?_
      refine r_lcmp C0 dX7_ring_49 ?_
      refine lv_if_ne (tgt := 57) C0.x C0.b dX7_ring_50 (by decide) (fun c13 => ?_) (fun c13 => ?_)
      · have hV := hV.2 (fun h => c13 ((lc_eq _ _).mpr h))
        refine lv_iconst (v := 0) C0.x C0.b dX7_ring_57 (by decide) ?_
        exact r_iret C0 rfl hw hV dX7_ring_58
      · have hV := hV.1 ((lc_eq _ _).mp c13)
        refine lv_iconst (v := 2) C0.x C0.b dX7_ring_53 (by decide) ?_
        refine lv_goto (tgt := 58) C0.x C0.b dX7_ring_54 (by decide) ?_
        exact r_iret C0 rfl hw hV dX7_ring_58
  · have hV := hV.2 c3
    refine lv_iload_n C0.x C0.b dX7_ring_10 rfl (lv_at hl 0 rfl) ?_
    exact r_iret C0 rfl hw hV dX7_ring_11
/-! StepBench.firstWord(I)I -/
abbrev rm_X7_firstWord : Room := { frames := 2, cells := 0, slots := 0, locals := 44 }
set_option maxRecDepth 20000 in
theorem fw_X7_firstWord_58 : Cond.fieldLink RX7 58 "StepBench" "tried" "LStepBench$Numbers;" ∈ wsX7_firstWord := by decide +kernel
set_option maxRecDepth 20000 in
theorem iw_X7_firstWord_X7 : ∀ w ∈ wsX70, w ∈ wsX7_firstWord := by decide +kernel
set_option maxRecDepth 20000 in
theorem hd_X7_firstWord : yX7_firstWord.cls = RX7 ∧ yX7_firstWord.cls ≠ "java/lang/invoke/MethodHandle" ∧ yX7_firstWord.cls ≠ "java/lang/invoke/VarHandle" ∧ (parseMethodDescriptor yX7_firstWord.desc).map (fun d => d.parameters.length) = some 1 := by decide +kernel
def V_X7_firstWord  (p0 : Int32) (S : SS) (post : Int32 → SS → Prop) : Prop :=
  (V_X2_zeros 11 16 12 p0 S (fun (S2 : SS) => (post (0 : Int32) S2)))
set_option maxHeartbeats 4000000 in
set_option maxRecDepth 100000 in
theorem c_X7_firstWord  {S : SS} {p0 : Int32} {post : Int32 → SS → Prop} (hV : V_X7_firstWord  p0 S post) : MI l yX7_firstWord wsX7_firstWord rm_X7_firstWord [.ref (ad 0), .int p0] D n0 ad cI cJ X S post := by
  refine Met.ofW (cc := cX7_firstWord) (maxL := 2) (ret := (some .int)) (by decide) rfl ?_
  intro p e s m args below meth c s₁ B hml hv
  obtain ⟨rfl, hv⟩ := hv
  have C0 := Bd.mk B hml (atoms_spec (ws := wsX7_firstWord) B.pre) (findClass_of_methodNamed B.named) hv.1
  have hw : Wh D n0 ad cI cJ X S s s.heap [] := ⟨hv.2.1, hv.2.2, va_S.rf⟩
  refine r_entry (Nat.le_of_ble_eq_true rfl) (fun ls hl => ?_)
  have hl : lv_has ls 2 [(0, .ref (ad 0)), (1, .int p0)] := hl
  unfold V_X7_firstWord at hV
  refine lv_aload_n C0.x C0.b dX7_firstWord_0 rfl (lv_at hl 0 rfl) ?_
  refine r_get C0 hw (C := RX7) (T := TX7) (N := 15) (v := .ref (ad 27)) iw_X7_firstWord_X7 (lg_0 ad cI cJ X S) rfl 10 (by decide) (C0.ts _ fw_X7_firstWord_58) rfl dX7_firstWord_1 ?_
  refine lv_iload_n C0.x C0.b dX7_firstWord_4 rfl (lv_at hl 1 rfl) ?_
  refine r_cV_v (As := [.int p0]) (rest := []) C0 hw (c_X2_zeros (ln_27 ad cI cJ X) hV) (cwV 1 C0.ts gX7_firstWord_X2_zeros rfl rfl rfl hd_X2_zeros ⟨Nat.le_of_ble_eq_true rfl, Nat.le_of_ble_eq_true rfl⟩) (lg_27 ad cI cJ X S) rfl rfl hl.1 rfl (Nat.le_of_ble_eq_true rfl) ⟨Nat.zero_le _, Nat.zero_le _⟩ dX7_firstWord_5 (fun S2 H locs hV hw => ?_)
  refine lv_iconst (v := 0) C0.x C0.b dX7_firstWord_8 (by decide) ?_
  exact r_iret C0 rfl hw hV dX7_firstWord_9
/-! StepBench.isLeastOfRing(JI)Z -/
abbrev rm_X7_isLeastOfRing : Room := { frames := 3, cells := 0, slots := 0, locals := 72 }
set_option maxRecDepth 20000 in
theorem fw_X7_isLeastOfRing_16 : Cond.fieldLink RX7 16 "StepBench" "rule" "LStepBench$Shares;" ∈ wsX7_isLeastOfRing := by decide +kernel
set_option maxRecDepth 20000 in
theorem iw_X7_isLeastOfRing_X7 : ∀ w ∈ wsX70, w ∈ wsX7_isLeastOfRing := by decide +kernel
set_option maxRecDepth 20000 in
theorem hd_X7_isLeastOfRing : yX7_isLeastOfRing.cls = RX7 ∧ yX7_isLeastOfRing.cls ≠ "java/lang/invoke/MethodHandle" ∧ yX7_isLeastOfRing.cls ≠ "java/lang/invoke/VarHandle" ∧ (parseMethodDescriptor yX7_isLeastOfRing.desc).map (fun d => d.parameters.length) = some 2 := by decide +kernel
def V_X7_isLeastOfRing_6  (v1 : Int64) (v3 : Int32)  (post : Int32 → SS → Prop) : Nat → Int64 → Int32 → SS → Prop
  | 0, _, _, _ => False
  | n + 1, v4, v6, S =>
    ((v3 ≤ v6 → (post (1 : Int32) S)) ∧ (¬ v3 ≤ v6 → (V_X5_after 1 0 1 2 v4 S (fun (r2 : Int64) (S3 : SS) => ((v1 < r2 → (∀ x5 : Int32, x5 = v6 + 1 → (V_X7_isLeastOfRing_6  v1 v3  post n r2 x5 S3))) ∧ (¬ v1 < r2 → (post (0 : Int32) S3)))))))
set_option maxHeartbeats 4000000 in
set_option maxRecDepth 100000 in
theorem lp_X7_isLeastOfRing_6  (v1 : Int64) (v3 : Int32)  (post : Int32 → SS → Prop) (C0 : Bd p s m meth c args cX7_isLeastOfRing 7 (some .boolean) wsX7_isLeastOfRing RX7 D n0 cI cJ) : ∀ (n : Nat) (v4 : Int64) (v6 : Int32) (S : SS), V_X7_isLeastOfRing_6  v1 v3  post n v4 v6 S → ∀ (H : Heap) (locs : List Loc), Wh D n0 ad cI cJ X S s H locs → ∀ ls : Array Slot, lv_has ls 7 [(0, .ref (ad 0)), (1, .long v1), (3, .int v3), (4, .long v4), (6, .int v6)] → W p l e rm_X7_isLeastOfRing s m args below meth c H locs 0 0 (MQ below (va_Qi post (fun S' t => Wd D n0 ad cI cJ X S' t) (fr n0)) args s 0 0 (fr n0)) (F0 m 6 ls []) := by
  intro n
  induction n with
  | zero => intro v4 v6 S hV; exact False.elim hV
  | succ n ih =>
    intro v4 v6 S hV H locs hw ls hl
    rw [V_X7_isLeastOfRing_6] at hV
    refine lv_iload C0.x C0.b dX7_isLeastOfRing_6 (lv_at hl 4 rfl) ?_
    refine lv_iload_n C0.x C0.b dX7_isLeastOfRing_8 rfl (lv_at hl 2 rfl) ?_
    refine lv_icmp_ge (tgt := 38) C0.x C0.b dX7_isLeastOfRing_9 (by decide) (fun c1 => ?_) (fun c1 => ?_)
    · have hV := hV.1 c1
      refine lv_iconst (v := 1) C0.x C0.b dX7_isLeastOfRing_38 (by decide) ?_
      exact r_zret C0 rfl bz_1 hw hV dX7_isLeastOfRing_39
    · have hV := hV.2 c1
      refine lv_aload_n C0.x C0.b dX7_isLeastOfRing_12 rfl (lv_at hl 0 rfl) ?_
      refine r_get C0 hw (C := RX7) (T := TX7) (N := 15) (v := .ref (ad 1)) iw_X7_isLeastOfRing_X7 (lg_0 ad cI cJ X S) rfl 1 (by decide) (C0.ts _ fw_X7_isLeastOfRing_16) rfl dX7_isLeastOfRing_13 ?_
      refine lv_lload C0.x C0.b dX7_isLeastOfRing_16 (lv_at hl 3 rfl) ?_
      refine r_cV_l (As := [.long v4]) (rest := []) C0 hw (c_X5_after (ln_1 ad cI cJ X) hV) (cwV 1 C0.ts gX7_isLeastOfRing_X5_after rfl rfl rfl hd_X5_after ⟨Nat.le_of_ble_eq_true rfl, Nat.le_of_ble_eq_true rfl⟩) (lg_1 ad cI cJ X S) rfl rfl hl.1 rfl (Nat.le_of_ble_eq_true rfl) ⟨Nat.zero_le _, Nat.zero_le _⟩ dX7_isLeastOfRing_18 (fun r2 S3 H locs hV hw => ?_)
      refine lv_lstore (lv' := [(4, .long r2), (0, .ref (ad 0)), (1, .long v1), (3, .int v3), (6, .int v6)]) C0.x C0.b dX7_isLeastOfRing_21 hl (by decide) rfl (fun ls hl => ?_)
      refine lv_lload C0.x C0.b dX7_isLeastOfRing_23 (lv_at hl 0 rfl) ?_
      refine lv_lload_n C0.x C0.b dX7_isLeastOfRing_25 rfl (lv_at hl 2 rfl) ?_
      refine r_lcmp C0 dX7_isLeastOfRing_26 ?_
      refine lv_if_gt (tgt := 32) C0.x C0.b dX7_isLeastOfRing_27 (by decide) (fun c4 => ?_) (fun c4 => ?_)
      · have hV := hV.1 ((lc_gt _ _).mp c4)
        obtain ⟨x5, ex5⟩ : ∃ z : Int32, z = v6 + 1 := ⟨_, rfl⟩
        have hV := hV x5 ex5
        refine lv_iinc (v := x5) (lv' := [(6, .int x5), (4, .long r2), (0, .ref (ad 0)), (1, .long v1), (3, .int v3)]) C0.x C0.b dX7_isLeastOfRing_32 hl (k := 4) rfl (by rw [ex5]; rfl) (by decide) rfl (fun ls hl => ?_)
        refine lv_goto (tgt := 6) C0.x C0.b dX7_isLeastOfRing_35 (by decide) ?_
        exact ih _ _ _ hV _ _ hw _ (lv_sub hl [2, 3, 4, 1, 0] rfl)
      · have hV := hV.2 (fun h => c4 ((lc_gt _ _).mpr h))
        refine lv_iconst (v := 0) C0.x C0.b dX7_isLeastOfRing_30 (by decide) ?_
        exact r_zret C0 rfl bz_0 hw hV dX7_isLeastOfRing_31
def V_X7_isLeastOfRing  (p0 : Int64) (p1 : Int32) (S : SS) (post : Int32 → SS → Prop) : Prop :=
  (∃ n6 : Nat, V_X7_isLeastOfRing_6  p0 p1  post n6 p0 (1 : Int32) S)
set_option maxHeartbeats 4000000 in
set_option maxRecDepth 100000 in
theorem c_X7_isLeastOfRing  {S : SS} {p0 : Int64} {p1 : Int32} {post : Int32 → SS → Prop} (hV : V_X7_isLeastOfRing  p0 p1 S post) : MI l yX7_isLeastOfRing wsX7_isLeastOfRing rm_X7_isLeastOfRing [.ref (ad 0), .long p0, .int p1] D n0 ad cI cJ X S post := by
  refine Met.ofW (cc := cX7_isLeastOfRing) (maxL := 7) (ret := (some .boolean)) (by decide) rfl ?_
  intro p e s m args below meth c s₁ B hml hv
  obtain ⟨rfl, hv⟩ := hv
  have C0 := Bd.mk B hml (atoms_spec (ws := wsX7_isLeastOfRing) B.pre) (findClass_of_methodNamed B.named) hv.1
  have hw : Wh D n0 ad cI cJ X S s s.heap [] := ⟨hv.2.1, hv.2.2, va_S.rf⟩
  refine r_entry (Nat.le_of_ble_eq_true rfl) (fun ls hl => ?_)
  have hl : lv_has ls 7 [(0, .ref (ad 0)), (1, .long p0), (3, .int p1)] := hl
  unfold V_X7_isLeastOfRing at hV
  refine lv_lload_n C0.x C0.b dX7_isLeastOfRing_0 rfl (lv_at hl 1 rfl) ?_
  refine lv_lstore (lv' := [(4, .long p0), (0, .ref (ad 0)), (1, .long p0), (3, .int p1)]) C0.x C0.b dX7_isLeastOfRing_1 hl (by decide) rfl (fun ls hl => ?_)
  refine lv_iconst (v := 1) C0.x C0.b dX7_isLeastOfRing_3 (by decide) ?_
  refine lv_istore (lv' := [(6, .int (1 : Int32)), (4, .long p0), (0, .ref (ad 0)), (1, .long p0), (3, .int p1)]) C0.x C0.b dX7_isLeastOfRing_4 hl (by decide) rfl (fun ls hl => ?_)
  obtain ⟨n6, hV⟩ := hV
  exact lp_X7_isLeastOfRing_6  _ _ post C0  n6 _ _ _ hV _ _ hw _ (lv_sub hl [2, 3, 4, 1, 0] rfl)
end
