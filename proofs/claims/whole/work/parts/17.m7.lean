section
variable {p : Program} {l : Launch} {e : Env} {s : State} {m : MethodId} {args : Array Value} {below : List Frame} {meth : Method} {c : Code}
variable {D : va_G} {n0 : Nat} {ad : Nat → Nat} {cI cJ : ClassId} {X : va_W}
/-! StepBenchModel.ring()I -/
abbrev rm_X8_ring : Room := { frames := 5, cells := 0, slots := 0, locals := 120 }
set_option maxRecDepth 20000 in
theorem fw_X8_ring_61 : Cond.fieldLink RX8 61 "StepBenchModel" "thrown" "I" ∈ wsX8_ring := by decide +kernel
set_option maxRecDepth 20000 in
theorem iw_X8_ring_X8 : ∀ w ∈ wsX80, w ∈ wsX8_ring := by decide +kernel
set_option maxRecDepth 20000 in
theorem fw_X8_ring_35 : Cond.fieldLink RX8 35 "StepBenchModel" "word" "[I" ∈ wsX8_ring := by decide +kernel
set_option maxRecDepth 20000 in
theorem fw_X8_ring_127 : Cond.fieldLink RX8 127 "StepBenchModel" "words" "I" ∈ wsX8_ring := by decide +kernel
set_option maxRecDepth 20000 in
theorem fw_X8_ring_32 : Cond.fieldLink RX8 32 "StepBenchModel" "found" "[J" ∈ wsX8_ring := by decide +kernel
set_option maxRecDepth 20000 in
theorem fw_X8_ring_187 : Cond.fieldLink RX8 187 "StepBenchModel" "ringX" "J" ∈ wsX8_ring := by decide +kernel
set_option maxRecDepth 20000 in
theorem hd_X8_ring : yX8_ring.cls = RX8 ∧ yX8_ring.cls ≠ "java/lang/invoke/MethodHandle" ∧ yX8_ring.cls ≠ "java/lang/invoke/VarHandle" ∧ (parseMethodDescriptor yX8_ring.desc).map (fun d => d.parameters.length) = some 0 := by decide +kernel
def V_X8_ring   (S : SS) (post : Int32 → SS → Prop) : Prop :=
  (∀ S1 : SS, S1 = (sI S 20 (0 : Int32)) → (V_X8_isWord  S1 (fun (r2 : Int32) (S3 : SS) => ((r2 = 0 → (post (-1 : Int32) S3)) ∧ (¬ r2 = 0 → (V_X8_shaped 0 40 (gI S3 29) S3 (fun (r5 : Int32) (S6 : SS) => ((r5 = 0 → (post (-2 : Int32) S6)) ∧ (¬ r5 = 0 → (V_X8_ringOf 0 40 (gI S6 29) S6 (fun (r8 : Int32) (S9 : SS) => ((r8 = (1 : Int32) → (vp_in (0 : Int32) 20000 ∧ ∀ S11 : SS, S11 = (sA S9 36 (vp_updL (gA S9 36) (0 : Int32).toNatClampNeg (gJ S9 4))) → (V_X8_tells (1 : Int32) S11 (fun (S13 : SS) => (post r8 S13))))) ∧ (¬ r8 = (1 : Int32) → (post r8 S9))))))))))))))
set_option maxHeartbeats 4000000 in
set_option maxRecDepth 100000 in
theorem c_X8_ring  {S : SS}  {post : Int32 → SS → Prop} (hV : V_X8_ring   S post) : MI l yX8_ring wsX8_ring rm_X8_ring [.ref (ad 48)] D n0 ad cI cJ X S post := by
  refine Met.ofW (cc := cX8_ring) (maxL := 2) (ret := (some .int)) (by decide) rfl ?_
  intro p e s m args below meth c s₁ B hml hv
  obtain ⟨rfl, hv⟩ := hv
  have C0 := Bd.mk B hml (atoms_spec (ws := wsX8_ring) B.pre) (findClass_of_methodNamed B.named) hv.1
  have hw : Wh D n0 ad cI cJ X S s s.heap [] := ⟨hv.2.1, hv.2.2, va_S.rf⟩
  refine r_entry (Nat.le_of_ble_eq_true rfl) (fun ls hl => ?_)
  have hl : lv_has ls 2 [(0, .ref (ad 48))] := hl
  unfold V_X8_ring at hV
  refine lv_aload_n C0.x C0.b dX8_ring_0 rfl (lv_at hl 0 rfl) ?_
  refine lv_iconst (v := 0) C0.x C0.b dX8_ring_1 (by decide) ?_
  refine r_put C0 hw (C := RX8) (T := TX8) (N := 33) (ty := .int) iw_X8_ring_X8 tyX8 tyX8_ok nmX8 (lg_48 ad cI cJ X S) rfl 0 (by decide) (C0.ts _ fw_X8_ring_61) rfl (by decide +kernel) rfl rfl (Nat.le_of_ble_eq_true rfl) dX8_ring_2 (S' := (sI S 20 (0 : Int32))) (ls_48_0 ad cI cJ X S (0 : Int32)) (fun S1 H locs eS1 hw => ?_)
  have hV := hV S1 eS1
  refine lv_aload_n C0.x C0.b dX8_ring_5 rfl (lv_at hl 0 rfl) ?_
  refine r_cV_i (As := []) (rest := []) C0 hw (c_X8_isWord  hV) (cwV 0 C0.ts gX8_ring_X8_isWord rfl rfl rfl hd_X8_isWord ⟨Nat.le_of_ble_eq_true rfl, Nat.le_of_ble_eq_true rfl⟩) (lg_48 ad cI cJ X S1) rfl rfl hl.1 rfl (Nat.le_of_ble_eq_true rfl) ⟨Nat.le_of_ble_eq_true rfl, Nat.le_of_ble_eq_true rfl⟩ dX8_ring_6 (fun r2 S3 H locs hV hw => ?_)
  refine lv_if_ne (tgt := 14) C0.x C0.b dX8_ring_9 (by decide) (fun c4 => ?_) (fun c4 => ?_)
  · have hV := hV.2 c4
    refine lv_aload_n C0.x C0.b dX8_ring_14 rfl (lv_at hl 0 rfl) ?_
    refine lv_aload_n C0.x C0.b dX8_ring_15 rfl (lv_at hl 0 rfl) ?_
    refine r_get C0 hw (C := RX8) (T := TX8) (N := 33) (v := .ref (ad 56)) iw_X8_ring_X8 (lg_48 ad cI cJ X S3) rfl 17 (by decide) (C0.ts _ fw_X8_ring_35) rfl dX8_ring_16 ?_
    refine lv_aload_n C0.x C0.b dX8_ring_19 rfl (lv_at hl 0 rfl) ?_
    refine r_get C0 hw (C := RX8) (T := TX8) (N := 33) (v := .int (gI S3 29)) iw_X8_ring_X8 (lg_48 ad cI cJ X S3) rfl 18 (by decide) (C0.ts _ fw_X8_ring_127) rfl dX8_ring_20 ?_
    refine r_cV_i (As := [.ref (ad 56), .int (gI S3 29)]) (rest := []) C0 hw (c_X8_shaped (la_56 ad cI cJ X) hV) (cwV 2 C0.ts gX8_ring_X8_shaped rfl rfl rfl hd_X8_shaped ⟨Nat.le_of_ble_eq_true rfl, Nat.le_of_ble_eq_true rfl⟩) (lg_48 ad cI cJ X S3) rfl rfl hl.1 rfl (Nat.le_of_ble_eq_true rfl) ⟨Nat.le_of_ble_eq_true rfl, Nat.le_of_ble_eq_true rfl⟩ dX8_ring_23 (fun r5 S6 H locs hV hw => ?_)
    refine lv_if_ne (tgt := 32) C0.x C0.b dX8_ring_26 (by decide) (fun c7 => ?_) (fun c7 => ?_)
    · have hV := hV.2 c7
      refine lv_aload_n C0.x C0.b dX8_ring_32 rfl (lv_at hl 0 rfl) ?_
      refine lv_aload_n C0.x C0.b dX8_ring_33 rfl (lv_at hl 0 rfl) ?_
      refine r_get C0 hw (C := RX8) (T := TX8) (N := 33) (v := .ref (ad 56)) iw_X8_ring_X8 (lg_48 ad cI cJ X S6) rfl 17 (by decide) (C0.ts _ fw_X8_ring_35) rfl dX8_ring_34 ?_
      refine lv_aload_n C0.x C0.b dX8_ring_37 rfl (lv_at hl 0 rfl) ?_
      refine r_get C0 hw (C := RX8) (T := TX8) (N := 33) (v := .int (gI S6 29)) iw_X8_ring_X8 (lg_48 ad cI cJ X S6) rfl 18 (by decide) (C0.ts _ fw_X8_ring_127) rfl dX8_ring_38 ?_
      refine r_cV_i (As := [.ref (ad 56), .int (gI S6 29)]) (rest := []) C0 hw (c_X8_ringOf (la_56 ad cI cJ X) hV) (cwV 2 C0.ts gX8_ring_X8_ringOf rfl rfl rfl hd_X8_ringOf ⟨Nat.le_of_ble_eq_true rfl, Nat.le_of_ble_eq_true rfl⟩) (lg_48 ad cI cJ X S6) rfl rfl hl.1 rfl (Nat.le_of_ble_eq_true rfl) ⟨Nat.le_of_ble_eq_true rfl, Nat.le_of_ble_eq_true rfl⟩ dX8_ring_41 (fun r8 S9 H locs hV hw => ?_)
      refine lv_istore_n (lv' := [(1, .int r8), (0, .ref (ad 48))]) C0.x C0.b dX8_ring_44 rfl hl (by decide) rfl (fun ls hl => ?_)
      refine lv_iload_n C0.x C0.b dX8_ring_45 rfl (lv_at hl 0 rfl) ?_
      refine lv_iconst (v := 1) C0.x C0.b dX8_ring_46 (by decide) ?_
      refine lv_icmp_ne (tgt := 65) C0.x C0.b dX8_ring_47 (by decide) (fun c10 => ?_) (fun c10 => ?_)
      · have hV := hV.2 c10
        refine lv_iload_n C0.x C0.b dX8_ring_65 rfl (lv_at hl 0 rfl) ?_
        exact r_iret C0 rfl hw hV dX8_ring_66
      · have hV := hV.1 c10
        refine lv_aload_n C0.x C0.b dX8_ring_50 rfl (lv_at hl 1 rfl) ?_
        refine r_get C0 hw (C := RX8) (T := TX8) (N := 33) (v := .ref (ad 55)) iw_X8_ring_X8 (lg_48 ad cI cJ X S9) rfl 16 (by decide) (C0.ts _ fw_X8_ring_32) rfl dX8_ring_51 ?_
        refine lv_iconst (v := 0) C0.x C0.b dX8_ring_54 (by decide) ?_
        refine lv_aload_n C0.x C0.b dX8_ring_55 rfl (lv_at hl 1 rfl) ?_
        refine r_get C0 hw (C := RX8) (T := TX8) (N := 33) (v := .long (gJ S9 4)) iw_X8_ring_X8 (lg_48 ad cI cJ X S9) rfl 23 (by decide) (C0.ts _ fw_X8_ring_187) rfl dX8_ring_56 ?_
        refine r_last C0 hw (lg_55 ad cI cJ X S9) hV.1 dX8_ring_59 (S' := (sA S9 36 (vp_updL (gA S9 36) (0 : Int32).toNatClampNeg (gJ S9 4)))) (ls_55 ad cI cJ X S9 (vp_updL (gA S9 36) (0 : Int32).toNatClampNeg (gJ S9 4))) (fun S11 H locs eS11 hw => ?_)
        have hV := hV.2 S11 eS11
        refine lv_aload_n C0.x C0.b dX8_ring_60 rfl (lv_at hl 1 rfl) ?_
        refine lv_iconst (v := 1) C0.x C0.b dX8_ring_61 (by decide) ?_
        refine r_cV_v (As := [.int (1 : Int32)]) (rest := []) C0 hw (c_X8_tells  hV) (cwV 1 C0.ts gX8_ring_X8_tells rfl rfl rfl hd_X8_tells ⟨Nat.le_of_ble_eq_true rfl, Nat.le_of_ble_eq_true rfl⟩) (lg_48 ad cI cJ X S11) rfl rfl hl.1 rfl (Nat.le_of_ble_eq_true rfl) ⟨Nat.le_of_ble_eq_true rfl, Nat.le_of_ble_eq_true rfl⟩ dX8_ring_62 (fun S13 H locs hV hw => ?_)
        refine lv_iload_n C0.x C0.b dX8_ring_65 rfl (lv_at hl 0 rfl) ?_
        exact r_iret C0 rfl hw hV dX8_ring_66
    · have hV := hV.1 c7
      refine lv_bipush (v := -2) C0.x C0.b dX8_ring_29 (by decide) ?_
      exact r_iret C0 rfl hw hV dX8_ring_31
  · have hV := hV.1 c4
    refine lv_iconst (v := -1) C0.x C0.b dX8_ring_12 (by decide) ?_
    exact r_iret C0 rfl hw hV dX8_ring_13
/-! StepBenchModel.power(I)I -/
abbrev rm_X8_power : Room := { frames := 1, cells := 0, slots := 0, locals := 24 }
set_option maxRecDepth 20000 in
theorem ml_X8_power_88 : Cond.methodLink RX8 88 Lib.Math.min.name ∈ wsX8_power := by decide +kernel
set_option maxRecDepth 20000 in
theorem ms_X8_power_88 : Cond.static Lib.Math.min.name ∈ wsX8_power := by decide +kernel
set_option maxRecDepth 20000 in
theorem mi_X8_power_88 : Cond.initialized "java/lang/Math" ∈ wsX8_power := by decide +kernel
set_option maxRecDepth 20000 in
theorem mc_X8_power_88 : Cond.code Lib.Math.min.name Lib.Math.min.code 2 (some .int) ∈ wsX8_power := by decide +kernel
set_option maxRecDepth 20000 in
theorem fw_X8_power_105 : Cond.fieldLink RX8 105 "StepBenchModel" "m" "I" ∈ wsX8_power := by decide +kernel
set_option maxRecDepth 20000 in
theorem iw_X8_power_X8 : ∀ w ∈ wsX80, w ∈ wsX8_power := by decide +kernel
set_option maxRecDepth 20000 in
theorem hd_X8_power : yX8_power.cls = RX8 ∧ yX8_power.cls ≠ "java/lang/invoke/MethodHandle" ∧ yX8_power.cls ≠ "java/lang/invoke/VarHandle" ∧ (parseMethodDescriptor yX8_power.desc).map (fun d => d.parameters.length) = some 1 := by decide +kernel
def V_X8_power_4  (v1 : Int32)  (post : Int32 → SS → Prop) : Nat → Int32 → Int32 → SS → Prop
  | 0, _, _, _ => False
  | n + 1, v2, v3, S =>
    ((v1 ≤ v3 → (∀ x2 : Int32, x2 = (mnI v2 (20001 : Int32)) → (post x2 S))) ∧ (¬ v1 ≤ v3 → (((20000 : Int32) < v2 → (∀ x4 : Int32, x4 = (mnI v2 (20001 : Int32)) → (post x4 S))) ∧ (¬ (20000 : Int32) < v2 → (∀ x5 : Int32, x5 = (v2 * (gI S 26)) → (∀ x6 : Int32, x6 = v3 + 1 → (V_X8_power_4  v1  post n x5 x6 S)))))))
set_option maxHeartbeats 4000000 in
set_option maxRecDepth 100000 in
theorem lp_X8_power_4  (v1 : Int32)  (post : Int32 → SS → Prop) (C0 : Bd p s m meth c args cX8_power 4 (some .int) wsX8_power RX8 D n0 cI cJ) : ∀ (n : Nat) (v2 : Int32) (v3 : Int32) (S : SS), V_X8_power_4  v1  post n v2 v3 S → ∀ (H : Heap) (locs : List Loc), Wh D n0 ad cI cJ X S s H locs → ∀ ls : Array Slot, lv_has ls 4 [(0, .ref (ad 48)), (1, .int v1), (2, .int v2), (3, .int v3)] → W p l e rm_X8_power s m args below meth c H locs 0 0 (MQ below (va_Qi post (fun S' t => Wd D n0 ad cI cJ X S' t) (fr n0)) args s 0 0 (fr n0)) (F0 m 4 ls []) := by
  intro n
  induction n with
  | zero => intro v2 v3 S hV; exact False.elim hV
  | succ n ih =>
    intro v2 v3 S hV H locs hw ls hl
    rw [V_X8_power_4] at hV
    refine lv_iload_n C0.x C0.b dX8_power_4 rfl (lv_at hl 3 rfl) ?_
    refine lv_iload_n C0.x C0.b dX8_power_5 rfl (lv_at hl 1 rfl) ?_
    refine lv_icmp_ge (tgt := 29) C0.x C0.b dX8_power_6 (by decide) (fun c1 => ?_) (fun c1 => ?_)
    · have hV := hV.1 c1
      refine lv_iload_n C0.x C0.b dX8_power_29 rfl (lv_at hl 2 rfl) ?_
      refine lv_sipush (v := 20001) C0.x C0.b dX8_power_30 (by decide) ?_
      refine va_mmin C0.x C0.b (C0.ml.trans hl.1.symm) C0.ow (C0.ts _ ml_X8_power_88) (C0.ts _ ms_X8_power_88) (C0.ts _ mi_X8_power_88) (C0.ts _ mc_X8_power_88) (Nat.le_of_ble_eq_true rfl) (Nat.le_of_ble_eq_true rfl) (Nat.le_of_ble_eq_true rfl) (Nat.le_of_ble_eq_true rfl) dX8_power_33 ?_
      refine lv_topi (fun x2 ex2 => ?_)
      have hV := hV x2 ex2
      exact r_iret C0 rfl hw hV dX8_power_36
    · have hV := hV.2 c1
      refine lv_iload_n C0.x C0.b dX8_power_9 rfl (lv_at hl 2 rfl) ?_
      refine lv_sipush (v := 20000) C0.x C0.b dX8_power_10 (by decide) ?_
      refine lv_icmp_gt (tgt := 29) C0.x C0.b dX8_power_13 (by decide) (fun c3 => ?_) (fun c3 => ?_)
      · have hV := hV.1 c3
        refine lv_iload_n C0.x C0.b dX8_power_29 rfl (lv_at hl 2 rfl) ?_
        refine lv_sipush (v := 20001) C0.x C0.b dX8_power_30 (by decide) ?_
        refine va_mmin C0.x C0.b (C0.ml.trans hl.1.symm) C0.ow (C0.ts _ ml_X8_power_88) (C0.ts _ ms_X8_power_88) (C0.ts _ mi_X8_power_88) (C0.ts _ mc_X8_power_88) (Nat.le_of_ble_eq_true rfl) (Nat.le_of_ble_eq_true rfl) (Nat.le_of_ble_eq_true rfl) (Nat.le_of_ble_eq_true rfl) dX8_power_33 ?_
        refine lv_topi (fun x4 ex4 => ?_)
        have hV := hV x4 ex4
        exact r_iret C0 rfl hw hV dX8_power_36
      · have hV := hV.2 c3
        refine lv_iload_n C0.x C0.b dX8_power_16 rfl (lv_at hl 2 rfl) ?_
        refine lv_aload_n C0.x C0.b dX8_power_17 rfl (lv_at hl 0 rfl) ?_
        refine r_get C0 hw (C := RX8) (T := TX8) (N := 33) (v := .int (gI S 26)) iw_X8_power_X8 (lg_48 ad cI cJ X S) rfl 8 (by decide) (C0.ts _ fw_X8_power_105) rfl dX8_power_18 ?_
        refine lv_imul C0.x C0.b dX8_power_21 ?_
        refine lv_topi (fun x5 ex5 => ?_)
        have hV := hV x5 ex5
        refine lv_istore_n (lv' := [(2, .int x5), (0, .ref (ad 48)), (1, .int v1), (3, .int v3)]) C0.x C0.b dX8_power_22 rfl hl (by decide) rfl (fun ls hl => ?_)
        obtain ⟨x6, ex6⟩ : ∃ z : Int32, z = v3 + 1 := ⟨_, rfl⟩
        have hV := hV x6 ex6
        refine lv_iinc (v := x6) (lv' := [(3, .int x6), (2, .int x5), (0, .ref (ad 48)), (1, .int v1)]) C0.x C0.b dX8_power_23 hl (k := 3) rfl (by rw [ex6]; rfl) (by decide) rfl (fun ls hl => ?_)
        refine lv_goto (tgt := 4) C0.x C0.b dX8_power_26 (by decide) ?_
        exact ih _ _ _ hV _ _ hw _ (lv_sub hl [2, 3, 1, 0] rfl)
def V_X8_power  (p0 : Int32) (S : SS) (post : Int32 → SS → Prop) : Prop :=
  (∃ n4 : Nat, V_X8_power_4  p0  post n4 (1 : Int32) (0 : Int32) S)
set_option maxHeartbeats 4000000 in
set_option maxRecDepth 100000 in
theorem c_X8_power  {S : SS} {p0 : Int32} {post : Int32 → SS → Prop} (hV : V_X8_power  p0 S post) : MI l yX8_power wsX8_power rm_X8_power [.ref (ad 48), .int p0] D n0 ad cI cJ X S post := by
  refine Met.ofW (cc := cX8_power) (maxL := 4) (ret := (some .int)) (by decide) rfl ?_
  intro p e s m args below meth c s₁ B hml hv
  obtain ⟨rfl, hv⟩ := hv
  have C0 := Bd.mk B hml (atoms_spec (ws := wsX8_power) B.pre) (findClass_of_methodNamed B.named) hv.1
  have hw : Wh D n0 ad cI cJ X S s s.heap [] := ⟨hv.2.1, hv.2.2, va_S.rf⟩
  refine r_entry (Nat.le_of_ble_eq_true rfl) (fun ls hl => ?_)
  have hl : lv_has ls 4 [(0, .ref (ad 48)), (1, .int p0)] := hl
  unfold V_X8_power at hV
  refine lv_iconst (v := 1) C0.x C0.b dX8_power_0 (by decide) ?_
  refine lv_istore_n (lv' := [(2, .int (1 : Int32)), (0, .ref (ad 48)), (1, .int p0)]) C0.x C0.b dX8_power_1 rfl hl (by decide) rfl (fun ls hl => ?_)
  refine lv_iconst (v := 0) C0.x C0.b dX8_power_2 (by decide) ?_
  refine lv_istore_n (lv' := [(3, .int (0 : Int32)), (2, .int (1 : Int32)), (0, .ref (ad 48)), (1, .int p0)]) C0.x C0.b dX8_power_3 rfl hl (by decide) rfl (fun ls hl => ?_)
  obtain ⟨n4, hV⟩ := hV
  exact lp_X8_power_4  _ post C0  n4 _ _ _ hV _ _ hw _ (lv_sub hl [2, 3, 1, 0] rfl)
/-! StepBenchModel.ascend(I)V -/
abbrev rm_X8_ascend : Room := { frames := 0, cells := 0, slots := 0, locals := 0 }
set_option maxRecDepth 20000 in
theorem fw_X8_ascend_32 : Cond.fieldLink RX8 32 "StepBenchModel" "found" "[J" ∈ wsX8_ascend := by decide +kernel
set_option maxRecDepth 20000 in
theorem iw_X8_ascend_X8 : ∀ w ∈ wsX80, w ∈ wsX8_ascend := by decide +kernel
set_option maxRecDepth 20000 in
theorem hd_X8_ascend : yX8_ascend.cls = RX8 ∧ yX8_ascend.cls ≠ "java/lang/invoke/MethodHandle" ∧ yX8_ascend.cls ≠ "java/lang/invoke/VarHandle" ∧ (parseMethodDescriptor yX8_ascend.desc).map (fun d => d.parameters.length) = some 1 := by decide +kernel
def V_X8_ascend_17  (v1 : Int32) (v2 : Int32) (v3 : Int64) (K2 : Int32 → SS → Prop) (post : SS → Prop) : Nat → Int32 → SS → Prop
  | 0, _, _ => False
  | n + 1, v5, S =>
    ((v5 ≤ 0 → (vp_in v5 20000 ∧ ∀ S3 : SS, S3 = (sA S 36 (vp_updL (gA S 36) v5.toNatClampNeg v3)) → (∀ x4 : Int32, x4 = v2 + 1 → (K2 x4 S3)))) ∧ (¬ v5 ≤ 0 → (vp_in (v5 - (1 : Int32)) 20000 ∧ (((gA S 36 (v5 - (1 : Int32)).toNatClampNeg) ≤ v3 → (vp_in v5 20000 ∧ ∀ S6 : SS, S6 = (sA S 36 (vp_updL (gA S 36) v5.toNatClampNeg v3)) → (∀ x7 : Int32, x7 = v2 + 1 → (K2 x7 S6)))) ∧ (¬ (gA S 36 (v5 - (1 : Int32)).toNatClampNeg) ≤ v3 → (vp_in (v5 - (1 : Int32)) 20000 ∧ (vp_in v5 20000 ∧ ∀ S8 : SS, S8 = (sA S 36 (vp_updL (gA S 36) v5.toNatClampNeg (gA S 36 (v5 - (1 : Int32)).toNatClampNeg))) → (∀ x9 : Int32, x9 = v5 + (-1) → (V_X8_ascend_17  v1 v2 v3 K2 post n x9 S8)))))))))
set_option maxHeartbeats 4000000 in
set_option maxRecDepth 100000 in
theorem lp_X8_ascend_17  (v1 : Int32) (v2 : Int32) (v3 : Int64) (K2 : Int32 → SS → Prop) (post : SS → Prop) (C0 : Bd p s m meth c args cX8_ascend 6 none wsX8_ascend RX8 D n0 cI cJ) (hK2 : ∀ (v2 : Int32) (S : SS), K2 v2 S → ∀ (H : Heap) (locs : List Loc), Wh D n0 ad cI cJ X S s H locs → ∀ ls : Array Slot, lv_has ls 6 [(0, .ref (ad 48)), (1, .int v1), (2, .int v2)] → W p l e rm_X8_ascend s m args below meth c H locs 0 0 (MQ below (va_Qv post (fun S' t => Wd D n0 ad cI cJ X S' t) (fr n0)) args s 0 0 (fr n0)) (F0 m 2 ls [])) : ∀ (n : Nat) (v5 : Int32) (S : SS), V_X8_ascend_17  v1 v2 v3 K2 post n v5 S → ∀ (H : Heap) (locs : List Loc), Wh D n0 ad cI cJ X S s H locs → ∀ ls : Array Slot, lv_has ls 6 [(0, .ref (ad 48)), (1, .int v1), (2, .int v2), (3, .long v3), (5, .int v5)] → W p l e rm_X8_ascend s m args below meth c H locs 0 0 (MQ below (va_Qv post (fun S' t => Wd D n0 ad cI cJ X S' t) (fr n0)) args s 0 0 (fr n0)) (F0 m 17 ls []) := by
  intro n
  induction n with
  | zero => intro v5 S hV; exact False.elim hV
  | succ n ih =>
    intro v5 S hV H locs hw ls hl
    rw [V_X8_ascend_17] at hV
    refine lv_iload C0.x C0.b dX8_ascend_17 (lv_at hl 4 rfl) ?_
    refine lv_if_le (tgt := 58) C0.x C0.b dX8_ascend_19 (by decide) (fun c2 => ?_) (fun c2 => ?_)
    · have hV := hV.1 c2
      refine lv_aload_n C0.x C0.b dX8_ascend_58 rfl (lv_at hl 0 rfl) ?_
      refine r_get C0 hw (C := RX8) (T := TX8) (N := 33) (v := .ref (ad 55)) iw_X8_ascend_X8 (lg_48 ad cI cJ X S) rfl 16 (by decide) (C0.ts _ fw_X8_ascend_32) rfl dX8_ascend_59 ?_
      refine lv_iload C0.x C0.b dX8_ascend_62 (lv_at hl 4 rfl) ?_
      refine lv_lload_n C0.x C0.b dX8_ascend_64 rfl (lv_at hl 3 rfl) ?_
      refine r_last C0 hw (lg_55 ad cI cJ X S) hV.1 dX8_ascend_65 (S' := (sA S 36 (vp_updL (gA S 36) v5.toNatClampNeg v3))) (ls_55 ad cI cJ X S (vp_updL (gA S 36) v5.toNatClampNeg v3)) (fun S3 H locs eS3 hw => ?_)
      have hV := hV.2 S3 eS3
      obtain ⟨x4, ex4⟩ : ∃ z : Int32, z = v2 + 1 := ⟨_, rfl⟩
      have hV := hV x4 ex4
      refine lv_iinc (v := x4) (lv' := [(2, .int x4), (0, .ref (ad 48)), (1, .int v1), (3, .long v3), (5, .int v5)]) C0.x C0.b dX8_ascend_66 hl (k := 2) rfl (by rw [ex4]; rfl) (by decide) rfl (fun ls hl => ?_)
      refine lv_goto (tgt := 2) C0.x C0.b dX8_ascend_69 (by decide) ?_
      exact hK2 _ _ hV _ _ hw _ (lv_sub hl [1, 2, 0] rfl)
    · have hV := hV.2 c2
      refine lv_aload_n C0.x C0.b dX8_ascend_22 rfl (lv_at hl 0 rfl) ?_
      refine r_get C0 hw (C := RX8) (T := TX8) (N := 33) (v := .ref (ad 55)) iw_X8_ascend_X8 (lg_48 ad cI cJ X S) rfl 16 (by decide) (C0.ts _ fw_X8_ascend_32) rfl dX8_ascend_23 ?_
      refine lv_iload C0.x C0.b dX8_ascend_26 (lv_at hl 4 rfl) ?_
      refine lv_iconst (v := 1) C0.x C0.b dX8_ascend_28 (by decide) ?_
      refine lv_isub C0.x C0.b dX8_ascend_29 ?_
      refine r_lald C0 hw (lg_55 ad cI cJ X S) hV.1 dX8_ascend_30 ?_
      have hV := hV.2
      refine lv_lload_n C0.x C0.b dX8_ascend_31 rfl (lv_at hl 3 rfl) ?_
      refine r_lcmp C0 dX8_ascend_32 ?_
      refine lv_if_le (tgt := 58) C0.x C0.b dX8_ascend_33 (by decide) (fun c5 => ?_) (fun c5 => ?_)
      · have hV := hV.1 ((lc_le _ _).mp c5)
        refine lv_aload_n C0.x C0.b dX8_ascend_58 rfl (lv_at hl 0 rfl) ?_
        refine r_get C0 hw (C := RX8) (T := TX8) (N := 33) (v := .ref (ad 55)) iw_X8_ascend_X8 (lg_48 ad cI cJ X S) rfl 16 (by decide) (C0.ts _ fw_X8_ascend_32) rfl dX8_ascend_59 ?_
        refine lv_iload C0.x C0.b dX8_ascend_62 (lv_at hl 4 rfl) ?_
        refine lv_lload_n C0.x C0.b dX8_ascend_64 rfl (lv_at hl 3 rfl) ?_
        refine r_last C0 hw (lg_55 ad cI cJ X S) hV.1 dX8_ascend_65 (S' := (sA S 36 (vp_updL (gA S 36) v5.toNatClampNeg v3))) (ls_55 ad cI cJ X S (vp_updL (gA S 36) v5.toNatClampNeg v3)) (fun S6 H locs eS6 hw => ?_)
        have hV := hV.2 S6 eS6
        obtain ⟨x7, ex7⟩ : ∃ z : Int32, z = v2 + 1 := ⟨_, rfl⟩
        have hV := hV x7 ex7
        refine lv_iinc (v := x7) (lv' := [(2, .int x7), (0, .ref (ad 48)), (1, .int v1), (3, .long v3), (5, .int v5)]) C0.x C0.b dX8_ascend_66 hl (k := 2) rfl (by rw [ex7]; rfl) (by decide) rfl (fun ls hl => ?_)
        refine lv_goto (tgt := 2) C0.x C0.b dX8_ascend_69 (by decide) ?_
        exact hK2 _ _ hV _ _ hw _ (lv_sub hl [1, 2, 0] rfl)
      · have hV := hV.2 (fun h => c5 ((lc_le _ _).mpr h))
        refine lv_aload_n C0.x C0.b dX8_ascend_36 rfl (lv_at hl 0 rfl) ?_
        refine r_get C0 hw (C := RX8) (T := TX8) (N := 33) (v := .ref (ad 55)) iw_X8_ascend_X8 (lg_48 ad cI cJ X S) rfl 16 (by decide) (C0.ts _ fw_X8_ascend_32) rfl dX8_ascend_37 ?_
        refine lv_iload C0.x C0.b dX8_ascend_40 (lv_at hl 4 rfl) ?_
        refine lv_aload_n C0.x C0.b dX8_ascend_42 rfl (lv_at hl 0 rfl) ?_
        refine r_get C0 hw (C := RX8) (T := TX8) (N := 33) (v := .ref (ad 55)) iw_X8_ascend_X8 (lg_48 ad cI cJ X S) rfl 16 (by decide) (C0.ts _ fw_X8_ascend_32) rfl dX8_ascend_43 ?_
        refine lv_iload C0.x C0.b dX8_ascend_46 (lv_at hl 4 rfl) ?_
        refine lv_iconst (v := 1) C0.x C0.b dX8_ascend_48 (by decide) ?_
        refine lv_isub C0.x C0.b dX8_ascend_49 ?_
        refine r_lald C0 hw (lg_55 ad cI cJ X S) hV.1 dX8_ascend_50 ?_
        have hV := hV.2
        refine r_last C0 hw (lg_55 ad cI cJ X S) hV.1 dX8_ascend_51 (S' := (sA S 36 (vp_updL (gA S 36) v5.toNatClampNeg (gA S 36 (v5 - (1 : Int32)).toNatClampNeg)))) (ls_55 ad cI cJ X S (vp_updL (gA S 36) v5.toNatClampNeg (gA S 36 (v5 - (1 : Int32)).toNatClampNeg))) (fun S8 H locs eS8 hw => ?_)
        have hV := hV.2 S8 eS8
        obtain ⟨x9, ex9⟩ : ∃ z : Int32, z = v5 + (-1) := ⟨_, rfl⟩
        have hV := hV x9 ex9
        refine lv_iinc (v := x9) (lv' := [(5, .int x9), (0, .ref (ad 48)), (1, .int v1), (2, .int v2), (3, .long v3)]) C0.x C0.b dX8_ascend_52 hl (k := 4) rfl (by rw [ex9]; rfl) (by decide) rfl (fun ls hl => ?_)
        refine lv_goto (tgt := 17) C0.x C0.b dX8_ascend_55 (by decide) ?_
        exact ih _ _ hV _ _ hw _ (lv_sub hl [1, 2, 3, 4, 0] rfl)
def V_X8_ascend_2  (v1 : Int32)  (post : SS → Prop) : Nat → Int32 → SS → Prop
  | 0, _, _ => False
  | n + 1, v2, S =>
    ((v1 ≤ v2 → (post S)) ∧ (¬ v1 ≤ v2 → (vp_in v2 20000 ∧ (∃ n17 : Nat, V_X8_ascend_17  v1 v2 (gA S 36 v2.toNatClampNeg) (fun w2 T => V_X8_ascend_2  v1  post n w2 T) post n17 v2 S))))
set_option maxHeartbeats 4000000 in
set_option maxRecDepth 100000 in
theorem lp_X8_ascend_2  (v1 : Int32)  (post : SS → Prop) (C0 : Bd p s m meth c args cX8_ascend 6 none wsX8_ascend RX8 D n0 cI cJ) : ∀ (n : Nat) (v2 : Int32) (S : SS), V_X8_ascend_2  v1  post n v2 S → ∀ (H : Heap) (locs : List Loc), Wh D n0 ad cI cJ X S s H locs → ∀ ls : Array Slot, lv_has ls 6 [(0, .ref (ad 48)), (1, .int v1), (2, .int v2)] → W p l e rm_X8_ascend s m args below meth c H locs 0 0 (MQ below (va_Qv post (fun S' t => Wd D n0 ad cI cJ X S' t) (fr n0)) args s 0 0 (fr n0)) (F0 m 2 ls []) := by
  intro n
  induction n with
  | zero => intro v2 S hV; exact False.elim hV
  | succ n ih =>
    intro v2 S hV H locs hw ls hl
    rw [V_X8_ascend_2] at hV
    refine lv_iload_n C0.x C0.b dX8_ascend_2 rfl (lv_at hl 2 rfl) ?_
    refine lv_iload_n C0.x C0.b dX8_ascend_3 rfl (lv_at hl 1 rfl) ?_
    refine lv_icmp_ge (tgt := 72) C0.x C0.b dX8_ascend_4 (by decide) (fun c1 => ?_) (fun c1 => ?_)
    · have hV := hV.1 c1
      exact r_vret C0 rfl hw hV dX8_ascend_72
    · have hV := hV.2 c1
      refine lv_aload_n C0.x C0.b dX8_ascend_7 rfl (lv_at hl 0 rfl) ?_
      refine r_get C0 hw (C := RX8) (T := TX8) (N := 33) (v := .ref (ad 55)) iw_X8_ascend_X8 (lg_48 ad cI cJ X S) rfl 16 (by decide) (C0.ts _ fw_X8_ascend_32) rfl dX8_ascend_8 ?_
      refine lv_iload_n C0.x C0.b dX8_ascend_11 rfl (lv_at hl 2 rfl) ?_
      refine r_lald C0 hw (lg_55 ad cI cJ X S) hV.1 dX8_ascend_12 ?_
      have hV := hV.2
      refine lv_lstore_n (lv' := [(3, .long (gA S 36 v2.toNatClampNeg)), (0, .ref (ad 48)), (1, .int v1), (2, .int v2)]) C0.x C0.b dX8_ascend_13 rfl hl (by decide) rfl (fun ls hl => ?_)
      refine lv_iload_n C0.x C0.b dX8_ascend_14 rfl (lv_at hl 3 rfl) ?_
      refine lv_istore (lv' := [(5, .int v2), (3, .long (gA S 36 v2.toNatClampNeg)), (0, .ref (ad 48)), (1, .int v1), (2, .int v2)]) C0.x C0.b dX8_ascend_15 hl (by decide) rfl (fun ls hl => ?_)
      obtain ⟨n17, hV⟩ := hV
      exact lp_X8_ascend_17  _ _ _ _ post C0 ih n17 _ _ hV _ _ hw _ (lv_sub hl [2, 3, 4, 1, 0] rfl)
def V_X8_ascend  (p0 : Int32) (S : SS) (post : SS → Prop) : Prop :=
  (∃ n2 : Nat, V_X8_ascend_2  p0  post n2 (1 : Int32) S)
set_option maxHeartbeats 4000000 in
set_option maxRecDepth 100000 in
theorem c_X8_ascend  {S : SS} {p0 : Int32} {post : SS → Prop} (hV : V_X8_ascend  p0 S post) : MV l yX8_ascend wsX8_ascend rm_X8_ascend [.ref (ad 48), .int p0] D n0 ad cI cJ X S post := by
  refine Met.ofW (cc := cX8_ascend) (maxL := 6) (ret := none) (by decide) rfl ?_
  intro p e s m args below meth c s₁ B hml hv
  obtain ⟨rfl, hv⟩ := hv
  have C0 := Bd.mk B hml (atoms_spec (ws := wsX8_ascend) B.pre) (findClass_of_methodNamed B.named) hv.1
  have hw : Wh D n0 ad cI cJ X S s s.heap [] := ⟨hv.2.1, hv.2.2, va_S.rf⟩
  refine r_entry (Nat.le_of_ble_eq_true rfl) (fun ls hl => ?_)
  have hl : lv_has ls 6 [(0, .ref (ad 48)), (1, .int p0)] := hl
  unfold V_X8_ascend at hV
  refine lv_iconst (v := 1) C0.x C0.b dX8_ascend_0 (by decide) ?_
  refine lv_istore_n (lv' := [(2, .int (1 : Int32)), (0, .ref (ad 48)), (1, .int p0)]) C0.x C0.b dX8_ascend_1 rfl hl (by decide) rfl (fun ls hl => ?_)
  obtain ⟨n2, hV⟩ := hV
  exact lp_X8_ascend_2  _ post C0  n2 _ _ hV _ _ hw _ (lv_sub hl [1, 2, 0] rfl)
/-! StepBenchModel.rings(I)I -/
abbrev rm_X8_rings : Room := { frames := 5, cells := 0, slots := 0, locals := 120 }
set_option maxRecDepth 20000 in
theorem fw_X8_rings_61 : Cond.fieldLink RX8 61 "StepBenchModel" "thrown" "I" ∈ wsX8_rings := by decide +kernel
set_option maxRecDepth 20000 in
theorem iw_X8_rings_X8 : ∀ w ∈ wsX80, w ∈ wsX8_rings := by decide +kernel
set_option maxRecDepth 20000 in
theorem fw_X8_rings_108 : Cond.fieldLink RX8 108 "StepBenchModel" "sort" "I" ∈ wsX8_rings := by decide +kernel
set_option maxRecDepth 20000 in
theorem cw_X8_rings_202 : Cond.constantLong RX8 202 12 ∈ wsX8_rings := by decide +kernel
set_option maxRecDepth 20000 in
theorem fw_X8_rings_39 : Cond.fieldLink RX8 39 "StepBenchModel" "tried" "[I" ∈ wsX8_rings := by decide +kernel
set_option maxRecDepth 20000 in
theorem fw_X8_rings_193 : Cond.fieldLink RX8 193 "StepBenchModel" "isUnlike" "Z" ∈ wsX8_rings := by decide +kernel
set_option maxRecDepth 20000 in
theorem fw_X8_rings_190 : Cond.fieldLink RX8 190 "StepBenchModel" "ringLeast" "J" ∈ wsX8_rings := by decide +kernel
set_option maxRecDepth 20000 in
theorem fw_X8_rings_187 : Cond.fieldLink RX8 187 "StepBenchModel" "ringX" "J" ∈ wsX8_rings := by decide +kernel
set_option maxRecDepth 20000 in
theorem fw_X8_rings_32 : Cond.fieldLink RX8 32 "StepBenchModel" "found" "[J" ∈ wsX8_rings := by decide +kernel
set_option maxRecDepth 20000 in
theorem fw_X8_rings_105 : Cond.fieldLink RX8 105 "StepBenchModel" "m" "I" ∈ wsX8_rings := by decide +kernel
set_option maxRecDepth 20000 in
theorem hd_X8_rings : yX8_rings.cls = RX8 ∧ yX8_rings.cls ≠ "java/lang/invoke/MethodHandle" ∧ yX8_rings.cls ≠ "java/lang/invoke/VarHandle" ∧ (parseMethodDescriptor yX8_rings.desc).map (fun d => d.parameters.length) = some 1 := by decide +kernel
def V_X8_rings_61  (v1 : Int32) (v2 : Int32) (v3 : Int32) (v4 : Int32) (K48 : Int32 → Int32 → SS → Prop) (post : Int32 → SS → Prop) : Nat → Int32 → Int32 → SS → Prop
  | 0, _, _, _ => False
  | n + 1, v5, v6, S =>
    ((v1 ≤ v6 → (V_X8_shaped 1 40 v1 S (fun (r15 : Int32) (S16 : SS) => ((r15 = 0 → (post (-2 : Int32) S16)) ∧ (¬ r15 = 0 → (V_X8_ringOf 1 40 v1 S16 (fun (r18 : Int32) (S19 : SS) => ((r18 = (1 : Int32) → (((gI S19 30) = 0 → (∀ x22 : Int32, x22 = v4 + 1 → (K48 v3 x22 S19))) ∧ (¬ (gI S19 30) = 0 → (((gJ S19 5) = (gJ S19 4) → (vp_in v3 20000 ∧ ∀ S24 : SS, S24 = (sA S19 36 (vp_updL (gA S19 36) v3.toNatClampNeg (gJ S19 4))) → (∀ x25 : Int32, x25 = v3 + 1 → (∀ x26 : Int32, x26 = v4 + 1 → (K48 x25 x26 S24))))) ∧ (¬ (gJ S19 5) = (gJ S19 4) → (∀ x27 : Int32, x27 = v4 + 1 → (K48 v3 x27 S19))))))) ∧ (¬ r18 = (1 : Int32) → (∀ x28 : Int32, x28 = v4 + 1 → (K48 v3 x28 S19))))))))))) ∧ (¬ v1 ≤ v6 → (¬ (gI S 26) = 0 ∧ (vp_in v6 40 ∧ ∀ S29 : SS, S29 = (sB S 1 (upd (gB S 1) v6.toNatClampNeg (irm v5 (gI S 26)))) → (¬ (gI S29 26) = 0 ∧ (∀ x30 : Int32, x30 = (v5 / (gI S29 26)) → (∀ x31 : Int32, x31 = v6 + 1 → (V_X8_rings_61  v1 v2 v3 v4 K48 post n x30 x31 S29))))))))
set_option maxHeartbeats 4000000 in
set_option maxRecDepth 100000 in
theorem lp_X8_rings_61  (v1 : Int32) (v2 : Int32) (v3 : Int32) (v4 : Int32) (K48 : Int32 → Int32 → SS → Prop) (post : Int32 → SS → Prop) (C0 : Bd p s m meth c args cX8_rings 7 (some .int) wsX8_rings RX8 D n0 cI cJ) (hK48 : ∀ (v3 : Int32) (v4 : Int32) (S : SS), K48 v3 v4 S → ∀ (H : Heap) (locs : List Loc), Wh D n0 ad cI cJ X S s H locs → ∀ ls : Array Slot, lv_has ls 7 [(0, .ref (ad 48)), (1, .int v1), (2, .int v2), (3, .int v3), (4, .int v4)] → W p l e rm_X8_rings s m args below meth c H locs 0 0 (MQ below (va_Qi post (fun S' t => Wd D n0 ad cI cJ X S' t) (fr n0)) args s 0 0 (fr n0)) (F0 m 48 ls [])) : ∀ (n : Nat) (v5 : Int32) (v6 : Int32) (S : SS), V_X8_rings_61  v1 v2 v3 v4 K48 post n v5 v6 S → ∀ (H : Heap) (locs : List Loc), Wh D n0 ad cI cJ X S s H locs → ∀ ls : Array Slot, lv_has ls 7 [(0, .ref (ad 48)), (1, .int v1), (2, .int v2), (3, .int v3), (4, .int v4), (5, .int v5), (6, .int v6)] → W p l e rm_X8_rings s m args below meth c H locs 0 0 (MQ below (va_Qi post (fun S' t => Wd D n0 ad cI cJ X S' t) (fr n0)) args s 0 0 (fr n0)) (F0 m 61 ls []) := by
  intro n
  induction n with
  | zero => intro v5 v6 S hV; exact False.elim hV
  | succ n ih =>
    intro v5 v6 S hV H locs hw ls hl
    rw [V_X8_rings_61] at hV
    refine lv_iload C0.x C0.b dX8_rings_61 (lv_at hl 6 rfl) ?_
    refine lv_iload_n C0.x C0.b dX8_rings_63 rfl (lv_at hl 1 rfl) ?_
    refine lv_icmp_ge (tgt := 96) C0.x C0.b dX8_rings_64 (by decide) (fun c14 => ?_) (fun c14 => ?_)
    · have hV := hV.1 c14
      refine lv_aload_n C0.x C0.b dX8_rings_96 rfl (lv_at hl 0 rfl) ?_
      refine lv_aload_n C0.x C0.b dX8_rings_97 rfl (lv_at hl 0 rfl) ?_
      refine r_get C0 hw (C := RX8) (T := TX8) (N := 33) (v := .ref (ad 57)) iw_X8_rings_X8 (lg_48 ad cI cJ X S) rfl 22 (by decide) (C0.ts _ fw_X8_rings_39) rfl dX8_rings_98 ?_
      refine lv_iload_n C0.x C0.b dX8_rings_101 rfl (lv_at hl 1 rfl) ?_
      refine r_cV_i (As := [.ref (ad 57), .int v1]) (rest := []) C0 hw (c_X8_shaped (la_57 ad cI cJ X) hV) (cwV 2 C0.ts gX8_rings_X8_shaped rfl rfl rfl hd_X8_shaped ⟨Nat.le_of_ble_eq_true rfl, Nat.le_of_ble_eq_true rfl⟩) (lg_48 ad cI cJ X S) rfl rfl hl.1 rfl (Nat.le_of_ble_eq_true rfl) ⟨Nat.le_of_ble_eq_true rfl, Nat.le_of_ble_eq_true rfl⟩ dX8_rings_102 (fun r15 S16 H locs hV hw => ?_)
      refine lv_if_ne (tgt := 111) C0.x C0.b dX8_rings_105 (by decide) (fun c17 => ?_) (fun c17 => ?_)
      · have hV := hV.2 c17
        refine lv_aload_n C0.x C0.b dX8_rings_111 rfl (lv_at hl 0 rfl) ?_
        refine lv_aload_n C0.x C0.b dX8_rings_112 rfl (lv_at hl 0 rfl) ?_
        refine r_get C0 hw (C := RX8) (T := TX8) (N := 33) (v := .ref (ad 57)) iw_X8_rings_X8 (lg_48 ad cI cJ X S16) rfl 22 (by decide) (C0.ts _ fw_X8_rings_39) rfl dX8_rings_113 ?_
        refine lv_iload_n C0.x C0.b dX8_rings_116 rfl (lv_at hl 1 rfl) ?_
        refine r_cV_i (As := [.ref (ad 57), .int v1]) (rest := []) C0 hw (c_X8_ringOf (la_57 ad cI cJ X) hV) (cwV 2 C0.ts gX8_rings_X8_ringOf rfl rfl rfl hd_X8_ringOf ⟨Nat.le_of_ble_eq_true rfl, Nat.le_of_ble_eq_true rfl⟩) (lg_48 ad cI cJ X S16) rfl rfl hl.1 rfl (Nat.le_of_ble_eq_true rfl) ⟨Nat.le_of_ble_eq_true rfl, Nat.le_of_ble_eq_true rfl⟩ dX8_rings_117 (fun r18 S19 H locs hV hw => ?_)
        refine lv_iconst (v := 1) C0.x C0.b dX8_rings_120 (by decide) ?_
        refine lv_icmp_ne (tgt := 156) C0.x C0.b dX8_rings_121 (by decide) (fun c20 => ?_) (fun c20 => ?_)
        · have hV := hV.2 c20
          obtain ⟨x28, ex28⟩ : ∃ z : Int32, z = v4 + 1 := ⟨_, rfl⟩
          have hV := hV x28 ex28
          refine lv_iinc (v := x28) (lv' := [(4, .int x28), (0, .ref (ad 48)), (1, .int v1), (2, .int v2), (3, .int v3), (5, .int v5), (6, .int v6)]) C0.x C0.b dX8_rings_156 hl (k := 4) rfl (by rw [ex28]; rfl) (by decide) rfl (fun ls hl => ?_)
          refine lv_goto (tgt := 48) C0.x C0.b dX8_rings_159 (by decide) ?_
          exact hK48 _ _ _ hV _ _ hw _ (lv_sub hl [1, 2, 3, 4, 0] rfl)
        · have hV := hV.1 c20
          refine lv_aload_n C0.x C0.b dX8_rings_124 rfl (lv_at hl 0 rfl) ?_
          refine r_get C0 hw (C := RX8) (T := TX8) (N := 33) (v := .int (gI S19 30)) iw_X8_rings_X8 (lg_48 ad cI cJ X S19) rfl 25 (by decide) (C0.ts _ fw_X8_rings_193) rfl dX8_rings_125 ?_
          refine lv_if_eq (tgt := 156) C0.x C0.b dX8_rings_128 (by decide) (fun c21 => ?_) (fun c21 => ?_)
          · have hV := hV.1 c21
            obtain ⟨x22, ex22⟩ : ∃ z : Int32, z = v4 + 1 := ⟨_, rfl⟩
            have hV := hV x22 ex22
            refine lv_iinc (v := x22) (lv' := [(4, .int x22), (0, .ref (ad 48)), (1, .int v1), (2, .int v2), (3, .int v3), (5, .int v5), (6, .int v6)]) C0.x C0.b dX8_rings_156 hl (k := 4) rfl (by rw [ex22]; rfl) (by decide) rfl (fun ls hl => ?_)
            refine lv_goto (tgt := 48) C0.x C0.b dX8_rings_159 (by decide) ?_
            exact hK48 _ _ _ hV _ _ hw _ (lv_sub hl [1, 2, 3, 4, 0] rfl)
          · have hV := hV.2 c21
            refine lv_aload_n C0.x C0.b dX8_rings_131 rfl (lv_at hl 0 rfl) ?_
            refine r_get C0 hw (C := RX8) (T := TX8) (N := 33) (v := .long (gJ S19 5)) iw_X8_rings_X8 (lg_48 ad cI cJ X S19) rfl 24 (by decide) (C0.ts _ fw_X8_rings_190) rfl dX8_rings_132 ?_
            refine lv_aload_n C0.x C0.b dX8_rings_135 rfl (lv_at hl 0 rfl) ?_
            refine r_get C0 hw (C := RX8) (T := TX8) (N := 33) (v := .long (gJ S19 4)) iw_X8_rings_X8 (lg_48 ad cI cJ X S19) rfl 23 (by decide) (C0.ts _ fw_X8_rings_187) rfl dX8_rings_136 ?_
            refine r_lcmp C0 dX8_rings_139 ?_
            refine lv_if_ne (tgt := 156) C0.x C0.b dX8_rings_140 (by decide) (fun c23 => ?_) (fun c23 => ?_)
            · have hV := hV.2 (fun h => c23 ((lc_eq _ _).mpr h))
              obtain ⟨x27, ex27⟩ : ∃ z : Int32, z = v4 + 1 := ⟨_, rfl⟩
              have hV := hV x27 ex27
              refine lv_iinc (v := x27) (lv' := [(4, .int x27), (0, .ref (ad 48)), (1, .int v1), (2, .int v2), (3, .int v3), (5, .int v5), (6, .int v6)]) C0.x C0.b dX8_rings_156 hl (k := 4) rfl (by rw [ex27]; rfl) (by decide) rfl (fun ls hl => ?_)
              refine lv_goto (tgt := 48) C0.x C0.b dX8_rings_159 (by decide) ?_
              exact hK48 _ _ _ hV _ _ hw _ (lv_sub hl [1, 2, 3, 4, 0] rfl)
            · have hV := hV.1 ((lc_eq _ _).mp c23)
              refine lv_aload_n C0.x C0.b dX8_rings_143 rfl (lv_at hl 0 rfl) ?_
              refine r_get C0 hw (C := RX8) (T := TX8) (N := 33) (v := .ref (ad 55)) iw_X8_rings_X8 (lg_48 ad cI cJ X S19) rfl 16 (by decide) (C0.ts _ fw_X8_rings_32) rfl dX8_rings_144 ?_
              refine lv_iload_n C0.x C0.b dX8_rings_147 rfl (lv_at hl 3 rfl) ?_
              refine lv_aload_n C0.x C0.b dX8_rings_148 rfl (lv_at hl 0 rfl) ?_
              refine r_get C0 hw (C := RX8) (T := TX8) (N := 33) (v := .long (gJ S19 4)) iw_X8_rings_X8 (lg_48 ad cI cJ X S19) rfl 23 (by decide) (C0.ts _ fw_X8_rings_187) rfl dX8_rings_149 ?_
              refine r_last C0 hw (lg_55 ad cI cJ X S19) hV.1 dX8_rings_152 (S' := (sA S19 36 (vp_updL (gA S19 36) v3.toNatClampNeg (gJ S19 4)))) (ls_55 ad cI cJ X S19 (vp_updL (gA S19 36) v3.toNatClampNeg (gJ S19 4))) (fun S24 H locs eS24 hw => ?_)
              have hV := hV.2 S24 eS24
              obtain ⟨x25, ex25⟩ : ∃ z : Int32, z = v3 + 1 := ⟨_, rfl⟩
              have hV := hV x25 ex25
              refine lv_iinc (v := x25) (lv' := [(3, .int x25), (0, .ref (ad 48)), (1, .int v1), (2, .int v2), (4, .int v4), (5, .int v5), (6, .int v6)]) C0.x C0.b dX8_rings_153 hl (k := 3) rfl (by rw [ex25]; rfl) (by decide) rfl (fun ls hl => ?_)
              obtain ⟨x26, ex26⟩ : ∃ z : Int32, z = v4 + 1 := ⟨_, rfl⟩
              have hV := hV x26 ex26
              refine lv_iinc (v := x26) (lv' := [(4, .int x26), (3, .int x25), (0, .ref (ad 48)), (1, .int v1), (2, .int v2), (5, .int v5), (6, .int v6)]) C0.x C0.b dX8_rings_156 hl (k := 4) rfl (by rw [ex26]; rfl) (by decide) rfl (fun ls hl => ?_)
              refine lv_goto (tgt := 48) C0.x C0.b dX8_rings_159 (by decide) ?_
              exact hK48 _ _ _ hV _ _ hw _ (lv_sub hl [2, 3, 4, 1, 0] rfl)
      · have hV := hV.1 c17
        refine lv_bipush (v := -2) C0.x C0.b dX8_rings_108 (by decide) ?_
        exact r_iret C0 rfl hw hV dX8_rings_110
    · have hV := hV.2 c14
      refine lv_aload_n C0.x C0.b dX8_rings_67 rfl (lv_at hl 0 rfl) ?_
      refine r_get C0 hw (C := RX8) (T := TX8) (N := 33) (v := .ref (ad 57)) iw_X8_rings_X8 (lg_48 ad cI cJ X S) rfl 22 (by decide) (C0.ts _ fw_X8_rings_39) rfl dX8_rings_68 ?_
      refine lv_iload C0.x C0.b dX8_rings_71 (lv_at hl 6 rfl) ?_
      refine lv_iload C0.x C0.b dX8_rings_73 (lv_at hl 5 rfl) ?_
      refine lv_aload_n C0.x C0.b dX8_rings_75 rfl (lv_at hl 0 rfl) ?_
      refine r_get C0 hw (C := RX8) (T := TX8) (N := 33) (v := .int (gI S 26)) iw_X8_rings_X8 (lg_48 ad cI cJ X S) rfl 8 (by decide) (C0.ts _ fw_X8_rings_105) rfl dX8_rings_76 ?_
      refine lv_irem C0.x C0.b dX8_rings_79 hV.1 ?_
      have hV := hV.2
      refine r_iast C0 hw (lg_57 ad cI cJ X S) hV.1 dX8_rings_80 (S' := (sB S 1 (upd (gB S 1) v6.toNatClampNeg (irm v5 (gI S 26))))) (ls_57 ad cI cJ X S (upd (gB S 1) v6.toNatClampNeg (irm v5 (gI S 26)))) (fun S29 H locs eS29 hw => ?_)
      have hV := hV.2 S29 eS29
      refine lv_iload C0.x C0.b dX8_rings_81 (lv_at hl 5 rfl) ?_
      refine lv_aload_n C0.x C0.b dX8_rings_83 rfl (lv_at hl 0 rfl) ?_
      refine r_get C0 hw (C := RX8) (T := TX8) (N := 33) (v := .int (gI S29 26)) iw_X8_rings_X8 (lg_48 ad cI cJ X S29) rfl 8 (by decide) (C0.ts _ fw_X8_rings_105) rfl dX8_rings_84 ?_
      refine lv_idiv C0.x C0.b dX8_rings_87 hV.1 ?_
      have hV := hV.2
      refine lv_topi (fun x30 ex30 => ?_)
      have hV := hV x30 ex30
      refine lv_istore (lv' := [(5, .int x30), (0, .ref (ad 48)), (1, .int v1), (2, .int v2), (3, .int v3), (4, .int v4), (6, .int v6)]) C0.x C0.b dX8_rings_88 hl (by decide) rfl (fun ls hl => ?_)
      obtain ⟨x31, ex31⟩ : ∃ z : Int32, z = v6 + 1 := ⟨_, rfl⟩
      have hV := hV x31 ex31
      refine lv_iinc (v := x31) (lv' := [(6, .int x31), (5, .int x30), (0, .ref (ad 48)), (1, .int v1), (2, .int v2), (3, .int v3), (4, .int v4)]) C0.x C0.b dX8_rings_90 hl (k := 6) rfl (by rw [ex31]; rfl) (by decide) rfl (fun ls hl => ?_)
      refine lv_goto (tgt := 61) C0.x C0.b dX8_rings_93 (by decide) ?_
      exact ih _ _ _ hV _ _ hw _ (lv_sub hl [2, 3, 4, 5, 6, 1, 0] rfl)
def V_X8_rings_48  (v1 : Int32) (v2 : Int32)  (post : Int32 → SS → Prop) : Nat → Int32 → Int32 → SS → Prop
  | 0, _, _, _ => False
  | n + 1, v3, v4, S =>
    ((v2 ≤ v4 → (V_X8_ascend v3 S (fun (S11 : SS) => (V_X8_tells v3 S11 (fun (S13 : SS) => (post v3 S13)))))) ∧ (¬ v2 ≤ v4 → (∃ n61 : Nat, V_X8_rings_61  v1 v2 v3 v4 (fun w3 w4 T => V_X8_rings_48  v1 v2  post n w3 w4 T) post n61 v4 (0 : Int32) S)))
set_option maxHeartbeats 4000000 in
set_option maxRecDepth 100000 in
theorem lp_X8_rings_48  (v1 : Int32) (v2 : Int32)  (post : Int32 → SS → Prop) (C0 : Bd p s m meth c args cX8_rings 7 (some .int) wsX8_rings RX8 D n0 cI cJ) : ∀ (n : Nat) (v3 : Int32) (v4 : Int32) (S : SS), V_X8_rings_48  v1 v2  post n v3 v4 S → ∀ (H : Heap) (locs : List Loc), Wh D n0 ad cI cJ X S s H locs → ∀ ls : Array Slot, lv_has ls 7 [(0, .ref (ad 48)), (1, .int v1), (2, .int v2), (3, .int v3), (4, .int v4)] → W p l e rm_X8_rings s m args below meth c H locs 0 0 (MQ below (va_Qi post (fun S' t => Wd D n0 ad cI cJ X S' t) (fr n0)) args s 0 0 (fr n0)) (F0 m 48 ls []) := by
  intro n
  induction n with
  | zero => intro v3 v4 S hV; exact False.elim hV
  | succ n ih =>
    intro v3 v4 S hV H locs hw ls hl
    rw [V_X8_rings_48] at hV
    refine lv_iload C0.x C0.b dX8_rings_48 (lv_at hl 4 rfl) ?_
    refine lv_iload_n C0.x C0.b dX8_rings_50 rfl (lv_at hl 2 rfl) ?_
    refine lv_icmp_ge (tgt := 162) C0.x C0.b dX8_rings_51 (by decide) (fun c9 => ?_) (fun c9 => ?_)
    · have hV := hV.1 c9
      refine lv_aload_n C0.x C0.b dX8_rings_162 rfl (lv_at hl 0 rfl) ?_
      refine lv_iload_n C0.x C0.b dX8_rings_163 rfl (lv_at hl 3 rfl) ?_
      refine r_cV_v (As := [.int v3]) (rest := []) C0 hw (c_X8_ascend  hV) (cwV 1 C0.ts gX8_rings_X8_ascend rfl rfl rfl hd_X8_ascend ⟨Nat.le_of_ble_eq_true rfl, Nat.le_of_ble_eq_true rfl⟩) (lg_48 ad cI cJ X S) rfl rfl hl.1 rfl (Nat.le_of_ble_eq_true rfl) ⟨Nat.le_of_ble_eq_true rfl, Nat.le_of_ble_eq_true rfl⟩ dX8_rings_164 (fun S11 H locs hV hw => ?_)
      refine lv_aload_n C0.x C0.b dX8_rings_167 rfl (lv_at hl 0 rfl) ?_
      refine lv_iload_n C0.x C0.b dX8_rings_168 rfl (lv_at hl 3 rfl) ?_
      refine r_cV_v (As := [.int v3]) (rest := []) C0 hw (c_X8_tells  hV) (cwV 1 C0.ts gX8_rings_X8_tells rfl rfl rfl hd_X8_tells ⟨Nat.le_of_ble_eq_true rfl, Nat.le_of_ble_eq_true rfl⟩) (lg_48 ad cI cJ X S11) rfl rfl hl.1 rfl (Nat.le_of_ble_eq_true rfl) ⟨Nat.le_of_ble_eq_true rfl, Nat.le_of_ble_eq_true rfl⟩ dX8_rings_169 (fun S13 H locs hV hw => ?_)
      refine lv_iload_n C0.x C0.b dX8_rings_172 rfl (lv_at hl 3 rfl) ?_
      exact r_iret C0 rfl hw hV dX8_rings_173
    · have hV := hV.2 c9
      refine lv_iload C0.x C0.b dX8_rings_54 (lv_at hl 4 rfl) ?_
      refine lv_istore (lv' := [(5, .int v4), (0, .ref (ad 48)), (1, .int v1), (2, .int v2), (3, .int v3), (4, .int v4)]) C0.x C0.b dX8_rings_56 hl (by decide) rfl (fun ls hl => ?_)
      refine lv_iconst (v := 0) C0.x C0.b dX8_rings_58 (by decide) ?_
      refine lv_istore (lv' := [(6, .int (0 : Int32)), (5, .int v4), (0, .ref (ad 48)), (1, .int v1), (2, .int v2), (3, .int v3), (4, .int v4)]) C0.x C0.b dX8_rings_59 hl (by decide) rfl (fun ls hl => ?_)
      obtain ⟨n61, hV⟩ := hV
      exact lp_X8_rings_61  _ _ _ _ _ post C0 ih n61 _ _ _ hV _ _ hw _ (lv_sub hl [2, 3, 4, 5, 6, 1, 0] rfl)
def V_X8_rings  (p0 : Int32) (S : SS) (post : Int32 → SS → Prop) : Prop :=
  (∀ S1 : SS, S1 = (sI S 20 (0 : Int32)) → (((gI S1 25) = (1 : Int32) → (V_X8_in p0.toInt64 (1 : Int64) (12 : Int64) S1 (fun (r3 : Int32) (S4 : SS) => ((r3 = 0 → (post (-1 : Int32) S4)) ∧ (¬ r3 = 0 → (V_X8_power p0 S4 (fun (r6 : Int32) (S7 : SS) => ((r6 ≤ (20000 : Int32) → (∃ n48 : Nat, V_X8_rings_48  p0 r6  post n48 (0 : Int32) (0 : Int32) S7)) ∧ (¬ r6 ≤ (20000 : Int32) → (post (-2 : Int32) S7)))))))))) ∧ (¬ (gI S1 25) = (1 : Int32) → (post (-1 : Int32) S1))))
set_option maxHeartbeats 4000000 in
set_option maxRecDepth 100000 in
theorem c_X8_rings  {S : SS} {p0 : Int32} {post : Int32 → SS → Prop} (hV : V_X8_rings  p0 S post) : MI l yX8_rings wsX8_rings rm_X8_rings [.ref (ad 48), .int p0] D n0 ad cI cJ X S post := by
  refine Met.ofW (cc := cX8_rings) (maxL := 7) (ret := (some .int)) (by decide) rfl ?_
  intro p e s m args below meth c s₁ B hml hv
  obtain ⟨rfl, hv⟩ := hv
  have C0 := Bd.mk B hml (atoms_spec (ws := wsX8_rings) B.pre) (findClass_of_methodNamed B.named) hv.1
  have hw : Wh D n0 ad cI cJ X S s s.heap [] := ⟨hv.2.1, hv.2.2, va_S.rf⟩
  refine r_entry (Nat.le_of_ble_eq_true rfl) (fun ls hl => ?_)
  have hl : lv_has ls 7 [(0, .ref (ad 48)), (1, .int p0)] := hl
  unfold V_X8_rings at hV
  refine lv_aload_n C0.x C0.b dX8_rings_0 rfl (lv_at hl 0 rfl) ?_
  refine lv_iconst (v := 0) C0.x C0.b dX8_rings_1 (by decide) ?_
  refine r_put C0 hw (C := RX8) (T := TX8) (N := 33) (ty := .int) iw_X8_rings_X8 tyX8 tyX8_ok nmX8 (lg_48 ad cI cJ X S) rfl 0 (by decide) (C0.ts _ fw_X8_rings_61) rfl (by decide +kernel) rfl rfl (Nat.le_of_ble_eq_true rfl) dX8_rings_2 (S' := (sI S 20 (0 : Int32))) (ls_48_0 ad cI cJ X S (0 : Int32)) (fun S1 H locs eS1 hw => ?_)
  have hV := hV S1 eS1
  refine lv_aload_n C0.x C0.b dX8_rings_5 rfl (lv_at hl 0 rfl) ?_
  refine r_get C0 hw (C := RX8) (T := TX8) (N := 33) (v := .int (gI S1 25)) iw_X8_rings_X8 (lg_48 ad cI cJ X S1) rfl 7 (by decide) (C0.ts _ fw_X8_rings_108) rfl dX8_rings_6 ?_
  refine lv_iconst (v := 1) C0.x C0.b dX8_rings_9 (by decide) ?_
  refine lv_icmp_ne (tgt := 25) C0.x C0.b dX8_rings_10 (by decide) (fun c2 => ?_) (fun c2 => ?_)
  · have hV := hV.2 c2
    refine lv_iconst (v := -1) C0.x C0.b dX8_rings_25 (by decide) ?_
    exact r_iret C0 rfl hw hV dX8_rings_26
  · have hV := hV.1 c2
    refine lv_iload_n C0.x C0.b dX8_rings_13 rfl (lv_at hl 1 rfl) ?_
    refine lv_i2l C0.x C0.b dX8_rings_14 rfl ?_
    refine lv_lconst (v := 1) C0.x C0.b dX8_rings_15 (by decide) ?_
    refine lv_ldc2 (v := 12) C0.x C0.b C0.ow (C0.ts _ cw_X8_rings_202) dX8_rings_16 ?_
    refine r_cS_i (As := [.long p0.toInt64, .long (1 : Int64), .long (12 : Int64)]) (rest := []) C0 hw (c_X8_in  hV) (va_cwS 3 C0.ts gX8_rings_X8_in rfl rfl rfl hd_X8_in ⟨Nat.le_of_ble_eq_true rfl, Nat.le_of_ble_eq_true rfl⟩) rfl hl.1 rfl (Nat.le_of_ble_eq_true rfl) ⟨Nat.le_of_ble_eq_true rfl, Nat.le_of_ble_eq_true rfl⟩ dX8_rings_19 (fun r3 S4 H locs hV hw => ?_)
    refine lv_if_ne (tgt := 27) C0.x C0.b dX8_rings_22 (by decide) (fun c5 => ?_) (fun c5 => ?_)
    · have hV := hV.2 c5
      refine lv_aload_n C0.x C0.b dX8_rings_27 rfl (lv_at hl 0 rfl) ?_
      refine lv_iload_n C0.x C0.b dX8_rings_28 rfl (lv_at hl 1 rfl) ?_
      refine r_cV_i (As := [.int p0]) (rest := []) C0 hw (c_X8_power  hV) (cwV 1 C0.ts gX8_rings_X8_power rfl rfl rfl hd_X8_power ⟨Nat.le_of_ble_eq_true rfl, Nat.le_of_ble_eq_true rfl⟩) (lg_48 ad cI cJ X S4) rfl rfl hl.1 rfl (Nat.le_of_ble_eq_true rfl) ⟨Nat.le_of_ble_eq_true rfl, Nat.le_of_ble_eq_true rfl⟩ dX8_rings_29 (fun r6 S7 H locs hV hw => ?_)
      refine lv_istore_n (lv' := [(2, .int r6), (0, .ref (ad 48)), (1, .int p0)]) C0.x C0.b dX8_rings_32 rfl hl (by decide) rfl (fun ls hl => ?_)
      refine lv_iload_n C0.x C0.b dX8_rings_33 rfl (lv_at hl 0 rfl) ?_
      refine lv_sipush (v := 20000) C0.x C0.b dX8_rings_34 (by decide) ?_
      refine lv_icmp_le (tgt := 43) C0.x C0.b dX8_rings_37 (by decide) (fun c8 => ?_) (fun c8 => ?_)
      · have hV := hV.1 c8
        refine lv_iconst (v := 0) C0.x C0.b dX8_rings_43 (by decide) ?_
        refine lv_istore_n (lv' := [(3, .int (0 : Int32)), (2, .int r6), (0, .ref (ad 48)), (1, .int p0)]) C0.x C0.b dX8_rings_44 rfl hl (by decide) rfl (fun ls hl => ?_)
        refine lv_iconst (v := 0) C0.x C0.b dX8_rings_45 (by decide) ?_
        refine lv_istore (lv' := [(4, .int (0 : Int32)), (3, .int (0 : Int32)), (2, .int r6), (0, .ref (ad 48)), (1, .int p0)]) C0.x C0.b dX8_rings_46 hl (by decide) rfl (fun ls hl => ?_)
        obtain ⟨n48, hV⟩ := hV
        exact lp_X8_rings_48  _ _ post C0  n48 _ _ _ hV _ _ hw _ (lv_sub hl [3, 4, 2, 1, 0] rfl)
      · have hV := hV.2 c8
        refine lv_bipush (v := -2) C0.x C0.b dX8_rings_40 (by decide) ?_
        exact r_iret C0 rfl hw hV dX8_rings_42
    · have hV := hV.1 c5
      refine lv_iconst (v := -1) C0.x C0.b dX8_rings_25 (by decide) ?_
      exact r_iret C0 rfl hw hV dX8_rings_26
/-! StepBenchModel.set([JJ)V -/
abbrev rm_X8_set : Room := { frames := 0, cells := 0, slots := 0, locals := 0 }
set_option maxRecDepth 20000 in
theorem cw_X8_set_118 : Cond.constantLong RX8 118 1000000000 ∈ wsX8_set := by decide +kernel
set_option maxRecDepth 20000 in
theorem hd_X8_set : yX8_set.cls ≠ "java/lang/invoke/MethodHandle" ∧ yX8_set.cls ≠ "java/lang/invoke/VarHandle" ∧ (parseMethodDescriptor yX8_set.desc).map (fun d => d.parameters.length) = some 2 := by decide +kernel
def V_X8_set_16 (ai0 L0 : Nat)   (post : SS → Prop) : Nat → Int64 → Int32 → SS → Prop
  | 0, _, _, _ => False
  | n + 1, v3, v5, S =>
    (((26 : Int32) ≤ v5 → (post S)) ∧ (¬ (26 : Int32) ≤ v5 → (vp_in v5 L0 ∧ ∀ S3 : SS, S3 = (sA S ai0 (vp_updL (gA S ai0) v5.toNatClampNeg (lrm v3 (1000000000 : Int64)))) → (∀ y4 : Int64, y4 = (v3 / (1000000000 : Int64)) → (∀ x5 : Int32, x5 = v5 + 1 → (V_X8_set_16 ai0 L0   post n y4 x5 S3))))))
set_option maxHeartbeats 4000000 in
set_option maxRecDepth 100000 in
theorem lp_X8_set_16 {pa0 ai0 L0 : Nat} (hO0 : lnA ad cI cJ X pa0 ai0 L0)   (post : SS → Prop) (C0 : Bd p s m meth c args cX8_set 6 none wsX8_set RX8 D n0 cI cJ) : ∀ (n : Nat) (v3 : Int64) (v5 : Int32) (S : SS), V_X8_set_16 ai0 L0   post n v3 v5 S → ∀ (H : Heap) (locs : List Loc), Wh D n0 ad cI cJ X S s H locs → ∀ ls : Array Slot, lv_has ls 6 [(0, .ref (ad pa0)), (3, .long v3), (5, .int v5)] → W p l e rm_X8_set s m args below meth c H locs 0 0 (MQ below (va_Qv post (fun S' t => Wd D n0 ad cI cJ X S' t) (fr n0)) args s 0 0 (fr n0)) (F0 m 16 ls []) := by
  intro n
  induction n with
  | zero => intro v3 v5 S hV; exact False.elim hV
  | succ n ih =>
    intro v3 v5 S hV H locs hw ls hl
    rw [V_X8_set_16] at hV
    refine lv_iload C0.x C0.b dX8_set_16 (lv_at hl 2 rfl) ?_
    refine lv_bipush (v := 26) C0.x C0.b dX8_set_18 (by decide) ?_
    refine lv_icmp_ge (tgt := 44) C0.x C0.b dX8_set_20 (by decide) (fun c2 => ?_) (fun c2 => ?_)
    · have hV := hV.1 c2
      exact r_vret C0 rfl hw hV dX8_set_44
    · have hV := hV.2 c2
      refine lv_aload_n C0.x C0.b dX8_set_23 rfl (lv_at hl 0 rfl) ?_
      refine lv_iload C0.x C0.b dX8_set_24 (lv_at hl 2 rfl) ?_
      refine lv_lload_n C0.x C0.b dX8_set_26 rfl (lv_at hl 1 rfl) ?_
      refine lv_ldc2 (v := 1000000000) C0.x C0.b C0.ow (C0.ts _ cw_X8_set_118) dX8_set_27 ?_
      refine lv_lrem C0.x C0.b dX8_set_30 (by decide) ?_
      refine r_last C0 hw (hO0 S).1 hV.1 dX8_set_31 (S' := (sA S ai0 (vp_updL (gA S ai0) v5.toNatClampNeg (lrm v3 (1000000000 : Int64))))) ((hO0 S).2 (vp_updL (gA S ai0) v5.toNatClampNeg (lrm v3 (1000000000 : Int64)))) (fun S3 H locs eS3 hw => ?_)
      have hV := hV.2 S3 eS3
      refine lv_lload_n C0.x C0.b dX8_set_32 rfl (lv_at hl 1 rfl) ?_
      refine lv_ldc2 (v := 1000000000) C0.x C0.b C0.ow (C0.ts _ cw_X8_set_118) dX8_set_33 ?_
      refine lv_ldiv C0.x C0.b dX8_set_36 (by decide) ?_
      refine lv_topl (fun y4 ey4 => ?_)
      have hV := hV y4 ey4
      refine lv_lstore_n (lv' := [(3, .long y4), (0, .ref (ad pa0)), (5, .int v5)]) C0.x C0.b dX8_set_37 rfl hl (by decide) rfl (fun ls hl => ?_)
      obtain ⟨x5, ex5⟩ : ∃ z : Int32, z = v5 + 1 := ⟨_, rfl⟩
      have hV := hV x5 ex5
      refine lv_iinc (v := x5) (lv' := [(5, .int x5), (3, .long y4), (0, .ref (ad pa0))]) C0.x C0.b dX8_set_38 hl (k := 2) rfl (by rw [ex5]; rfl) (by decide) rfl (fun ls hl => ?_)
      refine lv_goto (tgt := 16) C0.x C0.b dX8_set_41 (by decide) ?_
      exact ih _ _ _ hV _ _ hw _ (lv_sub hl [2, 1, 0] rfl)
def V_X8_set (ai0 L0 : Nat) (p1 : Int64) (S : SS) (post : SS → Prop) : Prop :=
  (((0 : Int64) ≤ p1 → (∃ n16 : Nat, V_X8_set_16 ai0 L0   post n16 p1 (0 : Int32) S)) ∧ (¬ (0 : Int64) ≤ p1 → (∀ y6 : Int64, y6 = (-p1) → (∃ n16 : Nat, V_X8_set_16 ai0 L0   post n16 y6 (0 : Int32) S))))
set_option maxHeartbeats 4000000 in
set_option maxRecDepth 100000 in
theorem c_X8_set {pa0 ai0 L0 : Nat} (hO0 : lnA ad cI cJ X pa0 ai0 L0) {S : SS} {p1 : Int64} {post : SS → Prop} (hV : V_X8_set ai0 L0 p1 S post) : MV l yX8_set wsX8_set rm_X8_set [.ref (ad pa0), .long p1] D n0 ad cI cJ X S post := by
  refine Met.ofW (cc := cX8_set) (maxL := 6) (ret := none) (by decide) rfl ?_
  intro p e s m args below meth c s₁ B hml hv
  obtain ⟨rfl, hv⟩ := hv
  have C0 := Bd.mk B hml (atoms_spec (ws := wsX8_set) B.pre) (findClass_of_methodNamed B.named) hv.1
  have hw : Wh D n0 ad cI cJ X S s s.heap [] := ⟨hv.2.1, hv.2.2, va_S.rf⟩
  refine r_entry (Nat.le_of_ble_eq_true rfl) (fun ls hl => ?_)
  have hl : lv_has ls 6 [(0, .ref (ad pa0)), (1, .long p1)] := hl
  unfold V_X8_set at hV
  refine lv_lload_n C0.x C0.b dX8_set_0 rfl (lv_at hl 1 rfl) ?_
  refine lv_lconst (v := 0) C0.x C0.b dX8_set_1 (by decide) ?_
  refine r_lcmp C0 dX8_set_2 ?_
  refine lv_if_ge (tgt := 11) C0.x C0.b dX8_set_3 (by decide) (fun c1 => ?_) (fun c1 => ?_)
  · have hV := hV.1 ((lc_ge _ _).mp c1)
    refine lv_lload_n C0.x C0.b dX8_set_11 rfl (lv_at hl 1 rfl) ?_
    refine lv_lstore_n (lv' := [(3, .long p1), (0, .ref (ad pa0)), (1, .long p1)]) C0.x C0.b dX8_set_12 rfl hl (by decide) rfl (fun ls hl => ?_)
    refine lv_iconst (v := 0) C0.x C0.b dX8_set_13 (by decide) ?_
    refine lv_istore (lv' := [(5, .int (0 : Int32)), (3, .long p1), (0, .ref (ad pa0)), (1, .long p1)]) C0.x C0.b dX8_set_14 hl (by decide) rfl (fun ls hl => ?_)
    obtain ⟨n16, hV⟩ := hV
    exact lp_X8_set_16 hO0  post C0  n16 _ _ _ hV _ _ hw _ (lv_sub hl [2, 1, 0] rfl)
  · have hV := hV.2 (fun h => c1 ((lc_ge _ _).mpr h))
    refine lv_lload_n C0.x C0.b dX8_set_6 rfl (lv_at hl 1 rfl) ?_
    refine lv_lneg C0.x C0.b dX8_set_7 ?_
    refine lv_goto (tgt := 12) C0.x C0.b dX8_set_8 (by decide) ?_
    refine lv_topl (fun y6 ey6 => ?_)
    have hV := hV y6 ey6
    refine lv_lstore_n (lv' := [(3, .long y6), (0, .ref (ad pa0)), (1, .long p1)]) C0.x C0.b dX8_set_12 rfl hl (by decide) rfl (fun ls hl => ?_)
    refine lv_iconst (v := 0) C0.x C0.b dX8_set_13 (by decide) ?_
    refine lv_istore (lv' := [(5, .int (0 : Int32)), (3, .long y6), (0, .ref (ad pa0)), (1, .long p1)]) C0.x C0.b dX8_set_14 hl (by decide) rfl (fun ls hl => ?_)
    obtain ⟨n16, hV⟩ := hV
    exact lp_X8_set_16 hO0  post C0  n16 _ _ _ hV _ _ hw _ (lv_sub hl [2, 1, 0] rfl)
/-! StepBenchModel.times([JJ)V -/
abbrev rm_X8_times : Room := { frames := 0, cells := 0, slots := 0, locals := 0 }
set_option maxRecDepth 20000 in
theorem cw_X8_times_118 : Cond.constantLong RX8 118 1000000000 ∈ wsX8_times := by decide +kernel
set_option maxRecDepth 20000 in
theorem hd_X8_times : yX8_times.cls ≠ "java/lang/invoke/MethodHandle" ∧ yX8_times.cls ≠ "java/lang/invoke/VarHandle" ∧ (parseMethodDescriptor yX8_times.desc).map (fun d => d.parameters.length) = some 2 := by decide +kernel
def V_X8_times_5 (ai0 L0 : Nat) (v1 : Int64)  (post : SS → Prop) : Nat → Int64 → Int32 → SS → Prop
  | 0, _, _, _ => False
  | n + 1, v3, v5, S =>
    (((26 : Int32) ≤ v5 → (post S)) ∧ (¬ (26 : Int32) ≤ v5 → (vp_in v5 L0 ∧ (∀ y2 : Int64, y2 = (((gA S ai0 v5.toNatClampNeg) * v1) + v3) → (vp_in v5 L0 ∧ ∀ S3 : SS, S3 = (sA S ai0 (vp_updL (gA S ai0) v5.toNatClampNeg (lrm y2 (1000000000 : Int64)))) → (∀ y4 : Int64, y4 = (y2 / (1000000000 : Int64)) → (∀ x5 : Int32, x5 = v5 + 1 → (V_X8_times_5 ai0 L0 v1  post n y4 x5 S3))))))))
set_option maxHeartbeats 4000000 in
set_option maxRecDepth 100000 in
theorem lp_X8_times_5 {pa0 ai0 L0 : Nat} (hO0 : lnA ad cI cJ X pa0 ai0 L0) (v1 : Int64)  (post : SS → Prop) (C0 : Bd p s m meth c args cX8_times 8 none wsX8_times RX8 D n0 cI cJ) : ∀ (n : Nat) (v3 : Int64) (v5 : Int32) (S : SS), V_X8_times_5 ai0 L0 v1  post n v3 v5 S → ∀ (H : Heap) (locs : List Loc), Wh D n0 ad cI cJ X S s H locs → ∀ ls : Array Slot, lv_has ls 8 [(0, .ref (ad pa0)), (1, .long v1), (3, .long v3), (5, .int v5)] → W p l e rm_X8_times s m args below meth c H locs 0 0 (MQ below (va_Qv post (fun S' t => Wd D n0 ad cI cJ X S' t) (fr n0)) args s 0 0 (fr n0)) (F0 m 5 ls []) := by
  intro n
  induction n with
  | zero => intro v3 v5 S hV; exact False.elim hV
  | succ n ih =>
    intro v3 v5 S hV H locs hw ls hl
    rw [V_X8_times_5] at hV
    refine lv_iload C0.x C0.b dX8_times_5 (lv_at hl 3 rfl) ?_
    refine lv_bipush (v := 26) C0.x C0.b dX8_times_7 (by decide) ?_
    refine lv_icmp_ge (tgt := 45) C0.x C0.b dX8_times_9 (by decide) (fun c1 => ?_) (fun c1 => ?_)
    · have hV := hV.1 c1
      exact r_vret C0 rfl hw hV dX8_times_45
    · have hV := hV.2 c1
      refine lv_aload_n C0.x C0.b dX8_times_12 rfl (lv_at hl 0 rfl) ?_
      refine lv_iload C0.x C0.b dX8_times_13 (lv_at hl 3 rfl) ?_
      refine r_lald C0 hw (hO0 S).1 hV.1 dX8_times_15 ?_
      have hV := hV.2
      refine lv_lload_n C0.x C0.b dX8_times_16 rfl (lv_at hl 1 rfl) ?_
      refine lv_lmul C0.x C0.b dX8_times_17 ?_
      refine lv_lload_n C0.x C0.b dX8_times_18 rfl (lv_at hl 2 rfl) ?_
      refine lv_ladd C0.x C0.b dX8_times_19 ?_
      refine lv_topl (fun y2 ey2 => ?_)
      have hV := hV y2 ey2
      refine lv_lstore (lv' := [(6, .long y2), (0, .ref (ad pa0)), (1, .long v1), (3, .long v3), (5, .int v5)]) C0.x C0.b dX8_times_20 hl (by decide) rfl (fun ls hl => ?_)
      refine lv_aload_n C0.x C0.b dX8_times_22 rfl (lv_at hl 1 rfl) ?_
      refine lv_iload C0.x C0.b dX8_times_23 (lv_at hl 4 rfl) ?_
      refine lv_lload C0.x C0.b dX8_times_25 (lv_at hl 0 rfl) ?_
      refine lv_ldc2 (v := 1000000000) C0.x C0.b C0.ow (C0.ts _ cw_X8_times_118) dX8_times_27 ?_
      refine lv_lrem C0.x C0.b dX8_times_30 (by decide) ?_
      refine r_last C0 hw (hO0 S).1 hV.1 dX8_times_31 (S' := (sA S ai0 (vp_updL (gA S ai0) v5.toNatClampNeg (lrm y2 (1000000000 : Int64))))) ((hO0 S).2 (vp_updL (gA S ai0) v5.toNatClampNeg (lrm y2 (1000000000 : Int64)))) (fun S3 H locs eS3 hw => ?_)
      have hV := hV.2 S3 eS3
      refine lv_lload C0.x C0.b dX8_times_32 (lv_at hl 0 rfl) ?_
      refine lv_ldc2 (v := 1000000000) C0.x C0.b C0.ow (C0.ts _ cw_X8_times_118) dX8_times_34 ?_
      refine lv_ldiv C0.x C0.b dX8_times_37 (by decide) ?_
      refine lv_topl (fun y4 ey4 => ?_)
      have hV := hV y4 ey4
      refine lv_lstore_n (lv' := [(3, .long y4), (6, .long y2), (0, .ref (ad pa0)), (1, .long v1), (5, .int v5)]) C0.x C0.b dX8_times_38 rfl hl (by decide) rfl (fun ls hl => ?_)
      obtain ⟨x5, ex5⟩ : ∃ z : Int32, z = v5 + 1 := ⟨_, rfl⟩
      have hV := hV x5 ex5
      refine lv_iinc (v := x5) (lv' := [(5, .int x5), (3, .long y4), (6, .long y2), (0, .ref (ad pa0)), (1, .long v1)]) C0.x C0.b dX8_times_39 hl (k := 4) rfl (by rw [ex5]; rfl) (by decide) rfl (fun ls hl => ?_)
      refine lv_goto (tgt := 5) C0.x C0.b dX8_times_42 (by decide) ?_
      exact ih _ _ _ hV _ _ hw _ (lv_sub hl [3, 4, 1, 0] rfl)
def V_X8_times (ai0 L0 : Nat) (p1 : Int64) (S : SS) (post : SS → Prop) : Prop :=
  (∃ n5 : Nat, V_X8_times_5 ai0 L0 p1  post n5 (0 : Int64) (0 : Int32) S)
set_option maxHeartbeats 4000000 in
set_option maxRecDepth 100000 in
theorem c_X8_times {pa0 ai0 L0 : Nat} (hO0 : lnA ad cI cJ X pa0 ai0 L0) {S : SS} {p1 : Int64} {post : SS → Prop} (hV : V_X8_times ai0 L0 p1 S post) : MV l yX8_times wsX8_times rm_X8_times [.ref (ad pa0), .long p1] D n0 ad cI cJ X S post := by
  refine Met.ofW (cc := cX8_times) (maxL := 8) (ret := none) (by decide) rfl ?_
  intro p e s m args below meth c s₁ B hml hv
  obtain ⟨rfl, hv⟩ := hv
  have C0 := Bd.mk B hml (atoms_spec (ws := wsX8_times) B.pre) (findClass_of_methodNamed B.named) hv.1
  have hw : Wh D n0 ad cI cJ X S s s.heap [] := ⟨hv.2.1, hv.2.2, va_S.rf⟩
  refine r_entry (Nat.le_of_ble_eq_true rfl) (fun ls hl => ?_)
  have hl : lv_has ls 8 [(0, .ref (ad pa0)), (1, .long p1)] := hl
  unfold V_X8_times at hV
  refine lv_lconst (v := 0) C0.x C0.b dX8_times_0 (by decide) ?_
  refine lv_lstore_n (lv' := [(3, .long (0 : Int64)), (0, .ref (ad pa0)), (1, .long p1)]) C0.x C0.b dX8_times_1 rfl hl (by decide) rfl (fun ls hl => ?_)
  refine lv_iconst (v := 0) C0.x C0.b dX8_times_2 (by decide) ?_
  refine lv_istore (lv' := [(5, .int (0 : Int32)), (3, .long (0 : Int64)), (0, .ref (ad pa0)), (1, .long p1)]) C0.x C0.b dX8_times_3 hl (by decide) rfl (fun ls hl => ?_)
  obtain ⟨n5, hV⟩ := hV
  exact lp_X8_times_5 hO0 _ post C0  n5 _ _ _ hV _ _ hw _ (lv_sub hl [2, 3, 1, 0] rfl)
/-! StepBenchModel.takesOne(III)I -/
abbrev rm_X8_takesOne : Room := { frames := 3, cells := 0, slots := 0, locals := 77 }
set_option maxRecDepth 20000 in
theorem fw_X8_takesOne_105 : Cond.fieldLink RX8 105 "StepBenchModel" "m" "I" ∈ wsX8_takesOne := by decide +kernel
set_option maxRecDepth 20000 in
theorem iw_X8_takesOne_X8 : ∀ w ∈ wsX80, w ∈ wsX8_takesOne := by decide +kernel
set_option maxRecDepth 20000 in
theorem fw_X8_takesOne_39 : Cond.fieldLink RX8 39 "StepBenchModel" "tried" "[I" ∈ wsX8_takesOne := by decide +kernel
set_option maxRecDepth 20000 in
theorem fw_X8_takesOne_20 : Cond.fieldLink RX8 20 "StepBenchModel" "rule" "[J" ∈ wsX8_takesOne := by decide +kernel
set_option maxRecDepth 20000 in
theorem hd_X8_takesOne : yX8_takesOne.cls = RX8 ∧ yX8_takesOne.cls ≠ "java/lang/invoke/MethodHandle" ∧ yX8_takesOne.cls ≠ "java/lang/invoke/VarHandle" ∧ (parseMethodDescriptor yX8_takesOne.desc).map (fun d => d.parameters.length) = some 3 := by decide +kernel
def V_X8_takesOne_11  (v3 : Int32)  (post : Int32 → SS → Prop) : Nat → Int64 → Int64 → Int32 → SS → Prop
  | 0, _, _, _, _ => False
  | n + 1, v4, v6, v8, S =>
    ((v3 ≤ v8 → (post (0 : Int32) S)) ∧ (¬ v3 ≤ v8 → (¬ (gI S 26).toInt64 = 0 ∧ (((lrm v6 (gI S 26).toInt64) = (0 : Int64) → (V_X8_restBy v4 (gI S 26) S (fun (r3 : Int64) (S4 : SS) => (∀ x5 : Int32, x5 = r3.toInt32 → (vp_in v8 40 ∧ ∀ S6 : SS, S6 = (sB S4 1 (upd (gB S4 1) v8.toNatClampNeg x5)) → (vp_in ((3 : Int32) * x5) 192 ∧ (vp_in (((3 : Int32) * x5) + (1 : Int32)) 192 ∧ (vp_in (((3 : Int32) * x5) + (2 : Int32)) 192 ∧ (¬ (gA S6 32 (((3 : Int32) * x5) + (2 : Int32)).toNatClampNeg) = 0 ∧ (∀ y7 : Int64, y7 = ((((gA S6 32 ((3 : Int32) * x5).toNatClampNeg) * v4) + (gA S6 32 (((3 : Int32) * x5) + (1 : Int32)).toNatClampNeg)) / (gA S6 32 (((3 : Int32) * x5) + (2 : Int32)).toNatClampNeg)) → (vp_in ((3 : Int32) * x5) 192 ∧ (vp_in (((3 : Int32) * x5) + (2 : Int32)) 192 ∧ (¬ (gA S6 32 (((3 : Int32) * x5) + (2 : Int32)).toNatClampNeg) = 0 ∧ (∀ y8 : Int64, y8 = (((gA S6 32 ((3 : Int32) * x5).toNatClampNeg) * v6) / (gA S6 32 (((3 : Int32) * x5) + (2 : Int32)).toNatClampNeg)) → (V_X8_shaped 1 40 (v8 + (1 : Int32)) S6 (fun (r9 : Int32) (S10 : SS) => ((r9 = 0 → (post (-4 : Int32) S10)) ∧ (¬ r9 = 0 → (V_X8_isNumber y7 S10 (fun (r12 : Int32) (S13 : SS) => ((r12 = 0 → (post (-4 : Int32) S13)) ∧ (¬ r12 = 0 → (V_X8_isNumber y8 S13 (fun (r15 : Int32) (S16 : SS) => ((r15 = 0 → (post (-4 : Int32) S16)) ∧ (¬ r15 = 0 → (∀ x18 : Int32, x18 = v8 + 1 → (V_X8_takesOne_11  v3  post n y7 y8 x18 S16)))))))))))))))))))))))))))) ∧ (¬ (lrm v6 (gI S 26).toInt64) = (0 : Int64) → (post (-3 : Int32) S))))))
set_option maxHeartbeats 4000000 in
set_option maxRecDepth 100000 in
theorem lp_X8_takesOne_11  (v3 : Int32)  (post : Int32 → SS → Prop) (C0 : Bd p s m meth c args cX8_takesOne 10 (some .int) wsX8_takesOne RX8 D n0 cI cJ) : ∀ (n : Nat) (v4 : Int64) (v6 : Int64) (v8 : Int32) (S : SS), V_X8_takesOne_11  v3  post n v4 v6 v8 S → ∀ (H : Heap) (locs : List Loc), Wh D n0 ad cI cJ X S s H locs → ∀ ls : Array Slot, lv_has ls 10 [(0, .ref (ad 48)), (3, .int v3), (4, .long v4), (6, .long v6), (8, .int v8)] → W p l e rm_X8_takesOne s m args below meth c H locs 0 0 (MQ below (va_Qi post (fun S' t => Wd D n0 ad cI cJ X S' t) (fr n0)) args s 0 0 (fr n0)) (F0 m 11 ls []) := by
  intro n
  induction n with
  | zero => intro v4 v6 v8 S hV; exact False.elim hV
  | succ n ih =>
    intro v4 v6 v8 S hV H locs hw ls hl
    rw [V_X8_takesOne_11] at hV
    refine lv_iload C0.x C0.b dX8_takesOne_11 (lv_at hl 4 rfl) ?_
    refine lv_iload_n C0.x C0.b dX8_takesOne_13 rfl (lv_at hl 1 rfl) ?_
    refine lv_icmp_ge (tgt := 158) C0.x C0.b dX8_takesOne_14 (by decide) (fun c1 => ?_) (fun c1 => ?_)
    · have hV := hV.1 c1
      refine lv_iconst (v := 0) C0.x C0.b dX8_takesOne_158 (by decide) ?_
      exact r_iret C0 rfl hw hV dX8_takesOne_159
    · have hV := hV.2 c1
      refine lv_lload C0.x C0.b dX8_takesOne_17 (lv_at hl 3 rfl) ?_
      refine lv_aload_n C0.x C0.b dX8_takesOne_19 rfl (lv_at hl 0 rfl) ?_
      refine r_get C0 hw (C := RX8) (T := TX8) (N := 33) (v := .int (gI S 26)) iw_X8_takesOne_X8 (lg_48 ad cI cJ X S) rfl 8 (by decide) (C0.ts _ fw_X8_takesOne_105) rfl dX8_takesOne_20 ?_
      refine lv_i2l C0.x C0.b dX8_takesOne_23 rfl ?_
      refine lv_lrem C0.x C0.b dX8_takesOne_24 hV.1 ?_
      have hV := hV.2
      refine lv_lconst (v := 0) C0.x C0.b dX8_takesOne_25 (by decide) ?_
      refine r_lcmp C0 dX8_takesOne_26 ?_
      refine lv_if_eq (tgt := 33) C0.x C0.b dX8_takesOne_27 (by decide) (fun c2 => ?_) (fun c2 => ?_)
      · have hV := hV.1 ((lc_eq _ _).mp c2)
        refine lv_lload C0.x C0.b dX8_takesOne_33 (lv_at hl 2 rfl) ?_
        refine lv_aload_n C0.x C0.b dX8_takesOne_35 rfl (lv_at hl 0 rfl) ?_
        refine r_get C0 hw (C := RX8) (T := TX8) (N := 33) (v := .int (gI S 26)) iw_X8_takesOne_X8 (lg_48 ad cI cJ X S) rfl 8 (by decide) (C0.ts _ fw_X8_takesOne_105) rfl dX8_takesOne_36 ?_
        refine r_cS_l (As := [.long v4, .int (gI S 26)]) (rest := []) C0 hw (c_X8_restBy  hV) (va_cwS 2 C0.ts gX8_takesOne_X8_restBy rfl rfl rfl hd_X8_restBy ⟨Nat.le_of_ble_eq_true rfl, Nat.le_of_ble_eq_true rfl⟩) rfl hl.1 rfl (Nat.le_of_ble_eq_true rfl) ⟨Nat.le_of_ble_eq_true rfl, Nat.le_of_ble_eq_true rfl⟩ dX8_takesOne_39 (fun r3 S4 H locs hV hw => ?_)
        refine lv_l2i C0.x C0.b dX8_takesOne_42 rfl ?_
        refine lv_topi (fun x5 ex5 => ?_)
        have hV := hV x5 ex5
        refine lv_istore (lv' := [(9, .int x5), (0, .ref (ad 48)), (3, .int v3), (4, .long v4), (6, .long v6), (8, .int v8)]) C0.x C0.b dX8_takesOne_43 hl (by decide) rfl (fun ls hl => ?_)
        refine lv_aload_n C0.x C0.b dX8_takesOne_45 rfl (lv_at hl 1 rfl) ?_
        refine r_get C0 hw (C := RX8) (T := TX8) (N := 33) (v := .ref (ad 57)) iw_X8_takesOne_X8 (lg_48 ad cI cJ X S4) rfl 22 (by decide) (C0.ts _ fw_X8_takesOne_39) rfl dX8_takesOne_46 ?_
        refine lv_iload C0.x C0.b dX8_takesOne_49 (lv_at hl 5 rfl) ?_
        refine lv_iload C0.x C0.b dX8_takesOne_51 (lv_at hl 0 rfl) ?_
        refine r_iast C0 hw (lg_57 ad cI cJ X S4) hV.1 dX8_takesOne_53 (S' := (sB S4 1 (upd (gB S4 1) v8.toNatClampNeg x5))) (ls_57 ad cI cJ X S4 (upd (gB S4 1) v8.toNatClampNeg x5)) (fun S6 H locs eS6 hw => ?_)
        have hV := hV.2 S6 eS6
        refine lv_aload_n C0.x C0.b dX8_takesOne_54 rfl (lv_at hl 1 rfl) ?_
        refine r_get C0 hw (C := RX8) (T := TX8) (N := 33) (v := .ref (ad 51)) iw_X8_takesOne_X8 (lg_48 ad cI cJ X S6) rfl 9 (by decide) (C0.ts _ fw_X8_takesOne_20) rfl dX8_takesOne_55 ?_
        refine lv_iconst (v := 3) C0.x C0.b dX8_takesOne_58 (by decide) ?_
        refine lv_iload C0.x C0.b dX8_takesOne_59 (lv_at hl 0 rfl) ?_
        refine lv_imul C0.x C0.b dX8_takesOne_61 ?_
        refine r_lald C0 hw (lg_51 ad cI cJ X S6) hV.1 dX8_takesOne_62 ?_
        have hV := hV.2
        refine lv_lload C0.x C0.b dX8_takesOne_63 (lv_at hl 3 rfl) ?_
        refine lv_lmul C0.x C0.b dX8_takesOne_65 ?_
        refine lv_aload_n C0.x C0.b dX8_takesOne_66 rfl (lv_at hl 1 rfl) ?_
        refine r_get C0 hw (C := RX8) (T := TX8) (N := 33) (v := .ref (ad 51)) iw_X8_takesOne_X8 (lg_48 ad cI cJ X S6) rfl 9 (by decide) (C0.ts _ fw_X8_takesOne_20) rfl dX8_takesOne_67 ?_
        refine lv_iconst (v := 3) C0.x C0.b dX8_takesOne_70 (by decide) ?_
        refine lv_iload C0.x C0.b dX8_takesOne_71 (lv_at hl 0 rfl) ?_
        refine lv_imul C0.x C0.b dX8_takesOne_73 ?_
        refine lv_iconst (v := 1) C0.x C0.b dX8_takesOne_74 (by decide) ?_
        refine lv_iadd C0.x C0.b dX8_takesOne_75 ?_
        refine r_lald C0 hw (lg_51 ad cI cJ X S6) hV.1 dX8_takesOne_76 ?_
        have hV := hV.2
        refine lv_ladd C0.x C0.b dX8_takesOne_77 ?_
        refine lv_aload_n C0.x C0.b dX8_takesOne_78 rfl (lv_at hl 1 rfl) ?_
        refine r_get C0 hw (C := RX8) (T := TX8) (N := 33) (v := .ref (ad 51)) iw_X8_takesOne_X8 (lg_48 ad cI cJ X S6) rfl 9 (by decide) (C0.ts _ fw_X8_takesOne_20) rfl dX8_takesOne_79 ?_
        refine lv_iconst (v := 3) C0.x C0.b dX8_takesOne_82 (by decide) ?_
        refine lv_iload C0.x C0.b dX8_takesOne_83 (lv_at hl 0 rfl) ?_
        refine lv_imul C0.x C0.b dX8_takesOne_85 ?_
        refine lv_iconst (v := 2) C0.x C0.b dX8_takesOne_86 (by decide) ?_
        refine lv_iadd C0.x C0.b dX8_takesOne_87 ?_
        refine r_lald C0 hw (lg_51 ad cI cJ X S6) hV.1 dX8_takesOne_88 ?_
        have hV := hV.2
        refine lv_ldiv C0.x C0.b dX8_takesOne_89 hV.1 ?_
        have hV := hV.2
        refine lv_topl (fun y7 ey7 => ?_)
        have hV := hV y7 ey7
        refine lv_lstore (lv' := [(4, .long y7), (9, .int x5), (0, .ref (ad 48)), (3, .int v3), (6, .long v6), (8, .int v8)]) C0.x C0.b dX8_takesOne_90 hl (by decide) rfl (fun ls hl => ?_)
        refine lv_aload_n C0.x C0.b dX8_takesOne_92 rfl (lv_at hl 2 rfl) ?_
        refine r_get C0 hw (C := RX8) (T := TX8) (N := 33) (v := .ref (ad 51)) iw_X8_takesOne_X8 (lg_48 ad cI cJ X S6) rfl 9 (by decide) (C0.ts _ fw_X8_takesOne_20) rfl dX8_takesOne_93 ?_
        refine lv_iconst (v := 3) C0.x C0.b dX8_takesOne_96 (by decide) ?_
        refine lv_iload C0.x C0.b dX8_takesOne_97 (lv_at hl 1 rfl) ?_
        refine lv_imul C0.x C0.b dX8_takesOne_99 ?_
        refine r_lald C0 hw (lg_51 ad cI cJ X S6) hV.1 dX8_takesOne_100 ?_
        have hV := hV.2
        refine lv_lload C0.x C0.b dX8_takesOne_101 (lv_at hl 4 rfl) ?_
        refine lv_lmul C0.x C0.b dX8_takesOne_103 ?_
        refine lv_aload_n C0.x C0.b dX8_takesOne_104 rfl (lv_at hl 2 rfl) ?_
        refine r_get C0 hw (C := RX8) (T := TX8) (N := 33) (v := .ref (ad 51)) iw_X8_takesOne_X8 (lg_48 ad cI cJ X S6) rfl 9 (by decide) (C0.ts _ fw_X8_takesOne_20) rfl dX8_takesOne_105 ?_
        refine lv_iconst (v := 3) C0.x C0.b dX8_takesOne_108 (by decide) ?_
        refine lv_iload C0.x C0.b dX8_takesOne_109 (lv_at hl 1 rfl) ?_
        refine lv_imul C0.x C0.b dX8_takesOne_111 ?_
        refine lv_iconst (v := 2) C0.x C0.b dX8_takesOne_112 (by decide) ?_
        refine lv_iadd C0.x C0.b dX8_takesOne_113 ?_
        refine r_lald C0 hw (lg_51 ad cI cJ X S6) hV.1 dX8_takesOne_114 ?_
        have hV := hV.2
        refine lv_ldiv C0.x C0.b dX8_takesOne_115 hV.1 ?_
        have hV := hV.2
        refine lv_topl (fun y8 ey8 => ?_)
        have hV := hV y8 ey8
        refine lv_lstore (lv' := [(6, .long y8), (4, .long y7), (9, .int x5), (0, .ref (ad 48)), (3, .int v3), (8, .int v8)]) C0.x C0.b dX8_takesOne_116 hl (by decide) rfl (fun ls hl => ?_)
        refine lv_aload_n C0.x C0.b dX8_takesOne_118 rfl (lv_at hl 3 rfl) ?_
        refine lv_aload_n C0.x C0.b dX8_takesOne_119 rfl (lv_at hl 3 rfl) ?_
        refine r_get C0 hw (C := RX8) (T := TX8) (N := 33) (v := .ref (ad 57)) iw_X8_takesOne_X8 (lg_48 ad cI cJ X S6) rfl 22 (by decide) (C0.ts _ fw_X8_takesOne_39) rfl dX8_takesOne_120 ?_
        refine lv_iload C0.x C0.b dX8_takesOne_123 (lv_at hl 5 rfl) ?_
        refine lv_iconst (v := 1) C0.x C0.b dX8_takesOne_125 (by decide) ?_
        refine lv_iadd C0.x C0.b dX8_takesOne_126 ?_
        refine r_cV_i (As := [.ref (ad 57), .int (v8 + (1 : Int32))]) (rest := []) C0 hw (c_X8_shaped (la_57 ad cI cJ X) hV) (cwV 2 C0.ts gX8_takesOne_X8_shaped rfl rfl rfl hd_X8_shaped ⟨Nat.le_of_ble_eq_true rfl, Nat.le_of_ble_eq_true rfl⟩) (lg_48 ad cI cJ X S6) rfl rfl hl.1 rfl (Nat.le_of_ble_eq_true rfl) ⟨Nat.le_of_ble_eq_true rfl, Nat.le_of_ble_eq_true rfl⟩ dX8_takesOne_127 (fun r9 S10 H locs hV hw => ?_)
        refine lv_if_eq (tgt := 149) C0.x C0.b dX8_takesOne_130 (by decide) (fun c11 => ?_) (fun c11 => ?_)
        · have hV := hV.1 c11
          refine lv_bipush (v := -4) C0.x C0.b dX8_takesOne_149 (by decide) ?_
          exact r_iret C0 rfl hw hV dX8_takesOne_151
        · have hV := hV.2 c11
          refine lv_lload C0.x C0.b dX8_takesOne_133 (lv_at hl 1 rfl) ?_
          refine r_cS_i (As := [.long y7]) (rest := []) C0 hw (c_X8_isNumber  hV) (va_cwS 1 C0.ts gX8_takesOne_X8_isNumber rfl rfl rfl hd_X8_isNumber ⟨Nat.le_of_ble_eq_true rfl, Nat.le_of_ble_eq_true rfl⟩) rfl hl.1 rfl (Nat.le_of_ble_eq_true rfl) ⟨Nat.le_of_ble_eq_true rfl, Nat.le_of_ble_eq_true rfl⟩ dX8_takesOne_135 (fun r12 S13 H locs hV hw => ?_)
          refine lv_if_eq (tgt := 149) C0.x C0.b dX8_takesOne_138 (by decide) (fun c14 => ?_) (fun c14 => ?_)
          · have hV := hV.1 c14
            refine lv_bipush (v := -4) C0.x C0.b dX8_takesOne_149 (by decide) ?_
            exact r_iret C0 rfl hw hV dX8_takesOne_151
          · have hV := hV.2 c14
            refine lv_lload C0.x C0.b dX8_takesOne_141 (lv_at hl 0 rfl) ?_
            refine r_cS_i (As := [.long y8]) (rest := []) C0 hw (c_X8_isNumber  hV) (va_cwS 1 C0.ts gX8_takesOne_X8_isNumber rfl rfl rfl hd_X8_isNumber ⟨Nat.le_of_ble_eq_true rfl, Nat.le_of_ble_eq_true rfl⟩) rfl hl.1 rfl (Nat.le_of_ble_eq_true rfl) ⟨Nat.le_of_ble_eq_true rfl, Nat.le_of_ble_eq_true rfl⟩ dX8_takesOne_143 (fun r15 S16 H locs hV hw => ?_)
            refine lv_if_ne (tgt := 152) C0.x C0.b dX8_takesOne_146 (by decide) (fun c17 => ?_) (fun c17 => ?_)
            · have hV := hV.2 c17
              obtain ⟨x18, ex18⟩ : ∃ z : Int32, z = v8 + 1 := ⟨_, rfl⟩
              have hV := hV x18 ex18
              refine lv_iinc (v := x18) (lv' := [(8, .int x18), (6, .long y8), (4, .long y7), (9, .int x5), (0, .ref (ad 48)), (3, .int v3)]) C0.x C0.b dX8_takesOne_152 hl (k := 5) rfl (by rw [ex18]; rfl) (by decide) rfl (fun ls hl => ?_)
              refine lv_goto (tgt := 11) C0.x C0.b dX8_takesOne_155 (by decide) ?_
              exact ih _ _ _ _ hV _ _ hw _ (lv_sub hl [4, 5, 2, 1, 0] rfl)
            · have hV := hV.1 c17
              refine lv_bipush (v := -4) C0.x C0.b dX8_takesOne_149 (by decide) ?_
              exact r_iret C0 rfl hw hV dX8_takesOne_151
      · have hV := hV.2 (fun h => c2 ((lc_eq _ _).mpr h))
        refine lv_bipush (v := -3) C0.x C0.b dX8_takesOne_30 (by decide) ?_
        exact r_iret C0 rfl hw hV dX8_takesOne_32
def V_X8_takesOne  (p0 : Int32) (p1 : Int32) (p2 : Int32) (S : SS) (post : Int32 → SS → Prop) : Prop :=
  (∃ n11 : Nat, V_X8_takesOne_11  p2  post n11 p0.toInt64 p1.toInt64 (0 : Int32) S)
set_option maxHeartbeats 4000000 in
set_option maxRecDepth 100000 in
theorem c_X8_takesOne  {S : SS} {p0 : Int32} {p1 : Int32} {p2 : Int32} {post : Int32 → SS → Prop} (hV : V_X8_takesOne  p0 p1 p2 S post) : MI l yX8_takesOne wsX8_takesOne rm_X8_takesOne [.ref (ad 48), .int p0, .int p1, .int p2] D n0 ad cI cJ X S post := by
  refine Met.ofW (cc := cX8_takesOne) (maxL := 10) (ret := (some .int)) (by decide) rfl ?_
  intro p e s m args below meth c s₁ B hml hv
  obtain ⟨rfl, hv⟩ := hv
  have C0 := Bd.mk B hml (atoms_spec (ws := wsX8_takesOne) B.pre) (findClass_of_methodNamed B.named) hv.1
  have hw : Wh D n0 ad cI cJ X S s s.heap [] := ⟨hv.2.1, hv.2.2, va_S.rf⟩
  refine r_entry (Nat.le_of_ble_eq_true rfl) (fun ls hl => ?_)
  have hl : lv_has ls 10 [(0, .ref (ad 48)), (1, .int p0), (2, .int p1), (3, .int p2)] := hl
  unfold V_X8_takesOne at hV
  refine lv_iload_n C0.x C0.b dX8_takesOne_0 rfl (lv_at hl 1 rfl) ?_
  refine lv_i2l C0.x C0.b dX8_takesOne_1 rfl ?_
  refine lv_lstore (lv' := [(4, .long p0.toInt64), (0, .ref (ad 48)), (1, .int p0), (2, .int p1), (3, .int p2)]) C0.x C0.b dX8_takesOne_2 hl (by decide) rfl (fun ls hl => ?_)
  refine lv_iload_n C0.x C0.b dX8_takesOne_4 rfl (lv_at hl 3 rfl) ?_
  refine lv_i2l C0.x C0.b dX8_takesOne_5 rfl ?_
  refine lv_lstore (lv' := [(6, .long p1.toInt64), (4, .long p0.toInt64), (0, .ref (ad 48)), (1, .int p0), (2, .int p1), (3, .int p2)]) C0.x C0.b dX8_takesOne_6 hl (by decide) rfl (fun ls hl => ?_)
  refine lv_iconst (v := 0) C0.x C0.b dX8_takesOne_8 (by decide) ?_
  refine lv_istore (lv' := [(8, .int (0 : Int32)), (6, .long p1.toInt64), (4, .long p0.toInt64), (0, .ref (ad 48)), (1, .int p0), (2, .int p1), (3, .int p2)]) C0.x C0.b dX8_takesOne_9 hl (by decide) rfl (fun ls hl => ?_)
  obtain ⟨n11, hV⟩ := hV
  exact lp_X8_takesOne_11  _ post C0  n11 _ _ _ _ hV _ _ hw _ (lv_sub hl [3, 6, 2, 1, 0] rfl)
/-! StepBenchModel.falls(I)I -/
abbrev rm_X8_falls : Room := { frames := 4, cells := 0, slots := 0, locals := 106 }
set_option maxRecDepth 20000 in
theorem fw_X8_falls_61 : Cond.fieldLink RX8 61 "StepBenchModel" "thrown" "I" ∈ wsX8_falls := by decide +kernel
set_option maxRecDepth 20000 in
theorem iw_X8_falls_X8 : ∀ w ∈ wsX80, w ∈ wsX8_falls := by decide +kernel
set_option maxRecDepth 20000 in
theorem fw_X8_falls_108 : Cond.fieldLink RX8 108 "StepBenchModel" "sort" "I" ∈ wsX8_falls := by decide +kernel
set_option maxRecDepth 20000 in
theorem cw_X8_falls_202 : Cond.constantLong RX8 202 12 ∈ wsX8_falls := by decide +kernel
set_option maxRecDepth 20000 in
theorem fw_X8_falls_170 : Cond.fieldLink RX8 170 "StepBenchModel" "shapeA" "J" ∈ wsX8_falls := by decide +kernel
set_option maxRecDepth 20000 in
theorem fw_X8_falls_176 : Cond.fieldLink RX8 176 "StepBenchModel" "shapeD" "J" ∈ wsX8_falls := by decide +kernel
set_option maxRecDepth 20000 in
theorem hd_X8_falls : yX8_falls.cls = RX8 ∧ yX8_falls.cls ≠ "java/lang/invoke/MethodHandle" ∧ yX8_falls.cls ≠ "java/lang/invoke/VarHandle" ∧ (parseMethodDescriptor yX8_falls.desc).map (fun d => d.parameters.length) = some 1 := by decide +kernel
def V_X8_falls_48  (v1 : Int32) (v2 : Int32)  (post : Int32 → SS → Prop) : Nat → Int32 → Int32 → SS → Prop
  | 0, _, _, _ => False
  | n + 1, v3, v4, S =>
    ((v2 ≤ v4 → (post v3 S)) ∧ (¬ v2 ≤ v4 → (V_X8_takesOne v4 v2 v1 S (fun (r10 : Int32) (S11 : SS) => ((r10 = 0 → (((gJ S11 3) ≤ (gJ S11 1) → (∀ x14 : Int32, x14 = (v3 + (0 : Int32)) → (∀ x15 : Int32, x15 = v4 + 1 → (V_X8_falls_48  v1 v2  post n x14 x15 S11)))) ∧ (¬ (gJ S11 3) ≤ (gJ S11 1) → (∀ x16 : Int32, x16 = (v3 + (1 : Int32)) → (∀ x17 : Int32, x17 = v4 + 1 → (V_X8_falls_48  v1 v2  post n x16 x17 S11)))))) ∧ (¬ r10 = 0 → (post r10 S11)))))))
set_option maxHeartbeats 4000000 in
set_option maxRecDepth 100000 in
theorem lp_X8_falls_48  (v1 : Int32) (v2 : Int32)  (post : Int32 → SS → Prop) (C0 : Bd p s m meth c args cX8_falls 6 (some .int) wsX8_falls RX8 D n0 cI cJ) : ∀ (n : Nat) (v3 : Int32) (v4 : Int32) (S : SS), V_X8_falls_48  v1 v2  post n v3 v4 S → ∀ (H : Heap) (locs : List Loc), Wh D n0 ad cI cJ X S s H locs → ∀ ls : Array Slot, lv_has ls 6 [(0, .ref (ad 48)), (1, .int v1), (2, .int v2), (3, .int v3), (4, .int v4)] → W p l e rm_X8_falls s m args below meth c H locs 0 0 (MQ below (va_Qi post (fun S' t => Wd D n0 ad cI cJ X S' t) (fr n0)) args s 0 0 (fr n0)) (F0 m 48 ls []) := by
  intro n
  induction n with
  | zero => intro v3 v4 S hV; exact False.elim hV
  | succ n ih =>
    intro v3 v4 S hV H locs hw ls hl
    rw [V_X8_falls_48] at hV
    refine lv_iload C0.x C0.b dX8_falls_48 (lv_at hl 4 rfl) ?_
    refine lv_iload_n C0.x C0.b dX8_falls_50 rfl (lv_at hl 2 rfl) ?_
    refine lv_icmp_ge (tgt := 98) C0.x C0.b dX8_falls_51 (by decide) (fun c9 => ?_) (fun c9 => ?_)
    · have hV := hV.1 c9
      refine lv_iload_n C0.x C0.b dX8_falls_98 rfl (lv_at hl 3 rfl) ?_
      exact r_iret C0 rfl hw hV dX8_falls_99
    · have hV := hV.2 c9
      refine lv_aload_n C0.x C0.b dX8_falls_54 rfl (lv_at hl 0 rfl) ?_
      refine lv_iload C0.x C0.b dX8_falls_55 (lv_at hl 4 rfl) ?_
      refine lv_iload_n C0.x C0.b dX8_falls_57 rfl (lv_at hl 2 rfl) ?_
      refine lv_iload_n C0.x C0.b dX8_falls_58 rfl (lv_at hl 1 rfl) ?_
      refine r_cV_i (As := [.int v4, .int v2, .int v1]) (rest := []) C0 hw (c_X8_takesOne  hV) (cwV 3 C0.ts gX8_falls_X8_takesOne rfl rfl rfl hd_X8_takesOne ⟨Nat.le_of_ble_eq_true rfl, Nat.le_of_ble_eq_true rfl⟩) (lg_48 ad cI cJ X S) rfl rfl hl.1 rfl (Nat.le_of_ble_eq_true rfl) ⟨Nat.le_of_ble_eq_true rfl, Nat.le_of_ble_eq_true rfl⟩ dX8_falls_59 (fun r10 S11 H locs hV hw => ?_)
      refine lv_istore (lv' := [(5, .int r10), (0, .ref (ad 48)), (1, .int v1), (2, .int v2), (3, .int v3), (4, .int v4)]) C0.x C0.b dX8_falls_62 hl (by decide) rfl (fun ls hl => ?_)
      refine lv_iload C0.x C0.b dX8_falls_64 (lv_at hl 0 rfl) ?_
      refine lv_if_eq (tgt := 72) C0.x C0.b dX8_falls_66 (by decide) (fun c12 => ?_) (fun c12 => ?_)
      · have hV := hV.1 c12
        refine lv_iload_n C0.x C0.b dX8_falls_72 rfl (lv_at hl 4 rfl) ?_
        refine lv_aload_n C0.x C0.b dX8_falls_73 rfl (lv_at hl 1 rfl) ?_
        refine r_get C0 hw (C := RX8) (T := TX8) (N := 33) (v := .long (gJ S11 1)) iw_X8_falls_X8 (lg_48 ad cI cJ X S11) rfl 19 (by decide) (C0.ts _ fw_X8_falls_170) rfl dX8_falls_74 ?_
        refine lv_aload_n C0.x C0.b dX8_falls_77 rfl (lv_at hl 1 rfl) ?_
        refine r_get C0 hw (C := RX8) (T := TX8) (N := 33) (v := .long (gJ S11 3)) iw_X8_falls_X8 (lg_48 ad cI cJ X S11) rfl 21 (by decide) (C0.ts _ fw_X8_falls_176) rfl dX8_falls_78 ?_
        refine r_lcmp C0 dX8_falls_81 ?_
        refine lv_if_ge (tgt := 89) C0.x C0.b dX8_falls_82 (by decide) (fun c13 => ?_) (fun c13 => ?_)
        · have hV := hV.1 ((lc_ge _ _).mp c13)
          refine lv_iconst (v := 0) C0.x C0.b dX8_falls_89 (by decide) ?_
          refine lv_iadd C0.x C0.b dX8_falls_90 ?_
          refine lv_topi (fun x14 ex14 => ?_)
          have hV := hV x14 ex14
          refine lv_istore_n (lv' := [(3, .int x14), (5, .int r10), (0, .ref (ad 48)), (1, .int v1), (2, .int v2), (4, .int v4)]) C0.x C0.b dX8_falls_91 rfl hl (by decide) rfl (fun ls hl => ?_)
          obtain ⟨x15, ex15⟩ : ∃ z : Int32, z = v4 + 1 := ⟨_, rfl⟩
          have hV := hV x15 ex15
          refine lv_iinc (v := x15) (lv' := [(4, .int x15), (3, .int x14), (5, .int r10), (0, .ref (ad 48)), (1, .int v1), (2, .int v2)]) C0.x C0.b dX8_falls_92 hl (k := 5) rfl (by rw [ex15]; rfl) (by decide) rfl (fun ls hl => ?_)
          refine lv_goto (tgt := 48) C0.x C0.b dX8_falls_95 (by decide) ?_
          exact ih _ _ _ hV _ _ hw _ (lv_sub hl [3, 4, 5, 1, 0] rfl)
        · have hV := hV.2 (fun h => c13 ((lc_ge _ _).mpr h))
          refine lv_iconst (v := 1) C0.x C0.b dX8_falls_85 (by decide) ?_
          refine lv_goto (tgt := 90) C0.x C0.b dX8_falls_86 (by decide) ?_
          refine lv_iadd C0.x C0.b dX8_falls_90 ?_
          refine lv_topi (fun x16 ex16 => ?_)
          have hV := hV x16 ex16
          refine lv_istore_n (lv' := [(3, .int x16), (5, .int r10), (0, .ref (ad 48)), (1, .int v1), (2, .int v2), (4, .int v4)]) C0.x C0.b dX8_falls_91 rfl hl (by decide) rfl (fun ls hl => ?_)
          obtain ⟨x17, ex17⟩ : ∃ z : Int32, z = v4 + 1 := ⟨_, rfl⟩
          have hV := hV x17 ex17
          refine lv_iinc (v := x17) (lv' := [(4, .int x17), (3, .int x16), (5, .int r10), (0, .ref (ad 48)), (1, .int v1), (2, .int v2)]) C0.x C0.b dX8_falls_92 hl (k := 5) rfl (by rw [ex17]; rfl) (by decide) rfl (fun ls hl => ?_)
          refine lv_goto (tgt := 48) C0.x C0.b dX8_falls_95 (by decide) ?_
          exact ih _ _ _ hV _ _ hw _ (lv_sub hl [3, 4, 5, 1, 0] rfl)
      · have hV := hV.2 c12
        refine lv_iload C0.x C0.b dX8_falls_69 (lv_at hl 0 rfl) ?_
        exact r_iret C0 rfl hw hV dX8_falls_71
def V_X8_falls  (p0 : Int32) (S : SS) (post : Int32 → SS → Prop) : Prop :=
  (∀ S1 : SS, S1 = (sI S 20 (0 : Int32)) → (((gI S1 25) = (1 : Int32) → (V_X8_in p0.toInt64 (1 : Int64) (12 : Int64) S1 (fun (r3 : Int32) (S4 : SS) => ((r3 = 0 → (post (-1 : Int32) S4)) ∧ (¬ r3 = 0 → (V_X8_power p0 S4 (fun (r6 : Int32) (S7 : SS) => ((r6 ≤ (20000 : Int32) → (∃ n48 : Nat, V_X8_falls_48  p0 r6  post n48 (0 : Int32) (0 : Int32) S7)) ∧ (¬ r6 ≤ (20000 : Int32) → (post (-2 : Int32) S7)))))))))) ∧ (¬ (gI S1 25) = (1 : Int32) → (post (-1 : Int32) S1))))
set_option maxHeartbeats 4000000 in
set_option maxRecDepth 100000 in
theorem c_X8_falls  {S : SS} {p0 : Int32} {post : Int32 → SS → Prop} (hV : V_X8_falls  p0 S post) : MI l yX8_falls wsX8_falls rm_X8_falls [.ref (ad 48), .int p0] D n0 ad cI cJ X S post := by
  refine Met.ofW (cc := cX8_falls) (maxL := 6) (ret := (some .int)) (by decide) rfl ?_
  intro p e s m args below meth c s₁ B hml hv
  obtain ⟨rfl, hv⟩ := hv
  have C0 := Bd.mk B hml (atoms_spec (ws := wsX8_falls) B.pre) (findClass_of_methodNamed B.named) hv.1
  have hw : Wh D n0 ad cI cJ X S s s.heap [] := ⟨hv.2.1, hv.2.2, va_S.rf⟩
  refine r_entry (Nat.le_of_ble_eq_true rfl) (fun ls hl => ?_)
  have hl : lv_has ls 6 [(0, .ref (ad 48)), (1, .int p0)] := hl
  unfold V_X8_falls at hV
  refine lv_aload_n C0.x C0.b dX8_falls_0 rfl (lv_at hl 0 rfl) ?_
  refine lv_iconst (v := 0) C0.x C0.b dX8_falls_1 (by decide) ?_
  refine r_put C0 hw (C := RX8) (T := TX8) (N := 33) (ty := .int) iw_X8_falls_X8 tyX8 tyX8_ok nmX8 (lg_48 ad cI cJ X S) rfl 0 (by decide) (C0.ts _ fw_X8_falls_61) rfl (by decide +kernel) rfl rfl (Nat.le_of_ble_eq_true rfl) dX8_falls_2 (S' := (sI S 20 (0 : Int32))) (ls_48_0 ad cI cJ X S (0 : Int32)) (fun S1 H locs eS1 hw => ?_)
  have hV := hV S1 eS1
  refine lv_aload_n C0.x C0.b dX8_falls_5 rfl (lv_at hl 0 rfl) ?_
  refine r_get C0 hw (C := RX8) (T := TX8) (N := 33) (v := .int (gI S1 25)) iw_X8_falls_X8 (lg_48 ad cI cJ X S1) rfl 7 (by decide) (C0.ts _ fw_X8_falls_108) rfl dX8_falls_6 ?_
  refine lv_iconst (v := 1) C0.x C0.b dX8_falls_9 (by decide) ?_
  refine lv_icmp_ne (tgt := 25) C0.x C0.b dX8_falls_10 (by decide) (fun c2 => ?_) (fun c2 => ?_)
  · have hV := hV.2 c2
    refine lv_iconst (v := -1) C0.x C0.b dX8_falls_25 (by decide) ?_
    exact r_iret C0 rfl hw hV dX8_falls_26
  · have hV := hV.1 c2
    refine lv_iload_n C0.x C0.b dX8_falls_13 rfl (lv_at hl 1 rfl) ?_
    refine lv_i2l C0.x C0.b dX8_falls_14 rfl ?_
    refine lv_lconst (v := 1) C0.x C0.b dX8_falls_15 (by decide) ?_
    refine lv_ldc2 (v := 12) C0.x C0.b C0.ow (C0.ts _ cw_X8_falls_202) dX8_falls_16 ?_
    refine r_cS_i (As := [.long p0.toInt64, .long (1 : Int64), .long (12 : Int64)]) (rest := []) C0 hw (c_X8_in  hV) (va_cwS 3 C0.ts gX8_falls_X8_in rfl rfl rfl hd_X8_in ⟨Nat.le_of_ble_eq_true rfl, Nat.le_of_ble_eq_true rfl⟩) rfl hl.1 rfl (Nat.le_of_ble_eq_true rfl) ⟨Nat.le_of_ble_eq_true rfl, Nat.le_of_ble_eq_true rfl⟩ dX8_falls_19 (fun r3 S4 H locs hV hw => ?_)
    refine lv_if_ne (tgt := 27) C0.x C0.b dX8_falls_22 (by decide) (fun c5 => ?_) (fun c5 => ?_)
    · have hV := hV.2 c5
      refine lv_aload_n C0.x C0.b dX8_falls_27 rfl (lv_at hl 0 rfl) ?_
      refine lv_iload_n C0.x C0.b dX8_falls_28 rfl (lv_at hl 1 rfl) ?_
      refine r_cV_i (As := [.int p0]) (rest := []) C0 hw (c_X8_power  hV) (cwV 1 C0.ts gX8_falls_X8_power rfl rfl rfl hd_X8_power ⟨Nat.le_of_ble_eq_true rfl, Nat.le_of_ble_eq_true rfl⟩) (lg_48 ad cI cJ X S4) rfl rfl hl.1 rfl (Nat.le_of_ble_eq_true rfl) ⟨Nat.le_of_ble_eq_true rfl, Nat.le_of_ble_eq_true rfl⟩ dX8_falls_29 (fun r6 S7 H locs hV hw => ?_)
      refine lv_istore_n (lv' := [(2, .int r6), (0, .ref (ad 48)), (1, .int p0)]) C0.x C0.b dX8_falls_32 rfl hl (by decide) rfl (fun ls hl => ?_)
      refine lv_iload_n C0.x C0.b dX8_falls_33 rfl (lv_at hl 0 rfl) ?_
      refine lv_sipush (v := 20000) C0.x C0.b dX8_falls_34 (by decide) ?_
      refine lv_icmp_le (tgt := 43) C0.x C0.b dX8_falls_37 (by decide) (fun c8 => ?_) (fun c8 => ?_)
      · have hV := hV.1 c8
        refine lv_iconst (v := 0) C0.x C0.b dX8_falls_43 (by decide) ?_
        refine lv_istore_n (lv' := [(3, .int (0 : Int32)), (2, .int r6), (0, .ref (ad 48)), (1, .int p0)]) C0.x C0.b dX8_falls_44 rfl hl (by decide) rfl (fun ls hl => ?_)
        refine lv_iconst (v := 0) C0.x C0.b dX8_falls_45 (by decide) ?_
        refine lv_istore (lv' := [(4, .int (0 : Int32)), (3, .int (0 : Int32)), (2, .int r6), (0, .ref (ad 48)), (1, .int p0)]) C0.x C0.b dX8_falls_46 hl (by decide) rfl (fun ls hl => ?_)
        obtain ⟨n48, hV⟩ := hV
        exact lp_X8_falls_48  _ _ post C0  n48 _ _ _ hV _ _ hw _ (lv_sub hl [3, 4, 2, 1, 0] rfl)
      · have hV := hV.2 c8
        refine lv_bipush (v := -2) C0.x C0.b dX8_falls_40 (by decide) ?_
        exact r_iret C0 rfl hw hV dX8_falls_42
    · have hV := hV.1 c5
      refine lv_iconst (v := -1) C0.x C0.b dX8_falls_25 (by decide) ?_
      exact r_iret C0 rfl hw hV dX8_falls_26
/-! StepBenchModel.least(II)I -/
abbrev rm_X8_least : Room := { frames := 4, cells := 0, slots := 0, locals := 95 }
set_option maxRecDepth 20000 in
theorem fw_X8_least_61 : Cond.fieldLink RX8 61 "StepBenchModel" "thrown" "I" ∈ wsX8_least := by decide +kernel
set_option maxRecDepth 20000 in
theorem iw_X8_least_X8 : ∀ w ∈ wsX80, w ∈ wsX8_least := by decide +kernel
set_option maxRecDepth 20000 in
theorem fw_X8_least_108 : Cond.fieldLink RX8 108 "StepBenchModel" "sort" "I" ∈ wsX8_least := by decide +kernel
set_option maxRecDepth 20000 in
theorem cw_X8_least_215 : Cond.constantLong RX8 215 20000 ∈ wsX8_least := by decide +kernel
set_option maxRecDepth 20000 in
theorem cw_X8_least_217 : Cond.constantLong RX8 217 2000 ∈ wsX8_least := by decide +kernel
set_option maxRecDepth 20000 in
theorem fw_X8_least_146 : Cond.fieldLink RX8 146 "StepBenchModel" "at" "J" ∈ wsX8_least := by decide +kernel
set_option maxRecDepth 20000 in
theorem hd_X8_least : yX8_least.cls = RX8 ∧ yX8_least.cls ≠ "java/lang/invoke/MethodHandle" ∧ yX8_least.cls ≠ "java/lang/invoke/VarHandle" ∧ (parseMethodDescriptor yX8_least.desc).map (fun d => d.parameters.length) = some 2 := by decide +kernel
def V_X8_least_57  (v1 : Int32) (v2 : Int32) (v3 : Int32) (K40 : Int32 → SS → Prop) (post : Int32 → SS → Prop) : Nat → Int32 → Int32 → SS → Prop
  | 0, _, _, _ => False
  | n + 1, v4, v5, S =>
    ((v2 ≤ v5 → ((v4 = 0 → (post v3 S)) ∧ (¬ v4 = 0 → (∀ x13 : Int32, x13 = v3 + 1 → (K40 x13 S))))) ∧ (¬ v2 ≤ v5 → ((v4 = 0 → (V_X8_goes (gJ S 0) S (fun (r15 : Int32) (S16 : SS) => ((r15 = 0 → (((gJ S16 0) < v3.toInt64 → (∀ x19 : Int32, x19 = v5 + 1 → (V_X8_least_57  v1 v2 v3 K40 post n (1 : Int32) x19 S16))) ∧ (¬ (gJ S16 0) < v3.toInt64 → (((gJ S16 0) = (1 : Int64) → (∀ x21 : Int32, x21 = v5 + 1 → (V_X8_least_57  v1 v2 v3 K40 post n (1 : Int32) x21 S16))) ∧ (¬ (gJ S16 0) = (1 : Int64) → (∀ x22 : Int32, x22 = v5 + 1 → (V_X8_least_57  v1 v2 v3 K40 post n (0 : Int32) x22 S16))))))) ∧ (¬ r15 = 0 → ((v4 = 0 → (post v3 S16)) ∧ (¬ v4 = 0 → (∀ x24 : Int32, x24 = v3 + 1 → (K40 x24 S16))))))))) ∧ (¬ v4 = 0 → ((v4 = 0 → (post v3 S)) ∧ (¬ v4 = 0 → (∀ x26 : Int32, x26 = v3 + 1 → (K40 x26 S))))))))
set_option maxHeartbeats 4000000 in
set_option maxRecDepth 100000 in
theorem lp_X8_least_57  (v1 : Int32) (v2 : Int32) (v3 : Int32) (K40 : Int32 → SS → Prop) (post : Int32 → SS → Prop) (C0 : Bd p s m meth c args cX8_least 6 (some .int) wsX8_least RX8 D n0 cI cJ) (hK40 : ∀ (v3 : Int32) (S : SS), K40 v3 S → ∀ (H : Heap) (locs : List Loc), Wh D n0 ad cI cJ X S s H locs → ∀ ls : Array Slot, lv_has ls 6 [(0, .ref (ad 48)), (1, .int v1), (2, .int v2), (3, .int v3)] → W p l e rm_X8_least s m args below meth c H locs 0 0 (MQ below (va_Qi post (fun S' t => Wd D n0 ad cI cJ X S' t) (fr n0)) args s 0 0 (fr n0)) (F0 m 40 ls [])) : ∀ (n : Nat) (v4 : Int32) (v5 : Int32) (S : SS), V_X8_least_57  v1 v2 v3 K40 post n v4 v5 S → ∀ (H : Heap) (locs : List Loc), Wh D n0 ad cI cJ X S s H locs → ∀ ls : Array Slot, lv_has ls 6 [(0, .ref (ad 48)), (1, .int v1), (2, .int v2), (3, .int v3), (4, .int v4), (5, .int v5)] → W p l e rm_X8_least s m args below meth c H locs 0 0 (MQ below (va_Qi post (fun S' t => Wd D n0 ad cI cJ X S' t) (fr n0)) args s 0 0 (fr n0)) (F0 m 57 ls []) := by
  intro n
  induction n with
  | zero => intro v4 v5 S hV; exact False.elim hV
  | succ n ih =>
    intro v4 v5 S hV H locs hw ls hl
    rw [V_X8_least_57] at hV
    refine lv_iload C0.x C0.b dX8_least_57 (lv_at hl 5 rfl) ?_
    refine lv_iload_n C0.x C0.b dX8_least_59 rfl (lv_at hl 2 rfl) ?_
    refine lv_icmp_ge (tgt := 111) C0.x C0.b dX8_least_60 (by decide) (fun c11 => ?_) (fun c11 => ?_)
    · have hV := hV.1 c11
      refine lv_iload C0.x C0.b dX8_least_111 (lv_at hl 4 rfl) ?_
      refine lv_if_ne (tgt := 118) C0.x C0.b dX8_least_113 (by decide) (fun c12 => ?_) (fun c12 => ?_)
      · have hV := hV.2 c12
        obtain ⟨x13, ex13⟩ : ∃ z : Int32, z = v3 + 1 := ⟨_, rfl⟩
        have hV := hV x13 ex13
        refine lv_iinc (v := x13) (lv' := [(3, .int x13), (0, .ref (ad 48)), (1, .int v1), (2, .int v2), (4, .int v4), (5, .int v5)]) C0.x C0.b dX8_least_118 hl (k := 3) rfl (by rw [ex13]; rfl) (by decide) rfl (fun ls hl => ?_)
        refine lv_goto (tgt := 40) C0.x C0.b dX8_least_121 (by decide) ?_
        exact hK40 _ _ hV _ _ hw _ (lv_sub hl [1, 2, 3, 0] rfl)
      · have hV := hV.1 c12
        refine lv_iload_n C0.x C0.b dX8_least_116 rfl (lv_at hl 3 rfl) ?_
        exact r_iret C0 rfl hw hV dX8_least_117
    · have hV := hV.2 c11
      refine lv_iload C0.x C0.b dX8_least_63 (lv_at hl 4 rfl) ?_
      refine lv_if_ne (tgt := 111) C0.x C0.b dX8_least_65 (by decide) (fun c14 => ?_) (fun c14 => ?_)
      · have hV := hV.2 c14
        refine lv_iload C0.x C0.b dX8_least_111 (lv_at hl 4 rfl) ?_
        refine lv_if_ne (tgt := 118) C0.x C0.b dX8_least_113 (by decide) (fun c25 => ?_) (fun c25 => ?_)
        · have hV := hV.2 c25
          obtain ⟨x26, ex26⟩ : ∃ z : Int32, z = v3 + 1 := ⟨_, rfl⟩
          have hV := hV x26 ex26
          refine lv_iinc (v := x26) (lv' := [(3, .int x26), (0, .ref (ad 48)), (1, .int v1), (2, .int v2), (4, .int v4), (5, .int v5)]) C0.x C0.b dX8_least_118 hl (k := 3) rfl (by rw [ex26]; rfl) (by decide) rfl (fun ls hl => ?_)
          refine lv_goto (tgt := 40) C0.x C0.b dX8_least_121 (by decide) ?_
          exact hK40 _ _ hV _ _ hw _ (lv_sub hl [1, 2, 3, 0] rfl)
        · have hV := hV.1 c25
          refine lv_iload_n C0.x C0.b dX8_least_116 rfl (lv_at hl 3 rfl) ?_
          exact r_iret C0 rfl hw hV dX8_least_117
      · have hV := hV.1 c14
        refine lv_aload_n C0.x C0.b dX8_least_68 rfl (lv_at hl 0 rfl) ?_
        refine lv_aload_n C0.x C0.b dX8_least_69 rfl (lv_at hl 0 rfl) ?_
        refine r_get C0 hw (C := RX8) (T := TX8) (N := 33) (v := .long (gJ S 0)) iw_X8_least_X8 (lg_48 ad cI cJ X S) rfl 13 (by decide) (C0.ts _ fw_X8_least_146) rfl dX8_least_70 ?_
        refine r_cV_i (As := [.long (gJ S 0)]) (rest := []) C0 hw (c_X8_goes  hV) (cwV 1 C0.ts gX8_least_X8_goes rfl rfl rfl hd_X8_goes ⟨Nat.le_of_ble_eq_true rfl, Nat.le_of_ble_eq_true rfl⟩) (lg_48 ad cI cJ X S) rfl rfl hl.1 rfl (Nat.le_of_ble_eq_true rfl) ⟨Nat.le_of_ble_eq_true rfl, Nat.le_of_ble_eq_true rfl⟩ dX8_least_73 (fun r15 S16 H locs hV hw => ?_)
        refine lv_if_ne (tgt := 111) C0.x C0.b dX8_least_76 (by decide) (fun c17 => ?_) (fun c17 => ?_)
        · have hV := hV.2 c17
          refine lv_iload C0.x C0.b dX8_least_111 (lv_at hl 4 rfl) ?_
          refine lv_if_ne (tgt := 118) C0.x C0.b dX8_least_113 (by decide) (fun c23 => ?_) (fun c23 => ?_)
          · have hV := hV.2 c23
            obtain ⟨x24, ex24⟩ : ∃ z : Int32, z = v3 + 1 := ⟨_, rfl⟩
            have hV := hV x24 ex24
            refine lv_iinc (v := x24) (lv' := [(3, .int x24), (0, .ref (ad 48)), (1, .int v1), (2, .int v2), (4, .int v4), (5, .int v5)]) C0.x C0.b dX8_least_118 hl (k := 3) rfl (by rw [ex24]; rfl) (by decide) rfl (fun ls hl => ?_)
            refine lv_goto (tgt := 40) C0.x C0.b dX8_least_121 (by decide) ?_
            exact hK40 _ _ hV _ _ hw _ (lv_sub hl [1, 2, 3, 0] rfl)
          · have hV := hV.1 c23
            refine lv_iload_n C0.x C0.b dX8_least_116 rfl (lv_at hl 3 rfl) ?_
            exact r_iret C0 rfl hw hV dX8_least_117
        · have hV := hV.1 c17
          refine lv_aload_n C0.x C0.b dX8_least_79 rfl (lv_at hl 0 rfl) ?_
          refine r_get C0 hw (C := RX8) (T := TX8) (N := 33) (v := .long (gJ S16 0)) iw_X8_least_X8 (lg_48 ad cI cJ X S16) rfl 13 (by decide) (C0.ts _ fw_X8_least_146) rfl dX8_least_80 ?_
          refine lv_iload_n C0.x C0.b dX8_least_83 rfl (lv_at hl 3 rfl) ?_
          refine lv_i2l C0.x C0.b dX8_least_84 rfl ?_
          refine r_lcmp C0 dX8_least_85 ?_
          refine lv_if_lt (tgt := 98) C0.x C0.b dX8_least_86 (by decide) (fun c18 => ?_) (fun c18 => ?_)
          · have hV := hV.1 ((lc_lt _ _).mp c18)
            refine lv_iconst (v := 1) C0.x C0.b dX8_least_98 (by decide) ?_
            refine lv_goto (tgt := 103) C0.x C0.b dX8_least_99 (by decide) ?_
            refine lv_istore (lv' := [(4, .int (1 : Int32)), (0, .ref (ad 48)), (1, .int v1), (2, .int v2), (3, .int v3), (5, .int v5)]) C0.x C0.b dX8_least_103 hl (by decide) rfl (fun ls hl => ?_)
            obtain ⟨x19, ex19⟩ : ∃ z : Int32, z = v5 + 1 := ⟨_, rfl⟩
            have hV := hV x19 ex19
            refine lv_iinc (v := x19) (lv' := [(5, .int x19), (4, .int (1 : Int32)), (0, .ref (ad 48)), (1, .int v1), (2, .int v2), (3, .int v3)]) C0.x C0.b dX8_least_105 hl (k := 5) rfl (by rw [ex19]; rfl) (by decide) rfl (fun ls hl => ?_)
            refine lv_goto (tgt := 57) C0.x C0.b dX8_least_108 (by decide) ?_
            exact ih _ _ _ hV _ _ hw _ (lv_sub hl [2, 3, 4, 5, 1, 0] rfl)
          · have hV := hV.2 (fun h => c18 ((lc_lt _ _).mpr h))
            refine lv_aload_n C0.x C0.b dX8_least_89 rfl (lv_at hl 0 rfl) ?_
            refine r_get C0 hw (C := RX8) (T := TX8) (N := 33) (v := .long (gJ S16 0)) iw_X8_least_X8 (lg_48 ad cI cJ X S16) rfl 13 (by decide) (C0.ts _ fw_X8_least_146) rfl dX8_least_90 ?_
            refine lv_lconst (v := 1) C0.x C0.b dX8_least_93 (by decide) ?_
            refine r_lcmp C0 dX8_least_94 ?_
            refine lv_if_ne (tgt := 102) C0.x C0.b dX8_least_95 (by decide) (fun c20 => ?_) (fun c20 => ?_)
            · have hV := hV.2 (fun h => c20 ((lc_eq _ _).mpr h))
              refine lv_iconst (v := 0) C0.x C0.b dX8_least_102 (by decide) ?_
              refine lv_istore (lv' := [(4, .int (0 : Int32)), (0, .ref (ad 48)), (1, .int v1), (2, .int v2), (3, .int v3), (5, .int v5)]) C0.x C0.b dX8_least_103 hl (by decide) rfl (fun ls hl => ?_)
              obtain ⟨x22, ex22⟩ : ∃ z : Int32, z = v5 + 1 := ⟨_, rfl⟩
              have hV := hV x22 ex22
              refine lv_iinc (v := x22) (lv' := [(5, .int x22), (4, .int (0 : Int32)), (0, .ref (ad 48)), (1, .int v1), (2, .int v2), (3, .int v3)]) C0.x C0.b dX8_least_105 hl (k := 5) rfl (by rw [ex22]; rfl) (by decide) rfl (fun ls hl => ?_)
              refine lv_goto (tgt := 57) C0.x C0.b dX8_least_108 (by decide) ?_
              exact ih _ _ _ hV _ _ hw _ (lv_sub hl [2, 3, 4, 5, 1, 0] rfl)
            · have hV := hV.1 ((lc_eq _ _).mp c20)
              refine lv_iconst (v := 1) C0.x C0.b dX8_least_98 (by decide) ?_
              refine lv_goto (tgt := 103) C0.x C0.b dX8_least_99 (by decide) ?_
              refine lv_istore (lv' := [(4, .int (1 : Int32)), (0, .ref (ad 48)), (1, .int v1), (2, .int v2), (3, .int v3), (5, .int v5)]) C0.x C0.b dX8_least_103 hl (by decide) rfl (fun ls hl => ?_)
              obtain ⟨x21, ex21⟩ : ∃ z : Int32, z = v5 + 1 := ⟨_, rfl⟩
              have hV := hV x21 ex21
              refine lv_iinc (v := x21) (lv' := [(5, .int x21), (4, .int (1 : Int32)), (0, .ref (ad 48)), (1, .int v1), (2, .int v2), (3, .int v3)]) C0.x C0.b dX8_least_105 hl (k := 5) rfl (by rw [ex21]; rfl) (by decide) rfl (fun ls hl => ?_)
              refine lv_goto (tgt := 57) C0.x C0.b dX8_least_108 (by decide) ?_
              exact ih _ _ _ hV _ _ hw _ (lv_sub hl [2, 3, 4, 5, 1, 0] rfl)
def V_X8_least_40  (v1 : Int32) (v2 : Int32)  (post : Int32 → SS → Prop) : Nat → Int32 → SS → Prop
  | 0, _, _ => False
  | n + 1, v3, S =>
    ((v1 < v3 → (post (0 : Int32) S)) ∧ (¬ v1 < v3 → (∀ S10 : SS, S10 = (sJ S 0 v3.toInt64) → (∃ n57 : Nat, V_X8_least_57  v1 v2 v3 (fun w3 T => V_X8_least_40  v1 v2  post n w3 T) post n57 (0 : Int32) (0 : Int32) S10))))
set_option maxHeartbeats 4000000 in
set_option maxRecDepth 100000 in
theorem lp_X8_least_40  (v1 : Int32) (v2 : Int32)  (post : Int32 → SS → Prop) (C0 : Bd p s m meth c args cX8_least 6 (some .int) wsX8_least RX8 D n0 cI cJ) : ∀ (n : Nat) (v3 : Int32) (S : SS), V_X8_least_40  v1 v2  post n v3 S → ∀ (H : Heap) (locs : List Loc), Wh D n0 ad cI cJ X S s H locs → ∀ ls : Array Slot, lv_has ls 6 [(0, .ref (ad 48)), (1, .int v1), (2, .int v2), (3, .int v3)] → W p l e rm_X8_least s m args below meth c H locs 0 0 (MQ below (va_Qi post (fun S' t => Wd D n0 ad cI cJ X S' t) (fr n0)) args s 0 0 (fr n0)) (F0 m 40 ls []) := by
  intro n
  induction n with
  | zero => intro v3 S hV; exact False.elim hV
  | succ n ih =>
    intro v3 S hV H locs hw ls hl
    rw [V_X8_least_40] at hV
    refine lv_iload_n C0.x C0.b dX8_least_40 rfl (lv_at hl 3 rfl) ?_
    refine lv_iload_n C0.x C0.b dX8_least_41 rfl (lv_at hl 1 rfl) ?_
    refine lv_icmp_gt (tgt := 124) C0.x C0.b dX8_least_42 (by decide) (fun c9 => ?_) (fun c9 => ?_)
    · have hV := hV.1 c9
      refine lv_iconst (v := 0) C0.x C0.b dX8_least_124 (by decide) ?_
      exact r_iret C0 rfl hw hV dX8_least_125
    · have hV := hV.2 c9
      refine lv_aload_n C0.x C0.b dX8_least_45 rfl (lv_at hl 0 rfl) ?_
      refine lv_iload_n C0.x C0.b dX8_least_46 rfl (lv_at hl 3 rfl) ?_
      refine lv_i2l C0.x C0.b dX8_least_47 rfl ?_
      refine r_put C0 hw (C := RX8) (T := TX8) (N := 33) (ty := .long) iw_X8_least_X8 tyX8 tyX8_ok nmX8 (lg_48 ad cI cJ X S) rfl 13 (by decide) (C0.ts _ fw_X8_least_146) rfl (by decide +kernel) rfl rfl (Nat.le_of_ble_eq_true rfl) dX8_least_48 (S' := (sJ S 0 v3.toInt64)) (ls_48_13 ad cI cJ X S v3.toInt64) (fun S10 H locs eS10 hw => ?_)
      have hV := hV S10 eS10
      refine lv_iconst (v := 0) C0.x C0.b dX8_least_51 (by decide) ?_
      refine lv_istore (lv' := [(4, .int (0 : Int32)), (0, .ref (ad 48)), (1, .int v1), (2, .int v2), (3, .int v3)]) C0.x C0.b dX8_least_52 hl (by decide) rfl (fun ls hl => ?_)
      refine lv_iconst (v := 0) C0.x C0.b dX8_least_54 (by decide) ?_
      refine lv_istore (lv' := [(5, .int (0 : Int32)), (4, .int (0 : Int32)), (0, .ref (ad 48)), (1, .int v1), (2, .int v2), (3, .int v3)]) C0.x C0.b dX8_least_55 hl (by decide) rfl (fun ls hl => ?_)
      obtain ⟨n57, hV⟩ := hV
      exact lp_X8_least_57  _ _ _ _ post C0 ih n57 _ _ _ hV _ _ hw _ (lv_sub hl [2, 3, 4, 5, 1, 0] rfl)
def V_X8_least  (p0 : Int32) (p1 : Int32) (S : SS) (post : Int32 → SS → Prop) : Prop :=
  (∀ S1 : SS, S1 = (sI S 20 (0 : Int32)) → (((gI S1 25) = 0 → (post (-1 : Int32) S1)) ∧ (¬ (gI S1 25) = 0 → (V_X8_in p0.toInt64 (1 : Int64) (20000 : Int64) S1 (fun (r3 : Int32) (S4 : SS) => ((r3 = 0 → (post (-1 : Int32) S4)) ∧ (¬ r3 = 0 → (V_X8_in p1.toInt64 (0 : Int64) (2000 : Int64) S4 (fun (r6 : Int32) (S7 : SS) => ((r6 = 0 → (post (-1 : Int32) S7)) ∧ (¬ r6 = 0 → (∃ n40 : Nat, V_X8_least_40  p0 p1  post n40 (2 : Int32) S7))))))))))))
set_option maxHeartbeats 4000000 in
set_option maxRecDepth 100000 in
theorem c_X8_least  {S : SS} {p0 : Int32} {p1 : Int32} {post : Int32 → SS → Prop} (hV : V_X8_least  p0 p1 S post) : MI l yX8_least wsX8_least rm_X8_least [.ref (ad 48), .int p0, .int p1] D n0 ad cI cJ X S post := by
  refine Met.ofW (cc := cX8_least) (maxL := 6) (ret := (some .int)) (by decide) rfl ?_
  intro p e s m args below meth c s₁ B hml hv
  obtain ⟨rfl, hv⟩ := hv
  have C0 := Bd.mk B hml (atoms_spec (ws := wsX8_least) B.pre) (findClass_of_methodNamed B.named) hv.1
  have hw : Wh D n0 ad cI cJ X S s s.heap [] := ⟨hv.2.1, hv.2.2, va_S.rf⟩
  refine r_entry (Nat.le_of_ble_eq_true rfl) (fun ls hl => ?_)
  have hl : lv_has ls 6 [(0, .ref (ad 48)), (1, .int p0), (2, .int p1)] := hl
  unfold V_X8_least at hV
  refine lv_aload_n C0.x C0.b dX8_least_0 rfl (lv_at hl 0 rfl) ?_
  refine lv_iconst (v := 0) C0.x C0.b dX8_least_1 (by decide) ?_
  refine r_put C0 hw (C := RX8) (T := TX8) (N := 33) (ty := .int) iw_X8_least_X8 tyX8 tyX8_ok nmX8 (lg_48 ad cI cJ X S) rfl 0 (by decide) (C0.ts _ fw_X8_least_61) rfl (by decide +kernel) rfl rfl (Nat.le_of_ble_eq_true rfl) dX8_least_2 (S' := (sI S 20 (0 : Int32))) (ls_48_0 ad cI cJ X S (0 : Int32)) (fun S1 H locs eS1 hw => ?_)
  have hV := hV S1 eS1
  refine lv_aload_n C0.x C0.b dX8_least_5 rfl (lv_at hl 0 rfl) ?_
  refine r_get C0 hw (C := RX8) (T := TX8) (N := 33) (v := .int (gI S1 25)) iw_X8_least_X8 (lg_48 ad cI cJ X S1) rfl 7 (by decide) (C0.ts _ fw_X8_least_108) rfl dX8_least_6 ?_
  refine lv_if_eq (tgt := 36) C0.x C0.b dX8_least_9 (by decide) (fun c2 => ?_) (fun c2 => ?_)
  · have hV := hV.1 c2
    refine lv_iconst (v := -1) C0.x C0.b dX8_least_36 (by decide) ?_
    exact r_iret C0 rfl hw hV dX8_least_37
  · have hV := hV.2 c2
    refine lv_iload_n C0.x C0.b dX8_least_12 rfl (lv_at hl 1 rfl) ?_
    refine lv_i2l C0.x C0.b dX8_least_13 rfl ?_
    refine lv_lconst (v := 1) C0.x C0.b dX8_least_14 (by decide) ?_
    refine lv_ldc2 (v := 20000) C0.x C0.b C0.ow (C0.ts _ cw_X8_least_215) dX8_least_15 ?_
    refine r_cS_i (As := [.long p0.toInt64, .long (1 : Int64), .long (20000 : Int64)]) (rest := []) C0 hw (c_X8_in  hV) (va_cwS 3 C0.ts gX8_least_X8_in rfl rfl rfl hd_X8_in ⟨Nat.le_of_ble_eq_true rfl, Nat.le_of_ble_eq_true rfl⟩) rfl hl.1 rfl (Nat.le_of_ble_eq_true rfl) ⟨Nat.le_of_ble_eq_true rfl, Nat.le_of_ble_eq_true rfl⟩ dX8_least_18 (fun r3 S4 H locs hV hw => ?_)
    refine lv_if_eq (tgt := 36) C0.x C0.b dX8_least_21 (by decide) (fun c5 => ?_) (fun c5 => ?_)
    · have hV := hV.1 c5
      refine lv_iconst (v := -1) C0.x C0.b dX8_least_36 (by decide) ?_
      exact r_iret C0 rfl hw hV dX8_least_37
    · have hV := hV.2 c5
      refine lv_iload_n C0.x C0.b dX8_least_24 rfl (lv_at hl 2 rfl) ?_
      refine lv_i2l C0.x C0.b dX8_least_25 rfl ?_
      refine lv_lconst (v := 0) C0.x C0.b dX8_least_26 (by decide) ?_
      refine lv_ldc2 (v := 2000) C0.x C0.b C0.ow (C0.ts _ cw_X8_least_217) dX8_least_27 ?_
      refine r_cS_i (As := [.long p1.toInt64, .long (0 : Int64), .long (2000 : Int64)]) (rest := []) C0 hw (c_X8_in  hV) (va_cwS 3 C0.ts gX8_least_X8_in rfl rfl rfl hd_X8_in ⟨Nat.le_of_ble_eq_true rfl, Nat.le_of_ble_eq_true rfl⟩) rfl hl.1 rfl (Nat.le_of_ble_eq_true rfl) ⟨Nat.le_of_ble_eq_true rfl, Nat.le_of_ble_eq_true rfl⟩ dX8_least_30 (fun r6 S7 H locs hV hw => ?_)
      refine lv_if_ne (tgt := 38) C0.x C0.b dX8_least_33 (by decide) (fun c8 => ?_) (fun c8 => ?_)
      · have hV := hV.2 c8
        refine lv_iconst (v := 2) C0.x C0.b dX8_least_38 (by decide) ?_
        refine lv_istore_n (lv' := [(3, .int (2 : Int32)), (0, .ref (ad 48)), (1, .int p0), (2, .int p1)]) C0.x C0.b dX8_least_39 rfl hl (by decide) rfl (fun ls hl => ?_)
        obtain ⟨n40, hV⟩ := hV
        exact lp_X8_least_40  _ _ post C0  n40 _ _ hV _ _ hw _ (lv_sub hl [1, 2, 3, 0] rfl)
      · have hV := hV.1 c8
        refine lv_iconst (v := -1) C0.x C0.b dX8_least_36 (by decide) ?_
        exact r_iret C0 rfl hw hV dX8_least_37
/-! StepBenchModel.backOf(JI)I -/
abbrev rm_X8_backOf : Room := { frames := 2, cells := 0, slots := 0, locals := 47 }
set_option maxRecDepth 20000 in
theorem fw_X8_backOf_105 : Cond.fieldLink RX8 105 "StepBenchModel" "m" "I" ∈ wsX8_backOf := by decide +kernel
set_option maxRecDepth 20000 in
theorem iw_X8_backOf_X8 : ∀ w ∈ wsX80, w ∈ wsX8_backOf := by decide +kernel
set_option maxRecDepth 20000 in
theorem fw_X8_backOf_20 : Cond.fieldLink RX8 20 "StepBenchModel" "rule" "[J" ∈ wsX8_backOf := by decide +kernel
set_option maxRecDepth 20000 in
theorem fw_X8_backOf_32 : Cond.fieldLink RX8 32 "StepBenchModel" "found" "[J" ∈ wsX8_backOf := by decide +kernel
set_option maxRecDepth 20000 in
theorem hd_X8_backOf : yX8_backOf.cls = RX8 ∧ yX8_backOf.cls ≠ "java/lang/invoke/MethodHandle" ∧ yX8_backOf.cls ≠ "java/lang/invoke/VarHandle" ∧ (parseMethodDescriptor yX8_backOf.desc).map (fun d => d.parameters.length) = some 2 := by decide +kernel
def V_X8_backOf_6  (v1 : Int64)  (post : Int32 → SS → Prop) : Nat → Int32 → Int32 → SS → Prop
  | 0, _, _, _ => False
  | n + 1, v4, v5, S =>
    (((gI S 26) ≤ v5 → (post v4 S)) ∧ (¬ (gI S 26) ≤ v5 → (vp_in ((3 : Int32) * v5) 192 ∧ (vp_in (((3 : Int32) * v5) + (2 : Int32)) 192 ∧ (vp_in (((3 : Int32) * v5) + (1 : Int32)) 192 ∧ (∀ y2 : Int64, y2 = ((v1 * (gA S 32 (((3 : Int32) * v5) + (2 : Int32)).toNatClampNeg)) - (gA S 32 (((3 : Int32) * v5) + (1 : Int32)).toNatClampNeg)) → (((gA S 32 ((3 : Int32) * v5).toNatClampNeg) = (0 : Int64) → (∀ x4 : Int32, x4 = v5 + 1 → (V_X8_backOf_6  v1  post n v4 x4 S))) ∧ (¬ (gA S 32 ((3 : Int32) * v5).toNatClampNeg) = (0 : Int64) → (¬ (gA S 32 ((3 : Int32) * v5).toNatClampNeg) = 0 ∧ (((lrm y2 (gA S 32 ((3 : Int32) * v5).toNatClampNeg)) = (0 : Int64) → (¬ (gA S 32 ((3 : Int32) * v5).toNatClampNeg) = 0 ∧ (V_X8_isNumber (y2 / (gA S 32 ((3 : Int32) * v5).toNatClampNeg)) S (fun (r6 : Int32) (S7 : SS) => ((r6 = 0 → (∀ x9 : Int32, x9 = v5 + 1 → (V_X8_backOf_6  v1  post n v4 x9 S7))) ∧ (¬ r6 = 0 → (¬ (gA S 32 ((3 : Int32) * v5).toNatClampNeg) = 0 ∧ (V_X8_restBy (y2 / (gA S 32 ((3 : Int32) * v5).toNatClampNeg)) (gI S7 26) S7 (fun (r10 : Int64) (S11 : SS) => ((r10 = v5.toInt64 → (¬ (gA S 32 ((3 : Int32) * v5).toNatClampNeg) = 0 ∧ (vp_in v4 20000 ∧ ∀ S13 : SS, S13 = (sA S11 36 (vp_updL (gA S11 36) v4.toNatClampNeg (y2 / (gA S 32 ((3 : Int32) * v5).toNatClampNeg)))) → (∀ x14 : Int32, x14 = v4 + 1 → (∀ x15 : Int32, x15 = v5 + 1 → (V_X8_backOf_6  v1  post n x14 x15 S13)))))) ∧ (¬ r10 = v5.toInt64 → (∀ x16 : Int32, x16 = v5 + 1 → (V_X8_backOf_6  v1  post n v4 x16 S11))))))))))))) ∧ (¬ (lrm y2 (gA S 32 ((3 : Int32) * v5).toNatClampNeg)) = (0 : Int64) → (∀ x17 : Int32, x17 = v5 + 1 → (V_X8_backOf_6  v1  post n v4 x17 S)))))))))))))
set_option maxHeartbeats 4000000 in
set_option maxRecDepth 100000 in
theorem lp_X8_backOf_6  (v1 : Int64)  (post : Int32 → SS → Prop) (C0 : Bd p s m meth c args cX8_backOf 10 (some .int) wsX8_backOf RX8 D n0 cI cJ) : ∀ (n : Nat) (v4 : Int32) (v5 : Int32) (S : SS), V_X8_backOf_6  v1  post n v4 v5 S → ∀ (H : Heap) (locs : List Loc), Wh D n0 ad cI cJ X S s H locs → ∀ ls : Array Slot, lv_has ls 10 [(0, .ref (ad 48)), (1, .long v1), (4, .int v4), (5, .int v5)] → W p l e rm_X8_backOf s m args below meth c H locs 0 0 (MQ below (va_Qi post (fun S' t => Wd D n0 ad cI cJ X S' t) (fr n0)) args s 0 0 (fr n0)) (F0 m 6 ls []) := by
  intro n
  induction n with
  | zero => intro v4 v5 S hV; exact False.elim hV
  | succ n ih =>
    intro v4 v5 S hV H locs hw ls hl
    rw [V_X8_backOf_6] at hV
    refine lv_iload C0.x C0.b dX8_backOf_6 (lv_at hl 3 rfl) ?_
    refine lv_aload_n C0.x C0.b dX8_backOf_8 rfl (lv_at hl 0 rfl) ?_
    refine r_get C0 hw (C := RX8) (T := TX8) (N := 33) (v := .int (gI S 26)) iw_X8_backOf_X8 (lg_48 ad cI cJ X S) rfl 8 (by decide) (C0.ts _ fw_X8_backOf_105) rfl dX8_backOf_9 ?_
    refine lv_icmp_ge (tgt := 124) C0.x C0.b dX8_backOf_12 (by decide) (fun c1 => ?_) (fun c1 => ?_)
    · have hV := hV.1 c1
      refine lv_iload C0.x C0.b dX8_backOf_124 (lv_at hl 2 rfl) ?_
      exact r_iret C0 rfl hw hV dX8_backOf_126
    · have hV := hV.2 c1
      refine lv_aload_n C0.x C0.b dX8_backOf_15 rfl (lv_at hl 0 rfl) ?_
      refine r_get C0 hw (C := RX8) (T := TX8) (N := 33) (v := .ref (ad 51)) iw_X8_backOf_X8 (lg_48 ad cI cJ X S) rfl 9 (by decide) (C0.ts _ fw_X8_backOf_20) rfl dX8_backOf_16 ?_
      refine lv_iconst (v := 3) C0.x C0.b dX8_backOf_19 (by decide) ?_
      refine lv_iload C0.x C0.b dX8_backOf_20 (lv_at hl 3 rfl) ?_
      refine lv_imul C0.x C0.b dX8_backOf_22 ?_
      refine r_lald C0 hw (lg_51 ad cI cJ X S) hV.1 dX8_backOf_23 ?_
      have hV := hV.2
      refine lv_lstore (lv' := [(6, .long (gA S 32 ((3 : Int32) * v5).toNatClampNeg)), (0, .ref (ad 48)), (1, .long v1), (4, .int v4), (5, .int v5)]) C0.x C0.b dX8_backOf_24 hl (by decide) rfl (fun ls hl => ?_)
      refine lv_lload_n C0.x C0.b dX8_backOf_26 rfl (lv_at hl 2 rfl) ?_
      refine lv_aload_n C0.x C0.b dX8_backOf_27 rfl (lv_at hl 1 rfl) ?_
      refine r_get C0 hw (C := RX8) (T := TX8) (N := 33) (v := .ref (ad 51)) iw_X8_backOf_X8 (lg_48 ad cI cJ X S) rfl 9 (by decide) (C0.ts _ fw_X8_backOf_20) rfl dX8_backOf_28 ?_
      refine lv_iconst (v := 3) C0.x C0.b dX8_backOf_31 (by decide) ?_
      refine lv_iload C0.x C0.b dX8_backOf_32 (lv_at hl 4 rfl) ?_
      refine lv_imul C0.x C0.b dX8_backOf_34 ?_
      refine lv_iconst (v := 2) C0.x C0.b dX8_backOf_35 (by decide) ?_
      refine lv_iadd C0.x C0.b dX8_backOf_36 ?_
      refine r_lald C0 hw (lg_51 ad cI cJ X S) hV.1 dX8_backOf_37 ?_
      have hV := hV.2
      refine lv_lmul C0.x C0.b dX8_backOf_38 ?_
      refine lv_aload_n C0.x C0.b dX8_backOf_39 rfl (lv_at hl 1 rfl) ?_
      refine r_get C0 hw (C := RX8) (T := TX8) (N := 33) (v := .ref (ad 51)) iw_X8_backOf_X8 (lg_48 ad cI cJ X S) rfl 9 (by decide) (C0.ts _ fw_X8_backOf_20) rfl dX8_backOf_40 ?_
      refine lv_iconst (v := 3) C0.x C0.b dX8_backOf_43 (by decide) ?_
      refine lv_iload C0.x C0.b dX8_backOf_44 (lv_at hl 4 rfl) ?_
      refine lv_imul C0.x C0.b dX8_backOf_46 ?_
      refine lv_iconst (v := 1) C0.x C0.b dX8_backOf_47 (by decide) ?_
      refine lv_iadd C0.x C0.b dX8_backOf_48 ?_
      refine r_lald C0 hw (lg_51 ad cI cJ X S) hV.1 dX8_backOf_49 ?_
      have hV := hV.2
      refine lv_lsub C0.x C0.b dX8_backOf_50 ?_
      refine lv_topl (fun y2 ey2 => ?_)
      have hV := hV y2 ey2
      refine lv_lstore (lv' := [(8, .long y2), (6, .long (gA S 32 ((3 : Int32) * v5).toNatClampNeg)), (0, .ref (ad 48)), (1, .long v1), (4, .int v4), (5, .int v5)]) C0.x C0.b dX8_backOf_51 hl (by decide) rfl (fun ls hl => ?_)
      refine lv_lload C0.x C0.b dX8_backOf_53 (lv_at hl 1 rfl) ?_
      refine lv_lconst (v := 0) C0.x C0.b dX8_backOf_55 (by decide) ?_
      refine r_lcmp C0 dX8_backOf_56 ?_
      refine lv_if_eq (tgt := 118) C0.x C0.b dX8_backOf_57 (by decide) (fun c3 => ?_) (fun c3 => ?_)
      · have hV := hV.1 ((lc_eq _ _).mp c3)
        obtain ⟨x4, ex4⟩ : ∃ z : Int32, z = v5 + 1 := ⟨_, rfl⟩
        have hV := hV x4 ex4
        refine lv_iinc (v := x4) (lv' := [(5, .int x4), (8, .long y2), (6, .long (gA S 32 ((3 : Int32) * v5).toNatClampNeg)), (0, .ref (ad 48)), (1, .long v1), (4, .int v4)]) C0.x C0.b dX8_backOf_118 hl (k := 5) rfl (by rw [ex4]; rfl) (by decide) rfl (fun ls hl => ?_)
        refine lv_goto (tgt := 6) C0.x C0.b dX8_backOf_121 (by decide) ?_
        exact ih _ _ _ hV _ _ hw _ (lv_sub hl [3, 4, 5, 0] rfl)
      · have hV := hV.2 (fun h => c3 ((lc_eq _ _).mpr h))
        refine lv_lload C0.x C0.b dX8_backOf_60 (lv_at hl 0 rfl) ?_
        refine lv_lload C0.x C0.b dX8_backOf_62 (lv_at hl 1 rfl) ?_
        refine lv_lrem C0.x C0.b dX8_backOf_64 hV.1 ?_
        have hV := hV.2
        refine lv_lconst (v := 0) C0.x C0.b dX8_backOf_65 (by decide) ?_
        refine r_lcmp C0 dX8_backOf_66 ?_
        refine lv_if_ne (tgt := 118) C0.x C0.b dX8_backOf_67 (by decide) (fun c5 => ?_) (fun c5 => ?_)
        · have hV := hV.2 (fun h => c5 ((lc_eq _ _).mpr h))
          obtain ⟨x17, ex17⟩ : ∃ z : Int32, z = v5 + 1 := ⟨_, rfl⟩
          have hV := hV x17 ex17
          refine lv_iinc (v := x17) (lv' := [(5, .int x17), (8, .long y2), (6, .long (gA S 32 ((3 : Int32) * v5).toNatClampNeg)), (0, .ref (ad 48)), (1, .long v1), (4, .int v4)]) C0.x C0.b dX8_backOf_118 hl (k := 5) rfl (by rw [ex17]; rfl) (by decide) rfl (fun ls hl => ?_)
          refine lv_goto (tgt := 6) C0.x C0.b dX8_backOf_121 (by decide) ?_
          exact ih _ _ _ hV _ _ hw _ (lv_sub hl [3, 4, 5, 0] rfl)
        · have hV := hV.1 ((lc_eq _ _).mp c5)
          refine lv_lload C0.x C0.b dX8_backOf_70 (lv_at hl 0 rfl) ?_
          refine lv_lload C0.x C0.b dX8_backOf_72 (lv_at hl 1 rfl) ?_
          refine lv_ldiv C0.x C0.b dX8_backOf_74 hV.1 ?_
          have hV := hV.2
          refine r_cS_i (As := [.long (y2 / (gA S 32 ((3 : Int32) * v5).toNatClampNeg))]) (rest := []) C0 hw (c_X8_isNumber  hV) (va_cwS 1 C0.ts gX8_backOf_X8_isNumber rfl rfl rfl hd_X8_isNumber ⟨Nat.le_of_ble_eq_true rfl, Nat.le_of_ble_eq_true rfl⟩) rfl hl.1 rfl (Nat.le_of_ble_eq_true rfl) ⟨Nat.le_of_ble_eq_true rfl, Nat.le_of_ble_eq_true rfl⟩ dX8_backOf_75 (fun r6 S7 H locs hV hw => ?_)
          refine lv_if_eq (tgt := 118) C0.x C0.b dX8_backOf_78 (by decide) (fun c8 => ?_) (fun c8 => ?_)
          · have hV := hV.1 c8
            obtain ⟨x9, ex9⟩ : ∃ z : Int32, z = v5 + 1 := ⟨_, rfl⟩
            have hV := hV x9 ex9
            refine lv_iinc (v := x9) (lv' := [(5, .int x9), (8, .long y2), (6, .long (gA S 32 ((3 : Int32) * v5).toNatClampNeg)), (0, .ref (ad 48)), (1, .long v1), (4, .int v4)]) C0.x C0.b dX8_backOf_118 hl (k := 5) rfl (by rw [ex9]; rfl) (by decide) rfl (fun ls hl => ?_)
            refine lv_goto (tgt := 6) C0.x C0.b dX8_backOf_121 (by decide) ?_
            exact ih _ _ _ hV _ _ hw _ (lv_sub hl [3, 4, 5, 0] rfl)
          · have hV := hV.2 c8
            refine lv_lload C0.x C0.b dX8_backOf_81 (lv_at hl 0 rfl) ?_
            refine lv_lload C0.x C0.b dX8_backOf_83 (lv_at hl 1 rfl) ?_
            refine lv_ldiv C0.x C0.b dX8_backOf_85 hV.1 ?_
            have hV := hV.2
            refine lv_aload_n C0.x C0.b dX8_backOf_86 rfl (lv_at hl 2 rfl) ?_
            refine r_get C0 hw (C := RX8) (T := TX8) (N := 33) (v := .int (gI S7 26)) iw_X8_backOf_X8 (lg_48 ad cI cJ X S7) rfl 8 (by decide) (C0.ts _ fw_X8_backOf_105) rfl dX8_backOf_87 ?_
            refine r_cS_l (As := [.long (y2 / (gA S 32 ((3 : Int32) * v5).toNatClampNeg)), .int (gI S7 26)]) (rest := []) C0 hw (c_X8_restBy  hV) (va_cwS 2 C0.ts gX8_backOf_X8_restBy rfl rfl rfl hd_X8_restBy ⟨Nat.le_of_ble_eq_true rfl, Nat.le_of_ble_eq_true rfl⟩) rfl hl.1 rfl (Nat.le_of_ble_eq_true rfl) ⟨Nat.le_of_ble_eq_true rfl, Nat.le_of_ble_eq_true rfl⟩ dX8_backOf_90 (fun r10 S11 H locs hV hw => ?_)
            refine lv_iload C0.x C0.b dX8_backOf_93 (lv_at hl 5 rfl) ?_
            refine lv_i2l C0.x C0.b dX8_backOf_95 rfl ?_
            refine r_lcmp C0 dX8_backOf_96 ?_
            refine lv_if_eq (tgt := 103) C0.x C0.b dX8_backOf_97 (by decide) (fun c12 => ?_) (fun c12 => ?_)
            · have hV := hV.1 ((lc_eq _ _).mp c12)
              refine lv_aload_n C0.x C0.b dX8_backOf_103 rfl (lv_at hl 2 rfl) ?_
              refine r_get C0 hw (C := RX8) (T := TX8) (N := 33) (v := .ref (ad 55)) iw_X8_backOf_X8 (lg_48 ad cI cJ X S11) rfl 16 (by decide) (C0.ts _ fw_X8_backOf_32) rfl dX8_backOf_104 ?_
              refine lv_iload C0.x C0.b dX8_backOf_107 (lv_at hl 4 rfl) ?_
              refine lv_lload C0.x C0.b dX8_backOf_109 (lv_at hl 0 rfl) ?_
              refine lv_lload C0.x C0.b dX8_backOf_111 (lv_at hl 1 rfl) ?_
              refine lv_ldiv C0.x C0.b dX8_backOf_113 hV.1 ?_
              have hV := hV.2
              refine r_last C0 hw (lg_55 ad cI cJ X S11) hV.1 dX8_backOf_114 (S' := (sA S11 36 (vp_updL (gA S11 36) v4.toNatClampNeg (y2 / (gA S 32 ((3 : Int32) * v5).toNatClampNeg))))) (ls_55 ad cI cJ X S11 (vp_updL (gA S11 36) v4.toNatClampNeg (y2 / (gA S 32 ((3 : Int32) * v5).toNatClampNeg)))) (fun S13 H locs eS13 hw => ?_)
              have hV := hV.2 S13 eS13
              obtain ⟨x14, ex14⟩ : ∃ z : Int32, z = v4 + 1 := ⟨_, rfl⟩
              have hV := hV x14 ex14
              refine lv_iinc (v := x14) (lv' := [(4, .int x14), (8, .long y2), (6, .long (gA S 32 ((3 : Int32) * v5).toNatClampNeg)), (0, .ref (ad 48)), (1, .long v1), (5, .int v5)]) C0.x C0.b dX8_backOf_115 hl (k := 4) rfl (by rw [ex14]; rfl) (by decide) rfl (fun ls hl => ?_)
              obtain ⟨x15, ex15⟩ : ∃ z : Int32, z = v5 + 1 := ⟨_, rfl⟩
              have hV := hV x15 ex15
              refine lv_iinc (v := x15) (lv' := [(5, .int x15), (4, .int x14), (8, .long y2), (6, .long (gA S 32 ((3 : Int32) * v5).toNatClampNeg)), (0, .ref (ad 48)), (1, .long v1)]) C0.x C0.b dX8_backOf_118 hl (k := 5) rfl (by rw [ex15]; rfl) (by decide) rfl (fun ls hl => ?_)
              refine lv_goto (tgt := 6) C0.x C0.b dX8_backOf_121 (by decide) ?_
              exact ih _ _ _ hV _ _ hw _ (lv_sub hl [4, 5, 1, 0] rfl)
            · have hV := hV.2 (fun h => c12 ((lc_eq _ _).mpr h))
              refine lv_goto (tgt := 118) C0.x C0.b dX8_backOf_100 (by decide) ?_
              obtain ⟨x16, ex16⟩ : ∃ z : Int32, z = v5 + 1 := ⟨_, rfl⟩
              have hV := hV x16 ex16
              refine lv_iinc (v := x16) (lv' := [(5, .int x16), (8, .long y2), (6, .long (gA S 32 ((3 : Int32) * v5).toNatClampNeg)), (0, .ref (ad 48)), (1, .long v1), (4, .int v4)]) C0.x C0.b dX8_backOf_118 hl (k := 5) rfl (by rw [ex16]; rfl) (by decide) rfl (fun ls hl => ?_)
              refine lv_goto (tgt := 6) C0.x C0.b dX8_backOf_121 (by decide) ?_
              exact ih _ _ _ hV _ _ hw _ (lv_sub hl [3, 4, 5, 0] rfl)
def V_X8_backOf  (p0 : Int64) (p1 : Int32) (S : SS) (post : Int32 → SS → Prop) : Prop :=
  (∃ n6 : Nat, V_X8_backOf_6  p0  post n6 p1 (0 : Int32) S)
set_option maxHeartbeats 4000000 in
set_option maxRecDepth 100000 in
theorem c_X8_backOf  {S : SS} {p0 : Int64} {p1 : Int32} {post : Int32 → SS → Prop} (hV : V_X8_backOf  p0 p1 S post) : MI l yX8_backOf wsX8_backOf rm_X8_backOf [.ref (ad 48), .long p0, .int p1] D n0 ad cI cJ X S post := by
  refine Met.ofW (cc := cX8_backOf) (maxL := 10) (ret := (some .int)) (by decide) rfl ?_
  intro p e s m args below meth c s₁ B hml hv
  obtain ⟨rfl, hv⟩ := hv
  have C0 := Bd.mk B hml (atoms_spec (ws := wsX8_backOf) B.pre) (findClass_of_methodNamed B.named) hv.1
  have hw : Wh D n0 ad cI cJ X S s s.heap [] := ⟨hv.2.1, hv.2.2, va_S.rf⟩
  refine r_entry (Nat.le_of_ble_eq_true rfl) (fun ls hl => ?_)
  have hl : lv_has ls 10 [(0, .ref (ad 48)), (1, .long p0), (3, .int p1)] := hl
  unfold V_X8_backOf at hV
  refine lv_iload_n C0.x C0.b dX8_backOf_0 rfl (lv_at hl 2 rfl) ?_
  refine lv_istore (lv' := [(4, .int p1), (0, .ref (ad 48)), (1, .long p0), (3, .int p1)]) C0.x C0.b dX8_backOf_1 hl (by decide) rfl (fun ls hl => ?_)
  refine lv_iconst (v := 0) C0.x C0.b dX8_backOf_3 (by decide) ?_
  refine lv_istore (lv' := [(5, .int (0 : Int32)), (4, .int p1), (0, .ref (ad 48)), (1, .long p0), (3, .int p1)]) C0.x C0.b dX8_backOf_4 hl (by decide) rfl (fun ls hl => ?_)
  obtain ⟨n6, hV⟩ := hV
  exact lp_X8_backOf_6  _ post C0  n6 _ _ _ hV _ _ hw _ (lv_sub hl [2, 3, 1, 0] rfl)
/-! StepBenchModel.back(J)I -/
abbrev rm_X8_back : Room := { frames := 3, cells := 0, slots := 0, locals := 76 }
set_option maxRecDepth 20000 in
theorem fw_X8_back_61 : Cond.fieldLink RX8 61 "StepBenchModel" "thrown" "I" ∈ wsX8_back := by decide +kernel
set_option maxRecDepth 20000 in
theorem iw_X8_back_X8 : ∀ w ∈ wsX80, w ∈ wsX8_back := by decide +kernel
set_option maxRecDepth 20000 in
theorem fw_X8_back_108 : Cond.fieldLink RX8 108 "StepBenchModel" "sort" "I" ∈ wsX8_back := by decide +kernel
set_option maxRecDepth 20000 in
theorem hd_X8_back : yX8_back.cls = RX8 ∧ yX8_back.cls ≠ "java/lang/invoke/MethodHandle" ∧ yX8_back.cls ≠ "java/lang/invoke/VarHandle" ∧ (parseMethodDescriptor yX8_back.desc).map (fun d => d.parameters.length) = some 1 := by decide +kernel
def V_X8_back  (p0 : Int64) (S : SS) (post : Int32 → SS → Prop) : Prop :=
  (∀ S1 : SS, S1 = (sI S 20 (0 : Int32)) → (((gI S1 25) = (1 : Int32) → (V_X8_isNumber p0 S1 (fun (r3 : Int32) (S4 : SS) => ((r3 = 0 → (post (-1 : Int32) S4)) ∧ (¬ r3 = 0 → (V_X8_backOf p0 (0 : Int32) S4 (fun (r6 : Int32) (S7 : SS) => (V_X8_ascend r6 S7 (fun (S9 : SS) => (V_X8_tells r6 S9 (fun (S11 : SS) => (post r6 S11)))))))))))) ∧ (¬ (gI S1 25) = (1 : Int32) → (post (-1 : Int32) S1))))
set_option maxHeartbeats 4000000 in
set_option maxRecDepth 100000 in
theorem c_X8_back  {S : SS} {p0 : Int64} {post : Int32 → SS → Prop} (hV : V_X8_back  p0 S post) : MI l yX8_back wsX8_back rm_X8_back [.ref (ad 48), .long p0] D n0 ad cI cJ X S post := by
  refine Met.ofW (cc := cX8_back) (maxL := 4) (ret := (some .int)) (by decide) rfl ?_
  intro p e s m args below meth c s₁ B hml hv
  obtain ⟨rfl, hv⟩ := hv
  have C0 := Bd.mk B hml (atoms_spec (ws := wsX8_back) B.pre) (findClass_of_methodNamed B.named) hv.1
  have hw : Wh D n0 ad cI cJ X S s s.heap [] := ⟨hv.2.1, hv.2.2, va_S.rf⟩
  refine r_entry (Nat.le_of_ble_eq_true rfl) (fun ls hl => ?_)
  have hl : lv_has ls 4 [(0, .ref (ad 48)), (1, .long p0)] := hl
  unfold V_X8_back at hV
  refine lv_aload_n C0.x C0.b dX8_back_0 rfl (lv_at hl 0 rfl) ?_
  refine lv_iconst (v := 0) C0.x C0.b dX8_back_1 (by decide) ?_
  refine r_put C0 hw (C := RX8) (T := TX8) (N := 33) (ty := .int) iw_X8_back_X8 tyX8 tyX8_ok nmX8 (lg_48 ad cI cJ X S) rfl 0 (by decide) (C0.ts _ fw_X8_back_61) rfl (by decide +kernel) rfl rfl (Nat.le_of_ble_eq_true rfl) dX8_back_2 (S' := (sI S 20 (0 : Int32))) (ls_48_0 ad cI cJ X S (0 : Int32)) (fun S1 H locs eS1 hw => ?_)
  have hV := hV S1 eS1
  refine lv_aload_n C0.x C0.b dX8_back_5 rfl (lv_at hl 0 rfl) ?_
  refine r_get C0 hw (C := RX8) (T := TX8) (N := 33) (v := .int (gI S1 25)) iw_X8_back_X8 (lg_48 ad cI cJ X S1) rfl 7 (by decide) (C0.ts _ fw_X8_back_108) rfl dX8_back_6 ?_
  refine lv_iconst (v := 1) C0.x C0.b dX8_back_9 (by decide) ?_
  refine lv_icmp_ne (tgt := 20) C0.x C0.b dX8_back_10 (by decide) (fun c2 => ?_) (fun c2 => ?_)
  · have hV := hV.2 c2
    refine lv_iconst (v := -1) C0.x C0.b dX8_back_20 (by decide) ?_
    exact r_iret C0 rfl hw hV dX8_back_21
  · have hV := hV.1 c2
    refine lv_lload_n C0.x C0.b dX8_back_13 rfl (lv_at hl 1 rfl) ?_
    refine r_cS_i (As := [.long p0]) (rest := []) C0 hw (c_X8_isNumber  hV) (va_cwS 1 C0.ts gX8_back_X8_isNumber rfl rfl rfl hd_X8_isNumber ⟨Nat.le_of_ble_eq_true rfl, Nat.le_of_ble_eq_true rfl⟩) rfl hl.1 rfl (Nat.le_of_ble_eq_true rfl) ⟨Nat.le_of_ble_eq_true rfl, Nat.le_of_ble_eq_true rfl⟩ dX8_back_14 (fun r3 S4 H locs hV hw => ?_)
    refine lv_if_ne (tgt := 22) C0.x C0.b dX8_back_17 (by decide) (fun c5 => ?_) (fun c5 => ?_)
    · have hV := hV.2 c5
      refine lv_aload_n C0.x C0.b dX8_back_22 rfl (lv_at hl 0 rfl) ?_
      refine lv_lload_n C0.x C0.b dX8_back_23 rfl (lv_at hl 1 rfl) ?_
      refine lv_iconst (v := 0) C0.x C0.b dX8_back_24 (by decide) ?_
      refine r_cV_i (As := [.long p0, .int (0 : Int32)]) (rest := []) C0 hw (c_X8_backOf  hV) (cwV 2 C0.ts gX8_back_X8_backOf rfl rfl rfl hd_X8_backOf ⟨Nat.le_of_ble_eq_true rfl, Nat.le_of_ble_eq_true rfl⟩) (lg_48 ad cI cJ X S4) rfl rfl hl.1 rfl (Nat.le_of_ble_eq_true rfl) ⟨Nat.le_of_ble_eq_true rfl, Nat.le_of_ble_eq_true rfl⟩ dX8_back_25 (fun r6 S7 H locs hV hw => ?_)
      refine lv_istore_n (lv' := [(3, .int r6), (0, .ref (ad 48)), (1, .long p0)]) C0.x C0.b dX8_back_28 rfl hl (by decide) rfl (fun ls hl => ?_)
      refine lv_aload_n C0.x C0.b dX8_back_29 rfl (lv_at hl 1 rfl) ?_
      refine lv_iload_n C0.x C0.b dX8_back_30 rfl (lv_at hl 0 rfl) ?_
      refine r_cV_v (As := [.int r6]) (rest := []) C0 hw (c_X8_ascend  hV) (cwV 1 C0.ts gX8_back_X8_ascend rfl rfl rfl hd_X8_ascend ⟨Nat.le_of_ble_eq_true rfl, Nat.le_of_ble_eq_true rfl⟩) (lg_48 ad cI cJ X S7) rfl rfl hl.1 rfl (Nat.le_of_ble_eq_true rfl) ⟨Nat.le_of_ble_eq_true rfl, Nat.le_of_ble_eq_true rfl⟩ dX8_back_31 (fun S9 H locs hV hw => ?_)
      refine lv_aload_n C0.x C0.b dX8_back_34 rfl (lv_at hl 1 rfl) ?_
      refine lv_iload_n C0.x C0.b dX8_back_35 rfl (lv_at hl 0 rfl) ?_
      refine r_cV_v (As := [.int r6]) (rest := []) C0 hw (c_X8_tells  hV) (cwV 1 C0.ts gX8_back_X8_tells rfl rfl rfl hd_X8_tells ⟨Nat.le_of_ble_eq_true rfl, Nat.le_of_ble_eq_true rfl⟩) (lg_48 ad cI cJ X S9) rfl rfl hl.1 rfl (Nat.le_of_ble_eq_true rfl) ⟨Nat.le_of_ble_eq_true rfl, Nat.le_of_ble_eq_true rfl⟩ dX8_back_36 (fun S11 H locs hV hw => ?_)
      refine lv_iload_n C0.x C0.b dX8_back_39 rfl (lv_at hl 0 rfl) ?_
      exact r_iret C0 rfl hw hV dX8_back_40
    · have hV := hV.1 c5
      refine lv_iconst (v := -1) C0.x C0.b dX8_back_20 (by decide) ?_
      exact r_iret C0 rfl hw hV dX8_back_21
/-! StepBenchModel.whole(J)J -/
abbrev rm_X8_whole : Room := { frames := 2, cells := 0, slots := 0, locals := 46 }
set_option maxRecDepth 20000 in
theorem fw_X8_whole_61 : Cond.fieldLink RX8 61 "StepBenchModel" "thrown" "I" ∈ wsX8_whole := by decide +kernel
set_option maxRecDepth 20000 in
theorem iw_X8_whole_X8 : ∀ w ∈ wsX80, w ∈ wsX8_whole := by decide +kernel
set_option maxRecDepth 20000 in
theorem fw_X8_whole_105 : Cond.fieldLink RX8 105 "StepBenchModel" "m" "I" ∈ wsX8_whole := by decide +kernel
set_option maxRecDepth 20000 in
theorem fw_X8_whole_108 : Cond.fieldLink RX8 108 "StepBenchModel" "sort" "I" ∈ wsX8_whole := by decide +kernel
set_option maxRecDepth 20000 in
theorem fw_X8_whole_20 : Cond.fieldLink RX8 20 "StepBenchModel" "rule" "[J" ∈ wsX8_whole := by decide +kernel
set_option maxRecDepth 20000 in
theorem hd_X8_whole : yX8_whole.cls = RX8 ∧ yX8_whole.cls ≠ "java/lang/invoke/MethodHandle" ∧ yX8_whole.cls ≠ "java/lang/invoke/VarHandle" ∧ (parseMethodDescriptor yX8_whole.desc).map (fun d => d.parameters.length) = some 1 := by decide +kernel
def V_X8_whole_10  (v1 : Int64)  (post : Int64 → SS → Prop) : Nat → Int64 → Int32 → SS → Prop
  | 0, _, _, _ => False
  | n + 1, v3, v5, S =>
    (((gI S 26) ≤ v5 → (post v3 S)) ∧ (¬ (gI S 26) ≤ v5 → (((gI S 25) = (1 : Int32) → (V_X8_isNumber v1 S (fun (r4 : Int32) (S5 : SS) => ((r4 = 0 → (post v3 S5)) ∧ (¬ r4 = 0 → (vp_in ((3 : Int32) * v5) 192 ∧ (((gA S5 32 ((3 : Int32) * v5).toNatClampNeg) = (0 : Int64) → (vp_in (((3 : Int32) * v5) + (1 : Int32)) 192 ∧ (vp_in (((3 : Int32) * v5) + (2 : Int32)) 192 ∧ (¬ (gA S5 32 (((3 : Int32) * v5) + (2 : Int32)).toNatClampNeg) = 0 ∧ ((((gA S5 32 (((3 : Int32) * v5) + (1 : Int32)).toNatClampNeg) / (gA S5 32 (((3 : Int32) * v5) + (2 : Int32)).toNatClampNeg)) = v1 → (∀ y9 : Int64, y9 = (v3 ||| ((1 : Int64) <<< (v5.toInt64 &&& 63))) → (∀ x10 : Int32, x10 = v5 + 1 → (V_X8_whole_10  v1  post n y9 x10 S5)))) ∧ (¬ ((gA S5 32 (((3 : Int32) * v5) + (1 : Int32)).toNatClampNeg) / (gA S5 32 (((3 : Int32) * v5) + (2 : Int32)).toNatClampNeg)) = v1 → (∀ y11 : Int64, y11 = (v3 ||| (0 : Int64)) → (∀ x12 : Int32, x12 = v5 + 1 → (V_X8_whole_10  v1  post n y11 x12 S5))))))))) ∧ (¬ (gA S5 32 ((3 : Int32) * v5).toNatClampNeg) = (0 : Int64) → (∀ y13 : Int64, y13 = (v3 ||| (0 : Int64)) → (∀ x14 : Int32, x14 = v5 + 1 → (V_X8_whole_10  v1  post n y13 x14 S5))))))))))) ∧ (¬ (gI S 25) = (1 : Int32) → (post v3 S)))))
set_option maxHeartbeats 4000000 in
set_option maxRecDepth 100000 in
theorem lp_X8_whole_10  (v1 : Int64)  (post : Int64 → SS → Prop) (C0 : Bd p s m meth c args cX8_whole 6 (some .long) wsX8_whole RX8 D n0 cI cJ) : ∀ (n : Nat) (v3 : Int64) (v5 : Int32) (S : SS), V_X8_whole_10  v1  post n v3 v5 S → ∀ (H : Heap) (locs : List Loc), Wh D n0 ad cI cJ X S s H locs → ∀ ls : Array Slot, lv_has ls 6 [(0, .ref (ad 48)), (1, .long v1), (3, .long v3), (5, .int v5)] → W p l e rm_X8_whole s m args below meth c H locs 0 0 (MQ below (va_Ql post (fun S' t => Wd D n0 ad cI cJ X S' t) (fr n0)) args s 0 0 (fr n0)) (F0 m 10 ls []) := by
  intro n
  induction n with
  | zero => intro v3 v5 S hV; exact False.elim hV
  | succ n ih =>
    intro v3 v5 S hV H locs hw ls hl
    rw [V_X8_whole_10] at hV
    refine lv_iload C0.x C0.b dX8_whole_10 (lv_at hl 3 rfl) ?_
    refine lv_aload_n C0.x C0.b dX8_whole_12 rfl (lv_at hl 0 rfl) ?_
    refine r_get C0 hw (C := RX8) (T := TX8) (N := 33) (v := .int (gI S 26)) iw_X8_whole_X8 (lg_48 ad cI cJ X S) rfl 8 (by decide) (C0.ts _ fw_X8_whole_105) rfl dX8_whole_13 ?_
    refine lv_icmp_ge (tgt := 93) C0.x C0.b dX8_whole_16 (by decide) (fun c2 => ?_) (fun c2 => ?_)
    · have hV := hV.1 c2
      refine lv_lload_n C0.x C0.b dX8_whole_93 rfl (lv_at hl 2 rfl) ?_
      exact r_lret C0 rfl hw hV dX8_whole_94
    · have hV := hV.2 c2
      refine lv_aload_n C0.x C0.b dX8_whole_19 rfl (lv_at hl 0 rfl) ?_
      refine r_get C0 hw (C := RX8) (T := TX8) (N := 33) (v := .int (gI S 25)) iw_X8_whole_X8 (lg_48 ad cI cJ X S) rfl 7 (by decide) (C0.ts _ fw_X8_whole_108) rfl dX8_whole_20 ?_
      refine lv_iconst (v := 1) C0.x C0.b dX8_whole_23 (by decide) ?_
      refine lv_icmp_ne (tgt := 93) C0.x C0.b dX8_whole_24 (by decide) (fun c3 => ?_) (fun c3 => ?_)
      · have hV := hV.2 c3
        refine lv_lload_n C0.x C0.b dX8_whole_93 rfl (lv_at hl 2 rfl) ?_
        exact r_lret C0 rfl hw hV dX8_whole_94
      · have hV := hV.1 c3
        refine lv_lload_n C0.x C0.b dX8_whole_27 rfl (lv_at hl 1 rfl) ?_
        refine r_cS_i (As := [.long v1]) (rest := []) C0 hw (c_X8_isNumber  hV) (va_cwS 1 C0.ts gX8_whole_X8_isNumber rfl rfl rfl hd_X8_isNumber ⟨Nat.le_of_ble_eq_true rfl, Nat.le_of_ble_eq_true rfl⟩) rfl hl.1 rfl (Nat.le_of_ble_eq_true rfl) ⟨Nat.le_of_ble_eq_true rfl, Nat.le_of_ble_eq_true rfl⟩ dX8_whole_28 (fun r4 S5 H locs hV hw => ?_)
        refine lv_if_eq (tgt := 93) C0.x C0.b dX8_whole_31 (by decide) (fun c6 => ?_) (fun c6 => ?_)
        · have hV := hV.1 c6
          refine lv_lload_n C0.x C0.b dX8_whole_93 rfl (lv_at hl 2 rfl) ?_
          exact r_lret C0 rfl hw hV dX8_whole_94
        · have hV := hV.2 c6
          refine lv_lload_n C0.x C0.b dX8_whole_34 rfl (lv_at hl 2 rfl) ?_
          refine lv_aload_n C0.x C0.b dX8_whole_35 rfl (lv_at hl 0 rfl) ?_
          refine r_get C0 hw (C := RX8) (T := TX8) (N := 33) (v := .ref (ad 51)) iw_X8_whole_X8 (lg_48 ad cI cJ X S5) rfl 9 (by decide) (C0.ts _ fw_X8_whole_20) rfl dX8_whole_36 ?_
          refine lv_iconst (v := 3) C0.x C0.b dX8_whole_39 (by decide) ?_
          refine lv_iload C0.x C0.b dX8_whole_40 (lv_at hl 3 rfl) ?_
          refine lv_imul C0.x C0.b dX8_whole_42 ?_
          refine r_lald C0 hw (lg_51 ad cI cJ X S5) hV.1 dX8_whole_43 ?_
          have hV := hV.2
          refine lv_lconst (v := 0) C0.x C0.b dX8_whole_44 (by decide) ?_
          refine r_lcmp C0 dX8_whole_45 ?_
          refine lv_if_ne (tgt := 84) C0.x C0.b dX8_whole_46 (by decide) (fun c7 => ?_) (fun c7 => ?_)
          · have hV := hV.2 (fun h => c7 ((lc_eq _ _).mpr h))
            refine lv_lconst (v := 0) C0.x C0.b dX8_whole_84 (by decide) ?_
            refine lv_lor C0.x C0.b dX8_whole_85 ?_
            refine lv_topl (fun y13 ey13 => ?_)
            have hV := hV y13 ey13
            refine lv_lstore_n (lv' := [(3, .long y13), (0, .ref (ad 48)), (1, .long v1), (5, .int v5)]) C0.x C0.b dX8_whole_86 rfl hl (by decide) rfl (fun ls hl => ?_)
            obtain ⟨x14, ex14⟩ : ∃ z : Int32, z = v5 + 1 := ⟨_, rfl⟩
            have hV := hV x14 ex14
            refine lv_iinc (v := x14) (lv' := [(5, .int x14), (3, .long y13), (0, .ref (ad 48)), (1, .long v1)]) C0.x C0.b dX8_whole_87 hl (k := 3) rfl (by rw [ex14]; rfl) (by decide) rfl (fun ls hl => ?_)
            refine lv_goto (tgt := 10) C0.x C0.b dX8_whole_90 (by decide) ?_
            exact ih _ _ _ hV _ _ hw _ (lv_sub hl [2, 3, 1, 0] rfl)
          · have hV := hV.1 ((lc_eq _ _).mp c7)
            refine lv_aload_n C0.x C0.b dX8_whole_49 rfl (lv_at hl 0 rfl) ?_
            refine r_get C0 hw (C := RX8) (T := TX8) (N := 33) (v := .ref (ad 51)) iw_X8_whole_X8 (lg_48 ad cI cJ X S5) rfl 9 (by decide) (C0.ts _ fw_X8_whole_20) rfl dX8_whole_50 ?_
            refine lv_iconst (v := 3) C0.x C0.b dX8_whole_53 (by decide) ?_
            refine lv_iload C0.x C0.b dX8_whole_54 (lv_at hl 3 rfl) ?_
            refine lv_imul C0.x C0.b dX8_whole_56 ?_
            refine lv_iconst (v := 1) C0.x C0.b dX8_whole_57 (by decide) ?_
            refine lv_iadd C0.x C0.b dX8_whole_58 ?_
            refine r_lald C0 hw (lg_51 ad cI cJ X S5) hV.1 dX8_whole_59 ?_
            have hV := hV.2
            refine lv_aload_n C0.x C0.b dX8_whole_60 rfl (lv_at hl 0 rfl) ?_
            refine r_get C0 hw (C := RX8) (T := TX8) (N := 33) (v := .ref (ad 51)) iw_X8_whole_X8 (lg_48 ad cI cJ X S5) rfl 9 (by decide) (C0.ts _ fw_X8_whole_20) rfl dX8_whole_61 ?_
            refine lv_iconst (v := 3) C0.x C0.b dX8_whole_64 (by decide) ?_
            refine lv_iload C0.x C0.b dX8_whole_65 (lv_at hl 3 rfl) ?_
            refine lv_imul C0.x C0.b dX8_whole_67 ?_
            refine lv_iconst (v := 2) C0.x C0.b dX8_whole_68 (by decide) ?_
            refine lv_iadd C0.x C0.b dX8_whole_69 ?_
            refine r_lald C0 hw (lg_51 ad cI cJ X S5) hV.1 dX8_whole_70 ?_
            have hV := hV.2
            refine lv_ldiv C0.x C0.b dX8_whole_71 hV.1 ?_
            have hV := hV.2
            refine lv_lload_n C0.x C0.b dX8_whole_72 rfl (lv_at hl 1 rfl) ?_
            refine r_lcmp C0 dX8_whole_73 ?_
            refine lv_if_ne (tgt := 84) C0.x C0.b dX8_whole_74 (by decide) (fun c8 => ?_) (fun c8 => ?_)
            · have hV := hV.2 (fun h => c8 ((lc_eq _ _).mpr h))
              refine lv_lconst (v := 0) C0.x C0.b dX8_whole_84 (by decide) ?_
              refine lv_lor C0.x C0.b dX8_whole_85 ?_
              refine lv_topl (fun y11 ey11 => ?_)
              have hV := hV y11 ey11
              refine lv_lstore_n (lv' := [(3, .long y11), (0, .ref (ad 48)), (1, .long v1), (5, .int v5)]) C0.x C0.b dX8_whole_86 rfl hl (by decide) rfl (fun ls hl => ?_)
              obtain ⟨x12, ex12⟩ : ∃ z : Int32, z = v5 + 1 := ⟨_, rfl⟩
              have hV := hV x12 ex12
              refine lv_iinc (v := x12) (lv' := [(5, .int x12), (3, .long y11), (0, .ref (ad 48)), (1, .long v1)]) C0.x C0.b dX8_whole_87 hl (k := 3) rfl (by rw [ex12]; rfl) (by decide) rfl (fun ls hl => ?_)
              refine lv_goto (tgt := 10) C0.x C0.b dX8_whole_90 (by decide) ?_
              exact ih _ _ _ hV _ _ hw _ (lv_sub hl [2, 3, 1, 0] rfl)
            · have hV := hV.1 ((lc_eq _ _).mp c8)
              refine lv_lconst (v := 1) C0.x C0.b dX8_whole_77 (by decide) ?_
              refine lv_iload C0.x C0.b dX8_whole_78 (lv_at hl 3 rfl) ?_
              refine lv_lshl C0.x C0.b dX8_whole_80 rfl ?_
              refine lv_goto (tgt := 85) C0.x C0.b dX8_whole_81 (by decide) ?_
              refine lv_lor C0.x C0.b dX8_whole_85 ?_
              refine lv_topl (fun y9 ey9 => ?_)
              have hV := hV y9 ey9
              refine lv_lstore_n (lv' := [(3, .long y9), (0, .ref (ad 48)), (1, .long v1), (5, .int v5)]) C0.x C0.b dX8_whole_86 rfl hl (by decide) rfl (fun ls hl => ?_)
              obtain ⟨x10, ex10⟩ : ∃ z : Int32, z = v5 + 1 := ⟨_, rfl⟩
              have hV := hV x10 ex10
              refine lv_iinc (v := x10) (lv' := [(5, .int x10), (3, .long y9), (0, .ref (ad 48)), (1, .long v1)]) C0.x C0.b dX8_whole_87 hl (k := 3) rfl (by rw [ex10]; rfl) (by decide) rfl (fun ls hl => ?_)
              refine lv_goto (tgt := 10) C0.x C0.b dX8_whole_90 (by decide) ?_
              exact ih _ _ _ hV _ _ hw _ (lv_sub hl [2, 3, 1, 0] rfl)
def V_X8_whole  (p0 : Int64) (S : SS) (post : Int64 → SS → Prop) : Prop :=
  (∀ S1 : SS, S1 = (sI S 20 (0 : Int32)) → (∃ n10 : Nat, V_X8_whole_10  p0  post n10 (0 : Int64) (0 : Int32) S1))
set_option maxHeartbeats 4000000 in
set_option maxRecDepth 100000 in
theorem c_X8_whole  {S : SS} {p0 : Int64} {post : Int64 → SS → Prop} (hV : V_X8_whole  p0 S post) : ML l yX8_whole wsX8_whole rm_X8_whole [.ref (ad 48), .long p0] D n0 ad cI cJ X S post := by
  refine Met.ofW (cc := cX8_whole) (maxL := 6) (ret := (some .long)) (by decide) rfl ?_
  intro p e s m args below meth c s₁ B hml hv
  obtain ⟨rfl, hv⟩ := hv
  have C0 := Bd.mk B hml (atoms_spec (ws := wsX8_whole) B.pre) (findClass_of_methodNamed B.named) hv.1
  have hw : Wh D n0 ad cI cJ X S s s.heap [] := ⟨hv.2.1, hv.2.2, va_S.rf⟩
  refine r_entry (Nat.le_of_ble_eq_true rfl) (fun ls hl => ?_)
  have hl : lv_has ls 6 [(0, .ref (ad 48)), (1, .long p0)] := hl
  unfold V_X8_whole at hV
  refine lv_aload_n C0.x C0.b dX8_whole_0 rfl (lv_at hl 0 rfl) ?_
  refine lv_iconst (v := 0) C0.x C0.b dX8_whole_1 (by decide) ?_
  refine r_put C0 hw (C := RX8) (T := TX8) (N := 33) (ty := .int) iw_X8_whole_X8 tyX8 tyX8_ok nmX8 (lg_48 ad cI cJ X S) rfl 0 (by decide) (C0.ts _ fw_X8_whole_61) rfl (by decide +kernel) rfl rfl (Nat.le_of_ble_eq_true rfl) dX8_whole_2 (S' := (sI S 20 (0 : Int32))) (ls_48_0 ad cI cJ X S (0 : Int32)) (fun S1 H locs eS1 hw => ?_)
  have hV := hV S1 eS1
  refine lv_lconst (v := 0) C0.x C0.b dX8_whole_5 (by decide) ?_
  refine lv_lstore_n (lv' := [(3, .long (0 : Int64)), (0, .ref (ad 48)), (1, .long p0)]) C0.x C0.b dX8_whole_6 rfl hl (by decide) rfl (fun ls hl => ?_)
  refine lv_iconst (v := 0) C0.x C0.b dX8_whole_7 (by decide) ?_
  refine lv_istore (lv' := [(5, .int (0 : Int32)), (3, .long (0 : Int64)), (0, .ref (ad 48)), (1, .long p0)]) C0.x C0.b dX8_whole_8 hl (by decide) rfl (fun ls hl => ?_)
  obtain ⟨n10, hV⟩ := hV
  exact lp_X8_whole_10  _ post C0  n10 _ _ _ hV _ _ hw _ (lv_sub hl [2, 3, 1, 0] rfl)
/-! StepBenchModel.backs(JI)I -/
abbrev rm_X8_backs : Room := { frames := 3, cells := 0, slots := 0, locals := 76 }
set_option maxRecDepth 20000 in
theorem fw_X8_backs_61 : Cond.fieldLink RX8 61 "StepBenchModel" "thrown" "I" ∈ wsX8_backs := by decide +kernel
set_option maxRecDepth 20000 in
theorem iw_X8_backs_X8 : ∀ w ∈ wsX80, w ∈ wsX8_backs := by decide +kernel
set_option maxRecDepth 20000 in
theorem fw_X8_backs_108 : Cond.fieldLink RX8 108 "StepBenchModel" "sort" "I" ∈ wsX8_backs := by decide +kernel
set_option maxRecDepth 20000 in
theorem cw_X8_backs_223 : Cond.constantLong RX8 223 20 ∈ wsX8_backs := by decide +kernel
set_option maxRecDepth 20000 in
theorem fw_X8_backs_48 : Cond.fieldLink RX8 48 "StepBenchModel" "depth" "[J" ∈ wsX8_backs := by decide +kernel
set_option maxRecDepth 20000 in
theorem fw_X8_backs_32 : Cond.fieldLink RX8 32 "StepBenchModel" "found" "[J" ∈ wsX8_backs := by decide +kernel
set_option maxRecDepth 20000 in
theorem hd_X8_backs : yX8_backs.cls = RX8 ∧ yX8_backs.cls ≠ "java/lang/invoke/MethodHandle" ∧ yX8_backs.cls ≠ "java/lang/invoke/VarHandle" ∧ (parseMethodDescriptor yX8_backs.desc).map (fun d => d.parameters.length) = some 2 := by decide +kernel
def V_X8_backs_101  (v3 : Int32) (v5 : Int32) (v6 : Int32) (K47 : Int32 → Int32 → SS → Prop) (post : Int32 → SS → Prop) : Nat → Int32 → SS → Prop
  | 0, _, _ => False
  | n + 1, v7, S =>
    ((v6 ≤ v7 → (∀ x13 : Int32, x13 = v5 + 1 → (K47 v6 x13 S))) ∧ (¬ v6 ≤ v7 → (vp_in v7 20000 ∧ (vp_in v7 1000 ∧ ∀ S14 : SS, S14 = (sA S 39 (vp_updL (gA S 39) v7.toNatClampNeg (gA S 36 v7.toNatClampNeg))) → (∀ x15 : Int32, x15 = v7 + 1 → (V_X8_backs_101  v3 v5 v6 K47 post n x15 S14))))))
set_option maxHeartbeats 4000000 in
set_option maxRecDepth 100000 in
theorem lp_X8_backs_101  (v3 : Int32) (v5 : Int32) (v6 : Int32) (K47 : Int32 → Int32 → SS → Prop) (post : Int32 → SS → Prop) (C0 : Bd p s m meth c args cX8_backs 8 (some .int) wsX8_backs RX8 D n0 cI cJ) (hK47 : ∀ (v4 : Int32) (v5 : Int32) (S : SS), K47 v4 v5 S → ∀ (H : Heap) (locs : List Loc), Wh D n0 ad cI cJ X S s H locs → ∀ ls : Array Slot, lv_has ls 8 [(0, .ref (ad 48)), (3, .int v3), (4, .int v4), (5, .int v5)] → W p l e rm_X8_backs s m args below meth c H locs 0 0 (MQ below (va_Qi post (fun S' t => Wd D n0 ad cI cJ X S' t) (fr n0)) args s 0 0 (fr n0)) (F0 m 47 ls [])) : ∀ (n : Nat) (v7 : Int32) (S : SS), V_X8_backs_101  v3 v5 v6 K47 post n v7 S → ∀ (H : Heap) (locs : List Loc), Wh D n0 ad cI cJ X S s H locs → ∀ ls : Array Slot, lv_has ls 8 [(0, .ref (ad 48)), (3, .int v3), (5, .int v5), (6, .int v6), (7, .int v7)] → W p l e rm_X8_backs s m args below meth c H locs 0 0 (MQ below (va_Qi post (fun S' t => Wd D n0 ad cI cJ X S' t) (fr n0)) args s 0 0 (fr n0)) (F0 m 101 ls []) := by
  intro n
  induction n with
  | zero => intro v7 S hV; exact False.elim hV
  | succ n ih =>
    intro v7 S hV H locs hw ls hl
    rw [V_X8_backs_101] at hV
    refine lv_iload C0.x C0.b dX8_backs_101 (lv_at hl 4 rfl) ?_
    refine lv_iload C0.x C0.b dX8_backs_103 (lv_at hl 3 rfl) ?_
    refine lv_icmp_ge (tgt := 128) C0.x C0.b dX8_backs_105 (by decide) (fun c12 => ?_) (fun c12 => ?_)
    · have hV := hV.1 c12
      refine lv_iload C0.x C0.b dX8_backs_128 (lv_at hl 3 rfl) ?_
      refine lv_istore (lv' := [(4, .int v6), (0, .ref (ad 48)), (3, .int v3), (5, .int v5), (6, .int v6), (7, .int v7)]) C0.x C0.b dX8_backs_130 hl (by decide) rfl (fun ls hl => ?_)
      obtain ⟨x13, ex13⟩ : ∃ z : Int32, z = v5 + 1 := ⟨_, rfl⟩
      have hV := hV x13 ex13
      refine lv_iinc (v := x13) (lv' := [(5, .int x13), (4, .int v6), (0, .ref (ad 48)), (3, .int v3), (6, .int v6), (7, .int v7)]) C0.x C0.b dX8_backs_132 hl (k := 3) rfl (by rw [ex13]; rfl) (by decide) rfl (fun ls hl => ?_)
      refine lv_goto (tgt := 47) C0.x C0.b dX8_backs_135 (by decide) ?_
      exact hK47 _ _ _ hV _ _ hw _ (lv_sub hl [2, 3, 1, 0] rfl)
    · have hV := hV.2 c12
      refine lv_aload_n C0.x C0.b dX8_backs_108 rfl (lv_at hl 0 rfl) ?_
      refine r_get C0 hw (C := RX8) (T := TX8) (N := 33) (v := .ref (ad 60)) iw_X8_backs_X8 (lg_48 ad cI cJ X S) rfl 28 (by decide) (C0.ts _ fw_X8_backs_48) rfl dX8_backs_109 ?_
      refine lv_iload C0.x C0.b dX8_backs_112 (lv_at hl 4 rfl) ?_
      refine lv_aload_n C0.x C0.b dX8_backs_114 rfl (lv_at hl 0 rfl) ?_
      refine r_get C0 hw (C := RX8) (T := TX8) (N := 33) (v := .ref (ad 55)) iw_X8_backs_X8 (lg_48 ad cI cJ X S) rfl 16 (by decide) (C0.ts _ fw_X8_backs_32) rfl dX8_backs_115 ?_
      refine lv_iload C0.x C0.b dX8_backs_118 (lv_at hl 4 rfl) ?_
      refine r_lald C0 hw (lg_55 ad cI cJ X S) hV.1 dX8_backs_120 ?_
      have hV := hV.2
      refine r_last C0 hw (lg_60 ad cI cJ X S) hV.1 dX8_backs_121 (S' := (sA S 39 (vp_updL (gA S 39) v7.toNatClampNeg (gA S 36 v7.toNatClampNeg)))) (ls_60 ad cI cJ X S (vp_updL (gA S 39) v7.toNatClampNeg (gA S 36 v7.toNatClampNeg))) (fun S14 H locs eS14 hw => ?_)
      have hV := hV.2 S14 eS14
      obtain ⟨x15, ex15⟩ : ∃ z : Int32, z = v7 + 1 := ⟨_, rfl⟩
      have hV := hV x15 ex15
      refine lv_iinc (v := x15) (lv' := [(7, .int x15), (0, .ref (ad 48)), (3, .int v3), (5, .int v5), (6, .int v6)]) C0.x C0.b dX8_backs_122 hl (k := 4) rfl (by rw [ex15]; rfl) (by decide) rfl (fun ls hl => ?_)
      refine lv_goto (tgt := 101) C0.x C0.b dX8_backs_125 (by decide) ?_
      exact ih _ _ hV _ _ hw _ (lv_sub hl [1, 2, 3, 4, 0] rfl)
def V_X8_backs_59  (v3 : Int32) (v4 : Int32) (v5 : Int32) (K47 : Int32 → Int32 → SS → Prop) (post : Int32 → SS → Prop) : Nat → Int32 → Int32 → SS → Prop
  | 0, _, _, _ => False
  | n + 1, v6, v7, S =>
    ((v4 ≤ v7 → (∃ n101 : Nat, V_X8_backs_101  v3 v5 v6 K47 post n101 (0 : Int32) S)) ∧ (¬ v4 ≤ v7 → (vp_in v7 1000 ∧ (V_X8_backOf (gA S 39 v7.toNatClampNeg) v6 S (fun (r16 : Int32) (S17 : SS) => ((r16 ≤ (1000 : Int32) → (∀ x19 : Int32, x19 = v7 + 1 → (V_X8_backs_59  v3 v4 v5 K47 post n r16 x19 S17))) ∧ (¬ r16 ≤ (1000 : Int32) → (post (-2 : Int32) S17))))))))
set_option maxHeartbeats 4000000 in
set_option maxRecDepth 100000 in
theorem lp_X8_backs_59  (v3 : Int32) (v4 : Int32) (v5 : Int32) (K47 : Int32 → Int32 → SS → Prop) (post : Int32 → SS → Prop) (C0 : Bd p s m meth c args cX8_backs 8 (some .int) wsX8_backs RX8 D n0 cI cJ) (hK47 : ∀ (v4 : Int32) (v5 : Int32) (S : SS), K47 v4 v5 S → ∀ (H : Heap) (locs : List Loc), Wh D n0 ad cI cJ X S s H locs → ∀ ls : Array Slot, lv_has ls 8 [(0, .ref (ad 48)), (3, .int v3), (4, .int v4), (5, .int v5)] → W p l e rm_X8_backs s m args below meth c H locs 0 0 (MQ below (va_Qi post (fun S' t => Wd D n0 ad cI cJ X S' t) (fr n0)) args s 0 0 (fr n0)) (F0 m 47 ls [])) : ∀ (n : Nat) (v6 : Int32) (v7 : Int32) (S : SS), V_X8_backs_59  v3 v4 v5 K47 post n v6 v7 S → ∀ (H : Heap) (locs : List Loc), Wh D n0 ad cI cJ X S s H locs → ∀ ls : Array Slot, lv_has ls 8 [(0, .ref (ad 48)), (3, .int v3), (4, .int v4), (5, .int v5), (6, .int v6), (7, .int v7)] → W p l e rm_X8_backs s m args below meth c H locs 0 0 (MQ below (va_Qi post (fun S' t => Wd D n0 ad cI cJ X S' t) (fr n0)) args s 0 0 (fr n0)) (F0 m 59 ls []) := by
  intro n
  induction n with
  | zero => intro v6 v7 S hV; exact False.elim hV
  | succ n ih =>
    intro v6 v7 S hV H locs hw ls hl
    rw [V_X8_backs_59] at hV
    refine lv_iload C0.x C0.b dX8_backs_59 (lv_at hl 5 rfl) ?_
    refine lv_iload C0.x C0.b dX8_backs_61 (lv_at hl 2 rfl) ?_
    refine lv_icmp_ge (tgt := 98) C0.x C0.b dX8_backs_63 (by decide) (fun c11 => ?_) (fun c11 => ?_)
    · have hV := hV.1 c11
      refine lv_iconst (v := 0) C0.x C0.b dX8_backs_98 (by decide) ?_
      refine lv_istore (lv' := [(7, .int (0 : Int32)), (0, .ref (ad 48)), (3, .int v3), (4, .int v4), (5, .int v5), (6, .int v6)]) C0.x C0.b dX8_backs_99 hl (by decide) rfl (fun ls hl => ?_)
      obtain ⟨n101, hV⟩ := hV
      exact lp_X8_backs_101  _ _ _ _ post C0 hK47 n101 _ _ hV _ _ hw _ (lv_sub hl [1, 2, 4, 5, 0] rfl)
    · have hV := hV.2 c11
      refine lv_aload_n C0.x C0.b dX8_backs_66 rfl (lv_at hl 0 rfl) ?_
      refine lv_aload_n C0.x C0.b dX8_backs_67 rfl (lv_at hl 0 rfl) ?_
      refine r_get C0 hw (C := RX8) (T := TX8) (N := 33) (v := .ref (ad 60)) iw_X8_backs_X8 (lg_48 ad cI cJ X S) rfl 28 (by decide) (C0.ts _ fw_X8_backs_48) rfl dX8_backs_68 ?_
      refine lv_iload C0.x C0.b dX8_backs_71 (lv_at hl 5 rfl) ?_
      refine r_lald C0 hw (lg_60 ad cI cJ X S) hV.1 dX8_backs_73 ?_
      have hV := hV.2
      refine lv_iload C0.x C0.b dX8_backs_74 (lv_at hl 4 rfl) ?_
      refine r_cV_i (As := [.long (gA S 39 v7.toNatClampNeg), .int v6]) (rest := []) C0 hw (c_X8_backOf  hV) (cwV 2 C0.ts gX8_backs_X8_backOf rfl rfl rfl hd_X8_backOf ⟨Nat.le_of_ble_eq_true rfl, Nat.le_of_ble_eq_true rfl⟩) (lg_48 ad cI cJ X S) rfl rfl hl.1 rfl (Nat.le_of_ble_eq_true rfl) ⟨Nat.le_of_ble_eq_true rfl, Nat.le_of_ble_eq_true rfl⟩ dX8_backs_76 (fun r16 S17 H locs hV hw => ?_)
      refine lv_istore (lv' := [(6, .int r16), (0, .ref (ad 48)), (3, .int v3), (4, .int v4), (5, .int v5), (7, .int v7)]) C0.x C0.b dX8_backs_79 hl (by decide) rfl (fun ls hl => ?_)
      refine lv_iload C0.x C0.b dX8_backs_81 (lv_at hl 0 rfl) ?_
      refine lv_sipush (v := 1000) C0.x C0.b dX8_backs_83 (by decide) ?_
      refine lv_icmp_le (tgt := 92) C0.x C0.b dX8_backs_86 (by decide) (fun c18 => ?_) (fun c18 => ?_)
      · have hV := hV.1 c18
        obtain ⟨x19, ex19⟩ : ∃ z : Int32, z = v7 + 1 := ⟨_, rfl⟩
        have hV := hV x19 ex19
        refine lv_iinc (v := x19) (lv' := [(7, .int x19), (6, .int r16), (0, .ref (ad 48)), (3, .int v3), (4, .int v4), (5, .int v5)]) C0.x C0.b dX8_backs_92 hl (k := 5) rfl (by rw [ex19]; rfl) (by decide) rfl (fun ls hl => ?_)
        refine lv_goto (tgt := 59) C0.x C0.b dX8_backs_95 (by decide) ?_
        exact ih _ _ _ hV _ _ hw _ (lv_sub hl [2, 3, 4, 5, 1, 0] rfl)
      · have hV := hV.2 c18
        refine lv_bipush (v := -2) C0.x C0.b dX8_backs_89 (by decide) ?_
        exact r_iret C0 rfl hw hV dX8_backs_91
def V_X8_backs_47  (v3 : Int32)  (post : Int32 → SS → Prop) : Nat → Int32 → Int32 → SS → Prop
  | 0, _, _, _ => False
  | n + 1, v4, v5, S =>
    ((v3 ≤ v5 → (post v4 S)) ∧ (¬ v3 ≤ v5 → (∃ n59 : Nat, V_X8_backs_59  v3 v4 v5 (fun w4 w5 T => V_X8_backs_47  v3  post n w4 w5 T) post n59 (0 : Int32) (0 : Int32) S)))
set_option maxHeartbeats 4000000 in
set_option maxRecDepth 100000 in
theorem lp_X8_backs_47  (v3 : Int32)  (post : Int32 → SS → Prop) (C0 : Bd p s m meth c args cX8_backs 8 (some .int) wsX8_backs RX8 D n0 cI cJ) : ∀ (n : Nat) (v4 : Int32) (v5 : Int32) (S : SS), V_X8_backs_47  v3  post n v4 v5 S → ∀ (H : Heap) (locs : List Loc), Wh D n0 ad cI cJ X S s H locs → ∀ ls : Array Slot, lv_has ls 8 [(0, .ref (ad 48)), (3, .int v3), (4, .int v4), (5, .int v5)] → W p l e rm_X8_backs s m args below meth c H locs 0 0 (MQ below (va_Qi post (fun S' t => Wd D n0 ad cI cJ X S' t) (fr n0)) args s 0 0 (fr n0)) (F0 m 47 ls []) := by
  intro n
  induction n with
  | zero => intro v4 v5 S hV; exact False.elim hV
  | succ n ih =>
    intro v4 v5 S hV H locs hw ls hl
    rw [V_X8_backs_47] at hV
    refine lv_iload C0.x C0.b dX8_backs_47 (lv_at hl 3 rfl) ?_
    refine lv_iload_n C0.x C0.b dX8_backs_49 rfl (lv_at hl 1 rfl) ?_
    refine lv_icmp_ge (tgt := 138) C0.x C0.b dX8_backs_50 (by decide) (fun c10 => ?_) (fun c10 => ?_)
    · have hV := hV.1 c10
      refine lv_iload C0.x C0.b dX8_backs_138 (lv_at hl 2 rfl) ?_
      exact r_iret C0 rfl hw hV dX8_backs_140
    · have hV := hV.2 c10
      refine lv_iconst (v := 0) C0.x C0.b dX8_backs_53 (by decide) ?_
      refine lv_istore (lv' := [(6, .int (0 : Int32)), (0, .ref (ad 48)), (3, .int v3), (4, .int v4), (5, .int v5)]) C0.x C0.b dX8_backs_54 hl (by decide) rfl (fun ls hl => ?_)
      refine lv_iconst (v := 0) C0.x C0.b dX8_backs_56 (by decide) ?_
      refine lv_istore (lv' := [(7, .int (0 : Int32)), (6, .int (0 : Int32)), (0, .ref (ad 48)), (3, .int v3), (4, .int v4), (5, .int v5)]) C0.x C0.b dX8_backs_57 hl (by decide) rfl (fun ls hl => ?_)
      obtain ⟨n59, hV⟩ := hV
      exact lp_X8_backs_59  _ _ _ _ post C0 ih n59 _ _ _ hV _ _ hw _ (lv_sub hl [2, 3, 4, 5, 1, 0] rfl)
def V_X8_backs  (p0 : Int64) (p1 : Int32) (S : SS) (post : Int32 → SS → Prop) : Prop :=
  (∀ S1 : SS, S1 = (sI S 20 (0 : Int32)) → (((gI S1 25) = (1 : Int32) → (V_X8_isNumber p0 S1 (fun (r3 : Int32) (S4 : SS) => ((r3 = 0 → (post (-1 : Int32) S4)) ∧ (¬ r3 = 0 → (V_X8_in p1.toInt64 (0 : Int64) (20 : Int64) S4 (fun (r6 : Int32) (S7 : SS) => ((r6 = 0 → (post (-1 : Int32) S7)) ∧ (¬ r6 = 0 → (vp_in (0 : Int32) 1000 ∧ ∀ S9 : SS, S9 = (sA S7 39 (vp_updL (gA S7 39) (0 : Int32).toNatClampNeg p0)) → (∃ n47 : Nat, V_X8_backs_47  p1  post n47 (1 : Int32) (0 : Int32) S9))))))))))) ∧ (¬ (gI S1 25) = (1 : Int32) → (post (-1 : Int32) S1))))
set_option maxHeartbeats 4000000 in
set_option maxRecDepth 100000 in
theorem c_X8_backs  {S : SS} {p0 : Int64} {p1 : Int32} {post : Int32 → SS → Prop} (hV : V_X8_backs  p0 p1 S post) : MI l yX8_backs wsX8_backs rm_X8_backs [.ref (ad 48), .long p0, .int p1] D n0 ad cI cJ X S post := by
  refine Met.ofW (cc := cX8_backs) (maxL := 8) (ret := (some .int)) (by decide) rfl ?_
  intro p e s m args below meth c s₁ B hml hv
  obtain ⟨rfl, hv⟩ := hv
  have C0 := Bd.mk B hml (atoms_spec (ws := wsX8_backs) B.pre) (findClass_of_methodNamed B.named) hv.1
  have hw : Wh D n0 ad cI cJ X S s s.heap [] := ⟨hv.2.1, hv.2.2, va_S.rf⟩
  refine r_entry (Nat.le_of_ble_eq_true rfl) (fun ls hl => ?_)
  have hl : lv_has ls 8 [(0, .ref (ad 48)), (1, .long p0), (3, .int p1)] := hl
  unfold V_X8_backs at hV
  refine lv_aload_n C0.x C0.b dX8_backs_0 rfl (lv_at hl 0 rfl) ?_
  refine lv_iconst (v := 0) C0.x C0.b dX8_backs_1 (by decide) ?_
  refine r_put C0 hw (C := RX8) (T := TX8) (N := 33) (ty := .int) iw_X8_backs_X8 tyX8 tyX8_ok nmX8 (lg_48 ad cI cJ X S) rfl 0 (by decide) (C0.ts _ fw_X8_backs_61) rfl (by decide +kernel) rfl rfl (Nat.le_of_ble_eq_true rfl) dX8_backs_2 (S' := (sI S 20 (0 : Int32))) (ls_48_0 ad cI cJ X S (0 : Int32)) (fun S1 H locs eS1 hw => ?_)
  have hV := hV S1 eS1
  refine lv_aload_n C0.x C0.b dX8_backs_5 rfl (lv_at hl 0 rfl) ?_
  refine r_get C0 hw (C := RX8) (T := TX8) (N := 33) (v := .int (gI S1 25)) iw_X8_backs_X8 (lg_48 ad cI cJ X S1) rfl 7 (by decide) (C0.ts _ fw_X8_backs_108) rfl dX8_backs_6 ?_
  refine lv_iconst (v := 1) C0.x C0.b dX8_backs_9 (by decide) ?_
  refine lv_icmp_ne (tgt := 32) C0.x C0.b dX8_backs_10 (by decide) (fun c2 => ?_) (fun c2 => ?_)
  · have hV := hV.2 c2
    refine lv_iconst (v := -1) C0.x C0.b dX8_backs_32 (by decide) ?_
    exact r_iret C0 rfl hw hV dX8_backs_33
  · have hV := hV.1 c2
    refine lv_lload_n C0.x C0.b dX8_backs_13 rfl (lv_at hl 1 rfl) ?_
    refine r_cS_i (As := [.long p0]) (rest := []) C0 hw (c_X8_isNumber  hV) (va_cwS 1 C0.ts gX8_backs_X8_isNumber rfl rfl rfl hd_X8_isNumber ⟨Nat.le_of_ble_eq_true rfl, Nat.le_of_ble_eq_true rfl⟩) rfl hl.1 rfl (Nat.le_of_ble_eq_true rfl) ⟨Nat.le_of_ble_eq_true rfl, Nat.le_of_ble_eq_true rfl⟩ dX8_backs_14 (fun r3 S4 H locs hV hw => ?_)
    refine lv_if_eq (tgt := 32) C0.x C0.b dX8_backs_17 (by decide) (fun c5 => ?_) (fun c5 => ?_)
    · have hV := hV.1 c5
      refine lv_iconst (v := -1) C0.x C0.b dX8_backs_32 (by decide) ?_
      exact r_iret C0 rfl hw hV dX8_backs_33
    · have hV := hV.2 c5
      refine lv_iload_n C0.x C0.b dX8_backs_20 rfl (lv_at hl 2 rfl) ?_
      refine lv_i2l C0.x C0.b dX8_backs_21 rfl ?_
      refine lv_lconst (v := 0) C0.x C0.b dX8_backs_22 (by decide) ?_
      refine lv_ldc2 (v := 20) C0.x C0.b C0.ow (C0.ts _ cw_X8_backs_223) dX8_backs_23 ?_
      refine r_cS_i (As := [.long p1.toInt64, .long (0 : Int64), .long (20 : Int64)]) (rest := []) C0 hw (c_X8_in  hV) (va_cwS 3 C0.ts gX8_backs_X8_in rfl rfl rfl hd_X8_in ⟨Nat.le_of_ble_eq_true rfl, Nat.le_of_ble_eq_true rfl⟩) rfl hl.1 rfl (Nat.le_of_ble_eq_true rfl) ⟨Nat.le_of_ble_eq_true rfl, Nat.le_of_ble_eq_true rfl⟩ dX8_backs_26 (fun r6 S7 H locs hV hw => ?_)
      refine lv_if_ne (tgt := 34) C0.x C0.b dX8_backs_29 (by decide) (fun c8 => ?_) (fun c8 => ?_)
      · have hV := hV.2 c8
        refine lv_aload_n C0.x C0.b dX8_backs_34 rfl (lv_at hl 0 rfl) ?_
        refine r_get C0 hw (C := RX8) (T := TX8) (N := 33) (v := .ref (ad 60)) iw_X8_backs_X8 (lg_48 ad cI cJ X S7) rfl 28 (by decide) (C0.ts _ fw_X8_backs_48) rfl dX8_backs_35 ?_
        refine lv_iconst (v := 0) C0.x C0.b dX8_backs_38 (by decide) ?_
        refine lv_lload_n C0.x C0.b dX8_backs_39 rfl (lv_at hl 1 rfl) ?_
        refine r_last C0 hw (lg_60 ad cI cJ X S7) hV.1 dX8_backs_40 (S' := (sA S7 39 (vp_updL (gA S7 39) (0 : Int32).toNatClampNeg p0))) (ls_60 ad cI cJ X S7 (vp_updL (gA S7 39) (0 : Int32).toNatClampNeg p0)) (fun S9 H locs eS9 hw => ?_)
        have hV := hV.2 S9 eS9
        refine lv_iconst (v := 1) C0.x C0.b dX8_backs_41 (by decide) ?_
        refine lv_istore (lv' := [(4, .int (1 : Int32)), (0, .ref (ad 48)), (1, .long p0), (3, .int p1)]) C0.x C0.b dX8_backs_42 hl (by decide) rfl (fun ls hl => ?_)
        refine lv_iconst (v := 0) C0.x C0.b dX8_backs_44 (by decide) ?_
        refine lv_istore (lv' := [(5, .int (0 : Int32)), (4, .int (1 : Int32)), (0, .ref (ad 48)), (1, .long p0), (3, .int p1)]) C0.x C0.b dX8_backs_45 hl (by decide) rfl (fun ls hl => ?_)
        obtain ⟨n47, hV⟩ := hV
        exact lp_X8_backs_47  _ post C0  n47 _ _ _ hV _ _ hw _ (lv_sub hl [2, 4, 1, 0] rfl)
      · have hV := hV.1 c8
        refine lv_iconst (v := -1) C0.x C0.b dX8_backs_32 (by decide) ?_
        exact r_iret C0 rfl hw hV dX8_backs_33
/-! StepBenchModel.gap(I)J -/
abbrev rm_X8_gap : Room := { frames := 0, cells := 0, slots := 0, locals := 0 }
set_option maxRecDepth 20000 in
theorem fw_X8_gap_20 : Cond.fieldLink RX8 20 "StepBenchModel" "rule" "[J" ∈ wsX8_gap := by decide +kernel
set_option maxRecDepth 20000 in
theorem iw_X8_gap_X8 : ∀ w ∈ wsX80, w ∈ wsX8_gap := by decide +kernel
set_option maxRecDepth 20000 in
theorem fw_X8_gap_105 : Cond.fieldLink RX8 105 "StepBenchModel" "m" "I" ∈ wsX8_gap := by decide +kernel
set_option maxRecDepth 20000 in
theorem hd_X8_gap : yX8_gap.cls = RX8 ∧ yX8_gap.cls ≠ "java/lang/invoke/MethodHandle" ∧ yX8_gap.cls ≠ "java/lang/invoke/VarHandle" ∧ (parseMethodDescriptor yX8_gap.desc).map (fun d => d.parameters.length) = some 1 := by decide +kernel
def V_X8_gap  (p0 : Int32) (S : SS) (post : Int64 → SS → Prop) : Prop :=
  (vp_in ((3 : Int32) * p0) 192 ∧ (vp_in (((3 : Int32) * p0) + (2 : Int32)) 192 ∧ (¬ (gA S 32 (((3 : Int32) * p0) + (2 : Int32)).toNatClampNeg) = 0 ∧ (∀ y1 : Int64, y1 = (((gA S 32 ((3 : Int32) * p0).toNatClampNeg) * (gI S 26).toInt64) / (gA S 32 (((3 : Int32) * p0) + (2 : Int32)).toNatClampNeg)) → (((0 : Int64) ≤ y1 → (post y1 S)) ∧ (¬ (0 : Int64) ≤ y1 → (post (-y1) S)))))))
set_option maxHeartbeats 4000000 in
set_option maxRecDepth 100000 in
theorem c_X8_gap  {S : SS} {p0 : Int32} {post : Int64 → SS → Prop} (hV : V_X8_gap  p0 S post) : ML l yX8_gap wsX8_gap rm_X8_gap [.ref (ad 48), .int p0] D n0 ad cI cJ X S post := by
  refine Met.ofW (cc := cX8_gap) (maxL := 4) (ret := (some .long)) (by decide) rfl ?_
  intro p e s m args below meth c s₁ B hml hv
  obtain ⟨rfl, hv⟩ := hv
  have C0 := Bd.mk B hml (atoms_spec (ws := wsX8_gap) B.pre) (findClass_of_methodNamed B.named) hv.1
  have hw : Wh D n0 ad cI cJ X S s s.heap [] := ⟨hv.2.1, hv.2.2, va_S.rf⟩
  refine r_entry (Nat.le_of_ble_eq_true rfl) (fun ls hl => ?_)
  have hl : lv_has ls 4 [(0, .ref (ad 48)), (1, .int p0)] := hl
  unfold V_X8_gap at hV
  refine lv_aload_n C0.x C0.b dX8_gap_0 rfl (lv_at hl 0 rfl) ?_
  refine r_get C0 hw (C := RX8) (T := TX8) (N := 33) (v := .ref (ad 51)) iw_X8_gap_X8 (lg_48 ad cI cJ X S) rfl 9 (by decide) (C0.ts _ fw_X8_gap_20) rfl dX8_gap_1 ?_
  refine lv_iconst (v := 3) C0.x C0.b dX8_gap_4 (by decide) ?_
  refine lv_iload_n C0.x C0.b dX8_gap_5 rfl (lv_at hl 1 rfl) ?_
  refine lv_imul C0.x C0.b dX8_gap_6 ?_
  refine r_lald C0 hw (lg_51 ad cI cJ X S) hV.1 dX8_gap_7 ?_
  have hV := hV.2
  refine lv_aload_n C0.x C0.b dX8_gap_8 rfl (lv_at hl 0 rfl) ?_
  refine r_get C0 hw (C := RX8) (T := TX8) (N := 33) (v := .int (gI S 26)) iw_X8_gap_X8 (lg_48 ad cI cJ X S) rfl 8 (by decide) (C0.ts _ fw_X8_gap_105) rfl dX8_gap_9 ?_
  refine lv_i2l C0.x C0.b dX8_gap_12 rfl ?_
  refine lv_lmul C0.x C0.b dX8_gap_13 ?_
  refine lv_aload_n C0.x C0.b dX8_gap_14 rfl (lv_at hl 0 rfl) ?_
  refine r_get C0 hw (C := RX8) (T := TX8) (N := 33) (v := .ref (ad 51)) iw_X8_gap_X8 (lg_48 ad cI cJ X S) rfl 9 (by decide) (C0.ts _ fw_X8_gap_20) rfl dX8_gap_15 ?_
  refine lv_iconst (v := 3) C0.x C0.b dX8_gap_18 (by decide) ?_
  refine lv_iload_n C0.x C0.b dX8_gap_19 rfl (lv_at hl 1 rfl) ?_
  refine lv_imul C0.x C0.b dX8_gap_20 ?_
  refine lv_iconst (v := 2) C0.x C0.b dX8_gap_21 (by decide) ?_
  refine lv_iadd C0.x C0.b dX8_gap_22 ?_
  refine r_lald C0 hw (lg_51 ad cI cJ X S) hV.1 dX8_gap_23 ?_
  have hV := hV.2
  refine lv_ldiv C0.x C0.b dX8_gap_24 hV.1 ?_
  have hV := hV.2
  refine lv_topl (fun y1 ey1 => ?_)
  have hV := hV y1 ey1
  refine lv_lstore_n (lv' := [(2, .long y1), (0, .ref (ad 48)), (1, .int p0)]) C0.x C0.b dX8_gap_25 rfl hl (by decide) rfl (fun ls hl => ?_)
  refine lv_lload_n C0.x C0.b dX8_gap_26 rfl (lv_at hl 0 rfl) ?_
  refine lv_lconst (v := 0) C0.x C0.b dX8_gap_27 (by decide) ?_
  refine r_lcmp C0 dX8_gap_28 ?_
  refine lv_if_ge (tgt := 37) C0.x C0.b dX8_gap_29 (by decide) (fun c2 => ?_) (fun c2 => ?_)
  · have hV := hV.1 ((lc_ge _ _).mp c2)
    refine lv_lload_n C0.x C0.b dX8_gap_37 rfl (lv_at hl 0 rfl) ?_
    exact r_lret C0 rfl hw hV dX8_gap_38
  · have hV := hV.2 (fun h => c2 ((lc_ge _ _).mpr h))
    refine lv_lload_n C0.x C0.b dX8_gap_32 rfl (lv_at hl 0 rfl) ?_
    refine lv_lneg C0.x C0.b dX8_gap_33 ?_
    refine lv_goto (tgt := 38) C0.x C0.b dX8_gap_34 (by decide) ?_
    exact r_lret C0 rfl hw hV dX8_gap_38
/-! StepBenchModel.first(I)J -/
abbrev rm_X8_first : Room := { frames := 0, cells := 0, slots := 0, locals := 0 }
set_option maxRecDepth 20000 in
theorem fw_X8_first_20 : Cond.fieldLink RX8 20 "StepBenchModel" "rule" "[J" ∈ wsX8_first := by decide +kernel
set_option maxRecDepth 20000 in
theorem iw_X8_first_X8 : ∀ w ∈ wsX80, w ∈ wsX8_first := by decide +kernel
set_option maxRecDepth 20000 in
theorem hd_X8_first : yX8_first.cls = RX8 ∧ yX8_first.cls ≠ "java/lang/invoke/MethodHandle" ∧ yX8_first.cls ≠ "java/lang/invoke/VarHandle" ∧ (parseMethodDescriptor yX8_first.desc).map (fun d => d.parameters.length) = some 1 := by decide +kernel
def V_X8_first  (p0 : Int32) (S : SS) (post : Int64 → SS → Prop) : Prop :=
  (vp_in ((3 : Int32) * p0) 192 ∧ (vp_in (((3 : Int32) * p0) + (1 : Int32)) 192 ∧ (vp_in (((3 : Int32) * p0) + (2 : Int32)) 192 ∧ (¬ (gA S 32 (((3 : Int32) * p0) + (2 : Int32)).toNatClampNeg) = 0 ∧ (post ((((gA S 32 ((3 : Int32) * p0).toNatClampNeg) * p0.toInt64) + (gA S 32 (((3 : Int32) * p0) + (1 : Int32)).toNatClampNeg)) / (gA S 32 (((3 : Int32) * p0) + (2 : Int32)).toNatClampNeg)) S)))))
set_option maxHeartbeats 4000000 in
set_option maxRecDepth 100000 in
theorem c_X8_first  {S : SS} {p0 : Int32} {post : Int64 → SS → Prop} (hV : V_X8_first  p0 S post) : ML l yX8_first wsX8_first rm_X8_first [.ref (ad 48), .int p0] D n0 ad cI cJ X S post := by
  refine Met.ofW (cc := cX8_first) (maxL := 2) (ret := (some .long)) (by decide) rfl ?_
  intro p e s m args below meth c s₁ B hml hv
  obtain ⟨rfl, hv⟩ := hv
  have C0 := Bd.mk B hml (atoms_spec (ws := wsX8_first) B.pre) (findClass_of_methodNamed B.named) hv.1
  have hw : Wh D n0 ad cI cJ X S s s.heap [] := ⟨hv.2.1, hv.2.2, va_S.rf⟩
  refine r_entry (Nat.le_of_ble_eq_true rfl) (fun ls hl => ?_)
  have hl : lv_has ls 2 [(0, .ref (ad 48)), (1, .int p0)] := hl
  unfold V_X8_first at hV
  refine lv_aload_n C0.x C0.b dX8_first_0 rfl (lv_at hl 0 rfl) ?_
  refine r_get C0 hw (C := RX8) (T := TX8) (N := 33) (v := .ref (ad 51)) iw_X8_first_X8 (lg_48 ad cI cJ X S) rfl 9 (by decide) (C0.ts _ fw_X8_first_20) rfl dX8_first_1 ?_
  refine lv_iconst (v := 3) C0.x C0.b dX8_first_4 (by decide) ?_
  refine lv_iload_n C0.x C0.b dX8_first_5 rfl (lv_at hl 1 rfl) ?_
  refine lv_imul C0.x C0.b dX8_first_6 ?_
  refine r_lald C0 hw (lg_51 ad cI cJ X S) hV.1 dX8_first_7 ?_
  have hV := hV.2
  refine lv_iload_n C0.x C0.b dX8_first_8 rfl (lv_at hl 1 rfl) ?_
  refine lv_i2l C0.x C0.b dX8_first_9 rfl ?_
  refine lv_lmul C0.x C0.b dX8_first_10 ?_
  refine lv_aload_n C0.x C0.b dX8_first_11 rfl (lv_at hl 0 rfl) ?_
  refine r_get C0 hw (C := RX8) (T := TX8) (N := 33) (v := .ref (ad 51)) iw_X8_first_X8 (lg_48 ad cI cJ X S) rfl 9 (by decide) (C0.ts _ fw_X8_first_20) rfl dX8_first_12 ?_
  refine lv_iconst (v := 3) C0.x C0.b dX8_first_15 (by decide) ?_
  refine lv_iload_n C0.x C0.b dX8_first_16 rfl (lv_at hl 1 rfl) ?_
  refine lv_imul C0.x C0.b dX8_first_17 ?_
  refine lv_iconst (v := 1) C0.x C0.b dX8_first_18 (by decide) ?_
  refine lv_iadd C0.x C0.b dX8_first_19 ?_
  refine r_lald C0 hw (lg_51 ad cI cJ X S) hV.1 dX8_first_20 ?_
  have hV := hV.2
  refine lv_ladd C0.x C0.b dX8_first_21 ?_
  refine lv_aload_n C0.x C0.b dX8_first_22 rfl (lv_at hl 0 rfl) ?_
  refine r_get C0 hw (C := RX8) (T := TX8) (N := 33) (v := .ref (ad 51)) iw_X8_first_X8 (lg_48 ad cI cJ X S) rfl 9 (by decide) (C0.ts _ fw_X8_first_20) rfl dX8_first_23 ?_
  refine lv_iconst (v := 3) C0.x C0.b dX8_first_26 (by decide) ?_
  refine lv_iload_n C0.x C0.b dX8_first_27 rfl (lv_at hl 1 rfl) ?_
  refine lv_imul C0.x C0.b dX8_first_28 ?_
  refine lv_iconst (v := 2) C0.x C0.b dX8_first_29 (by decide) ?_
  refine lv_iadd C0.x C0.b dX8_first_30 ?_
  refine r_lald C0 hw (lg_51 ad cI cJ X S) hV.1 dX8_first_31 ?_
  have hV := hV.2
  refine lv_ldiv C0.x C0.b dX8_first_32 hV.1 ?_
  have hV := hV.2
  exact r_lret C0 rfl hw hV dX8_first_33
/-! StepBenchModel.measure()I -/
abbrev rm_X8_measure : Room := { frames := 1, cells := 0, slots := 0, locals := 29 }
set_option maxRecDepth 20000 in
theorem fw_X8_measure_105 : Cond.fieldLink RX8 105 "StepBenchModel" "m" "I" ∈ wsX8_measure := by decide +kernel
set_option maxRecDepth 20000 in
theorem iw_X8_measure_X8 : ∀ w ∈ wsX80, w ∈ wsX8_measure := by decide +kernel
set_option maxRecDepth 20000 in
theorem cw_X8_measure_228 : Cond.constantLong RX8 228 100001 ∈ wsX8_measure := by decide +kernel
set_option maxRecDepth 20000 in
theorem ml_X8_measure_196 : Cond.methodLink RX8 196 Lib.MathLoose.min_long.x ∈ wsX8_measure := by decide +kernel
set_option maxRecDepth 20000 in
theorem ms_X8_measure_196 : Cond.static Lib.MathLoose.min_long.x ∈ wsX8_measure := by decide +kernel
set_option maxRecDepth 20000 in
theorem mi_X8_measure_196 : Cond.initialized "java/lang/Math" ∈ wsX8_measure := by decide +kernel
set_option maxRecDepth 20000 in
theorem mc_X8_measure_196 : Cond.code Lib.MathLoose.min_long.x Lib.MathLoose.min_long.code 4 (some .long) ∈ wsX8_measure := by decide +kernel
set_option maxRecDepth 20000 in
theorem cw_X8_measure_157 : Cond.constantLong RX8 157 100000 ∈ wsX8_measure := by decide +kernel
set_option maxRecDepth 20000 in
theorem fw_X8_measure_20 : Cond.fieldLink RX8 20 "StepBenchModel" "rule" "[J" ∈ wsX8_measure := by decide +kernel
set_option maxRecDepth 20000 in
theorem hd_X8_measure : yX8_measure.cls = RX8 ∧ yX8_measure.cls ≠ "java/lang/invoke/MethodHandle" ∧ yX8_measure.cls ≠ "java/lang/invoke/VarHandle" ∧ (parseMethodDescriptor yX8_measure.desc).map (fun d => d.parameters.length) = some 0 := by decide +kernel
def V_X8_measure_35    (post : Int32 → SS → Prop) : Nat → Int64 → Int32 → SS → Prop
  | 0, _, _, _ => False
  | n + 1, v1, v3, S =>
    (((gI S 26) ≤ v3 → (∀ y3 : Int64, y3 = (mnL v1 (100001 : Int64)) → (post y3.toInt32 S))) ∧ (¬ (gI S 26) ≤ v3 → (((100000 : Int64) < v1 → (∀ y5 : Int64, y5 = (mnL v1 (100001 : Int64)) → (post y5.toInt32 S))) ∧ (¬ (100000 : Int64) < v1 → (V_X8_gap v3 S (fun (r6 : Int64) (S7 : SS) => (V_X8_common v1 r6 S7 (fun (r8 : Int64) (S9 : SS) => (¬ r8 = 0 ∧ (V_X8_gap v3 S9 (fun (r10 : Int64) (S11 : SS) => (∀ y12 : Int64, y12 = ((v1 / r8) * r10) → (∀ x13 : Int32, x13 = v3 + 1 → (V_X8_measure_35    post n y12 x13 S11))))))))))))))
set_option maxHeartbeats 4000000 in
set_option maxRecDepth 100000 in
theorem lp_X8_measure_35    (post : Int32 → SS → Prop) (C0 : Bd p s m meth c args cX8_measure 4 (some .int) wsX8_measure RX8 D n0 cI cJ) : ∀ (n : Nat) (v1 : Int64) (v3 : Int32) (S : SS), V_X8_measure_35    post n v1 v3 S → ∀ (H : Heap) (locs : List Loc), Wh D n0 ad cI cJ X S s H locs → ∀ ls : Array Slot, lv_has ls 4 [(0, .ref (ad 48)), (1, .long v1), (3, .int v3)] → W p l e rm_X8_measure s m args below meth c H locs 0 0 (MQ below (va_Qi post (fun S' t => Wd D n0 ad cI cJ X S' t) (fr n0)) args s 0 0 (fr n0)) (F0 m 35 ls []) := by
  intro n
  induction n with
  | zero => intro v1 v3 S hV; exact False.elim hV
  | succ n ih =>
    intro v1 v3 S hV H locs hw ls hl
    rw [V_X8_measure_35] at hV
    refine lv_iload_n C0.x C0.b dX8_measure_35 rfl (lv_at hl 2 rfl) ?_
    refine lv_aload_n C0.x C0.b dX8_measure_36 rfl (lv_at hl 0 rfl) ?_
    refine r_get C0 hw (C := RX8) (T := TX8) (N := 33) (v := .int (gI S 26)) iw_X8_measure_X8 (lg_48 ad cI cJ X S) rfl 8 (by decide) (C0.ts _ fw_X8_measure_105) rfl dX8_measure_37 ?_
    refine lv_icmp_ge (tgt := 75) C0.x C0.b dX8_measure_40 (by decide) (fun c2 => ?_) (fun c2 => ?_)
    · have hV := hV.1 c2
      refine lv_lload_n C0.x C0.b dX8_measure_75 rfl (lv_at hl 1 rfl) ?_
      refine lv_ldc2 (v := 100001) C0.x C0.b C0.ow (C0.ts _ cw_X8_measure_228) dX8_measure_76 ?_
      refine va_mmin_long C0.x C0.b (C0.ml.trans hl.1.symm) C0.ow (C0.ts _ ml_X8_measure_196) (C0.ts _ ms_X8_measure_196) (C0.ts _ mi_X8_measure_196) (C0.ts _ mc_X8_measure_196) (Nat.le_of_ble_eq_true rfl) (Nat.le_of_ble_eq_true rfl) (Nat.le_of_ble_eq_true rfl) (Nat.le_of_ble_eq_true rfl) dX8_measure_79 ?_
      refine lv_topl (fun y3 ey3 => ?_)
      have hV := hV y3 ey3
      refine lv_l2i C0.x C0.b dX8_measure_82 rfl ?_
      exact r_iret C0 rfl hw hV dX8_measure_83
    · have hV := hV.2 c2
      refine lv_lload_n C0.x C0.b dX8_measure_43 rfl (lv_at hl 1 rfl) ?_
      refine lv_ldc2 (v := 100000) C0.x C0.b C0.ow (C0.ts _ cw_X8_measure_157) dX8_measure_44 ?_
      refine r_lcmp C0 dX8_measure_47 ?_
      refine lv_if_gt (tgt := 75) C0.x C0.b dX8_measure_48 (by decide) (fun c4 => ?_) (fun c4 => ?_)
      · have hV := hV.1 ((lc_gt _ _).mp c4)
        refine lv_lload_n C0.x C0.b dX8_measure_75 rfl (lv_at hl 1 rfl) ?_
        refine lv_ldc2 (v := 100001) C0.x C0.b C0.ow (C0.ts _ cw_X8_measure_228) dX8_measure_76 ?_
        refine va_mmin_long C0.x C0.b (C0.ml.trans hl.1.symm) C0.ow (C0.ts _ ml_X8_measure_196) (C0.ts _ ms_X8_measure_196) (C0.ts _ mi_X8_measure_196) (C0.ts _ mc_X8_measure_196) (Nat.le_of_ble_eq_true rfl) (Nat.le_of_ble_eq_true rfl) (Nat.le_of_ble_eq_true rfl) (Nat.le_of_ble_eq_true rfl) dX8_measure_79 ?_
        refine lv_topl (fun y5 ey5 => ?_)
        have hV := hV y5 ey5
        refine lv_l2i C0.x C0.b dX8_measure_82 rfl ?_
        exact r_iret C0 rfl hw hV dX8_measure_83
      · have hV := hV.2 (fun h => c4 ((lc_gt _ _).mpr h))
        refine lv_lload_n C0.x C0.b dX8_measure_51 rfl (lv_at hl 1 rfl) ?_
        refine lv_lload_n C0.x C0.b dX8_measure_52 rfl (lv_at hl 1 rfl) ?_
        refine lv_aload_n C0.x C0.b dX8_measure_53 rfl (lv_at hl 0 rfl) ?_
        refine lv_iload_n C0.x C0.b dX8_measure_54 rfl (lv_at hl 2 rfl) ?_
        refine r_cV_l (As := [.int v3]) (rest := [.long v1, .long v1]) C0 hw (c_X8_gap  hV) (cwV 1 C0.ts gX8_measure_X8_gap rfl rfl rfl hd_X8_gap ⟨Nat.le_of_ble_eq_true rfl, Nat.le_of_ble_eq_true rfl⟩) (lg_48 ad cI cJ X S) rfl rfl hl.1 rfl (Nat.le_of_ble_eq_true rfl) ⟨Nat.le_of_ble_eq_true rfl, Nat.le_of_ble_eq_true rfl⟩ dX8_measure_55 (fun r6 S7 H locs hV hw => ?_)
        refine r_cS_l (As := [.long v1, .long r6]) (rest := [.long v1]) C0 hw (c_X8_common  hV) (va_cwS 2 C0.ts gX8_measure_X8_common rfl rfl rfl hd_X8_common ⟨Nat.le_of_ble_eq_true rfl, Nat.le_of_ble_eq_true rfl⟩) rfl hl.1 rfl (Nat.le_of_ble_eq_true rfl) ⟨Nat.le_of_ble_eq_true rfl, Nat.le_of_ble_eq_true rfl⟩ dX8_measure_58 (fun r8 S9 H locs hV hw => ?_)
        refine lv_ldiv C0.x C0.b dX8_measure_61 hV.1 ?_
        have hV := hV.2
        refine lv_aload_n C0.x C0.b dX8_measure_62 rfl (lv_at hl 0 rfl) ?_
        refine lv_iload_n C0.x C0.b dX8_measure_63 rfl (lv_at hl 2 rfl) ?_
        refine r_cV_l (As := [.int v3]) (rest := [.long (v1 / r8)]) C0 hw (c_X8_gap  hV) (cwV 1 C0.ts gX8_measure_X8_gap rfl rfl rfl hd_X8_gap ⟨Nat.le_of_ble_eq_true rfl, Nat.le_of_ble_eq_true rfl⟩) (lg_48 ad cI cJ X S9) rfl rfl hl.1 rfl (Nat.le_of_ble_eq_true rfl) ⟨Nat.le_of_ble_eq_true rfl, Nat.le_of_ble_eq_true rfl⟩ dX8_measure_64 (fun r10 S11 H locs hV hw => ?_)
        refine lv_lmul C0.x C0.b dX8_measure_67 ?_
        refine lv_topl (fun y12 ey12 => ?_)
        have hV := hV y12 ey12
        refine lv_lstore_n (lv' := [(1, .long y12), (0, .ref (ad 48)), (3, .int v3)]) C0.x C0.b dX8_measure_68 rfl hl (by decide) rfl (fun ls hl => ?_)
        obtain ⟨x13, ex13⟩ : ∃ z : Int32, z = v3 + 1 := ⟨_, rfl⟩
        have hV := hV x13 ex13
        refine lv_iinc (v := x13) (lv' := [(3, .int x13), (1, .long y12), (0, .ref (ad 48))]) C0.x C0.b dX8_measure_69 hl (k := 2) rfl (by rw [ex13]; rfl) (by decide) rfl (fun ls hl => ?_)
        refine lv_goto (tgt := 35) C0.x C0.b dX8_measure_72 (by decide) ?_
        exact ih _ _ _ hV _ _ hw _ (lv_sub hl [2, 1, 0] rfl)
def V_X8_measure_4  (v1 : Int64)  (post : Int32 → SS → Prop) : Nat → Int32 → SS → Prop
  | 0, _, _ => False
  | n + 1, v3, S =>
    (((gI S 26) ≤ v3 → (∃ n35 : Nat, V_X8_measure_35    post n35 v1 (0 : Int32) S)) ∧ (¬ (gI S 26) ≤ v3 → (vp_in ((3 : Int32) * v3) 192 ∧ (((gA S 32 ((3 : Int32) * v3).toNatClampNeg) = (0 : Int64) → (post (0 : Int32) S)) ∧ (¬ (gA S 32 ((3 : Int32) * v3).toNatClampNeg) = (0 : Int64) → (∀ x15 : Int32, x15 = v3 + 1 → (V_X8_measure_4  v1  post n x15 S)))))))
set_option maxHeartbeats 4000000 in
set_option maxRecDepth 100000 in
theorem lp_X8_measure_4  (v1 : Int64)  (post : Int32 → SS → Prop) (C0 : Bd p s m meth c args cX8_measure 4 (some .int) wsX8_measure RX8 D n0 cI cJ) : ∀ (n : Nat) (v3 : Int32) (S : SS), V_X8_measure_4  v1  post n v3 S → ∀ (H : Heap) (locs : List Loc), Wh D n0 ad cI cJ X S s H locs → ∀ ls : Array Slot, lv_has ls 4 [(0, .ref (ad 48)), (1, .long v1), (3, .int v3)] → W p l e rm_X8_measure s m args below meth c H locs 0 0 (MQ below (va_Qi post (fun S' t => Wd D n0 ad cI cJ X S' t) (fr n0)) args s 0 0 (fr n0)) (F0 m 4 ls []) := by
  intro n
  induction n with
  | zero => intro v3 S hV; exact False.elim hV
  | succ n ih =>
    intro v3 S hV H locs hw ls hl
    rw [V_X8_measure_4] at hV
    refine lv_iload_n C0.x C0.b dX8_measure_4 rfl (lv_at hl 2 rfl) ?_
    refine lv_aload_n C0.x C0.b dX8_measure_5 rfl (lv_at hl 0 rfl) ?_
    refine r_get C0 hw (C := RX8) (T := TX8) (N := 33) (v := .int (gI S 26)) iw_X8_measure_X8 (lg_48 ad cI cJ X S) rfl 8 (by decide) (C0.ts _ fw_X8_measure_105) rfl dX8_measure_6 ?_
    refine lv_icmp_ge (tgt := 33) C0.x C0.b dX8_measure_9 (by decide) (fun c1 => ?_) (fun c1 => ?_)
    · have hV := hV.1 c1
      refine lv_iconst (v := 0) C0.x C0.b dX8_measure_33 (by decide) ?_
      refine lv_istore_n (lv' := [(3, .int (0 : Int32)), (0, .ref (ad 48)), (1, .long v1)]) C0.x C0.b dX8_measure_34 rfl hl (by decide) rfl (fun ls hl => ?_)
      obtain ⟨n35, hV⟩ := hV
      exact lp_X8_measure_35   post C0  n35 _ _ _ hV _ _ hw _ (lv_sub hl [1, 2, 0] rfl)
    · have hV := hV.2 c1
      refine lv_aload_n C0.x C0.b dX8_measure_12 rfl (lv_at hl 0 rfl) ?_
      refine r_get C0 hw (C := RX8) (T := TX8) (N := 33) (v := .ref (ad 51)) iw_X8_measure_X8 (lg_48 ad cI cJ X S) rfl 9 (by decide) (C0.ts _ fw_X8_measure_20) rfl dX8_measure_13 ?_
      refine lv_iconst (v := 3) C0.x C0.b dX8_measure_16 (by decide) ?_
      refine lv_iload_n C0.x C0.b dX8_measure_17 rfl (lv_at hl 2 rfl) ?_
      refine lv_imul C0.x C0.b dX8_measure_18 ?_
      refine r_lald C0 hw (lg_51 ad cI cJ X S) hV.1 dX8_measure_19 ?_
      have hV := hV.2
      refine lv_lconst (v := 0) C0.x C0.b dX8_measure_20 (by decide) ?_
      refine r_lcmp C0 dX8_measure_21 ?_
      refine lv_if_ne (tgt := 27) C0.x C0.b dX8_measure_22 (by decide) (fun c14 => ?_) (fun c14 => ?_)
      · have hV := hV.2 (fun h => c14 ((lc_eq _ _).mpr h))
        obtain ⟨x15, ex15⟩ : ∃ z : Int32, z = v3 + 1 := ⟨_, rfl⟩
        have hV := hV x15 ex15
        refine lv_iinc (v := x15) (lv' := [(3, .int x15), (0, .ref (ad 48)), (1, .long v1)]) C0.x C0.b dX8_measure_27 hl (k := 2) rfl (by rw [ex15]; rfl) (by decide) rfl (fun ls hl => ?_)
        refine lv_goto (tgt := 4) C0.x C0.b dX8_measure_30 (by decide) ?_
        exact ih _ _ hV _ _ hw _ (lv_sub hl [1, 2, 0] rfl)
      · have hV := hV.1 ((lc_eq _ _).mp c14)
        refine lv_iconst (v := 0) C0.x C0.b dX8_measure_25 (by decide) ?_
        exact r_iret C0 rfl hw hV dX8_measure_26
def V_X8_measure   (S : SS) (post : Int32 → SS → Prop) : Prop :=
  (∃ n4 : Nat, V_X8_measure_4  (1 : Int64)  post n4 (0 : Int32) S)
set_option maxHeartbeats 4000000 in
set_option maxRecDepth 100000 in
theorem c_X8_measure  {S : SS}  {post : Int32 → SS → Prop} (hV : V_X8_measure   S post) : MI l yX8_measure wsX8_measure rm_X8_measure [.ref (ad 48)] D n0 ad cI cJ X S post := by
  refine Met.ofW (cc := cX8_measure) (maxL := 4) (ret := (some .int)) (by decide) rfl ?_
  intro p e s m args below meth c s₁ B hml hv
  obtain ⟨rfl, hv⟩ := hv
  have C0 := Bd.mk B hml (atoms_spec (ws := wsX8_measure) B.pre) (findClass_of_methodNamed B.named) hv.1
  have hw : Wh D n0 ad cI cJ X S s s.heap [] := ⟨hv.2.1, hv.2.2, va_S.rf⟩
  refine r_entry (Nat.le_of_ble_eq_true rfl) (fun ls hl => ?_)
  have hl : lv_has ls 4 [(0, .ref (ad 48))] := hl
  unfold V_X8_measure at hV
  refine lv_lconst (v := 1) C0.x C0.b dX8_measure_0 (by decide) ?_
  refine lv_lstore_n (lv' := [(1, .long (1 : Int64)), (0, .ref (ad 48))]) C0.x C0.b dX8_measure_1 rfl hl (by decide) rfl (fun ls hl => ?_)
  refine lv_iconst (v := 0) C0.x C0.b dX8_measure_2 (by decide) ?_
  refine lv_istore_n (lv' := [(3, .int (0 : Int32)), (1, .long (1 : Int64)), (0, .ref (ad 48))]) C0.x C0.b dX8_measure_3 rfl hl (by decide) rfl (fun ls hl => ?_)
  obtain ⟨n4, hV⟩ := hV
  exact lp_X8_measure_4  _ post C0  n4 _ _ hV _ _ hw _ (lv_sub hl [2, 1, 0] rfl)
end
