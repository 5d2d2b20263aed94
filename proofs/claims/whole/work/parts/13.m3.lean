section
variable {p : Program} {l : Launch} {e : Env} {s : State} {m : MethodId} {args : Array Value} {below : List Frame} {meth : Method} {c : Code}
variable {D : va_G} {n0 : Nat} {ad : Nat → Nat} {cI cJ : ClassId} {X : va_W}
/-! StepBench.rest(I)I -/
abbrev rm_X7_rest : Room := { frames := 1, cells := 0, slots := 0, locals := 22 }
set_option maxRecDepth 20000 in
theorem fw_X7_rest_55 : Cond.fieldLink RX7 55 "StepBench" "theWord" "LStepBench$Numbers;" ∈ wsX7_rest := by decide +kernel
set_option maxRecDepth 20000 in
theorem iw_X7_rest_X7 : ∀ w ∈ wsX70, w ∈ wsX7_rest := by decide +kernel
set_option maxRecDepth 20000 in
theorem hd_X7_rest : yX7_rest.cls = RX7 ∧ yX7_rest.cls ≠ "java/lang/invoke/MethodHandle" ∧ yX7_rest.cls ≠ "java/lang/invoke/VarHandle" ∧ (parseMethodDescriptor yX7_rest.desc).map (fun d => d.parameters.length) = some 1 := by decide +kernel
def V_X7_rest  (p0 : Int32) (S : SS) (post : Int32 → SS → Prop) : Prop :=
  ((p0 < 0 → (post (-1 : Int32) S)) ∧ (¬ p0 < 0 → ((p0 < (64 : Int32) → (V_X2_add 10 15 40 p0.toInt64 S (fun (r3 : Int32) (S4 : SS) => ((r3 = 0 → (post (-1 : Int32) S4)) ∧ (¬ r3 = 0 → (V_X2_size 10 15 40 S4 (fun (r6 : Int32) (S7 : SS) => (post r6 S7)))))))) ∧ (¬ p0 < (64 : Int32) → (post (-1 : Int32) S)))))
set_option maxHeartbeats 4000000 in
set_option maxRecDepth 100000 in
theorem c_X7_rest  {S : SS} {p0 : Int32} {post : Int32 → SS → Prop} (hV : V_X7_rest  p0 S post) : MI l yX7_rest wsX7_rest rm_X7_rest [.ref (ad 0), .int p0] D n0 ad cI cJ X S post := by
  refine Met.ofW (cc := cX7_rest) (maxL := 2) (ret := (some .int)) (by decide) rfl ?_
  intro p e s m args below meth c s₁ B hml hv
  obtain ⟨rfl, hv⟩ := hv
  have C0 := Bd.mk B hml (atoms_spec (ws := wsX7_rest) B.pre) (findClass_of_methodNamed B.named) hv.1
  have hw : Wh D n0 ad cI cJ X S s s.heap [] := ⟨hv.2.1, hv.2.2, va_S.rf⟩
  refine r_entry (Nat.le_of_ble_eq_true rfl) (fun ls hl => ?_)
  have hl : lv_has ls 2 [(0, .ref (ad 0)), (1, .int p0)] := hl
  unfold V_X7_rest at hV
  refine lv_iload_n C0.x C0.b dX7_rest_0 rfl (lv_at hl 1 rfl) ?_
  refine lv_if_lt (tgt := 10) C0.x C0.b dX7_rest_1 (by decide) (fun c1 => ?_) (fun c1 => ?_)
  · have hV := hV.1 c1
    refine lv_iconst (v := -1) C0.x C0.b dX7_rest_10 (by decide) ?_
    exact r_iret C0 rfl hw hV dX7_rest_11
  · have hV := hV.2 c1
    refine lv_iload_n C0.x C0.b dX7_rest_4 rfl (lv_at hl 1 rfl) ?_
    refine lv_bipush (v := 64) C0.x C0.b dX7_rest_5 (by decide) ?_
    refine lv_icmp_lt (tgt := 12) C0.x C0.b dX7_rest_7 (by decide) (fun c2 => ?_) (fun c2 => ?_)
    · have hV := hV.1 c2
      refine lv_aload_n C0.x C0.b dX7_rest_12 rfl (lv_at hl 0 rfl) ?_
      refine r_get C0 hw (C := RX7) (T := TX7) (N := 15) (v := .ref (ad 25)) iw_X7_rest_X7 (lg_0 ad cI cJ X S) rfl 9 (by decide) (C0.ts _ fw_X7_rest_55) rfl dX7_rest_13 ?_
      refine lv_iload_n C0.x C0.b dX7_rest_16 rfl (lv_at hl 1 rfl) ?_
      refine lv_i2l C0.x C0.b dX7_rest_17 rfl ?_
      refine r_cV_i (As := [.long p0.toInt64]) (rest := []) C0 hw (c_X2_add (ln_25 ad cI cJ X) hV) (cwV 1 C0.ts gX7_rest_X2_add rfl rfl rfl hd_X2_add ⟨Nat.le_of_ble_eq_true rfl, Nat.le_of_ble_eq_true rfl⟩) (lg_25 ad cI cJ X S) rfl rfl hl.1 rfl (Nat.le_of_ble_eq_true rfl) ⟨Nat.le_of_ble_eq_true rfl, Nat.le_of_ble_eq_true rfl⟩ dX7_rest_18 (fun r3 S4 H locs hV hw => ?_)
      refine lv_if_eq (tgt := 34) C0.x C0.b dX7_rest_21 (by decide) (fun c5 => ?_) (fun c5 => ?_)
      · have hV := hV.1 c5
        refine lv_iconst (v := -1) C0.x C0.b dX7_rest_34 (by decide) ?_
        exact r_iret C0 rfl hw hV dX7_rest_35
      · have hV := hV.2 c5
        refine lv_aload_n C0.x C0.b dX7_rest_24 rfl (lv_at hl 0 rfl) ?_
        refine r_get C0 hw (C := RX7) (T := TX7) (N := 15) (v := .ref (ad 25)) iw_X7_rest_X7 (lg_0 ad cI cJ X S4) rfl 9 (by decide) (C0.ts _ fw_X7_rest_55) rfl dX7_rest_25 ?_
        refine r_cV_i (As := []) (rest := []) C0 hw (c_X2_size (ln_25 ad cI cJ X) hV) (cwV 0 C0.ts gX7_rest_X2_size rfl rfl rfl hd_X2_size ⟨Nat.le_of_ble_eq_true rfl, Nat.le_of_ble_eq_true rfl⟩) (lg_25 ad cI cJ X S4) rfl rfl hl.1 rfl (Nat.le_of_ble_eq_true rfl) ⟨Nat.le_of_ble_eq_true rfl, Nat.le_of_ble_eq_true rfl⟩ dX7_rest_28 (fun r6 S7 H locs hV hw => ?_)
        refine lv_goto (tgt := 35) C0.x C0.b dX7_rest_31 (by decide) ?_
        exact r_iret C0 rfl hw hV dX7_rest_35
    · have hV := hV.2 c2
      refine lv_iconst (v := -1) C0.x C0.b dX7_rest_10 (by decide) ?_
      exact r_iret C0 rfl hw hV dX7_rest_11
/-! StepBench.clear()I -/
abbrev rm_X7_clear : Room := { frames := 1, cells := 0, slots := 0, locals := 20 }
set_option maxRecDepth 20000 in
theorem fw_X7_clear_55 : Cond.fieldLink RX7 55 "StepBench" "theWord" "LStepBench$Numbers;" ∈ wsX7_clear := by decide +kernel
set_option maxRecDepth 20000 in
theorem iw_X7_clear_X7 : ∀ w ∈ wsX70, w ∈ wsX7_clear := by decide +kernel
set_option maxRecDepth 20000 in
theorem hd_X7_clear : yX7_clear.cls = RX7 ∧ yX7_clear.cls ≠ "java/lang/invoke/MethodHandle" ∧ yX7_clear.cls ≠ "java/lang/invoke/VarHandle" ∧ (parseMethodDescriptor yX7_clear.desc).map (fun d => d.parameters.length) = some 0 := by decide +kernel
def V_X7_clear   (S : SS) (post : Int32 → SS → Prop) : Prop :=
  (V_X2_size 10 15 40 S (fun (r1 : Int32) (S2 : SS) => (V_X2_empty 10 15 40 S2 (fun (S4 : SS) => (post r1 S4)))))
set_option maxHeartbeats 4000000 in
set_option maxRecDepth 100000 in
theorem c_X7_clear  {S : SS}  {post : Int32 → SS → Prop} (hV : V_X7_clear   S post) : MI l yX7_clear wsX7_clear rm_X7_clear [.ref (ad 0)] D n0 ad cI cJ X S post := by
  refine Met.ofW (cc := cX7_clear) (maxL := 2) (ret := (some .int)) (by decide) rfl ?_
  intro p e s m args below meth c s₁ B hml hv
  obtain ⟨rfl, hv⟩ := hv
  have C0 := Bd.mk B hml (atoms_spec (ws := wsX7_clear) B.pre) (findClass_of_methodNamed B.named) hv.1
  have hw : Wh D n0 ad cI cJ X S s s.heap [] := ⟨hv.2.1, hv.2.2, va_S.rf⟩
  refine r_entry (Nat.le_of_ble_eq_true rfl) (fun ls hl => ?_)
  have hl : lv_has ls 2 [(0, .ref (ad 0))] := hl
  unfold V_X7_clear at hV
  refine lv_aload_n C0.x C0.b dX7_clear_0 rfl (lv_at hl 0 rfl) ?_
  refine r_get C0 hw (C := RX7) (T := TX7) (N := 15) (v := .ref (ad 25)) iw_X7_clear_X7 (lg_0 ad cI cJ X S) rfl 9 (by decide) (C0.ts _ fw_X7_clear_55) rfl dX7_clear_1 ?_
  refine r_cV_i (As := []) (rest := []) C0 hw (c_X2_size (ln_25 ad cI cJ X) hV) (cwV 0 C0.ts gX7_clear_X2_size rfl rfl rfl hd_X2_size ⟨Nat.le_of_ble_eq_true rfl, Nat.le_of_ble_eq_true rfl⟩) (lg_25 ad cI cJ X S) rfl rfl hl.1 rfl (Nat.le_of_ble_eq_true rfl) ⟨Nat.le_of_ble_eq_true rfl, Nat.le_of_ble_eq_true rfl⟩ dX7_clear_4 (fun r1 S2 H locs hV hw => ?_)
  refine lv_istore_n (lv' := [(1, .int r1), (0, .ref (ad 0))]) C0.x C0.b dX7_clear_7 rfl hl (by decide) rfl (fun ls hl => ?_)
  refine lv_aload_n C0.x C0.b dX7_clear_8 rfl (lv_at hl 1 rfl) ?_
  refine r_get C0 hw (C := RX7) (T := TX7) (N := 15) (v := .ref (ad 25)) iw_X7_clear_X7 (lg_0 ad cI cJ X S2) rfl 9 (by decide) (C0.ts _ fw_X7_clear_55) rfl dX7_clear_9 ?_
  refine r_cV_v (As := []) (rest := []) C0 hw (c_X2_empty (ln_25 ad cI cJ X) hV) (cwV 0 C0.ts gX7_clear_X2_empty rfl rfl rfl hd_X2_empty ⟨Nat.le_of_ble_eq_true rfl, Nat.le_of_ble_eq_true rfl⟩) (lg_25 ad cI cJ X S2) rfl rfl hl.1 rfl (Nat.le_of_ble_eq_true rfl) ⟨Nat.le_of_ble_eq_true rfl, Nat.le_of_ble_eq_true rfl⟩ dX7_clear_12 (fun S4 H locs hV hw => ?_)
  refine lv_iload_n C0.x C0.b dX7_clear_15 rfl (lv_at hl 0 rfl) ?_
  exact r_iret C0 rfl hw hV dX7_clear_16
/-! StepBench.shapeWord(LStepBench$Numbers;I)Z -/
abbrev rm_X7_shapeWord : Room := { frames := 4, cells := 0, slots := 0, locals := 100 }
set_option maxRecDepth 20000 in
theorem fw_X7_shapeWord_64 : Cond.fieldLink RX7 64 "StepBench" "shapes" "LStepBench$Shapes;" ∈ wsX7_shapeWord := by decide +kernel
set_option maxRecDepth 20000 in
theorem iw_X7_shapeWord_X7 : ∀ w ∈ wsX70, w ∈ wsX7_shapeWord := by decide +kernel
set_option maxRecDepth 20000 in
theorem fw_X7_shapeWord_16 : Cond.fieldLink RX7 16 "StepBench" "rule" "LStepBench$Shares;" ∈ wsX7_shapeWord := by decide +kernel
set_option maxRecDepth 20000 in
theorem hd_X7_shapeWord : yX7_shapeWord.cls = RX7 ∧ yX7_shapeWord.cls ≠ "java/lang/invoke/MethodHandle" ∧ yX7_shapeWord.cls ≠ "java/lang/invoke/VarHandle" ∧ (parseMethodDescriptor yX7_shapeWord.desc).map (fun d => d.parameters.length) = some 2 := by decide +kernel
def V_X7_shapeWord_2 (si0 ai0 L0 : Nat)   (post : Int32 → SS → Prop) : Nat → Int32 → SS → Prop
  | 0, _, _ => False
  | n + 1, v3, S =>
    (V_X2_size si0 ai0 L0 S (fun (r1 : Int32) (S2 : SS) => ((r1 ≤ v3 → (post (1 : Int32) S2)) ∧ (¬ r1 ≤ v3 → (V_X2_at si0 ai0 L0 v3 S2 (fun (r4 : Int64) (S5 : SS) => (V_X4_extend 1 0 1 2 v3 r4.toInt32 S5 (fun (r6 : Int32) (S7 : SS) => ((r6 = 0 → (post (0 : Int32) S7)) ∧ (¬ r6 = 0 → (∀ x9 : Int32, x9 = v3 + 1 → (V_X7_shapeWord_2 si0 ai0 L0   post n x9 S7))))))))))))
set_option maxHeartbeats 4000000 in
set_option maxRecDepth 100000 in
theorem lp_X7_shapeWord_2 {po0 pa0 si0 ai0 L0 : Nat} (hO0 : lnN ad cI cJ X po0 pa0 si0 ai0 L0)   (post : Int32 → SS → Prop) (C0 : Bd p s m meth c args cX7_shapeWord 4 (some .boolean) wsX7_shapeWord RX7 D n0 cI cJ) : ∀ (n : Nat) (v3 : Int32) (S : SS), V_X7_shapeWord_2 si0 ai0 L0   post n v3 S → ∀ (H : Heap) (locs : List Loc), Wh D n0 ad cI cJ X S s H locs → ∀ ls : Array Slot, lv_has ls 4 [(0, .ref (ad 0)), (1, .ref (ad po0)), (3, .int v3)] → W p l e rm_X7_shapeWord s m args below meth c H locs 0 0 (MQ below (va_Qi post (fun S' t => Wd D n0 ad cI cJ X S' t) (fr n0)) args s 0 0 (fr n0)) (F0 m 2 ls []) := by
  intro n
  induction n with
  | zero => intro v3 S hV; exact False.elim hV
  | succ n ih =>
    intro v3 S hV H locs hw ls hl
    rw [V_X7_shapeWord_2] at hV
    refine lv_iload_n C0.x C0.b dX7_shapeWord_2 rfl (lv_at hl 2 rfl) ?_
    refine lv_aload_n C0.x C0.b dX7_shapeWord_3 rfl (lv_at hl 1 rfl) ?_
    refine r_cV_i (As := []) (rest := [.int v3]) C0 hw (c_X2_size hO0 hV) (cwV 0 C0.ts gX7_shapeWord_X2_size rfl rfl rfl hd_X2_size ⟨Nat.le_of_ble_eq_true rfl, Nat.le_of_ble_eq_true rfl⟩) (hO0 S).1 rfl rfl hl.1 rfl (Nat.le_of_ble_eq_true rfl) ⟨Nat.le_of_ble_eq_true rfl, Nat.le_of_ble_eq_true rfl⟩ dX7_shapeWord_4 (fun r1 S2 H locs hV hw => ?_)
    refine lv_icmp_ge (tgt := 39) C0.x C0.b dX7_shapeWord_7 (by decide) (fun c3 => ?_) (fun c3 => ?_)
    · have hV := hV.1 c3
      refine lv_iconst (v := 1) C0.x C0.b dX7_shapeWord_39 (by decide) ?_
      exact r_zret C0 rfl bz_1 hw hV dX7_shapeWord_40
    · have hV := hV.2 c3
      refine lv_aload_n C0.x C0.b dX7_shapeWord_10 rfl (lv_at hl 0 rfl) ?_
      refine r_get C0 hw (C := RX7) (T := TX7) (N := 15) (v := .ref (ad 29)) iw_X7_shapeWord_X7 (lg_0 ad cI cJ X S2) rfl 11 (by decide) (C0.ts _ fw_X7_shapeWord_64) rfl dX7_shapeWord_11 ?_
      refine lv_iload_n C0.x C0.b dX7_shapeWord_14 rfl (lv_at hl 2 rfl) ?_
      refine lv_aload_n C0.x C0.b dX7_shapeWord_15 rfl (lv_at hl 0 rfl) ?_
      refine r_get C0 hw (C := RX7) (T := TX7) (N := 15) (v := .ref (ad 1)) iw_X7_shapeWord_X7 (lg_0 ad cI cJ X S2) rfl 1 (by decide) (C0.ts _ fw_X7_shapeWord_16) rfl dX7_shapeWord_16 ?_
      refine lv_aload_n C0.x C0.b dX7_shapeWord_19 rfl (lv_at hl 1 rfl) ?_
      refine lv_iload_n C0.x C0.b dX7_shapeWord_20 rfl (lv_at hl 2 rfl) ?_
      refine r_cV_l (As := [.int v3]) (rest := [.ref (ad 1), .int v3, .ref (ad 29)]) C0 hw (c_X2_at hO0 hV) (cwV 1 C0.ts gX7_shapeWord_X2_at rfl rfl rfl hd_X2_at ⟨Nat.le_of_ble_eq_true rfl, Nat.le_of_ble_eq_true rfl⟩) (hO0 S2).1 rfl rfl hl.1 rfl (Nat.le_of_ble_eq_true rfl) ⟨Nat.le_of_ble_eq_true rfl, Nat.le_of_ble_eq_true rfl⟩ dX7_shapeWord_21 (fun r4 S5 H locs hV hw => ?_)
      refine lv_l2i C0.x C0.b dX7_shapeWord_24 rfl ?_
      refine r_cV_i (As := [.int v3, .ref (ad 1), .int r4.toInt32]) (rest := []) C0 hw (c_X4_extend (ln_1 ad cI cJ X) hV) (cwV 3 C0.ts gX7_shapeWord_X4_extend rfl rfl rfl hd_X4_extend ⟨Nat.le_of_ble_eq_true rfl, Nat.le_of_ble_eq_true rfl⟩) (lg_29 ad cI cJ X S5) rfl rfl hl.1 rfl (Nat.le_of_ble_eq_true rfl) ⟨Nat.le_of_ble_eq_true rfl, Nat.le_of_ble_eq_true rfl⟩ dX7_shapeWord_25 (fun r6 S7 H locs hV hw => ?_)
      refine lv_if_ne (tgt := 33) C0.x C0.b dX7_shapeWord_28 (by decide) (fun c8 => ?_) (fun c8 => ?_)
      · have hV := hV.2 c8
        obtain ⟨x9, ex9⟩ : ∃ z : Int32, z = v3 + 1 := ⟨_, rfl⟩
        have hV := hV x9 ex9
        refine lv_iinc (v := x9) (lv' := [(3, .int x9), (0, .ref (ad 0)), (1, .ref (ad po0))]) C0.x C0.b dX7_shapeWord_33 hl (k := 2) rfl (by rw [ex9]; rfl) (by decide) rfl (fun ls hl => ?_)
        refine lv_goto (tgt := 2) C0.x C0.b dX7_shapeWord_36 (by decide) ?_
        exact ih _ _ hV _ _ hw _ (lv_sub hl [1, 2, 0] rfl)
      · have hV := hV.1 c8
        refine lv_iconst (v := 0) C0.x C0.b dX7_shapeWord_31 (by decide) ?_
        exact r_zret C0 rfl bz_0 hw hV dX7_shapeWord_32
def V_X7_shapeWord (si0 ai0 L0 : Nat) (p1 : Int32) (S : SS) (post : Int32 → SS → Prop) : Prop :=
  (∃ n2 : Nat, V_X7_shapeWord_2 si0 ai0 L0   post n2 p1 S)
set_option maxHeartbeats 4000000 in
set_option maxRecDepth 100000 in
theorem c_X7_shapeWord {po0 pa0 si0 ai0 L0 : Nat} (hO0 : lnN ad cI cJ X po0 pa0 si0 ai0 L0) {S : SS} {p1 : Int32} {post : Int32 → SS → Prop} (hV : V_X7_shapeWord si0 ai0 L0 p1 S post) : MI l yX7_shapeWord wsX7_shapeWord rm_X7_shapeWord [.ref (ad 0), .ref (ad po0), .int p1] D n0 ad cI cJ X S post := by
  refine Met.ofW (cc := cX7_shapeWord) (maxL := 4) (ret := (some .boolean)) (by decide) rfl ?_
  intro p e s m args below meth c s₁ B hml hv
  obtain ⟨rfl, hv⟩ := hv
  have C0 := Bd.mk B hml (atoms_spec (ws := wsX7_shapeWord) B.pre) (findClass_of_methodNamed B.named) hv.1
  have hw : Wh D n0 ad cI cJ X S s s.heap [] := ⟨hv.2.1, hv.2.2, va_S.rf⟩
  refine r_entry (Nat.le_of_ble_eq_true rfl) (fun ls hl => ?_)
  have hl : lv_has ls 4 [(0, .ref (ad 0)), (1, .ref (ad po0)), (2, .int p1)] := hl
  unfold V_X7_shapeWord at hV
  refine lv_iload_n C0.x C0.b dX7_shapeWord_0 rfl (lv_at hl 2 rfl) ?_
  refine lv_istore_n (lv' := [(3, .int p1), (0, .ref (ad 0)), (1, .ref (ad po0)), (2, .int p1)]) C0.x C0.b dX7_shapeWord_1 rfl hl (by decide) rfl (fun ls hl => ?_)
  obtain ⟨n2, hV⟩ := hV
  exact lp_X7_shapeWord_2 hO0  post C0  n2 _ _ hV _ _ hw _ (lv_sub hl [1, 2, 0] rfl)
/-! StepBench.shapeTold()I -/
abbrev rm_X7_shapeTold : Room := { frames := 5, cells := 0, slots := 0, locals := 123 }
set_option maxRecDepth 20000 in
theorem fw_X7_shapeTold_9 : Cond.fieldLink RX7 9 "StepBench" "ruleKind" "I" ∈ wsX7_shapeTold := by decide +kernel
set_option maxRecDepth 20000 in
theorem iw_X7_shapeTold_X7 : ∀ w ∈ wsX70, w ∈ wsX7_shapeTold := by decide +kernel
set_option maxRecDepth 20000 in
theorem fw_X7_shapeTold_55 : Cond.fieldLink RX7 55 "StepBench" "theWord" "LStepBench$Numbers;" ∈ wsX7_shapeTold := by decide +kernel
set_option maxRecDepth 20000 in
theorem fw_X7_shapeTold_16 : Cond.fieldLink RX7 16 "StepBench" "rule" "LStepBench$Shares;" ∈ wsX7_shapeTold := by decide +kernel
set_option maxRecDepth 20000 in
theorem hd_X7_shapeTold : yX7_shapeTold.cls = RX7 ∧ yX7_shapeTold.cls ≠ "java/lang/invoke/MethodHandle" ∧ yX7_shapeTold.cls ≠ "java/lang/invoke/VarHandle" ∧ (parseMethodDescriptor yX7_shapeTold.desc).map (fun d => d.parameters.length) = some 0 := by decide +kernel
def V_X7_shapeTold_22    (post : Int32 → SS → Prop) : Nat → Int32 → SS → Prop
  | 0, _, _ => False
  | n + 1, v1, S =>
    (V_X2_size 10 15 40 S (fun (r5 : Int32) (S6 : SS) => ((r5 ≤ v1 → (V_X7_shapeWord 10 15 40 (0 : Int32) S6 (fun (r8 : Int32) (S9 : SS) => ((r8 = 0 → (post (-2 : Int32) S9)) ∧ (¬ r8 = 0 → (post (1 : Int32) S9)))))) ∧ (¬ r5 ≤ v1 → (V_X2_at 10 15 40 v1 S6 (fun (r11 : Int64) (S12 : SS) => (V_X5_measure 1 0 1 2 S12 (fun (r13 : Int32) (S14 : SS) => ((r11 < r13.toInt64 → (∀ x16 : Int32, x16 = v1 + 1 → (V_X7_shapeTold_22    post n x16 S14))) ∧ (¬ r11 < r13.toInt64 → (post (-1 : Int32) S14)))))))))))
set_option maxHeartbeats 4000000 in
set_option maxRecDepth 100000 in
theorem lp_X7_shapeTold_22    (post : Int32 → SS → Prop) (C0 : Bd p s m meth c args cX7_shapeTold 2 (some .int) wsX7_shapeTold RX7 D n0 cI cJ) : ∀ (n : Nat) (v1 : Int32) (S : SS), V_X7_shapeTold_22    post n v1 S → ∀ (H : Heap) (locs : List Loc), Wh D n0 ad cI cJ X S s H locs → ∀ ls : Array Slot, lv_has ls 2 [(0, .ref (ad 0)), (1, .int v1)] → W p l e rm_X7_shapeTold s m args below meth c H locs 0 0 (MQ below (va_Qi post (fun S' t => Wd D n0 ad cI cJ X S' t) (fr n0)) args s 0 0 (fr n0)) (F0 m 22 ls []) := by
  intro n
  induction n with
  | zero => intro v1 S hV; exact False.elim hV
  | succ n ih =>
    intro v1 S hV H locs hw ls hl
    rw [V_X7_shapeTold_22] at hV
    refine lv_iload_n C0.x C0.b dX7_shapeTold_22 rfl (lv_at hl 1 rfl) ?_
    refine lv_aload_n C0.x C0.b dX7_shapeTold_23 rfl (lv_at hl 0 rfl) ?_
    refine r_get C0 hw (C := RX7) (T := TX7) (N := 15) (v := .ref (ad 25)) iw_X7_shapeTold_X7 (lg_0 ad cI cJ X S) rfl 9 (by decide) (C0.ts _ fw_X7_shapeTold_55) rfl dX7_shapeTold_24 ?_
    refine r_cV_i (As := []) (rest := [.int v1]) C0 hw (c_X2_size (ln_25 ad cI cJ X) hV) (cwV 0 C0.ts gX7_shapeTold_X2_size rfl rfl rfl hd_X2_size ⟨Nat.le_of_ble_eq_true rfl, Nat.le_of_ble_eq_true rfl⟩) (lg_25 ad cI cJ X S) rfl rfl hl.1 rfl (Nat.le_of_ble_eq_true rfl) ⟨Nat.le_of_ble_eq_true rfl, Nat.le_of_ble_eq_true rfl⟩ dX7_shapeTold_27 (fun r5 S6 H locs hV hw => ?_)
    refine lv_icmp_ge (tgt := 61) C0.x C0.b dX7_shapeTold_30 (by decide) (fun c7 => ?_) (fun c7 => ?_)
    · have hV := hV.1 c7
      refine lv_aload_n C0.x C0.b dX7_shapeTold_61 rfl (lv_at hl 0 rfl) ?_
      refine lv_aload_n C0.x C0.b dX7_shapeTold_62 rfl (lv_at hl 0 rfl) ?_
      refine r_get C0 hw (C := RX7) (T := TX7) (N := 15) (v := .ref (ad 25)) iw_X7_shapeTold_X7 (lg_0 ad cI cJ X S6) rfl 9 (by decide) (C0.ts _ fw_X7_shapeTold_55) rfl dX7_shapeTold_63 ?_
      refine lv_iconst (v := 0) C0.x C0.b dX7_shapeTold_66 (by decide) ?_
      refine r_cV_i (As := [.ref (ad 25), .int (0 : Int32)]) (rest := []) C0 hw (c_X7_shapeWord (ln_25 ad cI cJ X) hV) (cwV 2 C0.ts gX7_shapeTold_X7_shapeWord rfl rfl rfl hd_X7_shapeWord ⟨Nat.le_of_ble_eq_true rfl, Nat.le_of_ble_eq_true rfl⟩) (lg_0 ad cI cJ X S6) rfl rfl hl.1 rfl (Nat.le_of_ble_eq_true rfl) ⟨Nat.le_of_ble_eq_true rfl, Nat.le_of_ble_eq_true rfl⟩ dX7_shapeTold_67 (fun r8 S9 H locs hV hw => ?_)
      refine lv_if_eq (tgt := 77) C0.x C0.b dX7_shapeTold_70 (by decide) (fun c10 => ?_) (fun c10 => ?_)
      · have hV := hV.1 c10
        refine lv_bipush (v := -2) C0.x C0.b dX7_shapeTold_77 (by decide) ?_
        exact r_iret C0 rfl hw hV dX7_shapeTold_79
      · have hV := hV.2 c10
        refine lv_iconst (v := 1) C0.x C0.b dX7_shapeTold_73 (by decide) ?_
        refine lv_goto (tgt := 79) C0.x C0.b dX7_shapeTold_74 (by decide) ?_
        exact r_iret C0 rfl hw hV dX7_shapeTold_79
    · have hV := hV.2 c7
      refine lv_aload_n C0.x C0.b dX7_shapeTold_33 rfl (lv_at hl 0 rfl) ?_
      refine r_get C0 hw (C := RX7) (T := TX7) (N := 15) (v := .ref (ad 25)) iw_X7_shapeTold_X7 (lg_0 ad cI cJ X S6) rfl 9 (by decide) (C0.ts _ fw_X7_shapeTold_55) rfl dX7_shapeTold_34 ?_
      refine lv_iload_n C0.x C0.b dX7_shapeTold_37 rfl (lv_at hl 1 rfl) ?_
      refine r_cV_l (As := [.int v1]) (rest := []) C0 hw (c_X2_at (ln_25 ad cI cJ X) hV) (cwV 1 C0.ts gX7_shapeTold_X2_at rfl rfl rfl hd_X2_at ⟨Nat.le_of_ble_eq_true rfl, Nat.le_of_ble_eq_true rfl⟩) (lg_25 ad cI cJ X S6) rfl rfl hl.1 rfl (Nat.le_of_ble_eq_true rfl) ⟨Nat.le_of_ble_eq_true rfl, Nat.le_of_ble_eq_true rfl⟩ dX7_shapeTold_38 (fun r11 S12 H locs hV hw => ?_)
      refine lv_aload_n C0.x C0.b dX7_shapeTold_41 rfl (lv_at hl 0 rfl) ?_
      refine r_get C0 hw (C := RX7) (T := TX7) (N := 15) (v := .ref (ad 1)) iw_X7_shapeTold_X7 (lg_0 ad cI cJ X S12) rfl 1 (by decide) (C0.ts _ fw_X7_shapeTold_16) rfl dX7_shapeTold_42 ?_
      refine r_cV_i (As := []) (rest := [.long r11]) C0 hw (c_X5_measure (ln_1 ad cI cJ X) hV) (cwV 0 C0.ts gX7_shapeTold_X5_measure rfl rfl rfl hd_X5_measure ⟨Nat.le_of_ble_eq_true rfl, Nat.le_of_ble_eq_true rfl⟩) (lg_1 ad cI cJ X S12) rfl rfl hl.1 rfl (Nat.le_of_ble_eq_true rfl) ⟨Nat.le_of_ble_eq_true rfl, Nat.le_of_ble_eq_true rfl⟩ dX7_shapeTold_45 (fun r13 S14 H locs hV hw => ?_)
      refine lv_i2l C0.x C0.b dX7_shapeTold_48 rfl ?_
      refine r_lcmp C0 dX7_shapeTold_49 ?_
      refine lv_if_lt (tgt := 55) C0.x C0.b dX7_shapeTold_50 (by decide) (fun c15 => ?_) (fun c15 => ?_)
      · have hV := hV.1 ((lc_lt _ _).mp c15)
        obtain ⟨x16, ex16⟩ : ∃ z : Int32, z = v1 + 1 := ⟨_, rfl⟩
        have hV := hV x16 ex16
        refine lv_iinc (v := x16) (lv' := [(1, .int x16), (0, .ref (ad 0))]) C0.x C0.b dX7_shapeTold_55 hl (k := 1) rfl (by rw [ex16]; rfl) (by decide) rfl (fun ls hl => ?_)
        refine lv_goto (tgt := 22) C0.x C0.b dX7_shapeTold_58 (by decide) ?_
        exact ih _ _ hV _ _ hw _ (lv_sub hl [1, 0] rfl)
      · have hV := hV.2 (fun h => c15 ((lc_lt _ _).mpr h))
        refine lv_iconst (v := -1) C0.x C0.b dX7_shapeTold_53 (by decide) ?_
        exact r_iret C0 rfl hw hV dX7_shapeTold_54
def V_X7_shapeTold   (S : SS) (post : Int32 → SS → Prop) : Prop :=
  (((gI S 0) = (1 : Int32) → (V_X2_size 10 15 40 S (fun (r2 : Int32) (S3 : SS) => ((r2 = 0 → (post (-1 : Int32) S3)) ∧ (¬ r2 = 0 → (∃ n22 : Nat, V_X7_shapeTold_22    post n22 (0 : Int32) S3)))))) ∧ (¬ (gI S 0) = (1 : Int32) → (post (-1 : Int32) S)))
set_option maxHeartbeats 4000000 in
set_option maxRecDepth 100000 in
theorem c_X7_shapeTold  {S : SS}  {post : Int32 → SS → Prop} (hV : V_X7_shapeTold   S post) : MI l yX7_shapeTold wsX7_shapeTold rm_X7_shapeTold [.ref (ad 0)] D n0 ad cI cJ X S post := by
  refine Met.ofW (cc := cX7_shapeTold) (maxL := 2) (ret := (some .int)) (by decide) rfl ?_
  intro p e s m args below meth c s₁ B hml hv
  obtain ⟨rfl, hv⟩ := hv
  have C0 := Bd.mk B hml (atoms_spec (ws := wsX7_shapeTold) B.pre) (findClass_of_methodNamed B.named) hv.1
  have hw : Wh D n0 ad cI cJ X S s s.heap [] := ⟨hv.2.1, hv.2.2, va_S.rf⟩
  refine r_entry (Nat.le_of_ble_eq_true rfl) (fun ls hl => ?_)
  have hl : lv_has ls 2 [(0, .ref (ad 0))] := hl
  unfold V_X7_shapeTold at hV
  refine lv_aload_n C0.x C0.b dX7_shapeTold_0 rfl (lv_at hl 0 rfl) ?_
  refine r_get C0 hw (C := RX7) (T := TX7) (N := 15) (v := .int (gI S 0)) iw_X7_shapeTold_X7 (lg_0 ad cI cJ X S) rfl 0 (by decide) (C0.ts _ fw_X7_shapeTold_9) rfl dX7_shapeTold_1 ?_
  refine lv_iconst (v := 1) C0.x C0.b dX7_shapeTold_4 (by decide) ?_
  refine lv_icmp_ne (tgt := 18) C0.x C0.b dX7_shapeTold_5 (by decide) (fun c1 => ?_) (fun c1 => ?_)
  · have hV := hV.2 c1
    refine lv_iconst (v := -1) C0.x C0.b dX7_shapeTold_18 (by decide) ?_
    exact r_iret C0 rfl hw hV dX7_shapeTold_19
  · have hV := hV.1 c1
    refine lv_aload_n C0.x C0.b dX7_shapeTold_8 rfl (lv_at hl 0 rfl) ?_
    refine r_get C0 hw (C := RX7) (T := TX7) (N := 15) (v := .ref (ad 25)) iw_X7_shapeTold_X7 (lg_0 ad cI cJ X S) rfl 9 (by decide) (C0.ts _ fw_X7_shapeTold_55) rfl dX7_shapeTold_9 ?_
    refine r_cV_i (As := []) (rest := []) C0 hw (c_X2_size (ln_25 ad cI cJ X) hV) (cwV 0 C0.ts gX7_shapeTold_X2_size rfl rfl rfl hd_X2_size ⟨Nat.le_of_ble_eq_true rfl, Nat.le_of_ble_eq_true rfl⟩) (lg_25 ad cI cJ X S) rfl rfl hl.1 rfl (Nat.le_of_ble_eq_true rfl) ⟨Nat.le_of_ble_eq_true rfl, Nat.le_of_ble_eq_true rfl⟩ dX7_shapeTold_12 (fun r2 S3 H locs hV hw => ?_)
    refine lv_if_ne (tgt := 20) C0.x C0.b dX7_shapeTold_15 (by decide) (fun c4 => ?_) (fun c4 => ?_)
    · have hV := hV.2 c4
      refine lv_iconst (v := 0) C0.x C0.b dX7_shapeTold_20 (by decide) ?_
      refine lv_istore_n (lv' := [(1, .int (0 : Int32)), (0, .ref (ad 0))]) C0.x C0.b dX7_shapeTold_21 rfl hl (by decide) rfl (fun ls hl => ?_)
      obtain ⟨n22, hV⟩ := hV
      exact lp_X7_shapeTold_22   post C0  n22 _ _ hV _ _ hw _ (lv_sub hl [1, 0] rfl)
    · have hV := hV.1 c4
      refine lv_iconst (v := -1) C0.x C0.b dX7_shapeTold_18 (by decide) ?_
      exact r_iret C0 rfl hw hV dX7_shapeTold_19
/-! StepBench.shape()I -/
abbrev rm_X7_shape : Room := { frames := 6, cells := 0, slots := 0, locals := 144 }
set_option maxRecDepth 20000 in
theorem fw_X7_shape_55 : Cond.fieldLink RX7 55 "StepBench" "theWord" "LStepBench$Numbers;" ∈ wsX7_shape := by decide +kernel
set_option maxRecDepth 20000 in
theorem iw_X7_shape_X7 : ∀ w ∈ wsX70, w ∈ wsX7_shape := by decide +kernel
set_option maxRecDepth 20000 in
theorem fw_X7_shape_64 : Cond.fieldLink RX7 64 "StepBench" "shapes" "LStepBench$Shapes;" ∈ wsX7_shape := by decide +kernel
set_option maxRecDepth 20000 in
theorem fw_X7_shape_45 : Cond.fieldLink RX7 45 "StepBench" "numbers" "LStepBench$Numbers;" ∈ wsX7_shape := by decide +kernel
set_option maxRecDepth 20000 in
theorem hd_X7_shape : yX7_shape.cls = RX7 ∧ yX7_shape.cls ≠ "java/lang/invoke/MethodHandle" ∧ yX7_shape.cls ≠ "java/lang/invoke/VarHandle" ∧ (parseMethodDescriptor yX7_shape.desc).map (fun d => d.parameters.length) = some 0 := by decide +kernel
def V_X7_shape   (S : SS) (post : Int32 → SS → Prop) : Prop :=
  (V_X7_shapeTold  S (fun (r1 : Int32) (S2 : SS) => ((r1 = (1 : Int32) → (V_X2_size 10 15 40 S2 (fun (r4 : Int32) (S5 : SS) => (V_X4_reduce r4 S5 (fun (S7 : SS) => (V_X2_empty 7 12 1000 S7 (fun (S9 : SS) => (V_X4_factor r4 S9 (fun (r10 : Int64) (S11 : SS) => (V_X2_add 7 12 1000 r10 S11 (fun (r12 : Int32) (S13 : SS) => (V_X4_addend r4 S13 (fun (r14 : Int64) (S15 : SS) => (V_X2_add 7 12 1000 r14 S15 (fun (r16 : Int32) (S17 : SS) => (V_X4_divisor r4 S17 (fun (r18 : Int64) (S19 : SS) => (V_X2_add 7 12 1000 r18 S19 (fun (r20 : Int32) (S21 : SS) => (post r1 S21)))))))))))))))))))) ∧ (¬ r1 = (1 : Int32) → (post r1 S2)))))
set_option maxHeartbeats 4000000 in
set_option maxRecDepth 100000 in
theorem c_X7_shape  {S : SS}  {post : Int32 → SS → Prop} (hV : V_X7_shape   S post) : MI l yX7_shape wsX7_shape rm_X7_shape [.ref (ad 0)] D n0 ad cI cJ X S post := by
  refine Met.ofW (cc := cX7_shape) (maxL := 3) (ret := (some .int)) (by decide) rfl ?_
  intro p e s m args below meth c s₁ B hml hv
  obtain ⟨rfl, hv⟩ := hv
  have C0 := Bd.mk B hml (atoms_spec (ws := wsX7_shape) B.pre) (findClass_of_methodNamed B.named) hv.1
  have hw : Wh D n0 ad cI cJ X S s s.heap [] := ⟨hv.2.1, hv.2.2, va_S.rf⟩
  refine r_entry (Nat.le_of_ble_eq_true rfl) (fun ls hl => ?_)
  have hl : lv_has ls 3 [(0, .ref (ad 0))] := hl
  unfold V_X7_shape at hV
  refine lv_aload_n C0.x C0.b dX7_shape_0 rfl (lv_at hl 0 rfl) ?_
  refine r_cV_i (As := []) (rest := []) C0 hw (c_X7_shapeTold  hV) (cwV 0 C0.ts gX7_shape_X7_shapeTold rfl rfl rfl hd_X7_shapeTold ⟨Nat.le_of_ble_eq_true rfl, Nat.le_of_ble_eq_true rfl⟩) (lg_0 ad cI cJ X S) rfl rfl hl.1 rfl (Nat.le_of_ble_eq_true rfl) ⟨Nat.le_of_ble_eq_true rfl, Nat.le_of_ble_eq_true rfl⟩ dX7_shape_1 (fun r1 S2 H locs hV hw => ?_)
  refine lv_istore_n (lv' := [(1, .int r1), (0, .ref (ad 0))]) C0.x C0.b dX7_shape_4 rfl hl (by decide) rfl (fun ls hl => ?_)
  refine lv_iload_n C0.x C0.b dX7_shape_5 rfl (lv_at hl 0 rfl) ?_
  refine lv_iconst (v := 1) C0.x C0.b dX7_shape_6 (by decide) ?_
  refine lv_icmp_ne (tgt := 81) C0.x C0.b dX7_shape_7 (by decide) (fun c3 => ?_) (fun c3 => ?_)
  · have hV := hV.2 c3
    refine lv_iload_n C0.x C0.b dX7_shape_81 rfl (lv_at hl 0 rfl) ?_
    exact r_iret C0 rfl hw hV dX7_shape_82
  · have hV := hV.1 c3
    refine lv_aload_n C0.x C0.b dX7_shape_10 rfl (lv_at hl 1 rfl) ?_
    refine r_get C0 hw (C := RX7) (T := TX7) (N := 15) (v := .ref (ad 25)) iw_X7_shape_X7 (lg_0 ad cI cJ X S2) rfl 9 (by decide) (C0.ts _ fw_X7_shape_55) rfl dX7_shape_11 ?_
    refine r_cV_i (As := []) (rest := []) C0 hw (c_X2_size (ln_25 ad cI cJ X) hV) (cwV 0 C0.ts gX7_shape_X2_size rfl rfl rfl hd_X2_size ⟨Nat.le_of_ble_eq_true rfl, Nat.le_of_ble_eq_true rfl⟩) (lg_25 ad cI cJ X S2) rfl rfl hl.1 rfl (Nat.le_of_ble_eq_true rfl) ⟨Nat.le_of_ble_eq_true rfl, Nat.le_of_ble_eq_true rfl⟩ dX7_shape_14 (fun r4 S5 H locs hV hw => ?_)
    refine lv_istore_n (lv' := [(2, .int r4), (1, .int r1), (0, .ref (ad 0))]) C0.x C0.b dX7_shape_17 rfl hl (by decide) rfl (fun ls hl => ?_)
    refine lv_aload_n C0.x C0.b dX7_shape_18 rfl (lv_at hl 2 rfl) ?_
    refine r_get C0 hw (C := RX7) (T := TX7) (N := 15) (v := .ref (ad 29)) iw_X7_shape_X7 (lg_0 ad cI cJ X S5) rfl 11 (by decide) (C0.ts _ fw_X7_shape_64) rfl dX7_shape_19 ?_
    refine lv_iload_n C0.x C0.b dX7_shape_22 rfl (lv_at hl 0 rfl) ?_
    refine r_cV_v (As := [.int r4]) (rest := []) C0 hw (c_X4_reduce  hV) (cwV 1 C0.ts gX7_shape_X4_reduce rfl rfl rfl hd_X4_reduce ⟨Nat.le_of_ble_eq_true rfl, Nat.le_of_ble_eq_true rfl⟩) (lg_29 ad cI cJ X S5) rfl rfl hl.1 rfl (Nat.le_of_ble_eq_true rfl) ⟨Nat.le_of_ble_eq_true rfl, Nat.le_of_ble_eq_true rfl⟩ dX7_shape_23 (fun S7 H locs hV hw => ?_)
    refine lv_aload_n C0.x C0.b dX7_shape_26 rfl (lv_at hl 2 rfl) ?_
    refine r_get C0 hw (C := RX7) (T := TX7) (N := 15) (v := .ref (ad 19)) iw_X7_shape_X7 (lg_0 ad cI cJ X S7) rfl 6 (by decide) (C0.ts _ fw_X7_shape_45) rfl dX7_shape_27 ?_
    refine r_cV_v (As := []) (rest := []) C0 hw (c_X2_empty (ln_19 ad cI cJ X) hV) (cwV 0 C0.ts gX7_shape_X2_empty rfl rfl rfl hd_X2_empty ⟨Nat.le_of_ble_eq_true rfl, Nat.le_of_ble_eq_true rfl⟩) (lg_19 ad cI cJ X S7) rfl rfl hl.1 rfl (Nat.le_of_ble_eq_true rfl) ⟨Nat.le_of_ble_eq_true rfl, Nat.le_of_ble_eq_true rfl⟩ dX7_shape_30 (fun S9 H locs hV hw => ?_)
    refine lv_aload_n C0.x C0.b dX7_shape_33 rfl (lv_at hl 2 rfl) ?_
    refine r_get C0 hw (C := RX7) (T := TX7) (N := 15) (v := .ref (ad 19)) iw_X7_shape_X7 (lg_0 ad cI cJ X S9) rfl 6 (by decide) (C0.ts _ fw_X7_shape_45) rfl dX7_shape_34 ?_
    refine lv_aload_n C0.x C0.b dX7_shape_37 rfl (lv_at hl 2 rfl) ?_
    refine r_get C0 hw (C := RX7) (T := TX7) (N := 15) (v := .ref (ad 29)) iw_X7_shape_X7 (lg_0 ad cI cJ X S9) rfl 11 (by decide) (C0.ts _ fw_X7_shape_64) rfl dX7_shape_38 ?_
    refine lv_iload_n C0.x C0.b dX7_shape_41 rfl (lv_at hl 0 rfl) ?_
    refine r_cV_l (As := [.int r4]) (rest := [.ref (ad 19)]) C0 hw (c_X4_factor  hV) (cwV 1 C0.ts gX7_shape_X4_factor rfl rfl rfl hd_X4_factor ⟨Nat.le_of_ble_eq_true rfl, Nat.le_of_ble_eq_true rfl⟩) (lg_29 ad cI cJ X S9) rfl rfl hl.1 rfl (Nat.le_of_ble_eq_true rfl) ⟨Nat.le_of_ble_eq_true rfl, Nat.le_of_ble_eq_true rfl⟩ dX7_shape_42 (fun r10 S11 H locs hV hw => ?_)
    refine r_cV_i (As := [.long r10]) (rest := []) C0 hw (c_X2_add (ln_19 ad cI cJ X) hV) (cwV 1 C0.ts gX7_shape_X2_add rfl rfl rfl hd_X2_add ⟨Nat.le_of_ble_eq_true rfl, Nat.le_of_ble_eq_true rfl⟩) (lg_19 ad cI cJ X S11) rfl rfl hl.1 rfl (Nat.le_of_ble_eq_true rfl) ⟨Nat.le_of_ble_eq_true rfl, Nat.le_of_ble_eq_true rfl⟩ dX7_shape_45 (fun r12 S13 H locs hV hw => ?_)
    refine lv_pop C0.x C0.b dX7_shape_48 rfl ?_
    refine lv_aload_n C0.x C0.b dX7_shape_49 rfl (lv_at hl 2 rfl) ?_
    refine r_get C0 hw (C := RX7) (T := TX7) (N := 15) (v := .ref (ad 19)) iw_X7_shape_X7 (lg_0 ad cI cJ X S13) rfl 6 (by decide) (C0.ts _ fw_X7_shape_45) rfl dX7_shape_50 ?_
    refine lv_aload_n C0.x C0.b dX7_shape_53 rfl (lv_at hl 2 rfl) ?_
    refine r_get C0 hw (C := RX7) (T := TX7) (N := 15) (v := .ref (ad 29)) iw_X7_shape_X7 (lg_0 ad cI cJ X S13) rfl 11 (by decide) (C0.ts _ fw_X7_shape_64) rfl dX7_shape_54 ?_
    refine lv_iload_n C0.x C0.b dX7_shape_57 rfl (lv_at hl 0 rfl) ?_
    refine r_cV_l (As := [.int r4]) (rest := [.ref (ad 19)]) C0 hw (c_X4_addend  hV) (cwV 1 C0.ts gX7_shape_X4_addend rfl rfl rfl hd_X4_addend ⟨Nat.le_of_ble_eq_true rfl, Nat.le_of_ble_eq_true rfl⟩) (lg_29 ad cI cJ X S13) rfl rfl hl.1 rfl (Nat.le_of_ble_eq_true rfl) ⟨Nat.le_of_ble_eq_true rfl, Nat.le_of_ble_eq_true rfl⟩ dX7_shape_58 (fun r14 S15 H locs hV hw => ?_)
    refine r_cV_i (As := [.long r14]) (rest := []) C0 hw (c_X2_add (ln_19 ad cI cJ X) hV) (cwV 1 C0.ts gX7_shape_X2_add rfl rfl rfl hd_X2_add ⟨Nat.le_of_ble_eq_true rfl, Nat.le_of_ble_eq_true rfl⟩) (lg_19 ad cI cJ X S15) rfl rfl hl.1 rfl (Nat.le_of_ble_eq_true rfl) ⟨Nat.le_of_ble_eq_true rfl, Nat.le_of_ble_eq_true rfl⟩ dX7_shape_61 (fun r16 S17 H locs hV hw => ?_)
    refine lv_pop C0.x C0.b dX7_shape_64 rfl ?_
    refine lv_aload_n C0.x C0.b dX7_shape_65 rfl (lv_at hl 2 rfl) ?_
    refine r_get C0 hw (C := RX7) (T := TX7) (N := 15) (v := .ref (ad 19)) iw_X7_shape_X7 (lg_0 ad cI cJ X S17) rfl 6 (by decide) (C0.ts _ fw_X7_shape_45) rfl dX7_shape_66 ?_
    refine lv_aload_n C0.x C0.b dX7_shape_69 rfl (lv_at hl 2 rfl) ?_
    refine r_get C0 hw (C := RX7) (T := TX7) (N := 15) (v := .ref (ad 29)) iw_X7_shape_X7 (lg_0 ad cI cJ X S17) rfl 11 (by decide) (C0.ts _ fw_X7_shape_64) rfl dX7_shape_70 ?_
    refine lv_iload_n C0.x C0.b dX7_shape_73 rfl (lv_at hl 0 rfl) ?_
    refine r_cV_l (As := [.int r4]) (rest := [.ref (ad 19)]) C0 hw (c_X4_divisor  hV) (cwV 1 C0.ts gX7_shape_X4_divisor rfl rfl rfl hd_X4_divisor ⟨Nat.le_of_ble_eq_true rfl, Nat.le_of_ble_eq_true rfl⟩) (lg_29 ad cI cJ X S17) rfl rfl hl.1 rfl (Nat.le_of_ble_eq_true rfl) ⟨Nat.le_of_ble_eq_true rfl, Nat.le_of_ble_eq_true rfl⟩ dX7_shape_74 (fun r18 S19 H locs hV hw => ?_)
    refine r_cV_i (As := [.long r18]) (rest := []) C0 hw (c_X2_add (ln_19 ad cI cJ X) hV) (cwV 1 C0.ts gX7_shape_X2_add rfl rfl rfl hd_X2_add ⟨Nat.le_of_ble_eq_true rfl, Nat.le_of_ble_eq_true rfl⟩) (lg_19 ad cI cJ X S19) rfl rfl hl.1 rfl (Nat.le_of_ble_eq_true rfl) ⟨Nat.le_of_ble_eq_true rfl, Nat.le_of_ble_eq_true rfl⟩ dX7_shape_77 (fun r20 S21 H locs hV hw => ?_)
    refine lv_pop C0.x C0.b dX7_shape_80 rfl ?_
    refine lv_iload_n C0.x C0.b dX7_shape_81 rfl (lv_at hl 1 rfl) ?_
    exact r_iret C0 rfl hw hV dX7_shape_82
/-! StepBench.ringNumber(LStepBench$Numbers;I)J -/
abbrev rm_X7_ringNumber : Room := { frames := 3, cells := 0, slots := 0, locals := 72 }
set_option maxRecDepth 20000 in
theorem fw_X7_ringNumber_64 : Cond.fieldLink RX7 64 "StepBench" "shapes" "LStepBench$Shapes;" ∈ wsX7_ringNumber := by decide +kernel
set_option maxRecDepth 20000 in
theorem iw_X7_ringNumber_X7 : ∀ w ∈ wsX70, w ∈ wsX7_ringNumber := by decide +kernel
set_option maxRecDepth 20000 in
theorem cw_X7_ringNumber_190 : Cond.constantLong RX7 190 3000000000000000 ∈ wsX7_ringNumber := by decide +kernel
set_option maxRecDepth 20000 in
theorem fw_X7_ringNumber_16 : Cond.fieldLink RX7 16 "StepBench" "rule" "LStepBench$Shares;" ∈ wsX7_ringNumber := by decide +kernel
set_option maxRecDepth 20000 in
theorem hd_X7_ringNumber : yX7_ringNumber.cls = RX7 ∧ yX7_ringNumber.cls ≠ "java/lang/invoke/MethodHandle" ∧ yX7_ringNumber.cls ≠ "java/lang/invoke/VarHandle" ∧ (parseMethodDescriptor yX7_ringNumber.desc).map (fun d => d.parameters.length) = some 2 := by decide +kernel
def V_X7_ringNumber_62 (si0 ai0 L0 : Nat) (v2 : Int32) (v5 : Int64)  (post : Int64 → SS → Prop) : Nat → Int64 → Int32 → SS → Prop
  | 0, _, _, _ => False
  | n + 1, v7, v9, S =>
    ((v2 ≤ v9 → ((v7 = v5 → (post v5 S)) ∧ (¬ v7 = v5 → (post (3000000000000000 : Int64) S)))) ∧ (¬ v2 ≤ v9 → (V_X7_isNumber v7 S (fun (r15 : Int32) (S16 : SS) => ((r15 = 0 → (post (3000000000000000 : Int64) S16)) ∧ (¬ r15 = 0 → (V_X5_restOf 1 0 1 2 v7 S16 (fun (r18 : Int32) (S19 : SS) => (V_X2_at si0 ai0 L0 v9 S19 (fun (r20 : Int64) (S21 : SS) => ((r18.toInt64 = r20 → (V_X5_after 1 0 1 2 v7 S21 (fun (r23 : Int64) (S24 : SS) => (∀ x25 : Int32, x25 = v9 + 1 → (V_X7_ringNumber_62 si0 ai0 L0 v2 v5  post n r23 x25 S24))))) ∧ (¬ r18.toInt64 = r20 → (post (3000000000000000 : Int64) S21)))))))))))))
set_option maxHeartbeats 4000000 in
set_option maxRecDepth 100000 in
theorem lp_X7_ringNumber_62 {po0 pa0 si0 ai0 L0 : Nat} (hO0 : lnN ad cI cJ X po0 pa0 si0 ai0 L0) (v2 : Int32) (v5 : Int64)  (post : Int64 → SS → Prop) (C0 : Bd p s m meth c args cX7_ringNumber 10 (some .long) wsX7_ringNumber RX7 D n0 cI cJ) : ∀ (n : Nat) (v7 : Int64) (v9 : Int32) (S : SS), V_X7_ringNumber_62 si0 ai0 L0 v2 v5  post n v7 v9 S → ∀ (H : Heap) (locs : List Loc), Wh D n0 ad cI cJ X S s H locs → ∀ ls : Array Slot, lv_has ls 10 [(0, .ref (ad 0)), (1, .ref (ad po0)), (2, .int v2), (5, .long v5), (7, .long v7), (9, .int v9)] → W p l e rm_X7_ringNumber s m args below meth c H locs 0 0 (MQ below (va_Ql post (fun S' t => Wd D n0 ad cI cJ X S' t) (fr n0)) args s 0 0 (fr n0)) (F0 m 62 ls []) := by
  intro n
  induction n with
  | zero => intro v7 v9 S hV; exact False.elim hV
  | succ n ih =>
    intro v7 v9 S hV H locs hw ls hl
    rw [V_X7_ringNumber_62] at hV
    refine lv_iload C0.x C0.b dX7_ringNumber_62 (lv_at hl 5 rfl) ?_
    refine lv_iload_n C0.x C0.b dX7_ringNumber_64 rfl (lv_at hl 2 rfl) ?_
    refine lv_icmp_ge (tgt := 117) C0.x C0.b dX7_ringNumber_65 (by decide) (fun c13 => ?_) (fun c13 => ?_)
    · have hV := hV.1 c13
      refine lv_lload C0.x C0.b dX7_ringNumber_117 (lv_at hl 4 rfl) ?_
      refine lv_lload C0.x C0.b dX7_ringNumber_119 (lv_at hl 3 rfl) ?_
      refine r_lcmp C0 dX7_ringNumber_121 ?_
      refine lv_if_ne (tgt := 130) C0.x C0.b dX7_ringNumber_122 (by decide) (fun c14 => ?_) (fun c14 => ?_)
      · have hV := hV.2 (fun h => c14 ((lc_eq _ _).mpr h))
        refine lv_ldc2 (v := 3000000000000000) C0.x C0.b C0.ow (C0.ts _ cw_X7_ringNumber_190) dX7_ringNumber_130 ?_
        exact r_lret C0 rfl hw hV dX7_ringNumber_133
      · have hV := hV.1 ((lc_eq _ _).mp c14)
        refine lv_lload C0.x C0.b dX7_ringNumber_125 (lv_at hl 3 rfl) ?_
        refine lv_goto (tgt := 133) C0.x C0.b dX7_ringNumber_127 (by decide) ?_
        exact r_lret C0 rfl hw hV dX7_ringNumber_133
    · have hV := hV.2 c13
      refine lv_lload C0.x C0.b dX7_ringNumber_68 (lv_at hl 4 rfl) ?_
      refine r_cS_i (As := [.long v7]) (rest := []) C0 hw (c_X7_isNumber  hV) (va_cwS 1 C0.ts gX7_ringNumber_X7_isNumber rfl rfl rfl hd_X7_isNumber ⟨Nat.le_of_ble_eq_true rfl, Nat.le_of_ble_eq_true rfl⟩) rfl hl.1 rfl (Nat.le_of_ble_eq_true rfl) ⟨Nat.le_of_ble_eq_true rfl, Nat.le_of_ble_eq_true rfl⟩ dX7_ringNumber_70 (fun r15 S16 H locs hV hw => ?_)
      refine lv_if_eq (tgt := 96) C0.x C0.b dX7_ringNumber_73 (by decide) (fun c17 => ?_) (fun c17 => ?_)
      · have hV := hV.1 c17
        refine lv_ldc2 (v := 3000000000000000) C0.x C0.b C0.ow (C0.ts _ cw_X7_ringNumber_190) dX7_ringNumber_96 ?_
        exact r_lret C0 rfl hw hV dX7_ringNumber_99
      · have hV := hV.2 c17
        refine lv_aload_n C0.x C0.b dX7_ringNumber_76 rfl (lv_at hl 0 rfl) ?_
        refine r_get C0 hw (C := RX7) (T := TX7) (N := 15) (v := .ref (ad 1)) iw_X7_ringNumber_X7 (lg_0 ad cI cJ X S16) rfl 1 (by decide) (C0.ts _ fw_X7_ringNumber_16) rfl dX7_ringNumber_77 ?_
        refine lv_lload C0.x C0.b dX7_ringNumber_80 (lv_at hl 4 rfl) ?_
        refine r_cV_i (As := [.long v7]) (rest := []) C0 hw (c_X5_restOf (ln_1 ad cI cJ X) hV) (cwV 1 C0.ts gX7_ringNumber_X5_restOf rfl rfl rfl hd_X5_restOf ⟨Nat.le_of_ble_eq_true rfl, Nat.le_of_ble_eq_true rfl⟩) (lg_1 ad cI cJ X S16) rfl rfl hl.1 rfl (Nat.le_of_ble_eq_true rfl) ⟨Nat.le_of_ble_eq_true rfl, Nat.le_of_ble_eq_true rfl⟩ dX7_ringNumber_82 (fun r18 S19 H locs hV hw => ?_)
        refine lv_i2l C0.x C0.b dX7_ringNumber_85 rfl ?_
        refine lv_aload_n C0.x C0.b dX7_ringNumber_86 rfl (lv_at hl 1 rfl) ?_
        refine lv_iload C0.x C0.b dX7_ringNumber_87 (lv_at hl 5 rfl) ?_
        refine r_cV_l (As := [.int v9]) (rest := [.long r18.toInt64]) C0 hw (c_X2_at hO0 hV) (cwV 1 C0.ts gX7_ringNumber_X2_at rfl rfl rfl hd_X2_at ⟨Nat.le_of_ble_eq_true rfl, Nat.le_of_ble_eq_true rfl⟩) (hO0 S19).1 rfl rfl hl.1 rfl (Nat.le_of_ble_eq_true rfl) ⟨Nat.le_of_ble_eq_true rfl, Nat.le_of_ble_eq_true rfl⟩ dX7_ringNumber_89 (fun r20 S21 H locs hV hw => ?_)
        refine r_lcmp C0 dX7_ringNumber_92 ?_
        refine lv_if_eq (tgt := 100) C0.x C0.b dX7_ringNumber_93 (by decide) (fun c22 => ?_) (fun c22 => ?_)
        · have hV := hV.1 ((lc_eq _ _).mp c22)
          refine lv_aload_n C0.x C0.b dX7_ringNumber_100 rfl (lv_at hl 0 rfl) ?_
          refine r_get C0 hw (C := RX7) (T := TX7) (N := 15) (v := .ref (ad 1)) iw_X7_ringNumber_X7 (lg_0 ad cI cJ X S21) rfl 1 (by decide) (C0.ts _ fw_X7_ringNumber_16) rfl dX7_ringNumber_101 ?_
          refine lv_lload C0.x C0.b dX7_ringNumber_104 (lv_at hl 4 rfl) ?_
          refine r_cV_l (As := [.long v7]) (rest := []) C0 hw (c_X5_after (ln_1 ad cI cJ X) hV) (cwV 1 C0.ts gX7_ringNumber_X5_after rfl rfl rfl hd_X5_after ⟨Nat.le_of_ble_eq_true rfl, Nat.le_of_ble_eq_true rfl⟩) (lg_1 ad cI cJ X S21) rfl rfl hl.1 rfl (Nat.le_of_ble_eq_true rfl) ⟨Nat.le_of_ble_eq_true rfl, Nat.le_of_ble_eq_true rfl⟩ dX7_ringNumber_106 (fun r23 S24 H locs hV hw => ?_)
          refine lv_lstore (lv' := [(7, .long r23), (0, .ref (ad 0)), (1, .ref (ad po0)), (2, .int v2), (5, .long v5), (9, .int v9)]) C0.x C0.b dX7_ringNumber_109 hl (by decide) rfl (fun ls hl => ?_)
          obtain ⟨x25, ex25⟩ : ∃ z : Int32, z = v9 + 1 := ⟨_, rfl⟩
          have hV := hV x25 ex25
          refine lv_iinc (v := x25) (lv' := [(9, .int x25), (7, .long r23), (0, .ref (ad 0)), (1, .ref (ad po0)), (2, .int v2), (5, .long v5)]) C0.x C0.b dX7_ringNumber_111 hl (k := 5) rfl (by rw [ex25]; rfl) (by decide) rfl (fun ls hl => ?_)
          refine lv_goto (tgt := 62) C0.x C0.b dX7_ringNumber_114 (by decide) ?_
          exact ih _ _ _ hV _ _ hw _ (lv_sub hl [2, 3, 4, 5, 1, 0] rfl)
        · have hV := hV.2 (fun h => c22 ((lc_eq _ _).mpr h))
          refine lv_ldc2 (v := 3000000000000000) C0.x C0.b C0.ow (C0.ts _ cw_X7_ringNumber_190) dX7_ringNumber_96 ?_
          exact r_lret C0 rfl hw hV dX7_ringNumber_99
def V_X7_ringNumber (si0 ai0 L0 : Nat) (p1 : Int32) (S : SS) (post : Int64 → SS → Prop) : Prop :=
  (V_X4_divisor p1 S (fun (r1 : Int64) (S2 : SS) => (V_X4_factor p1 S2 (fun (r3 : Int64) (S4 : SS) => (∀ y5 : Int64, y5 = (r1 - r3) → ((y5 = (0 : Int64) → (post (3000000000000000 : Int64) S4)) ∧ (¬ y5 = (0 : Int64) → (V_X4_addend p1 S4 (fun (r7 : Int64) (S8 : SS) => (¬ y5 = 0 ∧ (((lrm r7 y5) = (0 : Int64) → (V_X4_addend p1 S8 (fun (r10 : Int64) (S11 : SS) => (¬ y5 = 0 ∧ (∀ y12 : Int64, y12 = (r10 / y5) → (∃ n62 : Nat, V_X7_ringNumber_62 si0 ai0 L0 p1 y12  post n62 y12 (0 : Int32) S11)))))) ∧ (¬ (lrm r7 y5) = (0 : Int64) → (post (3000000000000000 : Int64) S8)))))))))))))
set_option maxHeartbeats 4000000 in
set_option maxRecDepth 100000 in
theorem c_X7_ringNumber {po0 pa0 si0 ai0 L0 : Nat} (hO0 : lnN ad cI cJ X po0 pa0 si0 ai0 L0) {S : SS} {p1 : Int32} {post : Int64 → SS → Prop} (hV : V_X7_ringNumber si0 ai0 L0 p1 S post) : ML l yX7_ringNumber wsX7_ringNumber rm_X7_ringNumber [.ref (ad 0), .ref (ad po0), .int p1] D n0 ad cI cJ X S post := by
  refine Met.ofW (cc := cX7_ringNumber) (maxL := 10) (ret := (some .long)) (by decide) rfl ?_
  intro p e s m args below meth c s₁ B hml hv
  obtain ⟨rfl, hv⟩ := hv
  have C0 := Bd.mk B hml (atoms_spec (ws := wsX7_ringNumber) B.pre) (findClass_of_methodNamed B.named) hv.1
  have hw : Wh D n0 ad cI cJ X S s s.heap [] := ⟨hv.2.1, hv.2.2, va_S.rf⟩
  refine r_entry (Nat.le_of_ble_eq_true rfl) (fun ls hl => ?_)
  have hl : lv_has ls 10 [(0, .ref (ad 0)), (1, .ref (ad po0)), (2, .int p1)] := hl
  unfold V_X7_ringNumber at hV
  refine lv_aload_n C0.x C0.b dX7_ringNumber_0 rfl (lv_at hl 0 rfl) ?_
  refine r_get C0 hw (C := RX7) (T := TX7) (N := 15) (v := .ref (ad 29)) iw_X7_ringNumber_X7 (lg_0 ad cI cJ X S) rfl 11 (by decide) (C0.ts _ fw_X7_ringNumber_64) rfl dX7_ringNumber_1 ?_
  refine lv_iload_n C0.x C0.b dX7_ringNumber_4 rfl (lv_at hl 2 rfl) ?_
  refine r_cV_l (As := [.int p1]) (rest := []) C0 hw (c_X4_divisor  hV) (cwV 1 C0.ts gX7_ringNumber_X4_divisor rfl rfl rfl hd_X4_divisor ⟨Nat.le_of_ble_eq_true rfl, Nat.le_of_ble_eq_true rfl⟩) (lg_29 ad cI cJ X S) rfl rfl hl.1 rfl (Nat.le_of_ble_eq_true rfl) ⟨Nat.le_of_ble_eq_true rfl, Nat.le_of_ble_eq_true rfl⟩ dX7_ringNumber_5 (fun r1 S2 H locs hV hw => ?_)
  refine lv_aload_n C0.x C0.b dX7_ringNumber_8 rfl (lv_at hl 0 rfl) ?_
  refine r_get C0 hw (C := RX7) (T := TX7) (N := 15) (v := .ref (ad 29)) iw_X7_ringNumber_X7 (lg_0 ad cI cJ X S2) rfl 11 (by decide) (C0.ts _ fw_X7_ringNumber_64) rfl dX7_ringNumber_9 ?_
  refine lv_iload_n C0.x C0.b dX7_ringNumber_12 rfl (lv_at hl 2 rfl) ?_
  refine r_cV_l (As := [.int p1]) (rest := [.long r1]) C0 hw (c_X4_factor  hV) (cwV 1 C0.ts gX7_ringNumber_X4_factor rfl rfl rfl hd_X4_factor ⟨Nat.le_of_ble_eq_true rfl, Nat.le_of_ble_eq_true rfl⟩) (lg_29 ad cI cJ X S2) rfl rfl hl.1 rfl (Nat.le_of_ble_eq_true rfl) ⟨Nat.le_of_ble_eq_true rfl, Nat.le_of_ble_eq_true rfl⟩ dX7_ringNumber_13 (fun r3 S4 H locs hV hw => ?_)
  refine lv_lsub C0.x C0.b dX7_ringNumber_16 ?_
  refine lv_topl (fun y5 ey5 => ?_)
  have hV := hV y5 ey5
  refine lv_lstore_n (lv' := [(3, .long y5), (0, .ref (ad 0)), (1, .ref (ad po0)), (2, .int p1)]) C0.x C0.b dX7_ringNumber_17 rfl hl (by decide) rfl (fun ls hl => ?_)
  refine lv_lload_n C0.x C0.b dX7_ringNumber_18 rfl (lv_at hl 0 rfl) ?_
  refine lv_lconst (v := 0) C0.x C0.b dX7_ringNumber_19 (by decide) ?_
  refine r_lcmp C0 dX7_ringNumber_20 ?_
  refine lv_if_eq (tgt := 39) C0.x C0.b dX7_ringNumber_21 (by decide) (fun c6 => ?_) (fun c6 => ?_)
  · have hV := hV.1 ((lc_eq _ _).mp c6)
    refine lv_ldc2 (v := 3000000000000000) C0.x C0.b C0.ow (C0.ts _ cw_X7_ringNumber_190) dX7_ringNumber_39 ?_
    exact r_lret C0 rfl hw hV dX7_ringNumber_42
  · have hV := hV.2 (fun h => c6 ((lc_eq _ _).mpr h))
    refine lv_aload_n C0.x C0.b dX7_ringNumber_24 rfl (lv_at hl 1 rfl) ?_
    refine r_get C0 hw (C := RX7) (T := TX7) (N := 15) (v := .ref (ad 29)) iw_X7_ringNumber_X7 (lg_0 ad cI cJ X S4) rfl 11 (by decide) (C0.ts _ fw_X7_ringNumber_64) rfl dX7_ringNumber_25 ?_
    refine lv_iload_n C0.x C0.b dX7_ringNumber_28 rfl (lv_at hl 3 rfl) ?_
    refine r_cV_l (As := [.int p1]) (rest := []) C0 hw (c_X4_addend  hV) (cwV 1 C0.ts gX7_ringNumber_X4_addend rfl rfl rfl hd_X4_addend ⟨Nat.le_of_ble_eq_true rfl, Nat.le_of_ble_eq_true rfl⟩) (lg_29 ad cI cJ X S4) rfl rfl hl.1 rfl (Nat.le_of_ble_eq_true rfl) ⟨Nat.le_of_ble_eq_true rfl, Nat.le_of_ble_eq_true rfl⟩ dX7_ringNumber_29 (fun r7 S8 H locs hV hw => ?_)
    refine lv_lload_n C0.x C0.b dX7_ringNumber_32 rfl (lv_at hl 0 rfl) ?_
    refine lv_lrem C0.x C0.b dX7_ringNumber_33 hV.1 ?_
    have hV := hV.2
    refine lv_lconst (v := 0) C0.x C0.b dX7_ringNumber_34 (by decide) ?_
    refine r_lcmp C0 dX7_ringNumber_35 ?_
    refine lv_if_eq (tgt := 43) C0.x C0.b dX7_ringNumber_36 (by decide) (fun c9 => ?_) (fun c9 => ?_)
    · have hV := hV.1 ((lc_eq _ _).mp c9)
      refine lv_aload_n C0.x C0.b dX7_ringNumber_43 rfl (lv_at hl 1 rfl) ?_
      refine r_get C0 hw (C := RX7) (T := TX7) (N := 15) (v := .ref (ad 29)) iw_X7_ringNumber_X7 (lg_0 ad cI cJ X S8) rfl 11 (by decide) (C0.ts _ fw_X7_ringNumber_64) rfl dX7_ringNumber_44 ?_
      refine lv_iload_n C0.x C0.b dX7_ringNumber_47 rfl (lv_at hl 3 rfl) ?_
      refine r_cV_l (As := [.int p1]) (rest := []) C0 hw (c_X4_addend  hV) (cwV 1 C0.ts gX7_ringNumber_X4_addend rfl rfl rfl hd_X4_addend ⟨Nat.le_of_ble_eq_true rfl, Nat.le_of_ble_eq_true rfl⟩) (lg_29 ad cI cJ X S8) rfl rfl hl.1 rfl (Nat.le_of_ble_eq_true rfl) ⟨Nat.le_of_ble_eq_true rfl, Nat.le_of_ble_eq_true rfl⟩ dX7_ringNumber_48 (fun r10 S11 H locs hV hw => ?_)
      refine lv_lload_n C0.x C0.b dX7_ringNumber_51 rfl (lv_at hl 0 rfl) ?_
      refine lv_ldiv C0.x C0.b dX7_ringNumber_52 hV.1 ?_
      have hV := hV.2
      refine lv_topl (fun y12 ey12 => ?_)
      have hV := hV y12 ey12
      refine lv_lstore (lv' := [(5, .long y12), (3, .long y5), (0, .ref (ad 0)), (1, .ref (ad po0)), (2, .int p1)]) C0.x C0.b dX7_ringNumber_53 hl (by decide) rfl (fun ls hl => ?_)
      refine lv_lload C0.x C0.b dX7_ringNumber_55 (lv_at hl 0 rfl) ?_
      refine lv_lstore (lv' := [(7, .long y12), (5, .long y12), (3, .long y5), (0, .ref (ad 0)), (1, .ref (ad po0)), (2, .int p1)]) C0.x C0.b dX7_ringNumber_57 hl (by decide) rfl (fun ls hl => ?_)
      refine lv_iconst (v := 0) C0.x C0.b dX7_ringNumber_59 (by decide) ?_
      refine lv_istore (lv' := [(9, .int (0 : Int32)), (7, .long y12), (5, .long y12), (3, .long y5), (0, .ref (ad 0)), (1, .ref (ad po0)), (2, .int p1)]) C0.x C0.b dX7_ringNumber_60 hl (by decide) rfl (fun ls hl => ?_)
      obtain ⟨n62, hV⟩ := hV
      exact lp_X7_ringNumber_62 hO0 _ _ post C0  n62 _ _ _ hV _ _ hw _ (lv_sub hl [4, 5, 6, 2, 1, 0] rfl)
    · have hV := hV.2 (fun h => c9 ((lc_eq _ _).mpr h))
      refine lv_ldc2 (v := 3000000000000000) C0.x C0.b C0.ow (C0.ts _ cw_X7_ringNumber_190) dX7_ringNumber_39 ?_
      exact r_lret C0 rfl hw hV dX7_ringNumber_42
/-! StepBench.ring()I -/
abbrev rm_X7_ring : Room := { frames := 6, cells := 0, slots := 0, locals := 144 }
set_option maxRecDepth 20000 in
theorem fw_X7_ring_55 : Cond.fieldLink RX7 55 "StepBench" "theWord" "LStepBench$Numbers;" ∈ wsX7_ring := by decide +kernel
set_option maxRecDepth 20000 in
theorem iw_X7_ring_X7 : ∀ w ∈ wsX70, w ∈ wsX7_ring := by decide +kernel
set_option maxRecDepth 20000 in
theorem fw_X7_ring_64 : Cond.fieldLink RX7 64 "StepBench" "shapes" "LStepBench$Shapes;" ∈ wsX7_ring := by decide +kernel
set_option maxRecDepth 20000 in
theorem fw_X7_ring_45 : Cond.fieldLink RX7 45 "StepBench" "numbers" "LStepBench$Numbers;" ∈ wsX7_ring := by decide +kernel
set_option maxRecDepth 20000 in
theorem hd_X7_ring : yX7_ring.cls = RX7 ∧ yX7_ring.cls ≠ "java/lang/invoke/MethodHandle" ∧ yX7_ring.cls ≠ "java/lang/invoke/VarHandle" ∧ (parseMethodDescriptor yX7_ring.desc).map (fun d => d.parameters.length) = some 0 := by decide +kernel
def V_X7_ring   (S : SS) (post : Int32 → SS → Prop) : Prop :=
  (V_X7_shapeTold  S (fun (r1 : Int32) (S2 : SS) => ((r1 = (1 : Int32) → (V_X2_size 10 15 40 S2 (fun (r4 : Int32) (S5 : SS) => (V_X4_factor r4 S5 (fun (r6 : Int64) (S7 : SS) => (V_X4_divisor r4 S7 (fun (r8 : Int64) (S9 : SS) => ((r6 = r8 → (V_X4_addend r4 S9 (fun (r11 : Int64) (S12 : SS) => ((r11 = (0 : Int64) → (post (2 : Int32) S12)) ∧ (¬ r11 = (0 : Int64) → (post (0 : Int32) S12)))))) ∧ (¬ r6 = r8 → (V_X7_ringNumber 10 15 40 r4 S9 (fun (r14 : Int64) (S15 : SS) => (V_X7_isNumber r14 S15 (fun (r16 : Int32) (S17 : SS) => ((r16 = 0 → (post (0 : Int32) S17)) ∧ (¬ r16 = 0 → (V_X2_empty 7 12 1000 S17 (fun (S20 : SS) => (V_X2_add 7 12 1000 r14 S20 (fun (r21 : Int32) (S22 : SS) => (post (1 : Int32) S22)))))))))))))))))))) ∧ (¬ r1 = (1 : Int32) → (post r1 S2)))))
set_option maxHeartbeats 4000000 in
set_option maxRecDepth 100000 in
theorem c_X7_ring  {S : SS}  {post : Int32 → SS → Prop} (hV : V_X7_ring   S post) : MI l yX7_ring wsX7_ring rm_X7_ring [.ref (ad 0)] D n0 ad cI cJ X S post := by
  refine Met.ofW (cc := cX7_ring) (maxL := 5) (ret := (some .int)) (by decide) rfl ?_
  intro p e s m args below meth c s₁ B hml hv
  obtain ⟨rfl, hv⟩ := hv
  have C0 := Bd.mk B hml (atoms_spec (ws := wsX7_ring) B.pre) (findClass_of_methodNamed B.named) hv.1
  have hw : Wh D n0 ad cI cJ X S s s.heap [] := ⟨hv.2.1, hv.2.2, va_S.rf⟩
  refine r_entry (Nat.le_of_ble_eq_true rfl) (fun ls hl => ?_)
  have hl : lv_has ls 5 [(0, .ref (ad 0))] := hl
  unfold V_X7_ring at hV
  refine lv_aload_n C0.x C0.b dX7_ring_0 rfl (lv_at hl 0 rfl) ?_
  refine r_cV_i (As := []) (rest := []) C0 hw (c_X7_shapeTold  hV) (cwV 0 C0.ts gX7_ring_X7_shapeTold rfl rfl rfl hd_X7_shapeTold ⟨Nat.le_of_ble_eq_true rfl, Nat.le_of_ble_eq_true rfl⟩) (lg_0 ad cI cJ X S) rfl rfl hl.1 rfl (Nat.le_of_ble_eq_true rfl) ⟨Nat.le_of_ble_eq_true rfl, Nat.le_of_ble_eq_true rfl⟩ dX7_ring_1 (fun r1 S2 H locs hV hw => ?_)
  refine lv_istore_n (lv' := [(1, .int r1), (0, .ref (ad 0))]) C0.x C0.b dX7_ring_4 rfl hl (by decide) rfl (fun ls hl => ?_)
  refine lv_iload_n C0.x C0.b dX7_ring_5 rfl (lv_at hl 0 rfl) ?_
  refine lv_iconst (v := 1) C0.x C0.b dX7_ring_6 (by decide) ?_
  refine lv_icmp_eq (tgt := 12) C0.x C0.b dX7_ring_7 (by decide) (fun c3 => ?_) (fun c3 => ?_)
  · have hV := hV.1 c3
    refine lv_aload_n C0.x C0.b dX7_ring_12 rfl (lv_at hl 1 rfl) ?_
    refine r_get C0 hw (C := RX7) (T := TX7) (N := 15) (v := .ref (ad 25)) iw_X7_ring_X7 (lg_0 ad cI cJ X S2) rfl 9 (by decide) (C0.ts _ fw_X7_ring_55) rfl dX7_ring_13 ?_
    refine r_cV_i (As := []) (rest := []) C0 hw (c_X2_size (ln_25 ad cI cJ X) hV) (cwV 0 C0.ts gX7_ring_X2_size rfl rfl rfl hd_X2_size ⟨Nat.le_of_ble_eq_true rfl, Nat.le_of_ble_eq_true rfl⟩) (lg_25 ad cI cJ X S2) rfl rfl hl.1 rfl (Nat.le_of_ble_eq_true rfl) ⟨Nat.le_of_ble_eq_true rfl, Nat.le_of_ble_eq_true rfl⟩ dX7_ring_16 (fun r4 S5 H locs hV hw => ?_)
    refine lv_istore_n (lv' := [(2, .int r4), (1, .int r1), (0, .ref (ad 0))]) C0.x C0.b dX7_ring_19 rfl hl (by decide) rfl (fun ls hl => ?_)
    refine lv_aload_n C0.x C0.b dX7_ring_20 rfl (lv_at hl 2 rfl) ?_
    refine r_get C0 hw (C := RX7) (T := TX7) (N := 15) (v := .ref (ad 29)) iw_X7_ring_X7 (lg_0 ad cI cJ X S5) rfl 11 (by decide) (C0.ts _ fw_X7_ring_64) rfl dX7_ring_21 ?_
    refine lv_iload_n C0.x C0.b dX7_ring_24 rfl (lv_at hl 0 rfl) ?_
    refine r_cV_l (As := [.int r4]) (rest := []) C0 hw (c_X4_factor  hV) (cwV 1 C0.ts gX7_ring_X4_factor rfl rfl rfl hd_X4_factor ⟨Nat.le_of_ble_eq_true rfl, Nat.le_of_ble_eq_true rfl⟩) (lg_29 ad cI cJ X S5) rfl rfl hl.1 rfl (Nat.le_of_ble_eq_true rfl) ⟨Nat.le_of_ble_eq_true rfl, Nat.le_of_ble_eq_true rfl⟩ dX7_ring_25 (fun r6 S7 H locs hV hw => ?_)
    refine lv_aload_n C0.x C0.b dX7_ring_28 rfl (lv_at hl 2 rfl) ?_
    refine r_get C0 hw (C := RX7) (T := TX7) (N := 15) (v := .ref (ad 29)) iw_X7_ring_X7 (lg_0 ad cI cJ X S7) rfl 11 (by decide) (C0.ts _ fw_X7_ring_64) rfl dX7_ring_29 ?_
    refine lv_iload_n C0.x C0.b dX7_ring_32 rfl (lv_at hl 0 rfl) ?_
    refine r_cV_l (As := [.int r4]) (rest := [.long r6]) C0 hw (c_X4_divisor  hV) (cwV 1 C0.ts gX7_ring_X4_divisor rfl rfl rfl hd_X4_divisor ⟨Nat.le_of_ble_eq_true rfl, Nat.le_of_ble_eq_true rfl⟩) (lg_29 ad cI cJ X S7) rfl rfl hl.1 rfl (Nat.le_of_ble_eq_true rfl) ⟨Nat.le_of_ble_eq_true rfl, Nat.le_of_ble_eq_true rfl⟩ dX7_ring_33 (fun r8 S9 H locs hV hw => ?_)
    refine r_lcmp C0 dX7_ring_36 ?_
    refine lv_if_ne (tgt := 59) C0.x C0.b dX7_ring_37 (by decide) (fun c10 => ?_) (fun c10 => ?_)
    · have hV := hV.2 (fun h => c10 ((lc_eq _ _).mpr h))
      refine lv_aload_n C0.x C0.b dX7_ring_59 rfl (lv_at hl 2 rfl) ?_
      refine lv_aload_n C0.x C0.b dX7_ring_60 rfl (lv_at hl 2 rfl) ?_
      refine r_get C0 hw (C := RX7) (T := TX7) (N := 15) (v := .ref (ad 25)) iw_X7_ring_X7 (lg_0 ad cI cJ X S9) rfl 9 (by decide) (C0.ts _ fw_X7_ring_55) rfl dX7_ring_61 ?_
      refine lv_iload_n C0.x C0.b dX7_ring_64 rfl (lv_at hl 0 rfl) ?_
      refine r_cV_l (As := [.ref (ad 25), .int r4]) (rest := []) C0 hw (c_X7_ringNumber (ln_25 ad cI cJ X) hV) (cwV 2 C0.ts gX7_ring_X7_ringNumber rfl rfl rfl hd_X7_ringNumber ⟨Nat.le_of_ble_eq_true rfl, Nat.le_of_ble_eq_true rfl⟩) (lg_0 ad cI cJ X S9) rfl rfl hl.1 rfl (Nat.le_of_ble_eq_true rfl) ⟨Nat.le_of_ble_eq_true rfl, Nat.le_of_ble_eq_true rfl⟩ dX7_ring_65 (fun r14 S15 H locs hV hw => ?_)
      refine lv_lstore_n (lv' := [(3, .long r14), (2, .int r4), (1, .int r1), (0, .ref (ad 0))]) C0.x C0.b dX7_ring_68 rfl hl (by decide) rfl (fun ls hl => ?_)
      refine lv_lload_n C0.x C0.b dX7_ring_69 rfl (lv_at hl 0 rfl) ?_
      refine r_cS_i (As := [.long r14]) (rest := []) C0 hw (c_X7_isNumber  hV) (va_cwS 1 C0.ts gX7_ring_X7_isNumber rfl rfl rfl hd_X7_isNumber ⟨Nat.le_of_ble_eq_true rfl, Nat.le_of_ble_eq_true rfl⟩) rfl hl.1 rfl (Nat.le_of_ble_eq_true rfl) ⟨Nat.le_of_ble_eq_true rfl, Nat.le_of_ble_eq_true rfl⟩ dX7_ring_70 (fun r16 S17 H locs hV hw => ?_)
      refine lv_if_ne (tgt := 78) C0.x C0.b dX7_ring_73 (by decide) (fun c18 => ?_) (fun c18 => ?_)
      · have hV := hV.2 c18
        refine lv_aload_n C0.x C0.b dX7_ring_78 rfl (lv_at hl 3 rfl) ?_
        refine r_get C0 hw (C := RX7) (T := TX7) (N := 15) (v := .ref (ad 19)) iw_X7_ring_X7 (lg_0 ad cI cJ X S17) rfl 6 (by decide) (C0.ts _ fw_X7_ring_45) rfl dX7_ring_79 ?_
        refine r_cV_v (As := []) (rest := []) C0 hw (c_X2_empty (ln_19 ad cI cJ X) hV) (cwV 0 C0.ts gX7_ring_X2_empty rfl rfl rfl hd_X2_empty ⟨Nat.le_of_ble_eq_true rfl, Nat.le_of_ble_eq_true rfl⟩) (lg_19 ad cI cJ X S17) rfl rfl hl.1 rfl (Nat.le_of_ble_eq_true rfl) ⟨Nat.le_of_ble_eq_true rfl, Nat.le_of_ble_eq_true rfl⟩ dX7_ring_82 (fun S20 H locs hV hw => ?_)
        refine lv_aload_n C0.x C0.b dX7_ring_85 rfl (lv_at hl 3 rfl) ?_
        refine r_get C0 hw (C := RX7) (T := TX7) (N := 15) (v := .ref (ad 19)) iw_X7_ring_X7 (lg_0 ad cI cJ X S20) rfl 6 (by decide) (C0.ts _ fw_X7_ring_45) rfl dX7_ring_86 ?_
        refine lv_lload_n C0.x C0.b dX7_ring_89 rfl (lv_at hl 0 rfl) ?_
        refine r_cV_i (As := [.long r14]) (rest := []) C0 hw (c_X2_add (ln_19 ad cI cJ X) hV) (cwV 1 C0.ts gX7_ring_X2_add rfl rfl rfl hd_X2_add ⟨Nat.le_of_ble_eq_true rfl, Nat.le_of_ble_eq_true rfl⟩) (lg_19 ad cI cJ X S20) rfl rfl hl.1 rfl (Nat.le_of_ble_eq_true rfl) ⟨Nat.le_of_ble_eq_true rfl, Nat.le_of_ble_eq_true rfl⟩ dX7_ring_90 (fun r21 S22 H locs hV hw => ?_)
        refine lv_pop C0.x C0.b dX7_ring_93 rfl ?_
        refine lv_iconst (v := 1) C0.x C0.b dX7_ring_94 (by decide) ?_
        exact r_iret C0 rfl hw hV dX7_ring_95
      · have hV := hV.1 c18
        refine lv_iconst (v := 0) C0.x C0.b dX7_ring_76 (by decide) ?_
        exact r_iret C0 rfl hw hV dX7_ring_77
    · have hV := hV.1 ((lc_eq _ _).mp c10)
      refine lv_aload_n C0.x C0.b dX7_ring_40 rfl (lv_at hl 2 rfl) ?_
      refine r_get C0 hw (C := RX7) (T := TX7) (N := 15) (v := .ref (ad 29)) iw_X7_ring_X7 (lg_0 ad cI cJ X S9) rfl 11 (by decide) (C0.ts _ fw_X7_ring_64) rfl dX7_ring_41 ?_
      refine lv_iload_n C0.x C0.b dX7_ring_44 rfl (lv_at hl 0 rfl) ?_
      refine r_cV_l (As := [.int r4]) (rest := []) C0 hw (c_X4_addend  hV) (cwV 1 C0.ts gX7_ring_X4_addend rfl rfl rfl hd_X4_addend ⟨Nat.le_of_ble_eq_true rfl, Nat.le_of_ble_eq_true rfl⟩) (lg_29 ad cI cJ X S9) rfl rfl hl.1 rfl (Nat.le_of_ble_eq_true rfl) ⟨Nat.le_of_ble_eq_true rfl, Nat.le_of_ble_eq_true rfl⟩ dX7_ring_45 (fun r11 S12 H locs hV hw => ?_)
      refine lv_lconst (v := 0) C0.x C0.b dX7_ring_48 (by decide) ?_
      refine r_lcmp C0 dX7_ring_49 ?_
      refine lv_if_ne (tgt := 57) C0.x C0.b dX7_ring_50 (by decide) (fun c13 => ?_) (fun c13 => ?_)
      · have hV := hV.2 (fun h => c13 ((lc_eq _ _).mpr h))
        refine lv_iconst (v := 0) C0.x C0.b dX7_ring_57 (by decide) ?_
        exact r_iret C0 rfl hw hV dX7_ring_58
      · have hV := hV.1 ((lc_eq _ _).mp c13)
        refine lv_iconst (v := 2) C0.x C0.b dX7_ring_53 (by decide) ?_
        refine lv_goto (tgt := 58) C0.x C0.b dX7_ring_54 (by decide) ?_
        exact r_iret C0 rfl hw hV dX7_ring_58
  · have hV := hV.2 c3
    refine lv_iload_n C0.x C0.b dX7_ring_10 rfl (lv_at hl 0 rfl) ?_
    exact r_iret C0 rfl hw hV dX7_ring_11
/-! StepBench.firstWord(I)I -/
abbrev rm_X7_firstWord : Room := { frames := 2, cells := 0, slots := 0, locals := 44 }
set_option maxRecDepth 20000 in
theorem fw_X7_firstWord_58 : Cond.fieldLink RX7 58 "StepBench" "tried" "LStepBench$Numbers;" ∈ wsX7_firstWord := by decide +kernel
set_option maxRecDepth 20000 in
theorem iw_X7_firstWord_X7 : ∀ w ∈ wsX70, w ∈ wsX7_firstWord := by decide +kernel
set_option maxRecDepth 20000 in
theorem hd_X7_firstWord : yX7_firstWord.cls = RX7 ∧ yX7_firstWord.cls ≠ "java/lang/invoke/MethodHandle" ∧ yX7_firstWord.cls ≠ "java/lang/invoke/VarHandle" ∧ (parseMethodDescriptor yX7_firstWord.desc).map (fun d => d.parameters.length) = some 1 := by decide +kernel
def V_X7_firstWord  (p0 : Int32) (S : SS) (post : Int32 → SS → Prop) : Prop :=
  (V_X2_zeros 11 16 12 p0 S (fun (S2 : SS) => (post (0 : Int32) S2)))
set_option maxHeartbeats 4000000 in
set_option maxRecDepth 100000 in
theorem c_X7_firstWord  {S : SS} {p0 : Int32} {post : Int32 → SS → Prop} (hV : V_X7_firstWord  p0 S post) : MI l yX7_firstWord wsX7_firstWord rm_X7_firstWord [.ref (ad 0), .int p0] D n0 ad cI cJ X S post := by
  refine Met.ofW (cc := cX7_firstWord) (maxL := 2) (ret := (some .int)) (by decide) rfl ?_
  intro p e s m args below meth c s₁ B hml hv
  obtain ⟨rfl, hv⟩ := hv
  have C0 := Bd.mk B hml (atoms_spec (ws := wsX7_firstWord) B.pre) (findClass_of_methodNamed B.named) hv.1
  have hw : Wh D n0 ad cI cJ X S s s.heap [] := ⟨hv.2.1, hv.2.2, va_S.rf⟩
  refine r_entry (Nat.le_of_ble_eq_true rfl) (fun ls hl => ?_)
  have hl : lv_has ls 2 [(0, .ref (ad 0)), (1, .int p0)] := hl
  unfold V_X7_firstWord at hV
  refine lv_aload_n C0.x C0.b dX7_firstWord_0 rfl (lv_at hl 0 rfl) ?_
  refine r_get C0 hw (C := RX7) (T := TX7) (N := 15) (v := .ref (ad 27)) iw_X7_firstWord_X7 (lg_0 ad cI cJ X S) rfl 10 (by decide) (C0.ts _ fw_X7_firstWord_58) rfl dX7_firstWord_1 ?_
  refine lv_iload_n C0.x C0.b dX7_firstWord_4 rfl (lv_at hl 1 rfl) ?_
  refine r_cV_v (As := [.int p0]) (rest := []) C0 hw (c_X2_zeros (ln_27 ad cI cJ X) hV) (cwV 1 C0.ts gX7_firstWord_X2_zeros rfl rfl rfl hd_X2_zeros ⟨Nat.le_of_ble_eq_true rfl, Nat.le_of_ble_eq_true rfl⟩) (lg_27 ad cI cJ X S) rfl rfl hl.1 rfl (Nat.le_of_ble_eq_true rfl) ⟨Nat.le_of_ble_eq_true rfl, Nat.le_of_ble_eq_true rfl⟩ dX7_firstWord_5 (fun S2 H locs hV hw => ?_)
  refine lv_iconst (v := 0) C0.x C0.b dX7_firstWord_8 (by decide) ?_
  exact r_iret C0 rfl hw hV dX7_firstWord_9
/-! StepBench.isLeastOfRing(JI)Z -/
abbrev rm_X7_isLeastOfRing : Room := { frames := 3, cells := 0, slots := 0, locals := 72 }
set_option maxRecDepth 20000 in
theorem fw_X7_isLeastOfRing_16 : Cond.fieldLink RX7 16 "StepBench" "rule" "LStepBench$Shares;" ∈ wsX7_isLeastOfRing := by decide +kernel
set_option maxRecDepth 20000 in
theorem iw_X7_isLeastOfRing_X7 : ∀ w ∈ wsX70, w ∈ wsX7_isLeastOfRing := by decide +kernel
set_option maxRecDepth 20000 in
theorem hd_X7_isLeastOfRing : yX7_isLeastOfRing.cls = RX7 ∧ yX7_isLeastOfRing.cls ≠ "java/lang/invoke/MethodHandle" ∧ yX7_isLeastOfRing.cls ≠ "java/lang/invoke/VarHandle" ∧ (parseMethodDescriptor yX7_isLeastOfRing.desc).map (fun d => d.parameters.length) = some 2 := by decide +kernel
def V_X7_isLeastOfRing_6  (v1 : Int64) (v3 : Int32)  (post : Int32 → SS → Prop) : Nat → Int64 → Int32 → SS → Prop
  | 0, _, _, _ => False
  | n + 1, v4, v6, S =>
    ((v3 ≤ v6 → (post (1 : Int32) S)) ∧ (¬ v3 ≤ v6 → (V_X5_after 1 0 1 2 v4 S (fun (r2 : Int64) (S3 : SS) => ((v1 < r2 → (∀ x5 : Int32, x5 = v6 + 1 → (V_X7_isLeastOfRing_6  v1 v3  post n r2 x5 S3))) ∧ (¬ v1 < r2 → (post (0 : Int32) S3)))))))
set_option maxHeartbeats 4000000 in
set_option maxRecDepth 100000 in
theorem lp_X7_isLeastOfRing_6  (v1 : Int64) (v3 : Int32)  (post : Int32 → SS → Prop) (C0 : Bd p s m meth c args cX7_isLeastOfRing 7 (some .boolean) wsX7_isLeastOfRing RX7 D n0 cI cJ) : ∀ (n : Nat) (v4 : Int64) (v6 : Int32) (S : SS), V_X7_isLeastOfRing_6  v1 v3  post n v4 v6 S → ∀ (H : Heap) (locs : List Loc), Wh D n0 ad cI cJ X S s H locs → ∀ ls : Array Slot, lv_has ls 7 [(0, .ref (ad 0)), (1, .long v1), (3, .int v3), (4, .long v4), (6, .int v6)] → W p l e rm_X7_isLeastOfRing s m args below meth c H locs 0 0 (MQ below (va_Qi post (fun S' t => Wd D n0 ad cI cJ X S' t) (fr n0)) args s 0 0 (fr n0)) (F0 m 6 ls []) := by
  intro n
  induction n with
  | zero => intro v4 v6 S hV; exact False.elim hV
  | succ n ih =>
    intro v4 v6 S hV H locs hw ls hl
    rw [V_X7_isLeastOfRing_6] at hV
    refine lv_iload C0.x C0.b dX7_isLeastOfRing_6 (lv_at hl 4 rfl) ?_
    refine lv_iload_n C0.x C0.b dX7_isLeastOfRing_8 rfl (lv_at hl 2 rfl) ?_
    refine lv_icmp_ge (tgt := 38) C0.x C0.b dX7_isLeastOfRing_9 (by decide) (fun c1 => ?_) (fun c1 => ?_)
    · have hV := hV.1 c1
      refine lv_iconst (v := 1) C0.x C0.b dX7_isLeastOfRing_38 (by decide) ?_
      exact r_zret C0 rfl bz_1 hw hV dX7_isLeastOfRing_39
    · have hV := hV.2 c1
      refine lv_aload_n C0.x C0.b dX7_isLeastOfRing_12 rfl (lv_at hl 0 rfl) ?_
      refine r_get C0 hw (C := RX7) (T := TX7) (N := 15) (v := .ref (ad 1)) iw_X7_isLeastOfRing_X7 (lg_0 ad cI cJ X S) rfl 1 (by decide) (C0.ts _ fw_X7_isLeastOfRing_16) rfl dX7_isLeastOfRing_13 ?_
      refine lv_lload C0.x C0.b dX7_isLeastOfRing_16 (lv_at hl 3 rfl) ?_
      refine r_cV_l (As := [.long v4]) (rest := []) C0 hw (c_X5_after (ln_1 ad cI cJ X) hV) (cwV 1 C0.ts gX7_isLeastOfRing_X5_after rfl rfl rfl hd_X5_after ⟨Nat.le_of_ble_eq_true rfl, Nat.le_of_ble_eq_true rfl⟩) (lg_1 ad cI cJ X S) rfl rfl hl.1 rfl (Nat.le_of_ble_eq_true rfl) ⟨Nat.le_of_ble_eq_true rfl, Nat.le_of_ble_eq_true rfl⟩ dX7_isLeastOfRing_18 (fun r2 S3 H locs hV hw => ?_)
      refine lv_lstore (lv' := [(4, .long r2), (0, .ref (ad 0)), (1, .long v1), (3, .int v3), (6, .int v6)]) C0.x C0.b dX7_isLeastOfRing_21 hl (by decide) rfl (fun ls hl => ?_)
      refine lv_lload C0.x C0.b dX7_isLeastOfRing_23 (lv_at hl 0 rfl) ?_
      refine lv_lload_n C0.x C0.b dX7_isLeastOfRing_25 rfl (lv_at hl 2 rfl) ?_
      refine r_lcmp C0 dX7_isLeastOfRing_26 ?_
      refine lv_if_gt (tgt := 32) C0.x C0.b dX7_isLeastOfRing_27 (by decide) (fun c4 => ?_) (fun c4 => ?_)
      · have hV := hV.1 ((lc_gt _ _).mp c4)
        obtain ⟨x5, ex5⟩ : ∃ z : Int32, z = v6 + 1 := ⟨_, rfl⟩
        have hV := hV x5 ex5
        refine lv_iinc (v := x5) (lv' := [(6, .int x5), (4, .long r2), (0, .ref (ad 0)), (1, .long v1), (3, .int v3)]) C0.x C0.b dX7_isLeastOfRing_32 hl (k := 4) rfl (by rw [ex5]; rfl) (by decide) rfl (fun ls hl => ?_)
        refine lv_goto (tgt := 6) C0.x C0.b dX7_isLeastOfRing_35 (by decide) ?_
        exact ih _ _ _ hV _ _ hw _ (lv_sub hl [2, 3, 4, 1, 0] rfl)
      · have hV := hV.2 (fun h => c4 ((lc_gt _ _).mpr h))
        refine lv_iconst (v := 0) C0.x C0.b dX7_isLeastOfRing_30 (by decide) ?_
        exact r_zret C0 rfl bz_0 hw hV dX7_isLeastOfRing_31
def V_X7_isLeastOfRing  (p0 : Int64) (p1 : Int32) (S : SS) (post : Int32 → SS → Prop) : Prop :=
  (∃ n6 : Nat, V_X7_isLeastOfRing_6  p0 p1  post n6 p0 (1 : Int32) S)
set_option maxHeartbeats 4000000 in
set_option maxRecDepth 100000 in
theorem c_X7_isLeastOfRing  {S : SS} {p0 : Int64} {p1 : Int32} {post : Int32 → SS → Prop} (hV : V_X7_isLeastOfRing  p0 p1 S post) : MI l yX7_isLeastOfRing wsX7_isLeastOfRing rm_X7_isLeastOfRing [.ref (ad 0), .long p0, .int p1] D n0 ad cI cJ X S post := by
  refine Met.ofW (cc := cX7_isLeastOfRing) (maxL := 7) (ret := (some .boolean)) (by decide) rfl ?_
  intro p e s m args below meth c s₁ B hml hv
  obtain ⟨rfl, hv⟩ := hv
  have C0 := Bd.mk B hml (atoms_spec (ws := wsX7_isLeastOfRing) B.pre) (findClass_of_methodNamed B.named) hv.1
  have hw : Wh D n0 ad cI cJ X S s s.heap [] := ⟨hv.2.1, hv.2.2, va_S.rf⟩
  refine r_entry (Nat.le_of_ble_eq_true rfl) (fun ls hl => ?_)
  have hl : lv_has ls 7 [(0, .ref (ad 0)), (1, .long p0), (3, .int p1)] := hl
  unfold V_X7_isLeastOfRing at hV
  refine lv_lload_n C0.x C0.b dX7_isLeastOfRing_0 rfl (lv_at hl 1 rfl) ?_
  refine lv_lstore (lv' := [(4, .long p0), (0, .ref (ad 0)), (1, .long p0), (3, .int p1)]) C0.x C0.b dX7_isLeastOfRing_1 hl (by decide) rfl (fun ls hl => ?_)
  refine lv_iconst (v := 1) C0.x C0.b dX7_isLeastOfRing_3 (by decide) ?_
  refine lv_istore (lv' := [(6, .int (1 : Int32)), (4, .long p0), (0, .ref (ad 0)), (1, .long p0), (3, .int p1)]) C0.x C0.b dX7_isLeastOfRing_4 hl (by decide) rfl (fun ls hl => ?_)
  obtain ⟨n6, hV⟩ := hV
  exact lp_X7_isLeastOfRing_6  _ _ post C0  n6 _ _ _ hV _ _ hw _ (lv_sub hl [2, 3, 4, 1, 0] rfl)
/-! StepBench.nextWord(I)I -/
abbrev rm_X7_nextWord : Room := { frames := 2, cells := 0, slots := 0, locals := 44 }
set_option maxRecDepth 20000 in
theorem fw_X7_nextWord_58 : Cond.fieldLink RX7 58 "StepBench" "tried" "LStepBench$Numbers;" ∈ wsX7_nextWord := by decide +kernel
set_option maxRecDepth 20000 in
theorem iw_X7_nextWord_X7 : ∀ w ∈ wsX70, w ∈ wsX7_nextWord := by decide +kernel
set_option maxRecDepth 20000 in
theorem fw_X7_nextWord_16 : Cond.fieldLink RX7 16 "StepBench" "rule" "LStepBench$Shares;" ∈ wsX7_nextWord := by decide +kernel
set_option maxRecDepth 20000 in
theorem hd_X7_nextWord : yX7_nextWord.cls = RX7 ∧ yX7_nextWord.cls ≠ "java/lang/invoke/MethodHandle" ∧ yX7_nextWord.cls ≠ "java/lang/invoke/VarHandle" ∧ (parseMethodDescriptor yX7_nextWord.desc).map (fun d => d.parameters.length) = some 1 := by decide +kernel
def V_X7_nextWord_4    (post : Int32 → SS → Prop) : Nat → Int32 → SS → Prop
  | 0, _, _ => False
  | n + 1, v2, S =>
    ((v2 ≤ 0 → (V_X2_at 11 16 12 v2 S (fun (r3 : Int64) (S4 : SS) => (V_X2_put 11 16 12 v2 (r3 + (1 : Int64)) S4 (fun (S6 : SS) => (post v2 S6)))))) ∧ (¬ v2 ≤ 0 → (V_X2_at 11 16 12 v2 S (fun (r7 : Int64) (S8 : SS) => (V_X5_measure 1 0 1 2 S8 (fun (r9 : Int32) (S10 : SS) => ((r7 = (r9 - (1 : Int32)).toInt64 → (V_X2_put 11 16 12 v2 (0 : Int64) S10 (fun (S13 : SS) => (∀ x14 : Int32, x14 = v2 + (-1) → (V_X7_nextWord_4    post n x14 S13))))) ∧ (¬ r7 = (r9 - (1 : Int32)).toInt64 → (V_X2_at 11 16 12 v2 S10 (fun (r15 : Int64) (S16 : SS) => (V_X2_put 11 16 12 v2 (r15 + (1 : Int64)) S16 (fun (S18 : SS) => (post v2 S18)))))))))))))
set_option maxHeartbeats 4000000 in
set_option maxRecDepth 100000 in
theorem lp_X7_nextWord_4    (post : Int32 → SS → Prop) (C0 : Bd p s m meth c args cX7_nextWord 3 (some .int) wsX7_nextWord RX7 D n0 cI cJ) : ∀ (n : Nat) (v2 : Int32) (S : SS), V_X7_nextWord_4    post n v2 S → ∀ (H : Heap) (locs : List Loc), Wh D n0 ad cI cJ X S s H locs → ∀ ls : Array Slot, lv_has ls 3 [(0, .ref (ad 0)), (2, .int v2)] → W p l e rm_X7_nextWord s m args below meth c H locs 0 0 (MQ below (va_Qi post (fun S' t => Wd D n0 ad cI cJ X S' t) (fr n0)) args s 0 0 (fr n0)) (F0 m 4 ls []) := by
  intro n
  induction n with
  | zero => intro v2 S hV; exact False.elim hV
  | succ n ih =>
    intro v2 S hV H locs hw ls hl
    rw [V_X7_nextWord_4] at hV
    refine lv_iload_n C0.x C0.b dX7_nextWord_4 rfl (lv_at hl 1 rfl) ?_
    refine lv_if_le (tgt := 45) C0.x C0.b dX7_nextWord_5 (by decide) (fun c2 => ?_) (fun c2 => ?_)
    · have hV := hV.1 c2
      refine lv_aload_n C0.x C0.b dX7_nextWord_45 rfl (lv_at hl 0 rfl) ?_
      refine r_get C0 hw (C := RX7) (T := TX7) (N := 15) (v := .ref (ad 27)) iw_X7_nextWord_X7 (lg_0 ad cI cJ X S) rfl 10 (by decide) (C0.ts _ fw_X7_nextWord_58) rfl dX7_nextWord_46 ?_
      refine lv_iload_n C0.x C0.b dX7_nextWord_49 rfl (lv_at hl 1 rfl) ?_
      refine lv_aload_n C0.x C0.b dX7_nextWord_50 rfl (lv_at hl 0 rfl) ?_
      refine r_get C0 hw (C := RX7) (T := TX7) (N := 15) (v := .ref (ad 27)) iw_X7_nextWord_X7 (lg_0 ad cI cJ X S) rfl 10 (by decide) (C0.ts _ fw_X7_nextWord_58) rfl dX7_nextWord_51 ?_
      refine lv_iload_n C0.x C0.b dX7_nextWord_54 rfl (lv_at hl 1 rfl) ?_
      refine r_cV_l (As := [.int v2]) (rest := [.int v2, .ref (ad 27)]) C0 hw (c_X2_at (ln_27 ad cI cJ X) hV) (cwV 1 C0.ts gX7_nextWord_X2_at rfl rfl rfl hd_X2_at ⟨Nat.le_of_ble_eq_true rfl, Nat.le_of_ble_eq_true rfl⟩) (lg_27 ad cI cJ X S) rfl rfl hl.1 rfl (Nat.le_of_ble_eq_true rfl) ⟨Nat.le_of_ble_eq_true rfl, Nat.le_of_ble_eq_true rfl⟩ dX7_nextWord_55 (fun r3 S4 H locs hV hw => ?_)
      refine lv_lconst (v := 1) C0.x C0.b dX7_nextWord_58 (by decide) ?_
      refine lv_ladd C0.x C0.b dX7_nextWord_59 ?_
      refine r_cV_v (As := [.int v2, .long (r3 + (1 : Int64))]) (rest := []) C0 hw (c_X2_put (ln_27 ad cI cJ X) hV) (cwV 2 C0.ts gX7_nextWord_X2_put rfl rfl rfl hd_X2_put ⟨Nat.le_of_ble_eq_true rfl, Nat.le_of_ble_eq_true rfl⟩) (lg_27 ad cI cJ X S4) rfl rfl hl.1 rfl (Nat.le_of_ble_eq_true rfl) ⟨Nat.le_of_ble_eq_true rfl, Nat.le_of_ble_eq_true rfl⟩ dX7_nextWord_60 (fun S6 H locs hV hw => ?_)
      refine lv_iload_n C0.x C0.b dX7_nextWord_63 rfl (lv_at hl 1 rfl) ?_
      exact r_iret C0 rfl hw hV dX7_nextWord_64
    · have hV := hV.2 c2
      refine lv_aload_n C0.x C0.b dX7_nextWord_8 rfl (lv_at hl 0 rfl) ?_
      refine r_get C0 hw (C := RX7) (T := TX7) (N := 15) (v := .ref (ad 27)) iw_X7_nextWord_X7 (lg_0 ad cI cJ X S) rfl 10 (by decide) (C0.ts _ fw_X7_nextWord_58) rfl dX7_nextWord_9 ?_
      refine lv_iload_n C0.x C0.b dX7_nextWord_12 rfl (lv_at hl 1 rfl) ?_
      refine r_cV_l (As := [.int v2]) (rest := []) C0 hw (c_X2_at (ln_27 ad cI cJ X) hV) (cwV 1 C0.ts gX7_nextWord_X2_at rfl rfl rfl hd_X2_at ⟨Nat.le_of_ble_eq_true rfl, Nat.le_of_ble_eq_true rfl⟩) (lg_27 ad cI cJ X S) rfl rfl hl.1 rfl (Nat.le_of_ble_eq_true rfl) ⟨Nat.le_of_ble_eq_true rfl, Nat.le_of_ble_eq_true rfl⟩ dX7_nextWord_13 (fun r7 S8 H locs hV hw => ?_)
      refine lv_aload_n C0.x C0.b dX7_nextWord_16 rfl (lv_at hl 0 rfl) ?_
      refine r_get C0 hw (C := RX7) (T := TX7) (N := 15) (v := .ref (ad 1)) iw_X7_nextWord_X7 (lg_0 ad cI cJ X S8) rfl 1 (by decide) (C0.ts _ fw_X7_nextWord_16) rfl dX7_nextWord_17 ?_
      refine r_cV_i (As := []) (rest := [.long r7]) C0 hw (c_X5_measure (ln_1 ad cI cJ X) hV) (cwV 0 C0.ts gX7_nextWord_X5_measure rfl rfl rfl hd_X5_measure ⟨Nat.le_of_ble_eq_true rfl, Nat.le_of_ble_eq_true rfl⟩) (lg_1 ad cI cJ X S8) rfl rfl hl.1 rfl (Nat.le_of_ble_eq_true rfl) ⟨Nat.le_of_ble_eq_true rfl, Nat.le_of_ble_eq_true rfl⟩ dX7_nextWord_20 (fun r9 S10 H locs hV hw => ?_)
      refine lv_iconst (v := 1) C0.x C0.b dX7_nextWord_23 (by decide) ?_
      refine lv_isub C0.x C0.b dX7_nextWord_24 ?_
      refine lv_i2l C0.x C0.b dX7_nextWord_25 rfl ?_
      refine r_lcmp C0 dX7_nextWord_26 ?_
      refine lv_if_ne (tgt := 45) C0.x C0.b dX7_nextWord_27 (by decide) (fun c11 => ?_) (fun c11 => ?_)
      · have hV := hV.2 (fun h => c11 ((lc_eq _ _).mpr h))
        refine lv_aload_n C0.x C0.b dX7_nextWord_45 rfl (lv_at hl 0 rfl) ?_
        refine r_get C0 hw (C := RX7) (T := TX7) (N := 15) (v := .ref (ad 27)) iw_X7_nextWord_X7 (lg_0 ad cI cJ X S10) rfl 10 (by decide) (C0.ts _ fw_X7_nextWord_58) rfl dX7_nextWord_46 ?_
        refine lv_iload_n C0.x C0.b dX7_nextWord_49 rfl (lv_at hl 1 rfl) ?_
        refine lv_aload_n C0.x C0.b dX7_nextWord_50 rfl (lv_at hl 0 rfl) ?_
        refine r_get C0 hw (C := RX7) (T := TX7) (N := 15) (v := .ref (ad 27)) iw_X7_nextWord_X7 (lg_0 ad cI cJ X S10) rfl 10 (by decide) (C0.ts _ fw_X7_nextWord_58) rfl dX7_nextWord_51 ?_
        refine lv_iload_n C0.x C0.b dX7_nextWord_54 rfl (lv_at hl 1 rfl) ?_
        refine r_cV_l (As := [.int v2]) (rest := [.int v2, .ref (ad 27)]) C0 hw (c_X2_at (ln_27 ad cI cJ X) hV) (cwV 1 C0.ts gX7_nextWord_X2_at rfl rfl rfl hd_X2_at ⟨Nat.le_of_ble_eq_true rfl, Nat.le_of_ble_eq_true rfl⟩) (lg_27 ad cI cJ X S10) rfl rfl hl.1 rfl (Nat.le_of_ble_eq_true rfl) ⟨Nat.le_of_ble_eq_true rfl, Nat.le_of_ble_eq_true rfl⟩ dX7_nextWord_55 (fun r15 S16 H locs hV hw => ?_)
        refine lv_lconst (v := 1) C0.x C0.b dX7_nextWord_58 (by decide) ?_
        refine lv_ladd C0.x C0.b dX7_nextWord_59 ?_
        refine r_cV_v (As := [.int v2, .long (r15 + (1 : Int64))]) (rest := []) C0 hw (c_X2_put (ln_27 ad cI cJ X) hV) (cwV 2 C0.ts gX7_nextWord_X2_put rfl rfl rfl hd_X2_put ⟨Nat.le_of_ble_eq_true rfl, Nat.le_of_ble_eq_true rfl⟩) (lg_27 ad cI cJ X S16) rfl rfl hl.1 rfl (Nat.le_of_ble_eq_true rfl) ⟨Nat.le_of_ble_eq_true rfl, Nat.le_of_ble_eq_true rfl⟩ dX7_nextWord_60 (fun S18 H locs hV hw => ?_)
        refine lv_iload_n C0.x C0.b dX7_nextWord_63 rfl (lv_at hl 1 rfl) ?_
        exact r_iret C0 rfl hw hV dX7_nextWord_64
      · have hV := hV.1 ((lc_eq _ _).mp c11)
        refine lv_aload_n C0.x C0.b dX7_nextWord_30 rfl (lv_at hl 0 rfl) ?_
        refine r_get C0 hw (C := RX7) (T := TX7) (N := 15) (v := .ref (ad 27)) iw_X7_nextWord_X7 (lg_0 ad cI cJ X S10) rfl 10 (by decide) (C0.ts _ fw_X7_nextWord_58) rfl dX7_nextWord_31 ?_
        refine lv_iload_n C0.x C0.b dX7_nextWord_34 rfl (lv_at hl 1 rfl) ?_
        refine lv_lconst (v := 0) C0.x C0.b dX7_nextWord_35 (by decide) ?_
        refine r_cV_v (As := [.int v2, .long (0 : Int64)]) (rest := []) C0 hw (c_X2_put (ln_27 ad cI cJ X) hV) (cwV 2 C0.ts gX7_nextWord_X2_put rfl rfl rfl hd_X2_put ⟨Nat.le_of_ble_eq_true rfl, Nat.le_of_ble_eq_true rfl⟩) (lg_27 ad cI cJ X S10) rfl rfl hl.1 rfl (Nat.le_of_ble_eq_true rfl) ⟨Nat.le_of_ble_eq_true rfl, Nat.le_of_ble_eq_true rfl⟩ dX7_nextWord_36 (fun S13 H locs hV hw => ?_)
        obtain ⟨x14, ex14⟩ : ∃ z : Int32, z = v2 + (-1) := ⟨_, rfl⟩
        have hV := hV x14 ex14
        refine lv_iinc (v := x14) (lv' := [(2, .int x14), (0, .ref (ad 0))]) C0.x C0.b dX7_nextWord_39 hl (k := 1) rfl (by rw [ex14]; rfl) (by decide) rfl (fun ls hl => ?_)
        refine lv_goto (tgt := 4) C0.x C0.b dX7_nextWord_42 (by decide) ?_
        exact ih _ _ hV _ _ hw _ (lv_sub hl [1, 0] rfl)
def V_X7_nextWord  (p0 : Int32) (S : SS) (post : Int32 → SS → Prop) : Prop :=
  (∀ x1 : Int32, x1 = (p0 - (1 : Int32)) → (∃ n4 : Nat, V_X7_nextWord_4    post n4 x1 S))
set_option maxHeartbeats 4000000 in
set_option maxRecDepth 100000 in
theorem c_X7_nextWord  {S : SS} {p0 : Int32} {post : Int32 → SS → Prop} (hV : V_X7_nextWord  p0 S post) : MI l yX7_nextWord wsX7_nextWord rm_X7_nextWord [.ref (ad 0), .int p0] D n0 ad cI cJ X S post := by
  refine Met.ofW (cc := cX7_nextWord) (maxL := 3) (ret := (some .int)) (by decide) rfl ?_
  intro p e s m args below meth c s₁ B hml hv
  obtain ⟨rfl, hv⟩ := hv
  have C0 := Bd.mk B hml (atoms_spec (ws := wsX7_nextWord) B.pre) (findClass_of_methodNamed B.named) hv.1
  have hw : Wh D n0 ad cI cJ X S s s.heap [] := ⟨hv.2.1, hv.2.2, va_S.rf⟩
  refine r_entry (Nat.le_of_ble_eq_true rfl) (fun ls hl => ?_)
  have hl : lv_has ls 3 [(0, .ref (ad 0)), (1, .int p0)] := hl
  unfold V_X7_nextWord at hV
  refine lv_iload_n C0.x C0.b dX7_nextWord_0 rfl (lv_at hl 1 rfl) ?_
  refine lv_iconst (v := 1) C0.x C0.b dX7_nextWord_1 (by decide) ?_
  refine lv_isub C0.x C0.b dX7_nextWord_2 ?_
  refine lv_topi (fun x1 ex1 => ?_)
  have hV := hV x1 ex1
  refine lv_istore_n (lv' := [(2, .int x1), (0, .ref (ad 0)), (1, .int p0)]) C0.x C0.b dX7_nextWord_3 rfl hl (by decide) rfl (fun ls hl => ?_)
  obtain ⟨n4, hV⟩ := hV
  exact lp_X7_nextWord_4   post C0  n4 _ _ hV _ _ hw _ (lv_sub hl [1, 0] rfl)
/-! StepBench.power(II)I -/
abbrev rm_X7_power : Room := { frames := 0, cells := 0, slots := 0, locals := 0 }
set_option maxRecDepth 20000 in
theorem hd_X7_power : yX7_power.cls ≠ "java/lang/invoke/MethodHandle" ∧ yX7_power.cls ≠ "java/lang/invoke/VarHandle" ∧ (parseMethodDescriptor yX7_power.desc).map (fun d => d.parameters.length) = some 2 := by decide +kernel
def V_X7_power_4  (v0 : Int32) (v1 : Int32)  (post : Int32 → SS → Prop) : Nat → Int32 → Int32 → SS → Prop
  | 0, _, _, _ => False
  | n + 1, v2, v3, S =>
    ((v1 ≤ v3 → (post v2 S)) ∧ (¬ v1 ≤ v3 → (((20000 : Int32) < v2 → (post v2 S)) ∧ (¬ (20000 : Int32) < v2 → (∀ x3 : Int32, x3 = (v2 * v0) → (∀ x4 : Int32, x4 = v3 + 1 → (V_X7_power_4  v0 v1  post n x3 x4 S)))))))
set_option maxHeartbeats 4000000 in
set_option maxRecDepth 100000 in
theorem lp_X7_power_4  (v0 : Int32) (v1 : Int32)  (post : Int32 → SS → Prop) (C0 : Bd p s m meth c args cX7_power 4 (some .int) wsX7_power RX7 D n0 cI cJ) : ∀ (n : Nat) (v2 : Int32) (v3 : Int32) (S : SS), V_X7_power_4  v0 v1  post n v2 v3 S → ∀ (H : Heap) (locs : List Loc), Wh D n0 ad cI cJ X S s H locs → ∀ ls : Array Slot, lv_has ls 4 [(0, .int v0), (1, .int v1), (2, .int v2), (3, .int v3)] → W p l e rm_X7_power s m args below meth c H locs 0 0 (MQ below (va_Qi post (fun S' t => Wd D n0 ad cI cJ X S' t) (fr n0)) args s 0 0 (fr n0)) (F0 m 4 ls []) := by
  intro n
  induction n with
  | zero => intro v2 v3 S hV; exact False.elim hV
  | succ n ih =>
    intro v2 v3 S hV H locs hw ls hl
    rw [V_X7_power_4] at hV
    refine lv_iload_n C0.x C0.b dX7_power_4 rfl (lv_at hl 3 rfl) ?_
    refine lv_iload_n C0.x C0.b dX7_power_5 rfl (lv_at hl 1 rfl) ?_
    refine lv_icmp_ge (tgt := 26) C0.x C0.b dX7_power_6 (by decide) (fun c1 => ?_) (fun c1 => ?_)
    · have hV := hV.1 c1
      refine lv_iload_n C0.x C0.b dX7_power_26 rfl (lv_at hl 2 rfl) ?_
      exact r_iret C0 rfl hw hV dX7_power_27
    · have hV := hV.2 c1
      refine lv_iload_n C0.x C0.b dX7_power_9 rfl (lv_at hl 2 rfl) ?_
      refine lv_sipush (v := 20000) C0.x C0.b dX7_power_10 (by decide) ?_
      refine lv_icmp_gt (tgt := 26) C0.x C0.b dX7_power_13 (by decide) (fun c2 => ?_) (fun c2 => ?_)
      · have hV := hV.1 c2
        refine lv_iload_n C0.x C0.b dX7_power_26 rfl (lv_at hl 2 rfl) ?_
        exact r_iret C0 rfl hw hV dX7_power_27
      · have hV := hV.2 c2
        refine lv_iload_n C0.x C0.b dX7_power_16 rfl (lv_at hl 2 rfl) ?_
        refine lv_iload_n C0.x C0.b dX7_power_17 rfl (lv_at hl 0 rfl) ?_
        refine lv_imul C0.x C0.b dX7_power_18 ?_
        refine lv_topi (fun x3 ex3 => ?_)
        have hV := hV x3 ex3
        refine lv_istore_n (lv' := [(2, .int x3), (0, .int v0), (1, .int v1), (3, .int v3)]) C0.x C0.b dX7_power_19 rfl hl (by decide) rfl (fun ls hl => ?_)
        obtain ⟨x4, ex4⟩ : ∃ z : Int32, z = v3 + 1 := ⟨_, rfl⟩
        have hV := hV x4 ex4
        refine lv_iinc (v := x4) (lv' := [(3, .int x4), (2, .int x3), (0, .int v0), (1, .int v1)]) C0.x C0.b dX7_power_20 hl (k := 3) rfl (by rw [ex4]; rfl) (by decide) rfl (fun ls hl => ?_)
        refine lv_goto (tgt := 4) C0.x C0.b dX7_power_23 (by decide) ?_
        exact ih _ _ _ hV _ _ hw _ (lv_sub hl [2, 3, 1, 0] rfl)
def V_X7_power  (p0 : Int32) (p1 : Int32) (S : SS) (post : Int32 → SS → Prop) : Prop :=
  (∃ n4 : Nat, V_X7_power_4  p0 p1  post n4 (1 : Int32) (0 : Int32) S)
set_option maxHeartbeats 4000000 in
set_option maxRecDepth 100000 in
theorem c_X7_power  {S : SS} {p0 : Int32} {p1 : Int32} {post : Int32 → SS → Prop} (hV : V_X7_power  p0 p1 S post) : MI l yX7_power wsX7_power rm_X7_power [.int p0, .int p1] D n0 ad cI cJ X S post := by
  refine Met.ofW (cc := cX7_power) (maxL := 4) (ret := (some .int)) (by decide) rfl ?_
  intro p e s m args below meth c s₁ B hml hv
  obtain ⟨rfl, hv⟩ := hv
  have C0 := Bd.mk B hml (atoms_spec (ws := wsX7_power) B.pre) (findClass_of_methodNamed B.named) hv.1
  have hw : Wh D n0 ad cI cJ X S s s.heap [] := ⟨hv.2.1, hv.2.2, va_S.rf⟩
  refine r_entry (Nat.le_of_ble_eq_true rfl) (fun ls hl => ?_)
  have hl : lv_has ls 4 [(0, .int p0), (1, .int p1)] := hl
  unfold V_X7_power at hV
  refine lv_iconst (v := 1) C0.x C0.b dX7_power_0 (by decide) ?_
  refine lv_istore_n (lv' := [(2, .int (1 : Int32)), (0, .int p0), (1, .int p1)]) C0.x C0.b dX7_power_1 rfl hl (by decide) rfl (fun ls hl => ?_)
  refine lv_iconst (v := 0) C0.x C0.b dX7_power_2 (by decide) ?_
  refine lv_istore_n (lv' := [(3, .int (0 : Int32)), (2, .int (1 : Int32)), (0, .int p0), (1, .int p1)]) C0.x C0.b dX7_power_3 rfl hl (by decide) rfl (fun ls hl => ?_)
  obtain ⟨n4, hV⟩ := hV
  exact lp_X7_power_4  _ _ post C0  n4 _ _ _ hV _ _ hw _ (lv_sub hl [2, 3, 1, 0] rfl)
/-! StepBench.rings(I)I -/
abbrev rm_X7_rings : Room := { frames := 5, cells := 0, slots := 0, locals := 123 }
set_option maxRecDepth 20000 in
theorem fw_X7_rings_9 : Cond.fieldLink RX7 9 "StepBench" "ruleKind" "I" ∈ wsX7_rings := by decide +kernel
set_option maxRecDepth 20000 in
theorem iw_X7_rings_X7 : ∀ w ∈ wsX70, w ∈ wsX7_rings := by decide +kernel
set_option maxRecDepth 20000 in
theorem fw_X7_rings_16 : Cond.fieldLink RX7 16 "StepBench" "rule" "LStepBench$Shares;" ∈ wsX7_rings := by decide +kernel
set_option maxRecDepth 20000 in
theorem fw_X7_rings_49 : Cond.fieldLink RX7 49 "StepBench" "found" "LStepBench$Numbers;" ∈ wsX7_rings := by decide +kernel
set_option maxRecDepth 20000 in
theorem fw_X7_rings_45 : Cond.fieldLink RX7 45 "StepBench" "numbers" "LStepBench$Numbers;" ∈ wsX7_rings := by decide +kernel
set_option maxRecDepth 20000 in
theorem fw_X7_rings_58 : Cond.fieldLink RX7 58 "StepBench" "tried" "LStepBench$Numbers;" ∈ wsX7_rings := by decide +kernel
set_option maxRecDepth 20000 in
theorem hd_X7_rings : yX7_rings.cls = RX7 ∧ yX7_rings.cls ≠ "java/lang/invoke/MethodHandle" ∧ yX7_rings.cls ≠ "java/lang/invoke/VarHandle" ∧ (parseMethodDescriptor yX7_rings.desc).map (fun d => d.parameters.length) = some 1 := by decide +kernel
def V_X7_rings_55  (v1 : Int32) (v2 : Int32)  (post : Int32 → SS → Prop) : Nat → Int32 → Int32 → SS → Prop
  | 0, _, _, _ => False
  | n + 1, v3, v4, S =>
    ((v2 ≤ v4 → (V_X2_become 7 12 1000 8 13 1000 S (fun (S13 : SS) => (post v3 S13)))) ∧ (¬ v2 ≤ v4 → ((v4 = 0 → (V_X7_firstWord v1 S (fun (r15 : Int32) (S16 : SS) => (V_X7_shapeWord 11 16 12 r15 S16 (fun (r17 : Int32) (S18 : SS) => ((r17 = 0 → (post (-2 : Int32) S18)) ∧ (¬ r17 = 0 → (V_X7_ringNumber 11 16 12 v1 S18 (fun (r20 : Int64) (S21 : SS) => (V_X7_isNumber r20 S21 (fun (r22 : Int32) (S23 : SS) => ((r22 = 0 → (∀ x25 : Int32, x25 = v4 + 1 → (V_X7_rings_55  v1 v2  post n v3 x25 S23))) ∧ (¬ r22 = 0 → (V_X7_isLeastOfRing r20 v1 S23 (fun (r26 : Int32) (S27 : SS) => ((r26 = 0 → (∀ x29 : Int32, x29 = v4 + 1 → (V_X7_rings_55  v1 v2  post n v3 x29 S27))) ∧ (¬ r26 = 0 → (∀ x30 : Int32, x30 = v3 + 1 → (V_X2_sortIn 8 13 1000 r20 S27 (fun (S32 : SS) => (∀ x33 : Int32, x33 = v4 + 1 → (V_X7_rings_55  v1 v2  post n x30 x33 S32)))))))))))))))))))))) ∧ (¬ v4 = 0 → (V_X7_nextWord v1 S (fun (r34 : Int32) (S35 : SS) => (V_X7_shapeWord 11 16 12 r34 S35 (fun (r36 : Int32) (S37 : SS) => ((r36 = 0 → (post (-2 : Int32) S37)) ∧ (¬ r36 = 0 → (V_X7_ringNumber 11 16 12 v1 S37 (fun (r39 : Int64) (S40 : SS) => (V_X7_isNumber r39 S40 (fun (r41 : Int32) (S42 : SS) => ((r41 = 0 → (∀ x44 : Int32, x44 = v4 + 1 → (V_X7_rings_55  v1 v2  post n v3 x44 S42))) ∧ (¬ r41 = 0 → (V_X7_isLeastOfRing r39 v1 S42 (fun (r45 : Int32) (S46 : SS) => ((r45 = 0 → (∀ x48 : Int32, x48 = v4 + 1 → (V_X7_rings_55  v1 v2  post n v3 x48 S46))) ∧ (¬ r45 = 0 → (∀ x49 : Int32, x49 = v3 + 1 → (V_X2_sortIn 8 13 1000 r39 S46 (fun (S51 : SS) => (∀ x52 : Int32, x52 = v4 + 1 → (V_X7_rings_55  v1 v2  post n x49 x52 S51)))))))))))))))))))))))))
set_option maxHeartbeats 4000000 in
set_option maxRecDepth 100000 in
theorem lp_X7_rings_55  (v1 : Int32) (v2 : Int32)  (post : Int32 → SS → Prop) (C0 : Bd p s m meth c args cX7_rings 8 (some .int) wsX7_rings RX7 D n0 cI cJ) : ∀ (n : Nat) (v3 : Int32) (v4 : Int32) (S : SS), V_X7_rings_55  v1 v2  post n v3 v4 S → ∀ (H : Heap) (locs : List Loc), Wh D n0 ad cI cJ X S s H locs → ∀ ls : Array Slot, lv_has ls 8 [(0, .ref (ad 0)), (1, .int v1), (2, .int v2), (3, .int v3), (4, .int v4)] → W p l e rm_X7_rings s m args below meth c H locs 0 0 (MQ below (va_Qi post (fun S' t => Wd D n0 ad cI cJ X S' t) (fr n0)) args s 0 0 (fr n0)) (F0 m 55 ls []) := by
  intro n
  induction n with
  | zero => intro v3 v4 S hV; exact False.elim hV
  | succ n ih =>
    intro v3 v4 S hV H locs hw ls hl
    rw [V_X7_rings_55] at hV
    refine lv_iload C0.x C0.b dX7_rings_55 (lv_at hl 4 rfl) ?_
    refine lv_iload_n C0.x C0.b dX7_rings_57 rfl (lv_at hl 2 rfl) ?_
    refine lv_icmp_ge (tgt := 144) C0.x C0.b dX7_rings_58 (by decide) (fun c11 => ?_) (fun c11 => ?_)
    · have hV := hV.1 c11
      refine lv_aload_n C0.x C0.b dX7_rings_144 rfl (lv_at hl 0 rfl) ?_
      refine r_get C0 hw (C := RX7) (T := TX7) (N := 15) (v := .ref (ad 19)) iw_X7_rings_X7 (lg_0 ad cI cJ X S) rfl 6 (by decide) (C0.ts _ fw_X7_rings_45) rfl dX7_rings_145 ?_
      refine lv_aload_n C0.x C0.b dX7_rings_148 rfl (lv_at hl 0 rfl) ?_
      refine r_get C0 hw (C := RX7) (T := TX7) (N := 15) (v := .ref (ad 21)) iw_X7_rings_X7 (lg_0 ad cI cJ X S) rfl 7 (by decide) (C0.ts _ fw_X7_rings_49) rfl dX7_rings_149 ?_
      refine r_cV_v (As := [.ref (ad 21)]) (rest := []) C0 hw (c_X2_become (ln_19 ad cI cJ X) (ln_21 ad cI cJ X) hV) (cwV 1 C0.ts gX7_rings_X2_become rfl rfl rfl hd_X2_become ⟨Nat.le_of_ble_eq_true rfl, Nat.le_of_ble_eq_true rfl⟩) (lg_19 ad cI cJ X S) rfl rfl hl.1 rfl (Nat.le_of_ble_eq_true rfl) ⟨Nat.le_of_ble_eq_true rfl, Nat.le_of_ble_eq_true rfl⟩ dX7_rings_152 (fun S13 H locs hV hw => ?_)
      refine lv_iload_n C0.x C0.b dX7_rings_155 rfl (lv_at hl 3 rfl) ?_
      exact r_iret C0 rfl hw hV dX7_rings_156
    · have hV := hV.2 c11
      refine lv_iload C0.x C0.b dX7_rings_61 (lv_at hl 4 rfl) ?_
      refine lv_if_ne (tgt := 74) C0.x C0.b dX7_rings_63 (by decide) (fun c14 => ?_) (fun c14 => ?_)
      · have hV := hV.2 c14
        refine lv_aload_n C0.x C0.b dX7_rings_74 rfl (lv_at hl 0 rfl) ?_
        refine lv_iload_n C0.x C0.b dX7_rings_75 rfl (lv_at hl 1 rfl) ?_
        refine r_cV_i (As := [.int v1]) (rest := []) C0 hw (c_X7_nextWord  hV) (cwV 1 C0.ts gX7_rings_X7_nextWord rfl rfl rfl hd_X7_nextWord ⟨Nat.le_of_ble_eq_true rfl, Nat.le_of_ble_eq_true rfl⟩) (lg_0 ad cI cJ X S) rfl rfl hl.1 rfl (Nat.le_of_ble_eq_true rfl) ⟨Nat.le_of_ble_eq_true rfl, Nat.le_of_ble_eq_true rfl⟩ dX7_rings_76 (fun r34 S35 H locs hV hw => ?_)
        refine lv_istore (lv' := [(5, .int r34), (0, .ref (ad 0)), (1, .int v1), (2, .int v2), (3, .int v3), (4, .int v4)]) C0.x C0.b dX7_rings_79 hl (by decide) rfl (fun ls hl => ?_)
        refine lv_aload_n C0.x C0.b dX7_rings_81 rfl (lv_at hl 1 rfl) ?_
        refine lv_aload_n C0.x C0.b dX7_rings_82 rfl (lv_at hl 1 rfl) ?_
        refine r_get C0 hw (C := RX7) (T := TX7) (N := 15) (v := .ref (ad 27)) iw_X7_rings_X7 (lg_0 ad cI cJ X S35) rfl 10 (by decide) (C0.ts _ fw_X7_rings_58) rfl dX7_rings_83 ?_
        refine lv_iload C0.x C0.b dX7_rings_86 (lv_at hl 0 rfl) ?_
        refine r_cV_i (As := [.ref (ad 27), .int r34]) (rest := []) C0 hw (c_X7_shapeWord (ln_27 ad cI cJ X) hV) (cwV 2 C0.ts gX7_rings_X7_shapeWord rfl rfl rfl hd_X7_shapeWord ⟨Nat.le_of_ble_eq_true rfl, Nat.le_of_ble_eq_true rfl⟩) (lg_0 ad cI cJ X S35) rfl rfl hl.1 rfl (Nat.le_of_ble_eq_true rfl) ⟨Nat.le_of_ble_eq_true rfl, Nat.le_of_ble_eq_true rfl⟩ dX7_rings_88 (fun r36 S37 H locs hV hw => ?_)
        refine lv_if_ne (tgt := 97) C0.x C0.b dX7_rings_91 (by decide) (fun c38 => ?_) (fun c38 => ?_)
        · have hV := hV.2 c38
          refine lv_aload_n C0.x C0.b dX7_rings_97 rfl (lv_at hl 1 rfl) ?_
          refine lv_aload_n C0.x C0.b dX7_rings_98 rfl (lv_at hl 1 rfl) ?_
          refine r_get C0 hw (C := RX7) (T := TX7) (N := 15) (v := .ref (ad 27)) iw_X7_rings_X7 (lg_0 ad cI cJ X S37) rfl 10 (by decide) (C0.ts _ fw_X7_rings_58) rfl dX7_rings_99 ?_
          refine lv_iload_n C0.x C0.b dX7_rings_102 rfl (lv_at hl 2 rfl) ?_
          refine r_cV_l (As := [.ref (ad 27), .int v1]) (rest := []) C0 hw (c_X7_ringNumber (ln_27 ad cI cJ X) hV) (cwV 2 C0.ts gX7_rings_X7_ringNumber rfl rfl rfl hd_X7_ringNumber ⟨Nat.le_of_ble_eq_true rfl, Nat.le_of_ble_eq_true rfl⟩) (lg_0 ad cI cJ X S37) rfl rfl hl.1 rfl (Nat.le_of_ble_eq_true rfl) ⟨Nat.le_of_ble_eq_true rfl, Nat.le_of_ble_eq_true rfl⟩ dX7_rings_103 (fun r39 S40 H locs hV hw => ?_)
          refine lv_lstore (lv' := [(6, .long r39), (5, .int r34), (0, .ref (ad 0)), (1, .int v1), (2, .int v2), (3, .int v3), (4, .int v4)]) C0.x C0.b dX7_rings_106 hl (by decide) rfl (fun ls hl => ?_)
          refine lv_lload C0.x C0.b dX7_rings_108 (lv_at hl 0 rfl) ?_
          refine r_cS_i (As := [.long r39]) (rest := []) C0 hw (c_X7_isNumber  hV) (va_cwS 1 C0.ts gX7_rings_X7_isNumber rfl rfl rfl hd_X7_isNumber ⟨Nat.le_of_ble_eq_true rfl, Nat.le_of_ble_eq_true rfl⟩) rfl hl.1 rfl (Nat.le_of_ble_eq_true rfl) ⟨Nat.le_of_ble_eq_true rfl, Nat.le_of_ble_eq_true rfl⟩ dX7_rings_110 (fun r41 S42 H locs hV hw => ?_)
          refine lv_if_eq (tgt := 138) C0.x C0.b dX7_rings_113 (by decide) (fun c43 => ?_) (fun c43 => ?_)
          · have hV := hV.1 c43
            obtain ⟨x44, ex44⟩ : ∃ z : Int32, z = v4 + 1 := ⟨_, rfl⟩
            have hV := hV x44 ex44
            refine lv_iinc (v := x44) (lv' := [(4, .int x44), (6, .long r39), (5, .int r34), (0, .ref (ad 0)), (1, .int v1), (2, .int v2), (3, .int v3)]) C0.x C0.b dX7_rings_138 hl (k := 6) rfl (by rw [ex44]; rfl) (by decide) rfl (fun ls hl => ?_)
            refine lv_goto (tgt := 55) C0.x C0.b dX7_rings_141 (by decide) ?_
            exact ih _ _ _ hV _ _ hw _ (lv_sub hl [3, 4, 5, 6, 0] rfl)
          · have hV := hV.2 c43
            refine lv_aload_n C0.x C0.b dX7_rings_116 rfl (lv_at hl 2 rfl) ?_
            refine lv_lload C0.x C0.b dX7_rings_117 (lv_at hl 0 rfl) ?_
            refine lv_iload_n C0.x C0.b dX7_rings_119 rfl (lv_at hl 3 rfl) ?_
            refine r_cV_i (As := [.long r39, .int v1]) (rest := []) C0 hw (c_X7_isLeastOfRing  hV) (cwV 2 C0.ts gX7_rings_X7_isLeastOfRing rfl rfl rfl hd_X7_isLeastOfRing ⟨Nat.le_of_ble_eq_true rfl, Nat.le_of_ble_eq_true rfl⟩) (lg_0 ad cI cJ X S42) rfl rfl hl.1 rfl (Nat.le_of_ble_eq_true rfl) ⟨Nat.le_of_ble_eq_true rfl, Nat.le_of_ble_eq_true rfl⟩ dX7_rings_120 (fun r45 S46 H locs hV hw => ?_)
            refine lv_if_eq (tgt := 138) C0.x C0.b dX7_rings_123 (by decide) (fun c47 => ?_) (fun c47 => ?_)
            · have hV := hV.1 c47
              obtain ⟨x48, ex48⟩ : ∃ z : Int32, z = v4 + 1 := ⟨_, rfl⟩
              have hV := hV x48 ex48
              refine lv_iinc (v := x48) (lv' := [(4, .int x48), (6, .long r39), (5, .int r34), (0, .ref (ad 0)), (1, .int v1), (2, .int v2), (3, .int v3)]) C0.x C0.b dX7_rings_138 hl (k := 6) rfl (by rw [ex48]; rfl) (by decide) rfl (fun ls hl => ?_)
              refine lv_goto (tgt := 55) C0.x C0.b dX7_rings_141 (by decide) ?_
              exact ih _ _ _ hV _ _ hw _ (lv_sub hl [3, 4, 5, 6, 0] rfl)
            · have hV := hV.2 c47
              obtain ⟨x49, ex49⟩ : ∃ z : Int32, z = v3 + 1 := ⟨_, rfl⟩
              have hV := hV x49 ex49
              refine lv_iinc (v := x49) (lv' := [(3, .int x49), (6, .long r39), (5, .int r34), (0, .ref (ad 0)), (1, .int v1), (2, .int v2), (4, .int v4)]) C0.x C0.b dX7_rings_126 hl (k := 5) rfl (by rw [ex49]; rfl) (by decide) rfl (fun ls hl => ?_)
              refine lv_aload_n C0.x C0.b dX7_rings_129 rfl (lv_at hl 3 rfl) ?_
              refine r_get C0 hw (C := RX7) (T := TX7) (N := 15) (v := .ref (ad 21)) iw_X7_rings_X7 (lg_0 ad cI cJ X S46) rfl 7 (by decide) (C0.ts _ fw_X7_rings_49) rfl dX7_rings_130 ?_
              refine lv_lload C0.x C0.b dX7_rings_133 (lv_at hl 1 rfl) ?_
              refine r_cV_v (As := [.long r39]) (rest := []) C0 hw (c_X2_sortIn (ln_21 ad cI cJ X) hV) (cwV 1 C0.ts gX7_rings_X2_sortIn rfl rfl rfl hd_X2_sortIn ⟨Nat.le_of_ble_eq_true rfl, Nat.le_of_ble_eq_true rfl⟩) (lg_21 ad cI cJ X S46) rfl rfl hl.1 rfl (Nat.le_of_ble_eq_true rfl) ⟨Nat.le_of_ble_eq_true rfl, Nat.le_of_ble_eq_true rfl⟩ dX7_rings_135 (fun S51 H locs hV hw => ?_)
              obtain ⟨x52, ex52⟩ : ∃ z : Int32, z = v4 + 1 := ⟨_, rfl⟩
              have hV := hV x52 ex52
              refine lv_iinc (v := x52) (lv' := [(4, .int x52), (3, .int x49), (6, .long r39), (5, .int r34), (0, .ref (ad 0)), (1, .int v1), (2, .int v2)]) C0.x C0.b dX7_rings_138 hl (k := 6) rfl (by rw [ex52]; rfl) (by decide) rfl (fun ls hl => ?_)
              refine lv_goto (tgt := 55) C0.x C0.b dX7_rings_141 (by decide) ?_
              exact ih _ _ _ hV _ _ hw _ (lv_sub hl [4, 5, 6, 1, 0] rfl)
        · have hV := hV.1 c38
          refine lv_bipush (v := -2) C0.x C0.b dX7_rings_94 (by decide) ?_
          exact r_iret C0 rfl hw hV dX7_rings_96
      · have hV := hV.1 c14
        refine lv_aload_n C0.x C0.b dX7_rings_66 rfl (lv_at hl 0 rfl) ?_
        refine lv_iload_n C0.x C0.b dX7_rings_67 rfl (lv_at hl 1 rfl) ?_
        refine r_cV_i (As := [.int v1]) (rest := []) C0 hw (c_X7_firstWord  hV) (cwV 1 C0.ts gX7_rings_X7_firstWord rfl rfl rfl hd_X7_firstWord ⟨Nat.le_of_ble_eq_true rfl, Nat.le_of_ble_eq_true rfl⟩) (lg_0 ad cI cJ X S) rfl rfl hl.1 rfl (Nat.le_of_ble_eq_true rfl) ⟨Nat.le_of_ble_eq_true rfl, Nat.le_of_ble_eq_true rfl⟩ dX7_rings_68 (fun r15 S16 H locs hV hw => ?_)
        refine lv_goto (tgt := 79) C0.x C0.b dX7_rings_71 (by decide) ?_
        refine lv_istore (lv' := [(5, .int r15), (0, .ref (ad 0)), (1, .int v1), (2, .int v2), (3, .int v3), (4, .int v4)]) C0.x C0.b dX7_rings_79 hl (by decide) rfl (fun ls hl => ?_)
        refine lv_aload_n C0.x C0.b dX7_rings_81 rfl (lv_at hl 1 rfl) ?_
        refine lv_aload_n C0.x C0.b dX7_rings_82 rfl (lv_at hl 1 rfl) ?_
        refine r_get C0 hw (C := RX7) (T := TX7) (N := 15) (v := .ref (ad 27)) iw_X7_rings_X7 (lg_0 ad cI cJ X S16) rfl 10 (by decide) (C0.ts _ fw_X7_rings_58) rfl dX7_rings_83 ?_
        refine lv_iload C0.x C0.b dX7_rings_86 (lv_at hl 0 rfl) ?_
        refine r_cV_i (As := [.ref (ad 27), .int r15]) (rest := []) C0 hw (c_X7_shapeWord (ln_27 ad cI cJ X) hV) (cwV 2 C0.ts gX7_rings_X7_shapeWord rfl rfl rfl hd_X7_shapeWord ⟨Nat.le_of_ble_eq_true rfl, Nat.le_of_ble_eq_true rfl⟩) (lg_0 ad cI cJ X S16) rfl rfl hl.1 rfl (Nat.le_of_ble_eq_true rfl) ⟨Nat.le_of_ble_eq_true rfl, Nat.le_of_ble_eq_true rfl⟩ dX7_rings_88 (fun r17 S18 H locs hV hw => ?_)
        refine lv_if_ne (tgt := 97) C0.x C0.b dX7_rings_91 (by decide) (fun c19 => ?_) (fun c19 => ?_)
        · have hV := hV.2 c19
          refine lv_aload_n C0.x C0.b dX7_rings_97 rfl (lv_at hl 1 rfl) ?_
          refine lv_aload_n C0.x C0.b dX7_rings_98 rfl (lv_at hl 1 rfl) ?_
          refine r_get C0 hw (C := RX7) (T := TX7) (N := 15) (v := .ref (ad 27)) iw_X7_rings_X7 (lg_0 ad cI cJ X S18) rfl 10 (by decide) (C0.ts _ fw_X7_rings_58) rfl dX7_rings_99 ?_
          refine lv_iload_n C0.x C0.b dX7_rings_102 rfl (lv_at hl 2 rfl) ?_
          refine r_cV_l (As := [.ref (ad 27), .int v1]) (rest := []) C0 hw (c_X7_ringNumber (ln_27 ad cI cJ X) hV) (cwV 2 C0.ts gX7_rings_X7_ringNumber rfl rfl rfl hd_X7_ringNumber ⟨Nat.le_of_ble_eq_true rfl, Nat.le_of_ble_eq_true rfl⟩) (lg_0 ad cI cJ X S18) rfl rfl hl.1 rfl (Nat.le_of_ble_eq_true rfl) ⟨Nat.le_of_ble_eq_true rfl, Nat.le_of_ble_eq_true rfl⟩ dX7_rings_103 (fun r20 S21 H locs hV hw => ?_)
          refine lv_lstore (lv' := [(6, .long r20), (5, .int r15), (0, .ref (ad 0)), (1, .int v1), (2, .int v2), (3, .int v3), (4, .int v4)]) C0.x C0.b dX7_rings_106 hl (by decide) rfl (fun ls hl => ?_)
          refine lv_lload C0.x C0.b dX7_rings_108 (lv_at hl 0 rfl) ?_
          refine r_cS_i (As := [.long r20]) (rest := []) C0 hw (c_X7_isNumber  hV) (va_cwS 1 C0.ts gX7_rings_X7_isNumber rfl rfl rfl hd_X7_isNumber ⟨Nat.le_of_ble_eq_true rfl, Nat.le_of_ble_eq_true rfl⟩) rfl hl.1 rfl (Nat.le_of_ble_eq_true rfl) ⟨Nat.le_of_ble_eq_true rfl, Nat.le_of_ble_eq_true rfl⟩ dX7_rings_110 (fun r22 S23 H locs hV hw => ?_)
          refine lv_if_eq (tgt := 138) C0.x C0.b dX7_rings_113 (by decide) (fun c24 => ?_) (fun c24 => ?_)
          · have hV := hV.1 c24
            obtain ⟨x25, ex25⟩ : ∃ z : Int32, z = v4 + 1 := ⟨_, rfl⟩
            have hV := hV x25 ex25
            refine lv_iinc (v := x25) (lv' := [(4, .int x25), (6, .long r20), (5, .int r15), (0, .ref (ad 0)), (1, .int v1), (2, .int v2), (3, .int v3)]) C0.x C0.b dX7_rings_138 hl (k := 6) rfl (by rw [ex25]; rfl) (by decide) rfl (fun ls hl => ?_)
            refine lv_goto (tgt := 55) C0.x C0.b dX7_rings_141 (by decide) ?_
            exact ih _ _ _ hV _ _ hw _ (lv_sub hl [3, 4, 5, 6, 0] rfl)
          · have hV := hV.2 c24
            refine lv_aload_n C0.x C0.b dX7_rings_116 rfl (lv_at hl 2 rfl) ?_
            refine lv_lload C0.x C0.b dX7_rings_117 (lv_at hl 0 rfl) ?_
            refine lv_iload_n C0.x C0.b dX7_rings_119 rfl (lv_at hl 3 rfl) ?_
            refine r_cV_i (As := [.long r20, .int v1]) (rest := []) C0 hw (c_X7_isLeastOfRing  hV) (cwV 2 C0.ts gX7_rings_X7_isLeastOfRing rfl rfl rfl hd_X7_isLeastOfRing ⟨Nat.le_of_ble_eq_true rfl, Nat.le_of_ble_eq_true rfl⟩) (lg_0 ad cI cJ X S23) rfl rfl hl.1 rfl (Nat.le_of_ble_eq_true rfl) ⟨Nat.le_of_ble_eq_true rfl, Nat.le_of_ble_eq_true rfl⟩ dX7_rings_120 (fun r26 S27 H locs hV hw => ?_)
            refine lv_if_eq (tgt := 138) C0.x C0.b dX7_rings_123 (by decide) (fun c28 => ?_) (fun c28 => ?_)
            · have hV := hV.1 c28
              obtain ⟨x29, ex29⟩ : ∃ z : Int32, z = v4 + 1 := ⟨_, rfl⟩
              have hV := hV x29 ex29
              refine lv_iinc (v := x29) (lv' := [(4, .int x29), (6, .long r20), (5, .int r15), (0, .ref (ad 0)), (1, .int v1), (2, .int v2), (3, .int v3)]) C0.x C0.b dX7_rings_138 hl (k := 6) rfl (by rw [ex29]; rfl) (by decide) rfl (fun ls hl => ?_)
              refine lv_goto (tgt := 55) C0.x C0.b dX7_rings_141 (by decide) ?_
              exact ih _ _ _ hV _ _ hw _ (lv_sub hl [3, 4, 5, 6, 0] rfl)
            · have hV := hV.2 c28
              obtain ⟨x30, ex30⟩ : ∃ z : Int32, z = v3 + 1 := ⟨_, rfl⟩
              have hV := hV x30 ex30
              refine lv_iinc (v := x30) (lv' := [(3, .int x30), (6, .long r20), (5, .int r15), (0, .ref (ad 0)), (1, .int v1), (2, .int v2), (4, .int v4)]) C0.x C0.b dX7_rings_126 hl (k := 5) rfl (by rw [ex30]; rfl) (by decide) rfl (fun ls hl => ?_)
              refine lv_aload_n C0.x C0.b dX7_rings_129 rfl (lv_at hl 3 rfl) ?_
              refine r_get C0 hw (C := RX7) (T := TX7) (N := 15) (v := .ref (ad 21)) iw_X7_rings_X7 (lg_0 ad cI cJ X S27) rfl 7 (by decide) (C0.ts _ fw_X7_rings_49) rfl dX7_rings_130 ?_
              refine lv_lload C0.x C0.b dX7_rings_133 (lv_at hl 1 rfl) ?_
              refine r_cV_v (As := [.long r20]) (rest := []) C0 hw (c_X2_sortIn (ln_21 ad cI cJ X) hV) (cwV 1 C0.ts gX7_rings_X2_sortIn rfl rfl rfl hd_X2_sortIn ⟨Nat.le_of_ble_eq_true rfl, Nat.le_of_ble_eq_true rfl⟩) (lg_21 ad cI cJ X S27) rfl rfl hl.1 rfl (Nat.le_of_ble_eq_true rfl) ⟨Nat.le_of_ble_eq_true rfl, Nat.le_of_ble_eq_true rfl⟩ dX7_rings_135 (fun S32 H locs hV hw => ?_)
              obtain ⟨x33, ex33⟩ : ∃ z : Int32, z = v4 + 1 := ⟨_, rfl⟩
              have hV := hV x33 ex33
              refine lv_iinc (v := x33) (lv' := [(4, .int x33), (3, .int x30), (6, .long r20), (5, .int r15), (0, .ref (ad 0)), (1, .int v1), (2, .int v2)]) C0.x C0.b dX7_rings_138 hl (k := 6) rfl (by rw [ex33]; rfl) (by decide) rfl (fun ls hl => ?_)
              refine lv_goto (tgt := 55) C0.x C0.b dX7_rings_141 (by decide) ?_
              exact ih _ _ _ hV _ _ hw _ (lv_sub hl [4, 5, 6, 1, 0] rfl)
        · have hV := hV.1 c19
          refine lv_bipush (v := -2) C0.x C0.b dX7_rings_94 (by decide) ?_
          exact r_iret C0 rfl hw hV dX7_rings_96
def V_X7_rings  (p0 : Int32) (S : SS) (post : Int32 → SS → Prop) : Prop :=
  (((gI S 0) = (1 : Int32) → ((p0 < (1 : Int32) → (post (-1 : Int32) S)) ∧ (¬ p0 < (1 : Int32) → ((p0 ≤ (12 : Int32) → (V_X5_measure 1 0 1 2 S (fun (r4 : Int32) (S5 : SS) => (V_X7_power r4 p0 S5 (fun (r6 : Int32) (S7 : SS) => ((r6 ≤ (20000 : Int32) → (V_X2_empty 8 13 1000 S7 (fun (S10 : SS) => (∃ n55 : Nat, V_X7_rings_55  p0 r6  post n55 (0 : Int32) (0 : Int32) S10)))) ∧ (¬ r6 ≤ (20000 : Int32) → (post (-2 : Int32) S7)))))))) ∧ (¬ p0 ≤ (12 : Int32) → (post (-1 : Int32) S)))))) ∧ (¬ (gI S 0) = (1 : Int32) → (post (-1 : Int32) S)))
set_option maxHeartbeats 4000000 in
set_option maxRecDepth 100000 in
theorem c_X7_rings  {S : SS} {p0 : Int32} {post : Int32 → SS → Prop} (hV : V_X7_rings  p0 S post) : MI l yX7_rings wsX7_rings rm_X7_rings [.ref (ad 0), .int p0] D n0 ad cI cJ X S post := by
  refine Met.ofW (cc := cX7_rings) (maxL := 8) (ret := (some .int)) (by decide) rfl ?_
  intro p e s m args below meth c s₁ B hml hv
  obtain ⟨rfl, hv⟩ := hv
  have C0 := Bd.mk B hml (atoms_spec (ws := wsX7_rings) B.pre) (findClass_of_methodNamed B.named) hv.1
  have hw : Wh D n0 ad cI cJ X S s s.heap [] := ⟨hv.2.1, hv.2.2, va_S.rf⟩
  refine r_entry (Nat.le_of_ble_eq_true rfl) (fun ls hl => ?_)
  have hl : lv_has ls 8 [(0, .ref (ad 0)), (1, .int p0)] := hl
  unfold V_X7_rings at hV
  refine lv_aload_n C0.x C0.b dX7_rings_0 rfl (lv_at hl 0 rfl) ?_
  refine r_get C0 hw (C := RX7) (T := TX7) (N := 15) (v := .int (gI S 0)) iw_X7_rings_X7 (lg_0 ad cI cJ X S) rfl 0 (by decide) (C0.ts _ fw_X7_rings_9) rfl dX7_rings_1 ?_
  refine lv_iconst (v := 1) C0.x C0.b dX7_rings_4 (by decide) ?_
  refine lv_icmp_ne (tgt := 19) C0.x C0.b dX7_rings_5 (by decide) (fun c1 => ?_) (fun c1 => ?_)
  · have hV := hV.2 c1
    refine lv_iconst (v := -1) C0.x C0.b dX7_rings_19 (by decide) ?_
    exact r_iret C0 rfl hw hV dX7_rings_20
  · have hV := hV.1 c1
    refine lv_iload_n C0.x C0.b dX7_rings_8 rfl (lv_at hl 1 rfl) ?_
    refine lv_iconst (v := 1) C0.x C0.b dX7_rings_9 (by decide) ?_
    refine lv_icmp_lt (tgt := 19) C0.x C0.b dX7_rings_10 (by decide) (fun c2 => ?_) (fun c2 => ?_)
    · have hV := hV.1 c2
      refine lv_iconst (v := -1) C0.x C0.b dX7_rings_19 (by decide) ?_
      exact r_iret C0 rfl hw hV dX7_rings_20
    · have hV := hV.2 c2
      refine lv_iload_n C0.x C0.b dX7_rings_13 rfl (lv_at hl 1 rfl) ?_
      refine lv_bipush (v := 12) C0.x C0.b dX7_rings_14 (by decide) ?_
      refine lv_icmp_le (tgt := 21) C0.x C0.b dX7_rings_16 (by decide) (fun c3 => ?_) (fun c3 => ?_)
      · have hV := hV.1 c3
        refine lv_aload_n C0.x C0.b dX7_rings_21 rfl (lv_at hl 0 rfl) ?_
        refine r_get C0 hw (C := RX7) (T := TX7) (N := 15) (v := .ref (ad 1)) iw_X7_rings_X7 (lg_0 ad cI cJ X S) rfl 1 (by decide) (C0.ts _ fw_X7_rings_16) rfl dX7_rings_22 ?_
        refine r_cV_i (As := []) (rest := []) C0 hw (c_X5_measure (ln_1 ad cI cJ X) hV) (cwV 0 C0.ts gX7_rings_X5_measure rfl rfl rfl hd_X5_measure ⟨Nat.le_of_ble_eq_true rfl, Nat.le_of_ble_eq_true rfl⟩) (lg_1 ad cI cJ X S) rfl rfl hl.1 rfl (Nat.le_of_ble_eq_true rfl) ⟨Nat.le_of_ble_eq_true rfl, Nat.le_of_ble_eq_true rfl⟩ dX7_rings_25 (fun r4 S5 H locs hV hw => ?_)
        refine lv_iload_n C0.x C0.b dX7_rings_28 rfl (lv_at hl 1 rfl) ?_
        refine r_cS_i (As := [.int r4, .int p0]) (rest := []) C0 hw (c_X7_power  hV) (va_cwS 2 C0.ts gX7_rings_X7_power rfl rfl rfl hd_X7_power ⟨Nat.le_of_ble_eq_true rfl, Nat.le_of_ble_eq_true rfl⟩) rfl hl.1 rfl (Nat.le_of_ble_eq_true rfl) ⟨Nat.le_of_ble_eq_true rfl, Nat.le_of_ble_eq_true rfl⟩ dX7_rings_29 (fun r6 S7 H locs hV hw => ?_)
        refine lv_istore_n (lv' := [(2, .int r6), (0, .ref (ad 0)), (1, .int p0)]) C0.x C0.b dX7_rings_32 rfl hl (by decide) rfl (fun ls hl => ?_)
        refine lv_iload_n C0.x C0.b dX7_rings_33 rfl (lv_at hl 0 rfl) ?_
        refine lv_sipush (v := 20000) C0.x C0.b dX7_rings_34 (by decide) ?_
        refine lv_icmp_le (tgt := 43) C0.x C0.b dX7_rings_37 (by decide) (fun c8 => ?_) (fun c8 => ?_)
        · have hV := hV.1 c8
          refine lv_aload_n C0.x C0.b dX7_rings_43 rfl (lv_at hl 1 rfl) ?_
          refine r_get C0 hw (C := RX7) (T := TX7) (N := 15) (v := .ref (ad 21)) iw_X7_rings_X7 (lg_0 ad cI cJ X S7) rfl 7 (by decide) (C0.ts _ fw_X7_rings_49) rfl dX7_rings_44 ?_
          refine r_cV_v (As := []) (rest := []) C0 hw (c_X2_empty (ln_21 ad cI cJ X) hV) (cwV 0 C0.ts gX7_rings_X2_empty rfl rfl rfl hd_X2_empty ⟨Nat.le_of_ble_eq_true rfl, Nat.le_of_ble_eq_true rfl⟩) (lg_21 ad cI cJ X S7) rfl rfl hl.1 rfl (Nat.le_of_ble_eq_true rfl) ⟨Nat.le_of_ble_eq_true rfl, Nat.le_of_ble_eq_true rfl⟩ dX7_rings_47 (fun S10 H locs hV hw => ?_)
          refine lv_iconst (v := 0) C0.x C0.b dX7_rings_50 (by decide) ?_
          refine lv_istore_n (lv' := [(3, .int (0 : Int32)), (2, .int r6), (0, .ref (ad 0)), (1, .int p0)]) C0.x C0.b dX7_rings_51 rfl hl (by decide) rfl (fun ls hl => ?_)
          refine lv_iconst (v := 0) C0.x C0.b dX7_rings_52 (by decide) ?_
          refine lv_istore (lv' := [(4, .int (0 : Int32)), (3, .int (0 : Int32)), (2, .int r6), (0, .ref (ad 0)), (1, .int p0)]) C0.x C0.b dX7_rings_53 hl (by decide) rfl (fun ls hl => ?_)
          obtain ⟨n55, hV⟩ := hV
          exact lp_X7_rings_55  _ _ post C0  n55 _ _ _ hV _ _ hw _ (lv_sub hl [3, 4, 2, 1, 0] rfl)
        · have hV := hV.2 c8
          refine lv_bipush (v := -2) C0.x C0.b dX7_rings_40 (by decide) ?_
          exact r_iret C0 rfl hw hV dX7_rings_42
      · have hV := hV.2 c3
        refine lv_iconst (v := -1) C0.x C0.b dX7_rings_19 (by decide) ?_
        exact r_iret C0 rfl hw hV dX7_rings_20
/-! StepBench.fallOfClass(III)I -/
abbrev rm_X7_fallOfClass : Room := { frames := 4, cells := 0, slots := 0, locals := 100 }
set_option maxRecDepth 20000 in
theorem fw_X7_fallOfClass_64 : Cond.fieldLink RX7 64 "StepBench" "shapes" "LStepBench$Shapes;" ∈ wsX7_fallOfClass := by decide +kernel
set_option maxRecDepth 20000 in
theorem iw_X7_fallOfClass_X7 : ∀ w ∈ wsX70, w ∈ wsX7_fallOfClass := by decide +kernel
set_option maxRecDepth 20000 in
theorem fw_X7_fallOfClass_16 : Cond.fieldLink RX7 16 "StepBench" "rule" "LStepBench$Shares;" ∈ wsX7_fallOfClass := by decide +kernel
set_option maxRecDepth 20000 in
theorem hd_X7_fallOfClass : yX7_fallOfClass.cls = RX7 ∧ yX7_fallOfClass.cls ≠ "java/lang/invoke/MethodHandle" ∧ yX7_fallOfClass.cls ≠ "java/lang/invoke/VarHandle" ∧ (parseMethodDescriptor yX7_fallOfClass.desc).map (fun d => d.parameters.length) = some 3 := by decide +kernel
def V_X7_fallOfClass_11  (v3 : Int32)  (post : Int32 → SS → Prop) : Nat → Int64 → Int64 → Int32 → SS → Prop
  | 0, _, _, _, _ => False
  | n + 1, v4, v6, v8, S =>
    ((v3 ≤ v8 → (V_X4_factor v3 S (fun (r2 : Int64) (S3 : SS) => (V_X4_divisor v3 S3 (fun (r4 : Int64) (S5 : SS) => ((r4 ≤ r2 → (post (0 : Int32) S5)) ∧ (¬ r4 ≤ r2 → (post (1 : Int32) S5)))))))) ∧ (¬ v3 ≤ v8 → (V_X5_restOf 1 0 1 2 v6 S (fun (r7 : Int32) (S8 : SS) => ((r7 = 0 → (V_X5_restOf 1 0 1 2 v4 S8 (fun (r10 : Int32) (S11 : SS) => (V_X4_extend 1 0 1 2 v8 r10 S11 (fun (r12 : Int32) (S13 : SS) => (V_X5_after 1 0 1 2 v4 S13 (fun (r14 : Int64) (S15 : SS) => (V_X5_a 1 0 1 2 r10 S15 (fun (r16 : Int64) (S17 : SS) => (V_X5_d 1 0 1 2 r10 S17 (fun (r18 : Int64) (S19 : SS) => (¬ r18 = 0 ∧ (∀ y20 : Int64, y20 = ((v6 * r16) / r18) → ((r12 = 0 → (post (-4 : Int32) S19)) ∧ (¬ r12 = 0 → (V_X7_isNumber r14 S19 (fun (r22 : Int32) (S23 : SS) => ((r22 = 0 → (post (-4 : Int32) S23)) ∧ (¬ r22 = 0 → (V_X7_isNumber y20 S23 (fun (r25 : Int32) (S26 : SS) => ((r25 = 0 → (post (-4 : Int32) S26)) ∧ (¬ r25 = 0 → (∀ x28 : Int32, x28 = v8 + 1 → (V_X7_fallOfClass_11  v3  post n r14 y20 x28 S26))))))))))))))))))))))))) ∧ (¬ r7 = 0 → (post (-3 : Int32) S8)))))))
set_option maxHeartbeats 4000000 in
set_option maxRecDepth 100000 in
theorem lp_X7_fallOfClass_11  (v3 : Int32)  (post : Int32 → SS → Prop) (C0 : Bd p s m meth c args cX7_fallOfClass 11 (some .int) wsX7_fallOfClass RX7 D n0 cI cJ) : ∀ (n : Nat) (v4 : Int64) (v6 : Int64) (v8 : Int32) (S : SS), V_X7_fallOfClass_11  v3  post n v4 v6 v8 S → ∀ (H : Heap) (locs : List Loc), Wh D n0 ad cI cJ X S s H locs → ∀ ls : Array Slot, lv_has ls 11 [(0, .ref (ad 0)), (3, .int v3), (4, .long v4), (6, .long v6), (8, .int v8)] → W p l e rm_X7_fallOfClass s m args below meth c H locs 0 0 (MQ below (va_Qi post (fun S' t => Wd D n0 ad cI cJ X S' t) (fr n0)) args s 0 0 (fr n0)) (F0 m 11 ls []) := by
  intro n
  induction n with
  | zero => intro v4 v6 v8 S hV; exact False.elim hV
  | succ n ih =>
    intro v4 v6 v8 S hV H locs hw ls hl
    rw [V_X7_fallOfClass_11] at hV
    refine lv_iload C0.x C0.b dX7_fallOfClass_11 (lv_at hl 4 rfl) ?_
    refine lv_iload_n C0.x C0.b dX7_fallOfClass_13 rfl (lv_at hl 1 rfl) ?_
    refine lv_icmp_ge (tgt := 125) C0.x C0.b dX7_fallOfClass_14 (by decide) (fun c1 => ?_) (fun c1 => ?_)
    · have hV := hV.1 c1
      refine lv_aload_n C0.x C0.b dX7_fallOfClass_125 rfl (lv_at hl 0 rfl) ?_
      refine r_get C0 hw (C := RX7) (T := TX7) (N := 15) (v := .ref (ad 29)) iw_X7_fallOfClass_X7 (lg_0 ad cI cJ X S) rfl 11 (by decide) (C0.ts _ fw_X7_fallOfClass_64) rfl dX7_fallOfClass_126 ?_
      refine lv_iload_n C0.x C0.b dX7_fallOfClass_129 rfl (lv_at hl 1 rfl) ?_
      refine r_cV_l (As := [.int v3]) (rest := []) C0 hw (c_X4_factor  hV) (cwV 1 C0.ts gX7_fallOfClass_X4_factor rfl rfl rfl hd_X4_factor ⟨Nat.le_of_ble_eq_true rfl, Nat.le_of_ble_eq_true rfl⟩) (lg_29 ad cI cJ X S) rfl rfl hl.1 rfl (Nat.le_of_ble_eq_true rfl) ⟨Nat.le_of_ble_eq_true rfl, Nat.le_of_ble_eq_true rfl⟩ dX7_fallOfClass_130 (fun r2 S3 H locs hV hw => ?_)
      refine lv_aload_n C0.x C0.b dX7_fallOfClass_133 rfl (lv_at hl 0 rfl) ?_
      refine r_get C0 hw (C := RX7) (T := TX7) (N := 15) (v := .ref (ad 29)) iw_X7_fallOfClass_X7 (lg_0 ad cI cJ X S3) rfl 11 (by decide) (C0.ts _ fw_X7_fallOfClass_64) rfl dX7_fallOfClass_134 ?_
      refine lv_iload_n C0.x C0.b dX7_fallOfClass_137 rfl (lv_at hl 1 rfl) ?_
      refine r_cV_l (As := [.int v3]) (rest := [.long r2]) C0 hw (c_X4_divisor  hV) (cwV 1 C0.ts gX7_fallOfClass_X4_divisor rfl rfl rfl hd_X4_divisor ⟨Nat.le_of_ble_eq_true rfl, Nat.le_of_ble_eq_true rfl⟩) (lg_29 ad cI cJ X S3) rfl rfl hl.1 rfl (Nat.le_of_ble_eq_true rfl) ⟨Nat.le_of_ble_eq_true rfl, Nat.le_of_ble_eq_true rfl⟩ dX7_fallOfClass_138 (fun r4 S5 H locs hV hw => ?_)
      refine r_lcmp C0 dX7_fallOfClass_141 ?_
      refine lv_if_ge (tgt := 149) C0.x C0.b dX7_fallOfClass_142 (by decide) (fun c6 => ?_) (fun c6 => ?_)
      · have hV := hV.1 ((lc_ge _ _).mp c6)
        refine lv_iconst (v := 0) C0.x C0.b dX7_fallOfClass_149 (by decide) ?_
        exact r_iret C0 rfl hw hV dX7_fallOfClass_150
      · have hV := hV.2 (fun h => c6 ((lc_ge _ _).mpr h))
        refine lv_iconst (v := 1) C0.x C0.b dX7_fallOfClass_145 (by decide) ?_
        refine lv_goto (tgt := 150) C0.x C0.b dX7_fallOfClass_146 (by decide) ?_
        exact r_iret C0 rfl hw hV dX7_fallOfClass_150
    · have hV := hV.2 c1
      refine lv_aload_n C0.x C0.b dX7_fallOfClass_17 rfl (lv_at hl 0 rfl) ?_
      refine r_get C0 hw (C := RX7) (T := TX7) (N := 15) (v := .ref (ad 1)) iw_X7_fallOfClass_X7 (lg_0 ad cI cJ X S) rfl 1 (by decide) (C0.ts _ fw_X7_fallOfClass_16) rfl dX7_fallOfClass_18 ?_
      refine lv_lload C0.x C0.b dX7_fallOfClass_21 (lv_at hl 3 rfl) ?_
      refine r_cV_i (As := [.long v6]) (rest := []) C0 hw (c_X5_restOf (ln_1 ad cI cJ X) hV) (cwV 1 C0.ts gX7_fallOfClass_X5_restOf rfl rfl rfl hd_X5_restOf ⟨Nat.le_of_ble_eq_true rfl, Nat.le_of_ble_eq_true rfl⟩) (lg_1 ad cI cJ X S) rfl rfl hl.1 rfl (Nat.le_of_ble_eq_true rfl) ⟨Nat.le_of_ble_eq_true rfl, Nat.le_of_ble_eq_true rfl⟩ dX7_fallOfClass_23 (fun r7 S8 H locs hV hw => ?_)
      refine lv_if_eq (tgt := 32) C0.x C0.b dX7_fallOfClass_26 (by decide) (fun c9 => ?_) (fun c9 => ?_)
      · have hV := hV.1 c9
        refine lv_aload_n C0.x C0.b dX7_fallOfClass_32 rfl (lv_at hl 0 rfl) ?_
        refine r_get C0 hw (C := RX7) (T := TX7) (N := 15) (v := .ref (ad 1)) iw_X7_fallOfClass_X7 (lg_0 ad cI cJ X S8) rfl 1 (by decide) (C0.ts _ fw_X7_fallOfClass_16) rfl dX7_fallOfClass_33 ?_
        refine lv_lload C0.x C0.b dX7_fallOfClass_36 (lv_at hl 2 rfl) ?_
        refine r_cV_i (As := [.long v4]) (rest := []) C0 hw (c_X5_restOf (ln_1 ad cI cJ X) hV) (cwV 1 C0.ts gX7_fallOfClass_X5_restOf rfl rfl rfl hd_X5_restOf ⟨Nat.le_of_ble_eq_true rfl, Nat.le_of_ble_eq_true rfl⟩) (lg_1 ad cI cJ X S8) rfl rfl hl.1 rfl (Nat.le_of_ble_eq_true rfl) ⟨Nat.le_of_ble_eq_true rfl, Nat.le_of_ble_eq_true rfl⟩ dX7_fallOfClass_38 (fun r10 S11 H locs hV hw => ?_)
        refine lv_istore (lv' := [(9, .int r10), (0, .ref (ad 0)), (3, .int v3), (4, .long v4), (6, .long v6), (8, .int v8)]) C0.x C0.b dX7_fallOfClass_41 hl (by decide) rfl (fun ls hl => ?_)
        refine lv_aload_n C0.x C0.b dX7_fallOfClass_43 rfl (lv_at hl 1 rfl) ?_
        refine r_get C0 hw (C := RX7) (T := TX7) (N := 15) (v := .ref (ad 29)) iw_X7_fallOfClass_X7 (lg_0 ad cI cJ X S11) rfl 11 (by decide) (C0.ts _ fw_X7_fallOfClass_64) rfl dX7_fallOfClass_44 ?_
        refine lv_iload C0.x C0.b dX7_fallOfClass_47 (lv_at hl 5 rfl) ?_
        refine lv_aload_n C0.x C0.b dX7_fallOfClass_49 rfl (lv_at hl 1 rfl) ?_
        refine r_get C0 hw (C := RX7) (T := TX7) (N := 15) (v := .ref (ad 1)) iw_X7_fallOfClass_X7 (lg_0 ad cI cJ X S11) rfl 1 (by decide) (C0.ts _ fw_X7_fallOfClass_16) rfl dX7_fallOfClass_50 ?_
        refine lv_iload C0.x C0.b dX7_fallOfClass_53 (lv_at hl 0 rfl) ?_
        refine r_cV_i (As := [.int v8, .ref (ad 1), .int r10]) (rest := []) C0 hw (c_X4_extend (ln_1 ad cI cJ X) hV) (cwV 3 C0.ts gX7_fallOfClass_X4_extend rfl rfl rfl hd_X4_extend ⟨Nat.le_of_ble_eq_true rfl, Nat.le_of_ble_eq_true rfl⟩) (lg_29 ad cI cJ X S11) rfl rfl hl.1 rfl (Nat.le_of_ble_eq_true rfl) ⟨Nat.le_of_ble_eq_true rfl, Nat.le_of_ble_eq_true rfl⟩ dX7_fallOfClass_55 (fun r12 S13 H locs hV hw => ?_)
        refine lv_istore (lv' := [(10, .int r12), (9, .int r10), (0, .ref (ad 0)), (3, .int v3), (4, .long v4), (6, .long v6), (8, .int v8)]) C0.x C0.b dX7_fallOfClass_58 hl (by decide) rfl (fun ls hl => ?_)
        refine lv_aload_n C0.x C0.b dX7_fallOfClass_60 rfl (lv_at hl 2 rfl) ?_
        refine r_get C0 hw (C := RX7) (T := TX7) (N := 15) (v := .ref (ad 1)) iw_X7_fallOfClass_X7 (lg_0 ad cI cJ X S13) rfl 1 (by decide) (C0.ts _ fw_X7_fallOfClass_16) rfl dX7_fallOfClass_61 ?_
        refine lv_lload C0.x C0.b dX7_fallOfClass_64 (lv_at hl 4 rfl) ?_
        refine r_cV_l (As := [.long v4]) (rest := []) C0 hw (c_X5_after (ln_1 ad cI cJ X) hV) (cwV 1 C0.ts gX7_fallOfClass_X5_after rfl rfl rfl hd_X5_after ⟨Nat.le_of_ble_eq_true rfl, Nat.le_of_ble_eq_true rfl⟩) (lg_1 ad cI cJ X S13) rfl rfl hl.1 rfl (Nat.le_of_ble_eq_true rfl) ⟨Nat.le_of_ble_eq_true rfl, Nat.le_of_ble_eq_true rfl⟩ dX7_fallOfClass_66 (fun r14 S15 H locs hV hw => ?_)
        refine lv_lstore (lv' := [(4, .long r14), (10, .int r12), (9, .int r10), (0, .ref (ad 0)), (3, .int v3), (6, .long v6), (8, .int v8)]) C0.x C0.b dX7_fallOfClass_69 hl (by decide) rfl (fun ls hl => ?_)
        refine lv_lload C0.x C0.b dX7_fallOfClass_71 (lv_at hl 5 rfl) ?_
        refine lv_aload_n C0.x C0.b dX7_fallOfClass_73 rfl (lv_at hl 3 rfl) ?_
        refine r_get C0 hw (C := RX7) (T := TX7) (N := 15) (v := .ref (ad 1)) iw_X7_fallOfClass_X7 (lg_0 ad cI cJ X S15) rfl 1 (by decide) (C0.ts _ fw_X7_fallOfClass_16) rfl dX7_fallOfClass_74 ?_
        refine lv_iload C0.x C0.b dX7_fallOfClass_77 (lv_at hl 2 rfl) ?_
        refine r_cV_l (As := [.int r10]) (rest := [.long v6]) C0 hw (c_X5_a (ln_1 ad cI cJ X) hV) (cwV 1 C0.ts gX7_fallOfClass_X5_a rfl rfl rfl hd_X5_a ⟨Nat.le_of_ble_eq_true rfl, Nat.le_of_ble_eq_true rfl⟩) (lg_1 ad cI cJ X S15) rfl rfl hl.1 rfl (Nat.le_of_ble_eq_true rfl) ⟨Nat.le_of_ble_eq_true rfl, Nat.le_of_ble_eq_true rfl⟩ dX7_fallOfClass_79 (fun r16 S17 H locs hV hw => ?_)
        refine lv_lmul C0.x C0.b dX7_fallOfClass_82 ?_
        refine lv_aload_n C0.x C0.b dX7_fallOfClass_83 rfl (lv_at hl 3 rfl) ?_
        refine r_get C0 hw (C := RX7) (T := TX7) (N := 15) (v := .ref (ad 1)) iw_X7_fallOfClass_X7 (lg_0 ad cI cJ X S17) rfl 1 (by decide) (C0.ts _ fw_X7_fallOfClass_16) rfl dX7_fallOfClass_84 ?_
        refine lv_iload C0.x C0.b dX7_fallOfClass_87 (lv_at hl 2 rfl) ?_
        refine r_cV_l (As := [.int r10]) (rest := [.long (v6 * r16)]) C0 hw (c_X5_d (ln_1 ad cI cJ X) hV) (cwV 1 C0.ts gX7_fallOfClass_X5_d rfl rfl rfl hd_X5_d ⟨Nat.le_of_ble_eq_true rfl, Nat.le_of_ble_eq_true rfl⟩) (lg_1 ad cI cJ X S17) rfl rfl hl.1 rfl (Nat.le_of_ble_eq_true rfl) ⟨Nat.le_of_ble_eq_true rfl, Nat.le_of_ble_eq_true rfl⟩ dX7_fallOfClass_89 (fun r18 S19 H locs hV hw => ?_)
        refine lv_ldiv C0.x C0.b dX7_fallOfClass_92 hV.1 ?_
        have hV := hV.2
        refine lv_topl (fun y20 ey20 => ?_)
        have hV := hV y20 ey20
        refine lv_lstore (lv' := [(6, .long y20), (4, .long r14), (10, .int r12), (9, .int r10), (0, .ref (ad 0)), (3, .int v3), (8, .int v8)]) C0.x C0.b dX7_fallOfClass_93 hl (by decide) rfl (fun ls hl => ?_)
        refine lv_iload C0.x C0.b dX7_fallOfClass_95 (lv_at hl 2 rfl) ?_
        refine lv_if_eq (tgt := 116) C0.x C0.b dX7_fallOfClass_97 (by decide) (fun c21 => ?_) (fun c21 => ?_)
        · have hV := hV.1 c21
          refine lv_bipush (v := -4) C0.x C0.b dX7_fallOfClass_116 (by decide) ?_
          exact r_iret C0 rfl hw hV dX7_fallOfClass_118
        · have hV := hV.2 c21
          refine lv_lload C0.x C0.b dX7_fallOfClass_100 (lv_at hl 1 rfl) ?_
          refine r_cS_i (As := [.long r14]) (rest := []) C0 hw (c_X7_isNumber  hV) (va_cwS 1 C0.ts gX7_fallOfClass_X7_isNumber rfl rfl rfl hd_X7_isNumber ⟨Nat.le_of_ble_eq_true rfl, Nat.le_of_ble_eq_true rfl⟩) rfl hl.1 rfl (Nat.le_of_ble_eq_true rfl) ⟨Nat.le_of_ble_eq_true rfl, Nat.le_of_ble_eq_true rfl⟩ dX7_fallOfClass_102 (fun r22 S23 H locs hV hw => ?_)
          refine lv_if_eq (tgt := 116) C0.x C0.b dX7_fallOfClass_105 (by decide) (fun c24 => ?_) (fun c24 => ?_)
          · have hV := hV.1 c24
            refine lv_bipush (v := -4) C0.x C0.b dX7_fallOfClass_116 (by decide) ?_
            exact r_iret C0 rfl hw hV dX7_fallOfClass_118
          · have hV := hV.2 c24
            refine lv_lload C0.x C0.b dX7_fallOfClass_108 (lv_at hl 0 rfl) ?_
            refine r_cS_i (As := [.long y20]) (rest := []) C0 hw (c_X7_isNumber  hV) (va_cwS 1 C0.ts gX7_fallOfClass_X7_isNumber rfl rfl rfl hd_X7_isNumber ⟨Nat.le_of_ble_eq_true rfl, Nat.le_of_ble_eq_true rfl⟩) rfl hl.1 rfl (Nat.le_of_ble_eq_true rfl) ⟨Nat.le_of_ble_eq_true rfl, Nat.le_of_ble_eq_true rfl⟩ dX7_fallOfClass_110 (fun r25 S26 H locs hV hw => ?_)
            refine lv_if_ne (tgt := 119) C0.x C0.b dX7_fallOfClass_113 (by decide) (fun c27 => ?_) (fun c27 => ?_)
            · have hV := hV.2 c27
              obtain ⟨x28, ex28⟩ : ∃ z : Int32, z = v8 + 1 := ⟨_, rfl⟩
              have hV := hV x28 ex28
              refine lv_iinc (v := x28) (lv' := [(8, .int x28), (6, .long y20), (4, .long r14), (10, .int r12), (9, .int r10), (0, .ref (ad 0)), (3, .int v3)]) C0.x C0.b dX7_fallOfClass_119 hl (k := 6) rfl (by rw [ex28]; rfl) (by decide) rfl (fun ls hl => ?_)
              refine lv_goto (tgt := 11) C0.x C0.b dX7_fallOfClass_122 (by decide) ?_
              exact ih _ _ _ _ hV _ _ hw _ (lv_sub hl [5, 6, 2, 1, 0] rfl)
            · have hV := hV.1 c27
              refine lv_bipush (v := -4) C0.x C0.b dX7_fallOfClass_116 (by decide) ?_
              exact r_iret C0 rfl hw hV dX7_fallOfClass_118
      · have hV := hV.2 c9
        refine lv_bipush (v := -3) C0.x C0.b dX7_fallOfClass_29 (by decide) ?_
        exact r_iret C0 rfl hw hV dX7_fallOfClass_31
def V_X7_fallOfClass  (p0 : Int32) (p1 : Int32) (p2 : Int32) (S : SS) (post : Int32 → SS → Prop) : Prop :=
  (∃ n11 : Nat, V_X7_fallOfClass_11  p2  post n11 p0.toInt64 p1.toInt64 (0 : Int32) S)
set_option maxHeartbeats 4000000 in
set_option maxRecDepth 100000 in
theorem c_X7_fallOfClass  {S : SS} {p0 : Int32} {p1 : Int32} {p2 : Int32} {post : Int32 → SS → Prop} (hV : V_X7_fallOfClass  p0 p1 p2 S post) : MI l yX7_fallOfClass wsX7_fallOfClass rm_X7_fallOfClass [.ref (ad 0), .int p0, .int p1, .int p2] D n0 ad cI cJ X S post := by
  refine Met.ofW (cc := cX7_fallOfClass) (maxL := 11) (ret := (some .int)) (by decide) rfl ?_
  intro p e s m args below meth c s₁ B hml hv
  obtain ⟨rfl, hv⟩ := hv
  have C0 := Bd.mk B hml (atoms_spec (ws := wsX7_fallOfClass) B.pre) (findClass_of_methodNamed B.named) hv.1
  have hw : Wh D n0 ad cI cJ X S s s.heap [] := ⟨hv.2.1, hv.2.2, va_S.rf⟩
  refine r_entry (Nat.le_of_ble_eq_true rfl) (fun ls hl => ?_)
  have hl : lv_has ls 11 [(0, .ref (ad 0)), (1, .int p0), (2, .int p1), (3, .int p2)] := hl
  unfold V_X7_fallOfClass at hV
  refine lv_iload_n C0.x C0.b dX7_fallOfClass_0 rfl (lv_at hl 1 rfl) ?_
  refine lv_i2l C0.x C0.b dX7_fallOfClass_1 rfl ?_
  refine lv_lstore (lv' := [(4, .long p0.toInt64), (0, .ref (ad 0)), (1, .int p0), (2, .int p1), (3, .int p2)]) C0.x C0.b dX7_fallOfClass_2 hl (by decide) rfl (fun ls hl => ?_)
  refine lv_iload_n C0.x C0.b dX7_fallOfClass_4 rfl (lv_at hl 3 rfl) ?_
  refine lv_i2l C0.x C0.b dX7_fallOfClass_5 rfl ?_
  refine lv_lstore (lv' := [(6, .long p1.toInt64), (4, .long p0.toInt64), (0, .ref (ad 0)), (1, .int p0), (2, .int p1), (3, .int p2)]) C0.x C0.b dX7_fallOfClass_6 hl (by decide) rfl (fun ls hl => ?_)
  refine lv_iconst (v := 0) C0.x C0.b dX7_fallOfClass_8 (by decide) ?_
  refine lv_istore (lv' := [(8, .int (0 : Int32)), (6, .long p1.toInt64), (4, .long p0.toInt64), (0, .ref (ad 0)), (1, .int p0), (2, .int p1), (3, .int p2)]) C0.x C0.b dX7_fallOfClass_9 hl (by decide) rfl (fun ls hl => ?_)
  obtain ⟨n11, hV⟩ := hV
  exact lp_X7_fallOfClass_11  _ post C0  n11 _ _ _ _ hV _ _ hw _ (lv_sub hl [3, 6, 2, 1, 0] rfl)
/-! StepBench.falls(I)I -/
abbrev rm_X7_falls : Room := { frames := 5, cells := 0, slots := 0, locals := 130 }
set_option maxRecDepth 20000 in
theorem fw_X7_falls_9 : Cond.fieldLink RX7 9 "StepBench" "ruleKind" "I" ∈ wsX7_falls := by decide +kernel
set_option maxRecDepth 20000 in
theorem iw_X7_falls_X7 : ∀ w ∈ wsX70, w ∈ wsX7_falls := by decide +kernel
set_option maxRecDepth 20000 in
theorem fw_X7_falls_16 : Cond.fieldLink RX7 16 "StepBench" "rule" "LStepBench$Shares;" ∈ wsX7_falls := by decide +kernel
set_option maxRecDepth 20000 in
theorem hd_X7_falls : yX7_falls.cls = RX7 ∧ yX7_falls.cls ≠ "java/lang/invoke/MethodHandle" ∧ yX7_falls.cls ≠ "java/lang/invoke/VarHandle" ∧ (parseMethodDescriptor yX7_falls.desc).map (fun d => d.parameters.length) = some 1 := by decide +kernel
def V_X7_falls_48  (v1 : Int32) (v2 : Int32)  (post : Int32 → SS → Prop) : Nat → Int32 → Int32 → SS → Prop
  | 0, _, _, _ => False
  | n + 1, v3, v4, S =>
    ((v2 ≤ v4 → (post v3 S)) ∧ (¬ v2 ≤ v4 → (V_X7_fallOfClass v4 v2 v1 S (fun (r10 : Int32) (S11 : SS) => ((0 ≤ r10 → (∀ x13 : Int32, x13 = (v3 + r10) → (∀ x14 : Int32, x14 = v4 + 1 → (V_X7_falls_48  v1 v2  post n x13 x14 S11)))) ∧ (¬ 0 ≤ r10 → (post r10 S11)))))))
set_option maxHeartbeats 4000000 in
set_option maxRecDepth 100000 in
theorem lp_X7_falls_48  (v1 : Int32) (v2 : Int32)  (post : Int32 → SS → Prop) (C0 : Bd p s m meth c args cX7_falls 6 (some .int) wsX7_falls RX7 D n0 cI cJ) : ∀ (n : Nat) (v3 : Int32) (v4 : Int32) (S : SS), V_X7_falls_48  v1 v2  post n v3 v4 S → ∀ (H : Heap) (locs : List Loc), Wh D n0 ad cI cJ X S s H locs → ∀ ls : Array Slot, lv_has ls 6 [(0, .ref (ad 0)), (1, .int v1), (2, .int v2), (3, .int v3), (4, .int v4)] → W p l e rm_X7_falls s m args below meth c H locs 0 0 (MQ below (va_Qi post (fun S' t => Wd D n0 ad cI cJ X S' t) (fr n0)) args s 0 0 (fr n0)) (F0 m 48 ls []) := by
  intro n
  induction n with
  | zero => intro v3 v4 S hV; exact False.elim hV
  | succ n ih =>
    intro v3 v4 S hV H locs hw ls hl
    rw [V_X7_falls_48] at hV
    refine lv_iload C0.x C0.b dX7_falls_48 (lv_at hl 4 rfl) ?_
    refine lv_iload_n C0.x C0.b dX7_falls_50 rfl (lv_at hl 2 rfl) ?_
    refine lv_icmp_ge (tgt := 83) C0.x C0.b dX7_falls_51 (by decide) (fun c9 => ?_) (fun c9 => ?_)
    · have hV := hV.1 c9
      refine lv_iload_n C0.x C0.b dX7_falls_83 rfl (lv_at hl 3 rfl) ?_
      exact r_iret C0 rfl hw hV dX7_falls_84
    · have hV := hV.2 c9
      refine lv_aload_n C0.x C0.b dX7_falls_54 rfl (lv_at hl 0 rfl) ?_
      refine lv_iload C0.x C0.b dX7_falls_55 (lv_at hl 4 rfl) ?_
      refine lv_iload_n C0.x C0.b dX7_falls_57 rfl (lv_at hl 2 rfl) ?_
      refine lv_iload_n C0.x C0.b dX7_falls_58 rfl (lv_at hl 1 rfl) ?_
      refine r_cV_i (As := [.int v4, .int v2, .int v1]) (rest := []) C0 hw (c_X7_fallOfClass  hV) (cwV 3 C0.ts gX7_falls_X7_fallOfClass rfl rfl rfl hd_X7_fallOfClass ⟨Nat.le_of_ble_eq_true rfl, Nat.le_of_ble_eq_true rfl⟩) (lg_0 ad cI cJ X S) rfl rfl hl.1 rfl (Nat.le_of_ble_eq_true rfl) ⟨Nat.le_of_ble_eq_true rfl, Nat.le_of_ble_eq_true rfl⟩ dX7_falls_59 (fun r10 S11 H locs hV hw => ?_)
      refine lv_istore (lv' := [(5, .int r10), (0, .ref (ad 0)), (1, .int v1), (2, .int v2), (3, .int v3), (4, .int v4)]) C0.x C0.b dX7_falls_62 hl (by decide) rfl (fun ls hl => ?_)
      refine lv_iload C0.x C0.b dX7_falls_64 (lv_at hl 0 rfl) ?_
      refine lv_if_ge (tgt := 72) C0.x C0.b dX7_falls_66 (by decide) (fun c12 => ?_) (fun c12 => ?_)
      · have hV := hV.1 c12
        refine lv_iload_n C0.x C0.b dX7_falls_72 rfl (lv_at hl 4 rfl) ?_
        refine lv_iload C0.x C0.b dX7_falls_73 (lv_at hl 0 rfl) ?_
        refine lv_iadd C0.x C0.b dX7_falls_75 ?_
        refine lv_topi (fun x13 ex13 => ?_)
        have hV := hV x13 ex13
        refine lv_istore_n (lv' := [(3, .int x13), (5, .int r10), (0, .ref (ad 0)), (1, .int v1), (2, .int v2), (4, .int v4)]) C0.x C0.b dX7_falls_76 rfl hl (by decide) rfl (fun ls hl => ?_)
        obtain ⟨x14, ex14⟩ : ∃ z : Int32, z = v4 + 1 := ⟨_, rfl⟩
        have hV := hV x14 ex14
        refine lv_iinc (v := x14) (lv' := [(4, .int x14), (3, .int x13), (5, .int r10), (0, .ref (ad 0)), (1, .int v1), (2, .int v2)]) C0.x C0.b dX7_falls_77 hl (k := 5) rfl (by rw [ex14]; rfl) (by decide) rfl (fun ls hl => ?_)
        refine lv_goto (tgt := 48) C0.x C0.b dX7_falls_80 (by decide) ?_
        exact ih _ _ _ hV _ _ hw _ (lv_sub hl [3, 4, 5, 1, 0] rfl)
      · have hV := hV.2 c12
        refine lv_iload C0.x C0.b dX7_falls_69 (lv_at hl 0 rfl) ?_
        exact r_iret C0 rfl hw hV dX7_falls_71
def V_X7_falls  (p0 : Int32) (S : SS) (post : Int32 → SS → Prop) : Prop :=
  (((gI S 0) = (1 : Int32) → ((p0 < (1 : Int32) → (post (-1 : Int32) S)) ∧ (¬ p0 < (1 : Int32) → ((p0 ≤ (12 : Int32) → (V_X5_measure 1 0 1 2 S (fun (r4 : Int32) (S5 : SS) => (V_X7_power r4 p0 S5 (fun (r6 : Int32) (S7 : SS) => ((r6 ≤ (20000 : Int32) → (∃ n48 : Nat, V_X7_falls_48  p0 r6  post n48 (0 : Int32) (0 : Int32) S7)) ∧ (¬ r6 ≤ (20000 : Int32) → (post (-2 : Int32) S7)))))))) ∧ (¬ p0 ≤ (12 : Int32) → (post (-1 : Int32) S)))))) ∧ (¬ (gI S 0) = (1 : Int32) → (post (-1 : Int32) S)))
set_option maxHeartbeats 4000000 in
set_option maxRecDepth 100000 in
theorem c_X7_falls  {S : SS} {p0 : Int32} {post : Int32 → SS → Prop} (hV : V_X7_falls  p0 S post) : MI l yX7_falls wsX7_falls rm_X7_falls [.ref (ad 0), .int p0] D n0 ad cI cJ X S post := by
  refine Met.ofW (cc := cX7_falls) (maxL := 6) (ret := (some .int)) (by decide) rfl ?_
  intro p e s m args below meth c s₁ B hml hv
  obtain ⟨rfl, hv⟩ := hv
  have C0 := Bd.mk B hml (atoms_spec (ws := wsX7_falls) B.pre) (findClass_of_methodNamed B.named) hv.1
  have hw : Wh D n0 ad cI cJ X S s s.heap [] := ⟨hv.2.1, hv.2.2, va_S.rf⟩
  refine r_entry (Nat.le_of_ble_eq_true rfl) (fun ls hl => ?_)
  have hl : lv_has ls 6 [(0, .ref (ad 0)), (1, .int p0)] := hl
  unfold V_X7_falls at hV
  refine lv_aload_n C0.x C0.b dX7_falls_0 rfl (lv_at hl 0 rfl) ?_
  refine r_get C0 hw (C := RX7) (T := TX7) (N := 15) (v := .int (gI S 0)) iw_X7_falls_X7 (lg_0 ad cI cJ X S) rfl 0 (by decide) (C0.ts _ fw_X7_falls_9) rfl dX7_falls_1 ?_
  refine lv_iconst (v := 1) C0.x C0.b dX7_falls_4 (by decide) ?_
  refine lv_icmp_ne (tgt := 19) C0.x C0.b dX7_falls_5 (by decide) (fun c1 => ?_) (fun c1 => ?_)
  · have hV := hV.2 c1
    refine lv_iconst (v := -1) C0.x C0.b dX7_falls_19 (by decide) ?_
    exact r_iret C0 rfl hw hV dX7_falls_20
  · have hV := hV.1 c1
    refine lv_iload_n C0.x C0.b dX7_falls_8 rfl (lv_at hl 1 rfl) ?_
    refine lv_iconst (v := 1) C0.x C0.b dX7_falls_9 (by decide) ?_
    refine lv_icmp_lt (tgt := 19) C0.x C0.b dX7_falls_10 (by decide) (fun c2 => ?_) (fun c2 => ?_)
    · have hV := hV.1 c2
      refine lv_iconst (v := -1) C0.x C0.b dX7_falls_19 (by decide) ?_
      exact r_iret C0 rfl hw hV dX7_falls_20
    · have hV := hV.2 c2
      refine lv_iload_n C0.x C0.b dX7_falls_13 rfl (lv_at hl 1 rfl) ?_
      refine lv_bipush (v := 12) C0.x C0.b dX7_falls_14 (by decide) ?_
      refine lv_icmp_le (tgt := 21) C0.x C0.b dX7_falls_16 (by decide) (fun c3 => ?_) (fun c3 => ?_)
      · have hV := hV.1 c3
        refine lv_aload_n C0.x C0.b dX7_falls_21 rfl (lv_at hl 0 rfl) ?_
        refine r_get C0 hw (C := RX7) (T := TX7) (N := 15) (v := .ref (ad 1)) iw_X7_falls_X7 (lg_0 ad cI cJ X S) rfl 1 (by decide) (C0.ts _ fw_X7_falls_16) rfl dX7_falls_22 ?_
        refine r_cV_i (As := []) (rest := []) C0 hw (c_X5_measure (ln_1 ad cI cJ X) hV) (cwV 0 C0.ts gX7_falls_X5_measure rfl rfl rfl hd_X5_measure ⟨Nat.le_of_ble_eq_true rfl, Nat.le_of_ble_eq_true rfl⟩) (lg_1 ad cI cJ X S) rfl rfl hl.1 rfl (Nat.le_of_ble_eq_true rfl) ⟨Nat.le_of_ble_eq_true rfl, Nat.le_of_ble_eq_true rfl⟩ dX7_falls_25 (fun r4 S5 H locs hV hw => ?_)
        refine lv_iload_n C0.x C0.b dX7_falls_28 rfl (lv_at hl 1 rfl) ?_
        refine r_cS_i (As := [.int r4, .int p0]) (rest := []) C0 hw (c_X7_power  hV) (va_cwS 2 C0.ts gX7_falls_X7_power rfl rfl rfl hd_X7_power ⟨Nat.le_of_ble_eq_true rfl, Nat.le_of_ble_eq_true rfl⟩) rfl hl.1 rfl (Nat.le_of_ble_eq_true rfl) ⟨Nat.le_of_ble_eq_true rfl, Nat.le_of_ble_eq_true rfl⟩ dX7_falls_29 (fun r6 S7 H locs hV hw => ?_)
        refine lv_istore_n (lv' := [(2, .int r6), (0, .ref (ad 0)), (1, .int p0)]) C0.x C0.b dX7_falls_32 rfl hl (by decide) rfl (fun ls hl => ?_)
        refine lv_iload_n C0.x C0.b dX7_falls_33 rfl (lv_at hl 0 rfl) ?_
        refine lv_sipush (v := 20000) C0.x C0.b dX7_falls_34 (by decide) ?_
        refine lv_icmp_le (tgt := 43) C0.x C0.b dX7_falls_37 (by decide) (fun c8 => ?_) (fun c8 => ?_)
        · have hV := hV.1 c8
          refine lv_iconst (v := 0) C0.x C0.b dX7_falls_43 (by decide) ?_
          refine lv_istore_n (lv' := [(3, .int (0 : Int32)), (2, .int r6), (0, .ref (ad 0)), (1, .int p0)]) C0.x C0.b dX7_falls_44 rfl hl (by decide) rfl (fun ls hl => ?_)
          refine lv_iconst (v := 0) C0.x C0.b dX7_falls_45 (by decide) ?_
          refine lv_istore (lv' := [(4, .int (0 : Int32)), (3, .int (0 : Int32)), (2, .int r6), (0, .ref (ad 0)), (1, .int p0)]) C0.x C0.b dX7_falls_46 hl (by decide) rfl (fun ls hl => ?_)
          obtain ⟨n48, hV⟩ := hV
          exact lp_X7_falls_48  _ _ post C0  n48 _ _ _ hV _ _ hw _ (lv_sub hl [3, 4, 2, 1, 0] rfl)
        · have hV := hV.2 c8
          refine lv_bipush (v := -2) C0.x C0.b dX7_falls_40 (by decide) ?_
          exact r_iret C0 rfl hw hV dX7_falls_42
      · have hV := hV.2 c3
        refine lv_iconst (v := -1) C0.x C0.b dX7_falls_19 (by decide) ?_
        exact r_iret C0 rfl hw hV dX7_falls_20
/-! StepBench.least(II)I -/
abbrev rm_X7_least : Room := { frames := 6, cells := 0, slots := 0, locals := 138 }
set_option maxRecDepth 20000 in
theorem fw_X7_least_9 : Cond.fieldLink RX7 9 "StepBench" "ruleKind" "I" ∈ wsX7_least := by decide +kernel
set_option maxRecDepth 20000 in
theorem iw_X7_least_X7 : ∀ w ∈ wsX70, w ∈ wsX7_least := by decide +kernel
set_option maxRecDepth 20000 in
theorem hd_X7_least : yX7_least.cls = RX7 ∧ yX7_least.cls ≠ "java/lang/invoke/MethodHandle" ∧ yX7_least.cls ≠ "java/lang/invoke/VarHandle" ∧ (parseMethodDescriptor yX7_least.desc).map (fun d => d.parameters.length) = some 2 := by decide +kernel
def V_X7_least_34  (v1 : Int32) (v2 : Int32)  (post : Int32 → SS → Prop) : Nat → Int32 → SS → Prop
  | 0, _, _ => False
  | n + 1, v3, S =>
    ((v1 < v3 → (post (0 : Int32) S)) ∧ (¬ v1 < v3 → (V_X7_stepsTillBelow v3.toInt64 v2 S (fun (r7 : Int32) (S8 : SS) => ((0 ≤ r7 → (∀ x10 : Int32, x10 = v3 + 1 → (V_X7_least_34  v1 v2  post n x10 S8))) ∧ (¬ 0 ≤ r7 → (post v3 S8)))))))
set_option maxHeartbeats 4000000 in
set_option maxRecDepth 100000 in
theorem lp_X7_least_34  (v1 : Int32) (v2 : Int32)  (post : Int32 → SS → Prop) (C0 : Bd p s m meth c args cX7_least 4 (some .int) wsX7_least RX7 D n0 cI cJ) : ∀ (n : Nat) (v3 : Int32) (S : SS), V_X7_least_34  v1 v2  post n v3 S → ∀ (H : Heap) (locs : List Loc), Wh D n0 ad cI cJ X S s H locs → ∀ ls : Array Slot, lv_has ls 4 [(0, .ref (ad 0)), (1, .int v1), (2, .int v2), (3, .int v3)] → W p l e rm_X7_least s m args below meth c H locs 0 0 (MQ below (va_Qi post (fun S' t => Wd D n0 ad cI cJ X S' t) (fr n0)) args s 0 0 (fr n0)) (F0 m 34 ls []) := by
  intro n
  induction n with
  | zero => intro v3 S hV; exact False.elim hV
  | succ n ih =>
    intro v3 S hV H locs hw ls hl
    rw [V_X7_least_34] at hV
    refine lv_iload_n C0.x C0.b dX7_least_34 rfl (lv_at hl 3 rfl) ?_
    refine lv_iload_n C0.x C0.b dX7_least_35 rfl (lv_at hl 1 rfl) ?_
    refine lv_icmp_gt (tgt := 57) C0.x C0.b dX7_least_36 (by decide) (fun c6 => ?_) (fun c6 => ?_)
    · have hV := hV.1 c6
      refine lv_iconst (v := 0) C0.x C0.b dX7_least_57 (by decide) ?_
      exact r_iret C0 rfl hw hV dX7_least_58
    · have hV := hV.2 c6
      refine lv_aload_n C0.x C0.b dX7_least_39 rfl (lv_at hl 0 rfl) ?_
      refine lv_iload_n C0.x C0.b dX7_least_40 rfl (lv_at hl 3 rfl) ?_
      refine lv_i2l C0.x C0.b dX7_least_41 rfl ?_
      refine lv_iload_n C0.x C0.b dX7_least_42 rfl (lv_at hl 2 rfl) ?_
      refine r_cV_i (As := [.long v3.toInt64, .int v2]) (rest := []) C0 hw (c_X7_stepsTillBelow  hV) (cwV 2 C0.ts gX7_least_X7_stepsTillBelow rfl rfl rfl hd_X7_stepsTillBelow ⟨Nat.le_of_ble_eq_true rfl, Nat.le_of_ble_eq_true rfl⟩) (lg_0 ad cI cJ X S) rfl rfl hl.1 rfl (Nat.le_of_ble_eq_true rfl) ⟨Nat.le_of_ble_eq_true rfl, Nat.le_of_ble_eq_true rfl⟩ dX7_least_43 (fun r7 S8 H locs hV hw => ?_)
      refine lv_if_ge (tgt := 51) C0.x C0.b dX7_least_46 (by decide) (fun c9 => ?_) (fun c9 => ?_)
      · have hV := hV.1 c9
        obtain ⟨x10, ex10⟩ : ∃ z : Int32, z = v3 + 1 := ⟨_, rfl⟩
        have hV := hV x10 ex10
        refine lv_iinc (v := x10) (lv' := [(3, .int x10), (0, .ref (ad 0)), (1, .int v1), (2, .int v2)]) C0.x C0.b dX7_least_51 hl (k := 3) rfl (by rw [ex10]; rfl) (by decide) rfl (fun ls hl => ?_)
        refine lv_goto (tgt := 34) C0.x C0.b dX7_least_54 (by decide) ?_
        exact ih _ _ hV _ _ hw _ (lv_sub hl [1, 2, 3, 0] rfl)
      · have hV := hV.2 c9
        refine lv_iload_n C0.x C0.b dX7_least_49 rfl (lv_at hl 3 rfl) ?_
        exact r_iret C0 rfl hw hV dX7_least_50
def V_X7_least  (p0 : Int32) (p1 : Int32) (S : SS) (post : Int32 → SS → Prop) : Prop :=
  (((gI S 0) = 0 → (post (-1 : Int32) S)) ∧ (¬ (gI S 0) = 0 → ((p0 < (1 : Int32) → (post (-1 : Int32) S)) ∧ (¬ p0 < (1 : Int32) → (((20000 : Int32) < p0 → (post (-1 : Int32) S)) ∧ (¬ (20000 : Int32) < p0 → ((p1 < 0 → (post (-1 : Int32) S)) ∧ (¬ p1 < 0 → ((p1 ≤ (2000 : Int32) → (∃ n34 : Nat, V_X7_least_34  p0 p1  post n34 (2 : Int32) S)) ∧ (¬ p1 ≤ (2000 : Int32) → (post (-1 : Int32) S)))))))))))
set_option maxHeartbeats 4000000 in
set_option maxRecDepth 100000 in
theorem c_X7_least  {S : SS} {p0 : Int32} {p1 : Int32} {post : Int32 → SS → Prop} (hV : V_X7_least  p0 p1 S post) : MI l yX7_least wsX7_least rm_X7_least [.ref (ad 0), .int p0, .int p1] D n0 ad cI cJ X S post := by
  refine Met.ofW (cc := cX7_least) (maxL := 4) (ret := (some .int)) (by decide) rfl ?_
  intro p e s m args below meth c s₁ B hml hv
  obtain ⟨rfl, hv⟩ := hv
  have C0 := Bd.mk B hml (atoms_spec (ws := wsX7_least) B.pre) (findClass_of_methodNamed B.named) hv.1
  have hw : Wh D n0 ad cI cJ X S s s.heap [] := ⟨hv.2.1, hv.2.2, va_S.rf⟩
  refine r_entry (Nat.le_of_ble_eq_true rfl) (fun ls hl => ?_)
  have hl : lv_has ls 4 [(0, .ref (ad 0)), (1, .int p0), (2, .int p1)] := hl
  unfold V_X7_least at hV
  refine lv_aload_n C0.x C0.b dX7_least_0 rfl (lv_at hl 0 rfl) ?_
  refine r_get C0 hw (C := RX7) (T := TX7) (N := 15) (v := .int (gI S 0)) iw_X7_least_X7 (lg_0 ad cI cJ X S) rfl 0 (by decide) (C0.ts _ fw_X7_least_9) rfl dX7_least_1 ?_
  refine lv_if_eq (tgt := 30) C0.x C0.b dX7_least_4 (by decide) (fun c1 => ?_) (fun c1 => ?_)
  · have hV := hV.1 c1
    refine lv_iconst (v := -1) C0.x C0.b dX7_least_30 (by decide) ?_
    exact r_iret C0 rfl hw hV dX7_least_31
  · have hV := hV.2 c1
    refine lv_iload_n C0.x C0.b dX7_least_7 rfl (lv_at hl 1 rfl) ?_
    refine lv_iconst (v := 1) C0.x C0.b dX7_least_8 (by decide) ?_
    refine lv_icmp_lt (tgt := 30) C0.x C0.b dX7_least_9 (by decide) (fun c2 => ?_) (fun c2 => ?_)
    · have hV := hV.1 c2
      refine lv_iconst (v := -1) C0.x C0.b dX7_least_30 (by decide) ?_
      exact r_iret C0 rfl hw hV dX7_least_31
    · have hV := hV.2 c2
      refine lv_iload_n C0.x C0.b dX7_least_12 rfl (lv_at hl 1 rfl) ?_
      refine lv_sipush (v := 20000) C0.x C0.b dX7_least_13 (by decide) ?_
      refine lv_icmp_gt (tgt := 30) C0.x C0.b dX7_least_16 (by decide) (fun c3 => ?_) (fun c3 => ?_)
      · have hV := hV.1 c3
        refine lv_iconst (v := -1) C0.x C0.b dX7_least_30 (by decide) ?_
        exact r_iret C0 rfl hw hV dX7_least_31
      · have hV := hV.2 c3
        refine lv_iload_n C0.x C0.b dX7_least_19 rfl (lv_at hl 2 rfl) ?_
        refine lv_if_lt (tgt := 30) C0.x C0.b dX7_least_20 (by decide) (fun c4 => ?_) (fun c4 => ?_)
        · have hV := hV.1 c4
          refine lv_iconst (v := -1) C0.x C0.b dX7_least_30 (by decide) ?_
          exact r_iret C0 rfl hw hV dX7_least_31
        · have hV := hV.2 c4
          refine lv_iload_n C0.x C0.b dX7_least_23 rfl (lv_at hl 2 rfl) ?_
          refine lv_sipush (v := 2000) C0.x C0.b dX7_least_24 (by decide) ?_
          refine lv_icmp_le (tgt := 32) C0.x C0.b dX7_least_27 (by decide) (fun c5 => ?_) (fun c5 => ?_)
          · have hV := hV.1 c5
            refine lv_iconst (v := 2) C0.x C0.b dX7_least_32 (by decide) ?_
            refine lv_istore_n (lv' := [(3, .int (2 : Int32)), (0, .ref (ad 0)), (1, .int p0), (2, .int p1)]) C0.x C0.b dX7_least_33 rfl hl (by decide) rfl (fun ls hl => ?_)
            obtain ⟨n34, hV⟩ := hV
            exact lp_X7_least_34  _ _ post C0  n34 _ _ hV _ _ hw _ (lv_sub hl [1, 2, 3, 0] rfl)
          · have hV := hV.2 c5
            refine lv_iconst (v := -1) C0.x C0.b dX7_least_30 (by decide) ?_
            exact r_iret C0 rfl hw hV dX7_least_31
/-! StepBench.back(J)I -/
abbrev rm_X7_back : Room := { frames := 3, cells := 0, slots := 0, locals := 76 }
set_option maxRecDepth 20000 in
theorem fw_X7_back_9 : Cond.fieldLink RX7 9 "StepBench" "ruleKind" "I" ∈ wsX7_back := by decide +kernel
set_option maxRecDepth 20000 in
theorem iw_X7_back_X7 : ∀ w ∈ wsX70, w ∈ wsX7_back := by decide +kernel
set_option maxRecDepth 20000 in
theorem fw_X7_back_45 : Cond.fieldLink RX7 45 "StepBench" "numbers" "LStepBench$Numbers;" ∈ wsX7_back := by decide +kernel
set_option maxRecDepth 20000 in
theorem fw_X7_back_16 : Cond.fieldLink RX7 16 "StepBench" "rule" "LStepBench$Shares;" ∈ wsX7_back := by decide +kernel
set_option maxRecDepth 20000 in
theorem hd_X7_back : yX7_back.cls = RX7 ∧ yX7_back.cls ≠ "java/lang/invoke/MethodHandle" ∧ yX7_back.cls ≠ "java/lang/invoke/VarHandle" ∧ (parseMethodDescriptor yX7_back.desc).map (fun d => d.parameters.length) = some 1 := by decide +kernel
def V_X7_back_26  (v1 : Int64)  (post : Int32 → SS → Prop) : Nat → Int32 → SS → Prop
  | 0, _, _ => False
  | n + 1, v3, S =>
    (V_X5_measure 1 0 1 2 S (fun (r7 : Int32) (S8 : SS) => ((r7 ≤ v3 → (V_X2_size 7 12 1000 S8 (fun (r10 : Int32) (S11 : SS) => (post r10 S11)))) ∧ (¬ r7 ≤ v3 → (V_X5_before 1 0 1 2 v1 v3 S8 (fun (r12 : Int64) (S13 : SS) => (V_X7_isNumber r12 S13 (fun (r14 : Int32) (S15 : SS) => ((r14 = 0 → (∀ x17 : Int32, x17 = v3 + 1 → (V_X7_back_26  v1  post n x17 S15))) ∧ (¬ r14 = 0 → (V_X2_sortIn 7 12 1000 r12 S15 (fun (S19 : SS) => (∀ x20 : Int32, x20 = v3 + 1 → (V_X7_back_26  v1  post n x20 S19))))))))))))))
set_option maxHeartbeats 4000000 in
set_option maxRecDepth 100000 in
theorem lp_X7_back_26  (v1 : Int64)  (post : Int32 → SS → Prop) (C0 : Bd p s m meth c args cX7_back 6 (some .int) wsX7_back RX7 D n0 cI cJ) : ∀ (n : Nat) (v3 : Int32) (S : SS), V_X7_back_26  v1  post n v3 S → ∀ (H : Heap) (locs : List Loc), Wh D n0 ad cI cJ X S s H locs → ∀ ls : Array Slot, lv_has ls 6 [(0, .ref (ad 0)), (1, .long v1), (3, .int v3)] → W p l e rm_X7_back s m args below meth c H locs 0 0 (MQ below (va_Qi post (fun S' t => Wd D n0 ad cI cJ X S' t) (fr n0)) args s 0 0 (fr n0)) (F0 m 26 ls []) := by
  intro n
  induction n with
  | zero => intro v3 S hV; exact False.elim hV
  | succ n ih =>
    intro v3 S hV H locs hw ls hl
    rw [V_X7_back_26] at hV
    refine lv_iload_n C0.x C0.b dX7_back_26 rfl (lv_at hl 2 rfl) ?_
    refine lv_aload_n C0.x C0.b dX7_back_27 rfl (lv_at hl 0 rfl) ?_
    refine r_get C0 hw (C := RX7) (T := TX7) (N := 15) (v := .ref (ad 1)) iw_X7_back_X7 (lg_0 ad cI cJ X S) rfl 1 (by decide) (C0.ts _ fw_X7_back_16) rfl dX7_back_28 ?_
    refine r_cV_i (As := []) (rest := [.int v3]) C0 hw (c_X5_measure (ln_1 ad cI cJ X) hV) (cwV 0 C0.ts gX7_back_X5_measure rfl rfl rfl hd_X5_measure ⟨Nat.le_of_ble_eq_true rfl, Nat.le_of_ble_eq_true rfl⟩) (lg_1 ad cI cJ X S) rfl rfl hl.1 rfl (Nat.le_of_ble_eq_true rfl) ⟨Nat.le_of_ble_eq_true rfl, Nat.le_of_ble_eq_true rfl⟩ dX7_back_31 (fun r7 S8 H locs hV hw => ?_)
    refine lv_icmp_ge (tgt := 71) C0.x C0.b dX7_back_34 (by decide) (fun c9 => ?_) (fun c9 => ?_)
    · have hV := hV.1 c9
      refine lv_aload_n C0.x C0.b dX7_back_71 rfl (lv_at hl 0 rfl) ?_
      refine r_get C0 hw (C := RX7) (T := TX7) (N := 15) (v := .ref (ad 19)) iw_X7_back_X7 (lg_0 ad cI cJ X S8) rfl 6 (by decide) (C0.ts _ fw_X7_back_45) rfl dX7_back_72 ?_
      refine r_cV_i (As := []) (rest := []) C0 hw (c_X2_size (ln_19 ad cI cJ X) hV) (cwV 0 C0.ts gX7_back_X2_size rfl rfl rfl hd_X2_size ⟨Nat.le_of_ble_eq_true rfl, Nat.le_of_ble_eq_true rfl⟩) (lg_19 ad cI cJ X S8) rfl rfl hl.1 rfl (Nat.le_of_ble_eq_true rfl) ⟨Nat.le_of_ble_eq_true rfl, Nat.le_of_ble_eq_true rfl⟩ dX7_back_75 (fun r10 S11 H locs hV hw => ?_)
      exact r_iret C0 rfl hw hV dX7_back_78
    · have hV := hV.2 c9
      refine lv_aload_n C0.x C0.b dX7_back_37 rfl (lv_at hl 0 rfl) ?_
      refine r_get C0 hw (C := RX7) (T := TX7) (N := 15) (v := .ref (ad 1)) iw_X7_back_X7 (lg_0 ad cI cJ X S8) rfl 1 (by decide) (C0.ts _ fw_X7_back_16) rfl dX7_back_38 ?_
      refine lv_lload_n C0.x C0.b dX7_back_41 rfl (lv_at hl 1 rfl) ?_
      refine lv_iload_n C0.x C0.b dX7_back_42 rfl (lv_at hl 2 rfl) ?_
      refine r_cV_l (As := [.long v1, .int v3]) (rest := []) C0 hw (c_X5_before (ln_1 ad cI cJ X) hV) (cwV 2 C0.ts gX7_back_X5_before rfl rfl rfl hd_X5_before ⟨Nat.le_of_ble_eq_true rfl, Nat.le_of_ble_eq_true rfl⟩) (lg_1 ad cI cJ X S8) rfl rfl hl.1 rfl (Nat.le_of_ble_eq_true rfl) ⟨Nat.le_of_ble_eq_true rfl, Nat.le_of_ble_eq_true rfl⟩ dX7_back_43 (fun r12 S13 H locs hV hw => ?_)
      refine lv_lstore (lv' := [(4, .long r12), (0, .ref (ad 0)), (1, .long v1), (3, .int v3)]) C0.x C0.b dX7_back_46 hl (by decide) rfl (fun ls hl => ?_)
      refine lv_lload C0.x C0.b dX7_back_48 (lv_at hl 0 rfl) ?_
      refine r_cS_i (As := [.long r12]) (rest := []) C0 hw (c_X7_isNumber  hV) (va_cwS 1 C0.ts gX7_back_X7_isNumber rfl rfl rfl hd_X7_isNumber ⟨Nat.le_of_ble_eq_true rfl, Nat.le_of_ble_eq_true rfl⟩) rfl hl.1 rfl (Nat.le_of_ble_eq_true rfl) ⟨Nat.le_of_ble_eq_true rfl, Nat.le_of_ble_eq_true rfl⟩ dX7_back_50 (fun r14 S15 H locs hV hw => ?_)
      refine lv_if_eq (tgt := 65) C0.x C0.b dX7_back_53 (by decide) (fun c16 => ?_) (fun c16 => ?_)
      · have hV := hV.1 c16
        obtain ⟨x17, ex17⟩ : ∃ z : Int32, z = v3 + 1 := ⟨_, rfl⟩
        have hV := hV x17 ex17
        refine lv_iinc (v := x17) (lv' := [(3, .int x17), (4, .long r12), (0, .ref (ad 0)), (1, .long v1)]) C0.x C0.b dX7_back_65 hl (k := 3) rfl (by rw [ex17]; rfl) (by decide) rfl (fun ls hl => ?_)
        refine lv_goto (tgt := 26) C0.x C0.b dX7_back_68 (by decide) ?_
        exact ih _ _ hV _ _ hw _ (lv_sub hl [2, 3, 0] rfl)
      · have hV := hV.2 c16
        refine lv_aload_n C0.x C0.b dX7_back_56 rfl (lv_at hl 1 rfl) ?_
        refine r_get C0 hw (C := RX7) (T := TX7) (N := 15) (v := .ref (ad 19)) iw_X7_back_X7 (lg_0 ad cI cJ X S15) rfl 6 (by decide) (C0.ts _ fw_X7_back_45) rfl dX7_back_57 ?_
        refine lv_lload C0.x C0.b dX7_back_60 (lv_at hl 0 rfl) ?_
        refine r_cV_v (As := [.long r12]) (rest := []) C0 hw (c_X2_sortIn (ln_19 ad cI cJ X) hV) (cwV 1 C0.ts gX7_back_X2_sortIn rfl rfl rfl hd_X2_sortIn ⟨Nat.le_of_ble_eq_true rfl, Nat.le_of_ble_eq_true rfl⟩) (lg_19 ad cI cJ X S15) rfl rfl hl.1 rfl (Nat.le_of_ble_eq_true rfl) ⟨Nat.le_of_ble_eq_true rfl, Nat.le_of_ble_eq_true rfl⟩ dX7_back_62 (fun S19 H locs hV hw => ?_)
        obtain ⟨x20, ex20⟩ : ∃ z : Int32, z = v3 + 1 := ⟨_, rfl⟩
        have hV := hV x20 ex20
        refine lv_iinc (v := x20) (lv' := [(3, .int x20), (4, .long r12), (0, .ref (ad 0)), (1, .long v1)]) C0.x C0.b dX7_back_65 hl (k := 3) rfl (by rw [ex20]; rfl) (by decide) rfl (fun ls hl => ?_)
        refine lv_goto (tgt := 26) C0.x C0.b dX7_back_68 (by decide) ?_
        exact ih _ _ hV _ _ hw _ (lv_sub hl [2, 3, 0] rfl)
def V_X7_back  (p0 : Int64) (S : SS) (post : Int32 → SS → Prop) : Prop :=
  (((gI S 0) = (1 : Int32) → (V_X7_isNumber p0 S (fun (r2 : Int32) (S3 : SS) => ((r2 = 0 → (post (-1 : Int32) S3)) ∧ (¬ r2 = 0 → (V_X2_empty 7 12 1000 S3 (fun (S6 : SS) => (∃ n26 : Nat, V_X7_back_26  p0  post n26 (0 : Int32) S6)))))))) ∧ (¬ (gI S 0) = (1 : Int32) → (post (-1 : Int32) S)))
set_option maxHeartbeats 4000000 in
set_option maxRecDepth 100000 in
theorem c_X7_back  {S : SS} {p0 : Int64} {post : Int32 → SS → Prop} (hV : V_X7_back  p0 S post) : MI l yX7_back wsX7_back rm_X7_back [.ref (ad 0), .long p0] D n0 ad cI cJ X S post := by
  refine Met.ofW (cc := cX7_back) (maxL := 6) (ret := (some .int)) (by decide) rfl ?_
  intro p e s m args below meth c s₁ B hml hv
  obtain ⟨rfl, hv⟩ := hv
  have C0 := Bd.mk B hml (atoms_spec (ws := wsX7_back) B.pre) (findClass_of_methodNamed B.named) hv.1
  have hw : Wh D n0 ad cI cJ X S s s.heap [] := ⟨hv.2.1, hv.2.2, va_S.rf⟩
  refine r_entry (Nat.le_of_ble_eq_true rfl) (fun ls hl => ?_)
  have hl : lv_has ls 6 [(0, .ref (ad 0)), (1, .long p0)] := hl
  unfold V_X7_back at hV
  refine lv_aload_n C0.x C0.b dX7_back_0 rfl (lv_at hl 0 rfl) ?_
  refine r_get C0 hw (C := RX7) (T := TX7) (N := 15) (v := .int (gI S 0)) iw_X7_back_X7 (lg_0 ad cI cJ X S) rfl 0 (by decide) (C0.ts _ fw_X7_back_9) rfl dX7_back_1 ?_
  refine lv_iconst (v := 1) C0.x C0.b dX7_back_4 (by decide) ?_
  refine lv_icmp_ne (tgt := 15) C0.x C0.b dX7_back_5 (by decide) (fun c1 => ?_) (fun c1 => ?_)
  · have hV := hV.2 c1
    refine lv_iconst (v := -1) C0.x C0.b dX7_back_15 (by decide) ?_
    exact r_iret C0 rfl hw hV dX7_back_16
  · have hV := hV.1 c1
    refine lv_lload_n C0.x C0.b dX7_back_8 rfl (lv_at hl 1 rfl) ?_
    refine r_cS_i (As := [.long p0]) (rest := []) C0 hw (c_X7_isNumber  hV) (va_cwS 1 C0.ts gX7_back_X7_isNumber rfl rfl rfl hd_X7_isNumber ⟨Nat.le_of_ble_eq_true rfl, Nat.le_of_ble_eq_true rfl⟩) rfl hl.1 rfl (Nat.le_of_ble_eq_true rfl) ⟨Nat.le_of_ble_eq_true rfl, Nat.le_of_ble_eq_true rfl⟩ dX7_back_9 (fun r2 S3 H locs hV hw => ?_)
    refine lv_if_ne (tgt := 17) C0.x C0.b dX7_back_12 (by decide) (fun c4 => ?_) (fun c4 => ?_)
    · have hV := hV.2 c4
      refine lv_aload_n C0.x C0.b dX7_back_17 rfl (lv_at hl 0 rfl) ?_
      refine r_get C0 hw (C := RX7) (T := TX7) (N := 15) (v := .ref (ad 19)) iw_X7_back_X7 (lg_0 ad cI cJ X S3) rfl 6 (by decide) (C0.ts _ fw_X7_back_45) rfl dX7_back_18 ?_
      refine r_cV_v (As := []) (rest := []) C0 hw (c_X2_empty (ln_19 ad cI cJ X) hV) (cwV 0 C0.ts gX7_back_X2_empty rfl rfl rfl hd_X2_empty ⟨Nat.le_of_ble_eq_true rfl, Nat.le_of_ble_eq_true rfl⟩) (lg_19 ad cI cJ X S3) rfl rfl hl.1 rfl (Nat.le_of_ble_eq_true rfl) ⟨Nat.le_of_ble_eq_true rfl, Nat.le_of_ble_eq_true rfl⟩ dX7_back_21 (fun S6 H locs hV hw => ?_)
      refine lv_iconst (v := 0) C0.x C0.b dX7_back_24 (by decide) ?_
      refine lv_istore_n (lv' := [(3, .int (0 : Int32)), (0, .ref (ad 0)), (1, .long p0)]) C0.x C0.b dX7_back_25 rfl hl (by decide) rfl (fun ls hl => ?_)
      obtain ⟨n26, hV⟩ := hV
      exact lp_X7_back_26  _ post C0  n26 _ _ hV _ _ hw _ (lv_sub hl [1, 2, 0] rfl)
    · have hV := hV.1 c4
      refine lv_iconst (v := -1) C0.x C0.b dX7_back_15 (by decide) ?_
      exact r_iret C0 rfl hw hV dX7_back_16
/-! StepBench.whole(J)J -/
abbrev rm_X7_whole : Room := { frames := 3, cells := 0, slots := 0, locals := 63 }
set_option maxRecDepth 20000 in
theorem fw_X7_whole_9 : Cond.fieldLink RX7 9 "StepBench" "ruleKind" "I" ∈ wsX7_whole := by decide +kernel
set_option maxRecDepth 20000 in
theorem iw_X7_whole_X7 : ∀ w ∈ wsX70, w ∈ wsX7_whole := by decide +kernel
set_option maxRecDepth 20000 in
theorem fw_X7_whole_16 : Cond.fieldLink RX7 16 "StepBench" "rule" "LStepBench$Shares;" ∈ wsX7_whole := by decide +kernel
set_option maxRecDepth 20000 in
theorem hd_X7_whole : yX7_whole.cls = RX7 ∧ yX7_whole.cls ≠ "java/lang/invoke/MethodHandle" ∧ yX7_whole.cls ≠ "java/lang/invoke/VarHandle" ∧ (parseMethodDescriptor yX7_whole.desc).map (fun d => d.parameters.length) = some 1 := by decide +kernel
def V_X7_whole_15  (v1 : Int64)  (post : Int64 → SS → Prop) : Nat → Int64 → Int32 → SS → Prop
  | 0, _, _, _ => False
  | n + 1, v3, v5, S =>
    (V_X5_measure 1 0 1 2 S (fun (r2 : Int32) (S3 : SS) => ((r2 ≤ v5 → (post v3 S3)) ∧ (¬ r2 ≤ v5 → (V_X5_a 1 0 1 2 v5 S3 (fun (r5 : Int64) (S6 : SS) => ((r5 = (0 : Int64) → (V_X5_first 1 0 1 2 v5 S6 (fun (r8 : Int64) (S9 : SS) => ((r8 = v1 → (∀ y11 : Int64, y11 = (v3 ||| ((1 : Int64) <<< (v5.toInt64 &&& 63))) → (∀ x12 : Int32, x12 = v5 + 1 → (V_X7_whole_15  v1  post n y11 x12 S9)))) ∧ (¬ r8 = v1 → (∀ x13 : Int32, x13 = v5 + 1 → (V_X7_whole_15  v1  post n v3 x13 S9))))))) ∧ (¬ r5 = (0 : Int64) → (∀ x14 : Int32, x14 = v5 + 1 → (V_X7_whole_15  v1  post n v3 x14 S6))))))))))
set_option maxHeartbeats 4000000 in
set_option maxRecDepth 100000 in
theorem lp_X7_whole_15  (v1 : Int64)  (post : Int64 → SS → Prop) (C0 : Bd p s m meth c args cX7_whole 6 (some .long) wsX7_whole RX7 D n0 cI cJ) : ∀ (n : Nat) (v3 : Int64) (v5 : Int32) (S : SS), V_X7_whole_15  v1  post n v3 v5 S → ∀ (H : Heap) (locs : List Loc), Wh D n0 ad cI cJ X S s H locs → ∀ ls : Array Slot, lv_has ls 6 [(0, .ref (ad 0)), (1, .long v1), (3, .long v3), (5, .int v5)] → W p l e rm_X7_whole s m args below meth c H locs 0 0 (MQ below (va_Ql post (fun S' t => Wd D n0 ad cI cJ X S' t) (fr n0)) args s 0 0 (fr n0)) (F0 m 15 ls []) := by
  intro n
  induction n with
  | zero => intro v3 v5 S hV; exact False.elim hV
  | succ n ih =>
    intro v3 v5 S hV H locs hw ls hl
    rw [V_X7_whole_15] at hV
    refine lv_iload C0.x C0.b dX7_whole_15 (lv_at hl 3 rfl) ?_
    refine lv_aload_n C0.x C0.b dX7_whole_17 rfl (lv_at hl 0 rfl) ?_
    refine r_get C0 hw (C := RX7) (T := TX7) (N := 15) (v := .ref (ad 1)) iw_X7_whole_X7 (lg_0 ad cI cJ X S) rfl 1 (by decide) (C0.ts _ fw_X7_whole_16) rfl dX7_whole_18 ?_
    refine r_cV_i (As := []) (rest := [.int v5]) C0 hw (c_X5_measure (ln_1 ad cI cJ X) hV) (cwV 0 C0.ts gX7_whole_X5_measure rfl rfl rfl hd_X5_measure ⟨Nat.le_of_ble_eq_true rfl, Nat.le_of_ble_eq_true rfl⟩) (lg_1 ad cI cJ X S) rfl rfl hl.1 rfl (Nat.le_of_ble_eq_true rfl) ⟨Nat.le_of_ble_eq_true rfl, Nat.le_of_ble_eq_true rfl⟩ dX7_whole_21 (fun r2 S3 H locs hV hw => ?_)
    refine lv_icmp_ge (tgt := 68) C0.x C0.b dX7_whole_24 (by decide) (fun c4 => ?_) (fun c4 => ?_)
    · have hV := hV.1 c4
      refine lv_lload_n C0.x C0.b dX7_whole_68 rfl (lv_at hl 2 rfl) ?_
      exact r_lret C0 rfl hw hV dX7_whole_69
    · have hV := hV.2 c4
      refine lv_aload_n C0.x C0.b dX7_whole_27 rfl (lv_at hl 0 rfl) ?_
      refine r_get C0 hw (C := RX7) (T := TX7) (N := 15) (v := .ref (ad 1)) iw_X7_whole_X7 (lg_0 ad cI cJ X S3) rfl 1 (by decide) (C0.ts _ fw_X7_whole_16) rfl dX7_whole_28 ?_
      refine lv_iload C0.x C0.b dX7_whole_31 (lv_at hl 3 rfl) ?_
      refine r_cV_l (As := [.int v5]) (rest := []) C0 hw (c_X5_a (ln_1 ad cI cJ X) hV) (cwV 1 C0.ts gX7_whole_X5_a rfl rfl rfl hd_X5_a ⟨Nat.le_of_ble_eq_true rfl, Nat.le_of_ble_eq_true rfl⟩) (lg_1 ad cI cJ X S3) rfl rfl hl.1 rfl (Nat.le_of_ble_eq_true rfl) ⟨Nat.le_of_ble_eq_true rfl, Nat.le_of_ble_eq_true rfl⟩ dX7_whole_33 (fun r5 S6 H locs hV hw => ?_)
      refine lv_lconst (v := 0) C0.x C0.b dX7_whole_36 (by decide) ?_
      refine r_lcmp C0 dX7_whole_37 ?_
      refine lv_if_ne (tgt := 62) C0.x C0.b dX7_whole_38 (by decide) (fun c7 => ?_) (fun c7 => ?_)
      · have hV := hV.2 (fun h => c7 ((lc_eq _ _).mpr h))
        obtain ⟨x14, ex14⟩ : ∃ z : Int32, z = v5 + 1 := ⟨_, rfl⟩
        have hV := hV x14 ex14
        refine lv_iinc (v := x14) (lv' := [(5, .int x14), (0, .ref (ad 0)), (1, .long v1), (3, .long v3)]) C0.x C0.b dX7_whole_62 hl (k := 3) rfl (by rw [ex14]; rfl) (by decide) rfl (fun ls hl => ?_)
        refine lv_goto (tgt := 15) C0.x C0.b dX7_whole_65 (by decide) ?_
        exact ih _ _ _ hV _ _ hw _ (lv_sub hl [1, 2, 3, 0] rfl)
      · have hV := hV.1 ((lc_eq _ _).mp c7)
        refine lv_aload_n C0.x C0.b dX7_whole_41 rfl (lv_at hl 0 rfl) ?_
        refine r_get C0 hw (C := RX7) (T := TX7) (N := 15) (v := .ref (ad 1)) iw_X7_whole_X7 (lg_0 ad cI cJ X S6) rfl 1 (by decide) (C0.ts _ fw_X7_whole_16) rfl dX7_whole_42 ?_
        refine lv_iload C0.x C0.b dX7_whole_45 (lv_at hl 3 rfl) ?_
        refine r_cV_l (As := [.int v5]) (rest := []) C0 hw (c_X5_first (ln_1 ad cI cJ X) hV) (cwV 1 C0.ts gX7_whole_X5_first rfl rfl rfl hd_X5_first ⟨Nat.le_of_ble_eq_true rfl, Nat.le_of_ble_eq_true rfl⟩) (lg_1 ad cI cJ X S6) rfl rfl hl.1 rfl (Nat.le_of_ble_eq_true rfl) ⟨Nat.le_of_ble_eq_true rfl, Nat.le_of_ble_eq_true rfl⟩ dX7_whole_47 (fun r8 S9 H locs hV hw => ?_)
        refine lv_lload_n C0.x C0.b dX7_whole_50 rfl (lv_at hl 1 rfl) ?_
        refine r_lcmp C0 dX7_whole_51 ?_
        refine lv_if_ne (tgt := 62) C0.x C0.b dX7_whole_52 (by decide) (fun c10 => ?_) (fun c10 => ?_)
        · have hV := hV.2 (fun h => c10 ((lc_eq _ _).mpr h))
          obtain ⟨x13, ex13⟩ : ∃ z : Int32, z = v5 + 1 := ⟨_, rfl⟩
          have hV := hV x13 ex13
          refine lv_iinc (v := x13) (lv' := [(5, .int x13), (0, .ref (ad 0)), (1, .long v1), (3, .long v3)]) C0.x C0.b dX7_whole_62 hl (k := 3) rfl (by rw [ex13]; rfl) (by decide) rfl (fun ls hl => ?_)
          refine lv_goto (tgt := 15) C0.x C0.b dX7_whole_65 (by decide) ?_
          exact ih _ _ _ hV _ _ hw _ (lv_sub hl [1, 2, 3, 0] rfl)
        · have hV := hV.1 ((lc_eq _ _).mp c10)
          refine lv_lload_n C0.x C0.b dX7_whole_55 rfl (lv_at hl 2 rfl) ?_
          refine lv_lconst (v := 1) C0.x C0.b dX7_whole_56 (by decide) ?_
          refine lv_iload C0.x C0.b dX7_whole_57 (lv_at hl 3 rfl) ?_
          refine lv_lshl C0.x C0.b dX7_whole_59 rfl ?_
          refine lv_lor C0.x C0.b dX7_whole_60 ?_
          refine lv_topl (fun y11 ey11 => ?_)
          have hV := hV y11 ey11
          refine lv_lstore_n (lv' := [(3, .long y11), (0, .ref (ad 0)), (1, .long v1), (5, .int v5)]) C0.x C0.b dX7_whole_61 rfl hl (by decide) rfl (fun ls hl => ?_)
          obtain ⟨x12, ex12⟩ : ∃ z : Int32, z = v5 + 1 := ⟨_, rfl⟩
          have hV := hV x12 ex12
          refine lv_iinc (v := x12) (lv' := [(5, .int x12), (3, .long y11), (0, .ref (ad 0)), (1, .long v1)]) C0.x C0.b dX7_whole_62 hl (k := 3) rfl (by rw [ex12]; rfl) (by decide) rfl (fun ls hl => ?_)
          refine lv_goto (tgt := 15) C0.x C0.b dX7_whole_65 (by decide) ?_
          exact ih _ _ _ hV _ _ hw _ (lv_sub hl [2, 3, 1, 0] rfl)
def V_X7_whole  (p0 : Int64) (S : SS) (post : Int64 → SS → Prop) : Prop :=
  (((gI S 0) = (1 : Int32) → (∃ n15 : Nat, V_X7_whole_15  p0  post n15 (0 : Int64) (0 : Int32) S)) ∧ (¬ (gI S 0) = (1 : Int32) → (post (0 : Int64) S)))
set_option maxHeartbeats 4000000 in
set_option maxRecDepth 100000 in
theorem c_X7_whole  {S : SS} {p0 : Int64} {post : Int64 → SS → Prop} (hV : V_X7_whole  p0 S post) : ML l yX7_whole wsX7_whole rm_X7_whole [.ref (ad 0), .long p0] D n0 ad cI cJ X S post := by
  refine Met.ofW (cc := cX7_whole) (maxL := 6) (ret := (some .long)) (by decide) rfl ?_
  intro p e s m args below meth c s₁ B hml hv
  obtain ⟨rfl, hv⟩ := hv
  have C0 := Bd.mk B hml (atoms_spec (ws := wsX7_whole) B.pre) (findClass_of_methodNamed B.named) hv.1
  have hw : Wh D n0 ad cI cJ X S s s.heap [] := ⟨hv.2.1, hv.2.2, va_S.rf⟩
  refine r_entry (Nat.le_of_ble_eq_true rfl) (fun ls hl => ?_)
  have hl : lv_has ls 6 [(0, .ref (ad 0)), (1, .long p0)] := hl
  unfold V_X7_whole at hV
  refine lv_aload_n C0.x C0.b dX7_whole_0 rfl (lv_at hl 0 rfl) ?_
  refine r_get C0 hw (C := RX7) (T := TX7) (N := 15) (v := .int (gI S 0)) iw_X7_whole_X7 (lg_0 ad cI cJ X S) rfl 0 (by decide) (C0.ts _ fw_X7_whole_9) rfl dX7_whole_1 ?_
  refine lv_iconst (v := 1) C0.x C0.b dX7_whole_4 (by decide) ?_
  refine lv_icmp_eq (tgt := 10) C0.x C0.b dX7_whole_5 (by decide) (fun c1 => ?_) (fun c1 => ?_)
  · have hV := hV.1 c1
    refine lv_lconst (v := 0) C0.x C0.b dX7_whole_10 (by decide) ?_
    refine lv_lstore_n (lv' := [(3, .long (0 : Int64)), (0, .ref (ad 0)), (1, .long p0)]) C0.x C0.b dX7_whole_11 rfl hl (by decide) rfl (fun ls hl => ?_)
    refine lv_iconst (v := 0) C0.x C0.b dX7_whole_12 (by decide) ?_
    refine lv_istore (lv' := [(5, .int (0 : Int32)), (3, .long (0 : Int64)), (0, .ref (ad 0)), (1, .long p0)]) C0.x C0.b dX7_whole_13 hl (by decide) rfl (fun ls hl => ?_)
    obtain ⟨n15, hV⟩ := hV
    exact lp_X7_whole_15  _ post C0  n15 _ _ _ hV _ _ hw _ (lv_sub hl [2, 3, 1, 0] rfl)
  · have hV := hV.2 c1
    refine lv_lconst (v := 0) C0.x C0.b dX7_whole_8 (by decide) ?_
    exact r_lret C0 rfl hw hV dX7_whole_9
/-! StepBench.goBackFromFound()Z -/
abbrev rm_X7_goBackFromFound : Room := { frames := 3, cells := 0, slots := 0, locals := 76 }
set_option maxRecDepth 20000 in
theorem fw_X7_goBackFromFound_52 : Cond.fieldLink RX7 52 "StepBench" "level" "LStepBench$Numbers;" ∈ wsX7_goBackFromFound := by decide +kernel
set_option maxRecDepth 20000 in
theorem iw_X7_goBackFromFound_X7 : ∀ w ∈ wsX70, w ∈ wsX7_goBackFromFound := by decide +kernel
set_option maxRecDepth 20000 in
theorem fw_X7_goBackFromFound_49 : Cond.fieldLink RX7 49 "StepBench" "found" "LStepBench$Numbers;" ∈ wsX7_goBackFromFound := by decide +kernel
set_option maxRecDepth 20000 in
theorem fw_X7_goBackFromFound_16 : Cond.fieldLink RX7 16 "StepBench" "rule" "LStepBench$Shares;" ∈ wsX7_goBackFromFound := by decide +kernel
set_option maxRecDepth 20000 in
theorem hd_X7_goBackFromFound : yX7_goBackFromFound.cls = RX7 ∧ yX7_goBackFromFound.cls ≠ "java/lang/invoke/MethodHandle" ∧ yX7_goBackFromFound.cls ≠ "java/lang/invoke/VarHandle" ∧ (parseMethodDescriptor yX7_goBackFromFound.desc).map (fun d => d.parameters.length) = some 0 := by decide +kernel
def V_X7_goBackFromFound_22  (v1 : Int32) (K9 : Int32 → SS → Prop) (post : Int32 → SS → Prop) : Nat → Int32 → SS → Prop
  | 0, _, _ => False
  | n + 1, v2, S =>
    (V_X5_measure 1 0 1 2 S (fun (r8 : Int32) (S9 : SS) => ((r8 ≤ v2 → (∀ x11 : Int32, x11 = v1 + 1 → (K9 x11 S9))) ∧ (¬ r8 ≤ v2 → (V_X2_at 8 13 1000 v1 S9 (fun (r12 : Int64) (S13 : SS) => (V_X5_before 1 0 1 2 r12 v2 S13 (fun (r14 : Int64) (S15 : SS) => (V_X7_isNumber r14 S15 (fun (r16 : Int32) (S17 : SS) => ((r16 = 0 → (∀ x19 : Int32, x19 = v2 + 1 → (V_X7_goBackFromFound_22  v1 K9 post n x19 S17))) ∧ (¬ r16 = 0 → (V_X2_add 9 14 1000 r14 S17 (fun (r20 : Int32) (S21 : SS) => ((r20 = 0 → (post (0 : Int32) S21)) ∧ (¬ r20 = 0 → (∀ x23 : Int32, x23 = v2 + 1 → (V_X7_goBackFromFound_22  v1 K9 post n x23 S21))))))))))))))))))
set_option maxHeartbeats 4000000 in
set_option maxRecDepth 100000 in
theorem lp_X7_goBackFromFound_22  (v1 : Int32) (K9 : Int32 → SS → Prop) (post : Int32 → SS → Prop) (C0 : Bd p s m meth c args cX7_goBackFromFound 5 (some .boolean) wsX7_goBackFromFound RX7 D n0 cI cJ) (hK9 : ∀ (v1 : Int32) (S : SS), K9 v1 S → ∀ (H : Heap) (locs : List Loc), Wh D n0 ad cI cJ X S s H locs → ∀ ls : Array Slot, lv_has ls 5 [(0, .ref (ad 0)), (1, .int v1)] → W p l e rm_X7_goBackFromFound s m args below meth c H locs 0 0 (MQ below (va_Qi post (fun S' t => Wd D n0 ad cI cJ X S' t) (fr n0)) args s 0 0 (fr n0)) (F0 m 9 ls [])) : ∀ (n : Nat) (v2 : Int32) (S : SS), V_X7_goBackFromFound_22  v1 K9 post n v2 S → ∀ (H : Heap) (locs : List Loc), Wh D n0 ad cI cJ X S s H locs → ∀ ls : Array Slot, lv_has ls 5 [(0, .ref (ad 0)), (1, .int v1), (2, .int v2)] → W p l e rm_X7_goBackFromFound s m args below meth c H locs 0 0 (MQ below (va_Qi post (fun S' t => Wd D n0 ad cI cJ X S' t) (fr n0)) args s 0 0 (fr n0)) (F0 m 22 ls []) := by
  intro n
  induction n with
  | zero => intro v2 S hV; exact False.elim hV
  | succ n ih =>
    intro v2 S hV H locs hw ls hl
    rw [V_X7_goBackFromFound_22] at hV
    refine lv_iload_n C0.x C0.b dX7_goBackFromFound_22 rfl (lv_at hl 2 rfl) ?_
    refine lv_aload_n C0.x C0.b dX7_goBackFromFound_23 rfl (lv_at hl 0 rfl) ?_
    refine r_get C0 hw (C := RX7) (T := TX7) (N := 15) (v := .ref (ad 1)) iw_X7_goBackFromFound_X7 (lg_0 ad cI cJ X S) rfl 1 (by decide) (C0.ts _ fw_X7_goBackFromFound_16) rfl dX7_goBackFromFound_24 ?_
    refine r_cV_i (As := []) (rest := [.int v2]) C0 hw (c_X5_measure (ln_1 ad cI cJ X) hV) (cwV 0 C0.ts gX7_goBackFromFound_X5_measure rfl rfl rfl hd_X5_measure ⟨Nat.le_of_ble_eq_true rfl, Nat.le_of_ble_eq_true rfl⟩) (lg_1 ad cI cJ X S) rfl rfl hl.1 rfl (Nat.le_of_ble_eq_true rfl) ⟨Nat.le_of_ble_eq_true rfl, Nat.le_of_ble_eq_true rfl⟩ dX7_goBackFromFound_27 (fun r8 S9 H locs hV hw => ?_)
    refine lv_icmp_ge (tgt := 76) C0.x C0.b dX7_goBackFromFound_30 (by decide) (fun c10 => ?_) (fun c10 => ?_)
    · have hV := hV.1 c10
      obtain ⟨x11, ex11⟩ : ∃ z : Int32, z = v1 + 1 := ⟨_, rfl⟩
      have hV := hV x11 ex11
      refine lv_iinc (v := x11) (lv' := [(1, .int x11), (0, .ref (ad 0)), (2, .int v2)]) C0.x C0.b dX7_goBackFromFound_76 hl (k := 1) rfl (by rw [ex11]; rfl) (by decide) rfl (fun ls hl => ?_)
      refine lv_goto (tgt := 9) C0.x C0.b dX7_goBackFromFound_79 (by decide) ?_
      exact hK9 _ _ hV _ _ hw _ (lv_sub hl [1, 0] rfl)
    · have hV := hV.2 c10
      refine lv_aload_n C0.x C0.b dX7_goBackFromFound_33 rfl (lv_at hl 0 rfl) ?_
      refine r_get C0 hw (C := RX7) (T := TX7) (N := 15) (v := .ref (ad 1)) iw_X7_goBackFromFound_X7 (lg_0 ad cI cJ X S9) rfl 1 (by decide) (C0.ts _ fw_X7_goBackFromFound_16) rfl dX7_goBackFromFound_34 ?_
      refine lv_aload_n C0.x C0.b dX7_goBackFromFound_37 rfl (lv_at hl 0 rfl) ?_
      refine r_get C0 hw (C := RX7) (T := TX7) (N := 15) (v := .ref (ad 21)) iw_X7_goBackFromFound_X7 (lg_0 ad cI cJ X S9) rfl 7 (by decide) (C0.ts _ fw_X7_goBackFromFound_49) rfl dX7_goBackFromFound_38 ?_
      refine lv_iload_n C0.x C0.b dX7_goBackFromFound_41 rfl (lv_at hl 1 rfl) ?_
      refine r_cV_l (As := [.int v1]) (rest := [.ref (ad 1)]) C0 hw (c_X2_at (ln_21 ad cI cJ X) hV) (cwV 1 C0.ts gX7_goBackFromFound_X2_at rfl rfl rfl hd_X2_at ⟨Nat.le_of_ble_eq_true rfl, Nat.le_of_ble_eq_true rfl⟩) (lg_21 ad cI cJ X S9) rfl rfl hl.1 rfl (Nat.le_of_ble_eq_true rfl) ⟨Nat.le_of_ble_eq_true rfl, Nat.le_of_ble_eq_true rfl⟩ dX7_goBackFromFound_42 (fun r12 S13 H locs hV hw => ?_)
      refine lv_iload_n C0.x C0.b dX7_goBackFromFound_45 rfl (lv_at hl 2 rfl) ?_
      refine r_cV_l (As := [.long r12, .int v2]) (rest := []) C0 hw (c_X5_before (ln_1 ad cI cJ X) hV) (cwV 2 C0.ts gX7_goBackFromFound_X5_before rfl rfl rfl hd_X5_before ⟨Nat.le_of_ble_eq_true rfl, Nat.le_of_ble_eq_true rfl⟩) (lg_1 ad cI cJ X S13) rfl rfl hl.1 rfl (Nat.le_of_ble_eq_true rfl) ⟨Nat.le_of_ble_eq_true rfl, Nat.le_of_ble_eq_true rfl⟩ dX7_goBackFromFound_46 (fun r14 S15 H locs hV hw => ?_)
      refine lv_lstore_n (lv' := [(3, .long r14), (0, .ref (ad 0)), (1, .int v1), (2, .int v2)]) C0.x C0.b dX7_goBackFromFound_49 rfl hl (by decide) rfl (fun ls hl => ?_)
      refine lv_lload_n C0.x C0.b dX7_goBackFromFound_50 rfl (lv_at hl 0 rfl) ?_
      refine r_cS_i (As := [.long r14]) (rest := []) C0 hw (c_X7_isNumber  hV) (va_cwS 1 C0.ts gX7_goBackFromFound_X7_isNumber rfl rfl rfl hd_X7_isNumber ⟨Nat.le_of_ble_eq_true rfl, Nat.le_of_ble_eq_true rfl⟩) rfl hl.1 rfl (Nat.le_of_ble_eq_true rfl) ⟨Nat.le_of_ble_eq_true rfl, Nat.le_of_ble_eq_true rfl⟩ dX7_goBackFromFound_51 (fun r16 S17 H locs hV hw => ?_)
      refine lv_if_eq (tgt := 70) C0.x C0.b dX7_goBackFromFound_54 (by decide) (fun c18 => ?_) (fun c18 => ?_)
      · have hV := hV.1 c18
        obtain ⟨x19, ex19⟩ : ∃ z : Int32, z = v2 + 1 := ⟨_, rfl⟩
        have hV := hV x19 ex19
        refine lv_iinc (v := x19) (lv' := [(2, .int x19), (3, .long r14), (0, .ref (ad 0)), (1, .int v1)]) C0.x C0.b dX7_goBackFromFound_70 hl (k := 3) rfl (by rw [ex19]; rfl) (by decide) rfl (fun ls hl => ?_)
        refine lv_goto (tgt := 22) C0.x C0.b dX7_goBackFromFound_73 (by decide) ?_
        exact ih _ _ hV _ _ hw _ (lv_sub hl [2, 3, 0] rfl)
      · have hV := hV.2 c18
        refine lv_aload_n C0.x C0.b dX7_goBackFromFound_57 rfl (lv_at hl 1 rfl) ?_
        refine r_get C0 hw (C := RX7) (T := TX7) (N := 15) (v := .ref (ad 23)) iw_X7_goBackFromFound_X7 (lg_0 ad cI cJ X S17) rfl 8 (by decide) (C0.ts _ fw_X7_goBackFromFound_52) rfl dX7_goBackFromFound_58 ?_
        refine lv_lload_n C0.x C0.b dX7_goBackFromFound_61 rfl (lv_at hl 0 rfl) ?_
        refine r_cV_i (As := [.long r14]) (rest := []) C0 hw (c_X2_add (ln_23 ad cI cJ X) hV) (cwV 1 C0.ts gX7_goBackFromFound_X2_add rfl rfl rfl hd_X2_add ⟨Nat.le_of_ble_eq_true rfl, Nat.le_of_ble_eq_true rfl⟩) (lg_23 ad cI cJ X S17) rfl rfl hl.1 rfl (Nat.le_of_ble_eq_true rfl) ⟨Nat.le_of_ble_eq_true rfl, Nat.le_of_ble_eq_true rfl⟩ dX7_goBackFromFound_62 (fun r20 S21 H locs hV hw => ?_)
        refine lv_if_ne (tgt := 70) C0.x C0.b dX7_goBackFromFound_65 (by decide) (fun c22 => ?_) (fun c22 => ?_)
        · have hV := hV.2 c22
          obtain ⟨x23, ex23⟩ : ∃ z : Int32, z = v2 + 1 := ⟨_, rfl⟩
          have hV := hV x23 ex23
          refine lv_iinc (v := x23) (lv' := [(2, .int x23), (3, .long r14), (0, .ref (ad 0)), (1, .int v1)]) C0.x C0.b dX7_goBackFromFound_70 hl (k := 3) rfl (by rw [ex23]; rfl) (by decide) rfl (fun ls hl => ?_)
          refine lv_goto (tgt := 22) C0.x C0.b dX7_goBackFromFound_73 (by decide) ?_
          exact ih _ _ hV _ _ hw _ (lv_sub hl [2, 3, 0] rfl)
        · have hV := hV.1 c22
          refine lv_iconst (v := 0) C0.x C0.b dX7_goBackFromFound_68 (by decide) ?_
          exact r_zret C0 rfl bz_0 hw hV dX7_goBackFromFound_69
def V_X7_goBackFromFound_9    (post : Int32 → SS → Prop) : Nat → Int32 → SS → Prop
  | 0, _, _ => False
  | n + 1, v1, S =>
    (V_X2_size 8 13 1000 S (fun (r3 : Int32) (S4 : SS) => ((r3 ≤ v1 → (V_X2_become 8 13 1000 9 14 1000 S4 (fun (S7 : SS) => (post (1 : Int32) S7)))) ∧ (¬ r3 ≤ v1 → (∃ n22 : Nat, V_X7_goBackFromFound_22  v1 (fun w1 T => V_X7_goBackFromFound_9    post n w1 T) post n22 (0 : Int32) S4)))))
set_option maxHeartbeats 4000000 in
set_option maxRecDepth 100000 in
theorem lp_X7_goBackFromFound_9    (post : Int32 → SS → Prop) (C0 : Bd p s m meth c args cX7_goBackFromFound 5 (some .boolean) wsX7_goBackFromFound RX7 D n0 cI cJ) : ∀ (n : Nat) (v1 : Int32) (S : SS), V_X7_goBackFromFound_9    post n v1 S → ∀ (H : Heap) (locs : List Loc), Wh D n0 ad cI cJ X S s H locs → ∀ ls : Array Slot, lv_has ls 5 [(0, .ref (ad 0)), (1, .int v1)] → W p l e rm_X7_goBackFromFound s m args below meth c H locs 0 0 (MQ below (va_Qi post (fun S' t => Wd D n0 ad cI cJ X S' t) (fr n0)) args s 0 0 (fr n0)) (F0 m 9 ls []) := by
  intro n
  induction n with
  | zero => intro v1 S hV; exact False.elim hV
  | succ n ih =>
    intro v1 S hV H locs hw ls hl
    rw [V_X7_goBackFromFound_9] at hV
    refine lv_iload_n C0.x C0.b dX7_goBackFromFound_9 rfl (lv_at hl 1 rfl) ?_
    refine lv_aload_n C0.x C0.b dX7_goBackFromFound_10 rfl (lv_at hl 0 rfl) ?_
    refine r_get C0 hw (C := RX7) (T := TX7) (N := 15) (v := .ref (ad 21)) iw_X7_goBackFromFound_X7 (lg_0 ad cI cJ X S) rfl 7 (by decide) (C0.ts _ fw_X7_goBackFromFound_49) rfl dX7_goBackFromFound_11 ?_
    refine r_cV_i (As := []) (rest := [.int v1]) C0 hw (c_X2_size (ln_21 ad cI cJ X) hV) (cwV 0 C0.ts gX7_goBackFromFound_X2_size rfl rfl rfl hd_X2_size ⟨Nat.le_of_ble_eq_true rfl, Nat.le_of_ble_eq_true rfl⟩) (lg_21 ad cI cJ X S) rfl rfl hl.1 rfl (Nat.le_of_ble_eq_true rfl) ⟨Nat.le_of_ble_eq_true rfl, Nat.le_of_ble_eq_true rfl⟩ dX7_goBackFromFound_14 (fun r3 S4 H locs hV hw => ?_)
    refine lv_icmp_ge (tgt := 82) C0.x C0.b dX7_goBackFromFound_17 (by decide) (fun c5 => ?_) (fun c5 => ?_)
    · have hV := hV.1 c5
      refine lv_aload_n C0.x C0.b dX7_goBackFromFound_82 rfl (lv_at hl 0 rfl) ?_
      refine r_get C0 hw (C := RX7) (T := TX7) (N := 15) (v := .ref (ad 21)) iw_X7_goBackFromFound_X7 (lg_0 ad cI cJ X S4) rfl 7 (by decide) (C0.ts _ fw_X7_goBackFromFound_49) rfl dX7_goBackFromFound_83 ?_
      refine lv_aload_n C0.x C0.b dX7_goBackFromFound_86 rfl (lv_at hl 0 rfl) ?_
      refine r_get C0 hw (C := RX7) (T := TX7) (N := 15) (v := .ref (ad 23)) iw_X7_goBackFromFound_X7 (lg_0 ad cI cJ X S4) rfl 8 (by decide) (C0.ts _ fw_X7_goBackFromFound_52) rfl dX7_goBackFromFound_87 ?_
      refine r_cV_v (As := [.ref (ad 23)]) (rest := []) C0 hw (c_X2_become (ln_21 ad cI cJ X) (ln_23 ad cI cJ X) hV) (cwV 1 C0.ts gX7_goBackFromFound_X2_become rfl rfl rfl hd_X2_become ⟨Nat.le_of_ble_eq_true rfl, Nat.le_of_ble_eq_true rfl⟩) (lg_21 ad cI cJ X S4) rfl rfl hl.1 rfl (Nat.le_of_ble_eq_true rfl) ⟨Nat.le_of_ble_eq_true rfl, Nat.le_of_ble_eq_true rfl⟩ dX7_goBackFromFound_90 (fun S7 H locs hV hw => ?_)
      refine lv_iconst (v := 1) C0.x C0.b dX7_goBackFromFound_93 (by decide) ?_
      exact r_zret C0 rfl bz_1 hw hV dX7_goBackFromFound_94
    · have hV := hV.2 c5
      refine lv_iconst (v := 0) C0.x C0.b dX7_goBackFromFound_20 (by decide) ?_
      refine lv_istore_n (lv' := [(2, .int (0 : Int32)), (0, .ref (ad 0)), (1, .int v1)]) C0.x C0.b dX7_goBackFromFound_21 rfl hl (by decide) rfl (fun ls hl => ?_)
      obtain ⟨n22, hV⟩ := hV
      exact lp_X7_goBackFromFound_22  _ _ post C0 ih n22 _ _ hV _ _ hw _ (lv_sub hl [1, 2, 0] rfl)
def V_X7_goBackFromFound   (S : SS) (post : Int32 → SS → Prop) : Prop :=
  (V_X2_empty 9 14 1000 S (fun (S2 : SS) => (∃ n9 : Nat, V_X7_goBackFromFound_9    post n9 (0 : Int32) S2)))
set_option maxHeartbeats 4000000 in
set_option maxRecDepth 100000 in
theorem c_X7_goBackFromFound  {S : SS}  {post : Int32 → SS → Prop} (hV : V_X7_goBackFromFound   S post) : MI l yX7_goBackFromFound wsX7_goBackFromFound rm_X7_goBackFromFound [.ref (ad 0)] D n0 ad cI cJ X S post := by
  refine Met.ofW (cc := cX7_goBackFromFound) (maxL := 5) (ret := (some .boolean)) (by decide) rfl ?_
  intro p e s m args below meth c s₁ B hml hv
  obtain ⟨rfl, hv⟩ := hv
  have C0 := Bd.mk B hml (atoms_spec (ws := wsX7_goBackFromFound) B.pre) (findClass_of_methodNamed B.named) hv.1
  have hw : Wh D n0 ad cI cJ X S s s.heap [] := ⟨hv.2.1, hv.2.2, va_S.rf⟩
  refine r_entry (Nat.le_of_ble_eq_true rfl) (fun ls hl => ?_)
  have hl : lv_has ls 5 [(0, .ref (ad 0))] := hl
  unfold V_X7_goBackFromFound at hV
  refine lv_aload_n C0.x C0.b dX7_goBackFromFound_0 rfl (lv_at hl 0 rfl) ?_
  refine r_get C0 hw (C := RX7) (T := TX7) (N := 15) (v := .ref (ad 23)) iw_X7_goBackFromFound_X7 (lg_0 ad cI cJ X S) rfl 8 (by decide) (C0.ts _ fw_X7_goBackFromFound_52) rfl dX7_goBackFromFound_1 ?_
  refine r_cV_v (As := []) (rest := []) C0 hw (c_X2_empty (ln_23 ad cI cJ X) hV) (cwV 0 C0.ts gX7_goBackFromFound_X2_empty rfl rfl rfl hd_X2_empty ⟨Nat.le_of_ble_eq_true rfl, Nat.le_of_ble_eq_true rfl⟩) (lg_23 ad cI cJ X S) rfl rfl hl.1 rfl (Nat.le_of_ble_eq_true rfl) ⟨Nat.le_of_ble_eq_true rfl, Nat.le_of_ble_eq_true rfl⟩ dX7_goBackFromFound_4 (fun S2 H locs hV hw => ?_)
  refine lv_iconst (v := 0) C0.x C0.b dX7_goBackFromFound_7 (by decide) ?_
  refine lv_istore_n (lv' := [(1, .int (0 : Int32)), (0, .ref (ad 0))]) C0.x C0.b dX7_goBackFromFound_8 rfl hl (by decide) rfl (fun ls hl => ?_)
  obtain ⟨n9, hV⟩ := hV
  exact lp_X7_goBackFromFound_9   post C0  n9 _ _ hV _ _ hw _ (lv_sub hl [1, 0] rfl)
end
