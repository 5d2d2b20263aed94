section
variable {p : Program} {l : Launch} {e : Env} {s : State} {m : MethodId} {args : Array Value} {below : List Frame} {meth : Method} {c : Code}
variable {D : va_G} {n0 : Nat} {ad : Nat → Nat} {cI cJ : ClassId} {X : va_W}
/-! StepBench.backs(JI)I -/
abbrev rm_X7_backs : Room := { frames := 4, cells := 0, slots := 0, locals := 100 }
set_option maxRecDepth 20000 in
theorem fw_X7_backs_9 : Cond.fieldLink RX7 9 "StepBench" "ruleKind" "I" ∈ wsX7_backs := by decide +kernel
set_option maxRecDepth 20000 in
theorem iw_X7_backs_X7 : ∀ w ∈ wsX70, w ∈ wsX7_backs := by decide +kernel
set_option maxRecDepth 20000 in
theorem fw_X7_backs_49 : Cond.fieldLink RX7 49 "StepBench" "found" "LStepBench$Numbers;" ∈ wsX7_backs := by decide +kernel
set_option maxRecDepth 20000 in
theorem hd_X7_backs : yX7_backs.cls = RX7 ∧ yX7_backs.cls ≠ "java/lang/invoke/MethodHandle" ∧ yX7_backs.cls ≠ "java/lang/invoke/VarHandle" ∧ (parseMethodDescriptor yX7_backs.desc).map (fun d => d.parameters.length) = some 2 := by decide +kernel
def V_X7_backs_46  (v3 : Int32)  (post : Int32 → SS → Prop) : Nat → Int32 → SS → Prop
  | 0, _, _ => False
  | n + 1, v4, S =>
    ((v3 ≤ v4 → (V_X2_size 8 13 1000 S (fun (r12 : Int32) (S13 : SS) => (post r12 S13)))) ∧ (¬ v3 ≤ v4 → (V_X7_goBackFromFound  S (fun (r14 : Int32) (S15 : SS) => ((r14 = 0 → (post (-2 : Int32) S15)) ∧ (¬ r14 = 0 → (∀ x17 : Int32, x17 = v4 + 1 → (V_X7_backs_46  v3  post n x17 S15))))))))
set_option maxHeartbeats 4000000 in
set_option maxRecDepth 100000 in
theorem lp_X7_backs_46  (v3 : Int32)  (post : Int32 → SS → Prop) (C0 : Bd p s m meth c args cX7_backs 5 (some .int) wsX7_backs RX7 D n0 cI cJ) : ∀ (n : Nat) (v4 : Int32) (S : SS), V_X7_backs_46  v3  post n v4 S → ∀ (H : Heap) (locs : List Loc), Wh D n0 ad cI cJ X S s H locs → ∀ ls : Array Slot, lv_has ls 5 [(0, .ref (ad 0)), (3, .int v3), (4, .int v4)] → W p l e rm_X7_backs s m args below meth c H locs 0 0 (MQ below (va_Qi post (fun S' t => Wd D n0 ad cI cJ X S' t) (fr n0)) args s 0 0 (fr n0)) (F0 m 46 ls []) := by
  intro n
  induction n with
  | zero => intro v4 S hV; exact False.elim hV
  | succ n ih =>
    intro v4 S hV H locs hw ls hl
    rw [V_X7_backs_46] at hV
    refine lv_iload C0.x C0.b dX7_backs_46 (lv_at hl 2 rfl) ?_
    refine lv_iload_n C0.x C0.b dX7_backs_48 rfl (lv_at hl 1 rfl) ?_
    refine lv_icmp_ge (tgt := 68) C0.x C0.b dX7_backs_49 (by decide) (fun c11 => ?_) (fun c11 => ?_)
    · have hV := hV.1 c11
      refine lv_aload_n C0.x C0.b dX7_backs_68 rfl (lv_at hl 0 rfl) ?_
      refine r_get C0 hw (C := RX7) (T := TX7) (N := 15) (v := .ref (ad 21)) iw_X7_backs_X7 (lg_0 ad cI cJ X S) rfl 7 (by decide) (C0.ts _ fw_X7_backs_49) rfl dX7_backs_69 ?_
      refine r_cV_i (As := []) (rest := []) C0 hw (c_X2_size (ln_21 ad cI cJ X) hV) (cwV 0 C0.ts gX7_backs_X2_size rfl rfl rfl hd_X2_size ⟨Nat.le_of_ble_eq_true rfl, Nat.le_of_ble_eq_true rfl⟩) (lg_21 ad cI cJ X S) rfl rfl hl.1 rfl (Nat.le_of_ble_eq_true rfl) ⟨Nat.le_of_ble_eq_true rfl, Nat.le_of_ble_eq_true rfl⟩ dX7_backs_72 (fun r12 S13 H locs hV hw => ?_)
      exact r_iret C0 rfl hw hV dX7_backs_75
    · have hV := hV.2 c11
      refine lv_aload_n C0.x C0.b dX7_backs_52 rfl (lv_at hl 0 rfl) ?_
      refine r_cV_i (As := []) (rest := []) C0 hw (c_X7_goBackFromFound  hV) (cwV 0 C0.ts gX7_backs_X7_goBackFromFound rfl rfl rfl hd_X7_goBackFromFound ⟨Nat.le_of_ble_eq_true rfl, Nat.le_of_ble_eq_true rfl⟩) (lg_0 ad cI cJ X S) rfl rfl hl.1 rfl (Nat.le_of_ble_eq_true rfl) ⟨Nat.le_of_ble_eq_true rfl, Nat.le_of_ble_eq_true rfl⟩ dX7_backs_53 (fun r14 S15 H locs hV hw => ?_)
      refine lv_if_ne (tgt := 62) C0.x C0.b dX7_backs_56 (by decide) (fun c16 => ?_) (fun c16 => ?_)
      · have hV := hV.2 c16
        obtain ⟨x17, ex17⟩ : ∃ z : Int32, z = v4 + 1 := ⟨_, rfl⟩
        have hV := hV x17 ex17
        refine lv_iinc (v := x17) (lv' := [(4, .int x17), (0, .ref (ad 0)), (3, .int v3)]) C0.x C0.b dX7_backs_62 hl (k := 2) rfl (by rw [ex17]; rfl) (by decide) rfl (fun ls hl => ?_)
        refine lv_goto (tgt := 46) C0.x C0.b dX7_backs_65 (by decide) ?_
        exact ih _ _ hV _ _ hw _ (lv_sub hl [1, 2, 0] rfl)
      · have hV := hV.1 c16
        refine lv_bipush (v := -2) C0.x C0.b dX7_backs_59 (by decide) ?_
        exact r_iret C0 rfl hw hV dX7_backs_61
def V_X7_backs  (p0 : Int64) (p1 : Int32) (S : SS) (post : Int32 → SS → Prop) : Prop :=
  (((gI S 0) = (1 : Int32) → (V_X7_isNumber p0 S (fun (r2 : Int32) (S3 : SS) => ((r2 = 0 → (post (-1 : Int32) S3)) ∧ (¬ r2 = 0 → ((p1 < 0 → (post (-1 : Int32) S3)) ∧ (¬ p1 < 0 → ((p1 ≤ (20 : Int32) → (V_X2_empty 8 13 1000 S3 (fun (S8 : SS) => (V_X2_add 8 13 1000 p0 S8 (fun (r9 : Int32) (S10 : SS) => (∃ n46 : Nat, V_X7_backs_46  p1  post n46 (0 : Int32) S10)))))) ∧ (¬ p1 ≤ (20 : Int32) → (post (-1 : Int32) S3)))))))))) ∧ (¬ (gI S 0) = (1 : Int32) → (post (-1 : Int32) S)))
set_option maxHeartbeats 4000000 in
set_option maxRecDepth 100000 in
theorem c_X7_backs  {S : SS} {p0 : Int64} {p1 : Int32} {post : Int32 → SS → Prop} (hV : V_X7_backs  p0 p1 S post) : MI l yX7_backs wsX7_backs rm_X7_backs [.ref (ad 0), .long p0, .int p1] D n0 ad cI cJ X S post := by
  refine Met.ofW (cc := cX7_backs) (maxL := 5) (ret := (some .int)) (by decide) rfl ?_
  intro p e s m args below meth c s₁ B hml hv
  obtain ⟨rfl, hv⟩ := hv
  have C0 := Bd.mk B hml (atoms_spec (ws := wsX7_backs) B.pre) (findClass_of_methodNamed B.named) hv.1
  have hw : Wh D n0 ad cI cJ X S s s.heap [] := ⟨hv.2.1, hv.2.2, va_S.rf⟩
  refine r_entry (Nat.le_of_ble_eq_true rfl) (fun ls hl => ?_)
  have hl : lv_has ls 5 [(0, .ref (ad 0)), (1, .long p0), (3, .int p1)] := hl
  unfold V_X7_backs at hV
  refine lv_aload_n C0.x C0.b dX7_backs_0 rfl (lv_at hl 0 rfl) ?_
  refine r_get C0 hw (C := RX7) (T := TX7) (N := 15) (v := .int (gI S 0)) iw_X7_backs_X7 (lg_0 ad cI cJ X S) rfl 0 (by decide) (C0.ts _ fw_X7_backs_9) rfl dX7_backs_1 ?_
  refine lv_iconst (v := 1) C0.x C0.b dX7_backs_4 (by decide) ?_
  refine lv_icmp_ne (tgt := 25) C0.x C0.b dX7_backs_5 (by decide) (fun c1 => ?_) (fun c1 => ?_)
  · have hV := hV.2 c1
    refine lv_iconst (v := -1) C0.x C0.b dX7_backs_25 (by decide) ?_
    exact r_iret C0 rfl hw hV dX7_backs_26
  · have hV := hV.1 c1
    refine lv_lload_n C0.x C0.b dX7_backs_8 rfl (lv_at hl 1 rfl) ?_
    refine r_cS_i (As := [.long p0]) (rest := []) C0 hw (c_X7_isNumber  hV) (va_cwS 1 C0.ts gX7_backs_X7_isNumber rfl rfl rfl hd_X7_isNumber ⟨Nat.le_of_ble_eq_true rfl, Nat.le_of_ble_eq_true rfl⟩) rfl hl.1 rfl (Nat.le_of_ble_eq_true rfl) ⟨Nat.le_of_ble_eq_true rfl, Nat.le_of_ble_eq_true rfl⟩ dX7_backs_9 (fun r2 S3 H locs hV hw => ?_)
    refine lv_if_eq (tgt := 25) C0.x C0.b dX7_backs_12 (by decide) (fun c4 => ?_) (fun c4 => ?_)
    · have hV := hV.1 c4
      refine lv_iconst (v := -1) C0.x C0.b dX7_backs_25 (by decide) ?_
      exact r_iret C0 rfl hw hV dX7_backs_26
    · have hV := hV.2 c4
      refine lv_iload_n C0.x C0.b dX7_backs_15 rfl (lv_at hl 2 rfl) ?_
      refine lv_if_lt (tgt := 25) C0.x C0.b dX7_backs_16 (by decide) (fun c5 => ?_) (fun c5 => ?_)
      · have hV := hV.1 c5
        refine lv_iconst (v := -1) C0.x C0.b dX7_backs_25 (by decide) ?_
        exact r_iret C0 rfl hw hV dX7_backs_26
      · have hV := hV.2 c5
        refine lv_iload_n C0.x C0.b dX7_backs_19 rfl (lv_at hl 2 rfl) ?_
        refine lv_bipush (v := 20) C0.x C0.b dX7_backs_20 (by decide) ?_
        refine lv_icmp_le (tgt := 27) C0.x C0.b dX7_backs_22 (by decide) (fun c6 => ?_) (fun c6 => ?_)
        · have hV := hV.1 c6
          refine lv_aload_n C0.x C0.b dX7_backs_27 rfl (lv_at hl 0 rfl) ?_
          refine r_get C0 hw (C := RX7) (T := TX7) (N := 15) (v := .ref (ad 21)) iw_X7_backs_X7 (lg_0 ad cI cJ X S3) rfl 7 (by decide) (C0.ts _ fw_X7_backs_49) rfl dX7_backs_28 ?_
          refine r_cV_v (As := []) (rest := []) C0 hw (c_X2_empty (ln_21 ad cI cJ X) hV) (cwV 0 C0.ts gX7_backs_X2_empty rfl rfl rfl hd_X2_empty ⟨Nat.le_of_ble_eq_true rfl, Nat.le_of_ble_eq_true rfl⟩) (lg_21 ad cI cJ X S3) rfl rfl hl.1 rfl (Nat.le_of_ble_eq_true rfl) ⟨Nat.le_of_ble_eq_true rfl, Nat.le_of_ble_eq_true rfl⟩ dX7_backs_31 (fun S8 H locs hV hw => ?_)
          refine lv_aload_n C0.x C0.b dX7_backs_34 rfl (lv_at hl 0 rfl) ?_
          refine r_get C0 hw (C := RX7) (T := TX7) (N := 15) (v := .ref (ad 21)) iw_X7_backs_X7 (lg_0 ad cI cJ X S8) rfl 7 (by decide) (C0.ts _ fw_X7_backs_49) rfl dX7_backs_35 ?_
          refine lv_lload_n C0.x C0.b dX7_backs_38 rfl (lv_at hl 1 rfl) ?_
          refine r_cV_i (As := [.long p0]) (rest := []) C0 hw (c_X2_add (ln_21 ad cI cJ X) hV) (cwV 1 C0.ts gX7_backs_X2_add rfl rfl rfl hd_X2_add ⟨Nat.le_of_ble_eq_true rfl, Nat.le_of_ble_eq_true rfl⟩) (lg_21 ad cI cJ X S8) rfl rfl hl.1 rfl (Nat.le_of_ble_eq_true rfl) ⟨Nat.le_of_ble_eq_true rfl, Nat.le_of_ble_eq_true rfl⟩ dX7_backs_39 (fun r9 S10 H locs hV hw => ?_)
          refine lv_pop C0.x C0.b dX7_backs_42 rfl ?_
          refine lv_iconst (v := 0) C0.x C0.b dX7_backs_43 (by decide) ?_
          refine lv_istore (lv' := [(4, .int (0 : Int32)), (0, .ref (ad 0)), (1, .long p0), (3, .int p1)]) C0.x C0.b dX7_backs_44 hl (by decide) rfl (fun ls hl => ?_)
          obtain ⟨n46, hV⟩ := hV
          exact lp_X7_backs_46  _ post C0  n46 _ _ hV _ _ hw _ (lv_sub hl [1, 3, 0] rfl)
        · have hV := hV.2 c6
          refine lv_iconst (v := -1) C0.x C0.b dX7_backs_25 (by decide) ?_
          exact r_iret C0 rfl hw hV dX7_backs_26
/-! StepBench.both()I -/
abbrev rm_X7_both : Room := { frames := 4, cells := 0, slots := 0, locals := 88 }
set_option maxRecDepth 20000 in
theorem fw_X7_both_9 : Cond.fieldLink RX7 9 "StepBench" "ruleKind" "I" ∈ wsX7_both := by decide +kernel
set_option maxRecDepth 20000 in
theorem iw_X7_both_X7 : ∀ w ∈ wsX70, w ∈ wsX7_both := by decide +kernel
set_option maxRecDepth 20000 in
theorem fw_X7_both_16 : Cond.fieldLink RX7 16 "StepBench" "rule" "LStepBench$Shares;" ∈ wsX7_both := by decide +kernel
set_option maxRecDepth 20000 in
theorem cw_X7_both_281 : Cond.constant RX7 281 100000 ∈ wsX7_both := by decide +kernel
set_option maxRecDepth 20000 in
theorem hd_X7_both : yX7_both.cls = RX7 ∧ yX7_both.cls ≠ "java/lang/invoke/MethodHandle" ∧ yX7_both.cls ≠ "java/lang/invoke/VarHandle" ∧ (parseMethodDescriptor yX7_both.desc).map (fun d => d.parameters.length) = some 0 := by decide +kernel
def V_X7_both   (S : SS) (post : Int32 → SS → Prop) : Prop :=
  (((gI S 0) = (1 : Int32) → (V_X5_hasNoShare 1 0 1 2 S (fun (r2 : Int32) (S3 : SS) => ((r2 = 0 → (V_X5_commonStride 1 0 1 2 S3 (fun (r5 : Int32) (S6 : SS) => ((r5 ≤ (100000 : Int32) → (V_X5_fillsOnce 1 0 1 2 r5 S6 (fun (r8 : Int32) (S9 : SS) => ((r8 = 0 → (post (0 : Int32) S9)) ∧ (¬ r8 = 0 → (post (1 : Int32) S9)))))) ∧ (¬ r5 ≤ (100000 : Int32) → (post (-2 : Int32) S6)))))) ∧ (¬ r2 = 0 → (post (0 : Int32) S3)))))) ∧ (¬ (gI S 0) = (1 : Int32) → (post (-1 : Int32) S)))
set_option maxHeartbeats 4000000 in
set_option maxRecDepth 100000 in
theorem c_X7_both  {S : SS}  {post : Int32 → SS → Prop} (hV : V_X7_both   S post) : MI l yX7_both wsX7_both rm_X7_both [.ref (ad 0)] D n0 ad cI cJ X S post := by
  refine Met.ofW (cc := cX7_both) (maxL := 2) (ret := (some .int)) (by decide) rfl ?_
  intro p e s m args below meth c s₁ B hml hv
  obtain ⟨rfl, hv⟩ := hv
  have C0 := Bd.mk B hml (atoms_spec (ws := wsX7_both) B.pre) (findClass_of_methodNamed B.named) hv.1
  have hw : Wh D n0 ad cI cJ X S s s.heap [] := ⟨hv.2.1, hv.2.2, va_S.rf⟩
  refine r_entry (Nat.le_of_ble_eq_true rfl) (fun ls hl => ?_)
  have hl : lv_has ls 2 [(0, .ref (ad 0))] := hl
  unfold V_X7_both at hV
  refine lv_aload_n C0.x C0.b dX7_both_0 rfl (lv_at hl 0 rfl) ?_
  refine r_get C0 hw (C := RX7) (T := TX7) (N := 15) (v := .int (gI S 0)) iw_X7_both_X7 (lg_0 ad cI cJ X S) rfl 0 (by decide) (C0.ts _ fw_X7_both_9) rfl dX7_both_1 ?_
  refine lv_iconst (v := 1) C0.x C0.b dX7_both_4 (by decide) ?_
  refine lv_icmp_eq (tgt := 10) C0.x C0.b dX7_both_5 (by decide) (fun c1 => ?_) (fun c1 => ?_)
  · have hV := hV.1 c1
    refine lv_aload_n C0.x C0.b dX7_both_10 rfl (lv_at hl 0 rfl) ?_
    refine r_get C0 hw (C := RX7) (T := TX7) (N := 15) (v := .ref (ad 1)) iw_X7_both_X7 (lg_0 ad cI cJ X S) rfl 1 (by decide) (C0.ts _ fw_X7_both_16) rfl dX7_both_11 ?_
    refine r_cV_i (As := []) (rest := []) C0 hw (c_X5_hasNoShare (ln_1 ad cI cJ X) hV) (cwV 0 C0.ts gX7_both_X5_hasNoShare rfl rfl rfl hd_X5_hasNoShare ⟨Nat.le_of_ble_eq_true rfl, Nat.le_of_ble_eq_true rfl⟩) (lg_1 ad cI cJ X S) rfl rfl hl.1 rfl (Nat.le_of_ble_eq_true rfl) ⟨Nat.le_of_ble_eq_true rfl, Nat.le_of_ble_eq_true rfl⟩ dX7_both_14 (fun r2 S3 H locs hV hw => ?_)
    refine lv_if_eq (tgt := 22) C0.x C0.b dX7_both_17 (by decide) (fun c4 => ?_) (fun c4 => ?_)
    · have hV := hV.1 c4
      refine lv_aload_n C0.x C0.b dX7_both_22 rfl (lv_at hl 0 rfl) ?_
      refine r_get C0 hw (C := RX7) (T := TX7) (N := 15) (v := .ref (ad 1)) iw_X7_both_X7 (lg_0 ad cI cJ X S3) rfl 1 (by decide) (C0.ts _ fw_X7_both_16) rfl dX7_both_23 ?_
      refine r_cV_i (As := []) (rest := []) C0 hw (c_X5_commonStride (ln_1 ad cI cJ X) hV) (cwV 0 C0.ts gX7_both_X5_commonStride rfl rfl rfl hd_X5_commonStride ⟨Nat.le_of_ble_eq_true rfl, Nat.le_of_ble_eq_true rfl⟩) (lg_1 ad cI cJ X S3) rfl rfl hl.1 rfl (Nat.le_of_ble_eq_true rfl) ⟨Nat.le_of_ble_eq_true rfl, Nat.le_of_ble_eq_true rfl⟩ dX7_both_26 (fun r5 S6 H locs hV hw => ?_)
      refine lv_istore_n (lv' := [(1, .int r5), (0, .ref (ad 0))]) C0.x C0.b dX7_both_29 rfl hl (by decide) rfl (fun ls hl => ?_)
      refine lv_iload_n C0.x C0.b dX7_both_30 rfl (lv_at hl 0 rfl) ?_
      refine lv_ldcw (v := 100000) C0.x C0.b C0.ow (C0.ts _ cw_X7_both_281) dX7_both_31 ?_
      refine lv_icmp_le (tgt := 40) C0.x C0.b dX7_both_34 (by decide) (fun c7 => ?_) (fun c7 => ?_)
      · have hV := hV.1 c7
        refine lv_aload_n C0.x C0.b dX7_both_40 rfl (lv_at hl 1 rfl) ?_
        refine r_get C0 hw (C := RX7) (T := TX7) (N := 15) (v := .ref (ad 1)) iw_X7_both_X7 (lg_0 ad cI cJ X S6) rfl 1 (by decide) (C0.ts _ fw_X7_both_16) rfl dX7_both_41 ?_
        refine lv_iload_n C0.x C0.b dX7_both_44 rfl (lv_at hl 0 rfl) ?_
        refine r_cV_i (As := [.int r5]) (rest := []) C0 hw (c_X5_fillsOnce (ln_1 ad cI cJ X) hV) (cwV 1 C0.ts gX7_both_X5_fillsOnce rfl rfl rfl hd_X5_fillsOnce ⟨Nat.le_of_ble_eq_true rfl, Nat.le_of_ble_eq_true rfl⟩) (lg_1 ad cI cJ X S6) rfl rfl hl.1 rfl (Nat.le_of_ble_eq_true rfl) ⟨Nat.le_of_ble_eq_true rfl, Nat.le_of_ble_eq_true rfl⟩ dX7_both_45 (fun r8 S9 H locs hV hw => ?_)
        refine lv_if_eq (tgt := 55) C0.x C0.b dX7_both_48 (by decide) (fun c10 => ?_) (fun c10 => ?_)
        · have hV := hV.1 c10
          refine lv_iconst (v := 0) C0.x C0.b dX7_both_55 (by decide) ?_
          exact r_iret C0 rfl hw hV dX7_both_56
        · have hV := hV.2 c10
          refine lv_iconst (v := 1) C0.x C0.b dX7_both_51 (by decide) ?_
          refine lv_goto (tgt := 56) C0.x C0.b dX7_both_52 (by decide) ?_
          exact r_iret C0 rfl hw hV dX7_both_56
      · have hV := hV.2 c7
        refine lv_bipush (v := -2) C0.x C0.b dX7_both_37 (by decide) ?_
        exact r_iret C0 rfl hw hV dX7_both_39
    · have hV := hV.2 c4
      refine lv_iconst (v := 0) C0.x C0.b dX7_both_20 (by decide) ?_
      exact r_iret C0 rfl hw hV dX7_both_21
  · have hV := hV.2 c1
    refine lv_iconst (v := -1) C0.x C0.b dX7_both_8 (by decide) ?_
    exact r_iret C0 rfl hw hV dX7_both_9
/-! StepBench.turnRest(I)V -/
abbrev rm_X7_turnRest : Room := { frames := 4, cells := 0, slots := 0, locals := 86 }
set_option maxRecDepth 20000 in
theorem fw_X7_turnRest_16 : Cond.fieldLink RX7 16 "StepBench" "rule" "LStepBench$Shares;" ∈ wsX7_turnRest := by decide +kernel
set_option maxRecDepth 20000 in
theorem iw_X7_turnRest_X7 : ∀ w ∈ wsX70, w ∈ wsX7_turnRest := by decide +kernel
set_option maxRecDepth 20000 in
theorem fw_X7_turnRest_23 : Cond.fieldLink RX7 23 "StepBench" "turned" "LStepBench$Shares;" ∈ wsX7_turnRest := by decide +kernel
set_option maxRecDepth 20000 in
theorem cw_X7_turnRest_404 : Cond.constantLong RX7 404 (-1) ∈ wsX7_turnRest := by decide +kernel
set_option maxRecDepth 20000 in
theorem hd_X7_turnRest : yX7_turnRest.cls = RX7 ∧ yX7_turnRest.cls ≠ "java/lang/invoke/MethodHandle" ∧ yX7_turnRest.cls ≠ "java/lang/invoke/VarHandle" ∧ (parseMethodDescriptor yX7_turnRest.desc).map (fun d => d.parameters.length) = some 1 := by decide +kernel
def V_X7_turnRest  (p0 : Int32) (S : SS) (post : SS → Prop) : Prop :=
  (V_X5_restThatComesTo 1 0 1 2 p0.toInt64 S (fun (r1 : Int32) (S2 : SS) => (V_X5_a 1 0 1 2 r1 S2 (fun (r3 : Int64) (S4 : SS) => (((0 : Int64) ≤ r3 → (V_X5_d 1 0 1 2 r1 S4 (fun (r6 : Int64) (S7 : SS) => (∀ y8 : Int64, y8 = ((1 : Int64) * r6) → (V_X5_b 1 0 1 2 r1 S7 (fun (r9 : Int64) (S10 : SS) => (∀ y11 : Int64, y11 = ((-(1 : Int64)) * r9) → (V_X5_a 1 0 1 2 r1 S10 (fun (r12 : Int64) (S13 : SS) => (∀ y14 : Int64, y14 = ((1 : Int64) * r12) → (V_X7_commonDivisor y8 y11 S13 (fun (r15 : Int64) (S16 : SS) => (V_X7_commonDivisor r15 y14 S16 (fun (r17 : Int64) (S18 : SS) => (¬ r17 = 0 ∧ (V_X5_write 3 6 7 8 p0 (0 : Int32) (y8 / r17) S18 (fun (S20 : SS) => (¬ r17 = 0 ∧ (V_X5_write 3 6 7 8 p0 (1 : Int32) (y11 / r17) S20 (fun (S22 : SS) => (¬ r17 = 0 ∧ (V_X5_write 3 6 7 8 p0 (2 : Int32) (y14 / r17) S22 (fun (S24 : SS) => (post S24)))))))))))))))))))))))) ∧ (¬ (0 : Int64) ≤ r3 → (V_X5_d 1 0 1 2 r1 S4 (fun (r25 : Int64) (S26 : SS) => (∀ y27 : Int64, y27 = ((-1 : Int64) * r25) → (V_X5_b 1 0 1 2 r1 S26 (fun (r28 : Int64) (S29 : SS) => (∀ y30 : Int64, y30 = ((-(-1 : Int64)) * r28) → (V_X5_a 1 0 1 2 r1 S29 (fun (r31 : Int64) (S32 : SS) => (∀ y33 : Int64, y33 = ((-1 : Int64) * r31) → (V_X7_commonDivisor y27 y30 S32 (fun (r34 : Int64) (S35 : SS) => (V_X7_commonDivisor r34 y33 S35 (fun (r36 : Int64) (S37 : SS) => (¬ r36 = 0 ∧ (V_X5_write 3 6 7 8 p0 (0 : Int32) (y27 / r36) S37 (fun (S39 : SS) => (¬ r36 = 0 ∧ (V_X5_write 3 6 7 8 p0 (1 : Int32) (y30 / r36) S39 (fun (S41 : SS) => (¬ r36 = 0 ∧ (V_X5_write 3 6 7 8 p0 (2 : Int32) (y33 / r36) S41 (fun (S43 : SS) => (post S43)))))))))))))))))))))))))))))
set_option maxHeartbeats 4000000 in
set_option maxRecDepth 100000 in
theorem c_X7_turnRest  {S : SS} {p0 : Int32} {post : SS → Prop} (hV : V_X7_turnRest  p0 S post) : MV l yX7_turnRest wsX7_turnRest rm_X7_turnRest [.ref (ad 0), .int p0] D n0 ad cI cJ X S post := by
  refine Met.ofW (cc := cX7_turnRest) (maxL := 13) (ret := none) (by decide) rfl ?_
  intro p e s m args below meth c s₁ B hml hv
  obtain ⟨rfl, hv⟩ := hv
  have C0 := Bd.mk B hml (atoms_spec (ws := wsX7_turnRest) B.pre) (findClass_of_methodNamed B.named) hv.1
  have hw : Wh D n0 ad cI cJ X S s s.heap [] := ⟨hv.2.1, hv.2.2, va_S.rf⟩
  refine r_entry (Nat.le_of_ble_eq_true rfl) (fun ls hl => ?_)
  have hl : lv_has ls 13 [(0, .ref (ad 0)), (1, .int p0)] := hl
  unfold V_X7_turnRest at hV
  refine lv_aload_n C0.x C0.b dX7_turnRest_0 rfl (lv_at hl 0 rfl) ?_
  refine r_get C0 hw (C := RX7) (T := TX7) (N := 15) (v := .ref (ad 1)) iw_X7_turnRest_X7 (lg_0 ad cI cJ X S) rfl 1 (by decide) (C0.ts _ fw_X7_turnRest_16) rfl dX7_turnRest_1 ?_
  refine lv_iload_n C0.x C0.b dX7_turnRest_4 rfl (lv_at hl 1 rfl) ?_
  refine lv_i2l C0.x C0.b dX7_turnRest_5 rfl ?_
  refine r_cV_i (As := [.long p0.toInt64]) (rest := []) C0 hw (c_X5_restThatComesTo (ln_1 ad cI cJ X) hV) (cwV 1 C0.ts gX7_turnRest_X5_restThatComesTo rfl rfl rfl hd_X5_restThatComesTo ⟨Nat.le_of_ble_eq_true rfl, Nat.le_of_ble_eq_true rfl⟩) (lg_1 ad cI cJ X S) rfl rfl hl.1 rfl (Nat.le_of_ble_eq_true rfl) ⟨Nat.le_of_ble_eq_true rfl, Nat.le_of_ble_eq_true rfl⟩ dX7_turnRest_6 (fun r1 S2 H locs hV hw => ?_)
  refine lv_istore_n (lv' := [(2, .int r1), (0, .ref (ad 0)), (1, .int p0)]) C0.x C0.b dX7_turnRest_9 rfl hl (by decide) rfl (fun ls hl => ?_)
  refine lv_aload_n C0.x C0.b dX7_turnRest_10 rfl (lv_at hl 1 rfl) ?_
  refine r_get C0 hw (C := RX7) (T := TX7) (N := 15) (v := .ref (ad 1)) iw_X7_turnRest_X7 (lg_0 ad cI cJ X S2) rfl 1 (by decide) (C0.ts _ fw_X7_turnRest_16) rfl dX7_turnRest_11 ?_
  refine lv_iload_n C0.x C0.b dX7_turnRest_14 rfl (lv_at hl 0 rfl) ?_
  refine r_cV_l (As := [.int r1]) (rest := []) C0 hw (c_X5_a (ln_1 ad cI cJ X) hV) (cwV 1 C0.ts gX7_turnRest_X5_a rfl rfl rfl hd_X5_a ⟨Nat.le_of_ble_eq_true rfl, Nat.le_of_ble_eq_true rfl⟩) (lg_1 ad cI cJ X S2) rfl rfl hl.1 rfl (Nat.le_of_ble_eq_true rfl) ⟨Nat.le_of_ble_eq_true rfl, Nat.le_of_ble_eq_true rfl⟩ dX7_turnRest_15 (fun r3 S4 H locs hV hw => ?_)
  refine lv_lconst (v := 0) C0.x C0.b dX7_turnRest_18 (by decide) ?_
  refine r_lcmp C0 dX7_turnRest_19 ?_
  refine lv_if_ge (tgt := 29) C0.x C0.b dX7_turnRest_20 (by decide) (fun c5 => ?_) (fun c5 => ?_)
  · have hV := hV.1 ((lc_ge _ _).mp c5)
    refine lv_lconst (v := 1) C0.x C0.b dX7_turnRest_29 (by decide) ?_
    refine lv_lstore_n (lv' := [(3, .long (1 : Int64)), (2, .int r1), (0, .ref (ad 0)), (1, .int p0)]) C0.x C0.b dX7_turnRest_30 rfl hl (by decide) rfl (fun ls hl => ?_)
    refine lv_lload_n C0.x C0.b dX7_turnRest_31 rfl (lv_at hl 0 rfl) ?_
    refine lv_aload_n C0.x C0.b dX7_turnRest_32 rfl (lv_at hl 2 rfl) ?_
    refine r_get C0 hw (C := RX7) (T := TX7) (N := 15) (v := .ref (ad 1)) iw_X7_turnRest_X7 (lg_0 ad cI cJ X S4) rfl 1 (by decide) (C0.ts _ fw_X7_turnRest_16) rfl dX7_turnRest_33 ?_
    refine lv_iload_n C0.x C0.b dX7_turnRest_36 rfl (lv_at hl 1 rfl) ?_
    refine r_cV_l (As := [.int r1]) (rest := [.long (1 : Int64)]) C0 hw (c_X5_d (ln_1 ad cI cJ X) hV) (cwV 1 C0.ts gX7_turnRest_X5_d rfl rfl rfl hd_X5_d ⟨Nat.le_of_ble_eq_true rfl, Nat.le_of_ble_eq_true rfl⟩) (lg_1 ad cI cJ X S4) rfl rfl hl.1 rfl (Nat.le_of_ble_eq_true rfl) ⟨Nat.le_of_ble_eq_true rfl, Nat.le_of_ble_eq_true rfl⟩ dX7_turnRest_37 (fun r6 S7 H locs hV hw => ?_)
    refine lv_lmul C0.x C0.b dX7_turnRest_40 ?_
    refine lv_topl (fun y8 ey8 => ?_)
    have hV := hV y8 ey8
    refine lv_lstore (lv' := [(5, .long y8), (3, .long (1 : Int64)), (2, .int r1), (0, .ref (ad 0)), (1, .int p0)]) C0.x C0.b dX7_turnRest_41 hl (by decide) rfl (fun ls hl => ?_)
    refine lv_lload_n C0.x C0.b dX7_turnRest_43 rfl (lv_at hl 1 rfl) ?_
    refine lv_lneg C0.x C0.b dX7_turnRest_44 ?_
    refine lv_aload_n C0.x C0.b dX7_turnRest_45 rfl (lv_at hl 3 rfl) ?_
    refine r_get C0 hw (C := RX7) (T := TX7) (N := 15) (v := .ref (ad 1)) iw_X7_turnRest_X7 (lg_0 ad cI cJ X S7) rfl 1 (by decide) (C0.ts _ fw_X7_turnRest_16) rfl dX7_turnRest_46 ?_
    refine lv_iload_n C0.x C0.b dX7_turnRest_49 rfl (lv_at hl 2 rfl) ?_
    refine r_cV_l (As := [.int r1]) (rest := [.long (-(1 : Int64))]) C0 hw (c_X5_b (ln_1 ad cI cJ X) hV) (cwV 1 C0.ts gX7_turnRest_X5_b rfl rfl rfl hd_X5_b ⟨Nat.le_of_ble_eq_true rfl, Nat.le_of_ble_eq_true rfl⟩) (lg_1 ad cI cJ X S7) rfl rfl hl.1 rfl (Nat.le_of_ble_eq_true rfl) ⟨Nat.le_of_ble_eq_true rfl, Nat.le_of_ble_eq_true rfl⟩ dX7_turnRest_50 (fun r9 S10 H locs hV hw => ?_)
    refine lv_lmul C0.x C0.b dX7_turnRest_53 ?_
    refine lv_topl (fun y11 ey11 => ?_)
    have hV := hV y11 ey11
    refine lv_lstore (lv' := [(7, .long y11), (5, .long y8), (3, .long (1 : Int64)), (2, .int r1), (0, .ref (ad 0)), (1, .int p0)]) C0.x C0.b dX7_turnRest_54 hl (by decide) rfl (fun ls hl => ?_)
    refine lv_lload_n C0.x C0.b dX7_turnRest_56 rfl (lv_at hl 2 rfl) ?_
    refine lv_aload_n C0.x C0.b dX7_turnRest_57 rfl (lv_at hl 4 rfl) ?_
    refine r_get C0 hw (C := RX7) (T := TX7) (N := 15) (v := .ref (ad 1)) iw_X7_turnRest_X7 (lg_0 ad cI cJ X S10) rfl 1 (by decide) (C0.ts _ fw_X7_turnRest_16) rfl dX7_turnRest_58 ?_
    refine lv_iload_n C0.x C0.b dX7_turnRest_61 rfl (lv_at hl 3 rfl) ?_
    refine r_cV_l (As := [.int r1]) (rest := [.long (1 : Int64)]) C0 hw (c_X5_a (ln_1 ad cI cJ X) hV) (cwV 1 C0.ts gX7_turnRest_X5_a rfl rfl rfl hd_X5_a ⟨Nat.le_of_ble_eq_true rfl, Nat.le_of_ble_eq_true rfl⟩) (lg_1 ad cI cJ X S10) rfl rfl hl.1 rfl (Nat.le_of_ble_eq_true rfl) ⟨Nat.le_of_ble_eq_true rfl, Nat.le_of_ble_eq_true rfl⟩ dX7_turnRest_62 (fun r12 S13 H locs hV hw => ?_)
    refine lv_lmul C0.x C0.b dX7_turnRest_65 ?_
    refine lv_topl (fun y14 ey14 => ?_)
    have hV := hV y14 ey14
    refine lv_lstore (lv' := [(9, .long y14), (7, .long y11), (5, .long y8), (3, .long (1 : Int64)), (2, .int r1), (0, .ref (ad 0)), (1, .int p0)]) C0.x C0.b dX7_turnRest_66 hl (by decide) rfl (fun ls hl => ?_)
    refine lv_lload C0.x C0.b dX7_turnRest_68 (lv_at hl 2 rfl) ?_
    refine lv_lload C0.x C0.b dX7_turnRest_70 (lv_at hl 1 rfl) ?_
    refine r_cS_l (As := [.long y8, .long y11]) (rest := []) C0 hw (c_X7_commonDivisor  hV) (va_cwS 2 C0.ts gX7_turnRest_X7_commonDivisor rfl rfl rfl hd_X7_commonDivisor ⟨Nat.le_of_ble_eq_true rfl, Nat.le_of_ble_eq_true rfl⟩) rfl hl.1 rfl (Nat.le_of_ble_eq_true rfl) ⟨Nat.le_of_ble_eq_true rfl, Nat.le_of_ble_eq_true rfl⟩ dX7_turnRest_72 (fun r15 S16 H locs hV hw => ?_)
    refine lv_lload C0.x C0.b dX7_turnRest_75 (lv_at hl 0 rfl) ?_
    refine r_cS_l (As := [.long r15, .long y14]) (rest := []) C0 hw (c_X7_commonDivisor  hV) (va_cwS 2 C0.ts gX7_turnRest_X7_commonDivisor rfl rfl rfl hd_X7_commonDivisor ⟨Nat.le_of_ble_eq_true rfl, Nat.le_of_ble_eq_true rfl⟩) rfl hl.1 rfl (Nat.le_of_ble_eq_true rfl) ⟨Nat.le_of_ble_eq_true rfl, Nat.le_of_ble_eq_true rfl⟩ dX7_turnRest_77 (fun r17 S18 H locs hV hw => ?_)
    refine lv_lstore (lv' := [(11, .long r17), (9, .long y14), (7, .long y11), (5, .long y8), (3, .long (1 : Int64)), (2, .int r1), (0, .ref (ad 0)), (1, .int p0)]) C0.x C0.b dX7_turnRest_80 hl (by decide) rfl (fun ls hl => ?_)
    refine lv_aload_n C0.x C0.b dX7_turnRest_82 rfl (lv_at hl 6 rfl) ?_
    refine r_get C0 hw (C := RX7) (T := TX7) (N := 15) (v := .ref (ad 9)) iw_X7_turnRest_X7 (lg_0 ad cI cJ X S18) rfl 3 (by decide) (C0.ts _ fw_X7_turnRest_23) rfl dX7_turnRest_83 ?_
    refine lv_iload_n C0.x C0.b dX7_turnRest_86 rfl (lv_at hl 7 rfl) ?_
    refine lv_iconst (v := 0) C0.x C0.b dX7_turnRest_87 (by decide) ?_
    refine lv_lload C0.x C0.b dX7_turnRest_88 (lv_at hl 3 rfl) ?_
    refine lv_lload C0.x C0.b dX7_turnRest_90 (lv_at hl 0 rfl) ?_
    refine lv_ldiv C0.x C0.b dX7_turnRest_92 hV.1 ?_
    have hV := hV.2
    refine r_cV_v (As := [.int p0, .int (0 : Int32), .long (y8 / r17)]) (rest := []) C0 hw (c_X5_write (ln_9 ad cI cJ X) hV) (cwV 3 C0.ts gX7_turnRest_X5_write rfl rfl rfl hd_X5_write ⟨Nat.le_of_ble_eq_true rfl, Nat.le_of_ble_eq_true rfl⟩) (lg_9 ad cI cJ X S18) rfl rfl hl.1 rfl (Nat.le_of_ble_eq_true rfl) ⟨Nat.le_of_ble_eq_true rfl, Nat.le_of_ble_eq_true rfl⟩ dX7_turnRest_93 (fun S20 H locs hV hw => ?_)
    refine lv_aload_n C0.x C0.b dX7_turnRest_96 rfl (lv_at hl 6 rfl) ?_
    refine r_get C0 hw (C := RX7) (T := TX7) (N := 15) (v := .ref (ad 9)) iw_X7_turnRest_X7 (lg_0 ad cI cJ X S20) rfl 3 (by decide) (C0.ts _ fw_X7_turnRest_23) rfl dX7_turnRest_97 ?_
    refine lv_iload_n C0.x C0.b dX7_turnRest_100 rfl (lv_at hl 7 rfl) ?_
    refine lv_iconst (v := 1) C0.x C0.b dX7_turnRest_101 (by decide) ?_
    refine lv_lload C0.x C0.b dX7_turnRest_102 (lv_at hl 2 rfl) ?_
    refine lv_lload C0.x C0.b dX7_turnRest_104 (lv_at hl 0 rfl) ?_
    refine lv_ldiv C0.x C0.b dX7_turnRest_106 hV.1 ?_
    have hV := hV.2
    refine r_cV_v (As := [.int p0, .int (1 : Int32), .long (y11 / r17)]) (rest := []) C0 hw (c_X5_write (ln_9 ad cI cJ X) hV) (cwV 3 C0.ts gX7_turnRest_X5_write rfl rfl rfl hd_X5_write ⟨Nat.le_of_ble_eq_true rfl, Nat.le_of_ble_eq_true rfl⟩) (lg_9 ad cI cJ X S20) rfl rfl hl.1 rfl (Nat.le_of_ble_eq_true rfl) ⟨Nat.le_of_ble_eq_true rfl, Nat.le_of_ble_eq_true rfl⟩ dX7_turnRest_107 (fun S22 H locs hV hw => ?_)
    refine lv_aload_n C0.x C0.b dX7_turnRest_110 rfl (lv_at hl 6 rfl) ?_
    refine r_get C0 hw (C := RX7) (T := TX7) (N := 15) (v := .ref (ad 9)) iw_X7_turnRest_X7 (lg_0 ad cI cJ X S22) rfl 3 (by decide) (C0.ts _ fw_X7_turnRest_23) rfl dX7_turnRest_111 ?_
    refine lv_iload_n C0.x C0.b dX7_turnRest_114 rfl (lv_at hl 7 rfl) ?_
    refine lv_iconst (v := 2) C0.x C0.b dX7_turnRest_115 (by decide) ?_
    refine lv_lload C0.x C0.b dX7_turnRest_116 (lv_at hl 1 rfl) ?_
    refine lv_lload C0.x C0.b dX7_turnRest_118 (lv_at hl 0 rfl) ?_
    refine lv_ldiv C0.x C0.b dX7_turnRest_120 hV.1 ?_
    have hV := hV.2
    refine r_cV_v (As := [.int p0, .int (2 : Int32), .long (y14 / r17)]) (rest := []) C0 hw (c_X5_write (ln_9 ad cI cJ X) hV) (cwV 3 C0.ts gX7_turnRest_X5_write rfl rfl rfl hd_X5_write ⟨Nat.le_of_ble_eq_true rfl, Nat.le_of_ble_eq_true rfl⟩) (lg_9 ad cI cJ X S22) rfl rfl hl.1 rfl (Nat.le_of_ble_eq_true rfl) ⟨Nat.le_of_ble_eq_true rfl, Nat.le_of_ble_eq_true rfl⟩ dX7_turnRest_121 (fun S24 H locs hV hw => ?_)
    exact r_vret C0 rfl hw hV dX7_turnRest_124
  · have hV := hV.2 (fun h => c5 ((lc_ge _ _).mpr h))
    refine lv_ldc2 (v := -1) C0.x C0.b C0.ow (C0.ts _ cw_X7_turnRest_404) dX7_turnRest_23 ?_
    refine lv_goto (tgt := 30) C0.x C0.b dX7_turnRest_26 (by decide) ?_
    refine lv_lstore_n (lv' := [(3, .long (-1 : Int64)), (2, .int r1), (0, .ref (ad 0)), (1, .int p0)]) C0.x C0.b dX7_turnRest_30 rfl hl (by decide) rfl (fun ls hl => ?_)
    refine lv_lload_n C0.x C0.b dX7_turnRest_31 rfl (lv_at hl 0 rfl) ?_
    refine lv_aload_n C0.x C0.b dX7_turnRest_32 rfl (lv_at hl 2 rfl) ?_
    refine r_get C0 hw (C := RX7) (T := TX7) (N := 15) (v := .ref (ad 1)) iw_X7_turnRest_X7 (lg_0 ad cI cJ X S4) rfl 1 (by decide) (C0.ts _ fw_X7_turnRest_16) rfl dX7_turnRest_33 ?_
    refine lv_iload_n C0.x C0.b dX7_turnRest_36 rfl (lv_at hl 1 rfl) ?_
    refine r_cV_l (As := [.int r1]) (rest := [.long (-1 : Int64)]) C0 hw (c_X5_d (ln_1 ad cI cJ X) hV) (cwV 1 C0.ts gX7_turnRest_X5_d rfl rfl rfl hd_X5_d ⟨Nat.le_of_ble_eq_true rfl, Nat.le_of_ble_eq_true rfl⟩) (lg_1 ad cI cJ X S4) rfl rfl hl.1 rfl (Nat.le_of_ble_eq_true rfl) ⟨Nat.le_of_ble_eq_true rfl, Nat.le_of_ble_eq_true rfl⟩ dX7_turnRest_37 (fun r25 S26 H locs hV hw => ?_)
    refine lv_lmul C0.x C0.b dX7_turnRest_40 ?_
    refine lv_topl (fun y27 ey27 => ?_)
    have hV := hV y27 ey27
    refine lv_lstore (lv' := [(5, .long y27), (3, .long (-1 : Int64)), (2, .int r1), (0, .ref (ad 0)), (1, .int p0)]) C0.x C0.b dX7_turnRest_41 hl (by decide) rfl (fun ls hl => ?_)
    refine lv_lload_n C0.x C0.b dX7_turnRest_43 rfl (lv_at hl 1 rfl) ?_
    refine lv_lneg C0.x C0.b dX7_turnRest_44 ?_
    refine lv_aload_n C0.x C0.b dX7_turnRest_45 rfl (lv_at hl 3 rfl) ?_
    refine r_get C0 hw (C := RX7) (T := TX7) (N := 15) (v := .ref (ad 1)) iw_X7_turnRest_X7 (lg_0 ad cI cJ X S26) rfl 1 (by decide) (C0.ts _ fw_X7_turnRest_16) rfl dX7_turnRest_46 ?_
    refine lv_iload_n C0.x C0.b dX7_turnRest_49 rfl (lv_at hl 2 rfl) ?_
    refine r_cV_l (As := [.int r1]) (rest := [.long (-(-1 : Int64))]) C0 hw (c_X5_b (ln_1 ad cI cJ X) hV) (cwV 1 C0.ts gX7_turnRest_X5_b rfl rfl rfl hd_X5_b ⟨Nat.le_of_ble_eq_true rfl, Nat.le_of_ble_eq_true rfl⟩) (lg_1 ad cI cJ X S26) rfl rfl hl.1 rfl (Nat.le_of_ble_eq_true rfl) ⟨Nat.le_of_ble_eq_true rfl, Nat.le_of_ble_eq_true rfl⟩ dX7_turnRest_50 (fun r28 S29 H locs hV hw => ?_)
    refine lv_lmul C0.x C0.b dX7_turnRest_53 ?_
    refine lv_topl (fun y30 ey30 => ?_)
    have hV := hV y30 ey30
    refine lv_lstore (lv' := [(7, .long y30), (5, .long y27), (3, .long (-1 : Int64)), (2, .int r1), (0, .ref (ad 0)), (1, .int p0)]) C0.x C0.b dX7_turnRest_54 hl (by decide) rfl (fun ls hl => ?_)
    refine lv_lload_n C0.x C0.b dX7_turnRest_56 rfl (lv_at hl 2 rfl) ?_
    refine lv_aload_n C0.x C0.b dX7_turnRest_57 rfl (lv_at hl 4 rfl) ?_
    refine r_get C0 hw (C := RX7) (T := TX7) (N := 15) (v := .ref (ad 1)) iw_X7_turnRest_X7 (lg_0 ad cI cJ X S29) rfl 1 (by decide) (C0.ts _ fw_X7_turnRest_16) rfl dX7_turnRest_58 ?_
    refine lv_iload_n C0.x C0.b dX7_turnRest_61 rfl (lv_at hl 3 rfl) ?_
    refine r_cV_l (As := [.int r1]) (rest := [.long (-1 : Int64)]) C0 hw (c_X5_a (ln_1 ad cI cJ X) hV) (cwV 1 C0.ts gX7_turnRest_X5_a rfl rfl rfl hd_X5_a ⟨Nat.le_of_ble_eq_true rfl, Nat.le_of_ble_eq_true rfl⟩) (lg_1 ad cI cJ X S29) rfl rfl hl.1 rfl (Nat.le_of_ble_eq_true rfl) ⟨Nat.le_of_ble_eq_true rfl, Nat.le_of_ble_eq_true rfl⟩ dX7_turnRest_62 (fun r31 S32 H locs hV hw => ?_)
    refine lv_lmul C0.x C0.b dX7_turnRest_65 ?_
    refine lv_topl (fun y33 ey33 => ?_)
    have hV := hV y33 ey33
    refine lv_lstore (lv' := [(9, .long y33), (7, .long y30), (5, .long y27), (3, .long (-1 : Int64)), (2, .int r1), (0, .ref (ad 0)), (1, .int p0)]) C0.x C0.b dX7_turnRest_66 hl (by decide) rfl (fun ls hl => ?_)
    refine lv_lload C0.x C0.b dX7_turnRest_68 (lv_at hl 2 rfl) ?_
    refine lv_lload C0.x C0.b dX7_turnRest_70 (lv_at hl 1 rfl) ?_
    refine r_cS_l (As := [.long y27, .long y30]) (rest := []) C0 hw (c_X7_commonDivisor  hV) (va_cwS 2 C0.ts gX7_turnRest_X7_commonDivisor rfl rfl rfl hd_X7_commonDivisor ⟨Nat.le_of_ble_eq_true rfl, Nat.le_of_ble_eq_true rfl⟩) rfl hl.1 rfl (Nat.le_of_ble_eq_true rfl) ⟨Nat.le_of_ble_eq_true rfl, Nat.le_of_ble_eq_true rfl⟩ dX7_turnRest_72 (fun r34 S35 H locs hV hw => ?_)
    refine lv_lload C0.x C0.b dX7_turnRest_75 (lv_at hl 0 rfl) ?_
    refine r_cS_l (As := [.long r34, .long y33]) (rest := []) C0 hw (c_X7_commonDivisor  hV) (va_cwS 2 C0.ts gX7_turnRest_X7_commonDivisor rfl rfl rfl hd_X7_commonDivisor ⟨Nat.le_of_ble_eq_true rfl, Nat.le_of_ble_eq_true rfl⟩) rfl hl.1 rfl (Nat.le_of_ble_eq_true rfl) ⟨Nat.le_of_ble_eq_true rfl, Nat.le_of_ble_eq_true rfl⟩ dX7_turnRest_77 (fun r36 S37 H locs hV hw => ?_)
    refine lv_lstore (lv' := [(11, .long r36), (9, .long y33), (7, .long y30), (5, .long y27), (3, .long (-1 : Int64)), (2, .int r1), (0, .ref (ad 0)), (1, .int p0)]) C0.x C0.b dX7_turnRest_80 hl (by decide) rfl (fun ls hl => ?_)
    refine lv_aload_n C0.x C0.b dX7_turnRest_82 rfl (lv_at hl 6 rfl) ?_
    refine r_get C0 hw (C := RX7) (T := TX7) (N := 15) (v := .ref (ad 9)) iw_X7_turnRest_X7 (lg_0 ad cI cJ X S37) rfl 3 (by decide) (C0.ts _ fw_X7_turnRest_23) rfl dX7_turnRest_83 ?_
    refine lv_iload_n C0.x C0.b dX7_turnRest_86 rfl (lv_at hl 7 rfl) ?_
    refine lv_iconst (v := 0) C0.x C0.b dX7_turnRest_87 (by decide) ?_
    refine lv_lload C0.x C0.b dX7_turnRest_88 (lv_at hl 3 rfl) ?_
    refine lv_lload C0.x C0.b dX7_turnRest_90 (lv_at hl 0 rfl) ?_
    refine lv_ldiv C0.x C0.b dX7_turnRest_92 hV.1 ?_
    have hV := hV.2
    refine r_cV_v (As := [.int p0, .int (0 : Int32), .long (y27 / r36)]) (rest := []) C0 hw (c_X5_write (ln_9 ad cI cJ X) hV) (cwV 3 C0.ts gX7_turnRest_X5_write rfl rfl rfl hd_X5_write ⟨Nat.le_of_ble_eq_true rfl, Nat.le_of_ble_eq_true rfl⟩) (lg_9 ad cI cJ X S37) rfl rfl hl.1 rfl (Nat.le_of_ble_eq_true rfl) ⟨Nat.le_of_ble_eq_true rfl, Nat.le_of_ble_eq_true rfl⟩ dX7_turnRest_93 (fun S39 H locs hV hw => ?_)
    refine lv_aload_n C0.x C0.b dX7_turnRest_96 rfl (lv_at hl 6 rfl) ?_
    refine r_get C0 hw (C := RX7) (T := TX7) (N := 15) (v := .ref (ad 9)) iw_X7_turnRest_X7 (lg_0 ad cI cJ X S39) rfl 3 (by decide) (C0.ts _ fw_X7_turnRest_23) rfl dX7_turnRest_97 ?_
    refine lv_iload_n C0.x C0.b dX7_turnRest_100 rfl (lv_at hl 7 rfl) ?_
    refine lv_iconst (v := 1) C0.x C0.b dX7_turnRest_101 (by decide) ?_
    refine lv_lload C0.x C0.b dX7_turnRest_102 (lv_at hl 2 rfl) ?_
    refine lv_lload C0.x C0.b dX7_turnRest_104 (lv_at hl 0 rfl) ?_
    refine lv_ldiv C0.x C0.b dX7_turnRest_106 hV.1 ?_
    have hV := hV.2
    refine r_cV_v (As := [.int p0, .int (1 : Int32), .long (y30 / r36)]) (rest := []) C0 hw (c_X5_write (ln_9 ad cI cJ X) hV) (cwV 3 C0.ts gX7_turnRest_X5_write rfl rfl rfl hd_X5_write ⟨Nat.le_of_ble_eq_true rfl, Nat.le_of_ble_eq_true rfl⟩) (lg_9 ad cI cJ X S39) rfl rfl hl.1 rfl (Nat.le_of_ble_eq_true rfl) ⟨Nat.le_of_ble_eq_true rfl, Nat.le_of_ble_eq_true rfl⟩ dX7_turnRest_107 (fun S41 H locs hV hw => ?_)
    refine lv_aload_n C0.x C0.b dX7_turnRest_110 rfl (lv_at hl 6 rfl) ?_
    refine r_get C0 hw (C := RX7) (T := TX7) (N := 15) (v := .ref (ad 9)) iw_X7_turnRest_X7 (lg_0 ad cI cJ X S41) rfl 3 (by decide) (C0.ts _ fw_X7_turnRest_23) rfl dX7_turnRest_111 ?_
    refine lv_iload_n C0.x C0.b dX7_turnRest_114 rfl (lv_at hl 7 rfl) ?_
    refine lv_iconst (v := 2) C0.x C0.b dX7_turnRest_115 (by decide) ?_
    refine lv_lload C0.x C0.b dX7_turnRest_116 (lv_at hl 1 rfl) ?_
    refine lv_lload C0.x C0.b dX7_turnRest_118 (lv_at hl 0 rfl) ?_
    refine lv_ldiv C0.x C0.b dX7_turnRest_120 hV.1 ?_
    have hV := hV.2
    refine r_cV_v (As := [.int p0, .int (2 : Int32), .long (y33 / r36)]) (rest := []) C0 hw (c_X5_write (ln_9 ad cI cJ X) hV) (cwV 3 C0.ts gX7_turnRest_X5_write rfl rfl rfl hd_X5_write ⟨Nat.le_of_ble_eq_true rfl, Nat.le_of_ble_eq_true rfl⟩) (lg_9 ad cI cJ X S41) rfl rfl hl.1 rfl (Nat.le_of_ble_eq_true rfl) ⟨Nat.le_of_ble_eq_true rfl, Nat.le_of_ble_eq_true rfl⟩ dX7_turnRest_121 (fun S43 H locs hV hw => ?_)
    exact r_vret C0 rfl hw hV dX7_turnRest_124
/-! StepBench.turn()I -/
abbrev rm_X7_turn : Room := { frames := 5, cells := 0, slots := 0, locals := 118 }
set_option maxRecDepth 20000 in
theorem fw_X7_turn_16 : Cond.fieldLink RX7 16 "StepBench" "rule" "LStepBench$Shares;" ∈ wsX7_turn := by decide +kernel
set_option maxRecDepth 20000 in
theorem iw_X7_turn_X7 : ∀ w ∈ wsX70, w ∈ wsX7_turn := by decide +kernel
set_option maxRecDepth 20000 in
theorem fw_X7_turn_23 : Cond.fieldLink RX7 23 "StepBench" "turned" "LStepBench$Shares;" ∈ wsX7_turn := by decide +kernel
set_option maxRecDepth 20000 in
theorem hd_X7_turn : yX7_turn.cls = RX7 ∧ yX7_turn.cls ≠ "java/lang/invoke/MethodHandle" ∧ yX7_turn.cls ≠ "java/lang/invoke/VarHandle" ∧ (parseMethodDescriptor yX7_turn.desc).map (fun d => d.parameters.length) = some 0 := by decide +kernel
def V_X7_turn_41  (v1 : Int32)  (post : Int32 → SS → Prop) : Nat → Int32 → SS → Prop
  | 0, _, _ => False
  | n + 1, v2, S =>
    ((v1 ≤ v2 → (V_X5_firstUnsound 3 6 7 8 S (fun (r11 : Int32) (S12 : SS) => ((r11 < 0 → (V_X5_become 1 0 1 2 3 6 7 8 S12 (fun (S15 : SS) => (post v1 S15)))) ∧ (¬ r11 < 0 → (post (-1 : Int32) S12)))))) ∧ (¬ v1 ≤ v2 → (V_X7_turnRest v2 S (fun (S17 : SS) => (∀ x18 : Int32, x18 = v2 + 1 → (V_X7_turn_41  v1  post n x18 S17))))))
set_option maxHeartbeats 4000000 in
set_option maxRecDepth 100000 in
theorem lp_X7_turn_41  (v1 : Int32)  (post : Int32 → SS → Prop) (C0 : Bd p s m meth c args cX7_turn 3 (some .int) wsX7_turn RX7 D n0 cI cJ) : ∀ (n : Nat) (v2 : Int32) (S : SS), V_X7_turn_41  v1  post n v2 S → ∀ (H : Heap) (locs : List Loc), Wh D n0 ad cI cJ X S s H locs → ∀ ls : Array Slot, lv_has ls 3 [(0, .ref (ad 0)), (1, .int v1), (2, .int v2)] → W p l e rm_X7_turn s m args below meth c H locs 0 0 (MQ below (va_Qi post (fun S' t => Wd D n0 ad cI cJ X S' t) (fr n0)) args s 0 0 (fr n0)) (F0 m 41 ls []) := by
  intro n
  induction n with
  | zero => intro v2 S hV; exact False.elim hV
  | succ n ih =>
    intro v2 S hV H locs hw ls hl
    rw [V_X7_turn_41] at hV
    refine lv_iload_n C0.x C0.b dX7_turn_41 rfl (lv_at hl 2 rfl) ?_
    refine lv_iload_n C0.x C0.b dX7_turn_42 rfl (lv_at hl 1 rfl) ?_
    refine lv_icmp_ge (tgt := 57) C0.x C0.b dX7_turn_43 (by decide) (fun c10 => ?_) (fun c10 => ?_)
    · have hV := hV.1 c10
      refine lv_aload_n C0.x C0.b dX7_turn_57 rfl (lv_at hl 0 rfl) ?_
      refine r_get C0 hw (C := RX7) (T := TX7) (N := 15) (v := .ref (ad 9)) iw_X7_turn_X7 (lg_0 ad cI cJ X S) rfl 3 (by decide) (C0.ts _ fw_X7_turn_23) rfl dX7_turn_58 ?_
      refine r_cV_i (As := []) (rest := []) C0 hw (c_X5_firstUnsound (ln_9 ad cI cJ X) hV) (cwV 0 C0.ts gX7_turn_X5_firstUnsound rfl rfl rfl hd_X5_firstUnsound ⟨Nat.le_of_ble_eq_true rfl, Nat.le_of_ble_eq_true rfl⟩) (lg_9 ad cI cJ X S) rfl rfl hl.1 rfl (Nat.le_of_ble_eq_true rfl) ⟨Nat.le_of_ble_eq_true rfl, Nat.le_of_ble_eq_true rfl⟩ dX7_turn_61 (fun r11 S12 H locs hV hw => ?_)
      refine lv_if_lt (tgt := 69) C0.x C0.b dX7_turn_64 (by decide) (fun c13 => ?_) (fun c13 => ?_)
      · have hV := hV.1 c13
        refine lv_aload_n C0.x C0.b dX7_turn_69 rfl (lv_at hl 0 rfl) ?_
        refine r_get C0 hw (C := RX7) (T := TX7) (N := 15) (v := .ref (ad 1)) iw_X7_turn_X7 (lg_0 ad cI cJ X S12) rfl 1 (by decide) (C0.ts _ fw_X7_turn_16) rfl dX7_turn_70 ?_
        refine lv_aload_n C0.x C0.b dX7_turn_73 rfl (lv_at hl 0 rfl) ?_
        refine r_get C0 hw (C := RX7) (T := TX7) (N := 15) (v := .ref (ad 9)) iw_X7_turn_X7 (lg_0 ad cI cJ X S12) rfl 3 (by decide) (C0.ts _ fw_X7_turn_23) rfl dX7_turn_74 ?_
        refine r_cV_v (As := [.ref (ad 9)]) (rest := []) C0 hw (c_X5_become (ln_1 ad cI cJ X) (ln_9 ad cI cJ X) hV) (cwV 1 C0.ts gX7_turn_X5_become rfl rfl rfl hd_X5_become ⟨Nat.le_of_ble_eq_true rfl, Nat.le_of_ble_eq_true rfl⟩) (lg_1 ad cI cJ X S12) rfl rfl hl.1 rfl (Nat.le_of_ble_eq_true rfl) ⟨Nat.le_of_ble_eq_true rfl, Nat.le_of_ble_eq_true rfl⟩ dX7_turn_77 (fun S15 H locs hV hw => ?_)
        refine lv_iload_n C0.x C0.b dX7_turn_80 rfl (lv_at hl 1 rfl) ?_
        exact r_iret C0 rfl hw hV dX7_turn_81
      · have hV := hV.2 c13
        refine lv_iconst (v := -1) C0.x C0.b dX7_turn_67 (by decide) ?_
        exact r_iret C0 rfl hw hV dX7_turn_68
    · have hV := hV.2 c10
      refine lv_aload_n C0.x C0.b dX7_turn_46 rfl (lv_at hl 0 rfl) ?_
      refine lv_iload_n C0.x C0.b dX7_turn_47 rfl (lv_at hl 2 rfl) ?_
      refine r_cV_v (As := [.int v2]) (rest := []) C0 hw (c_X7_turnRest  hV) (cwV 1 C0.ts gX7_turn_X7_turnRest rfl rfl rfl hd_X7_turnRest ⟨Nat.le_of_ble_eq_true rfl, Nat.le_of_ble_eq_true rfl⟩) (lg_0 ad cI cJ X S) rfl rfl hl.1 rfl (Nat.le_of_ble_eq_true rfl) ⟨Nat.le_of_ble_eq_true rfl, Nat.le_of_ble_eq_true rfl⟩ dX7_turn_48 (fun S17 H locs hV hw => ?_)
      obtain ⟨x18, ex18⟩ : ∃ z : Int32, z = v2 + 1 := ⟨_, rfl⟩
      have hV := hV x18 ex18
      refine lv_iinc (v := x18) (lv' := [(2, .int x18), (0, .ref (ad 0)), (1, .int v1)]) C0.x C0.b dX7_turn_51 hl (k := 2) rfl (by rw [ex18]; rfl) (by decide) rfl (fun ls hl => ?_)
      refine lv_goto (tgt := 41) C0.x C0.b dX7_turn_54 (by decide) ?_
      exact ih _ _ hV _ _ hw _ (lv_sub hl [1, 2, 0] rfl)
def V_X7_turn   (S : SS) (post : Int32 → SS → Prop) : Prop :=
  (V_X7_both  S (fun (r1 : Int32) (S2 : SS) => ((r1 = (1 : Int32) → (V_X5_commonStride 1 0 1 2 S2 (fun (r4 : Int32) (S5 : SS) => ((r4 < (2 : Int32) → (post (-1 : Int32) S5)) ∧ (¬ r4 < (2 : Int32) → ((r4 ≤ (64 : Int32) → (V_X5_begin 3 6 7 8 r4 S5 (fun (S9 : SS) => (∃ n41 : Nat, V_X7_turn_41  r4  post n41 (0 : Int32) S9)))) ∧ (¬ r4 ≤ (64 : Int32) → (post (-1 : Int32) S5)))))))) ∧ (¬ r1 = (1 : Int32) → (post (-1 : Int32) S2)))))
set_option maxHeartbeats 4000000 in
set_option maxRecDepth 100000 in
theorem c_X7_turn  {S : SS}  {post : Int32 → SS → Prop} (hV : V_X7_turn   S post) : MI l yX7_turn wsX7_turn rm_X7_turn [.ref (ad 0)] D n0 ad cI cJ X S post := by
  refine Met.ofW (cc := cX7_turn) (maxL := 3) (ret := (some .int)) (by decide) rfl ?_
  intro p e s m args below meth c s₁ B hml hv
  obtain ⟨rfl, hv⟩ := hv
  have C0 := Bd.mk B hml (atoms_spec (ws := wsX7_turn) B.pre) (findClass_of_methodNamed B.named) hv.1
  have hw : Wh D n0 ad cI cJ X S s s.heap [] := ⟨hv.2.1, hv.2.2, va_S.rf⟩
  refine r_entry (Nat.le_of_ble_eq_true rfl) (fun ls hl => ?_)
  have hl : lv_has ls 3 [(0, .ref (ad 0))] := hl
  unfold V_X7_turn at hV
  refine lv_aload_n C0.x C0.b dX7_turn_0 rfl (lv_at hl 0 rfl) ?_
  refine r_cV_i (As := []) (rest := []) C0 hw (c_X7_both  hV) (cwV 0 C0.ts gX7_turn_X7_both rfl rfl rfl hd_X7_both ⟨Nat.le_of_ble_eq_true rfl, Nat.le_of_ble_eq_true rfl⟩) (lg_0 ad cI cJ X S) rfl rfl hl.1 rfl (Nat.le_of_ble_eq_true rfl) ⟨Nat.le_of_ble_eq_true rfl, Nat.le_of_ble_eq_true rfl⟩ dX7_turn_1 (fun r1 S2 H locs hV hw => ?_)
  refine lv_iconst (v := 1) C0.x C0.b dX7_turn_4 (by decide) ?_
  refine lv_icmp_eq (tgt := 10) C0.x C0.b dX7_turn_5 (by decide) (fun c3 => ?_) (fun c3 => ?_)
  · have hV := hV.1 c3
    refine lv_aload_n C0.x C0.b dX7_turn_10 rfl (lv_at hl 0 rfl) ?_
    refine r_get C0 hw (C := RX7) (T := TX7) (N := 15) (v := .ref (ad 1)) iw_X7_turn_X7 (lg_0 ad cI cJ X S2) rfl 1 (by decide) (C0.ts _ fw_X7_turn_16) rfl dX7_turn_11 ?_
    refine r_cV_i (As := []) (rest := []) C0 hw (c_X5_commonStride (ln_1 ad cI cJ X) hV) (cwV 0 C0.ts gX7_turn_X5_commonStride rfl rfl rfl hd_X5_commonStride ⟨Nat.le_of_ble_eq_true rfl, Nat.le_of_ble_eq_true rfl⟩) (lg_1 ad cI cJ X S2) rfl rfl hl.1 rfl (Nat.le_of_ble_eq_true rfl) ⟨Nat.le_of_ble_eq_true rfl, Nat.le_of_ble_eq_true rfl⟩ dX7_turn_14 (fun r4 S5 H locs hV hw => ?_)
    refine lv_istore_n (lv' := [(1, .int r4), (0, .ref (ad 0))]) C0.x C0.b dX7_turn_17 rfl hl (by decide) rfl (fun ls hl => ?_)
    refine lv_iload_n C0.x C0.b dX7_turn_18 rfl (lv_at hl 0 rfl) ?_
    refine lv_iconst (v := 2) C0.x C0.b dX7_turn_19 (by decide) ?_
    refine lv_icmp_lt (tgt := 29) C0.x C0.b dX7_turn_20 (by decide) (fun c6 => ?_) (fun c6 => ?_)
    · have hV := hV.1 c6
      refine lv_iconst (v := -1) C0.x C0.b dX7_turn_29 (by decide) ?_
      exact r_iret C0 rfl hw hV dX7_turn_30
    · have hV := hV.2 c6
      refine lv_iload_n C0.x C0.b dX7_turn_23 rfl (lv_at hl 0 rfl) ?_
      refine lv_bipush (v := 64) C0.x C0.b dX7_turn_24 (by decide) ?_
      refine lv_icmp_le (tgt := 31) C0.x C0.b dX7_turn_26 (by decide) (fun c7 => ?_) (fun c7 => ?_)
      · have hV := hV.1 c7
        refine lv_aload_n C0.x C0.b dX7_turn_31 rfl (lv_at hl 1 rfl) ?_
        refine r_get C0 hw (C := RX7) (T := TX7) (N := 15) (v := .ref (ad 9)) iw_X7_turn_X7 (lg_0 ad cI cJ X S5) rfl 3 (by decide) (C0.ts _ fw_X7_turn_23) rfl dX7_turn_32 ?_
        refine lv_iload_n C0.x C0.b dX7_turn_35 rfl (lv_at hl 0 rfl) ?_
        refine r_cV_v (As := [.int r4]) (rest := []) C0 hw (c_X5_begin (ln_9 ad cI cJ X) hV) (cwV 1 C0.ts gX7_turn_X5_begin rfl rfl rfl hd_X5_begin ⟨Nat.le_of_ble_eq_true rfl, Nat.le_of_ble_eq_true rfl⟩) (lg_9 ad cI cJ X S5) rfl rfl hl.1 rfl (Nat.le_of_ble_eq_true rfl) ⟨Nat.le_of_ble_eq_true rfl, Nat.le_of_ble_eq_true rfl⟩ dX7_turn_36 (fun S9 H locs hV hw => ?_)
        refine lv_iconst (v := 0) C0.x C0.b dX7_turn_39 (by decide) ?_
        refine lv_istore_n (lv' := [(2, .int (0 : Int32)), (1, .int r4), (0, .ref (ad 0))]) C0.x C0.b dX7_turn_40 rfl hl (by decide) rfl (fun ls hl => ?_)
        obtain ⟨n41, hV⟩ := hV
        exact lp_X7_turn_41  _ post C0  n41 _ _ hV _ _ hw _ (lv_sub hl [2, 1, 0] rfl)
      · have hV := hV.2 c7
        refine lv_iconst (v := -1) C0.x C0.b dX7_turn_29 (by decide) ?_
        exact r_iret C0 rfl hw hV dX7_turn_30
  · have hV := hV.2 c3
    refine lv_iconst (v := -1) C0.x C0.b dX7_turn_8 (by decide) ?_
    exact r_iret C0 rfl hw hV dX7_turn_9
/-! StepBench.drift()I -/
abbrev rm_X7_drift : Room := { frames := 3, cells := 0, slots := 0, locals := 63 }
set_option maxRecDepth 20000 in
theorem fw_X7_drift_9 : Cond.fieldLink RX7 9 "StepBench" "ruleKind" "I" ∈ wsX7_drift := by decide +kernel
set_option maxRecDepth 20000 in
theorem iw_X7_drift_X7 : ∀ w ∈ wsX70, w ∈ wsX7_drift := by decide +kernel
set_option maxRecDepth 20000 in
theorem fw_X7_drift_16 : Cond.fieldLink RX7 16 "StepBench" "rule" "LStepBench$Shares;" ∈ wsX7_drift := by decide +kernel
set_option maxRecDepth 20000 in
theorem fw_X7_drift_71 : Cond.fieldLink RX7 71 "StepBench" "tops" "LStepBench$Product;" ∈ wsX7_drift := by decide +kernel
set_option maxRecDepth 20000 in
theorem fw_X7_drift_75 : Cond.fieldLink RX7 75 "StepBench" "bottoms" "LStepBench$Product;" ∈ wsX7_drift := by decide +kernel
set_option maxRecDepth 20000 in
theorem ml_X7_drift_293 : Cond.methodLink RX7 293 Lib.MathLoose.abs_long.x ∈ wsX7_drift := by decide +kernel
set_option maxRecDepth 20000 in
theorem ms_X7_drift_293 : Cond.static Lib.MathLoose.abs_long.x ∈ wsX7_drift := by decide +kernel
set_option maxRecDepth 20000 in
theorem mi_X7_drift_293 : Cond.initialized "java/lang/Math" ∈ wsX7_drift := by decide +kernel
set_option maxRecDepth 20000 in
theorem mc_X7_drift_293 : Cond.code Lib.MathLoose.abs_long.x Lib.MathLoose.abs_long.code 2 (some .long) ∈ wsX7_drift := by decide +kernel
set_option maxRecDepth 20000 in
theorem hd_X7_drift : yX7_drift.cls = RX7 ∧ yX7_drift.cls ≠ "java/lang/invoke/MethodHandle" ∧ yX7_drift.cls ≠ "java/lang/invoke/VarHandle" ∧ (parseMethodDescriptor yX7_drift.desc).map (fun d => d.parameters.length) = some 0 := by decide +kernel
def V_X7_drift_37    (post : Int32 → SS → Prop) : Nat → Int32 → SS → Prop
  | 0, _, _ => False
  | n + 1, v1, S =>
    (V_X5_measure 1 0 1 2 S (fun (r9 : Int32) (S10 : SS) => ((r9 ≤ v1 → (V_X3_against 20 21 S10 (fun (r12 : Int32) (S13 : SS) => (post r12 S13)))) ∧ (¬ r9 ≤ v1 → (V_X5_a 1 0 1 2 v1 S10 (fun (r14 : Int64) (S15 : SS) => (∀ y16 : Int64, y16 = (abL r14) → (V_X3_multiply 20 y16 S15 (fun (S18 : SS) => (V_X5_d 1 0 1 2 v1 S18 (fun (r19 : Int64) (S20 : SS) => (V_X3_multiply 21 r19 S20 (fun (S22 : SS) => (∀ x23 : Int32, x23 = v1 + 1 → (V_X7_drift_37    post n x23 S22)))))))))))))))
set_option maxHeartbeats 4000000 in
set_option maxRecDepth 100000 in
theorem lp_X7_drift_37    (post : Int32 → SS → Prop) (C0 : Bd p s m meth c args cX7_drift 2 (some .int) wsX7_drift RX7 D n0 cI cJ) : ∀ (n : Nat) (v1 : Int32) (S : SS), V_X7_drift_37    post n v1 S → ∀ (H : Heap) (locs : List Loc), Wh D n0 ad cI cJ X S s H locs → ∀ ls : Array Slot, lv_has ls 2 [(0, .ref (ad 0)), (1, .int v1)] → W p l e rm_X7_drift s m args below meth c H locs 0 0 (MQ below (va_Qi post (fun S' t => Wd D n0 ad cI cJ X S' t) (fr n0)) args s 0 0 (fr n0)) (F0 m 37 ls []) := by
  intro n
  induction n with
  | zero => intro v1 S hV; exact False.elim hV
  | succ n ih =>
    intro v1 S hV H locs hw ls hl
    rw [V_X7_drift_37] at hV
    refine lv_iload_n C0.x C0.b dX7_drift_37 rfl (lv_at hl 1 rfl) ?_
    refine lv_aload_n C0.x C0.b dX7_drift_38 rfl (lv_at hl 0 rfl) ?_
    refine r_get C0 hw (C := RX7) (T := TX7) (N := 15) (v := .ref (ad 1)) iw_X7_drift_X7 (lg_0 ad cI cJ X S) rfl 1 (by decide) (C0.ts _ fw_X7_drift_16) rfl dX7_drift_39 ?_
    refine r_cV_i (As := []) (rest := [.int v1]) C0 hw (c_X5_measure (ln_1 ad cI cJ X) hV) (cwV 0 C0.ts gX7_drift_X5_measure rfl rfl rfl hd_X5_measure ⟨Nat.le_of_ble_eq_true rfl, Nat.le_of_ble_eq_true rfl⟩) (lg_1 ad cI cJ X S) rfl rfl hl.1 rfl (Nat.le_of_ble_eq_true rfl) ⟨Nat.le_of_ble_eq_true rfl, Nat.le_of_ble_eq_true rfl⟩ dX7_drift_42 (fun r9 S10 H locs hV hw => ?_)
    refine lv_icmp_ge (tgt := 87) C0.x C0.b dX7_drift_45 (by decide) (fun c11 => ?_) (fun c11 => ?_)
    · have hV := hV.1 c11
      refine lv_aload_n C0.x C0.b dX7_drift_87 rfl (lv_at hl 0 rfl) ?_
      refine r_get C0 hw (C := RX7) (T := TX7) (N := 15) (v := .ref (ad 33)) iw_X7_drift_X7 (lg_0 ad cI cJ X S10) rfl 12 (by decide) (C0.ts _ fw_X7_drift_71) rfl dX7_drift_88 ?_
      refine lv_aload_n C0.x C0.b dX7_drift_91 rfl (lv_at hl 0 rfl) ?_
      refine r_get C0 hw (C := RX7) (T := TX7) (N := 15) (v := .ref (ad 35)) iw_X7_drift_X7 (lg_0 ad cI cJ X S10) rfl 13 (by decide) (C0.ts _ fw_X7_drift_75) rfl dX7_drift_92 ?_
      refine r_cV_i (As := [.ref (ad 35)]) (rest := []) C0 hw (c_X3_against (ln_33 ad cI cJ X) (ln_35 ad cI cJ X) hV) (cwV 1 C0.ts gX7_drift_X3_against rfl rfl rfl hd_X3_against ⟨Nat.le_of_ble_eq_true rfl, Nat.le_of_ble_eq_true rfl⟩) (lg_33 ad cI cJ X S10) rfl rfl hl.1 rfl (Nat.le_of_ble_eq_true rfl) ⟨Nat.le_of_ble_eq_true rfl, Nat.le_of_ble_eq_true rfl⟩ dX7_drift_95 (fun r12 S13 H locs hV hw => ?_)
      exact r_iret C0 rfl hw hV dX7_drift_98
    · have hV := hV.2 c11
      refine lv_aload_n C0.x C0.b dX7_drift_48 rfl (lv_at hl 0 rfl) ?_
      refine r_get C0 hw (C := RX7) (T := TX7) (N := 15) (v := .ref (ad 33)) iw_X7_drift_X7 (lg_0 ad cI cJ X S10) rfl 12 (by decide) (C0.ts _ fw_X7_drift_71) rfl dX7_drift_49 ?_
      refine lv_aload_n C0.x C0.b dX7_drift_52 rfl (lv_at hl 0 rfl) ?_
      refine r_get C0 hw (C := RX7) (T := TX7) (N := 15) (v := .ref (ad 1)) iw_X7_drift_X7 (lg_0 ad cI cJ X S10) rfl 1 (by decide) (C0.ts _ fw_X7_drift_16) rfl dX7_drift_53 ?_
      refine lv_iload_n C0.x C0.b dX7_drift_56 rfl (lv_at hl 1 rfl) ?_
      refine r_cV_l (As := [.int v1]) (rest := [.ref (ad 33)]) C0 hw (c_X5_a (ln_1 ad cI cJ X) hV) (cwV 1 C0.ts gX7_drift_X5_a rfl rfl rfl hd_X5_a ⟨Nat.le_of_ble_eq_true rfl, Nat.le_of_ble_eq_true rfl⟩) (lg_1 ad cI cJ X S10) rfl rfl hl.1 rfl (Nat.le_of_ble_eq_true rfl) ⟨Nat.le_of_ble_eq_true rfl, Nat.le_of_ble_eq_true rfl⟩ dX7_drift_57 (fun r14 S15 H locs hV hw => ?_)
      refine va_mabs_long C0.x C0.b (C0.ml.trans hl.1.symm) C0.ow (C0.ts _ ml_X7_drift_293) (C0.ts _ ms_X7_drift_293) (C0.ts _ mi_X7_drift_293) (C0.ts _ mc_X7_drift_293) (Nat.le_of_ble_eq_true rfl) (Nat.le_of_ble_eq_true rfl) (Nat.le_of_ble_eq_true rfl) (Nat.le_of_ble_eq_true rfl) dX7_drift_60 ?_
      refine lv_topl (fun y16 ey16 => ?_)
      have hV := hV y16 ey16
      refine r_cV_v (As := [.long y16]) (rest := []) C0 hw (c_X3_multiply (ln_33 ad cI cJ X) hV) (cwV 1 C0.ts gX7_drift_X3_multiply rfl rfl rfl hd_X3_multiply ⟨Nat.le_of_ble_eq_true rfl, Nat.le_of_ble_eq_true rfl⟩) (lg_33 ad cI cJ X S15) rfl rfl hl.1 rfl (Nat.le_of_ble_eq_true rfl) ⟨Nat.le_of_ble_eq_true rfl, Nat.le_of_ble_eq_true rfl⟩ dX7_drift_63 (fun S18 H locs hV hw => ?_)
      refine lv_aload_n C0.x C0.b dX7_drift_66 rfl (lv_at hl 0 rfl) ?_
      refine r_get C0 hw (C := RX7) (T := TX7) (N := 15) (v := .ref (ad 35)) iw_X7_drift_X7 (lg_0 ad cI cJ X S18) rfl 13 (by decide) (C0.ts _ fw_X7_drift_75) rfl dX7_drift_67 ?_
      refine lv_aload_n C0.x C0.b dX7_drift_70 rfl (lv_at hl 0 rfl) ?_
      refine r_get C0 hw (C := RX7) (T := TX7) (N := 15) (v := .ref (ad 1)) iw_X7_drift_X7 (lg_0 ad cI cJ X S18) rfl 1 (by decide) (C0.ts _ fw_X7_drift_16) rfl dX7_drift_71 ?_
      refine lv_iload_n C0.x C0.b dX7_drift_74 rfl (lv_at hl 1 rfl) ?_
      refine r_cV_l (As := [.int v1]) (rest := [.ref (ad 35)]) C0 hw (c_X5_d (ln_1 ad cI cJ X) hV) (cwV 1 C0.ts gX7_drift_X5_d rfl rfl rfl hd_X5_d ⟨Nat.le_of_ble_eq_true rfl, Nat.le_of_ble_eq_true rfl⟩) (lg_1 ad cI cJ X S18) rfl rfl hl.1 rfl (Nat.le_of_ble_eq_true rfl) ⟨Nat.le_of_ble_eq_true rfl, Nat.le_of_ble_eq_true rfl⟩ dX7_drift_75 (fun r19 S20 H locs hV hw => ?_)
      refine r_cV_v (As := [.long r19]) (rest := []) C0 hw (c_X3_multiply (ln_35 ad cI cJ X) hV) (cwV 1 C0.ts gX7_drift_X3_multiply rfl rfl rfl hd_X3_multiply ⟨Nat.le_of_ble_eq_true rfl, Nat.le_of_ble_eq_true rfl⟩) (lg_35 ad cI cJ X S20) rfl rfl hl.1 rfl (Nat.le_of_ble_eq_true rfl) ⟨Nat.le_of_ble_eq_true rfl, Nat.le_of_ble_eq_true rfl⟩ dX7_drift_78 (fun S22 H locs hV hw => ?_)
      obtain ⟨x23, ex23⟩ : ∃ z : Int32, z = v1 + 1 := ⟨_, rfl⟩
      have hV := hV x23 ex23
      refine lv_iinc (v := x23) (lv' := [(1, .int x23), (0, .ref (ad 0))]) C0.x C0.b dX7_drift_81 hl (k := 1) rfl (by rw [ex23]; rfl) (by decide) rfl (fun ls hl => ?_)
      refine lv_goto (tgt := 37) C0.x C0.b dX7_drift_84 (by decide) ?_
      exact ih _ _ hV _ _ hw _ (lv_sub hl [1, 0] rfl)
def V_X7_drift   (S : SS) (post : Int32 → SS → Prop) : Prop :=
  (((gI S 0) = (1 : Int32) → (V_X5_hasNoShare 1 0 1 2 S (fun (r2 : Int32) (S3 : SS) => ((r2 = 0 → (V_X3_begin 20 S3 (fun (S6 : SS) => (V_X3_begin 21 S6 (fun (S8 : SS) => (∃ n37 : Nat, V_X7_drift_37    post n37 (0 : Int32) S8)))))) ∧ (¬ r2 = 0 → (post (-2 : Int32) S3)))))) ∧ (¬ (gI S 0) = (1 : Int32) → (post (-2 : Int32) S)))
set_option maxHeartbeats 4000000 in
set_option maxRecDepth 100000 in
theorem c_X7_drift  {S : SS}  {post : Int32 → SS → Prop} (hV : V_X7_drift   S post) : MI l yX7_drift wsX7_drift rm_X7_drift [.ref (ad 0)] D n0 ad cI cJ X S post := by
  refine Met.ofW (cc := cX7_drift) (maxL := 2) (ret := (some .int)) (by decide) rfl ?_
  intro p e s m args below meth c s₁ B hml hv
  obtain ⟨rfl, hv⟩ := hv
  have C0 := Bd.mk B hml (atoms_spec (ws := wsX7_drift) B.pre) (findClass_of_methodNamed B.named) hv.1
  have hw : Wh D n0 ad cI cJ X S s s.heap [] := ⟨hv.2.1, hv.2.2, va_S.rf⟩
  refine r_entry (Nat.le_of_ble_eq_true rfl) (fun ls hl => ?_)
  have hl : lv_has ls 2 [(0, .ref (ad 0))] := hl
  unfold V_X7_drift at hV
  refine lv_aload_n C0.x C0.b dX7_drift_0 rfl (lv_at hl 0 rfl) ?_
  refine r_get C0 hw (C := RX7) (T := TX7) (N := 15) (v := .int (gI S 0)) iw_X7_drift_X7 (lg_0 ad cI cJ X S) rfl 0 (by decide) (C0.ts _ fw_X7_drift_9) rfl dX7_drift_1 ?_
  refine lv_iconst (v := 1) C0.x C0.b dX7_drift_4 (by decide) ?_
  refine lv_icmp_ne (tgt := 18) C0.x C0.b dX7_drift_5 (by decide) (fun c1 => ?_) (fun c1 => ?_)
  · have hV := hV.2 c1
    refine lv_bipush (v := -2) C0.x C0.b dX7_drift_18 (by decide) ?_
    exact r_iret C0 rfl hw hV dX7_drift_20
  · have hV := hV.1 c1
    refine lv_aload_n C0.x C0.b dX7_drift_8 rfl (lv_at hl 0 rfl) ?_
    refine r_get C0 hw (C := RX7) (T := TX7) (N := 15) (v := .ref (ad 1)) iw_X7_drift_X7 (lg_0 ad cI cJ X S) rfl 1 (by decide) (C0.ts _ fw_X7_drift_16) rfl dX7_drift_9 ?_
    refine r_cV_i (As := []) (rest := []) C0 hw (c_X5_hasNoShare (ln_1 ad cI cJ X) hV) (cwV 0 C0.ts gX7_drift_X5_hasNoShare rfl rfl rfl hd_X5_hasNoShare ⟨Nat.le_of_ble_eq_true rfl, Nat.le_of_ble_eq_true rfl⟩) (lg_1 ad cI cJ X S) rfl rfl hl.1 rfl (Nat.le_of_ble_eq_true rfl) ⟨Nat.le_of_ble_eq_true rfl, Nat.le_of_ble_eq_true rfl⟩ dX7_drift_12 (fun r2 S3 H locs hV hw => ?_)
    refine lv_if_eq (tgt := 21) C0.x C0.b dX7_drift_15 (by decide) (fun c4 => ?_) (fun c4 => ?_)
    · have hV := hV.1 c4
      refine lv_aload_n C0.x C0.b dX7_drift_21 rfl (lv_at hl 0 rfl) ?_
      refine r_get C0 hw (C := RX7) (T := TX7) (N := 15) (v := .ref (ad 33)) iw_X7_drift_X7 (lg_0 ad cI cJ X S3) rfl 12 (by decide) (C0.ts _ fw_X7_drift_71) rfl dX7_drift_22 ?_
      refine r_cV_v (As := []) (rest := []) C0 hw (c_X3_begin (ln_33 ad cI cJ X) hV) (cwV 0 C0.ts gX7_drift_X3_begin rfl rfl rfl hd_X3_begin ⟨Nat.le_of_ble_eq_true rfl, Nat.le_of_ble_eq_true rfl⟩) (lg_33 ad cI cJ X S3) rfl rfl hl.1 rfl (Nat.le_of_ble_eq_true rfl) ⟨Nat.le_of_ble_eq_true rfl, Nat.le_of_ble_eq_true rfl⟩ dX7_drift_25 (fun S6 H locs hV hw => ?_)
      refine lv_aload_n C0.x C0.b dX7_drift_28 rfl (lv_at hl 0 rfl) ?_
      refine r_get C0 hw (C := RX7) (T := TX7) (N := 15) (v := .ref (ad 35)) iw_X7_drift_X7 (lg_0 ad cI cJ X S6) rfl 13 (by decide) (C0.ts _ fw_X7_drift_75) rfl dX7_drift_29 ?_
      refine r_cV_v (As := []) (rest := []) C0 hw (c_X3_begin (ln_35 ad cI cJ X) hV) (cwV 0 C0.ts gX7_drift_X3_begin rfl rfl rfl hd_X3_begin ⟨Nat.le_of_ble_eq_true rfl, Nat.le_of_ble_eq_true rfl⟩) (lg_35 ad cI cJ X S6) rfl rfl hl.1 rfl (Nat.le_of_ble_eq_true rfl) ⟨Nat.le_of_ble_eq_true rfl, Nat.le_of_ble_eq_true rfl⟩ dX7_drift_32 (fun S8 H locs hV hw => ?_)
      refine lv_iconst (v := 0) C0.x C0.b dX7_drift_35 (by decide) ?_
      refine lv_istore_n (lv' := [(1, .int (0 : Int32)), (0, .ref (ad 0))]) C0.x C0.b dX7_drift_36 rfl hl (by decide) rfl (fun ls hl => ?_)
      obtain ⟨n37, hV⟩ := hV
      exact lp_X7_drift_37   post C0  n37 _ _ hV _ _ hw _ (lv_sub hl [1, 0] rfl)
    · have hV := hV.2 c4
      refine lv_bipush (v := -2) C0.x C0.b dX7_drift_18 (by decide) ?_
      exact r_iret C0 rfl hw hV dX7_drift_20
/-! StepBench.fixed()I -/
abbrev rm_X7_fixed : Room := { frames := 3, cells := 0, slots := 0, locals := 67 }
set_option maxRecDepth 20000 in
theorem fw_X7_fixed_9 : Cond.fieldLink RX7 9 "StepBench" "ruleKind" "I" ∈ wsX7_fixed := by decide +kernel
set_option maxRecDepth 20000 in
theorem iw_X7_fixed_X7 : ∀ w ∈ wsX70, w ∈ wsX7_fixed := by decide +kernel
set_option maxRecDepth 20000 in
theorem fw_X7_fixed_45 : Cond.fieldLink RX7 45 "StepBench" "numbers" "LStepBench$Numbers;" ∈ wsX7_fixed := by decide +kernel
set_option maxRecDepth 20000 in
theorem fw_X7_fixed_16 : Cond.fieldLink RX7 16 "StepBench" "rule" "LStepBench$Shares;" ∈ wsX7_fixed := by decide +kernel
set_option maxRecDepth 20000 in
theorem hd_X7_fixed : yX7_fixed.cls = RX7 ∧ yX7_fixed.cls ≠ "java/lang/invoke/MethodHandle" ∧ yX7_fixed.cls ≠ "java/lang/invoke/VarHandle" ∧ (parseMethodDescriptor yX7_fixed.desc).map (fun d => d.parameters.length) = some 0 := by decide +kernel
def V_X7_fixed_19    (post : Int32 → SS → Prop) : Nat → Int32 → SS → Prop
  | 0, _, _ => False
  | n + 1, v1, S =>
    (V_X5_measure 1 0 1 2 S (fun (r4 : Int32) (S5 : SS) => ((r4 ≤ v1 → (V_X2_size 7 12 1000 S5 (fun (r7 : Int32) (S8 : SS) => (post r7 S8)))) ∧ (¬ r4 ≤ v1 → (V_X5_d 1 0 1 2 v1 S5 (fun (r9 : Int64) (S10 : SS) => (V_X5_a 1 0 1 2 v1 S10 (fun (r11 : Int64) (S12 : SS) => (∀ y13 : Int64, y13 = (r9 - r11) → ((y13 = (0 : Int64) → (∀ x15 : Int32, x15 = v1 + 1 → (V_X7_fixed_19    post n x15 S12))) ∧ (¬ y13 = (0 : Int64) → (V_X5_b 1 0 1 2 v1 S12 (fun (r16 : Int64) (S17 : SS) => (¬ y13 = 0 ∧ (((lrm r16 y13) = (0 : Int64) → (V_X5_b 1 0 1 2 v1 S17 (fun (r19 : Int64) (S20 : SS) => (¬ y13 = 0 ∧ (V_X5_restOf 1 0 1 2 (r19 / y13) S20 (fun (r21 : Int32) (S22 : SS) => ((r21 = v1 → (V_X5_b 1 0 1 2 v1 S22 (fun (r24 : Int64) (S25 : SS) => (¬ y13 = 0 ∧ (V_X2_sortIn 7 12 1000 (r24 / y13) S25 (fun (S27 : SS) => (∀ x28 : Int32, x28 = v1 + 1 → (V_X7_fixed_19    post n x28 S27)))))))) ∧ (¬ r21 = v1 → (∀ x29 : Int32, x29 = v1 + 1 → (V_X7_fixed_19    post n x29 S22)))))))))) ∧ (¬ (lrm r16 y13) = (0 : Int64) → (∀ x30 : Int32, x30 = v1 + 1 → (V_X7_fixed_19    post n x30 S17))))))))))))))))))
set_option maxHeartbeats 4000000 in
set_option maxRecDepth 100000 in
theorem lp_X7_fixed_19    (post : Int32 → SS → Prop) (C0 : Bd p s m meth c args cX7_fixed 4 (some .int) wsX7_fixed RX7 D n0 cI cJ) : ∀ (n : Nat) (v1 : Int32) (S : SS), V_X7_fixed_19    post n v1 S → ∀ (H : Heap) (locs : List Loc), Wh D n0 ad cI cJ X S s H locs → ∀ ls : Array Slot, lv_has ls 4 [(0, .ref (ad 0)), (1, .int v1)] → W p l e rm_X7_fixed s m args below meth c H locs 0 0 (MQ below (va_Qi post (fun S' t => Wd D n0 ad cI cJ X S' t) (fr n0)) args s 0 0 (fr n0)) (F0 m 19 ls []) := by
  intro n
  induction n with
  | zero => intro v1 S hV; exact False.elim hV
  | succ n ih =>
    intro v1 S hV H locs hw ls hl
    rw [V_X7_fixed_19] at hV
    refine lv_iload_n C0.x C0.b dX7_fixed_19 rfl (lv_at hl 1 rfl) ?_
    refine lv_aload_n C0.x C0.b dX7_fixed_20 rfl (lv_at hl 0 rfl) ?_
    refine r_get C0 hw (C := RX7) (T := TX7) (N := 15) (v := .ref (ad 1)) iw_X7_fixed_X7 (lg_0 ad cI cJ X S) rfl 1 (by decide) (C0.ts _ fw_X7_fixed_16) rfl dX7_fixed_21 ?_
    refine r_cV_i (As := []) (rest := [.int v1]) C0 hw (c_X5_measure (ln_1 ad cI cJ X) hV) (cwV 0 C0.ts gX7_fixed_X5_measure rfl rfl rfl hd_X5_measure ⟨Nat.le_of_ble_eq_true rfl, Nat.le_of_ble_eq_true rfl⟩) (lg_1 ad cI cJ X S) rfl rfl hl.1 rfl (Nat.le_of_ble_eq_true rfl) ⟨Nat.le_of_ble_eq_true rfl, Nat.le_of_ble_eq_true rfl⟩ dX7_fixed_24 (fun r4 S5 H locs hV hw => ?_)
    refine lv_icmp_ge (tgt := 113) C0.x C0.b dX7_fixed_27 (by decide) (fun c6 => ?_) (fun c6 => ?_)
    · have hV := hV.1 c6
      refine lv_aload_n C0.x C0.b dX7_fixed_113 rfl (lv_at hl 0 rfl) ?_
      refine r_get C0 hw (C := RX7) (T := TX7) (N := 15) (v := .ref (ad 19)) iw_X7_fixed_X7 (lg_0 ad cI cJ X S5) rfl 6 (by decide) (C0.ts _ fw_X7_fixed_45) rfl dX7_fixed_114 ?_
      refine r_cV_i (As := []) (rest := []) C0 hw (c_X2_size (ln_19 ad cI cJ X) hV) (cwV 0 C0.ts gX7_fixed_X2_size rfl rfl rfl hd_X2_size ⟨Nat.le_of_ble_eq_true rfl, Nat.le_of_ble_eq_true rfl⟩) (lg_19 ad cI cJ X S5) rfl rfl hl.1 rfl (Nat.le_of_ble_eq_true rfl) ⟨Nat.le_of_ble_eq_true rfl, Nat.le_of_ble_eq_true rfl⟩ dX7_fixed_117 (fun r7 S8 H locs hV hw => ?_)
      exact r_iret C0 rfl hw hV dX7_fixed_120
    · have hV := hV.2 c6
      refine lv_aload_n C0.x C0.b dX7_fixed_30 rfl (lv_at hl 0 rfl) ?_
      refine r_get C0 hw (C := RX7) (T := TX7) (N := 15) (v := .ref (ad 1)) iw_X7_fixed_X7 (lg_0 ad cI cJ X S5) rfl 1 (by decide) (C0.ts _ fw_X7_fixed_16) rfl dX7_fixed_31 ?_
      refine lv_iload_n C0.x C0.b dX7_fixed_34 rfl (lv_at hl 1 rfl) ?_
      refine r_cV_l (As := [.int v1]) (rest := []) C0 hw (c_X5_d (ln_1 ad cI cJ X) hV) (cwV 1 C0.ts gX7_fixed_X5_d rfl rfl rfl hd_X5_d ⟨Nat.le_of_ble_eq_true rfl, Nat.le_of_ble_eq_true rfl⟩) (lg_1 ad cI cJ X S5) rfl rfl hl.1 rfl (Nat.le_of_ble_eq_true rfl) ⟨Nat.le_of_ble_eq_true rfl, Nat.le_of_ble_eq_true rfl⟩ dX7_fixed_35 (fun r9 S10 H locs hV hw => ?_)
      refine lv_aload_n C0.x C0.b dX7_fixed_38 rfl (lv_at hl 0 rfl) ?_
      refine r_get C0 hw (C := RX7) (T := TX7) (N := 15) (v := .ref (ad 1)) iw_X7_fixed_X7 (lg_0 ad cI cJ X S10) rfl 1 (by decide) (C0.ts _ fw_X7_fixed_16) rfl dX7_fixed_39 ?_
      refine lv_iload_n C0.x C0.b dX7_fixed_42 rfl (lv_at hl 1 rfl) ?_
      refine r_cV_l (As := [.int v1]) (rest := [.long r9]) C0 hw (c_X5_a (ln_1 ad cI cJ X) hV) (cwV 1 C0.ts gX7_fixed_X5_a rfl rfl rfl hd_X5_a ⟨Nat.le_of_ble_eq_true rfl, Nat.le_of_ble_eq_true rfl⟩) (lg_1 ad cI cJ X S10) rfl rfl hl.1 rfl (Nat.le_of_ble_eq_true rfl) ⟨Nat.le_of_ble_eq_true rfl, Nat.le_of_ble_eq_true rfl⟩ dX7_fixed_43 (fun r11 S12 H locs hV hw => ?_)
      refine lv_lsub C0.x C0.b dX7_fixed_46 ?_
      refine lv_topl (fun y13 ey13 => ?_)
      have hV := hV y13 ey13
      refine lv_lstore_n (lv' := [(2, .long y13), (0, .ref (ad 0)), (1, .int v1)]) C0.x C0.b dX7_fixed_47 rfl hl (by decide) rfl (fun ls hl => ?_)
      refine lv_lload_n C0.x C0.b dX7_fixed_48 rfl (lv_at hl 0 rfl) ?_
      refine lv_lconst (v := 0) C0.x C0.b dX7_fixed_49 (by decide) ?_
      refine r_lcmp C0 dX7_fixed_50 ?_
      refine lv_if_eq (tgt := 107) C0.x C0.b dX7_fixed_51 (by decide) (fun c14 => ?_) (fun c14 => ?_)
      · have hV := hV.1 ((lc_eq _ _).mp c14)
        obtain ⟨x15, ex15⟩ : ∃ z : Int32, z = v1 + 1 := ⟨_, rfl⟩
        have hV := hV x15 ex15
        refine lv_iinc (v := x15) (lv' := [(1, .int x15), (2, .long y13), (0, .ref (ad 0))]) C0.x C0.b dX7_fixed_107 hl (k := 2) rfl (by rw [ex15]; rfl) (by decide) rfl (fun ls hl => ?_)
        refine lv_goto (tgt := 19) C0.x C0.b dX7_fixed_110 (by decide) ?_
        exact ih _ _ hV _ _ hw _ (lv_sub hl [2, 0] rfl)
      · have hV := hV.2 (fun h => c14 ((lc_eq _ _).mpr h))
        refine lv_aload_n C0.x C0.b dX7_fixed_54 rfl (lv_at hl 1 rfl) ?_
        refine r_get C0 hw (C := RX7) (T := TX7) (N := 15) (v := .ref (ad 1)) iw_X7_fixed_X7 (lg_0 ad cI cJ X S12) rfl 1 (by decide) (C0.ts _ fw_X7_fixed_16) rfl dX7_fixed_55 ?_
        refine lv_iload_n C0.x C0.b dX7_fixed_58 rfl (lv_at hl 2 rfl) ?_
        refine r_cV_l (As := [.int v1]) (rest := []) C0 hw (c_X5_b (ln_1 ad cI cJ X) hV) (cwV 1 C0.ts gX7_fixed_X5_b rfl rfl rfl hd_X5_b ⟨Nat.le_of_ble_eq_true rfl, Nat.le_of_ble_eq_true rfl⟩) (lg_1 ad cI cJ X S12) rfl rfl hl.1 rfl (Nat.le_of_ble_eq_true rfl) ⟨Nat.le_of_ble_eq_true rfl, Nat.le_of_ble_eq_true rfl⟩ dX7_fixed_59 (fun r16 S17 H locs hV hw => ?_)
        refine lv_lload_n C0.x C0.b dX7_fixed_62 rfl (lv_at hl 0 rfl) ?_
        refine lv_lrem C0.x C0.b dX7_fixed_63 hV.1 ?_
        have hV := hV.2
        refine lv_lconst (v := 0) C0.x C0.b dX7_fixed_64 (by decide) ?_
        refine r_lcmp C0 dX7_fixed_65 ?_
        refine lv_if_ne (tgt := 107) C0.x C0.b dX7_fixed_66 (by decide) (fun c18 => ?_) (fun c18 => ?_)
        · have hV := hV.2 (fun h => c18 ((lc_eq _ _).mpr h))
          obtain ⟨x30, ex30⟩ : ∃ z : Int32, z = v1 + 1 := ⟨_, rfl⟩
          have hV := hV x30 ex30
          refine lv_iinc (v := x30) (lv' := [(1, .int x30), (2, .long y13), (0, .ref (ad 0))]) C0.x C0.b dX7_fixed_107 hl (k := 2) rfl (by rw [ex30]; rfl) (by decide) rfl (fun ls hl => ?_)
          refine lv_goto (tgt := 19) C0.x C0.b dX7_fixed_110 (by decide) ?_
          exact ih _ _ hV _ _ hw _ (lv_sub hl [2, 0] rfl)
        · have hV := hV.1 ((lc_eq _ _).mp c18)
          refine lv_aload_n C0.x C0.b dX7_fixed_69 rfl (lv_at hl 1 rfl) ?_
          refine r_get C0 hw (C := RX7) (T := TX7) (N := 15) (v := .ref (ad 1)) iw_X7_fixed_X7 (lg_0 ad cI cJ X S17) rfl 1 (by decide) (C0.ts _ fw_X7_fixed_16) rfl dX7_fixed_70 ?_
          refine lv_aload_n C0.x C0.b dX7_fixed_73 rfl (lv_at hl 1 rfl) ?_
          refine r_get C0 hw (C := RX7) (T := TX7) (N := 15) (v := .ref (ad 1)) iw_X7_fixed_X7 (lg_0 ad cI cJ X S17) rfl 1 (by decide) (C0.ts _ fw_X7_fixed_16) rfl dX7_fixed_74 ?_
          refine lv_iload_n C0.x C0.b dX7_fixed_77 rfl (lv_at hl 2 rfl) ?_
          refine r_cV_l (As := [.int v1]) (rest := [.ref (ad 1)]) C0 hw (c_X5_b (ln_1 ad cI cJ X) hV) (cwV 1 C0.ts gX7_fixed_X5_b rfl rfl rfl hd_X5_b ⟨Nat.le_of_ble_eq_true rfl, Nat.le_of_ble_eq_true rfl⟩) (lg_1 ad cI cJ X S17) rfl rfl hl.1 rfl (Nat.le_of_ble_eq_true rfl) ⟨Nat.le_of_ble_eq_true rfl, Nat.le_of_ble_eq_true rfl⟩ dX7_fixed_78 (fun r19 S20 H locs hV hw => ?_)
          refine lv_lload_n C0.x C0.b dX7_fixed_81 rfl (lv_at hl 0 rfl) ?_
          refine lv_ldiv C0.x C0.b dX7_fixed_82 hV.1 ?_
          have hV := hV.2
          refine r_cV_i (As := [.long (r19 / y13)]) (rest := []) C0 hw (c_X5_restOf (ln_1 ad cI cJ X) hV) (cwV 1 C0.ts gX7_fixed_X5_restOf rfl rfl rfl hd_X5_restOf ⟨Nat.le_of_ble_eq_true rfl, Nat.le_of_ble_eq_true rfl⟩) (lg_1 ad cI cJ X S20) rfl rfl hl.1 rfl (Nat.le_of_ble_eq_true rfl) ⟨Nat.le_of_ble_eq_true rfl, Nat.le_of_ble_eq_true rfl⟩ dX7_fixed_83 (fun r21 S22 H locs hV hw => ?_)
          refine lv_iload_n C0.x C0.b dX7_fixed_86 rfl (lv_at hl 2 rfl) ?_
          refine lv_icmp_ne (tgt := 107) C0.x C0.b dX7_fixed_87 (by decide) (fun c23 => ?_) (fun c23 => ?_)
          · have hV := hV.2 c23
            obtain ⟨x29, ex29⟩ : ∃ z : Int32, z = v1 + 1 := ⟨_, rfl⟩
            have hV := hV x29 ex29
            refine lv_iinc (v := x29) (lv' := [(1, .int x29), (2, .long y13), (0, .ref (ad 0))]) C0.x C0.b dX7_fixed_107 hl (k := 2) rfl (by rw [ex29]; rfl) (by decide) rfl (fun ls hl => ?_)
            refine lv_goto (tgt := 19) C0.x C0.b dX7_fixed_110 (by decide) ?_
            exact ih _ _ hV _ _ hw _ (lv_sub hl [2, 0] rfl)
          · have hV := hV.1 c23
            refine lv_aload_n C0.x C0.b dX7_fixed_90 rfl (lv_at hl 1 rfl) ?_
            refine r_get C0 hw (C := RX7) (T := TX7) (N := 15) (v := .ref (ad 19)) iw_X7_fixed_X7 (lg_0 ad cI cJ X S22) rfl 6 (by decide) (C0.ts _ fw_X7_fixed_45) rfl dX7_fixed_91 ?_
            refine lv_aload_n C0.x C0.b dX7_fixed_94 rfl (lv_at hl 1 rfl) ?_
            refine r_get C0 hw (C := RX7) (T := TX7) (N := 15) (v := .ref (ad 1)) iw_X7_fixed_X7 (lg_0 ad cI cJ X S22) rfl 1 (by decide) (C0.ts _ fw_X7_fixed_16) rfl dX7_fixed_95 ?_
            refine lv_iload_n C0.x C0.b dX7_fixed_98 rfl (lv_at hl 2 rfl) ?_
            refine r_cV_l (As := [.int v1]) (rest := [.ref (ad 19)]) C0 hw (c_X5_b (ln_1 ad cI cJ X) hV) (cwV 1 C0.ts gX7_fixed_X5_b rfl rfl rfl hd_X5_b ⟨Nat.le_of_ble_eq_true rfl, Nat.le_of_ble_eq_true rfl⟩) (lg_1 ad cI cJ X S22) rfl rfl hl.1 rfl (Nat.le_of_ble_eq_true rfl) ⟨Nat.le_of_ble_eq_true rfl, Nat.le_of_ble_eq_true rfl⟩ dX7_fixed_99 (fun r24 S25 H locs hV hw => ?_)
            refine lv_lload_n C0.x C0.b dX7_fixed_102 rfl (lv_at hl 0 rfl) ?_
            refine lv_ldiv C0.x C0.b dX7_fixed_103 hV.1 ?_
            have hV := hV.2
            refine r_cV_v (As := [.long (r24 / y13)]) (rest := []) C0 hw (c_X2_sortIn (ln_19 ad cI cJ X) hV) (cwV 1 C0.ts gX7_fixed_X2_sortIn rfl rfl rfl hd_X2_sortIn ⟨Nat.le_of_ble_eq_true rfl, Nat.le_of_ble_eq_true rfl⟩) (lg_19 ad cI cJ X S25) rfl rfl hl.1 rfl (Nat.le_of_ble_eq_true rfl) ⟨Nat.le_of_ble_eq_true rfl, Nat.le_of_ble_eq_true rfl⟩ dX7_fixed_104 (fun S27 H locs hV hw => ?_)
            obtain ⟨x28, ex28⟩ : ∃ z : Int32, z = v1 + 1 := ⟨_, rfl⟩
            have hV := hV x28 ex28
            refine lv_iinc (v := x28) (lv' := [(1, .int x28), (2, .long y13), (0, .ref (ad 0))]) C0.x C0.b dX7_fixed_107 hl (k := 2) rfl (by rw [ex28]; rfl) (by decide) rfl (fun ls hl => ?_)
            refine lv_goto (tgt := 19) C0.x C0.b dX7_fixed_110 (by decide) ?_
            exact ih _ _ hV _ _ hw _ (lv_sub hl [2, 0] rfl)
def V_X7_fixed   (S : SS) (post : Int32 → SS → Prop) : Prop :=
  (((gI S 0) = (1 : Int32) → (V_X2_empty 7 12 1000 S (fun (S3 : SS) => (∃ n19 : Nat, V_X7_fixed_19    post n19 (0 : Int32) S3)))) ∧ (¬ (gI S 0) = (1 : Int32) → (post (-1 : Int32) S)))
set_option maxHeartbeats 4000000 in
set_option maxRecDepth 100000 in
theorem c_X7_fixed  {S : SS}  {post : Int32 → SS → Prop} (hV : V_X7_fixed   S post) : MI l yX7_fixed wsX7_fixed rm_X7_fixed [.ref (ad 0)] D n0 ad cI cJ X S post := by
  refine Met.ofW (cc := cX7_fixed) (maxL := 4) (ret := (some .int)) (by decide) rfl ?_
  intro p e s m args below meth c s₁ B hml hv
  obtain ⟨rfl, hv⟩ := hv
  have C0 := Bd.mk B hml (atoms_spec (ws := wsX7_fixed) B.pre) (findClass_of_methodNamed B.named) hv.1
  have hw : Wh D n0 ad cI cJ X S s s.heap [] := ⟨hv.2.1, hv.2.2, va_S.rf⟩
  refine r_entry (Nat.le_of_ble_eq_true rfl) (fun ls hl => ?_)
  have hl : lv_has ls 4 [(0, .ref (ad 0))] := hl
  unfold V_X7_fixed at hV
  refine lv_aload_n C0.x C0.b dX7_fixed_0 rfl (lv_at hl 0 rfl) ?_
  refine r_get C0 hw (C := RX7) (T := TX7) (N := 15) (v := .int (gI S 0)) iw_X7_fixed_X7 (lg_0 ad cI cJ X S) rfl 0 (by decide) (C0.ts _ fw_X7_fixed_9) rfl dX7_fixed_1 ?_
  refine lv_iconst (v := 1) C0.x C0.b dX7_fixed_4 (by decide) ?_
  refine lv_icmp_eq (tgt := 10) C0.x C0.b dX7_fixed_5 (by decide) (fun c1 => ?_) (fun c1 => ?_)
  · have hV := hV.1 c1
    refine lv_aload_n C0.x C0.b dX7_fixed_10 rfl (lv_at hl 0 rfl) ?_
    refine r_get C0 hw (C := RX7) (T := TX7) (N := 15) (v := .ref (ad 19)) iw_X7_fixed_X7 (lg_0 ad cI cJ X S) rfl 6 (by decide) (C0.ts _ fw_X7_fixed_45) rfl dX7_fixed_11 ?_
    refine r_cV_v (As := []) (rest := []) C0 hw (c_X2_empty (ln_19 ad cI cJ X) hV) (cwV 0 C0.ts gX7_fixed_X2_empty rfl rfl rfl hd_X2_empty ⟨Nat.le_of_ble_eq_true rfl, Nat.le_of_ble_eq_true rfl⟩) (lg_19 ad cI cJ X S) rfl rfl hl.1 rfl (Nat.le_of_ble_eq_true rfl) ⟨Nat.le_of_ble_eq_true rfl, Nat.le_of_ble_eq_true rfl⟩ dX7_fixed_14 (fun S3 H locs hV hw => ?_)
    refine lv_iconst (v := 0) C0.x C0.b dX7_fixed_17 (by decide) ?_
    refine lv_istore_n (lv' := [(1, .int (0 : Int32)), (0, .ref (ad 0))]) C0.x C0.b dX7_fixed_18 rfl hl (by decide) rfl (fun ls hl => ?_)
    obtain ⟨n19, hV⟩ := hV
    exact lp_X7_fixed_19   post C0  n19 _ _ hV _ _ hw _ (lv_sub hl [1, 0] rfl)
  · have hV := hV.2 c1
    refine lv_iconst (v := -1) C0.x C0.b dX7_fixed_8 (by decide) ?_
    exact r_iret C0 rfl hw hV dX7_fixed_9
/-! StepBench.isActNumber(I)Z -/
abbrev rm_X7_isActNumber : Room := { frames := 0, cells := 0, slots := 0, locals := 0 }
set_option maxRecDepth 20000 in
theorem hd_X7_isActNumber : yX7_isActNumber.cls ≠ "java/lang/invoke/MethodHandle" ∧ yX7_isActNumber.cls ≠ "java/lang/invoke/VarHandle" ∧ (parseMethodDescriptor yX7_isActNumber.desc).map (fun d => d.parameters.length) = some 1 := by decide +kernel
def V_X7_isActNumber  (p0 : Int32) (S : SS) (post : Int32 → SS → Prop) : Prop :=
  ((p0 < 0 → (post (0 : Int32) S)) ∧ (¬ p0 < 0 → (((12 : Int32) ≤ p0 → (post (0 : Int32) S)) ∧ (¬ (12 : Int32) ≤ p0 → (post (1 : Int32) S)))))
set_option maxHeartbeats 4000000 in
set_option maxRecDepth 100000 in
theorem c_X7_isActNumber  {S : SS} {p0 : Int32} {post : Int32 → SS → Prop} (hV : V_X7_isActNumber  p0 S post) : MI l yX7_isActNumber wsX7_isActNumber rm_X7_isActNumber [.int p0] D n0 ad cI cJ X S post := by
  refine Met.ofW (cc := cX7_isActNumber) (maxL := 1) (ret := (some .boolean)) (by decide) rfl ?_
  intro p e s m args below meth c s₁ B hml hv
  obtain ⟨rfl, hv⟩ := hv
  have C0 := Bd.mk B hml (atoms_spec (ws := wsX7_isActNumber) B.pre) (findClass_of_methodNamed B.named) hv.1
  have hw : Wh D n0 ad cI cJ X S s s.heap [] := ⟨hv.2.1, hv.2.2, va_S.rf⟩
  refine r_entry (Nat.le_of_ble_eq_true rfl) (fun ls hl => ?_)
  have hl : lv_has ls 1 [(0, .int p0)] := hl
  unfold V_X7_isActNumber at hV
  refine lv_iload_n C0.x C0.b dX7_isActNumber_0 rfl (lv_at hl 0 rfl) ?_
  refine lv_if_lt (tgt := 14) C0.x C0.b dX7_isActNumber_1 (by decide) (fun c1 => ?_) (fun c1 => ?_)
  · have hV := hV.1 c1
    refine lv_iconst (v := 0) C0.x C0.b dX7_isActNumber_14 (by decide) ?_
    exact r_zret C0 rfl bz_0 hw hV dX7_isActNumber_15
  · have hV := hV.2 c1
    refine lv_iload_n C0.x C0.b dX7_isActNumber_4 rfl (lv_at hl 0 rfl) ?_
    refine lv_bipush (v := 12) C0.x C0.b dX7_isActNumber_5 (by decide) ?_
    refine lv_icmp_ge (tgt := 14) C0.x C0.b dX7_isActNumber_7 (by decide) (fun c2 => ?_) (fun c2 => ?_)
    · have hV := hV.1 c2
      refine lv_iconst (v := 0) C0.x C0.b dX7_isActNumber_14 (by decide) ?_
      exact r_zret C0 rfl bz_0 hw hV dX7_isActNumber_15
    · have hV := hV.2 c2
      refine lv_iconst (v := 1) C0.x C0.b dX7_isActNumber_10 (by decide) ?_
      refine lv_goto (tgt := 15) C0.x C0.b dX7_isActNumber_11 (by decide) ?_
      exact r_zret C0 rfl bz_1 hw hV dX7_isActNumber_15
/-! StepBench.act(IIII)I -/
abbrev rm_X7_act : Room := { frames := 2, cells := 0, slots := 0, locals := 46 }
set_option maxRecDepth 20000 in
theorem fw_X7_act_81 : Cond.fieldLink RX7 81 "StepBench" "machine" "LStepBench$Machine;" ∈ wsX7_act := by decide +kernel
set_option maxRecDepth 20000 in
theorem iw_X7_act_X7 : ∀ w ∈ wsX70, w ∈ wsX7_act := by decide +kernel
set_option maxRecDepth 20000 in
theorem hd_X7_act : yX7_act.cls = RX7 ∧ yX7_act.cls ≠ "java/lang/invoke/MethodHandle" ∧ yX7_act.cls ≠ "java/lang/invoke/VarHandle" ∧ (parseMethodDescriptor yX7_act.desc).map (fun d => d.parameters.length) = some 4 := by decide +kernel
def V_X7_act  (p0 : Int32) (p1 : Int32) (p2 : Int32) (p3 : Int32) (S : SS) (post : Int32 → SS → Prop) : Prop :=
  ((p0 < 0 → (post (-1 : Int32) S)) ∧ (¬ p0 < 0 → ((p0 ≤ (2 : Int32) → ((p0 = (2 : Int32) → ((p0 = (1 : Int32) → (V_X7_isActNumber p3 S (fun (r5 : Int32) (S6 : SS) => ((r5 = 0 → (post (-1 : Int32) S6)) ∧ (¬ r5 = 0 → (V_X1_add p0 p1 p2 p3 S6 (fun (r8 : Int32) (S9 : SS) => ((r8 = 0 → (post (-1 : Int32) S9)) ∧ (¬ r8 = 0 → (V_X1_size  S9 (fun (r11 : Int32) (S12 : SS) => (post (r11 - (1 : Int32)) S12)))))))))))) ∧ (¬ p0 = (1 : Int32) → (V_X1_add p0 p1 p2 p3 S (fun (r13 : Int32) (S14 : SS) => ((r13 = 0 → (post (-1 : Int32) S14)) ∧ (¬ r13 = 0 → (V_X1_size  S14 (fun (r16 : Int32) (S17 : SS) => (post (r16 - (1 : Int32)) S17)))))))))) ∧ (¬ p0 = (2 : Int32) → ((p1 < 0 → (post (-1 : Int32) S)) ∧ (¬ p1 < 0 → (((4 : Int32) ≤ p1 → (post (-1 : Int32) S)) ∧ (¬ (4 : Int32) ≤ p1 → (V_X7_isActNumber p2 S (fun (r20 : Int32) (S21 : SS) => ((r20 = 0 → (post (-1 : Int32) S21)) ∧ (¬ r20 = 0 → ((p0 = (1 : Int32) → (V_X7_isActNumber p3 S21 (fun (r24 : Int32) (S25 : SS) => ((r24 = 0 → (post (-1 : Int32) S25)) ∧ (¬ r24 = 0 → (V_X1_add p0 p1 p2 p3 S25 (fun (r27 : Int32) (S28 : SS) => ((r27 = 0 → (post (-1 : Int32) S28)) ∧ (¬ r27 = 0 → (V_X1_size  S28 (fun (r30 : Int32) (S31 : SS) => (post (r30 - (1 : Int32)) S31)))))))))))) ∧ (¬ p0 = (1 : Int32) → (V_X1_add p0 p1 p2 p3 S21 (fun (r32 : Int32) (S33 : SS) => ((r32 = 0 → (post (-1 : Int32) S33)) ∧ (¬ r32 = 0 → (V_X1_size  S33 (fun (r35 : Int32) (S36 : SS) => (post (r35 - (1 : Int32)) S36)))))))))))))))))))) ∧ (¬ p0 ≤ (2 : Int32) → (post (-1 : Int32) S)))))
set_option maxHeartbeats 4000000 in
set_option maxRecDepth 100000 in
theorem c_X7_act  {S : SS} {p0 : Int32} {p1 : Int32} {p2 : Int32} {p3 : Int32} {post : Int32 → SS → Prop} (hV : V_X7_act  p0 p1 p2 p3 S post) : MI l yX7_act wsX7_act rm_X7_act [.ref (ad 0), .int p0, .int p1, .int p2, .int p3] D n0 ad cI cJ X S post := by
  refine Met.ofW (cc := cX7_act) (maxL := 5) (ret := (some .int)) (by decide) rfl ?_
  intro p e s m args below meth c s₁ B hml hv
  obtain ⟨rfl, hv⟩ := hv
  have C0 := Bd.mk B hml (atoms_spec (ws := wsX7_act) B.pre) (findClass_of_methodNamed B.named) hv.1
  have hw : Wh D n0 ad cI cJ X S s s.heap [] := ⟨hv.2.1, hv.2.2, va_S.rf⟩
  refine r_entry (Nat.le_of_ble_eq_true rfl) (fun ls hl => ?_)
  have hl : lv_has ls 5 [(0, .ref (ad 0)), (1, .int p0), (2, .int p1), (3, .int p2), (4, .int p3)] := hl
  unfold V_X7_act at hV
  refine lv_iload_n C0.x C0.b dX7_act_0 rfl (lv_at hl 1 rfl) ?_
  refine lv_if_lt (tgt := 9) C0.x C0.b dX7_act_1 (by decide) (fun c1 => ?_) (fun c1 => ?_)
  · have hV := hV.1 c1
    refine lv_iconst (v := -1) C0.x C0.b dX7_act_9 (by decide) ?_
    exact r_iret C0 rfl hw hV dX7_act_10
  · have hV := hV.2 c1
    refine lv_iload_n C0.x C0.b dX7_act_4 rfl (lv_at hl 1 rfl) ?_
    refine lv_iconst (v := 2) C0.x C0.b dX7_act_5 (by decide) ?_
    refine lv_icmp_le (tgt := 11) C0.x C0.b dX7_act_6 (by decide) (fun c2 => ?_) (fun c2 => ?_)
    · have hV := hV.1 c2
      refine lv_iload_n C0.x C0.b dX7_act_11 rfl (lv_at hl 1 rfl) ?_
      refine lv_iconst (v := 2) C0.x C0.b dX7_act_12 (by decide) ?_
      refine lv_icmp_eq (tgt := 34) C0.x C0.b dX7_act_13 (by decide) (fun c3 => ?_) (fun c3 => ?_)
      · have hV := hV.1 c3
        refine lv_iload_n C0.x C0.b dX7_act_34 rfl (lv_at hl 1 rfl) ?_
        refine lv_iconst (v := 1) C0.x C0.b dX7_act_35 (by decide) ?_
        refine lv_icmp_ne (tgt := 49) C0.x C0.b dX7_act_36 (by decide) (fun c4 => ?_) (fun c4 => ?_)
        · have hV := hV.2 c4
          refine lv_aload_n C0.x C0.b dX7_act_49 rfl (lv_at hl 0 rfl) ?_
          refine r_get C0 hw (C := RX7) (T := TX7) (N := 15) (v := .ref (ad 37)) iw_X7_act_X7 (lg_0 ad cI cJ X S) rfl 14 (by decide) (C0.ts _ fw_X7_act_81) rfl dX7_act_50 ?_
          refine lv_iload_n C0.x C0.b dX7_act_53 rfl (lv_at hl 1 rfl) ?_
          refine lv_iload_n C0.x C0.b dX7_act_54 rfl (lv_at hl 2 rfl) ?_
          refine lv_iload_n C0.x C0.b dX7_act_55 rfl (lv_at hl 3 rfl) ?_
          refine lv_iload C0.x C0.b dX7_act_56 (lv_at hl 4 rfl) ?_
          refine r_cV_i (As := [.int p0, .int p1, .int p2, .int p3]) (rest := []) C0 hw (c_X1_add  hV) (cwV 4 C0.ts gX7_act_X1_add rfl rfl rfl hd_X1_add ⟨Nat.le_of_ble_eq_true rfl, Nat.le_of_ble_eq_true rfl⟩) (lg_37 ad cI cJ X S) rfl rfl hl.1 rfl (Nat.le_of_ble_eq_true rfl) ⟨Nat.le_of_ble_eq_true rfl, Nat.le_of_ble_eq_true rfl⟩ dX7_act_58 (fun r13 S14 H locs hV hw => ?_)
          refine lv_if_eq (tgt := 76) C0.x C0.b dX7_act_61 (by decide) (fun c15 => ?_) (fun c15 => ?_)
          · have hV := hV.1 c15
            refine lv_iconst (v := -1) C0.x C0.b dX7_act_76 (by decide) ?_
            exact r_iret C0 rfl hw hV dX7_act_77
          · have hV := hV.2 c15
            refine lv_aload_n C0.x C0.b dX7_act_64 rfl (lv_at hl 0 rfl) ?_
            refine r_get C0 hw (C := RX7) (T := TX7) (N := 15) (v := .ref (ad 37)) iw_X7_act_X7 (lg_0 ad cI cJ X S14) rfl 14 (by decide) (C0.ts _ fw_X7_act_81) rfl dX7_act_65 ?_
            refine r_cV_i (As := []) (rest := []) C0 hw (c_X1_size  hV) (cwV 0 C0.ts gX7_act_X1_size rfl rfl rfl hd_X1_size ⟨Nat.le_of_ble_eq_true rfl, Nat.le_of_ble_eq_true rfl⟩) (lg_37 ad cI cJ X S14) rfl rfl hl.1 rfl (Nat.le_of_ble_eq_true rfl) ⟨Nat.le_of_ble_eq_true rfl, Nat.le_of_ble_eq_true rfl⟩ dX7_act_68 (fun r16 S17 H locs hV hw => ?_)
            refine lv_iconst (v := 1) C0.x C0.b dX7_act_71 (by decide) ?_
            refine lv_isub C0.x C0.b dX7_act_72 ?_
            refine lv_goto (tgt := 77) C0.x C0.b dX7_act_73 (by decide) ?_
            exact r_iret C0 rfl hw hV dX7_act_77
        · have hV := hV.1 c4
          refine lv_iload C0.x C0.b dX7_act_39 (lv_at hl 4 rfl) ?_
          refine r_cS_i (As := [.int p3]) (rest := []) C0 hw (c_X7_isActNumber  hV) (va_cwS 1 C0.ts gX7_act_X7_isActNumber rfl rfl rfl hd_X7_isActNumber ⟨Nat.le_of_ble_eq_true rfl, Nat.le_of_ble_eq_true rfl⟩) rfl hl.1 rfl (Nat.le_of_ble_eq_true rfl) ⟨Nat.le_of_ble_eq_true rfl, Nat.le_of_ble_eq_true rfl⟩ dX7_act_41 (fun r5 S6 H locs hV hw => ?_)
          refine lv_if_ne (tgt := 49) C0.x C0.b dX7_act_44 (by decide) (fun c7 => ?_) (fun c7 => ?_)
          · have hV := hV.2 c7
            refine lv_aload_n C0.x C0.b dX7_act_49 rfl (lv_at hl 0 rfl) ?_
            refine r_get C0 hw (C := RX7) (T := TX7) (N := 15) (v := .ref (ad 37)) iw_X7_act_X7 (lg_0 ad cI cJ X S6) rfl 14 (by decide) (C0.ts _ fw_X7_act_81) rfl dX7_act_50 ?_
            refine lv_iload_n C0.x C0.b dX7_act_53 rfl (lv_at hl 1 rfl) ?_
            refine lv_iload_n C0.x C0.b dX7_act_54 rfl (lv_at hl 2 rfl) ?_
            refine lv_iload_n C0.x C0.b dX7_act_55 rfl (lv_at hl 3 rfl) ?_
            refine lv_iload C0.x C0.b dX7_act_56 (lv_at hl 4 rfl) ?_
            refine r_cV_i (As := [.int p0, .int p1, .int p2, .int p3]) (rest := []) C0 hw (c_X1_add  hV) (cwV 4 C0.ts gX7_act_X1_add rfl rfl rfl hd_X1_add ⟨Nat.le_of_ble_eq_true rfl, Nat.le_of_ble_eq_true rfl⟩) (lg_37 ad cI cJ X S6) rfl rfl hl.1 rfl (Nat.le_of_ble_eq_true rfl) ⟨Nat.le_of_ble_eq_true rfl, Nat.le_of_ble_eq_true rfl⟩ dX7_act_58 (fun r8 S9 H locs hV hw => ?_)
            refine lv_if_eq (tgt := 76) C0.x C0.b dX7_act_61 (by decide) (fun c10 => ?_) (fun c10 => ?_)
            · have hV := hV.1 c10
              refine lv_iconst (v := -1) C0.x C0.b dX7_act_76 (by decide) ?_
              exact r_iret C0 rfl hw hV dX7_act_77
            · have hV := hV.2 c10
              refine lv_aload_n C0.x C0.b dX7_act_64 rfl (lv_at hl 0 rfl) ?_
              refine r_get C0 hw (C := RX7) (T := TX7) (N := 15) (v := .ref (ad 37)) iw_X7_act_X7 (lg_0 ad cI cJ X S9) rfl 14 (by decide) (C0.ts _ fw_X7_act_81) rfl dX7_act_65 ?_
              refine r_cV_i (As := []) (rest := []) C0 hw (c_X1_size  hV) (cwV 0 C0.ts gX7_act_X1_size rfl rfl rfl hd_X1_size ⟨Nat.le_of_ble_eq_true rfl, Nat.le_of_ble_eq_true rfl⟩) (lg_37 ad cI cJ X S9) rfl rfl hl.1 rfl (Nat.le_of_ble_eq_true rfl) ⟨Nat.le_of_ble_eq_true rfl, Nat.le_of_ble_eq_true rfl⟩ dX7_act_68 (fun r11 S12 H locs hV hw => ?_)
              refine lv_iconst (v := 1) C0.x C0.b dX7_act_71 (by decide) ?_
              refine lv_isub C0.x C0.b dX7_act_72 ?_
              refine lv_goto (tgt := 77) C0.x C0.b dX7_act_73 (by decide) ?_
              exact r_iret C0 rfl hw hV dX7_act_77
          · have hV := hV.1 c7
            refine lv_iconst (v := -1) C0.x C0.b dX7_act_47 (by decide) ?_
            exact r_iret C0 rfl hw hV dX7_act_48
      · have hV := hV.2 c3
        refine lv_iload_n C0.x C0.b dX7_act_16 rfl (lv_at hl 2 rfl) ?_
        refine lv_if_lt (tgt := 32) C0.x C0.b dX7_act_17 (by decide) (fun c18 => ?_) (fun c18 => ?_)
        · have hV := hV.1 c18
          refine lv_iconst (v := -1) C0.x C0.b dX7_act_32 (by decide) ?_
          exact r_iret C0 rfl hw hV dX7_act_33
        · have hV := hV.2 c18
          refine lv_iload_n C0.x C0.b dX7_act_20 rfl (lv_at hl 2 rfl) ?_
          refine lv_iconst (v := 4) C0.x C0.b dX7_act_21 (by decide) ?_
          refine lv_icmp_ge (tgt := 32) C0.x C0.b dX7_act_22 (by decide) (fun c19 => ?_) (fun c19 => ?_)
          · have hV := hV.1 c19
            refine lv_iconst (v := -1) C0.x C0.b dX7_act_32 (by decide) ?_
            exact r_iret C0 rfl hw hV dX7_act_33
          · have hV := hV.2 c19
            refine lv_iload_n C0.x C0.b dX7_act_25 rfl (lv_at hl 3 rfl) ?_
            refine r_cS_i (As := [.int p2]) (rest := []) C0 hw (c_X7_isActNumber  hV) (va_cwS 1 C0.ts gX7_act_X7_isActNumber rfl rfl rfl hd_X7_isActNumber ⟨Nat.le_of_ble_eq_true rfl, Nat.le_of_ble_eq_true rfl⟩) rfl hl.1 rfl (Nat.le_of_ble_eq_true rfl) ⟨Nat.le_of_ble_eq_true rfl, Nat.le_of_ble_eq_true rfl⟩ dX7_act_26 (fun r20 S21 H locs hV hw => ?_)
            refine lv_if_ne (tgt := 34) C0.x C0.b dX7_act_29 (by decide) (fun c22 => ?_) (fun c22 => ?_)
            · have hV := hV.2 c22
              refine lv_iload_n C0.x C0.b dX7_act_34 rfl (lv_at hl 1 rfl) ?_
              refine lv_iconst (v := 1) C0.x C0.b dX7_act_35 (by decide) ?_
              refine lv_icmp_ne (tgt := 49) C0.x C0.b dX7_act_36 (by decide) (fun c23 => ?_) (fun c23 => ?_)
              · have hV := hV.2 c23
                refine lv_aload_n C0.x C0.b dX7_act_49 rfl (lv_at hl 0 rfl) ?_
                refine r_get C0 hw (C := RX7) (T := TX7) (N := 15) (v := .ref (ad 37)) iw_X7_act_X7 (lg_0 ad cI cJ X S21) rfl 14 (by decide) (C0.ts _ fw_X7_act_81) rfl dX7_act_50 ?_
                refine lv_iload_n C0.x C0.b dX7_act_53 rfl (lv_at hl 1 rfl) ?_
                refine lv_iload_n C0.x C0.b dX7_act_54 rfl (lv_at hl 2 rfl) ?_
                refine lv_iload_n C0.x C0.b dX7_act_55 rfl (lv_at hl 3 rfl) ?_
                refine lv_iload C0.x C0.b dX7_act_56 (lv_at hl 4 rfl) ?_
                refine r_cV_i (As := [.int p0, .int p1, .int p2, .int p3]) (rest := []) C0 hw (c_X1_add  hV) (cwV 4 C0.ts gX7_act_X1_add rfl rfl rfl hd_X1_add ⟨Nat.le_of_ble_eq_true rfl, Nat.le_of_ble_eq_true rfl⟩) (lg_37 ad cI cJ X S21) rfl rfl hl.1 rfl (Nat.le_of_ble_eq_true rfl) ⟨Nat.le_of_ble_eq_true rfl, Nat.le_of_ble_eq_true rfl⟩ dX7_act_58 (fun r32 S33 H locs hV hw => ?_)
                refine lv_if_eq (tgt := 76) C0.x C0.b dX7_act_61 (by decide) (fun c34 => ?_) (fun c34 => ?_)
                · have hV := hV.1 c34
                  refine lv_iconst (v := -1) C0.x C0.b dX7_act_76 (by decide) ?_
                  exact r_iret C0 rfl hw hV dX7_act_77
                · have hV := hV.2 c34
                  refine lv_aload_n C0.x C0.b dX7_act_64 rfl (lv_at hl 0 rfl) ?_
                  refine r_get C0 hw (C := RX7) (T := TX7) (N := 15) (v := .ref (ad 37)) iw_X7_act_X7 (lg_0 ad cI cJ X S33) rfl 14 (by decide) (C0.ts _ fw_X7_act_81) rfl dX7_act_65 ?_
                  refine r_cV_i (As := []) (rest := []) C0 hw (c_X1_size  hV) (cwV 0 C0.ts gX7_act_X1_size rfl rfl rfl hd_X1_size ⟨Nat.le_of_ble_eq_true rfl, Nat.le_of_ble_eq_true rfl⟩) (lg_37 ad cI cJ X S33) rfl rfl hl.1 rfl (Nat.le_of_ble_eq_true rfl) ⟨Nat.le_of_ble_eq_true rfl, Nat.le_of_ble_eq_true rfl⟩ dX7_act_68 (fun r35 S36 H locs hV hw => ?_)
                  refine lv_iconst (v := 1) C0.x C0.b dX7_act_71 (by decide) ?_
                  refine lv_isub C0.x C0.b dX7_act_72 ?_
                  refine lv_goto (tgt := 77) C0.x C0.b dX7_act_73 (by decide) ?_
                  exact r_iret C0 rfl hw hV dX7_act_77
              · have hV := hV.1 c23
                refine lv_iload C0.x C0.b dX7_act_39 (lv_at hl 4 rfl) ?_
                refine r_cS_i (As := [.int p3]) (rest := []) C0 hw (c_X7_isActNumber  hV) (va_cwS 1 C0.ts gX7_act_X7_isActNumber rfl rfl rfl hd_X7_isActNumber ⟨Nat.le_of_ble_eq_true rfl, Nat.le_of_ble_eq_true rfl⟩) rfl hl.1 rfl (Nat.le_of_ble_eq_true rfl) ⟨Nat.le_of_ble_eq_true rfl, Nat.le_of_ble_eq_true rfl⟩ dX7_act_41 (fun r24 S25 H locs hV hw => ?_)
                refine lv_if_ne (tgt := 49) C0.x C0.b dX7_act_44 (by decide) (fun c26 => ?_) (fun c26 => ?_)
                · have hV := hV.2 c26
                  refine lv_aload_n C0.x C0.b dX7_act_49 rfl (lv_at hl 0 rfl) ?_
                  refine r_get C0 hw (C := RX7) (T := TX7) (N := 15) (v := .ref (ad 37)) iw_X7_act_X7 (lg_0 ad cI cJ X S25) rfl 14 (by decide) (C0.ts _ fw_X7_act_81) rfl dX7_act_50 ?_
                  refine lv_iload_n C0.x C0.b dX7_act_53 rfl (lv_at hl 1 rfl) ?_
                  refine lv_iload_n C0.x C0.b dX7_act_54 rfl (lv_at hl 2 rfl) ?_
                  refine lv_iload_n C0.x C0.b dX7_act_55 rfl (lv_at hl 3 rfl) ?_
                  refine lv_iload C0.x C0.b dX7_act_56 (lv_at hl 4 rfl) ?_
                  refine r_cV_i (As := [.int p0, .int p1, .int p2, .int p3]) (rest := []) C0 hw (c_X1_add  hV) (cwV 4 C0.ts gX7_act_X1_add rfl rfl rfl hd_X1_add ⟨Nat.le_of_ble_eq_true rfl, Nat.le_of_ble_eq_true rfl⟩) (lg_37 ad cI cJ X S25) rfl rfl hl.1 rfl (Nat.le_of_ble_eq_true rfl) ⟨Nat.le_of_ble_eq_true rfl, Nat.le_of_ble_eq_true rfl⟩ dX7_act_58 (fun r27 S28 H locs hV hw => ?_)
                  refine lv_if_eq (tgt := 76) C0.x C0.b dX7_act_61 (by decide) (fun c29 => ?_) (fun c29 => ?_)
                  · have hV := hV.1 c29
                    refine lv_iconst (v := -1) C0.x C0.b dX7_act_76 (by decide) ?_
                    exact r_iret C0 rfl hw hV dX7_act_77
                  · have hV := hV.2 c29
                    refine lv_aload_n C0.x C0.b dX7_act_64 rfl (lv_at hl 0 rfl) ?_
                    refine r_get C0 hw (C := RX7) (T := TX7) (N := 15) (v := .ref (ad 37)) iw_X7_act_X7 (lg_0 ad cI cJ X S28) rfl 14 (by decide) (C0.ts _ fw_X7_act_81) rfl dX7_act_65 ?_
                    refine r_cV_i (As := []) (rest := []) C0 hw (c_X1_size  hV) (cwV 0 C0.ts gX7_act_X1_size rfl rfl rfl hd_X1_size ⟨Nat.le_of_ble_eq_true rfl, Nat.le_of_ble_eq_true rfl⟩) (lg_37 ad cI cJ X S28) rfl rfl hl.1 rfl (Nat.le_of_ble_eq_true rfl) ⟨Nat.le_of_ble_eq_true rfl, Nat.le_of_ble_eq_true rfl⟩ dX7_act_68 (fun r30 S31 H locs hV hw => ?_)
                    refine lv_iconst (v := 1) C0.x C0.b dX7_act_71 (by decide) ?_
                    refine lv_isub C0.x C0.b dX7_act_72 ?_
                    refine lv_goto (tgt := 77) C0.x C0.b dX7_act_73 (by decide) ?_
                    exact r_iret C0 rfl hw hV dX7_act_77
                · have hV := hV.1 c26
                  refine lv_iconst (v := -1) C0.x C0.b dX7_act_47 (by decide) ?_
                  exact r_iret C0 rfl hw hV dX7_act_48
            · have hV := hV.1 c22
              refine lv_iconst (v := -1) C0.x C0.b dX7_act_32 (by decide) ?_
              exact r_iret C0 rfl hw hV dX7_act_33
    · have hV := hV.2 c2
      refine lv_iconst (v := -1) C0.x C0.b dX7_act_9 (by decide) ?_
      exact r_iret C0 rfl hw hV dX7_act_10
/-! StepBench.scrap()I -/
abbrev rm_X7_scrap : Room := { frames := 2, cells := 0, slots := 0, locals := 40 }
set_option maxRecDepth 20000 in
theorem fw_X7_scrap_81 : Cond.fieldLink RX7 81 "StepBench" "machine" "LStepBench$Machine;" ∈ wsX7_scrap := by decide +kernel
set_option maxRecDepth 20000 in
theorem iw_X7_scrap_X7 : ∀ w ∈ wsX70, w ∈ wsX7_scrap := by decide +kernel
set_option maxRecDepth 20000 in
theorem hd_X7_scrap : yX7_scrap.cls = RX7 ∧ yX7_scrap.cls ≠ "java/lang/invoke/MethodHandle" ∧ yX7_scrap.cls ≠ "java/lang/invoke/VarHandle" ∧ (parseMethodDescriptor yX7_scrap.desc).map (fun d => d.parameters.length) = some 0 := by decide +kernel
def V_X7_scrap   (S : SS) (post : Int32 → SS → Prop) : Prop :=
  (V_X1_size  S (fun (r1 : Int32) (S2 : SS) => (V_X1_empty  S2 (fun (S4 : SS) => (post r1 S4)))))
set_option maxHeartbeats 4000000 in
set_option maxRecDepth 100000 in
theorem c_X7_scrap  {S : SS}  {post : Int32 → SS → Prop} (hV : V_X7_scrap   S post) : MI l yX7_scrap wsX7_scrap rm_X7_scrap [.ref (ad 0)] D n0 ad cI cJ X S post := by
  refine Met.ofW (cc := cX7_scrap) (maxL := 2) (ret := (some .int)) (by decide) rfl ?_
  intro p e s m args below meth c s₁ B hml hv
  obtain ⟨rfl, hv⟩ := hv
  have C0 := Bd.mk B hml (atoms_spec (ws := wsX7_scrap) B.pre) (findClass_of_methodNamed B.named) hv.1
  have hw : Wh D n0 ad cI cJ X S s s.heap [] := ⟨hv.2.1, hv.2.2, va_S.rf⟩
  refine r_entry (Nat.le_of_ble_eq_true rfl) (fun ls hl => ?_)
  have hl : lv_has ls 2 [(0, .ref (ad 0))] := hl
  unfold V_X7_scrap at hV
  refine lv_aload_n C0.x C0.b dX7_scrap_0 rfl (lv_at hl 0 rfl) ?_
  refine r_get C0 hw (C := RX7) (T := TX7) (N := 15) (v := .ref (ad 37)) iw_X7_scrap_X7 (lg_0 ad cI cJ X S) rfl 14 (by decide) (C0.ts _ fw_X7_scrap_81) rfl dX7_scrap_1 ?_
  refine r_cV_i (As := []) (rest := []) C0 hw (c_X1_size  hV) (cwV 0 C0.ts gX7_scrap_X1_size rfl rfl rfl hd_X1_size ⟨Nat.le_of_ble_eq_true rfl, Nat.le_of_ble_eq_true rfl⟩) (lg_37 ad cI cJ X S) rfl rfl hl.1 rfl (Nat.le_of_ble_eq_true rfl) ⟨Nat.le_of_ble_eq_true rfl, Nat.le_of_ble_eq_true rfl⟩ dX7_scrap_4 (fun r1 S2 H locs hV hw => ?_)
  refine lv_istore_n (lv' := [(1, .int r1), (0, .ref (ad 0))]) C0.x C0.b dX7_scrap_7 rfl hl (by decide) rfl (fun ls hl => ?_)
  refine lv_aload_n C0.x C0.b dX7_scrap_8 rfl (lv_at hl 1 rfl) ?_
  refine r_get C0 hw (C := RX7) (T := TX7) (N := 15) (v := .ref (ad 37)) iw_X7_scrap_X7 (lg_0 ad cI cJ X S2) rfl 14 (by decide) (C0.ts _ fw_X7_scrap_81) rfl dX7_scrap_9 ?_
  refine r_cV_v (As := []) (rest := []) C0 hw (c_X1_empty  hV) (cwV 0 C0.ts gX7_scrap_X1_empty rfl rfl rfl hd_X1_empty ⟨Nat.le_of_ble_eq_true rfl, Nat.le_of_ble_eq_true rfl⟩) (lg_37 ad cI cJ X S2) rfl rfl hl.1 rfl (Nat.le_of_ble_eq_true rfl) ⟨Nat.le_of_ble_eq_true rfl, Nat.le_of_ble_eq_true rfl⟩ dX7_scrap_12 (fun S4 H locs hV hw => ?_)
  refine lv_iload_n C0.x C0.b dX7_scrap_15 rfl (lv_at hl 0 rfl) ?_
  exact r_iret C0 rfl hw hV dX7_scrap_16
/-! StepBench.isHeap(I)Z -/
abbrev rm_X7_isHeap : Room := { frames := 0, cells := 0, slots := 0, locals := 0 }
set_option maxRecDepth 20000 in
theorem hd_X7_isHeap : yX7_isHeap.cls ≠ "java/lang/invoke/MethodHandle" ∧ yX7_isHeap.cls ≠ "java/lang/invoke/VarHandle" ∧ (parseMethodDescriptor yX7_isHeap.desc).map (fun d => d.parameters.length) = some 1 := by decide +kernel
def V_X7_isHeap  (p0 : Int32) (S : SS) (post : Int32 → SS → Prop) : Prop :=
  ((p0 < 0 → (post (0 : Int32) S)) ∧ (¬ p0 < 0 → (((1000 : Int32) < p0 → (post (0 : Int32) S)) ∧ (¬ (1000 : Int32) < p0 → (post (1 : Int32) S)))))
set_option maxHeartbeats 4000000 in
set_option maxRecDepth 100000 in
theorem c_X7_isHeap  {S : SS} {p0 : Int32} {post : Int32 → SS → Prop} (hV : V_X7_isHeap  p0 S post) : MI l yX7_isHeap wsX7_isHeap rm_X7_isHeap [.int p0] D n0 ad cI cJ X S post := by
  refine Met.ofW (cc := cX7_isHeap) (maxL := 1) (ret := (some .boolean)) (by decide) rfl ?_
  intro p e s m args below meth c s₁ B hml hv
  obtain ⟨rfl, hv⟩ := hv
  have C0 := Bd.mk B hml (atoms_spec (ws := wsX7_isHeap) B.pre) (findClass_of_methodNamed B.named) hv.1
  have hw : Wh D n0 ad cI cJ X S s s.heap [] := ⟨hv.2.1, hv.2.2, va_S.rf⟩
  refine r_entry (Nat.le_of_ble_eq_true rfl) (fun ls hl => ?_)
  have hl : lv_has ls 1 [(0, .int p0)] := hl
  unfold V_X7_isHeap at hV
  refine lv_iload_n C0.x C0.b dX7_isHeap_0 rfl (lv_at hl 0 rfl) ?_
  refine lv_if_lt (tgt := 15) C0.x C0.b dX7_isHeap_1 (by decide) (fun c1 => ?_) (fun c1 => ?_)
  · have hV := hV.1 c1
    refine lv_iconst (v := 0) C0.x C0.b dX7_isHeap_15 (by decide) ?_
    exact r_zret C0 rfl bz_0 hw hV dX7_isHeap_16
  · have hV := hV.2 c1
    refine lv_iload_n C0.x C0.b dX7_isHeap_4 rfl (lv_at hl 0 rfl) ?_
    refine lv_sipush (v := 1000) C0.x C0.b dX7_isHeap_5 (by decide) ?_
    refine lv_icmp_gt (tgt := 15) C0.x C0.b dX7_isHeap_8 (by decide) (fun c2 => ?_) (fun c2 => ?_)
    · have hV := hV.1 c2
      refine lv_iconst (v := 0) C0.x C0.b dX7_isHeap_15 (by decide) ?_
      exact r_zret C0 rfl bz_0 hw hV dX7_isHeap_16
    · have hV := hV.2 c2
      refine lv_iconst (v := 1) C0.x C0.b dX7_isHeap_11 (by decide) ?_
      refine lv_goto (tgt := 16) C0.x C0.b dX7_isHeap_12 (by decide) ?_
      exact r_zret C0 rfl bz_1 hw hV dX7_isHeap_16
/-! StepBench.areHeaps(IIII)Z -/
abbrev rm_X7_areHeaps : Room := { frames := 1, cells := 0, slots := 0, locals := 20 }
set_option maxRecDepth 20000 in
theorem hd_X7_areHeaps : yX7_areHeaps.cls ≠ "java/lang/invoke/MethodHandle" ∧ yX7_areHeaps.cls ≠ "java/lang/invoke/VarHandle" ∧ (parseMethodDescriptor yX7_areHeaps.desc).map (fun d => d.parameters.length) = some 4 := by decide +kernel
def V_X7_areHeaps  (p0 : Int32) (p1 : Int32) (p2 : Int32) (p3 : Int32) (S : SS) (post : Int32 → SS → Prop) : Prop :=
  (V_X7_isHeap p0 S (fun (r1 : Int32) (S2 : SS) => ((r1 = 0 → (post (0 : Int32) S2)) ∧ (¬ r1 = 0 → (V_X7_isHeap p1 S2 (fun (r4 : Int32) (S5 : SS) => ((r4 = 0 → (post (0 : Int32) S5)) ∧ (¬ r4 = 0 → (V_X7_isHeap p2 S5 (fun (r7 : Int32) (S8 : SS) => ((r7 = 0 → (post (0 : Int32) S8)) ∧ (¬ r7 = 0 → (V_X7_isHeap p3 S8 (fun (r10 : Int32) (S11 : SS) => ((r10 = 0 → (post (0 : Int32) S11)) ∧ (¬ r10 = 0 → (post (1 : Int32) S11)))))))))))))))))
set_option maxHeartbeats 4000000 in
set_option maxRecDepth 100000 in
theorem c_X7_areHeaps  {S : SS} {p0 : Int32} {p1 : Int32} {p2 : Int32} {p3 : Int32} {post : Int32 → SS → Prop} (hV : V_X7_areHeaps  p0 p1 p2 p3 S post) : MI l yX7_areHeaps wsX7_areHeaps rm_X7_areHeaps [.int p0, .int p1, .int p2, .int p3] D n0 ad cI cJ X S post := by
  refine Met.ofW (cc := cX7_areHeaps) (maxL := 4) (ret := (some .boolean)) (by decide) rfl ?_
  intro p e s m args below meth c s₁ B hml hv
  obtain ⟨rfl, hv⟩ := hv
  have C0 := Bd.mk B hml (atoms_spec (ws := wsX7_areHeaps) B.pre) (findClass_of_methodNamed B.named) hv.1
  have hw : Wh D n0 ad cI cJ X S s s.heap [] := ⟨hv.2.1, hv.2.2, va_S.rf⟩
  refine r_entry (Nat.le_of_ble_eq_true rfl) (fun ls hl => ?_)
  have hl : lv_has ls 4 [(0, .int p0), (1, .int p1), (2, .int p2), (3, .int p3)] := hl
  unfold V_X7_areHeaps at hV
  refine lv_iload_n C0.x C0.b dX7_areHeaps_0 rfl (lv_at hl 0 rfl) ?_
  refine r_cS_i (As := [.int p0]) (rest := []) C0 hw (c_X7_isHeap  hV) (va_cwS 1 C0.ts gX7_areHeaps_X7_isHeap rfl rfl rfl hd_X7_isHeap ⟨Nat.le_of_ble_eq_true rfl, Nat.le_of_ble_eq_true rfl⟩) rfl hl.1 rfl (Nat.le_of_ble_eq_true rfl) ⟨Nat.le_of_ble_eq_true rfl, Nat.le_of_ble_eq_true rfl⟩ dX7_areHeaps_1 (fun r1 S2 H locs hV hw => ?_)
  refine lv_if_eq (tgt := 32) C0.x C0.b dX7_areHeaps_4 (by decide) (fun c3 => ?_) (fun c3 => ?_)
  · have hV := hV.1 c3
    refine lv_iconst (v := 0) C0.x C0.b dX7_areHeaps_32 (by decide) ?_
    exact r_zret C0 rfl bz_0 hw hV dX7_areHeaps_33
  · have hV := hV.2 c3
    refine lv_iload_n C0.x C0.b dX7_areHeaps_7 rfl (lv_at hl 1 rfl) ?_
    refine r_cS_i (As := [.int p1]) (rest := []) C0 hw (c_X7_isHeap  hV) (va_cwS 1 C0.ts gX7_areHeaps_X7_isHeap rfl rfl rfl hd_X7_isHeap ⟨Nat.le_of_ble_eq_true rfl, Nat.le_of_ble_eq_true rfl⟩) rfl hl.1 rfl (Nat.le_of_ble_eq_true rfl) ⟨Nat.le_of_ble_eq_true rfl, Nat.le_of_ble_eq_true rfl⟩ dX7_areHeaps_8 (fun r4 S5 H locs hV hw => ?_)
    refine lv_if_eq (tgt := 32) C0.x C0.b dX7_areHeaps_11 (by decide) (fun c6 => ?_) (fun c6 => ?_)
    · have hV := hV.1 c6
      refine lv_iconst (v := 0) C0.x C0.b dX7_areHeaps_32 (by decide) ?_
      exact r_zret C0 rfl bz_0 hw hV dX7_areHeaps_33
    · have hV := hV.2 c6
      refine lv_iload_n C0.x C0.b dX7_areHeaps_14 rfl (lv_at hl 2 rfl) ?_
      refine r_cS_i (As := [.int p2]) (rest := []) C0 hw (c_X7_isHeap  hV) (va_cwS 1 C0.ts gX7_areHeaps_X7_isHeap rfl rfl rfl hd_X7_isHeap ⟨Nat.le_of_ble_eq_true rfl, Nat.le_of_ble_eq_true rfl⟩) rfl hl.1 rfl (Nat.le_of_ble_eq_true rfl) ⟨Nat.le_of_ble_eq_true rfl, Nat.le_of_ble_eq_true rfl⟩ dX7_areHeaps_15 (fun r7 S8 H locs hV hw => ?_)
      refine lv_if_eq (tgt := 32) C0.x C0.b dX7_areHeaps_18 (by decide) (fun c9 => ?_) (fun c9 => ?_)
      · have hV := hV.1 c9
        refine lv_iconst (v := 0) C0.x C0.b dX7_areHeaps_32 (by decide) ?_
        exact r_zret C0 rfl bz_0 hw hV dX7_areHeaps_33
      · have hV := hV.2 c9
        refine lv_iload_n C0.x C0.b dX7_areHeaps_21 rfl (lv_at hl 3 rfl) ?_
        refine r_cS_i (As := [.int p3]) (rest := []) C0 hw (c_X7_isHeap  hV) (va_cwS 1 C0.ts gX7_areHeaps_X7_isHeap rfl rfl rfl hd_X7_isHeap ⟨Nat.le_of_ble_eq_true rfl, Nat.le_of_ble_eq_true rfl⟩) rfl hl.1 rfl (Nat.le_of_ble_eq_true rfl) ⟨Nat.le_of_ble_eq_true rfl, Nat.le_of_ble_eq_true rfl⟩ dX7_areHeaps_22 (fun r10 S11 H locs hV hw => ?_)
        refine lv_if_eq (tgt := 32) C0.x C0.b dX7_areHeaps_25 (by decide) (fun c12 => ?_) (fun c12 => ?_)
        · have hV := hV.1 c12
          refine lv_iconst (v := 0) C0.x C0.b dX7_areHeaps_32 (by decide) ?_
          exact r_zret C0 rfl bz_0 hw hV dX7_areHeaps_33
        · have hV := hV.2 c12
          refine lv_iconst (v := 1) C0.x C0.b dX7_areHeaps_28 (by decide) ?_
          refine lv_goto (tgt := 33) C0.x C0.b dX7_areHeaps_29 (by decide) ?_
          exact r_zret C0 rfl bz_1 hw hV dX7_areHeaps_33
/-! StepBench.go(IIIII)I -/
abbrev rm_X7_go : Room := { frames := 5, cells := 0, slots := 0, locals := 107 }
set_option maxRecDepth 20000 in
theorem fw_X7_go_81 : Cond.fieldLink RX7 81 "StepBench" "machine" "LStepBench$Machine;" ∈ wsX7_go := by decide +kernel
set_option maxRecDepth 20000 in
theorem iw_X7_go_X7 : ∀ w ∈ wsX70, w ∈ wsX7_go := by decide +kernel
set_option maxRecDepth 20000 in
theorem fw_X7_go_45 : Cond.fieldLink RX7 45 "StepBench" "numbers" "LStepBench$Numbers;" ∈ wsX7_go := by decide +kernel
set_option maxRecDepth 20000 in
theorem hd_X7_go : yX7_go.cls = RX7 ∧ yX7_go.cls ≠ "java/lang/invoke/MethodHandle" ∧ yX7_go.cls ≠ "java/lang/invoke/VarHandle" ∧ (parseMethodDescriptor yX7_go.desc).map (fun d => d.parameters.length) = some 5 := by decide +kernel
def V_X7_go_64  (v6 : Int32)  (post : Int32 → SS → Prop) : Nat → Int32 → SS → Prop
  | 0, _, _ => False
  | n + 1, v7, S =>
    (((4 : Int32) ≤ v7 → (V_X1_done  S (fun (r17 : Int32) (S18 : SS) => (V_X2_add 7 12 1000 r17.toInt64 S18 (fun (r19 : Int32) (S20 : SS) => (post v6 S20)))))) ∧ (¬ (4 : Int32) ≤ v7 → (V_X1_inHeap v7 S (fun (r21 : Int64) (S22 : SS) => (V_X2_add 7 12 1000 r21 S22 (fun (r23 : Int32) (S24 : SS) => (∀ x25 : Int32, x25 = v7 + 1 → (V_X7_go_64  v6  post n x25 S24))))))))
set_option maxHeartbeats 4000000 in
set_option maxRecDepth 100000 in
theorem lp_X7_go_64  (v6 : Int32)  (post : Int32 → SS → Prop) (C0 : Bd p s m meth c args cX7_go 8 (some .int) wsX7_go RX7 D n0 cI cJ) : ∀ (n : Nat) (v7 : Int32) (S : SS), V_X7_go_64  v6  post n v7 S → ∀ (H : Heap) (locs : List Loc), Wh D n0 ad cI cJ X S s H locs → ∀ ls : Array Slot, lv_has ls 8 [(0, .ref (ad 0)), (6, .int v6), (7, .int v7)] → W p l e rm_X7_go s m args below meth c H locs 0 0 (MQ below (va_Qi post (fun S' t => Wd D n0 ad cI cJ X S' t) (fr n0)) args s 0 0 (fr n0)) (F0 m 64 ls []) := by
  intro n
  induction n with
  | zero => intro v7 S hV; exact False.elim hV
  | succ n ih =>
    intro v7 S hV H locs hw ls hl
    rw [V_X7_go_64] at hV
    refine lv_iload C0.x C0.b dX7_go_64 (lv_at hl 2 rfl) ?_
    refine lv_iconst (v := 4) C0.x C0.b dX7_go_66 (by decide) ?_
    refine lv_icmp_ge (tgt := 93) C0.x C0.b dX7_go_67 (by decide) (fun c16 => ?_) (fun c16 => ?_)
    · have hV := hV.1 c16
      refine lv_aload_n C0.x C0.b dX7_go_93 rfl (lv_at hl 0 rfl) ?_
      refine r_get C0 hw (C := RX7) (T := TX7) (N := 15) (v := .ref (ad 19)) iw_X7_go_X7 (lg_0 ad cI cJ X S) rfl 6 (by decide) (C0.ts _ fw_X7_go_45) rfl dX7_go_94 ?_
      refine lv_aload_n C0.x C0.b dX7_go_97 rfl (lv_at hl 0 rfl) ?_
      refine r_get C0 hw (C := RX7) (T := TX7) (N := 15) (v := .ref (ad 37)) iw_X7_go_X7 (lg_0 ad cI cJ X S) rfl 14 (by decide) (C0.ts _ fw_X7_go_81) rfl dX7_go_98 ?_
      refine r_cV_i (As := []) (rest := [.ref (ad 19)]) C0 hw (c_X1_done  hV) (cwV 0 C0.ts gX7_go_X1_done rfl rfl rfl hd_X1_done ⟨Nat.le_of_ble_eq_true rfl, Nat.le_of_ble_eq_true rfl⟩) (lg_37 ad cI cJ X S) rfl rfl hl.1 rfl (Nat.le_of_ble_eq_true rfl) ⟨Nat.le_of_ble_eq_true rfl, Nat.le_of_ble_eq_true rfl⟩ dX7_go_101 (fun r17 S18 H locs hV hw => ?_)
      refine lv_i2l C0.x C0.b dX7_go_104 rfl ?_
      refine r_cV_i (As := [.long r17.toInt64]) (rest := []) C0 hw (c_X2_add (ln_19 ad cI cJ X) hV) (cwV 1 C0.ts gX7_go_X2_add rfl rfl rfl hd_X2_add ⟨Nat.le_of_ble_eq_true rfl, Nat.le_of_ble_eq_true rfl⟩) (lg_19 ad cI cJ X S18) rfl rfl hl.1 rfl (Nat.le_of_ble_eq_true rfl) ⟨Nat.le_of_ble_eq_true rfl, Nat.le_of_ble_eq_true rfl⟩ dX7_go_105 (fun r19 S20 H locs hV hw => ?_)
      refine lv_pop C0.x C0.b dX7_go_108 rfl ?_
      refine lv_iload C0.x C0.b dX7_go_109 (lv_at hl 1 rfl) ?_
      exact r_iret C0 rfl hw hV dX7_go_111
    · have hV := hV.2 c16
      refine lv_aload_n C0.x C0.b dX7_go_70 rfl (lv_at hl 0 rfl) ?_
      refine r_get C0 hw (C := RX7) (T := TX7) (N := 15) (v := .ref (ad 19)) iw_X7_go_X7 (lg_0 ad cI cJ X S) rfl 6 (by decide) (C0.ts _ fw_X7_go_45) rfl dX7_go_71 ?_
      refine lv_aload_n C0.x C0.b dX7_go_74 rfl (lv_at hl 0 rfl) ?_
      refine r_get C0 hw (C := RX7) (T := TX7) (N := 15) (v := .ref (ad 37)) iw_X7_go_X7 (lg_0 ad cI cJ X S) rfl 14 (by decide) (C0.ts _ fw_X7_go_81) rfl dX7_go_75 ?_
      refine lv_iload C0.x C0.b dX7_go_78 (lv_at hl 2 rfl) ?_
      refine r_cV_l (As := [.int v7]) (rest := [.ref (ad 19)]) C0 hw (c_X1_inHeap  hV) (cwV 1 C0.ts gX7_go_X1_inHeap rfl rfl rfl hd_X1_inHeap ⟨Nat.le_of_ble_eq_true rfl, Nat.le_of_ble_eq_true rfl⟩) (lg_37 ad cI cJ X S) rfl rfl hl.1 rfl (Nat.le_of_ble_eq_true rfl) ⟨Nat.le_of_ble_eq_true rfl, Nat.le_of_ble_eq_true rfl⟩ dX7_go_80 (fun r21 S22 H locs hV hw => ?_)
      refine r_cV_i (As := [.long r21]) (rest := []) C0 hw (c_X2_add (ln_19 ad cI cJ X) hV) (cwV 1 C0.ts gX7_go_X2_add rfl rfl rfl hd_X2_add ⟨Nat.le_of_ble_eq_true rfl, Nat.le_of_ble_eq_true rfl⟩) (lg_19 ad cI cJ X S22) rfl rfl hl.1 rfl (Nat.le_of_ble_eq_true rfl) ⟨Nat.le_of_ble_eq_true rfl, Nat.le_of_ble_eq_true rfl⟩ dX7_go_83 (fun r23 S24 H locs hV hw => ?_)
      refine lv_pop C0.x C0.b dX7_go_86 rfl ?_
      obtain ⟨x25, ex25⟩ : ∃ z : Int32, z = v7 + 1 := ⟨_, rfl⟩
      have hV := hV x25 ex25
      refine lv_iinc (v := x25) (lv' := [(7, .int x25), (0, .ref (ad 0)), (6, .int v6)]) C0.x C0.b dX7_go_87 hl (k := 2) rfl (by rw [ex25]; rfl) (by decide) rfl (fun ls hl => ?_)
      refine lv_goto (tgt := 64) C0.x C0.b dX7_go_90 (by decide) ?_
      exact ih _ _ hV _ _ hw _ (lv_sub hl [1, 2, 0] rfl)
def V_X7_go  (p0 : Int32) (p1 : Int32) (p2 : Int32) (p3 : Int32) (p4 : Int32) (S : SS) (post : Int32 → SS → Prop) : Prop :=
  (V_X1_size  S (fun (r1 : Int32) (S2 : SS) => ((r1 = 0 → (post (-1 : Int32) S2)) ∧ (¬ r1 = 0 → (V_X7_areHeaps p0 p1 p2 p3 S2 (fun (r4 : Int32) (S5 : SS) => ((r4 = 0 → (post (-1 : Int32) S5)) ∧ (¬ r4 = 0 → (V_X7_isStepCount p4 S5 (fun (r7 : Int32) (S8 : SS) => ((r7 = 0 → (post (-1 : Int32) S8)) ∧ (¬ r7 = 0 → (V_X1_fill p0 p1 p2 p3 S8 (fun (S11 : SS) => (V_X1_work p4 S11 (fun (r12 : Int32) (S13 : SS) => (V_X2_empty 7 12 1000 S13 (fun (S15 : SS) => (∃ n64 : Nat, V_X7_go_64  r12  post n64 (0 : Int32) S15)))))))))))))))))))
set_option maxHeartbeats 4000000 in
set_option maxRecDepth 100000 in
theorem c_X7_go  {S : SS} {p0 : Int32} {p1 : Int32} {p2 : Int32} {p3 : Int32} {p4 : Int32} {post : Int32 → SS → Prop} (hV : V_X7_go  p0 p1 p2 p3 p4 S post) : MI l yX7_go wsX7_go rm_X7_go [.ref (ad 0), .int p0, .int p1, .int p2, .int p3, .int p4] D n0 ad cI cJ X S post := by
  refine Met.ofW (cc := cX7_go) (maxL := 8) (ret := (some .int)) (by decide) rfl ?_
  intro p e s m args below meth c s₁ B hml hv
  obtain ⟨rfl, hv⟩ := hv
  have C0 := Bd.mk B hml (atoms_spec (ws := wsX7_go) B.pre) (findClass_of_methodNamed B.named) hv.1
  have hw : Wh D n0 ad cI cJ X S s s.heap [] := ⟨hv.2.1, hv.2.2, va_S.rf⟩
  refine r_entry (Nat.le_of_ble_eq_true rfl) (fun ls hl => ?_)
  have hl : lv_has ls 8 [(0, .ref (ad 0)), (1, .int p0), (2, .int p1), (3, .int p2), (4, .int p3), (5, .int p4)] := hl
  unfold V_X7_go at hV
  refine lv_aload_n C0.x C0.b dX7_go_0 rfl (lv_at hl 0 rfl) ?_
  refine r_get C0 hw (C := RX7) (T := TX7) (N := 15) (v := .ref (ad 37)) iw_X7_go_X7 (lg_0 ad cI cJ X S) rfl 14 (by decide) (C0.ts _ fw_X7_go_81) rfl dX7_go_1 ?_
  refine r_cV_i (As := []) (rest := []) C0 hw (c_X1_size  hV) (cwV 0 C0.ts gX7_go_X1_size rfl rfl rfl hd_X1_size ⟨Nat.le_of_ble_eq_true rfl, Nat.le_of_ble_eq_true rfl⟩) (lg_37 ad cI cJ X S) rfl rfl hl.1 rfl (Nat.le_of_ble_eq_true rfl) ⟨Nat.le_of_ble_eq_true rfl, Nat.le_of_ble_eq_true rfl⟩ dX7_go_4 (fun r1 S2 H locs hV hw => ?_)
  refine lv_if_eq (tgt := 29) C0.x C0.b dX7_go_7 (by decide) (fun c3 => ?_) (fun c3 => ?_)
  · have hV := hV.1 c3
    refine lv_iconst (v := -1) C0.x C0.b dX7_go_29 (by decide) ?_
    exact r_iret C0 rfl hw hV dX7_go_30
  · have hV := hV.2 c3
    refine lv_iload_n C0.x C0.b dX7_go_10 rfl (lv_at hl 1 rfl) ?_
    refine lv_iload_n C0.x C0.b dX7_go_11 rfl (lv_at hl 2 rfl) ?_
    refine lv_iload_n C0.x C0.b dX7_go_12 rfl (lv_at hl 3 rfl) ?_
    refine lv_iload C0.x C0.b dX7_go_13 (lv_at hl 4 rfl) ?_
    refine r_cS_i (As := [.int p0, .int p1, .int p2, .int p3]) (rest := []) C0 hw (c_X7_areHeaps  hV) (va_cwS 4 C0.ts gX7_go_X7_areHeaps rfl rfl rfl hd_X7_areHeaps ⟨Nat.le_of_ble_eq_true rfl, Nat.le_of_ble_eq_true rfl⟩) rfl hl.1 rfl (Nat.le_of_ble_eq_true rfl) ⟨Nat.le_of_ble_eq_true rfl, Nat.le_of_ble_eq_true rfl⟩ dX7_go_15 (fun r4 S5 H locs hV hw => ?_)
    refine lv_if_eq (tgt := 29) C0.x C0.b dX7_go_18 (by decide) (fun c6 => ?_) (fun c6 => ?_)
    · have hV := hV.1 c6
      refine lv_iconst (v := -1) C0.x C0.b dX7_go_29 (by decide) ?_
      exact r_iret C0 rfl hw hV dX7_go_30
    · have hV := hV.2 c6
      refine lv_iload C0.x C0.b dX7_go_21 (lv_at hl 5 rfl) ?_
      refine r_cS_i (As := [.int p4]) (rest := []) C0 hw (c_X7_isStepCount  hV) (va_cwS 1 C0.ts gX7_go_X7_isStepCount rfl rfl rfl hd_X7_isStepCount ⟨Nat.le_of_ble_eq_true rfl, Nat.le_of_ble_eq_true rfl⟩) rfl hl.1 rfl (Nat.le_of_ble_eq_true rfl) ⟨Nat.le_of_ble_eq_true rfl, Nat.le_of_ble_eq_true rfl⟩ dX7_go_23 (fun r7 S8 H locs hV hw => ?_)
      refine lv_if_ne (tgt := 31) C0.x C0.b dX7_go_26 (by decide) (fun c9 => ?_) (fun c9 => ?_)
      · have hV := hV.2 c9
        refine lv_aload_n C0.x C0.b dX7_go_31 rfl (lv_at hl 0 rfl) ?_
        refine r_get C0 hw (C := RX7) (T := TX7) (N := 15) (v := .ref (ad 37)) iw_X7_go_X7 (lg_0 ad cI cJ X S8) rfl 14 (by decide) (C0.ts _ fw_X7_go_81) rfl dX7_go_32 ?_
        refine lv_iload_n C0.x C0.b dX7_go_35 rfl (lv_at hl 1 rfl) ?_
        refine lv_iload_n C0.x C0.b dX7_go_36 rfl (lv_at hl 2 rfl) ?_
        refine lv_iload_n C0.x C0.b dX7_go_37 rfl (lv_at hl 3 rfl) ?_
        refine lv_iload C0.x C0.b dX7_go_38 (lv_at hl 4 rfl) ?_
        refine r_cV_v (As := [.int p0, .int p1, .int p2, .int p3]) (rest := []) C0 hw (c_X1_fill  hV) (cwV 4 C0.ts gX7_go_X1_fill rfl rfl rfl hd_X1_fill ⟨Nat.le_of_ble_eq_true rfl, Nat.le_of_ble_eq_true rfl⟩) (lg_37 ad cI cJ X S8) rfl rfl hl.1 rfl (Nat.le_of_ble_eq_true rfl) ⟨Nat.le_of_ble_eq_true rfl, Nat.le_of_ble_eq_true rfl⟩ dX7_go_40 (fun S11 H locs hV hw => ?_)
        refine lv_aload_n C0.x C0.b dX7_go_43 rfl (lv_at hl 0 rfl) ?_
        refine r_get C0 hw (C := RX7) (T := TX7) (N := 15) (v := .ref (ad 37)) iw_X7_go_X7 (lg_0 ad cI cJ X S11) rfl 14 (by decide) (C0.ts _ fw_X7_go_81) rfl dX7_go_44 ?_
        refine lv_iload C0.x C0.b dX7_go_47 (lv_at hl 5 rfl) ?_
        refine r_cV_i (As := [.int p4]) (rest := []) C0 hw (c_X1_work  hV) (cwV 1 C0.ts gX7_go_X1_work rfl rfl rfl hd_X1_work ⟨Nat.le_of_ble_eq_true rfl, Nat.le_of_ble_eq_true rfl⟩) (lg_37 ad cI cJ X S11) rfl rfl hl.1 rfl (Nat.le_of_ble_eq_true rfl) ⟨Nat.le_of_ble_eq_true rfl, Nat.le_of_ble_eq_true rfl⟩ dX7_go_49 (fun r12 S13 H locs hV hw => ?_)
        refine lv_istore (lv' := [(6, .int r12), (0, .ref (ad 0)), (1, .int p0), (2, .int p1), (3, .int p2), (4, .int p3), (5, .int p4)]) C0.x C0.b dX7_go_52 hl (by decide) rfl (fun ls hl => ?_)
        refine lv_aload_n C0.x C0.b dX7_go_54 rfl (lv_at hl 1 rfl) ?_
        refine r_get C0 hw (C := RX7) (T := TX7) (N := 15) (v := .ref (ad 19)) iw_X7_go_X7 (lg_0 ad cI cJ X S13) rfl 6 (by decide) (C0.ts _ fw_X7_go_45) rfl dX7_go_55 ?_
        refine r_cV_v (As := []) (rest := []) C0 hw (c_X2_empty (ln_19 ad cI cJ X) hV) (cwV 0 C0.ts gX7_go_X2_empty rfl rfl rfl hd_X2_empty ⟨Nat.le_of_ble_eq_true rfl, Nat.le_of_ble_eq_true rfl⟩) (lg_19 ad cI cJ X S13) rfl rfl hl.1 rfl (Nat.le_of_ble_eq_true rfl) ⟨Nat.le_of_ble_eq_true rfl, Nat.le_of_ble_eq_true rfl⟩ dX7_go_58 (fun S15 H locs hV hw => ?_)
        refine lv_iconst (v := 0) C0.x C0.b dX7_go_61 (by decide) ?_
        refine lv_istore (lv' := [(7, .int (0 : Int32)), (6, .int r12), (0, .ref (ad 0)), (1, .int p0), (2, .int p1), (3, .int p2), (4, .int p3), (5, .int p4)]) C0.x C0.b dX7_go_62 hl (by decide) rfl (fun ls hl => ?_)
        obtain ⟨n64, hV⟩ := hV
        exact lp_X7_go_64  _ post C0  n64 _ _ hV _ _ hw _ (lv_sub hl [2, 1, 0] rfl)
      · have hV := hV.1 c9
        refine lv_iconst (v := -1) C0.x C0.b dX7_go_29 (by decide) ?_
        exact r_iret C0 rfl hw hV dX7_go_30
/-! StepBench.prime(I)J -/
abbrev rm_X7_prime : Room := { frames := 0, cells := 0, slots := 0, locals := 0 }
set_option maxRecDepth 20000 in
theorem fw_X7_prime_412 : Cond.fieldLink RX7 412 "StepBench" "PRIMES" "[I" ∈ wsX7_prime := by decide +kernel
set_option maxRecDepth 20000 in
theorem hd_X7_prime : yX7_prime.cls ≠ "java/lang/invoke/MethodHandle" ∧ yX7_prime.cls ≠ "java/lang/invoke/VarHandle" ∧ (parseMethodDescriptor yX7_prime.desc).map (fun d => d.parameters.length) = some 1 := by decide +kernel
def V_X7_prime  (p0 : Int32) (S : SS) (post : Int64 → SS → Prop) : Prop :=
  ((p0 < 0 → (post (1 : Int64) S)) ∧ (¬ p0 < 0 → (((28 : Int32) ≤ p0 → (post (1 : Int64) S)) ∧ (¬ (28 : Int32) ≤ p0 → (vp_in p0 28 ∧ (post (primeF p0.toNatClampNeg).toInt64 S))))))
set_option maxHeartbeats 4000000 in
set_option maxRecDepth 100000 in
theorem c_X7_prime  {S : SS} {p0 : Int32} {post : Int64 → SS → Prop} (hV : V_X7_prime  p0 S post) : ML l yX7_prime wsX7_prime rm_X7_prime [.int p0] D n0 ad cI cJ X S post := by
  refine Met.ofW (cc := cX7_prime) (maxL := 1) (ret := (some .long)) (by decide) rfl ?_
  intro p e s m args below meth c s₁ B hml hv
  obtain ⟨rfl, hv⟩ := hv
  have C0 := Bd.mk B hml (atoms_spec (ws := wsX7_prime) B.pre) (findClass_of_methodNamed B.named) hv.1
  have hw : Wh D n0 ad cI cJ X S s s.heap [] := ⟨hv.2.1, hv.2.2, va_S.rf⟩
  refine r_entry (Nat.le_of_ble_eq_true rfl) (fun ls hl => ?_)
  have hl : lv_has ls 1 [(0, .int p0)] := hl
  unfold V_X7_prime at hV
  refine lv_iload_n C0.x C0.b dX7_prime_0 rfl (lv_at hl 0 rfl) ?_
  refine lv_if_lt (tgt := 21) C0.x C0.b dX7_prime_1 (by decide) (fun c1 => ?_) (fun c1 => ?_)
  · have hV := hV.1 c1
    refine lv_lconst (v := 1) C0.x C0.b dX7_prime_21 (by decide) ?_
    exact r_lret C0 rfl hw hV dX7_prime_22
  · have hV := hV.2 c1
    refine lv_iload_n C0.x C0.b dX7_prime_4 rfl (lv_at hl 0 rfl) ?_
    obtain ⟨tp, hZ, hT⟩ := C0.en.2.2.2.2.1.1
    refine va_gets C0.x C0.b hZ hw.2.2 C0.ow (C0.ts _ fw_X7_prime_412) (fun _ h => h) dX7_prime_5 ?_
    refine va_tlen C0.x C0.b hT hw.2.2 (v := 28) rfl dX7_prime_8 ?_
    refine lv_icmp_ge (tgt := 21) C0.x C0.b dX7_prime_9 (by decide) (fun c2 => ?_) (fun c2 => ?_)
    · have hV := hV.1 c2
      refine lv_lconst (v := 1) C0.x C0.b dX7_prime_21 (by decide) ?_
      exact r_lret C0 rfl hw hV dX7_prime_22
    · have hV := hV.2 c2
      obtain ⟨tp, hZ, hT⟩ := C0.en.2.2.2.2.1.1
      refine va_gets C0.x C0.b hZ hw.2.2 C0.ow (C0.ts _ fw_X7_prime_412) (fun _ h => h) dX7_prime_12 ?_
      refine lv_iload_n C0.x C0.b dX7_prime_15 rfl (lv_at hl 0 rfl) ?_
      refine va_ti C0.x C0.b hT hw.2.2 hV.1 (v := .int (primeF p0.toNatClampNeg)) rfl dX7_prime_16 ?_
      have hV := hV.2
      refine lv_i2l C0.x C0.b dX7_prime_17 rfl ?_
      refine lv_goto (tgt := 22) C0.x C0.b dX7_prime_18 (by decide) ?_
      exact r_lret C0 rfl hw hV dX7_prime_22
/-! StepBench.goPrime(I)J -/
abbrev rm_X7_goPrime : Room := { frames := 1, cells := 0, slots := 0, locals := 20 }
set_option maxRecDepth 20000 in
theorem hd_X7_goPrime : yX7_goPrime.cls ≠ "java/lang/invoke/MethodHandle" ∧ yX7_goPrime.cls ≠ "java/lang/invoke/VarHandle" ∧ (parseMethodDescriptor yX7_goPrime.desc).map (fun d => d.parameters.length) = some 1 := by decide +kernel
def V_X7_goPrime  (p0 : Int32) (S : SS) (post : Int64 → SS → Prop) : Prop :=
  (V_X7_prime ((4 : Int32) + ((2 : Int32) * p0)) S (fun (r1 : Int64) (S2 : SS) => (post r1 S2)))
set_option maxHeartbeats 4000000 in
set_option maxRecDepth 100000 in
theorem c_X7_goPrime  {S : SS} {p0 : Int32} {post : Int64 → SS → Prop} (hV : V_X7_goPrime  p0 S post) : ML l yX7_goPrime wsX7_goPrime rm_X7_goPrime [.int p0] D n0 ad cI cJ X S post := by
  refine Met.ofW (cc := cX7_goPrime) (maxL := 1) (ret := (some .long)) (by decide) rfl ?_
  intro p e s m args below meth c s₁ B hml hv
  obtain ⟨rfl, hv⟩ := hv
  have C0 := Bd.mk B hml (atoms_spec (ws := wsX7_goPrime) B.pre) (findClass_of_methodNamed B.named) hv.1
  have hw : Wh D n0 ad cI cJ X S s s.heap [] := ⟨hv.2.1, hv.2.2, va_S.rf⟩
  refine r_entry (Nat.le_of_ble_eq_true rfl) (fun ls hl => ?_)
  have hl : lv_has ls 1 [(0, .int p0)] := hl
  unfold V_X7_goPrime at hV
  refine lv_iconst (v := 4) C0.x C0.b dX7_goPrime_0 (by decide) ?_
  refine lv_iconst (v := 2) C0.x C0.b dX7_goPrime_1 (by decide) ?_
  refine lv_iload_n C0.x C0.b dX7_goPrime_2 rfl (lv_at hl 0 rfl) ?_
  refine lv_imul C0.x C0.b dX7_goPrime_3 ?_
  refine lv_iadd C0.x C0.b dX7_goPrime_4 ?_
  refine r_cS_l (As := [.int ((4 : Int32) + ((2 : Int32) * p0))]) (rest := []) C0 hw (c_X7_prime  hV) (va_cwS 1 C0.ts gX7_goPrime_X7_prime rfl rfl rfl hd_X7_prime ⟨Nat.le_of_ble_eq_true rfl, Nat.le_of_ble_eq_true rfl⟩) rfl hl.1 rfl (Nat.le_of_ble_eq_true rfl) ⟨Nat.le_of_ble_eq_true rfl, Nat.le_of_ble_eq_true rfl⟩ dX7_goPrime_5 (fun r1 S2 H locs hV hw => ?_)
  exact r_lret C0 rfl hw hV dX7_goPrime_8
/-! StepBench.heapPrime(I)J -/
abbrev rm_X7_heapPrime : Room := { frames := 1, cells := 0, slots := 0, locals := 20 }
set_option maxRecDepth 20000 in
theorem hd_X7_heapPrime : yX7_heapPrime.cls ≠ "java/lang/invoke/MethodHandle" ∧ yX7_heapPrime.cls ≠ "java/lang/invoke/VarHandle" ∧ (parseMethodDescriptor yX7_heapPrime.desc).map (fun d => d.parameters.length) = some 1 := by decide +kernel
def V_X7_heapPrime  (p0 : Int32) (S : SS) (post : Int64 → SS → Prop) : Prop :=
  (V_X7_prime p0 S (fun (r1 : Int64) (S2 : SS) => (post r1 S2)))
set_option maxHeartbeats 4000000 in
set_option maxRecDepth 100000 in
theorem c_X7_heapPrime  {S : SS} {p0 : Int32} {post : Int64 → SS → Prop} (hV : V_X7_heapPrime  p0 S post) : ML l yX7_heapPrime wsX7_heapPrime rm_X7_heapPrime [.int p0] D n0 ad cI cJ X S post := by
  refine Met.ofW (cc := cX7_heapPrime) (maxL := 1) (ret := (some .long)) (by decide) rfl ?_
  intro p e s m args below meth c s₁ B hml hv
  obtain ⟨rfl, hv⟩ := hv
  have C0 := Bd.mk B hml (atoms_spec (ws := wsX7_heapPrime) B.pre) (findClass_of_methodNamed B.named) hv.1
  have hw : Wh D n0 ad cI cJ X S s s.heap [] := ⟨hv.2.1, hv.2.2, va_S.rf⟩
  refine r_entry (Nat.le_of_ble_eq_true rfl) (fun ls hl => ?_)
  have hl : lv_has ls 1 [(0, .int p0)] := hl
  unfold V_X7_heapPrime at hV
  refine lv_iload_n C0.x C0.b dX7_heapPrime_0 rfl (lv_at hl 0 rfl) ?_
  refine r_cS_l (As := [.int p0]) (rest := []) C0 hw (c_X7_prime  hV) (va_cwS 1 C0.ts gX7_heapPrime_X7_prime rfl rfl rfl hd_X7_prime ⟨Nat.le_of_ble_eq_true rfl, Nat.le_of_ble_eq_true rfl⟩) rfl hl.1 rfl (Nat.le_of_ble_eq_true rfl) ⟨Nat.le_of_ble_eq_true rfl, Nat.le_of_ble_eq_true rfl⟩ dX7_heapPrime_1 (fun r1 S2 H locs hV hw => ?_)
  exact r_lret C0 rfl hw hV dX7_heapPrime_4
/-! StepBench.waitPrime(I)J -/
abbrev rm_X7_waitPrime : Room := { frames := 1, cells := 0, slots := 0, locals := 20 }
set_option maxRecDepth 20000 in
theorem hd_X7_waitPrime : yX7_waitPrime.cls ≠ "java/lang/invoke/MethodHandle" ∧ yX7_waitPrime.cls ≠ "java/lang/invoke/VarHandle" ∧ (parseMethodDescriptor yX7_waitPrime.desc).map (fun d => d.parameters.length) = some 1 := by decide +kernel
def V_X7_waitPrime  (p0 : Int32) (S : SS) (post : Int64 → SS → Prop) : Prop :=
  (V_X7_prime (((4 : Int32) + ((2 : Int32) * p0)) + (1 : Int32)) S (fun (r1 : Int64) (S2 : SS) => (post r1 S2)))
set_option maxHeartbeats 4000000 in
set_option maxRecDepth 100000 in
theorem c_X7_waitPrime  {S : SS} {p0 : Int32} {post : Int64 → SS → Prop} (hV : V_X7_waitPrime  p0 S post) : ML l yX7_waitPrime wsX7_waitPrime rm_X7_waitPrime [.int p0] D n0 ad cI cJ X S post := by
  refine Met.ofW (cc := cX7_waitPrime) (maxL := 1) (ret := (some .long)) (by decide) rfl ?_
  intro p e s m args below meth c s₁ B hml hv
  obtain ⟨rfl, hv⟩ := hv
  have C0 := Bd.mk B hml (atoms_spec (ws := wsX7_waitPrime) B.pre) (findClass_of_methodNamed B.named) hv.1
  have hw : Wh D n0 ad cI cJ X S s s.heap [] := ⟨hv.2.1, hv.2.2, va_S.rf⟩
  refine r_entry (Nat.le_of_ble_eq_true rfl) (fun ls hl => ?_)
  have hl : lv_has ls 1 [(0, .int p0)] := hl
  unfold V_X7_waitPrime at hV
  refine lv_iconst (v := 4) C0.x C0.b dX7_waitPrime_0 (by decide) ?_
  refine lv_iconst (v := 2) C0.x C0.b dX7_waitPrime_1 (by decide) ?_
  refine lv_iload_n C0.x C0.b dX7_waitPrime_2 rfl (lv_at hl 0 rfl) ?_
  refine lv_imul C0.x C0.b dX7_waitPrime_3 ?_
  refine lv_iadd C0.x C0.b dX7_waitPrime_4 ?_
  refine lv_iconst (v := 1) C0.x C0.b dX7_waitPrime_5 (by decide) ?_
  refine lv_iadd C0.x C0.b dX7_waitPrime_6 ?_
  refine r_cS_l (As := [.int (((4 : Int32) + ((2 : Int32) * p0)) + (1 : Int32))]) (rest := []) C0 hw (c_X7_prime  hV) (va_cwS 1 C0.ts gX7_waitPrime_X7_prime rfl rfl rfl hd_X7_prime ⟨Nat.le_of_ble_eq_true rfl, Nat.le_of_ble_eq_true rfl⟩) rfl hl.1 rfl (Nat.le_of_ble_eq_true rfl) ⟨Nat.le_of_ble_eq_true rfl, Nat.le_of_ble_eq_true rfl⟩ dX7_waitPrime_7 (fun r1 S2 H locs hV hw => ?_)
  exact r_lret C0 rfl hw hV dX7_waitPrime_10
/-! StepBench.addFractionsOfAct(I)V -/
abbrev rm_X7_addFractionsOfAct : Room := { frames := 3, cells := 0, slots := 0, locals := 80 }
set_option maxRecDepth 20000 in
theorem fw_X7_addFractionsOfAct_81 : Cond.fieldLink RX7 81 "StepBench" "machine" "LStepBench$Machine;" ∈ wsX7_addFractionsOfAct := by decide +kernel
set_option maxRecDepth 20000 in
theorem iw_X7_addFractionsOfAct_X7 : ∀ w ∈ wsX70, w ∈ wsX7_addFractionsOfAct := by decide +kernel
set_option maxRecDepth 20000 in
theorem fw_X7_addFractionsOfAct_29 : Cond.fieldLink RX7 29 "StepBench" "fractions" "LStepBench$Fractions;" ∈ wsX7_addFractionsOfAct := by decide +kernel
set_option maxRecDepth 20000 in
theorem hd_X7_addFractionsOfAct : yX7_addFractionsOfAct.cls = RX7 ∧ yX7_addFractionsOfAct.cls ≠ "java/lang/invoke/MethodHandle" ∧ yX7_addFractionsOfAct.cls ≠ "java/lang/invoke/VarHandle" ∧ (parseMethodDescriptor yX7_addFractionsOfAct.desc).map (fun d => d.parameters.length) = some 1 := by decide +kernel
def V_X7_addFractionsOfAct  (p0 : Int32) (S : SS) (post : SS → Prop) : Prop :=
  (V_X1_next p0 S (fun (r1 : Int32) (S2 : SS) => (V_X7_waitPrime r1 S2 (fun (r3 : Int64) (S4 : SS) => (V_X1_heap p0 S4 (fun (r5 : Int32) (S6 : SS) => (V_X7_heapPrime r5 S6 (fun (r7 : Int64) (S8 : SS) => (V_X1_kind p0 S8 (fun (r9 : Int32) (S10 : SS) => ((r9 = 0 → (V_X7_goPrime p0 S10 (fun (r11 : Int64) (S12 : SS) => (V_X0_add (r3 * r7) r11 S12 (fun (r13 : Int32) (S14 : SS) => (post S14)))))) ∧ (r9 = 1 → (V_X7_goPrime p0 S10 (fun (r15 : Int64) (S16 : SS) => (V_X0_add r3 (r15 * r7) S16 (fun (r17 : Int32) (S18 : SS) => (V_X1_otherwise p0 S18 (fun (r19 : Int32) (S20 : SS) => (V_X7_waitPrime r19 S20 (fun (r21 : Int64) (S22 : SS) => (V_X7_goPrime p0 S22 (fun (r23 : Int64) (S24 : SS) => (V_X0_add r21 r23 S24 (fun (r25 : Int32) (S26 : SS) => (post S26)))))))))))))) ∧ (¬ r9 = 0 → ¬ r9 = 1 → (V_X7_goPrime p0 S10 (fun (r27 : Int64) (S28 : SS) => (V_X0_add (1 : Int64) r27 S28 (fun (r29 : Int32) (S30 : SS) => (post S30)))))))))))))))))
set_option maxHeartbeats 4000000 in
set_option maxRecDepth 100000 in
theorem c_X7_addFractionsOfAct  {S : SS} {p0 : Int32} {post : SS → Prop} (hV : V_X7_addFractionsOfAct  p0 S post) : MV l yX7_addFractionsOfAct wsX7_addFractionsOfAct rm_X7_addFractionsOfAct [.ref (ad 0), .int p0] D n0 ad cI cJ X S post := by
  refine Met.ofW (cc := cX7_addFractionsOfAct) (maxL := 6) (ret := none) (by decide) rfl ?_
  intro p e s m args below meth c s₁ B hml hv
  obtain ⟨rfl, hv⟩ := hv
  have C0 := Bd.mk B hml (atoms_spec (ws := wsX7_addFractionsOfAct) B.pre) (findClass_of_methodNamed B.named) hv.1
  have hw : Wh D n0 ad cI cJ X S s s.heap [] := ⟨hv.2.1, hv.2.2, va_S.rf⟩
  refine r_entry (Nat.le_of_ble_eq_true rfl) (fun ls hl => ?_)
  have hl : lv_has ls 6 [(0, .ref (ad 0)), (1, .int p0)] := hl
  unfold V_X7_addFractionsOfAct at hV
  refine lv_aload_n C0.x C0.b dX7_addFractionsOfAct_0 rfl (lv_at hl 0 rfl) ?_
  refine r_get C0 hw (C := RX7) (T := TX7) (N := 15) (v := .ref (ad 37)) iw_X7_addFractionsOfAct_X7 (lg_0 ad cI cJ X S) rfl 14 (by decide) (C0.ts _ fw_X7_addFractionsOfAct_81) rfl dX7_addFractionsOfAct_1 ?_
  refine lv_iload_n C0.x C0.b dX7_addFractionsOfAct_4 rfl (lv_at hl 1 rfl) ?_
  refine r_cV_i (As := [.int p0]) (rest := []) C0 hw (c_X1_next  hV) (cwV 1 C0.ts gX7_addFractionsOfAct_X1_next rfl rfl rfl hd_X1_next ⟨Nat.le_of_ble_eq_true rfl, Nat.le_of_ble_eq_true rfl⟩) (lg_37 ad cI cJ X S) rfl rfl hl.1 rfl (Nat.le_of_ble_eq_true rfl) ⟨Nat.le_of_ble_eq_true rfl, Nat.le_of_ble_eq_true rfl⟩ dX7_addFractionsOfAct_5 (fun r1 S2 H locs hV hw => ?_)
  refine r_cS_l (As := [.int r1]) (rest := []) C0 hw (c_X7_waitPrime  hV) (va_cwS 1 C0.ts gX7_addFractionsOfAct_X7_waitPrime rfl rfl rfl hd_X7_waitPrime ⟨Nat.le_of_ble_eq_true rfl, Nat.le_of_ble_eq_true rfl⟩) rfl hl.1 rfl (Nat.le_of_ble_eq_true rfl) ⟨Nat.le_of_ble_eq_true rfl, Nat.le_of_ble_eq_true rfl⟩ dX7_addFractionsOfAct_8 (fun r3 S4 H locs hV hw => ?_)
  refine lv_lstore_n (lv' := [(2, .long r3), (0, .ref (ad 0)), (1, .int p0)]) C0.x C0.b dX7_addFractionsOfAct_11 rfl hl (by decide) rfl (fun ls hl => ?_)
  refine lv_aload_n C0.x C0.b dX7_addFractionsOfAct_12 rfl (lv_at hl 1 rfl) ?_
  refine r_get C0 hw (C := RX7) (T := TX7) (N := 15) (v := .ref (ad 37)) iw_X7_addFractionsOfAct_X7 (lg_0 ad cI cJ X S4) rfl 14 (by decide) (C0.ts _ fw_X7_addFractionsOfAct_81) rfl dX7_addFractionsOfAct_13 ?_
  refine lv_iload_n C0.x C0.b dX7_addFractionsOfAct_16 rfl (lv_at hl 2 rfl) ?_
  refine r_cV_i (As := [.int p0]) (rest := []) C0 hw (c_X1_heap  hV) (cwV 1 C0.ts gX7_addFractionsOfAct_X1_heap rfl rfl rfl hd_X1_heap ⟨Nat.le_of_ble_eq_true rfl, Nat.le_of_ble_eq_true rfl⟩) (lg_37 ad cI cJ X S4) rfl rfl hl.1 rfl (Nat.le_of_ble_eq_true rfl) ⟨Nat.le_of_ble_eq_true rfl, Nat.le_of_ble_eq_true rfl⟩ dX7_addFractionsOfAct_17 (fun r5 S6 H locs hV hw => ?_)
  refine r_cS_l (As := [.int r5]) (rest := []) C0 hw (c_X7_heapPrime  hV) (va_cwS 1 C0.ts gX7_addFractionsOfAct_X7_heapPrime rfl rfl rfl hd_X7_heapPrime ⟨Nat.le_of_ble_eq_true rfl, Nat.le_of_ble_eq_true rfl⟩) rfl hl.1 rfl (Nat.le_of_ble_eq_true rfl) ⟨Nat.le_of_ble_eq_true rfl, Nat.le_of_ble_eq_true rfl⟩ dX7_addFractionsOfAct_20 (fun r7 S8 H locs hV hw => ?_)
  refine lv_lstore (lv' := [(4, .long r7), (2, .long r3), (0, .ref (ad 0)), (1, .int p0)]) C0.x C0.b dX7_addFractionsOfAct_23 hl (by decide) rfl (fun ls hl => ?_)
  refine lv_aload_n C0.x C0.b dX7_addFractionsOfAct_25 rfl (lv_at hl 2 rfl) ?_
  refine r_get C0 hw (C := RX7) (T := TX7) (N := 15) (v := .ref (ad 37)) iw_X7_addFractionsOfAct_X7 (lg_0 ad cI cJ X S8) rfl 14 (by decide) (C0.ts _ fw_X7_addFractionsOfAct_81) rfl dX7_addFractionsOfAct_26 ?_
  refine lv_iload_n C0.x C0.b dX7_addFractionsOfAct_29 rfl (lv_at hl 3 rfl) ?_
  refine r_cV_i (As := [.int p0]) (rest := []) C0 hw (c_X1_kind  hV) (cwV 1 C0.ts gX7_addFractionsOfAct_X1_kind rfl rfl rfl hd_X1_kind ⟨Nat.le_of_ble_eq_true rfl, Nat.le_of_ble_eq_true rfl⟩) (lg_37 ad cI cJ X S8) rfl rfl hl.1 rfl (Nat.le_of_ble_eq_true rfl) ⟨Nat.le_of_ble_eq_true rfl, Nat.le_of_ble_eq_true rfl⟩ dX7_addFractionsOfAct_30 (fun r9 S10 H locs hV hw => ?_)
  by_cases hs0 : r9 = 0
  · have hV := hV.1 hs0
    refine lv_lookup (off := 27) (tgt := 60) C0.x C0.b dX7_addFractionsOfAct_33 (by decide) (by rw [hs0]; rfl) (by decide) ?_
    refine lv_aload_n C0.x C0.b dX7_addFractionsOfAct_60 rfl (lv_at hl 2 rfl) ?_
    refine r_get C0 hw (C := RX7) (T := TX7) (N := 15) (v := .ref (ad 13)) iw_X7_addFractionsOfAct_X7 (lg_0 ad cI cJ X S10) rfl 4 (by decide) (C0.ts _ fw_X7_addFractionsOfAct_29) rfl dX7_addFractionsOfAct_61 ?_
    refine lv_lload_n C0.x C0.b dX7_addFractionsOfAct_64 rfl (lv_at hl 1 rfl) ?_
    refine lv_lload C0.x C0.b dX7_addFractionsOfAct_65 (lv_at hl 0 rfl) ?_
    refine lv_lmul C0.x C0.b dX7_addFractionsOfAct_67 ?_
    refine lv_iload_n C0.x C0.b dX7_addFractionsOfAct_68 rfl (lv_at hl 3 rfl) ?_
    refine r_cS_l (As := [.int p0]) (rest := [.long (r3 * r7), .ref (ad 13)]) C0 hw (c_X7_goPrime  hV) (va_cwS 1 C0.ts gX7_addFractionsOfAct_X7_goPrime rfl rfl rfl hd_X7_goPrime ⟨Nat.le_of_ble_eq_true rfl, Nat.le_of_ble_eq_true rfl⟩) rfl hl.1 rfl (Nat.le_of_ble_eq_true rfl) ⟨Nat.le_of_ble_eq_true rfl, Nat.le_of_ble_eq_true rfl⟩ dX7_addFractionsOfAct_69 (fun r11 S12 H locs hV hw => ?_)
    refine r_cV_i (As := [.long (r3 * r7), .long r11]) (rest := []) C0 hw (c_X0_add  hV) (cwV 2 C0.ts gX7_addFractionsOfAct_X0_add rfl rfl rfl hd_X0_add ⟨Nat.le_of_ble_eq_true rfl, Nat.le_of_ble_eq_true rfl⟩) (lg_13 ad cI cJ X S12) rfl rfl hl.1 rfl (Nat.le_of_ble_eq_true rfl) ⟨Nat.le_of_ble_eq_true rfl, Nat.le_of_ble_eq_true rfl⟩ dX7_addFractionsOfAct_72 (fun r13 S14 H locs hV hw => ?_)
    refine lv_pop C0.x C0.b dX7_addFractionsOfAct_75 rfl ?_
    refine lv_goto (tgt := 134) C0.x C0.b dX7_addFractionsOfAct_76 (by decide) ?_
    exact r_vret C0 rfl hw hV dX7_addFractionsOfAct_134
  · skip
    by_cases hs1 : r9 = 1
    · have hV := hV.2.1 hs1
      refine lv_lookup (off := 46) (tgt := 79) C0.x C0.b dX7_addFractionsOfAct_33 (by decide) (by rw [hs1]; rfl) (by decide) ?_
      refine lv_aload_n C0.x C0.b dX7_addFractionsOfAct_79 rfl (lv_at hl 2 rfl) ?_
      refine r_get C0 hw (C := RX7) (T := TX7) (N := 15) (v := .ref (ad 13)) iw_X7_addFractionsOfAct_X7 (lg_0 ad cI cJ X S10) rfl 4 (by decide) (C0.ts _ fw_X7_addFractionsOfAct_29) rfl dX7_addFractionsOfAct_80 ?_
      refine lv_lload_n C0.x C0.b dX7_addFractionsOfAct_83 rfl (lv_at hl 1 rfl) ?_
      refine lv_iload_n C0.x C0.b dX7_addFractionsOfAct_84 rfl (lv_at hl 3 rfl) ?_
      refine r_cS_l (As := [.int p0]) (rest := [.long r3, .ref (ad 13)]) C0 hw (c_X7_goPrime  hV) (va_cwS 1 C0.ts gX7_addFractionsOfAct_X7_goPrime rfl rfl rfl hd_X7_goPrime ⟨Nat.le_of_ble_eq_true rfl, Nat.le_of_ble_eq_true rfl⟩) rfl hl.1 rfl (Nat.le_of_ble_eq_true rfl) ⟨Nat.le_of_ble_eq_true rfl, Nat.le_of_ble_eq_true rfl⟩ dX7_addFractionsOfAct_85 (fun r15 S16 H locs hV hw => ?_)
      refine lv_lload C0.x C0.b dX7_addFractionsOfAct_88 (lv_at hl 0 rfl) ?_
      refine lv_lmul C0.x C0.b dX7_addFractionsOfAct_90 ?_
      refine r_cV_i (As := [.long r3, .long (r15 * r7)]) (rest := []) C0 hw (c_X0_add  hV) (cwV 2 C0.ts gX7_addFractionsOfAct_X0_add rfl rfl rfl hd_X0_add ⟨Nat.le_of_ble_eq_true rfl, Nat.le_of_ble_eq_true rfl⟩) (lg_13 ad cI cJ X S16) rfl rfl hl.1 rfl (Nat.le_of_ble_eq_true rfl) ⟨Nat.le_of_ble_eq_true rfl, Nat.le_of_ble_eq_true rfl⟩ dX7_addFractionsOfAct_91 (fun r17 S18 H locs hV hw => ?_)
      refine lv_pop C0.x C0.b dX7_addFractionsOfAct_94 rfl ?_
      refine lv_aload_n C0.x C0.b dX7_addFractionsOfAct_95 rfl (lv_at hl 2 rfl) ?_
      refine r_get C0 hw (C := RX7) (T := TX7) (N := 15) (v := .ref (ad 13)) iw_X7_addFractionsOfAct_X7 (lg_0 ad cI cJ X S18) rfl 4 (by decide) (C0.ts _ fw_X7_addFractionsOfAct_29) rfl dX7_addFractionsOfAct_96 ?_
      refine lv_aload_n C0.x C0.b dX7_addFractionsOfAct_99 rfl (lv_at hl 2 rfl) ?_
      refine r_get C0 hw (C := RX7) (T := TX7) (N := 15) (v := .ref (ad 37)) iw_X7_addFractionsOfAct_X7 (lg_0 ad cI cJ X S18) rfl 14 (by decide) (C0.ts _ fw_X7_addFractionsOfAct_81) rfl dX7_addFractionsOfAct_100 ?_
      refine lv_iload_n C0.x C0.b dX7_addFractionsOfAct_103 rfl (lv_at hl 3 rfl) ?_
      refine r_cV_i (As := [.int p0]) (rest := [.ref (ad 13)]) C0 hw (c_X1_otherwise  hV) (cwV 1 C0.ts gX7_addFractionsOfAct_X1_otherwise rfl rfl rfl hd_X1_otherwise ⟨Nat.le_of_ble_eq_true rfl, Nat.le_of_ble_eq_true rfl⟩) (lg_37 ad cI cJ X S18) rfl rfl hl.1 rfl (Nat.le_of_ble_eq_true rfl) ⟨Nat.le_of_ble_eq_true rfl, Nat.le_of_ble_eq_true rfl⟩ dX7_addFractionsOfAct_104 (fun r19 S20 H locs hV hw => ?_)
      refine r_cS_l (As := [.int r19]) (rest := [.ref (ad 13)]) C0 hw (c_X7_waitPrime  hV) (va_cwS 1 C0.ts gX7_addFractionsOfAct_X7_waitPrime rfl rfl rfl hd_X7_waitPrime ⟨Nat.le_of_ble_eq_true rfl, Nat.le_of_ble_eq_true rfl⟩) rfl hl.1 rfl (Nat.le_of_ble_eq_true rfl) ⟨Nat.le_of_ble_eq_true rfl, Nat.le_of_ble_eq_true rfl⟩ dX7_addFractionsOfAct_107 (fun r21 S22 H locs hV hw => ?_)
      refine lv_iload_n C0.x C0.b dX7_addFractionsOfAct_110 rfl (lv_at hl 3 rfl) ?_
      refine r_cS_l (As := [.int p0]) (rest := [.long r21, .ref (ad 13)]) C0 hw (c_X7_goPrime  hV) (va_cwS 1 C0.ts gX7_addFractionsOfAct_X7_goPrime rfl rfl rfl hd_X7_goPrime ⟨Nat.le_of_ble_eq_true rfl, Nat.le_of_ble_eq_true rfl⟩) rfl hl.1 rfl (Nat.le_of_ble_eq_true rfl) ⟨Nat.le_of_ble_eq_true rfl, Nat.le_of_ble_eq_true rfl⟩ dX7_addFractionsOfAct_111 (fun r23 S24 H locs hV hw => ?_)
      refine r_cV_i (As := [.long r21, .long r23]) (rest := []) C0 hw (c_X0_add  hV) (cwV 2 C0.ts gX7_addFractionsOfAct_X0_add rfl rfl rfl hd_X0_add ⟨Nat.le_of_ble_eq_true rfl, Nat.le_of_ble_eq_true rfl⟩) (lg_13 ad cI cJ X S24) rfl rfl hl.1 rfl (Nat.le_of_ble_eq_true rfl) ⟨Nat.le_of_ble_eq_true rfl, Nat.le_of_ble_eq_true rfl⟩ dX7_addFractionsOfAct_114 (fun r25 S26 H locs hV hw => ?_)
      refine lv_pop C0.x C0.b dX7_addFractionsOfAct_117 rfl ?_
      refine lv_goto (tgt := 134) C0.x C0.b dX7_addFractionsOfAct_118 (by decide) ?_
      exact r_vret C0 rfl hw hV dX7_addFractionsOfAct_134
    · skip
      have hV := hV.2.2 hs0 hs1
      refine lv_lookup (off := 88) (tgt := 121) C0.x C0.b dX7_addFractionsOfAct_33 (by decide) (lk2 hs0 hs1) (by decide) ?_
      refine lv_aload_n C0.x C0.b dX7_addFractionsOfAct_121 rfl (lv_at hl 2 rfl) ?_
      refine r_get C0 hw (C := RX7) (T := TX7) (N := 15) (v := .ref (ad 13)) iw_X7_addFractionsOfAct_X7 (lg_0 ad cI cJ X S10) rfl 4 (by decide) (C0.ts _ fw_X7_addFractionsOfAct_29) rfl dX7_addFractionsOfAct_122 ?_
      refine lv_lconst (v := 1) C0.x C0.b dX7_addFractionsOfAct_125 (by decide) ?_
      refine lv_iload_n C0.x C0.b dX7_addFractionsOfAct_126 rfl (lv_at hl 3 rfl) ?_
      refine r_cS_l (As := [.int p0]) (rest := [.long (1 : Int64), .ref (ad 13)]) C0 hw (c_X7_goPrime  hV) (va_cwS 1 C0.ts gX7_addFractionsOfAct_X7_goPrime rfl rfl rfl hd_X7_goPrime ⟨Nat.le_of_ble_eq_true rfl, Nat.le_of_ble_eq_true rfl⟩) rfl hl.1 rfl (Nat.le_of_ble_eq_true rfl) ⟨Nat.le_of_ble_eq_true rfl, Nat.le_of_ble_eq_true rfl⟩ dX7_addFractionsOfAct_127 (fun r27 S28 H locs hV hw => ?_)
      refine r_cV_i (As := [.long (1 : Int64), .long r27]) (rest := []) C0 hw (c_X0_add  hV) (cwV 2 C0.ts gX7_addFractionsOfAct_X0_add rfl rfl rfl hd_X0_add ⟨Nat.le_of_ble_eq_true rfl, Nat.le_of_ble_eq_true rfl⟩) (lg_13 ad cI cJ X S28) rfl rfl hl.1 rfl (Nat.le_of_ble_eq_true rfl) ⟨Nat.le_of_ble_eq_true rfl, Nat.le_of_ble_eq_true rfl⟩ dX7_addFractionsOfAct_130 (fun r29 S30 H locs hV hw => ?_)
      refine lv_pop C0.x C0.b dX7_addFractionsOfAct_133 rfl ?_
      exact r_vret C0 rfl hw hV dX7_addFractionsOfAct_134
/-! StepBench.made()I -/
abbrev rm_X7_made : Room := { frames := 4, cells := 0, slots := 0, locals := 105 }
set_option maxRecDepth 20000 in
theorem fw_X7_made_81 : Cond.fieldLink RX7 81 "StepBench" "machine" "LStepBench$Machine;" ∈ wsX7_made := by decide +kernel
set_option maxRecDepth 20000 in
theorem iw_X7_made_X7 : ∀ w ∈ wsX70, w ∈ wsX7_made := by decide +kernel
set_option maxRecDepth 20000 in
theorem fw_X7_made_29 : Cond.fieldLink RX7 29 "StepBench" "fractions" "LStepBench$Fractions;" ∈ wsX7_made := by decide +kernel
set_option maxRecDepth 20000 in
theorem fw_X7_made_9 : Cond.fieldLink RX7 9 "StepBench" "ruleKind" "I" ∈ wsX7_made := by decide +kernel
set_option maxRecDepth 20000 in
theorem hd_X7_made : yX7_made.cls = RX7 ∧ yX7_made.cls ≠ "java/lang/invoke/MethodHandle" ∧ yX7_made.cls ≠ "java/lang/invoke/VarHandle" ∧ (parseMethodDescriptor yX7_made.desc).map (fun d => d.parameters.length) = some 0 := by decide +kernel
def V_X7_made_57    (post : Int32 → SS → Prop) : Nat → Int32 → SS → Prop
  | 0, _, _ => False
  | n + 1, v1, S =>
    (V_X1_size  S (fun (r12 : Int32) (S13 : SS) => ((r12 ≤ v1 → (∀ S15 : SS, S15 = (sI S13 0 (2 : Int32)) → (V_X0_size  S15 (fun (r16 : Int32) (S17 : SS) => (post r16 S17))))) ∧ (¬ r12 ≤ v1 → (V_X7_goPrime v1 S13 (fun (r18 : Int64) (S19 : SS) => (V_X7_waitPrime v1 S19 (fun (r20 : Int64) (S21 : SS) => (V_X0_add r18 r20 S21 (fun (r22 : Int32) (S23 : SS) => (∀ x24 : Int32, x24 = v1 + 1 → (V_X7_made_57    post n x24 S23))))))))))))
set_option maxHeartbeats 4000000 in
set_option maxRecDepth 100000 in
theorem lp_X7_made_57    (post : Int32 → SS → Prop) (C0 : Bd p s m meth c args cX7_made 2 (some .int) wsX7_made RX7 D n0 cI cJ) : ∀ (n : Nat) (v1 : Int32) (S : SS), V_X7_made_57    post n v1 S → ∀ (H : Heap) (locs : List Loc), Wh D n0 ad cI cJ X S s H locs → ∀ ls : Array Slot, lv_has ls 2 [(0, .ref (ad 0)), (1, .int v1)] → W p l e rm_X7_made s m args below meth c H locs 0 0 (MQ below (va_Qi post (fun S' t => Wd D n0 ad cI cJ X S' t) (fr n0)) args s 0 0 (fr n0)) (F0 m 57 ls []) := by
  intro n
  induction n with
  | zero => intro v1 S hV; exact False.elim hV
  | succ n ih =>
    intro v1 S hV H locs hw ls hl
    rw [V_X7_made_57] at hV
    refine lv_iload_n C0.x C0.b dX7_made_57 rfl (lv_at hl 1 rfl) ?_
    refine lv_aload_n C0.x C0.b dX7_made_58 rfl (lv_at hl 0 rfl) ?_
    refine r_get C0 hw (C := RX7) (T := TX7) (N := 15) (v := .ref (ad 37)) iw_X7_made_X7 (lg_0 ad cI cJ X S) rfl 14 (by decide) (C0.ts _ fw_X7_made_81) rfl dX7_made_59 ?_
    refine r_cV_i (As := []) (rest := [.int v1]) C0 hw (c_X1_size  hV) (cwV 0 C0.ts gX7_made_X1_size rfl rfl rfl hd_X1_size ⟨Nat.le_of_ble_eq_true rfl, Nat.le_of_ble_eq_true rfl⟩) (lg_37 ad cI cJ X S) rfl rfl hl.1 rfl (Nat.le_of_ble_eq_true rfl) ⟨Nat.le_of_ble_eq_true rfl, Nat.le_of_ble_eq_true rfl⟩ dX7_made_62 (fun r12 S13 H locs hV hw => ?_)
    refine lv_icmp_ge (tgt := 90) C0.x C0.b dX7_made_65 (by decide) (fun c14 => ?_) (fun c14 => ?_)
    · have hV := hV.1 c14
      refine lv_aload_n C0.x C0.b dX7_made_90 rfl (lv_at hl 0 rfl) ?_
      refine lv_iconst (v := 2) C0.x C0.b dX7_made_91 (by decide) ?_
      refine r_put C0 hw (C := RX7) (T := TX7) (N := 15) (ty := .int) iw_X7_made_X7 tyX7 tyX7_ok nmX7 (lg_0 ad cI cJ X S13) rfl 0 (by decide) (C0.ts _ fw_X7_made_9) rfl (by decide +kernel) rfl rfl (Nat.le_of_ble_eq_true rfl) dX7_made_92 (S' := (sI S13 0 (2 : Int32))) (ls_0_0 ad cI cJ X S13 (2 : Int32)) (fun S15 H locs eS15 hw => ?_)
      have hV := hV S15 eS15
      refine lv_aload_n C0.x C0.b dX7_made_95 rfl (lv_at hl 0 rfl) ?_
      refine r_get C0 hw (C := RX7) (T := TX7) (N := 15) (v := .ref (ad 13)) iw_X7_made_X7 (lg_0 ad cI cJ X S15) rfl 4 (by decide) (C0.ts _ fw_X7_made_29) rfl dX7_made_96 ?_
      refine r_cV_i (As := []) (rest := []) C0 hw (c_X0_size  hV) (cwV 0 C0.ts gX7_made_X0_size rfl rfl rfl hd_X0_size ⟨Nat.le_of_ble_eq_true rfl, Nat.le_of_ble_eq_true rfl⟩) (lg_13 ad cI cJ X S15) rfl rfl hl.1 rfl (Nat.le_of_ble_eq_true rfl) ⟨Nat.le_of_ble_eq_true rfl, Nat.le_of_ble_eq_true rfl⟩ dX7_made_99 (fun r16 S17 H locs hV hw => ?_)
      exact r_iret C0 rfl hw hV dX7_made_102
    · have hV := hV.2 c14
      refine lv_aload_n C0.x C0.b dX7_made_68 rfl (lv_at hl 0 rfl) ?_
      refine r_get C0 hw (C := RX7) (T := TX7) (N := 15) (v := .ref (ad 13)) iw_X7_made_X7 (lg_0 ad cI cJ X S13) rfl 4 (by decide) (C0.ts _ fw_X7_made_29) rfl dX7_made_69 ?_
      refine lv_iload_n C0.x C0.b dX7_made_72 rfl (lv_at hl 1 rfl) ?_
      refine r_cS_l (As := [.int v1]) (rest := [.ref (ad 13)]) C0 hw (c_X7_goPrime  hV) (va_cwS 1 C0.ts gX7_made_X7_goPrime rfl rfl rfl hd_X7_goPrime ⟨Nat.le_of_ble_eq_true rfl, Nat.le_of_ble_eq_true rfl⟩) rfl hl.1 rfl (Nat.le_of_ble_eq_true rfl) ⟨Nat.le_of_ble_eq_true rfl, Nat.le_of_ble_eq_true rfl⟩ dX7_made_73 (fun r18 S19 H locs hV hw => ?_)
      refine lv_iload_n C0.x C0.b dX7_made_76 rfl (lv_at hl 1 rfl) ?_
      refine r_cS_l (As := [.int v1]) (rest := [.long r18, .ref (ad 13)]) C0 hw (c_X7_waitPrime  hV) (va_cwS 1 C0.ts gX7_made_X7_waitPrime rfl rfl rfl hd_X7_waitPrime ⟨Nat.le_of_ble_eq_true rfl, Nat.le_of_ble_eq_true rfl⟩) rfl hl.1 rfl (Nat.le_of_ble_eq_true rfl) ⟨Nat.le_of_ble_eq_true rfl, Nat.le_of_ble_eq_true rfl⟩ dX7_made_77 (fun r20 S21 H locs hV hw => ?_)
      refine r_cV_i (As := [.long r18, .long r20]) (rest := []) C0 hw (c_X0_add  hV) (cwV 2 C0.ts gX7_made_X0_add rfl rfl rfl hd_X0_add ⟨Nat.le_of_ble_eq_true rfl, Nat.le_of_ble_eq_true rfl⟩) (lg_13 ad cI cJ X S21) rfl rfl hl.1 rfl (Nat.le_of_ble_eq_true rfl) ⟨Nat.le_of_ble_eq_true rfl, Nat.le_of_ble_eq_true rfl⟩ dX7_made_80 (fun r22 S23 H locs hV hw => ?_)
      refine lv_pop C0.x C0.b dX7_made_83 rfl ?_
      obtain ⟨x24, ex24⟩ : ∃ z : Int32, z = v1 + 1 := ⟨_, rfl⟩
      have hV := hV x24 ex24
      refine lv_iinc (v := x24) (lv' := [(1, .int x24), (0, .ref (ad 0))]) C0.x C0.b dX7_made_84 hl (k := 1) rfl (by rw [ex24]; rfl) (by decide) rfl (fun ls hl => ?_)
      refine lv_goto (tgt := 57) C0.x C0.b dX7_made_87 (by decide) ?_
      exact ih _ _ hV _ _ hw _ (lv_sub hl [1, 0] rfl)
def V_X7_made_33    (post : Int32 → SS → Prop) : Nat → Int32 → SS → Prop
  | 0, _, _ => False
  | n + 1, v1, S =>
    (V_X1_size  S (fun (r9 : Int32) (S10 : SS) => ((r9 ≤ v1 → (∃ n57 : Nat, V_X7_made_57    post n57 (0 : Int32) S10)) ∧ (¬ r9 ≤ v1 → (V_X7_addFractionsOfAct v1 S10 (fun (S26 : SS) => (∀ x27 : Int32, x27 = v1 + 1 → (V_X7_made_33    post n x27 S26))))))))
set_option maxHeartbeats 4000000 in
set_option maxRecDepth 100000 in
theorem lp_X7_made_33    (post : Int32 → SS → Prop) (C0 : Bd p s m meth c args cX7_made 2 (some .int) wsX7_made RX7 D n0 cI cJ) : ∀ (n : Nat) (v1 : Int32) (S : SS), V_X7_made_33    post n v1 S → ∀ (H : Heap) (locs : List Loc), Wh D n0 ad cI cJ X S s H locs → ∀ ls : Array Slot, lv_has ls 2 [(0, .ref (ad 0)), (1, .int v1)] → W p l e rm_X7_made s m args below meth c H locs 0 0 (MQ below (va_Qi post (fun S' t => Wd D n0 ad cI cJ X S' t) (fr n0)) args s 0 0 (fr n0)) (F0 m 33 ls []) := by
  intro n
  induction n with
  | zero => intro v1 S hV; exact False.elim hV
  | succ n ih =>
    intro v1 S hV H locs hw ls hl
    rw [V_X7_made_33] at hV
    refine lv_iload_n C0.x C0.b dX7_made_33 rfl (lv_at hl 1 rfl) ?_
    refine lv_aload_n C0.x C0.b dX7_made_34 rfl (lv_at hl 0 rfl) ?_
    refine r_get C0 hw (C := RX7) (T := TX7) (N := 15) (v := .ref (ad 37)) iw_X7_made_X7 (lg_0 ad cI cJ X S) rfl 14 (by decide) (C0.ts _ fw_X7_made_81) rfl dX7_made_35 ?_
    refine r_cV_i (As := []) (rest := [.int v1]) C0 hw (c_X1_size  hV) (cwV 0 C0.ts gX7_made_X1_size rfl rfl rfl hd_X1_size ⟨Nat.le_of_ble_eq_true rfl, Nat.le_of_ble_eq_true rfl⟩) (lg_37 ad cI cJ X S) rfl rfl hl.1 rfl (Nat.le_of_ble_eq_true rfl) ⟨Nat.le_of_ble_eq_true rfl, Nat.le_of_ble_eq_true rfl⟩ dX7_made_38 (fun r9 S10 H locs hV hw => ?_)
    refine lv_icmp_ge (tgt := 55) C0.x C0.b dX7_made_41 (by decide) (fun c11 => ?_) (fun c11 => ?_)
    · have hV := hV.1 c11
      refine lv_iconst (v := 0) C0.x C0.b dX7_made_55 (by decide) ?_
      refine lv_istore_n (lv' := [(1, .int (0 : Int32)), (0, .ref (ad 0))]) C0.x C0.b dX7_made_56 rfl hl (by decide) rfl (fun ls hl => ?_)
      obtain ⟨n57, hV⟩ := hV
      exact lp_X7_made_57   post C0  n57 _ _ hV _ _ hw _ (lv_sub hl [1, 0] rfl)
    · have hV := hV.2 c11
      refine lv_aload_n C0.x C0.b dX7_made_44 rfl (lv_at hl 0 rfl) ?_
      refine lv_iload_n C0.x C0.b dX7_made_45 rfl (lv_at hl 1 rfl) ?_
      refine r_cV_v (As := [.int v1]) (rest := []) C0 hw (c_X7_addFractionsOfAct  hV) (cwV 1 C0.ts gX7_made_X7_addFractionsOfAct rfl rfl rfl hd_X7_addFractionsOfAct ⟨Nat.le_of_ble_eq_true rfl, Nat.le_of_ble_eq_true rfl⟩) (lg_0 ad cI cJ X S10) rfl rfl hl.1 rfl (Nat.le_of_ble_eq_true rfl) ⟨Nat.le_of_ble_eq_true rfl, Nat.le_of_ble_eq_true rfl⟩ dX7_made_46 (fun S26 H locs hV hw => ?_)
      obtain ⟨x27, ex27⟩ : ∃ z : Int32, z = v1 + 1 := ⟨_, rfl⟩
      have hV := hV x27 ex27
      refine lv_iinc (v := x27) (lv' := [(1, .int x27), (0, .ref (ad 0))]) C0.x C0.b dX7_made_49 hl (k := 1) rfl (by rw [ex27]; rfl) (by decide) rfl (fun ls hl => ?_)
      refine lv_goto (tgt := 33) C0.x C0.b dX7_made_52 (by decide) ?_
      exact ih _ _ hV _ _ hw _ (lv_sub hl [1, 0] rfl)
def V_X7_made   (S : SS) (post : Int32 → SS → Prop) : Prop :=
  (V_X1_size  S (fun (r1 : Int32) (S2 : SS) => ((r1 = 0 → (post (-1 : Int32) S2)) ∧ (¬ r1 = 0 → (V_X1_fractionsNeeded  S2 (fun (r4 : Int32) (S5 : SS) => ((r4 ≤ (40 : Int32) → (V_X0_empty  S5 (fun (S8 : SS) => (∃ n33 : Nat, V_X7_made_33    post n33 (0 : Int32) S8)))) ∧ (¬ r4 ≤ (40 : Int32) → (post (-1 : Int32) S5)))))))))
set_option maxHeartbeats 4000000 in
set_option maxRecDepth 100000 in
theorem c_X7_made  {S : SS}  {post : Int32 → SS → Prop} (hV : V_X7_made   S post) : MI l yX7_made wsX7_made rm_X7_made [.ref (ad 0)] D n0 ad cI cJ X S post := by
  refine Met.ofW (cc := cX7_made) (maxL := 2) (ret := (some .int)) (by decide) rfl ?_
  intro p e s m args below meth c s₁ B hml hv
  obtain ⟨rfl, hv⟩ := hv
  have C0 := Bd.mk B hml (atoms_spec (ws := wsX7_made) B.pre) (findClass_of_methodNamed B.named) hv.1
  have hw : Wh D n0 ad cI cJ X S s s.heap [] := ⟨hv.2.1, hv.2.2, va_S.rf⟩
  refine r_entry (Nat.le_of_ble_eq_true rfl) (fun ls hl => ?_)
  have hl : lv_has ls 2 [(0, .ref (ad 0))] := hl
  unfold V_X7_made at hV
  refine lv_aload_n C0.x C0.b dX7_made_0 rfl (lv_at hl 0 rfl) ?_
  refine r_get C0 hw (C := RX7) (T := TX7) (N := 15) (v := .ref (ad 37)) iw_X7_made_X7 (lg_0 ad cI cJ X S) rfl 14 (by decide) (C0.ts _ fw_X7_made_81) rfl dX7_made_1 ?_
  refine r_cV_i (As := []) (rest := []) C0 hw (c_X1_size  hV) (cwV 0 C0.ts gX7_made_X1_size rfl rfl rfl hd_X1_size ⟨Nat.le_of_ble_eq_true rfl, Nat.le_of_ble_eq_true rfl⟩) (lg_37 ad cI cJ X S) rfl rfl hl.1 rfl (Nat.le_of_ble_eq_true rfl) ⟨Nat.le_of_ble_eq_true rfl, Nat.le_of_ble_eq_true rfl⟩ dX7_made_4 (fun r1 S2 H locs hV hw => ?_)
  refine lv_if_eq (tgt := 22) C0.x C0.b dX7_made_7 (by decide) (fun c3 => ?_) (fun c3 => ?_)
  · have hV := hV.1 c3
    refine lv_iconst (v := -1) C0.x C0.b dX7_made_22 (by decide) ?_
    exact r_iret C0 rfl hw hV dX7_made_23
  · have hV := hV.2 c3
    refine lv_aload_n C0.x C0.b dX7_made_10 rfl (lv_at hl 0 rfl) ?_
    refine r_get C0 hw (C := RX7) (T := TX7) (N := 15) (v := .ref (ad 37)) iw_X7_made_X7 (lg_0 ad cI cJ X S2) rfl 14 (by decide) (C0.ts _ fw_X7_made_81) rfl dX7_made_11 ?_
    refine r_cV_i (As := []) (rest := []) C0 hw (c_X1_fractionsNeeded  hV) (cwV 0 C0.ts gX7_made_X1_fractionsNeeded rfl rfl rfl hd_X1_fractionsNeeded ⟨Nat.le_of_ble_eq_true rfl, Nat.le_of_ble_eq_true rfl⟩) (lg_37 ad cI cJ X S2) rfl rfl hl.1 rfl (Nat.le_of_ble_eq_true rfl) ⟨Nat.le_of_ble_eq_true rfl, Nat.le_of_ble_eq_true rfl⟩ dX7_made_14 (fun r4 S5 H locs hV hw => ?_)
    refine lv_bipush (v := 40) C0.x C0.b dX7_made_17 (by decide) ?_
    refine lv_icmp_le (tgt := 24) C0.x C0.b dX7_made_19 (by decide) (fun c6 => ?_) (fun c6 => ?_)
    · have hV := hV.1 c6
      refine lv_aload_n C0.x C0.b dX7_made_24 rfl (lv_at hl 0 rfl) ?_
      refine r_get C0 hw (C := RX7) (T := TX7) (N := 15) (v := .ref (ad 13)) iw_X7_made_X7 (lg_0 ad cI cJ X S5) rfl 4 (by decide) (C0.ts _ fw_X7_made_29) rfl dX7_made_25 ?_
      refine r_cV_v (As := []) (rest := []) C0 hw (c_X0_empty  hV) (cwV 0 C0.ts gX7_made_X0_empty rfl rfl rfl hd_X0_empty ⟨Nat.le_of_ble_eq_true rfl, Nat.le_of_ble_eq_true rfl⟩) (lg_13 ad cI cJ X S5) rfl rfl hl.1 rfl (Nat.le_of_ble_eq_true rfl) ⟨Nat.le_of_ble_eq_true rfl, Nat.le_of_ble_eq_true rfl⟩ dX7_made_28 (fun S8 H locs hV hw => ?_)
      refine lv_iconst (v := 0) C0.x C0.b dX7_made_31 (by decide) ?_
      refine lv_istore_n (lv' := [(1, .int (0 : Int32)), (0, .ref (ad 0))]) C0.x C0.b dX7_made_32 rfl hl (by decide) rfl (fun ls hl => ?_)
      obtain ⟨n33, hV⟩ := hV
      exact lp_X7_made_33   post C0  n33 _ _ hV _ _ hw _ (lv_sub hl [1, 0] rfl)
    · have hV := hV.2 c6
      refine lv_iconst (v := -1) C0.x C0.b dX7_made_22 (by decide) ?_
      exact r_iret C0 rfl hw hV dX7_made_23
/-! StepBench.timesPower(JJI)J -/
abbrev rm_X7_timesPower : Room := { frames := 1, cells := 0, slots := 0, locals := 21 }
set_option maxRecDepth 20000 in
theorem cw_X7_timesPower_190 : Cond.constantLong RX7 190 3000000000000000 ∈ wsX7_timesPower := by decide +kernel
set_option maxRecDepth 20000 in
theorem hd_X7_timesPower : yX7_timesPower.cls ≠ "java/lang/invoke/MethodHandle" ∧ yX7_timesPower.cls ≠ "java/lang/invoke/VarHandle" ∧ (parseMethodDescriptor yX7_timesPower.desc).map (fun d => d.parameters.length) = some 3 := by decide +kernel
def V_X7_timesPower_6  (v2 : Int64) (v4 : Int32)  (post : Int64 → SS → Prop) : Nat → Int64 → Int32 → SS → Prop
  | 0, _, _, _ => False
  | n + 1, v5, v7, S =>
    ((v4 ≤ v7 → (V_X7_isNumber v5 S (fun (r2 : Int32) (S3 : SS) => ((r2 = 0 → (post (3000000000000000 : Int64) S3)) ∧ (¬ r2 = 0 → (post v5 S3)))))) ∧ (¬ v4 ≤ v7 → (V_X7_isNumber v5 S (fun (r5 : Int32) (S6 : SS) => ((r5 = 0 → (V_X7_isNumber v5 S6 (fun (r8 : Int32) (S9 : SS) => ((r8 = 0 → (post (3000000000000000 : Int64) S9)) ∧ (¬ r8 = 0 → (post v5 S9)))))) ∧ (¬ r5 = 0 → (∀ y11 : Int64, y11 = (v5 * v2) → (∀ x12 : Int32, x12 = v7 + 1 → (V_X7_timesPower_6  v2 v4  post n y11 x12 S6)))))))))
set_option maxHeartbeats 4000000 in
set_option maxRecDepth 100000 in
theorem lp_X7_timesPower_6  (v2 : Int64) (v4 : Int32)  (post : Int64 → SS → Prop) (C0 : Bd p s m meth c args cX7_timesPower 8 (some .long) wsX7_timesPower RX7 D n0 cI cJ) : ∀ (n : Nat) (v5 : Int64) (v7 : Int32) (S : SS), V_X7_timesPower_6  v2 v4  post n v5 v7 S → ∀ (H : Heap) (locs : List Loc), Wh D n0 ad cI cJ X S s H locs → ∀ ls : Array Slot, lv_has ls 8 [(2, .long v2), (4, .int v4), (5, .long v5), (7, .int v7)] → W p l e rm_X7_timesPower s m args below meth c H locs 0 0 (MQ below (va_Ql post (fun S' t => Wd D n0 ad cI cJ X S' t) (fr n0)) args s 0 0 (fr n0)) (F0 m 6 ls []) := by
  intro n
  induction n with
  | zero => intro v5 v7 S hV; exact False.elim hV
  | succ n ih =>
    intro v5 v7 S hV H locs hw ls hl
    rw [V_X7_timesPower_6] at hV
    refine lv_iload C0.x C0.b dX7_timesPower_6 (lv_at hl 3 rfl) ?_
    refine lv_iload C0.x C0.b dX7_timesPower_8 (lv_at hl 1 rfl) ?_
    refine lv_icmp_ge (tgt := 33) C0.x C0.b dX7_timesPower_10 (by decide) (fun c1 => ?_) (fun c1 => ?_)
    · have hV := hV.1 c1
      refine lv_lload C0.x C0.b dX7_timesPower_33 (lv_at hl 2 rfl) ?_
      refine r_cS_i (As := [.long v5]) (rest := []) C0 hw (c_X7_isNumber  hV) (va_cwS 1 C0.ts gX7_timesPower_X7_isNumber rfl rfl rfl hd_X7_isNumber ⟨Nat.le_of_ble_eq_true rfl, Nat.le_of_ble_eq_true rfl⟩) rfl hl.1 rfl (Nat.le_of_ble_eq_true rfl) ⟨Nat.le_of_ble_eq_true rfl, Nat.le_of_ble_eq_true rfl⟩ dX7_timesPower_35 (fun r2 S3 H locs hV hw => ?_)
      refine lv_if_eq (tgt := 46) C0.x C0.b dX7_timesPower_38 (by decide) (fun c4 => ?_) (fun c4 => ?_)
      · have hV := hV.1 c4
        refine lv_ldc2 (v := 3000000000000000) C0.x C0.b C0.ow (C0.ts _ cw_X7_timesPower_190) dX7_timesPower_46 ?_
        exact r_lret C0 rfl hw hV dX7_timesPower_49
      · have hV := hV.2 c4
        refine lv_lload C0.x C0.b dX7_timesPower_41 (lv_at hl 2 rfl) ?_
        refine lv_goto (tgt := 49) C0.x C0.b dX7_timesPower_43 (by decide) ?_
        exact r_lret C0 rfl hw hV dX7_timesPower_49
    · have hV := hV.2 c1
      refine lv_lload C0.x C0.b dX7_timesPower_13 (lv_at hl 2 rfl) ?_
      refine r_cS_i (As := [.long v5]) (rest := []) C0 hw (c_X7_isNumber  hV) (va_cwS 1 C0.ts gX7_timesPower_X7_isNumber rfl rfl rfl hd_X7_isNumber ⟨Nat.le_of_ble_eq_true rfl, Nat.le_of_ble_eq_true rfl⟩) rfl hl.1 rfl (Nat.le_of_ble_eq_true rfl) ⟨Nat.le_of_ble_eq_true rfl, Nat.le_of_ble_eq_true rfl⟩ dX7_timesPower_15 (fun r5 S6 H locs hV hw => ?_)
      refine lv_if_eq (tgt := 33) C0.x C0.b dX7_timesPower_18 (by decide) (fun c7 => ?_) (fun c7 => ?_)
      · have hV := hV.1 c7
        refine lv_lload C0.x C0.b dX7_timesPower_33 (lv_at hl 2 rfl) ?_
        refine r_cS_i (As := [.long v5]) (rest := []) C0 hw (c_X7_isNumber  hV) (va_cwS 1 C0.ts gX7_timesPower_X7_isNumber rfl rfl rfl hd_X7_isNumber ⟨Nat.le_of_ble_eq_true rfl, Nat.le_of_ble_eq_true rfl⟩) rfl hl.1 rfl (Nat.le_of_ble_eq_true rfl) ⟨Nat.le_of_ble_eq_true rfl, Nat.le_of_ble_eq_true rfl⟩ dX7_timesPower_35 (fun r8 S9 H locs hV hw => ?_)
        refine lv_if_eq (tgt := 46) C0.x C0.b dX7_timesPower_38 (by decide) (fun c10 => ?_) (fun c10 => ?_)
        · have hV := hV.1 c10
          refine lv_ldc2 (v := 3000000000000000) C0.x C0.b C0.ow (C0.ts _ cw_X7_timesPower_190) dX7_timesPower_46 ?_
          exact r_lret C0 rfl hw hV dX7_timesPower_49
        · have hV := hV.2 c10
          refine lv_lload C0.x C0.b dX7_timesPower_41 (lv_at hl 2 rfl) ?_
          refine lv_goto (tgt := 49) C0.x C0.b dX7_timesPower_43 (by decide) ?_
          exact r_lret C0 rfl hw hV dX7_timesPower_49
      · have hV := hV.2 c7
        refine lv_lload C0.x C0.b dX7_timesPower_21 (lv_at hl 2 rfl) ?_
        refine lv_lload_n C0.x C0.b dX7_timesPower_23 rfl (lv_at hl 0 rfl) ?_
        refine lv_lmul C0.x C0.b dX7_timesPower_24 ?_
        refine lv_topl (fun y11 ey11 => ?_)
        have hV := hV y11 ey11
        refine lv_lstore (lv' := [(5, .long y11), (2, .long v2), (4, .int v4), (7, .int v7)]) C0.x C0.b dX7_timesPower_25 hl (by decide) rfl (fun ls hl => ?_)
        obtain ⟨x12, ex12⟩ : ∃ z : Int32, z = v7 + 1 := ⟨_, rfl⟩
        have hV := hV x12 ex12
        refine lv_iinc (v := x12) (lv' := [(7, .int x12), (5, .long y11), (2, .long v2), (4, .int v4)]) C0.x C0.b dX7_timesPower_27 hl (k := 3) rfl (by rw [ex12]; rfl) (by decide) rfl (fun ls hl => ?_)
        refine lv_goto (tgt := 6) C0.x C0.b dX7_timesPower_30 (by decide) ?_
        exact ih _ _ _ hV _ _ hw _ (lv_sub hl [2, 3, 1, 0] rfl)
def V_X7_timesPower  (p0 : Int64) (p1 : Int64) (p2 : Int32) (S : SS) (post : Int64 → SS → Prop) : Prop :=
  (∃ n6 : Nat, V_X7_timesPower_6  p1 p2  post n6 p0 (0 : Int32) S)
set_option maxHeartbeats 4000000 in
set_option maxRecDepth 100000 in
theorem c_X7_timesPower  {S : SS} {p0 : Int64} {p1 : Int64} {p2 : Int32} {post : Int64 → SS → Prop} (hV : V_X7_timesPower  p0 p1 p2 S post) : ML l yX7_timesPower wsX7_timesPower rm_X7_timesPower [.long p0, .long p1, .int p2] D n0 ad cI cJ X S post := by
  refine Met.ofW (cc := cX7_timesPower) (maxL := 8) (ret := (some .long)) (by decide) rfl ?_
  intro p e s m args below meth c s₁ B hml hv
  obtain ⟨rfl, hv⟩ := hv
  have C0 := Bd.mk B hml (atoms_spec (ws := wsX7_timesPower) B.pre) (findClass_of_methodNamed B.named) hv.1
  have hw : Wh D n0 ad cI cJ X S s s.heap [] := ⟨hv.2.1, hv.2.2, va_S.rf⟩
  refine r_entry (Nat.le_of_ble_eq_true rfl) (fun ls hl => ?_)
  have hl : lv_has ls 8 [(0, .long p0), (2, .long p1), (4, .int p2)] := hl
  unfold V_X7_timesPower at hV
  refine lv_lload_n C0.x C0.b dX7_timesPower_0 rfl (lv_at hl 0 rfl) ?_
  refine lv_lstore (lv' := [(5, .long p0), (0, .long p0), (2, .long p1), (4, .int p2)]) C0.x C0.b dX7_timesPower_1 hl (by decide) rfl (fun ls hl => ?_)
  refine lv_iconst (v := 0) C0.x C0.b dX7_timesPower_3 (by decide) ?_
  refine lv_istore (lv' := [(7, .int (0 : Int32)), (5, .long p0), (0, .long p0), (2, .long p1), (4, .int p2)]) C0.x C0.b dX7_timesPower_4 hl (by decide) rfl (fun ls hl => ?_)
  obtain ⟨n6, hV⟩ := hV
  exact lp_X7_timesPower_6  _ _ post C0  n6 _ _ _ hV _ _ hw _ (lv_sub hl [3, 4, 1, 0] rfl)
/-! StepBench.begins(IIII)J -/
abbrev rm_X7_begins : Room := { frames := 6, cells := 1, slots := 6, locals := 110 }
set_option maxRecDepth 20000 in
theorem tk_X7_begins_347 : Cond.classLink RX7 347 "java/lang/IllegalArgumentException" ∈ wsX7_begins := by decide +kernel
set_option maxRecDepth 20000 in
theorem ti_X7_begins_347 : Cond.initialized "java/lang/IllegalArgumentException" ∈ wsX7_begins := by decide +kernel
set_option maxRecDepth 20000 in
theorem th_X7_begins_351 : ∀ w ∈ (vx_atS RX7 351 "java/lang/IllegalArgumentException" exN).filter goodWord, w ∈ wsX7_begins := by decide +kernel
set_option maxRecDepth 20000 in
theorem tk_X7_begins_192 : Cond.classLink RX7 192 "java/lang/ArithmeticException" ∈ wsX7_begins := by decide +kernel
set_option maxRecDepth 20000 in
theorem ti_X7_begins_192 : Cond.initialized "java/lang/ArithmeticException" ∈ wsX7_begins := by decide +kernel
set_option maxRecDepth 20000 in
theorem th_X7_begins_196 : ∀ w ∈ (vx_atS RX7 196 "java/lang/ArithmeticException" exN).filter goodWord, w ∈ wsX7_begins := by decide +kernel
set_option maxRecDepth 20000 in
theorem hd_X7_begins : yX7_begins.cls = RX7 ∧ yX7_begins.cls ≠ "java/lang/invoke/MethodHandle" ∧ yX7_begins.cls ≠ "java/lang/invoke/VarHandle" ∧ (parseMethodDescriptor yX7_begins.desc).map (fun d => d.parameters.length) = some 4 := by decide +kernel
def V_X7_begins  (p0 : Int32) (p1 : Int32) (p2 : Int32) (p3 : Int32) (S : SS) (post : Int64 → SS → Prop) (px : String → SS → Prop) : Prop :=
  (V_X7_areHeaps p0 p1 p2 p3 S (fun (r1 : Int32) (S2 : SS) => ((r1 = 0 → (px "java/lang/IllegalArgumentException" S2)) ∧ (¬ r1 = 0 → (V_X7_goPrime (0 : Int32) S2 (fun (r4 : Int64) (S5 : SS) => (V_X7_heapPrime (0 : Int32) S5 (fun (r6 : Int64) (S7 : SS) => (V_X7_timesPower r4 r6 p0 S7 (fun (r8 : Int64) (S9 : SS) => (V_X7_heapPrime (1 : Int32) S9 (fun (r10 : Int64) (S11 : SS) => (V_X7_timesPower r8 r10 p1 S11 (fun (r12 : Int64) (S13 : SS) => (V_X7_heapPrime (2 : Int32) S13 (fun (r14 : Int64) (S15 : SS) => (V_X7_timesPower r12 r14 p2 S15 (fun (r16 : Int64) (S17 : SS) => (V_X7_heapPrime (3 : Int32) S17 (fun (r18 : Int64) (S19 : SS) => (V_X7_timesPower r16 r18 p3 S19 (fun (r20 : Int64) (S21 : SS) => (V_X7_isNumber r20 S21 (fun (r22 : Int32) (S23 : SS) => ((r22 = 0 → (px "java/lang/ArithmeticException" S23)) ∧ (¬ r22 = 0 → (post r20 S23)))))))))))))))))))))))))))
set_option maxHeartbeats 4000000 in
set_option maxRecDepth 100000 in
theorem c_X7_begins (hlt : l.stackTraces = false)  {S : SS} {p0 : Int32} {p1 : Int32} {p2 : Int32} {p3 : Int32} {post : Int64 → SS → Prop} {px : String → SS → Prop} (hV : V_X7_begins  p0 p1 p2 p3 S post px) : XL l yX7_begins wsX7_begins rm_X7_begins [.ref (ad 0), .int p0, .int p1, .int p2, .int p3] D n0 ad cI cJ X S post px 1 6 := by
  refine vx_ofW (cc := cX7_begins) (maxL := 7) (ret := (some .long)) (by decide) rfl ?_
  intro p e s m args below meth c s₁ B hml ht hv
  obtain ⟨rfl, hv⟩ := hv
  have C0 := Bd.mk B hml (atoms_spec (ws := wsX7_begins) B.pre) (findClass_of_methodNamed B.named) hv.1
  have hw : Wh D n0 ad cI cJ X S s s.heap [] := ⟨hv.2.1, hv.2.2, va_S.rf⟩
  refine r_entry (Nat.le_of_ble_eq_true rfl) (fun ls hl => ?_)
  have hl : lv_has ls 7 [(0, .ref (ad 0)), (1, .int p0), (2, .int p1), (3, .int p2), (4, .int p3)] := hl
  unfold V_X7_begins at hV
  refine lv_iload_n C0.x C0.b dX7_begins_0 rfl (lv_at hl 1 rfl) ?_
  refine lv_iload_n C0.x C0.b dX7_begins_1 rfl (lv_at hl 2 rfl) ?_
  refine lv_iload_n C0.x C0.b dX7_begins_2 rfl (lv_at hl 3 rfl) ?_
  refine lv_iload C0.x C0.b dX7_begins_3 (lv_at hl 4 rfl) ?_
  refine r_cS_i (As := [.int p0, .int p1, .int p2, .int p3]) (rest := []) C0 hw (c_X7_areHeaps  hV) (va_cwS 4 C0.ts gX7_begins_X7_areHeaps rfl rfl rfl hd_X7_areHeaps ⟨Nat.le_of_ble_eq_true rfl, Nat.le_of_ble_eq_true rfl⟩) rfl hl.1 rfl (Nat.le_of_ble_eq_true rfl) ⟨Nat.le_of_ble_eq_true rfl, Nat.le_of_ble_eq_true rfl⟩ dX7_begins_5 (fun r1 S2 H locs hV hw => ?_)
  refine lv_if_ne (tgt := 22) C0.x C0.b dX7_begins_8 (by decide) (fun c3 => ?_) (fun c3 => ?_)
  · have hV := hV.2 c3
    refine lv_iconst (v := 0) C0.x C0.b dX7_begins_22 (by decide) ?_
    refine r_cS_l (As := [.int (0 : Int32)]) (rest := []) C0 hw (c_X7_goPrime  hV) (va_cwS 1 C0.ts gX7_begins_X7_goPrime rfl rfl rfl hd_X7_goPrime ⟨Nat.le_of_ble_eq_true rfl, Nat.le_of_ble_eq_true rfl⟩) rfl hl.1 rfl (Nat.le_of_ble_eq_true rfl) ⟨Nat.le_of_ble_eq_true rfl, Nat.le_of_ble_eq_true rfl⟩ dX7_begins_23 (fun r4 S5 H locs hV hw => ?_)
    refine lv_iconst (v := 0) C0.x C0.b dX7_begins_26 (by decide) ?_
    refine r_cS_l (As := [.int (0 : Int32)]) (rest := [.long r4]) C0 hw (c_X7_heapPrime  hV) (va_cwS 1 C0.ts gX7_begins_X7_heapPrime rfl rfl rfl hd_X7_heapPrime ⟨Nat.le_of_ble_eq_true rfl, Nat.le_of_ble_eq_true rfl⟩) rfl hl.1 rfl (Nat.le_of_ble_eq_true rfl) ⟨Nat.le_of_ble_eq_true rfl, Nat.le_of_ble_eq_true rfl⟩ dX7_begins_27 (fun r6 S7 H locs hV hw => ?_)
    refine lv_iload_n C0.x C0.b dX7_begins_30 rfl (lv_at hl 1 rfl) ?_
    refine r_cS_l (As := [.long r4, .long r6, .int p0]) (rest := []) C0 hw (c_X7_timesPower  hV) (va_cwS 3 C0.ts gX7_begins_X7_timesPower rfl rfl rfl hd_X7_timesPower ⟨Nat.le_of_ble_eq_true rfl, Nat.le_of_ble_eq_true rfl⟩) rfl hl.1 rfl (Nat.le_of_ble_eq_true rfl) ⟨Nat.le_of_ble_eq_true rfl, Nat.le_of_ble_eq_true rfl⟩ dX7_begins_31 (fun r8 S9 H locs hV hw => ?_)
    refine lv_lstore (lv' := [(5, .long r8), (0, .ref (ad 0)), (1, .int p0), (2, .int p1), (3, .int p2), (4, .int p3)]) C0.x C0.b dX7_begins_34 hl (by decide) rfl (fun ls hl => ?_)
    refine lv_lload C0.x C0.b dX7_begins_36 (lv_at hl 0 rfl) ?_
    refine lv_iconst (v := 1) C0.x C0.b dX7_begins_38 (by decide) ?_
    refine r_cS_l (As := [.int (1 : Int32)]) (rest := [.long r8]) C0 hw (c_X7_heapPrime  hV) (va_cwS 1 C0.ts gX7_begins_X7_heapPrime rfl rfl rfl hd_X7_heapPrime ⟨Nat.le_of_ble_eq_true rfl, Nat.le_of_ble_eq_true rfl⟩) rfl hl.1 rfl (Nat.le_of_ble_eq_true rfl) ⟨Nat.le_of_ble_eq_true rfl, Nat.le_of_ble_eq_true rfl⟩ dX7_begins_39 (fun r10 S11 H locs hV hw => ?_)
    refine lv_iload_n C0.x C0.b dX7_begins_42 rfl (lv_at hl 3 rfl) ?_
    refine r_cS_l (As := [.long r8, .long r10, .int p1]) (rest := []) C0 hw (c_X7_timesPower  hV) (va_cwS 3 C0.ts gX7_begins_X7_timesPower rfl rfl rfl hd_X7_timesPower ⟨Nat.le_of_ble_eq_true rfl, Nat.le_of_ble_eq_true rfl⟩) rfl hl.1 rfl (Nat.le_of_ble_eq_true rfl) ⟨Nat.le_of_ble_eq_true rfl, Nat.le_of_ble_eq_true rfl⟩ dX7_begins_43 (fun r12 S13 H locs hV hw => ?_)
    refine lv_lstore (lv' := [(5, .long r12), (0, .ref (ad 0)), (1, .int p0), (2, .int p1), (3, .int p2), (4, .int p3)]) C0.x C0.b dX7_begins_46 hl (by decide) rfl (fun ls hl => ?_)
    refine lv_lload C0.x C0.b dX7_begins_48 (lv_at hl 0 rfl) ?_
    refine lv_iconst (v := 2) C0.x C0.b dX7_begins_50 (by decide) ?_
    refine r_cS_l (As := [.int (2 : Int32)]) (rest := [.long r12]) C0 hw (c_X7_heapPrime  hV) (va_cwS 1 C0.ts gX7_begins_X7_heapPrime rfl rfl rfl hd_X7_heapPrime ⟨Nat.le_of_ble_eq_true rfl, Nat.le_of_ble_eq_true rfl⟩) rfl hl.1 rfl (Nat.le_of_ble_eq_true rfl) ⟨Nat.le_of_ble_eq_true rfl, Nat.le_of_ble_eq_true rfl⟩ dX7_begins_51 (fun r14 S15 H locs hV hw => ?_)
    refine lv_iload_n C0.x C0.b dX7_begins_54 rfl (lv_at hl 4 rfl) ?_
    refine r_cS_l (As := [.long r12, .long r14, .int p2]) (rest := []) C0 hw (c_X7_timesPower  hV) (va_cwS 3 C0.ts gX7_begins_X7_timesPower rfl rfl rfl hd_X7_timesPower ⟨Nat.le_of_ble_eq_true rfl, Nat.le_of_ble_eq_true rfl⟩) rfl hl.1 rfl (Nat.le_of_ble_eq_true rfl) ⟨Nat.le_of_ble_eq_true rfl, Nat.le_of_ble_eq_true rfl⟩ dX7_begins_55 (fun r16 S17 H locs hV hw => ?_)
    refine lv_lstore (lv' := [(5, .long r16), (0, .ref (ad 0)), (1, .int p0), (2, .int p1), (3, .int p2), (4, .int p3)]) C0.x C0.b dX7_begins_58 hl (by decide) rfl (fun ls hl => ?_)
    refine lv_lload C0.x C0.b dX7_begins_60 (lv_at hl 0 rfl) ?_
    refine lv_iconst (v := 3) C0.x C0.b dX7_begins_62 (by decide) ?_
    refine r_cS_l (As := [.int (3 : Int32)]) (rest := [.long r16]) C0 hw (c_X7_heapPrime  hV) (va_cwS 1 C0.ts gX7_begins_X7_heapPrime rfl rfl rfl hd_X7_heapPrime ⟨Nat.le_of_ble_eq_true rfl, Nat.le_of_ble_eq_true rfl⟩) rfl hl.1 rfl (Nat.le_of_ble_eq_true rfl) ⟨Nat.le_of_ble_eq_true rfl, Nat.le_of_ble_eq_true rfl⟩ dX7_begins_63 (fun r18 S19 H locs hV hw => ?_)
    refine lv_iload C0.x C0.b dX7_begins_66 (lv_at hl 5 rfl) ?_
    refine r_cS_l (As := [.long r16, .long r18, .int p3]) (rest := []) C0 hw (c_X7_timesPower  hV) (va_cwS 3 C0.ts gX7_begins_X7_timesPower rfl rfl rfl hd_X7_timesPower ⟨Nat.le_of_ble_eq_true rfl, Nat.le_of_ble_eq_true rfl⟩) rfl hl.1 rfl (Nat.le_of_ble_eq_true rfl) ⟨Nat.le_of_ble_eq_true rfl, Nat.le_of_ble_eq_true rfl⟩ dX7_begins_68 (fun r20 S21 H locs hV hw => ?_)
    refine lv_lstore (lv' := [(5, .long r20), (0, .ref (ad 0)), (1, .int p0), (2, .int p1), (3, .int p2), (4, .int p3)]) C0.x C0.b dX7_begins_71 hl (by decide) rfl (fun ls hl => ?_)
    refine lv_lload C0.x C0.b dX7_begins_73 (lv_at hl 0 rfl) ?_
    refine r_cS_i (As := [.long r20]) (rest := []) C0 hw (c_X7_isNumber  hV) (va_cwS 1 C0.ts gX7_begins_X7_isNumber rfl rfl rfl hd_X7_isNumber ⟨Nat.le_of_ble_eq_true rfl, Nat.le_of_ble_eq_true rfl⟩) rfl hl.1 rfl (Nat.le_of_ble_eq_true rfl) ⟨Nat.le_of_ble_eq_true rfl, Nat.le_of_ble_eq_true rfl⟩ dX7_begins_75 (fun r22 S23 H locs hV hw => ?_)
    refine lv_if_ne (tgt := 91) C0.x C0.b dX7_begins_78 (by decide) (fun c24 => ?_) (fun c24 => ?_)
    · have hV := hV.2 c24
      refine lv_lload C0.x C0.b dX7_begins_91 (lv_at hl 0 rfl) ?_
      exact r_xret (Nat.le_of_ble_eq_true rfl) (Nat.le_of_ble_eq_true rfl) (r_lret C0 rfl hw hV dX7_begins_93)
    · have hV := hV.1 c24
      exact r_thr (cls := "java/lang/ArithmeticException") (text := "beyond the numbers") C0 hlt ht hw (by decide) (by decide +kernel) (C0.ts _ tk_X7_begins_192) (C0.ts _ ti_X7_begins_192) (by decide +kernel) th_X7_begins_196 hg_196 ho_196 hl.1 dX7_begins_81 dX7_begins_84 dX7_begins_85 dX7_begins_87 dX7_begins_90 (Nat.le_of_ble_eq_true rfl) (Nat.le_of_ble_eq_true rfl) (Nat.le_of_ble_eq_true rfl) (Nat.le_of_ble_eq_true rfl) (Nat.le_of_ble_eq_true rfl) (Nat.le_of_ble_eq_true rfl) hV
  · have hV := hV.1 c3
    exact r_thrW (cls := "java/lang/IllegalArgumentException") (text := "a heap is not 0 to 1000") C0 hlt ht hw (by decide) (by decide +kernel) (C0.ts _ tk_X7_begins_347) (C0.ts _ ti_X7_begins_347) (by decide +kernel) th_X7_begins_351 hg_351 ho_351 hl.1 dX7_begins_11 dX7_begins_14 dX7_begins_15 dX7_begins_18 dX7_begins_21 (Nat.le_of_ble_eq_true rfl) (Nat.le_of_ble_eq_true rfl) (Nat.le_of_ble_eq_true rfl) (Nat.le_of_ble_eq_true rfl) (Nat.le_of_ble_eq_true rfl) (Nat.le_of_ble_eq_true rfl) hV
/-! StepBench.weightOfPrime(JIIIII)J -/
abbrev rm_X7_weightOfPrime : Room := { frames := 2, cells := 0, slots := 0, locals := 40 }
set_option maxRecDepth 20000 in
theorem hd_X7_weightOfPrime : yX7_weightOfPrime.cls ≠ "java/lang/invoke/MethodHandle" ∧ yX7_weightOfPrime.cls ≠ "java/lang/invoke/VarHandle" ∧ (parseMethodDescriptor yX7_weightOfPrime.desc).map (fun d => d.parameters.length) = some 6 := by decide +kernel
def V_X7_weightOfPrime  (p0 : Int64) (p1 : Int32) (p2 : Int32) (p3 : Int32) (p4 : Int32) (p5 : Int32) (S : SS) (post : Int64 → SS → Prop) : Prop :=
  (V_X7_heapPrime (0 : Int32) S (fun (r1 : Int64) (S2 : SS) => ((p0 = r1 → (post p1.toInt64 S2)) ∧ (¬ p0 = r1 → (V_X7_heapPrime (1 : Int32) S2 (fun (r4 : Int64) (S5 : SS) => ((p0 = r4 → (post p2.toInt64 S5)) ∧ (¬ p0 = r4 → (V_X7_heapPrime (2 : Int32) S5 (fun (r7 : Int64) (S8 : SS) => ((p0 = r7 → (post p3.toInt64 S8)) ∧ (¬ p0 = r7 → (V_X7_heapPrime (3 : Int32) S8 (fun (r10 : Int64) (S11 : SS) => ((p0 = r10 → (post p4.toInt64 S11)) ∧ (¬ p0 = r10 → (post p5.toInt64 S11)))))))))))))))))
set_option maxHeartbeats 4000000 in
set_option maxRecDepth 100000 in
theorem c_X7_weightOfPrime  {S : SS} {p0 : Int64} {p1 : Int32} {p2 : Int32} {p3 : Int32} {p4 : Int32} {p5 : Int32} {post : Int64 → SS → Prop} (hV : V_X7_weightOfPrime  p0 p1 p2 p3 p4 p5 S post) : ML l yX7_weightOfPrime wsX7_weightOfPrime rm_X7_weightOfPrime [.long p0, .int p1, .int p2, .int p3, .int p4, .int p5] D n0 ad cI cJ X S post := by
  refine Met.ofW (cc := cX7_weightOfPrime) (maxL := 7) (ret := (some .long)) (by decide) rfl ?_
  intro p e s m args below meth c s₁ B hml hv
  obtain ⟨rfl, hv⟩ := hv
  have C0 := Bd.mk B hml (atoms_spec (ws := wsX7_weightOfPrime) B.pre) (findClass_of_methodNamed B.named) hv.1
  have hw : Wh D n0 ad cI cJ X S s s.heap [] := ⟨hv.2.1, hv.2.2, va_S.rf⟩
  refine r_entry (Nat.le_of_ble_eq_true rfl) (fun ls hl => ?_)
  have hl : lv_has ls 7 [(0, .long p0), (2, .int p1), (3, .int p2), (4, .int p3), (5, .int p4), (6, .int p5)] := hl
  unfold V_X7_weightOfPrime at hV
  refine lv_lload_n C0.x C0.b dX7_weightOfPrime_0 rfl (lv_at hl 0 rfl) ?_
  refine lv_iconst (v := 0) C0.x C0.b dX7_weightOfPrime_1 (by decide) ?_
  refine r_cS_l (As := [.int (0 : Int32)]) (rest := [.long p0]) C0 hw (c_X7_heapPrime  hV) (va_cwS 1 C0.ts gX7_weightOfPrime_X7_heapPrime rfl rfl rfl hd_X7_heapPrime ⟨Nat.le_of_ble_eq_true rfl, Nat.le_of_ble_eq_true rfl⟩) rfl hl.1 rfl (Nat.le_of_ble_eq_true rfl) ⟨Nat.le_of_ble_eq_true rfl, Nat.le_of_ble_eq_true rfl⟩ dX7_weightOfPrime_2 (fun r1 S2 H locs hV hw => ?_)
  refine r_lcmp C0 dX7_weightOfPrime_5 ?_
  refine lv_if_ne (tgt := 12) C0.x C0.b dX7_weightOfPrime_6 (by decide) (fun c3 => ?_) (fun c3 => ?_)
  · have hV := hV.2 (fun h => c3 ((lc_eq _ _).mpr h))
    refine lv_lload_n C0.x C0.b dX7_weightOfPrime_12 rfl (lv_at hl 0 rfl) ?_
    refine lv_iconst (v := 1) C0.x C0.b dX7_weightOfPrime_13 (by decide) ?_
    refine r_cS_l (As := [.int (1 : Int32)]) (rest := [.long p0]) C0 hw (c_X7_heapPrime  hV) (va_cwS 1 C0.ts gX7_weightOfPrime_X7_heapPrime rfl rfl rfl hd_X7_heapPrime ⟨Nat.le_of_ble_eq_true rfl, Nat.le_of_ble_eq_true rfl⟩) rfl hl.1 rfl (Nat.le_of_ble_eq_true rfl) ⟨Nat.le_of_ble_eq_true rfl, Nat.le_of_ble_eq_true rfl⟩ dX7_weightOfPrime_14 (fun r4 S5 H locs hV hw => ?_)
    refine r_lcmp C0 dX7_weightOfPrime_17 ?_
    refine lv_if_ne (tgt := 24) C0.x C0.b dX7_weightOfPrime_18 (by decide) (fun c6 => ?_) (fun c6 => ?_)
    · have hV := hV.2 (fun h => c6 ((lc_eq _ _).mpr h))
      refine lv_lload_n C0.x C0.b dX7_weightOfPrime_24 rfl (lv_at hl 0 rfl) ?_
      refine lv_iconst (v := 2) C0.x C0.b dX7_weightOfPrime_25 (by decide) ?_
      refine r_cS_l (As := [.int (2 : Int32)]) (rest := [.long p0]) C0 hw (c_X7_heapPrime  hV) (va_cwS 1 C0.ts gX7_weightOfPrime_X7_heapPrime rfl rfl rfl hd_X7_heapPrime ⟨Nat.le_of_ble_eq_true rfl, Nat.le_of_ble_eq_true rfl⟩) rfl hl.1 rfl (Nat.le_of_ble_eq_true rfl) ⟨Nat.le_of_ble_eq_true rfl, Nat.le_of_ble_eq_true rfl⟩ dX7_weightOfPrime_26 (fun r7 S8 H locs hV hw => ?_)
      refine r_lcmp C0 dX7_weightOfPrime_29 ?_
      refine lv_if_ne (tgt := 37) C0.x C0.b dX7_weightOfPrime_30 (by decide) (fun c9 => ?_) (fun c9 => ?_)
      · have hV := hV.2 (fun h => c9 ((lc_eq _ _).mpr h))
        refine lv_lload_n C0.x C0.b dX7_weightOfPrime_37 rfl (lv_at hl 0 rfl) ?_
        refine lv_iconst (v := 3) C0.x C0.b dX7_weightOfPrime_38 (by decide) ?_
        refine r_cS_l (As := [.int (3 : Int32)]) (rest := [.long p0]) C0 hw (c_X7_heapPrime  hV) (va_cwS 1 C0.ts gX7_weightOfPrime_X7_heapPrime rfl rfl rfl hd_X7_heapPrime ⟨Nat.le_of_ble_eq_true rfl, Nat.le_of_ble_eq_true rfl⟩) rfl hl.1 rfl (Nat.le_of_ble_eq_true rfl) ⟨Nat.le_of_ble_eq_true rfl, Nat.le_of_ble_eq_true rfl⟩ dX7_weightOfPrime_39 (fun r10 S11 H locs hV hw => ?_)
        refine r_lcmp C0 dX7_weightOfPrime_42 ?_
        refine lv_if_ne (tgt := 52) C0.x C0.b dX7_weightOfPrime_43 (by decide) (fun c12 => ?_) (fun c12 => ?_)
        · have hV := hV.2 (fun h => c12 ((lc_eq _ _).mpr h))
          refine lv_iload C0.x C0.b dX7_weightOfPrime_52 (lv_at hl 5 rfl) ?_
          refine lv_i2l C0.x C0.b dX7_weightOfPrime_54 rfl ?_
          exact r_lret C0 rfl hw hV dX7_weightOfPrime_55
        · have hV := hV.1 ((lc_eq _ _).mp c12)
          refine lv_iload C0.x C0.b dX7_weightOfPrime_46 (lv_at hl 4 rfl) ?_
          refine lv_i2l C0.x C0.b dX7_weightOfPrime_48 rfl ?_
          refine lv_goto (tgt := 55) C0.x C0.b dX7_weightOfPrime_49 (by decide) ?_
          exact r_lret C0 rfl hw hV dX7_weightOfPrime_55
      · have hV := hV.1 ((lc_eq _ _).mp c9)
        refine lv_iload C0.x C0.b dX7_weightOfPrime_33 (lv_at hl 3 rfl) ?_
        refine lv_i2l C0.x C0.b dX7_weightOfPrime_35 rfl ?_
        exact r_lret C0 rfl hw hV dX7_weightOfPrime_36
    · have hV := hV.1 ((lc_eq _ _).mp c6)
      refine lv_iload_n C0.x C0.b dX7_weightOfPrime_21 rfl (lv_at hl 2 rfl) ?_
      refine lv_i2l C0.x C0.b dX7_weightOfPrime_22 rfl ?_
      exact r_lret C0 rfl hw hV dX7_weightOfPrime_23
  · have hV := hV.1 ((lc_eq _ _).mp c3)
    refine lv_iload_n C0.x C0.b dX7_weightOfPrime_9 rfl (lv_at hl 1 rfl) ?_
    refine lv_i2l C0.x C0.b dX7_weightOfPrime_10 rfl ?_
    exact r_lret C0 rfl hw hV dX7_weightOfPrime_11
end
