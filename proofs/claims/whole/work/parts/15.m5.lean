section
variable {p : Program} {l : Launch} {e : Env} {s : State} {m : MethodId} {args : Array Value} {below : List Frame} {meth : Method} {c : Code}
variable {D : va_G} {n0 : Nat} {ad : Nat → Nat} {cI cJ : ClassId} {X : va_W}
/-! StepBenchModel.isShare(JJJ)Z -/
abbrev rm_X8_isShare : Room := { frames := 1, cells := 0, slots := 0, locals := 25 }
set_option maxRecDepth 20000 in
theorem cw_X8_isShare_94 : Cond.constantLong RX8 94 (-1000) ∈ wsX8_isShare := by decide +kernel
set_option maxRecDepth 20000 in
theorem cw_X8_isShare_96 : Cond.constantLong RX8 96 1000 ∈ wsX8_isShare := by decide +kernel
set_option maxRecDepth 20000 in
theorem hd_X8_isShare : yX8_isShare.cls ≠ "java/lang/invoke/MethodHandle" ∧ yX8_isShare.cls ≠ "java/lang/invoke/VarHandle" ∧ (parseMethodDescriptor yX8_isShare.desc).map (fun d => d.parameters.length) = some 3 := by decide +kernel
def V_X8_isShare  (p0 : Int64) (p1 : Int64) (p2 : Int64) (S : SS) (post : Int32 → SS → Prop) : Prop :=
  (V_X8_in p0 (-1000 : Int64) (1000 : Int64) S (fun (r1 : Int32) (S2 : SS) => ((r1 = 0 → (post (0 : Int32) S2)) ∧ (¬ r1 = 0 → (V_X8_in p1 (-1000 : Int64) (1000 : Int64) S2 (fun (r4 : Int32) (S5 : SS) => ((r4 = 0 → (post (0 : Int32) S5)) ∧ (¬ r4 = 0 → (V_X8_in p2 (1 : Int64) (1000 : Int64) S5 (fun (r7 : Int32) (S8 : SS) => ((r7 = 0 → (post (0 : Int32) S8)) ∧ (¬ r7 = 0 → (post (1 : Int32) S8)))))))))))))
set_option maxHeartbeats 4000000 in
set_option maxRecDepth 100000 in
theorem c_X8_isShare  {S : SS} {p0 : Int64} {p1 : Int64} {p2 : Int64} {post : Int32 → SS → Prop} (hV : V_X8_isShare  p0 p1 p2 S post) : MI l yX8_isShare wsX8_isShare rm_X8_isShare [.long p0, .long p1, .long p2] D n0 ad cI cJ X S post := by
  refine Met.ofW (cc := cX8_isShare) (maxL := 6) (ret := (some .boolean)) (by decide) rfl ?_
  intro p e s m args below meth c s₁ B hml hv
  obtain ⟨rfl, hv⟩ := hv
  have C0 := Bd.mk B hml (atoms_spec (ws := wsX8_isShare) B.pre) (findClass_of_methodNamed B.named) hv.1
  have hw : Wh D n0 ad cI cJ X S s s.heap [] := ⟨hv.2.1, hv.2.2, va_S.rf⟩
  refine r_entry (Nat.le_of_ble_eq_true rfl) (fun ls hl => ?_)
  have hl : lv_has ls 6 [(0, .long p0), (2, .long p1), (4, .long p2)] := hl
  unfold V_X8_isShare at hV
  refine lv_lload_n C0.x C0.b dX8_isShare_0 rfl (lv_at hl 0 rfl) ?_
  refine lv_ldc2 (v := -1000) C0.x C0.b C0.ow (C0.ts _ cw_X8_isShare_94) dX8_isShare_1 ?_
  refine lv_ldc2 (v := 1000) C0.x C0.b C0.ow (C0.ts _ cw_X8_isShare_96) dX8_isShare_4 ?_
  refine r_cS_i (As := [.long p0, .long (-1000 : Int64), .long (1000 : Int64)]) (rest := []) C0 hw (c_X8_in  hV) (va_cwS 3 C0.ts gX8_isShare_X8_in rfl rfl rfl hd_X8_in ⟨Nat.le_of_ble_eq_true rfl, Nat.le_of_ble_eq_true rfl⟩) rfl hl.1 rfl (Nat.le_of_ble_eq_true rfl) ⟨Nat.zero_le _, Nat.zero_le _⟩ dX8_isShare_7 (fun r1 S2 H locs hV hw => ?_)
  refine lv_if_eq (tgt := 42) C0.x C0.b dX8_isShare_10 (by decide) (fun c3 => ?_) (fun c3 => ?_)
  · have hV := hV.1 c3
    refine lv_iconst (v := 0) C0.x C0.b dX8_isShare_42 (by decide) ?_
    exact r_zret C0 rfl bz_0 hw hV dX8_isShare_43
  · have hV := hV.2 c3
    refine lv_lload_n C0.x C0.b dX8_isShare_13 rfl (lv_at hl 1 rfl) ?_
    refine lv_ldc2 (v := -1000) C0.x C0.b C0.ow (C0.ts _ cw_X8_isShare_94) dX8_isShare_14 ?_
    refine lv_ldc2 (v := 1000) C0.x C0.b C0.ow (C0.ts _ cw_X8_isShare_96) dX8_isShare_17 ?_
    refine r_cS_i (As := [.long p1, .long (-1000 : Int64), .long (1000 : Int64)]) (rest := []) C0 hw (c_X8_in  hV) (va_cwS 3 C0.ts gX8_isShare_X8_in rfl rfl rfl hd_X8_in ⟨Nat.le_of_ble_eq_true rfl, Nat.le_of_ble_eq_true rfl⟩) rfl hl.1 rfl (Nat.le_of_ble_eq_true rfl) ⟨Nat.zero_le _, Nat.zero_le _⟩ dX8_isShare_20 (fun r4 S5 H locs hV hw => ?_)
    refine lv_if_eq (tgt := 42) C0.x C0.b dX8_isShare_23 (by decide) (fun c6 => ?_) (fun c6 => ?_)
    · have hV := hV.1 c6
      refine lv_iconst (v := 0) C0.x C0.b dX8_isShare_42 (by decide) ?_
      exact r_zret C0 rfl bz_0 hw hV dX8_isShare_43
    · have hV := hV.2 c6
      refine lv_lload C0.x C0.b dX8_isShare_26 (lv_at hl 2 rfl) ?_
      refine lv_lconst (v := 1) C0.x C0.b dX8_isShare_28 (by decide) ?_
      refine lv_ldc2 (v := 1000) C0.x C0.b C0.ow (C0.ts _ cw_X8_isShare_96) dX8_isShare_29 ?_
      refine r_cS_i (As := [.long p2, .long (1 : Int64), .long (1000 : Int64)]) (rest := []) C0 hw (c_X8_in  hV) (va_cwS 3 C0.ts gX8_isShare_X8_in rfl rfl rfl hd_X8_in ⟨Nat.le_of_ble_eq_true rfl, Nat.le_of_ble_eq_true rfl⟩) rfl hl.1 rfl (Nat.le_of_ble_eq_true rfl) ⟨Nat.zero_le _, Nat.zero_le _⟩ dX8_isShare_32 (fun r7 S8 H locs hV hw => ?_)
      refine lv_if_eq (tgt := 42) C0.x C0.b dX8_isShare_35 (by decide) (fun c9 => ?_) (fun c9 => ?_)
      · have hV := hV.1 c9
        refine lv_iconst (v := 0) C0.x C0.b dX8_isShare_42 (by decide) ?_
        exact r_zret C0 rfl bz_0 hw hV dX8_isShare_43
      · have hV := hV.2 c9
        refine lv_iconst (v := 1) C0.x C0.b dX8_isShare_38 (by decide) ?_
        refine lv_goto (tgt := 43) C0.x C0.b dX8_isShare_39 (by decide) ?_
        exact r_zret C0 rfl bz_1 hw hV dX8_isShare_43
/-! StepBenchModel.seal()I -/
abbrev rm_X8_seal : Room := { frames := 2, cells := 0, slots := 0, locals := 50 }
set_option maxRecDepth 20000 in
theorem fw_X8_seal_61 : Cond.fieldLink RX8 61 "StepBenchModel" "thrown" "I" ∈ wsX8_seal := by decide +kernel
set_option maxRecDepth 20000 in
theorem iw_X8_seal_X8 : ∀ w ∈ wsX80, w ∈ wsX8_seal := by decide +kernel
set_option maxRecDepth 20000 in
theorem fw_X8_seal_76 : Cond.fieldLink RX8 76 "StepBenchModel" "hasDraft" "Z" ∈ wsX8_seal := by decide +kernel
set_option maxRecDepth 20000 in
theorem fw_X8_seal_80 : Cond.fieldLink RX8 80 "StepBenchModel" "draftM" "I" ∈ wsX8_seal := by decide +kernel
set_option maxRecDepth 20000 in
theorem fw_X8_seal_105 : Cond.fieldLink RX8 105 "StepBenchModel" "m" "I" ∈ wsX8_seal := by decide +kernel
set_option maxRecDepth 20000 in
theorem fw_X8_seal_108 : Cond.fieldLink RX8 108 "StepBenchModel" "sort" "I" ∈ wsX8_seal := by decide +kernel
set_option maxRecDepth 20000 in
theorem fw_X8_seal_20 : Cond.fieldLink RX8 20 "StepBenchModel" "rule" "[J" ∈ wsX8_seal := by decide +kernel
set_option maxRecDepth 20000 in
theorem fw_X8_seal_17 : Cond.fieldLink RX8 17 "StepBenchModel" "draft" "[J" ∈ wsX8_seal := by decide +kernel
set_option maxRecDepth 20000 in
theorem hd_X8_seal : yX8_seal.cls = RX8 ∧ yX8_seal.cls ≠ "java/lang/invoke/MethodHandle" ∧ yX8_seal.cls ≠ "java/lang/invoke/VarHandle" ∧ (parseMethodDescriptor yX8_seal.desc).map (fun d => d.parameters.length) = some 0 := by decide +kernel
def V_X8_seal_115    (post : Int32 → SS → Prop) : Nat → Int32 → SS → Prop
  | 0, _, _ => False
  | n + 1, v1, S =>
    ((((3 : Int32) * (gI S 24)) ≤ v1 → (∀ S7 : SS, S7 = (sI S 26 (gI S 24)) → (∀ S8 : SS, S8 = (sI S7 25 (1 : Int32)) → (∀ S9 : SS, S9 = (sI S8 23 (0 : Int32)) → (post (0 : Int32) S9))))) ∧ (¬ ((3 : Int32) * (gI S 24)) ≤ v1 → (vp_in v1 192 ∧ (vp_in v1 192 ∧ ∀ S10 : SS, S10 = (sA S 32 (vp_updL (gA S 32) v1.toNatClampNeg (gA S 31 v1.toNatClampNeg))) → (∀ x11 : Int32, x11 = v1 + 1 → (V_X8_seal_115    post n x11 S10))))))
set_option maxHeartbeats 4000000 in
set_option maxRecDepth 100000 in
theorem lp_X8_seal_115    (post : Int32 → SS → Prop) (C0 : Bd p s m meth c args cX8_seal 8 (some .int) wsX8_seal RX8 D n0 cI cJ) : ∀ (n : Nat) (v1 : Int32) (S : SS), V_X8_seal_115    post n v1 S → ∀ (H : Heap) (locs : List Loc), Wh D n0 ad cI cJ X S s H locs → ∀ ls : Array Slot, lv_has ls 8 [(0, .ref (ad 48)), (1, .int v1)] → W p l e rm_X8_seal s m args below meth c H locs 0 0 (MQ below (va_Qi post (fun S' t => Wd D n0 ad cI cJ X S' t) (fr n0)) args s 0 0 (fr n0)) (F0 m 115 ls []) := by
  intro n
  induction n with
  | zero => intro v1 S hV; exact False.elim hV
  | succ n ih =>
    intro v1 S hV H locs hw ls hl
    rw [V_X8_seal_115] at hV
    refine lv_iload_n C0.x C0.b dX8_seal_115 rfl (lv_at hl 1 rfl) ?_
    refine lv_iconst (v := 3) C0.x C0.b dX8_seal_116 (by decide) ?_
    refine lv_aload_n C0.x C0.b dX8_seal_117 rfl (lv_at hl 0 rfl) ?_
    refine r_get C0 hw (C := RX8) (T := TX8) (N := 33) (v := .int (gI S 24)) iw_X8_seal_X8 (lg_48 ad cI cJ X S) rfl 5 (by decide) (C0.ts _ fw_X8_seal_80) rfl dX8_seal_118 ?_
    refine lv_imul C0.x C0.b dX8_seal_121 ?_
    refine lv_icmp_ge (tgt := 143) C0.x C0.b dX8_seal_122 (by decide) (fun c6 => ?_) (fun c6 => ?_)
    · have hV := hV.1 c6
      refine lv_aload_n C0.x C0.b dX8_seal_143 rfl (lv_at hl 0 rfl) ?_
      refine lv_aload_n C0.x C0.b dX8_seal_144 rfl (lv_at hl 0 rfl) ?_
      refine r_get C0 hw (C := RX8) (T := TX8) (N := 33) (v := .int (gI S 24)) iw_X8_seal_X8 (lg_48 ad cI cJ X S) rfl 5 (by decide) (C0.ts _ fw_X8_seal_80) rfl dX8_seal_145 ?_
      refine r_put C0 hw (C := RX8) (T := TX8) (N := 33) (ty := .int) iw_X8_seal_X8 tyX8 tyX8_ok nmX8 (lg_48 ad cI cJ X S) rfl 8 (by decide) (C0.ts _ fw_X8_seal_105) rfl (by decide +kernel) rfl rfl (Nat.le_of_ble_eq_true rfl) dX8_seal_148 (S' := (sI S 26 (gI S 24))) (ls_48_8 ad cI cJ X S (gI S 24)) (fun S7 H locs eS7 hw => ?_)
      have hV := hV S7 eS7
      refine lv_aload_n C0.x C0.b dX8_seal_151 rfl (lv_at hl 0 rfl) ?_
      refine lv_iconst (v := 1) C0.x C0.b dX8_seal_152 (by decide) ?_
      refine r_put C0 hw (C := RX8) (T := TX8) (N := 33) (ty := .int) iw_X8_seal_X8 tyX8 tyX8_ok nmX8 (lg_48 ad cI cJ X S7) rfl 7 (by decide) (C0.ts _ fw_X8_seal_108) rfl (by decide +kernel) rfl rfl (Nat.le_of_ble_eq_true rfl) dX8_seal_153 (S' := (sI S7 25 (1 : Int32))) (ls_48_7 ad cI cJ X S7 (1 : Int32)) (fun S8 H locs eS8 hw => ?_)
      have hV := hV S8 eS8
      refine lv_aload_n C0.x C0.b dX8_seal_156 rfl (lv_at hl 0 rfl) ?_
      refine lv_iconst (v := 0) C0.x C0.b dX8_seal_157 (by decide) ?_
      refine r_put C0 hw (C := RX8) (T := TX8) (N := 33) (ty := .boolean) iw_X8_seal_X8 tyX8 tyX8_ok nmX8 (lg_48 ad cI cJ X S8) rfl 4 (by decide) (C0.ts _ fw_X8_seal_76) rfl (by decide +kernel) rfl rfl (Nat.le_of_ble_eq_true rfl) dX8_seal_158 (S' := (sI S8 23 (0 : Int32))) (ls_48_4 ad cI cJ X S8 (0 : Int32)) (fun S9 H locs eS9 hw => ?_)
      have hV := hV S9 eS9
      refine lv_iconst (v := 0) C0.x C0.b dX8_seal_161 (by decide) ?_
      exact r_iret C0 rfl hw hV dX8_seal_162
    · have hV := hV.2 c6
      refine lv_aload_n C0.x C0.b dX8_seal_125 rfl (lv_at hl 0 rfl) ?_
      refine r_get C0 hw (C := RX8) (T := TX8) (N := 33) (v := .ref (ad 51)) iw_X8_seal_X8 (lg_48 ad cI cJ X S) rfl 9 (by decide) (C0.ts _ fw_X8_seal_20) rfl dX8_seal_126 ?_
      refine lv_iload_n C0.x C0.b dX8_seal_129 rfl (lv_at hl 1 rfl) ?_
      refine lv_aload_n C0.x C0.b dX8_seal_130 rfl (lv_at hl 0 rfl) ?_
      refine r_get C0 hw (C := RX8) (T := TX8) (N := 33) (v := .ref (ad 50)) iw_X8_seal_X8 (lg_48 ad cI cJ X S) rfl 6 (by decide) (C0.ts _ fw_X8_seal_17) rfl dX8_seal_131 ?_
      refine lv_iload_n C0.x C0.b dX8_seal_134 rfl (lv_at hl 1 rfl) ?_
      refine r_lald C0 hw (lg_50 ad cI cJ X S) hV.1 dX8_seal_135 ?_
      have hV := hV.2
      refine r_last C0 hw (lg_51 ad cI cJ X S) hV.1 dX8_seal_136 (S' := (sA S 32 (vp_updL (gA S 32) v1.toNatClampNeg (gA S 31 v1.toNatClampNeg)))) (ls_51 ad cI cJ X S (vp_updL (gA S 32) v1.toNatClampNeg (gA S 31 v1.toNatClampNeg))) (fun S10 H locs eS10 hw => ?_)
      have hV := hV.2 S10 eS10
      obtain ⟨x11, ex11⟩ : ∃ z : Int32, z = v1 + 1 := ⟨_, rfl⟩
      have hV := hV x11 ex11
      refine lv_iinc (v := x11) (lv' := [(1, .int x11), (0, .ref (ad 48))]) C0.x C0.b dX8_seal_137 hl (k := 1) rfl (by rw [ex11]; rfl) (by decide) rfl (fun ls hl => ?_)
      refine lv_goto (tgt := 115) C0.x C0.b dX8_seal_140 (by decide) ?_
      exact ih _ _ hV _ _ hw _ (lv_sub hl [1, 0] rfl)
def V_X8_seal_21    (post : Int32 → SS → Prop) : Nat → Int32 → SS → Prop
  | 0, _, _ => False
  | n + 1, v1, S =>
    (((gI S 24) ≤ v1 → (∃ n115 : Nat, V_X8_seal_115    post n115 (0 : Int32) S)) ∧ (¬ (gI S 24) ≤ v1 → (vp_in ((3 : Int32) * v1) 192 ∧ (vp_in (((3 : Int32) * v1) + (1 : Int32)) 192 ∧ (vp_in (((3 : Int32) * v1) + (2 : Int32)) 192 ∧ (V_X8_isShare (gA S 31 ((3 : Int32) * v1).toNatClampNeg) (gA S 31 (((3 : Int32) * v1) + (1 : Int32)).toNatClampNeg) (gA S 31 (((3 : Int32) * v1) + (2 : Int32)).toNatClampNeg) S (fun (r12 : Int32) (S13 : SS) => ((r12 = 0 → (post ((-1 : Int32) - v1) S13)) ∧ (¬ r12 = 0 → (¬ (gA S 31 (((3 : Int32) * v1) + (2 : Int32)).toNatClampNeg) = 0 ∧ (((lrm ((gA S 31 ((3 : Int32) * v1).toNatClampNeg) * (gI S13 24).toInt64) (gA S 31 (((3 : Int32) * v1) + (2 : Int32)).toNatClampNeg)) = (0 : Int64) → (¬ (gA S 31 (((3 : Int32) * v1) + (2 : Int32)).toNatClampNeg) = 0 ∧ (((lrm (((gA S 31 ((3 : Int32) * v1).toNatClampNeg) * v1.toInt64) + (gA S 31 (((3 : Int32) * v1) + (1 : Int32)).toNatClampNeg)) (gA S 31 (((3 : Int32) * v1) + (2 : Int32)).toNatClampNeg)) = (0 : Int64) → (∀ x17 : Int32, x17 = v1 + 1 → (V_X8_seal_21    post n x17 S13))) ∧ (¬ (lrm (((gA S 31 ((3 : Int32) * v1).toNatClampNeg) * v1.toInt64) + (gA S 31 (((3 : Int32) * v1) + (1 : Int32)).toNatClampNeg)) (gA S 31 (((3 : Int32) * v1) + (2 : Int32)).toNatClampNeg)) = (0 : Int64) → (post ((-1 : Int32) - v1) S13))))) ∧ (¬ (lrm ((gA S 31 ((3 : Int32) * v1).toNatClampNeg) * (gI S13 24).toInt64) (gA S 31 (((3 : Int32) * v1) + (2 : Int32)).toNatClampNeg)) = (0 : Int64) → (post ((-1 : Int32) - v1) S13)))))))))))))
set_option maxHeartbeats 4000000 in
set_option maxRecDepth 100000 in
theorem lp_X8_seal_21    (post : Int32 → SS → Prop) (C0 : Bd p s m meth c args cX8_seal 8 (some .int) wsX8_seal RX8 D n0 cI cJ) : ∀ (n : Nat) (v1 : Int32) (S : SS), V_X8_seal_21    post n v1 S → ∀ (H : Heap) (locs : List Loc), Wh D n0 ad cI cJ X S s H locs → ∀ ls : Array Slot, lv_has ls 8 [(0, .ref (ad 48)), (1, .int v1)] → W p l e rm_X8_seal s m args below meth c H locs 0 0 (MQ below (va_Qi post (fun S' t => Wd D n0 ad cI cJ X S' t) (fr n0)) args s 0 0 (fr n0)) (F0 m 21 ls []) := by
  intro n
  induction n with
  | zero => intro v1 S hV; exact False.elim hV
  | succ n ih =>
    intro v1 S hV H locs hw ls hl
    rw [V_X8_seal_21] at hV
    refine lv_iload_n C0.x C0.b dX8_seal_21 rfl (lv_at hl 1 rfl) ?_
    refine lv_aload_n C0.x C0.b dX8_seal_22 rfl (lv_at hl 0 rfl) ?_
    refine r_get C0 hw (C := RX8) (T := TX8) (N := 33) (v := .int (gI S 24)) iw_X8_seal_X8 (lg_48 ad cI cJ X S) rfl 5 (by decide) (C0.ts _ fw_X8_seal_80) rfl dX8_seal_23 ?_
    refine lv_icmp_ge (tgt := 113) C0.x C0.b dX8_seal_26 (by decide) (fun c5 => ?_) (fun c5 => ?_)
    · have hV := hV.1 c5
      refine lv_iconst (v := 0) C0.x C0.b dX8_seal_113 (by decide) ?_
      refine lv_istore_n (lv' := [(1, .int (0 : Int32)), (0, .ref (ad 48))]) C0.x C0.b dX8_seal_114 rfl hl (by decide) rfl (fun ls hl => ?_)
      obtain ⟨n115, hV⟩ := hV
      exact lp_X8_seal_115   post C0  n115 _ _ hV _ _ hw _ (lv_sub hl [1, 0] rfl)
    · have hV := hV.2 c5
      refine lv_aload_n C0.x C0.b dX8_seal_29 rfl (lv_at hl 0 rfl) ?_
      refine r_get C0 hw (C := RX8) (T := TX8) (N := 33) (v := .ref (ad 50)) iw_X8_seal_X8 (lg_48 ad cI cJ X S) rfl 6 (by decide) (C0.ts _ fw_X8_seal_17) rfl dX8_seal_30 ?_
      refine lv_iconst (v := 3) C0.x C0.b dX8_seal_33 (by decide) ?_
      refine lv_iload_n C0.x C0.b dX8_seal_34 rfl (lv_at hl 1 rfl) ?_
      refine lv_imul C0.x C0.b dX8_seal_35 ?_
      refine r_lald C0 hw (lg_50 ad cI cJ X S) hV.1 dX8_seal_36 ?_
      have hV := hV.2
      refine lv_lstore_n (lv' := [(2, .long (gA S 31 ((3 : Int32) * v1).toNatClampNeg)), (0, .ref (ad 48)), (1, .int v1)]) C0.x C0.b dX8_seal_37 rfl hl (by decide) rfl (fun ls hl => ?_)
      refine lv_aload_n C0.x C0.b dX8_seal_38 rfl (lv_at hl 1 rfl) ?_
      refine r_get C0 hw (C := RX8) (T := TX8) (N := 33) (v := .ref (ad 50)) iw_X8_seal_X8 (lg_48 ad cI cJ X S) rfl 6 (by decide) (C0.ts _ fw_X8_seal_17) rfl dX8_seal_39 ?_
      refine lv_iconst (v := 3) C0.x C0.b dX8_seal_42 (by decide) ?_
      refine lv_iload_n C0.x C0.b dX8_seal_43 rfl (lv_at hl 2 rfl) ?_
      refine lv_imul C0.x C0.b dX8_seal_44 ?_
      refine lv_iconst (v := 1) C0.x C0.b dX8_seal_45 (by decide) ?_
      refine lv_iadd C0.x C0.b dX8_seal_46 ?_
      refine r_lald C0 hw (lg_50 ad cI cJ X S) hV.1 dX8_seal_47 ?_
      have hV := hV.2
      refine lv_lstore (lv' := [(4, .long (gA S 31 (((3 : Int32) * v1) + (1 : Int32)).toNatClampNeg)), (2, .long (gA S 31 ((3 : Int32) * v1).toNatClampNeg)), (0, .ref (ad 48)), (1, .int v1)]) C0.x C0.b dX8_seal_48 hl (by decide) rfl (fun ls hl => ?_)
      refine lv_aload_n C0.x C0.b dX8_seal_50 rfl (lv_at hl 2 rfl) ?_
      refine r_get C0 hw (C := RX8) (T := TX8) (N := 33) (v := .ref (ad 50)) iw_X8_seal_X8 (lg_48 ad cI cJ X S) rfl 6 (by decide) (C0.ts _ fw_X8_seal_17) rfl dX8_seal_51 ?_
      refine lv_iconst (v := 3) C0.x C0.b dX8_seal_54 (by decide) ?_
      refine lv_iload_n C0.x C0.b dX8_seal_55 rfl (lv_at hl 3 rfl) ?_
      refine lv_imul C0.x C0.b dX8_seal_56 ?_
      refine lv_iconst (v := 2) C0.x C0.b dX8_seal_57 (by decide) ?_
      refine lv_iadd C0.x C0.b dX8_seal_58 ?_
      refine r_lald C0 hw (lg_50 ad cI cJ X S) hV.1 dX8_seal_59 ?_
      have hV := hV.2
      refine lv_lstore (lv' := [(6, .long (gA S 31 (((3 : Int32) * v1) + (2 : Int32)).toNatClampNeg)), (4, .long (gA S 31 (((3 : Int32) * v1) + (1 : Int32)).toNatClampNeg)), (2, .long (gA S 31 ((3 : Int32) * v1).toNatClampNeg)), (0, .ref (ad 48)), (1, .int v1)]) C0.x C0.b dX8_seal_60 hl (by decide) rfl (fun ls hl => ?_)
      refine lv_lload_n C0.x C0.b dX8_seal_62 rfl (lv_at hl 2 rfl) ?_
      refine lv_lload C0.x C0.b dX8_seal_63 (lv_at hl 1 rfl) ?_
      refine lv_lload C0.x C0.b dX8_seal_65 (lv_at hl 0 rfl) ?_
      refine r_cS_i (As := [.long (gA S 31 ((3 : Int32) * v1).toNatClampNeg), .long (gA S 31 (((3 : Int32) * v1) + (1 : Int32)).toNatClampNeg), .long (gA S 31 (((3 : Int32) * v1) + (2 : Int32)).toNatClampNeg)]) (rest := []) C0 hw (c_X8_isShare  hV) (va_cwS 3 C0.ts gX8_seal_X8_isShare rfl rfl rfl hd_X8_isShare ⟨Nat.le_of_ble_eq_true rfl, Nat.le_of_ble_eq_true rfl⟩) rfl hl.1 rfl (Nat.le_of_ble_eq_true rfl) ⟨Nat.zero_le _, Nat.zero_le _⟩ dX8_seal_67 (fun r12 S13 H locs hV hw => ?_)
      refine lv_if_eq (tgt := 103) C0.x C0.b dX8_seal_70 (by decide) (fun c14 => ?_) (fun c14 => ?_)
      · have hV := hV.1 c14
        refine lv_iconst (v := -1) C0.x C0.b dX8_seal_103 (by decide) ?_
        refine lv_iload_n C0.x C0.b dX8_seal_104 rfl (lv_at hl 4 rfl) ?_
        refine lv_isub C0.x C0.b dX8_seal_105 ?_
        exact r_iret C0 rfl hw hV dX8_seal_106
      · have hV := hV.2 c14
        refine lv_lload_n C0.x C0.b dX8_seal_73 rfl (lv_at hl 2 rfl) ?_
        refine lv_aload_n C0.x C0.b dX8_seal_74 rfl (lv_at hl 3 rfl) ?_
        refine r_get C0 hw (C := RX8) (T := TX8) (N := 33) (v := .int (gI S13 24)) iw_X8_seal_X8 (lg_48 ad cI cJ X S13) rfl 5 (by decide) (C0.ts _ fw_X8_seal_80) rfl dX8_seal_75 ?_
        refine lv_i2l C0.x C0.b dX8_seal_78 rfl ?_
        refine lv_lmul C0.x C0.b dX8_seal_79 ?_
        refine lv_lload C0.x C0.b dX8_seal_80 (lv_at hl 0 rfl) ?_
        refine lv_lrem C0.x C0.b dX8_seal_82 hV.1 ?_
        have hV := hV.2
        refine lv_lconst (v := 0) C0.x C0.b dX8_seal_83 (by decide) ?_
        refine r_lcmp C0 dX8_seal_84 ?_
        refine lv_if_ne (tgt := 103) C0.x C0.b dX8_seal_85 (by decide) (fun c15 => ?_) (fun c15 => ?_)
        · have hV := hV.2 (fun h => c15 ((lc_eq _ _).mpr h))
          refine lv_iconst (v := -1) C0.x C0.b dX8_seal_103 (by decide) ?_
          refine lv_iload_n C0.x C0.b dX8_seal_104 rfl (lv_at hl 4 rfl) ?_
          refine lv_isub C0.x C0.b dX8_seal_105 ?_
          exact r_iret C0 rfl hw hV dX8_seal_106
        · have hV := hV.1 ((lc_eq _ _).mp c15)
          refine lv_lload_n C0.x C0.b dX8_seal_88 rfl (lv_at hl 2 rfl) ?_
          refine lv_iload_n C0.x C0.b dX8_seal_89 rfl (lv_at hl 4 rfl) ?_
          refine lv_i2l C0.x C0.b dX8_seal_90 rfl ?_
          refine lv_lmul C0.x C0.b dX8_seal_91 ?_
          refine lv_lload C0.x C0.b dX8_seal_92 (lv_at hl 1 rfl) ?_
          refine lv_ladd C0.x C0.b dX8_seal_94 ?_
          refine lv_lload C0.x C0.b dX8_seal_95 (lv_at hl 0 rfl) ?_
          refine lv_lrem C0.x C0.b dX8_seal_97 hV.1 ?_
          have hV := hV.2
          refine lv_lconst (v := 0) C0.x C0.b dX8_seal_98 (by decide) ?_
          refine r_lcmp C0 dX8_seal_99 ?_
          refine lv_if_eq (tgt := 107) C0.x C0.b dX8_seal_100 (by decide) (fun c16 => ?_) (fun c16 => ?_)
          · have hV := hV.1 ((lc_eq _ _).mp c16)
            obtain ⟨x17, ex17⟩ : ∃ z : Int32, z = v1 + 1 := ⟨_, rfl⟩
            have hV := hV x17 ex17
            refine lv_iinc (v := x17) (lv' := [(1, .int x17), (6, .long (gA S 31 (((3 : Int32) * v1) + (2 : Int32)).toNatClampNeg)), (4, .long (gA S 31 (((3 : Int32) * v1) + (1 : Int32)).toNatClampNeg)), (2, .long (gA S 31 ((3 : Int32) * v1).toNatClampNeg)), (0, .ref (ad 48))]) C0.x C0.b dX8_seal_107 hl (k := 4) rfl (by rw [ex17]; rfl) (by decide) rfl (fun ls hl => ?_)
            refine lv_goto (tgt := 21) C0.x C0.b dX8_seal_110 (by decide) ?_
            exact ih _ _ hV _ _ hw _ (lv_sub hl [4, 0] rfl)
          · have hV := hV.2 (fun h => c16 ((lc_eq _ _).mpr h))
            refine lv_iconst (v := -1) C0.x C0.b dX8_seal_103 (by decide) ?_
            refine lv_iload_n C0.x C0.b dX8_seal_104 rfl (lv_at hl 4 rfl) ?_
            refine lv_isub C0.x C0.b dX8_seal_105 ?_
            exact r_iret C0 rfl hw hV dX8_seal_106
def V_X8_seal   (S : SS) (post : Int32 → SS → Prop) : Prop :=
  (∀ S1 : SS, S1 = (sI S 20 (0 : Int32)) → (((gI S1 23) = 0 → (V_X8_refuse (1 : Int32) S1 (fun (r3 : Int64) (S4 : SS) => (post r3.toInt32 S4)))) ∧ (¬ (gI S1 23) = 0 → (∃ n21 : Nat, V_X8_seal_21    post n21 (0 : Int32) S1))))
set_option maxHeartbeats 4000000 in
set_option maxRecDepth 100000 in
theorem c_X8_seal  {S : SS}  {post : Int32 → SS → Prop} (hV : V_X8_seal   S post) : MI l yX8_seal wsX8_seal rm_X8_seal [.ref (ad 48)] D n0 ad cI cJ X S post := by
  refine Met.ofW (cc := cX8_seal) (maxL := 8) (ret := (some .int)) (by decide) rfl ?_
  intro p e s m args below meth c s₁ B hml hv
  obtain ⟨rfl, hv⟩ := hv
  have C0 := Bd.mk B hml (atoms_spec (ws := wsX8_seal) B.pre) (findClass_of_methodNamed B.named) hv.1
  have hw : Wh D n0 ad cI cJ X S s s.heap [] := ⟨hv.2.1, hv.2.2, va_S.rf⟩
  refine r_entry (Nat.le_of_ble_eq_true rfl) (fun ls hl => ?_)
  have hl : lv_has ls 8 [(0, .ref (ad 48))] := hl
  unfold V_X8_seal at hV
  refine lv_aload_n C0.x C0.b dX8_seal_0 rfl (lv_at hl 0 rfl) ?_
  refine lv_iconst (v := 0) C0.x C0.b dX8_seal_1 (by decide) ?_
  refine r_put C0 hw (C := RX8) (T := TX8) (N := 33) (ty := .int) iw_X8_seal_X8 tyX8 tyX8_ok nmX8 (lg_48 ad cI cJ X S) rfl 0 (by decide) (C0.ts _ fw_X8_seal_61) rfl (by decide +kernel) rfl rfl (Nat.le_of_ble_eq_true rfl) dX8_seal_2 (S' := (sI S 20 (0 : Int32))) (ls_48_0 ad cI cJ X S (0 : Int32)) (fun S1 H locs eS1 hw => ?_)
  have hV := hV S1 eS1
  refine lv_aload_n C0.x C0.b dX8_seal_5 rfl (lv_at hl 0 rfl) ?_
  refine r_get C0 hw (C := RX8) (T := TX8) (N := 33) (v := .int (gI S1 23)) iw_X8_seal_X8 (lg_48 ad cI cJ X S1) rfl 4 (by decide) (C0.ts _ fw_X8_seal_76) rfl dX8_seal_6 ?_
  refine lv_if_ne (tgt := 19) C0.x C0.b dX8_seal_9 (by decide) (fun c2 => ?_) (fun c2 => ?_)
  · have hV := hV.2 c2
    refine lv_iconst (v := 0) C0.x C0.b dX8_seal_19 (by decide) ?_
    refine lv_istore_n (lv' := [(1, .int (0 : Int32)), (0, .ref (ad 48))]) C0.x C0.b dX8_seal_20 rfl hl (by decide) rfl (fun ls hl => ?_)
    obtain ⟨n21, hV⟩ := hV
    exact lp_X8_seal_21   post C0  n21 _ _ hV _ _ hw _ (lv_sub hl [1, 0] rfl)
  · have hV := hV.1 c2
    refine lv_aload_n C0.x C0.b dX8_seal_12 rfl (lv_at hl 0 rfl) ?_
    refine lv_iconst (v := 1) C0.x C0.b dX8_seal_13 (by decide) ?_
    refine r_cV_l (As := [.int (1 : Int32)]) (rest := []) C0 hw (c_X8_refuse  hV) (cwV 1 C0.ts gX8_seal_X8_refuse rfl rfl rfl hd_X8_refuse ⟨Nat.le_of_ble_eq_true rfl, Nat.le_of_ble_eq_true rfl⟩) (lg_48 ad cI cJ X S1) rfl rfl hl.1 rfl (Nat.le_of_ble_eq_true rfl) ⟨Nat.zero_le _, Nat.zero_le _⟩ dX8_seal_14 (fun r3 S4 H locs hV hw => ?_)
    refine lv_l2i C0.x C0.b dX8_seal_17 rfl ?_
    exact r_iret C0 rfl hw hV dX8_seal_18
/-! StepBenchModel.list()Z -/
abbrev rm_X8_list : Room := { frames := 0, cells := 0, slots := 0, locals := 0 }
set_option maxRecDepth 20000 in
theorem fw_X8_list_61 : Cond.fieldLink RX8 61 "StepBenchModel" "thrown" "I" ∈ wsX8_list := by decide +kernel
set_option maxRecDepth 20000 in
theorem iw_X8_list_X8 : ∀ w ∈ wsX80, w ∈ wsX8_list := by decide +kernel
set_option maxRecDepth 20000 in
theorem fw_X8_list_108 : Cond.fieldLink RX8 108 "StepBenchModel" "sort" "I" ∈ wsX8_list := by decide +kernel
set_option maxRecDepth 20000 in
theorem fw_X8_list_111 : Cond.fieldLink RX8 111 "StepBenchModel" "fractions" "I" ∈ wsX8_list := by decide +kernel
set_option maxRecDepth 20000 in
theorem hd_X8_list : yX8_list.cls = RX8 ∧ yX8_list.cls ≠ "java/lang/invoke/MethodHandle" ∧ yX8_list.cls ≠ "java/lang/invoke/VarHandle" ∧ (parseMethodDescriptor yX8_list.desc).map (fun d => d.parameters.length) = some 0 := by decide +kernel
def V_X8_list   (S : SS) (post : Int32 → SS → Prop) : Prop :=
  (∀ S1 : SS, S1 = (sI S 20 (0 : Int32)) → (∀ S2 : SS, S2 = (sI S1 25 (2 : Int32)) → (∀ S3 : SS, S3 = (sI S2 27 (0 : Int32)) → (post (1 : Int32) S3))))
set_option maxHeartbeats 4000000 in
set_option maxRecDepth 100000 in
theorem c_X8_list  {S : SS}  {post : Int32 → SS → Prop} (hV : V_X8_list   S post) : MI l yX8_list wsX8_list rm_X8_list [.ref (ad 48)] D n0 ad cI cJ X S post := by
  refine Met.ofW (cc := cX8_list) (maxL := 1) (ret := (some .boolean)) (by decide) rfl ?_
  intro p e s m args below meth c s₁ B hml hv
  obtain ⟨rfl, hv⟩ := hv
  have C0 := Bd.mk B hml (atoms_spec (ws := wsX8_list) B.pre) (findClass_of_methodNamed B.named) hv.1
  have hw : Wh D n0 ad cI cJ X S s s.heap [] := ⟨hv.2.1, hv.2.2, va_S.rf⟩
  refine r_entry (Nat.le_of_ble_eq_true rfl) (fun ls hl => ?_)
  have hl : lv_has ls 1 [(0, .ref (ad 48))] := hl
  unfold V_X8_list at hV
  refine lv_aload_n C0.x C0.b dX8_list_0 rfl (lv_at hl 0 rfl) ?_
  refine lv_iconst (v := 0) C0.x C0.b dX8_list_1 (by decide) ?_
  refine r_put C0 hw (C := RX8) (T := TX8) (N := 33) (ty := .int) iw_X8_list_X8 tyX8 tyX8_ok nmX8 (lg_48 ad cI cJ X S) rfl 0 (by decide) (C0.ts _ fw_X8_list_61) rfl (by decide +kernel) rfl rfl (Nat.le_of_ble_eq_true rfl) dX8_list_2 (S' := (sI S 20 (0 : Int32))) (ls_48_0 ad cI cJ X S (0 : Int32)) (fun S1 H locs eS1 hw => ?_)
  have hV := hV S1 eS1
  refine lv_aload_n C0.x C0.b dX8_list_5 rfl (lv_at hl 0 rfl) ?_
  refine lv_iconst (v := 2) C0.x C0.b dX8_list_6 (by decide) ?_
  refine r_put C0 hw (C := RX8) (T := TX8) (N := 33) (ty := .int) iw_X8_list_X8 tyX8 tyX8_ok nmX8 (lg_48 ad cI cJ X S1) rfl 7 (by decide) (C0.ts _ fw_X8_list_108) rfl (by decide +kernel) rfl rfl (Nat.le_of_ble_eq_true rfl) dX8_list_7 (S' := (sI S1 25 (2 : Int32))) (ls_48_7 ad cI cJ X S1 (2 : Int32)) (fun S2 H locs eS2 hw => ?_)
  have hV := hV S2 eS2
  refine lv_aload_n C0.x C0.b dX8_list_10 rfl (lv_at hl 0 rfl) ?_
  refine lv_iconst (v := 0) C0.x C0.b dX8_list_11 (by decide) ?_
  refine r_put C0 hw (C := RX8) (T := TX8) (N := 33) (ty := .int) iw_X8_list_X8 tyX8 tyX8_ok nmX8 (lg_48 ad cI cJ X S2) rfl 10 (by decide) (C0.ts _ fw_X8_list_111) rfl (by decide +kernel) rfl rfl (Nat.le_of_ble_eq_true rfl) dX8_list_12 (S' := (sI S2 27 (0 : Int32))) (ls_48_10 ad cI cJ X S2 (0 : Int32)) (fun S3 H locs eS3 hw => ?_)
  have hV := hV S3 eS3
  refine lv_iconst (v := 1) C0.x C0.b dX8_list_15 (by decide) ?_
  exact r_zret C0 rfl bz_1 hw hV dX8_list_16
/-! StepBenchModel.add(JJ)V -/
abbrev rm_X8_add : Room := { frames := 1, cells := 0, slots := 0, locals := 29 }
set_option maxRecDepth 20000 in
theorem fw_X8_add_23 : Cond.fieldLink RX8 23 "StepBenchModel" "p" "[J" ∈ wsX8_add := by decide +kernel
set_option maxRecDepth 20000 in
theorem iw_X8_add_X8 : ∀ w ∈ wsX80, w ∈ wsX8_add := by decide +kernel
set_option maxRecDepth 20000 in
theorem fw_X8_add_111 : Cond.fieldLink RX8 111 "StepBenchModel" "fractions" "I" ∈ wsX8_add := by decide +kernel
set_option maxRecDepth 20000 in
theorem fw_X8_add_26 : Cond.fieldLink RX8 26 "StepBenchModel" "q" "[J" ∈ wsX8_add := by decide +kernel
set_option maxRecDepth 20000 in
theorem hd_X8_add : yX8_add.cls = RX8 ∧ yX8_add.cls ≠ "java/lang/invoke/MethodHandle" ∧ yX8_add.cls ≠ "java/lang/invoke/VarHandle" ∧ (parseMethodDescriptor yX8_add.desc).map (fun d => d.parameters.length) = some 2 := by decide +kernel
def V_X8_add  (p0 : Int64) (p1 : Int64) (S : SS) (post : SS → Prop) : Prop :=
  (V_X8_common p0 p1 S (fun (r1 : Int64) (S2 : SS) => (¬ r1 = 0 ∧ (vp_in (gI S2 27) 40 ∧ ∀ S3 : SS, S3 = (sA S2 33 (vp_updL (gA S2 33) (gI S2 27).toNatClampNeg (p0 / r1))) → (¬ r1 = 0 ∧ (vp_in (gI S3 27) 40 ∧ ∀ S4 : SS, S4 = (sA S3 34 (vp_updL (gA S3 34) (gI S3 27).toNatClampNeg (p1 / r1))) → (∀ S5 : SS, S5 = (sI S4 27 ((gI S4 27) + (1 : Int32))) → (post S5))))))))
set_option maxHeartbeats 4000000 in
set_option maxRecDepth 100000 in
theorem c_X8_add  {S : SS} {p0 : Int64} {p1 : Int64} {post : SS → Prop} (hV : V_X8_add  p0 p1 S post) : MV l yX8_add wsX8_add rm_X8_add [.ref (ad 48), .long p0, .long p1] D n0 ad cI cJ X S post := by
  refine Met.ofW (cc := cX8_add) (maxL := 7) (ret := none) (by decide) rfl ?_
  intro p e s m args below meth c s₁ B hml hv
  obtain ⟨rfl, hv⟩ := hv
  have C0 := Bd.mk B hml (atoms_spec (ws := wsX8_add) B.pre) (findClass_of_methodNamed B.named) hv.1
  have hw : Wh D n0 ad cI cJ X S s s.heap [] := ⟨hv.2.1, hv.2.2, va_S.rf⟩
  refine r_entry (Nat.le_of_ble_eq_true rfl) (fun ls hl => ?_)
  have hl : lv_has ls 7 [(0, .ref (ad 48)), (1, .long p0), (3, .long p1)] := hl
  unfold V_X8_add at hV
  refine lv_lload_n C0.x C0.b dX8_add_0 rfl (lv_at hl 1 rfl) ?_
  refine lv_lload_n C0.x C0.b dX8_add_1 rfl (lv_at hl 2 rfl) ?_
  refine r_cS_l (As := [.long p0, .long p1]) (rest := []) C0 hw (c_X8_common  hV) (va_cwS 2 C0.ts gX8_add_X8_common rfl rfl rfl hd_X8_common ⟨Nat.le_of_ble_eq_true rfl, Nat.le_of_ble_eq_true rfl⟩) rfl hl.1 rfl (Nat.le_of_ble_eq_true rfl) ⟨Nat.zero_le _, Nat.zero_le _⟩ dX8_add_2 (fun r1 S2 H locs hV hw => ?_)
  refine lv_lstore (lv' := [(5, .long r1), (0, .ref (ad 48)), (1, .long p0), (3, .long p1)]) C0.x C0.b dX8_add_5 hl (by decide) rfl (fun ls hl => ?_)
  refine lv_aload_n C0.x C0.b dX8_add_7 rfl (lv_at hl 1 rfl) ?_
  refine r_get C0 hw (C := RX8) (T := TX8) (N := 33) (v := .ref (ad 52)) iw_X8_add_X8 (lg_48 ad cI cJ X S2) rfl 11 (by decide) (C0.ts _ fw_X8_add_23) rfl dX8_add_8 ?_
  refine lv_aload_n C0.x C0.b dX8_add_11 rfl (lv_at hl 1 rfl) ?_
  refine r_get C0 hw (C := RX8) (T := TX8) (N := 33) (v := .int (gI S2 27)) iw_X8_add_X8 (lg_48 ad cI cJ X S2) rfl 10 (by decide) (C0.ts _ fw_X8_add_111) rfl dX8_add_12 ?_
  refine lv_lload_n C0.x C0.b dX8_add_15 rfl (lv_at hl 2 rfl) ?_
  refine lv_lload C0.x C0.b dX8_add_16 (lv_at hl 0 rfl) ?_
  refine lv_ldiv C0.x C0.b dX8_add_18 hV.1 ?_
  have hV := hV.2
  refine r_last C0 hw (lg_52 ad cI cJ X S2) hV.1 dX8_add_19 (S' := (sA S2 33 (vp_updL (gA S2 33) (gI S2 27).toNatClampNeg (p0 / r1)))) (ls_52 ad cI cJ X S2 (vp_updL (gA S2 33) (gI S2 27).toNatClampNeg (p0 / r1))) (fun S3 H locs eS3 hw => ?_)
  have hV := hV.2 S3 eS3
  refine lv_aload_n C0.x C0.b dX8_add_20 rfl (lv_at hl 1 rfl) ?_
  refine r_get C0 hw (C := RX8) (T := TX8) (N := 33) (v := .ref (ad 53)) iw_X8_add_X8 (lg_48 ad cI cJ X S3) rfl 12 (by decide) (C0.ts _ fw_X8_add_26) rfl dX8_add_21 ?_
  refine lv_aload_n C0.x C0.b dX8_add_24 rfl (lv_at hl 1 rfl) ?_
  refine r_get C0 hw (C := RX8) (T := TX8) (N := 33) (v := .int (gI S3 27)) iw_X8_add_X8 (lg_48 ad cI cJ X S3) rfl 10 (by decide) (C0.ts _ fw_X8_add_111) rfl dX8_add_25 ?_
  refine lv_lload_n C0.x C0.b dX8_add_28 rfl (lv_at hl 3 rfl) ?_
  refine lv_lload C0.x C0.b dX8_add_29 (lv_at hl 0 rfl) ?_
  refine lv_ldiv C0.x C0.b dX8_add_31 hV.1 ?_
  have hV := hV.2
  refine r_last C0 hw (lg_53 ad cI cJ X S3) hV.1 dX8_add_32 (S' := (sA S3 34 (vp_updL (gA S3 34) (gI S3 27).toNatClampNeg (p1 / r1)))) (ls_53 ad cI cJ X S3 (vp_updL (gA S3 34) (gI S3 27).toNatClampNeg (p1 / r1))) (fun S4 H locs eS4 hw => ?_)
  have hV := hV.2 S4 eS4
  refine lv_aload_n C0.x C0.b dX8_add_33 rfl (lv_at hl 1 rfl) ?_
  refine lv_dup C0.x C0.b dX8_add_34 rfl ?_
  refine r_get C0 hw (C := RX8) (T := TX8) (N := 33) (v := .int (gI S4 27)) iw_X8_add_X8 (lg_48 ad cI cJ X S4) rfl 10 (by decide) (C0.ts _ fw_X8_add_111) rfl dX8_add_35 ?_
  refine lv_iconst (v := 1) C0.x C0.b dX8_add_38 (by decide) ?_
  refine lv_iadd C0.x C0.b dX8_add_39 ?_
  refine r_put C0 hw (C := RX8) (T := TX8) (N := 33) (ty := .int) iw_X8_add_X8 tyX8 tyX8_ok nmX8 (lg_48 ad cI cJ X S4) rfl 10 (by decide) (C0.ts _ fw_X8_add_111) rfl (by decide +kernel) rfl rfl (Nat.le_of_ble_eq_true rfl) dX8_add_40 (S' := (sI S4 27 ((gI S4 27) + (1 : Int32)))) (ls_48_10 ad cI cJ X S4 ((gI S4 27) + (1 : Int32))) (fun S5 H locs eS5 hw => ?_)
  have hV := hV S5 eS5
  exact r_vret C0 rfl hw hV dX8_add_43
/-! StepBenchModel.fraction(JJ)I -/
abbrev rm_X8_fraction : Room := { frames := 2, cells := 0, slots := 0, locals := 55 }
set_option maxRecDepth 20000 in
theorem fw_X8_fraction_61 : Cond.fieldLink RX8 61 "StepBenchModel" "thrown" "I" ∈ wsX8_fraction := by decide +kernel
set_option maxRecDepth 20000 in
theorem iw_X8_fraction_X8 : ∀ w ∈ wsX80, w ∈ wsX8_fraction := by decide +kernel
set_option maxRecDepth 20000 in
theorem fw_X8_fraction_108 : Cond.fieldLink RX8 108 "StepBenchModel" "sort" "I" ∈ wsX8_fraction := by decide +kernel
set_option maxRecDepth 20000 in
theorem cw_X8_fraction_118 : Cond.constantLong RX8 118 1000000000 ∈ wsX8_fraction := by decide +kernel
set_option maxRecDepth 20000 in
theorem fw_X8_fraction_111 : Cond.fieldLink RX8 111 "StepBenchModel" "fractions" "I" ∈ wsX8_fraction := by decide +kernel
set_option maxRecDepth 20000 in
theorem hd_X8_fraction : yX8_fraction.cls = RX8 ∧ yX8_fraction.cls ≠ "java/lang/invoke/MethodHandle" ∧ yX8_fraction.cls ≠ "java/lang/invoke/VarHandle" ∧ (parseMethodDescriptor yX8_fraction.desc).map (fun d => d.parameters.length) = some 2 := by decide +kernel
def V_X8_fraction  (p0 : Int64) (p1 : Int64) (S : SS) (post : Int32 → SS → Prop) : Prop :=
  (∀ S1 : SS, S1 = (sI S 20 (0 : Int32)) → (((gI S1 25) = (2 : Int32) → (V_X8_in p0 (1 : Int64) (1000000000 : Int64) S1 (fun (r3 : Int32) (S4 : SS) => ((r3 = 0 → (post (-1 : Int32) S4)) ∧ (¬ r3 = 0 → (V_X8_in p1 (1 : Int64) (1000000000 : Int64) S4 (fun (r6 : Int32) (S7 : SS) => ((r6 = 0 → (post (-1 : Int32) S7)) ∧ (¬ r6 = 0 → (((gI S7 27) = (40 : Int32) → (post (-1 : Int32) S7)) ∧ (¬ (gI S7 27) = (40 : Int32) → (V_X8_add p0 p1 S7 (fun (S11 : SS) => (post (gI S11 27) S11)))))))))))))) ∧ (¬ (gI S1 25) = (2 : Int32) → (post (-1 : Int32) S1))))
set_option maxHeartbeats 4000000 in
set_option maxRecDepth 100000 in
theorem c_X8_fraction  {S : SS} {p0 : Int64} {p1 : Int64} {post : Int32 → SS → Prop} (hV : V_X8_fraction  p0 p1 S post) : MI l yX8_fraction wsX8_fraction rm_X8_fraction [.ref (ad 48), .long p0, .long p1] D n0 ad cI cJ X S post := by
  refine Met.ofW (cc := cX8_fraction) (maxL := 5) (ret := (some .int)) (by decide) rfl ?_
  intro p e s m args below meth c s₁ B hml hv
  obtain ⟨rfl, hv⟩ := hv
  have C0 := Bd.mk B hml (atoms_spec (ws := wsX8_fraction) B.pre) (findClass_of_methodNamed B.named) hv.1
  have hw : Wh D n0 ad cI cJ X S s s.heap [] := ⟨hv.2.1, hv.2.2, va_S.rf⟩
  refine r_entry (Nat.le_of_ble_eq_true rfl) (fun ls hl => ?_)
  have hl : lv_has ls 5 [(0, .ref (ad 48)), (1, .long p0), (3, .long p1)] := hl
  unfold V_X8_fraction at hV
  refine lv_aload_n C0.x C0.b dX8_fraction_0 rfl (lv_at hl 0 rfl) ?_
  refine lv_iconst (v := 0) C0.x C0.b dX8_fraction_1 (by decide) ?_
  refine r_put C0 hw (C := RX8) (T := TX8) (N := 33) (ty := .int) iw_X8_fraction_X8 tyX8 tyX8_ok nmX8 (lg_48 ad cI cJ X S) rfl 0 (by decide) (C0.ts _ fw_X8_fraction_61) rfl (by decide +kernel) rfl rfl (Nat.le_of_ble_eq_true rfl) dX8_fraction_2 (S' := (sI S 20 (0 : Int32))) (ls_48_0 ad cI cJ X S (0 : Int32)) (fun S1 H locs eS1 hw => ?_)
  have hV := hV S1 eS1
  refine lv_aload_n C0.x C0.b dX8_fraction_5 rfl (lv_at hl 0 rfl) ?_
  refine r_get C0 hw (C := RX8) (T := TX8) (N := 33) (v := .int (gI S1 25)) iw_X8_fraction_X8 (lg_48 ad cI cJ X S1) rfl 7 (by decide) (C0.ts _ fw_X8_fraction_108) rfl dX8_fraction_6 ?_
  refine lv_iconst (v := 2) C0.x C0.b dX8_fraction_9 (by decide) ?_
  refine lv_icmp_ne (tgt := 44) C0.x C0.b dX8_fraction_10 (by decide) (fun c2 => ?_) (fun c2 => ?_)
  · have hV := hV.2 c2
    refine lv_iconst (v := -1) C0.x C0.b dX8_fraction_44 (by decide) ?_
    exact r_iret C0 rfl hw hV dX8_fraction_45
  · have hV := hV.1 c2
    refine lv_lload_n C0.x C0.b dX8_fraction_13 rfl (lv_at hl 1 rfl) ?_
    refine lv_lconst (v := 1) C0.x C0.b dX8_fraction_14 (by decide) ?_
    refine lv_ldc2 (v := 1000000000) C0.x C0.b C0.ow (C0.ts _ cw_X8_fraction_118) dX8_fraction_15 ?_
    refine r_cS_i (As := [.long p0, .long (1 : Int64), .long (1000000000 : Int64)]) (rest := []) C0 hw (c_X8_in  hV) (va_cwS 3 C0.ts gX8_fraction_X8_in rfl rfl rfl hd_X8_in ⟨Nat.le_of_ble_eq_true rfl, Nat.le_of_ble_eq_true rfl⟩) rfl hl.1 rfl (Nat.le_of_ble_eq_true rfl) ⟨Nat.zero_le _, Nat.zero_le _⟩ dX8_fraction_18 (fun r3 S4 H locs hV hw => ?_)
    refine lv_if_eq (tgt := 44) C0.x C0.b dX8_fraction_21 (by decide) (fun c5 => ?_) (fun c5 => ?_)
    · have hV := hV.1 c5
      refine lv_iconst (v := -1) C0.x C0.b dX8_fraction_44 (by decide) ?_
      exact r_iret C0 rfl hw hV dX8_fraction_45
    · have hV := hV.2 c5
      refine lv_lload_n C0.x C0.b dX8_fraction_24 rfl (lv_at hl 2 rfl) ?_
      refine lv_lconst (v := 1) C0.x C0.b dX8_fraction_25 (by decide) ?_
      refine lv_ldc2 (v := 1000000000) C0.x C0.b C0.ow (C0.ts _ cw_X8_fraction_118) dX8_fraction_26 ?_
      refine r_cS_i (As := [.long p1, .long (1 : Int64), .long (1000000000 : Int64)]) (rest := []) C0 hw (c_X8_in  hV) (va_cwS 3 C0.ts gX8_fraction_X8_in rfl rfl rfl hd_X8_in ⟨Nat.le_of_ble_eq_true rfl, Nat.le_of_ble_eq_true rfl⟩) rfl hl.1 rfl (Nat.le_of_ble_eq_true rfl) ⟨Nat.zero_le _, Nat.zero_le _⟩ dX8_fraction_29 (fun r6 S7 H locs hV hw => ?_)
      refine lv_if_eq (tgt := 44) C0.x C0.b dX8_fraction_32 (by decide) (fun c8 => ?_) (fun c8 => ?_)
      · have hV := hV.1 c8
        refine lv_iconst (v := -1) C0.x C0.b dX8_fraction_44 (by decide) ?_
        exact r_iret C0 rfl hw hV dX8_fraction_45
      · have hV := hV.2 c8
        refine lv_aload_n C0.x C0.b dX8_fraction_35 rfl (lv_at hl 0 rfl) ?_
        refine r_get C0 hw (C := RX8) (T := TX8) (N := 33) (v := .int (gI S7 27)) iw_X8_fraction_X8 (lg_48 ad cI cJ X S7) rfl 10 (by decide) (C0.ts _ fw_X8_fraction_111) rfl dX8_fraction_36 ?_
        refine lv_bipush (v := 40) C0.x C0.b dX8_fraction_39 (by decide) ?_
        refine lv_icmp_ne (tgt := 46) C0.x C0.b dX8_fraction_41 (by decide) (fun c9 => ?_) (fun c9 => ?_)
        · have hV := hV.2 c9
          refine lv_aload_n C0.x C0.b dX8_fraction_46 rfl (lv_at hl 0 rfl) ?_
          refine lv_lload_n C0.x C0.b dX8_fraction_47 rfl (lv_at hl 1 rfl) ?_
          refine lv_lload_n C0.x C0.b dX8_fraction_48 rfl (lv_at hl 2 rfl) ?_
          refine r_cV_v (As := [.long p0, .long p1]) (rest := []) C0 hw (c_X8_add  hV) (cwV 2 C0.ts gX8_fraction_X8_add rfl rfl rfl hd_X8_add ⟨Nat.le_of_ble_eq_true rfl, Nat.le_of_ble_eq_true rfl⟩) (lg_48 ad cI cJ X S7) rfl rfl hl.1 rfl (Nat.le_of_ble_eq_true rfl) ⟨Nat.zero_le _, Nat.zero_le _⟩ dX8_fraction_49 (fun S11 H locs hV hw => ?_)
          refine lv_aload_n C0.x C0.b dX8_fraction_52 rfl (lv_at hl 0 rfl) ?_
          refine r_get C0 hw (C := RX8) (T := TX8) (N := 33) (v := .int (gI S11 27)) iw_X8_fraction_X8 (lg_48 ad cI cJ X S11) rfl 10 (by decide) (C0.ts _ fw_X8_fraction_111) rfl dX8_fraction_53 ?_
          exact r_iret C0 rfl hw hV dX8_fraction_56
        · have hV := hV.1 c9
          refine lv_iconst (v := -1) C0.x C0.b dX8_fraction_44 (by decide) ?_
          exact r_iret C0 rfl hw hV dX8_fraction_45
/-! StepBenchModel.count(I)I -/
abbrev rm_X8_count : Room := { frames := 0, cells := 0, slots := 0, locals := 0 }
set_option maxRecDepth 20000 in
theorem fw_X8_count_61 : Cond.fieldLink RX8 61 "StepBenchModel" "thrown" "I" ∈ wsX8_count := by decide +kernel
set_option maxRecDepth 20000 in
theorem iw_X8_count_X8 : ∀ w ∈ wsX80, w ∈ wsX8_count := by decide +kernel
set_option maxRecDepth 20000 in
theorem fw_X8_count_108 : Cond.fieldLink RX8 108 "StepBenchModel" "sort" "I" ∈ wsX8_count := by decide +kernel
set_option maxRecDepth 20000 in
theorem fw_X8_count_105 : Cond.fieldLink RX8 105 "StepBenchModel" "m" "I" ∈ wsX8_count := by decide +kernel
set_option maxRecDepth 20000 in
theorem fw_X8_count_111 : Cond.fieldLink RX8 111 "StepBenchModel" "fractions" "I" ∈ wsX8_count := by decide +kernel
set_option maxRecDepth 20000 in
theorem fw_X8_count_124 : Cond.fieldLink RX8 124 "StepBenchModel" "rows" "I" ∈ wsX8_count := by decide +kernel
set_option maxRecDepth 20000 in
theorem fw_X8_count_127 : Cond.fieldLink RX8 127 "StepBenchModel" "words" "I" ∈ wsX8_count := by decide +kernel
set_option maxRecDepth 20000 in
theorem fw_X8_count_130 : Cond.fieldLink RX8 130 "StepBenchModel" "acts" "I" ∈ wsX8_count := by decide +kernel
set_option maxRecDepth 20000 in
theorem fw_X8_count_9 : Cond.fieldLink RX8 9 "StepBenchModel" "sheet" "I" ∈ wsX8_count := by decide +kernel
set_option maxRecDepth 20000 in
theorem fw_X8_count_85 : Cond.fieldLink RX8 85 "StepBenchModel" "entries" "I" ∈ wsX8_count := by decide +kernel
set_option maxRecDepth 20000 in
theorem hd_X8_count : yX8_count.cls = RX8 ∧ yX8_count.cls ≠ "java/lang/invoke/MethodHandle" ∧ yX8_count.cls ≠ "java/lang/invoke/VarHandle" ∧ (parseMethodDescriptor yX8_count.desc).map (fun d => d.parameters.length) = some 1 := by decide +kernel
def V_X8_count  (p0 : Int32) (S : SS) (post : Int32 → SS → Prop) : Prop :=
  (∀ S1 : SS, S1 = (sI S 20 (0 : Int32)) → ((p0 = 0 → (post (gI S1 25) S1)) ∧ (p0 = 1 → (((gI S1 25) = (1 : Int32) → (post (gI S1 26) S1)) ∧ (¬ (gI S1 25) = (1 : Int32) → (post (0 : Int32) S1)))) ∧ (p0 = 2 → (((gI S1 25) = (2 : Int32) → (post (gI S1 27) S1)) ∧ (¬ (gI S1 25) = (2 : Int32) → (post (0 : Int32) S1)))) ∧ (p0 = 3 → (post (gI S1 28) S1)) ∧ (p0 = 4 → (post (gI S1 29) S1)) ∧ (p0 = 5 → (post (gI S1 31) S1)) ∧ (p0 = 6 → ((0 ≤ (gI S1 21) → (post (gI S1 22) S1)) ∧ (¬ 0 ≤ (gI S1 21) → (post (-1 : Int32) S1)))) ∧ ((p0.toInt < 0 ∨ 6 < p0.toInt) → (post (-1 : Int32) S1))))
set_option maxHeartbeats 4000000 in
set_option maxRecDepth 100000 in
theorem c_X8_count  {S : SS} {p0 : Int32} {post : Int32 → SS → Prop} (hV : V_X8_count  p0 S post) : MI l yX8_count wsX8_count rm_X8_count [.ref (ad 48), .int p0] D n0 ad cI cJ X S post := by
  refine Met.ofW (cc := cX8_count) (maxL := 2) (ret := (some .int)) (by decide) rfl ?_
  intro p e s m args below meth c s₁ B hml hv
  obtain ⟨rfl, hv⟩ := hv
  have C0 := Bd.mk B hml (atoms_spec (ws := wsX8_count) B.pre) (findClass_of_methodNamed B.named) hv.1
  have hw : Wh D n0 ad cI cJ X S s s.heap [] := ⟨hv.2.1, hv.2.2, va_S.rf⟩
  refine r_entry (Nat.le_of_ble_eq_true rfl) (fun ls hl => ?_)
  have hl : lv_has ls 2 [(0, .ref (ad 48)), (1, .int p0)] := hl
  unfold V_X8_count at hV
  refine lv_aload_n C0.x C0.b dX8_count_0 rfl (lv_at hl 0 rfl) ?_
  refine lv_iconst (v := 0) C0.x C0.b dX8_count_1 (by decide) ?_
  refine r_put C0 hw (C := RX8) (T := TX8) (N := 33) (ty := .int) iw_X8_count_X8 tyX8 tyX8_ok nmX8 (lg_48 ad cI cJ X S) rfl 0 (by decide) (C0.ts _ fw_X8_count_61) rfl (by decide +kernel) rfl rfl (Nat.le_of_ble_eq_true rfl) dX8_count_2 (S' := (sI S 20 (0 : Int32))) (ls_48_0 ad cI cJ X S (0 : Int32)) (fun S1 H locs eS1 hw => ?_)
  have hV := hV S1 eS1
  refine lv_iload_n C0.x C0.b dX8_count_5 rfl (lv_at hl 1 rfl) ?_
  by_cases hsw : p0.toInt < 0 ∨ 6 < p0.toInt
  · refine lv_tableOut (tgt := 118) C0.x C0.b dX8_count_6 hsw (by decide) ?_
    have hV := hV.2.2.2.2.2.2.2 hsw
    refine lv_iconst (v := -1) C0.x C0.b dX8_count_118 (by decide) ?_
    exact r_iret C0 rfl hw hV dX8_count_119
  · obtain ⟨k, hk, ek⟩ := sw_of hsw
    have hk : k = 0 ∨ k = 1 ∨ k = 2 ∨ k = 3 ∨ k = 4 ∨ k = 5 ∨ k = 6 := by omega
    rcases hk with rfl | rfl | rfl | rfl | rfl | rfl | rfl
    · have ek : p0 = 0 := ek
      have hV := hV.1 ek
      refine lv_tableIn (tgt := 48) C0.x C0.b dX8_count_6 (by rw [ek]; decide) (by rw [ek]; decide) (by rw [ek]; rfl) (by decide) ?_
      refine lv_aload_n C0.x C0.b dX8_count_48 rfl (lv_at hl 0 rfl) ?_
      refine r_get C0 hw (C := RX8) (T := TX8) (N := 33) (v := .int (gI S1 25)) iw_X8_count_X8 (lg_48 ad cI cJ X S1) rfl 7 (by decide) (C0.ts _ fw_X8_count_108) rfl dX8_count_49 ?_
      exact r_iret C0 rfl hw hV dX8_count_52
    · have ek : p0 = 1 := ek
      have hV := hV.2.1 ek
      refine lv_tableIn (tgt := 53) C0.x C0.b dX8_count_6 (by rw [ek]; decide) (by rw [ek]; decide) (by rw [ek]; rfl) (by decide) ?_
      refine lv_aload_n C0.x C0.b dX8_count_53 rfl (lv_at hl 0 rfl) ?_
      refine r_get C0 hw (C := RX8) (T := TX8) (N := 33) (v := .int (gI S1 25)) iw_X8_count_X8 (lg_48 ad cI cJ X S1) rfl 7 (by decide) (C0.ts _ fw_X8_count_108) rfl dX8_count_54 ?_
      refine lv_iconst (v := 1) C0.x C0.b dX8_count_57 (by decide) ?_
      refine lv_icmp_ne (tgt := 68) C0.x C0.b dX8_count_58 (by decide) (fun c2 => ?_) (fun c2 => ?_)
      · have hV := hV.2 c2
        refine lv_iconst (v := 0) C0.x C0.b dX8_count_68 (by decide) ?_
        exact r_iret C0 rfl hw hV dX8_count_69
      · have hV := hV.1 c2
        refine lv_aload_n C0.x C0.b dX8_count_61 rfl (lv_at hl 0 rfl) ?_
        refine r_get C0 hw (C := RX8) (T := TX8) (N := 33) (v := .int (gI S1 26)) iw_X8_count_X8 (lg_48 ad cI cJ X S1) rfl 8 (by decide) (C0.ts _ fw_X8_count_105) rfl dX8_count_62 ?_
        refine lv_goto (tgt := 69) C0.x C0.b dX8_count_65 (by decide) ?_
        exact r_iret C0 rfl hw hV dX8_count_69
    · have ek : p0 = 2 := ek
      have hV := hV.2.2.1 ek
      refine lv_tableIn (tgt := 70) C0.x C0.b dX8_count_6 (by rw [ek]; decide) (by rw [ek]; decide) (by rw [ek]; rfl) (by decide) ?_
      refine lv_aload_n C0.x C0.b dX8_count_70 rfl (lv_at hl 0 rfl) ?_
      refine r_get C0 hw (C := RX8) (T := TX8) (N := 33) (v := .int (gI S1 25)) iw_X8_count_X8 (lg_48 ad cI cJ X S1) rfl 7 (by decide) (C0.ts _ fw_X8_count_108) rfl dX8_count_71 ?_
      refine lv_iconst (v := 2) C0.x C0.b dX8_count_74 (by decide) ?_
      refine lv_icmp_ne (tgt := 85) C0.x C0.b dX8_count_75 (by decide) (fun c3 => ?_) (fun c3 => ?_)
      · have hV := hV.2 c3
        refine lv_iconst (v := 0) C0.x C0.b dX8_count_85 (by decide) ?_
        exact r_iret C0 rfl hw hV dX8_count_86
      · have hV := hV.1 c3
        refine lv_aload_n C0.x C0.b dX8_count_78 rfl (lv_at hl 0 rfl) ?_
        refine r_get C0 hw (C := RX8) (T := TX8) (N := 33) (v := .int (gI S1 27)) iw_X8_count_X8 (lg_48 ad cI cJ X S1) rfl 10 (by decide) (C0.ts _ fw_X8_count_111) rfl dX8_count_79 ?_
        refine lv_goto (tgt := 86) C0.x C0.b dX8_count_82 (by decide) ?_
        exact r_iret C0 rfl hw hV dX8_count_86
    · have ek : p0 = 3 := ek
      have hV := hV.2.2.2.1 ek
      refine lv_tableIn (tgt := 87) C0.x C0.b dX8_count_6 (by rw [ek]; decide) (by rw [ek]; decide) (by rw [ek]; rfl) (by decide) ?_
      refine lv_aload_n C0.x C0.b dX8_count_87 rfl (lv_at hl 0 rfl) ?_
      refine r_get C0 hw (C := RX8) (T := TX8) (N := 33) (v := .int (gI S1 28)) iw_X8_count_X8 (lg_48 ad cI cJ X S1) rfl 15 (by decide) (C0.ts _ fw_X8_count_124) rfl dX8_count_88 ?_
      exact r_iret C0 rfl hw hV dX8_count_91
    · have ek : p0 = 4 := ek
      have hV := hV.2.2.2.2.1 ek
      refine lv_tableIn (tgt := 92) C0.x C0.b dX8_count_6 (by rw [ek]; decide) (by rw [ek]; decide) (by rw [ek]; rfl) (by decide) ?_
      refine lv_aload_n C0.x C0.b dX8_count_92 rfl (lv_at hl 0 rfl) ?_
      refine r_get C0 hw (C := RX8) (T := TX8) (N := 33) (v := .int (gI S1 29)) iw_X8_count_X8 (lg_48 ad cI cJ X S1) rfl 18 (by decide) (C0.ts _ fw_X8_count_127) rfl dX8_count_93 ?_
      exact r_iret C0 rfl hw hV dX8_count_96
    · have ek : p0 = 5 := ek
      have hV := hV.2.2.2.2.2.1 ek
      refine lv_tableIn (tgt := 97) C0.x C0.b dX8_count_6 (by rw [ek]; decide) (by rw [ek]; decide) (by rw [ek]; rfl) (by decide) ?_
      refine lv_aload_n C0.x C0.b dX8_count_97 rfl (lv_at hl 0 rfl) ?_
      refine r_get C0 hw (C := RX8) (T := TX8) (N := 33) (v := .int (gI S1 31)) iw_X8_count_X8 (lg_48 ad cI cJ X S1) rfl 31 (by decide) (C0.ts _ fw_X8_count_130) rfl dX8_count_98 ?_
      exact r_iret C0 rfl hw hV dX8_count_101
    · have ek : p0 = 6 := ek
      have hV := hV.2.2.2.2.2.2.1 ek
      refine lv_tableIn (tgt := 102) C0.x C0.b dX8_count_6 (by rw [ek]; decide) (by rw [ek]; decide) (by rw [ek]; rfl) (by decide) ?_
      refine lv_aload_n C0.x C0.b dX8_count_102 rfl (lv_at hl 0 rfl) ?_
      refine r_get C0 hw (C := RX8) (T := TX8) (N := 33) (v := .int (gI S1 21)) iw_X8_count_X8 (lg_48 ad cI cJ X S1) rfl 1 (by decide) (C0.ts _ fw_X8_count_9) rfl dX8_count_103 ?_
      refine lv_if_ge (tgt := 113) C0.x C0.b dX8_count_106 (by decide) (fun c4 => ?_) (fun c4 => ?_)
      · have hV := hV.1 c4
        refine lv_aload_n C0.x C0.b dX8_count_113 rfl (lv_at hl 0 rfl) ?_
        refine r_get C0 hw (C := RX8) (T := TX8) (N := 33) (v := .int (gI S1 22)) iw_X8_count_X8 (lg_48 ad cI cJ X S1) rfl 2 (by decide) (C0.ts _ fw_X8_count_85) rfl dX8_count_114 ?_
        exact r_iret C0 rfl hw hV dX8_count_117
      · have hV := hV.2 c4
        refine lv_iconst (v := -1) C0.x C0.b dX8_count_109 (by decide) ?_
        refine lv_goto (tgt := 117) C0.x C0.b dX8_count_110 (by decide) ?_
        exact r_iret C0 rfl hw hV dX8_count_117
/-! StepBenchModel.told(II)J -/
abbrev rm_X8_told : Room := { frames := 1, cells := 0, slots := 0, locals := 25 }
set_option maxRecDepth 20000 in
theorem fw_X8_told_61 : Cond.fieldLink RX8 61 "StepBenchModel" "thrown" "I" ∈ wsX8_told := by decide +kernel
set_option maxRecDepth 20000 in
theorem iw_X8_told_X8 : ∀ w ∈ wsX80, w ∈ wsX8_told := by decide +kernel
set_option maxRecDepth 20000 in
theorem fw_X8_told_108 : Cond.fieldLink RX8 108 "StepBenchModel" "sort" "I" ∈ wsX8_told := by decide +kernel
set_option maxRecDepth 20000 in
theorem fw_X8_told_105 : Cond.fieldLink RX8 105 "StepBenchModel" "m" "I" ∈ wsX8_told := by decide +kernel
set_option maxRecDepth 20000 in
theorem fw_X8_told_111 : Cond.fieldLink RX8 111 "StepBenchModel" "fractions" "I" ∈ wsX8_told := by decide +kernel
set_option maxRecDepth 20000 in
theorem fw_X8_told_23 : Cond.fieldLink RX8 23 "StepBenchModel" "p" "[J" ∈ wsX8_told := by decide +kernel
set_option maxRecDepth 20000 in
theorem fw_X8_told_26 : Cond.fieldLink RX8 26 "StepBenchModel" "q" "[J" ∈ wsX8_told := by decide +kernel
set_option maxRecDepth 20000 in
theorem cw_X8_told_72 : Cond.constantLong RX8 72 2 ∈ wsX8_told := by decide +kernel
set_option maxRecDepth 20000 in
theorem fw_X8_told_20 : Cond.fieldLink RX8 20 "StepBenchModel" "rule" "[J" ∈ wsX8_told := by decide +kernel
set_option maxRecDepth 20000 in
theorem hd_X8_told : yX8_told.cls = RX8 ∧ yX8_told.cls ≠ "java/lang/invoke/MethodHandle" ∧ yX8_told.cls ≠ "java/lang/invoke/VarHandle" ∧ (parseMethodDescriptor yX8_told.desc).map (fun d => d.parameters.length) = some 2 := by decide +kernel
def V_X8_told  (p0 : Int32) (p1 : Int32) (S : SS) (post : Int64 → SS → Prop) : Prop :=
  (∀ S1 : SS, S1 = (sI S 20 (0 : Int32)) → (((gI S1 25) = (1 : Int32) → (V_X8_in p0.toInt64 (0 : Int64) (((gI S1 26) - (1 : Int32)).toInt64) S1 (fun (r3 : Int32) (S4 : SS) => ((r3 = 0 → (((gI S4 25) = (2 : Int32) → (V_X8_in p0.toInt64 (0 : Int64) (((gI S4 27) - (1 : Int32)).toInt64) S4 (fun (r7 : Int32) (S8 : SS) => ((r7 = 0 → (V_X8_refuse (1 : Int32) S8 (fun (r10 : Int64) (S11 : SS) => (post r10 S11)))) ∧ (¬ r7 = 0 → (V_X8_in p1.toInt64 (0 : Int64) (1 : Int64) S8 (fun (r12 : Int32) (S13 : SS) => ((r12 = 0 → (V_X8_refuse (1 : Int32) S13 (fun (r15 : Int64) (S16 : SS) => (post r15 S16)))) ∧ (¬ r12 = 0 → ((p1 = 0 → (vp_in p0 40 ∧ (post (gA S13 33 p0.toNatClampNeg) S13))) ∧ (¬ p1 = 0 → (vp_in p0 40 ∧ (post (gA S13 34 p0.toNatClampNeg) S13))))))))))))) ∧ (¬ (gI S4 25) = (2 : Int32) → (V_X8_refuse (1 : Int32) S4 (fun (r18 : Int64) (S19 : SS) => (post r18 S19)))))) ∧ (¬ r3 = 0 → (V_X8_in p1.toInt64 (0 : Int64) (2 : Int64) S4 (fun (r20 : Int32) (S21 : SS) => ((r20 = 0 → (((gI S21 25) = (2 : Int32) → (V_X8_in p0.toInt64 (0 : Int64) (((gI S21 27) - (1 : Int32)).toInt64) S21 (fun (r24 : Int32) (S25 : SS) => ((r24 = 0 → (V_X8_refuse (1 : Int32) S25 (fun (r27 : Int64) (S28 : SS) => (post r27 S28)))) ∧ (¬ r24 = 0 → (V_X8_in p1.toInt64 (0 : Int64) (1 : Int64) S25 (fun (r29 : Int32) (S30 : SS) => ((r29 = 0 → (V_X8_refuse (1 : Int32) S30 (fun (r32 : Int64) (S33 : SS) => (post r32 S33)))) ∧ (¬ r29 = 0 → ((p1 = 0 → (vp_in p0 40 ∧ (post (gA S30 33 p0.toNatClampNeg) S30))) ∧ (¬ p1 = 0 → (vp_in p0 40 ∧ (post (gA S30 34 p0.toNatClampNeg) S30))))))))))))) ∧ (¬ (gI S21 25) = (2 : Int32) → (V_X8_refuse (1 : Int32) S21 (fun (r35 : Int64) (S36 : SS) => (post r35 S36)))))) ∧ (¬ r20 = 0 → (vp_in (((3 : Int32) * p0) + p1) 192 ∧ (post (gA S21 32 (((3 : Int32) * p0) + p1).toNatClampNeg) S21))))))))))) ∧ (¬ (gI S1 25) = (1 : Int32) → (((gI S1 25) = (2 : Int32) → (V_X8_in p0.toInt64 (0 : Int64) (((gI S1 27) - (1 : Int32)).toInt64) S1 (fun (r38 : Int32) (S39 : SS) => ((r38 = 0 → (V_X8_refuse (1 : Int32) S39 (fun (r41 : Int64) (S42 : SS) => (post r41 S42)))) ∧ (¬ r38 = 0 → (V_X8_in p1.toInt64 (0 : Int64) (1 : Int64) S39 (fun (r43 : Int32) (S44 : SS) => ((r43 = 0 → (V_X8_refuse (1 : Int32) S44 (fun (r46 : Int64) (S47 : SS) => (post r46 S47)))) ∧ (¬ r43 = 0 → ((p1 = 0 → (vp_in p0 40 ∧ (post (gA S44 33 p0.toNatClampNeg) S44))) ∧ (¬ p1 = 0 → (vp_in p0 40 ∧ (post (gA S44 34 p0.toNatClampNeg) S44))))))))))))) ∧ (¬ (gI S1 25) = (2 : Int32) → (V_X8_refuse (1 : Int32) S1 (fun (r49 : Int64) (S50 : SS) => (post r49 S50))))))))
set_option maxHeartbeats 4000000 in
set_option maxRecDepth 100000 in
theorem c_X8_told  {S : SS} {p0 : Int32} {p1 : Int32} {post : Int64 → SS → Prop} (hV : V_X8_told  p0 p1 S post) : ML l yX8_told wsX8_told rm_X8_told [.ref (ad 48), .int p0, .int p1] D n0 ad cI cJ X S post := by
  refine Met.ofW (cc := cX8_told) (maxL := 3) (ret := (some .long)) (by decide) rfl ?_
  intro p e s m args below meth c s₁ B hml hv
  obtain ⟨rfl, hv⟩ := hv
  have C0 := Bd.mk B hml (atoms_spec (ws := wsX8_told) B.pre) (findClass_of_methodNamed B.named) hv.1
  have hw : Wh D n0 ad cI cJ X S s s.heap [] := ⟨hv.2.1, hv.2.2, va_S.rf⟩
  refine r_entry (Nat.le_of_ble_eq_true rfl) (fun ls hl => ?_)
  have hl : lv_has ls 3 [(0, .ref (ad 48)), (1, .int p0), (2, .int p1)] := hl
  unfold V_X8_told at hV
  refine lv_aload_n C0.x C0.b dX8_told_0 rfl (lv_at hl 0 rfl) ?_
  refine lv_iconst (v := 0) C0.x C0.b dX8_told_1 (by decide) ?_
  refine r_put C0 hw (C := RX8) (T := TX8) (N := 33) (ty := .int) iw_X8_told_X8 tyX8 tyX8_ok nmX8 (lg_48 ad cI cJ X S) rfl 0 (by decide) (C0.ts _ fw_X8_told_61) rfl (by decide +kernel) rfl rfl (Nat.le_of_ble_eq_true rfl) dX8_told_2 (S' := (sI S 20 (0 : Int32))) (ls_48_0 ad cI cJ X S (0 : Int32)) (fun S1 H locs eS1 hw => ?_)
  have hV := hV S1 eS1
  refine lv_aload_n C0.x C0.b dX8_told_5 rfl (lv_at hl 0 rfl) ?_
  refine r_get C0 hw (C := RX8) (T := TX8) (N := 33) (v := .int (gI S1 25)) iw_X8_told_X8 (lg_48 ad cI cJ X S1) rfl 7 (by decide) (C0.ts _ fw_X8_told_108) rfl dX8_told_6 ?_
  refine lv_iconst (v := 1) C0.x C0.b dX8_told_9 (by decide) ?_
  refine lv_icmp_ne (tgt := 52) C0.x C0.b dX8_told_10 (by decide) (fun c2 => ?_) (fun c2 => ?_)
  · have hV := hV.2 c2
    refine lv_aload_n C0.x C0.b dX8_told_52 rfl (lv_at hl 0 rfl) ?_
    refine r_get C0 hw (C := RX8) (T := TX8) (N := 33) (v := .int (gI S1 25)) iw_X8_told_X8 (lg_48 ad cI cJ X S1) rfl 7 (by decide) (C0.ts _ fw_X8_told_108) rfl dX8_told_53 ?_
    refine lv_iconst (v := 2) C0.x C0.b dX8_told_56 (by decide) ?_
    refine lv_icmp_ne (tgt := 106) C0.x C0.b dX8_told_57 (by decide) (fun c37 => ?_) (fun c37 => ?_)
    · have hV := hV.2 c37
      refine lv_aload_n C0.x C0.b dX8_told_106 rfl (lv_at hl 0 rfl) ?_
      refine lv_iconst (v := 1) C0.x C0.b dX8_told_107 (by decide) ?_
      refine r_cV_l (As := [.int (1 : Int32)]) (rest := []) C0 hw (c_X8_refuse  hV) (cwV 1 C0.ts gX8_told_X8_refuse rfl rfl rfl hd_X8_refuse ⟨Nat.le_of_ble_eq_true rfl, Nat.le_of_ble_eq_true rfl⟩) (lg_48 ad cI cJ X S1) rfl rfl hl.1 rfl (Nat.le_of_ble_eq_true rfl) ⟨Nat.zero_le _, Nat.zero_le _⟩ dX8_told_108 (fun r49 S50 H locs hV hw => ?_)
      exact r_lret C0 rfl hw hV dX8_told_111
    · have hV := hV.1 c37
      refine lv_iload_n C0.x C0.b dX8_told_60 rfl (lv_at hl 1 rfl) ?_
      refine lv_i2l C0.x C0.b dX8_told_61 rfl ?_
      refine lv_lconst (v := 0) C0.x C0.b dX8_told_62 (by decide) ?_
      refine lv_aload_n C0.x C0.b dX8_told_63 rfl (lv_at hl 0 rfl) ?_
      refine r_get C0 hw (C := RX8) (T := TX8) (N := 33) (v := .int (gI S1 27)) iw_X8_told_X8 (lg_48 ad cI cJ X S1) rfl 10 (by decide) (C0.ts _ fw_X8_told_111) rfl dX8_told_64 ?_
      refine lv_iconst (v := 1) C0.x C0.b dX8_told_67 (by decide) ?_
      refine lv_isub C0.x C0.b dX8_told_68 ?_
      refine lv_i2l C0.x C0.b dX8_told_69 rfl ?_
      refine r_cS_i (As := [.long p0.toInt64, .long (0 : Int64), .long ((gI S1 27) - (1 : Int32)).toInt64]) (rest := []) C0 hw (c_X8_in  hV) (va_cwS 3 C0.ts gX8_told_X8_in rfl rfl rfl hd_X8_in ⟨Nat.le_of_ble_eq_true rfl, Nat.le_of_ble_eq_true rfl⟩) rfl hl.1 rfl (Nat.le_of_ble_eq_true rfl) ⟨Nat.zero_le _, Nat.zero_le _⟩ dX8_told_70 (fun r38 S39 H locs hV hw => ?_)
      refine lv_if_eq (tgt := 106) C0.x C0.b dX8_told_73 (by decide) (fun c40 => ?_) (fun c40 => ?_)
      · have hV := hV.1 c40
        refine lv_aload_n C0.x C0.b dX8_told_106 rfl (lv_at hl 0 rfl) ?_
        refine lv_iconst (v := 1) C0.x C0.b dX8_told_107 (by decide) ?_
        refine r_cV_l (As := [.int (1 : Int32)]) (rest := []) C0 hw (c_X8_refuse  hV) (cwV 1 C0.ts gX8_told_X8_refuse rfl rfl rfl hd_X8_refuse ⟨Nat.le_of_ble_eq_true rfl, Nat.le_of_ble_eq_true rfl⟩) (lg_48 ad cI cJ X S39) rfl rfl hl.1 rfl (Nat.le_of_ble_eq_true rfl) ⟨Nat.zero_le _, Nat.zero_le _⟩ dX8_told_108 (fun r41 S42 H locs hV hw => ?_)
        exact r_lret C0 rfl hw hV dX8_told_111
      · have hV := hV.2 c40
        refine lv_iload_n C0.x C0.b dX8_told_76 rfl (lv_at hl 2 rfl) ?_
        refine lv_i2l C0.x C0.b dX8_told_77 rfl ?_
        refine lv_lconst (v := 0) C0.x C0.b dX8_told_78 (by decide) ?_
        refine lv_lconst (v := 1) C0.x C0.b dX8_told_79 (by decide) ?_
        refine r_cS_i (As := [.long p1.toInt64, .long (0 : Int64), .long (1 : Int64)]) (rest := []) C0 hw (c_X8_in  hV) (va_cwS 3 C0.ts gX8_told_X8_in rfl rfl rfl hd_X8_in ⟨Nat.le_of_ble_eq_true rfl, Nat.le_of_ble_eq_true rfl⟩) rfl hl.1 rfl (Nat.le_of_ble_eq_true rfl) ⟨Nat.zero_le _, Nat.zero_le _⟩ dX8_told_80 (fun r43 S44 H locs hV hw => ?_)
        refine lv_if_eq (tgt := 106) C0.x C0.b dX8_told_83 (by decide) (fun c45 => ?_) (fun c45 => ?_)
        · have hV := hV.1 c45
          refine lv_aload_n C0.x C0.b dX8_told_106 rfl (lv_at hl 0 rfl) ?_
          refine lv_iconst (v := 1) C0.x C0.b dX8_told_107 (by decide) ?_
          refine r_cV_l (As := [.int (1 : Int32)]) (rest := []) C0 hw (c_X8_refuse  hV) (cwV 1 C0.ts gX8_told_X8_refuse rfl rfl rfl hd_X8_refuse ⟨Nat.le_of_ble_eq_true rfl, Nat.le_of_ble_eq_true rfl⟩) (lg_48 ad cI cJ X S44) rfl rfl hl.1 rfl (Nat.le_of_ble_eq_true rfl) ⟨Nat.zero_le _, Nat.zero_le _⟩ dX8_told_108 (fun r46 S47 H locs hV hw => ?_)
          exact r_lret C0 rfl hw hV dX8_told_111
        · have hV := hV.2 c45
          refine lv_iload_n C0.x C0.b dX8_told_86 rfl (lv_at hl 2 rfl) ?_
          refine lv_if_ne (tgt := 99) C0.x C0.b dX8_told_87 (by decide) (fun c48 => ?_) (fun c48 => ?_)
          · have hV := hV.2 c48
            refine lv_aload_n C0.x C0.b dX8_told_99 rfl (lv_at hl 0 rfl) ?_
            refine r_get C0 hw (C := RX8) (T := TX8) (N := 33) (v := .ref (ad 53)) iw_X8_told_X8 (lg_48 ad cI cJ X S44) rfl 12 (by decide) (C0.ts _ fw_X8_told_26) rfl dX8_told_100 ?_
            refine lv_iload_n C0.x C0.b dX8_told_103 rfl (lv_at hl 1 rfl) ?_
            refine r_lald C0 hw (lg_53 ad cI cJ X S44) hV.1 dX8_told_104 ?_
            have hV := hV.2
            exact r_lret C0 rfl hw hV dX8_told_105
          · have hV := hV.1 c48
            refine lv_aload_n C0.x C0.b dX8_told_90 rfl (lv_at hl 0 rfl) ?_
            refine r_get C0 hw (C := RX8) (T := TX8) (N := 33) (v := .ref (ad 52)) iw_X8_told_X8 (lg_48 ad cI cJ X S44) rfl 11 (by decide) (C0.ts _ fw_X8_told_23) rfl dX8_told_91 ?_
            refine lv_iload_n C0.x C0.b dX8_told_94 rfl (lv_at hl 1 rfl) ?_
            refine r_lald C0 hw (lg_52 ad cI cJ X S44) hV.1 dX8_told_95 ?_
            have hV := hV.2
            refine lv_goto (tgt := 105) C0.x C0.b dX8_told_96 (by decide) ?_
            exact r_lret C0 rfl hw hV dX8_told_105
  · have hV := hV.1 c2
    refine lv_iload_n C0.x C0.b dX8_told_13 rfl (lv_at hl 1 rfl) ?_
    refine lv_i2l C0.x C0.b dX8_told_14 rfl ?_
    refine lv_lconst (v := 0) C0.x C0.b dX8_told_15 (by decide) ?_
    refine lv_aload_n C0.x C0.b dX8_told_16 rfl (lv_at hl 0 rfl) ?_
    refine r_get C0 hw (C := RX8) (T := TX8) (N := 33) (v := .int (gI S1 26)) iw_X8_told_X8 (lg_48 ad cI cJ X S1) rfl 8 (by decide) (C0.ts _ fw_X8_told_105) rfl dX8_told_17 ?_
    refine lv_iconst (v := 1) C0.x C0.b dX8_told_20 (by decide) ?_
    refine lv_isub C0.x C0.b dX8_told_21 ?_
    refine lv_i2l C0.x C0.b dX8_told_22 rfl ?_
    refine r_cS_i (As := [.long p0.toInt64, .long (0 : Int64), .long ((gI S1 26) - (1 : Int32)).toInt64]) (rest := []) C0 hw (c_X8_in  hV) (va_cwS 3 C0.ts gX8_told_X8_in rfl rfl rfl hd_X8_in ⟨Nat.le_of_ble_eq_true rfl, Nat.le_of_ble_eq_true rfl⟩) rfl hl.1 rfl (Nat.le_of_ble_eq_true rfl) ⟨Nat.zero_le _, Nat.zero_le _⟩ dX8_told_23 (fun r3 S4 H locs hV hw => ?_)
    refine lv_if_eq (tgt := 52) C0.x C0.b dX8_told_26 (by decide) (fun c5 => ?_) (fun c5 => ?_)
    · have hV := hV.1 c5
      refine lv_aload_n C0.x C0.b dX8_told_52 rfl (lv_at hl 0 rfl) ?_
      refine r_get C0 hw (C := RX8) (T := TX8) (N := 33) (v := .int (gI S4 25)) iw_X8_told_X8 (lg_48 ad cI cJ X S4) rfl 7 (by decide) (C0.ts _ fw_X8_told_108) rfl dX8_told_53 ?_
      refine lv_iconst (v := 2) C0.x C0.b dX8_told_56 (by decide) ?_
      refine lv_icmp_ne (tgt := 106) C0.x C0.b dX8_told_57 (by decide) (fun c6 => ?_) (fun c6 => ?_)
      · have hV := hV.2 c6
        refine lv_aload_n C0.x C0.b dX8_told_106 rfl (lv_at hl 0 rfl) ?_
        refine lv_iconst (v := 1) C0.x C0.b dX8_told_107 (by decide) ?_
        refine r_cV_l (As := [.int (1 : Int32)]) (rest := []) C0 hw (c_X8_refuse  hV) (cwV 1 C0.ts gX8_told_X8_refuse rfl rfl rfl hd_X8_refuse ⟨Nat.le_of_ble_eq_true rfl, Nat.le_of_ble_eq_true rfl⟩) (lg_48 ad cI cJ X S4) rfl rfl hl.1 rfl (Nat.le_of_ble_eq_true rfl) ⟨Nat.zero_le _, Nat.zero_le _⟩ dX8_told_108 (fun r18 S19 H locs hV hw => ?_)
        exact r_lret C0 rfl hw hV dX8_told_111
      · have hV := hV.1 c6
        refine lv_iload_n C0.x C0.b dX8_told_60 rfl (lv_at hl 1 rfl) ?_
        refine lv_i2l C0.x C0.b dX8_told_61 rfl ?_
        refine lv_lconst (v := 0) C0.x C0.b dX8_told_62 (by decide) ?_
        refine lv_aload_n C0.x C0.b dX8_told_63 rfl (lv_at hl 0 rfl) ?_
        refine r_get C0 hw (C := RX8) (T := TX8) (N := 33) (v := .int (gI S4 27)) iw_X8_told_X8 (lg_48 ad cI cJ X S4) rfl 10 (by decide) (C0.ts _ fw_X8_told_111) rfl dX8_told_64 ?_
        refine lv_iconst (v := 1) C0.x C0.b dX8_told_67 (by decide) ?_
        refine lv_isub C0.x C0.b dX8_told_68 ?_
        refine lv_i2l C0.x C0.b dX8_told_69 rfl ?_
        refine r_cS_i (As := [.long p0.toInt64, .long (0 : Int64), .long ((gI S4 27) - (1 : Int32)).toInt64]) (rest := []) C0 hw (c_X8_in  hV) (va_cwS 3 C0.ts gX8_told_X8_in rfl rfl rfl hd_X8_in ⟨Nat.le_of_ble_eq_true rfl, Nat.le_of_ble_eq_true rfl⟩) rfl hl.1 rfl (Nat.le_of_ble_eq_true rfl) ⟨Nat.zero_le _, Nat.zero_le _⟩ dX8_told_70 (fun r7 S8 H locs hV hw => ?_)
        refine lv_if_eq (tgt := 106) C0.x C0.b dX8_told_73 (by decide) (fun c9 => ?_) (fun c9 => ?_)
        · have hV := hV.1 c9
          refine lv_aload_n C0.x C0.b dX8_told_106 rfl (lv_at hl 0 rfl) ?_
          refine lv_iconst (v := 1) C0.x C0.b dX8_told_107 (by decide) ?_
          refine r_cV_l (As := [.int (1 : Int32)]) (rest := []) C0 hw (c_X8_refuse  hV) (cwV 1 C0.ts gX8_told_X8_refuse rfl rfl rfl hd_X8_refuse ⟨Nat.le_of_ble_eq_true rfl, Nat.le_of_ble_eq_true rfl⟩) (lg_48 ad cI cJ X S8) rfl rfl hl.1 rfl (Nat.le_of_ble_eq_true rfl) ⟨Nat.zero_le _, Nat.zero_le _⟩ dX8_told_108 (fun r10 S11 H locs hV hw => ?_)
          exact r_lret C0 rfl hw hV dX8_told_111
        · have hV := hV.2 c9
          refine lv_iload_n C0.x C0.b dX8_told_76 rfl (lv_at hl 2 rfl) ?_
          refine lv_i2l C0.x C0.b dX8_told_77 rfl ?_
          refine lv_lconst (v := 0) C0.x C0.b dX8_told_78 (by decide) ?_
          refine lv_lconst (v := 1) C0.x C0.b dX8_told_79 (by decide) ?_
          refine r_cS_i (As := [.long p1.toInt64, .long (0 : Int64), .long (1 : Int64)]) (rest := []) C0 hw (c_X8_in  hV) (va_cwS 3 C0.ts gX8_told_X8_in rfl rfl rfl hd_X8_in ⟨Nat.le_of_ble_eq_true rfl, Nat.le_of_ble_eq_true rfl⟩) rfl hl.1 rfl (Nat.le_of_ble_eq_true rfl) ⟨Nat.zero_le _, Nat.zero_le _⟩ dX8_told_80 (fun r12 S13 H locs hV hw => ?_)
          refine lv_if_eq (tgt := 106) C0.x C0.b dX8_told_83 (by decide) (fun c14 => ?_) (fun c14 => ?_)
          · have hV := hV.1 c14
            refine lv_aload_n C0.x C0.b dX8_told_106 rfl (lv_at hl 0 rfl) ?_
            refine lv_iconst (v := 1) C0.x C0.b dX8_told_107 (by decide) ?_
            refine r_cV_l (As := [.int (1 : Int32)]) (rest := []) C0 hw (c_X8_refuse  hV) (cwV 1 C0.ts gX8_told_X8_refuse rfl rfl rfl hd_X8_refuse ⟨Nat.le_of_ble_eq_true rfl, Nat.le_of_ble_eq_true rfl⟩) (lg_48 ad cI cJ X S13) rfl rfl hl.1 rfl (Nat.le_of_ble_eq_true rfl) ⟨Nat.zero_le _, Nat.zero_le _⟩ dX8_told_108 (fun r15 S16 H locs hV hw => ?_)
            exact r_lret C0 rfl hw hV dX8_told_111
          · have hV := hV.2 c14
            refine lv_iload_n C0.x C0.b dX8_told_86 rfl (lv_at hl 2 rfl) ?_
            refine lv_if_ne (tgt := 99) C0.x C0.b dX8_told_87 (by decide) (fun c17 => ?_) (fun c17 => ?_)
            · have hV := hV.2 c17
              refine lv_aload_n C0.x C0.b dX8_told_99 rfl (lv_at hl 0 rfl) ?_
              refine r_get C0 hw (C := RX8) (T := TX8) (N := 33) (v := .ref (ad 53)) iw_X8_told_X8 (lg_48 ad cI cJ X S13) rfl 12 (by decide) (C0.ts _ fw_X8_told_26) rfl dX8_told_100 ?_
              refine lv_iload_n C0.x C0.b dX8_told_103 rfl (lv_at hl 1 rfl) ?_
              refine r_lald C0 hw (lg_53 ad cI cJ X S13) hV.1 dX8_told_104 ?_
              have hV := hV.2
              exact r_lret C0 rfl hw hV dX8_told_105
            · have hV := hV.1 c17
              refine lv_aload_n C0.x C0.b dX8_told_90 rfl (lv_at hl 0 rfl) ?_
              refine r_get C0 hw (C := RX8) (T := TX8) (N := 33) (v := .ref (ad 52)) iw_X8_told_X8 (lg_48 ad cI cJ X S13) rfl 11 (by decide) (C0.ts _ fw_X8_told_23) rfl dX8_told_91 ?_
              refine lv_iload_n C0.x C0.b dX8_told_94 rfl (lv_at hl 1 rfl) ?_
              refine r_lald C0 hw (lg_52 ad cI cJ X S13) hV.1 dX8_told_95 ?_
              have hV := hV.2
              refine lv_goto (tgt := 105) C0.x C0.b dX8_told_96 (by decide) ?_
              exact r_lret C0 rfl hw hV dX8_told_105
    · have hV := hV.2 c5
      refine lv_iload_n C0.x C0.b dX8_told_29 rfl (lv_at hl 2 rfl) ?_
      refine lv_i2l C0.x C0.b dX8_told_30 rfl ?_
      refine lv_lconst (v := 0) C0.x C0.b dX8_told_31 (by decide) ?_
      refine lv_ldc2 (v := 2) C0.x C0.b C0.ow (C0.ts _ cw_X8_told_72) dX8_told_32 ?_
      refine r_cS_i (As := [.long p1.toInt64, .long (0 : Int64), .long (2 : Int64)]) (rest := []) C0 hw (c_X8_in  hV) (va_cwS 3 C0.ts gX8_told_X8_in rfl rfl rfl hd_X8_in ⟨Nat.le_of_ble_eq_true rfl, Nat.le_of_ble_eq_true rfl⟩) rfl hl.1 rfl (Nat.le_of_ble_eq_true rfl) ⟨Nat.zero_le _, Nat.zero_le _⟩ dX8_told_35 (fun r20 S21 H locs hV hw => ?_)
      refine lv_if_eq (tgt := 52) C0.x C0.b dX8_told_38 (by decide) (fun c22 => ?_) (fun c22 => ?_)
      · have hV := hV.1 c22
        refine lv_aload_n C0.x C0.b dX8_told_52 rfl (lv_at hl 0 rfl) ?_
        refine r_get C0 hw (C := RX8) (T := TX8) (N := 33) (v := .int (gI S21 25)) iw_X8_told_X8 (lg_48 ad cI cJ X S21) rfl 7 (by decide) (C0.ts _ fw_X8_told_108) rfl dX8_told_53 ?_
        refine lv_iconst (v := 2) C0.x C0.b dX8_told_56 (by decide) ?_
        refine lv_icmp_ne (tgt := 106) C0.x C0.b dX8_told_57 (by decide) (fun c23 => ?_) (fun c23 => ?_)
        · have hV := hV.2 c23
          refine lv_aload_n C0.x C0.b dX8_told_106 rfl (lv_at hl 0 rfl) ?_
          refine lv_iconst (v := 1) C0.x C0.b dX8_told_107 (by decide) ?_
          refine r_cV_l (As := [.int (1 : Int32)]) (rest := []) C0 hw (c_X8_refuse  hV) (cwV 1 C0.ts gX8_told_X8_refuse rfl rfl rfl hd_X8_refuse ⟨Nat.le_of_ble_eq_true rfl, Nat.le_of_ble_eq_true rfl⟩) (lg_48 ad cI cJ X S21) rfl rfl hl.1 rfl (Nat.le_of_ble_eq_true rfl) ⟨Nat.zero_le _, Nat.zero_le _⟩ dX8_told_108 (fun r35 S36 H locs hV hw => ?_)
          exact r_lret C0 rfl hw hV dX8_told_111
        · have hV := hV.1 c23
          refine lv_iload_n C0.x C0.b dX8_told_60 rfl (lv_at hl 1 rfl) ?_
          refine lv_i2l C0.x C0.b dX8_told_61 rfl ?_
          refine lv_lconst (v := 0) C0.x C0.b dX8_told_62 (by decide) ?_
          refine lv_aload_n C0.x C0.b dX8_told_63 rfl (lv_at hl 0 rfl) ?_
          refine r_get C0 hw (C := RX8) (T := TX8) (N := 33) (v := .int (gI S21 27)) iw_X8_told_X8 (lg_48 ad cI cJ X S21) rfl 10 (by decide) (C0.ts _ fw_X8_told_111) rfl dX8_told_64 ?_
          refine lv_iconst (v := 1) C0.x C0.b dX8_told_67 (by decide) ?_
          refine lv_isub C0.x C0.b dX8_told_68 ?_
          refine lv_i2l C0.x C0.b dX8_told_69 rfl ?_
          refine r_cS_i (As := [.long p0.toInt64, .long (0 : Int64), .long ((gI S21 27) - (1 : Int32)).toInt64]) (rest := []) C0 hw (c_X8_in  hV) (va_cwS 3 C0.ts gX8_told_X8_in rfl rfl rfl hd_X8_in ⟨Nat.le_of_ble_eq_true rfl, Nat.le_of_ble_eq_true rfl⟩) rfl hl.1 rfl (Nat.le_of_ble_eq_true rfl) ⟨Nat.zero_le _, Nat.zero_le _⟩ dX8_told_70 (fun r24 S25 H locs hV hw => ?_)
          refine lv_if_eq (tgt := 106) C0.x C0.b dX8_told_73 (by decide) (fun c26 => ?_) (fun c26 => ?_)
          · have hV := hV.1 c26
            refine lv_aload_n C0.x C0.b dX8_told_106 rfl (lv_at hl 0 rfl) ?_
            refine lv_iconst (v := 1) C0.x C0.b dX8_told_107 (by decide) ?_
            refine r_cV_l (As := [.int (1 : Int32)]) (rest := []) C0 hw (c_X8_refuse  hV) (cwV 1 C0.ts gX8_told_X8_refuse rfl rfl rfl hd_X8_refuse ⟨Nat.le_of_ble_eq_true rfl, Nat.le_of_ble_eq_true rfl⟩) (lg_48 ad cI cJ X S25) rfl rfl hl.1 rfl (Nat.le_of_ble_eq_true rfl) ⟨Nat.zero_le _, Nat.zero_le _⟩ dX8_told_108 (fun r27 S28 H locs hV hw => ?_)
            exact r_lret C0 rfl hw hV dX8_told_111
          · have hV := hV.2 c26
            refine lv_iload_n C0.x C0.b dX8_told_76 rfl (lv_at hl 2 rfl) ?_
            refine lv_i2l C0.x C0.b dX8_told_77 rfl ?_
            refine lv_lconst (v := 0) C0.x C0.b dX8_told_78 (by decide) ?_
            refine lv_lconst (v := 1) C0.x C0.b dX8_told_79 (by decide) ?_
            refine r_cS_i (As := [.long p1.toInt64, .long (0 : Int64), .long (1 : Int64)]) (rest := []) C0 hw (c_X8_in  hV) (va_cwS 3 C0.ts gX8_told_X8_in rfl rfl rfl hd_X8_in ⟨Nat.le_of_ble_eq_true rfl, Nat.le_of_ble_eq_true rfl⟩) rfl hl.1 rfl (Nat.le_of_ble_eq_true rfl) ⟨Nat.zero_le _, Nat.zero_le _⟩ dX8_told_80 (fun r29 S30 H locs hV hw => ?_)
            refine lv_if_eq (tgt := 106) C0.x C0.b dX8_told_83 (by decide) (fun c31 => ?_) (fun c31 => ?_)
            · have hV := hV.1 c31
              refine lv_aload_n C0.x C0.b dX8_told_106 rfl (lv_at hl 0 rfl) ?_
              refine lv_iconst (v := 1) C0.x C0.b dX8_told_107 (by decide) ?_
              refine r_cV_l (As := [.int (1 : Int32)]) (rest := []) C0 hw (c_X8_refuse  hV) (cwV 1 C0.ts gX8_told_X8_refuse rfl rfl rfl hd_X8_refuse ⟨Nat.le_of_ble_eq_true rfl, Nat.le_of_ble_eq_true rfl⟩) (lg_48 ad cI cJ X S30) rfl rfl hl.1 rfl (Nat.le_of_ble_eq_true rfl) ⟨Nat.zero_le _, Nat.zero_le _⟩ dX8_told_108 (fun r32 S33 H locs hV hw => ?_)
              exact r_lret C0 rfl hw hV dX8_told_111
            · have hV := hV.2 c31
              refine lv_iload_n C0.x C0.b dX8_told_86 rfl (lv_at hl 2 rfl) ?_
              refine lv_if_ne (tgt := 99) C0.x C0.b dX8_told_87 (by decide) (fun c34 => ?_) (fun c34 => ?_)
              · have hV := hV.2 c34
                refine lv_aload_n C0.x C0.b dX8_told_99 rfl (lv_at hl 0 rfl) ?_
                refine r_get C0 hw (C := RX8) (T := TX8) (N := 33) (v := .ref (ad 53)) iw_X8_told_X8 (lg_48 ad cI cJ X S30) rfl 12 (by decide) (C0.ts _ fw_X8_told_26) rfl dX8_told_100 ?_
                refine lv_iload_n C0.x C0.b dX8_told_103 rfl (lv_at hl 1 rfl) ?_
                refine r_lald C0 hw (lg_53 ad cI cJ X S30) hV.1 dX8_told_104 ?_
                have hV := hV.2
                exact r_lret C0 rfl hw hV dX8_told_105
              · have hV := hV.1 c34
                refine lv_aload_n C0.x C0.b dX8_told_90 rfl (lv_at hl 0 rfl) ?_
                refine r_get C0 hw (C := RX8) (T := TX8) (N := 33) (v := .ref (ad 52)) iw_X8_told_X8 (lg_48 ad cI cJ X S30) rfl 11 (by decide) (C0.ts _ fw_X8_told_23) rfl dX8_told_91 ?_
                refine lv_iload_n C0.x C0.b dX8_told_94 rfl (lv_at hl 1 rfl) ?_
                refine r_lald C0 hw (lg_52 ad cI cJ X S30) hV.1 dX8_told_95 ?_
                have hV := hV.2
                refine lv_goto (tgt := 105) C0.x C0.b dX8_told_96 (by decide) ?_
                exact r_lret C0 rfl hw hV dX8_told_105
      · have hV := hV.2 c22
        refine lv_aload_n C0.x C0.b dX8_told_41 rfl (lv_at hl 0 rfl) ?_
        refine r_get C0 hw (C := RX8) (T := TX8) (N := 33) (v := .ref (ad 51)) iw_X8_told_X8 (lg_48 ad cI cJ X S21) rfl 9 (by decide) (C0.ts _ fw_X8_told_20) rfl dX8_told_42 ?_
        refine lv_iconst (v := 3) C0.x C0.b dX8_told_45 (by decide) ?_
        refine lv_iload_n C0.x C0.b dX8_told_46 rfl (lv_at hl 1 rfl) ?_
        refine lv_imul C0.x C0.b dX8_told_47 ?_
        refine lv_iload_n C0.x C0.b dX8_told_48 rfl (lv_at hl 2 rfl) ?_
        refine lv_iadd C0.x C0.b dX8_told_49 ?_
        refine r_lald C0 hw (lg_51 ad cI cJ X S21) hV.1 dX8_told_50 ?_
        have hV := hV.2
        exact r_lret C0 rfl hw hV dX8_told_51
/-! StepBenchModel.restBy(JI)J -/
abbrev rm_X8_restBy : Room := { frames := 1, cells := 0, slots := 0, locals := 25 }
set_option maxRecDepth 20000 in
theorem hd_X8_restBy : yX8_restBy.cls ≠ "java/lang/invoke/MethodHandle" ∧ yX8_restBy.cls ≠ "java/lang/invoke/VarHandle" ∧ (parseMethodDescriptor yX8_restBy.desc).map (fun d => d.parameters.length) = some 2 := by decide +kernel
def V_X8_restBy  (p0 : Int64) (p1 : Int32) (S : SS) (post : Int64 → SS → Prop) : Prop :=
  (V_J9_floorMod_f86c9 p0 p1.toInt64 S (fun (r1 : Int64) (S2 : SS) => (post r1 S2)))
set_option maxHeartbeats 4000000 in
set_option maxRecDepth 100000 in
theorem c_X8_restBy  {S : SS} {p0 : Int64} {p1 : Int32} {post : Int64 → SS → Prop} (hV : V_X8_restBy  p0 p1 S post) : ML l yX8_restBy wsX8_restBy rm_X8_restBy [.long p0, .int p1] D n0 ad cI cJ X S post := by
  refine Met.ofW (cc := cX8_restBy) (maxL := 3) (ret := (some .long)) (by decide) rfl ?_
  intro p e s m args below meth c s₁ B hml hv
  obtain ⟨rfl, hv⟩ := hv
  have C0 := Bd.mk B hml (atoms_spec (ws := wsX8_restBy) B.pre) (findClass_of_methodNamed B.named) hv.1
  have hw : Wh D n0 ad cI cJ X S s s.heap [] := ⟨hv.2.1, hv.2.2, va_S.rf⟩
  refine r_entry (Nat.le_of_ble_eq_true rfl) (fun ls hl => ?_)
  have hl : lv_has ls 3 [(0, .long p0), (2, .int p1)] := hl
  unfold V_X8_restBy at hV
  refine lv_lload_n C0.x C0.b dX8_restBy_0 rfl (lv_at hl 0 rfl) ?_
  refine lv_iload_n C0.x C0.b dX8_restBy_1 rfl (lv_at hl 1 rfl) ?_
  refine lv_i2l C0.x C0.b dX8_restBy_2 rfl ?_
  refine r_cS_l (As := [.long p0, .long p1.toInt64]) (rest := []) C0 hw (c_J9_floorMod_f86c9  hV) (va_cwS 2 C0.ts gX8_restBy_J9_floorMod_f86c9 rfl rfl rfl hd_J9_floorMod_f86c9 ⟨Nat.le_of_ble_eq_true rfl, Nat.le_of_ble_eq_true rfl⟩) rfl hl.1 rfl (Nat.le_of_ble_eq_true rfl) ⟨Nat.zero_le _, Nat.zero_le _⟩ dX8_restBy_3 (fun r1 S2 H locs hV hw => ?_)
  exact r_lret C0 rfl hw hV dX8_restBy_6
/-! StepBenchModel.way(J)I -/
abbrev rm_X8_way : Room := { frames := 2, cells := 0, slots := 0, locals := 47 }
set_option maxRecDepth 20000 in
theorem fw_X8_way_108 : Cond.fieldLink RX8 108 "StepBenchModel" "sort" "I" ∈ wsX8_way := by decide +kernel
set_option maxRecDepth 20000 in
theorem iw_X8_way_X8 : ∀ w ∈ wsX80, w ∈ wsX8_way := by decide +kernel
set_option maxRecDepth 20000 in
theorem fw_X8_way_105 : Cond.fieldLink RX8 105 "StepBenchModel" "m" "I" ∈ wsX8_way := by decide +kernel
set_option maxRecDepth 20000 in
theorem fw_X8_way_111 : Cond.fieldLink RX8 111 "StepBenchModel" "fractions" "I" ∈ wsX8_way := by decide +kernel
set_option maxRecDepth 20000 in
theorem fw_X8_way_26 : Cond.fieldLink RX8 26 "StepBenchModel" "q" "[J" ∈ wsX8_way := by decide +kernel
set_option maxRecDepth 20000 in
theorem hd_X8_way : yX8_way.cls = RX8 ∧ yX8_way.cls ≠ "java/lang/invoke/MethodHandle" ∧ yX8_way.cls ≠ "java/lang/invoke/VarHandle" ∧ (parseMethodDescriptor yX8_way.desc).map (fun d => d.parameters.length) = some 1 := by decide +kernel
def V_X8_way_20  (v1 : Int64)  (post : Int32 → SS → Prop) : Nat → Int32 → SS → Prop
  | 0, _, _ => False
  | n + 1, v3, S =>
    (((gI S 27) ≤ v3 → (post (-1 : Int32) S)) ∧ (¬ (gI S 27) ≤ v3 → ((v1 < (1 : Int64) → (post (-1 : Int32) S)) ∧ (¬ v1 < (1 : Int64) → (vp_in v3 40 ∧ (¬ (gA S 34 v3.toNatClampNeg) = 0 ∧ (((lrm v1 (gA S 34 v3.toNatClampNeg)) = (0 : Int64) → (post v3 S)) ∧ (¬ (lrm v1 (gA S 34 v3.toNatClampNeg)) = (0 : Int64) → (∀ x7 : Int32, x7 = v3 + 1 → (V_X8_way_20  v1  post n x7 S))))))))))
set_option maxHeartbeats 4000000 in
set_option maxRecDepth 100000 in
theorem lp_X8_way_20  (v1 : Int64)  (post : Int32 → SS → Prop) (C0 : Bd p s m meth c args cX8_way 4 (some .int) wsX8_way RX8 D n0 cI cJ) : ∀ (n : Nat) (v3 : Int32) (S : SS), V_X8_way_20  v1  post n v3 S → ∀ (H : Heap) (locs : List Loc), Wh D n0 ad cI cJ X S s H locs → ∀ ls : Array Slot, lv_has ls 4 [(0, .ref (ad 48)), (1, .long v1), (3, .int v3)] → W p l e rm_X8_way s m args below meth c H locs 0 0 (MQ below (va_Qi post (fun S' t => Wd D n0 ad cI cJ X S' t) (fr n0)) args s 0 0 (fr n0)) (F0 m 20 ls []) := by
  intro n
  induction n with
  | zero => intro v3 S hV; exact False.elim hV
  | succ n ih =>
    intro v3 S hV H locs hw ls hl
    rw [V_X8_way_20] at hV
    refine lv_iload_n C0.x C0.b dX8_way_20 rfl (lv_at hl 2 rfl) ?_
    refine lv_aload_n C0.x C0.b dX8_way_21 rfl (lv_at hl 0 rfl) ?_
    refine r_get C0 hw (C := RX8) (T := TX8) (N := 33) (v := .int (gI S 27)) iw_X8_way_X8 (lg_48 ad cI cJ X S) rfl 10 (by decide) (C0.ts _ fw_X8_way_111) rfl dX8_way_22 ?_
    refine lv_icmp_ge (tgt := 55) C0.x C0.b dX8_way_25 (by decide) (fun c4 => ?_) (fun c4 => ?_)
    · have hV := hV.1 c4
      refine lv_iconst (v := -1) C0.x C0.b dX8_way_55 (by decide) ?_
      exact r_iret C0 rfl hw hV dX8_way_56
    · have hV := hV.2 c4
      refine lv_lload_n C0.x C0.b dX8_way_28 rfl (lv_at hl 1 rfl) ?_
      refine lv_lconst (v := 1) C0.x C0.b dX8_way_29 (by decide) ?_
      refine r_lcmp C0 dX8_way_30 ?_
      refine lv_if_lt (tgt := 55) C0.x C0.b dX8_way_31 (by decide) (fun c5 => ?_) (fun c5 => ?_)
      · have hV := hV.1 ((lc_lt _ _).mp c5)
        refine lv_iconst (v := -1) C0.x C0.b dX8_way_55 (by decide) ?_
        exact r_iret C0 rfl hw hV dX8_way_56
      · have hV := hV.2 (fun h => c5 ((lc_lt _ _).mpr h))
        refine lv_lload_n C0.x C0.b dX8_way_34 rfl (lv_at hl 1 rfl) ?_
        refine lv_aload_n C0.x C0.b dX8_way_35 rfl (lv_at hl 0 rfl) ?_
        refine r_get C0 hw (C := RX8) (T := TX8) (N := 33) (v := .ref (ad 53)) iw_X8_way_X8 (lg_48 ad cI cJ X S) rfl 12 (by decide) (C0.ts _ fw_X8_way_26) rfl dX8_way_36 ?_
        refine lv_iload_n C0.x C0.b dX8_way_39 rfl (lv_at hl 2 rfl) ?_
        refine r_lald C0 hw (lg_53 ad cI cJ X S) hV.1 dX8_way_40 ?_
        have hV := hV.2
        refine lv_lrem C0.x C0.b dX8_way_41 hV.1 ?_
        have hV := hV.2
        refine lv_lconst (v := 0) C0.x C0.b dX8_way_42 (by decide) ?_
        refine r_lcmp C0 dX8_way_43 ?_
        refine lv_if_ne (tgt := 49) C0.x C0.b dX8_way_44 (by decide) (fun c6 => ?_) (fun c6 => ?_)
        · have hV := hV.2 (fun h => c6 ((lc_eq _ _).mpr h))
          obtain ⟨x7, ex7⟩ : ∃ z : Int32, z = v3 + 1 := ⟨_, rfl⟩
          have hV := hV x7 ex7
          refine lv_iinc (v := x7) (lv' := [(3, .int x7), (0, .ref (ad 48)), (1, .long v1)]) C0.x C0.b dX8_way_49 hl (k := 2) rfl (by rw [ex7]; rfl) (by decide) rfl (fun ls hl => ?_)
          refine lv_goto (tgt := 20) C0.x C0.b dX8_way_52 (by decide) ?_
          exact ih _ _ hV _ _ hw _ (lv_sub hl [1, 2, 0] rfl)
        · have hV := hV.1 ((lc_eq _ _).mp c6)
          refine lv_iload_n C0.x C0.b dX8_way_47 rfl (lv_at hl 2 rfl) ?_
          exact r_iret C0 rfl hw hV dX8_way_48
def V_X8_way  (p0 : Int64) (S : SS) (post : Int32 → SS → Prop) : Prop :=
  (((gI S 25) = (1 : Int32) → (V_X8_restBy p0 (gI S 26) S (fun (r2 : Int64) (S3 : SS) => (post r2.toInt32 S3)))) ∧ (¬ (gI S 25) = (1 : Int32) → (∃ n20 : Nat, V_X8_way_20  p0  post n20 (0 : Int32) S)))
set_option maxHeartbeats 4000000 in
set_option maxRecDepth 100000 in
theorem c_X8_way  {S : SS} {p0 : Int64} {post : Int32 → SS → Prop} (hV : V_X8_way  p0 S post) : MI l yX8_way wsX8_way rm_X8_way [.ref (ad 48), .long p0] D n0 ad cI cJ X S post := by
  refine Met.ofW (cc := cX8_way) (maxL := 4) (ret := (some .int)) (by decide) rfl ?_
  intro p e s m args below meth c s₁ B hml hv
  obtain ⟨rfl, hv⟩ := hv
  have C0 := Bd.mk B hml (atoms_spec (ws := wsX8_way) B.pre) (findClass_of_methodNamed B.named) hv.1
  have hw : Wh D n0 ad cI cJ X S s s.heap [] := ⟨hv.2.1, hv.2.2, va_S.rf⟩
  refine r_entry (Nat.le_of_ble_eq_true rfl) (fun ls hl => ?_)
  have hl : lv_has ls 4 [(0, .ref (ad 48)), (1, .long p0)] := hl
  unfold V_X8_way at hV
  refine lv_aload_n C0.x C0.b dX8_way_0 rfl (lv_at hl 0 rfl) ?_
  refine r_get C0 hw (C := RX8) (T := TX8) (N := 33) (v := .int (gI S 25)) iw_X8_way_X8 (lg_48 ad cI cJ X S) rfl 7 (by decide) (C0.ts _ fw_X8_way_108) rfl dX8_way_1 ?_
  refine lv_iconst (v := 1) C0.x C0.b dX8_way_4 (by decide) ?_
  refine lv_icmp_ne (tgt := 18) C0.x C0.b dX8_way_5 (by decide) (fun c1 => ?_) (fun c1 => ?_)
  · have hV := hV.2 c1
    refine lv_iconst (v := 0) C0.x C0.b dX8_way_18 (by decide) ?_
    refine lv_istore_n (lv' := [(3, .int (0 : Int32)), (0, .ref (ad 48)), (1, .long p0)]) C0.x C0.b dX8_way_19 rfl hl (by decide) rfl (fun ls hl => ?_)
    obtain ⟨n20, hV⟩ := hV
    exact lp_X8_way_20  _ post C0  n20 _ _ hV _ _ hw _ (lv_sub hl [1, 2, 0] rfl)
  · have hV := hV.1 c1
    refine lv_lload_n C0.x C0.b dX8_way_8 rfl (lv_at hl 1 rfl) ?_
    refine lv_aload_n C0.x C0.b dX8_way_9 rfl (lv_at hl 0 rfl) ?_
    refine r_get C0 hw (C := RX8) (T := TX8) (N := 33) (v := .int (gI S 26)) iw_X8_way_X8 (lg_48 ad cI cJ X S) rfl 8 (by decide) (C0.ts _ fw_X8_way_105) rfl dX8_way_10 ?_
    refine r_cS_l (As := [.long p0, .int (gI S 26)]) (rest := []) C0 hw (c_X8_restBy  hV) (va_cwS 2 C0.ts gX8_way_X8_restBy rfl rfl rfl hd_X8_restBy ⟨Nat.le_of_ble_eq_true rfl, Nat.le_of_ble_eq_true rfl⟩) rfl hl.1 rfl (Nat.le_of_ble_eq_true rfl) ⟨Nat.zero_le _, Nat.zero_le _⟩ dX8_way_13 (fun r2 S3 H locs hV hw => ?_)
    refine lv_l2i C0.x C0.b dX8_way_16 rfl ?_
    exact r_iret C0 rfl hw hV dX8_way_17
/-! StepBenchModel.goes(J)I -/
abbrev rm_X8_goes : Room := { frames := 3, cells := 0, slots := 0, locals := 70 }
set_option maxRecDepth 20000 in
theorem fw_X8_goes_108 : Cond.fieldLink RX8 108 "StepBenchModel" "sort" "I" ∈ wsX8_goes := by decide +kernel
set_option maxRecDepth 20000 in
theorem iw_X8_goes_X8 : ∀ w ∈ wsX80, w ∈ wsX8_goes := by decide +kernel
set_option maxRecDepth 20000 in
theorem fw_X8_goes_26 : Cond.fieldLink RX8 26 "StepBenchModel" "q" "[J" ∈ wsX8_goes := by decide +kernel
set_option maxRecDepth 20000 in
theorem cw_X8_goes_66 : Cond.constantLong RX8 66 1000000000000000 ∈ wsX8_goes := by decide +kernel
set_option maxRecDepth 20000 in
theorem fw_X8_goes_23 : Cond.fieldLink RX8 23 "StepBenchModel" "p" "[J" ∈ wsX8_goes := by decide +kernel
set_option maxRecDepth 20000 in
theorem fw_X8_goes_146 : Cond.fieldLink RX8 146 "StepBenchModel" "at" "J" ∈ wsX8_goes := by decide +kernel
set_option maxRecDepth 20000 in
theorem cw_X8_goes_144 : Cond.constantLong RX8 144 1000000000000001 ∈ wsX8_goes := by decide +kernel
set_option maxRecDepth 20000 in
theorem fw_X8_goes_20 : Cond.fieldLink RX8 20 "StepBenchModel" "rule" "[J" ∈ wsX8_goes := by decide +kernel
set_option maxRecDepth 20000 in
theorem hd_X8_goes : yX8_goes.cls = RX8 ∧ yX8_goes.cls ≠ "java/lang/invoke/MethodHandle" ∧ yX8_goes.cls ≠ "java/lang/invoke/VarHandle" ∧ (parseMethodDescriptor yX8_goes.desc).map (fun d => d.parameters.length) = some 1 := by decide +kernel
def V_X8_goes  (p0 : Int64) (S : SS) (post : Int32 → SS → Prop) : Prop :=
  (V_X8_way p0 S (fun (r1 : Int32) (S2 : SS) => ((0 ≤ r1 → (((gI S2 25) = (2 : Int32) → (vp_in r1 40 ∧ (¬ (gA S2 34 r1.toNatClampNeg) = 0 ∧ (∀ y5 : Int64, y5 = (p0 / (gA S2 34 r1.toNatClampNeg)) → (vp_in r1 40 ∧ (¬ (gA S2 33 r1.toNatClampNeg) = 0 ∧ ((y5 ≤ ((1000000000000000 : Int64) / (gA S2 33 r1.toNatClampNeg)) → (vp_in r1 40 ∧ (∀ S7 : SS, S7 = (sJ S2 0 (y5 * (gA S2 33 r1.toNatClampNeg))) → (V_X8_isNumber (gJ S7 0) S7 (fun (r8 : Int32) (S9 : SS) => ((r8 = 0 → (post (2 : Int32) S9)) ∧ (¬ r8 = 0 → (post (0 : Int32) S9)))))))) ∧ (¬ y5 ≤ ((1000000000000000 : Int64) / (gA S2 33 r1.toNatClampNeg)) → (∀ S11 : SS, S11 = (sJ S2 0 (1000000000000001 : Int64)) → (V_X8_isNumber (gJ S11 0) S11 (fun (r12 : Int32) (S13 : SS) => ((r12 = 0 → (post (2 : Int32) S13)) ∧ (¬ r12 = 0 → (post (0 : Int32) S13)))))))))))))) ∧ (¬ (gI S2 25) = (2 : Int32) → (vp_in ((3 : Int32) * r1) 192 ∧ (vp_in (((3 : Int32) * r1) + (1 : Int32)) 192 ∧ (vp_in (((3 : Int32) * r1) + (2 : Int32)) 192 ∧ (¬ (gA S2 32 (((3 : Int32) * r1) + (2 : Int32)).toNatClampNeg) = 0 ∧ (∀ S15 : SS, S15 = (sJ S2 0 ((((gA S2 32 ((3 : Int32) * r1).toNatClampNeg) * p0) + (gA S2 32 (((3 : Int32) * r1) + (1 : Int32)).toNatClampNeg)) / (gA S2 32 (((3 : Int32) * r1) + (2 : Int32)).toNatClampNeg))) → (V_X8_isNumber (gJ S15 0) S15 (fun (r16 : Int32) (S17 : SS) => ((r16 = 0 → (post (2 : Int32) S17)) ∧ (¬ r16 = 0 → (post (0 : Int32) S17))))))))))))) ∧ (¬ 0 ≤ r1 → (post (1 : Int32) S2)))))
set_option maxHeartbeats 4000000 in
set_option maxRecDepth 100000 in
theorem c_X8_goes  {S : SS} {p0 : Int64} {post : Int32 → SS → Prop} (hV : V_X8_goes  p0 S post) : MI l yX8_goes wsX8_goes rm_X8_goes [.ref (ad 48), .long p0] D n0 ad cI cJ X S post := by
  refine Met.ofW (cc := cX8_goes) (maxL := 6) (ret := (some .int)) (by decide) rfl ?_
  intro p e s m args below meth c s₁ B hml hv
  obtain ⟨rfl, hv⟩ := hv
  have C0 := Bd.mk B hml (atoms_spec (ws := wsX8_goes) B.pre) (findClass_of_methodNamed B.named) hv.1
  have hw : Wh D n0 ad cI cJ X S s s.heap [] := ⟨hv.2.1, hv.2.2, va_S.rf⟩
  refine r_entry (Nat.le_of_ble_eq_true rfl) (fun ls hl => ?_)
  have hl : lv_has ls 6 [(0, .ref (ad 48)), (1, .long p0)] := hl
  unfold V_X8_goes at hV
  refine lv_aload_n C0.x C0.b dX8_goes_0 rfl (lv_at hl 0 rfl) ?_
  refine lv_lload_n C0.x C0.b dX8_goes_1 rfl (lv_at hl 1 rfl) ?_
  refine r_cV_i (As := [.long p0]) (rest := []) C0 hw (c_X8_way  hV) (cwV 1 C0.ts gX8_goes_X8_way rfl rfl rfl hd_X8_way ⟨Nat.le_of_ble_eq_true rfl, Nat.le_of_ble_eq_true rfl⟩) (lg_48 ad cI cJ X S) rfl rfl hl.1 rfl (Nat.le_of_ble_eq_true rfl) ⟨Nat.zero_le _, Nat.zero_le _⟩ dX8_goes_2 (fun r1 S2 H locs hV hw => ?_)
  refine lv_istore_n (lv' := [(3, .int r1), (0, .ref (ad 48)), (1, .long p0)]) C0.x C0.b dX8_goes_5 rfl hl (by decide) rfl (fun ls hl => ?_)
  refine lv_iload_n C0.x C0.b dX8_goes_6 rfl (lv_at hl 0 rfl) ?_
  refine lv_if_ge (tgt := 12) C0.x C0.b dX8_goes_7 (by decide) (fun c3 => ?_) (fun c3 => ?_)
  · have hV := hV.1 c3
    refine lv_aload_n C0.x C0.b dX8_goes_12 rfl (lv_at hl 1 rfl) ?_
    refine r_get C0 hw (C := RX8) (T := TX8) (N := 33) (v := .int (gI S2 25)) iw_X8_goes_X8 (lg_48 ad cI cJ X S2) rfl 7 (by decide) (C0.ts _ fw_X8_goes_108) rfl dX8_goes_13 ?_
    refine lv_iconst (v := 2) C0.x C0.b dX8_goes_16 (by decide) ?_
    refine lv_icmp_ne (tgt := 68) C0.x C0.b dX8_goes_17 (by decide) (fun c4 => ?_) (fun c4 => ?_)
    · have hV := hV.2 c4
      refine lv_aload_n C0.x C0.b dX8_goes_68 rfl (lv_at hl 1 rfl) ?_
      refine lv_aload_n C0.x C0.b dX8_goes_69 rfl (lv_at hl 1 rfl) ?_
      refine r_get C0 hw (C := RX8) (T := TX8) (N := 33) (v := .ref (ad 51)) iw_X8_goes_X8 (lg_48 ad cI cJ X S2) rfl 9 (by decide) (C0.ts _ fw_X8_goes_20) rfl dX8_goes_70 ?_
      refine lv_iconst (v := 3) C0.x C0.b dX8_goes_73 (by decide) ?_
      refine lv_iload_n C0.x C0.b dX8_goes_74 rfl (lv_at hl 0 rfl) ?_
      refine lv_imul C0.x C0.b dX8_goes_75 ?_
      refine r_lald C0 hw (lg_51 ad cI cJ X S2) hV.1 dX8_goes_76 ?_
      have hV := hV.2
      refine lv_lload_n C0.x C0.b dX8_goes_77 rfl (lv_at hl 2 rfl) ?_
      refine lv_lmul C0.x C0.b dX8_goes_78 ?_
      refine lv_aload_n C0.x C0.b dX8_goes_79 rfl (lv_at hl 1 rfl) ?_
      refine r_get C0 hw (C := RX8) (T := TX8) (N := 33) (v := .ref (ad 51)) iw_X8_goes_X8 (lg_48 ad cI cJ X S2) rfl 9 (by decide) (C0.ts _ fw_X8_goes_20) rfl dX8_goes_80 ?_
      refine lv_iconst (v := 3) C0.x C0.b dX8_goes_83 (by decide) ?_
      refine lv_iload_n C0.x C0.b dX8_goes_84 rfl (lv_at hl 0 rfl) ?_
      refine lv_imul C0.x C0.b dX8_goes_85 ?_
      refine lv_iconst (v := 1) C0.x C0.b dX8_goes_86 (by decide) ?_
      refine lv_iadd C0.x C0.b dX8_goes_87 ?_
      refine r_lald C0 hw (lg_51 ad cI cJ X S2) hV.1 dX8_goes_88 ?_
      have hV := hV.2
      refine lv_ladd C0.x C0.b dX8_goes_89 ?_
      refine lv_aload_n C0.x C0.b dX8_goes_90 rfl (lv_at hl 1 rfl) ?_
      refine r_get C0 hw (C := RX8) (T := TX8) (N := 33) (v := .ref (ad 51)) iw_X8_goes_X8 (lg_48 ad cI cJ X S2) rfl 9 (by decide) (C0.ts _ fw_X8_goes_20) rfl dX8_goes_91 ?_
      refine lv_iconst (v := 3) C0.x C0.b dX8_goes_94 (by decide) ?_
      refine lv_iload_n C0.x C0.b dX8_goes_95 rfl (lv_at hl 0 rfl) ?_
      refine lv_imul C0.x C0.b dX8_goes_96 ?_
      refine lv_iconst (v := 2) C0.x C0.b dX8_goes_97 (by decide) ?_
      refine lv_iadd C0.x C0.b dX8_goes_98 ?_
      refine r_lald C0 hw (lg_51 ad cI cJ X S2) hV.1 dX8_goes_99 ?_
      have hV := hV.2
      refine lv_ldiv C0.x C0.b dX8_goes_100 hV.1 ?_
      have hV := hV.2
      refine r_put C0 hw (C := RX8) (T := TX8) (N := 33) (ty := .long) iw_X8_goes_X8 tyX8 tyX8_ok nmX8 (lg_48 ad cI cJ X S2) rfl 13 (by decide) (C0.ts _ fw_X8_goes_146) rfl (by decide +kernel) rfl rfl (Nat.le_of_ble_eq_true rfl) dX8_goes_101 (S' := (sJ S2 0 ((((gA S2 32 ((3 : Int32) * r1).toNatClampNeg) * p0) + (gA S2 32 (((3 : Int32) * r1) + (1 : Int32)).toNatClampNeg)) / (gA S2 32 (((3 : Int32) * r1) + (2 : Int32)).toNatClampNeg)))) (ls_48_13 ad cI cJ X S2 ((((gA S2 32 ((3 : Int32) * r1).toNatClampNeg) * p0) + (gA S2 32 (((3 : Int32) * r1) + (1 : Int32)).toNatClampNeg)) / (gA S2 32 (((3 : Int32) * r1) + (2 : Int32)).toNatClampNeg))) (fun S15 H locs eS15 hw => ?_)
      have hV := hV S15 eS15
      refine lv_aload_n C0.x C0.b dX8_goes_104 rfl (lv_at hl 1 rfl) ?_
      refine r_get C0 hw (C := RX8) (T := TX8) (N := 33) (v := .long (gJ S15 0)) iw_X8_goes_X8 (lg_48 ad cI cJ X S15) rfl 13 (by decide) (C0.ts _ fw_X8_goes_146) rfl dX8_goes_105 ?_
      refine r_cS_i (As := [.long (gJ S15 0)]) (rest := []) C0 hw (c_X8_isNumber  hV) (va_cwS 1 C0.ts gX8_goes_X8_isNumber rfl rfl rfl hd_X8_isNumber ⟨Nat.le_of_ble_eq_true rfl, Nat.le_of_ble_eq_true rfl⟩) rfl hl.1 rfl (Nat.le_of_ble_eq_true rfl) ⟨Nat.zero_le _, Nat.zero_le _⟩ dX8_goes_108 (fun r16 S17 H locs hV hw => ?_)
      refine lv_if_eq (tgt := 118) C0.x C0.b dX8_goes_111 (by decide) (fun c18 => ?_) (fun c18 => ?_)
      · have hV := hV.1 c18
        refine lv_iconst (v := 2) C0.x C0.b dX8_goes_118 (by decide) ?_
        exact r_iret C0 rfl hw hV dX8_goes_119
      · have hV := hV.2 c18
        refine lv_iconst (v := 0) C0.x C0.b dX8_goes_114 (by decide) ?_
        refine lv_goto (tgt := 119) C0.x C0.b dX8_goes_115 (by decide) ?_
        exact r_iret C0 rfl hw hV dX8_goes_119
    · have hV := hV.1 c4
      refine lv_lload_n C0.x C0.b dX8_goes_20 rfl (lv_at hl 2 rfl) ?_
      refine lv_aload_n C0.x C0.b dX8_goes_21 rfl (lv_at hl 1 rfl) ?_
      refine r_get C0 hw (C := RX8) (T := TX8) (N := 33) (v := .ref (ad 53)) iw_X8_goes_X8 (lg_48 ad cI cJ X S2) rfl 12 (by decide) (C0.ts _ fw_X8_goes_26) rfl dX8_goes_22 ?_
      refine lv_iload_n C0.x C0.b dX8_goes_25 rfl (lv_at hl 0 rfl) ?_
      refine r_lald C0 hw (lg_53 ad cI cJ X S2) hV.1 dX8_goes_26 ?_
      have hV := hV.2
      refine lv_ldiv C0.x C0.b dX8_goes_27 hV.1 ?_
      have hV := hV.2
      refine lv_topl (fun y5 ey5 => ?_)
      have hV := hV y5 ey5
      refine lv_lstore (lv' := [(4, .long y5), (3, .int r1), (0, .ref (ad 48)), (1, .long p0)]) C0.x C0.b dX8_goes_28 hl (by decide) rfl (fun ls hl => ?_)
      refine lv_aload_n C0.x C0.b dX8_goes_30 rfl (lv_at hl 2 rfl) ?_
      refine lv_lload C0.x C0.b dX8_goes_31 (lv_at hl 0 rfl) ?_
      refine lv_ldc2 (v := 1000000000000000) C0.x C0.b C0.ow (C0.ts _ cw_X8_goes_66) dX8_goes_33 ?_
      refine lv_aload_n C0.x C0.b dX8_goes_36 rfl (lv_at hl 2 rfl) ?_
      refine r_get C0 hw (C := RX8) (T := TX8) (N := 33) (v := .ref (ad 52)) iw_X8_goes_X8 (lg_48 ad cI cJ X S2) rfl 11 (by decide) (C0.ts _ fw_X8_goes_23) rfl dX8_goes_37 ?_
      refine lv_iload_n C0.x C0.b dX8_goes_40 rfl (lv_at hl 1 rfl) ?_
      refine r_lald C0 hw (lg_52 ad cI cJ X S2) hV.1 dX8_goes_41 ?_
      have hV := hV.2
      refine lv_ldiv C0.x C0.b dX8_goes_42 hV.1 ?_
      have hV := hV.2
      refine r_lcmp C0 dX8_goes_43 ?_
      refine lv_if_le (tgt := 53) C0.x C0.b dX8_goes_44 (by decide) (fun c6 => ?_) (fun c6 => ?_)
      · have hV := hV.1 ((lc_le _ _).mp c6)
        refine lv_lload C0.x C0.b dX8_goes_53 (lv_at hl 0 rfl) ?_
        refine lv_aload_n C0.x C0.b dX8_goes_55 rfl (lv_at hl 2 rfl) ?_
        refine r_get C0 hw (C := RX8) (T := TX8) (N := 33) (v := .ref (ad 52)) iw_X8_goes_X8 (lg_48 ad cI cJ X S2) rfl 11 (by decide) (C0.ts _ fw_X8_goes_23) rfl dX8_goes_56 ?_
        refine lv_iload_n C0.x C0.b dX8_goes_59 rfl (lv_at hl 1 rfl) ?_
        refine r_lald C0 hw (lg_52 ad cI cJ X S2) hV.1 dX8_goes_60 ?_
        have hV := hV.2
        refine lv_lmul C0.x C0.b dX8_goes_61 ?_
        refine r_put C0 hw (C := RX8) (T := TX8) (N := 33) (ty := .long) iw_X8_goes_X8 tyX8 tyX8_ok nmX8 (lg_48 ad cI cJ X S2) rfl 13 (by decide) (C0.ts _ fw_X8_goes_146) rfl (by decide +kernel) rfl rfl (Nat.le_of_ble_eq_true rfl) dX8_goes_62 (S' := (sJ S2 0 (y5 * (gA S2 33 r1.toNatClampNeg)))) (ls_48_13 ad cI cJ X S2 (y5 * (gA S2 33 r1.toNatClampNeg))) (fun S7 H locs eS7 hw => ?_)
        have hV := hV S7 eS7
        refine lv_goto (tgt := 104) C0.x C0.b dX8_goes_65 (by decide) ?_
        refine lv_aload_n C0.x C0.b dX8_goes_104 rfl (lv_at hl 2 rfl) ?_
        refine r_get C0 hw (C := RX8) (T := TX8) (N := 33) (v := .long (gJ S7 0)) iw_X8_goes_X8 (lg_48 ad cI cJ X S7) rfl 13 (by decide) (C0.ts _ fw_X8_goes_146) rfl dX8_goes_105 ?_
        refine r_cS_i (As := [.long (gJ S7 0)]) (rest := []) C0 hw (c_X8_isNumber  hV) (va_cwS 1 C0.ts gX8_goes_X8_isNumber rfl rfl rfl hd_X8_isNumber ⟨Nat.le_of_ble_eq_true rfl, Nat.le_of_ble_eq_true rfl⟩) rfl hl.1 rfl (Nat.le_of_ble_eq_true rfl) ⟨Nat.zero_le _, Nat.zero_le _⟩ dX8_goes_108 (fun r8 S9 H locs hV hw => ?_)
        refine lv_if_eq (tgt := 118) C0.x C0.b dX8_goes_111 (by decide) (fun c10 => ?_) (fun c10 => ?_)
        · have hV := hV.1 c10
          refine lv_iconst (v := 2) C0.x C0.b dX8_goes_118 (by decide) ?_
          exact r_iret C0 rfl hw hV dX8_goes_119
        · have hV := hV.2 c10
          refine lv_iconst (v := 0) C0.x C0.b dX8_goes_114 (by decide) ?_
          refine lv_goto (tgt := 119) C0.x C0.b dX8_goes_115 (by decide) ?_
          exact r_iret C0 rfl hw hV dX8_goes_119
      · have hV := hV.2 (fun h => c6 ((lc_le _ _).mpr h))
        refine lv_ldc2 (v := 1000000000000001) C0.x C0.b C0.ow (C0.ts _ cw_X8_goes_144) dX8_goes_47 ?_
        refine lv_goto (tgt := 62) C0.x C0.b dX8_goes_50 (by decide) ?_
        refine r_put C0 hw (C := RX8) (T := TX8) (N := 33) (ty := .long) iw_X8_goes_X8 tyX8 tyX8_ok nmX8 (lg_48 ad cI cJ X S2) rfl 13 (by decide) (C0.ts _ fw_X8_goes_146) rfl (by decide +kernel) rfl rfl (Nat.le_of_ble_eq_true rfl) dX8_goes_62 (S' := (sJ S2 0 (1000000000000001 : Int64))) (ls_48_13 ad cI cJ X S2 (1000000000000001 : Int64)) (fun S11 H locs eS11 hw => ?_)
        have hV := hV S11 eS11
        refine lv_goto (tgt := 104) C0.x C0.b dX8_goes_65 (by decide) ?_
        refine lv_aload_n C0.x C0.b dX8_goes_104 rfl (lv_at hl 2 rfl) ?_
        refine r_get C0 hw (C := RX8) (T := TX8) (N := 33) (v := .long (gJ S11 0)) iw_X8_goes_X8 (lg_48 ad cI cJ X S11) rfl 13 (by decide) (C0.ts _ fw_X8_goes_146) rfl dX8_goes_105 ?_
        refine r_cS_i (As := [.long (gJ S11 0)]) (rest := []) C0 hw (c_X8_isNumber  hV) (va_cwS 1 C0.ts gX8_goes_X8_isNumber rfl rfl rfl hd_X8_isNumber ⟨Nat.le_of_ble_eq_true rfl, Nat.le_of_ble_eq_true rfl⟩) rfl hl.1 rfl (Nat.le_of_ble_eq_true rfl) ⟨Nat.zero_le _, Nat.zero_le _⟩ dX8_goes_108 (fun r12 S13 H locs hV hw => ?_)
        refine lv_if_eq (tgt := 118) C0.x C0.b dX8_goes_111 (by decide) (fun c14 => ?_) (fun c14 => ?_)
        · have hV := hV.1 c14
          refine lv_iconst (v := 2) C0.x C0.b dX8_goes_118 (by decide) ?_
          exact r_iret C0 rfl hw hV dX8_goes_119
        · have hV := hV.2 c14
          refine lv_iconst (v := 0) C0.x C0.b dX8_goes_114 (by decide) ?_
          refine lv_goto (tgt := 119) C0.x C0.b dX8_goes_115 (by decide) ?_
          exact r_iret C0 rfl hw hV dX8_goes_119
  · have hV := hV.2 c3
    refine lv_iconst (v := 1) C0.x C0.b dX8_goes_10 (by decide) ?_
    exact r_iret C0 rfl hw hV dX8_goes_11
/-! StepBenchModel.step(J)J -/
abbrev rm_X8_step : Room := { frames := 4, cells := 0, slots := 0, locals := 95 }
set_option maxRecDepth 20000 in
theorem fw_X8_step_61 : Cond.fieldLink RX8 61 "StepBenchModel" "thrown" "I" ∈ wsX8_step := by decide +kernel
set_option maxRecDepth 20000 in
theorem iw_X8_step_X8 : ∀ w ∈ wsX80, w ∈ wsX8_step := by decide +kernel
set_option maxRecDepth 20000 in
theorem fw_X8_step_108 : Cond.fieldLink RX8 108 "StepBenchModel" "sort" "I" ∈ wsX8_step := by decide +kernel
set_option maxRecDepth 20000 in
theorem fw_X8_step_146 : Cond.fieldLink RX8 146 "StepBenchModel" "at" "J" ∈ wsX8_step := by decide +kernel
set_option maxRecDepth 20000 in
theorem hd_X8_step : yX8_step.cls = RX8 ∧ yX8_step.cls ≠ "java/lang/invoke/MethodHandle" ∧ yX8_step.cls ≠ "java/lang/invoke/VarHandle" ∧ (parseMethodDescriptor yX8_step.desc).map (fun d => d.parameters.length) = some 1 := by decide +kernel
def V_X8_step  (p0 : Int64) (S : SS) (post : Int64 → SS → Prop) : Prop :=
  (∀ S1 : SS, S1 = (sI S 20 (0 : Int32)) → (((gI S1 25) = 0 → (V_X8_refuse (1 : Int32) S1 (fun (r3 : Int64) (S4 : SS) => (post r3 S4)))) ∧ (¬ (gI S1 25) = 0 → (V_X8_isNumber p0 S1 (fun (r5 : Int32) (S6 : SS) => ((r5 = 0 → (V_X8_refuse (3 : Int32) S6 (fun (r10 : Int64) (S11 : SS) => (post r10 S11)))) ∧ (¬ r5 = 0 → (V_X8_goes p0 S6 (fun (r12 : Int32) (S13 : SS) => ((r12 = 0 → (post (gJ S13 0) S13)) ∧ (¬ r12 = 0 → ((r12 = (1 : Int32) → (V_X8_refuse (2 : Int32) S13 (fun (r16 : Int64) (S17 : SS) => (post r16 S17)))) ∧ (¬ r12 = (1 : Int32) → (V_X8_refuse (3 : Int32) S13 (fun (r18 : Int64) (S19 : SS) => (post r18 S19))))))))))))))))
set_option maxHeartbeats 4000000 in
set_option maxRecDepth 100000 in
theorem c_X8_step  {S : SS} {p0 : Int64} {post : Int64 → SS → Prop} (hV : V_X8_step  p0 S post) : ML l yX8_step wsX8_step rm_X8_step [.ref (ad 48), .long p0] D n0 ad cI cJ X S post := by
  refine Met.ofW (cc := cX8_step) (maxL := 4) (ret := (some .long)) (by decide) rfl ?_
  intro p e s m args below meth c s₁ B hml hv
  obtain ⟨rfl, hv⟩ := hv
  have C0 := Bd.mk B hml (atoms_spec (ws := wsX8_step) B.pre) (findClass_of_methodNamed B.named) hv.1
  have hw : Wh D n0 ad cI cJ X S s s.heap [] := ⟨hv.2.1, hv.2.2, va_S.rf⟩
  refine r_entry (Nat.le_of_ble_eq_true rfl) (fun ls hl => ?_)
  have hl : lv_has ls 4 [(0, .ref (ad 48)), (1, .long p0)] := hl
  unfold V_X8_step at hV
  refine lv_aload_n C0.x C0.b dX8_step_0 rfl (lv_at hl 0 rfl) ?_
  refine lv_iconst (v := 0) C0.x C0.b dX8_step_1 (by decide) ?_
  refine r_put C0 hw (C := RX8) (T := TX8) (N := 33) (ty := .int) iw_X8_step_X8 tyX8 tyX8_ok nmX8 (lg_48 ad cI cJ X S) rfl 0 (by decide) (C0.ts _ fw_X8_step_61) rfl (by decide +kernel) rfl rfl (Nat.le_of_ble_eq_true rfl) dX8_step_2 (S' := (sI S 20 (0 : Int32))) (ls_48_0 ad cI cJ X S (0 : Int32)) (fun S1 H locs eS1 hw => ?_)
  have hV := hV S1 eS1
  refine lv_aload_n C0.x C0.b dX8_step_5 rfl (lv_at hl 0 rfl) ?_
  refine r_get C0 hw (C := RX8) (T := TX8) (N := 33) (v := .int (gI S1 25)) iw_X8_step_X8 (lg_48 ad cI cJ X S1) rfl 7 (by decide) (C0.ts _ fw_X8_step_108) rfl dX8_step_6 ?_
  refine lv_if_ne (tgt := 18) C0.x C0.b dX8_step_9 (by decide) (fun c2 => ?_) (fun c2 => ?_)
  · have hV := hV.2 c2
    refine lv_lload_n C0.x C0.b dX8_step_18 rfl (lv_at hl 1 rfl) ?_
    refine r_cS_i (As := [.long p0]) (rest := []) C0 hw (c_X8_isNumber  hV) (va_cwS 1 C0.ts gX8_step_X8_isNumber rfl rfl rfl hd_X8_isNumber ⟨Nat.le_of_ble_eq_true rfl, Nat.le_of_ble_eq_true rfl⟩) rfl hl.1 rfl (Nat.le_of_ble_eq_true rfl) ⟨Nat.zero_le _, Nat.zero_le _⟩ dX8_step_19 (fun r5 S6 H locs hV hw => ?_)
    refine lv_if_eq (tgt := 33) C0.x C0.b dX8_step_22 (by decide) (fun c7 => ?_) (fun c7 => ?_)
    · have hV := hV.1 c7
      refine lv_iconst (v := 2) C0.x C0.b dX8_step_33 (by decide) ?_
      refine lv_istore_n (lv' := [(3, .int (2 : Int32)), (0, .ref (ad 48)), (1, .long p0)]) C0.x C0.b dX8_step_34 rfl hl (by decide) rfl (fun ls hl => ?_)
      refine lv_iload_n C0.x C0.b dX8_step_35 rfl (lv_at hl 0 rfl) ?_
      refine lv_if_ne (tgt := 46) C0.x C0.b dX8_step_36 (by decide) (fun c8 => ?_) (fun c8 => absurd c8 (by decide))
      refine lv_aload_n C0.x C0.b dX8_step_46 rfl (lv_at hl 1 rfl) ?_
      refine lv_iload_n C0.x C0.b dX8_step_47 rfl (lv_at hl 0 rfl) ?_
      refine lv_iconst (v := 1) C0.x C0.b dX8_step_48 (by decide) ?_
      refine lv_icmp_ne (tgt := 56) C0.x C0.b dX8_step_49 (by decide) (fun c9 => ?_) (fun c9 => absurd c9 (by decide))
      refine lv_iconst (v := 3) C0.x C0.b dX8_step_56 (by decide) ?_
      refine r_cV_l (As := [.int (3 : Int32)]) (rest := []) C0 hw (c_X8_refuse  hV) (cwV 1 C0.ts gX8_step_X8_refuse rfl rfl rfl hd_X8_refuse ⟨Nat.le_of_ble_eq_true rfl, Nat.le_of_ble_eq_true rfl⟩) (lg_48 ad cI cJ X S6) rfl rfl hl.1 rfl (Nat.le_of_ble_eq_true rfl) ⟨Nat.zero_le _, Nat.zero_le _⟩ dX8_step_57 (fun r10 S11 H locs hV hw => ?_)
      exact r_lret C0 rfl hw hV dX8_step_60
    · have hV := hV.2 c7
      refine lv_aload_n C0.x C0.b dX8_step_25 rfl (lv_at hl 0 rfl) ?_
      refine lv_lload_n C0.x C0.b dX8_step_26 rfl (lv_at hl 1 rfl) ?_
      refine r_cV_i (As := [.long p0]) (rest := []) C0 hw (c_X8_goes  hV) (cwV 1 C0.ts gX8_step_X8_goes rfl rfl rfl hd_X8_goes ⟨Nat.le_of_ble_eq_true rfl, Nat.le_of_ble_eq_true rfl⟩) (lg_48 ad cI cJ X S6) rfl rfl hl.1 rfl (Nat.le_of_ble_eq_true rfl) ⟨Nat.zero_le _, Nat.zero_le _⟩ dX8_step_27 (fun r12 S13 H locs hV hw => ?_)
      refine lv_goto (tgt := 34) C0.x C0.b dX8_step_30 (by decide) ?_
      refine lv_istore_n (lv' := [(3, .int r12), (0, .ref (ad 48)), (1, .long p0)]) C0.x C0.b dX8_step_34 rfl hl (by decide) rfl (fun ls hl => ?_)
      refine lv_iload_n C0.x C0.b dX8_step_35 rfl (lv_at hl 0 rfl) ?_
      refine lv_if_ne (tgt := 46) C0.x C0.b dX8_step_36 (by decide) (fun c14 => ?_) (fun c14 => ?_)
      · have hV := hV.2 c14
        refine lv_aload_n C0.x C0.b dX8_step_46 rfl (lv_at hl 1 rfl) ?_
        refine lv_iload_n C0.x C0.b dX8_step_47 rfl (lv_at hl 0 rfl) ?_
        refine lv_iconst (v := 1) C0.x C0.b dX8_step_48 (by decide) ?_
        refine lv_icmp_ne (tgt := 56) C0.x C0.b dX8_step_49 (by decide) (fun c15 => ?_) (fun c15 => ?_)
        · have hV := hV.2 c15
          refine lv_iconst (v := 3) C0.x C0.b dX8_step_56 (by decide) ?_
          refine r_cV_l (As := [.int (3 : Int32)]) (rest := []) C0 hw (c_X8_refuse  hV) (cwV 1 C0.ts gX8_step_X8_refuse rfl rfl rfl hd_X8_refuse ⟨Nat.le_of_ble_eq_true rfl, Nat.le_of_ble_eq_true rfl⟩) (lg_48 ad cI cJ X S13) rfl rfl hl.1 rfl (Nat.le_of_ble_eq_true rfl) ⟨Nat.zero_le _, Nat.zero_le _⟩ dX8_step_57 (fun r18 S19 H locs hV hw => ?_)
          exact r_lret C0 rfl hw hV dX8_step_60
        · have hV := hV.1 c15
          refine lv_iconst (v := 2) C0.x C0.b dX8_step_52 (by decide) ?_
          refine lv_goto (tgt := 57) C0.x C0.b dX8_step_53 (by decide) ?_
          refine r_cV_l (As := [.int (2 : Int32)]) (rest := []) C0 hw (c_X8_refuse  hV) (cwV 1 C0.ts gX8_step_X8_refuse rfl rfl rfl hd_X8_refuse ⟨Nat.le_of_ble_eq_true rfl, Nat.le_of_ble_eq_true rfl⟩) (lg_48 ad cI cJ X S13) rfl rfl hl.1 rfl (Nat.le_of_ble_eq_true rfl) ⟨Nat.zero_le _, Nat.zero_le _⟩ dX8_step_57 (fun r16 S17 H locs hV hw => ?_)
          exact r_lret C0 rfl hw hV dX8_step_60
      · have hV := hV.1 c14
        refine lv_aload_n C0.x C0.b dX8_step_39 rfl (lv_at hl 1 rfl) ?_
        refine r_get C0 hw (C := RX8) (T := TX8) (N := 33) (v := .long (gJ S13 0)) iw_X8_step_X8 (lg_48 ad cI cJ X S13) rfl 13 (by decide) (C0.ts _ fw_X8_step_146) rfl dX8_step_40 ?_
        refine lv_goto (tgt := 60) C0.x C0.b dX8_step_43 (by decide) ?_
        exact r_lret C0 rfl hw hV dX8_step_60
  · have hV := hV.1 c2
    refine lv_aload_n C0.x C0.b dX8_step_12 rfl (lv_at hl 0 rfl) ?_
    refine lv_iconst (v := 1) C0.x C0.b dX8_step_13 (by decide) ?_
    refine r_cV_l (As := [.int (1 : Int32)]) (rest := []) C0 hw (c_X8_refuse  hV) (cwV 1 C0.ts gX8_step_X8_refuse rfl rfl rfl hd_X8_refuse ⟨Nat.le_of_ble_eq_true rfl, Nat.le_of_ble_eq_true rfl⟩) (lg_48 ad cI cJ X S1) rfl rfl hl.1 rfl (Nat.le_of_ble_eq_true rfl) ⟨Nat.zero_le _, Nat.zero_le _⟩ dX8_step_14 (fun r3 S4 H locs hV hw => ?_)
    exact r_lret C0 rfl hw hV dX8_step_17
/-! StepBenchModel.run(JI)J -/
abbrev rm_X8_run : Room := { frames := 4, cells := 0, slots := 0, locals := 95 }
set_option maxRecDepth 20000 in
theorem fw_X8_run_61 : Cond.fieldLink RX8 61 "StepBenchModel" "thrown" "I" ∈ wsX8_run := by decide +kernel
set_option maxRecDepth 20000 in
theorem iw_X8_run_X8 : ∀ w ∈ wsX80, w ∈ wsX8_run := by decide +kernel
set_option maxRecDepth 20000 in
theorem cw_X8_run_157 : Cond.constantLong RX8 157 100000 ∈ wsX8_run := by decide +kernel
set_option maxRecDepth 20000 in
theorem fw_X8_run_108 : Cond.fieldLink RX8 108 "StepBenchModel" "sort" "I" ∈ wsX8_run := by decide +kernel
set_option maxRecDepth 20000 in
theorem fw_X8_run_146 : Cond.fieldLink RX8 146 "StepBenchModel" "at" "J" ∈ wsX8_run := by decide +kernel
set_option maxRecDepth 20000 in
theorem hd_X8_run : yX8_run.cls = RX8 ∧ yX8_run.cls ≠ "java/lang/invoke/MethodHandle" ∧ yX8_run.cls ≠ "java/lang/invoke/VarHandle" ∧ (parseMethodDescriptor yX8_run.desc).map (fun d => d.parameters.length) = some 2 := by decide +kernel
def V_X8_run_57  (v3 : Int32)  (post : Int64 → SS → Prop) : Nat → Int32 → SS → Prop
  | 0, _, _ => False
  | n + 1, v4, S =>
    ((v3 ≤ v4 → (post (gJ S 0) S)) ∧ (¬ v3 ≤ v4 → (V_X8_goes (gJ S 0) S (fun (r17 : Int32) (S18 : SS) => ((r17 = 0 → (∀ x20 : Int32, x20 = v4 + 1 → (V_X8_run_57  v3  post n x20 S18))) ∧ (¬ r17 = 0 → ((r17 = (1 : Int32) → (V_X8_refuse (3 : Int32) S18 (fun (r22 : Int64) (S23 : SS) => (post r22 S23)))) ∧ (¬ r17 = (1 : Int32) → (V_X8_refuse (4 : Int32) S18 (fun (r24 : Int64) (S25 : SS) => (post r24 S25)))))))))))
set_option maxHeartbeats 4000000 in
set_option maxRecDepth 100000 in
theorem lp_X8_run_57  (v3 : Int32)  (post : Int64 → SS → Prop) (C0 : Bd p s m meth c args cX8_run 6 (some .long) wsX8_run RX8 D n0 cI cJ) : ∀ (n : Nat) (v4 : Int32) (S : SS), V_X8_run_57  v3  post n v4 S → ∀ (H : Heap) (locs : List Loc), Wh D n0 ad cI cJ X S s H locs → ∀ ls : Array Slot, lv_has ls 6 [(0, .ref (ad 48)), (3, .int v3), (4, .int v4)] → W p l e rm_X8_run s m args below meth c H locs 0 0 (MQ below (va_Ql post (fun S' t => Wd D n0 ad cI cJ X S' t) (fr n0)) args s 0 0 (fr n0)) (F0 m 57 ls []) := by
  intro n
  induction n with
  | zero => intro v4 S hV; exact False.elim hV
  | succ n ih =>
    intro v4 S hV H locs hw ls hl
    rw [V_X8_run_57] at hV
    refine lv_iload C0.x C0.b dX8_run_57 (lv_at hl 2 rfl) ?_
    refine lv_iload_n C0.x C0.b dX8_run_59 rfl (lv_at hl 1 rfl) ?_
    refine lv_icmp_ge (tgt := 100) C0.x C0.b dX8_run_60 (by decide) (fun c16 => ?_) (fun c16 => ?_)
    · have hV := hV.1 c16
      refine lv_aload_n C0.x C0.b dX8_run_100 rfl (lv_at hl 0 rfl) ?_
      refine r_get C0 hw (C := RX8) (T := TX8) (N := 33) (v := .long (gJ S 0)) iw_X8_run_X8 (lg_48 ad cI cJ X S) rfl 13 (by decide) (C0.ts _ fw_X8_run_146) rfl dX8_run_101 ?_
      exact r_lret C0 rfl hw hV dX8_run_104
    · have hV := hV.2 c16
      refine lv_aload_n C0.x C0.b dX8_run_63 rfl (lv_at hl 0 rfl) ?_
      refine lv_aload_n C0.x C0.b dX8_run_64 rfl (lv_at hl 0 rfl) ?_
      refine r_get C0 hw (C := RX8) (T := TX8) (N := 33) (v := .long (gJ S 0)) iw_X8_run_X8 (lg_48 ad cI cJ X S) rfl 13 (by decide) (C0.ts _ fw_X8_run_146) rfl dX8_run_65 ?_
      refine r_cV_i (As := [.long (gJ S 0)]) (rest := []) C0 hw (c_X8_goes  hV) (cwV 1 C0.ts gX8_run_X8_goes rfl rfl rfl hd_X8_goes ⟨Nat.le_of_ble_eq_true rfl, Nat.le_of_ble_eq_true rfl⟩) (lg_48 ad cI cJ X S) rfl rfl hl.1 rfl (Nat.le_of_ble_eq_true rfl) ⟨Nat.zero_le _, Nat.zero_le _⟩ dX8_run_68 (fun r17 S18 H locs hV hw => ?_)
      refine lv_istore (lv' := [(5, .int r17), (0, .ref (ad 48)), (3, .int v3), (4, .int v4)]) C0.x C0.b dX8_run_71 hl (by decide) rfl (fun ls hl => ?_)
      refine lv_iload C0.x C0.b dX8_run_73 (lv_at hl 0 rfl) ?_
      refine lv_if_eq (tgt := 94) C0.x C0.b dX8_run_75 (by decide) (fun c19 => ?_) (fun c19 => ?_)
      · have hV := hV.1 c19
        obtain ⟨x20, ex20⟩ : ∃ z : Int32, z = v4 + 1 := ⟨_, rfl⟩
        have hV := hV x20 ex20
        refine lv_iinc (v := x20) (lv' := [(4, .int x20), (5, .int r17), (0, .ref (ad 48)), (3, .int v3)]) C0.x C0.b dX8_run_94 hl (k := 3) rfl (by rw [ex20]; rfl) (by decide) rfl (fun ls hl => ?_)
        refine lv_goto (tgt := 57) C0.x C0.b dX8_run_97 (by decide) ?_
        exact ih _ _ hV _ _ hw _ (lv_sub hl [2, 3, 0] rfl)
      · have hV := hV.2 c19
        refine lv_aload_n C0.x C0.b dX8_run_78 rfl (lv_at hl 1 rfl) ?_
        refine lv_iload C0.x C0.b dX8_run_79 (lv_at hl 0 rfl) ?_
        refine lv_iconst (v := 1) C0.x C0.b dX8_run_81 (by decide) ?_
        refine lv_icmp_ne (tgt := 89) C0.x C0.b dX8_run_82 (by decide) (fun c21 => ?_) (fun c21 => ?_)
        · have hV := hV.2 c21
          refine lv_iconst (v := 4) C0.x C0.b dX8_run_89 (by decide) ?_
          refine r_cV_l (As := [.int (4 : Int32)]) (rest := []) C0 hw (c_X8_refuse  hV) (cwV 1 C0.ts gX8_run_X8_refuse rfl rfl rfl hd_X8_refuse ⟨Nat.le_of_ble_eq_true rfl, Nat.le_of_ble_eq_true rfl⟩) (lg_48 ad cI cJ X S18) rfl rfl hl.1 rfl (Nat.le_of_ble_eq_true rfl) ⟨Nat.zero_le _, Nat.zero_le _⟩ dX8_run_90 (fun r24 S25 H locs hV hw => ?_)
          exact r_lret C0 rfl hw hV dX8_run_93
        · have hV := hV.1 c21
          refine lv_iconst (v := 3) C0.x C0.b dX8_run_85 (by decide) ?_
          refine lv_goto (tgt := 90) C0.x C0.b dX8_run_86 (by decide) ?_
          refine r_cV_l (As := [.int (3 : Int32)]) (rest := []) C0 hw (c_X8_refuse  hV) (cwV 1 C0.ts gX8_run_X8_refuse rfl rfl rfl hd_X8_refuse ⟨Nat.le_of_ble_eq_true rfl, Nat.le_of_ble_eq_true rfl⟩) (lg_48 ad cI cJ X S18) rfl rfl hl.1 rfl (Nat.le_of_ble_eq_true rfl) ⟨Nat.zero_le _, Nat.zero_le _⟩ dX8_run_90 (fun r22 S23 H locs hV hw => ?_)
          exact r_lret C0 rfl hw hV dX8_run_93
def V_X8_run  (p0 : Int64) (p1 : Int32) (S : SS) (post : Int64 → SS → Prop) : Prop :=
  (∀ S1 : SS, S1 = (sI S 20 (0 : Int32)) → (V_X8_in p1.toInt64 (0 : Int64) (100000 : Int64) S1 (fun (r2 : Int32) (S3 : SS) => ((r2 = 0 → (V_X8_refuse (1 : Int32) S3 (fun (r5 : Int64) (S6 : SS) => (post r5 S6)))) ∧ (¬ r2 = 0 → (((gI S3 25) = 0 → (V_X8_refuse (2 : Int32) S3 (fun (r8 : Int64) (S9 : SS) => (post r8 S9)))) ∧ (¬ (gI S3 25) = 0 → (V_X8_isNumber p0 S3 (fun (r10 : Int32) (S11 : SS) => ((r10 = 0 → (V_X8_refuse (4 : Int32) S11 (fun (r13 : Int64) (S14 : SS) => (post r13 S14)))) ∧ (¬ r10 = 0 → (∀ S15 : SS, S15 = (sJ S11 0 p0) → (∃ n57 : Nat, V_X8_run_57  p1  post n57 (0 : Int32) S15)))))))))))))
set_option maxHeartbeats 4000000 in
set_option maxRecDepth 100000 in
theorem c_X8_run  {S : SS} {p0 : Int64} {p1 : Int32} {post : Int64 → SS → Prop} (hV : V_X8_run  p0 p1 S post) : ML l yX8_run wsX8_run rm_X8_run [.ref (ad 48), .long p0, .int p1] D n0 ad cI cJ X S post := by
  refine Met.ofW (cc := cX8_run) (maxL := 6) (ret := (some .long)) (by decide) rfl ?_
  intro p e s m args below meth c s₁ B hml hv
  obtain ⟨rfl, hv⟩ := hv
  have C0 := Bd.mk B hml (atoms_spec (ws := wsX8_run) B.pre) (findClass_of_methodNamed B.named) hv.1
  have hw : Wh D n0 ad cI cJ X S s s.heap [] := ⟨hv.2.1, hv.2.2, va_S.rf⟩
  refine r_entry (Nat.le_of_ble_eq_true rfl) (fun ls hl => ?_)
  have hl : lv_has ls 6 [(0, .ref (ad 48)), (1, .long p0), (3, .int p1)] := hl
  unfold V_X8_run at hV
  refine lv_aload_n C0.x C0.b dX8_run_0 rfl (lv_at hl 0 rfl) ?_
  refine lv_iconst (v := 0) C0.x C0.b dX8_run_1 (by decide) ?_
  refine r_put C0 hw (C := RX8) (T := TX8) (N := 33) (ty := .int) iw_X8_run_X8 tyX8 tyX8_ok nmX8 (lg_48 ad cI cJ X S) rfl 0 (by decide) (C0.ts _ fw_X8_run_61) rfl (by decide +kernel) rfl rfl (Nat.le_of_ble_eq_true rfl) dX8_run_2 (S' := (sI S 20 (0 : Int32))) (ls_48_0 ad cI cJ X S (0 : Int32)) (fun S1 H locs eS1 hw => ?_)
  have hV := hV S1 eS1
  refine lv_iload_n C0.x C0.b dX8_run_5 rfl (lv_at hl 2 rfl) ?_
  refine lv_i2l C0.x C0.b dX8_run_6 rfl ?_
  refine lv_lconst (v := 0) C0.x C0.b dX8_run_7 (by decide) ?_
  refine lv_ldc2 (v := 100000) C0.x C0.b C0.ow (C0.ts _ cw_X8_run_157) dX8_run_8 ?_
  refine r_cS_i (As := [.long p1.toInt64, .long (0 : Int64), .long (100000 : Int64)]) (rest := []) C0 hw (c_X8_in  hV) (va_cwS 3 C0.ts gX8_run_X8_in rfl rfl rfl hd_X8_in ⟨Nat.le_of_ble_eq_true rfl, Nat.le_of_ble_eq_true rfl⟩) rfl hl.1 rfl (Nat.le_of_ble_eq_true rfl) ⟨Nat.zero_le _, Nat.zero_le _⟩ dX8_run_11 (fun r2 S3 H locs hV hw => ?_)
  refine lv_if_ne (tgt := 23) C0.x C0.b dX8_run_14 (by decide) (fun c4 => ?_) (fun c4 => ?_)
  · have hV := hV.2 c4
    refine lv_aload_n C0.x C0.b dX8_run_23 rfl (lv_at hl 0 rfl) ?_
    refine r_get C0 hw (C := RX8) (T := TX8) (N := 33) (v := .int (gI S3 25)) iw_X8_run_X8 (lg_48 ad cI cJ X S3) rfl 7 (by decide) (C0.ts _ fw_X8_run_108) rfl dX8_run_24 ?_
    refine lv_if_ne (tgt := 36) C0.x C0.b dX8_run_27 (by decide) (fun c7 => ?_) (fun c7 => ?_)
    · have hV := hV.2 c7
      refine lv_lload_n C0.x C0.b dX8_run_36 rfl (lv_at hl 1 rfl) ?_
      refine r_cS_i (As := [.long p0]) (rest := []) C0 hw (c_X8_isNumber  hV) (va_cwS 1 C0.ts gX8_run_X8_isNumber rfl rfl rfl hd_X8_isNumber ⟨Nat.le_of_ble_eq_true rfl, Nat.le_of_ble_eq_true rfl⟩) rfl hl.1 rfl (Nat.le_of_ble_eq_true rfl) ⟨Nat.zero_le _, Nat.zero_le _⟩ dX8_run_37 (fun r10 S11 H locs hV hw => ?_)
      refine lv_if_ne (tgt := 49) C0.x C0.b dX8_run_40 (by decide) (fun c12 => ?_) (fun c12 => ?_)
      · have hV := hV.2 c12
        refine lv_aload_n C0.x C0.b dX8_run_49 rfl (lv_at hl 0 rfl) ?_
        refine lv_lload_n C0.x C0.b dX8_run_50 rfl (lv_at hl 1 rfl) ?_
        refine r_put C0 hw (C := RX8) (T := TX8) (N := 33) (ty := .long) iw_X8_run_X8 tyX8 tyX8_ok nmX8 (lg_48 ad cI cJ X S11) rfl 13 (by decide) (C0.ts _ fw_X8_run_146) rfl (by decide +kernel) rfl rfl (Nat.le_of_ble_eq_true rfl) dX8_run_51 (S' := (sJ S11 0 p0)) (ls_48_13 ad cI cJ X S11 p0) (fun S15 H locs eS15 hw => ?_)
        have hV := hV S15 eS15
        refine lv_iconst (v := 0) C0.x C0.b dX8_run_54 (by decide) ?_
        refine lv_istore (lv' := [(4, .int (0 : Int32)), (0, .ref (ad 48)), (1, .long p0), (3, .int p1)]) C0.x C0.b dX8_run_55 hl (by decide) rfl (fun ls hl => ?_)
        obtain ⟨n57, hV⟩ := hV
        exact lp_X8_run_57  _ post C0  n57 _ _ hV _ _ hw _ (lv_sub hl [1, 3, 0] rfl)
      · have hV := hV.1 c12
        refine lv_aload_n C0.x C0.b dX8_run_43 rfl (lv_at hl 0 rfl) ?_
        refine lv_iconst (v := 4) C0.x C0.b dX8_run_44 (by decide) ?_
        refine r_cV_l (As := [.int (4 : Int32)]) (rest := []) C0 hw (c_X8_refuse  hV) (cwV 1 C0.ts gX8_run_X8_refuse rfl rfl rfl hd_X8_refuse ⟨Nat.le_of_ble_eq_true rfl, Nat.le_of_ble_eq_true rfl⟩) (lg_48 ad cI cJ X S11) rfl rfl hl.1 rfl (Nat.le_of_ble_eq_true rfl) ⟨Nat.zero_le _, Nat.zero_le _⟩ dX8_run_45 (fun r13 S14 H locs hV hw => ?_)
        exact r_lret C0 rfl hw hV dX8_run_48
    · have hV := hV.1 c7
      refine lv_aload_n C0.x C0.b dX8_run_30 rfl (lv_at hl 0 rfl) ?_
      refine lv_iconst (v := 2) C0.x C0.b dX8_run_31 (by decide) ?_
      refine r_cV_l (As := [.int (2 : Int32)]) (rest := []) C0 hw (c_X8_refuse  hV) (cwV 1 C0.ts gX8_run_X8_refuse rfl rfl rfl hd_X8_refuse ⟨Nat.le_of_ble_eq_true rfl, Nat.le_of_ble_eq_true rfl⟩) (lg_48 ad cI cJ X S3) rfl rfl hl.1 rfl (Nat.le_of_ble_eq_true rfl) ⟨Nat.zero_le _, Nat.zero_le _⟩ dX8_run_32 (fun r8 S9 H locs hV hw => ?_)
      exact r_lret C0 rfl hw hV dX8_run_35
  · have hV := hV.1 c4
    refine lv_aload_n C0.x C0.b dX8_run_17 rfl (lv_at hl 0 rfl) ?_
    refine lv_iconst (v := 1) C0.x C0.b dX8_run_18 (by decide) ?_
    refine r_cV_l (As := [.int (1 : Int32)]) (rest := []) C0 hw (c_X8_refuse  hV) (cwV 1 C0.ts gX8_run_X8_refuse rfl rfl rfl hd_X8_refuse ⟨Nat.le_of_ble_eq_true rfl, Nat.le_of_ble_eq_true rfl⟩) (lg_48 ad cI cJ X S3) rfl rfl hl.1 rfl (Nat.le_of_ble_eq_true rfl) ⟨Nat.zero_le _, Nat.zero_le _⟩ dX8_run_19 (fun r5 S6 H locs hV hw => ?_)
    exact r_lret C0 rfl hw hV dX8_run_22
/-! StepBenchModel.until(JJI)I -/
abbrev rm_X8_until : Room := { frames := 4, cells := 0, slots := 0, locals := 95 }
set_option maxRecDepth 20000 in
theorem fw_X8_until_61 : Cond.fieldLink RX8 61 "StepBenchModel" "thrown" "I" ∈ wsX8_until := by decide +kernel
set_option maxRecDepth 20000 in
theorem iw_X8_until_X8 : ∀ w ∈ wsX80, w ∈ wsX8_until := by decide +kernel
set_option maxRecDepth 20000 in
theorem fw_X8_until_108 : Cond.fieldLink RX8 108 "StepBenchModel" "sort" "I" ∈ wsX8_until := by decide +kernel
set_option maxRecDepth 20000 in
theorem cw_X8_until_157 : Cond.constantLong RX8 157 100000 ∈ wsX8_until := by decide +kernel
set_option maxRecDepth 20000 in
theorem fw_X8_until_146 : Cond.fieldLink RX8 146 "StepBenchModel" "at" "J" ∈ wsX8_until := by decide +kernel
set_option maxRecDepth 20000 in
theorem hd_X8_until : yX8_until.cls = RX8 ∧ yX8_until.cls ≠ "java/lang/invoke/MethodHandle" ∧ yX8_until.cls ≠ "java/lang/invoke/VarHandle" ∧ (parseMethodDescriptor yX8_until.desc).map (fun d => d.parameters.length) = some 3 := by decide +kernel
def V_X8_until_49  (v3 : Int64) (v5 : Int32)  (post : Int32 → SS → Prop) : Nat → Int32 → SS → Prop
  | 0, _, _ => False
  | n + 1, v6, S =>
    ((v5 < v6 → (post (-2 : Int32) S)) ∧ (¬ v5 < v6 → (((gJ S 0) = v3 → (post v6 S)) ∧ (¬ (gJ S 0) = v3 → ((v5 ≤ v6 → (∀ x16 : Int32, x16 = v6 + 1 → (V_X8_until_49  v3 v5  post n x16 S))) ∧ (¬ v5 ≤ v6 → (V_X8_goes (gJ S 0) S (fun (r17 : Int32) (S18 : SS) => ((r17 = 0 → (∀ x20 : Int32, x20 = v6 + 1 → (V_X8_until_49  v3 v5  post n x20 S18))) ∧ (¬ r17 = 0 → (post (-1 : Int32) S18)))))))))))
set_option maxHeartbeats 4000000 in
set_option maxRecDepth 100000 in
theorem lp_X8_until_49  (v3 : Int64) (v5 : Int32)  (post : Int32 → SS → Prop) (C0 : Bd p s m meth c args cX8_until 7 (some .int) wsX8_until RX8 D n0 cI cJ) : ∀ (n : Nat) (v6 : Int32) (S : SS), V_X8_until_49  v3 v5  post n v6 S → ∀ (H : Heap) (locs : List Loc), Wh D n0 ad cI cJ X S s H locs → ∀ ls : Array Slot, lv_has ls 7 [(0, .ref (ad 48)), (3, .long v3), (5, .int v5), (6, .int v6)] → W p l e rm_X8_until s m args below meth c H locs 0 0 (MQ below (va_Qi post (fun S' t => Wd D n0 ad cI cJ X S' t) (fr n0)) args s 0 0 (fr n0)) (F0 m 49 ls []) := by
  intro n
  induction n with
  | zero => intro v6 S hV; exact False.elim hV
  | succ n ih =>
    intro v6 S hV H locs hw ls hl
    rw [V_X8_until_49] at hV
    refine lv_iload C0.x C0.b dX8_until_49 (lv_at hl 3 rfl) ?_
    refine lv_iload C0.x C0.b dX8_until_51 (lv_at hl 2 rfl) ?_
    refine lv_icmp_gt (tgt := 94) C0.x C0.b dX8_until_53 (by decide) (fun c13 => ?_) (fun c13 => ?_)
    · have hV := hV.1 c13
      refine lv_bipush (v := -2) C0.x C0.b dX8_until_94 (by decide) ?_
      exact r_iret C0 rfl hw hV dX8_until_96
    · have hV := hV.2 c13
      refine lv_aload_n C0.x C0.b dX8_until_56 rfl (lv_at hl 0 rfl) ?_
      refine r_get C0 hw (C := RX8) (T := TX8) (N := 33) (v := .long (gJ S 0)) iw_X8_until_X8 (lg_48 ad cI cJ X S) rfl 13 (by decide) (C0.ts _ fw_X8_until_146) rfl dX8_until_57 ?_
      refine lv_lload_n C0.x C0.b dX8_until_60 rfl (lv_at hl 1 rfl) ?_
      refine r_lcmp C0 dX8_until_61 ?_
      refine lv_if_ne (tgt := 68) C0.x C0.b dX8_until_62 (by decide) (fun c14 => ?_) (fun c14 => ?_)
      · have hV := hV.2 (fun h => c14 ((lc_eq _ _).mpr h))
        refine lv_iload C0.x C0.b dX8_until_68 (lv_at hl 3 rfl) ?_
        refine lv_iload C0.x C0.b dX8_until_70 (lv_at hl 2 rfl) ?_
        refine lv_icmp_ge (tgt := 88) C0.x C0.b dX8_until_72 (by decide) (fun c15 => ?_) (fun c15 => ?_)
        · have hV := hV.1 c15
          obtain ⟨x16, ex16⟩ : ∃ z : Int32, z = v6 + 1 := ⟨_, rfl⟩
          have hV := hV x16 ex16
          refine lv_iinc (v := x16) (lv' := [(6, .int x16), (0, .ref (ad 48)), (3, .long v3), (5, .int v5)]) C0.x C0.b dX8_until_88 hl (k := 3) rfl (by rw [ex16]; rfl) (by decide) rfl (fun ls hl => ?_)
          refine lv_goto (tgt := 49) C0.x C0.b dX8_until_91 (by decide) ?_
          exact ih _ _ hV _ _ hw _ (lv_sub hl [1, 2, 3, 0] rfl)
        · have hV := hV.2 c15
          refine lv_aload_n C0.x C0.b dX8_until_75 rfl (lv_at hl 0 rfl) ?_
          refine lv_aload_n C0.x C0.b dX8_until_76 rfl (lv_at hl 0 rfl) ?_
          refine r_get C0 hw (C := RX8) (T := TX8) (N := 33) (v := .long (gJ S 0)) iw_X8_until_X8 (lg_48 ad cI cJ X S) rfl 13 (by decide) (C0.ts _ fw_X8_until_146) rfl dX8_until_77 ?_
          refine r_cV_i (As := [.long (gJ S 0)]) (rest := []) C0 hw (c_X8_goes  hV) (cwV 1 C0.ts gX8_until_X8_goes rfl rfl rfl hd_X8_goes ⟨Nat.le_of_ble_eq_true rfl, Nat.le_of_ble_eq_true rfl⟩) (lg_48 ad cI cJ X S) rfl rfl hl.1 rfl (Nat.le_of_ble_eq_true rfl) ⟨Nat.zero_le _, Nat.zero_le _⟩ dX8_until_80 (fun r17 S18 H locs hV hw => ?_)
          refine lv_if_eq (tgt := 88) C0.x C0.b dX8_until_83 (by decide) (fun c19 => ?_) (fun c19 => ?_)
          · have hV := hV.1 c19
            obtain ⟨x20, ex20⟩ : ∃ z : Int32, z = v6 + 1 := ⟨_, rfl⟩
            have hV := hV x20 ex20
            refine lv_iinc (v := x20) (lv' := [(6, .int x20), (0, .ref (ad 48)), (3, .long v3), (5, .int v5)]) C0.x C0.b dX8_until_88 hl (k := 3) rfl (by rw [ex20]; rfl) (by decide) rfl (fun ls hl => ?_)
            refine lv_goto (tgt := 49) C0.x C0.b dX8_until_91 (by decide) ?_
            exact ih _ _ hV _ _ hw _ (lv_sub hl [1, 2, 3, 0] rfl)
          · have hV := hV.2 c19
            refine lv_iconst (v := -1) C0.x C0.b dX8_until_86 (by decide) ?_
            exact r_iret C0 rfl hw hV dX8_until_87
      · have hV := hV.1 ((lc_eq _ _).mp c14)
        refine lv_iload C0.x C0.b dX8_until_65 (lv_at hl 3 rfl) ?_
        exact r_iret C0 rfl hw hV dX8_until_67
def V_X8_until  (p0 : Int64) (p1 : Int64) (p2 : Int32) (S : SS) (post : Int32 → SS → Prop) : Prop :=
  (∀ S1 : SS, S1 = (sI S 20 (0 : Int32)) → (((gI S1 25) = 0 → (post (-1 : Int32) S1)) ∧ (¬ (gI S1 25) = 0 → (V_X8_in p2.toInt64 (0 : Int64) (100000 : Int64) S1 (fun (r3 : Int32) (S4 : SS) => ((r3 = 0 → (post (-1 : Int32) S4)) ∧ (¬ r3 = 0 → (V_X8_isNumber p0 S4 (fun (r6 : Int32) (S7 : SS) => ((r6 = 0 → (post (-1 : Int32) S7)) ∧ (¬ r6 = 0 → (V_X8_isNumber p1 S7 (fun (r9 : Int32) (S10 : SS) => ((r9 = 0 → (post (-1 : Int32) S10)) ∧ (¬ r9 = 0 → (∀ S12 : SS, S12 = (sJ S10 0 p0) → (∃ n49 : Nat, V_X8_until_49  p1 p2  post n49 (0 : Int32) S12)))))))))))))))))
set_option maxHeartbeats 4000000 in
set_option maxRecDepth 100000 in
theorem c_X8_until  {S : SS} {p0 : Int64} {p1 : Int64} {p2 : Int32} {post : Int32 → SS → Prop} (hV : V_X8_until  p0 p1 p2 S post) : MI l yX8_until wsX8_until rm_X8_until [.ref (ad 48), .long p0, .long p1, .int p2] D n0 ad cI cJ X S post := by
  refine Met.ofW (cc := cX8_until) (maxL := 7) (ret := (some .int)) (by decide) rfl ?_
  intro p e s m args below meth c s₁ B hml hv
  obtain ⟨rfl, hv⟩ := hv
  have C0 := Bd.mk B hml (atoms_spec (ws := wsX8_until) B.pre) (findClass_of_methodNamed B.named) hv.1
  have hw : Wh D n0 ad cI cJ X S s s.heap [] := ⟨hv.2.1, hv.2.2, va_S.rf⟩
  refine r_entry (Nat.le_of_ble_eq_true rfl) (fun ls hl => ?_)
  have hl : lv_has ls 7 [(0, .ref (ad 48)), (1, .long p0), (3, .long p1), (5, .int p2)] := hl
  unfold V_X8_until at hV
  refine lv_aload_n C0.x C0.b dX8_until_0 rfl (lv_at hl 0 rfl) ?_
  refine lv_iconst (v := 0) C0.x C0.b dX8_until_1 (by decide) ?_
  refine r_put C0 hw (C := RX8) (T := TX8) (N := 33) (ty := .int) iw_X8_until_X8 tyX8 tyX8_ok nmX8 (lg_48 ad cI cJ X S) rfl 0 (by decide) (C0.ts _ fw_X8_until_61) rfl (by decide +kernel) rfl rfl (Nat.le_of_ble_eq_true rfl) dX8_until_2 (S' := (sI S 20 (0 : Int32))) (ls_48_0 ad cI cJ X S (0 : Int32)) (fun S1 H locs eS1 hw => ?_)
  have hV := hV S1 eS1
  refine lv_aload_n C0.x C0.b dX8_until_5 rfl (lv_at hl 0 rfl) ?_
  refine r_get C0 hw (C := RX8) (T := TX8) (N := 33) (v := .int (gI S1 25)) iw_X8_until_X8 (lg_48 ad cI cJ X S1) rfl 7 (by decide) (C0.ts _ fw_X8_until_108) rfl dX8_until_6 ?_
  refine lv_if_eq (tgt := 39) C0.x C0.b dX8_until_9 (by decide) (fun c2 => ?_) (fun c2 => ?_)
  · have hV := hV.1 c2
    refine lv_iconst (v := -1) C0.x C0.b dX8_until_39 (by decide) ?_
    exact r_iret C0 rfl hw hV dX8_until_40
  · have hV := hV.2 c2
    refine lv_iload C0.x C0.b dX8_until_12 (lv_at hl 3 rfl) ?_
    refine lv_i2l C0.x C0.b dX8_until_14 rfl ?_
    refine lv_lconst (v := 0) C0.x C0.b dX8_until_15 (by decide) ?_
    refine lv_ldc2 (v := 100000) C0.x C0.b C0.ow (C0.ts _ cw_X8_until_157) dX8_until_16 ?_
    refine r_cS_i (As := [.long p2.toInt64, .long (0 : Int64), .long (100000 : Int64)]) (rest := []) C0 hw (c_X8_in  hV) (va_cwS 3 C0.ts gX8_until_X8_in rfl rfl rfl hd_X8_in ⟨Nat.le_of_ble_eq_true rfl, Nat.le_of_ble_eq_true rfl⟩) rfl hl.1 rfl (Nat.le_of_ble_eq_true rfl) ⟨Nat.zero_le _, Nat.zero_le _⟩ dX8_until_19 (fun r3 S4 H locs hV hw => ?_)
    refine lv_if_eq (tgt := 39) C0.x C0.b dX8_until_22 (by decide) (fun c5 => ?_) (fun c5 => ?_)
    · have hV := hV.1 c5
      refine lv_iconst (v := -1) C0.x C0.b dX8_until_39 (by decide) ?_
      exact r_iret C0 rfl hw hV dX8_until_40
    · have hV := hV.2 c5
      refine lv_lload_n C0.x C0.b dX8_until_25 rfl (lv_at hl 1 rfl) ?_
      refine r_cS_i (As := [.long p0]) (rest := []) C0 hw (c_X8_isNumber  hV) (va_cwS 1 C0.ts gX8_until_X8_isNumber rfl rfl rfl hd_X8_isNumber ⟨Nat.le_of_ble_eq_true rfl, Nat.le_of_ble_eq_true rfl⟩) rfl hl.1 rfl (Nat.le_of_ble_eq_true rfl) ⟨Nat.zero_le _, Nat.zero_le _⟩ dX8_until_26 (fun r6 S7 H locs hV hw => ?_)
      refine lv_if_eq (tgt := 39) C0.x C0.b dX8_until_29 (by decide) (fun c8 => ?_) (fun c8 => ?_)
      · have hV := hV.1 c8
        refine lv_iconst (v := -1) C0.x C0.b dX8_until_39 (by decide) ?_
        exact r_iret C0 rfl hw hV dX8_until_40
      · have hV := hV.2 c8
        refine lv_lload_n C0.x C0.b dX8_until_32 rfl (lv_at hl 2 rfl) ?_
        refine r_cS_i (As := [.long p1]) (rest := []) C0 hw (c_X8_isNumber  hV) (va_cwS 1 C0.ts gX8_until_X8_isNumber rfl rfl rfl hd_X8_isNumber ⟨Nat.le_of_ble_eq_true rfl, Nat.le_of_ble_eq_true rfl⟩) rfl hl.1 rfl (Nat.le_of_ble_eq_true rfl) ⟨Nat.zero_le _, Nat.zero_le _⟩ dX8_until_33 (fun r9 S10 H locs hV hw => ?_)
        refine lv_if_ne (tgt := 41) C0.x C0.b dX8_until_36 (by decide) (fun c11 => ?_) (fun c11 => ?_)
        · have hV := hV.2 c11
          refine lv_aload_n C0.x C0.b dX8_until_41 rfl (lv_at hl 0 rfl) ?_
          refine lv_lload_n C0.x C0.b dX8_until_42 rfl (lv_at hl 1 rfl) ?_
          refine r_put C0 hw (C := RX8) (T := TX8) (N := 33) (ty := .long) iw_X8_until_X8 tyX8 tyX8_ok nmX8 (lg_48 ad cI cJ X S10) rfl 13 (by decide) (C0.ts _ fw_X8_until_146) rfl (by decide +kernel) rfl rfl (Nat.le_of_ble_eq_true rfl) dX8_until_43 (S' := (sJ S10 0 p0)) (ls_48_13 ad cI cJ X S10 p0) (fun S12 H locs eS12 hw => ?_)
          have hV := hV S12 eS12
          refine lv_iconst (v := 0) C0.x C0.b dX8_until_46 (by decide) ?_
          refine lv_istore (lv' := [(6, .int (0 : Int32)), (0, .ref (ad 48)), (1, .long p0), (3, .long p1), (5, .int p2)]) C0.x C0.b dX8_until_47 hl (by decide) rfl (fun ls hl => ?_)
          obtain ⟨n49, hV⟩ := hV
          exact lp_X8_until_49  _ _ post C0  n49 _ _ hV _ _ hw _ (lv_sub hl [1, 3, 4, 0] rfl)
        · have hV := hV.1 c11
          refine lv_iconst (v := -1) C0.x C0.b dX8_until_39 (by decide) ?_
          exact r_iret C0 rfl hw hV dX8_until_40
/-! StepBenchModel.height(JI)I -/
abbrev rm_X8_height : Room := { frames := 4, cells := 0, slots := 0, locals := 95 }
set_option maxRecDepth 20000 in
theorem fw_X8_height_61 : Cond.fieldLink RX8 61 "StepBenchModel" "thrown" "I" ∈ wsX8_height := by decide +kernel
set_option maxRecDepth 20000 in
theorem iw_X8_height_X8 : ∀ w ∈ wsX80, w ∈ wsX8_height := by decide +kernel
set_option maxRecDepth 20000 in
theorem fw_X8_height_108 : Cond.fieldLink RX8 108 "StepBenchModel" "sort" "I" ∈ wsX8_height := by decide +kernel
set_option maxRecDepth 20000 in
theorem cw_X8_height_157 : Cond.constantLong RX8 157 100000 ∈ wsX8_height := by decide +kernel
set_option maxRecDepth 20000 in
theorem fw_X8_height_146 : Cond.fieldLink RX8 146 "StepBenchModel" "at" "J" ∈ wsX8_height := by decide +kernel
set_option maxRecDepth 20000 in
theorem hd_X8_height : yX8_height.cls = RX8 ∧ yX8_height.cls ≠ "java/lang/invoke/MethodHandle" ∧ yX8_height.cls ≠ "java/lang/invoke/VarHandle" ∧ (parseMethodDescriptor yX8_height.desc).map (fun d => d.parameters.length) = some 2 := by decide +kernel
def V_X8_height_41  (v1 : Int64) (v3 : Int32)  (post : Int32 → SS → Prop) : Nat → Int32 → SS → Prop
  | 0, _, _ => False
  | n + 1, v4, S =>
    ((v3 < v4 → (post (-2 : Int32) S)) ∧ (¬ v3 < v4 → ((v1 ≤ (gJ S 0) → ((v3 ≤ v4 → (∀ x13 : Int32, x13 = v4 + 1 → (V_X8_height_41  v1 v3  post n x13 S))) ∧ (¬ v3 ≤ v4 → (V_X8_goes (gJ S 0) S (fun (r14 : Int32) (S15 : SS) => ((r14 = 0 → (∀ x17 : Int32, x17 = v4 + 1 → (V_X8_height_41  v1 v3  post n x17 S15))) ∧ (¬ r14 = 0 → (post (-1 : Int32) S15)))))))) ∧ (¬ v1 ≤ (gJ S 0) → (post v4 S)))))
set_option maxHeartbeats 4000000 in
set_option maxRecDepth 100000 in
theorem lp_X8_height_41  (v1 : Int64) (v3 : Int32)  (post : Int32 → SS → Prop) (C0 : Bd p s m meth c args cX8_height 5 (some .int) wsX8_height RX8 D n0 cI cJ) : ∀ (n : Nat) (v4 : Int32) (S : SS), V_X8_height_41  v1 v3  post n v4 S → ∀ (H : Heap) (locs : List Loc), Wh D n0 ad cI cJ X S s H locs → ∀ ls : Array Slot, lv_has ls 5 [(0, .ref (ad 48)), (1, .long v1), (3, .int v3), (4, .int v4)] → W p l e rm_X8_height s m args below meth c H locs 0 0 (MQ below (va_Qi post (fun S' t => Wd D n0 ad cI cJ X S' t) (fr n0)) args s 0 0 (fr n0)) (F0 m 41 ls []) := by
  intro n
  induction n with
  | zero => intro v4 S hV; exact False.elim hV
  | succ n ih =>
    intro v4 S hV H locs hw ls hl
    rw [V_X8_height_41] at hV
    refine lv_iload C0.x C0.b dX8_height_41 (lv_at hl 3 rfl) ?_
    refine lv_iload_n C0.x C0.b dX8_height_43 rfl (lv_at hl 2 rfl) ?_
    refine lv_icmp_gt (tgt := 84) C0.x C0.b dX8_height_44 (by decide) (fun c10 => ?_) (fun c10 => ?_)
    · have hV := hV.1 c10
      refine lv_bipush (v := -2) C0.x C0.b dX8_height_84 (by decide) ?_
      exact r_iret C0 rfl hw hV dX8_height_86
    · have hV := hV.2 c10
      refine lv_aload_n C0.x C0.b dX8_height_47 rfl (lv_at hl 0 rfl) ?_
      refine r_get C0 hw (C := RX8) (T := TX8) (N := 33) (v := .long (gJ S 0)) iw_X8_height_X8 (lg_48 ad cI cJ X S) rfl 13 (by decide) (C0.ts _ fw_X8_height_146) rfl dX8_height_48 ?_
      refine lv_lload_n C0.x C0.b dX8_height_51 rfl (lv_at hl 1 rfl) ?_
      refine r_lcmp C0 dX8_height_52 ?_
      refine lv_if_ge (tgt := 59) C0.x C0.b dX8_height_53 (by decide) (fun c11 => ?_) (fun c11 => ?_)
      · have hV := hV.1 ((lc_ge _ _).mp c11)
        refine lv_iload C0.x C0.b dX8_height_59 (lv_at hl 3 rfl) ?_
        refine lv_iload_n C0.x C0.b dX8_height_61 rfl (lv_at hl 2 rfl) ?_
        refine lv_icmp_ge (tgt := 78) C0.x C0.b dX8_height_62 (by decide) (fun c12 => ?_) (fun c12 => ?_)
        · have hV := hV.1 c12
          obtain ⟨x13, ex13⟩ : ∃ z : Int32, z = v4 + 1 := ⟨_, rfl⟩
          have hV := hV x13 ex13
          refine lv_iinc (v := x13) (lv' := [(4, .int x13), (0, .ref (ad 48)), (1, .long v1), (3, .int v3)]) C0.x C0.b dX8_height_78 hl (k := 3) rfl (by rw [ex13]; rfl) (by decide) rfl (fun ls hl => ?_)
          refine lv_goto (tgt := 41) C0.x C0.b dX8_height_81 (by decide) ?_
          exact ih _ _ hV _ _ hw _ (lv_sub hl [1, 2, 3, 0] rfl)
        · have hV := hV.2 c12
          refine lv_aload_n C0.x C0.b dX8_height_65 rfl (lv_at hl 0 rfl) ?_
          refine lv_aload_n C0.x C0.b dX8_height_66 rfl (lv_at hl 0 rfl) ?_
          refine r_get C0 hw (C := RX8) (T := TX8) (N := 33) (v := .long (gJ S 0)) iw_X8_height_X8 (lg_48 ad cI cJ X S) rfl 13 (by decide) (C0.ts _ fw_X8_height_146) rfl dX8_height_67 ?_
          refine r_cV_i (As := [.long (gJ S 0)]) (rest := []) C0 hw (c_X8_goes  hV) (cwV 1 C0.ts gX8_height_X8_goes rfl rfl rfl hd_X8_goes ⟨Nat.le_of_ble_eq_true rfl, Nat.le_of_ble_eq_true rfl⟩) (lg_48 ad cI cJ X S) rfl rfl hl.1 rfl (Nat.le_of_ble_eq_true rfl) ⟨Nat.zero_le _, Nat.zero_le _⟩ dX8_height_70 (fun r14 S15 H locs hV hw => ?_)
          refine lv_if_eq (tgt := 78) C0.x C0.b dX8_height_73 (by decide) (fun c16 => ?_) (fun c16 => ?_)
          · have hV := hV.1 c16
            obtain ⟨x17, ex17⟩ : ∃ z : Int32, z = v4 + 1 := ⟨_, rfl⟩
            have hV := hV x17 ex17
            refine lv_iinc (v := x17) (lv' := [(4, .int x17), (0, .ref (ad 48)), (1, .long v1), (3, .int v3)]) C0.x C0.b dX8_height_78 hl (k := 3) rfl (by rw [ex17]; rfl) (by decide) rfl (fun ls hl => ?_)
            refine lv_goto (tgt := 41) C0.x C0.b dX8_height_81 (by decide) ?_
            exact ih _ _ hV _ _ hw _ (lv_sub hl [1, 2, 3, 0] rfl)
          · have hV := hV.2 c16
            refine lv_iconst (v := -1) C0.x C0.b dX8_height_76 (by decide) ?_
            exact r_iret C0 rfl hw hV dX8_height_77
      · have hV := hV.2 (fun h => c11 ((lc_ge _ _).mpr h))
        refine lv_iload C0.x C0.b dX8_height_56 (lv_at hl 3 rfl) ?_
        exact r_iret C0 rfl hw hV dX8_height_58
def V_X8_height  (p0 : Int64) (p1 : Int32) (S : SS) (post : Int32 → SS → Prop) : Prop :=
  (∀ S1 : SS, S1 = (sI S 20 (0 : Int32)) → (((gI S1 25) = 0 → (post (-1 : Int32) S1)) ∧ (¬ (gI S1 25) = 0 → (V_X8_in p1.toInt64 (0 : Int64) (100000 : Int64) S1 (fun (r3 : Int32) (S4 : SS) => ((r3 = 0 → (post (-1 : Int32) S4)) ∧ (¬ r3 = 0 → (V_X8_isNumber p0 S4 (fun (r6 : Int32) (S7 : SS) => ((r6 = 0 → (post (-1 : Int32) S7)) ∧ (¬ r6 = 0 → (∀ S9 : SS, S9 = (sJ S7 0 p0) → (∃ n41 : Nat, V_X8_height_41  p0 p1  post n41 (0 : Int32) S9)))))))))))))
set_option maxHeartbeats 4000000 in
set_option maxRecDepth 100000 in
theorem c_X8_height  {S : SS} {p0 : Int64} {p1 : Int32} {post : Int32 → SS → Prop} (hV : V_X8_height  p0 p1 S post) : MI l yX8_height wsX8_height rm_X8_height [.ref (ad 48), .long p0, .int p1] D n0 ad cI cJ X S post := by
  refine Met.ofW (cc := cX8_height) (maxL := 5) (ret := (some .int)) (by decide) rfl ?_
  intro p e s m args below meth c s₁ B hml hv
  obtain ⟨rfl, hv⟩ := hv
  have C0 := Bd.mk B hml (atoms_spec (ws := wsX8_height) B.pre) (findClass_of_methodNamed B.named) hv.1
  have hw : Wh D n0 ad cI cJ X S s s.heap [] := ⟨hv.2.1, hv.2.2, va_S.rf⟩
  refine r_entry (Nat.le_of_ble_eq_true rfl) (fun ls hl => ?_)
  have hl : lv_has ls 5 [(0, .ref (ad 48)), (1, .long p0), (3, .int p1)] := hl
  unfold V_X8_height at hV
  refine lv_aload_n C0.x C0.b dX8_height_0 rfl (lv_at hl 0 rfl) ?_
  refine lv_iconst (v := 0) C0.x C0.b dX8_height_1 (by decide) ?_
  refine r_put C0 hw (C := RX8) (T := TX8) (N := 33) (ty := .int) iw_X8_height_X8 tyX8 tyX8_ok nmX8 (lg_48 ad cI cJ X S) rfl 0 (by decide) (C0.ts _ fw_X8_height_61) rfl (by decide +kernel) rfl rfl (Nat.le_of_ble_eq_true rfl) dX8_height_2 (S' := (sI S 20 (0 : Int32))) (ls_48_0 ad cI cJ X S (0 : Int32)) (fun S1 H locs eS1 hw => ?_)
  have hV := hV S1 eS1
  refine lv_aload_n C0.x C0.b dX8_height_5 rfl (lv_at hl 0 rfl) ?_
  refine r_get C0 hw (C := RX8) (T := TX8) (N := 33) (v := .int (gI S1 25)) iw_X8_height_X8 (lg_48 ad cI cJ X S1) rfl 7 (by decide) (C0.ts _ fw_X8_height_108) rfl dX8_height_6 ?_
  refine lv_if_eq (tgt := 31) C0.x C0.b dX8_height_9 (by decide) (fun c2 => ?_) (fun c2 => ?_)
  · have hV := hV.1 c2
    refine lv_iconst (v := -1) C0.x C0.b dX8_height_31 (by decide) ?_
    exact r_iret C0 rfl hw hV dX8_height_32
  · have hV := hV.2 c2
    refine lv_iload_n C0.x C0.b dX8_height_12 rfl (lv_at hl 2 rfl) ?_
    refine lv_i2l C0.x C0.b dX8_height_13 rfl ?_
    refine lv_lconst (v := 0) C0.x C0.b dX8_height_14 (by decide) ?_
    refine lv_ldc2 (v := 100000) C0.x C0.b C0.ow (C0.ts _ cw_X8_height_157) dX8_height_15 ?_
    refine r_cS_i (As := [.long p1.toInt64, .long (0 : Int64), .long (100000 : Int64)]) (rest := []) C0 hw (c_X8_in  hV) (va_cwS 3 C0.ts gX8_height_X8_in rfl rfl rfl hd_X8_in ⟨Nat.le_of_ble_eq_true rfl, Nat.le_of_ble_eq_true rfl⟩) rfl hl.1 rfl (Nat.le_of_ble_eq_true rfl) ⟨Nat.zero_le _, Nat.zero_le _⟩ dX8_height_18 (fun r3 S4 H locs hV hw => ?_)
    refine lv_if_eq (tgt := 31) C0.x C0.b dX8_height_21 (by decide) (fun c5 => ?_) (fun c5 => ?_)
    · have hV := hV.1 c5
      refine lv_iconst (v := -1) C0.x C0.b dX8_height_31 (by decide) ?_
      exact r_iret C0 rfl hw hV dX8_height_32
    · have hV := hV.2 c5
      refine lv_lload_n C0.x C0.b dX8_height_24 rfl (lv_at hl 1 rfl) ?_
      refine r_cS_i (As := [.long p0]) (rest := []) C0 hw (c_X8_isNumber  hV) (va_cwS 1 C0.ts gX8_height_X8_isNumber rfl rfl rfl hd_X8_isNumber ⟨Nat.le_of_ble_eq_true rfl, Nat.le_of_ble_eq_true rfl⟩) rfl hl.1 rfl (Nat.le_of_ble_eq_true rfl) ⟨Nat.zero_le _, Nat.zero_le _⟩ dX8_height_25 (fun r6 S7 H locs hV hw => ?_)
      refine lv_if_ne (tgt := 33) C0.x C0.b dX8_height_28 (by decide) (fun c8 => ?_) (fun c8 => ?_)
      · have hV := hV.2 c8
        refine lv_aload_n C0.x C0.b dX8_height_33 rfl (lv_at hl 0 rfl) ?_
        refine lv_lload_n C0.x C0.b dX8_height_34 rfl (lv_at hl 1 rfl) ?_
        refine r_put C0 hw (C := RX8) (T := TX8) (N := 33) (ty := .long) iw_X8_height_X8 tyX8 tyX8_ok nmX8 (lg_48 ad cI cJ X S7) rfl 13 (by decide) (C0.ts _ fw_X8_height_146) rfl (by decide +kernel) rfl rfl (Nat.le_of_ble_eq_true rfl) dX8_height_35 (S' := (sJ S7 0 p0)) (ls_48_13 ad cI cJ X S7 p0) (fun S9 H locs eS9 hw => ?_)
        have hV := hV S9 eS9
        refine lv_iconst (v := 0) C0.x C0.b dX8_height_38 (by decide) ?_
        refine lv_istore (lv' := [(4, .int (0 : Int32)), (0, .ref (ad 48)), (1, .long p0), (3, .int p1)]) C0.x C0.b dX8_height_39 hl (by decide) rfl (fun ls hl => ?_)
        obtain ⟨n41, hV⟩ := hV
        exact lp_X8_height_41  _ _ post C0  n41 _ _ hV _ _ hw _ (lv_sub hl [1, 2, 3, 0] rfl)
      · have hV := hV.1 c8
        refine lv_iconst (v := -1) C0.x C0.b dX8_height_31 (by decide) ?_
        exact r_iret C0 rfl hw hV dX8_height_32
/-! StepBenchModel.peak(JI)J -/
abbrev rm_X8_peak : Room := { frames := 4, cells := 0, slots := 0, locals := 95 }
set_option maxRecDepth 20000 in
theorem fw_X8_peak_61 : Cond.fieldLink RX8 61 "StepBenchModel" "thrown" "I" ∈ wsX8_peak := by decide +kernel
set_option maxRecDepth 20000 in
theorem iw_X8_peak_X8 : ∀ w ∈ wsX80, w ∈ wsX8_peak := by decide +kernel
set_option maxRecDepth 20000 in
theorem cw_X8_peak_157 : Cond.constantLong RX8 157 100000 ∈ wsX8_peak := by decide +kernel
set_option maxRecDepth 20000 in
theorem fw_X8_peak_108 : Cond.fieldLink RX8 108 "StepBenchModel" "sort" "I" ∈ wsX8_peak := by decide +kernel
set_option maxRecDepth 20000 in
theorem fw_X8_peak_146 : Cond.fieldLink RX8 146 "StepBenchModel" "at" "J" ∈ wsX8_peak := by decide +kernel
set_option maxRecDepth 20000 in
theorem ml_X8_peak_159 : Cond.methodLink RX8 159 Lib.MathLoose.max_long.x ∈ wsX8_peak := by decide +kernel
set_option maxRecDepth 20000 in
theorem ms_X8_peak_159 : Cond.static Lib.MathLoose.max_long.x ∈ wsX8_peak := by decide +kernel
set_option maxRecDepth 20000 in
theorem mi_X8_peak_159 : Cond.initialized "java/lang/Math" ∈ wsX8_peak := by decide +kernel
set_option maxRecDepth 20000 in
theorem mc_X8_peak_159 : Cond.code Lib.MathLoose.max_long.x Lib.MathLoose.max_long.code 4 (some .long) ∈ wsX8_peak := by decide +kernel
set_option maxRecDepth 20000 in
theorem hd_X8_peak : yX8_peak.cls = RX8 ∧ yX8_peak.cls ≠ "java/lang/invoke/MethodHandle" ∧ yX8_peak.cls ≠ "java/lang/invoke/VarHandle" ∧ (parseMethodDescriptor yX8_peak.desc).map (fun d => d.parameters.length) = some 2 := by decide +kernel
def V_X8_peak_60  (v3 : Int32)  (post : Int64 → SS → Prop) : Nat → Int64 → Int32 → SS → Prop
  | 0, _, _, _ => False
  | n + 1, v4, v6, S =>
    ((v3 ≤ v6 → (post v4 S)) ∧ (¬ v3 ≤ v6 → (V_X8_goes (gJ S 0) S (fun (r17 : Int32) (S18 : SS) => ((r17 = 0 → (∀ y20 : Int64, y20 = (mxL v4 (gJ S18 0)) → (∀ x21 : Int32, x21 = v6 + 1 → (V_X8_peak_60  v3  post n y20 x21 S18)))) ∧ (¬ r17 = 0 → (post v4 S18)))))))
set_option maxHeartbeats 4000000 in
set_option maxRecDepth 100000 in
theorem lp_X8_peak_60  (v3 : Int32)  (post : Int64 → SS → Prop) (C0 : Bd p s m meth c args cX8_peak 7 (some .long) wsX8_peak RX8 D n0 cI cJ) : ∀ (n : Nat) (v4 : Int64) (v6 : Int32) (S : SS), V_X8_peak_60  v3  post n v4 v6 S → ∀ (H : Heap) (locs : List Loc), Wh D n0 ad cI cJ X S s H locs → ∀ ls : Array Slot, lv_has ls 7 [(0, .ref (ad 48)), (3, .int v3), (4, .long v4), (6, .int v6)] → W p l e rm_X8_peak s m args below meth c H locs 0 0 (MQ below (va_Ql post (fun S' t => Wd D n0 ad cI cJ X S' t) (fr n0)) args s 0 0 (fr n0)) (F0 m 60 ls []) := by
  intro n
  induction n with
  | zero => intro v4 v6 S hV; exact False.elim hV
  | succ n ih =>
    intro v4 v6 S hV H locs hw ls hl
    rw [V_X8_peak_60] at hV
    refine lv_iload C0.x C0.b dX8_peak_60 (lv_at hl 3 rfl) ?_
    refine lv_iload_n C0.x C0.b dX8_peak_62 rfl (lv_at hl 1 rfl) ?_
    refine lv_icmp_ge (tgt := 94) C0.x C0.b dX8_peak_63 (by decide) (fun c16 => ?_) (fun c16 => ?_)
    · have hV := hV.1 c16
      refine lv_lload C0.x C0.b dX8_peak_94 (lv_at hl 2 rfl) ?_
      exact r_lret C0 rfl hw hV dX8_peak_96
    · have hV := hV.2 c16
      refine lv_aload_n C0.x C0.b dX8_peak_66 rfl (lv_at hl 0 rfl) ?_
      refine lv_aload_n C0.x C0.b dX8_peak_67 rfl (lv_at hl 0 rfl) ?_
      refine r_get C0 hw (C := RX8) (T := TX8) (N := 33) (v := .long (gJ S 0)) iw_X8_peak_X8 (lg_48 ad cI cJ X S) rfl 13 (by decide) (C0.ts _ fw_X8_peak_146) rfl dX8_peak_68 ?_
      refine r_cV_i (As := [.long (gJ S 0)]) (rest := []) C0 hw (c_X8_goes  hV) (cwV 1 C0.ts gX8_peak_X8_goes rfl rfl rfl hd_X8_goes ⟨Nat.le_of_ble_eq_true rfl, Nat.le_of_ble_eq_true rfl⟩) (lg_48 ad cI cJ X S) rfl rfl hl.1 rfl (Nat.le_of_ble_eq_true rfl) ⟨Nat.zero_le _, Nat.zero_le _⟩ dX8_peak_71 (fun r17 S18 H locs hV hw => ?_)
      refine lv_if_ne (tgt := 94) C0.x C0.b dX8_peak_74 (by decide) (fun c19 => ?_) (fun c19 => ?_)
      · have hV := hV.2 c19
        refine lv_lload C0.x C0.b dX8_peak_94 (lv_at hl 2 rfl) ?_
        exact r_lret C0 rfl hw hV dX8_peak_96
      · have hV := hV.1 c19
        refine lv_lload C0.x C0.b dX8_peak_77 (lv_at hl 2 rfl) ?_
        refine lv_aload_n C0.x C0.b dX8_peak_79 rfl (lv_at hl 0 rfl) ?_
        refine r_get C0 hw (C := RX8) (T := TX8) (N := 33) (v := .long (gJ S18 0)) iw_X8_peak_X8 (lg_48 ad cI cJ X S18) rfl 13 (by decide) (C0.ts _ fw_X8_peak_146) rfl dX8_peak_80 ?_
        refine va_mmax_long C0.x C0.b (C0.ml.trans hl.1.symm) C0.ow (C0.ts _ ml_X8_peak_159) (C0.ts _ ms_X8_peak_159) (C0.ts _ mi_X8_peak_159) (C0.ts _ mc_X8_peak_159) (Nat.le_of_ble_eq_true rfl) (Nat.le_of_ble_eq_true rfl) (Nat.zero_le _) (Nat.zero_le _) dX8_peak_83 ?_
        refine lv_topl (fun y20 ey20 => ?_)
        have hV := hV y20 ey20
        refine lv_lstore (lv' := [(4, .long y20), (0, .ref (ad 48)), (3, .int v3), (6, .int v6)]) C0.x C0.b dX8_peak_86 hl (by decide) rfl (fun ls hl => ?_)
        obtain ⟨x21, ex21⟩ : ∃ z : Int32, z = v6 + 1 := ⟨_, rfl⟩
        have hV := hV x21 ex21
        refine lv_iinc (v := x21) (lv' := [(6, .int x21), (4, .long y20), (0, .ref (ad 48)), (3, .int v3)]) C0.x C0.b dX8_peak_88 hl (k := 3) rfl (by rw [ex21]; rfl) (by decide) rfl (fun ls hl => ?_)
        refine lv_goto (tgt := 60) C0.x C0.b dX8_peak_91 (by decide) ?_
        exact ih _ _ _ hV _ _ hw _ (lv_sub hl [2, 3, 1, 0] rfl)
def V_X8_peak  (p0 : Int64) (p1 : Int32) (S : SS) (post : Int64 → SS → Prop) : Prop :=
  (∀ S1 : SS, S1 = (sI S 20 (0 : Int32)) → (V_X8_in p1.toInt64 (0 : Int64) (100000 : Int64) S1 (fun (r2 : Int32) (S3 : SS) => ((r2 = 0 → (V_X8_refuse (1 : Int32) S3 (fun (r5 : Int64) (S6 : SS) => (post r5 S6)))) ∧ (¬ r2 = 0 → (((gI S3 25) = 0 → (V_X8_refuse (2 : Int32) S3 (fun (r8 : Int64) (S9 : SS) => (post r8 S9)))) ∧ (¬ (gI S3 25) = 0 → (V_X8_isNumber p0 S3 (fun (r10 : Int32) (S11 : SS) => ((r10 = 0 → (V_X8_refuse (3 : Int32) S11 (fun (r13 : Int64) (S14 : SS) => (post r13 S14)))) ∧ (¬ r10 = 0 → (∀ S15 : SS, S15 = (sJ S11 0 p0) → (∃ n60 : Nat, V_X8_peak_60  p1  post n60 p0 (0 : Int32) S15)))))))))))))
set_option maxHeartbeats 4000000 in
set_option maxRecDepth 100000 in
theorem c_X8_peak  {S : SS} {p0 : Int64} {p1 : Int32} {post : Int64 → SS → Prop} (hV : V_X8_peak  p0 p1 S post) : ML l yX8_peak wsX8_peak rm_X8_peak [.ref (ad 48), .long p0, .int p1] D n0 ad cI cJ X S post := by
  refine Met.ofW (cc := cX8_peak) (maxL := 7) (ret := (some .long)) (by decide) rfl ?_
  intro p e s m args below meth c s₁ B hml hv
  obtain ⟨rfl, hv⟩ := hv
  have C0 := Bd.mk B hml (atoms_spec (ws := wsX8_peak) B.pre) (findClass_of_methodNamed B.named) hv.1
  have hw : Wh D n0 ad cI cJ X S s s.heap [] := ⟨hv.2.1, hv.2.2, va_S.rf⟩
  refine r_entry (Nat.le_of_ble_eq_true rfl) (fun ls hl => ?_)
  have hl : lv_has ls 7 [(0, .ref (ad 48)), (1, .long p0), (3, .int p1)] := hl
  unfold V_X8_peak at hV
  refine lv_aload_n C0.x C0.b dX8_peak_0 rfl (lv_at hl 0 rfl) ?_
  refine lv_iconst (v := 0) C0.x C0.b dX8_peak_1 (by decide) ?_
  refine r_put C0 hw (C := RX8) (T := TX8) (N := 33) (ty := .int) iw_X8_peak_X8 tyX8 tyX8_ok nmX8 (lg_48 ad cI cJ X S) rfl 0 (by decide) (C0.ts _ fw_X8_peak_61) rfl (by decide +kernel) rfl rfl (Nat.le_of_ble_eq_true rfl) dX8_peak_2 (S' := (sI S 20 (0 : Int32))) (ls_48_0 ad cI cJ X S (0 : Int32)) (fun S1 H locs eS1 hw => ?_)
  have hV := hV S1 eS1
  refine lv_iload_n C0.x C0.b dX8_peak_5 rfl (lv_at hl 2 rfl) ?_
  refine lv_i2l C0.x C0.b dX8_peak_6 rfl ?_
  refine lv_lconst (v := 0) C0.x C0.b dX8_peak_7 (by decide) ?_
  refine lv_ldc2 (v := 100000) C0.x C0.b C0.ow (C0.ts _ cw_X8_peak_157) dX8_peak_8 ?_
  refine r_cS_i (As := [.long p1.toInt64, .long (0 : Int64), .long (100000 : Int64)]) (rest := []) C0 hw (c_X8_in  hV) (va_cwS 3 C0.ts gX8_peak_X8_in rfl rfl rfl hd_X8_in ⟨Nat.le_of_ble_eq_true rfl, Nat.le_of_ble_eq_true rfl⟩) rfl hl.1 rfl (Nat.le_of_ble_eq_true rfl) ⟨Nat.zero_le _, Nat.zero_le _⟩ dX8_peak_11 (fun r2 S3 H locs hV hw => ?_)
  refine lv_if_ne (tgt := 23) C0.x C0.b dX8_peak_14 (by decide) (fun c4 => ?_) (fun c4 => ?_)
  · have hV := hV.2 c4
    refine lv_aload_n C0.x C0.b dX8_peak_23 rfl (lv_at hl 0 rfl) ?_
    refine r_get C0 hw (C := RX8) (T := TX8) (N := 33) (v := .int (gI S3 25)) iw_X8_peak_X8 (lg_48 ad cI cJ X S3) rfl 7 (by decide) (C0.ts _ fw_X8_peak_108) rfl dX8_peak_24 ?_
    refine lv_if_ne (tgt := 36) C0.x C0.b dX8_peak_27 (by decide) (fun c7 => ?_) (fun c7 => ?_)
    · have hV := hV.2 c7
      refine lv_lload_n C0.x C0.b dX8_peak_36 rfl (lv_at hl 1 rfl) ?_
      refine r_cS_i (As := [.long p0]) (rest := []) C0 hw (c_X8_isNumber  hV) (va_cwS 1 C0.ts gX8_peak_X8_isNumber rfl rfl rfl hd_X8_isNumber ⟨Nat.le_of_ble_eq_true rfl, Nat.le_of_ble_eq_true rfl⟩) rfl hl.1 rfl (Nat.le_of_ble_eq_true rfl) ⟨Nat.zero_le _, Nat.zero_le _⟩ dX8_peak_37 (fun r10 S11 H locs hV hw => ?_)
      refine lv_if_ne (tgt := 49) C0.x C0.b dX8_peak_40 (by decide) (fun c12 => ?_) (fun c12 => ?_)
      · have hV := hV.2 c12
        refine lv_lload_n C0.x C0.b dX8_peak_49 rfl (lv_at hl 1 rfl) ?_
        refine lv_lstore (lv' := [(4, .long p0), (0, .ref (ad 48)), (1, .long p0), (3, .int p1)]) C0.x C0.b dX8_peak_50 hl (by decide) rfl (fun ls hl => ?_)
        refine lv_aload_n C0.x C0.b dX8_peak_52 rfl (lv_at hl 1 rfl) ?_
        refine lv_lload_n C0.x C0.b dX8_peak_53 rfl (lv_at hl 2 rfl) ?_
        refine r_put C0 hw (C := RX8) (T := TX8) (N := 33) (ty := .long) iw_X8_peak_X8 tyX8 tyX8_ok nmX8 (lg_48 ad cI cJ X S11) rfl 13 (by decide) (C0.ts _ fw_X8_peak_146) rfl (by decide +kernel) rfl rfl (Nat.le_of_ble_eq_true rfl) dX8_peak_54 (S' := (sJ S11 0 p0)) (ls_48_13 ad cI cJ X S11 p0) (fun S15 H locs eS15 hw => ?_)
        have hV := hV S15 eS15
        refine lv_iconst (v := 0) C0.x C0.b dX8_peak_57 (by decide) ?_
        refine lv_istore (lv' := [(6, .int (0 : Int32)), (4, .long p0), (0, .ref (ad 48)), (1, .long p0), (3, .int p1)]) C0.x C0.b dX8_peak_58 hl (by decide) rfl (fun ls hl => ?_)
        obtain ⟨n60, hV⟩ := hV
        exact lp_X8_peak_60  _ post C0  n60 _ _ _ hV _ _ hw _ (lv_sub hl [2, 4, 1, 0] rfl)
      · have hV := hV.1 c12
        refine lv_aload_n C0.x C0.b dX8_peak_43 rfl (lv_at hl 0 rfl) ?_
        refine lv_iconst (v := 3) C0.x C0.b dX8_peak_44 (by decide) ?_
        refine r_cV_l (As := [.int (3 : Int32)]) (rest := []) C0 hw (c_X8_refuse  hV) (cwV 1 C0.ts gX8_peak_X8_refuse rfl rfl rfl hd_X8_refuse ⟨Nat.le_of_ble_eq_true rfl, Nat.le_of_ble_eq_true rfl⟩) (lg_48 ad cI cJ X S11) rfl rfl hl.1 rfl (Nat.le_of_ble_eq_true rfl) ⟨Nat.zero_le _, Nat.zero_le _⟩ dX8_peak_45 (fun r13 S14 H locs hV hw => ?_)
        exact r_lret C0 rfl hw hV dX8_peak_48
    · have hV := hV.1 c7
      refine lv_aload_n C0.x C0.b dX8_peak_30 rfl (lv_at hl 0 rfl) ?_
      refine lv_iconst (v := 2) C0.x C0.b dX8_peak_31 (by decide) ?_
      refine r_cV_l (As := [.int (2 : Int32)]) (rest := []) C0 hw (c_X8_refuse  hV) (cwV 1 C0.ts gX8_peak_X8_refuse rfl rfl rfl hd_X8_refuse ⟨Nat.le_of_ble_eq_true rfl, Nat.le_of_ble_eq_true rfl⟩) (lg_48 ad cI cJ X S3) rfl rfl hl.1 rfl (Nat.le_of_ble_eq_true rfl) ⟨Nat.zero_le _, Nat.zero_le _⟩ dX8_peak_32 (fun r8 S9 H locs hV hw => ?_)
      exact r_lret C0 rfl hw hV dX8_peak_35
  · have hV := hV.1 c4
    refine lv_aload_n C0.x C0.b dX8_peak_17 rfl (lv_at hl 0 rfl) ?_
    refine lv_iconst (v := 1) C0.x C0.b dX8_peak_18 (by decide) ?_
    refine r_cV_l (As := [.int (1 : Int32)]) (rest := []) C0 hw (c_X8_refuse  hV) (cwV 1 C0.ts gX8_peak_X8_refuse rfl rfl rfl hd_X8_refuse ⟨Nat.le_of_ble_eq_true rfl, Nat.le_of_ble_eq_true rfl⟩) (lg_48 ad cI cJ X S3) rfl rfl hl.1 rfl (Nat.le_of_ble_eq_true rfl) ⟨Nat.zero_le _, Nat.zero_le _⟩ dX8_peak_19 (fun r5 S6 H locs hV hw => ?_)
    exact r_lret C0 rfl hw hV dX8_peak_22
/-! StepBenchModel.tells(I)V -/
abbrev rm_X8_tells : Room := { frames := 1, cells := 0, slots := 0, locals := 24 }
set_option maxRecDepth 20000 in
theorem ml_X8_tells_88 : Cond.methodLink RX8 88 Lib.Math.min.name ∈ wsX8_tells := by decide +kernel
set_option maxRecDepth 20000 in
theorem ms_X8_tells_88 : Cond.static Lib.Math.min.name ∈ wsX8_tells := by decide +kernel
set_option maxRecDepth 20000 in
theorem mi_X8_tells_88 : Cond.initialized "java/lang/Math" ∈ wsX8_tells := by decide +kernel
set_option maxRecDepth 20000 in
theorem mc_X8_tells_88 : Cond.code Lib.Math.min.name Lib.Math.min.code 2 (some .int) ∈ wsX8_tells := by decide +kernel
set_option maxRecDepth 20000 in
theorem fw_X8_tells_124 : Cond.fieldLink RX8 124 "StepBenchModel" "rows" "I" ∈ wsX8_tells := by decide +kernel
set_option maxRecDepth 20000 in
theorem iw_X8_tells_X8 : ∀ w ∈ wsX80, w ∈ wsX8_tells := by decide +kernel
set_option maxRecDepth 20000 in
theorem fw_X8_tells_29 : Cond.fieldLink RX8 29 "StepBenchModel" "row" "[J" ∈ wsX8_tells := by decide +kernel
set_option maxRecDepth 20000 in
theorem fw_X8_tells_32 : Cond.fieldLink RX8 32 "StepBenchModel" "found" "[J" ∈ wsX8_tells := by decide +kernel
set_option maxRecDepth 20000 in
theorem hd_X8_tells : yX8_tells.cls = RX8 ∧ yX8_tells.cls ≠ "java/lang/invoke/MethodHandle" ∧ yX8_tells.cls ≠ "java/lang/invoke/VarHandle" ∧ (parseMethodDescriptor yX8_tells.desc).map (fun d => d.parameters.length) = some 1 := by decide +kernel
def V_X8_tells_13    (post : SS → Prop) : Nat → Int32 → SS → Prop
  | 0, _, _ => False
  | n + 1, v2, S =>
    (((gI S 28) ≤ v2 → (post S)) ∧ (¬ (gI S 28) ≤ v2 → (vp_in v2 20000 ∧ (vp_in v2 1000 ∧ ∀ S4 : SS, S4 = (sA S 35 (vp_updL (gA S 35) v2.toNatClampNeg (gA S 36 v2.toNatClampNeg))) → (∀ x5 : Int32, x5 = v2 + 1 → (V_X8_tells_13    post n x5 S4))))))
set_option maxHeartbeats 4000000 in
set_option maxRecDepth 100000 in
theorem lp_X8_tells_13    (post : SS → Prop) (C0 : Bd p s m meth c args cX8_tells 3 none wsX8_tells RX8 D n0 cI cJ) : ∀ (n : Nat) (v2 : Int32) (S : SS), V_X8_tells_13    post n v2 S → ∀ (H : Heap) (locs : List Loc), Wh D n0 ad cI cJ X S s H locs → ∀ ls : Array Slot, lv_has ls 3 [(0, .ref (ad 48)), (2, .int v2)] → W p l e rm_X8_tells s m args below meth c H locs 0 0 (MQ below (va_Qv post (fun S' t => Wd D n0 ad cI cJ X S' t) (fr n0)) args s 0 0 (fr n0)) (F0 m 13 ls []) := by
  intro n
  induction n with
  | zero => intro v2 S hV; exact False.elim hV
  | succ n ih =>
    intro v2 S hV H locs hw ls hl
    rw [V_X8_tells_13] at hV
    refine lv_iload_n C0.x C0.b dX8_tells_13 rfl (lv_at hl 1 rfl) ?_
    refine lv_aload_n C0.x C0.b dX8_tells_14 rfl (lv_at hl 0 rfl) ?_
    refine r_get C0 hw (C := RX8) (T := TX8) (N := 33) (v := .int (gI S 28)) iw_X8_tells_X8 (lg_48 ad cI cJ X S) rfl 15 (by decide) (C0.ts _ fw_X8_tells_124) rfl dX8_tells_15 ?_
    refine lv_icmp_ge (tgt := 39) C0.x C0.b dX8_tells_18 (by decide) (fun c3 => ?_) (fun c3 => ?_)
    · have hV := hV.1 c3
      exact r_vret C0 rfl hw hV dX8_tells_39
    · have hV := hV.2 c3
      refine lv_aload_n C0.x C0.b dX8_tells_21 rfl (lv_at hl 0 rfl) ?_
      refine r_get C0 hw (C := RX8) (T := TX8) (N := 33) (v := .ref (ad 54)) iw_X8_tells_X8 (lg_48 ad cI cJ X S) rfl 14 (by decide) (C0.ts _ fw_X8_tells_29) rfl dX8_tells_22 ?_
      refine lv_iload_n C0.x C0.b dX8_tells_25 rfl (lv_at hl 1 rfl) ?_
      refine lv_aload_n C0.x C0.b dX8_tells_26 rfl (lv_at hl 0 rfl) ?_
      refine r_get C0 hw (C := RX8) (T := TX8) (N := 33) (v := .ref (ad 55)) iw_X8_tells_X8 (lg_48 ad cI cJ X S) rfl 16 (by decide) (C0.ts _ fw_X8_tells_32) rfl dX8_tells_27 ?_
      refine lv_iload_n C0.x C0.b dX8_tells_30 rfl (lv_at hl 1 rfl) ?_
      refine r_lald C0 hw (lg_55 ad cI cJ X S) hV.1 dX8_tells_31 ?_
      have hV := hV.2
      refine r_last C0 hw (lg_54 ad cI cJ X S) hV.1 dX8_tells_32 (S' := (sA S 35 (vp_updL (gA S 35) v2.toNatClampNeg (gA S 36 v2.toNatClampNeg)))) (ls_54 ad cI cJ X S (vp_updL (gA S 35) v2.toNatClampNeg (gA S 36 v2.toNatClampNeg))) (fun S4 H locs eS4 hw => ?_)
      have hV := hV.2 S4 eS4
      obtain ⟨x5, ex5⟩ : ∃ z : Int32, z = v2 + 1 := ⟨_, rfl⟩
      have hV := hV x5 ex5
      refine lv_iinc (v := x5) (lv' := [(2, .int x5), (0, .ref (ad 48))]) C0.x C0.b dX8_tells_33 hl (k := 1) rfl (by rw [ex5]; rfl) (by decide) rfl (fun ls hl => ?_)
      refine lv_goto (tgt := 13) C0.x C0.b dX8_tells_36 (by decide) ?_
      exact ih _ _ hV _ _ hw _ (lv_sub hl [1, 0] rfl)
def V_X8_tells  (p0 : Int32) (S : SS) (post : SS → Prop) : Prop :=
  (∀ x1 : Int32, x1 = (mnI p0 (1000 : Int32)) → (∀ S2 : SS, S2 = (sI S 28 x1) → (∃ n13 : Nat, V_X8_tells_13    post n13 (0 : Int32) S2)))
set_option maxHeartbeats 4000000 in
set_option maxRecDepth 100000 in
theorem c_X8_tells  {S : SS} {p0 : Int32} {post : SS → Prop} (hV : V_X8_tells  p0 S post) : MV l yX8_tells wsX8_tells rm_X8_tells [.ref (ad 48), .int p0] D n0 ad cI cJ X S post := by
  refine Met.ofW (cc := cX8_tells) (maxL := 3) (ret := none) (by decide) rfl ?_
  intro p e s m args below meth c s₁ B hml hv
  obtain ⟨rfl, hv⟩ := hv
  have C0 := Bd.mk B hml (atoms_spec (ws := wsX8_tells) B.pre) (findClass_of_methodNamed B.named) hv.1
  have hw : Wh D n0 ad cI cJ X S s s.heap [] := ⟨hv.2.1, hv.2.2, va_S.rf⟩
  refine r_entry (Nat.le_of_ble_eq_true rfl) (fun ls hl => ?_)
  have hl : lv_has ls 3 [(0, .ref (ad 48)), (1, .int p0)] := hl
  unfold V_X8_tells at hV
  refine lv_aload_n C0.x C0.b dX8_tells_0 rfl (lv_at hl 0 rfl) ?_
  refine lv_iload_n C0.x C0.b dX8_tells_1 rfl (lv_at hl 1 rfl) ?_
  refine lv_sipush (v := 1000) C0.x C0.b dX8_tells_2 (by decide) ?_
  refine va_mmin C0.x C0.b (C0.ml.trans hl.1.symm) C0.ow (C0.ts _ ml_X8_tells_88) (C0.ts _ ms_X8_tells_88) (C0.ts _ mi_X8_tells_88) (C0.ts _ mc_X8_tells_88) (Nat.le_of_ble_eq_true rfl) (Nat.le_of_ble_eq_true rfl) (Nat.zero_le _) (Nat.zero_le _) dX8_tells_5 ?_
  refine lv_topi (fun x1 ex1 => ?_)
  have hV := hV x1 ex1
  refine r_put C0 hw (C := RX8) (T := TX8) (N := 33) (ty := .int) iw_X8_tells_X8 tyX8 tyX8_ok nmX8 (lg_48 ad cI cJ X S) rfl 15 (by decide) (C0.ts _ fw_X8_tells_124) rfl (by decide +kernel) rfl rfl (Nat.le_of_ble_eq_true rfl) dX8_tells_8 (S' := (sI S 28 x1)) (ls_48_15 ad cI cJ X S x1) (fun S2 H locs eS2 hw => ?_)
  have hV := hV S2 eS2
  refine lv_iconst (v := 0) C0.x C0.b dX8_tells_11 (by decide) ?_
  refine lv_istore_n (lv' := [(2, .int (0 : Int32)), (0, .ref (ad 48)), (1, .int p0)]) C0.x C0.b dX8_tells_12 rfl hl (by decide) rfl (fun ls hl => ?_)
  obtain ⟨n13, hV⟩ := hV
  exact lp_X8_tells_13   post C0  n13 _ _ hV _ _ hw _ (lv_sub hl [1, 0] rfl)
/-! StepBenchModel.word(JI)I -/
abbrev rm_X8_word : Room := { frames := 4, cells := 0, slots := 0, locals := 95 }
set_option maxRecDepth 20000 in
theorem fw_X8_word_61 : Cond.fieldLink RX8 61 "StepBenchModel" "thrown" "I" ∈ wsX8_word := by decide +kernel
set_option maxRecDepth 20000 in
theorem iw_X8_word_X8 : ∀ w ∈ wsX80, w ∈ wsX8_word := by decide +kernel
set_option maxRecDepth 20000 in
theorem fw_X8_word_108 : Cond.fieldLink RX8 108 "StepBenchModel" "sort" "I" ∈ wsX8_word := by decide +kernel
set_option maxRecDepth 20000 in
theorem cw_X8_word_162 : Cond.constantLong RX8 162 40 ∈ wsX8_word := by decide +kernel
set_option maxRecDepth 20000 in
theorem fw_X8_word_146 : Cond.fieldLink RX8 146 "StepBenchModel" "at" "J" ∈ wsX8_word := by decide +kernel
set_option maxRecDepth 20000 in
theorem fw_X8_word_32 : Cond.fieldLink RX8 32 "StepBenchModel" "found" "[J" ∈ wsX8_word := by decide +kernel
set_option maxRecDepth 20000 in
theorem hd_X8_word : yX8_word.cls = RX8 ∧ yX8_word.cls ≠ "java/lang/invoke/MethodHandle" ∧ yX8_word.cls ≠ "java/lang/invoke/VarHandle" ∧ (parseMethodDescriptor yX8_word.desc).map (fun d => d.parameters.length) = some 2 := by decide +kernel
def V_X8_word_41  (v3 : Int32)  (post : Int32 → SS → Prop) : Nat → Int32 → SS → Prop
  | 0, _, _ => False
  | n + 1, v4, S =>
    ((v3 ≤ v4 → (V_X8_tells v4 S (fun (S12 : SS) => (post v4 S12)))) ∧ (¬ v3 ≤ v4 → (V_X8_way (gJ S 0) S (fun (r13 : Int32) (S14 : SS) => ((0 ≤ r13 → (vp_in v4 20000 ∧ ∀ S16 : SS, S16 = (sA S14 36 (vp_updL (gA S14 36) v4.toNatClampNeg r13.toInt64)) → (∀ x17 : Int32, x17 = v4 + 1 → ((v3 ≤ x17 → (V_X8_word_41  v3  post n x17 S16)) ∧ (¬ v3 ≤ x17 → (V_X8_goes (gJ S16 0) S16 (fun (r19 : Int32) (S20 : SS) => ((r19 = (2 : Int32) → (post (-1 : Int32) S20)) ∧ (¬ r19 = (2 : Int32) → (V_X8_word_41  v3  post n x17 S20)))))))))) ∧ (¬ 0 ≤ r13 → (V_X8_tells v4 S14 (fun (S23 : SS) => (post v4 S23)))))))))
set_option maxHeartbeats 4000000 in
set_option maxRecDepth 100000 in
theorem lp_X8_word_41  (v3 : Int32)  (post : Int32 → SS → Prop) (C0 : Bd p s m meth c args cX8_word 6 (some .int) wsX8_word RX8 D n0 cI cJ) : ∀ (n : Nat) (v4 : Int32) (S : SS), V_X8_word_41  v3  post n v4 S → ∀ (H : Heap) (locs : List Loc), Wh D n0 ad cI cJ X S s H locs → ∀ ls : Array Slot, lv_has ls 6 [(0, .ref (ad 48)), (3, .int v3), (4, .int v4)] → W p l e rm_X8_word s m args below meth c H locs 0 0 (MQ below (va_Qi post (fun S' t => Wd D n0 ad cI cJ X S' t) (fr n0)) args s 0 0 (fr n0)) (F0 m 41 ls []) := by
  intro n
  induction n with
  | zero => intro v4 S hV; exact False.elim hV
  | succ n ih =>
    intro v4 S hV H locs hw ls hl
    rw [V_X8_word_41] at hV
    refine lv_iload C0.x C0.b dX8_word_41 (lv_at hl 2 rfl) ?_
    refine lv_iload_n C0.x C0.b dX8_word_43 rfl (lv_at hl 1 rfl) ?_
    refine lv_icmp_ge (tgt := 101) C0.x C0.b dX8_word_44 (by decide) (fun c10 => ?_) (fun c10 => ?_)
    · have hV := hV.1 c10
      refine lv_aload_n C0.x C0.b dX8_word_101 rfl (lv_at hl 0 rfl) ?_
      refine lv_iload C0.x C0.b dX8_word_102 (lv_at hl 2 rfl) ?_
      refine r_cV_v (As := [.int v4]) (rest := []) C0 hw (c_X8_tells  hV) (cwV 1 C0.ts gX8_word_X8_tells rfl rfl rfl hd_X8_tells ⟨Nat.le_of_ble_eq_true rfl, Nat.le_of_ble_eq_true rfl⟩) (lg_48 ad cI cJ X S) rfl rfl hl.1 rfl (Nat.le_of_ble_eq_true rfl) ⟨Nat.zero_le _, Nat.zero_le _⟩ dX8_word_104 (fun S12 H locs hV hw => ?_)
      refine lv_iload C0.x C0.b dX8_word_107 (lv_at hl 2 rfl) ?_
      exact r_iret C0 rfl hw hV dX8_word_109
    · have hV := hV.2 c10
      refine lv_aload_n C0.x C0.b dX8_word_47 rfl (lv_at hl 0 rfl) ?_
      refine lv_aload_n C0.x C0.b dX8_word_48 rfl (lv_at hl 0 rfl) ?_
      refine r_get C0 hw (C := RX8) (T := TX8) (N := 33) (v := .long (gJ S 0)) iw_X8_word_X8 (lg_48 ad cI cJ X S) rfl 13 (by decide) (C0.ts _ fw_X8_word_146) rfl dX8_word_49 ?_
      refine r_cV_i (As := [.long (gJ S 0)]) (rest := []) C0 hw (c_X8_way  hV) (cwV 1 C0.ts gX8_word_X8_way rfl rfl rfl hd_X8_way ⟨Nat.le_of_ble_eq_true rfl, Nat.le_of_ble_eq_true rfl⟩) (lg_48 ad cI cJ X S) rfl rfl hl.1 rfl (Nat.le_of_ble_eq_true rfl) ⟨Nat.zero_le _, Nat.zero_le _⟩ dX8_word_52 (fun r13 S14 H locs hV hw => ?_)
      refine lv_istore (lv' := [(5, .int r13), (0, .ref (ad 48)), (3, .int v3), (4, .int v4)]) C0.x C0.b dX8_word_55 hl (by decide) rfl (fun ls hl => ?_)
      refine lv_iload C0.x C0.b dX8_word_57 (lv_at hl 0 rfl) ?_
      refine lv_if_ge (tgt := 65) C0.x C0.b dX8_word_59 (by decide) (fun c15 => ?_) (fun c15 => ?_)
      · have hV := hV.1 c15
        refine lv_aload_n C0.x C0.b dX8_word_65 rfl (lv_at hl 1 rfl) ?_
        refine r_get C0 hw (C := RX8) (T := TX8) (N := 33) (v := .ref (ad 55)) iw_X8_word_X8 (lg_48 ad cI cJ X S14) rfl 16 (by decide) (C0.ts _ fw_X8_word_32) rfl dX8_word_66 ?_
        refine lv_iload C0.x C0.b dX8_word_69 (lv_at hl 3 rfl) ?_
        refine lv_iload C0.x C0.b dX8_word_71 (lv_at hl 0 rfl) ?_
        refine lv_i2l C0.x C0.b dX8_word_73 rfl ?_
        refine r_last C0 hw (lg_55 ad cI cJ X S14) hV.1 dX8_word_74 (S' := (sA S14 36 (vp_updL (gA S14 36) v4.toNatClampNeg r13.toInt64))) (ls_55 ad cI cJ X S14 (vp_updL (gA S14 36) v4.toNatClampNeg r13.toInt64)) (fun S16 H locs eS16 hw => ?_)
        have hV := hV.2 S16 eS16
        obtain ⟨x17, ex17⟩ : ∃ z : Int32, z = v4 + 1 := ⟨_, rfl⟩
        have hV := hV x17 ex17
        refine lv_iinc (v := x17) (lv' := [(4, .int x17), (5, .int r13), (0, .ref (ad 48)), (3, .int v3)]) C0.x C0.b dX8_word_75 hl (k := 3) rfl (by rw [ex17]; rfl) (by decide) rfl (fun ls hl => ?_)
        refine lv_iload C0.x C0.b dX8_word_78 (lv_at hl 0 rfl) ?_
        refine lv_iload_n C0.x C0.b dX8_word_80 rfl (lv_at hl 3 rfl) ?_
        refine lv_icmp_ge (tgt := 98) C0.x C0.b dX8_word_81 (by decide) (fun c18 => ?_) (fun c18 => ?_)
        · have hV := hV.1 c18
          refine lv_goto (tgt := 41) C0.x C0.b dX8_word_98 (by decide) ?_
          exact ih _ _ hV _ _ hw _ (lv_sub hl [2, 3, 0] rfl)
        · have hV := hV.2 c18
          refine lv_aload_n C0.x C0.b dX8_word_84 rfl (lv_at hl 2 rfl) ?_
          refine lv_aload_n C0.x C0.b dX8_word_85 rfl (lv_at hl 2 rfl) ?_
          refine r_get C0 hw (C := RX8) (T := TX8) (N := 33) (v := .long (gJ S16 0)) iw_X8_word_X8 (lg_48 ad cI cJ X S16) rfl 13 (by decide) (C0.ts _ fw_X8_word_146) rfl dX8_word_86 ?_
          refine r_cV_i (As := [.long (gJ S16 0)]) (rest := []) C0 hw (c_X8_goes  hV) (cwV 1 C0.ts gX8_word_X8_goes rfl rfl rfl hd_X8_goes ⟨Nat.le_of_ble_eq_true rfl, Nat.le_of_ble_eq_true rfl⟩) (lg_48 ad cI cJ X S16) rfl rfl hl.1 rfl (Nat.le_of_ble_eq_true rfl) ⟨Nat.zero_le _, Nat.zero_le _⟩ dX8_word_89 (fun r19 S20 H locs hV hw => ?_)
          refine lv_iconst (v := 2) C0.x C0.b dX8_word_92 (by decide) ?_
          refine lv_icmp_ne (tgt := 98) C0.x C0.b dX8_word_93 (by decide) (fun c21 => ?_) (fun c21 => ?_)
          · have hV := hV.2 c21
            refine lv_goto (tgt := 41) C0.x C0.b dX8_word_98 (by decide) ?_
            exact ih _ _ hV _ _ hw _ (lv_sub hl [2, 3, 0] rfl)
          · have hV := hV.1 c21
            refine lv_iconst (v := -1) C0.x C0.b dX8_word_96 (by decide) ?_
            exact r_iret C0 rfl hw hV dX8_word_97
      · have hV := hV.2 c15
        refine lv_goto (tgt := 101) C0.x C0.b dX8_word_62 (by decide) ?_
        refine lv_aload_n C0.x C0.b dX8_word_101 rfl (lv_at hl 1 rfl) ?_
        refine lv_iload C0.x C0.b dX8_word_102 (lv_at hl 3 rfl) ?_
        refine r_cV_v (As := [.int v4]) (rest := []) C0 hw (c_X8_tells  hV) (cwV 1 C0.ts gX8_word_X8_tells rfl rfl rfl hd_X8_tells ⟨Nat.le_of_ble_eq_true rfl, Nat.le_of_ble_eq_true rfl⟩) (lg_48 ad cI cJ X S14) rfl rfl hl.1 rfl (Nat.le_of_ble_eq_true rfl) ⟨Nat.zero_le _, Nat.zero_le _⟩ dX8_word_104 (fun S23 H locs hV hw => ?_)
        refine lv_iload C0.x C0.b dX8_word_107 (lv_at hl 3 rfl) ?_
        exact r_iret C0 rfl hw hV dX8_word_109
def V_X8_word  (p0 : Int64) (p1 : Int32) (S : SS) (post : Int32 → SS → Prop) : Prop :=
  (∀ S1 : SS, S1 = (sI S 20 (0 : Int32)) → (((gI S1 25) = 0 → (post (-1 : Int32) S1)) ∧ (¬ (gI S1 25) = 0 → (V_X8_isNumber p0 S1 (fun (r3 : Int32) (S4 : SS) => ((r3 = 0 → (post (-1 : Int32) S4)) ∧ (¬ r3 = 0 → (V_X8_in p1.toInt64 (1 : Int64) (40 : Int64) S4 (fun (r6 : Int32) (S7 : SS) => ((r6 = 0 → (post (-1 : Int32) S7)) ∧ (¬ r6 = 0 → (∀ S9 : SS, S9 = (sJ S7 0 p0) → (∃ n41 : Nat, V_X8_word_41  p1  post n41 (0 : Int32) S9)))))))))))))
set_option maxHeartbeats 4000000 in
set_option maxRecDepth 100000 in
theorem c_X8_word  {S : SS} {p0 : Int64} {p1 : Int32} {post : Int32 → SS → Prop} (hV : V_X8_word  p0 p1 S post) : MI l yX8_word wsX8_word rm_X8_word [.ref (ad 48), .long p0, .int p1] D n0 ad cI cJ X S post := by
  refine Met.ofW (cc := cX8_word) (maxL := 6) (ret := (some .int)) (by decide) rfl ?_
  intro p e s m args below meth c s₁ B hml hv
  obtain ⟨rfl, hv⟩ := hv
  have C0 := Bd.mk B hml (atoms_spec (ws := wsX8_word) B.pre) (findClass_of_methodNamed B.named) hv.1
  have hw : Wh D n0 ad cI cJ X S s s.heap [] := ⟨hv.2.1, hv.2.2, va_S.rf⟩
  refine r_entry (Nat.le_of_ble_eq_true rfl) (fun ls hl => ?_)
  have hl : lv_has ls 6 [(0, .ref (ad 48)), (1, .long p0), (3, .int p1)] := hl
  unfold V_X8_word at hV
  refine lv_aload_n C0.x C0.b dX8_word_0 rfl (lv_at hl 0 rfl) ?_
  refine lv_iconst (v := 0) C0.x C0.b dX8_word_1 (by decide) ?_
  refine r_put C0 hw (C := RX8) (T := TX8) (N := 33) (ty := .int) iw_X8_word_X8 tyX8 tyX8_ok nmX8 (lg_48 ad cI cJ X S) rfl 0 (by decide) (C0.ts _ fw_X8_word_61) rfl (by decide +kernel) rfl rfl (Nat.le_of_ble_eq_true rfl) dX8_word_2 (S' := (sI S 20 (0 : Int32))) (ls_48_0 ad cI cJ X S (0 : Int32)) (fun S1 H locs eS1 hw => ?_)
  have hV := hV S1 eS1
  refine lv_aload_n C0.x C0.b dX8_word_5 rfl (lv_at hl 0 rfl) ?_
  refine r_get C0 hw (C := RX8) (T := TX8) (N := 33) (v := .int (gI S1 25)) iw_X8_word_X8 (lg_48 ad cI cJ X S1) rfl 7 (by decide) (C0.ts _ fw_X8_word_108) rfl dX8_word_6 ?_
  refine lv_if_eq (tgt := 31) C0.x C0.b dX8_word_9 (by decide) (fun c2 => ?_) (fun c2 => ?_)
  · have hV := hV.1 c2
    refine lv_iconst (v := -1) C0.x C0.b dX8_word_31 (by decide) ?_
    exact r_iret C0 rfl hw hV dX8_word_32
  · have hV := hV.2 c2
    refine lv_lload_n C0.x C0.b dX8_word_12 rfl (lv_at hl 1 rfl) ?_
    refine r_cS_i (As := [.long p0]) (rest := []) C0 hw (c_X8_isNumber  hV) (va_cwS 1 C0.ts gX8_word_X8_isNumber rfl rfl rfl hd_X8_isNumber ⟨Nat.le_of_ble_eq_true rfl, Nat.le_of_ble_eq_true rfl⟩) rfl hl.1 rfl (Nat.le_of_ble_eq_true rfl) ⟨Nat.zero_le _, Nat.zero_le _⟩ dX8_word_13 (fun r3 S4 H locs hV hw => ?_)
    refine lv_if_eq (tgt := 31) C0.x C0.b dX8_word_16 (by decide) (fun c5 => ?_) (fun c5 => ?_)
    · have hV := hV.1 c5
      refine lv_iconst (v := -1) C0.x C0.b dX8_word_31 (by decide) ?_
      exact r_iret C0 rfl hw hV dX8_word_32
    · have hV := hV.2 c5
      refine lv_iload_n C0.x C0.b dX8_word_19 rfl (lv_at hl 2 rfl) ?_
      refine lv_i2l C0.x C0.b dX8_word_20 rfl ?_
      refine lv_lconst (v := 1) C0.x C0.b dX8_word_21 (by decide) ?_
      refine lv_ldc2 (v := 40) C0.x C0.b C0.ow (C0.ts _ cw_X8_word_162) dX8_word_22 ?_
      refine r_cS_i (As := [.long p1.toInt64, .long (1 : Int64), .long (40 : Int64)]) (rest := []) C0 hw (c_X8_in  hV) (va_cwS 3 C0.ts gX8_word_X8_in rfl rfl rfl hd_X8_in ⟨Nat.le_of_ble_eq_true rfl, Nat.le_of_ble_eq_true rfl⟩) rfl hl.1 rfl (Nat.le_of_ble_eq_true rfl) ⟨Nat.zero_le _, Nat.zero_le _⟩ dX8_word_25 (fun r6 S7 H locs hV hw => ?_)
      refine lv_if_ne (tgt := 33) C0.x C0.b dX8_word_28 (by decide) (fun c8 => ?_) (fun c8 => ?_)
      · have hV := hV.2 c8
        refine lv_aload_n C0.x C0.b dX8_word_33 rfl (lv_at hl 0 rfl) ?_
        refine lv_lload_n C0.x C0.b dX8_word_34 rfl (lv_at hl 1 rfl) ?_
        refine r_put C0 hw (C := RX8) (T := TX8) (N := 33) (ty := .long) iw_X8_word_X8 tyX8 tyX8_ok nmX8 (lg_48 ad cI cJ X S7) rfl 13 (by decide) (C0.ts _ fw_X8_word_146) rfl (by decide +kernel) rfl rfl (Nat.le_of_ble_eq_true rfl) dX8_word_35 (S' := (sJ S7 0 p0)) (ls_48_13 ad cI cJ X S7 p0) (fun S9 H locs eS9 hw => ?_)
        have hV := hV S9 eS9
        refine lv_iconst (v := 0) C0.x C0.b dX8_word_38 (by decide) ?_
        refine lv_istore (lv' := [(4, .int (0 : Int32)), (0, .ref (ad 48)), (1, .long p0), (3, .int p1)]) C0.x C0.b dX8_word_39 hl (by decide) rfl (fun ls hl => ?_)
        obtain ⟨n41, hV⟩ := hV
        exact lp_X8_word_41  _ post C0  n41 _ _ hV _ _ hw _ (lv_sub hl [1, 3, 0] rfl)
      · have hV := hV.1 c8
        refine lv_iconst (v := -1) C0.x C0.b dX8_word_31 (by decide) ?_
        exact r_iret C0 rfl hw hV dX8_word_32
/-! StepBenchModel.row(I)J -/
abbrev rm_X8_row : Room := { frames := 1, cells := 0, slots := 0, locals := 25 }
set_option maxRecDepth 20000 in
theorem fw_X8_row_61 : Cond.fieldLink RX8 61 "StepBenchModel" "thrown" "I" ∈ wsX8_row := by decide +kernel
set_option maxRecDepth 20000 in
theorem iw_X8_row_X8 : ∀ w ∈ wsX80, w ∈ wsX8_row := by decide +kernel
set_option maxRecDepth 20000 in
theorem fw_X8_row_124 : Cond.fieldLink RX8 124 "StepBenchModel" "rows" "I" ∈ wsX8_row := by decide +kernel
set_option maxRecDepth 20000 in
theorem fw_X8_row_29 : Cond.fieldLink RX8 29 "StepBenchModel" "row" "[J" ∈ wsX8_row := by decide +kernel
set_option maxRecDepth 20000 in
theorem hd_X8_row : yX8_row.cls = RX8 ∧ yX8_row.cls ≠ "java/lang/invoke/MethodHandle" ∧ yX8_row.cls ≠ "java/lang/invoke/VarHandle" ∧ (parseMethodDescriptor yX8_row.desc).map (fun d => d.parameters.length) = some 1 := by decide +kernel
def V_X8_row  (p0 : Int32) (S : SS) (post : Int64 → SS → Prop) : Prop :=
  (∀ S1 : SS, S1 = (sI S 20 (0 : Int32)) → (V_X8_in p0.toInt64 (0 : Int64) (((gI S1 28) - (1 : Int32)).toInt64) S1 (fun (r2 : Int32) (S3 : SS) => ((r2 = 0 → (V_X8_refuse (1 : Int32) S3 (fun (r5 : Int64) (S6 : SS) => (post r5 S6)))) ∧ (¬ r2 = 0 → (vp_in p0 1000 ∧ (post (gA S3 35 p0.toNatClampNeg) S3)))))))
set_option maxHeartbeats 4000000 in
set_option maxRecDepth 100000 in
theorem c_X8_row  {S : SS} {p0 : Int32} {post : Int64 → SS → Prop} (hV : V_X8_row  p0 S post) : ML l yX8_row wsX8_row rm_X8_row [.ref (ad 48), .int p0] D n0 ad cI cJ X S post := by
  refine Met.ofW (cc := cX8_row) (maxL := 2) (ret := (some .long)) (by decide) rfl ?_
  intro p e s m args below meth c s₁ B hml hv
  obtain ⟨rfl, hv⟩ := hv
  have C0 := Bd.mk B hml (atoms_spec (ws := wsX8_row) B.pre) (findClass_of_methodNamed B.named) hv.1
  have hw : Wh D n0 ad cI cJ X S s s.heap [] := ⟨hv.2.1, hv.2.2, va_S.rf⟩
  refine r_entry (Nat.le_of_ble_eq_true rfl) (fun ls hl => ?_)
  have hl : lv_has ls 2 [(0, .ref (ad 48)), (1, .int p0)] := hl
  unfold V_X8_row at hV
  refine lv_aload_n C0.x C0.b dX8_row_0 rfl (lv_at hl 0 rfl) ?_
  refine lv_iconst (v := 0) C0.x C0.b dX8_row_1 (by decide) ?_
  refine r_put C0 hw (C := RX8) (T := TX8) (N := 33) (ty := .int) iw_X8_row_X8 tyX8 tyX8_ok nmX8 (lg_48 ad cI cJ X S) rfl 0 (by decide) (C0.ts _ fw_X8_row_61) rfl (by decide +kernel) rfl rfl (Nat.le_of_ble_eq_true rfl) dX8_row_2 (S' := (sI S 20 (0 : Int32))) (ls_48_0 ad cI cJ X S (0 : Int32)) (fun S1 H locs eS1 hw => ?_)
  have hV := hV S1 eS1
  refine lv_iload_n C0.x C0.b dX8_row_5 rfl (lv_at hl 1 rfl) ?_
  refine lv_i2l C0.x C0.b dX8_row_6 rfl ?_
  refine lv_lconst (v := 0) C0.x C0.b dX8_row_7 (by decide) ?_
  refine lv_aload_n C0.x C0.b dX8_row_8 rfl (lv_at hl 0 rfl) ?_
  refine r_get C0 hw (C := RX8) (T := TX8) (N := 33) (v := .int (gI S1 28)) iw_X8_row_X8 (lg_48 ad cI cJ X S1) rfl 15 (by decide) (C0.ts _ fw_X8_row_124) rfl dX8_row_9 ?_
  refine lv_iconst (v := 1) C0.x C0.b dX8_row_12 (by decide) ?_
  refine lv_isub C0.x C0.b dX8_row_13 ?_
  refine lv_i2l C0.x C0.b dX8_row_14 rfl ?_
  refine r_cS_i (As := [.long p0.toInt64, .long (0 : Int64), .long ((gI S1 28) - (1 : Int32)).toInt64]) (rest := []) C0 hw (c_X8_in  hV) (va_cwS 3 C0.ts gX8_row_X8_in rfl rfl rfl hd_X8_in ⟨Nat.le_of_ble_eq_true rfl, Nat.le_of_ble_eq_true rfl⟩) rfl hl.1 rfl (Nat.le_of_ble_eq_true rfl) ⟨Nat.zero_le _, Nat.zero_le _⟩ dX8_row_15 (fun r2 S3 H locs hV hw => ?_)
  refine lv_if_eq (tgt := 30) C0.x C0.b dX8_row_18 (by decide) (fun c4 => ?_) (fun c4 => ?_)
  · have hV := hV.1 c4
    refine lv_aload_n C0.x C0.b dX8_row_30 rfl (lv_at hl 0 rfl) ?_
    refine lv_iconst (v := 1) C0.x C0.b dX8_row_31 (by decide) ?_
    refine r_cV_l (As := [.int (1 : Int32)]) (rest := []) C0 hw (c_X8_refuse  hV) (cwV 1 C0.ts gX8_row_X8_refuse rfl rfl rfl hd_X8_refuse ⟨Nat.le_of_ble_eq_true rfl, Nat.le_of_ble_eq_true rfl⟩) (lg_48 ad cI cJ X S3) rfl rfl hl.1 rfl (Nat.le_of_ble_eq_true rfl) ⟨Nat.zero_le _, Nat.zero_le _⟩ dX8_row_32 (fun r5 S6 H locs hV hw => ?_)
    exact r_lret C0 rfl hw hV dX8_row_35
  · have hV := hV.2 c4
    refine lv_aload_n C0.x C0.b dX8_row_21 rfl (lv_at hl 0 rfl) ?_
    refine r_get C0 hw (C := RX8) (T := TX8) (N := 33) (v := .ref (ad 54)) iw_X8_row_X8 (lg_48 ad cI cJ X S3) rfl 14 (by decide) (C0.ts _ fw_X8_row_29) rfl dX8_row_22 ?_
    refine lv_iload_n C0.x C0.b dX8_row_25 rfl (lv_at hl 1 rfl) ?_
    refine r_lald C0 hw (lg_54 ad cI cJ X S3) hV.1 dX8_row_26 ?_
    have hV := hV.2
    refine lv_goto (tgt := 35) C0.x C0.b dX8_row_27 (by decide) ?_
    exact r_lret C0 rfl hw hV dX8_row_35
end
