section
variable {p : Program} {l : Launch} {e : Env} {s : State} {m : MethodId} {args : Array Value} {below : List Frame} {meth : Method} {c : Code}
variable {D : va_G} {n0 : Nat} {ad : Nat → Nat} {cI cJ : ClassId} {X : va_W}
/-! StepBenchModel.goes(J)I -/
abbrev rm_X8_goes : Room := { frames := 3, cells := 0, slots := 0, locals := 70 }
set_option maxRecDepth 20000 in
theorem fw_X8_goes_108 : Cond.fieldLink RX8 108 "StepBenchModel" "sort" "I" ∈ wsX8_goes := by decide +kernel
set_option maxRecDepth 20000 in
theorem iw_X8_goes_X8 : ∀ w ∈ wsX80, w ∈ wsX8_goes := by decide +kernel
set_option maxRecDepth 20000 in
theorem fw_X8_goes_26 : Cond.fieldLink RX8 26 "StepBenchModel" "q" "[J" ∈ wsX8_goes := by decide +kernel
set_option maxRecDepth 20000 in
theorem cw_X8_goes_66 : Cond.constantLong RX8 66 1000000000000000 ∈ wsX8_goes := by decide +kernel
set_option maxRecDepth 20000 in
theorem fw_X8_goes_23 : Cond.fieldLink RX8 23 "StepBenchModel" "p" "[J" ∈ wsX8_goes := by decide +kernel
set_option maxRecDepth 20000 in
theorem fw_X8_goes_146 : Cond.fieldLink RX8 146 "StepBenchModel" "at" "J" ∈ wsX8_goes := by decide +kernel
set_option maxRecDepth 20000 in
theorem cw_X8_goes_144 : Cond.constantLong RX8 144 1000000000000001 ∈ wsX8_goes := by decide +kernel
set_option maxRecDepth 20000 in
theorem fw_X8_goes_20 : Cond.fieldLink RX8 20 "StepBenchModel" "rule" "[J" ∈ wsX8_goes := by decide +kernel
set_option maxRecDepth 20000 in
theorem hd_X8_goes : yX8_goes.cls = RX8 ∧ yX8_goes.cls ≠ "java/lang/invoke/MethodHandle" ∧ yX8_goes.cls ≠ "java/lang/invoke/VarHandle" ∧ (parseMethodDescriptor yX8_goes.desc).map (fun d => d.parameters.length) = some 1 := by decide +kernel
def V_X8_goes  (p0 : Int64) (S : SS) (post : Int32 → SS → Prop) : Prop :=
  (V_X8_way p0 S (fun (r1 : Int32) (S2 : SS) => ((0 ≤ r1 → (((gI S2 25) = (2 : Int32) → (vp_in r1 40 ∧ (¬ (gA S2 34 r1.toNatClampNeg) = 0 ∧ (∀ y5 : Int64, y5 = (p0 / (gA S2 34 r1.toNatClampNeg)) → (vp_in r1 40 ∧ (¬ (gA S2 33 r1.toNatClampNeg) = 0 ∧ ((y5 ≤ ((1000000000000000 : Int64) / (gA S2 33 r1.toNatClampNeg)) → (vp_in r1 40 ∧ (∀ S7 : SS, S7 = (sJ S2 0 (y5 * (gA S2 33 r1.toNatClampNeg))) → (V_X8_isNumber (gJ S7 0) S7 (fun (r8 : Int32) (S9 : SS) => ((r8 = 0 → (post (2 : Int32) S9)) ∧ (¬ r8 = 0 → (post (0 : Int32) S9)))))))) ∧ (¬ y5 ≤ ((1000000000000000 : Int64) / (gA S2 33 r1.toNatClampNeg)) → (∀ S11 : SS, S11 = (sJ S2 0 (1000000000000001 : Int64)) → (V_X8_isNumber (gJ S11 0) S11 (fun (r12 : Int32) (S13 : SS) => ((r12 = 0 → (post (2 : Int32) S13)) ∧ (¬ r12 = 0 → (post (0 : Int32) S13)))))))))))))) ∧ (¬ (gI S2 25) = (2 : Int32) → (vp_in ((3 : Int32) * r1) 192 ∧ (vp_in (((3 : Int32) * r1) + (1 : Int32)) 192 ∧ (vp_in (((3 : Int32) * r1) + (2 : Int32)) 192 ∧ (¬ (gA S2 32 (((3 : Int32) * r1) + (2 : Int32)).toNatClampNeg) = 0 ∧ (∀ S15 : SS, S15 = (sJ S2 0 ((((gA S2 32 ((3 : Int32) * r1).toNatClampNeg) * p0) + (gA S2 32 (((3 : Int32) * r1) + (1 : Int32)).toNatClampNeg)) / (gA S2 32 (((3 : Int32) * r1) + (2 : Int32)).toNatClampNeg))) → (V_X8_isNumber (gJ S15 0) S15 (fun (r16 : Int32) (S17 : SS) => ((r16 = 0 → (post (2 : Int32) S17)) ∧ (¬ r16 = 0 → (post (0 : Int32) S17))))))))))))) ∧ (¬ 0 ≤ r1 → (post (1 : Int32) S2)))))
set_option maxHeartbeats 4000000 in
set_option maxRecDepth 100000 in
theorem c_X8_goes  {S : SS} {p0 : Int64} {post : Int32 → SS → Prop} (hV : V_X8_goes  p0 S post) : MI l yX8_goes wsX8_goes rm_X8_goes [.ref (ad 48), .long p0] D n0 ad cI cJ X S post := by
  refine Met.ofW (cc := cX8_goes) (maxL := 6) (ret := (some .int)) (by decide) rfl ?_
  intro p e s m args below meth c s₁ B hml hv
  obtain ⟨rfl, hv⟩ := hv
  have C0 := Bd.mk B hml (atoms_spec (ws := wsX8_goes) B.pre) (findClass_of_methodNamed B.named) hv.1
  have hw : Wh D n0 ad cI cJ X S s s.heap [] := ⟨hv.2.1, hv.2.2, va_S.rf⟩
  refine r_entry (Nat.le_of_ble_eq_true rfl) (fun ls hl => ?_)
  have hl : lv_has ls 6 [(0, .ref (ad 48)), (1, .long p0)] := hl
  unfold V_X8_goes at hV
  refine lv_aload_n C0.x C0.b dX8_goes_0 rfl (lv_at hl 0 rfl) ?_
  refine lv_lload_n C0.x C0.b dX8_goes_1 rfl (lv_at hl 1 rfl) ?_
  refine r_cV_i (As := [.long p0]) (rest := []) C0 hw (c_X8_way  hV) (cwV 1 C0.ts gX8_goes_X8_way rfl rfl rfl hd_X8_way ⟨Nat.le_of_ble_eq_true rfl, Nat.le_of_ble_eq_true rfl⟩) (lg_48 ad cI cJ X S) rfl rfl hl.1 rfl (Nat.le_of_ble_eq_true rfl) ⟨Nat.le_of_ble_eq_true rfl, Nat.le_of_ble_eq_true rfl⟩ dX8_goes_2 (fun r1 S2 H locs hV hw => ?_)
  refine lv_istore_n (lv' := [(3, .int r1), (0, .ref (ad 48)), (1, .long p0)]) C0.x C0.b dX8_goes_5 rfl hl (by decide) rfl (fun ls hl => ?_)
  refine lv_iload_n C0.x C0.b dX8_goes_6 rfl (lv_at hl 0 rfl) ?_
  refine lv_if_ge (tgt := 12) C0.x C0.b dX8_goes_7 (by decide) (fun c3 => ?_) (fun c3 => ?_)
  · have hV := hV.1 c3
    refine lv_aload_n C0.x C0.b dX8_goes_12 rfl (lv_at hl 1 rfl) ?_
    refine r_get C0 hw (C := RX8) (T := TX8) (N := 33) (v := .int (gI S2 25)) iw_X8_goes_X8 (lg_48 ad cI cJ X S2) rfl 7 (by decide) (C0.ts _ fw_X8_goes_108) rfl dX8_goes_13 ?_
    refine lv_iconst (v := 2) C0.x C0.b dX8_goes_16 (by decide) ?_
    refine lv_icmp_ne (tgt := 68) C0.x C0.b dX8_goes_17 (by decide) (fun c4 => ?_) (fun c4 => ?_)
    · have hV := hV.2 c4
      refine lv_aload_n C0.x C0.b dX8_goes_68 rfl (lv_at hl 1 rfl) ?_
      refine lv_aload_n C0.x C0.b dX8_goes_69 rfl (lv_at hl 1 rfl) ?_
      refine r_get C0 hw (C := RX8) (T := TX8) (N := 33) (v := .ref (ad 51)) iw_X8_goes_X8 (lg_48 ad cI cJ X S2) rfl 9 (by decide) (C0.ts _ fw_X8_goes_20) rfl dX8_goes_70 ?_
      refine lv_iconst (v := 3) C0.x C0.b dX8_goes_73 (by decide) ?_
      refine lv_iload_n C0.x C0.b dX8_goes_74 rfl (lv_at hl 0 rfl) ?_
      refine lv_imul C0.x C0.b dX8_goes_75 ?_
      refine r_lald C0 hw (lg_51 ad cI cJ X S2) hV.1 dX8_goes_76 ?_
      have hV := hV.2
      refine lv_lload_n C0.x C0.b dX8_goes_77 rfl (lv_at hl 2 rfl) ?_
      refine lv_lmul C0.x C0.b dX8_goes_78 ?_
      refine lv_aload_n C0.x C0.b dX8_goes_79 rfl (lv_at hl 1 rfl) ?_
      refine r_get C0 hw (C := RX8) (T := TX8) (N := 33) (v := .ref (ad 51)) iw_X8_goes_X8 (lg_48 ad cI cJ X S2) rfl 9 (by decide) (C0.ts _ fw_X8_goes_20) rfl dX8_goes_80 ?_
      refine lv_iconst (v := 3) C0.x C0.b dX8_goes_83 (by decide) ?_
      refine lv_iload_n C0.x C0.b dX8_goes_84 rfl (lv_at hl 0 rfl) ?_
      refine lv_imul C0.x C0.b dX8_goes_85 ?_
      refine lv_iconst (v := 1) C0.x C0.b dX8_goes_86 (by decide) ?_
      refine lv_iadd C0.x C0.b dX8_goes_87 ?_
      refine r_lald C0 hw (lg_51 ad cI cJ X S2) hV.1 dX8_goes_88 ?_
      have hV := hV.2
      refine lv_ladd C0.x C0.b dX8_goes_89 ?_
      refine lv_aload_n C0.x C0.b dX8_goes_90 rfl (lv_at hl 1 rfl) ?_
      refine r_get C0 hw (C := RX8) (T := TX8) (N := 33) (v := .ref (ad 51)) iw_X8_goes_X8 (lg_48 ad cI cJ X S2) rfl 9 (by decide) (C0.ts _ fw_X8_goes_20) rfl dX8_goes_91 ?_
      refine lv_iconst (v := 3) C0.x C0.b dX8_goes_94 (by decide) ?_
      refine lv_iload_n C0.x C0.b dX8_goes_95 rfl (lv_at hl 0 rfl) ?_
      refine lv_imul C0.x C0.b dX8_goes_96 ?_
      refine lv_iconst (v := 2) C0.x C0.b dX8_goes_97 (by decide) ?_
      refine lv_iadd C0.x C0.b dX8_goes_98 ?_
      refine r_lald C0 hw (lg_51 ad cI cJ X S2) hV.1 dX8_goes_99 ?_
      have hV := hV.2
      refine lv_ldiv C0.x C0.b dX8_goes_100 hV.1 ?_
      have hV := hV.2
      refine r_put C0 hw (C := RX8) (T := TX8) (N := 33) (ty := .long) iw_X8_goes_X8 tyX8 tyX8_ok nmX8 (lg_48 ad cI cJ X S2) rfl 13 (by decide) (C0.ts _ fw_X8_goes_146) rfl (by decide +kernel) rfl rfl (Nat.le_of_ble_eq_true rfl) dX8_goes_101 (S' := (sJ S2 0 ((((gA S2 32 ((3 : Int32) * r1).toNatClampNeg) * p0) + (gA S2 32 (((3 : Int32) * r1) + (1 : Int32)).toNatClampNeg)) / (gA S2 32 (((3 : Int32) * r1) + (2 : Int32)).toNatClampNeg)))) (ls_48_13 ad cI cJ X S2 ((((gA S2 32 ((3 : Int32) * r1).toNatClampNeg) * p0) + (gA S2 32 (((3 : Int32) * r1) + (1 : Int32)).toNatClampNeg)) / (gA S2 32 (((3 : Int32) * r1) + (2 : Int32)).toNatClampNeg))) (fun S15 H locs eS15 hw => ?_)
      have hV := hV S15 eS15
      refine lv_aload_n C0.x C0.b dX8_goes_104 rfl (lv_at hl 1 rfl) ?_
      refine r_get C0 hw (C := RX8) (T := TX8) (N := 33) (v := .long (gJ S15 0)) iw_X8_goes_X8 (lg_48 ad cI cJ X S15) rfl 13 (by decide) (C0.ts _ fw_X8_goes_146) rfl dX8_goes_105 ?_
      refine r_cS_i (As := [.long (gJ S15 0)]) (rest := []) C0 hw (c_X8_isNumber  hV) (va_cwS 1 C0.ts gX8_goes_X8_isNumber rfl rfl rfl hd_X8_isNumber ⟨Nat.le_of_ble_eq_true rfl, Nat.le_of_ble_eq_true rfl⟩) rfl hl.1 rfl (Nat.le_of_ble_eq_true rfl) ⟨Nat.le_of_ble_eq_true rfl, Nat.le_of_ble_eq_true rfl⟩ dX8_goes_108 (fun r16 S17 H locs hV hw => ?_)
      refine lv_if_eq (tgt := 118) C0.x C0.b dX8_goes_111 (by decide) (fun c18 => ?_) (fun c18 => ?_)
      · have hV := hV.1 c18
        refine lv_iconst (v := 2) C0.x C0.b dX8_goes_118 (by decide) ?_
        exact r_iret C0 rfl hw hV dX8_goes_119
      · have hV := hV.2 c18
        refine lv_iconst (v := 0) C0.x C0.b dX8_goes_114 (by decide) ?_
        refine lv_goto (tgt := 119) C0.x C0.b dX8_goes_115 (by decide) ?_
        exact r_iret C0 rfl hw hV dX8_goes_119
    · have hV := hV.1 c4
      refine lv_lload_n C0.x C0.b dX8_goes_20 rfl (lv_at hl 2 rfl) ?_
      refine lv_aload_n C0.x C0.b dX8_goes_21 rfl (lv_at hl 1 rfl) ?_
      refine r_get C0 hw (C := RX8) (T := TX8) (N := 33) (v := .ref (ad 53)) iw_X8_goes_X8 (lg_48 ad cI cJ X S2) rfl 12 (by decide) (C0.ts _ fw_X8_goes_26) rfl dX8_goes_22 ?_
      refine lv_iload_n C0.x C0.b dX8_goes_25 rfl (lv_at hl 0 rfl) ?_
      refine r_lald C0 hw (lg_53 ad cI cJ X S2) hV.1 dX8_goes_26 ?_
      have hV := hV.2
      refine lv_ldiv C0.x C0.b dX8_goes_27 hV.1 ?_
      have hV := hV.2
      refine lv_topl (fun y5 ey5 => ?_)
      have hV := hV y5 ey5
      refine lv_lstore (lv' := [(4, .long y5), (3, .int r1), (0, .ref (ad 48)), (1, .long p0)]) C0.x C0.b dX8_goes_28 hl (by decide) rfl (fun ls hl => ?_)
      refine lv_aload_n C0.x C0.b dX8_goes_30 rfl (lv_at hl 2 rfl) ?_
      refine lv_lload C0.x C0.b dX8_goes_31 (lv_at hl 0 rfl) ?_
      refine lv_ldc2 (v := 1000000000000000) C0.x C0.b C0.ow (C0.ts _ cw_X8_goes_66) dX8_goes_33 ?_
      refine lv_aload_n C0.x C0.b dX8_goes_36 rfl (lv_at hl 2 rfl) ?_
      refine r_get C0 hw (C := RX8) (T := TX8) (N := 33) (v := .ref (ad 52)) iw_X8_goes_X8 (lg_48 ad cI cJ X S2) rfl 11 (by decide) (C0.ts _ fw_X8_goes_23) rfl dX8_goes_37 ?_
      refine lv_iload_n C0.x C0.b dX8_goes_40 rfl (lv_at hl 1 rfl) ?_
      refine r_lald C0 hw (lg_52 ad cI cJ X S2) hV.1 dX8_goes_41 ?_
      have hV := hV.2
      refine lv_ldiv C0.x C0.b dX8_goes_42 hV.1 ?_
      have hV := hV.2
      refine r_lcmp C0 dX8_goes_43 ?_
      refine lv_if_le (tgt := 53) C0.x C0.b dX8_goes_44 (by decide) (fun c6 => ?_) (fun c6 => ?_)
      · have hV := hV.1 ((lc_le _ _).mp c6)
        refine lv_lload C0.x C0.b dX8_goes_53 (lv_at hl 0 rfl) ?_
        refine lv_aload_n C0.x C0.b dX8_goes_55 rfl (lv_at hl 2 rfl) ?_
        refine r_get C0 hw (C := RX8) (T := TX8) (N := 33) (v := .ref (ad 52)) iw_X8_goes_X8 (lg_48 ad cI cJ X S2) rfl 11 (by decide) (C0.ts _ fw_X8_goes_23) rfl dX8_goes_56 ?_
        refine lv_iload_n C0.x C0.b dX8_goes_59 rfl (lv_at hl 1 rfl) ?_
        refine r_lald C0 hw (lg_52 ad cI cJ X S2) hV.1 dX8_goes_60 ?_
        have hV := hV.2
        refine lv_lmul C0.x C0.b dX8_goes_61 ?_
        refine r_put C0 hw (C := RX8) (T := TX8) (N := 33) (ty := .long) iw_X8_goes_X8 tyX8 tyX8_ok nmX8 (lg_48 ad cI cJ X S2) rfl 13 (by decide) (C0.ts _ fw_X8_goes_146) rfl (by decide +kernel) rfl rfl (Nat.le_of_ble_eq_true rfl) dX8_goes_62 (S' := (sJ S2 0 (y5 * (gA S2 33 r1.toNatClampNeg)))) (ls_48_13 ad cI cJ X S2 (y5 * (gA S2 33 r1.toNatClampNeg))) (fun S7 H locs eS7 hw => ?_)
        have hV := hV S7 eS7
        refine lv_goto (tgt := 104) C0.x C0.b dX8_goes_65 (by decide) ?_
        refine lv_aload_n C0.x C0.b dX8_goes_104 rfl (lv_at hl 2 rfl) ?_
        refine r_get C0 hw (C := RX8) (T := TX8) (N := 33) (v := .long (gJ S7 0)) iw_X8_goes_X8 (lg_48 ad cI cJ X S7) rfl 13 (by decide) (C0.ts _ fw_X8_goes_146) rfl dX8_goes_105 ?_
        refine r_cS_i (As := [.long (gJ S7 0)]) (rest := []) C0 hw (c_X8_isNumber  hV) (va_cwS 1 C0.ts gX8_goes_X8_isNumber rfl rfl rfl hd_X8_isNumber ⟨Nat.le_of_ble_eq_true rfl, Nat.le_of_ble_eq_true rfl⟩) rfl hl.1 rfl (Nat.le_of_ble_eq_true rfl) ⟨Nat.le_of_ble_eq_true rfl, Nat.le_of_ble_eq_true rfl⟩ dX8_goes_108 (fun r8 S9 H locs hV hw => ?_)
        refine lv_if_eq (tgt := 118) C0.x C0.b dX8_goes_111 (by decide) (fun c10 => ?_) (fun c10 => ?_)
        · have hV := hV.1 c10
          refine lv_iconst (v := 2) C0.x C0.b dX8_goes_118 (by decide) ?_
          exact r_iret C0 rfl hw hV dX8_goes_119
        · have hV := hV.2 c10
          refine lv_iconst (v := 0) C0.x C0.b dX8_goes_114 (by decide) ?_
          refine lv_goto (tgt := 119) C0.x C0.b dX8_goes_115 (by decide) ?_
          exact r_iret C0 rfl hw hV dX8_goes_119
      · have hV := hV.2 (fun h => c6 ((lc_le _ _).mpr h))
        refine lv_ldc2 (v := 1000000000000001) C0.x C0.b C0.ow (C0.ts _ cw_X8_goes_144) dX8_goes_47 ?_
        refine lv_goto (tgt := 62) C0.x C0.b dX8_goes_50 (by decide) ?_
        refine r_put C0 hw (C := RX8) (T := TX8) (N := 33) (ty := .long) iw_X8_goes_X8 tyX8 tyX8_ok nmX8 (lg_48 ad cI cJ X S2) rfl 13 (by decide) (C0.ts _ fw_X8_goes_146) rfl (by decide +kernel) rfl rfl (Nat.le_of_ble_eq_true rfl) dX8_goes_62 (S' := (sJ S2 0 (1000000000000001 : Int64))) (ls_48_13 ad cI cJ X S2 (1000000000000001 : Int64)) (fun S11 H locs eS11 hw => ?_)
        have hV := hV S11 eS11
        refine lv_goto (tgt := 104) C0.x C0.b dX8_goes_65 (by decide) ?_
        refine lv_aload_n C0.x C0.b dX8_goes_104 rfl (lv_at hl 2 rfl) ?_
        refine r_get C0 hw (C := RX8) (T := TX8) (N := 33) (v := .long (gJ S11 0)) iw_X8_goes_X8 (lg_48 ad cI cJ X S11) rfl 13 (by decide) (C0.ts _ fw_X8_goes_146) rfl dX8_goes_105 ?_
        refine r_cS_i (As := [.long (gJ S11 0)]) (rest := []) C0 hw (c_X8_isNumber  hV) (va_cwS 1 C0.ts gX8_goes_X8_isNumber rfl rfl rfl hd_X8_isNumber ⟨Nat.le_of_ble_eq_true rfl, Nat.le_of_ble_eq_true rfl⟩) rfl hl.1 rfl (Nat.le_of_ble_eq_true rfl) ⟨Nat.le_of_ble_eq_true rfl, Nat.le_of_ble_eq_true rfl⟩ dX8_goes_108 (fun r12 S13 H locs hV hw => ?_)
        refine lv_if_eq (tgt := 118) C0.x C0.b dX8_goes_111 (by decide) (fun c14 => ?_) (fun c14 => ?_)
        · have hV := hV.1 c14
          refine lv_iconst (v := 2) C0.x C0.b dX8_goes_118 (by decide) ?_
          exact r_iret C0 rfl hw hV dX8_goes_119
        · have hV := hV.2 c14
          refine lv_iconst (v := 0) C0.x C0.b dX8_goes_114 (by decide) ?_
          refine lv_goto (tgt := 119) C0.x C0.b dX8_goes_115 (by decide) ?_
          exact r_iret C0 rfl hw hV dX8_goes_119
  · have hV := hV.2 c3
    refine lv_iconst (v := 1) C0.x C0.b dX8_goes_10 (by decide) ?_
    exact r_iret C0 rfl hw hV dX8_goes_11
/-! StepBenchModel.step(J)J -/
abbrev rm_X8_step : Room := { frames := 4, cells := 0, slots := 0, locals := 95 }
set_option maxRecDepth 20000 in
theorem fw_X8_step_61 : Cond.fieldLink RX8 61 "StepBenchModel" "thrown" "I" ∈ wsX8_step := by decide +kernel
set_option maxRecDepth 20000 in
theorem iw_X8_step_X8 : ∀ w ∈ wsX80, w ∈ wsX8_step := by decide +kernel
set_option maxRecDepth 20000 in
theorem fw_X8_step_108 : Cond.fieldLink RX8 108 "StepBenchModel" "sort" "I" ∈ wsX8_step := by decide +kernel
set_option maxRecDepth 20000 in
theorem fw_X8_step_146 : Cond.fieldLink RX8 146 "StepBenchModel" "at" "J" ∈ wsX8_step := by decide +kernel
set_option maxRecDepth 20000 in
theorem hd_X8_step : yX8_step.cls = RX8 ∧ yX8_step.cls ≠ "java/lang/invoke/MethodHandle" ∧ yX8_step.cls ≠ "java/lang/invoke/VarHandle" ∧ (parseMethodDescriptor yX8_step.desc).map (fun d => d.parameters.length) = some 1 := by decide +kernel
def V_X8_step  (p0 : Int64) (S : SS) (post : Int64 → SS → Prop) : Prop :=
  (∀ S1 : SS, S1 = (sI S 20 (0 : Int32)) → (((gI S1 25) = 0 → (V_X8_refuse (1 : Int32) S1 (fun (r3 : Int64) (S4 : SS) => (post r3 S4)))) ∧ (¬ (gI S1 25) = 0 → (V_X8_isNumber p0 S1 (fun (r5 : Int32) (S6 : SS) => ((r5 = 0 → (V_X8_refuse (3 : Int32) S6 (fun (r10 : Int64) (S11 : SS) => (post r10 S11)))) ∧ (¬ r5 = 0 → (V_X8_goes p0 S6 (fun (r12 : Int32) (S13 : SS) => ((r12 = 0 → (post (gJ S13 0) S13)) ∧ (¬ r12 = 0 → ((r12 = (1 : Int32) → (V_X8_refuse (2 : Int32) S13 (fun (r16 : Int64) (S17 : SS) => (post r16 S17)))) ∧ (¬ r12 = (1 : Int32) → (V_X8_refuse (3 : Int32) S13 (fun (r18 : Int64) (S19 : SS) => (post r18 S19))))))))))))))))
set_option maxHeartbeats 4000000 in
set_option maxRecDepth 100000 in
theorem c_X8_step  {S : SS} {p0 : Int64} {post : Int64 → SS → Prop} (hV : V_X8_step  p0 S post) : ML l yX8_step wsX8_step rm_X8_step [.ref (ad 48), .long p0] D n0 ad cI cJ X S post := by
  refine Met.ofW (cc := cX8_step) (maxL := 4) (ret := (some .long)) (by decide) rfl ?_
  intro p e s m args below meth c s₁ B hml hv
  obtain ⟨rfl, hv⟩ := hv
  have C0 := Bd.mk B hml (atoms_spec (ws := wsX8_step) B.pre) (findClass_of_methodNamed B.named) hv.1
  have hw : Wh D n0 ad cI cJ X S s s.heap [] := ⟨hv.2.1, hv.2.2, va_S.rf⟩
  refine r_entry (Nat.le_of_ble_eq_true rfl) (fun ls hl => ?_)
  have hl : lv_has ls 4 [(0, .ref (ad 48)), (1, .long p0)] := hl
  unfold V_X8_step at hV
  refine lv_aload_n C0.x C0.b dX8_step_0 rfl (lv_at hl 0 rfl) ?_
  refine lv_iconst (v := 0) C0.x C0.b dX8_step_1 (by decide) ?_
  refine r_put C0 hw (C := RX8) (T := TX8) (N := 33) (ty := .int) iw_X8_step_X8 tyX8 tyX8_ok nmX8 (lg_48 ad cI cJ X S) rfl 0 (by decide) (C0.ts _ fw_X8_step_61) rfl (by decide +kernel) rfl rfl (Nat.le_of_ble_eq_true rfl) dX8_step_2 (S' := (sI S 20 (0 : Int32))) (ls_48_0 ad cI cJ X S (0 : Int32)) (fun S1 H locs eS1 hw => ?_)
  have hV := hV S1 eS1
  refine lv_aload_n C0.x C0.b dX8_step_5 rfl (lv_at hl 0 rfl) ?_
  refine r_get C0 hw (C := RX8) (T := TX8) (N := 33) (v := .int (gI S1 25)) iw_X8_step_X8 (lg_48 ad cI cJ X S1) rfl 7 (by decide) (C0.ts _ fw_X8_step_108) rfl dX8_step_6 ?_
  refine lv_if_ne (tgt := 18) C0.x C0.b dX8_step_9 (by decide) (fun c2 => ?_) (fun c2 => ?_)
  · have hV := hV.2 c2
    refine lv_lload_n C0.x C0.b dX8_step_18 rfl (lv_at hl 1 rfl) ?_
    refine r_cS_i (As := [.long p0]) (rest := []) C0 hw (c_X8_isNumber  hV) (va_cwS 1 C0.ts gX8_step_X8_isNumber rfl rfl rfl hd_X8_isNumber ⟨Nat.le_of_ble_eq_true rfl, Nat.le_of_ble_eq_true rfl⟩) rfl hl.1 rfl (Nat.le_of_ble_eq_true rfl) ⟨Nat.le_of_ble_eq_true rfl, Nat.le_of_ble_eq_true rfl⟩ dX8_step_19 (fun r5 S6 H locs hV hw => ?_)
    refine lv_if_eq (tgt := 33) C0.x C0.b dX8_step_22 (by decide) (fun c7 => ?_) (fun c7 => ?_)
    · have hV := hV.1 c7
      refine lv_iconst (v := 2) C0.x C0.b dX8_step_33 (by decide) ?_
      refine lv_istore_n (lv' := [(3, .int (2 : Int32)), (0, .ref (ad 48)), (1, .long p0)]) C0.x C0.b dX8_step_34 rfl hl (by decide) rfl (fun ls hl => ?_)
      refine lv_iload_n C0.x C0.b dX8_step_35 rfl (lv_at hl 0 rfl) ?_
      refine lv_if_ne (tgt := 46) C0.x C0.b dX8_step_36 (by decide) (fun c8 => ?_) (fun c8 => absurd c8 (by decide))
      refine lv_aload_n C0.x C0.b dX8_step_46 rfl (lv_at hl 1 rfl) ?_
      refine lv_iload_n C0.x C0.b dX8_step_47 rfl (lv_at hl 0 rfl) ?_
      refine lv_iconst (v := 1) C0.x C0.b dX8_step_48 (by decide) ?_
      refine lv_icmp_ne (tgt := 56) C0.x C0.b dX8_step_49 (by decide) (fun c9 => ?_) (fun c9 => absurd c9 (by decide))
      refine lv_iconst (v := 3) C0.x C0.b dX8_step_56 (by decide) ?_
      refine r_cV_l (As := [.int (3 : Int32)]) (rest := []) C0 hw (c_X8_refuse  hV) (cwV 1 C0.ts gX8_step_X8_refuse rfl rfl rfl hd_X8_refuse ⟨Nat.le_of_ble_eq_true rfl, Nat.le_of_ble_eq_true rfl⟩) (lg_48 ad cI cJ X S6) rfl rfl hl.1 rfl (Nat.le_of_ble_eq_true rfl) ⟨Nat.le_of_ble_eq_true rfl, Nat.le_of_ble_eq_true rfl⟩ dX8_step_57 (fun r10 S11 H locs hV hw => ?_)
      exact r_lret C0 rfl hw hV dX8_step_60
    · have hV := hV.2 c7
      refine lv_aload_n C0.x C0.b dX8_step_25 rfl (lv_at hl 0 rfl) ?_
      refine lv_lload_n C0.x C0.b dX8_step_26 rfl (lv_at hl 1 rfl) ?_
      refine r_cV_i (As := [.long p0]) (rest := []) C0 hw (c_X8_goes  hV) (cwV 1 C0.ts gX8_step_X8_goes rfl rfl rfl hd_X8_goes ⟨Nat.le_of_ble_eq_true rfl, Nat.le_of_ble_eq_true rfl⟩) (lg_48 ad cI cJ X S6) rfl rfl hl.1 rfl (Nat.le_of_ble_eq_true rfl) ⟨Nat.le_of_ble_eq_true rfl, Nat.le_of_ble_eq_true rfl⟩ dX8_step_27 (fun r12 S13 H locs hV hw => ?_)
      refine lv_goto (tgt := 34) C0.x C0.b dX8_step_30 (by decide) ?_
      refine lv_istore_n (lv' := [(3, .int r12), (0, .ref (ad 48)), (1, .long p0)]) C0.x C0.b dX8_step_34 rfl hl (by decide) rfl (fun ls hl => ?_)
      refine lv_iload_n C0.x C0.b dX8_step_35 rfl (lv_at hl 0 rfl) ?_
      refine lv_if_ne (tgt := 46) C0.x C0.b dX8_step_36 (by decide) (fun c14 => ?_) (fun c14 => ?_)
      · have hV := hV.2 c14
        refine lv_aload_n C0.x C0.b dX8_step_46 rfl (lv_at hl 1 rfl) ?_
        refine lv_iload_n C0.x C0.b dX8_step_47 rfl (lv_at hl 0 rfl) ?_
        refine lv_iconst (v := 1) C0.x C0.b dX8_step_48 (by decide) ?_
        refine lv_icmp_ne (tgt := 56) C0.x C0.b dX8_step_49 (by decide) (fun c15 => ?_) (fun c15 => ?_)
        · have hV := hV.2 c15
          refine lv_iconst (v := 3) C0.x C0.b dX8_step_56 (by decide) ?_
          refine r_cV_l (As := [.int (3 : Int32)]) (rest := []) C0 hw (c_X8_refuse  hV) (cwV 1 C0.ts gX8_step_X8_refuse rfl rfl rfl hd_X8_refuse ⟨Nat.le_of_ble_eq_true rfl, Nat.le_of_ble_eq_true rfl⟩) (lg_48 ad cI cJ X S13) rfl rfl hl.1 rfl (Nat.le_of_ble_eq_true rfl) ⟨Nat.le_of_ble_eq_true rfl, Nat.le_of_ble_eq_true rfl⟩ dX8_step_57 (fun r18 S19 H locs hV hw => ?_)
          exact r_lret C0 rfl hw hV dX8_step_60
        · have hV := hV.1 c15
          refine lv_iconst (v := 2) C0.x C0.b dX8_step_52 (by decide) ?_
          refine lv_goto (tgt := 57) C0.x C0.b dX8_step_53 (by decide) ?_
          refine r_cV_l (As := [.int (2 : Int32)]) (rest := []) C0 hw (c_X8_refuse  hV) (cwV 1 C0.ts gX8_step_X8_refuse rfl rfl rfl hd_X8_refuse ⟨Nat.le_of_ble_eq_true rfl, Nat.le_of_ble_eq_true rfl⟩) (lg_48 ad cI cJ X S13) rfl rfl hl.1 rfl (Nat.le_of_ble_eq_true rfl) ⟨Nat.le_of_ble_eq_true rfl, Nat.le_of_ble_eq_true rfl⟩ dX8_step_57 (fun r16 S17 H locs hV hw => ?_)
          exact r_lret C0 rfl hw hV dX8_step_60
      · have hV := hV.1 c14
        refine lv_aload_n C0.x C0.b dX8_step_39 rfl (lv_at hl 1 rfl) ?_
        refine r_get C0 hw (C := RX8) (T := TX8) (N := 33) (v := .long (gJ S13 0)) iw_X8_step_X8 (lg_48 ad cI cJ X S13) rfl 13 (by decide) (C0.ts _ fw_X8_step_146) rfl dX8_step_40 ?_
        refine lv_goto (tgt := 60) C0.x C0.b dX8_step_43 (by decide) ?_
        exact r_lret C0 rfl hw hV dX8_step_60
  · have hV := hV.1 c2
    refine lv_aload_n C0.x C0.b dX8_step_12 rfl (lv_at hl 0 rfl) ?_
    refine lv_iconst (v := 1) C0.x C0.b dX8_step_13 (by decide) ?_
    refine r_cV_l (As := [.int (1 : Int32)]) (rest := []) C0 hw (c_X8_refuse  hV) (cwV 1 C0.ts gX8_step_X8_refuse rfl rfl rfl hd_X8_refuse ⟨Nat.le_of_ble_eq_true rfl, Nat.le_of_ble_eq_true rfl⟩) (lg_48 ad cI cJ X S1) rfl rfl hl.1 rfl (Nat.le_of_ble_eq_true rfl) ⟨Nat.le_of_ble_eq_true rfl, Nat.le_of_ble_eq_true rfl⟩ dX8_step_14 (fun r3 S4 H locs hV hw => ?_)
    exact r_lret C0 rfl hw hV dX8_step_17
/-! StepBenchModel.run(JI)J -/
abbrev rm_X8_run : Room := { frames := 4, cells := 0, slots := 0, locals := 95 }
set_option maxRecDepth 20000 in
theorem fw_X8_run_61 : Cond.fieldLink RX8 61 "StepBenchModel" "thrown" "I" ∈ wsX8_run := by decide +kernel
set_option maxRecDepth 20000 in
theorem iw_X8_run_X8 : ∀ w ∈ wsX80, w ∈ wsX8_run := by decide +kernel
set_option maxRecDepth 20000 in
theorem cw_X8_run_157 : Cond.constantLong RX8 157 100000 ∈ wsX8_run := by decide +kernel
set_option maxRecDepth 20000 in
theorem fw_X8_run_108 : Cond.fieldLink RX8 108 "StepBenchModel" "sort" "I" ∈ wsX8_run := by decide +kernel
set_option maxRecDepth 20000 in
theorem fw_X8_run_146 : Cond.fieldLink RX8 146 "StepBenchModel" "at" "J" ∈ wsX8_run := by decide +kernel
set_option maxRecDepth 20000 in
theorem hd_X8_run : yX8_run.cls = RX8 ∧ yX8_run.cls ≠ "java/lang/invoke/MethodHandle" ∧ yX8_run.cls ≠ "java/lang/invoke/VarHandle" ∧ (parseMethodDescriptor yX8_run.desc).map (fun d => d.parameters.length) = some 2 := by decide +kernel
def V_X8_run_57  (v3 : Int32)  (post : Int64 → SS → Prop) : Nat → Int32 → SS → Prop
  | 0, _, _ => False
  | n + 1, v4, S =>
    ((v3 ≤ v4 → (post (gJ S 0) S)) ∧ (¬ v3 ≤ v4 → (V_X8_goes (gJ S 0) S (fun (r17 : Int32) (S18 : SS) => ((r17 = 0 → (∀ x20 : Int32, x20 = v4 + 1 → (V_X8_run_57  v3  post n x20 S18))) ∧ (¬ r17 = 0 → ((r17 = (1 : Int32) → (V_X8_refuse (3 : Int32) S18 (fun (r22 : Int64) (S23 : SS) => (post r22 S23)))) ∧ (¬ r17 = (1 : Int32) → (V_X8_refuse (4 : Int32) S18 (fun (r24 : Int64) (S25 : SS) => (post r24 S25)))))))))))
set_option maxHeartbeats 4000000 in
set_option maxRecDepth 100000 in
theorem lp_X8_run_57  (v3 : Int32)  (post : Int64 → SS → Prop) (C0 : Bd p s m meth c args cX8_run 6 (some .long) wsX8_run RX8 D n0 cI cJ) : ∀ (n : Nat) (v4 : Int32) (S : SS), V_X8_run_57  v3  post n v4 S → ∀ (H : Heap) (locs : List Loc), Wh D n0 ad cI cJ X S s H locs → ∀ ls : Array Slot, lv_has ls 6 [(0, .ref (ad 48)), (3, .int v3), (4, .int v4)] → W p l e rm_X8_run s m args below meth c H locs 0 0 (MQ below (va_Ql post (fun S' t => Wd D n0 ad cI cJ X S' t) (fr n0)) args s 0 0 (fr n0)) (F0 m 57 ls []) := by
  intro n
  induction n with
  | zero => intro v4 S hV; exact False.elim hV
  | succ n ih =>
    intro v4 S hV H locs hw ls hl
    rw [V_X8_run_57] at hV
    refine lv_iload C0.x C0.b dX8_run_57 (lv_at hl 2 rfl) ?_
    refine lv_iload_n C0.x C0.b dX8_run_59 rfl (lv_at hl 1 rfl) ?_
    refine lv_icmp_ge (tgt := 100) C0.x C0.b dX8_run_60 (by decide) (fun c16 => ?_) (fun c16 => ?_)
    · have hV := hV.1 c16
      refine lv_aload_n C0.x C0.b dX8_run_100 rfl (lv_at hl 0 rfl) ?_
      refine r_get C0 hw (C := RX8) (T := TX8) (N := 33) (v := .long (gJ S 0)) iw_X8_run_X8 (lg_48 ad cI cJ X S) rfl 13 (by decide) (C0.ts _ fw_X8_run_146) rfl dX8_run_101 ?_
      exact r_lret C0 rfl hw hV dX8_run_104
    · have hV := hV.2 c16
      refine lv_aload_n C0.x C0.b dX8_run_63 rfl (lv_at hl 0 rfl) ?_
      refine lv_aload_n C0.x C0.b dX8_run_64 rfl (lv_at hl 0 rfl) ?_
      refine r_get C0 hw (C := RX8) (T := TX8) (N := 33) (v := .long (gJ S 0)) iw_X8_run_X8 (lg_48 ad cI cJ X S) rfl 13 (by decide) (C0.ts _ fw_X8_run_146) rfl dX8_run_65 ?_
      refine r_cV_i (As := [.long (gJ S 0)]) (rest := []) C0 hw (c_X8_goes  hV) (cwV 1 C0.ts gX8_run_X8_goes rfl rfl rfl hd_X8_goes ⟨Nat.le_of_ble_eq_true rfl, Nat.le_of_ble_eq_true rfl⟩) (lg_48 ad cI cJ X S) rfl rfl hl.1 rfl (Nat.le_of_ble_eq_true rfl) ⟨Nat.le_of_ble_eq_true rfl, Nat.le_of_ble_eq_true rfl⟩ dX8_run_68 (fun r17 S18 H locs hV hw => ?_)
      refine lv_istore (lv' := [(5, .int r17), (0, .ref (ad 48)), (3, .int v3), (4, .int v4)]) C0.x C0.b dX8_run_71 hl (by decide) rfl (fun ls hl => ?_)
      refine lv_iload C0.x C0.b dX8_run_73 (lv_at hl 0 rfl) ?_
      refine lv_if_eq (tgt := 94) C0.x C0.b dX8_run_75 (by decide) (fun c19 => ?_) (fun c19 => ?_)
      · have hV := hV.1 c19
        obtain ⟨x20, ex20⟩ : ∃ z : Int32, z = v4 + 1 := ⟨_, rfl⟩
        have hV := hV x20 ex20
        refine lv_iinc (v := x20) (lv' := [(4, .int x20), (5, .int r17), (0, .ref (ad 48)), (3, .int v3)]) C0.x C0.b dX8_run_94 hl (k := 3) rfl (by rw [ex20]; rfl) (by decide) rfl (fun ls hl => ?_)
        refine lv_goto (tgt := 57) C0.x C0.b dX8_run_97 (by decide) ?_
        exact ih _ _ hV _ _ hw _ (lv_sub hl [2, 3, 0] rfl)
      · have hV := hV.2 c19
        refine lv_aload_n C0.x C0.b dX8_run_78 rfl (lv_at hl 1 rfl) ?_
        refine lv_iload C0.x C0.b dX8_run_79 (lv_at hl 0 rfl) ?_
        refine lv_iconst (v := 1) C0.x C0.b dX8_run_81 (by decide) ?_
        refine lv_icmp_ne (tgt := 89) C0.x C0.b dX8_run_82 (by decide) (fun c21 => ?_) (fun c21 => ?_)
        · have hV := hV.2 c21
          refine lv_iconst (v := 4) C0.x C0.b dX8_run_89 (by decide) ?_
          refine r_cV_l (As := [.int (4 : Int32)]) (rest := []) C0 hw (c_X8_refuse  hV) (cwV 1 C0.ts gX8_run_X8_refuse rfl rfl rfl hd_X8_refuse ⟨Nat.le_of_ble_eq_true rfl, Nat.le_of_ble_eq_true rfl⟩) (lg_48 ad cI cJ X S18) rfl rfl hl.1 rfl (Nat.le_of_ble_eq_true rfl) ⟨Nat.le_of_ble_eq_true rfl, Nat.le_of_ble_eq_true rfl⟩ dX8_run_90 (fun r24 S25 H locs hV hw => ?_)
          exact r_lret C0 rfl hw hV dX8_run_93
        · have hV := hV.1 c21
          refine lv_iconst (v := 3) C0.x C0.b dX8_run_85 (by decide) ?_
          refine lv_goto (tgt := 90) C0.x C0.b dX8_run_86 (by decide) ?_
          refine r_cV_l (As := [.int (3 : Int32)]) (rest := []) C0 hw (c_X8_refuse  hV) (cwV 1 C0.ts gX8_run_X8_refuse rfl rfl rfl hd_X8_refuse ⟨Nat.le_of_ble_eq_true rfl, Nat.le_of_ble_eq_true rfl⟩) (lg_48 ad cI cJ X S18) rfl rfl hl.1 rfl (Nat.le_of_ble_eq_true rfl) ⟨Nat.le_of_ble_eq_true rfl, Nat.le_of_ble_eq_true rfl⟩ dX8_run_90 (fun r22 S23 H locs hV hw => ?_)
          exact r_lret C0 rfl hw hV dX8_run_93
def V_X8_run  (p0 : Int64) (p1 : Int32) (S : SS) (post : Int64 → SS → Prop) : Prop :=
  (∀ S1 : SS, S1 = (sI S 20 (0 : Int32)) → (V_X8_in p1.toInt64 (0 : Int64) (100000 : Int64) S1 (fun (r2 : Int32) (S3 : SS) => ((r2 = 0 → (V_X8_refuse (1 : Int32) S3 (fun (r5 : Int64) (S6 : SS) => (post r5 S6)))) ∧ (¬ r2 = 0 → (((gI S3 25) = 0 → (V_X8_refuse (2 : Int32) S3 (fun (r8 : Int64) (S9 : SS) => (post r8 S9)))) ∧ (¬ (gI S3 25) = 0 → (V_X8_isNumber p0 S3 (fun (r10 : Int32) (S11 : SS) => ((r10 = 0 → (V_X8_refuse (4 : Int32) S11 (fun (r13 : Int64) (S14 : SS) => (post r13 S14)))) ∧ (¬ r10 = 0 → (∀ S15 : SS, S15 = (sJ S11 0 p0) → (∃ n57 : Nat, V_X8_run_57  p1  post n57 (0 : Int32) S15)))))))))))))
set_option maxHeartbeats 4000000 in
set_option maxRecDepth 100000 in
theorem c_X8_run  {S : SS} {p0 : Int64} {p1 : Int32} {post : Int64 → SS → Prop} (hV : V_X8_run  p0 p1 S post) : ML l yX8_run wsX8_run rm_X8_run [.ref (ad 48), .long p0, .int p1] D n0 ad cI cJ X S post := by
  refine Met.ofW (cc := cX8_run) (maxL := 6) (ret := (some .long)) (by decide) rfl ?_
  intro p e s m args below meth c s₁ B hml hv
  obtain ⟨rfl, hv⟩ := hv
  have C0 := Bd.mk B hml (atoms_spec (ws := wsX8_run) B.pre) (findClass_of_methodNamed B.named) hv.1
  have hw : Wh D n0 ad cI cJ X S s s.heap [] := ⟨hv.2.1, hv.2.2, va_S.rf⟩
  refine r_entry (Nat.le_of_ble_eq_true rfl) (fun ls hl => ?_)
  have hl : lv_has ls 6 [(0, .ref (ad 48)), (1, .long p0), (3, .int p1)] := hl
  unfold V_X8_run at hV
  refine lv_aload_n C0.x C0.b dX8_run_0 rfl (lv_at hl 0 rfl) ?_
  refine lv_iconst (v := 0) C0.x C0.b dX8_run_1 (by decide) ?_
  refine r_put C0 hw (C := RX8) (T := TX8) (N := 33) (ty := .int) iw_X8_run_X8 tyX8 tyX8_ok nmX8 (lg_48 ad cI cJ X S) rfl 0 (by decide) (C0.ts _ fw_X8_run_61) rfl (by decide +kernel) rfl rfl (Nat.le_of_ble_eq_true rfl) dX8_run_2 (S' := (sI S 20 (0 : Int32))) (ls_48_0 ad cI cJ X S (0 : Int32)) (fun S1 H locs eS1 hw => ?_)
  have hV := hV S1 eS1
  refine lv_iload_n C0.x C0.b dX8_run_5 rfl (lv_at hl 2 rfl) ?_
  refine lv_i2l C0.x C0.b dX8_run_6 rfl ?_
  refine lv_lconst (v := 0) C0.x C0.b dX8_run_7 (by decide) ?_
  refine lv_ldc2 (v := 100000) C0.x C0.b C0.ow (C0.ts _ cw_X8_run_157) dX8_run_8 ?_
  refine r_cS_i (As := [.long p1.toInt64, .long (0 : Int64), .long (100000 : Int64)]) (rest := []) C0 hw (c_X8_in  hV) (va_cwS 3 C0.ts gX8_run_X8_in rfl rfl rfl hd_X8_in ⟨Nat.le_of_ble_eq_true rfl, Nat.le_of_ble_eq_true rfl⟩) rfl hl.1 rfl (Nat.le_of_ble_eq_true rfl) ⟨Nat.le_of_ble_eq_true rfl, Nat.le_of_ble_eq_true rfl⟩ dX8_run_11 (fun r2 S3 H locs hV hw => ?_)
  refine lv_if_ne (tgt := 23) C0.x C0.b dX8_run_14 (by decide) (fun c4 => ?_) (fun c4 => ?_)
  · have hV := hV.2 c4
    refine lv_aload_n C0.x C0.b dX8_run_23 rfl (lv_at hl 0 rfl) ?_
    refine r_get C0 hw (C := RX8) (T := TX8) (N := 33) (v := .int (gI S3 25)) iw_X8_run_X8 (lg_48 ad cI cJ X S3) rfl 7 (by decide) (C0.ts _ fw_X8_run_108) rfl dX8_run_24 ?_
    refine lv_if_ne (tgt := 36) C0.x C0.b dX8_run_27 (by decide) (fun c7 => ?_) (fun c7 => ?_)
    · have hV := hV.2 c7
      refine lv_lload_n C0.x C0.b dX8_run_36 rfl (lv_at hl 1 rfl) ?_
      refine r_cS_i (As := [.long p0]) (rest := []) C0 hw (c_X8_isNumber  hV) (va_cwS 1 C0.ts gX8_run_X8_isNumber rfl rfl rfl hd_X8_isNumber ⟨Nat.le_of_ble_eq_true rfl, Nat.le_of_ble_eq_true rfl⟩) rfl hl.1 rfl (Nat.le_of_ble_eq_true rfl) ⟨Nat.le_of_ble_eq_true rfl, Nat.le_of_ble_eq_true rfl⟩ dX8_run_37 (fun r10 S11 H locs hV hw => ?_)
      refine lv_if_ne (tgt := 49) C0.x C0.b dX8_run_40 (by decide) (fun c12 => ?_) (fun c12 => ?_)
      · have hV := hV.2 c12
        refine lv_aload_n C0.x C0.b dX8_run_49 rfl (lv_at hl 0 rfl) ?_
        refine lv_lload_n C0.x C0.b dX8_run_50 rfl (lv_at hl 1 rfl) ?_
        refine r_put C0 hw (C := RX8) (T := TX8) (N := 33) (ty := .long) iw_X8_run_X8 tyX8 tyX8_ok nmX8 (lg_48 ad cI cJ X S11) rfl 13 (by decide) (C0.ts _ fw_X8_run_146) rfl (by decide +kernel) rfl rfl (Nat.le_of_ble_eq_true rfl) dX8_run_51 (S' := (sJ S11 0 p0)) (ls_48_13 ad cI cJ X S11 p0) (fun S15 H locs eS15 hw => ?_)
        have hV := hV S15 eS15
        refine lv_iconst (v := 0) C0.x C0.b dX8_run_54 (by decide) ?_
        refine lv_istore (lv' := [(4, .int (0 : Int32)), (0, .ref (ad 48)), (1, .long p0), (3, .int p1)]) C0.x C0.b dX8_run_55 hl (by decide) rfl (fun ls hl => ?_)
        obtain ⟨n57, hV⟩ := hV
        exact lp_X8_run_57  _ post C0  n57 _ _ hV _ _ hw _ (lv_sub hl [1, 3, 0] rfl)
      · have hV := hV.1 c12
        refine lv_aload_n C0.x C0.b dX8_run_43 rfl (lv_at hl 0 rfl) ?_
        refine lv_iconst (v := 4) C0.x C0.b dX8_run_44 (by decide) ?_
        refine r_cV_l (As := [.int (4 : Int32)]) (rest := []) C0 hw (c_X8_refuse  hV) (cwV 1 C0.ts gX8_run_X8_refuse rfl rfl rfl hd_X8_refuse ⟨Nat.le_of_ble_eq_true rfl, Nat.le_of_ble_eq_true rfl⟩) (lg_48 ad cI cJ X S11) rfl rfl hl.1 rfl (Nat.le_of_ble_eq_true rfl) ⟨Nat.le_of_ble_eq_true rfl, Nat.le_of_ble_eq_true rfl⟩ dX8_run_45 (fun r13 S14 H locs hV hw => ?_)
        exact r_lret C0 rfl hw hV dX8_run_48
    · have hV := hV.1 c7
      refine lv_aload_n C0.x C0.b dX8_run_30 rfl (lv_at hl 0 rfl) ?_
      refine lv_iconst (v := 2) C0.x C0.b dX8_run_31 (by decide) ?_
      refine r_cV_l (As := [.int (2 : Int32)]) (rest := []) C0 hw (c_X8_refuse  hV) (cwV 1 C0.ts gX8_run_X8_refuse rfl rfl rfl hd_X8_refuse ⟨Nat.le_of_ble_eq_true rfl, Nat.le_of_ble_eq_true rfl⟩) (lg_48 ad cI cJ X S3) rfl rfl hl.1 rfl (Nat.le_of_ble_eq_true rfl) ⟨Nat.le_of_ble_eq_true rfl, Nat.le_of_ble_eq_true rfl⟩ dX8_run_32 (fun r8 S9 H locs hV hw => ?_)
      exact r_lret C0 rfl hw hV dX8_run_35
  · have hV := hV.1 c4
    refine lv_aload_n C0.x C0.b dX8_run_17 rfl (lv_at hl 0 rfl) ?_
    refine lv_iconst (v := 1) C0.x C0.b dX8_run_18 (by decide) ?_
    refine r_cV_l (As := [.int (1 : Int32)]) (rest := []) C0 hw (c_X8_refuse  hV) (cwV 1 C0.ts gX8_run_X8_refuse rfl rfl rfl hd_X8_refuse ⟨Nat.le_of_ble_eq_true rfl, Nat.le_of_ble_eq_true rfl⟩) (lg_48 ad cI cJ X S3) rfl rfl hl.1 rfl (Nat.le_of_ble_eq_true rfl) ⟨Nat.le_of_ble_eq_true rfl, Nat.le_of_ble_eq_true rfl⟩ dX8_run_19 (fun r5 S6 H locs hV hw => ?_)
    exact r_lret C0 rfl hw hV dX8_run_22
/-! StepBenchModel.until(JJI)I -/
abbrev rm_X8_until : Room := { frames := 4, cells := 0, slots := 0, locals := 95 }
set_option maxRecDepth 20000 in
theorem fw_X8_until_61 : Cond.fieldLink RX8 61 "StepBenchModel" "thrown" "I" ∈ wsX8_until := by decide +kernel
set_option maxRecDepth 20000 in
theorem iw_X8_until_X8 : ∀ w ∈ wsX80, w ∈ wsX8_until := by decide +kernel
set_option maxRecDepth 20000 in
theorem fw_X8_until_108 : Cond.fieldLink RX8 108 "StepBenchModel" "sort" "I" ∈ wsX8_until := by decide +kernel
set_option maxRecDepth 20000 in
theorem cw_X8_until_157 : Cond.constantLong RX8 157 100000 ∈ wsX8_until := by decide +kernel
set_option maxRecDepth 20000 in
theorem fw_X8_until_146 : Cond.fieldLink RX8 146 "StepBenchModel" "at" "J" ∈ wsX8_until := by decide +kernel
set_option maxRecDepth 20000 in
theorem hd_X8_until : yX8_until.cls = RX8 ∧ yX8_until.cls ≠ "java/lang/invoke/MethodHandle" ∧ yX8_until.cls ≠ "java/lang/invoke/VarHandle" ∧ (parseMethodDescriptor yX8_until.desc).map (fun d => d.parameters.length) = some 3 := by decide +kernel
def V_X8_until_49  (v3 : Int64) (v5 : Int32)  (post : Int32 → SS → Prop) : Nat → Int32 → SS → Prop
  | 0, _, _ => False
  | n + 1, v6, S =>
    ((v5 < v6 → (post (-2 : Int32) S)) ∧ (¬ v5 < v6 → (((gJ S 0) = v3 → (post v6 S)) ∧ (¬ (gJ S 0) = v3 → ((v5 ≤ v6 → (∀ x16 : Int32, x16 = v6 + 1 → (V_X8_until_49  v3 v5  post n x16 S))) ∧ (¬ v5 ≤ v6 → (V_X8_goes (gJ S 0) S (fun (r17 : Int32) (S18 : SS) => ((r17 = 0 → (∀ x20 : Int32, x20 = v6 + 1 → (V_X8_until_49  v3 v5  post n x20 S18))) ∧ (¬ r17 = 0 → (post (-1 : Int32) S18)))))))))))
set_option maxHeartbeats 4000000 in
set_option maxRecDepth 100000 in
theorem lp_X8_until_49  (v3 : Int64) (v5 : Int32)  (post : Int32 → SS → Prop) (C0 : Bd p s m meth c args cX8_until 7 (some .int) wsX8_until RX8 D n0 cI cJ) : ∀ (n : Nat) (v6 : Int32) (S : SS), V_X8_until_49  v3 v5  post n v6 S → ∀ (H : Heap) (locs : List Loc), Wh D n0 ad cI cJ X S s H locs → ∀ ls : Array Slot, lv_has ls 7 [(0, .ref (ad 48)), (3, .long v3), (5, .int v5), (6, .int v6)] → W p l e rm_X8_until s m args below meth c H locs 0 0 (MQ below (va_Qi post (fun S' t => Wd D n0 ad cI cJ X S' t) (fr n0)) args s 0 0 (fr n0)) (F0 m 49 ls []) := by
  intro n
  induction n with
  | zero => intro v6 S hV; exact False.elim hV
  | succ n ih =>
    intro v6 S hV H locs hw ls hl
    rw [V_X8_until_49] at hV
    refine lv_iload C0.x C0.b dX8_until_49 (lv_at hl 3 rfl) ?_
    refine lv_iload C0.x C0.b dX8_until_51 (lv_at hl 2 rfl) ?_
    refine lv_icmp_gt (tgt := 94) C0.x C0.b dX8_until_53 (by decide) (fun c13 => ?_) (fun c13 => ?_)
    · have hV := hV.1 c13
      refine lv_bipush (v := -2) C0.x C0.b dX8_until_94 (by decide) ?_
      exact r_iret C0 rfl hw hV dX8_until_96
    · have hV := hV.2 c13
      refine lv_aload_n C0.x C0.b dX8_until_56 rfl (lv_at hl 0 rfl) ?_
      refine r_get C0 hw (C := RX8) (T := TX8) (N := 33) (v := .long (gJ S 0)) iw_X8_until_X8 (lg_48 ad cI cJ X S) rfl 13 (by decide) (C0.ts _ fw_X8_until_146) rfl dX8_until_57 ?_
      refine lv_lload_n C0.x C0.b dX8_until_60 rfl (lv_at hl 1 rfl) ?_
      refine r_lcmp C0 dX8_until_61 ?_
      refine lv_if_ne (tgt := 68) C0.x C0.b dX8_until_62 (by decide) (fun c14 => ?_) (fun c14 => ?_)
      · have hV := hV.2 (fun h => c14 ((lc_eq _ _).mpr h))
        refine lv_iload C0.x C0.b dX8_until_68 (lv_at hl 3 rfl) ?_
        refine lv_iload C0.x C0.b dX8_until_70 (lv_at hl 2 rfl) ?_
        refine lv_icmp_ge (tgt := 88) C0.x C0.b dX8_until_72 (by decide) (fun c15 => ?_) (fun c15 => ?_)
        · have hV := hV.1 c15
          obtain ⟨x16, ex16⟩ : ∃ z : Int32, z = v6 + 1 := ⟨_, rfl⟩
          have hV := hV x16 ex16
          refine lv_iinc (v := x16) (lv' := [(6, .int x16), (0, .ref (ad 48)), (3, .long v3), (5, .int v5)]) C0.x C0.b dX8_until_88 hl (k := 3) rfl (by rw [ex16]; rfl) (by decide) rfl (fun ls hl => ?_)
          refine lv_goto (tgt := 49) C0.x C0.b dX8_until_91 (by decide) ?_
          exact ih _ _ hV _ _ hw _ (lv_sub hl [1, 2, 3, 0] rfl)
        · have hV := hV.2 c15
          refine lv_aload_n C0.x C0.b dX8_until_75 rfl (lv_at hl 0 rfl) ?_
          refine lv_aload_n C0.x C0.b dX8_until_76 rfl (lv_at hl 0 rfl) ?_
          refine r_get C0 hw (C := RX8) (T := TX8) (N := 33) (v := .long (gJ S 0)) iw_X8_until_X8 (lg_48 ad cI cJ X S) rfl 13 (by decide) (C0.ts _ fw_X8_until_146) rfl dX8_until_77 ?_
          refine r_cV_i (As := [.long (gJ S 0)]) (rest := []) C0 hw (c_X8_goes  hV) (cwV 1 C0.ts gX8_until_X8_goes rfl rfl rfl hd_X8_goes ⟨Nat.le_of_ble_eq_true rfl, Nat.le_of_ble_eq_true rfl⟩) (lg_48 ad cI cJ X S) rfl rfl hl.1 rfl (Nat.le_of_ble_eq_true rfl) ⟨Nat.le_of_ble_eq_true rfl, Nat.le_of_ble_eq_true rfl⟩ dX8_until_80 (fun r17 S18 H locs hV hw => ?_)
          refine lv_if_eq (tgt := 88) C0.x C0.b dX8_until_83 (by decide) (fun c19 => ?_) (fun c19 => ?_)
          · have hV := hV.1 c19
            obtain ⟨x20, ex20⟩ : ∃ z : Int32, z = v6 + 1 := ⟨_, rfl⟩
            have hV := hV x20 ex20
            refine lv_iinc (v := x20) (lv' := [(6, .int x20), (0, .ref (ad 48)), (3, .long v3), (5, .int v5)]) C0.x C0.b dX8_until_88 hl (k := 3) rfl (by rw [ex20]; rfl) (by decide) rfl (fun ls hl => ?_)
            refine lv_goto (tgt := 49) C0.x C0.b dX8_until_91 (by decide) ?_
            exact ih _ _ hV _ _ hw _ (lv_sub hl [1, 2, 3, 0] rfl)
          · have hV := hV.2 c19
            refine lv_iconst (v := -1) C0.x C0.b dX8_until_86 (by decide) ?_
            exact r_iret C0 rfl hw hV dX8_until_87
      · have hV := hV.1 ((lc_eq _ _).mp c14)
        refine lv_iload C0.x C0.b dX8_until_65 (lv_at hl 3 rfl) ?_
        exact r_iret C0 rfl hw hV dX8_until_67
def V_X8_until  (p0 : Int64) (p1 : Int64) (p2 : Int32) (S : SS) (post : Int32 → SS → Prop) : Prop :=
  (∀ S1 : SS, S1 = (sI S 20 (0 : Int32)) → (((gI S1 25) = 0 → (post (-1 : Int32) S1)) ∧ (¬ (gI S1 25) = 0 → (V_X8_in p2.toInt64 (0 : Int64) (100000 : Int64) S1 (fun (r3 : Int32) (S4 : SS) => ((r3 = 0 → (post (-1 : Int32) S4)) ∧ (¬ r3 = 0 → (V_X8_isNumber p0 S4 (fun (r6 : Int32) (S7 : SS) => ((r6 = 0 → (post (-1 : Int32) S7)) ∧ (¬ r6 = 0 → (V_X8_isNumber p1 S7 (fun (r9 : Int32) (S10 : SS) => ((r9 = 0 → (post (-1 : Int32) S10)) ∧ (¬ r9 = 0 → (∀ S12 : SS, S12 = (sJ S10 0 p0) → (∃ n49 : Nat, V_X8_until_49  p1 p2  post n49 (0 : Int32) S12)))))))))))))))))
set_option maxHeartbeats 4000000 in
set_option maxRecDepth 100000 in
theorem c_X8_until  {S : SS} {p0 : Int64} {p1 : Int64} {p2 : Int32} {post : Int32 → SS → Prop} (hV : V_X8_until  p0 p1 p2 S post) : MI l yX8_until wsX8_until rm_X8_until [.ref (ad 48), .long p0, .long p1, .int p2] D n0 ad cI cJ X S post := by
  refine Met.ofW (cc := cX8_until) (maxL := 7) (ret := (some .int)) (by decide) rfl ?_
  intro p e s m args below meth c s₁ B hml hv
  obtain ⟨rfl, hv⟩ := hv
  have C0 := Bd.mk B hml (atoms_spec (ws := wsX8_until) B.pre) (findClass_of_methodNamed B.named) hv.1
  have hw : Wh D n0 ad cI cJ X S s s.heap [] := ⟨hv.2.1, hv.2.2, va_S.rf⟩
  refine r_entry (Nat.le_of_ble_eq_true rfl) (fun ls hl => ?_)
  have hl : lv_has ls 7 [(0, .ref (ad 48)), (1, .long p0), (3, .long p1), (5, .int p2)] := hl
  unfold V_X8_until at hV
  refine lv_aload_n C0.x C0.b dX8_until_0 rfl (lv_at hl 0 rfl) ?_
  refine lv_iconst (v := 0) C0.x C0.b dX8_until_1 (by decide) ?_
  refine r_put C0 hw (C := RX8) (T := TX8) (N := 33) (ty := .int) iw_X8_until_X8 tyX8 tyX8_ok nmX8 (lg_48 ad cI cJ X S) rfl 0 (by decide) (C0.ts _ fw_X8_until_61) rfl (by decide +kernel) rfl rfl (Nat.le_of_ble_eq_true rfl) dX8_until_2 (S' := (sI S 20 (0 : Int32))) (ls_48_0 ad cI cJ X S (0 : Int32)) (fun S1 H locs eS1 hw => ?_)
  have hV := hV S1 eS1
  refine lv_aload_n C0.x C0.b dX8_until_5 rfl (lv_at hl 0 rfl) ?_
  refine r_get C0 hw (C := RX8) (T := TX8) (N := 33) (v := .int (gI S1 25)) iw_X8_until_X8 (lg_48 ad cI cJ X S1) rfl 7 (by decide) (C0.ts _ fw_X8_until_108) rfl dX8_until_6 ?_
  refine lv_if_eq (tgt := 39) C0.x C0.b dX8_until_9 (by decide) (fun c2 => ?_) (fun c2 => ?_)
  · have hV := hV.1 c2
    refine lv_iconst (v := -1) C0.x C0.b dX8_until_39 (by decide) ?_
    exact r_iret C0 rfl hw hV dX8_until_40
  · have hV := hV.2 c2
    refine lv_iload C0.x C0.b dX8_until_12 (lv_at hl 3 rfl) ?_
    refine lv_i2l C0.x C0.b dX8_until_14 rfl ?_
    refine lv_lconst (v := 0) C0.x C0.b dX8_until_15 (by decide) ?_
    refine lv_ldc2 (v := 100000) C0.x C0.b C0.ow (C0.ts _ cw_X8_until_157) dX8_until_16 ?_
    refine r_cS_i (As := [.long p2.toInt64, .long (0 : Int64), .long (100000 : Int64)]) (rest := []) C0 hw (c_X8_in  hV) (va_cwS 3 C0.ts gX8_until_X8_in rfl rfl rfl hd_X8_in ⟨Nat.le_of_ble_eq_true rfl, Nat.le_of_ble_eq_true rfl⟩) rfl hl.1 rfl (Nat.le_of_ble_eq_true rfl) ⟨Nat.le_of_ble_eq_true rfl, Nat.le_of_ble_eq_true rfl⟩ dX8_until_19 (fun r3 S4 H locs hV hw => ?_)
    refine lv_if_eq (tgt := 39) C0.x C0.b dX8_until_22 (by decide) (fun c5 => ?_) (fun c5 => ?_)
    · have hV := hV.1 c5
      refine lv_iconst (v := -1) C0.x C0.b dX8_until_39 (by decide) ?_
      exact r_iret C0 rfl hw hV dX8_until_40
    · have hV := hV.2 c5
      refine lv_lload_n C0.x C0.b dX8_until_25 rfl (lv_at hl 1 rfl) ?_
      refine r_cS_i (As := [.long p0]) (rest := []) C0 hw (c_X8_isNumber  hV) (va_cwS 1 C0.ts gX8_until_X8_isNumber rfl rfl rfl hd_X8_isNumber ⟨Nat.le_of_ble_eq_true rfl, Nat.le_of_ble_eq_true rfl⟩) rfl hl.1 rfl (Nat.le_of_ble_eq_true rfl) ⟨Nat.le_of_ble_eq_true rfl, Nat.le_of_ble_eq_true rfl⟩ dX8_until_26 (fun r6 S7 H locs hV hw => ?_)
      refine lv_if_eq (tgt := 39) C0.x C0.b dX8_until_29 (by decide) (fun c8 => ?_) (fun c8 => ?_)
      · have hV := hV.1 c8
        refine lv_iconst (v := -1) C0.x C0.b dX8_until_39 (by decide) ?_
        exact r_iret C0 rfl hw hV dX8_until_40
      · have hV := hV.2 c8
        refine lv_lload_n C0.x C0.b dX8_until_32 rfl (lv_at hl 2 rfl) ?_
        refine r_cS_i (As := [.long p1]) (rest := []) C0 hw (c_X8_isNumber  hV) (va_cwS 1 C0.ts gX8_until_X8_isNumber rfl rfl rfl hd_X8_isNumber ⟨Nat.le_of_ble_eq_true rfl, Nat.le_of_ble_eq_true rfl⟩) rfl hl.1 rfl (Nat.le_of_ble_eq_true rfl) ⟨Nat.le_of_ble_eq_true rfl, Nat.le_of_ble_eq_true rfl⟩ dX8_until_33 (fun r9 S10 H locs hV hw => ?_)
        refine lv_if_ne (tgt := 41) C0.x C0.b dX8_until_36 (by decide) (fun c11 => ?_) (fun c11 => ?_)
        · have hV := hV.2 c11
          refine lv_aload_n C0.x C0.b dX8_until_41 rfl (lv_at hl 0 rfl) ?_
          refine lv_lload_n C0.x C0.b dX8_until_42 rfl (lv_at hl 1 rfl) ?_
          refine r_put C0 hw (C := RX8) (T := TX8) (N := 33) (ty := .long) iw_X8_until_X8 tyX8 tyX8_ok nmX8 (lg_48 ad cI cJ X S10) rfl 13 (by decide) (C0.ts _ fw_X8_until_146) rfl (by decide +kernel) rfl rfl (Nat.le_of_ble_eq_true rfl) dX8_until_43 (S' := (sJ S10 0 p0)) (ls_48_13 ad cI cJ X S10 p0) (fun S12 H locs eS12 hw => ?_)
          have hV := hV S12 eS12
          refine lv_iconst (v := 0) C0.x C0.b dX8_until_46 (by decide) ?_
          refine lv_istore (lv' := [(6, .int (0 : Int32)), (0, .ref (ad 48)), (1, .long p0), (3, .long p1), (5, .int p2)]) C0.x C0.b dX8_until_47 hl (by decide) rfl (fun ls hl => ?_)
          obtain ⟨n49, hV⟩ := hV
          exact lp_X8_until_49  _ _ post C0  n49 _ _ hV _ _ hw _ (lv_sub hl [1, 3, 4, 0] rfl)
        · have hV := hV.1 c11
          refine lv_iconst (v := -1) C0.x C0.b dX8_until_39 (by decide) ?_
          exact r_iret C0 rfl hw hV dX8_until_40
/-! StepBenchModel.height(JI)I -/
abbrev rm_X8_height : Room := { frames := 4, cells := 0, slots := 0, locals := 95 }
set_option maxRecDepth 20000 in
theorem fw_X8_height_61 : Cond.fieldLink RX8 61 "StepBenchModel" "thrown" "I" ∈ wsX8_height := by decide +kernel
set_option maxRecDepth 20000 in
theorem iw_X8_height_X8 : ∀ w ∈ wsX80, w ∈ wsX8_height := by decide +kernel
set_option maxRecDepth 20000 in
theorem fw_X8_height_108 : Cond.fieldLink RX8 108 "StepBenchModel" "sort" "I" ∈ wsX8_height := by decide +kernel
set_option maxRecDepth 20000 in
theorem cw_X8_height_157 : Cond.constantLong RX8 157 100000 ∈ wsX8_height := by decide +kernel
set_option maxRecDepth 20000 in
theorem fw_X8_height_146 : Cond.fieldLink RX8 146 "StepBenchModel" "at" "J" ∈ wsX8_height := by decide +kernel
set_option maxRecDepth 20000 in
theorem hd_X8_height : yX8_height.cls = RX8 ∧ yX8_height.cls ≠ "java/lang/invoke/MethodHandle" ∧ yX8_height.cls ≠ "java/lang/invoke/VarHandle" ∧ (parseMethodDescriptor yX8_height.desc).map (fun d => d.parameters.length) = some 2 := by decide +kernel
def V_X8_height_41  (v1 : Int64) (v3 : Int32)  (post : Int32 → SS → Prop) : Nat → Int32 → SS → Prop
  | 0, _, _ => False
  | n + 1, v4, S =>
    ((v3 < v4 → (post (-2 : Int32) S)) ∧ (¬ v3 < v4 → ((v1 ≤ (gJ S 0) → ((v3 ≤ v4 → (∀ x13 : Int32, x13 = v4 + 1 → (V_X8_height_41  v1 v3  post n x13 S))) ∧ (¬ v3 ≤ v4 → (V_X8_goes (gJ S 0) S (fun (r14 : Int32) (S15 : SS) => ((r14 = 0 → (∀ x17 : Int32, x17 = v4 + 1 → (V_X8_height_41  v1 v3  post n x17 S15))) ∧ (¬ r14 = 0 → (post (-1 : Int32) S15)))))))) ∧ (¬ v1 ≤ (gJ S 0) → (post v4 S)))))
set_option maxHeartbeats 4000000 in
set_option maxRecDepth 100000 in
theorem lp_X8_height_41  (v1 : Int64) (v3 : Int32)  (post : Int32 → SS → Prop) (C0 : Bd p s m meth c args cX8_height 5 (some .int) wsX8_height RX8 D n0 cI cJ) : ∀ (n : Nat) (v4 : Int32) (S : SS), V_X8_height_41  v1 v3  post n v4 S → ∀ (H : Heap) (locs : List Loc), Wh D n0 ad cI cJ X S s H locs → ∀ ls : Array Slot, lv_has ls 5 [(0, .ref (ad 48)), (1, .long v1), (3, .int v3), (4, .int v4)] → W p l e rm_X8_height s m args below meth c H locs 0 0 (MQ below (va_Qi post (fun S' t => Wd D n0 ad cI cJ X S' t) (fr n0)) args s 0 0 (fr n0)) (F0 m 41 ls []) := by
  intro n
  induction n with
  | zero => intro v4 S hV; exact False.elim hV
  | succ n ih =>
    intro v4 S hV H locs hw ls hl
    rw [V_X8_height_41] at hV
    refine lv_iload C0.x C0.b dX8_height_41 (lv_at hl 3 rfl) ?_
    refine lv_iload_n C0.x C0.b dX8_height_43 rfl (lv_at hl 2 rfl) ?_
    refine lv_icmp_gt (tgt := 84) C0.x C0.b dX8_height_44 (by decide) (fun c10 => ?_) (fun c10 => ?_)
    · have hV := hV.1 c10
      refine lv_bipush (v := -2) C0.x C0.b dX8_height_84 (by decide) ?_
      exact r_iret C0 rfl hw hV dX8_height_86
    · have hV := hV.2 c10
      refine lv_aload_n C0.x C0.b dX8_height_47 rfl (lv_at hl 0 rfl) ?_
      refine r_get C0 hw (C := RX8) (T := TX8) (N := 33) (v := .long (gJ S 0)) iw_X8_height_X8 (lg_48 ad cI cJ X S) rfl 13 (by decide) (C0.ts _ fw_X8_height_146) rfl dX8_height_48 ?_
      refine lv_lload_n C0.x C0.b dX8_height_51 rfl (lv_at hl 1 rfl) ?_
      refine r_lcmp C0 dX8_height_52 ?_
      refine lv_if_ge (tgt := 59) C0.x C0.b dX8_height_53 (by decide) (fun c11 => ?_) (fun c11 => ?_)
      · have hV := hV.1 ((lc_ge _ _).mp c11)
        refine lv_iload C0.x C0.b dX8_height_59 (lv_at hl 3 rfl) ?_
        refine lv_iload_n C0.x C0.b dX8_height_61 rfl (lv_at hl 2 rfl) ?_
        refine lv_icmp_ge (tgt := 78) C0.x C0.b dX8_height_62 (by decide) (fun c12 => ?_) (fun c12 => ?_)
        · have hV := hV.1 c12
          obtain ⟨x13, ex13⟩ : ∃ z : Int32, z = v4 + 1 := ⟨_, rfl⟩
          have hV := hV x13 ex13
          refine lv_iinc (v := x13) (lv' := [(4, .int x13), (0, .ref (ad 48)), (1, .long v1), (3, .int v3)]) C0.x C0.b dX8_height_78 hl (k := 3) rfl (by rw [ex13]; rfl) (by decide) rfl (fun ls hl => ?_)
          refine lv_goto (tgt := 41) C0.x C0.b dX8_height_81 (by decide) ?_
          exact ih _ _ hV _ _ hw _ (lv_sub hl [1, 2, 3, 0] rfl)
        · have hV := hV.2 c12
          refine lv_aload_n C0.x C0.b dX8_height_65 rfl (lv_at hl 0 rfl) ?_
          refine lv_aload_n C0.x C0.b dX8_height_66 rfl (lv_at hl 0 rfl) ?_
          refine r_get C0 hw (C := RX8) (T := TX8) (N := 33) (v := .long (gJ S 0)) iw_X8_height_X8 (lg_48 ad cI cJ X S) rfl 13 (by decide) (C0.ts _ fw_X8_height_146) rfl dX8_height_67 ?_
          refine r_cV_i (As := [.long (gJ S 0)]) (rest := []) C0 hw (c_X8_goes  hV) (cwV 1 C0.ts gX8_height_X8_goes rfl rfl rfl hd_X8_goes ⟨Nat.le_of_ble_eq_true rfl, Nat.le_of_ble_eq_true rfl⟩) (lg_48 ad cI cJ X S) rfl rfl hl.1 rfl (Nat.le_of_ble_eq_true rfl) ⟨Nat.le_of_ble_eq_true rfl, Nat.le_of_ble_eq_true rfl⟩ dX8_height_70 (fun r14 S15 H locs hV hw => ?_)
          refine lv_if_eq (tgt := 78) C0.x C0.b dX8_height_73 (by decide) (fun c16 => ?_) (fun c16 => ?_)
          · have hV := hV.1 c16
            obtain ⟨x17, ex17⟩ : ∃ z : Int32, z = v4 + 1 := ⟨_, rfl⟩
            have hV := hV x17 ex17
            refine lv_iinc (v := x17) (lv' := [(4, .int x17), (0, .ref (ad 48)), (1, .long v1), (3, .int v3)]) C0.x C0.b dX8_height_78 hl (k := 3) rfl (by rw [ex17]; rfl) (by decide) rfl (fun ls hl => ?_)
            refine lv_goto (tgt := 41) C0.x C0.b dX8_height_81 (by decide) ?_
            exact ih _ _ hV _ _ hw _ (lv_sub hl [1, 2, 3, 0] rfl)
          · have hV := hV.2 c16
            refine lv_iconst (v := -1) C0.x C0.b dX8_height_76 (by decide) ?_
            exact r_iret C0 rfl hw hV dX8_height_77
      · have hV := hV.2 (fun h => c11 ((lc_ge _ _).mpr h))
        refine lv_iload C0.x C0.b dX8_height_56 (lv_at hl 3 rfl) ?_
        exact r_iret C0 rfl hw hV dX8_height_58
def V_X8_height  (p0 : Int64) (p1 : Int32) (S : SS) (post : Int32 → SS → Prop) : Prop :=
  (∀ S1 : SS, S1 = (sI S 20 (0 : Int32)) → (((gI S1 25) = 0 → (post (-1 : Int32) S1)) ∧ (¬ (gI S1 25) = 0 → (V_X8_in p1.toInt64 (0 : Int64) (100000 : Int64) S1 (fun (r3 : Int32) (S4 : SS) => ((r3 = 0 → (post (-1 : Int32) S4)) ∧ (¬ r3 = 0 → (V_X8_isNumber p0 S4 (fun (r6 : Int32) (S7 : SS) => ((r6 = 0 → (post (-1 : Int32) S7)) ∧ (¬ r6 = 0 → (∀ S9 : SS, S9 = (sJ S7 0 p0) → (∃ n41 : Nat, V_X8_height_41  p0 p1  post n41 (0 : Int32) S9)))))))))))))
set_option maxHeartbeats 4000000 in
set_option maxRecDepth 100000 in
theorem c_X8_height  {S : SS} {p0 : Int64} {p1 : Int32} {post : Int32 → SS → Prop} (hV : V_X8_height  p0 p1 S post) : MI l yX8_height wsX8_height rm_X8_height [.ref (ad 48), .long p0, .int p1] D n0 ad cI cJ X S post := by
  refine Met.ofW (cc := cX8_height) (maxL := 5) (ret := (some .int)) (by decide) rfl ?_
  intro p e s m args below meth c s₁ B hml hv
  obtain ⟨rfl, hv⟩ := hv
  have C0 := Bd.mk B hml (atoms_spec (ws := wsX8_height) B.pre) (findClass_of_methodNamed B.named) hv.1
  have hw : Wh D n0 ad cI cJ X S s s.heap [] := ⟨hv.2.1, hv.2.2, va_S.rf⟩
  refine r_entry (Nat.le_of_ble_eq_true rfl) (fun ls hl => ?_)
  have hl : lv_has ls 5 [(0, .ref (ad 48)), (1, .long p0), (3, .int p1)] := hl
  unfold V_X8_height at hV
  refine lv_aload_n C0.x C0.b dX8_height_0 rfl (lv_at hl 0 rfl) ?_
  refine lv_iconst (v := 0) C0.x C0.b dX8_height_1 (by decide) ?_
  refine r_put C0 hw (C := RX8) (T := TX8) (N := 33) (ty := .int) iw_X8_height_X8 tyX8 tyX8_ok nmX8 (lg_48 ad cI cJ X S) rfl 0 (by decide) (C0.ts _ fw_X8_height_61) rfl (by decide +kernel) rfl rfl (Nat.le_of_ble_eq_true rfl) dX8_height_2 (S' := (sI S 20 (0 : Int32))) (ls_48_0 ad cI cJ X S (0 : Int32)) (fun S1 H locs eS1 hw => ?_)
  have hV := hV S1 eS1
  refine lv_aload_n C0.x C0.b dX8_height_5 rfl (lv_at hl 0 rfl) ?_
  refine r_get C0 hw (C := RX8) (T := TX8) (N := 33) (v := .int (gI S1 25)) iw_X8_height_X8 (lg_48 ad cI cJ X S1) rfl 7 (by decide) (C0.ts _ fw_X8_height_108) rfl dX8_height_6 ?_
  refine lv_if_eq (tgt := 31) C0.x C0.b dX8_height_9 (by decide) (fun c2 => ?_) (fun c2 => ?_)
  · have hV := hV.1 c2
    refine lv_iconst (v := -1) C0.x C0.b dX8_height_31 (by decide) ?_
    exact r_iret C0 rfl hw hV dX8_height_32
  · have hV := hV.2 c2
    refine lv_iload_n C0.x C0.b dX8_height_12 rfl (lv_at hl 2 rfl) ?_
    refine lv_i2l C0.x C0.b dX8_height_13 rfl ?_
    refine lv_lconst (v := 0) C0.x C0.b dX8_height_14 (by decide) ?_
    refine lv_ldc2 (v := 100000) C0.x C0.b C0.ow (C0.ts _ cw_X8_height_157) dX8_height_15 ?_
    refine r_cS_i (As := [.long p1.toInt64, .long (0 : Int64), .long (100000 : Int64)]) (rest := []) C0 hw (c_X8_in  hV) (va_cwS 3 C0.ts gX8_height_X8_in rfl rfl rfl hd_X8_in ⟨Nat.le_of_ble_eq_true rfl, Nat.le_of_ble_eq_true rfl⟩) rfl hl.1 rfl (Nat.le_of_ble_eq_true rfl) ⟨Nat.le_of_ble_eq_true rfl, Nat.le_of_ble_eq_true rfl⟩ dX8_height_18 (fun r3 S4 H locs hV hw => ?_)
    refine lv_if_eq (tgt := 31) C0.x C0.b dX8_height_21 (by decide) (fun c5 => ?_) (fun c5 => ?_)
    · have hV := hV.1 c5
      refine lv_iconst (v := -1) C0.x C0.b dX8_height_31 (by decide) ?_
      exact r_iret C0 rfl hw hV dX8_height_32
    · have hV := hV.2 c5
      refine lv_lload_n C0.x C0.b dX8_height_24 rfl (lv_at hl 1 rfl) ?_
      refine r_cS_i (As := [.long p0]) (rest := []) C0 hw (c_X8_isNumber  hV) (va_cwS 1 C0.ts gX8_height_X8_isNumber rfl rfl rfl hd_X8_isNumber ⟨Nat.le_of_ble_eq_true rfl, Nat.le_of_ble_eq_true rfl⟩) rfl hl.1 rfl (Nat.le_of_ble_eq_true rfl) ⟨Nat.le_of_ble_eq_true rfl, Nat.le_of_ble_eq_true rfl⟩ dX8_height_25 (fun r6 S7 H locs hV hw => ?_)
      refine lv_if_ne (tgt := 33) C0.x C0.b dX8_height_28 (by decide) (fun c8 => ?_) (fun c8 => ?_)
      · have hV := hV.2 c8
        refine lv_aload_n C0.x C0.b dX8_height_33 rfl (lv_at hl 0 rfl) ?_
        refine lv_lload_n C0.x C0.b dX8_height_34 rfl (lv_at hl 1 rfl) ?_
        refine r_put C0 hw (C := RX8) (T := TX8) (N := 33) (ty := .long) iw_X8_height_X8 tyX8 tyX8_ok nmX8 (lg_48 ad cI cJ X S7) rfl 13 (by decide) (C0.ts _ fw_X8_height_146) rfl (by decide +kernel) rfl rfl (Nat.le_of_ble_eq_true rfl) dX8_height_35 (S' := (sJ S7 0 p0)) (ls_48_13 ad cI cJ X S7 p0) (fun S9 H locs eS9 hw => ?_)
        have hV := hV S9 eS9
        refine lv_iconst (v := 0) C0.x C0.b dX8_height_38 (by decide) ?_
        refine lv_istore (lv' := [(4, .int (0 : Int32)), (0, .ref (ad 48)), (1, .long p0), (3, .int p1)]) C0.x C0.b dX8_height_39 hl (by decide) rfl (fun ls hl => ?_)
        obtain ⟨n41, hV⟩ := hV
        exact lp_X8_height_41  _ _ post C0  n41 _ _ hV _ _ hw _ (lv_sub hl [1, 2, 3, 0] rfl)
      · have hV := hV.1 c8
        refine lv_iconst (v := -1) C0.x C0.b dX8_height_31 (by decide) ?_
        exact r_iret C0 rfl hw hV dX8_height_32
/-! StepBenchModel.peak(JI)J -/
abbrev rm_X8_peak : Room := { frames := 4, cells := 0, slots := 0, locals := 95 }
set_option maxRecDepth 20000 in
theorem fw_X8_peak_61 : Cond.fieldLink RX8 61 "StepBenchModel" "thrown" "I" ∈ wsX8_peak := by decide +kernel
set_option maxRecDepth 20000 in
theorem iw_X8_peak_X8 : ∀ w ∈ wsX80, w ∈ wsX8_peak := by decide +kernel
set_option maxRecDepth 20000 in
theorem cw_X8_peak_157 : Cond.constantLong RX8 157 100000 ∈ wsX8_peak := by decide +kernel
set_option maxRecDepth 20000 in
theorem fw_X8_peak_108 : Cond.fieldLink RX8 108 "StepBenchModel" "sort" "I" ∈ wsX8_peak := by decide +kernel
set_option maxRecDepth 20000 in
theorem fw_X8_peak_146 : Cond.fieldLink RX8 146 "StepBenchModel" "at" "J" ∈ wsX8_peak := by decide +kernel
set_option maxRecDepth 20000 in
theorem ml_X8_peak_159 : Cond.methodLink RX8 159 Lib.MathLoose.max_long.x ∈ wsX8_peak := by decide +kernel
set_option maxRecDepth 20000 in
theorem ms_X8_peak_159 : Cond.static Lib.MathLoose.max_long.x ∈ wsX8_peak := by decide +kernel
set_option maxRecDepth 20000 in
theorem mi_X8_peak_159 : Cond.initialized "java/lang/Math" ∈ wsX8_peak := by decide +kernel
set_option maxRecDepth 20000 in
theorem mc_X8_peak_159 : Cond.code Lib.MathLoose.max_long.x Lib.MathLoose.max_long.code 4 (some .long) ∈ wsX8_peak := by decide +kernel
set_option maxRecDepth 20000 in
theorem hd_X8_peak : yX8_peak.cls = RX8 ∧ yX8_peak.cls ≠ "java/lang/invoke/MethodHandle" ∧ yX8_peak.cls ≠ "java/lang/invoke/VarHandle" ∧ (parseMethodDescriptor yX8_peak.desc).map (fun d => d.parameters.length) = some 2 := by decide +kernel
def V_X8_peak_60  (v3 : Int32)  (post : Int64 → SS → Prop) : Nat → Int64 → Int32 → SS → Prop
  | 0, _, _, _ => False
  | n + 1, v4, v6, S =>
    ((v3 ≤ v6 → (post v4 S)) ∧ (¬ v3 ≤ v6 → (V_X8_goes (gJ S 0) S (fun (r17 : Int32) (S18 : SS) => ((r17 = 0 → (∀ y20 : Int64, y20 = (mxL v4 (gJ S18 0)) → (∀ x21 : Int32, x21 = v6 + 1 → (V_X8_peak_60  v3  post n y20 x21 S18)))) ∧ (¬ r17 = 0 → (post v4 S18)))))))
set_option maxHeartbeats 4000000 in
set_option maxRecDepth 100000 in
theorem lp_X8_peak_60  (v3 : Int32)  (post : Int64 → SS → Prop) (C0 : Bd p s m meth c args cX8_peak 7 (some .long) wsX8_peak RX8 D n0 cI cJ) : ∀ (n : Nat) (v4 : Int64) (v6 : Int32) (S : SS), V_X8_peak_60  v3  post n v4 v6 S → ∀ (H : Heap) (locs : List Loc), Wh D n0 ad cI cJ X S s H locs → ∀ ls : Array Slot, lv_has ls 7 [(0, .ref (ad 48)), (3, .int v3), (4, .long v4), (6, .int v6)] → W p l e rm_X8_peak s m args below meth c H locs 0 0 (MQ below (va_Ql post (fun S' t => Wd D n0 ad cI cJ X S' t) (fr n0)) args s 0 0 (fr n0)) (F0 m 60 ls []) := by
  intro n
  induction n with
  | zero => intro v4 v6 S hV; exact False.elim hV
  | succ n ih =>
    intro v4 v6 S hV H locs hw ls hl
    rw [V_X8_peak_60] at hV
    refine lv_iload C0.x C0.b dX8_peak_60 (lv_at hl 3 rfl) ?_
    refine lv_iload_n C0.x C0.b dX8_peak_62 rfl (lv_at hl 1 rfl) ?_
    refine lv_icmp_ge (tgt := 94) C0.x C0.b dX8_peak_63 (by decide) (fun c16 => ?_) (fun c16 => ?_)
    · have hV := hV.1 c16
      refine lv_lload C0.x C0.b dX8_peak_94 (lv_at hl 2 rfl) ?_
      exact r_lret C0 rfl hw hV dX8_peak_96
    · have hV := hV.2 c16
      refine lv_aload_n C0.x C0.b dX8_peak_66 rfl (lv_at hl 0 rfl) ?_
      refine lv_aload_n C0.x C0.b dX8_peak_67 rfl (lv_at hl 0 rfl) ?_
      refine r_get C0 hw (C := RX8) (T := TX8) (N := 33) (v := .long (gJ S 0)) iw_X8_peak_X8 (lg_48 ad cI cJ X S) rfl 13 (by decide) (C0.ts _ fw_X8_peak_146) rfl dX8_peak_68 ?_
      refine r_cV_i (As := [.long (gJ S 0)]) (rest := []) C0 hw (c_X8_goes  hV) (cwV 1 C0.ts gX8_peak_X8_goes rfl rfl rfl hd_X8_goes ⟨Nat.le_of_ble_eq_true rfl, Nat.le_of_ble_eq_true rfl⟩) (lg_48 ad cI cJ X S) rfl rfl hl.1 rfl (Nat.le_of_ble_eq_true rfl) ⟨Nat.le_of_ble_eq_true rfl, Nat.le_of_ble_eq_true rfl⟩ dX8_peak_71 (fun r17 S18 H locs hV hw => ?_)
      refine lv_if_ne (tgt := 94) C0.x C0.b dX8_peak_74 (by decide) (fun c19 => ?_) (fun c19 => ?_)
      · have hV := hV.2 c19
        refine lv_lload C0.x C0.b dX8_peak_94 (lv_at hl 2 rfl) ?_
        exact r_lret C0 rfl hw hV dX8_peak_96
      · have hV := hV.1 c19
        refine lv_lload C0.x C0.b dX8_peak_77 (lv_at hl 2 rfl) ?_
        refine lv_aload_n C0.x C0.b dX8_peak_79 rfl (lv_at hl 0 rfl) ?_
        refine r_get C0 hw (C := RX8) (T := TX8) (N := 33) (v := .long (gJ S18 0)) iw_X8_peak_X8 (lg_48 ad cI cJ X S18) rfl 13 (by decide) (C0.ts _ fw_X8_peak_146) rfl dX8_peak_80 ?_
        refine va_mmax_long C0.x C0.b (C0.ml.trans hl.1.symm) C0.ow (C0.ts _ ml_X8_peak_159) (C0.ts _ ms_X8_peak_159) (C0.ts _ mi_X8_peak_159) (C0.ts _ mc_X8_peak_159) (Nat.le_of_ble_eq_true rfl) (Nat.le_of_ble_eq_true rfl) (Nat.le_of_ble_eq_true rfl) (Nat.le_of_ble_eq_true rfl) dX8_peak_83 ?_
        refine lv_topl (fun y20 ey20 => ?_)
        have hV := hV y20 ey20
        refine lv_lstore (lv' := [(4, .long y20), (0, .ref (ad 48)), (3, .int v3), (6, .int v6)]) C0.x C0.b dX8_peak_86 hl (by decide) rfl (fun ls hl => ?_)
        obtain ⟨x21, ex21⟩ : ∃ z : Int32, z = v6 + 1 := ⟨_, rfl⟩
        have hV := hV x21 ex21
        refine lv_iinc (v := x21) (lv' := [(6, .int x21), (4, .long y20), (0, .ref (ad 48)), (3, .int v3)]) C0.x C0.b dX8_peak_88 hl (k := 3) rfl (by rw [ex21]; rfl) (by decide) rfl (fun ls hl => ?_)
        refine lv_goto (tgt := 60) C0.x C0.b dX8_peak_91 (by decide) ?_
        exact ih _ _ _ hV _ _ hw _ (lv_sub hl [2, 3, 1, 0] rfl)
def V_X8_peak  (p0 : Int64) (p1 : Int32) (S : SS) (post : Int64 → SS → Prop) : Prop :=
  (∀ S1 : SS, S1 = (sI S 20 (0 : Int32)) → (V_X8_in p1.toInt64 (0 : Int64) (100000 : Int64) S1 (fun (r2 : Int32) (S3 : SS) => ((r2 = 0 → (V_X8_refuse (1 : Int32) S3 (fun (r5 : Int64) (S6 : SS) => (post r5 S6)))) ∧ (¬ r2 = 0 → (((gI S3 25) = 0 → (V_X8_refuse (2 : Int32) S3 (fun (r8 : Int64) (S9 : SS) => (post r8 S9)))) ∧ (¬ (gI S3 25) = 0 → (V_X8_isNumber p0 S3 (fun (r10 : Int32) (S11 : SS) => ((r10 = 0 → (V_X8_refuse (3 : Int32) S11 (fun (r13 : Int64) (S14 : SS) => (post r13 S14)))) ∧ (¬ r10 = 0 → (∀ S15 : SS, S15 = (sJ S11 0 p0) → (∃ n60 : Nat, V_X8_peak_60  p1  post n60 p0 (0 : Int32) S15)))))))))))))
set_option maxHeartbeats 4000000 in
set_option maxRecDepth 100000 in
theorem c_X8_peak  {S : SS} {p0 : Int64} {p1 : Int32} {post : Int64 → SS → Prop} (hV : V_X8_peak  p0 p1 S post) : ML l yX8_peak wsX8_peak rm_X8_peak [.ref (ad 48), .long p0, .int p1] D n0 ad cI cJ X S post := by
  refine Met.ofW (cc := cX8_peak) (maxL := 7) (ret := (some .long)) (by decide) rfl ?_
  intro p e s m args below meth c s₁ B hml hv
  obtain ⟨rfl, hv⟩ := hv
  have C0 := Bd.mk B hml (atoms_spec (ws := wsX8_peak) B.pre) (findClass_of_methodNamed B.named) hv.1
  have hw : Wh D n0 ad cI cJ X S s s.heap [] := ⟨hv.2.1, hv.2.2, va_S.rf⟩
  refine r_entry (Nat.le_of_ble_eq_true rfl) (fun ls hl => ?_)
  have hl : lv_has ls 7 [(0, .ref (ad 48)), (1, .long p0), (3, .int p1)] := hl
  unfold V_X8_peak at hV
  refine lv_aload_n C0.x C0.b dX8_peak_0 rfl (lv_at hl 0 rfl) ?_
  refine lv_iconst (v := 0) C0.x C0.b dX8_peak_1 (by decide) ?_
  refine r_put C0 hw (C := RX8) (T := TX8) (N := 33) (ty := .int) iw_X8_peak_X8 tyX8 tyX8_ok nmX8 (lg_48 ad cI cJ X S) rfl 0 (by decide) (C0.ts _ fw_X8_peak_61) rfl (by decide +kernel) rfl rfl (Nat.le_of_ble_eq_true rfl) dX8_peak_2 (S' := (sI S 20 (0 : Int32))) (ls_48_0 ad cI cJ X S (0 : Int32)) (fun S1 H locs eS1 hw => ?_)
  have hV := hV S1 eS1
  refine lv_iload_n C0.x C0.b dX8_peak_5 rfl (lv_at hl 2 rfl) ?_
  refine lv_i2l C0.x C0.b dX8_peak_6 rfl ?_
  refine lv_lconst (v := 0) C0.x C0.b dX8_peak_7 (by decide) ?_
  refine lv_ldc2 (v := 100000) C0.x C0.b C0.ow (C0.ts _ cw_X8_peak_157) dX8_peak_8 ?_
  refine r_cS_i (As := [.long p1.toInt64, .long (0 : Int64), .long (100000 : Int64)]) (rest := []) C0 hw (c_X8_in  hV) (va_cwS 3 C0.ts gX8_peak_X8_in rfl rfl rfl hd_X8_in ⟨Nat.le_of_ble_eq_true rfl, Nat.le_of_ble_eq_true rfl⟩) rfl hl.1 rfl (Nat.le_of_ble_eq_true rfl) ⟨Nat.le_of_ble_eq_true rfl, Nat.le_of_ble_eq_true rfl⟩ dX8_peak_11 (fun r2 S3 H locs hV hw => ?_)
  refine lv_if_ne (tgt := 23) C0.x C0.b dX8_peak_14 (by decide) (fun c4 => ?_) (fun c4 => ?_)
  · have hV := hV.2 c4
    refine lv_aload_n C0.x C0.b dX8_peak_23 rfl (lv_at hl 0 rfl) ?_
    refine r_get C0 hw (C := RX8) (T := TX8) (N := 33) (v := .int (gI S3 25)) iw_X8_peak_X8 (lg_48 ad cI cJ X S3) rfl 7 (by decide) (C0.ts _ fw_X8_peak_108) rfl dX8_peak_24 ?_
    refine lv_if_ne (tgt := 36) C0.x C0.b dX8_peak_27 (by decide) (fun c7 => ?_) (fun c7 => ?_)
    · have hV := hV.2 c7
      refine lv_lload_n C0.x C0.b dX8_peak_36 rfl (lv_at hl 1 rfl) ?_
      refine r_cS_i (As := [.long p0]) (rest := []) C0 hw (c_X8_isNumber  hV) (va_cwS 1 C0.ts gX8_peak_X8_isNumber rfl rfl rfl hd_X8_isNumber ⟨Nat.le_of_ble_eq_true rfl, Nat.le_of_ble_eq_true rfl⟩) rfl hl.1 rfl (Nat.le_of_ble_eq_true rfl) ⟨Nat.le_of_ble_eq_true rfl, Nat.le_of_ble_eq_true rfl⟩ dX8_peak_37 (fun r10 S11 H locs hV hw => ?_)
      refine lv_if_ne (tgt := 49) C0.x C0.b dX8_peak_40 (by decide) (fun c12 => ?_) (fun c12 => ?_)
      · have hV := hV.2 c12
        refine lv_lload_n C0.x C0.b dX8_peak_49 rfl (lv_at hl 1 rfl) ?_
        refine lv_lstore (lv' := [(4, .long p0), (0, .ref (ad 48)), (1, .long p0), (3, .int p1)]) C0.x C0.b dX8_peak_50 hl (by decide) rfl (fun ls hl => ?_)
        refine lv_aload_n C0.x C0.b dX8_peak_52 rfl (lv_at hl 1 rfl) ?_
        refine lv_lload_n C0.x C0.b dX8_peak_53 rfl (lv_at hl 2 rfl) ?_
        refine r_put C0 hw (C := RX8) (T := TX8) (N := 33) (ty := .long) iw_X8_peak_X8 tyX8 tyX8_ok nmX8 (lg_48 ad cI cJ X S11) rfl 13 (by decide) (C0.ts _ fw_X8_peak_146) rfl (by decide +kernel) rfl rfl (Nat.le_of_ble_eq_true rfl) dX8_peak_54 (S' := (sJ S11 0 p0)) (ls_48_13 ad cI cJ X S11 p0) (fun S15 H locs eS15 hw => ?_)
        have hV := hV S15 eS15
        refine lv_iconst (v := 0) C0.x C0.b dX8_peak_57 (by decide) ?_
        refine lv_istore (lv' := [(6, .int (0 : Int32)), (4, .long p0), (0, .ref (ad 48)), (1, .long p0), (3, .int p1)]) C0.x C0.b dX8_peak_58 hl (by decide) rfl (fun ls hl => ?_)
        obtain ⟨n60, hV⟩ := hV
        exact lp_X8_peak_60  _ post C0  n60 _ _ _ hV _ _ hw _ (lv_sub hl [2, 4, 1, 0] rfl)
      · have hV := hV.1 c12
        refine lv_aload_n C0.x C0.b dX8_peak_43 rfl (lv_at hl 0 rfl) ?_
        refine lv_iconst (v := 3) C0.x C0.b dX8_peak_44 (by decide) ?_
        refine r_cV_l (As := [.int (3 : Int32)]) (rest := []) C0 hw (c_X8_refuse  hV) (cwV 1 C0.ts gX8_peak_X8_refuse rfl rfl rfl hd_X8_refuse ⟨Nat.le_of_ble_eq_true rfl, Nat.le_of_ble_eq_true rfl⟩) (lg_48 ad cI cJ X S11) rfl rfl hl.1 rfl (Nat.le_of_ble_eq_true rfl) ⟨Nat.le_of_ble_eq_true rfl, Nat.le_of_ble_eq_true rfl⟩ dX8_peak_45 (fun r13 S14 H locs hV hw => ?_)
        exact r_lret C0 rfl hw hV dX8_peak_48
    · have hV := hV.1 c7
      refine lv_aload_n C0.x C0.b dX8_peak_30 rfl (lv_at hl 0 rfl) ?_
      refine lv_iconst (v := 2) C0.x C0.b dX8_peak_31 (by decide) ?_
      refine r_cV_l (As := [.int (2 : Int32)]) (rest := []) C0 hw (c_X8_refuse  hV) (cwV 1 C0.ts gX8_peak_X8_refuse rfl rfl rfl hd_X8_refuse ⟨Nat.le_of_ble_eq_true rfl, Nat.le_of_ble_eq_true rfl⟩) (lg_48 ad cI cJ X S3) rfl rfl hl.1 rfl (Nat.le_of_ble_eq_true rfl) ⟨Nat.le_of_ble_eq_true rfl, Nat.le_of_ble_eq_true rfl⟩ dX8_peak_32 (fun r8 S9 H locs hV hw => ?_)
      exact r_lret C0 rfl hw hV dX8_peak_35
  · have hV := hV.1 c4
    refine lv_aload_n C0.x C0.b dX8_peak_17 rfl (lv_at hl 0 rfl) ?_
    refine lv_iconst (v := 1) C0.x C0.b dX8_peak_18 (by decide) ?_
    refine r_cV_l (As := [.int (1 : Int32)]) (rest := []) C0 hw (c_X8_refuse  hV) (cwV 1 C0.ts gX8_peak_X8_refuse rfl rfl rfl hd_X8_refuse ⟨Nat.le_of_ble_eq_true rfl, Nat.le_of_ble_eq_true rfl⟩) (lg_48 ad cI cJ X S3) rfl rfl hl.1 rfl (Nat.le_of_ble_eq_true rfl) ⟨Nat.le_of_ble_eq_true rfl, Nat.le_of_ble_eq_true rfl⟩ dX8_peak_19 (fun r5 S6 H locs hV hw => ?_)
    exact r_lret C0 rfl hw hV dX8_peak_22
/-! StepBenchModel.tells(I)V -/
abbrev rm_X8_tells : Room := { frames := 1, cells := 0, slots := 0, locals := 24 }
set_option maxRecDepth 20000 in
theorem ml_X8_tells_88 : Cond.methodLink RX8 88 Lib.Math.min.name ∈ wsX8_tells := by decide +kernel
set_option maxRecDepth 20000 in
theorem ms_X8_tells_88 : Cond.static Lib.Math.min.name ∈ wsX8_tells := by decide +kernel
set_option maxRecDepth 20000 in
theorem mi_X8_tells_88 : Cond.initialized "java/lang/Math" ∈ wsX8_tells := by decide +kernel
set_option maxRecDepth 20000 in
theorem mc_X8_tells_88 : Cond.code Lib.Math.min.name Lib.Math.min.code 2 (some .int) ∈ wsX8_tells := by decide +kernel
set_option maxRecDepth 20000 in
theorem fw_X8_tells_124 : Cond.fieldLink RX8 124 "StepBenchModel" "rows" "I" ∈ wsX8_tells := by decide +kernel
set_option maxRecDepth 20000 in
theorem iw_X8_tells_X8 : ∀ w ∈ wsX80, w ∈ wsX8_tells := by decide +kernel
set_option maxRecDepth 20000 in
theorem fw_X8_tells_29 : Cond.fieldLink RX8 29 "StepBenchModel" "row" "[J" ∈ wsX8_tells := by decide +kernel
set_option maxRecDepth 20000 in
theorem fw_X8_tells_32 : Cond.fieldLink RX8 32 "StepBenchModel" "found" "[J" ∈ wsX8_tells := by decide +kernel
set_option maxRecDepth 20000 in
theorem hd_X8_tells : yX8_tells.cls = RX8 ∧ yX8_tells.cls ≠ "java/lang/invoke/MethodHandle" ∧ yX8_tells.cls ≠ "java/lang/invoke/VarHandle" ∧ (parseMethodDescriptor yX8_tells.desc).map (fun d => d.parameters.length) = some 1 := by decide +kernel
def V_X8_tells_13    (post : SS → Prop) : Nat → Int32 → SS → Prop
  | 0, _, _ => False
  | n + 1, v2, S =>
    (((gI S 28) ≤ v2 → (post S)) ∧ (¬ (gI S 28) ≤ v2 → (vp_in v2 20000 ∧ (vp_in v2 1000 ∧ ∀ S4 : SS, S4 = (sA S 35 (vp_updL (gA S 35) v2.toNatClampNeg (gA S 36 v2.toNatClampNeg))) → (∀ x5 : Int32, x5 = v2 + 1 → (V_X8_tells_13    post n x5 S4))))))
set_option maxHeartbeats 4000000 in
set_option maxRecDepth 100000 in
theorem lp_X8_tells_13    (post : SS → Prop) (C0 : Bd p s m meth c args cX8_tells 3 none wsX8_tells RX8 D n0 cI cJ) : ∀ (n : Nat) (v2 : Int32) (S : SS), V_X8_tells_13    post n v2 S → ∀ (H : Heap) (locs : List Loc), Wh D n0 ad cI cJ X S s H locs → ∀ ls : Array Slot, lv_has ls 3 [(0, .ref (ad 48)), (2, .int v2)] → W p l e rm_X8_tells s m args below meth c H locs 0 0 (MQ below (va_Qv post (fun S' t => Wd D n0 ad cI cJ X S' t) (fr n0)) args s 0 0 (fr n0)) (F0 m 13 ls []) := by
  intro n
  induction n with
  | zero => intro v2 S hV; exact False.elim hV
  | succ n ih =>
    intro v2 S hV H locs hw ls hl
    rw [V_X8_tells_13] at hV
    refine lv_iload_n C0.x C0.b dX8_tells_13 rfl (lv_at hl 1 rfl) ?_
    refine lv_aload_n C0.x C0.b dX8_tells_14 rfl (lv_at hl 0 rfl) ?_
    refine r_get C0 hw (C := RX8) (T := TX8) (N := 33) (v := .int (gI S 28)) iw_X8_tells_X8 (lg_48 ad cI cJ X S) rfl 15 (by decide) (C0.ts _ fw_X8_tells_124) rfl dX8_tells_15 ?_
    refine lv_icmp_ge (tgt := 39) C0.x C0.b dX8_tells_18 (by decide) (fun c3 => ?_) (fun c3 => ?_)
    · have hV := hV.1 c3
      exact r_vret C0 rfl hw hV dX8_tells_39
    · have hV := hV.2 c3
      refine lv_aload_n C0.x C0.b dX8_tells_21 rfl (lv_at hl 0 rfl) ?_
      refine r_get C0 hw (C := RX8) (T := TX8) (N := 33) (v := .ref (ad 54)) iw_X8_tells_X8 (lg_48 ad cI cJ X S) rfl 14 (by decide) (C0.ts _ fw_X8_tells_29) rfl dX8_tells_22 ?_
      refine lv_iload_n C0.x C0.b dX8_tells_25 rfl (lv_at hl 1 rfl) ?_
      refine lv_aload_n C0.x C0.b dX8_tells_26 rfl (lv_at hl 0 rfl) ?_
      refine r_get C0 hw (C := RX8) (T := TX8) (N := 33) (v := .ref (ad 55)) iw_X8_tells_X8 (lg_48 ad cI cJ X S) rfl 16 (by decide) (C0.ts _ fw_X8_tells_32) rfl dX8_tells_27 ?_
      refine lv_iload_n C0.x C0.b dX8_tells_30 rfl (lv_at hl 1 rfl) ?_
      refine r_lald C0 hw (lg_55 ad cI cJ X S) hV.1 dX8_tells_31 ?_
      have hV := hV.2
      refine r_last C0 hw (lg_54 ad cI cJ X S) hV.1 dX8_tells_32 (S' := (sA S 35 (vp_updL (gA S 35) v2.toNatClampNeg (gA S 36 v2.toNatClampNeg)))) (ls_54 ad cI cJ X S (vp_updL (gA S 35) v2.toNatClampNeg (gA S 36 v2.toNatClampNeg))) (fun S4 H locs eS4 hw => ?_)
      have hV := hV.2 S4 eS4
      obtain ⟨x5, ex5⟩ : ∃ z : Int32, z = v2 + 1 := ⟨_, rfl⟩
      have hV := hV x5 ex5
      refine lv_iinc (v := x5) (lv' := [(2, .int x5), (0, .ref (ad 48))]) C0.x C0.b dX8_tells_33 hl (k := 1) rfl (by rw [ex5]; rfl) (by decide) rfl (fun ls hl => ?_)
      refine lv_goto (tgt := 13) C0.x C0.b dX8_tells_36 (by decide) ?_
      exact ih _ _ hV _ _ hw _ (lv_sub hl [1, 0] rfl)
def V_X8_tells  (p0 : Int32) (S : SS) (post : SS → Prop) : Prop :=
  (∀ x1 : Int32, x1 = (mnI p0 (1000 : Int32)) → (∀ S2 : SS, S2 = (sI S 28 x1) → (∃ n13 : Nat, V_X8_tells_13    post n13 (0 : Int32) S2)))
set_option maxHeartbeats 4000000 in
set_option maxRecDepth 100000 in
theorem c_X8_tells  {S : SS} {p0 : Int32} {post : SS → Prop} (hV : V_X8_tells  p0 S post) : MV l yX8_tells wsX8_tells rm_X8_tells [.ref (ad 48), .int p0] D n0 ad cI cJ X S post := by
  refine Met.ofW (cc := cX8_tells) (maxL := 3) (ret := none) (by decide) rfl ?_
  intro p e s m args below meth c s₁ B hml hv
  obtain ⟨rfl, hv⟩ := hv
  have C0 := Bd.mk B hml (atoms_spec (ws := wsX8_tells) B.pre) (findClass_of_methodNamed B.named) hv.1
  have hw : Wh D n0 ad cI cJ X S s s.heap [] := ⟨hv.2.1, hv.2.2, va_S.rf⟩
  refine r_entry (Nat.le_of_ble_eq_true rfl) (fun ls hl => ?_)
  have hl : lv_has ls 3 [(0, .ref (ad 48)), (1, .int p0)] := hl
  unfold V_X8_tells at hV
  refine lv_aload_n C0.x C0.b dX8_tells_0 rfl (lv_at hl 0 rfl) ?_
  refine lv_iload_n C0.x C0.b dX8_tells_1 rfl (lv_at hl 1 rfl) ?_
  refine lv_sipush (v := 1000) C0.x C0.b dX8_tells_2 (by decide) ?_
  refine va_mmin C0.x C0.b (C0.ml.trans hl.1.symm) C0.ow (C0.ts _ ml_X8_tells_88) (C0.ts _ ms_X8_tells_88) (C0.ts _ mi_X8_tells_88) (C0.ts _ mc_X8_tells_88) (Nat.le_of_ble_eq_true rfl) (Nat.le_of_ble_eq_true rfl) (Nat.le_of_ble_eq_true rfl) (Nat.le_of_ble_eq_true rfl) dX8_tells_5 ?_
  refine lv_topi (fun x1 ex1 => ?_)
  have hV := hV x1 ex1
  refine r_put C0 hw (C := RX8) (T := TX8) (N := 33) (ty := .int) iw_X8_tells_X8 tyX8 tyX8_ok nmX8 (lg_48 ad cI cJ X S) rfl 15 (by decide) (C0.ts _ fw_X8_tells_124) rfl (by decide +kernel) rfl rfl (Nat.le_of_ble_eq_true rfl) dX8_tells_8 (S' := (sI S 28 x1)) (ls_48_15 ad cI cJ X S x1) (fun S2 H locs eS2 hw => ?_)
  have hV := hV S2 eS2
  refine lv_iconst (v := 0) C0.x C0.b dX8_tells_11 (by decide) ?_
  refine lv_istore_n (lv' := [(2, .int (0 : Int32)), (0, .ref (ad 48)), (1, .int p0)]) C0.x C0.b dX8_tells_12 rfl hl (by decide) rfl (fun ls hl => ?_)
  obtain ⟨n13, hV⟩ := hV
  exact lp_X8_tells_13   post C0  n13 _ _ hV _ _ hw _ (lv_sub hl [1, 0] rfl)
/-! StepBenchModel.word(JI)I -/
abbrev rm_X8_word : Room := { frames := 4, cells := 0, slots := 0, locals := 95 }
set_option maxRecDepth 20000 in
theorem fw_X8_word_61 : Cond.fieldLink RX8 61 "StepBenchModel" "thrown" "I" ∈ wsX8_word := by decide +kernel
set_option maxRecDepth 20000 in
theorem iw_X8_word_X8 : ∀ w ∈ wsX80, w ∈ wsX8_word := by decide +kernel
set_option maxRecDepth 20000 in
theorem fw_X8_word_108 : Cond.fieldLink RX8 108 "StepBenchModel" "sort" "I" ∈ wsX8_word := by decide +kernel
set_option maxRecDepth 20000 in
theorem cw_X8_word_162 : Cond.constantLong RX8 162 40 ∈ wsX8_word := by decide +kernel
set_option maxRecDepth 20000 in
theorem fw_X8_word_146 : Cond.fieldLink RX8 146 "StepBenchModel" "at" "J" ∈ wsX8_word := by decide +kernel
set_option maxRecDepth 20000 in
theorem fw_X8_word_32 : Cond.fieldLink RX8 32 "StepBenchModel" "found" "[J" ∈ wsX8_word := by decide +kernel
set_option maxRecDepth 20000 in
theorem hd_X8_word : yX8_word.cls = RX8 ∧ yX8_word.cls ≠ "java/lang/invoke/MethodHandle" ∧ yX8_word.cls ≠ "java/lang/invoke/VarHandle" ∧ (parseMethodDescriptor yX8_word.desc).map (fun d => d.parameters.length) = some 2 := by decide +kernel
def V_X8_word_41  (v3 : Int32)  (post : Int32 → SS → Prop) : Nat → Int32 → SS → Prop
  | 0, _, _ => False
  | n + 1, v4, S =>
    ((v3 ≤ v4 → (V_X8_tells v4 S (fun (S12 : SS) => (post v4 S12)))) ∧ (¬ v3 ≤ v4 → (V_X8_way (gJ S 0) S (fun (r13 : Int32) (S14 : SS) => ((0 ≤ r13 → (vp_in v4 20000 ∧ ∀ S16 : SS, S16 = (sA S14 36 (vp_updL (gA S14 36) v4.toNatClampNeg r13.toInt64)) → (∀ x17 : Int32, x17 = v4 + 1 → ((v3 ≤ x17 → (V_X8_word_41  v3  post n x17 S16)) ∧ (¬ v3 ≤ x17 → (V_X8_goes (gJ S16 0) S16 (fun (r19 : Int32) (S20 : SS) => ((r19 = (2 : Int32) → (post (-1 : Int32) S20)) ∧ (¬ r19 = (2 : Int32) → (V_X8_word_41  v3  post n x17 S20)))))))))) ∧ (¬ 0 ≤ r13 → (V_X8_tells v4 S14 (fun (S23 : SS) => (post v4 S23)))))))))
set_option maxHeartbeats 4000000 in
set_option maxRecDepth 100000 in
theorem lp_X8_word_41  (v3 : Int32)  (post : Int32 → SS → Prop) (C0 : Bd p s m meth c args cX8_word 6 (some .int) wsX8_word RX8 D n0 cI cJ) : ∀ (n : Nat) (v4 : Int32) (S : SS), V_X8_word_41  v3  post n v4 S → ∀ (H : Heap) (locs : List Loc), Wh D n0 ad cI cJ X S s H locs → ∀ ls : Array Slot, lv_has ls 6 [(0, .ref (ad 48)), (3, .int v3), (4, .int v4)] → W p l e rm_X8_word s m args below meth c H locs 0 0 (MQ below (va_Qi post (fun S' t => Wd D n0 ad cI cJ X S' t) (fr n0)) args s 0 0 (fr n0)) (F0 m 41 ls []) := by
  intro n
  induction n with
  | zero => intro v4 S hV; exact False.elim hV
  | succ n ih =>
    intro v4 S hV H locs hw ls hl
    rw [V_X8_word_41] at hV
    refine lv_iload C0.x C0.b dX8_word_41 (lv_at hl 2 rfl) ?_
    refine lv_iload_n C0.x C0.b dX8_word_43 rfl (lv_at hl 1 rfl) ?_
    refine lv_icmp_ge (tgt := 101) C0.x C0.b dX8_word_44 (by decide) (fun c10 => ?_) (fun c10 => ?_)
    · have hV := hV.1 c10
      refine lv_aload_n C0.x C0.b dX8_word_101 rfl (lv_at hl 0 rfl) ?_
      refine lv_iload C0.x C0.b dX8_word_102 (lv_at hl 2 rfl) ?_
      refine r_cV_v (As := [.int v4]) (rest := []) C0 hw (c_X8_tells  hV) (cwV 1 C0.ts gX8_word_X8_tells rfl rfl rfl hd_X8_tells ⟨Nat.le_of_ble_eq_true rfl, Nat.le_of_ble_eq_true rfl⟩) (lg_48 ad cI cJ X S) rfl rfl hl.1 rfl (Nat.le_of_ble_eq_true rfl) ⟨Nat.le_of_ble_eq_true rfl, Nat.le_of_ble_eq_true rfl⟩ dX8_word_104 (fun S12 H locs hV hw => ?_)
      refine lv_iload C0.x C0.b dX8_word_107 (lv_at hl 2 rfl) ?_
      exact r_iret C0 rfl hw hV dX8_word_109
    · have hV := hV.2 c10
      refine lv_aload_n C0.x C0.b dX8_word_47 rfl (lv_at hl 0 rfl) ?_
      refine lv_aload_n C0.x C0.b dX8_word_48 rfl (lv_at hl 0 rfl) ?_
      refine r_get C0 hw (C := RX8) (T := TX8) (N := 33) (v := .long (gJ S 0)) iw_X8_word_X8 (lg_48 ad cI cJ X S) rfl 13 (by decide) (C0.ts _ fw_X8_word_146) rfl dX8_word_49 ?_
      refine r_cV_i (As := [.long (gJ S 0)]) (rest := []) C0 hw (c_X8_way  hV) (cwV 1 C0.ts gX8_word_X8_way rfl rfl rfl hd_X8_way ⟨Nat.le_of_ble_eq_true rfl, Nat.le_of_ble_eq_true rfl⟩) (lg_48 ad cI cJ X S) rfl rfl hl.1 rfl (Nat.le_of_ble_eq_true rfl) ⟨Nat.le_of_ble_eq_true rfl, Nat.le_of_ble_eq_true rfl⟩ dX8_word_52 (fun r13 S14 H locs hV hw => ?_)
      refine lv_istore (lv' := [(5, .int r13), (0, .ref (ad 48)), (3, .int v3), (4, .int v4)]) C0.x C0.b dX8_word_55 hl (by decide) rfl (fun ls hl => ?_)
      refine lv_iload C0.x C0.b dX8_word_57 (lv_at hl 0 rfl) ?_
      refine lv_if_ge (tgt := 65) C0.x C0.b dX8_word_59 (by decide) (fun c15 => ?_) (fun c15 => ?_)
      · have hV := hV.1 c15
        refine lv_aload_n C0.x C0.b dX8_word_65 rfl (lv_at hl 1 rfl) ?_
        refine r_get C0 hw (C := RX8) (T := TX8) (N := 33) (v := .ref (ad 55)) iw_X8_word_X8 (lg_48 ad cI cJ X S14) rfl 16 (by decide) (C0.ts _ fw_X8_word_32) rfl dX8_word_66 ?_
        refine lv_iload C0.x C0.b dX8_word_69 (lv_at hl 3 rfl) ?_
        refine lv_iload C0.x C0.b dX8_word_71 (lv_at hl 0 rfl) ?_
        refine lv_i2l C0.x C0.b dX8_word_73 rfl ?_
        refine r_last C0 hw (lg_55 ad cI cJ X S14) hV.1 dX8_word_74 (S' := (sA S14 36 (vp_updL (gA S14 36) v4.toNatClampNeg r13.toInt64))) (ls_55 ad cI cJ X S14 (vp_updL (gA S14 36) v4.toNatClampNeg r13.toInt64)) (fun S16 H locs eS16 hw => ?_)
        have hV := hV.2 S16 eS16
        obtain ⟨x17, ex17⟩ : ∃ z : Int32, z = v4 + 1 := ⟨_, rfl⟩
        have hV := hV x17 ex17
        refine lv_iinc (v := x17) (lv' := [(4, .int x17), (5, .int r13), (0, .ref (ad 48)), (3, .int v3)]) C0.x C0.b dX8_word_75 hl (k := 3) rfl (by rw [ex17]; rfl) (by decide) rfl (fun ls hl => ?_)
        refine lv_iload C0.x C0.b dX8_word_78 (lv_at hl 0 rfl) ?_
        refine lv_iload_n C0.x C0.b dX8_word_80 rfl (lv_at hl 3 rfl) ?_
        refine lv_icmp_ge (tgt := 98) C0.x C0.b dX8_word_81 (by decide) (fun c18 => ?_) (fun c18 => ?_)
        · have hV := hV.1 c18
          refine lv_goto (tgt := 41) C0.x C0.b dX8_word_98 (by decide) ?_
          exact ih _ _ hV _ _ hw _ (lv_sub hl [2, 3, 0] rfl)
        · have hV := hV.2 c18
          refine lv_aload_n C0.x C0.b dX8_word_84 rfl (lv_at hl 2 rfl) ?_
          refine lv_aload_n C0.x C0.b dX8_word_85 rfl (lv_at hl 2 rfl) ?_
          refine r_get C0 hw (C := RX8) (T := TX8) (N := 33) (v := .long (gJ S16 0)) iw_X8_word_X8 (lg_48 ad cI cJ X S16) rfl 13 (by decide) (C0.ts _ fw_X8_word_146) rfl dX8_word_86 ?_
          refine r_cV_i (As := [.long (gJ S16 0)]) (rest := []) C0 hw (c_X8_goes  hV) (cwV 1 C0.ts gX8_word_X8_goes rfl rfl rfl hd_X8_goes ⟨Nat.le_of_ble_eq_true rfl, Nat.le_of_ble_eq_true rfl⟩) (lg_48 ad cI cJ X S16) rfl rfl hl.1 rfl (Nat.le_of_ble_eq_true rfl) ⟨Nat.le_of_ble_eq_true rfl, Nat.le_of_ble_eq_true rfl⟩ dX8_word_89 (fun r19 S20 H locs hV hw => ?_)
          refine lv_iconst (v := 2) C0.x C0.b dX8_word_92 (by decide) ?_
          refine lv_icmp_ne (tgt := 98) C0.x C0.b dX8_word_93 (by decide) (fun c21 => ?_) (fun c21 => ?_)
          · have hV := hV.2 c21
            refine lv_goto (tgt := 41) C0.x C0.b dX8_word_98 (by decide) ?_
            exact ih _ _ hV _ _ hw _ (lv_sub hl [2, 3, 0] rfl)
          · have hV := hV.1 c21
            refine lv_iconst (v := -1) C0.x C0.b dX8_word_96 (by decide) ?_
            exact r_iret C0 rfl hw hV dX8_word_97
      · have hV := hV.2 c15
        refine lv_goto (tgt := 101) C0.x C0.b dX8_word_62 (by decide) ?_
        refine lv_aload_n C0.x C0.b dX8_word_101 rfl (lv_at hl 1 rfl) ?_
        refine lv_iload C0.x C0.b dX8_word_102 (lv_at hl 3 rfl) ?_
        refine r_cV_v (As := [.int v4]) (rest := []) C0 hw (c_X8_tells  hV) (cwV 1 C0.ts gX8_word_X8_tells rfl rfl rfl hd_X8_tells ⟨Nat.le_of_ble_eq_true rfl, Nat.le_of_ble_eq_true rfl⟩) (lg_48 ad cI cJ X S14) rfl rfl hl.1 rfl (Nat.le_of_ble_eq_true rfl) ⟨Nat.le_of_ble_eq_true rfl, Nat.le_of_ble_eq_true rfl⟩ dX8_word_104 (fun S23 H locs hV hw => ?_)
        refine lv_iload C0.x C0.b dX8_word_107 (lv_at hl 3 rfl) ?_
        exact r_iret C0 rfl hw hV dX8_word_109
def V_X8_word  (p0 : Int64) (p1 : Int32) (S : SS) (post : Int32 → SS → Prop) : Prop :=
  (∀ S1 : SS, S1 = (sI S 20 (0 : Int32)) → (((gI S1 25) = 0 → (post (-1 : Int32) S1)) ∧ (¬ (gI S1 25) = 0 → (V_X8_isNumber p0 S1 (fun (r3 : Int32) (S4 : SS) => ((r3 = 0 → (post (-1 : Int32) S4)) ∧ (¬ r3 = 0 → (V_X8_in p1.toInt64 (1 : Int64) (40 : Int64) S4 (fun (r6 : Int32) (S7 : SS) => ((r6 = 0 → (post (-1 : Int32) S7)) ∧ (¬ r6 = 0 → (∀ S9 : SS, S9 = (sJ S7 0 p0) → (∃ n41 : Nat, V_X8_word_41  p1  post n41 (0 : Int32) S9)))))))))))))
set_option maxHeartbeats 4000000 in
set_option maxRecDepth 100000 in
theorem c_X8_word  {S : SS} {p0 : Int64} {p1 : Int32} {post : Int32 → SS → Prop} (hV : V_X8_word  p0 p1 S post) : MI l yX8_word wsX8_word rm_X8_word [.ref (ad 48), .long p0, .int p1] D n0 ad cI cJ X S post := by
  refine Met.ofW (cc := cX8_word) (maxL := 6) (ret := (some .int)) (by decide) rfl ?_
  intro p e s m args below meth c s₁ B hml hv
  obtain ⟨rfl, hv⟩ := hv
  have C0 := Bd.mk B hml (atoms_spec (ws := wsX8_word) B.pre) (findClass_of_methodNamed B.named) hv.1
  have hw : Wh D n0 ad cI cJ X S s s.heap [] := ⟨hv.2.1, hv.2.2, va_S.rf⟩
  refine r_entry (Nat.le_of_ble_eq_true rfl) (fun ls hl => ?_)
  have hl : lv_has ls 6 [(0, .ref (ad 48)), (1, .long p0), (3, .int p1)] := hl
  unfold V_X8_word at hV
  refine lv_aload_n C0.x C0.b dX8_word_0 rfl (lv_at hl 0 rfl) ?_
  refine lv_iconst (v := 0) C0.x C0.b dX8_word_1 (by decide) ?_
  refine r_put C0 hw (C := RX8) (T := TX8) (N := 33) (ty := .int) iw_X8_word_X8 tyX8 tyX8_ok nmX8 (lg_48 ad cI cJ X S) rfl 0 (by decide) (C0.ts _ fw_X8_word_61) rfl (by decide +kernel) rfl rfl (Nat.le_of_ble_eq_true rfl) dX8_word_2 (S' := (sI S 20 (0 : Int32))) (ls_48_0 ad cI cJ X S (0 : Int32)) (fun S1 H locs eS1 hw => ?_)
  have hV := hV S1 eS1
  refine lv_aload_n C0.x C0.b dX8_word_5 rfl (lv_at hl 0 rfl) ?_
  refine r_get C0 hw (C := RX8) (T := TX8) (N := 33) (v := .int (gI S1 25)) iw_X8_word_X8 (lg_48 ad cI cJ X S1) rfl 7 (by decide) (C0.ts _ fw_X8_word_108) rfl dX8_word_6 ?_
  refine lv_if_eq (tgt := 31) C0.x C0.b dX8_word_9 (by decide) (fun c2 => ?_) (fun c2 => ?_)
  · have hV := hV.1 c2
    refine lv_iconst (v := -1) C0.x C0.b dX8_word_31 (by decide) ?_
    exact r_iret C0 rfl hw hV dX8_word_32
  · have hV := hV.2 c2
    refine lv_lload_n C0.x C0.b dX8_word_12 rfl (lv_at hl 1 rfl) ?_
    refine r_cS_i (As := [.long p0]) (rest := []) C0 hw (c_X8_isNumber  hV) (va_cwS 1 C0.ts gX8_word_X8_isNumber rfl rfl rfl hd_X8_isNumber ⟨Nat.le_of_ble_eq_true rfl, Nat.le_of_ble_eq_true rfl⟩) rfl hl.1 rfl (Nat.le_of_ble_eq_true rfl) ⟨Nat.le_of_ble_eq_true rfl, Nat.le_of_ble_eq_true rfl⟩ dX8_word_13 (fun r3 S4 H locs hV hw => ?_)
    refine lv_if_eq (tgt := 31) C0.x C0.b dX8_word_16 (by decide) (fun c5 => ?_) (fun c5 => ?_)
    · have hV := hV.1 c5
      refine lv_iconst (v := -1) C0.x C0.b dX8_word_31 (by decide) ?_
      exact r_iret C0 rfl hw hV dX8_word_32
    · have hV := hV.2 c5
      refine lv_iload_n C0.x C0.b dX8_word_19 rfl (lv_at hl 2 rfl) ?_
      refine lv_i2l C0.x C0.b dX8_word_20 rfl ?_
      refine lv_lconst (v := 1) C0.x C0.b dX8_word_21 (by decide) ?_
      refine lv_ldc2 (v := 40) C0.x C0.b C0.ow (C0.ts _ cw_X8_word_162) dX8_word_22 ?_
      refine r_cS_i (As := [.long p1.toInt64, .long (1 : Int64), .long (40 : Int64)]) (rest := []) C0 hw (c_X8_in  hV) (va_cwS 3 C0.ts gX8_word_X8_in rfl rfl rfl hd_X8_in ⟨Nat.le_of_ble_eq_true rfl, Nat.le_of_ble_eq_true rfl⟩) rfl hl.1 rfl (Nat.le_of_ble_eq_true rfl) ⟨Nat.le_of_ble_eq_true rfl, Nat.le_of_ble_eq_true rfl⟩ dX8_word_25 (fun r6 S7 H locs hV hw => ?_)
      refine lv_if_ne (tgt := 33) C0.x C0.b dX8_word_28 (by decide) (fun c8 => ?_) (fun c8 => ?_)
      · have hV := hV.2 c8
        refine lv_aload_n C0.x C0.b dX8_word_33 rfl (lv_at hl 0 rfl) ?_
        refine lv_lload_n C0.x C0.b dX8_word_34 rfl (lv_at hl 1 rfl) ?_
        refine r_put C0 hw (C := RX8) (T := TX8) (N := 33) (ty := .long) iw_X8_word_X8 tyX8 tyX8_ok nmX8 (lg_48 ad cI cJ X S7) rfl 13 (by decide) (C0.ts _ fw_X8_word_146) rfl (by decide +kernel) rfl rfl (Nat.le_of_ble_eq_true rfl) dX8_word_35 (S' := (sJ S7 0 p0)) (ls_48_13 ad cI cJ X S7 p0) (fun S9 H locs eS9 hw => ?_)
        have hV := hV S9 eS9
        refine lv_iconst (v := 0) C0.x C0.b dX8_word_38 (by decide) ?_
        refine lv_istore (lv' := [(4, .int (0 : Int32)), (0, .ref (ad 48)), (1, .long p0), (3, .int p1)]) C0.x C0.b dX8_word_39 hl (by decide) rfl (fun ls hl => ?_)
        obtain ⟨n41, hV⟩ := hV
        exact lp_X8_word_41  _ post C0  n41 _ _ hV _ _ hw _ (lv_sub hl [1, 3, 0] rfl)
      · have hV := hV.1 c8
        refine lv_iconst (v := -1) C0.x C0.b dX8_word_31 (by decide) ?_
        exact r_iret C0 rfl hw hV dX8_word_32
/-! StepBenchModel.row(I)J -/
abbrev rm_X8_row : Room := { frames := 1, cells := 0, slots := 0, locals := 25 }
set_option maxRecDepth 20000 in
theorem fw_X8_row_61 : Cond.fieldLink RX8 61 "StepBenchModel" "thrown" "I" ∈ wsX8_row := by decide +kernel
set_option maxRecDepth 20000 in
theorem iw_X8_row_X8 : ∀ w ∈ wsX80, w ∈ wsX8_row := by decide +kernel
set_option maxRecDepth 20000 in
theorem fw_X8_row_124 : Cond.fieldLink RX8 124 "StepBenchModel" "rows" "I" ∈ wsX8_row := by decide +kernel
set_option maxRecDepth 20000 in
theorem fw_X8_row_29 : Cond.fieldLink RX8 29 "StepBenchModel" "row" "[J" ∈ wsX8_row := by decide +kernel
set_option maxRecDepth 20000 in
theorem hd_X8_row : yX8_row.cls = RX8 ∧ yX8_row.cls ≠ "java/lang/invoke/MethodHandle" ∧ yX8_row.cls ≠ "java/lang/invoke/VarHandle" ∧ (parseMethodDescriptor yX8_row.desc).map (fun d => d.parameters.length) = some 1 := by decide +kernel
def V_X8_row  (p0 : Int32) (S : SS) (post : Int64 → SS → Prop) : Prop :=
  (∀ S1 : SS, S1 = (sI S 20 (0 : Int32)) → (V_X8_in p0.toInt64 (0 : Int64) (((gI S1 28) - (1 : Int32)).toInt64) S1 (fun (r2 : Int32) (S3 : SS) => ((r2 = 0 → (V_X8_refuse (1 : Int32) S3 (fun (r5 : Int64) (S6 : SS) => (post r5 S6)))) ∧ (¬ r2 = 0 → (vp_in p0 1000 ∧ (post (gA S3 35 p0.toNatClampNeg) S3)))))))
set_option maxHeartbeats 4000000 in
set_option maxRecDepth 100000 in
theorem c_X8_row  {S : SS} {p0 : Int32} {post : Int64 → SS → Prop} (hV : V_X8_row  p0 S post) : ML l yX8_row wsX8_row rm_X8_row [.ref (ad 48), .int p0] D n0 ad cI cJ X S post := by
  refine Met.ofW (cc := cX8_row) (maxL := 2) (ret := (some .long)) (by decide) rfl ?_
  intro p e s m args below meth c s₁ B hml hv
  obtain ⟨rfl, hv⟩ := hv
  have C0 := Bd.mk B hml (atoms_spec (ws := wsX8_row) B.pre) (findClass_of_methodNamed B.named) hv.1
  have hw : Wh D n0 ad cI cJ X S s s.heap [] := ⟨hv.2.1, hv.2.2, va_S.rf⟩
  refine r_entry (Nat.le_of_ble_eq_true rfl) (fun ls hl => ?_)
  have hl : lv_has ls 2 [(0, .ref (ad 48)), (1, .int p0)] := hl
  unfold V_X8_row at hV
  refine lv_aload_n C0.x C0.b dX8_row_0 rfl (lv_at hl 0 rfl) ?_
  refine lv_iconst (v := 0) C0.x C0.b dX8_row_1 (by decide) ?_
  refine r_put C0 hw (C := RX8) (T := TX8) (N := 33) (ty := .int) iw_X8_row_X8 tyX8 tyX8_ok nmX8 (lg_48 ad cI cJ X S) rfl 0 (by decide) (C0.ts _ fw_X8_row_61) rfl (by decide +kernel) rfl rfl (Nat.le_of_ble_eq_true rfl) dX8_row_2 (S' := (sI S 20 (0 : Int32))) (ls_48_0 ad cI cJ X S (0 : Int32)) (fun S1 H locs eS1 hw => ?_)
  have hV := hV S1 eS1
  refine lv_iload_n C0.x C0.b dX8_row_5 rfl (lv_at hl 1 rfl) ?_
  refine lv_i2l C0.x C0.b dX8_row_6 rfl ?_
  refine lv_lconst (v := 0) C0.x C0.b dX8_row_7 (by decide) ?_
  refine lv_aload_n C0.x C0.b dX8_row_8 rfl (lv_at hl 0 rfl) ?_
  refine r_get C0 hw (C := RX8) (T := TX8) (N := 33) (v := .int (gI S1 28)) iw_X8_row_X8 (lg_48 ad cI cJ X S1) rfl 15 (by decide) (C0.ts _ fw_X8_row_124) rfl dX8_row_9 ?_
  refine lv_iconst (v := 1) C0.x C0.b dX8_row_12 (by decide) ?_
  refine lv_isub C0.x C0.b dX8_row_13 ?_
  refine lv_i2l C0.x C0.b dX8_row_14 rfl ?_
  refine r_cS_i (As := [.long p0.toInt64, .long (0 : Int64), .long ((gI S1 28) - (1 : Int32)).toInt64]) (rest := []) C0 hw (c_X8_in  hV) (va_cwS 3 C0.ts gX8_row_X8_in rfl rfl rfl hd_X8_in ⟨Nat.le_of_ble_eq_true rfl, Nat.le_of_ble_eq_true rfl⟩) rfl hl.1 rfl (Nat.le_of_ble_eq_true rfl) ⟨Nat.le_of_ble_eq_true rfl, Nat.le_of_ble_eq_true rfl⟩ dX8_row_15 (fun r2 S3 H locs hV hw => ?_)
  refine lv_if_eq (tgt := 30) C0.x C0.b dX8_row_18 (by decide) (fun c4 => ?_) (fun c4 => ?_)
  · have hV := hV.1 c4
    refine lv_aload_n C0.x C0.b dX8_row_30 rfl (lv_at hl 0 rfl) ?_
    refine lv_iconst (v := 1) C0.x C0.b dX8_row_31 (by decide) ?_
    refine r_cV_l (As := [.int (1 : Int32)]) (rest := []) C0 hw (c_X8_refuse  hV) (cwV 1 C0.ts gX8_row_X8_refuse rfl rfl rfl hd_X8_refuse ⟨Nat.le_of_ble_eq_true rfl, Nat.le_of_ble_eq_true rfl⟩) (lg_48 ad cI cJ X S3) rfl rfl hl.1 rfl (Nat.le_of_ble_eq_true rfl) ⟨Nat.le_of_ble_eq_true rfl, Nat.le_of_ble_eq_true rfl⟩ dX8_row_32 (fun r5 S6 H locs hV hw => ?_)
    exact r_lret C0 rfl hw hV dX8_row_35
  · have hV := hV.2 c4
    refine lv_aload_n C0.x C0.b dX8_row_21 rfl (lv_at hl 0 rfl) ?_
    refine r_get C0 hw (C := RX8) (T := TX8) (N := 33) (v := .ref (ad 54)) iw_X8_row_X8 (lg_48 ad cI cJ X S3) rfl 14 (by decide) (C0.ts _ fw_X8_row_29) rfl dX8_row_22 ?_
    refine lv_iload_n C0.x C0.b dX8_row_25 rfl (lv_at hl 1 rfl) ?_
    refine r_lald C0 hw (lg_54 ad cI cJ X S3) hV.1 dX8_row_26 ?_
    have hV := hV.2
    refine lv_goto (tgt := 35) C0.x C0.b dX8_row_27 (by decide) ?_
    exact r_lret C0 rfl hw hV dX8_row_35
/-! StepBenchModel.rest(I)I -/
abbrev rm_X8_rest : Room := { frames := 1, cells := 0, slots := 0, locals := 25 }
set_option maxRecDepth 20000 in
theorem fw_X8_rest_61 : Cond.fieldLink RX8 61 "StepBenchModel" "thrown" "I" ∈ wsX8_rest := by decide +kernel
set_option maxRecDepth 20000 in
theorem iw_X8_rest_X8 : ∀ w ∈ wsX80, w ∈ wsX8_rest := by decide +kernel
set_option maxRecDepth 20000 in
theorem cw_X8_rest_168 : Cond.constantLong RX8 168 63 ∈ wsX8_rest := by decide +kernel
set_option maxRecDepth 20000 in
theorem fw_X8_rest_127 : Cond.fieldLink RX8 127 "StepBenchModel" "words" "I" ∈ wsX8_rest := by decide +kernel
set_option maxRecDepth 20000 in
theorem fw_X8_rest_35 : Cond.fieldLink RX8 35 "StepBenchModel" "word" "[I" ∈ wsX8_rest := by decide +kernel
set_option maxRecDepth 20000 in
theorem hd_X8_rest : yX8_rest.cls = RX8 ∧ yX8_rest.cls ≠ "java/lang/invoke/MethodHandle" ∧ yX8_rest.cls ≠ "java/lang/invoke/VarHandle" ∧ (parseMethodDescriptor yX8_rest.desc).map (fun d => d.parameters.length) = some 1 := by decide +kernel
def V_X8_rest  (p0 : Int32) (S : SS) (post : Int32 → SS → Prop) : Prop :=
  (∀ S1 : SS, S1 = (sI S 20 (0 : Int32)) → (V_X8_in p0.toInt64 (0 : Int64) (63 : Int64) S1 (fun (r2 : Int32) (S3 : SS) => ((r2 = 0 → (post (-1 : Int32) S3)) ∧ (¬ r2 = 0 → (((gI S3 29) = (40 : Int32) → (post (-1 : Int32) S3)) ∧ (¬ (gI S3 29) = (40 : Int32) → (vp_in (gI S3 29) 40 ∧ ∀ S6 : SS, S6 = (sB S3 0 (upd (gB S3 0) (gI S3 29).toNatClampNeg p0)) → (∀ S7 : SS, S7 = (sI S6 29 ((gI S6 29) + (1 : Int32))) → (post (gI S7 29) S7))))))))))
set_option maxHeartbeats 4000000 in
set_option maxRecDepth 100000 in
theorem c_X8_rest  {S : SS} {p0 : Int32} {post : Int32 → SS → Prop} (hV : V_X8_rest  p0 S post) : MI l yX8_rest wsX8_rest rm_X8_rest [.ref (ad 48), .int p0] D n0 ad cI cJ X S post := by
  refine Met.ofW (cc := cX8_rest) (maxL := 2) (ret := (some .int)) (by decide) rfl ?_
  intro p e s m args below meth c s₁ B hml hv
  obtain ⟨rfl, hv⟩ := hv
  have C0 := Bd.mk B hml (atoms_spec (ws := wsX8_rest) B.pre) (findClass_of_methodNamed B.named) hv.1
  have hw : Wh D n0 ad cI cJ X S s s.heap [] := ⟨hv.2.1, hv.2.2, va_S.rf⟩
  refine r_entry (Nat.le_of_ble_eq_true rfl) (fun ls hl => ?_)
  have hl : lv_has ls 2 [(0, .ref (ad 48)), (1, .int p0)] := hl
  unfold V_X8_rest at hV
  refine lv_aload_n C0.x C0.b dX8_rest_0 rfl (lv_at hl 0 rfl) ?_
  refine lv_iconst (v := 0) C0.x C0.b dX8_rest_1 (by decide) ?_
  refine r_put C0 hw (C := RX8) (T := TX8) (N := 33) (ty := .int) iw_X8_rest_X8 tyX8 tyX8_ok nmX8 (lg_48 ad cI cJ X S) rfl 0 (by decide) (C0.ts _ fw_X8_rest_61) rfl (by decide +kernel) rfl rfl (Nat.le_of_ble_eq_true rfl) dX8_rest_2 (S' := (sI S 20 (0 : Int32))) (ls_48_0 ad cI cJ X S (0 : Int32)) (fun S1 H locs eS1 hw => ?_)
  have hV := hV S1 eS1
  refine lv_iload_n C0.x C0.b dX8_rest_5 rfl (lv_at hl 1 rfl) ?_
  refine lv_i2l C0.x C0.b dX8_rest_6 rfl ?_
  refine lv_lconst (v := 0) C0.x C0.b dX8_rest_7 (by decide) ?_
  refine lv_ldc2 (v := 63) C0.x C0.b C0.ow (C0.ts _ cw_X8_rest_168) dX8_rest_8 ?_
  refine r_cS_i (As := [.long p0.toInt64, .long (0 : Int64), .long (63 : Int64)]) (rest := []) C0 hw (c_X8_in  hV) (va_cwS 3 C0.ts gX8_rest_X8_in rfl rfl rfl hd_X8_in ⟨Nat.le_of_ble_eq_true rfl, Nat.le_of_ble_eq_true rfl⟩) rfl hl.1 rfl (Nat.le_of_ble_eq_true rfl) ⟨Nat.le_of_ble_eq_true rfl, Nat.le_of_ble_eq_true rfl⟩ dX8_rest_11 (fun r2 S3 H locs hV hw => ?_)
  refine lv_if_eq (tgt := 26) C0.x C0.b dX8_rest_14 (by decide) (fun c4 => ?_) (fun c4 => ?_)
  · have hV := hV.1 c4
    refine lv_iconst (v := -1) C0.x C0.b dX8_rest_26 (by decide) ?_
    exact r_iret C0 rfl hw hV dX8_rest_27
  · have hV := hV.2 c4
    refine lv_aload_n C0.x C0.b dX8_rest_17 rfl (lv_at hl 0 rfl) ?_
    refine r_get C0 hw (C := RX8) (T := TX8) (N := 33) (v := .int (gI S3 29)) iw_X8_rest_X8 (lg_48 ad cI cJ X S3) rfl 18 (by decide) (C0.ts _ fw_X8_rest_127) rfl dX8_rest_18 ?_
    refine lv_bipush (v := 40) C0.x C0.b dX8_rest_21 (by decide) ?_
    refine lv_icmp_ne (tgt := 28) C0.x C0.b dX8_rest_23 (by decide) (fun c5 => ?_) (fun c5 => ?_)
    · have hV := hV.2 c5
      refine lv_aload_n C0.x C0.b dX8_rest_28 rfl (lv_at hl 0 rfl) ?_
      refine r_get C0 hw (C := RX8) (T := TX8) (N := 33) (v := .ref (ad 56)) iw_X8_rest_X8 (lg_48 ad cI cJ X S3) rfl 17 (by decide) (C0.ts _ fw_X8_rest_35) rfl dX8_rest_29 ?_
      refine lv_aload_n C0.x C0.b dX8_rest_32 rfl (lv_at hl 0 rfl) ?_
      refine r_get C0 hw (C := RX8) (T := TX8) (N := 33) (v := .int (gI S3 29)) iw_X8_rest_X8 (lg_48 ad cI cJ X S3) rfl 18 (by decide) (C0.ts _ fw_X8_rest_127) rfl dX8_rest_33 ?_
      refine lv_iload_n C0.x C0.b dX8_rest_36 rfl (lv_at hl 1 rfl) ?_
      refine r_iast C0 hw (lg_56 ad cI cJ X S3) hV.1 dX8_rest_37 (S' := (sB S3 0 (upd (gB S3 0) (gI S3 29).toNatClampNeg p0))) (ls_56 ad cI cJ X S3 (upd (gB S3 0) (gI S3 29).toNatClampNeg p0)) (fun S6 H locs eS6 hw => ?_)
      have hV := hV.2 S6 eS6
      refine lv_aload_n C0.x C0.b dX8_rest_38 rfl (lv_at hl 0 rfl) ?_
      refine lv_dup C0.x C0.b dX8_rest_39 rfl ?_
      refine r_get C0 hw (C := RX8) (T := TX8) (N := 33) (v := .int (gI S6 29)) iw_X8_rest_X8 (lg_48 ad cI cJ X S6) rfl 18 (by decide) (C0.ts _ fw_X8_rest_127) rfl dX8_rest_40 ?_
      refine lv_iconst (v := 1) C0.x C0.b dX8_rest_43 (by decide) ?_
      refine lv_iadd C0.x C0.b dX8_rest_44 ?_
      refine r_put C0 hw (C := RX8) (T := TX8) (N := 33) (ty := .int) iw_X8_rest_X8 tyX8 tyX8_ok nmX8 (lg_48 ad cI cJ X S6) rfl 18 (by decide) (C0.ts _ fw_X8_rest_127) rfl (by decide +kernel) rfl rfl (Nat.le_of_ble_eq_true rfl) dX8_rest_45 (S' := (sI S6 29 ((gI S6 29) + (1 : Int32)))) (ls_48_18 ad cI cJ X S6 ((gI S6 29) + (1 : Int32))) (fun S7 H locs eS7 hw => ?_)
      have hV := hV S7 eS7
      refine lv_aload_n C0.x C0.b dX8_rest_48 rfl (lv_at hl 0 rfl) ?_
      refine r_get C0 hw (C := RX8) (T := TX8) (N := 33) (v := .int (gI S7 29)) iw_X8_rest_X8 (lg_48 ad cI cJ X S7) rfl 18 (by decide) (C0.ts _ fw_X8_rest_127) rfl dX8_rest_49 ?_
      exact r_iret C0 rfl hw hV dX8_rest_52
    · have hV := hV.1 c5
      refine lv_iconst (v := -1) C0.x C0.b dX8_rest_26 (by decide) ?_
      exact r_iret C0 rfl hw hV dX8_rest_27
/-! StepBenchModel.clear()I -/
abbrev rm_X8_clear : Room := { frames := 0, cells := 0, slots := 0, locals := 0 }
set_option maxRecDepth 20000 in
theorem fw_X8_clear_61 : Cond.fieldLink RX8 61 "StepBenchModel" "thrown" "I" ∈ wsX8_clear := by decide +kernel
set_option maxRecDepth 20000 in
theorem iw_X8_clear_X8 : ∀ w ∈ wsX80, w ∈ wsX8_clear := by decide +kernel
set_option maxRecDepth 20000 in
theorem fw_X8_clear_127 : Cond.fieldLink RX8 127 "StepBenchModel" "words" "I" ∈ wsX8_clear := by decide +kernel
set_option maxRecDepth 20000 in
theorem hd_X8_clear : yX8_clear.cls = RX8 ∧ yX8_clear.cls ≠ "java/lang/invoke/MethodHandle" ∧ yX8_clear.cls ≠ "java/lang/invoke/VarHandle" ∧ (parseMethodDescriptor yX8_clear.desc).map (fun d => d.parameters.length) = some 0 := by decide +kernel
def V_X8_clear   (S : SS) (post : Int32 → SS → Prop) : Prop :=
  (∀ S1 : SS, S1 = (sI S 20 (0 : Int32)) → (∀ S2 : SS, S2 = (sI S1 29 (0 : Int32)) → (post (gI S1 29) S2)))
set_option maxHeartbeats 4000000 in
set_option maxRecDepth 100000 in
theorem c_X8_clear  {S : SS}  {post : Int32 → SS → Prop} (hV : V_X8_clear   S post) : MI l yX8_clear wsX8_clear rm_X8_clear [.ref (ad 48)] D n0 ad cI cJ X S post := by
  refine Met.ofW (cc := cX8_clear) (maxL := 2) (ret := (some .int)) (by decide) rfl ?_
  intro p e s m args below meth c s₁ B hml hv
  obtain ⟨rfl, hv⟩ := hv
  have C0 := Bd.mk B hml (atoms_spec (ws := wsX8_clear) B.pre) (findClass_of_methodNamed B.named) hv.1
  have hw : Wh D n0 ad cI cJ X S s s.heap [] := ⟨hv.2.1, hv.2.2, va_S.rf⟩
  refine r_entry (Nat.le_of_ble_eq_true rfl) (fun ls hl => ?_)
  have hl : lv_has ls 2 [(0, .ref (ad 48))] := hl
  unfold V_X8_clear at hV
  refine lv_aload_n C0.x C0.b dX8_clear_0 rfl (lv_at hl 0 rfl) ?_
  refine lv_iconst (v := 0) C0.x C0.b dX8_clear_1 (by decide) ?_
  refine r_put C0 hw (C := RX8) (T := TX8) (N := 33) (ty := .int) iw_X8_clear_X8 tyX8 tyX8_ok nmX8 (lg_48 ad cI cJ X S) rfl 0 (by decide) (C0.ts _ fw_X8_clear_61) rfl (by decide +kernel) rfl rfl (Nat.le_of_ble_eq_true rfl) dX8_clear_2 (S' := (sI S 20 (0 : Int32))) (ls_48_0 ad cI cJ X S (0 : Int32)) (fun S1 H locs eS1 hw => ?_)
  have hV := hV S1 eS1
  refine lv_aload_n C0.x C0.b dX8_clear_5 rfl (lv_at hl 0 rfl) ?_
  refine r_get C0 hw (C := RX8) (T := TX8) (N := 33) (v := .int (gI S1 29)) iw_X8_clear_X8 (lg_48 ad cI cJ X S1) rfl 18 (by decide) (C0.ts _ fw_X8_clear_127) rfl dX8_clear_6 ?_
  refine lv_istore_n (lv' := [(1, .int (gI S1 29)), (0, .ref (ad 48))]) C0.x C0.b dX8_clear_9 rfl hl (by decide) rfl (fun ls hl => ?_)
  refine lv_aload_n C0.x C0.b dX8_clear_10 rfl (lv_at hl 1 rfl) ?_
  refine lv_iconst (v := 0) C0.x C0.b dX8_clear_11 (by decide) ?_
  refine r_put C0 hw (C := RX8) (T := TX8) (N := 33) (ty := .int) iw_X8_clear_X8 tyX8 tyX8_ok nmX8 (lg_48 ad cI cJ X S1) rfl 18 (by decide) (C0.ts _ fw_X8_clear_127) rfl (by decide +kernel) rfl rfl (Nat.le_of_ble_eq_true rfl) dX8_clear_12 (S' := (sI S1 29 (0 : Int32))) (ls_48_18 ad cI cJ X S1 (0 : Int32)) (fun S2 H locs eS2 hw => ?_)
  have hV := hV S2 eS2
  refine lv_iload_n C0.x C0.b dX8_clear_15 rfl (lv_at hl 0 rfl) ?_
  exact r_iret C0 rfl hw hV dX8_clear_16
/-! StepBenchModel.shaped([II)Z -/
abbrev rm_X8_shaped : Room := { frames := 2, cells := 0, slots := 0, locals := 46 }
set_option maxRecDepth 20000 in
theorem fw_X8_shaped_170 : Cond.fieldLink RX8 170 "StepBenchModel" "shapeA" "J" ∈ wsX8_shaped := by decide +kernel
set_option maxRecDepth 20000 in
theorem iw_X8_shaped_X8 : ∀ w ∈ wsX80, w ∈ wsX8_shaped := by decide +kernel
set_option maxRecDepth 20000 in
theorem fw_X8_shaped_173 : Cond.fieldLink RX8 173 "StepBenchModel" "shapeB" "J" ∈ wsX8_shaped := by decide +kernel
set_option maxRecDepth 20000 in
theorem fw_X8_shaped_176 : Cond.fieldLink RX8 176 "StepBenchModel" "shapeD" "J" ∈ wsX8_shaped := by decide +kernel
set_option maxRecDepth 20000 in
theorem fw_X8_shaped_20 : Cond.fieldLink RX8 20 "StepBenchModel" "rule" "[J" ∈ wsX8_shaped := by decide +kernel
set_option maxRecDepth 20000 in
theorem hd_X8_shaped : yX8_shaped.cls = RX8 ∧ yX8_shaped.cls ≠ "java/lang/invoke/MethodHandle" ∧ yX8_shaped.cls ≠ "java/lang/invoke/VarHandle" ∧ (parseMethodDescriptor yX8_shaped.desc).map (fun d => d.parameters.length) = some 2 := by decide +kernel
def V_X8_shaped_17 (bi0 L0 : Nat) (v2 : Int32)  (post : Int32 → SS → Prop) : Nat → Int32 → SS → Prop
  | 0, _, _ => False
  | n + 1, v3, S =>
    ((v2 ≤ v3 → (post (1 : Int32) S)) ∧ (¬ v2 ≤ v3 → (vp_in v3 L0 ∧ (vp_in ((3 : Int32) * (gB S bi0 v3.toNatClampNeg)) 192 ∧ (vp_in v3 L0 ∧ (vp_in (((3 : Int32) * (gB S bi0 v3.toNatClampNeg)) + (1 : Int32)) 192 ∧ (vp_in v3 L0 ∧ (vp_in (((3 : Int32) * (gB S bi0 v3.toNatClampNeg)) + (2 : Int32)) 192 ∧ (∀ S5 : SS, S5 = (sJ S 2 (((gA S 32 ((3 : Int32) * (gB S bi0 v3.toNatClampNeg)).toNatClampNeg) * (gJ S 2)) + ((gA S 32 (((3 : Int32) * (gB S bi0 v3.toNatClampNeg)) + (1 : Int32)).toNatClampNeg) * (gJ S 3)))) → (∀ S6 : SS, S6 = (sJ S5 1 ((gA S 32 ((3 : Int32) * (gB S bi0 v3.toNatClampNeg)).toNatClampNeg) * (gJ S5 1))) → (∀ S7 : SS, S7 = (sJ S6 3 ((gA S 32 (((3 : Int32) * (gB S bi0 v3.toNatClampNeg)) + (2 : Int32)).toNatClampNeg) * (gJ S6 3))) → (V_X8_common (gJ S7 1) (gJ S7 2) S7 (fun (r8 : Int64) (S9 : SS) => (V_X8_common r8 (gJ S9 3) S9 (fun (r10 : Int64) (S11 : SS) => (¬ r10 = 0 ∧ (∀ S12 : SS, S12 = (sJ S11 1 ((gJ S11 1) / r10)) → (¬ r10 = 0 ∧ (∀ S13 : SS, S13 = (sJ S12 2 ((gJ S12 2) / r10)) → (¬ r10 = 0 ∧ (∀ S14 : SS, S14 = (sJ S13 3 ((gJ S13 3) / r10)) → (V_X8_isNumber (gJ S14 1) S14 (fun (r15 : Int32) (S16 : SS) => ((r15 = 0 → (post (0 : Int32) S16)) ∧ (¬ r15 = 0 → (V_X8_isNumber (gJ S16 2) S16 (fun (r18 : Int32) (S19 : SS) => ((r18 = 0 → (post (0 : Int32) S19)) ∧ (¬ r18 = 0 → (V_X8_isNumber (gJ S19 3) S19 (fun (r21 : Int32) (S22 : SS) => ((r21 = 0 → (post (0 : Int32) S22)) ∧ (¬ r21 = 0 → (∀ x24 : Int32, x24 = v3 + 1 → (V_X8_shaped_17 bi0 L0 v2  post n x24 S22)))))))))))))))))))))))))))))))))))
set_option maxHeartbeats 4000000 in
set_option maxRecDepth 100000 in
theorem lp_X8_shaped_17 {pa0 bi0 L0 : Nat} (hO0 : lnB ad cI cJ X pa0 bi0 L0) (v2 : Int32)  (post : Int32 → SS → Prop) (C0 : Bd p s m meth c args cX8_shaped 12 (some .boolean) wsX8_shaped RX8 D n0 cI cJ) : ∀ (n : Nat) (v3 : Int32) (S : SS), V_X8_shaped_17 bi0 L0 v2  post n v3 S → ∀ (H : Heap) (locs : List Loc), Wh D n0 ad cI cJ X S s H locs → ∀ ls : Array Slot, lv_has ls 12 [(0, .ref (ad 48)), (1, .ref (ad pa0)), (2, .int v2), (3, .int v3)] → W p l e rm_X8_shaped s m args below meth c H locs 0 0 (MQ below (va_Qi post (fun S' t => Wd D n0 ad cI cJ X S' t) (fr n0)) args s 0 0 (fr n0)) (F0 m 17 ls []) := by
  intro n
  induction n with
  | zero => intro v3 S hV; exact False.elim hV
  | succ n ih =>
    intro v3 S hV H locs hw ls hl
    rw [V_X8_shaped_17] at hV
    refine lv_iload_n C0.x C0.b dX8_shaped_17 rfl (lv_at hl 3 rfl) ?_
    refine lv_iload_n C0.x C0.b dX8_shaped_18 rfl (lv_at hl 2 rfl) ?_
    refine lv_icmp_ge (tgt := 194) C0.x C0.b dX8_shaped_19 (by decide) (fun c4 => ?_) (fun c4 => ?_)
    · have hV := hV.1 c4
      refine lv_iconst (v := 1) C0.x C0.b dX8_shaped_194 (by decide) ?_
      exact r_zret C0 rfl bz_1 hw hV dX8_shaped_195
    · have hV := hV.2 c4
      refine lv_aload_n C0.x C0.b dX8_shaped_22 rfl (lv_at hl 0 rfl) ?_
      refine r_get C0 hw (C := RX8) (T := TX8) (N := 33) (v := .ref (ad 51)) iw_X8_shaped_X8 (lg_48 ad cI cJ X S) rfl 9 (by decide) (C0.ts _ fw_X8_shaped_20) rfl dX8_shaped_23 ?_
      refine lv_iconst (v := 3) C0.x C0.b dX8_shaped_26 (by decide) ?_
      refine lv_aload_n C0.x C0.b dX8_shaped_27 rfl (lv_at hl 1 rfl) ?_
      refine lv_iload_n C0.x C0.b dX8_shaped_28 rfl (lv_at hl 3 rfl) ?_
      refine r_iald C0 hw (hO0 S).1 hV.1 dX8_shaped_29 ?_
      have hV := hV.2
      refine lv_imul C0.x C0.b dX8_shaped_30 ?_
      refine r_lald C0 hw (lg_51 ad cI cJ X S) hV.1 dX8_shaped_31 ?_
      have hV := hV.2
      refine lv_lstore (lv' := [(4, .long (gA S 32 ((3 : Int32) * (gB S bi0 v3.toNatClampNeg)).toNatClampNeg)), (0, .ref (ad 48)), (1, .ref (ad pa0)), (2, .int v2), (3, .int v3)]) C0.x C0.b dX8_shaped_32 hl (by decide) rfl (fun ls hl => ?_)
      refine lv_aload_n C0.x C0.b dX8_shaped_34 rfl (lv_at hl 1 rfl) ?_
      refine r_get C0 hw (C := RX8) (T := TX8) (N := 33) (v := .ref (ad 51)) iw_X8_shaped_X8 (lg_48 ad cI cJ X S) rfl 9 (by decide) (C0.ts _ fw_X8_shaped_20) rfl dX8_shaped_35 ?_
      refine lv_iconst (v := 3) C0.x C0.b dX8_shaped_38 (by decide) ?_
      refine lv_aload_n C0.x C0.b dX8_shaped_39 rfl (lv_at hl 2 rfl) ?_
      refine lv_iload_n C0.x C0.b dX8_shaped_40 rfl (lv_at hl 4 rfl) ?_
      refine r_iald C0 hw (hO0 S).1 hV.1 dX8_shaped_41 ?_
      have hV := hV.2
      refine lv_imul C0.x C0.b dX8_shaped_42 ?_
      refine lv_iconst (v := 1) C0.x C0.b dX8_shaped_43 (by decide) ?_
      refine lv_iadd C0.x C0.b dX8_shaped_44 ?_
      refine r_lald C0 hw (lg_51 ad cI cJ X S) hV.1 dX8_shaped_45 ?_
      have hV := hV.2
      refine lv_lstore (lv' := [(6, .long (gA S 32 (((3 : Int32) * (gB S bi0 v3.toNatClampNeg)) + (1 : Int32)).toNatClampNeg)), (4, .long (gA S 32 ((3 : Int32) * (gB S bi0 v3.toNatClampNeg)).toNatClampNeg)), (0, .ref (ad 48)), (1, .ref (ad pa0)), (2, .int v2), (3, .int v3)]) C0.x C0.b dX8_shaped_46 hl (by decide) rfl (fun ls hl => ?_)
      refine lv_aload_n C0.x C0.b dX8_shaped_48 rfl (lv_at hl 2 rfl) ?_
      refine r_get C0 hw (C := RX8) (T := TX8) (N := 33) (v := .ref (ad 51)) iw_X8_shaped_X8 (lg_48 ad cI cJ X S) rfl 9 (by decide) (C0.ts _ fw_X8_shaped_20) rfl dX8_shaped_49 ?_
      refine lv_iconst (v := 3) C0.x C0.b dX8_shaped_52 (by decide) ?_
      refine lv_aload_n C0.x C0.b dX8_shaped_53 rfl (lv_at hl 3 rfl) ?_
      refine lv_iload_n C0.x C0.b dX8_shaped_54 rfl (lv_at hl 5 rfl) ?_
      refine r_iald C0 hw (hO0 S).1 hV.1 dX8_shaped_55 ?_
      have hV := hV.2
      refine lv_imul C0.x C0.b dX8_shaped_56 ?_
      refine lv_iconst (v := 2) C0.x C0.b dX8_shaped_57 (by decide) ?_
      refine lv_iadd C0.x C0.b dX8_shaped_58 ?_
      refine r_lald C0 hw (lg_51 ad cI cJ X S) hV.1 dX8_shaped_59 ?_
      have hV := hV.2
      refine lv_lstore (lv' := [(8, .long (gA S 32 (((3 : Int32) * (gB S bi0 v3.toNatClampNeg)) + (2 : Int32)).toNatClampNeg)), (6, .long (gA S 32 (((3 : Int32) * (gB S bi0 v3.toNatClampNeg)) + (1 : Int32)).toNatClampNeg)), (4, .long (gA S 32 ((3 : Int32) * (gB S bi0 v3.toNatClampNeg)).toNatClampNeg)), (0, .ref (ad 48)), (1, .ref (ad pa0)), (2, .int v2), (3, .int v3)]) C0.x C0.b dX8_shaped_60 hl (by decide) rfl (fun ls hl => ?_)
      refine lv_aload_n C0.x C0.b dX8_shaped_62 rfl (lv_at hl 3 rfl) ?_
      refine lv_lload C0.x C0.b dX8_shaped_63 (lv_at hl 2 rfl) ?_
      refine lv_aload_n C0.x C0.b dX8_shaped_65 rfl (lv_at hl 3 rfl) ?_
      refine r_get C0 hw (C := RX8) (T := TX8) (N := 33) (v := .long (gJ S 2)) iw_X8_shaped_X8 (lg_48 ad cI cJ X S) rfl 20 (by decide) (C0.ts _ fw_X8_shaped_173) rfl dX8_shaped_66 ?_
      refine lv_lmul C0.x C0.b dX8_shaped_69 ?_
      refine lv_lload C0.x C0.b dX8_shaped_70 (lv_at hl 1 rfl) ?_
      refine lv_aload_n C0.x C0.b dX8_shaped_72 rfl (lv_at hl 3 rfl) ?_
      refine r_get C0 hw (C := RX8) (T := TX8) (N := 33) (v := .long (gJ S 3)) iw_X8_shaped_X8 (lg_48 ad cI cJ X S) rfl 21 (by decide) (C0.ts _ fw_X8_shaped_176) rfl dX8_shaped_73 ?_
      refine lv_lmul C0.x C0.b dX8_shaped_76 ?_
      refine lv_ladd C0.x C0.b dX8_shaped_77 ?_
      refine r_put C0 hw (C := RX8) (T := TX8) (N := 33) (ty := .long) iw_X8_shaped_X8 tyX8 tyX8_ok nmX8 (lg_48 ad cI cJ X S) rfl 20 (by decide) (C0.ts _ fw_X8_shaped_173) rfl (by decide +kernel) rfl rfl (Nat.le_of_ble_eq_true rfl) dX8_shaped_78 (S' := (sJ S 2 (((gA S 32 ((3 : Int32) * (gB S bi0 v3.toNatClampNeg)).toNatClampNeg) * (gJ S 2)) + ((gA S 32 (((3 : Int32) * (gB S bi0 v3.toNatClampNeg)) + (1 : Int32)).toNatClampNeg) * (gJ S 3))))) (ls_48_20 ad cI cJ X S (((gA S 32 ((3 : Int32) * (gB S bi0 v3.toNatClampNeg)).toNatClampNeg) * (gJ S 2)) + ((gA S 32 (((3 : Int32) * (gB S bi0 v3.toNatClampNeg)) + (1 : Int32)).toNatClampNeg) * (gJ S 3)))) (fun S5 H locs eS5 hw => ?_)
      have hV := hV S5 eS5
      refine lv_aload_n C0.x C0.b dX8_shaped_81 rfl (lv_at hl 3 rfl) ?_
      refine lv_lload C0.x C0.b dX8_shaped_82 (lv_at hl 2 rfl) ?_
      refine lv_aload_n C0.x C0.b dX8_shaped_84 rfl (lv_at hl 3 rfl) ?_
      refine r_get C0 hw (C := RX8) (T := TX8) (N := 33) (v := .long (gJ S5 1)) iw_X8_shaped_X8 (lg_48 ad cI cJ X S5) rfl 19 (by decide) (C0.ts _ fw_X8_shaped_170) rfl dX8_shaped_85 ?_
      refine lv_lmul C0.x C0.b dX8_shaped_88 ?_
      refine r_put C0 hw (C := RX8) (T := TX8) (N := 33) (ty := .long) iw_X8_shaped_X8 tyX8 tyX8_ok nmX8 (lg_48 ad cI cJ X S5) rfl 19 (by decide) (C0.ts _ fw_X8_shaped_170) rfl (by decide +kernel) rfl rfl (Nat.le_of_ble_eq_true rfl) dX8_shaped_89 (S' := (sJ S5 1 ((gA S 32 ((3 : Int32) * (gB S bi0 v3.toNatClampNeg)).toNatClampNeg) * (gJ S5 1)))) (ls_48_19 ad cI cJ X S5 ((gA S 32 ((3 : Int32) * (gB S bi0 v3.toNatClampNeg)).toNatClampNeg) * (gJ S5 1))) (fun S6 H locs eS6 hw => ?_)
      have hV := hV S6 eS6
      refine lv_aload_n C0.x C0.b dX8_shaped_92 rfl (lv_at hl 3 rfl) ?_
      refine lv_lload C0.x C0.b dX8_shaped_93 (lv_at hl 0 rfl) ?_
      refine lv_aload_n C0.x C0.b dX8_shaped_95 rfl (lv_at hl 3 rfl) ?_
      refine r_get C0 hw (C := RX8) (T := TX8) (N := 33) (v := .long (gJ S6 3)) iw_X8_shaped_X8 (lg_48 ad cI cJ X S6) rfl 21 (by decide) (C0.ts _ fw_X8_shaped_176) rfl dX8_shaped_96 ?_
      refine lv_lmul C0.x C0.b dX8_shaped_99 ?_
      refine r_put C0 hw (C := RX8) (T := TX8) (N := 33) (ty := .long) iw_X8_shaped_X8 tyX8 tyX8_ok nmX8 (lg_48 ad cI cJ X S6) rfl 21 (by decide) (C0.ts _ fw_X8_shaped_176) rfl (by decide +kernel) rfl rfl (Nat.le_of_ble_eq_true rfl) dX8_shaped_100 (S' := (sJ S6 3 ((gA S 32 (((3 : Int32) * (gB S bi0 v3.toNatClampNeg)) + (2 : Int32)).toNatClampNeg) * (gJ S6 3)))) (ls_48_21 ad cI cJ X S6 ((gA S 32 (((3 : Int32) * (gB S bi0 v3.toNatClampNeg)) + (2 : Int32)).toNatClampNeg) * (gJ S6 3))) (fun S7 H locs eS7 hw => ?_)
      have hV := hV S7 eS7
      refine lv_aload_n C0.x C0.b dX8_shaped_103 rfl (lv_at hl 3 rfl) ?_
      refine r_get C0 hw (C := RX8) (T := TX8) (N := 33) (v := .long (gJ S7 1)) iw_X8_shaped_X8 (lg_48 ad cI cJ X S7) rfl 19 (by decide) (C0.ts _ fw_X8_shaped_170) rfl dX8_shaped_104 ?_
      refine lv_aload_n C0.x C0.b dX8_shaped_107 rfl (lv_at hl 3 rfl) ?_
      refine r_get C0 hw (C := RX8) (T := TX8) (N := 33) (v := .long (gJ S7 2)) iw_X8_shaped_X8 (lg_48 ad cI cJ X S7) rfl 20 (by decide) (C0.ts _ fw_X8_shaped_173) rfl dX8_shaped_108 ?_
      refine r_cS_l (As := [.long (gJ S7 1), .long (gJ S7 2)]) (rest := []) C0 hw (c_X8_common  hV) (va_cwS 2 C0.ts gX8_shaped_X8_common rfl rfl rfl hd_X8_common ⟨Nat.le_of_ble_eq_true rfl, Nat.le_of_ble_eq_true rfl⟩) rfl hl.1 rfl (Nat.le_of_ble_eq_true rfl) ⟨Nat.le_of_ble_eq_true rfl, Nat.le_of_ble_eq_true rfl⟩ dX8_shaped_111 (fun r8 S9 H locs hV hw => ?_)
      refine lv_aload_n C0.x C0.b dX8_shaped_114 rfl (lv_at hl 3 rfl) ?_
      refine r_get C0 hw (C := RX8) (T := TX8) (N := 33) (v := .long (gJ S9 3)) iw_X8_shaped_X8 (lg_48 ad cI cJ X S9) rfl 21 (by decide) (C0.ts _ fw_X8_shaped_176) rfl dX8_shaped_115 ?_
      refine r_cS_l (As := [.long r8, .long (gJ S9 3)]) (rest := []) C0 hw (c_X8_common  hV) (va_cwS 2 C0.ts gX8_shaped_X8_common rfl rfl rfl hd_X8_common ⟨Nat.le_of_ble_eq_true rfl, Nat.le_of_ble_eq_true rfl⟩) rfl hl.1 rfl (Nat.le_of_ble_eq_true rfl) ⟨Nat.le_of_ble_eq_true rfl, Nat.le_of_ble_eq_true rfl⟩ dX8_shaped_118 (fun r10 S11 H locs hV hw => ?_)
      refine lv_lstore (lv' := [(10, .long r10), (8, .long (gA S 32 (((3 : Int32) * (gB S bi0 v3.toNatClampNeg)) + (2 : Int32)).toNatClampNeg)), (6, .long (gA S 32 (((3 : Int32) * (gB S bi0 v3.toNatClampNeg)) + (1 : Int32)).toNatClampNeg)), (4, .long (gA S 32 ((3 : Int32) * (gB S bi0 v3.toNatClampNeg)).toNatClampNeg)), (0, .ref (ad 48)), (1, .ref (ad pa0)), (2, .int v2), (3, .int v3)]) C0.x C0.b dX8_shaped_121 hl (by decide) rfl (fun ls hl => ?_)
      refine lv_aload_n C0.x C0.b dX8_shaped_123 rfl (lv_at hl 4 rfl) ?_
      refine lv_dup C0.x C0.b dX8_shaped_124 rfl ?_
      refine r_get C0 hw (C := RX8) (T := TX8) (N := 33) (v := .long (gJ S11 1)) iw_X8_shaped_X8 (lg_48 ad cI cJ X S11) rfl 19 (by decide) (C0.ts _ fw_X8_shaped_170) rfl dX8_shaped_125 ?_
      refine lv_lload C0.x C0.b dX8_shaped_128 (lv_at hl 0 rfl) ?_
      refine lv_ldiv C0.x C0.b dX8_shaped_130 hV.1 ?_
      have hV := hV.2
      refine r_put C0 hw (C := RX8) (T := TX8) (N := 33) (ty := .long) iw_X8_shaped_X8 tyX8 tyX8_ok nmX8 (lg_48 ad cI cJ X S11) rfl 19 (by decide) (C0.ts _ fw_X8_shaped_170) rfl (by decide +kernel) rfl rfl (Nat.le_of_ble_eq_true rfl) dX8_shaped_131 (S' := (sJ S11 1 ((gJ S11 1) / r10))) (ls_48_19 ad cI cJ X S11 ((gJ S11 1) / r10)) (fun S12 H locs eS12 hw => ?_)
      have hV := hV S12 eS12
      refine lv_aload_n C0.x C0.b dX8_shaped_134 rfl (lv_at hl 4 rfl) ?_
      refine lv_dup C0.x C0.b dX8_shaped_135 rfl ?_
      refine r_get C0 hw (C := RX8) (T := TX8) (N := 33) (v := .long (gJ S12 2)) iw_X8_shaped_X8 (lg_48 ad cI cJ X S12) rfl 20 (by decide) (C0.ts _ fw_X8_shaped_173) rfl dX8_shaped_136 ?_
      refine lv_lload C0.x C0.b dX8_shaped_139 (lv_at hl 0 rfl) ?_
      refine lv_ldiv C0.x C0.b dX8_shaped_141 hV.1 ?_
      have hV := hV.2
      refine r_put C0 hw (C := RX8) (T := TX8) (N := 33) (ty := .long) iw_X8_shaped_X8 tyX8 tyX8_ok nmX8 (lg_48 ad cI cJ X S12) rfl 20 (by decide) (C0.ts _ fw_X8_shaped_173) rfl (by decide +kernel) rfl rfl (Nat.le_of_ble_eq_true rfl) dX8_shaped_142 (S' := (sJ S12 2 ((gJ S12 2) / r10))) (ls_48_20 ad cI cJ X S12 ((gJ S12 2) / r10)) (fun S13 H locs eS13 hw => ?_)
      have hV := hV S13 eS13
      refine lv_aload_n C0.x C0.b dX8_shaped_145 rfl (lv_at hl 4 rfl) ?_
      refine lv_dup C0.x C0.b dX8_shaped_146 rfl ?_
      refine r_get C0 hw (C := RX8) (T := TX8) (N := 33) (v := .long (gJ S13 3)) iw_X8_shaped_X8 (lg_48 ad cI cJ X S13) rfl 21 (by decide) (C0.ts _ fw_X8_shaped_176) rfl dX8_shaped_147 ?_
      refine lv_lload C0.x C0.b dX8_shaped_150 (lv_at hl 0 rfl) ?_
      refine lv_ldiv C0.x C0.b dX8_shaped_152 hV.1 ?_
      have hV := hV.2
      refine r_put C0 hw (C := RX8) (T := TX8) (N := 33) (ty := .long) iw_X8_shaped_X8 tyX8 tyX8_ok nmX8 (lg_48 ad cI cJ X S13) rfl 21 (by decide) (C0.ts _ fw_X8_shaped_176) rfl (by decide +kernel) rfl rfl (Nat.le_of_ble_eq_true rfl) dX8_shaped_153 (S' := (sJ S13 3 ((gJ S13 3) / r10))) (ls_48_21 ad cI cJ X S13 ((gJ S13 3) / r10)) (fun S14 H locs eS14 hw => ?_)
      have hV := hV S14 eS14
      refine lv_aload_n C0.x C0.b dX8_shaped_156 rfl (lv_at hl 4 rfl) ?_
      refine r_get C0 hw (C := RX8) (T := TX8) (N := 33) (v := .long (gJ S14 1)) iw_X8_shaped_X8 (lg_48 ad cI cJ X S14) rfl 19 (by decide) (C0.ts _ fw_X8_shaped_170) rfl dX8_shaped_157 ?_
      refine r_cS_i (As := [.long (gJ S14 1)]) (rest := []) C0 hw (c_X8_isNumber  hV) (va_cwS 1 C0.ts gX8_shaped_X8_isNumber rfl rfl rfl hd_X8_isNumber ⟨Nat.le_of_ble_eq_true rfl, Nat.le_of_ble_eq_true rfl⟩) rfl hl.1 rfl (Nat.le_of_ble_eq_true rfl) ⟨Nat.le_of_ble_eq_true rfl, Nat.le_of_ble_eq_true rfl⟩ dX8_shaped_160 (fun r15 S16 H locs hV hw => ?_)
      refine lv_if_eq (tgt := 186) C0.x C0.b dX8_shaped_163 (by decide) (fun c17 => ?_) (fun c17 => ?_)
      · have hV := hV.1 c17
        refine lv_iconst (v := 0) C0.x C0.b dX8_shaped_186 (by decide) ?_
        exact r_zret C0 rfl bz_0 hw hV dX8_shaped_187
      · have hV := hV.2 c17
        refine lv_aload_n C0.x C0.b dX8_shaped_166 rfl (lv_at hl 4 rfl) ?_
        refine r_get C0 hw (C := RX8) (T := TX8) (N := 33) (v := .long (gJ S16 2)) iw_X8_shaped_X8 (lg_48 ad cI cJ X S16) rfl 20 (by decide) (C0.ts _ fw_X8_shaped_173) rfl dX8_shaped_167 ?_
        refine r_cS_i (As := [.long (gJ S16 2)]) (rest := []) C0 hw (c_X8_isNumber  hV) (va_cwS 1 C0.ts gX8_shaped_X8_isNumber rfl rfl rfl hd_X8_isNumber ⟨Nat.le_of_ble_eq_true rfl, Nat.le_of_ble_eq_true rfl⟩) rfl hl.1 rfl (Nat.le_of_ble_eq_true rfl) ⟨Nat.le_of_ble_eq_true rfl, Nat.le_of_ble_eq_true rfl⟩ dX8_shaped_170 (fun r18 S19 H locs hV hw => ?_)
        refine lv_if_eq (tgt := 186) C0.x C0.b dX8_shaped_173 (by decide) (fun c20 => ?_) (fun c20 => ?_)
        · have hV := hV.1 c20
          refine lv_iconst (v := 0) C0.x C0.b dX8_shaped_186 (by decide) ?_
          exact r_zret C0 rfl bz_0 hw hV dX8_shaped_187
        · have hV := hV.2 c20
          refine lv_aload_n C0.x C0.b dX8_shaped_176 rfl (lv_at hl 4 rfl) ?_
          refine r_get C0 hw (C := RX8) (T := TX8) (N := 33) (v := .long (gJ S19 3)) iw_X8_shaped_X8 (lg_48 ad cI cJ X S19) rfl 21 (by decide) (C0.ts _ fw_X8_shaped_176) rfl dX8_shaped_177 ?_
          refine r_cS_i (As := [.long (gJ S19 3)]) (rest := []) C0 hw (c_X8_isNumber  hV) (va_cwS 1 C0.ts gX8_shaped_X8_isNumber rfl rfl rfl hd_X8_isNumber ⟨Nat.le_of_ble_eq_true rfl, Nat.le_of_ble_eq_true rfl⟩) rfl hl.1 rfl (Nat.le_of_ble_eq_true rfl) ⟨Nat.le_of_ble_eq_true rfl, Nat.le_of_ble_eq_true rfl⟩ dX8_shaped_180 (fun r21 S22 H locs hV hw => ?_)
          refine lv_if_ne (tgt := 188) C0.x C0.b dX8_shaped_183 (by decide) (fun c23 => ?_) (fun c23 => ?_)
          · have hV := hV.2 c23
            obtain ⟨x24, ex24⟩ : ∃ z : Int32, z = v3 + 1 := ⟨_, rfl⟩
            have hV := hV x24 ex24
            refine lv_iinc (v := x24) (lv' := [(3, .int x24), (10, .long r10), (8, .long (gA S 32 (((3 : Int32) * (gB S bi0 v3.toNatClampNeg)) + (2 : Int32)).toNatClampNeg)), (6, .long (gA S 32 (((3 : Int32) * (gB S bi0 v3.toNatClampNeg)) + (1 : Int32)).toNatClampNeg)), (4, .long (gA S 32 ((3 : Int32) * (gB S bi0 v3.toNatClampNeg)).toNatClampNeg)), (0, .ref (ad 48)), (1, .ref (ad pa0)), (2, .int v2)]) C0.x C0.b dX8_shaped_188 hl (k := 7) rfl (by rw [ex24]; rfl) (by decide) rfl (fun ls hl => ?_)
            refine lv_goto (tgt := 17) C0.x C0.b dX8_shaped_191 (by decide) ?_
            exact ih _ _ hV _ _ hw _ (lv_sub hl [5, 6, 7, 0] rfl)
          · have hV := hV.1 c23
            refine lv_iconst (v := 0) C0.x C0.b dX8_shaped_186 (by decide) ?_
            exact r_zret C0 rfl bz_0 hw hV dX8_shaped_187
def V_X8_shaped (bi0 L0 : Nat) (p1 : Int32) (S : SS) (post : Int32 → SS → Prop) : Prop :=
  (∀ S1 : SS, S1 = (sJ S 1 (1 : Int64)) → (∀ S2 : SS, S2 = (sJ S1 2 (0 : Int64)) → (∀ S3 : SS, S3 = (sJ S2 3 (1 : Int64)) → (∃ n17 : Nat, V_X8_shaped_17 bi0 L0 p1  post n17 (0 : Int32) S3))))
set_option maxHeartbeats 4000000 in
set_option maxRecDepth 100000 in
theorem c_X8_shaped {pa0 bi0 L0 : Nat} (hO0 : lnB ad cI cJ X pa0 bi0 L0) {S : SS} {p1 : Int32} {post : Int32 → SS → Prop} (hV : V_X8_shaped bi0 L0 p1 S post) : MI l yX8_shaped wsX8_shaped rm_X8_shaped [.ref (ad 48), .ref (ad pa0), .int p1] D n0 ad cI cJ X S post := by
  refine Met.ofW (cc := cX8_shaped) (maxL := 12) (ret := (some .boolean)) (by decide) rfl ?_
  intro p e s m args below meth c s₁ B hml hv
  obtain ⟨rfl, hv⟩ := hv
  have C0 := Bd.mk B hml (atoms_spec (ws := wsX8_shaped) B.pre) (findClass_of_methodNamed B.named) hv.1
  have hw : Wh D n0 ad cI cJ X S s s.heap [] := ⟨hv.2.1, hv.2.2, va_S.rf⟩
  refine r_entry (Nat.le_of_ble_eq_true rfl) (fun ls hl => ?_)
  have hl : lv_has ls 12 [(0, .ref (ad 48)), (1, .ref (ad pa0)), (2, .int p1)] := hl
  unfold V_X8_shaped at hV
  refine lv_aload_n C0.x C0.b dX8_shaped_0 rfl (lv_at hl 0 rfl) ?_
  refine lv_lconst (v := 1) C0.x C0.b dX8_shaped_1 (by decide) ?_
  refine r_put C0 hw (C := RX8) (T := TX8) (N := 33) (ty := .long) iw_X8_shaped_X8 tyX8 tyX8_ok nmX8 (lg_48 ad cI cJ X S) rfl 19 (by decide) (C0.ts _ fw_X8_shaped_170) rfl (by decide +kernel) rfl rfl (Nat.le_of_ble_eq_true rfl) dX8_shaped_2 (S' := (sJ S 1 (1 : Int64))) (ls_48_19 ad cI cJ X S (1 : Int64)) (fun S1 H locs eS1 hw => ?_)
  have hV := hV S1 eS1
  refine lv_aload_n C0.x C0.b dX8_shaped_5 rfl (lv_at hl 0 rfl) ?_
  refine lv_lconst (v := 0) C0.x C0.b dX8_shaped_6 (by decide) ?_
  refine r_put C0 hw (C := RX8) (T := TX8) (N := 33) (ty := .long) iw_X8_shaped_X8 tyX8 tyX8_ok nmX8 (lg_48 ad cI cJ X S1) rfl 20 (by decide) (C0.ts _ fw_X8_shaped_173) rfl (by decide +kernel) rfl rfl (Nat.le_of_ble_eq_true rfl) dX8_shaped_7 (S' := (sJ S1 2 (0 : Int64))) (ls_48_20 ad cI cJ X S1 (0 : Int64)) (fun S2 H locs eS2 hw => ?_)
  have hV := hV S2 eS2
  refine lv_aload_n C0.x C0.b dX8_shaped_10 rfl (lv_at hl 0 rfl) ?_
  refine lv_lconst (v := 1) C0.x C0.b dX8_shaped_11 (by decide) ?_
  refine r_put C0 hw (C := RX8) (T := TX8) (N := 33) (ty := .long) iw_X8_shaped_X8 tyX8 tyX8_ok nmX8 (lg_48 ad cI cJ X S2) rfl 21 (by decide) (C0.ts _ fw_X8_shaped_176) rfl (by decide +kernel) rfl rfl (Nat.le_of_ble_eq_true rfl) dX8_shaped_12 (S' := (sJ S2 3 (1 : Int64))) (ls_48_21 ad cI cJ X S2 (1 : Int64)) (fun S3 H locs eS3 hw => ?_)
  have hV := hV S3 eS3
  refine lv_iconst (v := 0) C0.x C0.b dX8_shaped_15 (by decide) ?_
  refine lv_istore_n (lv' := [(3, .int (0 : Int32)), (0, .ref (ad 48)), (1, .ref (ad pa0)), (2, .int p1)]) C0.x C0.b dX8_shaped_16 rfl hl (by decide) rfl (fun ls hl => ?_)
  obtain ⟨n17, hV⟩ := hV
  exact lp_X8_shaped_17 hO0 _ post C0  n17 _ _ hV _ _ hw _ (lv_sub hl [1, 2, 3, 0] rfl)
/-! StepBenchModel.isWord()Z -/
abbrev rm_X8_isWord : Room := { frames := 0, cells := 0, slots := 0, locals := 0 }
set_option maxRecDepth 20000 in
theorem fw_X8_isWord_108 : Cond.fieldLink RX8 108 "StepBenchModel" "sort" "I" ∈ wsX8_isWord := by decide +kernel
set_option maxRecDepth 20000 in
theorem iw_X8_isWord_X8 : ∀ w ∈ wsX80, w ∈ wsX8_isWord := by decide +kernel
set_option maxRecDepth 20000 in
theorem fw_X8_isWord_127 : Cond.fieldLink RX8 127 "StepBenchModel" "words" "I" ∈ wsX8_isWord := by decide +kernel
set_option maxRecDepth 20000 in
theorem fw_X8_isWord_35 : Cond.fieldLink RX8 35 "StepBenchModel" "word" "[I" ∈ wsX8_isWord := by decide +kernel
set_option maxRecDepth 20000 in
theorem fw_X8_isWord_105 : Cond.fieldLink RX8 105 "StepBenchModel" "m" "I" ∈ wsX8_isWord := by decide +kernel
set_option maxRecDepth 20000 in
theorem hd_X8_isWord : yX8_isWord.cls = RX8 ∧ yX8_isWord.cls ≠ "java/lang/invoke/MethodHandle" ∧ yX8_isWord.cls ≠ "java/lang/invoke/VarHandle" ∧ (parseMethodDescriptor yX8_isWord.desc).map (fun d => d.parameters.length) = some 0 := by decide +kernel
def V_X8_isWord_23    (post : Int32 → SS → Prop) : Nat → Int32 → Int32 → SS → Prop
  | 0, _, _, _ => False
  | n + 1, v1, v2, S =>
    (((gI S 29) ≤ v2 → (bz v1 ∧ post v1 S)) ∧ (¬ (gI S 29) ≤ v2 → ((v1 = 0 → (bz v1 ∧ post v1 S)) ∧ (¬ v1 = 0 → (vp_in v2 40 ∧ (((gI S 26) ≤ (gB S 0 v2.toNatClampNeg) → (∀ x6 : Int32, x6 = v2 + 1 → (V_X8_isWord_23    post n (0 : Int32) x6 S))) ∧ (¬ (gI S 26) ≤ (gB S 0 v2.toNatClampNeg) → (∀ x7 : Int32, x7 = v2 + 1 → (V_X8_isWord_23    post n (1 : Int32) x7 S)))))))))
set_option maxHeartbeats 4000000 in
set_option maxRecDepth 100000 in
theorem lp_X8_isWord_23    (post : Int32 → SS → Prop) (C0 : Bd p s m meth c args cX8_isWord 3 (some .boolean) wsX8_isWord RX8 D n0 cI cJ) : ∀ (n : Nat) (v1 : Int32) (v2 : Int32) (S : SS), V_X8_isWord_23    post n v1 v2 S → ∀ (H : Heap) (locs : List Loc), Wh D n0 ad cI cJ X S s H locs → ∀ ls : Array Slot, lv_has ls 3 [(0, .ref (ad 48)), (1, .int v1), (2, .int v2)] → W p l e rm_X8_isWord s m args below meth c H locs 0 0 (MQ below (va_Qi post (fun S' t => Wd D n0 ad cI cJ X S' t) (fr n0)) args s 0 0 (fr n0)) (F0 m 23 ls []) := by
  intro n
  induction n with
  | zero => intro v1 v2 S hV; exact False.elim hV
  | succ n ih =>
    intro v1 v2 S hV H locs hw ls hl
    rw [V_X8_isWord_23] at hV
    refine lv_iload_n C0.x C0.b dX8_isWord_23 rfl (lv_at hl 2 rfl) ?_
    refine lv_aload_n C0.x C0.b dX8_isWord_24 rfl (lv_at hl 0 rfl) ?_
    refine r_get C0 hw (C := RX8) (T := TX8) (N := 33) (v := .int (gI S 29)) iw_X8_isWord_X8 (lg_48 ad cI cJ X S) rfl 18 (by decide) (C0.ts _ fw_X8_isWord_127) rfl dX8_isWord_25 ?_
    refine lv_icmp_ge (tgt := 60) C0.x C0.b dX8_isWord_28 (by decide) (fun c3 => ?_) (fun c3 => ?_)
    · have hV := hV.1 c3
      refine lv_iload_n C0.x C0.b dX8_isWord_60 rfl (lv_at hl 1 rfl) ?_
      exact r_zret C0 rfl hV.1 hw hV.2 dX8_isWord_61
    · have hV := hV.2 c3
      refine lv_iload_n C0.x C0.b dX8_isWord_31 rfl (lv_at hl 1 rfl) ?_
      refine lv_if_eq (tgt := 60) C0.x C0.b dX8_isWord_32 (by decide) (fun c4 => ?_) (fun c4 => ?_)
      · have hV := hV.1 c4
        refine lv_iload_n C0.x C0.b dX8_isWord_60 rfl (lv_at hl 1 rfl) ?_
        exact r_zret C0 rfl hV.1 hw hV.2 dX8_isWord_61
      · have hV := hV.2 c4
        refine lv_aload_n C0.x C0.b dX8_isWord_35 rfl (lv_at hl 0 rfl) ?_
        refine r_get C0 hw (C := RX8) (T := TX8) (N := 33) (v := .ref (ad 56)) iw_X8_isWord_X8 (lg_48 ad cI cJ X S) rfl 17 (by decide) (C0.ts _ fw_X8_isWord_35) rfl dX8_isWord_36 ?_
        refine lv_iload_n C0.x C0.b dX8_isWord_39 rfl (lv_at hl 2 rfl) ?_
        refine r_iald C0 hw (lg_56 ad cI cJ X S) hV.1 dX8_isWord_40 ?_
        have hV := hV.2
        refine lv_aload_n C0.x C0.b dX8_isWord_41 rfl (lv_at hl 0 rfl) ?_
        refine r_get C0 hw (C := RX8) (T := TX8) (N := 33) (v := .int (gI S 26)) iw_X8_isWord_X8 (lg_48 ad cI cJ X S) rfl 8 (by decide) (C0.ts _ fw_X8_isWord_105) rfl dX8_isWord_42 ?_
        refine lv_icmp_ge (tgt := 52) C0.x C0.b dX8_isWord_45 (by decide) (fun c5 => ?_) (fun c5 => ?_)
        · have hV := hV.1 c5
          refine lv_iconst (v := 0) C0.x C0.b dX8_isWord_52 (by decide) ?_
          refine lv_istore_n (lv' := [(1, .int (0 : Int32)), (0, .ref (ad 48)), (2, .int v2)]) C0.x C0.b dX8_isWord_53 rfl hl (by decide) rfl (fun ls hl => ?_)
          obtain ⟨x6, ex6⟩ : ∃ z : Int32, z = v2 + 1 := ⟨_, rfl⟩
          have hV := hV x6 ex6
          refine lv_iinc (v := x6) (lv' := [(2, .int x6), (1, .int (0 : Int32)), (0, .ref (ad 48))]) C0.x C0.b dX8_isWord_54 hl (k := 2) rfl (by rw [ex6]; rfl) (by decide) rfl (fun ls hl => ?_)
          refine lv_goto (tgt := 23) C0.x C0.b dX8_isWord_57 (by decide) ?_
          exact ih _ _ _ hV _ _ hw _ (lv_sub hl [2, 1, 0] rfl)
        · have hV := hV.2 c5
          refine lv_iconst (v := 1) C0.x C0.b dX8_isWord_48 (by decide) ?_
          refine lv_goto (tgt := 53) C0.x C0.b dX8_isWord_49 (by decide) ?_
          refine lv_istore_n (lv' := [(1, .int (1 : Int32)), (0, .ref (ad 48)), (2, .int v2)]) C0.x C0.b dX8_isWord_53 rfl hl (by decide) rfl (fun ls hl => ?_)
          obtain ⟨x7, ex7⟩ : ∃ z : Int32, z = v2 + 1 := ⟨_, rfl⟩
          have hV := hV x7 ex7
          refine lv_iinc (v := x7) (lv' := [(2, .int x7), (1, .int (1 : Int32)), (0, .ref (ad 48))]) C0.x C0.b dX8_isWord_54 hl (k := 2) rfl (by rw [ex7]; rfl) (by decide) rfl (fun ls hl => ?_)
          refine lv_goto (tgt := 23) C0.x C0.b dX8_isWord_57 (by decide) ?_
          exact ih _ _ _ hV _ _ hw _ (lv_sub hl [2, 1, 0] rfl)
def V_X8_isWord   (S : SS) (post : Int32 → SS → Prop) : Prop :=
  (((gI S 25) = (1 : Int32) → (((gI S 29) ≤ 0 → (∃ n23 : Nat, V_X8_isWord_23    post n23 (0 : Int32) (0 : Int32) S)) ∧ (¬ (gI S 29) ≤ 0 → (∃ n23 : Nat, V_X8_isWord_23    post n23 (1 : Int32) (0 : Int32) S)))) ∧ (¬ (gI S 25) = (1 : Int32) → (∃ n23 : Nat, V_X8_isWord_23    post n23 (0 : Int32) (0 : Int32) S)))
set_option maxHeartbeats 4000000 in
set_option maxRecDepth 100000 in
theorem c_X8_isWord  {S : SS}  {post : Int32 → SS → Prop} (hV : V_X8_isWord   S post) : MI l yX8_isWord wsX8_isWord rm_X8_isWord [.ref (ad 48)] D n0 ad cI cJ X S post := by
  refine Met.ofW (cc := cX8_isWord) (maxL := 3) (ret := (some .boolean)) (by decide) rfl ?_
  intro p e s m args below meth c s₁ B hml hv
  obtain ⟨rfl, hv⟩ := hv
  have C0 := Bd.mk B hml (atoms_spec (ws := wsX8_isWord) B.pre) (findClass_of_methodNamed B.named) hv.1
  have hw : Wh D n0 ad cI cJ X S s s.heap [] := ⟨hv.2.1, hv.2.2, va_S.rf⟩
  refine r_entry (Nat.le_of_ble_eq_true rfl) (fun ls hl => ?_)
  have hl : lv_has ls 3 [(0, .ref (ad 48))] := hl
  unfold V_X8_isWord at hV
  refine lv_aload_n C0.x C0.b dX8_isWord_0 rfl (lv_at hl 0 rfl) ?_
  refine r_get C0 hw (C := RX8) (T := TX8) (N := 33) (v := .int (gI S 25)) iw_X8_isWord_X8 (lg_48 ad cI cJ X S) rfl 7 (by decide) (C0.ts _ fw_X8_isWord_108) rfl dX8_isWord_1 ?_
  refine lv_iconst (v := 1) C0.x C0.b dX8_isWord_4 (by decide) ?_
  refine lv_icmp_ne (tgt := 19) C0.x C0.b dX8_isWord_5 (by decide) (fun c1 => ?_) (fun c1 => ?_)
  · have hV := hV.2 c1
    refine lv_iconst (v := 0) C0.x C0.b dX8_isWord_19 (by decide) ?_
    refine lv_istore_n (lv' := [(1, .int (0 : Int32)), (0, .ref (ad 48))]) C0.x C0.b dX8_isWord_20 rfl hl (by decide) rfl (fun ls hl => ?_)
    refine lv_iconst (v := 0) C0.x C0.b dX8_isWord_21 (by decide) ?_
    refine lv_istore_n (lv' := [(2, .int (0 : Int32)), (1, .int (0 : Int32)), (0, .ref (ad 48))]) C0.x C0.b dX8_isWord_22 rfl hl (by decide) rfl (fun ls hl => ?_)
    obtain ⟨n23, hV⟩ := hV
    exact lp_X8_isWord_23   post C0  n23 _ _ _ hV _ _ hw _ (lv_sub hl [2, 1, 0] rfl)
  · have hV := hV.1 c1
    refine lv_aload_n C0.x C0.b dX8_isWord_8 rfl (lv_at hl 0 rfl) ?_
    refine r_get C0 hw (C := RX8) (T := TX8) (N := 33) (v := .int (gI S 29)) iw_X8_isWord_X8 (lg_48 ad cI cJ X S) rfl 18 (by decide) (C0.ts _ fw_X8_isWord_127) rfl dX8_isWord_9 ?_
    refine lv_if_le (tgt := 19) C0.x C0.b dX8_isWord_12 (by decide) (fun c2 => ?_) (fun c2 => ?_)
    · have hV := hV.1 c2
      refine lv_iconst (v := 0) C0.x C0.b dX8_isWord_19 (by decide) ?_
      refine lv_istore_n (lv' := [(1, .int (0 : Int32)), (0, .ref (ad 48))]) C0.x C0.b dX8_isWord_20 rfl hl (by decide) rfl (fun ls hl => ?_)
      refine lv_iconst (v := 0) C0.x C0.b dX8_isWord_21 (by decide) ?_
      refine lv_istore_n (lv' := [(2, .int (0 : Int32)), (1, .int (0 : Int32)), (0, .ref (ad 48))]) C0.x C0.b dX8_isWord_22 rfl hl (by decide) rfl (fun ls hl => ?_)
      obtain ⟨n23, hV⟩ := hV
      exact lp_X8_isWord_23   post C0  n23 _ _ _ hV _ _ hw _ (lv_sub hl [2, 1, 0] rfl)
    · have hV := hV.2 c2
      refine lv_iconst (v := 1) C0.x C0.b dX8_isWord_15 (by decide) ?_
      refine lv_goto (tgt := 20) C0.x C0.b dX8_isWord_16 (by decide) ?_
      refine lv_istore_n (lv' := [(1, .int (1 : Int32)), (0, .ref (ad 48))]) C0.x C0.b dX8_isWord_20 rfl hl (by decide) rfl (fun ls hl => ?_)
      refine lv_iconst (v := 0) C0.x C0.b dX8_isWord_21 (by decide) ?_
      refine lv_istore_n (lv' := [(2, .int (0 : Int32)), (1, .int (1 : Int32)), (0, .ref (ad 48))]) C0.x C0.b dX8_isWord_22 rfl hl (by decide) rfl (fun ls hl => ?_)
      obtain ⟨n23, hV⟩ := hV
      exact lp_X8_isWord_23   post C0  n23 _ _ _ hV _ _ hw _ (lv_sub hl [2, 1, 0] rfl)
/-! StepBenchModel.shape()I -/
abbrev rm_X8_shape : Room := { frames := 3, cells := 0, slots := 0, locals := 77 }
set_option maxRecDepth 20000 in
theorem fw_X8_shape_61 : Cond.fieldLink RX8 61 "StepBenchModel" "thrown" "I" ∈ wsX8_shape := by decide +kernel
set_option maxRecDepth 20000 in
theorem iw_X8_shape_X8 : ∀ w ∈ wsX80, w ∈ wsX8_shape := by decide +kernel
set_option maxRecDepth 20000 in
theorem fw_X8_shape_35 : Cond.fieldLink RX8 35 "StepBenchModel" "word" "[I" ∈ wsX8_shape := by decide +kernel
set_option maxRecDepth 20000 in
theorem fw_X8_shape_127 : Cond.fieldLink RX8 127 "StepBenchModel" "words" "I" ∈ wsX8_shape := by decide +kernel
set_option maxRecDepth 20000 in
theorem fw_X8_shape_32 : Cond.fieldLink RX8 32 "StepBenchModel" "found" "[J" ∈ wsX8_shape := by decide +kernel
set_option maxRecDepth 20000 in
theorem fw_X8_shape_170 : Cond.fieldLink RX8 170 "StepBenchModel" "shapeA" "J" ∈ wsX8_shape := by decide +kernel
set_option maxRecDepth 20000 in
theorem fw_X8_shape_173 : Cond.fieldLink RX8 173 "StepBenchModel" "shapeB" "J" ∈ wsX8_shape := by decide +kernel
set_option maxRecDepth 20000 in
theorem fw_X8_shape_176 : Cond.fieldLink RX8 176 "StepBenchModel" "shapeD" "J" ∈ wsX8_shape := by decide +kernel
set_option maxRecDepth 20000 in
theorem hd_X8_shape : yX8_shape.cls = RX8 ∧ yX8_shape.cls ≠ "java/lang/invoke/MethodHandle" ∧ yX8_shape.cls ≠ "java/lang/invoke/VarHandle" ∧ (parseMethodDescriptor yX8_shape.desc).map (fun d => d.parameters.length) = some 0 := by decide +kernel
def V_X8_shape   (S : SS) (post : Int32 → SS → Prop) : Prop :=
  (∀ S1 : SS, S1 = (sI S 20 (0 : Int32)) → (V_X8_isWord  S1 (fun (r2 : Int32) (S3 : SS) => ((r2 = 0 → (post (-1 : Int32) S3)) ∧ (¬ r2 = 0 → (V_X8_shaped 0 40 (gI S3 29) S3 (fun (r5 : Int32) (S6 : SS) => ((r5 = 0 → (post (-2 : Int32) S6)) ∧ (¬ r5 = 0 → (vp_in (0 : Int32) 20000 ∧ ∀ S8 : SS, S8 = (sA S6 36 (vp_updL (gA S6 36) (0 : Int32).toNatClampNeg (gJ S6 1))) → (vp_in (1 : Int32) 20000 ∧ ∀ S9 : SS, S9 = (sA S8 36 (vp_updL (gA S8 36) (1 : Int32).toNatClampNeg (gJ S8 2))) → (vp_in (2 : Int32) 20000 ∧ ∀ S10 : SS, S10 = (sA S9 36 (vp_updL (gA S9 36) (2 : Int32).toNatClampNeg (gJ S9 3))) → (V_X8_tells (3 : Int32) S10 (fun (S12 : SS) => (post (1 : Int32) S12)))))))))))))))
set_option maxHeartbeats 4000000 in
set_option maxRecDepth 100000 in
theorem c_X8_shape  {S : SS}  {post : Int32 → SS → Prop} (hV : V_X8_shape   S post) : MI l yX8_shape wsX8_shape rm_X8_shape [.ref (ad 48)] D n0 ad cI cJ X S post := by
  refine Met.ofW (cc := cX8_shape) (maxL := 1) (ret := (some .int)) (by decide) rfl ?_
  intro p e s m args below meth c s₁ B hml hv
  obtain ⟨rfl, hv⟩ := hv
  have C0 := Bd.mk B hml (atoms_spec (ws := wsX8_shape) B.pre) (findClass_of_methodNamed B.named) hv.1
  have hw : Wh D n0 ad cI cJ X S s s.heap [] := ⟨hv.2.1, hv.2.2, va_S.rf⟩
  refine r_entry (Nat.le_of_ble_eq_true rfl) (fun ls hl => ?_)
  have hl : lv_has ls 1 [(0, .ref (ad 48))] := hl
  unfold V_X8_shape at hV
  refine lv_aload_n C0.x C0.b dX8_shape_0 rfl (lv_at hl 0 rfl) ?_
  refine lv_iconst (v := 0) C0.x C0.b dX8_shape_1 (by decide) ?_
  refine r_put C0 hw (C := RX8) (T := TX8) (N := 33) (ty := .int) iw_X8_shape_X8 tyX8 tyX8_ok nmX8 (lg_48 ad cI cJ X S) rfl 0 (by decide) (C0.ts _ fw_X8_shape_61) rfl (by decide +kernel) rfl rfl (Nat.le_of_ble_eq_true rfl) dX8_shape_2 (S' := (sI S 20 (0 : Int32))) (ls_48_0 ad cI cJ X S (0 : Int32)) (fun S1 H locs eS1 hw => ?_)
  have hV := hV S1 eS1
  refine lv_aload_n C0.x C0.b dX8_shape_5 rfl (lv_at hl 0 rfl) ?_
  refine r_cV_i (As := []) (rest := []) C0 hw (c_X8_isWord  hV) (cwV 0 C0.ts gX8_shape_X8_isWord rfl rfl rfl hd_X8_isWord ⟨Nat.le_of_ble_eq_true rfl, Nat.le_of_ble_eq_true rfl⟩) (lg_48 ad cI cJ X S1) rfl rfl hl.1 rfl (Nat.le_of_ble_eq_true rfl) ⟨Nat.le_of_ble_eq_true rfl, Nat.le_of_ble_eq_true rfl⟩ dX8_shape_6 (fun r2 S3 H locs hV hw => ?_)
  refine lv_if_ne (tgt := 14) C0.x C0.b dX8_shape_9 (by decide) (fun c4 => ?_) (fun c4 => ?_)
  · have hV := hV.2 c4
    refine lv_aload_n C0.x C0.b dX8_shape_14 rfl (lv_at hl 0 rfl) ?_
    refine lv_aload_n C0.x C0.b dX8_shape_15 rfl (lv_at hl 0 rfl) ?_
    refine r_get C0 hw (C := RX8) (T := TX8) (N := 33) (v := .ref (ad 56)) iw_X8_shape_X8 (lg_48 ad cI cJ X S3) rfl 17 (by decide) (C0.ts _ fw_X8_shape_35) rfl dX8_shape_16 ?_
    refine lv_aload_n C0.x C0.b dX8_shape_19 rfl (lv_at hl 0 rfl) ?_
    refine r_get C0 hw (C := RX8) (T := TX8) (N := 33) (v := .int (gI S3 29)) iw_X8_shape_X8 (lg_48 ad cI cJ X S3) rfl 18 (by decide) (C0.ts _ fw_X8_shape_127) rfl dX8_shape_20 ?_
    refine r_cV_i (As := [.ref (ad 56), .int (gI S3 29)]) (rest := []) C0 hw (c_X8_shaped (la_56 ad cI cJ X) hV) (cwV 2 C0.ts gX8_shape_X8_shaped rfl rfl rfl hd_X8_shaped ⟨Nat.le_of_ble_eq_true rfl, Nat.le_of_ble_eq_true rfl⟩) (lg_48 ad cI cJ X S3) rfl rfl hl.1 rfl (Nat.le_of_ble_eq_true rfl) ⟨Nat.le_of_ble_eq_true rfl, Nat.le_of_ble_eq_true rfl⟩ dX8_shape_23 (fun r5 S6 H locs hV hw => ?_)
    refine lv_if_ne (tgt := 32) C0.x C0.b dX8_shape_26 (by decide) (fun c7 => ?_) (fun c7 => ?_)
    · have hV := hV.2 c7
      refine lv_aload_n C0.x C0.b dX8_shape_32 rfl (lv_at hl 0 rfl) ?_
      refine r_get C0 hw (C := RX8) (T := TX8) (N := 33) (v := .ref (ad 55)) iw_X8_shape_X8 (lg_48 ad cI cJ X S6) rfl 16 (by decide) (C0.ts _ fw_X8_shape_32) rfl dX8_shape_33 ?_
      refine lv_iconst (v := 0) C0.x C0.b dX8_shape_36 (by decide) ?_
      refine lv_aload_n C0.x C0.b dX8_shape_37 rfl (lv_at hl 0 rfl) ?_
      refine r_get C0 hw (C := RX8) (T := TX8) (N := 33) (v := .long (gJ S6 1)) iw_X8_shape_X8 (lg_48 ad cI cJ X S6) rfl 19 (by decide) (C0.ts _ fw_X8_shape_170) rfl dX8_shape_38 ?_
      refine r_last C0 hw (lg_55 ad cI cJ X S6) hV.1 dX8_shape_41 (S' := (sA S6 36 (vp_updL (gA S6 36) (0 : Int32).toNatClampNeg (gJ S6 1)))) (ls_55 ad cI cJ X S6 (vp_updL (gA S6 36) (0 : Int32).toNatClampNeg (gJ S6 1))) (fun S8 H locs eS8 hw => ?_)
      have hV := hV.2 S8 eS8
      refine lv_aload_n C0.x C0.b dX8_shape_42 rfl (lv_at hl 0 rfl) ?_
      refine r_get C0 hw (C := RX8) (T := TX8) (N := 33) (v := .ref (ad 55)) iw_X8_shape_X8 (lg_48 ad cI cJ X S8) rfl 16 (by decide) (C0.ts _ fw_X8_shape_32) rfl dX8_shape_43 ?_
      refine lv_iconst (v := 1) C0.x C0.b dX8_shape_46 (by decide) ?_
      refine lv_aload_n C0.x C0.b dX8_shape_47 rfl (lv_at hl 0 rfl) ?_
      refine r_get C0 hw (C := RX8) (T := TX8) (N := 33) (v := .long (gJ S8 2)) iw_X8_shape_X8 (lg_48 ad cI cJ X S8) rfl 20 (by decide) (C0.ts _ fw_X8_shape_173) rfl dX8_shape_48 ?_
      refine r_last C0 hw (lg_55 ad cI cJ X S8) hV.1 dX8_shape_51 (S' := (sA S8 36 (vp_updL (gA S8 36) (1 : Int32).toNatClampNeg (gJ S8 2)))) (ls_55 ad cI cJ X S8 (vp_updL (gA S8 36) (1 : Int32).toNatClampNeg (gJ S8 2))) (fun S9 H locs eS9 hw => ?_)
      have hV := hV.2 S9 eS9
      refine lv_aload_n C0.x C0.b dX8_shape_52 rfl (lv_at hl 0 rfl) ?_
      refine r_get C0 hw (C := RX8) (T := TX8) (N := 33) (v := .ref (ad 55)) iw_X8_shape_X8 (lg_48 ad cI cJ X S9) rfl 16 (by decide) (C0.ts _ fw_X8_shape_32) rfl dX8_shape_53 ?_
      refine lv_iconst (v := 2) C0.x C0.b dX8_shape_56 (by decide) ?_
      refine lv_aload_n C0.x C0.b dX8_shape_57 rfl (lv_at hl 0 rfl) ?_
      refine r_get C0 hw (C := RX8) (T := TX8) (N := 33) (v := .long (gJ S9 3)) iw_X8_shape_X8 (lg_48 ad cI cJ X S9) rfl 21 (by decide) (C0.ts _ fw_X8_shape_176) rfl dX8_shape_58 ?_
      refine r_last C0 hw (lg_55 ad cI cJ X S9) hV.1 dX8_shape_61 (S' := (sA S9 36 (vp_updL (gA S9 36) (2 : Int32).toNatClampNeg (gJ S9 3)))) (ls_55 ad cI cJ X S9 (vp_updL (gA S9 36) (2 : Int32).toNatClampNeg (gJ S9 3))) (fun S10 H locs eS10 hw => ?_)
      have hV := hV.2 S10 eS10
      refine lv_aload_n C0.x C0.b dX8_shape_62 rfl (lv_at hl 0 rfl) ?_
      refine lv_iconst (v := 3) C0.x C0.b dX8_shape_63 (by decide) ?_
      refine r_cV_v (As := [.int (3 : Int32)]) (rest := []) C0 hw (c_X8_tells  hV) (cwV 1 C0.ts gX8_shape_X8_tells rfl rfl rfl hd_X8_tells ⟨Nat.le_of_ble_eq_true rfl, Nat.le_of_ble_eq_true rfl⟩) (lg_48 ad cI cJ X S10) rfl rfl hl.1 rfl (Nat.le_of_ble_eq_true rfl) ⟨Nat.le_of_ble_eq_true rfl, Nat.le_of_ble_eq_true rfl⟩ dX8_shape_64 (fun S12 H locs hV hw => ?_)
      refine lv_iconst (v := 1) C0.x C0.b dX8_shape_67 (by decide) ?_
      exact r_iret C0 rfl hw hV dX8_shape_68
    · have hV := hV.1 c7
      refine lv_bipush (v := -2) C0.x C0.b dX8_shape_29 (by decide) ?_
      exact r_iret C0 rfl hw hV dX8_shape_31
  · have hV := hV.1 c4
    refine lv_iconst (v := -1) C0.x C0.b dX8_shape_12 (by decide) ?_
    exact r_iret C0 rfl hw hV dX8_shape_13
/-! StepBenchModel.ringOf([II)I -/
abbrev rm_X8_ringOf : Room := { frames := 4, cells := 0, slots := 0, locals := 95 }
set_option maxRecDepth 20000 in
theorem fw_X8_ringOf_170 : Cond.fieldLink RX8 170 "StepBenchModel" "shapeA" "J" ∈ wsX8_ringOf := by decide +kernel
set_option maxRecDepth 20000 in
theorem iw_X8_ringOf_X8 : ∀ w ∈ wsX80, w ∈ wsX8_ringOf := by decide +kernel
set_option maxRecDepth 20000 in
theorem fw_X8_ringOf_176 : Cond.fieldLink RX8 176 "StepBenchModel" "shapeD" "J" ∈ wsX8_ringOf := by decide +kernel
set_option maxRecDepth 20000 in
theorem fw_X8_ringOf_173 : Cond.fieldLink RX8 173 "StepBenchModel" "shapeB" "J" ∈ wsX8_ringOf := by decide +kernel
set_option maxRecDepth 20000 in
theorem fw_X8_ringOf_187 : Cond.fieldLink RX8 187 "StepBenchModel" "ringX" "J" ∈ wsX8_ringOf := by decide +kernel
set_option maxRecDepth 20000 in
theorem fw_X8_ringOf_190 : Cond.fieldLink RX8 190 "StepBenchModel" "ringLeast" "J" ∈ wsX8_ringOf := by decide +kernel
set_option maxRecDepth 20000 in
theorem fw_X8_ringOf_193 : Cond.fieldLink RX8 193 "StepBenchModel" "isUnlike" "Z" ∈ wsX8_ringOf := by decide +kernel
set_option maxRecDepth 20000 in
theorem fw_X8_ringOf_146 : Cond.fieldLink RX8 146 "StepBenchModel" "at" "J" ∈ wsX8_ringOf := by decide +kernel
set_option maxRecDepth 20000 in
theorem fw_X8_ringOf_105 : Cond.fieldLink RX8 105 "StepBenchModel" "m" "I" ∈ wsX8_ringOf := by decide +kernel
set_option maxRecDepth 20000 in
theorem ml_X8_ringOf_196 : Cond.methodLink RX8 196 Lib.MathLoose.min_long.x ∈ wsX8_ringOf := by decide +kernel
set_option maxRecDepth 20000 in
theorem ms_X8_ringOf_196 : Cond.static Lib.MathLoose.min_long.x ∈ wsX8_ringOf := by decide +kernel
set_option maxRecDepth 20000 in
theorem mi_X8_ringOf_196 : Cond.initialized "java/lang/Math" ∈ wsX8_ringOf := by decide +kernel
set_option maxRecDepth 20000 in
theorem mc_X8_ringOf_196 : Cond.code Lib.MathLoose.min_long.x Lib.MathLoose.min_long.code 4 (some .long) ∈ wsX8_ringOf := by decide +kernel
set_option maxRecDepth 20000 in
theorem hd_X8_ringOf : yX8_ringOf.cls = RX8 ∧ yX8_ringOf.cls ≠ "java/lang/invoke/MethodHandle" ∧ yX8_ringOf.cls ≠ "java/lang/invoke/VarHandle" ∧ (parseMethodDescriptor yX8_ringOf.desc).map (fun d => d.parameters.length) = some 2 := by decide +kernel
def V_X8_ringOf_84 (bi0 L0 : Nat) (v2 : Int32)  (post : Int32 → SS → Prop) : Nat → Int32 → SS → Prop
  | 0, _, _ => False
  | n + 1, v5, S =>
    ((v2 ≤ v5 → (((gJ S 0) = (gJ S 4) → (post (1 : Int32) S)) ∧ (¬ (gJ S 0) = (gJ S 4) → (post (0 : Int32) S)))) ∧ (¬ v2 ≤ v5 → (V_X8_isNumber (gJ S 0) S (fun (r11 : Int32) (S12 : SS) => ((r11 = 0 → (post (0 : Int32) S12)) ∧ (¬ r11 = 0 → (V_X8_restBy (gJ S12 0) (gI S12 26) S12 (fun (r14 : Int64) (S15 : SS) => (vp_in v5 L0 ∧ ((r14 = (gB S15 bi0 v5.toNatClampNeg).toInt64 → (((gI S15 30) = 0 → (∀ S18 : SS, S18 = (sI S15 30 (0 : Int32)) → (∀ y19 : Int64, y19 = (mnL (gJ S18 5) (gJ S18 0)) → (∀ S20 : SS, S20 = (sJ S18 5 y19) → (V_X8_goes (gJ S20 0) S20 (fun (r21 : Int32) (S22 : SS) => ((r21 = 0 → (∀ x24 : Int32, x24 = v5 + 1 → (V_X8_ringOf_84 bi0 L0 v2  post n x24 S22))) ∧ (¬ r21 = 0 → (post (0 : Int32) S22))))))))) ∧ (¬ (gI S15 30) = 0 → ((v5 = 0 → (∀ S26 : SS, S26 = (sI S15 30 (1 : Int32)) → (∀ y27 : Int64, y27 = (mnL (gJ S26 5) (gJ S26 0)) → (∀ S28 : SS, S28 = (sJ S26 5 y27) → (V_X8_goes (gJ S28 0) S28 (fun (r29 : Int32) (S30 : SS) => ((r29 = 0 → (∀ x32 : Int32, x32 = v5 + 1 → (V_X8_ringOf_84 bi0 L0 v2  post n x32 S30))) ∧ (¬ r29 = 0 → (post (0 : Int32) S30))))))))) ∧ (¬ v5 = 0 → (((gJ S15 0) = (gJ S15 4) → (∀ S34 : SS, S34 = (sI S15 30 (0 : Int32)) → (∀ y35 : Int64, y35 = (mnL (gJ S34 5) (gJ S34 0)) → (∀ S36 : SS, S36 = (sJ S34 5 y35) → (V_X8_goes (gJ S36 0) S36 (fun (r37 : Int32) (S38 : SS) => ((r37 = 0 → (∀ x40 : Int32, x40 = v5 + 1 → (V_X8_ringOf_84 bi0 L0 v2  post n x40 S38))) ∧ (¬ r37 = 0 → (post (0 : Int32) S38))))))))) ∧ (¬ (gJ S15 0) = (gJ S15 4) → (∀ S41 : SS, S41 = (sI S15 30 (1 : Int32)) → (∀ y42 : Int64, y42 = (mnL (gJ S41 5) (gJ S41 0)) → (∀ S43 : SS, S43 = (sJ S41 5 y42) → (V_X8_goes (gJ S43 0) S43 (fun (r44 : Int32) (S45 : SS) => ((r44 = 0 → (∀ x47 : Int32, x47 = v5 + 1 → (V_X8_ringOf_84 bi0 L0 v2  post n x47 S45))) ∧ (¬ r44 = 0 → (post (0 : Int32) S45))))))))))))))) ∧ (¬ r14 = (gB S15 bi0 v5.toNatClampNeg).toInt64 → (post (0 : Int32) S15))))))))))))
set_option maxHeartbeats 4000000 in
set_option maxRecDepth 100000 in
theorem lp_X8_ringOf_84 {pa0 bi0 L0 : Nat} (hO0 : lnB ad cI cJ X pa0 bi0 L0) (v2 : Int32)  (post : Int32 → SS → Prop) (C0 : Bd p s m meth c args cX8_ringOf 6 (some .int) wsX8_ringOf RX8 D n0 cI cJ) : ∀ (n : Nat) (v5 : Int32) (S : SS), V_X8_ringOf_84 bi0 L0 v2  post n v5 S → ∀ (H : Heap) (locs : List Loc), Wh D n0 ad cI cJ X S s H locs → ∀ ls : Array Slot, lv_has ls 6 [(0, .ref (ad 48)), (1, .ref (ad pa0)), (2, .int v2), (5, .int v5)] → W p l e rm_X8_ringOf s m args below meth c H locs 0 0 (MQ below (va_Qi post (fun S' t => Wd D n0 ad cI cJ X S' t) (fr n0)) args s 0 0 (fr n0)) (F0 m 84 ls []) := by
  intro n
  induction n with
  | zero => intro v5 S hV; exact False.elim hV
  | succ n ih =>
    intro v5 S hV H locs hw ls hl
    rw [V_X8_ringOf_84] at hV
    refine lv_iload C0.x C0.b dX8_ringOf_84 (lv_at hl 3 rfl) ?_
    refine lv_iload_n C0.x C0.b dX8_ringOf_86 rfl (lv_at hl 2 rfl) ?_
    refine lv_icmp_ge (tgt := 189) C0.x C0.b dX8_ringOf_87 (by decide) (fun c9 => ?_) (fun c9 => ?_)
    · have hV := hV.1 c9
      refine lv_aload_n C0.x C0.b dX8_ringOf_189 rfl (lv_at hl 0 rfl) ?_
      refine r_get C0 hw (C := RX8) (T := TX8) (N := 33) (v := .long (gJ S 0)) iw_X8_ringOf_X8 (lg_48 ad cI cJ X S) rfl 13 (by decide) (C0.ts _ fw_X8_ringOf_146) rfl dX8_ringOf_190 ?_
      refine lv_aload_n C0.x C0.b dX8_ringOf_193 rfl (lv_at hl 0 rfl) ?_
      refine r_get C0 hw (C := RX8) (T := TX8) (N := 33) (v := .long (gJ S 4)) iw_X8_ringOf_X8 (lg_48 ad cI cJ X S) rfl 23 (by decide) (C0.ts _ fw_X8_ringOf_187) rfl dX8_ringOf_194 ?_
      refine r_lcmp C0 dX8_ringOf_197 ?_
      refine lv_if_ne (tgt := 205) C0.x C0.b dX8_ringOf_198 (by decide) (fun c10 => ?_) (fun c10 => ?_)
      · have hV := hV.2 (fun h => c10 ((lc_eq _ _).mpr h))
        refine lv_iconst (v := 0) C0.x C0.b dX8_ringOf_205 (by decide) ?_
        exact r_iret C0 rfl hw hV dX8_ringOf_206
      · have hV := hV.1 ((lc_eq _ _).mp c10)
        refine lv_iconst (v := 1) C0.x C0.b dX8_ringOf_201 (by decide) ?_
        refine lv_goto (tgt := 206) C0.x C0.b dX8_ringOf_202 (by decide) ?_
        exact r_iret C0 rfl hw hV dX8_ringOf_206
    · have hV := hV.2 c9
      refine lv_aload_n C0.x C0.b dX8_ringOf_90 rfl (lv_at hl 0 rfl) ?_
      refine r_get C0 hw (C := RX8) (T := TX8) (N := 33) (v := .long (gJ S 0)) iw_X8_ringOf_X8 (lg_48 ad cI cJ X S) rfl 13 (by decide) (C0.ts _ fw_X8_ringOf_146) rfl dX8_ringOf_91 ?_
      refine r_cS_i (As := [.long (gJ S 0)]) (rest := []) C0 hw (c_X8_isNumber  hV) (va_cwS 1 C0.ts gX8_ringOf_X8_isNumber rfl rfl rfl hd_X8_isNumber ⟨Nat.le_of_ble_eq_true rfl, Nat.le_of_ble_eq_true rfl⟩) rfl hl.1 rfl (Nat.le_of_ble_eq_true rfl) ⟨Nat.le_of_ble_eq_true rfl, Nat.le_of_ble_eq_true rfl⟩ dX8_ringOf_94 (fun r11 S12 H locs hV hw => ?_)
      refine lv_if_eq (tgt := 120) C0.x C0.b dX8_ringOf_97 (by decide) (fun c13 => ?_) (fun c13 => ?_)
      · have hV := hV.1 c13
        refine lv_iconst (v := 0) C0.x C0.b dX8_ringOf_120 (by decide) ?_
        exact r_iret C0 rfl hw hV dX8_ringOf_121
      · have hV := hV.2 c13
        refine lv_aload_n C0.x C0.b dX8_ringOf_100 rfl (lv_at hl 0 rfl) ?_
        refine r_get C0 hw (C := RX8) (T := TX8) (N := 33) (v := .long (gJ S12 0)) iw_X8_ringOf_X8 (lg_48 ad cI cJ X S12) rfl 13 (by decide) (C0.ts _ fw_X8_ringOf_146) rfl dX8_ringOf_101 ?_
        refine lv_aload_n C0.x C0.b dX8_ringOf_104 rfl (lv_at hl 0 rfl) ?_
        refine r_get C0 hw (C := RX8) (T := TX8) (N := 33) (v := .int (gI S12 26)) iw_X8_ringOf_X8 (lg_48 ad cI cJ X S12) rfl 8 (by decide) (C0.ts _ fw_X8_ringOf_105) rfl dX8_ringOf_105 ?_
        refine r_cS_l (As := [.long (gJ S12 0), .int (gI S12 26)]) (rest := []) C0 hw (c_X8_restBy  hV) (va_cwS 2 C0.ts gX8_ringOf_X8_restBy rfl rfl rfl hd_X8_restBy ⟨Nat.le_of_ble_eq_true rfl, Nat.le_of_ble_eq_true rfl⟩) rfl hl.1 rfl (Nat.le_of_ble_eq_true rfl) ⟨Nat.le_of_ble_eq_true rfl, Nat.le_of_ble_eq_true rfl⟩ dX8_ringOf_108 (fun r14 S15 H locs hV hw => ?_)
        refine lv_aload_n C0.x C0.b dX8_ringOf_111 rfl (lv_at hl 1 rfl) ?_
        refine lv_iload C0.x C0.b dX8_ringOf_112 (lv_at hl 3 rfl) ?_
        refine r_iald C0 hw (hO0 S15).1 hV.1 dX8_ringOf_114 ?_
        have hV := hV.2
        refine lv_i2l C0.x C0.b dX8_ringOf_115 rfl ?_
        refine r_lcmp C0 dX8_ringOf_116 ?_
        refine lv_if_eq (tgt := 122) C0.x C0.b dX8_ringOf_117 (by decide) (fun c16 => ?_) (fun c16 => ?_)
        · have hV := hV.1 ((lc_eq _ _).mp c16)
          refine lv_aload_n C0.x C0.b dX8_ringOf_122 rfl (lv_at hl 0 rfl) ?_
          refine lv_aload_n C0.x C0.b dX8_ringOf_123 rfl (lv_at hl 0 rfl) ?_
          refine r_get C0 hw (C := RX8) (T := TX8) (N := 33) (v := .int (gI S15 30)) iw_X8_ringOf_X8 (lg_48 ad cI cJ X S15) rfl 25 (by decide) (C0.ts _ fw_X8_ringOf_193) rfl dX8_ringOf_124 ?_
          refine lv_if_eq (tgt := 151) C0.x C0.b dX8_ringOf_127 (by decide) (fun c17 => ?_) (fun c17 => ?_)
          · have hV := hV.1 c17
            refine lv_iconst (v := 0) C0.x C0.b dX8_ringOf_151 (by decide) ?_
            refine r_put C0 hw (C := RX8) (T := TX8) (N := 33) (ty := .boolean) iw_X8_ringOf_X8 tyX8 tyX8_ok nmX8 (lg_48 ad cI cJ X S15) rfl 25 (by decide) (C0.ts _ fw_X8_ringOf_193) rfl (by decide +kernel) rfl rfl (Nat.le_of_ble_eq_true rfl) dX8_ringOf_152 (S' := (sI S15 30 (0 : Int32))) (ls_48_25 ad cI cJ X S15 (0 : Int32)) (fun S18 H locs eS18 hw => ?_)
            have hV := hV S18 eS18
            refine lv_aload_n C0.x C0.b dX8_ringOf_155 rfl (lv_at hl 0 rfl) ?_
            refine lv_aload_n C0.x C0.b dX8_ringOf_156 rfl (lv_at hl 0 rfl) ?_
            refine r_get C0 hw (C := RX8) (T := TX8) (N := 33) (v := .long (gJ S18 5)) iw_X8_ringOf_X8 (lg_48 ad cI cJ X S18) rfl 24 (by decide) (C0.ts _ fw_X8_ringOf_190) rfl dX8_ringOf_157 ?_
            refine lv_aload_n C0.x C0.b dX8_ringOf_160 rfl (lv_at hl 0 rfl) ?_
            refine r_get C0 hw (C := RX8) (T := TX8) (N := 33) (v := .long (gJ S18 0)) iw_X8_ringOf_X8 (lg_48 ad cI cJ X S18) rfl 13 (by decide) (C0.ts _ fw_X8_ringOf_146) rfl dX8_ringOf_161 ?_
            refine va_mmin_long C0.x C0.b (C0.ml.trans hl.1.symm) C0.ow (C0.ts _ ml_X8_ringOf_196) (C0.ts _ ms_X8_ringOf_196) (C0.ts _ mi_X8_ringOf_196) (C0.ts _ mc_X8_ringOf_196) (Nat.le_of_ble_eq_true rfl) (Nat.le_of_ble_eq_true rfl) (Nat.le_of_ble_eq_true rfl) (Nat.le_of_ble_eq_true rfl) dX8_ringOf_164 ?_
            refine lv_topl (fun y19 ey19 => ?_)
            have hV := hV y19 ey19
            refine r_put C0 hw (C := RX8) (T := TX8) (N := 33) (ty := .long) iw_X8_ringOf_X8 tyX8 tyX8_ok nmX8 (lg_48 ad cI cJ X S18) rfl 24 (by decide) (C0.ts _ fw_X8_ringOf_190) rfl (by decide +kernel) rfl rfl (Nat.le_of_ble_eq_true rfl) dX8_ringOf_167 (S' := (sJ S18 5 y19)) (ls_48_24 ad cI cJ X S18 y19) (fun S20 H locs eS20 hw => ?_)
            have hV := hV S20 eS20
            refine lv_aload_n C0.x C0.b dX8_ringOf_170 rfl (lv_at hl 0 rfl) ?_
            refine lv_aload_n C0.x C0.b dX8_ringOf_171 rfl (lv_at hl 0 rfl) ?_
            refine r_get C0 hw (C := RX8) (T := TX8) (N := 33) (v := .long (gJ S20 0)) iw_X8_ringOf_X8 (lg_48 ad cI cJ X S20) rfl 13 (by decide) (C0.ts _ fw_X8_ringOf_146) rfl dX8_ringOf_172 ?_
            refine r_cV_i (As := [.long (gJ S20 0)]) (rest := []) C0 hw (c_X8_goes  hV) (cwV 1 C0.ts gX8_ringOf_X8_goes rfl rfl rfl hd_X8_goes ⟨Nat.le_of_ble_eq_true rfl, Nat.le_of_ble_eq_true rfl⟩) (lg_48 ad cI cJ X S20) rfl rfl hl.1 rfl (Nat.le_of_ble_eq_true rfl) ⟨Nat.le_of_ble_eq_true rfl, Nat.le_of_ble_eq_true rfl⟩ dX8_ringOf_175 (fun r21 S22 H locs hV hw => ?_)
            refine lv_if_eq (tgt := 183) C0.x C0.b dX8_ringOf_178 (by decide) (fun c23 => ?_) (fun c23 => ?_)
            · have hV := hV.1 c23
              obtain ⟨x24, ex24⟩ : ∃ z : Int32, z = v5 + 1 := ⟨_, rfl⟩
              have hV := hV x24 ex24
              refine lv_iinc (v := x24) (lv' := [(5, .int x24), (0, .ref (ad 48)), (1, .ref (ad pa0)), (2, .int v2)]) C0.x C0.b dX8_ringOf_183 hl (k := 3) rfl (by rw [ex24]; rfl) (by decide) rfl (fun ls hl => ?_)
              refine lv_goto (tgt := 84) C0.x C0.b dX8_ringOf_186 (by decide) ?_
              exact ih _ _ hV _ _ hw _ (lv_sub hl [1, 2, 3, 0] rfl)
            · have hV := hV.2 c23
              refine lv_iconst (v := 0) C0.x C0.b dX8_ringOf_181 (by decide) ?_
              exact r_iret C0 rfl hw hV dX8_ringOf_182
          · have hV := hV.2 c17
            refine lv_iload C0.x C0.b dX8_ringOf_130 (lv_at hl 3 rfl) ?_
            refine lv_if_eq (tgt := 147) C0.x C0.b dX8_ringOf_132 (by decide) (fun c25 => ?_) (fun c25 => ?_)
            · have hV := hV.1 c25
              refine lv_iconst (v := 1) C0.x C0.b dX8_ringOf_147 (by decide) ?_
              refine lv_goto (tgt := 152) C0.x C0.b dX8_ringOf_148 (by decide) ?_
              refine r_put C0 hw (C := RX8) (T := TX8) (N := 33) (ty := .boolean) iw_X8_ringOf_X8 tyX8 tyX8_ok nmX8 (lg_48 ad cI cJ X S15) rfl 25 (by decide) (C0.ts _ fw_X8_ringOf_193) rfl (by decide +kernel) rfl rfl (Nat.le_of_ble_eq_true rfl) dX8_ringOf_152 (S' := (sI S15 30 (1 : Int32))) (ls_48_25 ad cI cJ X S15 (1 : Int32)) (fun S26 H locs eS26 hw => ?_)
              have hV := hV S26 eS26
              refine lv_aload_n C0.x C0.b dX8_ringOf_155 rfl (lv_at hl 0 rfl) ?_
              refine lv_aload_n C0.x C0.b dX8_ringOf_156 rfl (lv_at hl 0 rfl) ?_
              refine r_get C0 hw (C := RX8) (T := TX8) (N := 33) (v := .long (gJ S26 5)) iw_X8_ringOf_X8 (lg_48 ad cI cJ X S26) rfl 24 (by decide) (C0.ts _ fw_X8_ringOf_190) rfl dX8_ringOf_157 ?_
              refine lv_aload_n C0.x C0.b dX8_ringOf_160 rfl (lv_at hl 0 rfl) ?_
              refine r_get C0 hw (C := RX8) (T := TX8) (N := 33) (v := .long (gJ S26 0)) iw_X8_ringOf_X8 (lg_48 ad cI cJ X S26) rfl 13 (by decide) (C0.ts _ fw_X8_ringOf_146) rfl dX8_ringOf_161 ?_
              refine va_mmin_long C0.x C0.b (C0.ml.trans hl.1.symm) C0.ow (C0.ts _ ml_X8_ringOf_196) (C0.ts _ ms_X8_ringOf_196) (C0.ts _ mi_X8_ringOf_196) (C0.ts _ mc_X8_ringOf_196) (Nat.le_of_ble_eq_true rfl) (Nat.le_of_ble_eq_true rfl) (Nat.le_of_ble_eq_true rfl) (Nat.le_of_ble_eq_true rfl) dX8_ringOf_164 ?_
              refine lv_topl (fun y27 ey27 => ?_)
              have hV := hV y27 ey27
              refine r_put C0 hw (C := RX8) (T := TX8) (N := 33) (ty := .long) iw_X8_ringOf_X8 tyX8 tyX8_ok nmX8 (lg_48 ad cI cJ X S26) rfl 24 (by decide) (C0.ts _ fw_X8_ringOf_190) rfl (by decide +kernel) rfl rfl (Nat.le_of_ble_eq_true rfl) dX8_ringOf_167 (S' := (sJ S26 5 y27)) (ls_48_24 ad cI cJ X S26 y27) (fun S28 H locs eS28 hw => ?_)
              have hV := hV S28 eS28
              refine lv_aload_n C0.x C0.b dX8_ringOf_170 rfl (lv_at hl 0 rfl) ?_
              refine lv_aload_n C0.x C0.b dX8_ringOf_171 rfl (lv_at hl 0 rfl) ?_
              refine r_get C0 hw (C := RX8) (T := TX8) (N := 33) (v := .long (gJ S28 0)) iw_X8_ringOf_X8 (lg_48 ad cI cJ X S28) rfl 13 (by decide) (C0.ts _ fw_X8_ringOf_146) rfl dX8_ringOf_172 ?_
              refine r_cV_i (As := [.long (gJ S28 0)]) (rest := []) C0 hw (c_X8_goes  hV) (cwV 1 C0.ts gX8_ringOf_X8_goes rfl rfl rfl hd_X8_goes ⟨Nat.le_of_ble_eq_true rfl, Nat.le_of_ble_eq_true rfl⟩) (lg_48 ad cI cJ X S28) rfl rfl hl.1 rfl (Nat.le_of_ble_eq_true rfl) ⟨Nat.le_of_ble_eq_true rfl, Nat.le_of_ble_eq_true rfl⟩ dX8_ringOf_175 (fun r29 S30 H locs hV hw => ?_)
              refine lv_if_eq (tgt := 183) C0.x C0.b dX8_ringOf_178 (by decide) (fun c31 => ?_) (fun c31 => ?_)
              · have hV := hV.1 c31
                obtain ⟨x32, ex32⟩ : ∃ z : Int32, z = v5 + 1 := ⟨_, rfl⟩
                have hV := hV x32 ex32
                refine lv_iinc (v := x32) (lv' := [(5, .int x32), (0, .ref (ad 48)), (1, .ref (ad pa0)), (2, .int v2)]) C0.x C0.b dX8_ringOf_183 hl (k := 3) rfl (by rw [ex32]; rfl) (by decide) rfl (fun ls hl => ?_)
                refine lv_goto (tgt := 84) C0.x C0.b dX8_ringOf_186 (by decide) ?_
                exact ih _ _ hV _ _ hw _ (lv_sub hl [1, 2, 3, 0] rfl)
              · have hV := hV.2 c31
                refine lv_iconst (v := 0) C0.x C0.b dX8_ringOf_181 (by decide) ?_
                exact r_iret C0 rfl hw hV dX8_ringOf_182
            · have hV := hV.2 c25
              refine lv_aload_n C0.x C0.b dX8_ringOf_135 rfl (lv_at hl 0 rfl) ?_
              refine r_get C0 hw (C := RX8) (T := TX8) (N := 33) (v := .long (gJ S15 0)) iw_X8_ringOf_X8 (lg_48 ad cI cJ X S15) rfl 13 (by decide) (C0.ts _ fw_X8_ringOf_146) rfl dX8_ringOf_136 ?_
              refine lv_aload_n C0.x C0.b dX8_ringOf_139 rfl (lv_at hl 0 rfl) ?_
              refine r_get C0 hw (C := RX8) (T := TX8) (N := 33) (v := .long (gJ S15 4)) iw_X8_ringOf_X8 (lg_48 ad cI cJ X S15) rfl 23 (by decide) (C0.ts _ fw_X8_ringOf_187) rfl dX8_ringOf_140 ?_
              refine r_lcmp C0 dX8_ringOf_143 ?_
              refine lv_if_eq (tgt := 151) C0.x C0.b dX8_ringOf_144 (by decide) (fun c33 => ?_) (fun c33 => ?_)
              · have hV := hV.1 ((lc_eq _ _).mp c33)
                refine lv_iconst (v := 0) C0.x C0.b dX8_ringOf_151 (by decide) ?_
                refine r_put C0 hw (C := RX8) (T := TX8) (N := 33) (ty := .boolean) iw_X8_ringOf_X8 tyX8 tyX8_ok nmX8 (lg_48 ad cI cJ X S15) rfl 25 (by decide) (C0.ts _ fw_X8_ringOf_193) rfl (by decide +kernel) rfl rfl (Nat.le_of_ble_eq_true rfl) dX8_ringOf_152 (S' := (sI S15 30 (0 : Int32))) (ls_48_25 ad cI cJ X S15 (0 : Int32)) (fun S34 H locs eS34 hw => ?_)
                have hV := hV S34 eS34
                refine lv_aload_n C0.x C0.b dX8_ringOf_155 rfl (lv_at hl 0 rfl) ?_
                refine lv_aload_n C0.x C0.b dX8_ringOf_156 rfl (lv_at hl 0 rfl) ?_
                refine r_get C0 hw (C := RX8) (T := TX8) (N := 33) (v := .long (gJ S34 5)) iw_X8_ringOf_X8 (lg_48 ad cI cJ X S34) rfl 24 (by decide) (C0.ts _ fw_X8_ringOf_190) rfl dX8_ringOf_157 ?_
                refine lv_aload_n C0.x C0.b dX8_ringOf_160 rfl (lv_at hl 0 rfl) ?_
                refine r_get C0 hw (C := RX8) (T := TX8) (N := 33) (v := .long (gJ S34 0)) iw_X8_ringOf_X8 (lg_48 ad cI cJ X S34) rfl 13 (by decide) (C0.ts _ fw_X8_ringOf_146) rfl dX8_ringOf_161 ?_
                refine va_mmin_long C0.x C0.b (C0.ml.trans hl.1.symm) C0.ow (C0.ts _ ml_X8_ringOf_196) (C0.ts _ ms_X8_ringOf_196) (C0.ts _ mi_X8_ringOf_196) (C0.ts _ mc_X8_ringOf_196) (Nat.le_of_ble_eq_true rfl) (Nat.le_of_ble_eq_true rfl) (Nat.le_of_ble_eq_true rfl) (Nat.le_of_ble_eq_true rfl) dX8_ringOf_164 ?_
                refine lv_topl (fun y35 ey35 => ?_)
                have hV := hV y35 ey35
                refine r_put C0 hw (C := RX8) (T := TX8) (N := 33) (ty := .long) iw_X8_ringOf_X8 tyX8 tyX8_ok nmX8 (lg_48 ad cI cJ X S34) rfl 24 (by decide) (C0.ts _ fw_X8_ringOf_190) rfl (by decide +kernel) rfl rfl (Nat.le_of_ble_eq_true rfl) dX8_ringOf_167 (S' := (sJ S34 5 y35)) (ls_48_24 ad cI cJ X S34 y35) (fun S36 H locs eS36 hw => ?_)
                have hV := hV S36 eS36
                refine lv_aload_n C0.x C0.b dX8_ringOf_170 rfl (lv_at hl 0 rfl) ?_
                refine lv_aload_n C0.x C0.b dX8_ringOf_171 rfl (lv_at hl 0 rfl) ?_
                refine r_get C0 hw (C := RX8) (T := TX8) (N := 33) (v := .long (gJ S36 0)) iw_X8_ringOf_X8 (lg_48 ad cI cJ X S36) rfl 13 (by decide) (C0.ts _ fw_X8_ringOf_146) rfl dX8_ringOf_172 ?_
                refine r_cV_i (As := [.long (gJ S36 0)]) (rest := []) C0 hw (c_X8_goes  hV) (cwV 1 C0.ts gX8_ringOf_X8_goes rfl rfl rfl hd_X8_goes ⟨Nat.le_of_ble_eq_true rfl, Nat.le_of_ble_eq_true rfl⟩) (lg_48 ad cI cJ X S36) rfl rfl hl.1 rfl (Nat.le_of_ble_eq_true rfl) ⟨Nat.le_of_ble_eq_true rfl, Nat.le_of_ble_eq_true rfl⟩ dX8_ringOf_175 (fun r37 S38 H locs hV hw => ?_)
                refine lv_if_eq (tgt := 183) C0.x C0.b dX8_ringOf_178 (by decide) (fun c39 => ?_) (fun c39 => ?_)
                · have hV := hV.1 c39
                  obtain ⟨x40, ex40⟩ : ∃ z : Int32, z = v5 + 1 := ⟨_, rfl⟩
                  have hV := hV x40 ex40
                  refine lv_iinc (v := x40) (lv' := [(5, .int x40), (0, .ref (ad 48)), (1, .ref (ad pa0)), (2, .int v2)]) C0.x C0.b dX8_ringOf_183 hl (k := 3) rfl (by rw [ex40]; rfl) (by decide) rfl (fun ls hl => ?_)
                  refine lv_goto (tgt := 84) C0.x C0.b dX8_ringOf_186 (by decide) ?_
                  exact ih _ _ hV _ _ hw _ (lv_sub hl [1, 2, 3, 0] rfl)
                · have hV := hV.2 c39
                  refine lv_iconst (v := 0) C0.x C0.b dX8_ringOf_181 (by decide) ?_
                  exact r_iret C0 rfl hw hV dX8_ringOf_182
              · have hV := hV.2 (fun h => c33 ((lc_eq _ _).mpr h))
                refine lv_iconst (v := 1) C0.x C0.b dX8_ringOf_147 (by decide) ?_
                refine lv_goto (tgt := 152) C0.x C0.b dX8_ringOf_148 (by decide) ?_
                refine r_put C0 hw (C := RX8) (T := TX8) (N := 33) (ty := .boolean) iw_X8_ringOf_X8 tyX8 tyX8_ok nmX8 (lg_48 ad cI cJ X S15) rfl 25 (by decide) (C0.ts _ fw_X8_ringOf_193) rfl (by decide +kernel) rfl rfl (Nat.le_of_ble_eq_true rfl) dX8_ringOf_152 (S' := (sI S15 30 (1 : Int32))) (ls_48_25 ad cI cJ X S15 (1 : Int32)) (fun S41 H locs eS41 hw => ?_)
                have hV := hV S41 eS41
                refine lv_aload_n C0.x C0.b dX8_ringOf_155 rfl (lv_at hl 0 rfl) ?_
                refine lv_aload_n C0.x C0.b dX8_ringOf_156 rfl (lv_at hl 0 rfl) ?_
                refine r_get C0 hw (C := RX8) (T := TX8) (N := 33) (v := .long (gJ S41 5)) iw_X8_ringOf_X8 (lg_48 ad cI cJ X S41) rfl 24 (by decide) (C0.ts _ fw_X8_ringOf_190) rfl dX8_ringOf_157 ?_
                refine lv_aload_n C0.x C0.b dX8_ringOf_160 rfl (lv_at hl 0 rfl) ?_
                refine r_get C0 hw (C := RX8) (T := TX8) (N := 33) (v := .long (gJ S41 0)) iw_X8_ringOf_X8 (lg_48 ad cI cJ X S41) rfl 13 (by decide) (C0.ts _ fw_X8_ringOf_146) rfl dX8_ringOf_161 ?_
                refine va_mmin_long C0.x C0.b (C0.ml.trans hl.1.symm) C0.ow (C0.ts _ ml_X8_ringOf_196) (C0.ts _ ms_X8_ringOf_196) (C0.ts _ mi_X8_ringOf_196) (C0.ts _ mc_X8_ringOf_196) (Nat.le_of_ble_eq_true rfl) (Nat.le_of_ble_eq_true rfl) (Nat.le_of_ble_eq_true rfl) (Nat.le_of_ble_eq_true rfl) dX8_ringOf_164 ?_
                refine lv_topl (fun y42 ey42 => ?_)
                have hV := hV y42 ey42
                refine r_put C0 hw (C := RX8) (T := TX8) (N := 33) (ty := .long) iw_X8_ringOf_X8 tyX8 tyX8_ok nmX8 (lg_48 ad cI cJ X S41) rfl 24 (by decide) (C0.ts _ fw_X8_ringOf_190) rfl (by decide +kernel) rfl rfl (Nat.le_of_ble_eq_true rfl) dX8_ringOf_167 (S' := (sJ S41 5 y42)) (ls_48_24 ad cI cJ X S41 y42) (fun S43 H locs eS43 hw => ?_)
                have hV := hV S43 eS43
                refine lv_aload_n C0.x C0.b dX8_ringOf_170 rfl (lv_at hl 0 rfl) ?_
                refine lv_aload_n C0.x C0.b dX8_ringOf_171 rfl (lv_at hl 0 rfl) ?_
                refine r_get C0 hw (C := RX8) (T := TX8) (N := 33) (v := .long (gJ S43 0)) iw_X8_ringOf_X8 (lg_48 ad cI cJ X S43) rfl 13 (by decide) (C0.ts _ fw_X8_ringOf_146) rfl dX8_ringOf_172 ?_
                refine r_cV_i (As := [.long (gJ S43 0)]) (rest := []) C0 hw (c_X8_goes  hV) (cwV 1 C0.ts gX8_ringOf_X8_goes rfl rfl rfl hd_X8_goes ⟨Nat.le_of_ble_eq_true rfl, Nat.le_of_ble_eq_true rfl⟩) (lg_48 ad cI cJ X S43) rfl rfl hl.1 rfl (Nat.le_of_ble_eq_true rfl) ⟨Nat.le_of_ble_eq_true rfl, Nat.le_of_ble_eq_true rfl⟩ dX8_ringOf_175 (fun r44 S45 H locs hV hw => ?_)
                refine lv_if_eq (tgt := 183) C0.x C0.b dX8_ringOf_178 (by decide) (fun c46 => ?_) (fun c46 => ?_)
                · have hV := hV.1 c46
                  obtain ⟨x47, ex47⟩ : ∃ z : Int32, z = v5 + 1 := ⟨_, rfl⟩
                  have hV := hV x47 ex47
                  refine lv_iinc (v := x47) (lv' := [(5, .int x47), (0, .ref (ad 48)), (1, .ref (ad pa0)), (2, .int v2)]) C0.x C0.b dX8_ringOf_183 hl (k := 3) rfl (by rw [ex47]; rfl) (by decide) rfl (fun ls hl => ?_)
                  refine lv_goto (tgt := 84) C0.x C0.b dX8_ringOf_186 (by decide) ?_
                  exact ih _ _ hV _ _ hw _ (lv_sub hl [1, 2, 3, 0] rfl)
                · have hV := hV.2 c46
                  refine lv_iconst (v := 0) C0.x C0.b dX8_ringOf_181 (by decide) ?_
                  exact r_iret C0 rfl hw hV dX8_ringOf_182
        · have hV := hV.2 (fun h => c16 ((lc_eq _ _).mpr h))
          refine lv_iconst (v := 0) C0.x C0.b dX8_ringOf_120 (by decide) ?_
          exact r_iret C0 rfl hw hV dX8_ringOf_121
def V_X8_ringOf (bi0 L0 : Nat) (p1 : Int32) (S : SS) (post : Int32 → SS → Prop) : Prop :=
  (((gJ S 1) = (gJ S 3) → (((gJ S 2) = (0 : Int64) → (post (2 : Int32) S)) ∧ (¬ (gJ S 2) = (0 : Int64) → (post (0 : Int32) S)))) ∧ (¬ (gJ S 1) = (gJ S 3) → (∀ y3 : Int64, y3 = ((gJ S 3) - (gJ S 1)) → (¬ y3 = 0 ∧ (((lrm (gJ S 2) y3) = (0 : Int64) → (¬ y3 = 0 ∧ (∀ S5 : SS, S5 = (sJ S 4 ((gJ S 2) / y3)) → (∀ S6 : SS, S6 = (sJ S5 5 (gJ S5 4)) → (∀ S7 : SS, S7 = (sI S6 30 (1 : Int32)) → (∀ S8 : SS, S8 = (sJ S7 0 (gJ S7 4)) → (∃ n84 : Nat, V_X8_ringOf_84 bi0 L0 p1  post n84 (0 : Int32) S8))))))) ∧ (¬ (lrm (gJ S 2) y3) = (0 : Int64) → (post (0 : Int32) S)))))))
set_option maxHeartbeats 4000000 in
set_option maxRecDepth 100000 in
theorem c_X8_ringOf {pa0 bi0 L0 : Nat} (hO0 : lnB ad cI cJ X pa0 bi0 L0) {S : SS} {p1 : Int32} {post : Int32 → SS → Prop} (hV : V_X8_ringOf bi0 L0 p1 S post) : MI l yX8_ringOf wsX8_ringOf rm_X8_ringOf [.ref (ad 48), .ref (ad pa0), .int p1] D n0 ad cI cJ X S post := by
  refine Met.ofW (cc := cX8_ringOf) (maxL := 6) (ret := (some .int)) (by decide) rfl ?_
  intro p e s m args below meth c s₁ B hml hv
  obtain ⟨rfl, hv⟩ := hv
  have C0 := Bd.mk B hml (atoms_spec (ws := wsX8_ringOf) B.pre) (findClass_of_methodNamed B.named) hv.1
  have hw : Wh D n0 ad cI cJ X S s s.heap [] := ⟨hv.2.1, hv.2.2, va_S.rf⟩
  refine r_entry (Nat.le_of_ble_eq_true rfl) (fun ls hl => ?_)
  have hl : lv_has ls 6 [(0, .ref (ad 48)), (1, .ref (ad pa0)), (2, .int p1)] := hl
  unfold V_X8_ringOf at hV
  refine lv_aload_n C0.x C0.b dX8_ringOf_0 rfl (lv_at hl 0 rfl) ?_
  refine r_get C0 hw (C := RX8) (T := TX8) (N := 33) (v := .long (gJ S 1)) iw_X8_ringOf_X8 (lg_48 ad cI cJ X S) rfl 19 (by decide) (C0.ts _ fw_X8_ringOf_170) rfl dX8_ringOf_1 ?_
  refine lv_aload_n C0.x C0.b dX8_ringOf_4 rfl (lv_at hl 0 rfl) ?_
  refine r_get C0 hw (C := RX8) (T := TX8) (N := 33) (v := .long (gJ S 3)) iw_X8_ringOf_X8 (lg_48 ad cI cJ X S) rfl 21 (by decide) (C0.ts _ fw_X8_ringOf_176) rfl dX8_ringOf_5 ?_
  refine r_lcmp C0 dX8_ringOf_8 ?_
  refine lv_if_ne (tgt := 27) C0.x C0.b dX8_ringOf_9 (by decide) (fun c1 => ?_) (fun c1 => ?_)
  · have hV := hV.2 (fun h => c1 ((lc_eq _ _).mpr h))
    refine lv_aload_n C0.x C0.b dX8_ringOf_27 rfl (lv_at hl 0 rfl) ?_
    refine r_get C0 hw (C := RX8) (T := TX8) (N := 33) (v := .long (gJ S 3)) iw_X8_ringOf_X8 (lg_48 ad cI cJ X S) rfl 21 (by decide) (C0.ts _ fw_X8_ringOf_176) rfl dX8_ringOf_28 ?_
    refine lv_aload_n C0.x C0.b dX8_ringOf_31 rfl (lv_at hl 0 rfl) ?_
    refine r_get C0 hw (C := RX8) (T := TX8) (N := 33) (v := .long (gJ S 1)) iw_X8_ringOf_X8 (lg_48 ad cI cJ X S) rfl 19 (by decide) (C0.ts _ fw_X8_ringOf_170) rfl dX8_ringOf_32 ?_
    refine lv_lsub C0.x C0.b dX8_ringOf_35 ?_
    refine lv_topl (fun y3 ey3 => ?_)
    have hV := hV y3 ey3
    refine lv_lstore_n (lv' := [(3, .long y3), (0, .ref (ad 48)), (1, .ref (ad pa0)), (2, .int p1)]) C0.x C0.b dX8_ringOf_36 rfl hl (by decide) rfl (fun ls hl => ?_)
    refine lv_aload_n C0.x C0.b dX8_ringOf_37 rfl (lv_at hl 1 rfl) ?_
    refine r_get C0 hw (C := RX8) (T := TX8) (N := 33) (v := .long (gJ S 2)) iw_X8_ringOf_X8 (lg_48 ad cI cJ X S) rfl 20 (by decide) (C0.ts _ fw_X8_ringOf_173) rfl dX8_ringOf_38 ?_
    refine lv_lload_n C0.x C0.b dX8_ringOf_41 rfl (lv_at hl 0 rfl) ?_
    refine lv_lrem C0.x C0.b dX8_ringOf_42 hV.1 ?_
    have hV := hV.2
    refine lv_lconst (v := 0) C0.x C0.b dX8_ringOf_43 (by decide) ?_
    refine r_lcmp C0 dX8_ringOf_44 ?_
    refine lv_if_eq (tgt := 50) C0.x C0.b dX8_ringOf_45 (by decide) (fun c4 => ?_) (fun c4 => ?_)
    · have hV := hV.1 ((lc_eq _ _).mp c4)
      refine lv_aload_n C0.x C0.b dX8_ringOf_50 rfl (lv_at hl 1 rfl) ?_
      refine lv_aload_n C0.x C0.b dX8_ringOf_51 rfl (lv_at hl 1 rfl) ?_
      refine r_get C0 hw (C := RX8) (T := TX8) (N := 33) (v := .long (gJ S 2)) iw_X8_ringOf_X8 (lg_48 ad cI cJ X S) rfl 20 (by decide) (C0.ts _ fw_X8_ringOf_173) rfl dX8_ringOf_52 ?_
      refine lv_lload_n C0.x C0.b dX8_ringOf_55 rfl (lv_at hl 0 rfl) ?_
      refine lv_ldiv C0.x C0.b dX8_ringOf_56 hV.1 ?_
      have hV := hV.2
      refine r_put C0 hw (C := RX8) (T := TX8) (N := 33) (ty := .long) iw_X8_ringOf_X8 tyX8 tyX8_ok nmX8 (lg_48 ad cI cJ X S) rfl 23 (by decide) (C0.ts _ fw_X8_ringOf_187) rfl (by decide +kernel) rfl rfl (Nat.le_of_ble_eq_true rfl) dX8_ringOf_57 (S' := (sJ S 4 ((gJ S 2) / y3))) (ls_48_23 ad cI cJ X S ((gJ S 2) / y3)) (fun S5 H locs eS5 hw => ?_)
      have hV := hV S5 eS5
      refine lv_aload_n C0.x C0.b dX8_ringOf_60 rfl (lv_at hl 1 rfl) ?_
      refine lv_aload_n C0.x C0.b dX8_ringOf_61 rfl (lv_at hl 1 rfl) ?_
      refine r_get C0 hw (C := RX8) (T := TX8) (N := 33) (v := .long (gJ S5 4)) iw_X8_ringOf_X8 (lg_48 ad cI cJ X S5) rfl 23 (by decide) (C0.ts _ fw_X8_ringOf_187) rfl dX8_ringOf_62 ?_
      refine r_put C0 hw (C := RX8) (T := TX8) (N := 33) (ty := .long) iw_X8_ringOf_X8 tyX8 tyX8_ok nmX8 (lg_48 ad cI cJ X S5) rfl 24 (by decide) (C0.ts _ fw_X8_ringOf_190) rfl (by decide +kernel) rfl rfl (Nat.le_of_ble_eq_true rfl) dX8_ringOf_65 (S' := (sJ S5 5 (gJ S5 4))) (ls_48_24 ad cI cJ X S5 (gJ S5 4)) (fun S6 H locs eS6 hw => ?_)
      have hV := hV S6 eS6
      refine lv_aload_n C0.x C0.b dX8_ringOf_68 rfl (lv_at hl 1 rfl) ?_
      refine lv_iconst (v := 1) C0.x C0.b dX8_ringOf_69 (by decide) ?_
      refine r_put C0 hw (C := RX8) (T := TX8) (N := 33) (ty := .boolean) iw_X8_ringOf_X8 tyX8 tyX8_ok nmX8 (lg_48 ad cI cJ X S6) rfl 25 (by decide) (C0.ts _ fw_X8_ringOf_193) rfl (by decide +kernel) rfl rfl (Nat.le_of_ble_eq_true rfl) dX8_ringOf_70 (S' := (sI S6 30 (1 : Int32))) (ls_48_25 ad cI cJ X S6 (1 : Int32)) (fun S7 H locs eS7 hw => ?_)
      have hV := hV S7 eS7
      refine lv_aload_n C0.x C0.b dX8_ringOf_73 rfl (lv_at hl 1 rfl) ?_
      refine lv_aload_n C0.x C0.b dX8_ringOf_74 rfl (lv_at hl 1 rfl) ?_
      refine r_get C0 hw (C := RX8) (T := TX8) (N := 33) (v := .long (gJ S7 4)) iw_X8_ringOf_X8 (lg_48 ad cI cJ X S7) rfl 23 (by decide) (C0.ts _ fw_X8_ringOf_187) rfl dX8_ringOf_75 ?_
      refine r_put C0 hw (C := RX8) (T := TX8) (N := 33) (ty := .long) iw_X8_ringOf_X8 tyX8 tyX8_ok nmX8 (lg_48 ad cI cJ X S7) rfl 13 (by decide) (C0.ts _ fw_X8_ringOf_146) rfl (by decide +kernel) rfl rfl (Nat.le_of_ble_eq_true rfl) dX8_ringOf_78 (S' := (sJ S7 0 (gJ S7 4))) (ls_48_13 ad cI cJ X S7 (gJ S7 4)) (fun S8 H locs eS8 hw => ?_)
      have hV := hV S8 eS8
      refine lv_iconst (v := 0) C0.x C0.b dX8_ringOf_81 (by decide) ?_
      refine lv_istore (lv' := [(5, .int (0 : Int32)), (3, .long y3), (0, .ref (ad 48)), (1, .ref (ad pa0)), (2, .int p1)]) C0.x C0.b dX8_ringOf_82 hl (by decide) rfl (fun ls hl => ?_)
      obtain ⟨n84, hV⟩ := hV
      exact lp_X8_ringOf_84 hO0 _ post C0  n84 _ _ hV _ _ hw _ (lv_sub hl [2, 3, 4, 0] rfl)
    · have hV := hV.2 (fun h => c4 ((lc_eq _ _).mpr h))
      refine lv_iconst (v := 0) C0.x C0.b dX8_ringOf_48 (by decide) ?_
      exact r_iret C0 rfl hw hV dX8_ringOf_49
  · have hV := hV.1 ((lc_eq _ _).mp c1)
    refine lv_aload_n C0.x C0.b dX8_ringOf_12 rfl (lv_at hl 0 rfl) ?_
    refine r_get C0 hw (C := RX8) (T := TX8) (N := 33) (v := .long (gJ S 2)) iw_X8_ringOf_X8 (lg_48 ad cI cJ X S) rfl 20 (by decide) (C0.ts _ fw_X8_ringOf_173) rfl dX8_ringOf_13 ?_
    refine lv_lconst (v := 0) C0.x C0.b dX8_ringOf_16 (by decide) ?_
    refine r_lcmp C0 dX8_ringOf_17 ?_
    refine lv_if_ne (tgt := 25) C0.x C0.b dX8_ringOf_18 (by decide) (fun c2 => ?_) (fun c2 => ?_)
    · have hV := hV.2 (fun h => c2 ((lc_eq _ _).mpr h))
      refine lv_iconst (v := 0) C0.x C0.b dX8_ringOf_25 (by decide) ?_
      exact r_iret C0 rfl hw hV dX8_ringOf_26
    · have hV := hV.1 ((lc_eq _ _).mp c2)
      refine lv_iconst (v := 2) C0.x C0.b dX8_ringOf_21 (by decide) ?_
      refine lv_goto (tgt := 26) C0.x C0.b dX8_ringOf_22 (by decide) ?_
      exact r_iret C0 rfl hw hV dX8_ringOf_26
end
