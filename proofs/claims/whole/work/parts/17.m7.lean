section
variable {p : Program} {l : Launch} {e : Env} {s : State} {m : MethodId} {args : Array Value} {below : List Frame} {meth : Method} {c : Code}
variable {D : va_G} {n0 : Nat} {ad : Nat → Nat} {cI cJ : ClassId} {X : va_W}
/-! StepBenchModel.backOf(JI)I -/
abbrev rm_X8_backOf : Room := { frames := 2, cells := 0, slots := 0, locals := 47 }
set_option maxRecDepth 20000 in
theorem fw_X8_backOf_105 : Cond.fieldLink RX8 105 "StepBenchModel" "m" "I" ∈ wsX8_backOf := by decide +kernel
set_option maxRecDepth 20000 in
theorem iw_X8_backOf_X8 : ∀ w ∈ wsX80, w ∈ wsX8_backOf := by decide +kernel
set_option maxRecDepth 20000 in
theorem fw_X8_backOf_20 : Cond.fieldLink RX8 20 "StepBenchModel" "rule" "[J" ∈ wsX8_backOf := by decide +kernel
set_option maxRecDepth 20000 in
theorem fw_X8_backOf_32 : Cond.fieldLink RX8 32 "StepBenchModel" "found" "[J" ∈ wsX8_backOf := by decide +kernel
set_option maxRecDepth 20000 in
theorem hd_X8_backOf : yX8_backOf.cls = RX8 ∧ yX8_backOf.cls ≠ "java/lang/invoke/MethodHandle" ∧ yX8_backOf.cls ≠ "java/lang/invoke/VarHandle" ∧ (parseMethodDescriptor yX8_backOf.desc).map (fun d => d.parameters.length) = some 2 := by decide +kernel
def V_X8_backOf_6  (v1 : Int64)  (post : Int32 → SS → Prop) : Nat → Int32 → Int32 → SS → Prop
  | 0, _, _, _ => False
  | n + 1, v4, v5, S =>
    (((gI S 26) ≤ v5 → (post v4 S)) ∧ (¬ (gI S 26) ≤ v5 → (vp_in ((3 : Int32) * v5) 192 ∧ (vp_in (((3 : Int32) * v5) + (2 : Int32)) 192 ∧ (vp_in (((3 : Int32) * v5) + (1 : Int32)) 192 ∧ (∀ y2 : Int64, y2 = ((v1 * (gA S 32 (((3 : Int32) * v5) + (2 : Int32)).toNatClampNeg)) - (gA S 32 (((3 : Int32) * v5) + (1 : Int32)).toNatClampNeg)) → (((gA S 32 ((3 : Int32) * v5).toNatClampNeg) = (0 : Int64) → (∀ x4 : Int32, x4 = v5 + 1 → (V_X8_backOf_6  v1  post n v4 x4 S))) ∧ (¬ (gA S 32 ((3 : Int32) * v5).toNatClampNeg) = (0 : Int64) → (¬ (gA S 32 ((3 : Int32) * v5).toNatClampNeg) = 0 ∧ (((lrm y2 (gA S 32 ((3 : Int32) * v5).toNatClampNeg)) = (0 : Int64) → (¬ (gA S 32 ((3 : Int32) * v5).toNatClampNeg) = 0 ∧ (V_X8_isNumber (y2 / (gA S 32 ((3 : Int32) * v5).toNatClampNeg)) S (fun (r6 : Int32) (S7 : SS) => ((r6 = 0 → (∀ x9 : Int32, x9 = v5 + 1 → (V_X8_backOf_6  v1  post n v4 x9 S7))) ∧ (¬ r6 = 0 → (¬ (gA S 32 ((3 : Int32) * v5).toNatClampNeg) = 0 ∧ (V_X8_restBy (y2 / (gA S 32 ((3 : Int32) * v5).toNatClampNeg)) (gI S7 26) S7 (fun (r10 : Int64) (S11 : SS) => ((r10 = v5.toInt64 → (¬ (gA S 32 ((3 : Int32) * v5).toNatClampNeg) = 0 ∧ (vp_in v4 20000 ∧ ∀ S13 : SS, S13 = (sA S11 36 (vp_updL (gA S11 36) v4.toNatClampNeg (y2 / (gA S 32 ((3 : Int32) * v5).toNatClampNeg)))) → (∀ x14 : Int32, x14 = v4 + 1 → (∀ x15 : Int32, x15 = v5 + 1 → (V_X8_backOf_6  v1  post n x14 x15 S13)))))) ∧ (¬ r10 = v5.toInt64 → (∀ x16 : Int32, x16 = v5 + 1 → (V_X8_backOf_6  v1  post n v4 x16 S11))))))))))))) ∧ (¬ (lrm y2 (gA S 32 ((3 : Int32) * v5).toNatClampNeg)) = (0 : Int64) → (∀ x17 : Int32, x17 = v5 + 1 → (V_X8_backOf_6  v1  post n v4 x17 S)))))))))))))
set_option maxHeartbeats 4000000 in
set_option maxRecDepth 100000 in
theorem lp_X8_backOf_6  (v1 : Int64)  (post : Int32 → SS → Prop) (C0 : Bd p s m meth c args cX8_backOf 10 (some .int) wsX8_backOf RX8 D n0 cI cJ) : ∀ (n : Nat) (v4 : Int32) (v5 : Int32) (S : SS), V_X8_backOf_6  v1  post n v4 v5 S → ∀ (H : Heap) (locs : List Loc), Wh D n0 ad cI cJ X S s H locs → ∀ ls : Array Slot, lv_has ls 10 [(0, .ref (ad 48)), (1, .long v1), (4, .int v4), (5, .int v5)] → W p l e rm_X8_backOf s m args below meth c H locs 0 0 (MQ below (va_Qi post (fun S' t => Wd D n0 ad cI cJ X S' t) (fr n0)) args s 0 0 (fr n0)) (F0 m 6 ls []) := by
  intro n
  induction n with
  | zero => intro v4 v5 S hV; exact False.elim hV
  | succ n ih =>
    intro v4 v5 S hV H locs hw ls hl
    rw [V_X8_backOf_6] at hV
    refine lv_iload C0.x C0.b dX8_backOf_6 (lv_at hl 3 rfl) ?_
    refine lv_aload_n C0.x C0.b dX8_backOf_8 rfl (lv_at hl 0 rfl) ?_
    refine r_get C0 hw (C := RX8) (T := TX8) (N := 33) (v := .int (gI S 26)) iw_X8_backOf_X8 (lg_48 ad cI cJ X S) rfl 8 (by decide) (C0.ts _ fw_X8_backOf_105) rfl dX8_backOf_9 ?_
    refine lv_icmp_ge (tgt := 124) C0.x C0.b dX8_backOf_12 (by decide) (fun c1 => ?_) (fun c1 => ?_)
    · have hV := hV.1 c1
      refine lv_iload C0.x C0.b dX8_backOf_124 (lv_at hl 2 rfl) ?_
      exact r_iret C0 rfl hw hV dX8_backOf_126
    · have hV := hV.2 c1
      refine lv_aload_n C0.x C0.b dX8_backOf_15 rfl (lv_at hl 0 rfl) ?_
      refine r_get C0 hw (C := RX8) (T := TX8) (N := 33) (v := .ref (ad 51)) iw_X8_backOf_X8 (lg_48 ad cI cJ X S) rfl 9 (by decide) (C0.ts _ fw_X8_backOf_20) rfl dX8_backOf_16 ?_
      refine lv_iconst (v := 3) C0.x C0.b dX8_backOf_19 (by decide) ?_
      refine lv_iload C0.x C0.b dX8_backOf_20 (lv_at hl 3 rfl) ?_
      refine lv_imul C0.x C0.b dX8_backOf_22 ?_
      refine r_lald C0 hw (lg_51 ad cI cJ X S) hV.1 dX8_backOf_23 ?_
      have hV := hV.2
      refine lv_lstore (lv' := [(6, .long (gA S 32 ((3 : Int32) * v5).toNatClampNeg)), (0, .ref (ad 48)), (1, .long v1), (4, .int v4), (5, .int v5)]) C0.x C0.b dX8_backOf_24 hl (by decide) rfl (fun ls hl => ?_)
      refine lv_lload_n C0.x C0.b dX8_backOf_26 rfl (lv_at hl 2 rfl) ?_
      refine lv_aload_n C0.x C0.b dX8_backOf_27 rfl (lv_at hl 1 rfl) ?_
      refine r_get C0 hw (C := RX8) (T := TX8) (N := 33) (v := .ref (ad 51)) iw_X8_backOf_X8 (lg_48 ad cI cJ X S) rfl 9 (by decide) (C0.ts _ fw_X8_backOf_20) rfl dX8_backOf_28 ?_
      refine lv_iconst (v := 3) C0.x C0.b dX8_backOf_31 (by decide) ?_
      refine lv_iload C0.x C0.b dX8_backOf_32 (lv_at hl 4 rfl) ?_
      refine lv_imul C0.x C0.b dX8_backOf_34 ?_
      refine lv_iconst (v := 2) C0.x C0.b dX8_backOf_35 (by decide) ?_
      refine lv_iadd C0.x C0.b dX8_backOf_36 ?_
      refine r_lald C0 hw (lg_51 ad cI cJ X S) hV.1 dX8_backOf_37 ?_
      have hV := hV.2
      refine lv_lmul C0.x C0.b dX8_backOf_38 ?_
      refine lv_aload_n C0.x C0.b dX8_backOf_39 rfl (lv_at hl 1 rfl) ?_
      refine r_get C0 hw (C := RX8) (T := TX8) (N := 33) (v := .ref (ad 51)) iw_X8_backOf_X8 (lg_48 ad cI cJ X S) rfl 9 (by decide) (C0.ts _ fw_X8_backOf_20) rfl dX8_backOf_40 ?_
      refine lv_iconst (v := 3) C0.x C0.b dX8_backOf_43 (by decide) ?_
      refine lv_iload C0.x C0.b dX8_backOf_44 (lv_at hl 4 rfl) ?_
      refine lv_imul C0.x C0.b dX8_backOf_46 ?_
      refine lv_iconst (v := 1) C0.x C0.b dX8_backOf_47 (by decide) ?_
      refine lv_iadd C0.x C0.b dX8_backOf_48 ?_
      refine r_lald C0 hw (lg_51 ad cI cJ X S) hV.1 dX8_backOf_49 ?_
      have hV := hV.2
      refine lv_lsub C0.x C0.b dX8_backOf_50 ?_
      refine lv_topl (fun y2 ey2 => ?_)
      have hV := hV y2 ey2
      refine lv_lstore (lv' := [(8, .long y2), (6, .long (gA S 32 ((3 : Int32) * v5).toNatClampNeg)), (0, .ref (ad 48)), (1, .long v1), (4, .int v4), (5, .int v5)]) C0.x C0.b dX8_backOf_51 hl (by decide) rfl (fun ls hl => ?_)
      refine lv_lload C0.x C0.b dX8_backOf_53 (lv_at hl 1 rfl) ?_
      refine lv_lconst (v := 0) C0.x C0.b dX8_backOf_55 (by decide) ?_
      refine r_lcmp C0 dX8_backOf_56 ?_
      refine lv_if_eq (tgt := 118) C0.x C0.b dX8_backOf_57 (by decide) (fun c3 => ?_) (fun c3 => ?_)
      · have hV := hV.1 ((lc_eq _ _).mp c3)
        obtain ⟨x4, ex4⟩ : ∃ z : Int32, z = v5 + 1 := ⟨_, rfl⟩
        have hV := hV x4 ex4
        refine lv_iinc (v := x4) (lv' := [(5, .int x4), (8, .long y2), (6, .long (gA S 32 ((3 : Int32) * v5).toNatClampNeg)), (0, .ref (ad 48)), (1, .long v1), (4, .int v4)]) C0.x C0.b dX8_backOf_118 hl (k := 5) rfl (by rw [ex4]; rfl) (by decide) rfl (fun ls hl => ?_)
        refine lv_goto (tgt := 6) C0.x C0.b dX8_backOf_121 (by decide) ?_
        exact ih _ _ _ hV _ _ hw _ (lv_sub hl [3, 4, 5, 0] rfl)
      · have hV := hV.2 (fun h => c3 ((lc_eq _ _).mpr h))
        refine lv_lload C0.x C0.b dX8_backOf_60 (lv_at hl 0 rfl) ?_
        refine lv_lload C0.x C0.b dX8_backOf_62 (lv_at hl 1 rfl) ?_
        refine lv_lrem C0.x C0.b dX8_backOf_64 hV.1 ?_
        have hV := hV.2
        refine lv_lconst (v := 0) C0.x C0.b dX8_backOf_65 (by decide) ?_
        refine r_lcmp C0 dX8_backOf_66 ?_
        refine lv_if_ne (tgt := 118) C0.x C0.b dX8_backOf_67 (by decide) (fun c5 => ?_) (fun c5 => ?_)
        · have hV := hV.2 (fun h => c5 ((lc_eq _ _).mpr h))
          obtain ⟨x17, ex17⟩ : ∃ z : Int32, z = v5 + 1 := ⟨_, rfl⟩
          have hV := hV x17 ex17
          refine lv_iinc (v := x17) (lv' := [(5, .int x17), (8, .long y2), (6, .long (gA S 32 ((3 : Int32) * v5).toNatClampNeg)), (0, .ref (ad 48)), (1, .long v1), (4, .int v4)]) C0.x C0.b dX8_backOf_118 hl (k := 5) rfl (by rw [ex17]; rfl) (by decide) rfl (fun ls hl => ?_)
          refine lv_goto (tgt := 6) C0.x C0.b dX8_backOf_121 (by decide) ?_
          exact ih _ _ _ hV _ _ hw _ (lv_sub hl [3, 4, 5, 0] rfl)
        · have hV := hV.1 ((lc_eq _ _).mp c5)
          refine lv_lload C0.x C0.b dX8_backOf_70 (lv_at hl 0 rfl) ?_
          refine lv_lload C0.x C0.b dX8_backOf_72 (lv_at hl 1 rfl) ?_
          refine lv_ldiv C0.x C0.b dX8_backOf_74 hV.1 ?_
          have hV := hV.2
          refine r_cS_i (As := [.long (y2 / (gA S 32 ((3 : Int32) * v5).toNatClampNeg))]) (rest := []) C0 hw (c_X8_isNumber  hV) (va_cwS 1 C0.ts gX8_backOf_X8_isNumber rfl rfl rfl hd_X8_isNumber ⟨Nat.le_of_ble_eq_true rfl, Nat.le_of_ble_eq_true rfl⟩) rfl hl.1 rfl (Nat.le_of_ble_eq_true rfl) ⟨Nat.zero_le _, Nat.zero_le _⟩ dX8_backOf_75 (fun r6 S7 H locs hV hw => ?_)
          refine lv_if_eq (tgt := 118) C0.x C0.b dX8_backOf_78 (by decide) (fun c8 => ?_) (fun c8 => ?_)
          · have hV := hV.1 c8
            obtain ⟨x9, ex9⟩ : ∃ z : Int32, z = v5 + 1 := ⟨_, rfl⟩
            have hV := hV x9 ex9
            refine lv_iinc (v := x9) (lv' := [(5, .int x9), (8, .long y2), (6, .long (gA S 32 ((3 : Int32) * v5).toNatClampNeg)), (0, .ref (ad 48)), (1, .long v1), (4, .int v4)]) C0.x C0.b dX8_backOf_118 hl (k := 5) rfl (by rw [ex9]; rfl) (by decide) rfl (fun ls hl => ?_)
            refine lv_goto (tgt := 6) C0.x C0.b dX8_backOf_121 (by decide) ?_
            exact ih _ _ _ hV _ _ hw _ (lv_sub hl [3, 4, 5, 0] rfl)
          · have hV := hV.2 c8
            refine lv_lload C0.x C0.b dX8_backOf_81 (lv_at hl 0 rfl) ?_
            refine lv_lload C0.x C0.b dX8_backOf_83 (lv_at hl 1 rfl) ?_
            refine lv_ldiv C0.x C0.b dX8_backOf_85 hV.1 ?_
            have hV := hV.2
            refine lv_aload_n C0.x C0.b dX8_backOf_86 rfl (lv_at hl 2 rfl) ?_
            refine r_get C0 hw (C := RX8) (T := TX8) (N := 33) (v := .int (gI S7 26)) iw_X8_backOf_X8 (lg_48 ad cI cJ X S7) rfl 8 (by decide) (C0.ts _ fw_X8_backOf_105) rfl dX8_backOf_87 ?_
            refine r_cS_l (As := [.long (y2 / (gA S 32 ((3 : Int32) * v5).toNatClampNeg)), .int (gI S7 26)]) (rest := []) C0 hw (c_X8_restBy  hV) (va_cwS 2 C0.ts gX8_backOf_X8_restBy rfl rfl rfl hd_X8_restBy ⟨Nat.le_of_ble_eq_true rfl, Nat.le_of_ble_eq_true rfl⟩) rfl hl.1 rfl (Nat.le_of_ble_eq_true rfl) ⟨Nat.zero_le _, Nat.zero_le _⟩ dX8_backOf_90 (fun r10 S11 H locs hV hw => ?_)
            refine lv_iload C0.x C0.b dX8_backOf_93 (lv_at hl 5 rfl) ?_
            refine lv_i2l C0.x C0.b dX8_backOf_95 rfl ?_
            refine r_lcmp C0 dX8_backOf_96 ?_
            refine lv_if_eq (tgt := 103) C0.x C0.b dX8_backOf_97 (by decide) (fun c12 => ?_) (fun c12 => ?_)
            · have hV := hV.1 ((lc_eq _ _).mp c12)
              refine lv_aload_n C0.x C0.b dX8_backOf_103 rfl (lv_at hl 2 rfl) ?_
              refine r_get C0 hw (C := RX8) (T := TX8) (N := 33) (v := .ref (ad 55)) iw_X8_backOf_X8 (lg_48 ad cI cJ X S11) rfl 16 (by decide) (C0.ts _ fw_X8_backOf_32) rfl dX8_backOf_104 ?_
              refine lv_iload C0.x C0.b dX8_backOf_107 (lv_at hl 4 rfl) ?_
              refine lv_lload C0.x C0.b dX8_backOf_109 (lv_at hl 0 rfl) ?_
              refine lv_lload C0.x C0.b dX8_backOf_111 (lv_at hl 1 rfl) ?_
              refine lv_ldiv C0.x C0.b dX8_backOf_113 hV.1 ?_
              have hV := hV.2
              refine r_last C0 hw (lg_55 ad cI cJ X S11) hV.1 dX8_backOf_114 (S' := (sA S11 36 (vp_updL (gA S11 36) v4.toNatClampNeg (y2 / (gA S 32 ((3 : Int32) * v5).toNatClampNeg))))) (ls_55 ad cI cJ X S11 (vp_updL (gA S11 36) v4.toNatClampNeg (y2 / (gA S 32 ((3 : Int32) * v5).toNatClampNeg)))) (fun S13 H locs eS13 hw => ?_)
              have hV := hV.2 S13 eS13
              obtain ⟨x14, ex14⟩ : ∃ z : Int32, z = v4 + 1 := ⟨_, rfl⟩
              have hV := hV x14 ex14
              refine lv_iinc (v := x14) (lv' := [(4, .int x14), (8, .long y2), (6, .long (gA S 32 ((3 : Int32) * v5).toNatClampNeg)), (0, .ref (ad 48)), (1, .long v1), (5, .int v5)]) C0.x C0.b dX8_backOf_115 hl (k := 4) rfl (by rw [ex14]; rfl) (by decide) rfl (fun ls hl => ?_)
              obtain ⟨x15, ex15⟩ : ∃ z : Int32, z = v5 + 1 := ⟨_, rfl⟩
              have hV := hV x15 ex15
              refine lv_iinc (v := x15) (lv' := [(5, .int x15), (4, .int x14), (8, .long y2), (6, .long (gA S 32 ((3 : Int32) * v5).toNatClampNeg)), (0, .ref (ad 48)), (1, .long v1)]) C0.x C0.b dX8_backOf_118 hl (k := 5) rfl (by rw [ex15]; rfl) (by decide) rfl (fun ls hl => ?_)
              refine lv_goto (tgt := 6) C0.x C0.b dX8_backOf_121 (by decide) ?_
              exact ih _ _ _ hV _ _ hw _ (lv_sub hl [4, 5, 1, 0] rfl)
            · have hV := hV.2 (fun h => c12 ((lc_eq _ _).mpr h))
              refine lv_goto (tgt := 118) C0.x C0.b dX8_backOf_100 (by decide) ?_
              obtain ⟨x16, ex16⟩ : ∃ z : Int32, z = v5 + 1 := ⟨_, rfl⟩
              have hV := hV x16 ex16
              refine lv_iinc (v := x16) (lv' := [(5, .int x16), (8, .long y2), (6, .long (gA S 32 ((3 : Int32) * v5).toNatClampNeg)), (0, .ref (ad 48)), (1, .long v1), (4, .int v4)]) C0.x C0.b dX8_backOf_118 hl (k := 5) rfl (by rw [ex16]; rfl) (by decide) rfl (fun ls hl => ?_)
              refine lv_goto (tgt := 6) C0.x C0.b dX8_backOf_121 (by decide) ?_
              exact ih _ _ _ hV _ _ hw _ (lv_sub hl [3, 4, 5, 0] rfl)
def V_X8_backOf  (p0 : Int64) (p1 : Int32) (S : SS) (post : Int32 → SS → Prop) : Prop :=
  (∃ n6 : Nat, V_X8_backOf_6  p0  post n6 p1 (0 : Int32) S)
set_option maxHeartbeats 4000000 in
set_option maxRecDepth 100000 in
theorem c_X8_backOf  {S : SS} {p0 : Int64} {p1 : Int32} {post : Int32 → SS → Prop} (hV : V_X8_backOf  p0 p1 S post) : MI l yX8_backOf wsX8_backOf rm_X8_backOf [.ref (ad 48), .long p0, .int p1] D n0 ad cI cJ X S post := by
  refine Met.ofW (cc := cX8_backOf) (maxL := 10) (ret := (some .int)) (by decide) rfl ?_
  intro p e s m args below meth c s₁ B hml hv
  obtain ⟨rfl, hv⟩ := hv
  have C0 := Bd.mk B hml (atoms_spec (ws := wsX8_backOf) B.pre) (findClass_of_methodNamed B.named) hv.1
  have hw : Wh D n0 ad cI cJ X S s s.heap [] := ⟨hv.2.1, hv.2.2, va_S.rf⟩
  refine r_entry (Nat.le_of_ble_eq_true rfl) (fun ls hl => ?_)
  have hl : lv_has ls 10 [(0, .ref (ad 48)), (1, .long p0), (3, .int p1)] := hl
  unfold V_X8_backOf at hV
  refine lv_iload_n C0.x C0.b dX8_backOf_0 rfl (lv_at hl 2 rfl) ?_
  refine lv_istore (lv' := [(4, .int p1), (0, .ref (ad 48)), (1, .long p0), (3, .int p1)]) C0.x C0.b dX8_backOf_1 hl (by decide) rfl (fun ls hl => ?_)
  refine lv_iconst (v := 0) C0.x C0.b dX8_backOf_3 (by decide) ?_
  refine lv_istore (lv' := [(5, .int (0 : Int32)), (4, .int p1), (0, .ref (ad 48)), (1, .long p0), (3, .int p1)]) C0.x C0.b dX8_backOf_4 hl (by decide) rfl (fun ls hl => ?_)
  obtain ⟨n6, hV⟩ := hV
  exact lp_X8_backOf_6  _ post C0  n6 _ _ _ hV _ _ hw _ (lv_sub hl [2, 3, 1, 0] rfl)
/-! StepBenchModel.back(J)I -/
abbrev rm_X8_back : Room := { frames := 3, cells := 0, slots := 0, locals := 76 }
set_option maxRecDepth 20000 in
theorem fw_X8_back_61 : Cond.fieldLink RX8 61 "StepBenchModel" "thrown" "I" ∈ wsX8_back := by decide +kernel
set_option maxRecDepth 20000 in
theorem iw_X8_back_X8 : ∀ w ∈ wsX80, w ∈ wsX8_back := by decide +kernel
set_option maxRecDepth 20000 in
theorem fw_X8_back_108 : Cond.fieldLink RX8 108 "StepBenchModel" "sort" "I" ∈ wsX8_back := by decide +kernel
set_option maxRecDepth 20000 in
theorem hd_X8_back : yX8_back.cls = RX8 ∧ yX8_back.cls ≠ "java/lang/invoke/MethodHandle" ∧ yX8_back.cls ≠ "java/lang/invoke/VarHandle" ∧ (parseMethodDescriptor yX8_back.desc).map (fun d => d.parameters.length) = some 1 := by decide +kernel
def V_X8_back  (p0 : Int64) (S : SS) (post : Int32 → SS → Prop) : Prop :=
  (∀ S1 : SS, S1 = (sI S 20 (0 : Int32)) → (((gI S1 25) = (1 : Int32) → (V_X8_isNumber p0 S1 (fun (r3 : Int32) (S4 : SS) => ((r3 = 0 → (post (-1 : Int32) S4)) ∧ (¬ r3 = 0 → (V_X8_backOf p0 (0 : Int32) S4 (fun (r6 : Int32) (S7 : SS) => (V_X8_ascend r6 S7 (fun (S9 : SS) => (V_X8_tells r6 S9 (fun (S11 : SS) => (post r6 S11)))))))))))) ∧ (¬ (gI S1 25) = (1 : Int32) → (post (-1 : Int32) S1))))
set_option maxHeartbeats 4000000 in
set_option maxRecDepth 100000 in
theorem c_X8_back  {S : SS} {p0 : Int64} {post : Int32 → SS → Prop} (hV : V_X8_back  p0 S post) : MI l yX8_back wsX8_back rm_X8_back [.ref (ad 48), .long p0] D n0 ad cI cJ X S post := by
  refine Met.ofW (cc := cX8_back) (maxL := 4) (ret := (some .int)) (by decide) rfl ?_
  intro p e s m args below meth c s₁ B hml hv
  obtain ⟨rfl, hv⟩ := hv
  have C0 := Bd.mk B hml (atoms_spec (ws := wsX8_back) B.pre) (findClass_of_methodNamed B.named) hv.1
  have hw : Wh D n0 ad cI cJ X S s s.heap [] := ⟨hv.2.1, hv.2.2, va_S.rf⟩
  refine r_entry (Nat.le_of_ble_eq_true rfl) (fun ls hl => ?_)
  have hl : lv_has ls 4 [(0, .ref (ad 48)), (1, .long p0)] := hl
  unfold V_X8_back at hV
  refine lv_aload_n C0.x C0.b dX8_back_0 rfl (lv_at hl 0 rfl) ?_
  refine lv_iconst (v := 0) C0.x C0.b dX8_back_1 (by decide) ?_
  refine r_put C0 hw (C := RX8) (T := TX8) (N := 33) (ty := .int) iw_X8_back_X8 tyX8 tyX8_ok nmX8 (lg_48 ad cI cJ X S) rfl 0 (by decide) (C0.ts _ fw_X8_back_61) rfl (by decide +kernel) rfl rfl (Nat.le_of_ble_eq_true rfl) dX8_back_2 (S' := (sI S 20 (0 : Int32))) (ls_48_0 ad cI cJ X S (0 : Int32)) (fun S1 H locs eS1 hw => ?_)
  have hV := hV S1 eS1
  refine lv_aload_n C0.x C0.b dX8_back_5 rfl (lv_at hl 0 rfl) ?_
  refine r_get C0 hw (C := RX8) (T := TX8) (N := 33) (v := .int (gI S1 25)) iw_X8_back_X8 (lg_48 ad cI cJ X S1) rfl 7 (by decide) (C0.ts _ fw_X8_back_108) rfl dX8_back_6 ?_
  refine lv_iconst (v := 1) C0.x C0.b dX8_back_9 (by decide) ?_
  refine lv_icmp_ne (tgt := 20) C0.x C0.b dX8_back_10 (by decide) (fun c2 => ?_) (fun c2 => ?_)
  · have hV := hV.2 c2
    refine lv_iconst (v := -1) C0.x C0.b dX8_back_20 (by decide) ?_
    exact r_iret C0 rfl hw hV dX8_back_21
  · have hV := hV.1 c2
    refine lv_lload_n C0.x C0.b dX8_back_13 rfl (lv_at hl 1 rfl) ?_
    refine r_cS_i (As := [.long p0]) (rest := []) C0 hw (c_X8_isNumber  hV) (va_cwS 1 C0.ts gX8_back_X8_isNumber rfl rfl rfl hd_X8_isNumber ⟨Nat.le_of_ble_eq_true rfl, Nat.le_of_ble_eq_true rfl⟩) rfl hl.1 rfl (Nat.le_of_ble_eq_true rfl) ⟨Nat.zero_le _, Nat.zero_le _⟩ dX8_back_14 (fun r3 S4 H locs hV hw => ?_)
    refine lv_if_ne (tgt := 22) C0.x C0.b dX8_back_17 (by decide) (fun c5 => ?_) (fun c5 => ?_)
    · have hV := hV.2 c5
      refine lv_aload_n C0.x C0.b dX8_back_22 rfl (lv_at hl 0 rfl) ?_
      refine lv_lload_n C0.x C0.b dX8_back_23 rfl (lv_at hl 1 rfl) ?_
      refine lv_iconst (v := 0) C0.x C0.b dX8_back_24 (by decide) ?_
      refine r_cV_i (As := [.long p0, .int (0 : Int32)]) (rest := []) C0 hw (c_X8_backOf  hV) (cwV 2 C0.ts gX8_back_X8_backOf rfl rfl rfl hd_X8_backOf ⟨Nat.le_of_ble_eq_true rfl, Nat.le_of_ble_eq_true rfl⟩) (lg_48 ad cI cJ X S4) rfl rfl hl.1 rfl (Nat.le_of_ble_eq_true rfl) ⟨Nat.zero_le _, Nat.zero_le _⟩ dX8_back_25 (fun r6 S7 H locs hV hw => ?_)
      refine lv_istore_n (lv' := [(3, .int r6), (0, .ref (ad 48)), (1, .long p0)]) C0.x C0.b dX8_back_28 rfl hl (by decide) rfl (fun ls hl => ?_)
      refine lv_aload_n C0.x C0.b dX8_back_29 rfl (lv_at hl 1 rfl) ?_
      refine lv_iload_n C0.x C0.b dX8_back_30 rfl (lv_at hl 0 rfl) ?_
      refine r_cV_v (As := [.int r6]) (rest := []) C0 hw (c_X8_ascend  hV) (cwV 1 C0.ts gX8_back_X8_ascend rfl rfl rfl hd_X8_ascend ⟨Nat.le_of_ble_eq_true rfl, Nat.le_of_ble_eq_true rfl⟩) (lg_48 ad cI cJ X S7) rfl rfl hl.1 rfl (Nat.le_of_ble_eq_true rfl) ⟨Nat.zero_le _, Nat.zero_le _⟩ dX8_back_31 (fun S9 H locs hV hw => ?_)
      refine lv_aload_n C0.x C0.b dX8_back_34 rfl (lv_at hl 1 rfl) ?_
      refine lv_iload_n C0.x C0.b dX8_back_35 rfl (lv_at hl 0 rfl) ?_
      refine r_cV_v (As := [.int r6]) (rest := []) C0 hw (c_X8_tells  hV) (cwV 1 C0.ts gX8_back_X8_tells rfl rfl rfl hd_X8_tells ⟨Nat.le_of_ble_eq_true rfl, Nat.le_of_ble_eq_true rfl⟩) (lg_48 ad cI cJ X S9) rfl rfl hl.1 rfl (Nat.le_of_ble_eq_true rfl) ⟨Nat.zero_le _, Nat.zero_le _⟩ dX8_back_36 (fun S11 H locs hV hw => ?_)
      refine lv_iload_n C0.x C0.b dX8_back_39 rfl (lv_at hl 0 rfl) ?_
      exact r_iret C0 rfl hw hV dX8_back_40
    · have hV := hV.1 c5
      refine lv_iconst (v := -1) C0.x C0.b dX8_back_20 (by decide) ?_
      exact r_iret C0 rfl hw hV dX8_back_21
/-! StepBenchModel.whole(J)J -/
abbrev rm_X8_whole : Room := { frames := 2, cells := 0, slots := 0, locals := 46 }
set_option maxRecDepth 20000 in
theorem fw_X8_whole_61 : Cond.fieldLink RX8 61 "StepBenchModel" "thrown" "I" ∈ wsX8_whole := by decide +kernel
set_option maxRecDepth 20000 in
theorem iw_X8_whole_X8 : ∀ w ∈ wsX80, w ∈ wsX8_whole := by decide +kernel
set_option maxRecDepth 20000 in
theorem fw_X8_whole_105 : Cond.fieldLink RX8 105 "StepBenchModel" "m" "I" ∈ wsX8_whole := by decide +kernel
set_option maxRecDepth 20000 in
theorem fw_X8_whole_108 : Cond.fieldLink RX8 108 "StepBenchModel" "sort" "I" ∈ wsX8_whole := by decide +kernel
set_option maxRecDepth 20000 in
theorem fw_X8_whole_20 : Cond.fieldLink RX8 20 "StepBenchModel" "rule" "[J" ∈ wsX8_whole := by decide +kernel
set_option maxRecDepth 20000 in
theorem hd_X8_whole : yX8_whole.cls = RX8 ∧ yX8_whole.cls ≠ "java/lang/invoke/MethodHandle" ∧ yX8_whole.cls ≠ "java/lang/invoke/VarHandle" ∧ (parseMethodDescriptor yX8_whole.desc).map (fun d => d.parameters.length) = some 1 := by decide +kernel
def V_X8_whole_10  (v1 : Int64)  (post : Int64 → SS → Prop) : Nat → Int64 → Int32 → SS → Prop
  | 0, _, _, _ => False
  | n + 1, v3, v5, S =>
    (((gI S 26) ≤ v5 → (post v3 S)) ∧ (¬ (gI S 26) ≤ v5 → (((gI S 25) = (1 : Int32) → (V_X8_isNumber v1 S (fun (r4 : Int32) (S5 : SS) => ((r4 = 0 → (post v3 S5)) ∧ (¬ r4 = 0 → (vp_in ((3 : Int32) * v5) 192 ∧ (((gA S5 32 ((3 : Int32) * v5).toNatClampNeg) = (0 : Int64) → (vp_in (((3 : Int32) * v5) + (1 : Int32)) 192 ∧ (vp_in (((3 : Int32) * v5) + (2 : Int32)) 192 ∧ (¬ (gA S5 32 (((3 : Int32) * v5) + (2 : Int32)).toNatClampNeg) = 0 ∧ ((((gA S5 32 (((3 : Int32) * v5) + (1 : Int32)).toNatClampNeg) / (gA S5 32 (((3 : Int32) * v5) + (2 : Int32)).toNatClampNeg)) = v1 → (∀ y9 : Int64, y9 = (v3 ||| ((1 : Int64) <<< (v5.toInt64 &&& 63))) → (∀ x10 : Int32, x10 = v5 + 1 → (V_X8_whole_10  v1  post n y9 x10 S5)))) ∧ (¬ ((gA S5 32 (((3 : Int32) * v5) + (1 : Int32)).toNatClampNeg) / (gA S5 32 (((3 : Int32) * v5) + (2 : Int32)).toNatClampNeg)) = v1 → (∀ y11 : Int64, y11 = (v3 ||| (0 : Int64)) → (∀ x12 : Int32, x12 = v5 + 1 → (V_X8_whole_10  v1  post n y11 x12 S5))))))))) ∧ (¬ (gA S5 32 ((3 : Int32) * v5).toNatClampNeg) = (0 : Int64) → (∀ y13 : Int64, y13 = (v3 ||| (0 : Int64)) → (∀ x14 : Int32, x14 = v5 + 1 → (V_X8_whole_10  v1  post n y13 x14 S5))))))))))) ∧ (¬ (gI S 25) = (1 : Int32) → (post v3 S)))))
set_option maxHeartbeats 4000000 in
set_option maxRecDepth 100000 in
theorem lp_X8_whole_10  (v1 : Int64)  (post : Int64 → SS → Prop) (C0 : Bd p s m meth c args cX8_whole 6 (some .long) wsX8_whole RX8 D n0 cI cJ) : ∀ (n : Nat) (v3 : Int64) (v5 : Int32) (S : SS), V_X8_whole_10  v1  post n v3 v5 S → ∀ (H : Heap) (locs : List Loc), Wh D n0 ad cI cJ X S s H locs → ∀ ls : Array Slot, lv_has ls 6 [(0, .ref (ad 48)), (1, .long v1), (3, .long v3), (5, .int v5)] → W p l e rm_X8_whole s m args below meth c H locs 0 0 (MQ below (va_Ql post (fun S' t => Wd D n0 ad cI cJ X S' t) (fr n0)) args s 0 0 (fr n0)) (F0 m 10 ls []) := by
  intro n
  induction n with
  | zero => intro v3 v5 S hV; exact False.elim hV
  | succ n ih =>
    intro v3 v5 S hV H locs hw ls hl
    rw [V_X8_whole_10] at hV
    refine lv_iload C0.x C0.b dX8_whole_10 (lv_at hl 3 rfl) ?_
    refine lv_aload_n C0.x C0.b dX8_whole_12 rfl (lv_at hl 0 rfl) ?_
    refine r_get C0 hw (C := RX8) (T := TX8) (N := 33) (v := .int (gI S 26)) iw_X8_whole_X8 (lg_48 ad cI cJ X S) rfl 8 (by decide) (C0.ts _ fw_X8_whole_105) rfl dX8_whole_13 ?_
    refine lv_icmp_ge (tgt := 93) C0.x C0.b dX8_whole_16 (by decide) (fun c2 => ?_) (fun c2 => ?_)
    · have hV := hV.1 c2
      refine lv_lload_n C0.x C0.b dX8_whole_93 rfl (lv_at hl 2 rfl) ?_
      exact r_lret C0 rfl hw hV dX8_whole_94
    · have hV := hV.2 c2
      refine lv_aload_n C0.x C0.b dX8_whole_19 rfl (lv_at hl 0 rfl) ?_
      refine r_get C0 hw (C := RX8) (T := TX8) (N := 33) (v := .int (gI S 25)) iw_X8_whole_X8 (lg_48 ad cI cJ X S) rfl 7 (by decide) (C0.ts _ fw_X8_whole_108) rfl dX8_whole_20 ?_
      refine lv_iconst (v := 1) C0.x C0.b dX8_whole_23 (by decide) ?_
      refine lv_icmp_ne (tgt := 93) C0.x C0.b dX8_whole_24 (by decide) (fun c3 => ?_) (fun c3 => ?_)
      · have hV := hV.2 c3
        refine lv_lload_n C0.x C0.b dX8_whole_93 rfl (lv_at hl 2 rfl) ?_
        exact r_lret C0 rfl hw hV dX8_whole_94
      · have hV := hV.1 c3
        refine lv_lload_n C0.x C0.b dX8_whole_27 rfl (lv_at hl 1 rfl) ?_
        refine r_cS_i (As := [.long v1]) (rest := []) C0 hw (c_X8_isNumber  hV) (va_cwS 1 C0.ts gX8_whole_X8_isNumber rfl rfl rfl hd_X8_isNumber ⟨Nat.le_of_ble_eq_true rfl, Nat.le_of_ble_eq_true rfl⟩) rfl hl.1 rfl (Nat.le_of_ble_eq_true rfl) ⟨Nat.zero_le _, Nat.zero_le _⟩ dX8_whole_28 (fun r4 S5 H locs hV hw => ?_)
        refine lv_if_eq (tgt := 93) C0.x C0.b dX8_whole_31 (by decide) (fun c6 => ?_) (fun c6 => ?_)
        · have hV := hV.1 c6
          refine lv_lload_n C0.x C0.b dX8_whole_93 rfl (lv_at hl 2 rfl) ?_
          exact r_lret C0 rfl hw hV dX8_whole_94
        · have hV := hV.2 c6
          refine lv_lload_n C0.x C0.b dX8_whole_34 rfl (lv_at hl 2 rfl) ?_
          refine lv_aload_n C0.x C0.b dX8_whole_35 rfl (lv_at hl 0 rfl) ?_
          refine r_get C0 hw (C := RX8) (T := TX8) (N := 33) (v := .ref (ad 51)) iw_X8_whole_X8 (lg_48 ad cI cJ X S5) rfl 9 (by decide) (C0.ts _ fw_X8_whole_20) rfl dX8_whole_36 ?_
          refine lv_iconst (v := 3) C0.x C0.b dX8_whole_39 (by decide) ?_
          refine lv_iload C0.x C0.b dX8_whole_40 (lv_at hl 3 rfl) ?_
          refine lv_imul C0.x C0.b dX8_whole_42 ?_
          refine r_lald C0 hw (lg_51 ad cI cJ X S5) hV.1 dX8_whole_43 ?_
          have hV := hV.2
          refine lv_lconst (v := 0) C0.x C0.b dX8_whole_44 (by decide) ?_
          refine r_lcmp C0 dX8_whole_45 ?_
          refine lv_if_ne (tgt := 84) C0.x C0.b dX8_whole_46 (by decide) (fun c7 => ?_) (fun c7 => ?_)
          · have hV := hV.2 (fun h => c7 ((lc_eq _ _).mpr h))
            refine lv_lconst (v := 0) C0.x C0.b dX8_whole_84 (by decide) ?_
            refine lv_lor C0.x C0.b dX8_whole_85 ?_
            refine lv_topl (fun y13 ey13 => ?_)
            have hV := hV y13 ey13
            refine lv_lstore_n (lv' := [(3, .long y13), (0, .ref (ad 48)), (1, .long v1), (5, .int v5)]) C0.x C0.b dX8_whole_86 rfl hl (by decide) rfl (fun ls hl => ?_)
            obtain ⟨x14, ex14⟩ : ∃ z : Int32, z = v5 + 1 := ⟨_, rfl⟩
            have hV := hV x14 ex14
            refine lv_iinc (v := x14) (lv' := [(5, .int x14), (3, .long y13), (0, .ref (ad 48)), (1, .long v1)]) C0.x C0.b dX8_whole_87 hl (k := 3) rfl (by rw [ex14]; rfl) (by decide) rfl (fun ls hl => ?_)
            refine lv_goto (tgt := 10) C0.x C0.b dX8_whole_90 (by decide) ?_
            exact ih _ _ _ hV _ _ hw _ (lv_sub hl [2, 3, 1, 0] rfl)
          · have hV := hV.1 ((lc_eq _ _).mp c7)
            refine lv_aload_n C0.x C0.b dX8_whole_49 rfl (lv_at hl 0 rfl) ?_
            refine r_get C0 hw (C := RX8) (T := TX8) (N := 33) (v := .ref (ad 51)) iw_X8_whole_X8 (lg_48 ad cI cJ X S5) rfl 9 (by decide) (C0.ts _ fw_X8_whole_20) rfl dX8_whole_50 ?_
            refine lv_iconst (v := 3) C0.x C0.b dX8_whole_53 (by decide) ?_
            refine lv_iload C0.x C0.b dX8_whole_54 (lv_at hl 3 rfl) ?_
            refine lv_imul C0.x C0.b dX8_whole_56 ?_
            refine lv_iconst (v := 1) C0.x C0.b dX8_whole_57 (by decide) ?_
            refine lv_iadd C0.x C0.b dX8_whole_58 ?_
            refine r_lald C0 hw (lg_51 ad cI cJ X S5) hV.1 dX8_whole_59 ?_
            have hV := hV.2
            refine lv_aload_n C0.x C0.b dX8_whole_60 rfl (lv_at hl 0 rfl) ?_
            refine r_get C0 hw (C := RX8) (T := TX8) (N := 33) (v := .ref (ad 51)) iw_X8_whole_X8 (lg_48 ad cI cJ X S5) rfl 9 (by decide) (C0.ts _ fw_X8_whole_20) rfl dX8_whole_61 ?_
            refine lv_iconst (v := 3) C0.x C0.b dX8_whole_64 (by decide) ?_
            refine lv_iload C0.x C0.b dX8_whole_65 (lv_at hl 3 rfl) ?_
            refine lv_imul C0.x C0.b dX8_whole_67 ?_
            refine lv_iconst (v := 2) C0.x C0.b dX8_whole_68 (by decide) ?_
            refine lv_iadd C0.x C0.b dX8_whole_69 ?_
            refine r_lald C0 hw (lg_51 ad cI cJ X S5) hV.1 dX8_whole_70 ?_
            have hV := hV.2
            refine lv_ldiv C0.x C0.b dX8_whole_71 hV.1 ?_
            have hV := hV.2
            refine lv_lload_n C0.x C0.b dX8_whole_72 rfl (lv_at hl 1 rfl) ?_
            refine r_lcmp C0 dX8_whole_73 ?_
            refine lv_if_ne (tgt := 84) C0.x C0.b dX8_whole_74 (by decide) (fun c8 => ?_) (fun c8 => ?_)
            · have hV := hV.2 (fun h => c8 ((lc_eq _ _).mpr h))
              refine lv_lconst (v := 0) C0.x C0.b dX8_whole_84 (by decide) ?_
              refine lv_lor C0.x C0.b dX8_whole_85 ?_
              refine lv_topl (fun y11 ey11 => ?_)
              have hV := hV y11 ey11
              refine lv_lstore_n (lv' := [(3, .long y11), (0, .ref (ad 48)), (1, .long v1), (5, .int v5)]) C0.x C0.b dX8_whole_86 rfl hl (by decide) rfl (fun ls hl => ?_)
              obtain ⟨x12, ex12⟩ : ∃ z : Int32, z = v5 + 1 := ⟨_, rfl⟩
              have hV := hV x12 ex12
              refine lv_iinc (v := x12) (lv' := [(5, .int x12), (3, .long y11), (0, .ref (ad 48)), (1, .long v1)]) C0.x C0.b dX8_whole_87 hl (k := 3) rfl (by rw [ex12]; rfl) (by decide) rfl (fun ls hl => ?_)
              refine lv_goto (tgt := 10) C0.x C0.b dX8_whole_90 (by decide) ?_
              exact ih _ _ _ hV _ _ hw _ (lv_sub hl [2, 3, 1, 0] rfl)
            · have hV := hV.1 ((lc_eq _ _).mp c8)
              refine lv_lconst (v := 1) C0.x C0.b dX8_whole_77 (by decide) ?_
              refine lv_iload C0.x C0.b dX8_whole_78 (lv_at hl 3 rfl) ?_
              refine lv_lshl C0.x C0.b dX8_whole_80 rfl ?_
              refine lv_goto (tgt := 85) C0.x C0.b dX8_whole_81 (by decide) ?_
              refine lv_lor C0.x C0.b dX8_whole_85 ?_
              refine lv_topl (fun y9 ey9 => ?_)
              have hV := hV y9 ey9
              refine lv_lstore_n (lv' := [(3, .long y9), (0, .ref (ad 48)), (1, .long v1), (5, .int v5)]) C0.x C0.b dX8_whole_86 rfl hl (by decide) rfl (fun ls hl => ?_)
              obtain ⟨x10, ex10⟩ : ∃ z : Int32, z = v5 + 1 := ⟨_, rfl⟩
              have hV := hV x10 ex10
              refine lv_iinc (v := x10) (lv' := [(5, .int x10), (3, .long y9), (0, .ref (ad 48)), (1, .long v1)]) C0.x C0.b dX8_whole_87 hl (k := 3) rfl (by rw [ex10]; rfl) (by decide) rfl (fun ls hl => ?_)
              refine lv_goto (tgt := 10) C0.x C0.b dX8_whole_90 (by decide) ?_
              exact ih _ _ _ hV _ _ hw _ (lv_sub hl [2, 3, 1, 0] rfl)
def V_X8_whole  (p0 : Int64) (S : SS) (post : Int64 → SS → Prop) : Prop :=
  (∀ S1 : SS, S1 = (sI S 20 (0 : Int32)) → (∃ n10 : Nat, V_X8_whole_10  p0  post n10 (0 : Int64) (0 : Int32) S1))
set_option maxHeartbeats 4000000 in
set_option maxRecDepth 100000 in
theorem c_X8_whole  {S : SS} {p0 : Int64} {post : Int64 → SS → Prop} (hV : V_X8_whole  p0 S post) : ML l yX8_whole wsX8_whole rm_X8_whole [.ref (ad 48), .long p0] D n0 ad cI cJ X S post := by
  refine Met.ofW (cc := cX8_whole) (maxL := 6) (ret := (some .long)) (by decide) rfl ?_
  intro p e s m args below meth c s₁ B hml hv
  obtain ⟨rfl, hv⟩ := hv
  have C0 := Bd.mk B hml (atoms_spec (ws := wsX8_whole) B.pre) (findClass_of_methodNamed B.named) hv.1
  have hw : Wh D n0 ad cI cJ X S s s.heap [] := ⟨hv.2.1, hv.2.2, va_S.rf⟩
  refine r_entry (Nat.le_of_ble_eq_true rfl) (fun ls hl => ?_)
  have hl : lv_has ls 6 [(0, .ref (ad 48)), (1, .long p0)] := hl
  unfold V_X8_whole at hV
  refine lv_aload_n C0.x C0.b dX8_whole_0 rfl (lv_at hl 0 rfl) ?_
  refine lv_iconst (v := 0) C0.x C0.b dX8_whole_1 (by decide) ?_
  refine r_put C0 hw (C := RX8) (T := TX8) (N := 33) (ty := .int) iw_X8_whole_X8 tyX8 tyX8_ok nmX8 (lg_48 ad cI cJ X S) rfl 0 (by decide) (C0.ts _ fw_X8_whole_61) rfl (by decide +kernel) rfl rfl (Nat.le_of_ble_eq_true rfl) dX8_whole_2 (S' := (sI S 20 (0 : Int32))) (ls_48_0 ad cI cJ X S (0 : Int32)) (fun S1 H locs eS1 hw => ?_)
  have hV := hV S1 eS1
  refine lv_lconst (v := 0) C0.x C0.b dX8_whole_5 (by decide) ?_
  refine lv_lstore_n (lv' := [(3, .long (0 : Int64)), (0, .ref (ad 48)), (1, .long p0)]) C0.x C0.b dX8_whole_6 rfl hl (by decide) rfl (fun ls hl => ?_)
  refine lv_iconst (v := 0) C0.x C0.b dX8_whole_7 (by decide) ?_
  refine lv_istore (lv' := [(5, .int (0 : Int32)), (3, .long (0 : Int64)), (0, .ref (ad 48)), (1, .long p0)]) C0.x C0.b dX8_whole_8 hl (by decide) rfl (fun ls hl => ?_)
  obtain ⟨n10, hV⟩ := hV
  exact lp_X8_whole_10  _ post C0  n10 _ _ _ hV _ _ hw _ (lv_sub hl [2, 3, 1, 0] rfl)
/-! StepBenchModel.backs(JI)I -/
abbrev rm_X8_backs : Room := { frames := 3, cells := 0, slots := 0, locals := 76 }
set_option maxRecDepth 20000 in
theorem fw_X8_backs_61 : Cond.fieldLink RX8 61 "StepBenchModel" "thrown" "I" ∈ wsX8_backs := by decide +kernel
set_option maxRecDepth 20000 in
theorem iw_X8_backs_X8 : ∀ w ∈ wsX80, w ∈ wsX8_backs := by decide +kernel
set_option maxRecDepth 20000 in
theorem fw_X8_backs_108 : Cond.fieldLink RX8 108 "StepBenchModel" "sort" "I" ∈ wsX8_backs := by decide +kernel
set_option maxRecDepth 20000 in
theorem cw_X8_backs_223 : Cond.constantLong RX8 223 20 ∈ wsX8_backs := by decide +kernel
set_option maxRecDepth 20000 in
theorem fw_X8_backs_48 : Cond.fieldLink RX8 48 "StepBenchModel" "depth" "[J" ∈ wsX8_backs := by decide +kernel
set_option maxRecDepth 20000 in
theorem fw_X8_backs_32 : Cond.fieldLink RX8 32 "StepBenchModel" "found" "[J" ∈ wsX8_backs := by decide +kernel
set_option maxRecDepth 20000 in
theorem hd_X8_backs : yX8_backs.cls = RX8 ∧ yX8_backs.cls ≠ "java/lang/invoke/MethodHandle" ∧ yX8_backs.cls ≠ "java/lang/invoke/VarHandle" ∧ (parseMethodDescriptor yX8_backs.desc).map (fun d => d.parameters.length) = some 2 := by decide +kernel
def V_X8_backs_101  (v3 : Int32) (v5 : Int32) (v6 : Int32) (K47 : Int32 → Int32 → SS → Prop) (post : Int32 → SS → Prop) : Nat → Int32 → SS → Prop
  | 0, _, _ => False
  | n + 1, v7, S =>
    ((v6 ≤ v7 → (∀ x13 : Int32, x13 = v5 + 1 → (K47 v6 x13 S))) ∧ (¬ v6 ≤ v7 → (vp_in v7 20000 ∧ (vp_in v7 1000 ∧ ∀ S14 : SS, S14 = (sA S 39 (vp_updL (gA S 39) v7.toNatClampNeg (gA S 36 v7.toNatClampNeg))) → (∀ x15 : Int32, x15 = v7 + 1 → (V_X8_backs_101  v3 v5 v6 K47 post n x15 S14))))))
set_option maxHeartbeats 4000000 in
set_option maxRecDepth 100000 in
theorem lp_X8_backs_101  (v3 : Int32) (v5 : Int32) (v6 : Int32) (K47 : Int32 → Int32 → SS → Prop) (post : Int32 → SS → Prop) (C0 : Bd p s m meth c args cX8_backs 8 (some .int) wsX8_backs RX8 D n0 cI cJ) (hK47 : ∀ (v4 : Int32) (v5 : Int32) (S : SS), K47 v4 v5 S → ∀ (H : Heap) (locs : List Loc), Wh D n0 ad cI cJ X S s H locs → ∀ ls : Array Slot, lv_has ls 8 [(0, .ref (ad 48)), (3, .int v3), (4, .int v4), (5, .int v5)] → W p l e rm_X8_backs s m args below meth c H locs 0 0 (MQ below (va_Qi post (fun S' t => Wd D n0 ad cI cJ X S' t) (fr n0)) args s 0 0 (fr n0)) (F0 m 47 ls [])) : ∀ (n : Nat) (v7 : Int32) (S : SS), V_X8_backs_101  v3 v5 v6 K47 post n v7 S → ∀ (H : Heap) (locs : List Loc), Wh D n0 ad cI cJ X S s H locs → ∀ ls : Array Slot, lv_has ls 8 [(0, .ref (ad 48)), (3, .int v3), (5, .int v5), (6, .int v6), (7, .int v7)] → W p l e rm_X8_backs s m args below meth c H locs 0 0 (MQ below (va_Qi post (fun S' t => Wd D n0 ad cI cJ X S' t) (fr n0)) args s 0 0 (fr n0)) (F0 m 101 ls []) := by
  intro n
  induction n with
  | zero => intro v7 S hV; exact False.elim hV
  | succ n ih =>
    intro v7 S hV H locs hw ls hl
    rw [V_X8_backs_101] at hV
    refine lv_iload C0.x C0.b dX8_backs_101 (lv_at hl 4 rfl) ?_
    refine lv_iload C0.x C0.b dX8_backs_103 (lv_at hl 3 rfl) ?_
    refine lv_icmp_ge (tgt := 128) C0.x C0.b dX8_backs_105 (by decide) (fun c12 => ?_) (fun c12 => ?_)
    · have hV := hV.1 c12
      refine lv_iload C0.x C0.b dX8_backs_128 (lv_at hl 3 rfl) ?_
      refine lv_istore (lv' := [(4, .int v6), (0, .ref (ad 48)), (3, .int v3), (5, .int v5), (6, .int v6), (7, .int v7)]) C0.x C0.b dX8_backs_130 hl (by decide) rfl (fun ls hl => ?_)
      obtain ⟨x13, ex13⟩ : ∃ z : Int32, z = v5 + 1 := ⟨_, rfl⟩
      have hV := hV x13 ex13
      refine lv_iinc (v := x13) (lv' := [(5, .int x13), (4, .int v6), (0, .ref (ad 48)), (3, .int v3), (6, .int v6), (7, .int v7)]) C0.x C0.b dX8_backs_132 hl (k := 3) rfl (by rw [ex13]; rfl) (by decide) rfl (fun ls hl => ?_)
      refine lv_goto (tgt := 47) C0.x C0.b dX8_backs_135 (by decide) ?_
      exact hK47 _ _ _ hV _ _ hw _ (lv_sub hl [2, 3, 1, 0] rfl)
    · have hV := hV.2 c12
      refine lv_aload_n C0.x C0.b dX8_backs_108 rfl (lv_at hl 0 rfl) ?_
      refine r_get C0 hw (C := RX8) (T := TX8) (N := 33) (v := .ref (ad 60)) iw_X8_backs_X8 (lg_48 ad cI cJ X S) rfl 28 (by decide) (C0.ts _ fw_X8_backs_48) rfl dX8_backs_109 ?_
      refine lv_iload C0.x C0.b dX8_backs_112 (lv_at hl 4 rfl) ?_
      refine lv_aload_n C0.x C0.b dX8_backs_114 rfl (lv_at hl 0 rfl) ?_
      refine r_get C0 hw (C := RX8) (T := TX8) (N := 33) (v := .ref (ad 55)) iw_X8_backs_X8 (lg_48 ad cI cJ X S) rfl 16 (by decide) (C0.ts _ fw_X8_backs_32) rfl dX8_backs_115 ?_
      refine lv_iload C0.x C0.b dX8_backs_118 (lv_at hl 4 rfl) ?_
      refine r_lald C0 hw (lg_55 ad cI cJ X S) hV.1 dX8_backs_120 ?_
      have hV := hV.2
      refine r_last C0 hw (lg_60 ad cI cJ X S) hV.1 dX8_backs_121 (S' := (sA S 39 (vp_updL (gA S 39) v7.toNatClampNeg (gA S 36 v7.toNatClampNeg)))) (ls_60 ad cI cJ X S (vp_updL (gA S 39) v7.toNatClampNeg (gA S 36 v7.toNatClampNeg))) (fun S14 H locs eS14 hw => ?_)
      have hV := hV.2 S14 eS14
      obtain ⟨x15, ex15⟩ : ∃ z : Int32, z = v7 + 1 := ⟨_, rfl⟩
      have hV := hV x15 ex15
      refine lv_iinc (v := x15) (lv' := [(7, .int x15), (0, .ref (ad 48)), (3, .int v3), (5, .int v5), (6, .int v6)]) C0.x C0.b dX8_backs_122 hl (k := 4) rfl (by rw [ex15]; rfl) (by decide) rfl (fun ls hl => ?_)
      refine lv_goto (tgt := 101) C0.x C0.b dX8_backs_125 (by decide) ?_
      exact ih _ _ hV _ _ hw _ (lv_sub hl [1, 2, 3, 4, 0] rfl)
def V_X8_backs_59  (v3 : Int32) (v4 : Int32) (v5 : Int32) (K47 : Int32 → Int32 → SS → Prop) (post : Int32 → SS → Prop) : Nat → Int32 → Int32 → SS → Prop
  | 0, _, _, _ => False
  | n + 1, v6, v7, S =>
    ((v4 ≤ v7 → (∃ n101 : Nat, V_X8_backs_101  v3 v5 v6 K47 post n101 (0 : Int32) S)) ∧ (¬ v4 ≤ v7 → (vp_in v7 1000 ∧ (V_X8_backOf (gA S 39 v7.toNatClampNeg) v6 S (fun (r16 : Int32) (S17 : SS) => ((r16 ≤ (1000 : Int32) → (∀ x19 : Int32, x19 = v7 + 1 → (V_X8_backs_59  v3 v4 v5 K47 post n r16 x19 S17))) ∧ (¬ r16 ≤ (1000 : Int32) → (post (-2 : Int32) S17))))))))
set_option maxHeartbeats 4000000 in
set_option maxRecDepth 100000 in
theorem lp_X8_backs_59  (v3 : Int32) (v4 : Int32) (v5 : Int32) (K47 : Int32 → Int32 → SS → Prop) (post : Int32 → SS → Prop) (C0 : Bd p s m meth c args cX8_backs 8 (some .int) wsX8_backs RX8 D n0 cI cJ) (hK47 : ∀ (v4 : Int32) (v5 : Int32) (S : SS), K47 v4 v5 S → ∀ (H : Heap) (locs : List Loc), Wh D n0 ad cI cJ X S s H locs → ∀ ls : Array Slot, lv_has ls 8 [(0, .ref (ad 48)), (3, .int v3), (4, .int v4), (5, .int v5)] → W p l e rm_X8_backs s m args below meth c H locs 0 0 (MQ below (va_Qi post (fun S' t => Wd D n0 ad cI cJ X S' t) (fr n0)) args s 0 0 (fr n0)) (F0 m 47 ls [])) : ∀ (n : Nat) (v6 : Int32) (v7 : Int32) (S : SS), V_X8_backs_59  v3 v4 v5 K47 post n v6 v7 S → ∀ (H : Heap) (locs : List Loc), Wh D n0 ad cI cJ X S s H locs → ∀ ls : Array Slot, lv_has ls 8 [(0, .ref (ad 48)), (3, .int v3), (4, .int v4), (5, .int v5), (6, .int v6), (7, .int v7)] → W p l e rm_X8_backs s m args below meth c H locs 0 0 (MQ below (va_Qi post (fun S' t => Wd D n0 ad cI cJ X S' t) (fr n0)) args s 0 0 (fr n0)) (F0 m 59 ls []) := by
  intro n
  induction n with
  | zero => intro v6 v7 S hV; exact False.elim hV
  | succ n ih =>
    intro v6 v7 S hV H locs hw ls hl
    rw [V_X8_backs_59] at hV
    refine lv_iload C0.x C0.b dX8_backs_59 (lv_at hl 5 rfl) ?_
    refine lv_iload C0.x C0.b dX8_backs_61 (lv_at hl 2 rfl) ?_
    refine lv_icmp_ge (tgt := 98) C0.x C0.b dX8_backs_63 (by decide) (fun c11 => ?_) (fun c11 => ?_)
    · have hV := hV.1 c11
      refine lv_iconst (v := 0) C0.x C0.b dX8_backs_98 (by decide) ?_
      refine lv_istore (lv' := [(7, .int (0 : Int32)), (0, .ref (ad 48)), (3, .int v3), (4, .int v4), (5, .int v5), (6, .int v6)]) C0.x C0.b dX8_backs_99 hl (by decide) rfl (fun ls hl => ?_)
      obtain ⟨n101, hV⟩ := hV
      exact lp_X8_backs_101  _ _ _ _ post C0 hK47 n101 _ _ hV _ _ hw _ (lv_sub hl [1, 2, 4, 5, 0] rfl)
    · have hV := hV.2 c11
      refine lv_aload_n C0.x C0.b dX8_backs_66 rfl (lv_at hl 0 rfl) ?_
      refine lv_aload_n C0.x C0.b dX8_backs_67 rfl (lv_at hl 0 rfl) ?_
      refine r_get C0 hw (C := RX8) (T := TX8) (N := 33) (v := .ref (ad 60)) iw_X8_backs_X8 (lg_48 ad cI cJ X S) rfl 28 (by decide) (C0.ts _ fw_X8_backs_48) rfl dX8_backs_68 ?_
      refine lv_iload C0.x C0.b dX8_backs_71 (lv_at hl 5 rfl) ?_
      refine r_lald C0 hw (lg_60 ad cI cJ X S) hV.1 dX8_backs_73 ?_
      have hV := hV.2
      refine lv_iload C0.x C0.b dX8_backs_74 (lv_at hl 4 rfl) ?_
      refine r_cV_i (As := [.long (gA S 39 v7.toNatClampNeg), .int v6]) (rest := []) C0 hw (c_X8_backOf  hV) (cwV 2 C0.ts gX8_backs_X8_backOf rfl rfl rfl hd_X8_backOf ⟨Nat.le_of_ble_eq_true rfl, Nat.le_of_ble_eq_true rfl⟩) (lg_48 ad cI cJ X S) rfl rfl hl.1 rfl (Nat.le_of_ble_eq_true rfl) ⟨Nat.zero_le _, Nat.zero_le _⟩ dX8_backs_76 (fun r16 S17 H locs hV hw => ?_)
      refine lv_istore (lv' := [(6, .int r16), (0, .ref (ad 48)), (3, .int v3), (4, .int v4), (5, .int v5), (7, .int v7)]) C0.x C0.b dX8_backs_79 hl (by decide) rfl (fun ls hl => ?_)
      refine lv_iload C0.x C0.b dX8_backs_81 (lv_at hl 0 rfl) ?_
      refine lv_sipush (v := 1000) C0.x C0.b dX8_backs_83 (by decide) ?_
      refine lv_icmp_le (tgt := 92) C0.x C0.b dX8_backs_86 (by decide) (fun c18 => ?_) (fun c18 => ?_)
      · have hV := hV.1 c18
        obtain ⟨x19, ex19⟩ : ∃ z : Int32, z = v7 + 1 := ⟨_, rfl⟩
        have hV := hV x19 ex19
        refine lv_iinc (v := x19) (lv' := [(7, .int x19), (6, .int r16), (0, .ref (ad 48)), (3, .int v3), (4, .int v4), (5, .int v5)]) C0.x C0.b dX8_backs_92 hl (k := 5) rfl (by rw [ex19]; rfl) (by decide) rfl (fun ls hl => ?_)
        refine lv_goto (tgt := 59) C0.x C0.b dX8_backs_95 (by decide) ?_
        exact ih _ _ _ hV _ _ hw _ (lv_sub hl [2, 3, 4, 5, 1, 0] rfl)
      · have hV := hV.2 c18
        refine lv_bipush (v := -2) C0.x C0.b dX8_backs_89 (by decide) ?_
        exact r_iret C0 rfl hw hV dX8_backs_91
def V_X8_backs_47  (v3 : Int32)  (post : Int32 → SS → Prop) : Nat → Int32 → Int32 → SS → Prop
  | 0, _, _, _ => False
  | n + 1, v4, v5, S =>
    ((v3 ≤ v5 → (post v4 S)) ∧ (¬ v3 ≤ v5 → (∃ n59 : Nat, V_X8_backs_59  v3 v4 v5 (fun w4 w5 T => V_X8_backs_47  v3  post n w4 w5 T) post n59 (0 : Int32) (0 : Int32) S)))
set_option maxHeartbeats 4000000 in
set_option maxRecDepth 100000 in
theorem lp_X8_backs_47  (v3 : Int32)  (post : Int32 → SS → Prop) (C0 : Bd p s m meth c args cX8_backs 8 (some .int) wsX8_backs RX8 D n0 cI cJ) : ∀ (n : Nat) (v4 : Int32) (v5 : Int32) (S : SS), V_X8_backs_47  v3  post n v4 v5 S → ∀ (H : Heap) (locs : List Loc), Wh D n0 ad cI cJ X S s H locs → ∀ ls : Array Slot, lv_has ls 8 [(0, .ref (ad 48)), (3, .int v3), (4, .int v4), (5, .int v5)] → W p l e rm_X8_backs s m args below meth c H locs 0 0 (MQ below (va_Qi post (fun S' t => Wd D n0 ad cI cJ X S' t) (fr n0)) args s 0 0 (fr n0)) (F0 m 47 ls []) := by
  intro n
  induction n with
  | zero => intro v4 v5 S hV; exact False.elim hV
  | succ n ih =>
    intro v4 v5 S hV H locs hw ls hl
    rw [V_X8_backs_47] at hV
    refine lv_iload C0.x C0.b dX8_backs_47 (lv_at hl 3 rfl) ?_
    refine lv_iload_n C0.x C0.b dX8_backs_49 rfl (lv_at hl 1 rfl) ?_
    refine lv_icmp_ge (tgt := 138) C0.x C0.b dX8_backs_50 (by decide) (fun c10 => ?_) (fun c10 => ?_)
    · have hV := hV.1 c10
      refine lv_iload C0.x C0.b dX8_backs_138 (lv_at hl 2 rfl) ?_
      exact r_iret C0 rfl hw hV dX8_backs_140
    · have hV := hV.2 c10
      refine lv_iconst (v := 0) C0.x C0.b dX8_backs_53 (by decide) ?_
      refine lv_istore (lv' := [(6, .int (0 : Int32)), (0, .ref (ad 48)), (3, .int v3), (4, .int v4), (5, .int v5)]) C0.x C0.b dX8_backs_54 hl (by decide) rfl (fun ls hl => ?_)
      refine lv_iconst (v := 0) C0.x C0.b dX8_backs_56 (by decide) ?_
      refine lv_istore (lv' := [(7, .int (0 : Int32)), (6, .int (0 : Int32)), (0, .ref (ad 48)), (3, .int v3), (4, .int v4), (5, .int v5)]) C0.x C0.b dX8_backs_57 hl (by decide) rfl (fun ls hl => ?_)
      obtain ⟨n59, hV⟩ := hV
      exact lp_X8_backs_59  _ _ _ _ post C0 ih n59 _ _ _ hV _ _ hw _ (lv_sub hl [2, 3, 4, 5, 1, 0] rfl)
def V_X8_backs  (p0 : Int64) (p1 : Int32) (S : SS) (post : Int32 → SS → Prop) : Prop :=
  (∀ S1 : SS, S1 = (sI S 20 (0 : Int32)) → (((gI S1 25) = (1 : Int32) → (V_X8_isNumber p0 S1 (fun (r3 : Int32) (S4 : SS) => ((r3 = 0 → (post (-1 : Int32) S4)) ∧ (¬ r3 = 0 → (V_X8_in p1.toInt64 (0 : Int64) (20 : Int64) S4 (fun (r6 : Int32) (S7 : SS) => ((r6 = 0 → (post (-1 : Int32) S7)) ∧ (¬ r6 = 0 → (vp_in (0 : Int32) 1000 ∧ ∀ S9 : SS, S9 = (sA S7 39 (vp_updL (gA S7 39) (0 : Int32).toNatClampNeg p0)) → (∃ n47 : Nat, V_X8_backs_47  p1  post n47 (1 : Int32) (0 : Int32) S9))))))))))) ∧ (¬ (gI S1 25) = (1 : Int32) → (post (-1 : Int32) S1))))
set_option maxHeartbeats 4000000 in
set_option maxRecDepth 100000 in
theorem c_X8_backs  {S : SS} {p0 : Int64} {p1 : Int32} {post : Int32 → SS → Prop} (hV : V_X8_backs  p0 p1 S post) : MI l yX8_backs wsX8_backs rm_X8_backs [.ref (ad 48), .long p0, .int p1] D n0 ad cI cJ X S post := by
  refine Met.ofW (cc := cX8_backs) (maxL := 8) (ret := (some .int)) (by decide) rfl ?_
  intro p e s m args below meth c s₁ B hml hv
  obtain ⟨rfl, hv⟩ := hv
  have C0 := Bd.mk B hml (atoms_spec (ws := wsX8_backs) B.pre) (findClass_of_methodNamed B.named) hv.1
  have hw : Wh D n0 ad cI cJ X S s s.heap [] := ⟨hv.2.1, hv.2.2, va_S.rf⟩
  refine r_entry (Nat.le_of_ble_eq_true rfl) (fun ls hl => ?_)
  have hl : lv_has ls 8 [(0, .ref (ad 48)), (1, .long p0), (3, .int p1)] := hl
  unfold V_X8_backs at hV
  refine lv_aload_n C0.x C0.b dX8_backs_0 rfl (lv_at hl 0 rfl) ?_
  refine lv_iconst (v := 0) C0.x C0.b dX8_backs_1 (by decide) ?_
  refine r_put C0 hw (C := RX8) (T := TX8) (N := 33) (ty := .int) iw_X8_backs_X8 tyX8 tyX8_ok nmX8 (lg_48 ad cI cJ X S) rfl 0 (by decide) (C0.ts _ fw_X8_backs_61) rfl (by decide +kernel) rfl rfl (Nat.le_of_ble_eq_true rfl) dX8_backs_2 (S' := (sI S 20 (0 : Int32))) (ls_48_0 ad cI cJ X S (0 : Int32)) (fun S1 H locs eS1 hw => ?_)
  have hV := hV S1 eS1
  refine lv_aload_n C0.x C0.b dX8_backs_5 rfl (lv_at hl 0 rfl) ?_
  refine r_get C0 hw (C := RX8) (T := TX8) (N := 33) (v := .int (gI S1 25)) iw_X8_backs_X8 (lg_48 ad cI cJ X S1) rfl 7 (by decide) (C0.ts _ fw_X8_backs_108) rfl dX8_backs_6 ?_
  refine lv_iconst (v := 1) C0.x C0.b dX8_backs_9 (by decide) ?_
  refine lv_icmp_ne (tgt := 32) C0.x C0.b dX8_backs_10 (by decide) (fun c2 => ?_) (fun c2 => ?_)
  · have hV := hV.2 c2
    refine lv_iconst (v := -1) C0.x C0.b dX8_backs_32 (by decide) ?_
    exact r_iret C0 rfl hw hV dX8_backs_33
  · have hV := hV.1 c2
    refine lv_lload_n C0.x C0.b dX8_backs_13 rfl (lv_at hl 1 rfl) ?_
    refine r_cS_i (As := [.long p0]) (rest := []) C0 hw (c_X8_isNumber  hV) (va_cwS 1 C0.ts gX8_backs_X8_isNumber rfl rfl rfl hd_X8_isNumber ⟨Nat.le_of_ble_eq_true rfl, Nat.le_of_ble_eq_true rfl⟩) rfl hl.1 rfl (Nat.le_of_ble_eq_true rfl) ⟨Nat.zero_le _, Nat.zero_le _⟩ dX8_backs_14 (fun r3 S4 H locs hV hw => ?_)
    refine lv_if_eq (tgt := 32) C0.x C0.b dX8_backs_17 (by decide) (fun c5 => ?_) (fun c5 => ?_)
    · have hV := hV.1 c5
      refine lv_iconst (v := -1) C0.x C0.b dX8_backs_32 (by decide) ?_
      exact r_iret C0 rfl hw hV dX8_backs_33
    · have hV := hV.2 c5
      refine lv_iload_n C0.x C0.b dX8_backs_20 rfl (lv_at hl 2 rfl) ?_
      refine lv_i2l C0.x C0.b dX8_backs_21 rfl ?_
      refine lv_lconst (v := 0) C0.x C0.b dX8_backs_22 (by decide) ?_
      refine lv_ldc2 (v := 20) C0.x C0.b C0.ow (C0.ts _ cw_X8_backs_223) dX8_backs_23 ?_
      refine r_cS_i (As := [.long p1.toInt64, .long (0 : Int64), .long (20 : Int64)]) (rest := []) C0 hw (c_X8_in  hV) (va_cwS 3 C0.ts gX8_backs_X8_in rfl rfl rfl hd_X8_in ⟨Nat.le_of_ble_eq_true rfl, Nat.le_of_ble_eq_true rfl⟩) rfl hl.1 rfl (Nat.le_of_ble_eq_true rfl) ⟨Nat.zero_le _, Nat.zero_le _⟩ dX8_backs_26 (fun r6 S7 H locs hV hw => ?_)
      refine lv_if_ne (tgt := 34) C0.x C0.b dX8_backs_29 (by decide) (fun c8 => ?_) (fun c8 => ?_)
      · have hV := hV.2 c8
        refine lv_aload_n C0.x C0.b dX8_backs_34 rfl (lv_at hl 0 rfl) ?_
        refine r_get C0 hw (C := RX8) (T := TX8) (N := 33) (v := .ref (ad 60)) iw_X8_backs_X8 (lg_48 ad cI cJ X S7) rfl 28 (by decide) (C0.ts _ fw_X8_backs_48) rfl dX8_backs_35 ?_
        refine lv_iconst (v := 0) C0.x C0.b dX8_backs_38 (by decide) ?_
        refine lv_lload_n C0.x C0.b dX8_backs_39 rfl (lv_at hl 1 rfl) ?_
        refine r_last C0 hw (lg_60 ad cI cJ X S7) hV.1 dX8_backs_40 (S' := (sA S7 39 (vp_updL (gA S7 39) (0 : Int32).toNatClampNeg p0))) (ls_60 ad cI cJ X S7 (vp_updL (gA S7 39) (0 : Int32).toNatClampNeg p0)) (fun S9 H locs eS9 hw => ?_)
        have hV := hV.2 S9 eS9
        refine lv_iconst (v := 1) C0.x C0.b dX8_backs_41 (by decide) ?_
        refine lv_istore (lv' := [(4, .int (1 : Int32)), (0, .ref (ad 48)), (1, .long p0), (3, .int p1)]) C0.x C0.b dX8_backs_42 hl (by decide) rfl (fun ls hl => ?_)
        refine lv_iconst (v := 0) C0.x C0.b dX8_backs_44 (by decide) ?_
        refine lv_istore (lv' := [(5, .int (0 : Int32)), (4, .int (1 : Int32)), (0, .ref (ad 48)), (1, .long p0), (3, .int p1)]) C0.x C0.b dX8_backs_45 hl (by decide) rfl (fun ls hl => ?_)
        obtain ⟨n47, hV⟩ := hV
        exact lp_X8_backs_47  _ post C0  n47 _ _ _ hV _ _ hw _ (lv_sub hl [2, 4, 1, 0] rfl)
      · have hV := hV.1 c8
        refine lv_iconst (v := -1) C0.x C0.b dX8_backs_32 (by decide) ?_
        exact r_iret C0 rfl hw hV dX8_backs_33
/-! StepBenchModel.gap(I)J -/
abbrev rm_X8_gap : Room := { frames := 0, cells := 0, slots := 0, locals := 0 }
set_option maxRecDepth 20000 in
theorem fw_X8_gap_20 : Cond.fieldLink RX8 20 "StepBenchModel" "rule" "[J" ∈ wsX8_gap := by decide +kernel
set_option maxRecDepth 20000 in
theorem iw_X8_gap_X8 : ∀ w ∈ wsX80, w ∈ wsX8_gap := by decide +kernel
set_option maxRecDepth 20000 in
theorem fw_X8_gap_105 : Cond.fieldLink RX8 105 "StepBenchModel" "m" "I" ∈ wsX8_gap := by decide +kernel
set_option maxRecDepth 20000 in
theorem hd_X8_gap : yX8_gap.cls = RX8 ∧ yX8_gap.cls ≠ "java/lang/invoke/MethodHandle" ∧ yX8_gap.cls ≠ "java/lang/invoke/VarHandle" ∧ (parseMethodDescriptor yX8_gap.desc).map (fun d => d.parameters.length) = some 1 := by decide +kernel
def V_X8_gap  (p0 : Int32) (S : SS) (post : Int64 → SS → Prop) : Prop :=
  (vp_in ((3 : Int32) * p0) 192 ∧ (vp_in (((3 : Int32) * p0) + (2 : Int32)) 192 ∧ (¬ (gA S 32 (((3 : Int32) * p0) + (2 : Int32)).toNatClampNeg) = 0 ∧ (∀ y1 : Int64, y1 = (((gA S 32 ((3 : Int32) * p0).toNatClampNeg) * (gI S 26).toInt64) / (gA S 32 (((3 : Int32) * p0) + (2 : Int32)).toNatClampNeg)) → (((0 : Int64) ≤ y1 → (post y1 S)) ∧ (¬ (0 : Int64) ≤ y1 → (post (-y1) S)))))))
set_option maxHeartbeats 4000000 in
set_option maxRecDepth 100000 in
theorem c_X8_gap  {S : SS} {p0 : Int32} {post : Int64 → SS → Prop} (hV : V_X8_gap  p0 S post) : ML l yX8_gap wsX8_gap rm_X8_gap [.ref (ad 48), .int p0] D n0 ad cI cJ X S post := by
  refine Met.ofW (cc := cX8_gap) (maxL := 4) (ret := (some .long)) (by decide) rfl ?_
  intro p e s m args below meth c s₁ B hml hv
  obtain ⟨rfl, hv⟩ := hv
  have C0 := Bd.mk B hml (atoms_spec (ws := wsX8_gap) B.pre) (findClass_of_methodNamed B.named) hv.1
  have hw : Wh D n0 ad cI cJ X S s s.heap [] := ⟨hv.2.1, hv.2.2, va_S.rf⟩
  refine r_entry (Nat.le_of_ble_eq_true rfl) (fun ls hl => ?_)
  have hl : lv_has ls 4 [(0, .ref (ad 48)), (1, .int p0)] := hl
  unfold V_X8_gap at hV
  refine lv_aload_n C0.x C0.b dX8_gap_0 rfl (lv_at hl 0 rfl) ?_
  refine r_get C0 hw (C := RX8) (T := TX8) (N := 33) (v := .ref (ad 51)) iw_X8_gap_X8 (lg_48 ad cI cJ X S) rfl 9 (by decide) (C0.ts _ fw_X8_gap_20) rfl dX8_gap_1 ?_
  refine lv_iconst (v := 3) C0.x C0.b dX8_gap_4 (by decide) ?_
  refine lv_iload_n C0.x C0.b dX8_gap_5 rfl (lv_at hl 1 rfl) ?_
  refine lv_imul C0.x C0.b dX8_gap_6 ?_
  refine r_lald C0 hw (lg_51 ad cI cJ X S) hV.1 dX8_gap_7 ?_
  have hV := hV.2
  refine lv_aload_n C0.x C0.b dX8_gap_8 rfl (lv_at hl 0 rfl) ?_
  refine r_get C0 hw (C := RX8) (T := TX8) (N := 33) (v := .int (gI S 26)) iw_X8_gap_X8 (lg_48 ad cI cJ X S) rfl 8 (by decide) (C0.ts _ fw_X8_gap_105) rfl dX8_gap_9 ?_
  refine lv_i2l C0.x C0.b dX8_gap_12 rfl ?_
  refine lv_lmul C0.x C0.b dX8_gap_13 ?_
  refine lv_aload_n C0.x C0.b dX8_gap_14 rfl (lv_at hl 0 rfl) ?_
  refine r_get C0 hw (C := RX8) (T := TX8) (N := 33) (v := .ref (ad 51)) iw_X8_gap_X8 (lg_48 ad cI cJ X S) rfl 9 (by decide) (C0.ts _ fw_X8_gap_20) rfl dX8_gap_15 ?_
  refine lv_iconst (v := 3) C0.x C0.b dX8_gap_18 (by decide) ?_
  refine lv_iload_n C0.x C0.b dX8_gap_19 rfl (lv_at hl 1 rfl) ?_
  refine lv_imul C0.x C0.b dX8_gap_20 ?_
  refine lv_iconst (v := 2) C0.x C0.b dX8_gap_21 (by decide) ?_
  refine lv_iadd C0.x C0.b dX8_gap_22 ?_
  refine r_lald C0 hw (lg_51 ad cI cJ X S) hV.1 dX8_gap_23 ?_
  have hV := hV.2
  refine lv_ldiv C0.x C0.b dX8_gap_24 hV.1 ?_
  have hV := hV.2
  refine lv_topl (fun y1 ey1 => ?_)
  have hV := hV y1 ey1
  refine lv_lstore_n (lv' := [(2, .long y1), (0, .ref (ad 48)), (1, .int p0)]) C0.x C0.b dX8_gap_25 rfl hl (by decide) rfl (fun ls hl => ?_)
  refine lv_lload_n C0.x C0.b dX8_gap_26 rfl (lv_at hl 0 rfl) ?_
  refine lv_lconst (v := 0) C0.x C0.b dX8_gap_27 (by decide) ?_
  refine r_lcmp C0 dX8_gap_28 ?_
  refine lv_if_ge (tgt := 37) C0.x C0.b dX8_gap_29 (by decide) (fun c2 => ?_) (fun c2 => ?_)
  · have hV := hV.1 ((lc_ge _ _).mp c2)
    refine lv_lload_n C0.x C0.b dX8_gap_37 rfl (lv_at hl 0 rfl) ?_
    exact r_lret C0 rfl hw hV dX8_gap_38
  · have hV := hV.2 (fun h => c2 ((lc_ge _ _).mpr h))
    refine lv_lload_n C0.x C0.b dX8_gap_32 rfl (lv_at hl 0 rfl) ?_
    refine lv_lneg C0.x C0.b dX8_gap_33 ?_
    refine lv_goto (tgt := 38) C0.x C0.b dX8_gap_34 (by decide) ?_
    exact r_lret C0 rfl hw hV dX8_gap_38
/-! StepBenchModel.first(I)J -/
abbrev rm_X8_first : Room := { frames := 0, cells := 0, slots := 0, locals := 0 }
set_option maxRecDepth 20000 in
theorem fw_X8_first_20 : Cond.fieldLink RX8 20 "StepBenchModel" "rule" "[J" ∈ wsX8_first := by decide +kernel
set_option maxRecDepth 20000 in
theorem iw_X8_first_X8 : ∀ w ∈ wsX80, w ∈ wsX8_first := by decide +kernel
set_option maxRecDepth 20000 in
theorem hd_X8_first : yX8_first.cls = RX8 ∧ yX8_first.cls ≠ "java/lang/invoke/MethodHandle" ∧ yX8_first.cls ≠ "java/lang/invoke/VarHandle" ∧ (parseMethodDescriptor yX8_first.desc).map (fun d => d.parameters.length) = some 1 := by decide +kernel
def V_X8_first  (p0 : Int32) (S : SS) (post : Int64 → SS → Prop) : Prop :=
  (vp_in ((3 : Int32) * p0) 192 ∧ (vp_in (((3 : Int32) * p0) + (1 : Int32)) 192 ∧ (vp_in (((3 : Int32) * p0) + (2 : Int32)) 192 ∧ (¬ (gA S 32 (((3 : Int32) * p0) + (2 : Int32)).toNatClampNeg) = 0 ∧ (post ((((gA S 32 ((3 : Int32) * p0).toNatClampNeg) * p0.toInt64) + (gA S 32 (((3 : Int32) * p0) + (1 : Int32)).toNatClampNeg)) / (gA S 32 (((3 : Int32) * p0) + (2 : Int32)).toNatClampNeg)) S)))))
set_option maxHeartbeats 4000000 in
set_option maxRecDepth 100000 in
theorem c_X8_first  {S : SS} {p0 : Int32} {post : Int64 → SS → Prop} (hV : V_X8_first  p0 S post) : ML l yX8_first wsX8_first rm_X8_first [.ref (ad 48), .int p0] D n0 ad cI cJ X S post := by
  refine Met.ofW (cc := cX8_first) (maxL := 2) (ret := (some .long)) (by decide) rfl ?_
  intro p e s m args below meth c s₁ B hml hv
  obtain ⟨rfl, hv⟩ := hv
  have C0 := Bd.mk B hml (atoms_spec (ws := wsX8_first) B.pre) (findClass_of_methodNamed B.named) hv.1
  have hw : Wh D n0 ad cI cJ X S s s.heap [] := ⟨hv.2.1, hv.2.2, va_S.rf⟩
  refine r_entry (Nat.le_of_ble_eq_true rfl) (fun ls hl => ?_)
  have hl : lv_has ls 2 [(0, .ref (ad 48)), (1, .int p0)] := hl
  unfold V_X8_first at hV
  refine lv_aload_n C0.x C0.b dX8_first_0 rfl (lv_at hl 0 rfl) ?_
  refine r_get C0 hw (C := RX8) (T := TX8) (N := 33) (v := .ref (ad 51)) iw_X8_first_X8 (lg_48 ad cI cJ X S) rfl 9 (by decide) (C0.ts _ fw_X8_first_20) rfl dX8_first_1 ?_
  refine lv_iconst (v := 3) C0.x C0.b dX8_first_4 (by decide) ?_
  refine lv_iload_n C0.x C0.b dX8_first_5 rfl (lv_at hl 1 rfl) ?_
  refine lv_imul C0.x C0.b dX8_first_6 ?_
  refine r_lald C0 hw (lg_51 ad cI cJ X S) hV.1 dX8_first_7 ?_
  have hV := hV.2
  refine lv_iload_n C0.x C0.b dX8_first_8 rfl (lv_at hl 1 rfl) ?_
  refine lv_i2l C0.x C0.b dX8_first_9 rfl ?_
  refine lv_lmul C0.x C0.b dX8_first_10 ?_
  refine lv_aload_n C0.x C0.b dX8_first_11 rfl (lv_at hl 0 rfl) ?_
  refine r_get C0 hw (C := RX8) (T := TX8) (N := 33) (v := .ref (ad 51)) iw_X8_first_X8 (lg_48 ad cI cJ X S) rfl 9 (by decide) (C0.ts _ fw_X8_first_20) rfl dX8_first_12 ?_
  refine lv_iconst (v := 3) C0.x C0.b dX8_first_15 (by decide) ?_
  refine lv_iload_n C0.x C0.b dX8_first_16 rfl (lv_at hl 1 rfl) ?_
  refine lv_imul C0.x C0.b dX8_first_17 ?_
  refine lv_iconst (v := 1) C0.x C0.b dX8_first_18 (by decide) ?_
  refine lv_iadd C0.x C0.b dX8_first_19 ?_
  refine r_lald C0 hw (lg_51 ad cI cJ X S) hV.1 dX8_first_20 ?_
  have hV := hV.2
  refine lv_ladd C0.x C0.b dX8_first_21 ?_
  refine lv_aload_n C0.x C0.b dX8_first_22 rfl (lv_at hl 0 rfl) ?_
  refine r_get C0 hw (C := RX8) (T := TX8) (N := 33) (v := .ref (ad 51)) iw_X8_first_X8 (lg_48 ad cI cJ X S) rfl 9 (by decide) (C0.ts _ fw_X8_first_20) rfl dX8_first_23 ?_
  refine lv_iconst (v := 3) C0.x C0.b dX8_first_26 (by decide) ?_
  refine lv_iload_n C0.x C0.b dX8_first_27 rfl (lv_at hl 1 rfl) ?_
  refine lv_imul C0.x C0.b dX8_first_28 ?_
  refine lv_iconst (v := 2) C0.x C0.b dX8_first_29 (by decide) ?_
  refine lv_iadd C0.x C0.b dX8_first_30 ?_
  refine r_lald C0 hw (lg_51 ad cI cJ X S) hV.1 dX8_first_31 ?_
  have hV := hV.2
  refine lv_ldiv C0.x C0.b dX8_first_32 hV.1 ?_
  have hV := hV.2
  exact r_lret C0 rfl hw hV dX8_first_33
/-! StepBenchModel.measure()I -/
abbrev rm_X8_measure : Room := { frames := 1, cells := 0, slots := 0, locals := 29 }
set_option maxRecDepth 20000 in
theorem fw_X8_measure_105 : Cond.fieldLink RX8 105 "StepBenchModel" "m" "I" ∈ wsX8_measure := by decide +kernel
set_option maxRecDepth 20000 in
theorem iw_X8_measure_X8 : ∀ w ∈ wsX80, w ∈ wsX8_measure := by decide +kernel
set_option maxRecDepth 20000 in
theorem cw_X8_measure_228 : Cond.constantLong RX8 228 100001 ∈ wsX8_measure := by decide +kernel
set_option maxRecDepth 20000 in
theorem ml_X8_measure_196 : Cond.methodLink RX8 196 Lib.MathLoose.min_long.x ∈ wsX8_measure := by decide +kernel
set_option maxRecDepth 20000 in
theorem ms_X8_measure_196 : Cond.static Lib.MathLoose.min_long.x ∈ wsX8_measure := by decide +kernel
set_option maxRecDepth 20000 in
theorem mi_X8_measure_196 : Cond.initialized "java/lang/Math" ∈ wsX8_measure := by decide +kernel
set_option maxRecDepth 20000 in
theorem mc_X8_measure_196 : Cond.code Lib.MathLoose.min_long.x Lib.MathLoose.min_long.code 4 (some .long) ∈ wsX8_measure := by decide +kernel
set_option maxRecDepth 20000 in
theorem cw_X8_measure_157 : Cond.constantLong RX8 157 100000 ∈ wsX8_measure := by decide +kernel
set_option maxRecDepth 20000 in
theorem fw_X8_measure_20 : Cond.fieldLink RX8 20 "StepBenchModel" "rule" "[J" ∈ wsX8_measure := by decide +kernel
set_option maxRecDepth 20000 in
theorem hd_X8_measure : yX8_measure.cls = RX8 ∧ yX8_measure.cls ≠ "java/lang/invoke/MethodHandle" ∧ yX8_measure.cls ≠ "java/lang/invoke/VarHandle" ∧ (parseMethodDescriptor yX8_measure.desc).map (fun d => d.parameters.length) = some 0 := by decide +kernel
def V_X8_measure_35    (post : Int32 → SS → Prop) : Nat → Int64 → Int32 → SS → Prop
  | 0, _, _, _ => False
  | n + 1, v1, v3, S =>
    (((gI S 26) ≤ v3 → (∀ y3 : Int64, y3 = (mnL v1 (100001 : Int64)) → (post y3.toInt32 S))) ∧ (¬ (gI S 26) ≤ v3 → (((100000 : Int64) < v1 → (∀ y5 : Int64, y5 = (mnL v1 (100001 : Int64)) → (post y5.toInt32 S))) ∧ (¬ (100000 : Int64) < v1 → (V_X8_gap v3 S (fun (r6 : Int64) (S7 : SS) => (V_X8_common v1 r6 S7 (fun (r8 : Int64) (S9 : SS) => (¬ r8 = 0 ∧ (V_X8_gap v3 S9 (fun (r10 : Int64) (S11 : SS) => (∀ y12 : Int64, y12 = ((v1 / r8) * r10) → (∀ x13 : Int32, x13 = v3 + 1 → (V_X8_measure_35    post n y12 x13 S11))))))))))))))
set_option maxHeartbeats 4000000 in
set_option maxRecDepth 100000 in
theorem lp_X8_measure_35    (post : Int32 → SS → Prop) (C0 : Bd p s m meth c args cX8_measure 4 (some .int) wsX8_measure RX8 D n0 cI cJ) : ∀ (n : Nat) (v1 : Int64) (v3 : Int32) (S : SS), V_X8_measure_35    post n v1 v3 S → ∀ (H : Heap) (locs : List Loc), Wh D n0 ad cI cJ X S s H locs → ∀ ls : Array Slot, lv_has ls 4 [(0, .ref (ad 48)), (1, .long v1), (3, .int v3)] → W p l e rm_X8_measure s m args below meth c H locs 0 0 (MQ below (va_Qi post (fun S' t => Wd D n0 ad cI cJ X S' t) (fr n0)) args s 0 0 (fr n0)) (F0 m 35 ls []) := by
  intro n
  induction n with
  | zero => intro v1 v3 S hV; exact False.elim hV
  | succ n ih =>
    intro v1 v3 S hV H locs hw ls hl
    rw [V_X8_measure_35] at hV
    refine lv_iload_n C0.x C0.b dX8_measure_35 rfl (lv_at hl 2 rfl) ?_
    refine lv_aload_n C0.x C0.b dX8_measure_36 rfl (lv_at hl 0 rfl) ?_
    refine r_get C0 hw (C := RX8) (T := TX8) (N := 33) (v := .int (gI S 26)) iw_X8_measure_X8 (lg_48 ad cI cJ X S) rfl 8 (by decide) (C0.ts _ fw_X8_measure_105) rfl dX8_measure_37 ?_
    refine lv_icmp_ge (tgt := 75) C0.x C0.b dX8_measure_40 (by decide) (fun c2 => ?_) (fun c2 => ?_)
    · have hV := hV.1 c2
      refine lv_lload_n C0.x C0.b dX8_measure_75 rfl (lv_at hl 1 rfl) ?_
      refine lv_ldc2 (v := 100001) C0.x C0.b C0.ow (C0.ts _ cw_X8_measure_228) dX8_measure_76 ?_
      refine va_mmin_long C0.x C0.b (C0.ml.trans hl.1.symm) C0.ow (C0.ts _ ml_X8_measure_196) (C0.ts _ ms_X8_measure_196) (C0.ts _ mi_X8_measure_196) (C0.ts _ mc_X8_measure_196) (Nat.le_of_ble_eq_true rfl) (Nat.le_of_ble_eq_true rfl) (Nat.zero_le _) (Nat.zero_le _) dX8_measure_79 ?_
      refine lv_topl (fun y3 ey3 => ?_)
      have hV := hV y3 ey3
      refine lv_l2i C0.x C0.b dX8_measure_82 rfl ?_
      exact r_iret C0 rfl hw hV dX8_measure_83
    · have hV := hV.2 c2
      refine lv_lload_n C0.x C0.b dX8_measure_43 rfl (lv_at hl 1 rfl) ?_
      refine lv_ldc2 (v := 100000) C0.x C0.b C0.ow (C0.ts _ cw_X8_measure_157) dX8_measure_44 ?_
      refine r_lcmp C0 dX8_measure_47 ?_
      refine lv_if_gt (tgt := 75) C0.x C0.b dX8_measure_48 (by decide) (fun c4 => ?_) (fun c4 => ?_)
      · have hV := hV.1 ((lc_gt _ _).mp c4)
        refine lv_lload_n C0.x C0.b dX8_measure_75 rfl (lv_at hl 1 rfl) ?_
        refine lv_ldc2 (v := 100001) C0.x C0.b C0.ow (C0.ts _ cw_X8_measure_228) dX8_measure_76 ?_
        refine va_mmin_long C0.x C0.b (C0.ml.trans hl.1.symm) C0.ow (C0.ts _ ml_X8_measure_196) (C0.ts _ ms_X8_measure_196) (C0.ts _ mi_X8_measure_196) (C0.ts _ mc_X8_measure_196) (Nat.le_of_ble_eq_true rfl) (Nat.le_of_ble_eq_true rfl) (Nat.zero_le _) (Nat.zero_le _) dX8_measure_79 ?_
        refine lv_topl (fun y5 ey5 => ?_)
        have hV := hV y5 ey5
        refine lv_l2i C0.x C0.b dX8_measure_82 rfl ?_
        exact r_iret C0 rfl hw hV dX8_measure_83
      · have hV := hV.2 (fun h => c4 ((lc_gt _ _).mpr h))
        refine lv_lload_n C0.x C0.b dX8_measure_51 rfl (lv_at hl 1 rfl) ?_
        refine lv_lload_n C0.x C0.b dX8_measure_52 rfl (lv_at hl 1 rfl) ?_
        refine lv_aload_n C0.x C0.b dX8_measure_53 rfl (lv_at hl 0 rfl) ?_
        refine lv_iload_n C0.x C0.b dX8_measure_54 rfl (lv_at hl 2 rfl) ?_
        refine r_cV_l (As := [.int v3]) (rest := [.long v1, .long v1]) C0 hw (c_X8_gap  hV) (cwV 1 C0.ts gX8_measure_X8_gap rfl rfl rfl hd_X8_gap ⟨Nat.le_of_ble_eq_true rfl, Nat.le_of_ble_eq_true rfl⟩) (lg_48 ad cI cJ X S) rfl rfl hl.1 rfl (Nat.le_of_ble_eq_true rfl) ⟨Nat.zero_le _, Nat.zero_le _⟩ dX8_measure_55 (fun r6 S7 H locs hV hw => ?_)
        refine r_cS_l (As := [.long v1, .long r6]) (rest := [.long v1]) C0 hw (c_X8_common  hV) (va_cwS 2 C0.ts gX8_measure_X8_common rfl rfl rfl hd_X8_common ⟨Nat.le_of_ble_eq_true rfl, Nat.le_of_ble_eq_true rfl⟩) rfl hl.1 rfl (Nat.le_of_ble_eq_true rfl) ⟨Nat.zero_le _, Nat.zero_le _⟩ dX8_measure_58 (fun r8 S9 H locs hV hw => ?_)
        refine lv_ldiv C0.x C0.b dX8_measure_61 hV.1 ?_
        have hV := hV.2
        refine lv_aload_n C0.x C0.b dX8_measure_62 rfl (lv_at hl 0 rfl) ?_
        refine lv_iload_n C0.x C0.b dX8_measure_63 rfl (lv_at hl 2 rfl) ?_
        refine r_cV_l (As := [.int v3]) (rest := [.long (v1 / r8)]) C0 hw (c_X8_gap  hV) (cwV 1 C0.ts gX8_measure_X8_gap rfl rfl rfl hd_X8_gap ⟨Nat.le_of_ble_eq_true rfl, Nat.le_of_ble_eq_true rfl⟩) (lg_48 ad cI cJ X S9) rfl rfl hl.1 rfl (Nat.le_of_ble_eq_true rfl) ⟨Nat.zero_le _, Nat.zero_le _⟩ dX8_measure_64 (fun r10 S11 H locs hV hw => ?_)
        refine lv_lmul C0.x C0.b dX8_measure_67 ?_
        refine lv_topl (fun y12 ey12 => ?_)
        have hV := hV y12 ey12
        refine lv_lstore_n (lv' := [(1, .long y12), (0, .ref (ad 48)), (3, .int v3)]) C0.x C0.b dX8_measure_68 rfl hl (by decide) rfl (fun ls hl => ?_)
        obtain ⟨x13, ex13⟩ : ∃ z : Int32, z = v3 + 1 := ⟨_, rfl⟩
        have hV := hV x13 ex13
        refine lv_iinc (v := x13) (lv' := [(3, .int x13), (1, .long y12), (0, .ref (ad 48))]) C0.x C0.b dX8_measure_69 hl (k := 2) rfl (by rw [ex13]; rfl) (by decide) rfl (fun ls hl => ?_)
        refine lv_goto (tgt := 35) C0.x C0.b dX8_measure_72 (by decide) ?_
        exact ih _ _ _ hV _ _ hw _ (lv_sub hl [2, 1, 0] rfl)
def V_X8_measure_4  (v1 : Int64)  (post : Int32 → SS → Prop) : Nat → Int32 → SS → Prop
  | 0, _, _ => False
  | n + 1, v3, S =>
    (((gI S 26) ≤ v3 → (∃ n35 : Nat, V_X8_measure_35    post n35 v1 (0 : Int32) S)) ∧ (¬ (gI S 26) ≤ v3 → (vp_in ((3 : Int32) * v3) 192 ∧ (((gA S 32 ((3 : Int32) * v3).toNatClampNeg) = (0 : Int64) → (post (0 : Int32) S)) ∧ (¬ (gA S 32 ((3 : Int32) * v3).toNatClampNeg) = (0 : Int64) → (∀ x15 : Int32, x15 = v3 + 1 → (V_X8_measure_4  v1  post n x15 S)))))))
set_option maxHeartbeats 4000000 in
set_option maxRecDepth 100000 in
theorem lp_X8_measure_4  (v1 : Int64)  (post : Int32 → SS → Prop) (C0 : Bd p s m meth c args cX8_measure 4 (some .int) wsX8_measure RX8 D n0 cI cJ) : ∀ (n : Nat) (v3 : Int32) (S : SS), V_X8_measure_4  v1  post n v3 S → ∀ (H : Heap) (locs : List Loc), Wh D n0 ad cI cJ X S s H locs → ∀ ls : Array Slot, lv_has ls 4 [(0, .ref (ad 48)), (1, .long v1), (3, .int v3)] → W p l e rm_X8_measure s m args below meth c H locs 0 0 (MQ below (va_Qi post (fun S' t => Wd D n0 ad cI cJ X S' t) (fr n0)) args s 0 0 (fr n0)) (F0 m 4 ls []) := by
  intro n
  induction n with
  | zero => intro v3 S hV; exact False.elim hV
  | succ n ih =>
    intro v3 S hV H locs hw ls hl
    rw [V_X8_measure_4] at hV
    refine lv_iload_n C0.x C0.b dX8_measure_4 rfl (lv_at hl 2 rfl) ?_
    refine lv_aload_n C0.x C0.b dX8_measure_5 rfl (lv_at hl 0 rfl) ?_
    refine r_get C0 hw (C := RX8) (T := TX8) (N := 33) (v := .int (gI S 26)) iw_X8_measure_X8 (lg_48 ad cI cJ X S) rfl 8 (by decide) (C0.ts _ fw_X8_measure_105) rfl dX8_measure_6 ?_
    refine lv_icmp_ge (tgt := 33) C0.x C0.b dX8_measure_9 (by decide) (fun c1 => ?_) (fun c1 => ?_)
    · have hV := hV.1 c1
      refine lv_iconst (v := 0) C0.x C0.b dX8_measure_33 (by decide) ?_
      refine lv_istore_n (lv' := [(3, .int (0 : Int32)), (0, .ref (ad 48)), (1, .long v1)]) C0.x C0.b dX8_measure_34 rfl hl (by decide) rfl (fun ls hl => ?_)
      obtain ⟨n35, hV⟩ := hV
      exact lp_X8_measure_35   post C0  n35 _ _ _ hV _ _ hw _ (lv_sub hl [1, 2, 0] rfl)
    · have hV := hV.2 c1
      refine lv_aload_n C0.x C0.b dX8_measure_12 rfl (lv_at hl 0 rfl) ?_
      refine r_get C0 hw (C := RX8) (T := TX8) (N := 33) (v := .ref (ad 51)) iw_X8_measure_X8 (lg_48 ad cI cJ X S) rfl 9 (by decide) (C0.ts _ fw_X8_measure_20) rfl dX8_measure_13 ?_
      refine lv_iconst (v := 3) C0.x C0.b dX8_measure_16 (by decide) ?_
      refine lv_iload_n C0.x C0.b dX8_measure_17 rfl (lv_at hl 2 rfl) ?_
      refine lv_imul C0.x C0.b dX8_measure_18 ?_
      refine r_lald C0 hw (lg_51 ad cI cJ X S) hV.1 dX8_measure_19 ?_
      have hV := hV.2
      refine lv_lconst (v := 0) C0.x C0.b dX8_measure_20 (by decide) ?_
      refine r_lcmp C0 dX8_measure_21 ?_
      refine lv_if_ne (tgt := 27) C0.x C0.b dX8_measure_22 (by decide) (fun c14 => ?_) (fun c14 => ?_)
      · have hV := hV.2 (fun h => c14 ((lc_eq _ _).mpr h))
        obtain ⟨x15, ex15⟩ : ∃ z : Int32, z = v3 + 1 := ⟨_, rfl⟩
        have hV := hV x15 ex15
        refine lv_iinc (v := x15) (lv' := [(3, .int x15), (0, .ref (ad 48)), (1, .long v1)]) C0.x C0.b dX8_measure_27 hl (k := 2) rfl (by rw [ex15]; rfl) (by decide) rfl (fun ls hl => ?_)
        refine lv_goto (tgt := 4) C0.x C0.b dX8_measure_30 (by decide) ?_
        exact ih _ _ hV _ _ hw _ (lv_sub hl [1, 2, 0] rfl)
      · have hV := hV.1 ((lc_eq _ _).mp c14)
        refine lv_iconst (v := 0) C0.x C0.b dX8_measure_25 (by decide) ?_
        exact r_iret C0 rfl hw hV dX8_measure_26
def V_X8_measure   (S : SS) (post : Int32 → SS → Prop) : Prop :=
  (∃ n4 : Nat, V_X8_measure_4  (1 : Int64)  post n4 (0 : Int32) S)
set_option maxHeartbeats 4000000 in
set_option maxRecDepth 100000 in
theorem c_X8_measure  {S : SS}  {post : Int32 → SS → Prop} (hV : V_X8_measure   S post) : MI l yX8_measure wsX8_measure rm_X8_measure [.ref (ad 48)] D n0 ad cI cJ X S post := by
  refine Met.ofW (cc := cX8_measure) (maxL := 4) (ret := (some .int)) (by decide) rfl ?_
  intro p e s m args below meth c s₁ B hml hv
  obtain ⟨rfl, hv⟩ := hv
  have C0 := Bd.mk B hml (atoms_spec (ws := wsX8_measure) B.pre) (findClass_of_methodNamed B.named) hv.1
  have hw : Wh D n0 ad cI cJ X S s s.heap [] := ⟨hv.2.1, hv.2.2, va_S.rf⟩
  refine r_entry (Nat.le_of_ble_eq_true rfl) (fun ls hl => ?_)
  have hl : lv_has ls 4 [(0, .ref (ad 48))] := hl
  unfold V_X8_measure at hV
  refine lv_lconst (v := 1) C0.x C0.b dX8_measure_0 (by decide) ?_
  refine lv_lstore_n (lv' := [(1, .long (1 : Int64)), (0, .ref (ad 48))]) C0.x C0.b dX8_measure_1 rfl hl (by decide) rfl (fun ls hl => ?_)
  refine lv_iconst (v := 0) C0.x C0.b dX8_measure_2 (by decide) ?_
  refine lv_istore_n (lv' := [(3, .int (0 : Int32)), (1, .long (1 : Int64)), (0, .ref (ad 48))]) C0.x C0.b dX8_measure_3 rfl hl (by decide) rfl (fun ls hl => ?_)
  obtain ⟨n4, hV⟩ := hV
  exact lp_X8_measure_4  _ post C0  n4 _ _ hV _ _ hw _ (lv_sub hl [2, 1, 0] rfl)
/-! StepBenchModel.both()I -/
abbrev rm_X8_both : Room := { frames := 2, cells := 0, slots := 0, locals := 52 }
set_option maxRecDepth 20000 in
theorem fw_X8_both_61 : Cond.fieldLink RX8 61 "StepBenchModel" "thrown" "I" ∈ wsX8_both := by decide +kernel
set_option maxRecDepth 20000 in
theorem iw_X8_both_X8 : ∀ w ∈ wsX80, w ∈ wsX8_both := by decide +kernel
set_option maxRecDepth 20000 in
theorem fw_X8_both_108 : Cond.fieldLink RX8 108 "StepBenchModel" "sort" "I" ∈ wsX8_both := by decide +kernel
set_option maxRecDepth 20000 in
theorem cw_X8_both_51 : Cond.constant RX8 51 100000 ∈ wsX8_both := by decide +kernel
set_option maxRecDepth 20000 in
theorem fw_X8_both_105 : Cond.fieldLink RX8 105 "StepBenchModel" "m" "I" ∈ wsX8_both := by decide +kernel
set_option maxRecDepth 20000 in
theorem fw_X8_both_52 : Cond.fieldLink RX8 52 "StepBenchModel" "covers" "[I" ∈ wsX8_both := by decide +kernel
set_option maxRecDepth 20000 in
theorem hd_X8_both : yX8_both.cls = RX8 ∧ yX8_both.cls ≠ "java/lang/invoke/MethodHandle" ∧ yX8_both.cls ≠ "java/lang/invoke/VarHandle" ∧ (parseMethodDescriptor yX8_both.desc).map (fun d => d.parameters.length) = some 0 := by decide +kernel
def V_X8_both_119  (v1 : Int32)  (post : Int32 → SS → Prop) : Nat → Int32 → SS → Prop
  | 0, _, _ => False
  | n + 1, v2, S =>
    ((v1 ≤ v2 → (post (1 : Int32) S)) ∧ (¬ v1 ≤ v2 → (vp_in v2 100000 ∧ (((gB S 2 v2.toNatClampNeg) = (1 : Int32) → (∀ x11 : Int32, x11 = v2 + 1 → (V_X8_both_119  v1  post n x11 S))) ∧ (¬ (gB S 2 v2.toNatClampNeg) = (1 : Int32) → (post (0 : Int32) S))))))
set_option maxHeartbeats 4000000 in
set_option maxRecDepth 100000 in
theorem lp_X8_both_119  (v1 : Int32)  (post : Int32 → SS → Prop) (C0 : Bd p s m meth c args cX8_both 5 (some .int) wsX8_both RX8 D n0 cI cJ) : ∀ (n : Nat) (v2 : Int32) (S : SS), V_X8_both_119  v1  post n v2 S → ∀ (H : Heap) (locs : List Loc), Wh D n0 ad cI cJ X S s H locs → ∀ ls : Array Slot, lv_has ls 5 [(0, .ref (ad 48)), (1, .int v1), (2, .int v2)] → W p l e rm_X8_both s m args below meth c H locs 0 0 (MQ below (va_Qi post (fun S' t => Wd D n0 ad cI cJ X S' t) (fr n0)) args s 0 0 (fr n0)) (F0 m 119 ls []) := by
  intro n
  induction n with
  | zero => intro v2 S hV; exact False.elim hV
  | succ n ih =>
    intro v2 S hV H locs hw ls hl
    rw [V_X8_both_119] at hV
    refine lv_iload_n C0.x C0.b dX8_both_119 rfl (lv_at hl 2 rfl) ?_
    refine lv_iload_n C0.x C0.b dX8_both_120 rfl (lv_at hl 1 rfl) ?_
    refine lv_icmp_ge (tgt := 142) C0.x C0.b dX8_both_121 (by decide) (fun c9 => ?_) (fun c9 => ?_)
    · have hV := hV.1 c9
      refine lv_iconst (v := 1) C0.x C0.b dX8_both_142 (by decide) ?_
      exact r_iret C0 rfl hw hV dX8_both_143
    · have hV := hV.2 c9
      refine lv_aload_n C0.x C0.b dX8_both_124 rfl (lv_at hl 0 rfl) ?_
      refine r_get C0 hw (C := RX8) (T := TX8) (N := 33) (v := .ref (ad 61)) iw_X8_both_X8 (lg_48 ad cI cJ X S) rfl 29 (by decide) (C0.ts _ fw_X8_both_52) rfl dX8_both_125 ?_
      refine lv_iload_n C0.x C0.b dX8_both_128 rfl (lv_at hl 2 rfl) ?_
      refine r_iald C0 hw (lg_61 ad cI cJ X S) hV.1 dX8_both_129 ?_
      have hV := hV.2
      refine lv_iconst (v := 1) C0.x C0.b dX8_both_130 (by decide) ?_
      refine lv_icmp_eq (tgt := 136) C0.x C0.b dX8_both_131 (by decide) (fun c10 => ?_) (fun c10 => ?_)
      · have hV := hV.1 c10
        obtain ⟨x11, ex11⟩ : ∃ z : Int32, z = v2 + 1 := ⟨_, rfl⟩
        have hV := hV x11 ex11
        refine lv_iinc (v := x11) (lv' := [(2, .int x11), (0, .ref (ad 48)), (1, .int v1)]) C0.x C0.b dX8_both_136 hl (k := 2) rfl (by rw [ex11]; rfl) (by decide) rfl (fun ls hl => ?_)
        refine lv_goto (tgt := 119) C0.x C0.b dX8_both_139 (by decide) ?_
        exact ih _ _ hV _ _ hw _ (lv_sub hl [1, 2, 0] rfl)
      · have hV := hV.2 c10
        refine lv_iconst (v := 0) C0.x C0.b dX8_both_134 (by decide) ?_
        exact r_iret C0 rfl hw hV dX8_both_135
def V_X8_both_85  (v1 : Int32) (v2 : Int32) (v3 : Int32) (K57 : Int32 → SS → Prop) (post : Int32 → SS → Prop) : Nat → Int32 → SS → Prop
  | 0, _, _ => False
  | n + 1, v4, S =>
    ((v1 ≤ v4 → (∀ x21 : Int32, x21 = v2 + 1 → (K57 x21 S))) ∧ (¬ v1 ≤ v4 → (vp_in v4 100000 ∧ (vp_in v4 100000 ∧ ∀ S22 : SS, S22 = (sB S 2 (upd (gB S 2) v4.toNatClampNeg ((gB S 2 v4.toNatClampNeg) + (1 : Int32)))) → (∀ x23 : Int32, x23 = (v4 + v3) → (V_X8_both_85  v1 v2 v3 K57 post n x23 S22))))))
set_option maxHeartbeats 4000000 in
set_option maxRecDepth 100000 in
theorem lp_X8_both_85  (v1 : Int32) (v2 : Int32) (v3 : Int32) (K57 : Int32 → SS → Prop) (post : Int32 → SS → Prop) (C0 : Bd p s m meth c args cX8_both 5 (some .int) wsX8_both RX8 D n0 cI cJ) (hK57 : ∀ (v2 : Int32) (S : SS), K57 v2 S → ∀ (H : Heap) (locs : List Loc), Wh D n0 ad cI cJ X S s H locs → ∀ ls : Array Slot, lv_has ls 5 [(0, .ref (ad 48)), (1, .int v1), (2, .int v2)] → W p l e rm_X8_both s m args below meth c H locs 0 0 (MQ below (va_Qi post (fun S' t => Wd D n0 ad cI cJ X S' t) (fr n0)) args s 0 0 (fr n0)) (F0 m 57 ls [])) : ∀ (n : Nat) (v4 : Int32) (S : SS), V_X8_both_85  v1 v2 v3 K57 post n v4 S → ∀ (H : Heap) (locs : List Loc), Wh D n0 ad cI cJ X S s H locs → ∀ ls : Array Slot, lv_has ls 5 [(0, .ref (ad 48)), (1, .int v1), (2, .int v2), (3, .int v3), (4, .int v4)] → W p l e rm_X8_both s m args below meth c H locs 0 0 (MQ below (va_Qi post (fun S' t => Wd D n0 ad cI cJ X S' t) (fr n0)) args s 0 0 (fr n0)) (F0 m 85 ls []) := by
  intro n
  induction n with
  | zero => intro v4 S hV; exact False.elim hV
  | succ n ih =>
    intro v4 S hV H locs hw ls hl
    rw [V_X8_both_85] at hV
    refine lv_iload C0.x C0.b dX8_both_85 (lv_at hl 4 rfl) ?_
    refine lv_iload_n C0.x C0.b dX8_both_87 rfl (lv_at hl 1 rfl) ?_
    refine lv_icmp_ge (tgt := 111) C0.x C0.b dX8_both_88 (by decide) (fun c20 => ?_) (fun c20 => ?_)
    · have hV := hV.1 c20
      obtain ⟨x21, ex21⟩ : ∃ z : Int32, z = v2 + 1 := ⟨_, rfl⟩
      have hV := hV x21 ex21
      refine lv_iinc (v := x21) (lv' := [(2, .int x21), (0, .ref (ad 48)), (1, .int v1), (3, .int v3), (4, .int v4)]) C0.x C0.b dX8_both_111 hl (k := 2) rfl (by rw [ex21]; rfl) (by decide) rfl (fun ls hl => ?_)
      refine lv_goto (tgt := 57) C0.x C0.b dX8_both_114 (by decide) ?_
      exact hK57 _ _ hV _ _ hw _ (lv_sub hl [1, 2, 0] rfl)
    · have hV := hV.2 c20
      refine lv_aload_n C0.x C0.b dX8_both_91 rfl (lv_at hl 0 rfl) ?_
      refine r_get C0 hw (C := RX8) (T := TX8) (N := 33) (v := .ref (ad 61)) iw_X8_both_X8 (lg_48 ad cI cJ X S) rfl 29 (by decide) (C0.ts _ fw_X8_both_52) rfl dX8_both_92 ?_
      refine lv_iload C0.x C0.b dX8_both_95 (lv_at hl 4 rfl) ?_
      refine lv_dup2_11 C0.x C0.b dX8_both_97 rfl rfl ?_
      refine r_iald C0 hw (lg_61 ad cI cJ X S) hV.1 dX8_both_98 ?_
      have hV := hV.2
      refine lv_iconst (v := 1) C0.x C0.b dX8_both_99 (by decide) ?_
      refine lv_iadd C0.x C0.b dX8_both_100 ?_
      refine r_iast C0 hw (lg_61 ad cI cJ X S) hV.1 dX8_both_101 (S' := (sB S 2 (upd (gB S 2) v4.toNatClampNeg ((gB S 2 v4.toNatClampNeg) + (1 : Int32))))) (ls_61 ad cI cJ X S (upd (gB S 2) v4.toNatClampNeg ((gB S 2 v4.toNatClampNeg) + (1 : Int32)))) (fun S22 H locs eS22 hw => ?_)
      have hV := hV.2 S22 eS22
      refine lv_iload C0.x C0.b dX8_both_102 (lv_at hl 4 rfl) ?_
      refine lv_iload_n C0.x C0.b dX8_both_104 rfl (lv_at hl 3 rfl) ?_
      refine lv_iadd C0.x C0.b dX8_both_105 ?_
      refine lv_topi (fun x23 ex23 => ?_)
      have hV := hV x23 ex23
      refine lv_istore (lv' := [(4, .int x23), (0, .ref (ad 48)), (1, .int v1), (2, .int v2), (3, .int v3)]) C0.x C0.b dX8_both_106 hl (by decide) rfl (fun ls hl => ?_)
      refine lv_goto (tgt := 85) C0.x C0.b dX8_both_108 (by decide) ?_
      exact ih _ _ hV _ _ hw _ (lv_sub hl [1, 2, 3, 4, 0] rfl)
def V_X8_both_57  (v1 : Int32)  (post : Int32 → SS → Prop) : Nat → Int32 → SS → Prop
  | 0, _, _ => False
  | n + 1, v2, S =>
    (((gI S 26) ≤ v2 → (∃ n119 : Nat, V_X8_both_119  v1  post n119 (0 : Int32) S)) ∧ (¬ (gI S 26) ≤ v2 → (V_X8_gap v2 S (fun (r12 : Int64) (S13 : SS) => (∀ x14 : Int32, x14 = r12.toInt32 → (V_X8_first v2 S13 (fun (r15 : Int64) (S16 : SS) => (V_J9_floorMod_f86c9 r15 x14.toInt64 S16 (fun (r17 : Int64) (S18 : SS) => (∀ x19 : Int32, x19 = r17.toInt32 → (∃ n85 : Nat, V_X8_both_85  v1 v2 x14 (fun w2 T => V_X8_both_57  v1  post n w2 T) post n85 x19 S18)))))))))))
set_option maxHeartbeats 4000000 in
set_option maxRecDepth 100000 in
theorem lp_X8_both_57  (v1 : Int32)  (post : Int32 → SS → Prop) (C0 : Bd p s m meth c args cX8_both 5 (some .int) wsX8_both RX8 D n0 cI cJ) : ∀ (n : Nat) (v2 : Int32) (S : SS), V_X8_both_57  v1  post n v2 S → ∀ (H : Heap) (locs : List Loc), Wh D n0 ad cI cJ X S s H locs → ∀ ls : Array Slot, lv_has ls 5 [(0, .ref (ad 48)), (1, .int v1), (2, .int v2)] → W p l e rm_X8_both s m args below meth c H locs 0 0 (MQ below (va_Qi post (fun S' t => Wd D n0 ad cI cJ X S' t) (fr n0)) args s 0 0 (fr n0)) (F0 m 57 ls []) := by
  intro n
  induction n with
  | zero => intro v2 S hV; exact False.elim hV
  | succ n ih =>
    intro v2 S hV H locs hw ls hl
    rw [V_X8_both_57] at hV
    refine lv_iload_n C0.x C0.b dX8_both_57 rfl (lv_at hl 2 rfl) ?_
    refine lv_aload_n C0.x C0.b dX8_both_58 rfl (lv_at hl 0 rfl) ?_
    refine r_get C0 hw (C := RX8) (T := TX8) (N := 33) (v := .int (gI S 26)) iw_X8_both_X8 (lg_48 ad cI cJ X S) rfl 8 (by decide) (C0.ts _ fw_X8_both_105) rfl dX8_both_59 ?_
    refine lv_icmp_ge (tgt := 117) C0.x C0.b dX8_both_62 (by decide) (fun c8 => ?_) (fun c8 => ?_)
    · have hV := hV.1 c8
      refine lv_iconst (v := 0) C0.x C0.b dX8_both_117 (by decide) ?_
      refine lv_istore_n (lv' := [(2, .int (0 : Int32)), (0, .ref (ad 48)), (1, .int v1)]) C0.x C0.b dX8_both_118 rfl hl (by decide) rfl (fun ls hl => ?_)
      obtain ⟨n119, hV⟩ := hV
      exact lp_X8_both_119  _ post C0  n119 _ _ hV _ _ hw _ (lv_sub hl [1, 2, 0] rfl)
    · have hV := hV.2 c8
      refine lv_aload_n C0.x C0.b dX8_both_65 rfl (lv_at hl 0 rfl) ?_
      refine lv_iload_n C0.x C0.b dX8_both_66 rfl (lv_at hl 2 rfl) ?_
      refine r_cV_l (As := [.int v2]) (rest := []) C0 hw (c_X8_gap  hV) (cwV 1 C0.ts gX8_both_X8_gap rfl rfl rfl hd_X8_gap ⟨Nat.le_of_ble_eq_true rfl, Nat.le_of_ble_eq_true rfl⟩) (lg_48 ad cI cJ X S) rfl rfl hl.1 rfl (Nat.le_of_ble_eq_true rfl) ⟨Nat.zero_le _, Nat.zero_le _⟩ dX8_both_67 (fun r12 S13 H locs hV hw => ?_)
      refine lv_l2i C0.x C0.b dX8_both_70 rfl ?_
      refine lv_topi (fun x14 ex14 => ?_)
      have hV := hV x14 ex14
      refine lv_istore_n (lv' := [(3, .int x14), (0, .ref (ad 48)), (1, .int v1), (2, .int v2)]) C0.x C0.b dX8_both_71 rfl hl (by decide) rfl (fun ls hl => ?_)
      refine lv_aload_n C0.x C0.b dX8_both_72 rfl (lv_at hl 1 rfl) ?_
      refine lv_iload_n C0.x C0.b dX8_both_73 rfl (lv_at hl 3 rfl) ?_
      refine r_cV_l (As := [.int v2]) (rest := []) C0 hw (c_X8_first  hV) (cwV 1 C0.ts gX8_both_X8_first rfl rfl rfl hd_X8_first ⟨Nat.le_of_ble_eq_true rfl, Nat.le_of_ble_eq_true rfl⟩) (lg_48 ad cI cJ X S13) rfl rfl hl.1 rfl (Nat.le_of_ble_eq_true rfl) ⟨Nat.zero_le _, Nat.zero_le _⟩ dX8_both_74 (fun r15 S16 H locs hV hw => ?_)
      refine lv_iload_n C0.x C0.b dX8_both_77 rfl (lv_at hl 0 rfl) ?_
      refine lv_i2l C0.x C0.b dX8_both_78 rfl ?_
      refine r_cS_l (As := [.long r15, .long x14.toInt64]) (rest := []) C0 hw (c_J9_floorMod_f86c9  hV) (va_cwS 2 C0.ts gX8_both_J9_floorMod_f86c9 rfl rfl rfl hd_J9_floorMod_f86c9 ⟨Nat.le_of_ble_eq_true rfl, Nat.le_of_ble_eq_true rfl⟩) rfl hl.1 rfl (Nat.le_of_ble_eq_true rfl) ⟨Nat.zero_le _, Nat.zero_le _⟩ dX8_both_79 (fun r17 S18 H locs hV hw => ?_)
      refine lv_l2i C0.x C0.b dX8_both_82 rfl ?_
      refine lv_topi (fun x19 ex19 => ?_)
      have hV := hV x19 ex19
      refine lv_istore (lv' := [(4, .int x19), (3, .int x14), (0, .ref (ad 48)), (1, .int v1), (2, .int v2)]) C0.x C0.b dX8_both_83 hl (by decide) rfl (fun ls hl => ?_)
      obtain ⟨n85, hV⟩ := hV
      exact lp_X8_both_85  _ _ _ _ post C0 ih n85 _ _ hV _ _ hw _ (lv_sub hl [2, 3, 4, 1, 0] rfl)
def V_X8_both_37  (v1 : Int32)  (post : Int32 → SS → Prop) : Nat → Int32 → SS → Prop
  | 0, _, _ => False
  | n + 1, v2, S =>
    ((v1 ≤ v2 → (∃ n57 : Nat, V_X8_both_57  v1  post n57 (0 : Int32) S)) ∧ (¬ v1 ≤ v2 → (vp_in v2 100000 ∧ ∀ S24 : SS, S24 = (sB S 2 (upd (gB S 2) v2.toNatClampNeg (0 : Int32))) → (∀ x25 : Int32, x25 = v2 + 1 → (V_X8_both_37  v1  post n x25 S24)))))
set_option maxHeartbeats 4000000 in
set_option maxRecDepth 100000 in
theorem lp_X8_both_37  (v1 : Int32)  (post : Int32 → SS → Prop) (C0 : Bd p s m meth c args cX8_both 5 (some .int) wsX8_both RX8 D n0 cI cJ) : ∀ (n : Nat) (v2 : Int32) (S : SS), V_X8_both_37  v1  post n v2 S → ∀ (H : Heap) (locs : List Loc), Wh D n0 ad cI cJ X S s H locs → ∀ ls : Array Slot, lv_has ls 5 [(0, .ref (ad 48)), (1, .int v1), (2, .int v2)] → W p l e rm_X8_both s m args below meth c H locs 0 0 (MQ below (va_Qi post (fun S' t => Wd D n0 ad cI cJ X S' t) (fr n0)) args s 0 0 (fr n0)) (F0 m 37 ls []) := by
  intro n
  induction n with
  | zero => intro v2 S hV; exact False.elim hV
  | succ n ih =>
    intro v2 S hV H locs hw ls hl
    rw [V_X8_both_37] at hV
    refine lv_iload_n C0.x C0.b dX8_both_37 rfl (lv_at hl 2 rfl) ?_
    refine lv_iload_n C0.x C0.b dX8_both_38 rfl (lv_at hl 1 rfl) ?_
    refine lv_icmp_ge (tgt := 55) C0.x C0.b dX8_both_39 (by decide) (fun c7 => ?_) (fun c7 => ?_)
    · have hV := hV.1 c7
      refine lv_iconst (v := 0) C0.x C0.b dX8_both_55 (by decide) ?_
      refine lv_istore_n (lv' := [(2, .int (0 : Int32)), (0, .ref (ad 48)), (1, .int v1)]) C0.x C0.b dX8_both_56 rfl hl (by decide) rfl (fun ls hl => ?_)
      obtain ⟨n57, hV⟩ := hV
      exact lp_X8_both_57  _ post C0  n57 _ _ hV _ _ hw _ (lv_sub hl [1, 2, 0] rfl)
    · have hV := hV.2 c7
      refine lv_aload_n C0.x C0.b dX8_both_42 rfl (lv_at hl 0 rfl) ?_
      refine r_get C0 hw (C := RX8) (T := TX8) (N := 33) (v := .ref (ad 61)) iw_X8_both_X8 (lg_48 ad cI cJ X S) rfl 29 (by decide) (C0.ts _ fw_X8_both_52) rfl dX8_both_43 ?_
      refine lv_iload_n C0.x C0.b dX8_both_46 rfl (lv_at hl 2 rfl) ?_
      refine lv_iconst (v := 0) C0.x C0.b dX8_both_47 (by decide) ?_
      refine r_iast C0 hw (lg_61 ad cI cJ X S) hV.1 dX8_both_48 (S' := (sB S 2 (upd (gB S 2) v2.toNatClampNeg (0 : Int32)))) (ls_61 ad cI cJ X S (upd (gB S 2) v2.toNatClampNeg (0 : Int32))) (fun S24 H locs eS24 hw => ?_)
      have hV := hV.2 S24 eS24
      obtain ⟨x25, ex25⟩ : ∃ z : Int32, z = v2 + 1 := ⟨_, rfl⟩
      have hV := hV x25 ex25
      refine lv_iinc (v := x25) (lv' := [(2, .int x25), (0, .ref (ad 48)), (1, .int v1)]) C0.x C0.b dX8_both_49 hl (k := 2) rfl (by rw [ex25]; rfl) (by decide) rfl (fun ls hl => ?_)
      refine lv_goto (tgt := 37) C0.x C0.b dX8_both_52 (by decide) ?_
      exact ih _ _ hV _ _ hw _ (lv_sub hl [1, 2, 0] rfl)
def V_X8_both   (S : SS) (post : Int32 → SS → Prop) : Prop :=
  (∀ S1 : SS, S1 = (sI S 20 (0 : Int32)) → (((gI S1 25) = (1 : Int32) → (V_X8_measure  S1 (fun (r3 : Int32) (S4 : SS) => ((r3 = 0 → (post (0 : Int32) S4)) ∧ (¬ r3 = 0 → ((r3 ≤ (100000 : Int32) → (∃ n37 : Nat, V_X8_both_37  r3  post n37 (0 : Int32) S4)) ∧ (¬ r3 ≤ (100000 : Int32) → (post (-2 : Int32) S4)))))))) ∧ (¬ (gI S1 25) = (1 : Int32) → (post (-1 : Int32) S1))))
set_option maxHeartbeats 4000000 in
set_option maxRecDepth 100000 in
theorem c_X8_both  {S : SS}  {post : Int32 → SS → Prop} (hV : V_X8_both   S post) : MI l yX8_both wsX8_both rm_X8_both [.ref (ad 48)] D n0 ad cI cJ X S post := by
  refine Met.ofW (cc := cX8_both) (maxL := 5) (ret := (some .int)) (by decide) rfl ?_
  intro p e s m args below meth c s₁ B hml hv
  obtain ⟨rfl, hv⟩ := hv
  have C0 := Bd.mk B hml (atoms_spec (ws := wsX8_both) B.pre) (findClass_of_methodNamed B.named) hv.1
  have hw : Wh D n0 ad cI cJ X S s s.heap [] := ⟨hv.2.1, hv.2.2, va_S.rf⟩
  refine r_entry (Nat.le_of_ble_eq_true rfl) (fun ls hl => ?_)
  have hl : lv_has ls 5 [(0, .ref (ad 48))] := hl
  unfold V_X8_both at hV
  refine lv_aload_n C0.x C0.b dX8_both_0 rfl (lv_at hl 0 rfl) ?_
  refine lv_iconst (v := 0) C0.x C0.b dX8_both_1 (by decide) ?_
  refine r_put C0 hw (C := RX8) (T := TX8) (N := 33) (ty := .int) iw_X8_both_X8 tyX8 tyX8_ok nmX8 (lg_48 ad cI cJ X S) rfl 0 (by decide) (C0.ts _ fw_X8_both_61) rfl (by decide +kernel) rfl rfl (Nat.le_of_ble_eq_true rfl) dX8_both_2 (S' := (sI S 20 (0 : Int32))) (ls_48_0 ad cI cJ X S (0 : Int32)) (fun S1 H locs eS1 hw => ?_)
  have hV := hV S1 eS1
  refine lv_aload_n C0.x C0.b dX8_both_5 rfl (lv_at hl 0 rfl) ?_
  refine r_get C0 hw (C := RX8) (T := TX8) (N := 33) (v := .int (gI S1 25)) iw_X8_both_X8 (lg_48 ad cI cJ X S1) rfl 7 (by decide) (C0.ts _ fw_X8_both_108) rfl dX8_both_6 ?_
  refine lv_iconst (v := 1) C0.x C0.b dX8_both_9 (by decide) ?_
  refine lv_icmp_eq (tgt := 15) C0.x C0.b dX8_both_10 (by decide) (fun c2 => ?_) (fun c2 => ?_)
  · have hV := hV.1 c2
    refine lv_aload_n C0.x C0.b dX8_both_15 rfl (lv_at hl 0 rfl) ?_
    refine r_cV_i (As := []) (rest := []) C0 hw (c_X8_measure  hV) (cwV 0 C0.ts gX8_both_X8_measure rfl rfl rfl hd_X8_measure ⟨Nat.le_of_ble_eq_true rfl, Nat.le_of_ble_eq_true rfl⟩) (lg_48 ad cI cJ X S1) rfl rfl hl.1 rfl (Nat.le_of_ble_eq_true rfl) ⟨Nat.zero_le _, Nat.zero_le _⟩ dX8_both_16 (fun r3 S4 H locs hV hw => ?_)
    refine lv_istore_n (lv' := [(1, .int r3), (0, .ref (ad 48))]) C0.x C0.b dX8_both_19 rfl hl (by decide) rfl (fun ls hl => ?_)
    refine lv_iload_n C0.x C0.b dX8_both_20 rfl (lv_at hl 0 rfl) ?_
    refine lv_if_ne (tgt := 26) C0.x C0.b dX8_both_21 (by decide) (fun c5 => ?_) (fun c5 => ?_)
    · have hV := hV.2 c5
      refine lv_iload_n C0.x C0.b dX8_both_26 rfl (lv_at hl 0 rfl) ?_
      refine lv_ldc (v := 100000) C0.x C0.b C0.ow (C0.ts _ cw_X8_both_51) dX8_both_27 ?_
      refine lv_icmp_le (tgt := 35) C0.x C0.b dX8_both_29 (by decide) (fun c6 => ?_) (fun c6 => ?_)
      · have hV := hV.1 c6
        refine lv_iconst (v := 0) C0.x C0.b dX8_both_35 (by decide) ?_
        refine lv_istore_n (lv' := [(2, .int (0 : Int32)), (1, .int r3), (0, .ref (ad 48))]) C0.x C0.b dX8_both_36 rfl hl (by decide) rfl (fun ls hl => ?_)
        obtain ⟨n37, hV⟩ := hV
        exact lp_X8_both_37  _ post C0  n37 _ _ hV _ _ hw _ (lv_sub hl [2, 1, 0] rfl)
      · have hV := hV.2 c6
        refine lv_bipush (v := -2) C0.x C0.b dX8_both_32 (by decide) ?_
        exact r_iret C0 rfl hw hV dX8_both_34
    · have hV := hV.1 c5
      refine lv_iconst (v := 0) C0.x C0.b dX8_both_24 (by decide) ?_
      exact r_iret C0 rfl hw hV dX8_both_25
  · have hV := hV.2 c2
    refine lv_iconst (v := -1) C0.x C0.b dX8_both_13 (by decide) ?_
    exact r_iret C0 rfl hw hV dX8_both_14
/-! StepBenchModel.turn()I -/
abbrev rm_X8_turn : Room := { frames := 3, cells := 0, slots := 0, locals := 76 }
set_option maxRecDepth 20000 in
theorem fw_X8_turn_61 : Cond.fieldLink RX8 61 "StepBenchModel" "thrown" "I" ∈ wsX8_turn := by decide +kernel
set_option maxRecDepth 20000 in
theorem iw_X8_turn_X8 : ∀ w ∈ wsX80, w ∈ wsX8_turn := by decide +kernel
set_option maxRecDepth 20000 in
theorem fw_X8_turn_105 : Cond.fieldLink RX8 105 "StepBenchModel" "m" "I" ∈ wsX8_turn := by decide +kernel
set_option maxRecDepth 20000 in
theorem fw_X8_turn_20 : Cond.fieldLink RX8 20 "StepBenchModel" "rule" "[J" ∈ wsX8_turn := by decide +kernel
set_option maxRecDepth 20000 in
theorem fw_X8_turn_55 : Cond.fieldLink RX8 55 "StepBenchModel" "turned" "[J" ∈ wsX8_turn := by decide +kernel
set_option maxRecDepth 20000 in
theorem hd_X8_turn : yX8_turn.cls = RX8 ∧ yX8_turn.cls ≠ "java/lang/invoke/MethodHandle" ∧ yX8_turn.cls ≠ "java/lang/invoke/VarHandle" ∧ (parseMethodDescriptor yX8_turn.desc).map (fun d => d.parameters.length) = some 0 := by decide +kernel
def V_X8_turn_210    (post : Int32 → SS → Prop) : Nat → Int32 → SS → Prop
  | 0, _, _ => False
  | n + 1, v2, S =>
    ((((3 : Int32) * (gI S 26)) ≤ v2 → (post (gI S 26) S)) ∧ (¬ ((3 : Int32) * (gI S 26)) ≤ v2 → (vp_in v2 192 ∧ (vp_in v2 192 ∧ ∀ S13 : SS, S13 = (sA S 32 (vp_updL (gA S 32) v2.toNatClampNeg (gA S 40 v2.toNatClampNeg))) → (∀ x14 : Int32, x14 = v2 + 1 → (V_X8_turn_210    post n x14 S13))))))
set_option maxHeartbeats 4000000 in
set_option maxRecDepth 100000 in
theorem lp_X8_turn_210    (post : Int32 → SS → Prop) (C0 : Bd p s m meth c args cX8_turn 12 (some .int) wsX8_turn RX8 D n0 cI cJ) : ∀ (n : Nat) (v2 : Int32) (S : SS), V_X8_turn_210    post n v2 S → ∀ (H : Heap) (locs : List Loc), Wh D n0 ad cI cJ X S s H locs → ∀ ls : Array Slot, lv_has ls 12 [(0, .ref (ad 48)), (2, .int v2)] → W p l e rm_X8_turn s m args below meth c H locs 0 0 (MQ below (va_Qi post (fun S' t => Wd D n0 ad cI cJ X S' t) (fr n0)) args s 0 0 (fr n0)) (F0 m 210 ls []) := by
  intro n
  induction n with
  | zero => intro v2 S hV; exact False.elim hV
  | succ n ih =>
    intro v2 S hV H locs hw ls hl
    rw [V_X8_turn_210] at hV
    refine lv_iload_n C0.x C0.b dX8_turn_210 rfl (lv_at hl 1 rfl) ?_
    refine lv_iconst (v := 3) C0.x C0.b dX8_turn_211 (by decide) ?_
    refine lv_aload_n C0.x C0.b dX8_turn_212 rfl (lv_at hl 0 rfl) ?_
    refine r_get C0 hw (C := RX8) (T := TX8) (N := 33) (v := .int (gI S 26)) iw_X8_turn_X8 (lg_48 ad cI cJ X S) rfl 8 (by decide) (C0.ts _ fw_X8_turn_105) rfl dX8_turn_213 ?_
    refine lv_imul C0.x C0.b dX8_turn_216 ?_
    refine lv_icmp_ge (tgt := 238) C0.x C0.b dX8_turn_217 (by decide) (fun c12 => ?_) (fun c12 => ?_)
    · have hV := hV.1 c12
      refine lv_aload_n C0.x C0.b dX8_turn_238 rfl (lv_at hl 0 rfl) ?_
      refine r_get C0 hw (C := RX8) (T := TX8) (N := 33) (v := .int (gI S 26)) iw_X8_turn_X8 (lg_48 ad cI cJ X S) rfl 8 (by decide) (C0.ts _ fw_X8_turn_105) rfl dX8_turn_239 ?_
      exact r_iret C0 rfl hw hV dX8_turn_242
    · have hV := hV.2 c12
      refine lv_aload_n C0.x C0.b dX8_turn_220 rfl (lv_at hl 0 rfl) ?_
      refine r_get C0 hw (C := RX8) (T := TX8) (N := 33) (v := .ref (ad 51)) iw_X8_turn_X8 (lg_48 ad cI cJ X S) rfl 9 (by decide) (C0.ts _ fw_X8_turn_20) rfl dX8_turn_221 ?_
      refine lv_iload_n C0.x C0.b dX8_turn_224 rfl (lv_at hl 1 rfl) ?_
      refine lv_aload_n C0.x C0.b dX8_turn_225 rfl (lv_at hl 0 rfl) ?_
      refine r_get C0 hw (C := RX8) (T := TX8) (N := 33) (v := .ref (ad 62)) iw_X8_turn_X8 (lg_48 ad cI cJ X S) rfl 30 (by decide) (C0.ts _ fw_X8_turn_55) rfl dX8_turn_226 ?_
      refine lv_iload_n C0.x C0.b dX8_turn_229 rfl (lv_at hl 1 rfl) ?_
      refine r_lald C0 hw (lg_62 ad cI cJ X S) hV.1 dX8_turn_230 ?_
      have hV := hV.2
      refine r_last C0 hw (lg_51 ad cI cJ X S) hV.1 dX8_turn_231 (S' := (sA S 32 (vp_updL (gA S 32) v2.toNatClampNeg (gA S 40 v2.toNatClampNeg)))) (ls_51 ad cI cJ X S (vp_updL (gA S 32) v2.toNatClampNeg (gA S 40 v2.toNatClampNeg))) (fun S13 H locs eS13 hw => ?_)
      have hV := hV.2 S13 eS13
      obtain ⟨x14, ex14⟩ : ∃ z : Int32, z = v2 + 1 := ⟨_, rfl⟩
      have hV := hV x14 ex14
      refine lv_iinc (v := x14) (lv' := [(2, .int x14), (0, .ref (ad 48))]) C0.x C0.b dX8_turn_232 hl (k := 1) rfl (by rw [ex14]; rfl) (by decide) rfl (fun ls hl => ?_)
      refine lv_goto (tgt := 210) C0.x C0.b dX8_turn_235 (by decide) ?_
      exact ih _ _ hV _ _ hw _ (lv_sub hl [1, 0] rfl)
def V_X8_turn_38  (v1 : Int32) (v2 : Int32) (K31 : Int32 → SS → Prop) (post : Int32 → SS → Prop) : Nat → Int32 → SS → Prop
  | 0, _, _ => False
  | n + 1, v3, S =>
    (V_X8_first v3 S (fun (r15 : Int64) (S16 : SS) => (V_X8_gap v3 S16 (fun (r17 : Int64) (S18 : SS) => (V_J9_floorMod_f86c9 (v2.toInt64 - r15) r17 S18 (fun (r19 : Int64) (S20 : SS) => ((r19 = (0 : Int64) → (vp_in (((3 : Int32) * v3) + (2 : Int32)) 192 ∧ (vp_in (((3 : Int32) * v3) + (1 : Int32)) 192 ∧ (∀ y22 : Int64, y22 = (-(gA S20 32 (((3 : Int32) * v3) + (1 : Int32)).toNatClampNeg)) → (vp_in ((3 : Int32) * v3) 192 ∧ (V_X8_common (gA S20 32 (((3 : Int32) * v3) + (2 : Int32)).toNatClampNeg) y22 S20 (fun (r23 : Int64) (S24 : SS) => (V_X8_common r23 (gA S20 32 ((3 : Int32) * v3).toNatClampNeg) S24 (fun (r25 : Int64) (S26 : SS) => (((0 : Int64) ≤ (gA S20 32 ((3 : Int32) * v3).toNatClampNeg) → (¬ r25 = 0 ∧ (¬ r25 = 0 ∧ (¬ r25 = 0 ∧ (V_X8_isShare ((gA S20 32 (((3 : Int32) * v3) + (2 : Int32)).toNatClampNeg) / r25) (y22 / r25) ((gA S20 32 ((3 : Int32) * v3).toNatClampNeg) / r25) S26 (fun (r28 : Int32) (S29 : SS) => ((r28 = 0 → (post (-1 : Int32) S29)) ∧ (¬ r28 = 0 → (¬ r25 = 0 ∧ (vp_in ((3 : Int32) * v2) 192 ∧ ∀ S31 : SS, S31 = (sA S29 40 (vp_updL (gA S29 40) ((3 : Int32) * v2).toNatClampNeg ((gA S20 32 (((3 : Int32) * v3) + (2 : Int32)).toNatClampNeg) / r25))) → (¬ r25 = 0 ∧ (vp_in (((3 : Int32) * v2) + (1 : Int32)) 192 ∧ ∀ S32 : SS, S32 = (sA S31 40 (vp_updL (gA S31 40) (((3 : Int32) * v2) + (1 : Int32)).toNatClampNeg (y22 / r25))) → (¬ r25 = 0 ∧ (vp_in (((3 : Int32) * v2) + (2 : Int32)) 192 ∧ ∀ S33 : SS, S33 = (sA S32 40 (vp_updL (gA S32 40) (((3 : Int32) * v2) + (2 : Int32)).toNatClampNeg ((gA S20 32 ((3 : Int32) * v3).toNatClampNeg) / r25))) → (∀ x34 : Int32, x34 = v2 + 1 → (K31 x34 S33)))))))))))))))) ∧ (¬ (0 : Int64) ≤ (gA S20 32 ((3 : Int32) * v3).toNatClampNeg) → (∀ y35 : Int64, y35 = (-r25) → (¬ y35 = 0 ∧ (¬ y35 = 0 ∧ (¬ y35 = 0 ∧ (V_X8_isShare ((gA S20 32 (((3 : Int32) * v3) + (2 : Int32)).toNatClampNeg) / y35) (y22 / y35) ((gA S20 32 ((3 : Int32) * v3).toNatClampNeg) / y35) S26 (fun (r36 : Int32) (S37 : SS) => ((r36 = 0 → (post (-1 : Int32) S37)) ∧ (¬ r36 = 0 → (¬ y35 = 0 ∧ (vp_in ((3 : Int32) * v2) 192 ∧ ∀ S39 : SS, S39 = (sA S37 40 (vp_updL (gA S37 40) ((3 : Int32) * v2).toNatClampNeg ((gA S20 32 (((3 : Int32) * v3) + (2 : Int32)).toNatClampNeg) / y35))) → (¬ y35 = 0 ∧ (vp_in (((3 : Int32) * v2) + (1 : Int32)) 192 ∧ ∀ S40 : SS, S40 = (sA S39 40 (vp_updL (gA S39 40) (((3 : Int32) * v2) + (1 : Int32)).toNatClampNeg (y22 / y35))) → (¬ y35 = 0 ∧ (vp_in (((3 : Int32) * v2) + (2 : Int32)) 192 ∧ ∀ S41 : SS, S41 = (sA S40 40 (vp_updL (gA S40 40) (((3 : Int32) * v2) + (2 : Int32)).toNatClampNeg ((gA S20 32 ((3 : Int32) * v3).toNatClampNeg) / y35))) → (∀ x42 : Int32, x42 = v2 + 1 → (K31 x42 S41))))))))))))))))))))))))))) ∧ (¬ r19 = (0 : Int64) → (∀ x43 : Int32, x43 = v3 + 1 → (V_X8_turn_38  v1 v2 K31 post n x43 S20))))))))))
set_option maxHeartbeats 4000000 in
set_option maxRecDepth 100000 in
theorem lp_X8_turn_38  (v1 : Int32) (v2 : Int32) (K31 : Int32 → SS → Prop) (post : Int32 → SS → Prop) (C0 : Bd p s m meth c args cX8_turn 12 (some .int) wsX8_turn RX8 D n0 cI cJ) (hK31 : ∀ (v2 : Int32) (S : SS), K31 v2 S → ∀ (H : Heap) (locs : List Loc), Wh D n0 ad cI cJ X S s H locs → ∀ ls : Array Slot, lv_has ls 12 [(0, .ref (ad 48)), (1, .int v1), (2, .int v2)] → W p l e rm_X8_turn s m args below meth c H locs 0 0 (MQ below (va_Qi post (fun S' t => Wd D n0 ad cI cJ X S' t) (fr n0)) args s 0 0 (fr n0)) (F0 m 31 ls [])) : ∀ (n : Nat) (v3 : Int32) (S : SS), V_X8_turn_38  v1 v2 K31 post n v3 S → ∀ (H : Heap) (locs : List Loc), Wh D n0 ad cI cJ X S s H locs → ∀ ls : Array Slot, lv_has ls 12 [(0, .ref (ad 48)), (1, .int v1), (2, .int v2), (3, .int v3)] → W p l e rm_X8_turn s m args below meth c H locs 0 0 (MQ below (va_Qi post (fun S' t => Wd D n0 ad cI cJ X S' t) (fr n0)) args s 0 0 (fr n0)) (F0 m 38 ls []) := by
  intro n
  induction n with
  | zero => intro v3 S hV; exact False.elim hV
  | succ n ih =>
    intro v3 S hV H locs hw ls hl
    rw [V_X8_turn_38] at hV
    refine lv_iload_n C0.x C0.b dX8_turn_38 rfl (lv_at hl 2 rfl) ?_
    refine lv_i2l C0.x C0.b dX8_turn_39 rfl ?_
    refine lv_aload_n C0.x C0.b dX8_turn_40 rfl (lv_at hl 0 rfl) ?_
    refine lv_iload_n C0.x C0.b dX8_turn_41 rfl (lv_at hl 3 rfl) ?_
    refine r_cV_l (As := [.int v3]) (rest := [.long v2.toInt64]) C0 hw (c_X8_first  hV) (cwV 1 C0.ts gX8_turn_X8_first rfl rfl rfl hd_X8_first ⟨Nat.le_of_ble_eq_true rfl, Nat.le_of_ble_eq_true rfl⟩) (lg_48 ad cI cJ X S) rfl rfl hl.1 rfl (Nat.le_of_ble_eq_true rfl) ⟨Nat.zero_le _, Nat.zero_le _⟩ dX8_turn_42 (fun r15 S16 H locs hV hw => ?_)
    refine lv_lsub C0.x C0.b dX8_turn_45 ?_
    refine lv_aload_n C0.x C0.b dX8_turn_46 rfl (lv_at hl 0 rfl) ?_
    refine lv_iload_n C0.x C0.b dX8_turn_47 rfl (lv_at hl 3 rfl) ?_
    refine r_cV_l (As := [.int v3]) (rest := [.long (v2.toInt64 - r15)]) C0 hw (c_X8_gap  hV) (cwV 1 C0.ts gX8_turn_X8_gap rfl rfl rfl hd_X8_gap ⟨Nat.le_of_ble_eq_true rfl, Nat.le_of_ble_eq_true rfl⟩) (lg_48 ad cI cJ X S16) rfl rfl hl.1 rfl (Nat.le_of_ble_eq_true rfl) ⟨Nat.zero_le _, Nat.zero_le _⟩ dX8_turn_48 (fun r17 S18 H locs hV hw => ?_)
    refine r_cS_l (As := [.long (v2.toInt64 - r15), .long r17]) (rest := []) C0 hw (c_J9_floorMod_f86c9  hV) (va_cwS 2 C0.ts gX8_turn_J9_floorMod_f86c9 rfl rfl rfl hd_J9_floorMod_f86c9 ⟨Nat.le_of_ble_eq_true rfl, Nat.le_of_ble_eq_true rfl⟩) rfl hl.1 rfl (Nat.le_of_ble_eq_true rfl) ⟨Nat.zero_le _, Nat.zero_le _⟩ dX8_turn_51 (fun r19 S20 H locs hV hw => ?_)
    refine lv_lconst (v := 0) C0.x C0.b dX8_turn_54 (by decide) ?_
    refine r_lcmp C0 dX8_turn_55 ?_
    refine lv_if_eq (tgt := 65) C0.x C0.b dX8_turn_56 (by decide) (fun c21 => ?_) (fun c21 => ?_)
    · have hV := hV.1 ((lc_eq _ _).mp c21)
      refine lv_aload_n C0.x C0.b dX8_turn_65 rfl (lv_at hl 0 rfl) ?_
      refine r_get C0 hw (C := RX8) (T := TX8) (N := 33) (v := .ref (ad 51)) iw_X8_turn_X8 (lg_48 ad cI cJ X S20) rfl 9 (by decide) (C0.ts _ fw_X8_turn_20) rfl dX8_turn_66 ?_
      refine lv_iconst (v := 3) C0.x C0.b dX8_turn_69 (by decide) ?_
      refine lv_iload_n C0.x C0.b dX8_turn_70 rfl (lv_at hl 3 rfl) ?_
      refine lv_imul C0.x C0.b dX8_turn_71 ?_
      refine lv_iconst (v := 2) C0.x C0.b dX8_turn_72 (by decide) ?_
      refine lv_iadd C0.x C0.b dX8_turn_73 ?_
      refine r_lald C0 hw (lg_51 ad cI cJ X S20) hV.1 dX8_turn_74 ?_
      have hV := hV.2
      refine lv_lstore (lv' := [(4, .long (gA S20 32 (((3 : Int32) * v3) + (2 : Int32)).toNatClampNeg)), (0, .ref (ad 48)), (1, .int v1), (2, .int v2), (3, .int v3)]) C0.x C0.b dX8_turn_75 hl (by decide) rfl (fun ls hl => ?_)
      refine lv_aload_n C0.x C0.b dX8_turn_77 rfl (lv_at hl 1 rfl) ?_
      refine r_get C0 hw (C := RX8) (T := TX8) (N := 33) (v := .ref (ad 51)) iw_X8_turn_X8 (lg_48 ad cI cJ X S20) rfl 9 (by decide) (C0.ts _ fw_X8_turn_20) rfl dX8_turn_78 ?_
      refine lv_iconst (v := 3) C0.x C0.b dX8_turn_81 (by decide) ?_
      refine lv_iload_n C0.x C0.b dX8_turn_82 rfl (lv_at hl 4 rfl) ?_
      refine lv_imul C0.x C0.b dX8_turn_83 ?_
      refine lv_iconst (v := 1) C0.x C0.b dX8_turn_84 (by decide) ?_
      refine lv_iadd C0.x C0.b dX8_turn_85 ?_
      refine r_lald C0 hw (lg_51 ad cI cJ X S20) hV.1 dX8_turn_86 ?_
      have hV := hV.2
      refine lv_lneg C0.x C0.b dX8_turn_87 ?_
      refine lv_topl (fun y22 ey22 => ?_)
      have hV := hV y22 ey22
      refine lv_lstore (lv' := [(6, .long y22), (4, .long (gA S20 32 (((3 : Int32) * v3) + (2 : Int32)).toNatClampNeg)), (0, .ref (ad 48)), (1, .int v1), (2, .int v2), (3, .int v3)]) C0.x C0.b dX8_turn_88 hl (by decide) rfl (fun ls hl => ?_)
      refine lv_aload_n C0.x C0.b dX8_turn_90 rfl (lv_at hl 2 rfl) ?_
      refine r_get C0 hw (C := RX8) (T := TX8) (N := 33) (v := .ref (ad 51)) iw_X8_turn_X8 (lg_48 ad cI cJ X S20) rfl 9 (by decide) (C0.ts _ fw_X8_turn_20) rfl dX8_turn_91 ?_
      refine lv_iconst (v := 3) C0.x C0.b dX8_turn_94 (by decide) ?_
      refine lv_iload_n C0.x C0.b dX8_turn_95 rfl (lv_at hl 5 rfl) ?_
      refine lv_imul C0.x C0.b dX8_turn_96 ?_
      refine r_lald C0 hw (lg_51 ad cI cJ X S20) hV.1 dX8_turn_97 ?_
      have hV := hV.2
      refine lv_lstore (lv' := [(8, .long (gA S20 32 ((3 : Int32) * v3).toNatClampNeg)), (6, .long y22), (4, .long (gA S20 32 (((3 : Int32) * v3) + (2 : Int32)).toNatClampNeg)), (0, .ref (ad 48)), (1, .int v1), (2, .int v2), (3, .int v3)]) C0.x C0.b dX8_turn_98 hl (by decide) rfl (fun ls hl => ?_)
      refine lv_lload C0.x C0.b dX8_turn_100 (lv_at hl 2 rfl) ?_
      refine lv_lload C0.x C0.b dX8_turn_102 (lv_at hl 1 rfl) ?_
      refine r_cS_l (As := [.long (gA S20 32 (((3 : Int32) * v3) + (2 : Int32)).toNatClampNeg), .long y22]) (rest := []) C0 hw (c_X8_common  hV) (va_cwS 2 C0.ts gX8_turn_X8_common rfl rfl rfl hd_X8_common ⟨Nat.le_of_ble_eq_true rfl, Nat.le_of_ble_eq_true rfl⟩) rfl hl.1 rfl (Nat.le_of_ble_eq_true rfl) ⟨Nat.zero_le _, Nat.zero_le _⟩ dX8_turn_104 (fun r23 S24 H locs hV hw => ?_)
      refine lv_lload C0.x C0.b dX8_turn_107 (lv_at hl 0 rfl) ?_
      refine r_cS_l (As := [.long r23, .long (gA S20 32 ((3 : Int32) * v3).toNatClampNeg)]) (rest := []) C0 hw (c_X8_common  hV) (va_cwS 2 C0.ts gX8_turn_X8_common rfl rfl rfl hd_X8_common ⟨Nat.le_of_ble_eq_true rfl, Nat.le_of_ble_eq_true rfl⟩) rfl hl.1 rfl (Nat.le_of_ble_eq_true rfl) ⟨Nat.zero_le _, Nat.zero_le _⟩ dX8_turn_109 (fun r25 S26 H locs hV hw => ?_)
      refine lv_lstore (lv' := [(10, .long r25), (8, .long (gA S20 32 ((3 : Int32) * v3).toNatClampNeg)), (6, .long y22), (4, .long (gA S20 32 (((3 : Int32) * v3) + (2 : Int32)).toNatClampNeg)), (0, .ref (ad 48)), (1, .int v1), (2, .int v2), (3, .int v3)]) C0.x C0.b dX8_turn_112 hl (by decide) rfl (fun ls hl => ?_)
      refine lv_lload C0.x C0.b dX8_turn_114 (lv_at hl 1 rfl) ?_
      refine lv_lconst (v := 0) C0.x C0.b dX8_turn_116 (by decide) ?_
      refine r_lcmp C0 dX8_turn_117 ?_
      refine lv_if_ge (tgt := 127) C0.x C0.b dX8_turn_118 (by decide) (fun c27 => ?_) (fun c27 => ?_)
      · have hV := hV.1 ((lc_ge _ _).mp c27)
        refine lv_lload C0.x C0.b dX8_turn_127 (lv_at hl 0 rfl) ?_
        refine lv_lstore (lv' := [(10, .long r25), (8, .long (gA S20 32 ((3 : Int32) * v3).toNatClampNeg)), (6, .long y22), (4, .long (gA S20 32 (((3 : Int32) * v3) + (2 : Int32)).toNatClampNeg)), (0, .ref (ad 48)), (1, .int v1), (2, .int v2), (3, .int v3)]) C0.x C0.b dX8_turn_129 hl (by decide) rfl (fun ls hl => ?_)
        refine lv_lload C0.x C0.b dX8_turn_131 (lv_at hl 3 rfl) ?_
        refine lv_lload C0.x C0.b dX8_turn_133 (lv_at hl 0 rfl) ?_
        refine lv_ldiv C0.x C0.b dX8_turn_135 hV.1 ?_
        have hV := hV.2
        refine lv_lload C0.x C0.b dX8_turn_136 (lv_at hl 2 rfl) ?_
        refine lv_lload C0.x C0.b dX8_turn_138 (lv_at hl 0 rfl) ?_
        refine lv_ldiv C0.x C0.b dX8_turn_140 hV.1 ?_
        have hV := hV.2
        refine lv_lload C0.x C0.b dX8_turn_141 (lv_at hl 1 rfl) ?_
        refine lv_lload C0.x C0.b dX8_turn_143 (lv_at hl 0 rfl) ?_
        refine lv_ldiv C0.x C0.b dX8_turn_145 hV.1 ?_
        have hV := hV.2
        refine r_cS_i (As := [.long ((gA S20 32 (((3 : Int32) * v3) + (2 : Int32)).toNatClampNeg) / r25), .long (y22 / r25), .long ((gA S20 32 ((3 : Int32) * v3).toNatClampNeg) / r25)]) (rest := []) C0 hw (c_X8_isShare  hV) (va_cwS 3 C0.ts gX8_turn_X8_isShare rfl rfl rfl hd_X8_isShare ⟨Nat.le_of_ble_eq_true rfl, Nat.le_of_ble_eq_true rfl⟩) rfl hl.1 rfl (Nat.le_of_ble_eq_true rfl) ⟨Nat.zero_le _, Nat.zero_le _⟩ dX8_turn_146 (fun r28 S29 H locs hV hw => ?_)
        refine lv_if_ne (tgt := 154) C0.x C0.b dX8_turn_149 (by decide) (fun c30 => ?_) (fun c30 => ?_)
        · have hV := hV.2 c30
          refine lv_aload_n C0.x C0.b dX8_turn_154 rfl (lv_at hl 4 rfl) ?_
          refine r_get C0 hw (C := RX8) (T := TX8) (N := 33) (v := .ref (ad 62)) iw_X8_turn_X8 (lg_48 ad cI cJ X S29) rfl 30 (by decide) (C0.ts _ fw_X8_turn_55) rfl dX8_turn_155 ?_
          refine lv_iconst (v := 3) C0.x C0.b dX8_turn_158 (by decide) ?_
          refine lv_iload_n C0.x C0.b dX8_turn_159 rfl (lv_at hl 6 rfl) ?_
          refine lv_imul C0.x C0.b dX8_turn_160 ?_
          refine lv_lload C0.x C0.b dX8_turn_161 (lv_at hl 3 rfl) ?_
          refine lv_lload C0.x C0.b dX8_turn_163 (lv_at hl 0 rfl) ?_
          refine lv_ldiv C0.x C0.b dX8_turn_165 hV.1 ?_
          have hV := hV.2
          refine r_last C0 hw (lg_62 ad cI cJ X S29) hV.1 dX8_turn_166 (S' := (sA S29 40 (vp_updL (gA S29 40) ((3 : Int32) * v2).toNatClampNeg ((gA S20 32 (((3 : Int32) * v3) + (2 : Int32)).toNatClampNeg) / r25)))) (ls_62 ad cI cJ X S29 (vp_updL (gA S29 40) ((3 : Int32) * v2).toNatClampNeg ((gA S20 32 (((3 : Int32) * v3) + (2 : Int32)).toNatClampNeg) / r25))) (fun S31 H locs eS31 hw => ?_)
          have hV := hV.2 S31 eS31
          refine lv_aload_n C0.x C0.b dX8_turn_167 rfl (lv_at hl 4 rfl) ?_
          refine r_get C0 hw (C := RX8) (T := TX8) (N := 33) (v := .ref (ad 62)) iw_X8_turn_X8 (lg_48 ad cI cJ X S31) rfl 30 (by decide) (C0.ts _ fw_X8_turn_55) rfl dX8_turn_168 ?_
          refine lv_iconst (v := 3) C0.x C0.b dX8_turn_171 (by decide) ?_
          refine lv_iload_n C0.x C0.b dX8_turn_172 rfl (lv_at hl 6 rfl) ?_
          refine lv_imul C0.x C0.b dX8_turn_173 ?_
          refine lv_iconst (v := 1) C0.x C0.b dX8_turn_174 (by decide) ?_
          refine lv_iadd C0.x C0.b dX8_turn_175 ?_
          refine lv_lload C0.x C0.b dX8_turn_176 (lv_at hl 2 rfl) ?_
          refine lv_lload C0.x C0.b dX8_turn_178 (lv_at hl 0 rfl) ?_
          refine lv_ldiv C0.x C0.b dX8_turn_180 hV.1 ?_
          have hV := hV.2
          refine r_last C0 hw (lg_62 ad cI cJ X S31) hV.1 dX8_turn_181 (S' := (sA S31 40 (vp_updL (gA S31 40) (((3 : Int32) * v2) + (1 : Int32)).toNatClampNeg (y22 / r25)))) (ls_62 ad cI cJ X S31 (vp_updL (gA S31 40) (((3 : Int32) * v2) + (1 : Int32)).toNatClampNeg (y22 / r25))) (fun S32 H locs eS32 hw => ?_)
          have hV := hV.2 S32 eS32
          refine lv_aload_n C0.x C0.b dX8_turn_182 rfl (lv_at hl 4 rfl) ?_
          refine r_get C0 hw (C := RX8) (T := TX8) (N := 33) (v := .ref (ad 62)) iw_X8_turn_X8 (lg_48 ad cI cJ X S32) rfl 30 (by decide) (C0.ts _ fw_X8_turn_55) rfl dX8_turn_183 ?_
          refine lv_iconst (v := 3) C0.x C0.b dX8_turn_186 (by decide) ?_
          refine lv_iload_n C0.x C0.b dX8_turn_187 rfl (lv_at hl 6 rfl) ?_
          refine lv_imul C0.x C0.b dX8_turn_188 ?_
          refine lv_iconst (v := 2) C0.x C0.b dX8_turn_189 (by decide) ?_
          refine lv_iadd C0.x C0.b dX8_turn_190 ?_
          refine lv_lload C0.x C0.b dX8_turn_191 (lv_at hl 1 rfl) ?_
          refine lv_lload C0.x C0.b dX8_turn_193 (lv_at hl 0 rfl) ?_
          refine lv_ldiv C0.x C0.b dX8_turn_195 hV.1 ?_
          have hV := hV.2
          refine r_last C0 hw (lg_62 ad cI cJ X S32) hV.1 dX8_turn_196 (S' := (sA S32 40 (vp_updL (gA S32 40) (((3 : Int32) * v2) + (2 : Int32)).toNatClampNeg ((gA S20 32 ((3 : Int32) * v3).toNatClampNeg) / r25)))) (ls_62 ad cI cJ X S32 (vp_updL (gA S32 40) (((3 : Int32) * v2) + (2 : Int32)).toNatClampNeg ((gA S20 32 ((3 : Int32) * v3).toNatClampNeg) / r25))) (fun S33 H locs eS33 hw => ?_)
          have hV := hV.2 S33 eS33
          obtain ⟨x34, ex34⟩ : ∃ z : Int32, z = v2 + 1 := ⟨_, rfl⟩
          have hV := hV x34 ex34
          refine lv_iinc (v := x34) (lv' := [(2, .int x34), (10, .long r25), (8, .long (gA S20 32 ((3 : Int32) * v3).toNatClampNeg)), (6, .long y22), (4, .long (gA S20 32 (((3 : Int32) * v3) + (2 : Int32)).toNatClampNeg)), (0, .ref (ad 48)), (1, .int v1), (3, .int v3)]) C0.x C0.b dX8_turn_197 hl (k := 6) rfl (by rw [ex34]; rfl) (by decide) rfl (fun ls hl => ?_)
          refine lv_goto (tgt := 31) C0.x C0.b dX8_turn_200 (by decide) ?_
          exact hK31 _ _ hV _ _ hw _ (lv_sub hl [5, 6, 0] rfl)
        · have hV := hV.1 c30
          refine lv_iconst (v := -1) C0.x C0.b dX8_turn_152 (by decide) ?_
          exact r_iret C0 rfl hw hV dX8_turn_153
      · have hV := hV.2 (fun h => c27 ((lc_ge _ _).mpr h))
        refine lv_lload C0.x C0.b dX8_turn_121 (lv_at hl 0 rfl) ?_
        refine lv_lneg C0.x C0.b dX8_turn_123 ?_
        refine lv_goto (tgt := 129) C0.x C0.b dX8_turn_124 (by decide) ?_
        refine lv_topl (fun y35 ey35 => ?_)
        have hV := hV y35 ey35
        refine lv_lstore (lv' := [(10, .long y35), (8, .long (gA S20 32 ((3 : Int32) * v3).toNatClampNeg)), (6, .long y22), (4, .long (gA S20 32 (((3 : Int32) * v3) + (2 : Int32)).toNatClampNeg)), (0, .ref (ad 48)), (1, .int v1), (2, .int v2), (3, .int v3)]) C0.x C0.b dX8_turn_129 hl (by decide) rfl (fun ls hl => ?_)
        refine lv_lload C0.x C0.b dX8_turn_131 (lv_at hl 3 rfl) ?_
        refine lv_lload C0.x C0.b dX8_turn_133 (lv_at hl 0 rfl) ?_
        refine lv_ldiv C0.x C0.b dX8_turn_135 hV.1 ?_
        have hV := hV.2
        refine lv_lload C0.x C0.b dX8_turn_136 (lv_at hl 2 rfl) ?_
        refine lv_lload C0.x C0.b dX8_turn_138 (lv_at hl 0 rfl) ?_
        refine lv_ldiv C0.x C0.b dX8_turn_140 hV.1 ?_
        have hV := hV.2
        refine lv_lload C0.x C0.b dX8_turn_141 (lv_at hl 1 rfl) ?_
        refine lv_lload C0.x C0.b dX8_turn_143 (lv_at hl 0 rfl) ?_
        refine lv_ldiv C0.x C0.b dX8_turn_145 hV.1 ?_
        have hV := hV.2
        refine r_cS_i (As := [.long ((gA S20 32 (((3 : Int32) * v3) + (2 : Int32)).toNatClampNeg) / y35), .long (y22 / y35), .long ((gA S20 32 ((3 : Int32) * v3).toNatClampNeg) / y35)]) (rest := []) C0 hw (c_X8_isShare  hV) (va_cwS 3 C0.ts gX8_turn_X8_isShare rfl rfl rfl hd_X8_isShare ⟨Nat.le_of_ble_eq_true rfl, Nat.le_of_ble_eq_true rfl⟩) rfl hl.1 rfl (Nat.le_of_ble_eq_true rfl) ⟨Nat.zero_le _, Nat.zero_le _⟩ dX8_turn_146 (fun r36 S37 H locs hV hw => ?_)
        refine lv_if_ne (tgt := 154) C0.x C0.b dX8_turn_149 (by decide) (fun c38 => ?_) (fun c38 => ?_)
        · have hV := hV.2 c38
          refine lv_aload_n C0.x C0.b dX8_turn_154 rfl (lv_at hl 4 rfl) ?_
          refine r_get C0 hw (C := RX8) (T := TX8) (N := 33) (v := .ref (ad 62)) iw_X8_turn_X8 (lg_48 ad cI cJ X S37) rfl 30 (by decide) (C0.ts _ fw_X8_turn_55) rfl dX8_turn_155 ?_
          refine lv_iconst (v := 3) C0.x C0.b dX8_turn_158 (by decide) ?_
          refine lv_iload_n C0.x C0.b dX8_turn_159 rfl (lv_at hl 6 rfl) ?_
          refine lv_imul C0.x C0.b dX8_turn_160 ?_
          refine lv_lload C0.x C0.b dX8_turn_161 (lv_at hl 3 rfl) ?_
          refine lv_lload C0.x C0.b dX8_turn_163 (lv_at hl 0 rfl) ?_
          refine lv_ldiv C0.x C0.b dX8_turn_165 hV.1 ?_
          have hV := hV.2
          refine r_last C0 hw (lg_62 ad cI cJ X S37) hV.1 dX8_turn_166 (S' := (sA S37 40 (vp_updL (gA S37 40) ((3 : Int32) * v2).toNatClampNeg ((gA S20 32 (((3 : Int32) * v3) + (2 : Int32)).toNatClampNeg) / y35)))) (ls_62 ad cI cJ X S37 (vp_updL (gA S37 40) ((3 : Int32) * v2).toNatClampNeg ((gA S20 32 (((3 : Int32) * v3) + (2 : Int32)).toNatClampNeg) / y35))) (fun S39 H locs eS39 hw => ?_)
          have hV := hV.2 S39 eS39
          refine lv_aload_n C0.x C0.b dX8_turn_167 rfl (lv_at hl 4 rfl) ?_
          refine r_get C0 hw (C := RX8) (T := TX8) (N := 33) (v := .ref (ad 62)) iw_X8_turn_X8 (lg_48 ad cI cJ X S39) rfl 30 (by decide) (C0.ts _ fw_X8_turn_55) rfl dX8_turn_168 ?_
          refine lv_iconst (v := 3) C0.x C0.b dX8_turn_171 (by decide) ?_
          refine lv_iload_n C0.x C0.b dX8_turn_172 rfl (lv_at hl 6 rfl) ?_
          refine lv_imul C0.x C0.b dX8_turn_173 ?_
          refine lv_iconst (v := 1) C0.x C0.b dX8_turn_174 (by decide) ?_
          refine lv_iadd C0.x C0.b dX8_turn_175 ?_
          refine lv_lload C0.x C0.b dX8_turn_176 (lv_at hl 2 rfl) ?_
          refine lv_lload C0.x C0.b dX8_turn_178 (lv_at hl 0 rfl) ?_
          refine lv_ldiv C0.x C0.b dX8_turn_180 hV.1 ?_
          have hV := hV.2
          refine r_last C0 hw (lg_62 ad cI cJ X S39) hV.1 dX8_turn_181 (S' := (sA S39 40 (vp_updL (gA S39 40) (((3 : Int32) * v2) + (1 : Int32)).toNatClampNeg (y22 / y35)))) (ls_62 ad cI cJ X S39 (vp_updL (gA S39 40) (((3 : Int32) * v2) + (1 : Int32)).toNatClampNeg (y22 / y35))) (fun S40 H locs eS40 hw => ?_)
          have hV := hV.2 S40 eS40
          refine lv_aload_n C0.x C0.b dX8_turn_182 rfl (lv_at hl 4 rfl) ?_
          refine r_get C0 hw (C := RX8) (T := TX8) (N := 33) (v := .ref (ad 62)) iw_X8_turn_X8 (lg_48 ad cI cJ X S40) rfl 30 (by decide) (C0.ts _ fw_X8_turn_55) rfl dX8_turn_183 ?_
          refine lv_iconst (v := 3) C0.x C0.b dX8_turn_186 (by decide) ?_
          refine lv_iload_n C0.x C0.b dX8_turn_187 rfl (lv_at hl 6 rfl) ?_
          refine lv_imul C0.x C0.b dX8_turn_188 ?_
          refine lv_iconst (v := 2) C0.x C0.b dX8_turn_189 (by decide) ?_
          refine lv_iadd C0.x C0.b dX8_turn_190 ?_
          refine lv_lload C0.x C0.b dX8_turn_191 (lv_at hl 1 rfl) ?_
          refine lv_lload C0.x C0.b dX8_turn_193 (lv_at hl 0 rfl) ?_
          refine lv_ldiv C0.x C0.b dX8_turn_195 hV.1 ?_
          have hV := hV.2
          refine r_last C0 hw (lg_62 ad cI cJ X S40) hV.1 dX8_turn_196 (S' := (sA S40 40 (vp_updL (gA S40 40) (((3 : Int32) * v2) + (2 : Int32)).toNatClampNeg ((gA S20 32 ((3 : Int32) * v3).toNatClampNeg) / y35)))) (ls_62 ad cI cJ X S40 (vp_updL (gA S40 40) (((3 : Int32) * v2) + (2 : Int32)).toNatClampNeg ((gA S20 32 ((3 : Int32) * v3).toNatClampNeg) / y35))) (fun S41 H locs eS41 hw => ?_)
          have hV := hV.2 S41 eS41
          obtain ⟨x42, ex42⟩ : ∃ z : Int32, z = v2 + 1 := ⟨_, rfl⟩
          have hV := hV x42 ex42
          refine lv_iinc (v := x42) (lv' := [(2, .int x42), (10, .long y35), (8, .long (gA S20 32 ((3 : Int32) * v3).toNatClampNeg)), (6, .long y22), (4, .long (gA S20 32 (((3 : Int32) * v3) + (2 : Int32)).toNatClampNeg)), (0, .ref (ad 48)), (1, .int v1), (3, .int v3)]) C0.x C0.b dX8_turn_197 hl (k := 6) rfl (by rw [ex42]; rfl) (by decide) rfl (fun ls hl => ?_)
          refine lv_goto (tgt := 31) C0.x C0.b dX8_turn_200 (by decide) ?_
          exact hK31 _ _ hV _ _ hw _ (lv_sub hl [5, 6, 0] rfl)
        · have hV := hV.1 c38
          refine lv_iconst (v := -1) C0.x C0.b dX8_turn_152 (by decide) ?_
          exact r_iret C0 rfl hw hV dX8_turn_153
    · have hV := hV.2 (fun h => c21 ((lc_eq _ _).mpr h))
      obtain ⟨x43, ex43⟩ : ∃ z : Int32, z = v3 + 1 := ⟨_, rfl⟩
      have hV := hV x43 ex43
      refine lv_iinc (v := x43) (lv' := [(3, .int x43), (0, .ref (ad 48)), (1, .int v1), (2, .int v2)]) C0.x C0.b dX8_turn_59 hl (k := 3) rfl (by rw [ex43]; rfl) (by decide) rfl (fun ls hl => ?_)
      refine lv_goto (tgt := 38) C0.x C0.b dX8_turn_62 (by decide) ?_
      exact ih _ _ hV _ _ hw _ (lv_sub hl [1, 2, 3, 0] rfl)
def V_X8_turn_31  (v1 : Int32)  (post : Int32 → SS → Prop) : Nat → Int32 → SS → Prop
  | 0, _, _ => False
  | n + 1, v2, S =>
    ((v1 ≤ v2 → (∀ S11 : SS, S11 = (sI S 26 v1) → (∃ n210 : Nat, V_X8_turn_210    post n210 (0 : Int32) S11))) ∧ (¬ v1 ≤ v2 → (∃ n38 : Nat, V_X8_turn_38  v1 v2 (fun w2 T => V_X8_turn_31  v1  post n w2 T) post n38 (0 : Int32) S)))
set_option maxHeartbeats 4000000 in
set_option maxRecDepth 100000 in
theorem lp_X8_turn_31  (v1 : Int32)  (post : Int32 → SS → Prop) (C0 : Bd p s m meth c args cX8_turn 12 (some .int) wsX8_turn RX8 D n0 cI cJ) : ∀ (n : Nat) (v2 : Int32) (S : SS), V_X8_turn_31  v1  post n v2 S → ∀ (H : Heap) (locs : List Loc), Wh D n0 ad cI cJ X S s H locs → ∀ ls : Array Slot, lv_has ls 12 [(0, .ref (ad 48)), (1, .int v1), (2, .int v2)] → W p l e rm_X8_turn s m args below meth c H locs 0 0 (MQ below (va_Qi post (fun S' t => Wd D n0 ad cI cJ X S' t) (fr n0)) args s 0 0 (fr n0)) (F0 m 31 ls []) := by
  intro n
  induction n with
  | zero => intro v2 S hV; exact False.elim hV
  | succ n ih =>
    intro v2 S hV H locs hw ls hl
    rw [V_X8_turn_31] at hV
    refine lv_iload_n C0.x C0.b dX8_turn_31 rfl (lv_at hl 2 rfl) ?_
    refine lv_iload_n C0.x C0.b dX8_turn_32 rfl (lv_at hl 1 rfl) ?_
    refine lv_icmp_ge (tgt := 203) C0.x C0.b dX8_turn_33 (by decide) (fun c10 => ?_) (fun c10 => ?_)
    · have hV := hV.1 c10
      refine lv_aload_n C0.x C0.b dX8_turn_203 rfl (lv_at hl 0 rfl) ?_
      refine lv_iload_n C0.x C0.b dX8_turn_204 rfl (lv_at hl 1 rfl) ?_
      refine r_put C0 hw (C := RX8) (T := TX8) (N := 33) (ty := .int) iw_X8_turn_X8 tyX8 tyX8_ok nmX8 (lg_48 ad cI cJ X S) rfl 8 (by decide) (C0.ts _ fw_X8_turn_105) rfl (by decide +kernel) rfl rfl (Nat.le_of_ble_eq_true rfl) dX8_turn_205 (S' := (sI S 26 v1)) (ls_48_8 ad cI cJ X S v1) (fun S11 H locs eS11 hw => ?_)
      have hV := hV S11 eS11
      refine lv_iconst (v := 0) C0.x C0.b dX8_turn_208 (by decide) ?_
      refine lv_istore_n (lv' := [(2, .int (0 : Int32)), (0, .ref (ad 48)), (1, .int v1)]) C0.x C0.b dX8_turn_209 rfl hl (by decide) rfl (fun ls hl => ?_)
      obtain ⟨n210, hV⟩ := hV
      exact lp_X8_turn_210   post C0  n210 _ _ hV _ _ hw _ (lv_sub hl [1, 0] rfl)
    · have hV := hV.2 c10
      refine lv_iconst (v := 0) C0.x C0.b dX8_turn_36 (by decide) ?_
      refine lv_istore_n (lv' := [(3, .int (0 : Int32)), (0, .ref (ad 48)), (1, .int v1), (2, .int v2)]) C0.x C0.b dX8_turn_37 rfl hl (by decide) rfl (fun ls hl => ?_)
      obtain ⟨n38, hV⟩ := hV
      exact lp_X8_turn_38  _ _ _ post C0 ih n38 _ _ hV _ _ hw _ (lv_sub hl [1, 2, 3, 0] rfl)
def V_X8_turn   (S : SS) (post : Int32 → SS → Prop) : Prop :=
  (∀ S1 : SS, S1 = (sI S 20 (0 : Int32)) → (V_X8_both  S1 (fun (r2 : Int32) (S3 : SS) => ((r2 = (1 : Int32) → (V_X8_measure  S3 (fun (r5 : Int32) (S6 : SS) => ((r5 ≤ (64 : Int32) → (V_X8_measure  S6 (fun (r8 : Int32) (S9 : SS) => (∃ n31 : Nat, V_X8_turn_31  r8  post n31 (0 : Int32) S9)))) ∧ (¬ r5 ≤ (64 : Int32) → (post (-1 : Int32) S6)))))) ∧ (¬ r2 = (1 : Int32) → (post (-1 : Int32) S3))))))
set_option maxHeartbeats 4000000 in
set_option maxRecDepth 100000 in
theorem c_X8_turn  {S : SS}  {post : Int32 → SS → Prop} (hV : V_X8_turn   S post) : MI l yX8_turn wsX8_turn rm_X8_turn [.ref (ad 48)] D n0 ad cI cJ X S post := by
  refine Met.ofW (cc := cX8_turn) (maxL := 12) (ret := (some .int)) (by decide) rfl ?_
  intro p e s m args below meth c s₁ B hml hv
  obtain ⟨rfl, hv⟩ := hv
  have C0 := Bd.mk B hml (atoms_spec (ws := wsX8_turn) B.pre) (findClass_of_methodNamed B.named) hv.1
  have hw : Wh D n0 ad cI cJ X S s s.heap [] := ⟨hv.2.1, hv.2.2, va_S.rf⟩
  refine r_entry (Nat.le_of_ble_eq_true rfl) (fun ls hl => ?_)
  have hl : lv_has ls 12 [(0, .ref (ad 48))] := hl
  unfold V_X8_turn at hV
  refine lv_aload_n C0.x C0.b dX8_turn_0 rfl (lv_at hl 0 rfl) ?_
  refine lv_iconst (v := 0) C0.x C0.b dX8_turn_1 (by decide) ?_
  refine r_put C0 hw (C := RX8) (T := TX8) (N := 33) (ty := .int) iw_X8_turn_X8 tyX8 tyX8_ok nmX8 (lg_48 ad cI cJ X S) rfl 0 (by decide) (C0.ts _ fw_X8_turn_61) rfl (by decide +kernel) rfl rfl (Nat.le_of_ble_eq_true rfl) dX8_turn_2 (S' := (sI S 20 (0 : Int32))) (ls_48_0 ad cI cJ X S (0 : Int32)) (fun S1 H locs eS1 hw => ?_)
  have hV := hV S1 eS1
  refine lv_aload_n C0.x C0.b dX8_turn_5 rfl (lv_at hl 0 rfl) ?_
  refine r_cV_i (As := []) (rest := []) C0 hw (c_X8_both  hV) (cwV 0 C0.ts gX8_turn_X8_both rfl rfl rfl hd_X8_both ⟨Nat.le_of_ble_eq_true rfl, Nat.le_of_ble_eq_true rfl⟩) (lg_48 ad cI cJ X S1) rfl rfl hl.1 rfl (Nat.le_of_ble_eq_true rfl) ⟨Nat.zero_le _, Nat.zero_le _⟩ dX8_turn_6 (fun r2 S3 H locs hV hw => ?_)
  refine lv_iconst (v := 1) C0.x C0.b dX8_turn_9 (by decide) ?_
  refine lv_icmp_ne (tgt := 22) C0.x C0.b dX8_turn_10 (by decide) (fun c4 => ?_) (fun c4 => ?_)
  · have hV := hV.2 c4
    refine lv_iconst (v := -1) C0.x C0.b dX8_turn_22 (by decide) ?_
    exact r_iret C0 rfl hw hV dX8_turn_23
  · have hV := hV.1 c4
    refine lv_aload_n C0.x C0.b dX8_turn_13 rfl (lv_at hl 0 rfl) ?_
    refine r_cV_i (As := []) (rest := []) C0 hw (c_X8_measure  hV) (cwV 0 C0.ts gX8_turn_X8_measure rfl rfl rfl hd_X8_measure ⟨Nat.le_of_ble_eq_true rfl, Nat.le_of_ble_eq_true rfl⟩) (lg_48 ad cI cJ X S3) rfl rfl hl.1 rfl (Nat.le_of_ble_eq_true rfl) ⟨Nat.zero_le _, Nat.zero_le _⟩ dX8_turn_14 (fun r5 S6 H locs hV hw => ?_)
    refine lv_bipush (v := 64) C0.x C0.b dX8_turn_17 (by decide) ?_
    refine lv_icmp_le (tgt := 24) C0.x C0.b dX8_turn_19 (by decide) (fun c7 => ?_) (fun c7 => ?_)
    · have hV := hV.1 c7
      refine lv_aload_n C0.x C0.b dX8_turn_24 rfl (lv_at hl 0 rfl) ?_
      refine r_cV_i (As := []) (rest := []) C0 hw (c_X8_measure  hV) (cwV 0 C0.ts gX8_turn_X8_measure rfl rfl rfl hd_X8_measure ⟨Nat.le_of_ble_eq_true rfl, Nat.le_of_ble_eq_true rfl⟩) (lg_48 ad cI cJ X S6) rfl rfl hl.1 rfl (Nat.le_of_ble_eq_true rfl) ⟨Nat.zero_le _, Nat.zero_le _⟩ dX8_turn_25 (fun r8 S9 H locs hV hw => ?_)
      refine lv_istore_n (lv' := [(1, .int r8), (0, .ref (ad 48))]) C0.x C0.b dX8_turn_28 rfl hl (by decide) rfl (fun ls hl => ?_)
      refine lv_iconst (v := 0) C0.x C0.b dX8_turn_29 (by decide) ?_
      refine lv_istore_n (lv' := [(2, .int (0 : Int32)), (1, .int r8), (0, .ref (ad 48))]) C0.x C0.b dX8_turn_30 rfl hl (by decide) rfl (fun ls hl => ?_)
      obtain ⟨n31, hV⟩ := hV
      exact lp_X8_turn_31  _ post C0  n31 _ _ hV _ _ hw _ (lv_sub hl [2, 1, 0] rfl)
    · have hV := hV.2 c7
      refine lv_iconst (v := -1) C0.x C0.b dX8_turn_22 (by decide) ?_
      exact r_iret C0 rfl hw hV dX8_turn_23
/-! StepBenchModel.drift()I -/
abbrev rm_X8_drift : Room := { frames := 1, cells := 0, slots := 0, locals := 27 }
set_option maxRecDepth 20000 in
theorem fw_X8_drift_61 : Cond.fieldLink RX8 61 "StepBenchModel" "thrown" "I" ∈ wsX8_drift := by decide +kernel
set_option maxRecDepth 20000 in
theorem iw_X8_drift_X8 : ∀ w ∈ wsX80, w ∈ wsX8_drift := by decide +kernel
set_option maxRecDepth 20000 in
theorem fw_X8_drift_108 : Cond.fieldLink RX8 108 "StepBenchModel" "sort" "I" ∈ wsX8_drift := by decide +kernel
set_option maxRecDepth 20000 in
theorem fw_X8_drift_42 : Cond.fieldLink RX8 42 "StepBenchModel" "large" "[J" ∈ wsX8_drift := by decide +kernel
set_option maxRecDepth 20000 in
theorem fw_X8_drift_45 : Cond.fieldLink RX8 45 "StepBenchModel" "other" "[J" ∈ wsX8_drift := by decide +kernel
set_option maxRecDepth 20000 in
theorem fw_X8_drift_105 : Cond.fieldLink RX8 105 "StepBenchModel" "m" "I" ∈ wsX8_drift := by decide +kernel
set_option maxRecDepth 20000 in
theorem fw_X8_drift_20 : Cond.fieldLink RX8 20 "StepBenchModel" "rule" "[J" ∈ wsX8_drift := by decide +kernel
set_option maxRecDepth 20000 in
theorem hd_X8_drift : yX8_drift.cls = RX8 ∧ yX8_drift.cls ≠ "java/lang/invoke/MethodHandle" ∧ yX8_drift.cls ≠ "java/lang/invoke/VarHandle" ∧ (parseMethodDescriptor yX8_drift.desc).map (fun d => d.parameters.length) = some 0 := by decide +kernel
def V_X8_drift_105    (post : Int32 → SS → Prop) : Nat → Int32 → SS → Prop
  | 0, _, _ => False
  | n + 1, v1, S =>
    ((v1 < 0 → (post (0 : Int32) S)) ∧ (¬ v1 < 0 → (vp_in v1 26 ∧ (vp_in v1 26 ∧ (((gA S 37 v1.toNatClampNeg) = (gA S 38 v1.toNatClampNeg) → (∀ x10 : Int32, x10 = v1 + (-1) → (V_X8_drift_105    post n x10 S))) ∧ (¬ (gA S 37 v1.toNatClampNeg) = (gA S 38 v1.toNatClampNeg) → (vp_in v1 26 ∧ (vp_in v1 26 ∧ (((gA S 37 v1.toNatClampNeg) ≤ (gA S 38 v1.toNatClampNeg) → (post (-1 : Int32) S)) ∧ (¬ (gA S 37 v1.toNatClampNeg) ≤ (gA S 38 v1.toNatClampNeg) → (post (1 : Int32) S)))))))))))
set_option maxHeartbeats 4000000 in
set_option maxRecDepth 100000 in
theorem lp_X8_drift_105    (post : Int32 → SS → Prop) (C0 : Bd p s m meth c args cX8_drift 4 (some .int) wsX8_drift RX8 D n0 cI cJ) : ∀ (n : Nat) (v1 : Int32) (S : SS), V_X8_drift_105    post n v1 S → ∀ (H : Heap) (locs : List Loc), Wh D n0 ad cI cJ X S s H locs → ∀ ls : Array Slot, lv_has ls 4 [(0, .ref (ad 48)), (1, .int v1)] → W p l e rm_X8_drift s m args below meth c H locs 0 0 (MQ below (va_Qi post (fun S' t => Wd D n0 ad cI cJ X S' t) (fr n0)) args s 0 0 (fr n0)) (F0 m 105 ls []) := by
  intro n
  induction n with
  | zero => intro v1 S hV; exact False.elim hV
  | succ n ih =>
    intro v1 S hV H locs hw ls hl
    rw [V_X8_drift_105] at hV
    refine lv_iload_n C0.x C0.b dX8_drift_105 rfl (lv_at hl 1 rfl) ?_
    refine lv_if_lt (tgt := 153) C0.x C0.b dX8_drift_106 (by decide) (fun c8 => ?_) (fun c8 => ?_)
    · have hV := hV.1 c8
      refine lv_iconst (v := 0) C0.x C0.b dX8_drift_153 (by decide) ?_
      exact r_iret C0 rfl hw hV dX8_drift_154
    · have hV := hV.2 c8
      refine lv_aload_n C0.x C0.b dX8_drift_109 rfl (lv_at hl 0 rfl) ?_
      refine r_get C0 hw (C := RX8) (T := TX8) (N := 33) (v := .ref (ad 58)) iw_X8_drift_X8 (lg_48 ad cI cJ X S) rfl 26 (by decide) (C0.ts _ fw_X8_drift_42) rfl dX8_drift_110 ?_
      refine lv_iload_n C0.x C0.b dX8_drift_113 rfl (lv_at hl 1 rfl) ?_
      refine r_lald C0 hw (lg_58 ad cI cJ X S) hV.1 dX8_drift_114 ?_
      have hV := hV.2
      refine lv_aload_n C0.x C0.b dX8_drift_115 rfl (lv_at hl 0 rfl) ?_
      refine r_get C0 hw (C := RX8) (T := TX8) (N := 33) (v := .ref (ad 59)) iw_X8_drift_X8 (lg_48 ad cI cJ X S) rfl 27 (by decide) (C0.ts _ fw_X8_drift_45) rfl dX8_drift_116 ?_
      refine lv_iload_n C0.x C0.b dX8_drift_119 rfl (lv_at hl 1 rfl) ?_
      refine r_lald C0 hw (lg_59 ad cI cJ X S) hV.1 dX8_drift_120 ?_
      have hV := hV.2
      refine r_lcmp C0 dX8_drift_121 ?_
      refine lv_if_eq (tgt := 147) C0.x C0.b dX8_drift_122 (by decide) (fun c9 => ?_) (fun c9 => ?_)
      · have hV := hV.1 ((lc_eq _ _).mp c9)
        obtain ⟨x10, ex10⟩ : ∃ z : Int32, z = v1 + (-1) := ⟨_, rfl⟩
        have hV := hV x10 ex10
        refine lv_iinc (v := x10) (lv' := [(1, .int x10), (0, .ref (ad 48))]) C0.x C0.b dX8_drift_147 hl (k := 1) rfl (by rw [ex10]; rfl) (by decide) rfl (fun ls hl => ?_)
        refine lv_goto (tgt := 105) C0.x C0.b dX8_drift_150 (by decide) ?_
        exact ih _ _ hV _ _ hw _ (lv_sub hl [1, 0] rfl)
      · have hV := hV.2 (fun h => c9 ((lc_eq _ _).mpr h))
        refine lv_aload_n C0.x C0.b dX8_drift_125 rfl (lv_at hl 0 rfl) ?_
        refine r_get C0 hw (C := RX8) (T := TX8) (N := 33) (v := .ref (ad 58)) iw_X8_drift_X8 (lg_48 ad cI cJ X S) rfl 26 (by decide) (C0.ts _ fw_X8_drift_42) rfl dX8_drift_126 ?_
        refine lv_iload_n C0.x C0.b dX8_drift_129 rfl (lv_at hl 1 rfl) ?_
        refine r_lald C0 hw (lg_58 ad cI cJ X S) hV.1 dX8_drift_130 ?_
        have hV := hV.2
        refine lv_aload_n C0.x C0.b dX8_drift_131 rfl (lv_at hl 0 rfl) ?_
        refine r_get C0 hw (C := RX8) (T := TX8) (N := 33) (v := .ref (ad 59)) iw_X8_drift_X8 (lg_48 ad cI cJ X S) rfl 27 (by decide) (C0.ts _ fw_X8_drift_45) rfl dX8_drift_132 ?_
        refine lv_iload_n C0.x C0.b dX8_drift_135 rfl (lv_at hl 1 rfl) ?_
        refine r_lald C0 hw (lg_59 ad cI cJ X S) hV.1 dX8_drift_136 ?_
        have hV := hV.2
        refine r_lcmp C0 dX8_drift_137 ?_
        refine lv_if_le (tgt := 145) C0.x C0.b dX8_drift_138 (by decide) (fun c11 => ?_) (fun c11 => ?_)
        · have hV := hV.1 ((lc_le _ _).mp c11)
          refine lv_iconst (v := -1) C0.x C0.b dX8_drift_145 (by decide) ?_
          exact r_iret C0 rfl hw hV dX8_drift_146
        · have hV := hV.2 (fun h => c11 ((lc_le _ _).mpr h))
          refine lv_iconst (v := 1) C0.x C0.b dX8_drift_141 (by decide) ?_
          refine lv_goto (tgt := 146) C0.x C0.b dX8_drift_142 (by decide) ?_
          exact r_iret C0 rfl hw hV dX8_drift_146
def V_X8_drift_34    (post : Int32 → SS → Prop) : Nat → Int32 → SS → Prop
  | 0, _, _ => False
  | n + 1, v1, S =>
    (((gI S 26) ≤ v1 → (∃ n105 : Nat, V_X8_drift_105    post n105 (25 : Int32) S)) ∧ (¬ (gI S 26) ≤ v1 → (vp_in ((3 : Int32) * v1) 192 ∧ (((gA S 32 ((3 : Int32) * v1).toNatClampNeg) = (0 : Int64) → (post (-2 : Int32) S)) ∧ (¬ (gA S 32 ((3 : Int32) * v1).toNatClampNeg) = (0 : Int64) → (((0 : Int64) ≤ (gA S 32 ((3 : Int32) * v1).toNatClampNeg) → (V_X8_times 37 26 (gA S 32 ((3 : Int32) * v1).toNatClampNeg) S (fun (S15 : SS) => (vp_in (((3 : Int32) * v1) + (2 : Int32)) 192 ∧ (V_X8_times 38 26 (gA S15 32 (((3 : Int32) * v1) + (2 : Int32)).toNatClampNeg) S15 (fun (S17 : SS) => (∀ x18 : Int32, x18 = v1 + 1 → (V_X8_drift_34    post n x18 S17)))))))) ∧ (¬ (0 : Int64) ≤ (gA S 32 ((3 : Int32) * v1).toNatClampNeg) → (V_X8_times 37 26 (-(gA S 32 ((3 : Int32) * v1).toNatClampNeg)) S (fun (S20 : SS) => (vp_in (((3 : Int32) * v1) + (2 : Int32)) 192 ∧ (V_X8_times 38 26 (gA S20 32 (((3 : Int32) * v1) + (2 : Int32)).toNatClampNeg) S20 (fun (S22 : SS) => (∀ x23 : Int32, x23 = v1 + 1 → (V_X8_drift_34    post n x23 S22))))))))))))))
set_option maxHeartbeats 4000000 in
set_option maxRecDepth 100000 in
theorem lp_X8_drift_34    (post : Int32 → SS → Prop) (C0 : Bd p s m meth c args cX8_drift 4 (some .int) wsX8_drift RX8 D n0 cI cJ) : ∀ (n : Nat) (v1 : Int32) (S : SS), V_X8_drift_34    post n v1 S → ∀ (H : Heap) (locs : List Loc), Wh D n0 ad cI cJ X S s H locs → ∀ ls : Array Slot, lv_has ls 4 [(0, .ref (ad 48)), (1, .int v1)] → W p l e rm_X8_drift s m args below meth c H locs 0 0 (MQ below (va_Qi post (fun S' t => Wd D n0 ad cI cJ X S' t) (fr n0)) args s 0 0 (fr n0)) (F0 m 34 ls []) := by
  intro n
  induction n with
  | zero => intro v1 S hV; exact False.elim hV
  | succ n ih =>
    intro v1 S hV H locs hw ls hl
    rw [V_X8_drift_34] at hV
    refine lv_iload_n C0.x C0.b dX8_drift_34 rfl (lv_at hl 1 rfl) ?_
    refine lv_aload_n C0.x C0.b dX8_drift_35 rfl (lv_at hl 0 rfl) ?_
    refine r_get C0 hw (C := RX8) (T := TX8) (N := 33) (v := .int (gI S 26)) iw_X8_drift_X8 (lg_48 ad cI cJ X S) rfl 8 (by decide) (C0.ts _ fw_X8_drift_105) rfl dX8_drift_36 ?_
    refine lv_icmp_ge (tgt := 102) C0.x C0.b dX8_drift_39 (by decide) (fun c7 => ?_) (fun c7 => ?_)
    · have hV := hV.1 c7
      refine lv_bipush (v := 25) C0.x C0.b dX8_drift_102 (by decide) ?_
      refine lv_istore_n (lv' := [(1, .int (25 : Int32)), (0, .ref (ad 48))]) C0.x C0.b dX8_drift_104 rfl hl (by decide) rfl (fun ls hl => ?_)
      obtain ⟨n105, hV⟩ := hV
      exact lp_X8_drift_105   post C0  n105 _ _ hV _ _ hw _ (lv_sub hl [1, 0] rfl)
    · have hV := hV.2 c7
      refine lv_aload_n C0.x C0.b dX8_drift_42 rfl (lv_at hl 0 rfl) ?_
      refine r_get C0 hw (C := RX8) (T := TX8) (N := 33) (v := .ref (ad 51)) iw_X8_drift_X8 (lg_48 ad cI cJ X S) rfl 9 (by decide) (C0.ts _ fw_X8_drift_20) rfl dX8_drift_43 ?_
      refine lv_iconst (v := 3) C0.x C0.b dX8_drift_46 (by decide) ?_
      refine lv_iload_n C0.x C0.b dX8_drift_47 rfl (lv_at hl 1 rfl) ?_
      refine lv_imul C0.x C0.b dX8_drift_48 ?_
      refine r_lald C0 hw (lg_51 ad cI cJ X S) hV.1 dX8_drift_49 ?_
      have hV := hV.2
      refine lv_lstore_n (lv' := [(2, .long (gA S 32 ((3 : Int32) * v1).toNatClampNeg)), (0, .ref (ad 48)), (1, .int v1)]) C0.x C0.b dX8_drift_50 rfl hl (by decide) rfl (fun ls hl => ?_)
      refine lv_lload_n C0.x C0.b dX8_drift_51 rfl (lv_at hl 0 rfl) ?_
      refine lv_lconst (v := 0) C0.x C0.b dX8_drift_52 (by decide) ?_
      refine r_lcmp C0 dX8_drift_53 ?_
      refine lv_if_ne (tgt := 60) C0.x C0.b dX8_drift_54 (by decide) (fun c12 => ?_) (fun c12 => ?_)
      · have hV := hV.2 (fun h => c12 ((lc_eq _ _).mpr h))
        refine lv_aload_n C0.x C0.b dX8_drift_60 rfl (lv_at hl 1 rfl) ?_
        refine r_get C0 hw (C := RX8) (T := TX8) (N := 33) (v := .ref (ad 58)) iw_X8_drift_X8 (lg_48 ad cI cJ X S) rfl 26 (by decide) (C0.ts _ fw_X8_drift_42) rfl dX8_drift_61 ?_
        refine lv_lload_n C0.x C0.b dX8_drift_64 rfl (lv_at hl 0 rfl) ?_
        refine lv_lconst (v := 0) C0.x C0.b dX8_drift_65 (by decide) ?_
        refine r_lcmp C0 dX8_drift_66 ?_
        refine lv_if_ge (tgt := 75) C0.x C0.b dX8_drift_67 (by decide) (fun c13 => ?_) (fun c13 => ?_)
        · have hV := hV.1 ((lc_ge _ _).mp c13)
          refine lv_lload_n C0.x C0.b dX8_drift_75 rfl (lv_at hl 0 rfl) ?_
          refine r_cS_v (As := [.ref (ad 58), .long (gA S 32 ((3 : Int32) * v1).toNatClampNeg)]) (rest := []) C0 hw (c_X8_times (la_58 ad cI cJ X) hV) (va_cwS 2 C0.ts gX8_drift_X8_times rfl rfl rfl hd_X8_times ⟨Nat.le_of_ble_eq_true rfl, Nat.le_of_ble_eq_true rfl⟩) rfl hl.1 rfl (Nat.le_of_ble_eq_true rfl) ⟨Nat.zero_le _, Nat.zero_le _⟩ dX8_drift_76 (fun S15 H locs hV hw => ?_)
          refine lv_aload_n C0.x C0.b dX8_drift_79 rfl (lv_at hl 1 rfl) ?_
          refine r_get C0 hw (C := RX8) (T := TX8) (N := 33) (v := .ref (ad 59)) iw_X8_drift_X8 (lg_48 ad cI cJ X S15) rfl 27 (by decide) (C0.ts _ fw_X8_drift_45) rfl dX8_drift_80 ?_
          refine lv_aload_n C0.x C0.b dX8_drift_83 rfl (lv_at hl 1 rfl) ?_
          refine r_get C0 hw (C := RX8) (T := TX8) (N := 33) (v := .ref (ad 51)) iw_X8_drift_X8 (lg_48 ad cI cJ X S15) rfl 9 (by decide) (C0.ts _ fw_X8_drift_20) rfl dX8_drift_84 ?_
          refine lv_iconst (v := 3) C0.x C0.b dX8_drift_87 (by decide) ?_
          refine lv_iload_n C0.x C0.b dX8_drift_88 rfl (lv_at hl 2 rfl) ?_
          refine lv_imul C0.x C0.b dX8_drift_89 ?_
          refine lv_iconst (v := 2) C0.x C0.b dX8_drift_90 (by decide) ?_
          refine lv_iadd C0.x C0.b dX8_drift_91 ?_
          refine r_lald C0 hw (lg_51 ad cI cJ X S15) hV.1 dX8_drift_92 ?_
          have hV := hV.2
          refine r_cS_v (As := [.ref (ad 59), .long (gA S15 32 (((3 : Int32) * v1) + (2 : Int32)).toNatClampNeg)]) (rest := []) C0 hw (c_X8_times (la_59 ad cI cJ X) hV) (va_cwS 2 C0.ts gX8_drift_X8_times rfl rfl rfl hd_X8_times ⟨Nat.le_of_ble_eq_true rfl, Nat.le_of_ble_eq_true rfl⟩) rfl hl.1 rfl (Nat.le_of_ble_eq_true rfl) ⟨Nat.zero_le _, Nat.zero_le _⟩ dX8_drift_93 (fun S17 H locs hV hw => ?_)
          obtain ⟨x18, ex18⟩ : ∃ z : Int32, z = v1 + 1 := ⟨_, rfl⟩
          have hV := hV x18 ex18
          refine lv_iinc (v := x18) (lv' := [(1, .int x18), (2, .long (gA S 32 ((3 : Int32) * v1).toNatClampNeg)), (0, .ref (ad 48))]) C0.x C0.b dX8_drift_96 hl (k := 2) rfl (by rw [ex18]; rfl) (by decide) rfl (fun ls hl => ?_)
          refine lv_goto (tgt := 34) C0.x C0.b dX8_drift_99 (by decide) ?_
          exact ih _ _ hV _ _ hw _ (lv_sub hl [2, 0] rfl)
        · have hV := hV.2 (fun h => c13 ((lc_ge _ _).mpr h))
          refine lv_lload_n C0.x C0.b dX8_drift_70 rfl (lv_at hl 0 rfl) ?_
          refine lv_lneg C0.x C0.b dX8_drift_71 ?_
          refine lv_goto (tgt := 76) C0.x C0.b dX8_drift_72 (by decide) ?_
          refine r_cS_v (As := [.ref (ad 58), .long (-(gA S 32 ((3 : Int32) * v1).toNatClampNeg))]) (rest := []) C0 hw (c_X8_times (la_58 ad cI cJ X) hV) (va_cwS 2 C0.ts gX8_drift_X8_times rfl rfl rfl hd_X8_times ⟨Nat.le_of_ble_eq_true rfl, Nat.le_of_ble_eq_true rfl⟩) rfl hl.1 rfl (Nat.le_of_ble_eq_true rfl) ⟨Nat.zero_le _, Nat.zero_le _⟩ dX8_drift_76 (fun S20 H locs hV hw => ?_)
          refine lv_aload_n C0.x C0.b dX8_drift_79 rfl (lv_at hl 1 rfl) ?_
          refine r_get C0 hw (C := RX8) (T := TX8) (N := 33) (v := .ref (ad 59)) iw_X8_drift_X8 (lg_48 ad cI cJ X S20) rfl 27 (by decide) (C0.ts _ fw_X8_drift_45) rfl dX8_drift_80 ?_
          refine lv_aload_n C0.x C0.b dX8_drift_83 rfl (lv_at hl 1 rfl) ?_
          refine r_get C0 hw (C := RX8) (T := TX8) (N := 33) (v := .ref (ad 51)) iw_X8_drift_X8 (lg_48 ad cI cJ X S20) rfl 9 (by decide) (C0.ts _ fw_X8_drift_20) rfl dX8_drift_84 ?_
          refine lv_iconst (v := 3) C0.x C0.b dX8_drift_87 (by decide) ?_
          refine lv_iload_n C0.x C0.b dX8_drift_88 rfl (lv_at hl 2 rfl) ?_
          refine lv_imul C0.x C0.b dX8_drift_89 ?_
          refine lv_iconst (v := 2) C0.x C0.b dX8_drift_90 (by decide) ?_
          refine lv_iadd C0.x C0.b dX8_drift_91 ?_
          refine r_lald C0 hw (lg_51 ad cI cJ X S20) hV.1 dX8_drift_92 ?_
          have hV := hV.2
          refine r_cS_v (As := [.ref (ad 59), .long (gA S20 32 (((3 : Int32) * v1) + (2 : Int32)).toNatClampNeg)]) (rest := []) C0 hw (c_X8_times (la_59 ad cI cJ X) hV) (va_cwS 2 C0.ts gX8_drift_X8_times rfl rfl rfl hd_X8_times ⟨Nat.le_of_ble_eq_true rfl, Nat.le_of_ble_eq_true rfl⟩) rfl hl.1 rfl (Nat.le_of_ble_eq_true rfl) ⟨Nat.zero_le _, Nat.zero_le _⟩ dX8_drift_93 (fun S22 H locs hV hw => ?_)
          obtain ⟨x23, ex23⟩ : ∃ z : Int32, z = v1 + 1 := ⟨_, rfl⟩
          have hV := hV x23 ex23
          refine lv_iinc (v := x23) (lv' := [(1, .int x23), (2, .long (gA S 32 ((3 : Int32) * v1).toNatClampNeg)), (0, .ref (ad 48))]) C0.x C0.b dX8_drift_96 hl (k := 2) rfl (by rw [ex23]; rfl) (by decide) rfl (fun ls hl => ?_)
          refine lv_goto (tgt := 34) C0.x C0.b dX8_drift_99 (by decide) ?_
          exact ih _ _ hV _ _ hw _ (lv_sub hl [2, 0] rfl)
      · have hV := hV.1 ((lc_eq _ _).mp c12)
        refine lv_bipush (v := -2) C0.x C0.b dX8_drift_57 (by decide) ?_
        exact r_iret C0 rfl hw hV dX8_drift_59
def V_X8_drift   (S : SS) (post : Int32 → SS → Prop) : Prop :=
  (∀ S1 : SS, S1 = (sI S 20 (0 : Int32)) → (((gI S1 25) = (1 : Int32) → (V_X8_set 37 26 (1 : Int64) S1 (fun (S4 : SS) => (V_X8_set 38 26 (1 : Int64) S4 (fun (S6 : SS) => (∃ n34 : Nat, V_X8_drift_34    post n34 (0 : Int32) S6)))))) ∧ (¬ (gI S1 25) = (1 : Int32) → (post (-2 : Int32) S1))))
set_option maxHeartbeats 4000000 in
set_option maxRecDepth 100000 in
theorem c_X8_drift  {S : SS}  {post : Int32 → SS → Prop} (hV : V_X8_drift   S post) : MI l yX8_drift wsX8_drift rm_X8_drift [.ref (ad 48)] D n0 ad cI cJ X S post := by
  refine Met.ofW (cc := cX8_drift) (maxL := 4) (ret := (some .int)) (by decide) rfl ?_
  intro p e s m args below meth c s₁ B hml hv
  obtain ⟨rfl, hv⟩ := hv
  have C0 := Bd.mk B hml (atoms_spec (ws := wsX8_drift) B.pre) (findClass_of_methodNamed B.named) hv.1
  have hw : Wh D n0 ad cI cJ X S s s.heap [] := ⟨hv.2.1, hv.2.2, va_S.rf⟩
  refine r_entry (Nat.le_of_ble_eq_true rfl) (fun ls hl => ?_)
  have hl : lv_has ls 4 [(0, .ref (ad 48))] := hl
  unfold V_X8_drift at hV
  refine lv_aload_n C0.x C0.b dX8_drift_0 rfl (lv_at hl 0 rfl) ?_
  refine lv_iconst (v := 0) C0.x C0.b dX8_drift_1 (by decide) ?_
  refine r_put C0 hw (C := RX8) (T := TX8) (N := 33) (ty := .int) iw_X8_drift_X8 tyX8 tyX8_ok nmX8 (lg_48 ad cI cJ X S) rfl 0 (by decide) (C0.ts _ fw_X8_drift_61) rfl (by decide +kernel) rfl rfl (Nat.le_of_ble_eq_true rfl) dX8_drift_2 (S' := (sI S 20 (0 : Int32))) (ls_48_0 ad cI cJ X S (0 : Int32)) (fun S1 H locs eS1 hw => ?_)
  have hV := hV S1 eS1
  refine lv_aload_n C0.x C0.b dX8_drift_5 rfl (lv_at hl 0 rfl) ?_
  refine r_get C0 hw (C := RX8) (T := TX8) (N := 33) (v := .int (gI S1 25)) iw_X8_drift_X8 (lg_48 ad cI cJ X S1) rfl 7 (by decide) (C0.ts _ fw_X8_drift_108) rfl dX8_drift_6 ?_
  refine lv_iconst (v := 1) C0.x C0.b dX8_drift_9 (by decide) ?_
  refine lv_icmp_eq (tgt := 16) C0.x C0.b dX8_drift_10 (by decide) (fun c2 => ?_) (fun c2 => ?_)
  · have hV := hV.1 c2
    refine lv_aload_n C0.x C0.b dX8_drift_16 rfl (lv_at hl 0 rfl) ?_
    refine r_get C0 hw (C := RX8) (T := TX8) (N := 33) (v := .ref (ad 58)) iw_X8_drift_X8 (lg_48 ad cI cJ X S1) rfl 26 (by decide) (C0.ts _ fw_X8_drift_42) rfl dX8_drift_17 ?_
    refine lv_lconst (v := 1) C0.x C0.b dX8_drift_20 (by decide) ?_
    refine r_cS_v (As := [.ref (ad 58), .long (1 : Int64)]) (rest := []) C0 hw (c_X8_set (la_58 ad cI cJ X) hV) (va_cwS 2 C0.ts gX8_drift_X8_set rfl rfl rfl hd_X8_set ⟨Nat.le_of_ble_eq_true rfl, Nat.le_of_ble_eq_true rfl⟩) rfl hl.1 rfl (Nat.le_of_ble_eq_true rfl) ⟨Nat.zero_le _, Nat.zero_le _⟩ dX8_drift_21 (fun S4 H locs hV hw => ?_)
    refine lv_aload_n C0.x C0.b dX8_drift_24 rfl (lv_at hl 0 rfl) ?_
    refine r_get C0 hw (C := RX8) (T := TX8) (N := 33) (v := .ref (ad 59)) iw_X8_drift_X8 (lg_48 ad cI cJ X S4) rfl 27 (by decide) (C0.ts _ fw_X8_drift_45) rfl dX8_drift_25 ?_
    refine lv_lconst (v := 1) C0.x C0.b dX8_drift_28 (by decide) ?_
    refine r_cS_v (As := [.ref (ad 59), .long (1 : Int64)]) (rest := []) C0 hw (c_X8_set (la_59 ad cI cJ X) hV) (va_cwS 2 C0.ts gX8_drift_X8_set rfl rfl rfl hd_X8_set ⟨Nat.le_of_ble_eq_true rfl, Nat.le_of_ble_eq_true rfl⟩) rfl hl.1 rfl (Nat.le_of_ble_eq_true rfl) ⟨Nat.zero_le _, Nat.zero_le _⟩ dX8_drift_29 (fun S6 H locs hV hw => ?_)
    refine lv_iconst (v := 0) C0.x C0.b dX8_drift_32 (by decide) ?_
    refine lv_istore_n (lv' := [(1, .int (0 : Int32)), (0, .ref (ad 48))]) C0.x C0.b dX8_drift_33 rfl hl (by decide) rfl (fun ls hl => ?_)
    obtain ⟨n34, hV⟩ := hV
    exact lp_X8_drift_34   post C0  n34 _ _ hV _ _ hw _ (lv_sub hl [1, 0] rfl)
  · have hV := hV.2 c2
    refine lv_bipush (v := -2) C0.x C0.b dX8_drift_13 (by decide) ?_
    exact r_iret C0 rfl hw hV dX8_drift_15
/-! StepBenchModel.fixed()I -/
abbrev rm_X8_fixed : Room := { frames := 2, cells := 0, slots := 0, locals := 47 }
set_option maxRecDepth 20000 in
theorem fw_X8_fixed_61 : Cond.fieldLink RX8 61 "StepBenchModel" "thrown" "I" ∈ wsX8_fixed := by decide +kernel
set_option maxRecDepth 20000 in
theorem iw_X8_fixed_X8 : ∀ w ∈ wsX80, w ∈ wsX8_fixed := by decide +kernel
set_option maxRecDepth 20000 in
theorem fw_X8_fixed_108 : Cond.fieldLink RX8 108 "StepBenchModel" "sort" "I" ∈ wsX8_fixed := by decide +kernel
set_option maxRecDepth 20000 in
theorem fw_X8_fixed_105 : Cond.fieldLink RX8 105 "StepBenchModel" "m" "I" ∈ wsX8_fixed := by decide +kernel
set_option maxRecDepth 20000 in
theorem fw_X8_fixed_20 : Cond.fieldLink RX8 20 "StepBenchModel" "rule" "[J" ∈ wsX8_fixed := by decide +kernel
set_option maxRecDepth 20000 in
theorem fw_X8_fixed_32 : Cond.fieldLink RX8 32 "StepBenchModel" "found" "[J" ∈ wsX8_fixed := by decide +kernel
set_option maxRecDepth 20000 in
theorem hd_X8_fixed : yX8_fixed.cls = RX8 ∧ yX8_fixed.cls ≠ "java/lang/invoke/MethodHandle" ∧ yX8_fixed.cls ≠ "java/lang/invoke/VarHandle" ∧ (parseMethodDescriptor yX8_fixed.desc).map (fun d => d.parameters.length) = some 0 := by decide +kernel
def V_X8_fixed_19    (post : Int32 → SS → Prop) : Nat → Int32 → Int32 → SS → Prop
  | 0, _, _, _ => False
  | n + 1, v1, v2, S =>
    (((gI S 26) ≤ v2 → (V_X8_ascend v1 S (fun (S5 : SS) => (V_X8_tells v1 S5 (fun (S7 : SS) => (post v1 S7)))))) ∧ (¬ (gI S 26) ≤ v2 → (vp_in (((3 : Int32) * v2) + (2 : Int32)) 192 ∧ (vp_in ((3 : Int32) * v2) 192 ∧ (∀ y8 : Int64, y8 = ((gA S 32 (((3 : Int32) * v2) + (2 : Int32)).toNatClampNeg) - (gA S 32 ((3 : Int32) * v2).toNatClampNeg)) → (vp_in (((3 : Int32) * v2) + (1 : Int32)) 192 ∧ ((y8 = (0 : Int64) → (∀ x10 : Int32, x10 = v2 + 1 → (V_X8_fixed_19    post n v1 x10 S))) ∧ (¬ y8 = (0 : Int64) → (¬ y8 = 0 ∧ (((lrm (gA S 32 (((3 : Int32) * v2) + (1 : Int32)).toNatClampNeg) y8) = (0 : Int64) → (¬ y8 = 0 ∧ (V_X8_restBy ((gA S 32 (((3 : Int32) * v2) + (1 : Int32)).toNatClampNeg) / y8) (gI S 26) S (fun (r12 : Int64) (S13 : SS) => ((r12 = v2.toInt64 → (¬ y8 = 0 ∧ (vp_in v1 20000 ∧ ∀ S15 : SS, S15 = (sA S13 36 (vp_updL (gA S13 36) v1.toNatClampNeg ((gA S 32 (((3 : Int32) * v2) + (1 : Int32)).toNatClampNeg) / y8))) → (∀ x16 : Int32, x16 = v1 + 1 → (∀ x17 : Int32, x17 = v2 + 1 → (V_X8_fixed_19    post n x16 x17 S15)))))) ∧ (¬ r12 = v2.toInt64 → (∀ x18 : Int32, x18 = v2 + 1 → (V_X8_fixed_19    post n v1 x18 S13)))))))) ∧ (¬ (lrm (gA S 32 (((3 : Int32) * v2) + (1 : Int32)).toNatClampNeg) y8) = (0 : Int64) → (∀ x19 : Int32, x19 = v2 + 1 → (V_X8_fixed_19    post n v1 x19 S)))))))))))))
set_option maxHeartbeats 4000000 in
set_option maxRecDepth 100000 in
theorem lp_X8_fixed_19    (post : Int32 → SS → Prop) (C0 : Bd p s m meth c args cX8_fixed 7 (some .int) wsX8_fixed RX8 D n0 cI cJ) : ∀ (n : Nat) (v1 : Int32) (v2 : Int32) (S : SS), V_X8_fixed_19    post n v1 v2 S → ∀ (H : Heap) (locs : List Loc), Wh D n0 ad cI cJ X S s H locs → ∀ ls : Array Slot, lv_has ls 7 [(0, .ref (ad 48)), (1, .int v1), (2, .int v2)] → W p l e rm_X8_fixed s m args below meth c H locs 0 0 (MQ below (va_Qi post (fun S' t => Wd D n0 ad cI cJ X S' t) (fr n0)) args s 0 0 (fr n0)) (F0 m 19 ls []) := by
  intro n
  induction n with
  | zero => intro v1 v2 S hV; exact False.elim hV
  | succ n ih =>
    intro v1 v2 S hV H locs hw ls hl
    rw [V_X8_fixed_19] at hV
    refine lv_iload_n C0.x C0.b dX8_fixed_19 rfl (lv_at hl 2 rfl) ?_
    refine lv_aload_n C0.x C0.b dX8_fixed_20 rfl (lv_at hl 0 rfl) ?_
    refine r_get C0 hw (C := RX8) (T := TX8) (N := 33) (v := .int (gI S 26)) iw_X8_fixed_X8 (lg_48 ad cI cJ X S) rfl 8 (by decide) (C0.ts _ fw_X8_fixed_105) rfl dX8_fixed_21 ?_
    refine lv_icmp_ge (tgt := 110) C0.x C0.b dX8_fixed_24 (by decide) (fun c3 => ?_) (fun c3 => ?_)
    · have hV := hV.1 c3
      refine lv_aload_n C0.x C0.b dX8_fixed_110 rfl (lv_at hl 0 rfl) ?_
      refine lv_iload_n C0.x C0.b dX8_fixed_111 rfl (lv_at hl 1 rfl) ?_
      refine r_cV_v (As := [.int v1]) (rest := []) C0 hw (c_X8_ascend  hV) (cwV 1 C0.ts gX8_fixed_X8_ascend rfl rfl rfl hd_X8_ascend ⟨Nat.le_of_ble_eq_true rfl, Nat.le_of_ble_eq_true rfl⟩) (lg_48 ad cI cJ X S) rfl rfl hl.1 rfl (Nat.le_of_ble_eq_true rfl) ⟨Nat.zero_le _, Nat.zero_le _⟩ dX8_fixed_112 (fun S5 H locs hV hw => ?_)
      refine lv_aload_n C0.x C0.b dX8_fixed_115 rfl (lv_at hl 0 rfl) ?_
      refine lv_iload_n C0.x C0.b dX8_fixed_116 rfl (lv_at hl 1 rfl) ?_
      refine r_cV_v (As := [.int v1]) (rest := []) C0 hw (c_X8_tells  hV) (cwV 1 C0.ts gX8_fixed_X8_tells rfl rfl rfl hd_X8_tells ⟨Nat.le_of_ble_eq_true rfl, Nat.le_of_ble_eq_true rfl⟩) (lg_48 ad cI cJ X S5) rfl rfl hl.1 rfl (Nat.le_of_ble_eq_true rfl) ⟨Nat.zero_le _, Nat.zero_le _⟩ dX8_fixed_117 (fun S7 H locs hV hw => ?_)
      refine lv_iload_n C0.x C0.b dX8_fixed_120 rfl (lv_at hl 1 rfl) ?_
      exact r_iret C0 rfl hw hV dX8_fixed_121
    · have hV := hV.2 c3
      refine lv_aload_n C0.x C0.b dX8_fixed_27 rfl (lv_at hl 0 rfl) ?_
      refine r_get C0 hw (C := RX8) (T := TX8) (N := 33) (v := .ref (ad 51)) iw_X8_fixed_X8 (lg_48 ad cI cJ X S) rfl 9 (by decide) (C0.ts _ fw_X8_fixed_20) rfl dX8_fixed_28 ?_
      refine lv_iconst (v := 3) C0.x C0.b dX8_fixed_31 (by decide) ?_
      refine lv_iload_n C0.x C0.b dX8_fixed_32 rfl (lv_at hl 2 rfl) ?_
      refine lv_imul C0.x C0.b dX8_fixed_33 ?_
      refine lv_iconst (v := 2) C0.x C0.b dX8_fixed_34 (by decide) ?_
      refine lv_iadd C0.x C0.b dX8_fixed_35 ?_
      refine r_lald C0 hw (lg_51 ad cI cJ X S) hV.1 dX8_fixed_36 ?_
      have hV := hV.2
      refine lv_aload_n C0.x C0.b dX8_fixed_37 rfl (lv_at hl 0 rfl) ?_
      refine r_get C0 hw (C := RX8) (T := TX8) (N := 33) (v := .ref (ad 51)) iw_X8_fixed_X8 (lg_48 ad cI cJ X S) rfl 9 (by decide) (C0.ts _ fw_X8_fixed_20) rfl dX8_fixed_38 ?_
      refine lv_iconst (v := 3) C0.x C0.b dX8_fixed_41 (by decide) ?_
      refine lv_iload_n C0.x C0.b dX8_fixed_42 rfl (lv_at hl 2 rfl) ?_
      refine lv_imul C0.x C0.b dX8_fixed_43 ?_
      refine r_lald C0 hw (lg_51 ad cI cJ X S) hV.1 dX8_fixed_44 ?_
      have hV := hV.2
      refine lv_lsub C0.x C0.b dX8_fixed_45 ?_
      refine lv_topl (fun y8 ey8 => ?_)
      have hV := hV y8 ey8
      refine lv_lstore_n (lv' := [(3, .long y8), (0, .ref (ad 48)), (1, .int v1), (2, .int v2)]) C0.x C0.b dX8_fixed_46 rfl hl (by decide) rfl (fun ls hl => ?_)
      refine lv_aload_n C0.x C0.b dX8_fixed_47 rfl (lv_at hl 1 rfl) ?_
      refine r_get C0 hw (C := RX8) (T := TX8) (N := 33) (v := .ref (ad 51)) iw_X8_fixed_X8 (lg_48 ad cI cJ X S) rfl 9 (by decide) (C0.ts _ fw_X8_fixed_20) rfl dX8_fixed_48 ?_
      refine lv_iconst (v := 3) C0.x C0.b dX8_fixed_51 (by decide) ?_
      refine lv_iload_n C0.x C0.b dX8_fixed_52 rfl (lv_at hl 3 rfl) ?_
      refine lv_imul C0.x C0.b dX8_fixed_53 ?_
      refine lv_iconst (v := 1) C0.x C0.b dX8_fixed_54 (by decide) ?_
      refine lv_iadd C0.x C0.b dX8_fixed_55 ?_
      refine r_lald C0 hw (lg_51 ad cI cJ X S) hV.1 dX8_fixed_56 ?_
      have hV := hV.2
      refine lv_lstore (lv' := [(5, .long (gA S 32 (((3 : Int32) * v2) + (1 : Int32)).toNatClampNeg)), (3, .long y8), (0, .ref (ad 48)), (1, .int v1), (2, .int v2)]) C0.x C0.b dX8_fixed_57 hl (by decide) rfl (fun ls hl => ?_)
      refine lv_lload_n C0.x C0.b dX8_fixed_59 rfl (lv_at hl 1 rfl) ?_
      refine lv_lconst (v := 0) C0.x C0.b dX8_fixed_60 (by decide) ?_
      refine r_lcmp C0 dX8_fixed_61 ?_
      refine lv_if_eq (tgt := 104) C0.x C0.b dX8_fixed_62 (by decide) (fun c9 => ?_) (fun c9 => ?_)
      · have hV := hV.1 ((lc_eq _ _).mp c9)
        obtain ⟨x10, ex10⟩ : ∃ z : Int32, z = v2 + 1 := ⟨_, rfl⟩
        have hV := hV x10 ex10
        refine lv_iinc (v := x10) (lv' := [(2, .int x10), (5, .long (gA S 32 (((3 : Int32) * v2) + (1 : Int32)).toNatClampNeg)), (3, .long y8), (0, .ref (ad 48)), (1, .int v1)]) C0.x C0.b dX8_fixed_104 hl (k := 4) rfl (by rw [ex10]; rfl) (by decide) rfl (fun ls hl => ?_)
        refine lv_goto (tgt := 19) C0.x C0.b dX8_fixed_107 (by decide) ?_
        exact ih _ _ _ hV _ _ hw _ (lv_sub hl [3, 4, 0] rfl)
      · have hV := hV.2 (fun h => c9 ((lc_eq _ _).mpr h))
        refine lv_lload C0.x C0.b dX8_fixed_65 (lv_at hl 0 rfl) ?_
        refine lv_lload_n C0.x C0.b dX8_fixed_67 rfl (lv_at hl 1 rfl) ?_
        refine lv_lrem C0.x C0.b dX8_fixed_68 hV.1 ?_
        have hV := hV.2
        refine lv_lconst (v := 0) C0.x C0.b dX8_fixed_69 (by decide) ?_
        refine r_lcmp C0 dX8_fixed_70 ?_
        refine lv_if_ne (tgt := 104) C0.x C0.b dX8_fixed_71 (by decide) (fun c11 => ?_) (fun c11 => ?_)
        · have hV := hV.2 (fun h => c11 ((lc_eq _ _).mpr h))
          obtain ⟨x19, ex19⟩ : ∃ z : Int32, z = v2 + 1 := ⟨_, rfl⟩
          have hV := hV x19 ex19
          refine lv_iinc (v := x19) (lv' := [(2, .int x19), (5, .long (gA S 32 (((3 : Int32) * v2) + (1 : Int32)).toNatClampNeg)), (3, .long y8), (0, .ref (ad 48)), (1, .int v1)]) C0.x C0.b dX8_fixed_104 hl (k := 4) rfl (by rw [ex19]; rfl) (by decide) rfl (fun ls hl => ?_)
          refine lv_goto (tgt := 19) C0.x C0.b dX8_fixed_107 (by decide) ?_
          exact ih _ _ _ hV _ _ hw _ (lv_sub hl [3, 4, 0] rfl)
        · have hV := hV.1 ((lc_eq _ _).mp c11)
          refine lv_lload C0.x C0.b dX8_fixed_74 (lv_at hl 0 rfl) ?_
          refine lv_lload_n C0.x C0.b dX8_fixed_76 rfl (lv_at hl 1 rfl) ?_
          refine lv_ldiv C0.x C0.b dX8_fixed_77 hV.1 ?_
          have hV := hV.2
          refine lv_aload_n C0.x C0.b dX8_fixed_78 rfl (lv_at hl 2 rfl) ?_
          refine r_get C0 hw (C := RX8) (T := TX8) (N := 33) (v := .int (gI S 26)) iw_X8_fixed_X8 (lg_48 ad cI cJ X S) rfl 8 (by decide) (C0.ts _ fw_X8_fixed_105) rfl dX8_fixed_79 ?_
          refine r_cS_l (As := [.long ((gA S 32 (((3 : Int32) * v2) + (1 : Int32)).toNatClampNeg) / y8), .int (gI S 26)]) (rest := []) C0 hw (c_X8_restBy  hV) (va_cwS 2 C0.ts gX8_fixed_X8_restBy rfl rfl rfl hd_X8_restBy ⟨Nat.le_of_ble_eq_true rfl, Nat.le_of_ble_eq_true rfl⟩) rfl hl.1 rfl (Nat.le_of_ble_eq_true rfl) ⟨Nat.zero_le _, Nat.zero_le _⟩ dX8_fixed_82 (fun r12 S13 H locs hV hw => ?_)
          refine lv_iload_n C0.x C0.b dX8_fixed_85 rfl (lv_at hl 4 rfl) ?_
          refine lv_i2l C0.x C0.b dX8_fixed_86 rfl ?_
          refine r_lcmp C0 dX8_fixed_87 ?_
          refine lv_if_ne (tgt := 104) C0.x C0.b dX8_fixed_88 (by decide) (fun c14 => ?_) (fun c14 => ?_)
          · have hV := hV.2 (fun h => c14 ((lc_eq _ _).mpr h))
            obtain ⟨x18, ex18⟩ : ∃ z : Int32, z = v2 + 1 := ⟨_, rfl⟩
            have hV := hV x18 ex18
            refine lv_iinc (v := x18) (lv' := [(2, .int x18), (5, .long (gA S 32 (((3 : Int32) * v2) + (1 : Int32)).toNatClampNeg)), (3, .long y8), (0, .ref (ad 48)), (1, .int v1)]) C0.x C0.b dX8_fixed_104 hl (k := 4) rfl (by rw [ex18]; rfl) (by decide) rfl (fun ls hl => ?_)
            refine lv_goto (tgt := 19) C0.x C0.b dX8_fixed_107 (by decide) ?_
            exact ih _ _ _ hV _ _ hw _ (lv_sub hl [3, 4, 0] rfl)
          · have hV := hV.1 ((lc_eq _ _).mp c14)
            refine lv_aload_n C0.x C0.b dX8_fixed_91 rfl (lv_at hl 2 rfl) ?_
            refine r_get C0 hw (C := RX8) (T := TX8) (N := 33) (v := .ref (ad 55)) iw_X8_fixed_X8 (lg_48 ad cI cJ X S13) rfl 16 (by decide) (C0.ts _ fw_X8_fixed_32) rfl dX8_fixed_92 ?_
            refine lv_iload_n C0.x C0.b dX8_fixed_95 rfl (lv_at hl 3 rfl) ?_
            refine lv_lload C0.x C0.b dX8_fixed_96 (lv_at hl 0 rfl) ?_
            refine lv_lload_n C0.x C0.b dX8_fixed_98 rfl (lv_at hl 1 rfl) ?_
            refine lv_ldiv C0.x C0.b dX8_fixed_99 hV.1 ?_
            have hV := hV.2
            refine r_last C0 hw (lg_55 ad cI cJ X S13) hV.1 dX8_fixed_100 (S' := (sA S13 36 (vp_updL (gA S13 36) v1.toNatClampNeg ((gA S 32 (((3 : Int32) * v2) + (1 : Int32)).toNatClampNeg) / y8)))) (ls_55 ad cI cJ X S13 (vp_updL (gA S13 36) v1.toNatClampNeg ((gA S 32 (((3 : Int32) * v2) + (1 : Int32)).toNatClampNeg) / y8))) (fun S15 H locs eS15 hw => ?_)
            have hV := hV.2 S15 eS15
            obtain ⟨x16, ex16⟩ : ∃ z : Int32, z = v1 + 1 := ⟨_, rfl⟩
            have hV := hV x16 ex16
            refine lv_iinc (v := x16) (lv' := [(1, .int x16), (5, .long (gA S 32 (((3 : Int32) * v2) + (1 : Int32)).toNatClampNeg)), (3, .long y8), (0, .ref (ad 48)), (2, .int v2)]) C0.x C0.b dX8_fixed_101 hl (k := 3) rfl (by rw [ex16]; rfl) (by decide) rfl (fun ls hl => ?_)
            obtain ⟨x17, ex17⟩ : ∃ z : Int32, z = v2 + 1 := ⟨_, rfl⟩
            have hV := hV x17 ex17
            refine lv_iinc (v := x17) (lv' := [(2, .int x17), (1, .int x16), (5, .long (gA S 32 (((3 : Int32) * v2) + (1 : Int32)).toNatClampNeg)), (3, .long y8), (0, .ref (ad 48))]) C0.x C0.b dX8_fixed_104 hl (k := 4) rfl (by rw [ex17]; rfl) (by decide) rfl (fun ls hl => ?_)
            refine lv_goto (tgt := 19) C0.x C0.b dX8_fixed_107 (by decide) ?_
            exact ih _ _ _ hV _ _ hw _ (lv_sub hl [4, 1, 0] rfl)
def V_X8_fixed   (S : SS) (post : Int32 → SS → Prop) : Prop :=
  (∀ S1 : SS, S1 = (sI S 20 (0 : Int32)) → (((gI S1 25) = (1 : Int32) → (∃ n19 : Nat, V_X8_fixed_19    post n19 (0 : Int32) (0 : Int32) S1)) ∧ (¬ (gI S1 25) = (1 : Int32) → (post (-1 : Int32) S1))))
set_option maxHeartbeats 4000000 in
set_option maxRecDepth 100000 in
theorem c_X8_fixed  {S : SS}  {post : Int32 → SS → Prop} (hV : V_X8_fixed   S post) : MI l yX8_fixed wsX8_fixed rm_X8_fixed [.ref (ad 48)] D n0 ad cI cJ X S post := by
  refine Met.ofW (cc := cX8_fixed) (maxL := 7) (ret := (some .int)) (by decide) rfl ?_
  intro p e s m args below meth c s₁ B hml hv
  obtain ⟨rfl, hv⟩ := hv
  have C0 := Bd.mk B hml (atoms_spec (ws := wsX8_fixed) B.pre) (findClass_of_methodNamed B.named) hv.1
  have hw : Wh D n0 ad cI cJ X S s s.heap [] := ⟨hv.2.1, hv.2.2, va_S.rf⟩
  refine r_entry (Nat.le_of_ble_eq_true rfl) (fun ls hl => ?_)
  have hl : lv_has ls 7 [(0, .ref (ad 48))] := hl
  unfold V_X8_fixed at hV
  refine lv_aload_n C0.x C0.b dX8_fixed_0 rfl (lv_at hl 0 rfl) ?_
  refine lv_iconst (v := 0) C0.x C0.b dX8_fixed_1 (by decide) ?_
  refine r_put C0 hw (C := RX8) (T := TX8) (N := 33) (ty := .int) iw_X8_fixed_X8 tyX8 tyX8_ok nmX8 (lg_48 ad cI cJ X S) rfl 0 (by decide) (C0.ts _ fw_X8_fixed_61) rfl (by decide +kernel) rfl rfl (Nat.le_of_ble_eq_true rfl) dX8_fixed_2 (S' := (sI S 20 (0 : Int32))) (ls_48_0 ad cI cJ X S (0 : Int32)) (fun S1 H locs eS1 hw => ?_)
  have hV := hV S1 eS1
  refine lv_aload_n C0.x C0.b dX8_fixed_5 rfl (lv_at hl 0 rfl) ?_
  refine r_get C0 hw (C := RX8) (T := TX8) (N := 33) (v := .int (gI S1 25)) iw_X8_fixed_X8 (lg_48 ad cI cJ X S1) rfl 7 (by decide) (C0.ts _ fw_X8_fixed_108) rfl dX8_fixed_6 ?_
  refine lv_iconst (v := 1) C0.x C0.b dX8_fixed_9 (by decide) ?_
  refine lv_icmp_eq (tgt := 15) C0.x C0.b dX8_fixed_10 (by decide) (fun c2 => ?_) (fun c2 => ?_)
  · have hV := hV.1 c2
    refine lv_iconst (v := 0) C0.x C0.b dX8_fixed_15 (by decide) ?_
    refine lv_istore_n (lv' := [(1, .int (0 : Int32)), (0, .ref (ad 48))]) C0.x C0.b dX8_fixed_16 rfl hl (by decide) rfl (fun ls hl => ?_)
    refine lv_iconst (v := 0) C0.x C0.b dX8_fixed_17 (by decide) ?_
    refine lv_istore_n (lv' := [(2, .int (0 : Int32)), (1, .int (0 : Int32)), (0, .ref (ad 48))]) C0.x C0.b dX8_fixed_18 rfl hl (by decide) rfl (fun ls hl => ?_)
    obtain ⟨n19, hV⟩ := hV
    exact lp_X8_fixed_19   post C0  n19 _ _ _ hV _ _ hw _ (lv_sub hl [2, 1, 0] rfl)
  · have hV := hV.2 c2
    refine lv_iconst (v := -1) C0.x C0.b dX8_fixed_13 (by decide) ?_
    exact r_iret C0 rfl hw hV dX8_fixed_14
/-! StepBenchModel.act(IIII)I -/
abbrev rm_X8_act : Room := { frames := 1, cells := 0, slots := 0, locals := 25 }
set_option maxRecDepth 20000 in
theorem fw_X8_act_61 : Cond.fieldLink RX8 61 "StepBenchModel" "thrown" "I" ∈ wsX8_act := by decide +kernel
set_option maxRecDepth 20000 in
theorem iw_X8_act_X8 : ∀ w ∈ wsX80, w ∈ wsX8_act := by decide +kernel
set_option maxRecDepth 20000 in
theorem cw_X8_act_72 : Cond.constantLong RX8 72 2 ∈ wsX8_act := by decide +kernel
set_option maxRecDepth 20000 in
theorem cw_X8_act_247 : Cond.constantLong RX8 247 11 ∈ wsX8_act := by decide +kernel
set_option maxRecDepth 20000 in
theorem fw_X8_act_130 : Cond.fieldLink RX8 130 "StepBenchModel" "acts" "I" ∈ wsX8_act := by decide +kernel
set_option maxRecDepth 20000 in
theorem fw_X8_act_58 : Cond.fieldLink RX8 58 "StepBenchModel" "act" "[I" ∈ wsX8_act := by decide +kernel
set_option maxRecDepth 20000 in
theorem cw_X8_act_83 : Cond.constantLong RX8 83 3 ∈ wsX8_act := by decide +kernel
set_option maxRecDepth 20000 in
theorem hd_X8_act : yX8_act.cls = RX8 ∧ yX8_act.cls ≠ "java/lang/invoke/MethodHandle" ∧ yX8_act.cls ≠ "java/lang/invoke/VarHandle" ∧ (parseMethodDescriptor yX8_act.desc).map (fun d => d.parameters.length) = some 4 := by decide +kernel
def V_X8_act  (p0 : Int32) (p1 : Int32) (p2 : Int32) (p3 : Int32) (S : SS) (post : Int32 → SS → Prop) : Prop :=
  (∀ S1 : SS, S1 = (sI S 20 (0 : Int32)) → (V_X8_in p0.toInt64 (0 : Int64) (2 : Int64) S1 (fun (r2 : Int32) (S3 : SS) => ((r2 = 0 → (post (-1 : Int32) S3)) ∧ (¬ r2 = 0 → ((p0 = (2 : Int32) → ((p0 = (1 : Int32) → (V_X8_in p3.toInt64 (0 : Int64) (11 : Int64) S3 (fun (r8 : Int32) (S9 : SS) => ((r8 = 0 → (post (-1 : Int32) S9)) ∧ (¬ r8 = 0 → (((12 : Int32) ≤ (gI S9 31) → (post (-1 : Int32) S9)) ∧ (¬ (12 : Int32) ≤ (gI S9 31) → (vp_in ((4 : Int32) * (gI S9 31)) 48 ∧ ∀ S15 : SS, S15 = (sB S9 3 (upd (gB S9 3) ((4 : Int32) * (gI S9 31)).toNatClampNeg p0)) → (vp_in (((4 : Int32) * (gI S15 31)) + (1 : Int32)) 48 ∧ ∀ S16 : SS, S16 = (sB S15 3 (upd (gB S15 3) (((4 : Int32) * (gI S15 31)) + (1 : Int32)).toNatClampNeg p1)) → (vp_in (((4 : Int32) * (gI S16 31)) + (2 : Int32)) 48 ∧ ∀ S17 : SS, S17 = (sB S16 3 (upd (gB S16 3) (((4 : Int32) * (gI S16 31)) + (2 : Int32)).toNatClampNeg p2)) → (vp_in (((4 : Int32) * (gI S17 31)) + (3 : Int32)) 48 ∧ ∀ S18 : SS, S18 = (sB S17 3 (upd (gB S17 3) (((4 : Int32) * (gI S17 31)) + (3 : Int32)).toNatClampNeg p3)) → (∀ S19 : SS, S19 = (sI S18 31 ((gI S18 31) + (1 : Int32))) → (post ((gI S19 31) - (1 : Int32)) S19))))))))))))) ∧ (¬ p0 = (1 : Int32) → (((12 : Int32) ≤ (gI S3 31) → (post (-1 : Int32) S3)) ∧ (¬ (12 : Int32) ≤ (gI S3 31) → (vp_in ((4 : Int32) * (gI S3 31)) 48 ∧ ∀ S23 : SS, S23 = (sB S3 3 (upd (gB S3 3) ((4 : Int32) * (gI S3 31)).toNatClampNeg p0)) → (vp_in (((4 : Int32) * (gI S23 31)) + (1 : Int32)) 48 ∧ ∀ S24 : SS, S24 = (sB S23 3 (upd (gB S23 3) (((4 : Int32) * (gI S23 31)) + (1 : Int32)).toNatClampNeg p1)) → (vp_in (((4 : Int32) * (gI S24 31)) + (2 : Int32)) 48 ∧ ∀ S25 : SS, S25 = (sB S24 3 (upd (gB S24 3) (((4 : Int32) * (gI S24 31)) + (2 : Int32)).toNatClampNeg p2)) → (vp_in (((4 : Int32) * (gI S25 31)) + (3 : Int32)) 48 ∧ ∀ S26 : SS, S26 = (sB S25 3 (upd (gB S25 3) (((4 : Int32) * (gI S25 31)) + (3 : Int32)).toNatClampNeg p3)) → (∀ S27 : SS, S27 = (sI S26 31 ((gI S26 31) + (1 : Int32))) → (post ((gI S27 31) - (1 : Int32)) S27))))))))))) ∧ (¬ p0 = (2 : Int32) → (V_X8_in p1.toInt64 (0 : Int64) (3 : Int64) S3 (fun (r28 : Int32) (S29 : SS) => ((r28 = 0 → (post (-1 : Int32) S29)) ∧ (¬ r28 = 0 → (V_X8_in p2.toInt64 (0 : Int64) (11 : Int64) S29 (fun (r32 : Int32) (S33 : SS) => ((r32 = 0 → (post (-1 : Int32) S33)) ∧ (¬ r32 = 0 → ((p0 = (1 : Int32) → (V_X8_in p3.toInt64 (0 : Int64) (11 : Int64) S33 (fun (r37 : Int32) (S38 : SS) => ((r37 = 0 → (post (-1 : Int32) S38)) ∧ (¬ r37 = 0 → (((12 : Int32) ≤ (gI S38 31) → (post (-1 : Int32) S38)) ∧ (¬ (12 : Int32) ≤ (gI S38 31) → (vp_in ((4 : Int32) * (gI S38 31)) 48 ∧ ∀ S44 : SS, S44 = (sB S38 3 (upd (gB S38 3) ((4 : Int32) * (gI S38 31)).toNatClampNeg p0)) → (vp_in (((4 : Int32) * (gI S44 31)) + (1 : Int32)) 48 ∧ ∀ S45 : SS, S45 = (sB S44 3 (upd (gB S44 3) (((4 : Int32) * (gI S44 31)) + (1 : Int32)).toNatClampNeg p1)) → (vp_in (((4 : Int32) * (gI S45 31)) + (2 : Int32)) 48 ∧ ∀ S46 : SS, S46 = (sB S45 3 (upd (gB S45 3) (((4 : Int32) * (gI S45 31)) + (2 : Int32)).toNatClampNeg p2)) → (vp_in (((4 : Int32) * (gI S46 31)) + (3 : Int32)) 48 ∧ ∀ S47 : SS, S47 = (sB S46 3 (upd (gB S46 3) (((4 : Int32) * (gI S46 31)) + (3 : Int32)).toNatClampNeg p3)) → (∀ S48 : SS, S48 = (sI S47 31 ((gI S47 31) + (1 : Int32))) → (post ((gI S48 31) - (1 : Int32)) S48))))))))))))) ∧ (¬ p0 = (1 : Int32) → (((12 : Int32) ≤ (gI S33 31) → (post (-1 : Int32) S33)) ∧ (¬ (12 : Int32) ≤ (gI S33 31) → (vp_in ((4 : Int32) * (gI S33 31)) 48 ∧ ∀ S52 : SS, S52 = (sB S33 3 (upd (gB S33 3) ((4 : Int32) * (gI S33 31)).toNatClampNeg p0)) → (vp_in (((4 : Int32) * (gI S52 31)) + (1 : Int32)) 48 ∧ ∀ S53 : SS, S53 = (sB S52 3 (upd (gB S52 3) (((4 : Int32) * (gI S52 31)) + (1 : Int32)).toNatClampNeg p1)) → (vp_in (((4 : Int32) * (gI S53 31)) + (2 : Int32)) 48 ∧ ∀ S54 : SS, S54 = (sB S53 3 (upd (gB S53 3) (((4 : Int32) * (gI S53 31)) + (2 : Int32)).toNatClampNeg p2)) → (vp_in (((4 : Int32) * (gI S54 31)) + (3 : Int32)) 48 ∧ ∀ S55 : SS, S55 = (sB S54 3 (upd (gB S54 3) (((4 : Int32) * (gI S54 31)) + (3 : Int32)).toNatClampNeg p3)) → (∀ S56 : SS, S56 = (sI S55 31 ((gI S55 31) + (1 : Int32))) → (post ((gI S56 31) - (1 : Int32)) S56)))))))))))))))))))))))))
set_option maxHeartbeats 4000000 in
set_option maxRecDepth 100000 in
theorem c_X8_act  {S : SS} {p0 : Int32} {p1 : Int32} {p2 : Int32} {p3 : Int32} {post : Int32 → SS → Prop} (hV : V_X8_act  p0 p1 p2 p3 S post) : MI l yX8_act wsX8_act rm_X8_act [.ref (ad 48), .int p0, .int p1, .int p2, .int p3] D n0 ad cI cJ X S post := by
  refine Met.ofW (cc := cX8_act) (maxL := 6) (ret := (some .int)) (by decide) rfl ?_
  intro p e s m args below meth c s₁ B hml hv
  obtain ⟨rfl, hv⟩ := hv
  have C0 := Bd.mk B hml (atoms_spec (ws := wsX8_act) B.pre) (findClass_of_methodNamed B.named) hv.1
  have hw : Wh D n0 ad cI cJ X S s s.heap [] := ⟨hv.2.1, hv.2.2, va_S.rf⟩
  refine r_entry (Nat.le_of_ble_eq_true rfl) (fun ls hl => ?_)
  have hl : lv_has ls 6 [(0, .ref (ad 48)), (1, .int p0), (2, .int p1), (3, .int p2), (4, .int p3)] := hl
  unfold V_X8_act at hV
  refine lv_aload_n C0.x C0.b dX8_act_0 rfl (lv_at hl 0 rfl) ?_
  refine lv_iconst (v := 0) C0.x C0.b dX8_act_1 (by decide) ?_
  refine r_put C0 hw (C := RX8) (T := TX8) (N := 33) (ty := .int) iw_X8_act_X8 tyX8 tyX8_ok nmX8 (lg_48 ad cI cJ X S) rfl 0 (by decide) (C0.ts _ fw_X8_act_61) rfl (by decide +kernel) rfl rfl (Nat.le_of_ble_eq_true rfl) dX8_act_2 (S' := (sI S 20 (0 : Int32))) (ls_48_0 ad cI cJ X S (0 : Int32)) (fun S1 H locs eS1 hw => ?_)
  have hV := hV S1 eS1
  refine lv_iload_n C0.x C0.b dX8_act_5 rfl (lv_at hl 1 rfl) ?_
  refine lv_i2l C0.x C0.b dX8_act_6 rfl ?_
  refine lv_lconst (v := 0) C0.x C0.b dX8_act_7 (by decide) ?_
  refine lv_ldc2 (v := 2) C0.x C0.b C0.ow (C0.ts _ cw_X8_act_72) dX8_act_8 ?_
  refine r_cS_i (As := [.long p0.toInt64, .long (0 : Int64), .long (2 : Int64)]) (rest := []) C0 hw (c_X8_in  hV) (va_cwS 3 C0.ts gX8_act_X8_in rfl rfl rfl hd_X8_in ⟨Nat.le_of_ble_eq_true rfl, Nat.le_of_ble_eq_true rfl⟩) rfl hl.1 rfl (Nat.le_of_ble_eq_true rfl) ⟨Nat.zero_le _, Nat.zero_le _⟩ dX8_act_11 (fun r2 S3 H locs hV hw => ?_)
  refine lv_if_eq (tgt := 77) C0.x C0.b dX8_act_14 (by decide) (fun c4 => ?_) (fun c4 => ?_)
  · have hV := hV.1 c4
    refine lv_iconst (v := 0) C0.x C0.b dX8_act_77 (by decide) ?_
    refine lv_istore (lv' := [(5, .int (0 : Int32)), (0, .ref (ad 48)), (1, .int p0), (2, .int p1), (3, .int p2), (4, .int p3)]) C0.x C0.b dX8_act_78 hl (by decide) rfl (fun ls hl => ?_)
    refine lv_iload C0.x C0.b dX8_act_80 (lv_at hl 0 rfl) ?_
    refine lv_if_ne (tgt := 87) C0.x C0.b dX8_act_82 (by decide) (fun c5 => absurd (by decide) c5) (fun c5 => ?_)
    refine lv_iconst (v := -1) C0.x C0.b dX8_act_85 (by decide) ?_
    exact r_iret C0 rfl hw hV dX8_act_86
  · have hV := hV.2 c4
    refine lv_iload_n C0.x C0.b dX8_act_17 rfl (lv_at hl 1 rfl) ?_
    refine lv_iconst (v := 2) C0.x C0.b dX8_act_18 (by decide) ?_
    refine lv_icmp_eq (tgt := 46) C0.x C0.b dX8_act_19 (by decide) (fun c6 => ?_) (fun c6 => ?_)
    · have hV := hV.1 c6
      refine lv_iload_n C0.x C0.b dX8_act_46 rfl (lv_at hl 1 rfl) ?_
      refine lv_iconst (v := 1) C0.x C0.b dX8_act_47 (by decide) ?_
      refine lv_icmp_ne (tgt := 64) C0.x C0.b dX8_act_48 (by decide) (fun c7 => ?_) (fun c7 => ?_)
      · have hV := hV.2 c7
        refine lv_aload_n C0.x C0.b dX8_act_64 rfl (lv_at hl 0 rfl) ?_
        refine r_get C0 hw (C := RX8) (T := TX8) (N := 33) (v := .int (gI S3 31)) iw_X8_act_X8 (lg_48 ad cI cJ X S3) rfl 31 (by decide) (C0.ts _ fw_X8_act_130) rfl dX8_act_65 ?_
        refine lv_bipush (v := 12) C0.x C0.b dX8_act_68 (by decide) ?_
        refine lv_icmp_ge (tgt := 77) C0.x C0.b dX8_act_70 (by decide) (fun c20 => ?_) (fun c20 => ?_)
        · have hV := hV.1 c20
          refine lv_iconst (v := 0) C0.x C0.b dX8_act_77 (by decide) ?_
          refine lv_istore (lv' := [(5, .int (0 : Int32)), (0, .ref (ad 48)), (1, .int p0), (2, .int p1), (3, .int p2), (4, .int p3)]) C0.x C0.b dX8_act_78 hl (by decide) rfl (fun ls hl => ?_)
          refine lv_iload C0.x C0.b dX8_act_80 (lv_at hl 0 rfl) ?_
          refine lv_if_ne (tgt := 87) C0.x C0.b dX8_act_82 (by decide) (fun c21 => absurd (by decide) c21) (fun c21 => ?_)
          refine lv_iconst (v := -1) C0.x C0.b dX8_act_85 (by decide) ?_
          exact r_iret C0 rfl hw hV dX8_act_86
        · have hV := hV.2 c20
          refine lv_iconst (v := 1) C0.x C0.b dX8_act_73 (by decide) ?_
          refine lv_goto (tgt := 78) C0.x C0.b dX8_act_74 (by decide) ?_
          refine lv_istore (lv' := [(5, .int (1 : Int32)), (0, .ref (ad 48)), (1, .int p0), (2, .int p1), (3, .int p2), (4, .int p3)]) C0.x C0.b dX8_act_78 hl (by decide) rfl (fun ls hl => ?_)
          refine lv_iload C0.x C0.b dX8_act_80 (lv_at hl 0 rfl) ?_
          refine lv_if_ne (tgt := 87) C0.x C0.b dX8_act_82 (by decide) (fun c22 => ?_) (fun c22 => absurd c22 (by decide))
          refine lv_aload_n C0.x C0.b dX8_act_87 rfl (lv_at hl 1 rfl) ?_
          refine r_get C0 hw (C := RX8) (T := TX8) (N := 33) (v := .ref (ad 63)) iw_X8_act_X8 (lg_48 ad cI cJ X S3) rfl 32 (by decide) (C0.ts _ fw_X8_act_58) rfl dX8_act_88 ?_
          refine lv_iconst (v := 4) C0.x C0.b dX8_act_91 (by decide) ?_
          refine lv_aload_n C0.x C0.b dX8_act_92 rfl (lv_at hl 1 rfl) ?_
          refine r_get C0 hw (C := RX8) (T := TX8) (N := 33) (v := .int (gI S3 31)) iw_X8_act_X8 (lg_48 ad cI cJ X S3) rfl 31 (by decide) (C0.ts _ fw_X8_act_130) rfl dX8_act_93 ?_
          refine lv_imul C0.x C0.b dX8_act_96 ?_
          refine lv_iload_n C0.x C0.b dX8_act_97 rfl (lv_at hl 2 rfl) ?_
          refine r_iast C0 hw (lg_63 ad cI cJ X S3) hV.1 dX8_act_98 (S' := (sB S3 3 (upd (gB S3 3) ((4 : Int32) * (gI S3 31)).toNatClampNeg p0))) (ls_63 ad cI cJ X S3 (upd (gB S3 3) ((4 : Int32) * (gI S3 31)).toNatClampNeg p0)) (fun S23 H locs eS23 hw => ?_)
          have hV := hV.2 S23 eS23
          refine lv_aload_n C0.x C0.b dX8_act_99 rfl (lv_at hl 1 rfl) ?_
          refine r_get C0 hw (C := RX8) (T := TX8) (N := 33) (v := .ref (ad 63)) iw_X8_act_X8 (lg_48 ad cI cJ X S23) rfl 32 (by decide) (C0.ts _ fw_X8_act_58) rfl dX8_act_100 ?_
          refine lv_iconst (v := 4) C0.x C0.b dX8_act_103 (by decide) ?_
          refine lv_aload_n C0.x C0.b dX8_act_104 rfl (lv_at hl 1 rfl) ?_
          refine r_get C0 hw (C := RX8) (T := TX8) (N := 33) (v := .int (gI S23 31)) iw_X8_act_X8 (lg_48 ad cI cJ X S23) rfl 31 (by decide) (C0.ts _ fw_X8_act_130) rfl dX8_act_105 ?_
          refine lv_imul C0.x C0.b dX8_act_108 ?_
          refine lv_iconst (v := 1) C0.x C0.b dX8_act_109 (by decide) ?_
          refine lv_iadd C0.x C0.b dX8_act_110 ?_
          refine lv_iload_n C0.x C0.b dX8_act_111 rfl (lv_at hl 3 rfl) ?_
          refine r_iast C0 hw (lg_63 ad cI cJ X S23) hV.1 dX8_act_112 (S' := (sB S23 3 (upd (gB S23 3) (((4 : Int32) * (gI S23 31)) + (1 : Int32)).toNatClampNeg p1))) (ls_63 ad cI cJ X S23 (upd (gB S23 3) (((4 : Int32) * (gI S23 31)) + (1 : Int32)).toNatClampNeg p1)) (fun S24 H locs eS24 hw => ?_)
          have hV := hV.2 S24 eS24
          refine lv_aload_n C0.x C0.b dX8_act_113 rfl (lv_at hl 1 rfl) ?_
          refine r_get C0 hw (C := RX8) (T := TX8) (N := 33) (v := .ref (ad 63)) iw_X8_act_X8 (lg_48 ad cI cJ X S24) rfl 32 (by decide) (C0.ts _ fw_X8_act_58) rfl dX8_act_114 ?_
          refine lv_iconst (v := 4) C0.x C0.b dX8_act_117 (by decide) ?_
          refine lv_aload_n C0.x C0.b dX8_act_118 rfl (lv_at hl 1 rfl) ?_
          refine r_get C0 hw (C := RX8) (T := TX8) (N := 33) (v := .int (gI S24 31)) iw_X8_act_X8 (lg_48 ad cI cJ X S24) rfl 31 (by decide) (C0.ts _ fw_X8_act_130) rfl dX8_act_119 ?_
          refine lv_imul C0.x C0.b dX8_act_122 ?_
          refine lv_iconst (v := 2) C0.x C0.b dX8_act_123 (by decide) ?_
          refine lv_iadd C0.x C0.b dX8_act_124 ?_
          refine lv_iload_n C0.x C0.b dX8_act_125 rfl (lv_at hl 4 rfl) ?_
          refine r_iast C0 hw (lg_63 ad cI cJ X S24) hV.1 dX8_act_126 (S' := (sB S24 3 (upd (gB S24 3) (((4 : Int32) * (gI S24 31)) + (2 : Int32)).toNatClampNeg p2))) (ls_63 ad cI cJ X S24 (upd (gB S24 3) (((4 : Int32) * (gI S24 31)) + (2 : Int32)).toNatClampNeg p2)) (fun S25 H locs eS25 hw => ?_)
          have hV := hV.2 S25 eS25
          refine lv_aload_n C0.x C0.b dX8_act_127 rfl (lv_at hl 1 rfl) ?_
          refine r_get C0 hw (C := RX8) (T := TX8) (N := 33) (v := .ref (ad 63)) iw_X8_act_X8 (lg_48 ad cI cJ X S25) rfl 32 (by decide) (C0.ts _ fw_X8_act_58) rfl dX8_act_128 ?_
          refine lv_iconst (v := 4) C0.x C0.b dX8_act_131 (by decide) ?_
          refine lv_aload_n C0.x C0.b dX8_act_132 rfl (lv_at hl 1 rfl) ?_
          refine r_get C0 hw (C := RX8) (T := TX8) (N := 33) (v := .int (gI S25 31)) iw_X8_act_X8 (lg_48 ad cI cJ X S25) rfl 31 (by decide) (C0.ts _ fw_X8_act_130) rfl dX8_act_133 ?_
          refine lv_imul C0.x C0.b dX8_act_136 ?_
          refine lv_iconst (v := 3) C0.x C0.b dX8_act_137 (by decide) ?_
          refine lv_iadd C0.x C0.b dX8_act_138 ?_
          refine lv_iload C0.x C0.b dX8_act_139 (lv_at hl 5 rfl) ?_
          refine r_iast C0 hw (lg_63 ad cI cJ X S25) hV.1 dX8_act_141 (S' := (sB S25 3 (upd (gB S25 3) (((4 : Int32) * (gI S25 31)) + (3 : Int32)).toNatClampNeg p3))) (ls_63 ad cI cJ X S25 (upd (gB S25 3) (((4 : Int32) * (gI S25 31)) + (3 : Int32)).toNatClampNeg p3)) (fun S26 H locs eS26 hw => ?_)
          have hV := hV.2 S26 eS26
          refine lv_aload_n C0.x C0.b dX8_act_142 rfl (lv_at hl 1 rfl) ?_
          refine lv_dup C0.x C0.b dX8_act_143 rfl ?_
          refine r_get C0 hw (C := RX8) (T := TX8) (N := 33) (v := .int (gI S26 31)) iw_X8_act_X8 (lg_48 ad cI cJ X S26) rfl 31 (by decide) (C0.ts _ fw_X8_act_130) rfl dX8_act_144 ?_
          refine lv_iconst (v := 1) C0.x C0.b dX8_act_147 (by decide) ?_
          refine lv_iadd C0.x C0.b dX8_act_148 ?_
          refine r_put C0 hw (C := RX8) (T := TX8) (N := 33) (ty := .int) iw_X8_act_X8 tyX8 tyX8_ok nmX8 (lg_48 ad cI cJ X S26) rfl 31 (by decide) (C0.ts _ fw_X8_act_130) rfl (by decide +kernel) rfl rfl (Nat.le_of_ble_eq_true rfl) dX8_act_149 (S' := (sI S26 31 ((gI S26 31) + (1 : Int32)))) (ls_48_31 ad cI cJ X S26 ((gI S26 31) + (1 : Int32))) (fun S27 H locs eS27 hw => ?_)
          have hV := hV S27 eS27
          refine lv_aload_n C0.x C0.b dX8_act_152 rfl (lv_at hl 1 rfl) ?_
          refine r_get C0 hw (C := RX8) (T := TX8) (N := 33) (v := .int (gI S27 31)) iw_X8_act_X8 (lg_48 ad cI cJ X S27) rfl 31 (by decide) (C0.ts _ fw_X8_act_130) rfl dX8_act_153 ?_
          refine lv_iconst (v := 1) C0.x C0.b dX8_act_156 (by decide) ?_
          refine lv_isub C0.x C0.b dX8_act_157 ?_
          exact r_iret C0 rfl hw hV dX8_act_158
      · have hV := hV.1 c7
        refine lv_iload C0.x C0.b dX8_act_51 (lv_at hl 4 rfl) ?_
        refine lv_i2l C0.x C0.b dX8_act_53 rfl ?_
        refine lv_lconst (v := 0) C0.x C0.b dX8_act_54 (by decide) ?_
        refine lv_ldc2 (v := 11) C0.x C0.b C0.ow (C0.ts _ cw_X8_act_247) dX8_act_55 ?_
        refine r_cS_i (As := [.long p3.toInt64, .long (0 : Int64), .long (11 : Int64)]) (rest := []) C0 hw (c_X8_in  hV) (va_cwS 3 C0.ts gX8_act_X8_in rfl rfl rfl hd_X8_in ⟨Nat.le_of_ble_eq_true rfl, Nat.le_of_ble_eq_true rfl⟩) rfl hl.1 rfl (Nat.le_of_ble_eq_true rfl) ⟨Nat.zero_le _, Nat.zero_le _⟩ dX8_act_58 (fun r8 S9 H locs hV hw => ?_)
        refine lv_if_eq (tgt := 77) C0.x C0.b dX8_act_61 (by decide) (fun c10 => ?_) (fun c10 => ?_)
        · have hV := hV.1 c10
          refine lv_iconst (v := 0) C0.x C0.b dX8_act_77 (by decide) ?_
          refine lv_istore (lv' := [(5, .int (0 : Int32)), (0, .ref (ad 48)), (1, .int p0), (2, .int p1), (3, .int p2), (4, .int p3)]) C0.x C0.b dX8_act_78 hl (by decide) rfl (fun ls hl => ?_)
          refine lv_iload C0.x C0.b dX8_act_80 (lv_at hl 0 rfl) ?_
          refine lv_if_ne (tgt := 87) C0.x C0.b dX8_act_82 (by decide) (fun c11 => absurd (by decide) c11) (fun c11 => ?_)
          refine lv_iconst (v := -1) C0.x C0.b dX8_act_85 (by decide) ?_
          exact r_iret C0 rfl hw hV dX8_act_86
        · have hV := hV.2 c10
          refine lv_aload_n C0.x C0.b dX8_act_64 rfl (lv_at hl 0 rfl) ?_
          refine r_get C0 hw (C := RX8) (T := TX8) (N := 33) (v := .int (gI S9 31)) iw_X8_act_X8 (lg_48 ad cI cJ X S9) rfl 31 (by decide) (C0.ts _ fw_X8_act_130) rfl dX8_act_65 ?_
          refine lv_bipush (v := 12) C0.x C0.b dX8_act_68 (by decide) ?_
          refine lv_icmp_ge (tgt := 77) C0.x C0.b dX8_act_70 (by decide) (fun c12 => ?_) (fun c12 => ?_)
          · have hV := hV.1 c12
            refine lv_iconst (v := 0) C0.x C0.b dX8_act_77 (by decide) ?_
            refine lv_istore (lv' := [(5, .int (0 : Int32)), (0, .ref (ad 48)), (1, .int p0), (2, .int p1), (3, .int p2), (4, .int p3)]) C0.x C0.b dX8_act_78 hl (by decide) rfl (fun ls hl => ?_)
            refine lv_iload C0.x C0.b dX8_act_80 (lv_at hl 0 rfl) ?_
            refine lv_if_ne (tgt := 87) C0.x C0.b dX8_act_82 (by decide) (fun c13 => absurd (by decide) c13) (fun c13 => ?_)
            refine lv_iconst (v := -1) C0.x C0.b dX8_act_85 (by decide) ?_
            exact r_iret C0 rfl hw hV dX8_act_86
          · have hV := hV.2 c12
            refine lv_iconst (v := 1) C0.x C0.b dX8_act_73 (by decide) ?_
            refine lv_goto (tgt := 78) C0.x C0.b dX8_act_74 (by decide) ?_
            refine lv_istore (lv' := [(5, .int (1 : Int32)), (0, .ref (ad 48)), (1, .int p0), (2, .int p1), (3, .int p2), (4, .int p3)]) C0.x C0.b dX8_act_78 hl (by decide) rfl (fun ls hl => ?_)
            refine lv_iload C0.x C0.b dX8_act_80 (lv_at hl 0 rfl) ?_
            refine lv_if_ne (tgt := 87) C0.x C0.b dX8_act_82 (by decide) (fun c14 => ?_) (fun c14 => absurd c14 (by decide))
            refine lv_aload_n C0.x C0.b dX8_act_87 rfl (lv_at hl 1 rfl) ?_
            refine r_get C0 hw (C := RX8) (T := TX8) (N := 33) (v := .ref (ad 63)) iw_X8_act_X8 (lg_48 ad cI cJ X S9) rfl 32 (by decide) (C0.ts _ fw_X8_act_58) rfl dX8_act_88 ?_
            refine lv_iconst (v := 4) C0.x C0.b dX8_act_91 (by decide) ?_
            refine lv_aload_n C0.x C0.b dX8_act_92 rfl (lv_at hl 1 rfl) ?_
            refine r_get C0 hw (C := RX8) (T := TX8) (N := 33) (v := .int (gI S9 31)) iw_X8_act_X8 (lg_48 ad cI cJ X S9) rfl 31 (by decide) (C0.ts _ fw_X8_act_130) rfl dX8_act_93 ?_
            refine lv_imul C0.x C0.b dX8_act_96 ?_
            refine lv_iload_n C0.x C0.b dX8_act_97 rfl (lv_at hl 2 rfl) ?_
            refine r_iast C0 hw (lg_63 ad cI cJ X S9) hV.1 dX8_act_98 (S' := (sB S9 3 (upd (gB S9 3) ((4 : Int32) * (gI S9 31)).toNatClampNeg p0))) (ls_63 ad cI cJ X S9 (upd (gB S9 3) ((4 : Int32) * (gI S9 31)).toNatClampNeg p0)) (fun S15 H locs eS15 hw => ?_)
            have hV := hV.2 S15 eS15
            refine lv_aload_n C0.x C0.b dX8_act_99 rfl (lv_at hl 1 rfl) ?_
            refine r_get C0 hw (C := RX8) (T := TX8) (N := 33) (v := .ref (ad 63)) iw_X8_act_X8 (lg_48 ad cI cJ X S15) rfl 32 (by decide) (C0.ts _ fw_X8_act_58) rfl dX8_act_100 ?_
            refine lv_iconst (v := 4) C0.x C0.b dX8_act_103 (by decide) ?_
            refine lv_aload_n C0.x C0.b dX8_act_104 rfl (lv_at hl 1 rfl) ?_
            refine r_get C0 hw (C := RX8) (T := TX8) (N := 33) (v := .int (gI S15 31)) iw_X8_act_X8 (lg_48 ad cI cJ X S15) rfl 31 (by decide) (C0.ts _ fw_X8_act_130) rfl dX8_act_105 ?_
            refine lv_imul C0.x C0.b dX8_act_108 ?_
            refine lv_iconst (v := 1) C0.x C0.b dX8_act_109 (by decide) ?_
            refine lv_iadd C0.x C0.b dX8_act_110 ?_
            refine lv_iload_n C0.x C0.b dX8_act_111 rfl (lv_at hl 3 rfl) ?_
            refine r_iast C0 hw (lg_63 ad cI cJ X S15) hV.1 dX8_act_112 (S' := (sB S15 3 (upd (gB S15 3) (((4 : Int32) * (gI S15 31)) + (1 : Int32)).toNatClampNeg p1))) (ls_63 ad cI cJ X S15 (upd (gB S15 3) (((4 : Int32) * (gI S15 31)) + (1 : Int32)).toNatClampNeg p1)) (fun S16 H locs eS16 hw => ?_)
            have hV := hV.2 S16 eS16
            refine lv_aload_n C0.x C0.b dX8_act_113 rfl (lv_at hl 1 rfl) ?_
            refine r_get C0 hw (C := RX8) (T := TX8) (N := 33) (v := .ref (ad 63)) iw_X8_act_X8 (lg_48 ad cI cJ X S16) rfl 32 (by decide) (C0.ts _ fw_X8_act_58) rfl dX8_act_114 ?_
            refine lv_iconst (v := 4) C0.x C0.b dX8_act_117 (by decide) ?_
            refine lv_aload_n C0.x C0.b dX8_act_118 rfl (lv_at hl 1 rfl) ?_
            refine r_get C0 hw (C := RX8) (T := TX8) (N := 33) (v := .int (gI S16 31)) iw_X8_act_X8 (lg_48 ad cI cJ X S16) rfl 31 (by decide) (C0.ts _ fw_X8_act_130) rfl dX8_act_119 ?_
            refine lv_imul C0.x C0.b dX8_act_122 ?_
            refine lv_iconst (v := 2) C0.x C0.b dX8_act_123 (by decide) ?_
            refine lv_iadd C0.x C0.b dX8_act_124 ?_
            refine lv_iload_n C0.x C0.b dX8_act_125 rfl (lv_at hl 4 rfl) ?_
            refine r_iast C0 hw (lg_63 ad cI cJ X S16) hV.1 dX8_act_126 (S' := (sB S16 3 (upd (gB S16 3) (((4 : Int32) * (gI S16 31)) + (2 : Int32)).toNatClampNeg p2))) (ls_63 ad cI cJ X S16 (upd (gB S16 3) (((4 : Int32) * (gI S16 31)) + (2 : Int32)).toNatClampNeg p2)) (fun S17 H locs eS17 hw => ?_)
            have hV := hV.2 S17 eS17
            refine lv_aload_n C0.x C0.b dX8_act_127 rfl (lv_at hl 1 rfl) ?_
            refine r_get C0 hw (C := RX8) (T := TX8) (N := 33) (v := .ref (ad 63)) iw_X8_act_X8 (lg_48 ad cI cJ X S17) rfl 32 (by decide) (C0.ts _ fw_X8_act_58) rfl dX8_act_128 ?_
            refine lv_iconst (v := 4) C0.x C0.b dX8_act_131 (by decide) ?_
            refine lv_aload_n C0.x C0.b dX8_act_132 rfl (lv_at hl 1 rfl) ?_
            refine r_get C0 hw (C := RX8) (T := TX8) (N := 33) (v := .int (gI S17 31)) iw_X8_act_X8 (lg_48 ad cI cJ X S17) rfl 31 (by decide) (C0.ts _ fw_X8_act_130) rfl dX8_act_133 ?_
            refine lv_imul C0.x C0.b dX8_act_136 ?_
            refine lv_iconst (v := 3) C0.x C0.b dX8_act_137 (by decide) ?_
            refine lv_iadd C0.x C0.b dX8_act_138 ?_
            refine lv_iload C0.x C0.b dX8_act_139 (lv_at hl 5 rfl) ?_
            refine r_iast C0 hw (lg_63 ad cI cJ X S17) hV.1 dX8_act_141 (S' := (sB S17 3 (upd (gB S17 3) (((4 : Int32) * (gI S17 31)) + (3 : Int32)).toNatClampNeg p3))) (ls_63 ad cI cJ X S17 (upd (gB S17 3) (((4 : Int32) * (gI S17 31)) + (3 : Int32)).toNatClampNeg p3)) (fun S18 H locs eS18 hw => ?_)
            have hV := hV.2 S18 eS18
            refine lv_aload_n C0.x C0.b dX8_act_142 rfl (lv_at hl 1 rfl) ?_
            refine lv_dup C0.x C0.b dX8_act_143 rfl ?_
            refine r_get C0 hw (C := RX8) (T := TX8) (N := 33) (v := .int (gI S18 31)) iw_X8_act_X8 (lg_48 ad cI cJ X S18) rfl 31 (by decide) (C0.ts _ fw_X8_act_130) rfl dX8_act_144 ?_
            refine lv_iconst (v := 1) C0.x C0.b dX8_act_147 (by decide) ?_
            refine lv_iadd C0.x C0.b dX8_act_148 ?_
            refine r_put C0 hw (C := RX8) (T := TX8) (N := 33) (ty := .int) iw_X8_act_X8 tyX8 tyX8_ok nmX8 (lg_48 ad cI cJ X S18) rfl 31 (by decide) (C0.ts _ fw_X8_act_130) rfl (by decide +kernel) rfl rfl (Nat.le_of_ble_eq_true rfl) dX8_act_149 (S' := (sI S18 31 ((gI S18 31) + (1 : Int32)))) (ls_48_31 ad cI cJ X S18 ((gI S18 31) + (1 : Int32))) (fun S19 H locs eS19 hw => ?_)
            have hV := hV S19 eS19
            refine lv_aload_n C0.x C0.b dX8_act_152 rfl (lv_at hl 1 rfl) ?_
            refine r_get C0 hw (C := RX8) (T := TX8) (N := 33) (v := .int (gI S19 31)) iw_X8_act_X8 (lg_48 ad cI cJ X S19) rfl 31 (by decide) (C0.ts _ fw_X8_act_130) rfl dX8_act_153 ?_
            refine lv_iconst (v := 1) C0.x C0.b dX8_act_156 (by decide) ?_
            refine lv_isub C0.x C0.b dX8_act_157 ?_
            exact r_iret C0 rfl hw hV dX8_act_158
    · have hV := hV.2 c6
      refine lv_iload_n C0.x C0.b dX8_act_22 rfl (lv_at hl 2 rfl) ?_
      refine lv_i2l C0.x C0.b dX8_act_23 rfl ?_
      refine lv_lconst (v := 0) C0.x C0.b dX8_act_24 (by decide) ?_
      refine lv_ldc2 (v := 3) C0.x C0.b C0.ow (C0.ts _ cw_X8_act_83) dX8_act_25 ?_
      refine r_cS_i (As := [.long p1.toInt64, .long (0 : Int64), .long (3 : Int64)]) (rest := []) C0 hw (c_X8_in  hV) (va_cwS 3 C0.ts gX8_act_X8_in rfl rfl rfl hd_X8_in ⟨Nat.le_of_ble_eq_true rfl, Nat.le_of_ble_eq_true rfl⟩) rfl hl.1 rfl (Nat.le_of_ble_eq_true rfl) ⟨Nat.zero_le _, Nat.zero_le _⟩ dX8_act_28 (fun r28 S29 H locs hV hw => ?_)
      refine lv_if_eq (tgt := 77) C0.x C0.b dX8_act_31 (by decide) (fun c30 => ?_) (fun c30 => ?_)
      · have hV := hV.1 c30
        refine lv_iconst (v := 0) C0.x C0.b dX8_act_77 (by decide) ?_
        refine lv_istore (lv' := [(5, .int (0 : Int32)), (0, .ref (ad 48)), (1, .int p0), (2, .int p1), (3, .int p2), (4, .int p3)]) C0.x C0.b dX8_act_78 hl (by decide) rfl (fun ls hl => ?_)
        refine lv_iload C0.x C0.b dX8_act_80 (lv_at hl 0 rfl) ?_
        refine lv_if_ne (tgt := 87) C0.x C0.b dX8_act_82 (by decide) (fun c31 => absurd (by decide) c31) (fun c31 => ?_)
        refine lv_iconst (v := -1) C0.x C0.b dX8_act_85 (by decide) ?_
        exact r_iret C0 rfl hw hV dX8_act_86
      · have hV := hV.2 c30
        refine lv_iload_n C0.x C0.b dX8_act_34 rfl (lv_at hl 3 rfl) ?_
        refine lv_i2l C0.x C0.b dX8_act_35 rfl ?_
        refine lv_lconst (v := 0) C0.x C0.b dX8_act_36 (by decide) ?_
        refine lv_ldc2 (v := 11) C0.x C0.b C0.ow (C0.ts _ cw_X8_act_247) dX8_act_37 ?_
        refine r_cS_i (As := [.long p2.toInt64, .long (0 : Int64), .long (11 : Int64)]) (rest := []) C0 hw (c_X8_in  hV) (va_cwS 3 C0.ts gX8_act_X8_in rfl rfl rfl hd_X8_in ⟨Nat.le_of_ble_eq_true rfl, Nat.le_of_ble_eq_true rfl⟩) rfl hl.1 rfl (Nat.le_of_ble_eq_true rfl) ⟨Nat.zero_le _, Nat.zero_le _⟩ dX8_act_40 (fun r32 S33 H locs hV hw => ?_)
        refine lv_if_eq (tgt := 77) C0.x C0.b dX8_act_43 (by decide) (fun c34 => ?_) (fun c34 => ?_)
        · have hV := hV.1 c34
          refine lv_iconst (v := 0) C0.x C0.b dX8_act_77 (by decide) ?_
          refine lv_istore (lv' := [(5, .int (0 : Int32)), (0, .ref (ad 48)), (1, .int p0), (2, .int p1), (3, .int p2), (4, .int p3)]) C0.x C0.b dX8_act_78 hl (by decide) rfl (fun ls hl => ?_)
          refine lv_iload C0.x C0.b dX8_act_80 (lv_at hl 0 rfl) ?_
          refine lv_if_ne (tgt := 87) C0.x C0.b dX8_act_82 (by decide) (fun c35 => absurd (by decide) c35) (fun c35 => ?_)
          refine lv_iconst (v := -1) C0.x C0.b dX8_act_85 (by decide) ?_
          exact r_iret C0 rfl hw hV dX8_act_86
        · have hV := hV.2 c34
          refine lv_iload_n C0.x C0.b dX8_act_46 rfl (lv_at hl 1 rfl) ?_
          refine lv_iconst (v := 1) C0.x C0.b dX8_act_47 (by decide) ?_
          refine lv_icmp_ne (tgt := 64) C0.x C0.b dX8_act_48 (by decide) (fun c36 => ?_) (fun c36 => ?_)
          · have hV := hV.2 c36
            refine lv_aload_n C0.x C0.b dX8_act_64 rfl (lv_at hl 0 rfl) ?_
            refine r_get C0 hw (C := RX8) (T := TX8) (N := 33) (v := .int (gI S33 31)) iw_X8_act_X8 (lg_48 ad cI cJ X S33) rfl 31 (by decide) (C0.ts _ fw_X8_act_130) rfl dX8_act_65 ?_
            refine lv_bipush (v := 12) C0.x C0.b dX8_act_68 (by decide) ?_
            refine lv_icmp_ge (tgt := 77) C0.x C0.b dX8_act_70 (by decide) (fun c49 => ?_) (fun c49 => ?_)
            · have hV := hV.1 c49
              refine lv_iconst (v := 0) C0.x C0.b dX8_act_77 (by decide) ?_
              refine lv_istore (lv' := [(5, .int (0 : Int32)), (0, .ref (ad 48)), (1, .int p0), (2, .int p1), (3, .int p2), (4, .int p3)]) C0.x C0.b dX8_act_78 hl (by decide) rfl (fun ls hl => ?_)
              refine lv_iload C0.x C0.b dX8_act_80 (lv_at hl 0 rfl) ?_
              refine lv_if_ne (tgt := 87) C0.x C0.b dX8_act_82 (by decide) (fun c50 => absurd (by decide) c50) (fun c50 => ?_)
              refine lv_iconst (v := -1) C0.x C0.b dX8_act_85 (by decide) ?_
              exact r_iret C0 rfl hw hV dX8_act_86
            · have hV := hV.2 c49
              refine lv_iconst (v := 1) C0.x C0.b dX8_act_73 (by decide) ?_
              refine lv_goto (tgt := 78) C0.x C0.b dX8_act_74 (by decide) ?_
              refine lv_istore (lv' := [(5, .int (1 : Int32)), (0, .ref (ad 48)), (1, .int p0), (2, .int p1), (3, .int p2), (4, .int p3)]) C0.x C0.b dX8_act_78 hl (by decide) rfl (fun ls hl => ?_)
              refine lv_iload C0.x C0.b dX8_act_80 (lv_at hl 0 rfl) ?_
              refine lv_if_ne (tgt := 87) C0.x C0.b dX8_act_82 (by decide) (fun c51 => ?_) (fun c51 => absurd c51 (by decide))
              refine lv_aload_n C0.x C0.b dX8_act_87 rfl (lv_at hl 1 rfl) ?_
              refine r_get C0 hw (C := RX8) (T := TX8) (N := 33) (v := .ref (ad 63)) iw_X8_act_X8 (lg_48 ad cI cJ X S33) rfl 32 (by decide) (C0.ts _ fw_X8_act_58) rfl dX8_act_88 ?_
              refine lv_iconst (v := 4) C0.x C0.b dX8_act_91 (by decide) ?_
              refine lv_aload_n C0.x C0.b dX8_act_92 rfl (lv_at hl 1 rfl) ?_
              refine r_get C0 hw (C := RX8) (T := TX8) (N := 33) (v := .int (gI S33 31)) iw_X8_act_X8 (lg_48 ad cI cJ X S33) rfl 31 (by decide) (C0.ts _ fw_X8_act_130) rfl dX8_act_93 ?_
              refine lv_imul C0.x C0.b dX8_act_96 ?_
              refine lv_iload_n C0.x C0.b dX8_act_97 rfl (lv_at hl 2 rfl) ?_
              refine r_iast C0 hw (lg_63 ad cI cJ X S33) hV.1 dX8_act_98 (S' := (sB S33 3 (upd (gB S33 3) ((4 : Int32) * (gI S33 31)).toNatClampNeg p0))) (ls_63 ad cI cJ X S33 (upd (gB S33 3) ((4 : Int32) * (gI S33 31)).toNatClampNeg p0)) (fun S52 H locs eS52 hw => ?_)
              have hV := hV.2 S52 eS52
              refine lv_aload_n C0.x C0.b dX8_act_99 rfl (lv_at hl 1 rfl) ?_
              refine r_get C0 hw (C := RX8) (T := TX8) (N := 33) (v := .ref (ad 63)) iw_X8_act_X8 (lg_48 ad cI cJ X S52) rfl 32 (by decide) (C0.ts _ fw_X8_act_58) rfl dX8_act_100 ?_
              refine lv_iconst (v := 4) C0.x C0.b dX8_act_103 (by decide) ?_
              refine lv_aload_n C0.x C0.b dX8_act_104 rfl (lv_at hl 1 rfl) ?_
              refine r_get C0 hw (C := RX8) (T := TX8) (N := 33) (v := .int (gI S52 31)) iw_X8_act_X8 (lg_48 ad cI cJ X S52) rfl 31 (by decide) (C0.ts _ fw_X8_act_130) rfl dX8_act_105 ?_
              refine lv_imul C0.x C0.b dX8_act_108 ?_
              refine lv_iconst (v := 1) C0.x C0.b dX8_act_109 (by decide) ?_
              refine lv_iadd C0.x C0.b dX8_act_110 ?_
              refine lv_iload_n C0.x C0.b dX8_act_111 rfl (lv_at hl 3 rfl) ?_
              refine r_iast C0 hw (lg_63 ad cI cJ X S52) hV.1 dX8_act_112 (S' := (sB S52 3 (upd (gB S52 3) (((4 : Int32) * (gI S52 31)) + (1 : Int32)).toNatClampNeg p1))) (ls_63 ad cI cJ X S52 (upd (gB S52 3) (((4 : Int32) * (gI S52 31)) + (1 : Int32)).toNatClampNeg p1)) (fun S53 H locs eS53 hw => ?_)
              have hV := hV.2 S53 eS53
              refine lv_aload_n C0.x C0.b dX8_act_113 rfl (lv_at hl 1 rfl) ?_
              refine r_get C0 hw (C := RX8) (T := TX8) (N := 33) (v := .ref (ad 63)) iw_X8_act_X8 (lg_48 ad cI cJ X S53) rfl 32 (by decide) (C0.ts _ fw_X8_act_58) rfl dX8_act_114 ?_
              refine lv_iconst (v := 4) C0.x C0.b dX8_act_117 (by decide) ?_
              refine lv_aload_n C0.x C0.b dX8_act_118 rfl (lv_at hl 1 rfl) ?_
              refine r_get C0 hw (C := RX8) (T := TX8) (N := 33) (v := .int (gI S53 31)) iw_X8_act_X8 (lg_48 ad cI cJ X S53) rfl 31 (by decide) (C0.ts _ fw_X8_act_130) rfl dX8_act_119 ?_
              refine lv_imul C0.x C0.b dX8_act_122 ?_
              refine lv_iconst (v := 2) C0.x C0.b dX8_act_123 (by decide) ?_
              refine lv_iadd C0.x C0.b dX8_act_124 ?_
              refine lv_iload_n C0.x C0.b dX8_act_125 rfl (lv_at hl 4 rfl) ?_
              refine r_iast C0 hw (lg_63 ad cI cJ X S53) hV.1 dX8_act_126 (S' := (sB S53 3 (upd (gB S53 3) (((4 : Int32) * (gI S53 31)) + (2 : Int32)).toNatClampNeg p2))) (ls_63 ad cI cJ X S53 (upd (gB S53 3) (((4 : Int32) * (gI S53 31)) + (2 : Int32)).toNatClampNeg p2)) (fun S54 H locs eS54 hw => ?_)
              have hV := hV.2 S54 eS54
              refine lv_aload_n C0.x C0.b dX8_act_127 rfl (lv_at hl 1 rfl) ?_
              refine r_get C0 hw (C := RX8) (T := TX8) (N := 33) (v := .ref (ad 63)) iw_X8_act_X8 (lg_48 ad cI cJ X S54) rfl 32 (by decide) (C0.ts _ fw_X8_act_58) rfl dX8_act_128 ?_
              refine lv_iconst (v := 4) C0.x C0.b dX8_act_131 (by decide) ?_
              refine lv_aload_n C0.x C0.b dX8_act_132 rfl (lv_at hl 1 rfl) ?_
              refine r_get C0 hw (C := RX8) (T := TX8) (N := 33) (v := .int (gI S54 31)) iw_X8_act_X8 (lg_48 ad cI cJ X S54) rfl 31 (by decide) (C0.ts _ fw_X8_act_130) rfl dX8_act_133 ?_
              refine lv_imul C0.x C0.b dX8_act_136 ?_
              refine lv_iconst (v := 3) C0.x C0.b dX8_act_137 (by decide) ?_
              refine lv_iadd C0.x C0.b dX8_act_138 ?_
              refine lv_iload C0.x C0.b dX8_act_139 (lv_at hl 5 rfl) ?_
              refine r_iast C0 hw (lg_63 ad cI cJ X S54) hV.1 dX8_act_141 (S' := (sB S54 3 (upd (gB S54 3) (((4 : Int32) * (gI S54 31)) + (3 : Int32)).toNatClampNeg p3))) (ls_63 ad cI cJ X S54 (upd (gB S54 3) (((4 : Int32) * (gI S54 31)) + (3 : Int32)).toNatClampNeg p3)) (fun S55 H locs eS55 hw => ?_)
              have hV := hV.2 S55 eS55
              refine lv_aload_n C0.x C0.b dX8_act_142 rfl (lv_at hl 1 rfl) ?_
              refine lv_dup C0.x C0.b dX8_act_143 rfl ?_
              refine r_get C0 hw (C := RX8) (T := TX8) (N := 33) (v := .int (gI S55 31)) iw_X8_act_X8 (lg_48 ad cI cJ X S55) rfl 31 (by decide) (C0.ts _ fw_X8_act_130) rfl dX8_act_144 ?_
              refine lv_iconst (v := 1) C0.x C0.b dX8_act_147 (by decide) ?_
              refine lv_iadd C0.x C0.b dX8_act_148 ?_
              refine r_put C0 hw (C := RX8) (T := TX8) (N := 33) (ty := .int) iw_X8_act_X8 tyX8 tyX8_ok nmX8 (lg_48 ad cI cJ X S55) rfl 31 (by decide) (C0.ts _ fw_X8_act_130) rfl (by decide +kernel) rfl rfl (Nat.le_of_ble_eq_true rfl) dX8_act_149 (S' := (sI S55 31 ((gI S55 31) + (1 : Int32)))) (ls_48_31 ad cI cJ X S55 ((gI S55 31) + (1 : Int32))) (fun S56 H locs eS56 hw => ?_)
              have hV := hV S56 eS56
              refine lv_aload_n C0.x C0.b dX8_act_152 rfl (lv_at hl 1 rfl) ?_
              refine r_get C0 hw (C := RX8) (T := TX8) (N := 33) (v := .int (gI S56 31)) iw_X8_act_X8 (lg_48 ad cI cJ X S56) rfl 31 (by decide) (C0.ts _ fw_X8_act_130) rfl dX8_act_153 ?_
              refine lv_iconst (v := 1) C0.x C0.b dX8_act_156 (by decide) ?_
              refine lv_isub C0.x C0.b dX8_act_157 ?_
              exact r_iret C0 rfl hw hV dX8_act_158
          · have hV := hV.1 c36
            refine lv_iload C0.x C0.b dX8_act_51 (lv_at hl 4 rfl) ?_
            refine lv_i2l C0.x C0.b dX8_act_53 rfl ?_
            refine lv_lconst (v := 0) C0.x C0.b dX8_act_54 (by decide) ?_
            refine lv_ldc2 (v := 11) C0.x C0.b C0.ow (C0.ts _ cw_X8_act_247) dX8_act_55 ?_
            refine r_cS_i (As := [.long p3.toInt64, .long (0 : Int64), .long (11 : Int64)]) (rest := []) C0 hw (c_X8_in  hV) (va_cwS 3 C0.ts gX8_act_X8_in rfl rfl rfl hd_X8_in ⟨Nat.le_of_ble_eq_true rfl, Nat.le_of_ble_eq_true rfl⟩) rfl hl.1 rfl (Nat.le_of_ble_eq_true rfl) ⟨Nat.zero_le _, Nat.zero_le _⟩ dX8_act_58 (fun r37 S38 H locs hV hw => ?_)
            refine lv_if_eq (tgt := 77) C0.x C0.b dX8_act_61 (by decide) (fun c39 => ?_) (fun c39 => ?_)
            · have hV := hV.1 c39
              refine lv_iconst (v := 0) C0.x C0.b dX8_act_77 (by decide) ?_
              refine lv_istore (lv' := [(5, .int (0 : Int32)), (0, .ref (ad 48)), (1, .int p0), (2, .int p1), (3, .int p2), (4, .int p3)]) C0.x C0.b dX8_act_78 hl (by decide) rfl (fun ls hl => ?_)
              refine lv_iload C0.x C0.b dX8_act_80 (lv_at hl 0 rfl) ?_
              refine lv_if_ne (tgt := 87) C0.x C0.b dX8_act_82 (by decide) (fun c40 => absurd (by decide) c40) (fun c40 => ?_)
              refine lv_iconst (v := -1) C0.x C0.b dX8_act_85 (by decide) ?_
              exact r_iret C0 rfl hw hV dX8_act_86
            · have hV := hV.2 c39
              refine lv_aload_n C0.x C0.b dX8_act_64 rfl (lv_at hl 0 rfl) ?_
              refine r_get C0 hw (C := RX8) (T := TX8) (N := 33) (v := .int (gI S38 31)) iw_X8_act_X8 (lg_48 ad cI cJ X S38) rfl 31 (by decide) (C0.ts _ fw_X8_act_130) rfl dX8_act_65 ?_
              refine lv_bipush (v := 12) C0.x C0.b dX8_act_68 (by decide) ?_
              refine lv_icmp_ge (tgt := 77) C0.x C0.b dX8_act_70 (by decide) (fun c41 => ?_) (fun c41 => ?_)
              · have hV := hV.1 c41
                refine lv_iconst (v := 0) C0.x C0.b dX8_act_77 (by decide) ?_
                refine lv_istore (lv' := [(5, .int (0 : Int32)), (0, .ref (ad 48)), (1, .int p0), (2, .int p1), (3, .int p2), (4, .int p3)]) C0.x C0.b dX8_act_78 hl (by decide) rfl (fun ls hl => ?_)
                refine lv_iload C0.x C0.b dX8_act_80 (lv_at hl 0 rfl) ?_
                refine lv_if_ne (tgt := 87) C0.x C0.b dX8_act_82 (by decide) (fun c42 => absurd (by decide) c42) (fun c42 => ?_)
                refine lv_iconst (v := -1) C0.x C0.b dX8_act_85 (by decide) ?_
                exact r_iret C0 rfl hw hV dX8_act_86
              · have hV := hV.2 c41
                refine lv_iconst (v := 1) C0.x C0.b dX8_act_73 (by decide) ?_
                refine lv_goto (tgt := 78) C0.x C0.b dX8_act_74 (by decide) ?_
                refine lv_istore (lv' := [(5, .int (1 : Int32)), (0, .ref (ad 48)), (1, .int p0), (2, .int p1), (3, .int p2), (4, .int p3)]) C0.x C0.b dX8_act_78 hl (by decide) rfl (fun ls hl => ?_)
                refine lv_iload C0.x C0.b dX8_act_80 (lv_at hl 0 rfl) ?_
                refine lv_if_ne (tgt := 87) C0.x C0.b dX8_act_82 (by decide) (fun c43 => ?_) (fun c43 => absurd c43 (by decide))
                refine lv_aload_n C0.x C0.b dX8_act_87 rfl (lv_at hl 1 rfl) ?_
                refine r_get C0 hw (C := RX8) (T := TX8) (N := 33) (v := .ref (ad 63)) iw_X8_act_X8 (lg_48 ad cI cJ X S38) rfl 32 (by decide) (C0.ts _ fw_X8_act_58) rfl dX8_act_88 ?_
                refine lv_iconst (v := 4) C0.x C0.b dX8_act_91 (by decide) ?_
                refine lv_aload_n C0.x C0.b dX8_act_92 rfl (lv_at hl 1 rfl) ?_
                refine r_get C0 hw (C := RX8) (T := TX8) (N := 33) (v := .int (gI S38 31)) iw_X8_act_X8 (lg_48 ad cI cJ X S38) rfl 31 (by decide) (C0.ts _ fw_X8_act_130) rfl dX8_act_93 ?_
                refine lv_imul C0.x C0.b dX8_act_96 ?_
                refine lv_iload_n C0.x C0.b dX8_act_97 rfl (lv_at hl 2 rfl) ?_
                refine r_iast C0 hw (lg_63 ad cI cJ X S38) hV.1 dX8_act_98 (S' := (sB S38 3 (upd (gB S38 3) ((4 : Int32) * (gI S38 31)).toNatClampNeg p0))) (ls_63 ad cI cJ X S38 (upd (gB S38 3) ((4 : Int32) * (gI S38 31)).toNatClampNeg p0)) (fun S44 H locs eS44 hw => ?_)
                have hV := hV.2 S44 eS44
                refine lv_aload_n C0.x C0.b dX8_act_99 rfl (lv_at hl 1 rfl) ?_
                refine r_get C0 hw (C := RX8) (T := TX8) (N := 33) (v := .ref (ad 63)) iw_X8_act_X8 (lg_48 ad cI cJ X S44) rfl 32 (by decide) (C0.ts _ fw_X8_act_58) rfl dX8_act_100 ?_
                refine lv_iconst (v := 4) C0.x C0.b dX8_act_103 (by decide) ?_
                refine lv_aload_n C0.x C0.b dX8_act_104 rfl (lv_at hl 1 rfl) ?_
                refine r_get C0 hw (C := RX8) (T := TX8) (N := 33) (v := .int (gI S44 31)) iw_X8_act_X8 (lg_48 ad cI cJ X S44) rfl 31 (by decide) (C0.ts _ fw_X8_act_130) rfl dX8_act_105 ?_
                refine lv_imul C0.x C0.b dX8_act_108 ?_
                refine lv_iconst (v := 1) C0.x C0.b dX8_act_109 (by decide) ?_
                refine lv_iadd C0.x C0.b dX8_act_110 ?_
                refine lv_iload_n C0.x C0.b dX8_act_111 rfl (lv_at hl 3 rfl) ?_
                refine r_iast C0 hw (lg_63 ad cI cJ X S44) hV.1 dX8_act_112 (S' := (sB S44 3 (upd (gB S44 3) (((4 : Int32) * (gI S44 31)) + (1 : Int32)).toNatClampNeg p1))) (ls_63 ad cI cJ X S44 (upd (gB S44 3) (((4 : Int32) * (gI S44 31)) + (1 : Int32)).toNatClampNeg p1)) (fun S45 H locs eS45 hw => ?_)
                have hV := hV.2 S45 eS45
                refine lv_aload_n C0.x C0.b dX8_act_113 rfl (lv_at hl 1 rfl) ?_
                refine r_get C0 hw (C := RX8) (T := TX8) (N := 33) (v := .ref (ad 63)) iw_X8_act_X8 (lg_48 ad cI cJ X S45) rfl 32 (by decide) (C0.ts _ fw_X8_act_58) rfl dX8_act_114 ?_
                refine lv_iconst (v := 4) C0.x C0.b dX8_act_117 (by decide) ?_
                refine lv_aload_n C0.x C0.b dX8_act_118 rfl (lv_at hl 1 rfl) ?_
                refine r_get C0 hw (C := RX8) (T := TX8) (N := 33) (v := .int (gI S45 31)) iw_X8_act_X8 (lg_48 ad cI cJ X S45) rfl 31 (by decide) (C0.ts _ fw_X8_act_130) rfl dX8_act_119 ?_
                refine lv_imul C0.x C0.b dX8_act_122 ?_
                refine lv_iconst (v := 2) C0.x C0.b dX8_act_123 (by decide) ?_
                refine lv_iadd C0.x C0.b dX8_act_124 ?_
                refine lv_iload_n C0.x C0.b dX8_act_125 rfl (lv_at hl 4 rfl) ?_
                refine r_iast C0 hw (lg_63 ad cI cJ X S45) hV.1 dX8_act_126 (S' := (sB S45 3 (upd (gB S45 3) (((4 : Int32) * (gI S45 31)) + (2 : Int32)).toNatClampNeg p2))) (ls_63 ad cI cJ X S45 (upd (gB S45 3) (((4 : Int32) * (gI S45 31)) + (2 : Int32)).toNatClampNeg p2)) (fun S46 H locs eS46 hw => ?_)
                have hV := hV.2 S46 eS46
                refine lv_aload_n C0.x C0.b dX8_act_127 rfl (lv_at hl 1 rfl) ?_
                refine r_get C0 hw (C := RX8) (T := TX8) (N := 33) (v := .ref (ad 63)) iw_X8_act_X8 (lg_48 ad cI cJ X S46) rfl 32 (by decide) (C0.ts _ fw_X8_act_58) rfl dX8_act_128 ?_
                refine lv_iconst (v := 4) C0.x C0.b dX8_act_131 (by decide) ?_
                refine lv_aload_n C0.x C0.b dX8_act_132 rfl (lv_at hl 1 rfl) ?_
                refine r_get C0 hw (C := RX8) (T := TX8) (N := 33) (v := .int (gI S46 31)) iw_X8_act_X8 (lg_48 ad cI cJ X S46) rfl 31 (by decide) (C0.ts _ fw_X8_act_130) rfl dX8_act_133 ?_
                refine lv_imul C0.x C0.b dX8_act_136 ?_
                refine lv_iconst (v := 3) C0.x C0.b dX8_act_137 (by decide) ?_
                refine lv_iadd C0.x C0.b dX8_act_138 ?_
                refine lv_iload C0.x C0.b dX8_act_139 (lv_at hl 5 rfl) ?_
                refine r_iast C0 hw (lg_63 ad cI cJ X S46) hV.1 dX8_act_141 (S' := (sB S46 3 (upd (gB S46 3) (((4 : Int32) * (gI S46 31)) + (3 : Int32)).toNatClampNeg p3))) (ls_63 ad cI cJ X S46 (upd (gB S46 3) (((4 : Int32) * (gI S46 31)) + (3 : Int32)).toNatClampNeg p3)) (fun S47 H locs eS47 hw => ?_)
                have hV := hV.2 S47 eS47
                refine lv_aload_n C0.x C0.b dX8_act_142 rfl (lv_at hl 1 rfl) ?_
                refine lv_dup C0.x C0.b dX8_act_143 rfl ?_
                refine r_get C0 hw (C := RX8) (T := TX8) (N := 33) (v := .int (gI S47 31)) iw_X8_act_X8 (lg_48 ad cI cJ X S47) rfl 31 (by decide) (C0.ts _ fw_X8_act_130) rfl dX8_act_144 ?_
                refine lv_iconst (v := 1) C0.x C0.b dX8_act_147 (by decide) ?_
                refine lv_iadd C0.x C0.b dX8_act_148 ?_
                refine r_put C0 hw (C := RX8) (T := TX8) (N := 33) (ty := .int) iw_X8_act_X8 tyX8 tyX8_ok nmX8 (lg_48 ad cI cJ X S47) rfl 31 (by decide) (C0.ts _ fw_X8_act_130) rfl (by decide +kernel) rfl rfl (Nat.le_of_ble_eq_true rfl) dX8_act_149 (S' := (sI S47 31 ((gI S47 31) + (1 : Int32)))) (ls_48_31 ad cI cJ X S47 ((gI S47 31) + (1 : Int32))) (fun S48 H locs eS48 hw => ?_)
                have hV := hV S48 eS48
                refine lv_aload_n C0.x C0.b dX8_act_152 rfl (lv_at hl 1 rfl) ?_
                refine r_get C0 hw (C := RX8) (T := TX8) (N := 33) (v := .int (gI S48 31)) iw_X8_act_X8 (lg_48 ad cI cJ X S48) rfl 31 (by decide) (C0.ts _ fw_X8_act_130) rfl dX8_act_153 ?_
                refine lv_iconst (v := 1) C0.x C0.b dX8_act_156 (by decide) ?_
                refine lv_isub C0.x C0.b dX8_act_157 ?_
                exact r_iret C0 rfl hw hV dX8_act_158
end
