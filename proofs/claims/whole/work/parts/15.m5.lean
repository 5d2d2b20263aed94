section
variable {p : Program} {l : Launch} {e : Env} {s : State} {m : MethodId} {args : Array Value} {below : List Frame} {meth : Method} {c : Code}
variable {D : va_G} {n0 : Nat} {ad : Nat → Nat} {cI cJ : ClassId} {X : va_W}
/-! StepBench.weight(JIIIII)J -/
abbrev rm_X7_weight : Room := { frames := 3, cells := 0, slots := 0, locals := 66 }
set_option maxRecDepth 20000 in
theorem cw_X7_weight_428 : Cond.constantLong RX7 428 2 ∈ wsX7_weight := by decide +kernel
set_option maxRecDepth 20000 in
theorem cw_X7_weight_140 : Cond.constantLong RX7 140 1000000000 ∈ wsX7_weight := by decide +kernel
set_option maxRecDepth 20000 in
theorem hd_X7_weight : yX7_weight.cls ≠ "java/lang/invoke/MethodHandle" ∧ yX7_weight.cls ≠ "java/lang/invoke/VarHandle" ∧ (parseMethodDescriptor yX7_weight.desc).map (fun d => d.parameters.length) = some 6 := by decide +kernel
def V_X7_weight_37  (v2 : Int32) (v3 : Int32) (v4 : Int32) (v5 : Int32) (v6 : Int32) (v11 : Int64) (K11 : Int64 → Int64 → Int64 → SS → Prop) (post : Int64 → SS → Prop) : Nat → Int64 → Int64 → Int32 → SS → Prop
  | 0, _, _, _, _ => False
  | n + 1, v7, v9, v13, S =>
    (((64 : Int32) ≤ v13 → ((v11 = (2 : Int64) → (∀ y11 : Int64, y11 = (v11 + (1 : Int64)) → (K11 v7 v9 y11 S))) ∧ (¬ v11 = (2 : Int64) → (∀ y12 : Int64, y12 = (v11 + (2 : Int64)) → (K11 v7 v9 y12 S))))) ∧ (¬ (64 : Int32) ≤ v13 → (¬ v11 = 0 ∧ (((lrm v9 v11) = (0 : Int64) → (¬ v11 = 0 ∧ (∀ y14 : Int64, y14 = (v9 / v11) → (V_X7_weightOfPrime v11 v2 v3 v4 v5 v6 S (fun (r15 : Int64) (S16 : SS) => (∀ y17 : Int64, y17 = (v7 + r15) → (∀ x18 : Int32, x18 = v13 + 1 → (V_X7_weight_37  v2 v3 v4 v5 v6 v11 K11 post n y17 y14 x18 S16)))))))) ∧ (¬ (lrm v9 v11) = (0 : Int64) → ((v11 = (2 : Int64) → (∀ y20 : Int64, y20 = (v11 + (1 : Int64)) → (K11 v7 v9 y20 S))) ∧ (¬ v11 = (2 : Int64) → (∀ y21 : Int64, y21 = (v11 + (2 : Int64)) → (K11 v7 v9 y21 S)))))))))
set_option maxHeartbeats 4000000 in
set_option maxRecDepth 100000 in
theorem lp_X7_weight_37  (v2 : Int32) (v3 : Int32) (v4 : Int32) (v5 : Int32) (v6 : Int32) (v11 : Int64) (K11 : Int64 → Int64 → Int64 → SS → Prop) (post : Int64 → SS → Prop) (C0 : Bd p s m meth c args cX7_weight 14 (some .long) wsX7_weight RX7 D n0 cI cJ) (hK11 : ∀ (v7 : Int64) (v9 : Int64) (v11 : Int64) (S : SS), K11 v7 v9 v11 S → ∀ (H : Heap) (locs : List Loc), Wh D n0 ad cI cJ X S s H locs → ∀ ls : Array Slot, lv_has ls 14 [(2, .int v2), (3, .int v3), (4, .int v4), (5, .int v5), (6, .int v6), (7, .long v7), (9, .long v9), (11, .long v11)] → W p l e rm_X7_weight s m args below meth c H locs 0 0 (MQ below (va_Ql post (fun S' t => Wd D n0 ad cI cJ X S' t) (fr n0)) args s 0 0 (fr n0)) (F0 m 11 ls [])) : ∀ (n : Nat) (v7 : Int64) (v9 : Int64) (v13 : Int32) (S : SS), V_X7_weight_37  v2 v3 v4 v5 v6 v11 K11 post n v7 v9 v13 S → ∀ (H : Heap) (locs : List Loc), Wh D n0 ad cI cJ X S s H locs → ∀ ls : Array Slot, lv_has ls 14 [(2, .int v2), (3, .int v3), (4, .int v4), (5, .int v5), (6, .int v6), (7, .long v7), (9, .long v9), (11, .long v11), (13, .int v13)] → W p l e rm_X7_weight s m args below meth c H locs 0 0 (MQ below (va_Ql post (fun S' t => Wd D n0 ad cI cJ X S' t) (fr n0)) args s 0 0 (fr n0)) (F0 m 37 ls []) := by
  intro n
  induction n with
  | zero => intro v7 v9 v13 S hV; exact False.elim hV
  | succ n ih =>
    intro v7 v9 v13 S hV H locs hw ls hl
    rw [V_X7_weight_37] at hV
    refine lv_iload C0.x C0.b dX7_weight_37 (lv_at hl 8 rfl) ?_
    refine lv_bipush (v := 64) C0.x C0.b dX7_weight_39 (by decide) ?_
    refine lv_icmp_ge (tgt := 85) C0.x C0.b dX7_weight_41 (by decide) (fun c9 => ?_) (fun c9 => ?_)
    · have hV := hV.1 c9
      refine lv_lload C0.x C0.b dX7_weight_85 (lv_at hl 7 rfl) ?_
      refine lv_lload C0.x C0.b dX7_weight_87 (lv_at hl 7 rfl) ?_
      refine lv_ldc2 (v := 2) C0.x C0.b C0.ow (C0.ts _ cw_X7_weight_428) dX7_weight_89 ?_
      refine r_lcmp C0 dX7_weight_92 ?_
      refine lv_if_ne (tgt := 100) C0.x C0.b dX7_weight_93 (by decide) (fun c10 => ?_) (fun c10 => ?_)
      · have hV := hV.2 (fun h => c10 ((lc_eq _ _).mpr h))
        refine lv_ldc2 (v := 2) C0.x C0.b C0.ow (C0.ts _ cw_X7_weight_428) dX7_weight_100 ?_
        refine lv_ladd C0.x C0.b dX7_weight_103 ?_
        refine lv_topl (fun y12 ey12 => ?_)
        have hV := hV y12 ey12
        refine lv_lstore (lv' := [(11, .long y12), (2, .int v2), (3, .int v3), (4, .int v4), (5, .int v5), (6, .int v6), (7, .long v7), (9, .long v9), (13, .int v13)]) C0.x C0.b dX7_weight_104 hl (by decide) rfl (fun ls hl => ?_)
        refine lv_goto (tgt := 11) C0.x C0.b dX7_weight_106 (by decide) ?_
        exact hK11 _ _ _ _ hV _ _ hw _ (lv_sub hl [1, 2, 3, 4, 5, 6, 7, 0] rfl)
      · have hV := hV.1 ((lc_eq _ _).mp c10)
        refine lv_lconst (v := 1) C0.x C0.b dX7_weight_96 (by decide) ?_
        refine lv_goto (tgt := 103) C0.x C0.b dX7_weight_97 (by decide) ?_
        refine lv_ladd C0.x C0.b dX7_weight_103 ?_
        refine lv_topl (fun y11 ey11 => ?_)
        have hV := hV y11 ey11
        refine lv_lstore (lv' := [(11, .long y11), (2, .int v2), (3, .int v3), (4, .int v4), (5, .int v5), (6, .int v6), (7, .long v7), (9, .long v9), (13, .int v13)]) C0.x C0.b dX7_weight_104 hl (by decide) rfl (fun ls hl => ?_)
        refine lv_goto (tgt := 11) C0.x C0.b dX7_weight_106 (by decide) ?_
        exact hK11 _ _ _ _ hV _ _ hw _ (lv_sub hl [1, 2, 3, 4, 5, 6, 7, 0] rfl)
    · have hV := hV.2 c9
      refine lv_lload C0.x C0.b dX7_weight_44 (lv_at hl 6 rfl) ?_
      refine lv_lload C0.x C0.b dX7_weight_46 (lv_at hl 7 rfl) ?_
      refine lv_lrem C0.x C0.b dX7_weight_48 hV.1 ?_
      have hV := hV.2
      refine lv_lconst (v := 0) C0.x C0.b dX7_weight_49 (by decide) ?_
      refine r_lcmp C0 dX7_weight_50 ?_
      refine lv_if_ne (tgt := 85) C0.x C0.b dX7_weight_51 (by decide) (fun c13 => ?_) (fun c13 => ?_)
      · have hV := hV.2 (fun h => c13 ((lc_eq _ _).mpr h))
        refine lv_lload C0.x C0.b dX7_weight_85 (lv_at hl 7 rfl) ?_
        refine lv_lload C0.x C0.b dX7_weight_87 (lv_at hl 7 rfl) ?_
        refine lv_ldc2 (v := 2) C0.x C0.b C0.ow (C0.ts _ cw_X7_weight_428) dX7_weight_89 ?_
        refine r_lcmp C0 dX7_weight_92 ?_
        refine lv_if_ne (tgt := 100) C0.x C0.b dX7_weight_93 (by decide) (fun c19 => ?_) (fun c19 => ?_)
        · have hV := hV.2 (fun h => c19 ((lc_eq _ _).mpr h))
          refine lv_ldc2 (v := 2) C0.x C0.b C0.ow (C0.ts _ cw_X7_weight_428) dX7_weight_100 ?_
          refine lv_ladd C0.x C0.b dX7_weight_103 ?_
          refine lv_topl (fun y21 ey21 => ?_)
          have hV := hV y21 ey21
          refine lv_lstore (lv' := [(11, .long y21), (2, .int v2), (3, .int v3), (4, .int v4), (5, .int v5), (6, .int v6), (7, .long v7), (9, .long v9), (13, .int v13)]) C0.x C0.b dX7_weight_104 hl (by decide) rfl (fun ls hl => ?_)
          refine lv_goto (tgt := 11) C0.x C0.b dX7_weight_106 (by decide) ?_
          exact hK11 _ _ _ _ hV _ _ hw _ (lv_sub hl [1, 2, 3, 4, 5, 6, 7, 0] rfl)
        · have hV := hV.1 ((lc_eq _ _).mp c19)
          refine lv_lconst (v := 1) C0.x C0.b dX7_weight_96 (by decide) ?_
          refine lv_goto (tgt := 103) C0.x C0.b dX7_weight_97 (by decide) ?_
          refine lv_ladd C0.x C0.b dX7_weight_103 ?_
          refine lv_topl (fun y20 ey20 => ?_)
          have hV := hV y20 ey20
          refine lv_lstore (lv' := [(11, .long y20), (2, .int v2), (3, .int v3), (4, .int v4), (5, .int v5), (6, .int v6), (7, .long v7), (9, .long v9), (13, .int v13)]) C0.x C0.b dX7_weight_104 hl (by decide) rfl (fun ls hl => ?_)
          refine lv_goto (tgt := 11) C0.x C0.b dX7_weight_106 (by decide) ?_
          exact hK11 _ _ _ _ hV _ _ hw _ (lv_sub hl [1, 2, 3, 4, 5, 6, 7, 0] rfl)
      · have hV := hV.1 ((lc_eq _ _).mp c13)
        refine lv_lload C0.x C0.b dX7_weight_54 (lv_at hl 6 rfl) ?_
        refine lv_lload C0.x C0.b dX7_weight_56 (lv_at hl 7 rfl) ?_
        refine lv_ldiv C0.x C0.b dX7_weight_58 hV.1 ?_
        have hV := hV.2
        refine lv_topl (fun y14 ey14 => ?_)
        have hV := hV y14 ey14
        refine lv_lstore (lv' := [(9, .long y14), (2, .int v2), (3, .int v3), (4, .int v4), (5, .int v5), (6, .int v6), (7, .long v7), (11, .long v11), (13, .int v13)]) C0.x C0.b dX7_weight_59 hl (by decide) rfl (fun ls hl => ?_)
        refine lv_lload C0.x C0.b dX7_weight_61 (lv_at hl 6 rfl) ?_
        refine lv_lload C0.x C0.b dX7_weight_63 (lv_at hl 7 rfl) ?_
        refine lv_iload_n C0.x C0.b dX7_weight_65 rfl (lv_at hl 1 rfl) ?_
        refine lv_iload_n C0.x C0.b dX7_weight_66 rfl (lv_at hl 2 rfl) ?_
        refine lv_iload C0.x C0.b dX7_weight_67 (lv_at hl 3 rfl) ?_
        refine lv_iload C0.x C0.b dX7_weight_69 (lv_at hl 4 rfl) ?_
        refine lv_iload C0.x C0.b dX7_weight_71 (lv_at hl 5 rfl) ?_
        refine r_cS_l (As := [.long v11, .int v2, .int v3, .int v4, .int v5, .int v6]) (rest := [.long v7]) C0 hw (c_X7_weightOfPrime  hV) (va_cwS 6 C0.ts gX7_weight_X7_weightOfPrime rfl rfl rfl hd_X7_weightOfPrime ⟨Nat.le_of_ble_eq_true rfl, Nat.le_of_ble_eq_true rfl⟩) rfl hl.1 rfl (Nat.le_of_ble_eq_true rfl) ⟨Nat.le_of_ble_eq_true rfl, Nat.le_of_ble_eq_true rfl⟩ dX7_weight_73 (fun r15 S16 H locs hV hw => ?_)
        refine lv_ladd C0.x C0.b dX7_weight_76 ?_
        refine lv_topl (fun y17 ey17 => ?_)
        have hV := hV y17 ey17
        refine lv_lstore (lv' := [(7, .long y17), (9, .long y14), (2, .int v2), (3, .int v3), (4, .int v4), (5, .int v5), (6, .int v6), (11, .long v11), (13, .int v13)]) C0.x C0.b dX7_weight_77 hl (by decide) rfl (fun ls hl => ?_)
        obtain ⟨x18, ex18⟩ : ∃ z : Int32, z = v13 + 1 := ⟨_, rfl⟩
        have hV := hV x18 ex18
        refine lv_iinc (v := x18) (lv' := [(13, .int x18), (7, .long y17), (9, .long y14), (2, .int v2), (3, .int v3), (4, .int v4), (5, .int v5), (6, .int v6), (11, .long v11)]) C0.x C0.b dX7_weight_79 hl (k := 8) rfl (by rw [ex18]; rfl) (by decide) rfl (fun ls hl => ?_)
        refine lv_goto (tgt := 37) C0.x C0.b dX7_weight_82 (by decide) ?_
        exact ih _ _ _ _ hV _ _ hw _ (lv_sub hl [3, 4, 5, 6, 7, 1, 2, 8, 0] rfl)
def V_X7_weight_11  (v2 : Int32) (v3 : Int32) (v4 : Int32) (v5 : Int32) (v6 : Int32)  (post : Int64 → SS → Prop) : Nat → Int64 → Int64 → Int64 → SS → Prop
  | 0, _, _, _, _ => False
  | n + 1, v7, v9, v11, S =>
    (((1000000000 : Int64) < (v11 * v11) → ((v9 ≤ (1 : Int64) → (post v7 S)) ∧ (¬ v9 ≤ (1 : Int64) → (V_X7_weightOfPrime v9 v2 v3 v4 v5 v6 S (fun (r3 : Int64) (S4 : SS) => (post (v7 + r3) S4)))))) ∧ (¬ (1000000000 : Int64) < (v11 * v11) → ((v9 < (v11 * v11) → ((v9 ≤ (1 : Int64) → (post v7 S)) ∧ (¬ v9 ≤ (1 : Int64) → (V_X7_weightOfPrime v9 v2 v3 v4 v5 v6 S (fun (r7 : Int64) (S8 : SS) => (post (v7 + r7) S8)))))) ∧ (¬ v9 < (v11 * v11) → (∃ n37 : Nat, V_X7_weight_37  v2 v3 v4 v5 v6 v11 (fun w7 w9 w11 T => V_X7_weight_11  v2 v3 v4 v5 v6  post n w7 w9 w11 T) post n37 v7 v9 (0 : Int32) S)))))
set_option maxHeartbeats 4000000 in
set_option maxRecDepth 100000 in
theorem lp_X7_weight_11  (v2 : Int32) (v3 : Int32) (v4 : Int32) (v5 : Int32) (v6 : Int32)  (post : Int64 → SS → Prop) (C0 : Bd p s m meth c args cX7_weight 14 (some .long) wsX7_weight RX7 D n0 cI cJ) : ∀ (n : Nat) (v7 : Int64) (v9 : Int64) (v11 : Int64) (S : SS), V_X7_weight_11  v2 v3 v4 v5 v6  post n v7 v9 v11 S → ∀ (H : Heap) (locs : List Loc), Wh D n0 ad cI cJ X S s H locs → ∀ ls : Array Slot, lv_has ls 14 [(2, .int v2), (3, .int v3), (4, .int v4), (5, .int v5), (6, .int v6), (7, .long v7), (9, .long v9), (11, .long v11)] → W p l e rm_X7_weight s m args below meth c H locs 0 0 (MQ below (va_Ql post (fun S' t => Wd D n0 ad cI cJ X S' t) (fr n0)) args s 0 0 (fr n0)) (F0 m 11 ls []) := by
  intro n
  induction n with
  | zero => intro v7 v9 v11 S hV; exact False.elim hV
  | succ n ih =>
    intro v7 v9 v11 S hV H locs hw ls hl
    rw [V_X7_weight_11] at hV
    refine lv_lload C0.x C0.b dX7_weight_11 (lv_at hl 7 rfl) ?_
    refine lv_lload C0.x C0.b dX7_weight_13 (lv_at hl 7 rfl) ?_
    refine lv_lmul C0.x C0.b dX7_weight_15 ?_
    refine lv_ldc2 (v := 1000000000) C0.x C0.b C0.ow (C0.ts _ cw_X7_weight_140) dX7_weight_16 ?_
    refine r_lcmp C0 dX7_weight_19 ?_
    refine lv_if_gt (tgt := 109) C0.x C0.b dX7_weight_20 (by decide) (fun c1 => ?_) (fun c1 => ?_)
    · have hV := hV.1 ((lc_gt _ _).mp c1)
      refine lv_lload C0.x C0.b dX7_weight_109 (lv_at hl 6 rfl) ?_
      refine lv_lconst (v := 1) C0.x C0.b dX7_weight_111 (by decide) ?_
      refine r_lcmp C0 dX7_weight_112 ?_
      refine lv_if_le (tgt := 135) C0.x C0.b dX7_weight_113 (by decide) (fun c2 => ?_) (fun c2 => ?_)
      · have hV := hV.1 ((lc_le _ _).mp c2)
        refine lv_lload C0.x C0.b dX7_weight_135 (lv_at hl 5 rfl) ?_
        exact r_lret C0 rfl hw hV dX7_weight_137
      · have hV := hV.2 (fun h => c2 ((lc_le _ _).mpr h))
        refine lv_lload C0.x C0.b dX7_weight_116 (lv_at hl 5 rfl) ?_
        refine lv_lload C0.x C0.b dX7_weight_118 (lv_at hl 6 rfl) ?_
        refine lv_iload_n C0.x C0.b dX7_weight_120 rfl (lv_at hl 0 rfl) ?_
        refine lv_iload_n C0.x C0.b dX7_weight_121 rfl (lv_at hl 1 rfl) ?_
        refine lv_iload C0.x C0.b dX7_weight_122 (lv_at hl 2 rfl) ?_
        refine lv_iload C0.x C0.b dX7_weight_124 (lv_at hl 3 rfl) ?_
        refine lv_iload C0.x C0.b dX7_weight_126 (lv_at hl 4 rfl) ?_
        refine r_cS_l (As := [.long v9, .int v2, .int v3, .int v4, .int v5, .int v6]) (rest := [.long v7]) C0 hw (c_X7_weightOfPrime  hV) (va_cwS 6 C0.ts gX7_weight_X7_weightOfPrime rfl rfl rfl hd_X7_weightOfPrime ⟨Nat.le_of_ble_eq_true rfl, Nat.le_of_ble_eq_true rfl⟩) rfl hl.1 rfl (Nat.le_of_ble_eq_true rfl) ⟨Nat.le_of_ble_eq_true rfl, Nat.le_of_ble_eq_true rfl⟩ dX7_weight_128 (fun r3 S4 H locs hV hw => ?_)
        refine lv_ladd C0.x C0.b dX7_weight_131 ?_
        refine lv_goto (tgt := 137) C0.x C0.b dX7_weight_132 (by decide) ?_
        exact r_lret C0 rfl hw hV dX7_weight_137
    · have hV := hV.2 (fun h => c1 ((lc_gt _ _).mpr h))
      refine lv_lload C0.x C0.b dX7_weight_23 (lv_at hl 7 rfl) ?_
      refine lv_lload C0.x C0.b dX7_weight_25 (lv_at hl 7 rfl) ?_
      refine lv_lmul C0.x C0.b dX7_weight_27 ?_
      refine lv_lload C0.x C0.b dX7_weight_28 (lv_at hl 6 rfl) ?_
      refine r_lcmp C0 dX7_weight_30 ?_
      refine lv_if_gt (tgt := 109) C0.x C0.b dX7_weight_31 (by decide) (fun c5 => ?_) (fun c5 => ?_)
      · have hV := hV.1 ((lc_gt _ _).mp c5)
        refine lv_lload C0.x C0.b dX7_weight_109 (lv_at hl 6 rfl) ?_
        refine lv_lconst (v := 1) C0.x C0.b dX7_weight_111 (by decide) ?_
        refine r_lcmp C0 dX7_weight_112 ?_
        refine lv_if_le (tgt := 135) C0.x C0.b dX7_weight_113 (by decide) (fun c6 => ?_) (fun c6 => ?_)
        · have hV := hV.1 ((lc_le _ _).mp c6)
          refine lv_lload C0.x C0.b dX7_weight_135 (lv_at hl 5 rfl) ?_
          exact r_lret C0 rfl hw hV dX7_weight_137
        · have hV := hV.2 (fun h => c6 ((lc_le _ _).mpr h))
          refine lv_lload C0.x C0.b dX7_weight_116 (lv_at hl 5 rfl) ?_
          refine lv_lload C0.x C0.b dX7_weight_118 (lv_at hl 6 rfl) ?_
          refine lv_iload_n C0.x C0.b dX7_weight_120 rfl (lv_at hl 0 rfl) ?_
          refine lv_iload_n C0.x C0.b dX7_weight_121 rfl (lv_at hl 1 rfl) ?_
          refine lv_iload C0.x C0.b dX7_weight_122 (lv_at hl 2 rfl) ?_
          refine lv_iload C0.x C0.b dX7_weight_124 (lv_at hl 3 rfl) ?_
          refine lv_iload C0.x C0.b dX7_weight_126 (lv_at hl 4 rfl) ?_
          refine r_cS_l (As := [.long v9, .int v2, .int v3, .int v4, .int v5, .int v6]) (rest := [.long v7]) C0 hw (c_X7_weightOfPrime  hV) (va_cwS 6 C0.ts gX7_weight_X7_weightOfPrime rfl rfl rfl hd_X7_weightOfPrime ⟨Nat.le_of_ble_eq_true rfl, Nat.le_of_ble_eq_true rfl⟩) rfl hl.1 rfl (Nat.le_of_ble_eq_true rfl) ⟨Nat.le_of_ble_eq_true rfl, Nat.le_of_ble_eq_true rfl⟩ dX7_weight_128 (fun r7 S8 H locs hV hw => ?_)
          refine lv_ladd C0.x C0.b dX7_weight_131 ?_
          refine lv_goto (tgt := 137) C0.x C0.b dX7_weight_132 (by decide) ?_
          exact r_lret C0 rfl hw hV dX7_weight_137
      · have hV := hV.2 (fun h => c5 ((lc_gt _ _).mpr h))
        refine lv_iconst (v := 0) C0.x C0.b dX7_weight_34 (by decide) ?_
        refine lv_istore (lv' := [(13, .int (0 : Int32)), (2, .int v2), (3, .int v3), (4, .int v4), (5, .int v5), (6, .int v6), (7, .long v7), (9, .long v9), (11, .long v11)]) C0.x C0.b dX7_weight_35 hl (by decide) rfl (fun ls hl => ?_)
        obtain ⟨n37, hV⟩ := hV
        exact lp_X7_weight_37  _ _ _ _ _ _ _ post C0 ih n37 _ _ _ _ hV _ _ hw _ (lv_sub hl [1, 2, 3, 4, 5, 6, 7, 8, 0] rfl)
def V_X7_weight  (p0 : Int64) (p1 : Int32) (p2 : Int32) (p3 : Int32) (p4 : Int32) (p5 : Int32) (S : SS) (post : Int64 → SS → Prop) : Prop :=
  (∃ n11 : Nat, V_X7_weight_11  p1 p2 p3 p4 p5  post n11 (0 : Int64) p0 (2 : Int64) S)
set_option maxHeartbeats 4000000 in
set_option maxRecDepth 100000 in
theorem c_X7_weight  {S : SS} {p0 : Int64} {p1 : Int32} {p2 : Int32} {p3 : Int32} {p4 : Int32} {p5 : Int32} {post : Int64 → SS → Prop} (hV : V_X7_weight  p0 p1 p2 p3 p4 p5 S post) : ML l yX7_weight wsX7_weight rm_X7_weight [.long p0, .int p1, .int p2, .int p3, .int p4, .int p5] D n0 ad cI cJ X S post := by
  refine Met.ofW (cc := cX7_weight) (maxL := 14) (ret := (some .long)) (by decide) rfl ?_
  intro p e s m args below meth c s₁ B hml hv
  obtain ⟨rfl, hv⟩ := hv
  have C0 := Bd.mk B hml (atoms_spec (ws := wsX7_weight) B.pre) (findClass_of_methodNamed B.named) hv.1
  have hw : Wh D n0 ad cI cJ X S s s.heap [] := ⟨hv.2.1, hv.2.2, va_S.rf⟩
  refine r_entry (Nat.le_of_ble_eq_true rfl) (fun ls hl => ?_)
  have hl : lv_has ls 14 [(0, .long p0), (2, .int p1), (3, .int p2), (4, .int p3), (5, .int p4), (6, .int p5)] := hl
  unfold V_X7_weight at hV
  refine lv_lconst (v := 0) C0.x C0.b dX7_weight_0 (by decide) ?_
  refine lv_lstore (lv' := [(7, .long (0 : Int64)), (0, .long p0), (2, .int p1), (3, .int p2), (4, .int p3), (5, .int p4), (6, .int p5)]) C0.x C0.b dX7_weight_1 hl (by decide) rfl (fun ls hl => ?_)
  refine lv_lload_n C0.x C0.b dX7_weight_3 rfl (lv_at hl 1 rfl) ?_
  refine lv_lstore (lv' := [(9, .long p0), (7, .long (0 : Int64)), (0, .long p0), (2, .int p1), (3, .int p2), (4, .int p3), (5, .int p4), (6, .int p5)]) C0.x C0.b dX7_weight_4 hl (by decide) rfl (fun ls hl => ?_)
  refine lv_ldc2 (v := 2) C0.x C0.b C0.ow (C0.ts _ cw_X7_weight_428) dX7_weight_6 ?_
  refine lv_lstore (lv' := [(11, .long (2 : Int64)), (9, .long p0), (7, .long (0 : Int64)), (0, .long p0), (2, .int p1), (3, .int p2), (4, .int p3), (5, .int p4), (6, .int p5)]) C0.x C0.b dX7_weight_9 hl (by decide) rfl (fun ls hl => ?_)
  obtain ⟨n11, hV⟩ := hV
  exact lp_X7_weight_11  _ _ _ _ _ post C0  n11 _ _ _ _ hV _ _ hw _ (lv_sub hl [4, 5, 6, 7, 8, 2, 1, 0] rfl)
/-! StepBench.law(IIIII)I -/
abbrev rm_X7_law : Room := { frames := 4, cells := 0, slots := 0, locals := 99 }
set_option maxRecDepth 20000 in
theorem fw_X7_law_9 : Cond.fieldLink RX7 9 "StepBench" "ruleKind" "I" ∈ wsX7_law := by decide +kernel
set_option maxRecDepth 20000 in
theorem iw_X7_law_X7 : ∀ w ∈ wsX70, w ∈ wsX7_law := by decide +kernel
set_option maxRecDepth 20000 in
theorem fw_X7_law_29 : Cond.fieldLink RX7 29 "StepBench" "fractions" "LStepBench$Fractions;" ∈ wsX7_law := by decide +kernel
set_option maxRecDepth 20000 in
theorem hd_X7_law : yX7_law.cls = RX7 ∧ yX7_law.cls ≠ "java/lang/invoke/MethodHandle" ∧ yX7_law.cls ≠ "java/lang/invoke/VarHandle" ∧ (parseMethodDescriptor yX7_law.desc).map (fun d => d.parameters.length) = some 5 := by decide +kernel
def V_X7_law_14  (v1 : Int32) (v2 : Int32) (v3 : Int32) (v4 : Int32) (v5 : Int32)  (post : Int32 → SS → Prop) : Nat → Int32 → SS → Prop
  | 0, _, _ => False
  | n + 1, v6, S =>
    (V_X0_size  S (fun (r2 : Int32) (S3 : SS) => ((r2 ≤ v6 → (post (-1 : Int32) S3)) ∧ (¬ r2 ≤ v6 → (V_X0_isEverFirst v6 S3 (fun (r5 : Int32) (S6 : SS) => ((r5 = 0 → (∀ x8 : Int32, x8 = v6 + 1 → (V_X7_law_14  v1 v2 v3 v4 v5  post n x8 S6))) ∧ (¬ r5 = 0 → (V_X0_over v6 S6 (fun (r9 : Int64) (S10 : SS) => (V_X7_weight r9 v1 v2 v3 v4 v5 S10 (fun (r11 : Int64) (S12 : SS) => (V_X0_under v6 S12 (fun (r13 : Int64) (S14 : SS) => (V_X7_weight r13 v1 v2 v3 v4 v5 S14 (fun (r15 : Int64) (S16 : SS) => ((r11 = r15 → (∀ x18 : Int32, x18 = v6 + 1 → (V_X7_law_14  v1 v2 v3 v4 v5  post n x18 S16))) ∧ (¬ r11 = r15 → (post v6 S16)))))))))))))))))))
set_option maxHeartbeats 4000000 in
set_option maxRecDepth 100000 in
theorem lp_X7_law_14  (v1 : Int32) (v2 : Int32) (v3 : Int32) (v4 : Int32) (v5 : Int32)  (post : Int32 → SS → Prop) (C0 : Bd p s m meth c args cX7_law 7 (some .int) wsX7_law RX7 D n0 cI cJ) : ∀ (n : Nat) (v6 : Int32) (S : SS), V_X7_law_14  v1 v2 v3 v4 v5  post n v6 S → ∀ (H : Heap) (locs : List Loc), Wh D n0 ad cI cJ X S s H locs → ∀ ls : Array Slot, lv_has ls 7 [(0, .ref (ad 0)), (1, .int v1), (2, .int v2), (3, .int v3), (4, .int v4), (5, .int v5), (6, .int v6)] → W p l e rm_X7_law s m args below meth c H locs 0 0 (MQ below (va_Qi post (fun S' t => Wd D n0 ad cI cJ X S' t) (fr n0)) args s 0 0 (fr n0)) (F0 m 14 ls []) := by
  intro n
  induction n with
  | zero => intro v6 S hV; exact False.elim hV
  | succ n ih =>
    intro v6 S hV H locs hw ls hl
    rw [V_X7_law_14] at hV
    refine lv_iload C0.x C0.b dX7_law_14 (lv_at hl 6 rfl) ?_
    refine lv_aload_n C0.x C0.b dX7_law_16 rfl (lv_at hl 0 rfl) ?_
    refine r_get C0 hw (C := RX7) (T := TX7) (N := 15) (v := .ref (ad 13)) iw_X7_law_X7 (lg_0 ad cI cJ X S) rfl 4 (by decide) (C0.ts _ fw_X7_law_29) rfl dX7_law_17 ?_
    refine r_cV_i (As := []) (rest := [.int v6]) C0 hw (c_X0_size  hV) (cwV 0 C0.ts gX7_law_X0_size rfl rfl rfl hd_X0_size ⟨Nat.le_of_ble_eq_true rfl, Nat.le_of_ble_eq_true rfl⟩) (lg_13 ad cI cJ X S) rfl rfl hl.1 rfl (Nat.le_of_ble_eq_true rfl) ⟨Nat.le_of_ble_eq_true rfl, Nat.le_of_ble_eq_true rfl⟩ dX7_law_20 (fun r2 S3 H locs hV hw => ?_)
    refine lv_icmp_ge (tgt := 89) C0.x C0.b dX7_law_23 (by decide) (fun c4 => ?_) (fun c4 => ?_)
    · have hV := hV.1 c4
      refine lv_iconst (v := -1) C0.x C0.b dX7_law_89 (by decide) ?_
      exact r_iret C0 rfl hw hV dX7_law_90
    · have hV := hV.2 c4
      refine lv_aload_n C0.x C0.b dX7_law_26 rfl (lv_at hl 0 rfl) ?_
      refine r_get C0 hw (C := RX7) (T := TX7) (N := 15) (v := .ref (ad 13)) iw_X7_law_X7 (lg_0 ad cI cJ X S3) rfl 4 (by decide) (C0.ts _ fw_X7_law_29) rfl dX7_law_27 ?_
      refine lv_iload C0.x C0.b dX7_law_30 (lv_at hl 6 rfl) ?_
      refine r_cV_i (As := [.int v6]) (rest := []) C0 hw (c_X0_isEverFirst  hV) (cwV 1 C0.ts gX7_law_X0_isEverFirst rfl rfl rfl hd_X0_isEverFirst ⟨Nat.le_of_ble_eq_true rfl, Nat.le_of_ble_eq_true rfl⟩) (lg_13 ad cI cJ X S3) rfl rfl hl.1 rfl (Nat.le_of_ble_eq_true rfl) ⟨Nat.le_of_ble_eq_true rfl, Nat.le_of_ble_eq_true rfl⟩ dX7_law_32 (fun r5 S6 H locs hV hw => ?_)
      refine lv_if_eq (tgt := 83) C0.x C0.b dX7_law_35 (by decide) (fun c7 => ?_) (fun c7 => ?_)
      · have hV := hV.1 c7
        obtain ⟨x8, ex8⟩ : ∃ z : Int32, z = v6 + 1 := ⟨_, rfl⟩
        have hV := hV x8 ex8
        refine lv_iinc (v := x8) (lv' := [(6, .int x8), (0, .ref (ad 0)), (1, .int v1), (2, .int v2), (3, .int v3), (4, .int v4), (5, .int v5)]) C0.x C0.b dX7_law_83 hl (k := 6) rfl (by rw [ex8]; rfl) (by decide) rfl (fun ls hl => ?_)
        refine lv_goto (tgt := 14) C0.x C0.b dX7_law_86 (by decide) ?_
        exact ih _ _ hV _ _ hw _ (lv_sub hl [1, 2, 3, 4, 5, 6, 0] rfl)
      · have hV := hV.2 c7
        refine lv_aload_n C0.x C0.b dX7_law_38 rfl (lv_at hl 0 rfl) ?_
        refine r_get C0 hw (C := RX7) (T := TX7) (N := 15) (v := .ref (ad 13)) iw_X7_law_X7 (lg_0 ad cI cJ X S6) rfl 4 (by decide) (C0.ts _ fw_X7_law_29) rfl dX7_law_39 ?_
        refine lv_iload C0.x C0.b dX7_law_42 (lv_at hl 6 rfl) ?_
        refine r_cV_l (As := [.int v6]) (rest := []) C0 hw (c_X0_over  hV) (cwV 1 C0.ts gX7_law_X0_over rfl rfl rfl hd_X0_over ⟨Nat.le_of_ble_eq_true rfl, Nat.le_of_ble_eq_true rfl⟩) (lg_13 ad cI cJ X S6) rfl rfl hl.1 rfl (Nat.le_of_ble_eq_true rfl) ⟨Nat.le_of_ble_eq_true rfl, Nat.le_of_ble_eq_true rfl⟩ dX7_law_44 (fun r9 S10 H locs hV hw => ?_)
        refine lv_iload_n C0.x C0.b dX7_law_47 rfl (lv_at hl 1 rfl) ?_
        refine lv_iload_n C0.x C0.b dX7_law_48 rfl (lv_at hl 2 rfl) ?_
        refine lv_iload_n C0.x C0.b dX7_law_49 rfl (lv_at hl 3 rfl) ?_
        refine lv_iload C0.x C0.b dX7_law_50 (lv_at hl 4 rfl) ?_
        refine lv_iload C0.x C0.b dX7_law_52 (lv_at hl 5 rfl) ?_
        refine r_cS_l (As := [.long r9, .int v1, .int v2, .int v3, .int v4, .int v5]) (rest := []) C0 hw (c_X7_weight  hV) (va_cwS 6 C0.ts gX7_law_X7_weight rfl rfl rfl hd_X7_weight ⟨Nat.le_of_ble_eq_true rfl, Nat.le_of_ble_eq_true rfl⟩) rfl hl.1 rfl (Nat.le_of_ble_eq_true rfl) ⟨Nat.le_of_ble_eq_true rfl, Nat.le_of_ble_eq_true rfl⟩ dX7_law_54 (fun r11 S12 H locs hV hw => ?_)
        refine lv_aload_n C0.x C0.b dX7_law_57 rfl (lv_at hl 0 rfl) ?_
        refine r_get C0 hw (C := RX7) (T := TX7) (N := 15) (v := .ref (ad 13)) iw_X7_law_X7 (lg_0 ad cI cJ X S12) rfl 4 (by decide) (C0.ts _ fw_X7_law_29) rfl dX7_law_58 ?_
        refine lv_iload C0.x C0.b dX7_law_61 (lv_at hl 6 rfl) ?_
        refine r_cV_l (As := [.int v6]) (rest := [.long r11]) C0 hw (c_X0_under  hV) (cwV 1 C0.ts gX7_law_X0_under rfl rfl rfl hd_X0_under ⟨Nat.le_of_ble_eq_true rfl, Nat.le_of_ble_eq_true rfl⟩) (lg_13 ad cI cJ X S12) rfl rfl hl.1 rfl (Nat.le_of_ble_eq_true rfl) ⟨Nat.le_of_ble_eq_true rfl, Nat.le_of_ble_eq_true rfl⟩ dX7_law_63 (fun r13 S14 H locs hV hw => ?_)
        refine lv_iload_n C0.x C0.b dX7_law_66 rfl (lv_at hl 1 rfl) ?_
        refine lv_iload_n C0.x C0.b dX7_law_67 rfl (lv_at hl 2 rfl) ?_
        refine lv_iload_n C0.x C0.b dX7_law_68 rfl (lv_at hl 3 rfl) ?_
        refine lv_iload C0.x C0.b dX7_law_69 (lv_at hl 4 rfl) ?_
        refine lv_iload C0.x C0.b dX7_law_71 (lv_at hl 5 rfl) ?_
        refine r_cS_l (As := [.long r13, .int v1, .int v2, .int v3, .int v4, .int v5]) (rest := [.long r11]) C0 hw (c_X7_weight  hV) (va_cwS 6 C0.ts gX7_law_X7_weight rfl rfl rfl hd_X7_weight ⟨Nat.le_of_ble_eq_true rfl, Nat.le_of_ble_eq_true rfl⟩) rfl hl.1 rfl (Nat.le_of_ble_eq_true rfl) ⟨Nat.le_of_ble_eq_true rfl, Nat.le_of_ble_eq_true rfl⟩ dX7_law_73 (fun r15 S16 H locs hV hw => ?_)
        refine r_lcmp C0 dX7_law_76 ?_
        refine lv_if_eq (tgt := 83) C0.x C0.b dX7_law_77 (by decide) (fun c17 => ?_) (fun c17 => ?_)
        · have hV := hV.1 ((lc_eq _ _).mp c17)
          obtain ⟨x18, ex18⟩ : ∃ z : Int32, z = v6 + 1 := ⟨_, rfl⟩
          have hV := hV x18 ex18
          refine lv_iinc (v := x18) (lv' := [(6, .int x18), (0, .ref (ad 0)), (1, .int v1), (2, .int v2), (3, .int v3), (4, .int v4), (5, .int v5)]) C0.x C0.b dX7_law_83 hl (k := 6) rfl (by rw [ex18]; rfl) (by decide) rfl (fun ls hl => ?_)
          refine lv_goto (tgt := 14) C0.x C0.b dX7_law_86 (by decide) ?_
          exact ih _ _ hV _ _ hw _ (lv_sub hl [1, 2, 3, 4, 5, 6, 0] rfl)
        · have hV := hV.2 (fun h => c17 ((lc_eq _ _).mpr h))
          refine lv_iload C0.x C0.b dX7_law_80 (lv_at hl 6 rfl) ?_
          exact r_iret C0 rfl hw hV dX7_law_82
def V_X7_law  (p0 : Int32) (p1 : Int32) (p2 : Int32) (p3 : Int32) (p4 : Int32) (S : SS) (post : Int32 → SS → Prop) : Prop :=
  (((gI S 0) = (2 : Int32) → (∃ n14 : Nat, V_X7_law_14  p0 p1 p2 p3 p4  post n14 (0 : Int32) S)) ∧ (¬ (gI S 0) = (2 : Int32) → (post (-2 : Int32) S)))
set_option maxHeartbeats 4000000 in
set_option maxRecDepth 100000 in
theorem c_X7_law  {S : SS} {p0 : Int32} {p1 : Int32} {p2 : Int32} {p3 : Int32} {p4 : Int32} {post : Int32 → SS → Prop} (hV : V_X7_law  p0 p1 p2 p3 p4 S post) : MI l yX7_law wsX7_law rm_X7_law [.ref (ad 0), .int p0, .int p1, .int p2, .int p3, .int p4] D n0 ad cI cJ X S post := by
  refine Met.ofW (cc := cX7_law) (maxL := 7) (ret := (some .int)) (by decide) rfl ?_
  intro p e s m args below meth c s₁ B hml hv
  obtain ⟨rfl, hv⟩ := hv
  have C0 := Bd.mk B hml (atoms_spec (ws := wsX7_law) B.pre) (findClass_of_methodNamed B.named) hv.1
  have hw : Wh D n0 ad cI cJ X S s s.heap [] := ⟨hv.2.1, hv.2.2, va_S.rf⟩
  refine r_entry (Nat.le_of_ble_eq_true rfl) (fun ls hl => ?_)
  have hl : lv_has ls 7 [(0, .ref (ad 0)), (1, .int p0), (2, .int p1), (3, .int p2), (4, .int p3), (5, .int p4)] := hl
  unfold V_X7_law at hV
  refine lv_aload_n C0.x C0.b dX7_law_0 rfl (lv_at hl 0 rfl) ?_
  refine r_get C0 hw (C := RX7) (T := TX7) (N := 15) (v := .int (gI S 0)) iw_X7_law_X7 (lg_0 ad cI cJ X S) rfl 0 (by decide) (C0.ts _ fw_X7_law_9) rfl dX7_law_1 ?_
  refine lv_iconst (v := 2) C0.x C0.b dX7_law_4 (by decide) ?_
  refine lv_icmp_eq (tgt := 11) C0.x C0.b dX7_law_5 (by decide) (fun c1 => ?_) (fun c1 => ?_)
  · have hV := hV.1 c1
    refine lv_iconst (v := 0) C0.x C0.b dX7_law_11 (by decide) ?_
    refine lv_istore (lv' := [(6, .int (0 : Int32)), (0, .ref (ad 0)), (1, .int p0), (2, .int p1), (3, .int p2), (4, .int p3), (5, .int p4)]) C0.x C0.b dX7_law_12 hl (by decide) rfl (fun ls hl => ?_)
    obtain ⟨n14, hV⟩ := hV
    exact lp_X7_law_14  _ _ _ _ _ post C0  n14 _ _ hV _ _ hw _ (lv_sub hl [1, 2, 3, 4, 5, 6, 0] rfl)
  · have hV := hV.2 c1
    refine lv_bipush (v := -2) C0.x C0.b dX7_law_8 (by decide) ?_
    exact r_iret C0 rfl hw hV dX7_law_10
/-! StepBench.row(I)J -/
abbrev rm_X7_row : Room := { frames := 6, cells := 1, slots := 6, locals := 110 }
set_option maxRecDepth 20000 in
theorem fw_X7_row_45 : Cond.fieldLink RX7 45 "StepBench" "numbers" "LStepBench$Numbers;" ∈ wsnX7_row := by decide +kernel
set_option maxRecDepth 20000 in
theorem iw_X7_row_X7 : ∀ w ∈ wsX70, w ∈ wsnX7_row := by decide +kernel
set_option maxRecDepth 20000 in
theorem tk_X7_row_165 : Cond.classLink RX7 165 "java/util/NoSuchElementException" ∈ wsnX7_row := by decide +kernel
set_option maxRecDepth 20000 in
theorem ti_X7_row_165 : Cond.initialized "java/util/NoSuchElementException" ∈ wsnX7_row := by decide +kernel
set_option maxRecDepth 20000 in
theorem th_X7_row_169 : ∀ w ∈ (nsAt RX7 169).filter goodWord, w ∈ wsnX7_row := by decide +kernel
set_option maxRecDepth 20000 in
theorem hd_X7_row : yX7_row.cls = RX7 ∧ yX7_row.cls ≠ "java/lang/invoke/MethodHandle" ∧ yX7_row.cls ≠ "java/lang/invoke/VarHandle" ∧ (parseMethodDescriptor yX7_row.desc).map (fun d => d.parameters.length) = some 1 := by decide +kernel
def V_X7_row  (p0 : Int32) (S : SS) (post : Int64 → SS → Prop) (px : String → SS → Prop) : Prop :=
  (V_X2_has 7 12 1000 p0 S (fun (r1 : Int32) (S2 : SS) => ((r1 = 0 → (px "java/util/NoSuchElementException" S2)) ∧ (¬ r1 = 0 → (V_X2_at 7 12 1000 p0 S2 (fun (r4 : Int64) (S5 : SS) => (post r4 S5)))))))
set_option maxHeartbeats 4000000 in
set_option maxRecDepth 100000 in
theorem c_X7_row (hlt : l.stackTraces = false)  {S : SS} {p0 : Int32} {post : Int64 → SS → Prop} {px : String → SS → Prop} (hV : V_X7_row  p0 S post px) : XL l yX7_row wsnX7_row rm_X7_row [.ref (ad 0), .int p0] D n0 ad cI cJ X S post px 1 6 := by
  refine vx_ofW (cc := cX7_row) (maxL := 2) (ret := (some .long)) (by decide) rfl ?_
  intro p e s m args below meth c s₁ B hml ht hv
  obtain ⟨rfl, hv⟩ := hv
  have C0 := Bd.mk B hml (atoms_spec (ws := wsnX7_row) B.pre) (findClass_of_methodNamed B.named) hv.1
  have hw : Wh D n0 ad cI cJ X S s s.heap [] := ⟨hv.2.1, hv.2.2, va_S.rf⟩
  refine r_entry (Nat.le_of_ble_eq_true rfl) (fun ls hl => ?_)
  have hl : lv_has ls 2 [(0, .ref (ad 0)), (1, .int p0)] := hl
  unfold V_X7_row at hV
  refine lv_aload_n C0.x C0.b dX7_row_0 rfl (lv_at hl 0 rfl) ?_
  refine r_get C0 hw (C := RX7) (T := TX7) (N := 15) (v := .ref (ad 19)) iw_X7_row_X7 (lg_0 ad cI cJ X S) rfl 6 (by decide) (C0.ts _ fw_X7_row_45) rfl dX7_row_1 ?_
  refine lv_iload_n C0.x C0.b dX7_row_4 rfl (lv_at hl 1 rfl) ?_
  refine r_cV_i (As := [.int p0]) (rest := []) C0 hw (c_X2_has (ln_19 ad cI cJ X) hV) (cwV 1 C0.ts ngX7_row_X2_has rfl rfl rfl hd_X2_has ⟨Nat.le_of_ble_eq_true rfl, Nat.le_of_ble_eq_true rfl⟩) (lg_19 ad cI cJ X S) rfl rfl hl.1 rfl (Nat.le_of_ble_eq_true rfl) ⟨Nat.le_of_ble_eq_true rfl, Nat.le_of_ble_eq_true rfl⟩ dX7_row_5 (fun r1 S2 H locs hV hw => ?_)
  refine lv_if_ne (tgt := 22) C0.x C0.b dX7_row_8 (by decide) (fun c3 => ?_) (fun c3 => ?_)
  · have hV := hV.2 c3
    refine lv_aload_n C0.x C0.b dX7_row_22 rfl (lv_at hl 0 rfl) ?_
    refine r_get C0 hw (C := RX7) (T := TX7) (N := 15) (v := .ref (ad 19)) iw_X7_row_X7 (lg_0 ad cI cJ X S2) rfl 6 (by decide) (C0.ts _ fw_X7_row_45) rfl dX7_row_23 ?_
    refine lv_iload_n C0.x C0.b dX7_row_26 rfl (lv_at hl 1 rfl) ?_
    refine r_cV_l (As := [.int p0]) (rest := []) C0 hw (c_X2_at (ln_19 ad cI cJ X) hV) (cwV 1 C0.ts ngX7_row_X2_at rfl rfl rfl hd_X2_at ⟨Nat.le_of_ble_eq_true rfl, Nat.le_of_ble_eq_true rfl⟩) (lg_19 ad cI cJ X S2) rfl rfl hl.1 rfl (Nat.le_of_ble_eq_true rfl) ⟨Nat.le_of_ble_eq_true rfl, Nat.le_of_ble_eq_true rfl⟩ dX7_row_27 (fun r4 S5 H locs hV hw => ?_)
    exact r_xret (Nat.le_of_ble_eq_true rfl) (Nat.le_of_ble_eq_true rfl) (r_lret C0 rfl hw hV dX7_row_30)
  · have hV := hV.1 c3
    exact r_nthW (text := "no such number of the row") C0 hlt ht hw (C0.ts _ tk_X7_row_165) (C0.ts _ ti_X7_row_165) (by decide +kernel) th_X7_row_169 hg_169 ho_169 hl.1 dX7_row_11 dX7_row_14 dX7_row_15 dX7_row_18 dX7_row_21 (Nat.le_of_ble_eq_true rfl) (Nat.le_of_ble_eq_true rfl) (Nat.le_of_ble_eq_true rfl) (Nat.le_of_ble_eq_true rfl) (Nat.le_of_ble_eq_true rfl) (Nat.le_of_ble_eq_true rfl) hV
/-! StepBenchModel.thrown()I -/
abbrev rm_X8_thrown : Room := { frames := 0, cells := 0, slots := 0, locals := 0 }
set_option maxRecDepth 20000 in
theorem fw_X8_thrown_61 : Cond.fieldLink RX8 61 "StepBenchModel" "thrown" "I" ∈ wsX8_thrown := by decide +kernel
set_option maxRecDepth 20000 in
theorem iw_X8_thrown_X8 : ∀ w ∈ wsX80, w ∈ wsX8_thrown := by decide +kernel
set_option maxRecDepth 20000 in
theorem hd_X8_thrown : yX8_thrown.cls = RX8 ∧ yX8_thrown.cls ≠ "java/lang/invoke/MethodHandle" ∧ yX8_thrown.cls ≠ "java/lang/invoke/VarHandle" ∧ (parseMethodDescriptor yX8_thrown.desc).map (fun d => d.parameters.length) = some 0 := by decide +kernel
def V_X8_thrown   (S : SS) (post : Int32 → SS → Prop) : Prop :=
  (post (gI S 20) S)
set_option maxHeartbeats 4000000 in
set_option maxRecDepth 100000 in
theorem c_X8_thrown  {S : SS}  {post : Int32 → SS → Prop} (hV : V_X8_thrown   S post) : MI l yX8_thrown wsX8_thrown rm_X8_thrown [.ref (ad 48)] D n0 ad cI cJ X S post := by
  refine Met.ofW (cc := cX8_thrown) (maxL := 1) (ret := (some .int)) (by decide) rfl ?_
  intro p e s m args below meth c s₁ B hml hv
  obtain ⟨rfl, hv⟩ := hv
  have C0 := Bd.mk B hml (atoms_spec (ws := wsX8_thrown) B.pre) (findClass_of_methodNamed B.named) hv.1
  have hw : Wh D n0 ad cI cJ X S s s.heap [] := ⟨hv.2.1, hv.2.2, va_S.rf⟩
  refine r_entry (Nat.le_of_ble_eq_true rfl) (fun ls hl => ?_)
  have hl : lv_has ls 1 [(0, .ref (ad 48))] := hl
  unfold V_X8_thrown at hV
  refine lv_aload_n C0.x C0.b dX8_thrown_0 rfl (lv_at hl 0 rfl) ?_
  refine r_get C0 hw (C := RX8) (T := TX8) (N := 33) (v := .int (gI S 20)) iw_X8_thrown_X8 (lg_48 ad cI cJ X S) rfl 0 (by decide) (C0.ts _ fw_X8_thrown_61) rfl dX8_thrown_1 ?_
  exact r_iret C0 rfl hw hV dX8_thrown_4
/-! StepBenchModel.in(JJJ)Z -/
abbrev rm_X8_in : Room := { frames := 0, cells := 0, slots := 0, locals := 0 }
set_option maxRecDepth 20000 in
theorem hd_X8_in : yX8_in.cls ≠ "java/lang/invoke/MethodHandle" ∧ yX8_in.cls ≠ "java/lang/invoke/VarHandle" ∧ (parseMethodDescriptor yX8_in.desc).map (fun d => d.parameters.length) = some 3 := by decide +kernel
def V_X8_in  (p0 : Int64) (p1 : Int64) (p2 : Int64) (S : SS) (post : Int32 → SS → Prop) : Prop :=
  ((p0 < p1 → (post (0 : Int32) S)) ∧ (¬ p0 < p1 → ((p2 < p0 → (post (0 : Int32) S)) ∧ (¬ p2 < p0 → (post (1 : Int32) S)))))
set_option maxHeartbeats 4000000 in
set_option maxRecDepth 100000 in
theorem c_X8_in  {S : SS} {p0 : Int64} {p1 : Int64} {p2 : Int64} {post : Int32 → SS → Prop} (hV : V_X8_in  p0 p1 p2 S post) : MI l yX8_in wsX8_in rm_X8_in [.long p0, .long p1, .long p2] D n0 ad cI cJ X S post := by
  refine Met.ofW (cc := cX8_in) (maxL := 6) (ret := (some .boolean)) (by decide) rfl ?_
  intro p e s m args below meth c s₁ B hml hv
  obtain ⟨rfl, hv⟩ := hv
  have C0 := Bd.mk B hml (atoms_spec (ws := wsX8_in) B.pre) (findClass_of_methodNamed B.named) hv.1
  have hw : Wh D n0 ad cI cJ X S s s.heap [] := ⟨hv.2.1, hv.2.2, va_S.rf⟩
  refine r_entry (Nat.le_of_ble_eq_true rfl) (fun ls hl => ?_)
  have hl : lv_has ls 6 [(0, .long p0), (2, .long p1), (4, .long p2)] := hl
  unfold V_X8_in at hV
  refine lv_lload_n C0.x C0.b dX8_in_0 rfl (lv_at hl 0 rfl) ?_
  refine lv_lload_n C0.x C0.b dX8_in_1 rfl (lv_at hl 1 rfl) ?_
  refine r_lcmp C0 dX8_in_2 ?_
  refine lv_if_lt (tgt := 17) C0.x C0.b dX8_in_3 (by decide) (fun c1 => ?_) (fun c1 => ?_)
  · have hV := hV.1 ((lc_lt _ _).mp c1)
    refine lv_iconst (v := 0) C0.x C0.b dX8_in_17 (by decide) ?_
    exact r_zret C0 rfl bz_0 hw hV dX8_in_18
  · have hV := hV.2 (fun h => c1 ((lc_lt _ _).mpr h))
    refine lv_lload_n C0.x C0.b dX8_in_6 rfl (lv_at hl 0 rfl) ?_
    refine lv_lload C0.x C0.b dX8_in_7 (lv_at hl 2 rfl) ?_
    refine r_lcmp C0 dX8_in_9 ?_
    refine lv_if_gt (tgt := 17) C0.x C0.b dX8_in_10 (by decide) (fun c2 => ?_) (fun c2 => ?_)
    · have hV := hV.1 ((lc_gt _ _).mp c2)
      refine lv_iconst (v := 0) C0.x C0.b dX8_in_17 (by decide) ?_
      exact r_zret C0 rfl bz_0 hw hV dX8_in_18
    · have hV := hV.2 (fun h => c2 ((lc_gt _ _).mpr h))
      refine lv_iconst (v := 1) C0.x C0.b dX8_in_13 (by decide) ?_
      refine lv_goto (tgt := 18) C0.x C0.b dX8_in_14 (by decide) ?_
      exact r_zret C0 rfl bz_1 hw hV dX8_in_18
/-! StepBenchModel.isNumber(J)Z -/
abbrev rm_X8_isNumber : Room := { frames := 1, cells := 0, slots := 0, locals := 25 }
set_option maxRecDepth 20000 in
theorem cw_X8_isNumber_64 : Cond.constantLong RX8 64 (-1000000000000000) ∈ wsX8_isNumber := by decide +kernel
set_option maxRecDepth 20000 in
theorem cw_X8_isNumber_66 : Cond.constantLong RX8 66 1000000000000000 ∈ wsX8_isNumber := by decide +kernel
set_option maxRecDepth 20000 in
theorem hd_X8_isNumber : yX8_isNumber.cls ≠ "java/lang/invoke/MethodHandle" ∧ yX8_isNumber.cls ≠ "java/lang/invoke/VarHandle" ∧ (parseMethodDescriptor yX8_isNumber.desc).map (fun d => d.parameters.length) = some 1 := by decide +kernel
def V_X8_isNumber  (p0 : Int64) (S : SS) (post : Int32 → SS → Prop) : Prop :=
  (V_X8_in p0 (-1000000000000000 : Int64) (1000000000000000 : Int64) S (fun (r1 : Int32) (S2 : SS) => (bz r1 ∧ post r1 S2)))
set_option maxHeartbeats 4000000 in
set_option maxRecDepth 100000 in
theorem c_X8_isNumber  {S : SS} {p0 : Int64} {post : Int32 → SS → Prop} (hV : V_X8_isNumber  p0 S post) : MI l yX8_isNumber wsX8_isNumber rm_X8_isNumber [.long p0] D n0 ad cI cJ X S post := by
  refine Met.ofW (cc := cX8_isNumber) (maxL := 2) (ret := (some .boolean)) (by decide) rfl ?_
  intro p e s m args below meth c s₁ B hml hv
  obtain ⟨rfl, hv⟩ := hv
  have C0 := Bd.mk B hml (atoms_spec (ws := wsX8_isNumber) B.pre) (findClass_of_methodNamed B.named) hv.1
  have hw : Wh D n0 ad cI cJ X S s s.heap [] := ⟨hv.2.1, hv.2.2, va_S.rf⟩
  refine r_entry (Nat.le_of_ble_eq_true rfl) (fun ls hl => ?_)
  have hl : lv_has ls 2 [(0, .long p0)] := hl
  unfold V_X8_isNumber at hV
  refine lv_lload_n C0.x C0.b dX8_isNumber_0 rfl (lv_at hl 0 rfl) ?_
  refine lv_ldc2 (v := -1000000000000000) C0.x C0.b C0.ow (C0.ts _ cw_X8_isNumber_64) dX8_isNumber_1 ?_
  refine lv_ldc2 (v := 1000000000000000) C0.x C0.b C0.ow (C0.ts _ cw_X8_isNumber_66) dX8_isNumber_4 ?_
  refine r_cS_i (As := [.long p0, .long (-1000000000000000 : Int64), .long (1000000000000000 : Int64)]) (rest := []) C0 hw (c_X8_in  hV) (va_cwS 3 C0.ts gX8_isNumber_X8_in rfl rfl rfl hd_X8_in ⟨Nat.le_of_ble_eq_true rfl, Nat.le_of_ble_eq_true rfl⟩) rfl hl.1 rfl (Nat.le_of_ble_eq_true rfl) ⟨Nat.le_of_ble_eq_true rfl, Nat.le_of_ble_eq_true rfl⟩ dX8_isNumber_7 (fun r1 S2 H locs hV hw => ?_)
  exact r_zret C0 rfl hV.1 hw hV.2 dX8_isNumber_10
/-! StepBenchModel.refuse(I)J -/
abbrev rm_X8_refuse : Room := { frames := 0, cells := 0, slots := 0, locals := 0 }
set_option maxRecDepth 20000 in
theorem fw_X8_refuse_61 : Cond.fieldLink RX8 61 "StepBenchModel" "thrown" "I" ∈ wsX8_refuse := by decide +kernel
set_option maxRecDepth 20000 in
theorem iw_X8_refuse_X8 : ∀ w ∈ wsX80, w ∈ wsX8_refuse := by decide +kernel
set_option maxRecDepth 20000 in
theorem hd_X8_refuse : yX8_refuse.cls = RX8 ∧ yX8_refuse.cls ≠ "java/lang/invoke/MethodHandle" ∧ yX8_refuse.cls ≠ "java/lang/invoke/VarHandle" ∧ (parseMethodDescriptor yX8_refuse.desc).map (fun d => d.parameters.length) = some 1 := by decide +kernel
def V_X8_refuse  (p0 : Int32) (S : SS) (post : Int64 → SS → Prop) : Prop :=
  (∀ S1 : SS, S1 = (sI S 20 p0) → (post (0 : Int64) S1))
set_option maxHeartbeats 4000000 in
set_option maxRecDepth 100000 in
theorem c_X8_refuse  {S : SS} {p0 : Int32} {post : Int64 → SS → Prop} (hV : V_X8_refuse  p0 S post) : ML l yX8_refuse wsX8_refuse rm_X8_refuse [.ref (ad 48), .int p0] D n0 ad cI cJ X S post := by
  refine Met.ofW (cc := cX8_refuse) (maxL := 2) (ret := (some .long)) (by decide) rfl ?_
  intro p e s m args below meth c s₁ B hml hv
  obtain ⟨rfl, hv⟩ := hv
  have C0 := Bd.mk B hml (atoms_spec (ws := wsX8_refuse) B.pre) (findClass_of_methodNamed B.named) hv.1
  have hw : Wh D n0 ad cI cJ X S s s.heap [] := ⟨hv.2.1, hv.2.2, va_S.rf⟩
  refine r_entry (Nat.le_of_ble_eq_true rfl) (fun ls hl => ?_)
  have hl : lv_has ls 2 [(0, .ref (ad 48)), (1, .int p0)] := hl
  unfold V_X8_refuse at hV
  refine lv_aload_n C0.x C0.b dX8_refuse_0 rfl (lv_at hl 0 rfl) ?_
  refine lv_iload_n C0.x C0.b dX8_refuse_1 rfl (lv_at hl 1 rfl) ?_
  refine r_put C0 hw (C := RX8) (T := TX8) (N := 33) (ty := .int) iw_X8_refuse_X8 tyX8 tyX8_ok nmX8 (lg_48 ad cI cJ X S) rfl 0 (by decide) (C0.ts _ fw_X8_refuse_61) rfl (by decide +kernel) rfl rfl (Nat.le_of_ble_eq_true rfl) dX8_refuse_2 (S' := (sI S 20 p0)) (ls_48_0 ad cI cJ X S p0) (fun S1 H locs eS1 hw => ?_)
  have hV := hV S1 eS1
  refine lv_lconst (v := 0) C0.x C0.b dX8_refuse_5 (by decide) ?_
  exact r_lret C0 rfl hw hV dX8_refuse_6
/-! StepBenchModel.common(JJ)J -/
abbrev rm_X8_common : Room := { frames := 0, cells := 0, slots := 0, locals := 0 }
set_option maxRecDepth 20000 in
theorem hd_X8_common : yX8_common.cls ≠ "java/lang/invoke/MethodHandle" ∧ yX8_common.cls ≠ "java/lang/invoke/VarHandle" ∧ (parseMethodDescriptor yX8_common.desc).map (fun d => d.parameters.length) = some 2 := by decide +kernel
def V_X8_common_28    (post : Int64 → SS → Prop) : Nat → Int64 → Int64 → SS → Prop
  | 0, _, _, _ => False
  | n + 1, v4, v6, S =>
    ((v6 = (0 : Int64) → (post v4 S)) ∧ (¬ v6 = (0 : Int64) → (¬ v6 = 0 ∧ (∀ y4 : Int64, y4 = (lrm v4 v6) → (V_X8_common_28    post n v6 y4 S)))))
set_option maxHeartbeats 4000000 in
set_option maxRecDepth 100000 in
theorem lp_X8_common_28    (post : Int64 → SS → Prop) (C0 : Bd p s m meth c args cX8_common 10 (some .long) wsX8_common RX8 D n0 cI cJ) : ∀ (n : Nat) (v4 : Int64) (v6 : Int64) (S : SS), V_X8_common_28    post n v4 v6 S → ∀ (H : Heap) (locs : List Loc), Wh D n0 ad cI cJ X S s H locs → ∀ ls : Array Slot, lv_has ls 10 [(4, .long v4), (6, .long v6)] → W p l e rm_X8_common s m args below meth c H locs 0 0 (MQ below (va_Ql post (fun S' t => Wd D n0 ad cI cJ X S' t) (fr n0)) args s 0 0 (fr n0)) (F0 m 28 ls []) := by
  intro n
  induction n with
  | zero => intro v4 v6 S hV; exact False.elim hV
  | succ n ih =>
    intro v4 v6 S hV H locs hw ls hl
    rw [V_X8_common_28] at hV
    refine lv_lload C0.x C0.b dX8_common_28 (lv_at hl 1 rfl) ?_
    refine lv_lconst (v := 0) C0.x C0.b dX8_common_30 (by decide) ?_
    refine r_lcmp C0 dX8_common_31 ?_
    refine lv_if_eq (tgt := 53) C0.x C0.b dX8_common_32 (by decide) (fun c3 => ?_) (fun c3 => ?_)
    · have hV := hV.1 ((lc_eq _ _).mp c3)
      refine lv_lload C0.x C0.b dX8_common_53 (lv_at hl 0 rfl) ?_
      exact r_lret C0 rfl hw hV dX8_common_55
    · have hV := hV.2 (fun h => c3 ((lc_eq _ _).mpr h))
      refine lv_lload C0.x C0.b dX8_common_35 (lv_at hl 0 rfl) ?_
      refine lv_lload C0.x C0.b dX8_common_37 (lv_at hl 1 rfl) ?_
      refine lv_lrem C0.x C0.b dX8_common_39 hV.1 ?_
      have hV := hV.2
      refine lv_topl (fun y4 ey4 => ?_)
      have hV := hV y4 ey4
      refine lv_lstore (lv' := [(8, .long y4), (4, .long v4), (6, .long v6)]) C0.x C0.b dX8_common_40 hl (by decide) rfl (fun ls hl => ?_)
      refine lv_lload C0.x C0.b dX8_common_42 (lv_at hl 2 rfl) ?_
      refine lv_lstore (lv' := [(4, .long v6), (8, .long y4), (6, .long v6)]) C0.x C0.b dX8_common_44 hl (by decide) rfl (fun ls hl => ?_)
      refine lv_lload C0.x C0.b dX8_common_46 (lv_at hl 1 rfl) ?_
      refine lv_lstore (lv' := [(6, .long y4), (4, .long v6), (8, .long y4)]) C0.x C0.b dX8_common_48 hl (by decide) rfl (fun ls hl => ?_)
      refine lv_goto (tgt := 28) C0.x C0.b dX8_common_50 (by decide) ?_
      exact ih _ _ _ hV _ _ hw _ (lv_sub hl [1, 0] rfl)
def V_X8_common  (p0 : Int64) (p1 : Int64) (S : SS) (post : Int64 → SS → Prop) : Prop :=
  (((0 : Int64) ≤ p0 → (((0 : Int64) ≤ p1 → (∃ n28 : Nat, V_X8_common_28    post n28 p0 p1 S)) ∧ (¬ (0 : Int64) ≤ p1 → (∀ y5 : Int64, y5 = (-p1) → (∃ n28 : Nat, V_X8_common_28    post n28 p0 y5 S))))) ∧ (¬ (0 : Int64) ≤ p0 → (∀ y6 : Int64, y6 = (-p0) → (((0 : Int64) ≤ p1 → (∃ n28 : Nat, V_X8_common_28    post n28 y6 p1 S)) ∧ (¬ (0 : Int64) ≤ p1 → (∀ y8 : Int64, y8 = (-p1) → (∃ n28 : Nat, V_X8_common_28    post n28 y6 y8 S)))))))
set_option maxHeartbeats 4000000 in
set_option maxRecDepth 100000 in
theorem c_X8_common  {S : SS} {p0 : Int64} {p1 : Int64} {post : Int64 → SS → Prop} (hV : V_X8_common  p0 p1 S post) : ML l yX8_common wsX8_common rm_X8_common [.long p0, .long p1] D n0 ad cI cJ X S post := by
  refine Met.ofW (cc := cX8_common) (maxL := 10) (ret := (some .long)) (by decide) rfl ?_
  intro p e s m args below meth c s₁ B hml hv
  obtain ⟨rfl, hv⟩ := hv
  have C0 := Bd.mk B hml (atoms_spec (ws := wsX8_common) B.pre) (findClass_of_methodNamed B.named) hv.1
  have hw : Wh D n0 ad cI cJ X S s s.heap [] := ⟨hv.2.1, hv.2.2, va_S.rf⟩
  refine r_entry (Nat.le_of_ble_eq_true rfl) (fun ls hl => ?_)
  have hl : lv_has ls 10 [(0, .long p0), (2, .long p1)] := hl
  unfold V_X8_common at hV
  refine lv_lload_n C0.x C0.b dX8_common_0 rfl (lv_at hl 0 rfl) ?_
  refine lv_lconst (v := 0) C0.x C0.b dX8_common_1 (by decide) ?_
  refine r_lcmp C0 dX8_common_2 ?_
  refine lv_if_ge (tgt := 11) C0.x C0.b dX8_common_3 (by decide) (fun c1 => ?_) (fun c1 => ?_)
  · have hV := hV.1 ((lc_ge _ _).mp c1)
    refine lv_lload_n C0.x C0.b dX8_common_11 rfl (lv_at hl 0 rfl) ?_
    refine lv_lstore (lv' := [(4, .long p0), (0, .long p0), (2, .long p1)]) C0.x C0.b dX8_common_12 hl (by decide) rfl (fun ls hl => ?_)
    refine lv_lload_n C0.x C0.b dX8_common_14 rfl (lv_at hl 2 rfl) ?_
    refine lv_lconst (v := 0) C0.x C0.b dX8_common_15 (by decide) ?_
    refine r_lcmp C0 dX8_common_16 ?_
    refine lv_if_ge (tgt := 25) C0.x C0.b dX8_common_17 (by decide) (fun c2 => ?_) (fun c2 => ?_)
    · have hV := hV.1 ((lc_ge _ _).mp c2)
      refine lv_lload_n C0.x C0.b dX8_common_25 rfl (lv_at hl 2 rfl) ?_
      refine lv_lstore (lv' := [(6, .long p1), (4, .long p0), (0, .long p0), (2, .long p1)]) C0.x C0.b dX8_common_26 hl (by decide) rfl (fun ls hl => ?_)
      obtain ⟨n28, hV⟩ := hV
      exact lp_X8_common_28   post C0  n28 _ _ _ hV _ _ hw _ (lv_sub hl [1, 0] rfl)
    · have hV := hV.2 (fun h => c2 ((lc_ge _ _).mpr h))
      refine lv_lload_n C0.x C0.b dX8_common_20 rfl (lv_at hl 2 rfl) ?_
      refine lv_lneg C0.x C0.b dX8_common_21 ?_
      refine lv_goto (tgt := 26) C0.x C0.b dX8_common_22 (by decide) ?_
      refine lv_topl (fun y5 ey5 => ?_)
      have hV := hV y5 ey5
      refine lv_lstore (lv' := [(6, .long y5), (4, .long p0), (0, .long p0), (2, .long p1)]) C0.x C0.b dX8_common_26 hl (by decide) rfl (fun ls hl => ?_)
      obtain ⟨n28, hV⟩ := hV
      exact lp_X8_common_28   post C0  n28 _ _ _ hV _ _ hw _ (lv_sub hl [1, 0] rfl)
  · have hV := hV.2 (fun h => c1 ((lc_ge _ _).mpr h))
    refine lv_lload_n C0.x C0.b dX8_common_6 rfl (lv_at hl 0 rfl) ?_
    refine lv_lneg C0.x C0.b dX8_common_7 ?_
    refine lv_goto (tgt := 12) C0.x C0.b dX8_common_8 (by decide) ?_
    refine lv_topl (fun y6 ey6 => ?_)
    have hV := hV y6 ey6
    refine lv_lstore (lv' := [(4, .long y6), (0, .long p0), (2, .long p1)]) C0.x C0.b dX8_common_12 hl (by decide) rfl (fun ls hl => ?_)
    refine lv_lload_n C0.x C0.b dX8_common_14 rfl (lv_at hl 2 rfl) ?_
    refine lv_lconst (v := 0) C0.x C0.b dX8_common_15 (by decide) ?_
    refine r_lcmp C0 dX8_common_16 ?_
    refine lv_if_ge (tgt := 25) C0.x C0.b dX8_common_17 (by decide) (fun c7 => ?_) (fun c7 => ?_)
    · have hV := hV.1 ((lc_ge _ _).mp c7)
      refine lv_lload_n C0.x C0.b dX8_common_25 rfl (lv_at hl 2 rfl) ?_
      refine lv_lstore (lv' := [(6, .long p1), (4, .long y6), (0, .long p0), (2, .long p1)]) C0.x C0.b dX8_common_26 hl (by decide) rfl (fun ls hl => ?_)
      obtain ⟨n28, hV⟩ := hV
      exact lp_X8_common_28   post C0  n28 _ _ _ hV _ _ hw _ (lv_sub hl [1, 0] rfl)
    · have hV := hV.2 (fun h => c7 ((lc_ge _ _).mpr h))
      refine lv_lload_n C0.x C0.b dX8_common_20 rfl (lv_at hl 2 rfl) ?_
      refine lv_lneg C0.x C0.b dX8_common_21 ?_
      refine lv_goto (tgt := 26) C0.x C0.b dX8_common_22 (by decide) ?_
      refine lv_topl (fun y8 ey8 => ?_)
      have hV := hV y8 ey8
      refine lv_lstore (lv' := [(6, .long y8), (4, .long y6), (0, .long p0), (2, .long p1)]) C0.x C0.b dX8_common_26 hl (by decide) rfl (fun ls hl => ?_)
      obtain ⟨n28, hV⟩ := hV
      exact lp_X8_common_28   post C0  n28 _ _ _ hV _ _ hw _ (lv_sub hl [1, 0] rfl)
/-! StepBenchModel.draft(I)Z -/
abbrev rm_X8_draft : Room := { frames := 1, cells := 0, slots := 0, locals := 25 }
set_option maxRecDepth 20000 in
theorem fw_X8_draft_61 : Cond.fieldLink RX8 61 "StepBenchModel" "thrown" "I" ∈ wsX8_draft := by decide +kernel
set_option maxRecDepth 20000 in
theorem iw_X8_draft_X8 : ∀ w ∈ wsX80, w ∈ wsX8_draft := by decide +kernel
set_option maxRecDepth 20000 in
theorem cw_X8_draft_72 : Cond.constantLong RX8 72 2 ∈ wsX8_draft := by decide +kernel
set_option maxRecDepth 20000 in
theorem cw_X8_draft_74 : Cond.constantLong RX8 74 64 ∈ wsX8_draft := by decide +kernel
set_option maxRecDepth 20000 in
theorem fw_X8_draft_76 : Cond.fieldLink RX8 76 "StepBenchModel" "hasDraft" "Z" ∈ wsX8_draft := by decide +kernel
set_option maxRecDepth 20000 in
theorem fw_X8_draft_80 : Cond.fieldLink RX8 80 "StepBenchModel" "draftM" "I" ∈ wsX8_draft := by decide +kernel
set_option maxRecDepth 20000 in
theorem fw_X8_draft_17 : Cond.fieldLink RX8 17 "StepBenchModel" "draft" "[J" ∈ wsX8_draft := by decide +kernel
set_option maxRecDepth 20000 in
theorem hd_X8_draft : yX8_draft.cls = RX8 ∧ yX8_draft.cls ≠ "java/lang/invoke/MethodHandle" ∧ yX8_draft.cls ≠ "java/lang/invoke/VarHandle" ∧ (parseMethodDescriptor yX8_draft.desc).map (fun d => d.parameters.length) = some 1 := by decide +kernel
def V_X8_draft_33  (v1 : Int32)  (post : Int32 → SS → Prop) : Nat → Int32 → SS → Prop
  | 0, _, _ => False
  | n + 1, v2, S =>
    ((v1 ≤ v2 → (post (1 : Int32) S)) ∧ (¬ v1 ≤ v2 → (vp_in ((3 : Int32) * v2) 192 ∧ ∀ S8 : SS, S8 = (sA S 31 (vp_updL (gA S 31) ((3 : Int32) * v2).toNatClampNeg (1 : Int64))) → (vp_in (((3 : Int32) * v2) + (1 : Int32)) 192 ∧ ∀ S9 : SS, S9 = (sA S8 31 (vp_updL (gA S8 31) (((3 : Int32) * v2) + (1 : Int32)).toNatClampNeg (0 : Int64))) → (vp_in (((3 : Int32) * v2) + (2 : Int32)) 192 ∧ ∀ S10 : SS, S10 = (sA S9 31 (vp_updL (gA S9 31) (((3 : Int32) * v2) + (2 : Int32)).toNatClampNeg (1 : Int64))) → (∀ x11 : Int32, x11 = v2 + 1 → (V_X8_draft_33  v1  post n x11 S10)))))))
set_option maxHeartbeats 4000000 in
set_option maxRecDepth 100000 in
theorem lp_X8_draft_33  (v1 : Int32)  (post : Int32 → SS → Prop) (C0 : Bd p s m meth c args cX8_draft 3 (some .boolean) wsX8_draft RX8 D n0 cI cJ) : ∀ (n : Nat) (v2 : Int32) (S : SS), V_X8_draft_33  v1  post n v2 S → ∀ (H : Heap) (locs : List Loc), Wh D n0 ad cI cJ X S s H locs → ∀ ls : Array Slot, lv_has ls 3 [(0, .ref (ad 48)), (1, .int v1), (2, .int v2)] → W p l e rm_X8_draft s m args below meth c H locs 0 0 (MQ below (va_Qi post (fun S' t => Wd D n0 ad cI cJ X S' t) (fr n0)) args s 0 0 (fr n0)) (F0 m 33 ls []) := by
  intro n
  induction n with
  | zero => intro v2 S hV; exact False.elim hV
  | succ n ih =>
    intro v2 S hV H locs hw ls hl
    rw [V_X8_draft_33] at hV
    refine lv_iload_n C0.x C0.b dX8_draft_33 rfl (lv_at hl 2 rfl) ?_
    refine lv_iload_n C0.x C0.b dX8_draft_34 rfl (lv_at hl 1 rfl) ?_
    refine lv_icmp_ge (tgt := 75) C0.x C0.b dX8_draft_35 (by decide) (fun c7 => ?_) (fun c7 => ?_)
    · have hV := hV.1 c7
      refine lv_iconst (v := 1) C0.x C0.b dX8_draft_75 (by decide) ?_
      exact r_zret C0 rfl bz_1 hw hV dX8_draft_76
    · have hV := hV.2 c7
      refine lv_aload_n C0.x C0.b dX8_draft_38 rfl (lv_at hl 0 rfl) ?_
      refine r_get C0 hw (C := RX8) (T := TX8) (N := 33) (v := .ref (ad 50)) iw_X8_draft_X8 (lg_48 ad cI cJ X S) rfl 6 (by decide) (C0.ts _ fw_X8_draft_17) rfl dX8_draft_39 ?_
      refine lv_iconst (v := 3) C0.x C0.b dX8_draft_42 (by decide) ?_
      refine lv_iload_n C0.x C0.b dX8_draft_43 rfl (lv_at hl 2 rfl) ?_
      refine lv_imul C0.x C0.b dX8_draft_44 ?_
      refine lv_lconst (v := 1) C0.x C0.b dX8_draft_45 (by decide) ?_
      refine r_last C0 hw (lg_50 ad cI cJ X S) hV.1 dX8_draft_46 (S' := (sA S 31 (vp_updL (gA S 31) ((3 : Int32) * v2).toNatClampNeg (1 : Int64)))) (ls_50 ad cI cJ X S (vp_updL (gA S 31) ((3 : Int32) * v2).toNatClampNeg (1 : Int64))) (fun S8 H locs eS8 hw => ?_)
      have hV := hV.2 S8 eS8
      refine lv_aload_n C0.x C0.b dX8_draft_47 rfl (lv_at hl 0 rfl) ?_
      refine r_get C0 hw (C := RX8) (T := TX8) (N := 33) (v := .ref (ad 50)) iw_X8_draft_X8 (lg_48 ad cI cJ X S8) rfl 6 (by decide) (C0.ts _ fw_X8_draft_17) rfl dX8_draft_48 ?_
      refine lv_iconst (v := 3) C0.x C0.b dX8_draft_51 (by decide) ?_
      refine lv_iload_n C0.x C0.b dX8_draft_52 rfl (lv_at hl 2 rfl) ?_
      refine lv_imul C0.x C0.b dX8_draft_53 ?_
      refine lv_iconst (v := 1) C0.x C0.b dX8_draft_54 (by decide) ?_
      refine lv_iadd C0.x C0.b dX8_draft_55 ?_
      refine lv_lconst (v := 0) C0.x C0.b dX8_draft_56 (by decide) ?_
      refine r_last C0 hw (lg_50 ad cI cJ X S8) hV.1 dX8_draft_57 (S' := (sA S8 31 (vp_updL (gA S8 31) (((3 : Int32) * v2) + (1 : Int32)).toNatClampNeg (0 : Int64)))) (ls_50 ad cI cJ X S8 (vp_updL (gA S8 31) (((3 : Int32) * v2) + (1 : Int32)).toNatClampNeg (0 : Int64))) (fun S9 H locs eS9 hw => ?_)
      have hV := hV.2 S9 eS9
      refine lv_aload_n C0.x C0.b dX8_draft_58 rfl (lv_at hl 0 rfl) ?_
      refine r_get C0 hw (C := RX8) (T := TX8) (N := 33) (v := .ref (ad 50)) iw_X8_draft_X8 (lg_48 ad cI cJ X S9) rfl 6 (by decide) (C0.ts _ fw_X8_draft_17) rfl dX8_draft_59 ?_
      refine lv_iconst (v := 3) C0.x C0.b dX8_draft_62 (by decide) ?_
      refine lv_iload_n C0.x C0.b dX8_draft_63 rfl (lv_at hl 2 rfl) ?_
      refine lv_imul C0.x C0.b dX8_draft_64 ?_
      refine lv_iconst (v := 2) C0.x C0.b dX8_draft_65 (by decide) ?_
      refine lv_iadd C0.x C0.b dX8_draft_66 ?_
      refine lv_lconst (v := 1) C0.x C0.b dX8_draft_67 (by decide) ?_
      refine r_last C0 hw (lg_50 ad cI cJ X S9) hV.1 dX8_draft_68 (S' := (sA S9 31 (vp_updL (gA S9 31) (((3 : Int32) * v2) + (2 : Int32)).toNatClampNeg (1 : Int64)))) (ls_50 ad cI cJ X S9 (vp_updL (gA S9 31) (((3 : Int32) * v2) + (2 : Int32)).toNatClampNeg (1 : Int64))) (fun S10 H locs eS10 hw => ?_)
      have hV := hV.2 S10 eS10
      obtain ⟨x11, ex11⟩ : ∃ z : Int32, z = v2 + 1 := ⟨_, rfl⟩
      have hV := hV x11 ex11
      refine lv_iinc (v := x11) (lv' := [(2, .int x11), (0, .ref (ad 48)), (1, .int v1)]) C0.x C0.b dX8_draft_69 hl (k := 2) rfl (by rw [ex11]; rfl) (by decide) rfl (fun ls hl => ?_)
      refine lv_goto (tgt := 33) C0.x C0.b dX8_draft_72 (by decide) ?_
      exact ih _ _ hV _ _ hw _ (lv_sub hl [1, 2, 0] rfl)
def V_X8_draft  (p0 : Int32) (S : SS) (post : Int32 → SS → Prop) : Prop :=
  (∀ S1 : SS, S1 = (sI S 20 (0 : Int32)) → (V_X8_in p0.toInt64 (2 : Int64) (64 : Int64) S1 (fun (r2 : Int32) (S3 : SS) => ((r2 = 0 → (post (0 : Int32) S3)) ∧ (¬ r2 = 0 → (∀ S5 : SS, S5 = (sI S3 23 (1 : Int32)) → (∀ S6 : SS, S6 = (sI S5 24 p0) → (∃ n33 : Nat, V_X8_draft_33  p0  post n33 (0 : Int32) S6))))))))
set_option maxHeartbeats 4000000 in
set_option maxRecDepth 100000 in
theorem c_X8_draft  {S : SS} {p0 : Int32} {post : Int32 → SS → Prop} (hV : V_X8_draft  p0 S post) : MI l yX8_draft wsX8_draft rm_X8_draft [.ref (ad 48), .int p0] D n0 ad cI cJ X S post := by
  refine Met.ofW (cc := cX8_draft) (maxL := 3) (ret := (some .boolean)) (by decide) rfl ?_
  intro p e s m args below meth c s₁ B hml hv
  obtain ⟨rfl, hv⟩ := hv
  have C0 := Bd.mk B hml (atoms_spec (ws := wsX8_draft) B.pre) (findClass_of_methodNamed B.named) hv.1
  have hw : Wh D n0 ad cI cJ X S s s.heap [] := ⟨hv.2.1, hv.2.2, va_S.rf⟩
  refine r_entry (Nat.le_of_ble_eq_true rfl) (fun ls hl => ?_)
  have hl : lv_has ls 3 [(0, .ref (ad 48)), (1, .int p0)] := hl
  unfold V_X8_draft at hV
  refine lv_aload_n C0.x C0.b dX8_draft_0 rfl (lv_at hl 0 rfl) ?_
  refine lv_iconst (v := 0) C0.x C0.b dX8_draft_1 (by decide) ?_
  refine r_put C0 hw (C := RX8) (T := TX8) (N := 33) (ty := .int) iw_X8_draft_X8 tyX8 tyX8_ok nmX8 (lg_48 ad cI cJ X S) rfl 0 (by decide) (C0.ts _ fw_X8_draft_61) rfl (by decide +kernel) rfl rfl (Nat.le_of_ble_eq_true rfl) dX8_draft_2 (S' := (sI S 20 (0 : Int32))) (ls_48_0 ad cI cJ X S (0 : Int32)) (fun S1 H locs eS1 hw => ?_)
  have hV := hV S1 eS1
  refine lv_iload_n C0.x C0.b dX8_draft_5 rfl (lv_at hl 1 rfl) ?_
  refine lv_i2l C0.x C0.b dX8_draft_6 rfl ?_
  refine lv_ldc2 (v := 2) C0.x C0.b C0.ow (C0.ts _ cw_X8_draft_72) dX8_draft_7 ?_
  refine lv_ldc2 (v := 64) C0.x C0.b C0.ow (C0.ts _ cw_X8_draft_74) dX8_draft_10 ?_
  refine r_cS_i (As := [.long p0.toInt64, .long (2 : Int64), .long (64 : Int64)]) (rest := []) C0 hw (c_X8_in  hV) (va_cwS 3 C0.ts gX8_draft_X8_in rfl rfl rfl hd_X8_in ⟨Nat.le_of_ble_eq_true rfl, Nat.le_of_ble_eq_true rfl⟩) rfl hl.1 rfl (Nat.le_of_ble_eq_true rfl) ⟨Nat.le_of_ble_eq_true rfl, Nat.le_of_ble_eq_true rfl⟩ dX8_draft_13 (fun r2 S3 H locs hV hw => ?_)
  refine lv_if_ne (tgt := 21) C0.x C0.b dX8_draft_16 (by decide) (fun c4 => ?_) (fun c4 => ?_)
  · have hV := hV.2 c4
    refine lv_aload_n C0.x C0.b dX8_draft_21 rfl (lv_at hl 0 rfl) ?_
    refine lv_iconst (v := 1) C0.x C0.b dX8_draft_22 (by decide) ?_
    refine r_put C0 hw (C := RX8) (T := TX8) (N := 33) (ty := .boolean) iw_X8_draft_X8 tyX8 tyX8_ok nmX8 (lg_48 ad cI cJ X S3) rfl 4 (by decide) (C0.ts _ fw_X8_draft_76) rfl (by decide +kernel) rfl rfl (Nat.le_of_ble_eq_true rfl) dX8_draft_23 (S' := (sI S3 23 (1 : Int32))) (ls_48_4 ad cI cJ X S3 (1 : Int32)) (fun S5 H locs eS5 hw => ?_)
    have hV := hV S5 eS5
    refine lv_aload_n C0.x C0.b dX8_draft_26 rfl (lv_at hl 0 rfl) ?_
    refine lv_iload_n C0.x C0.b dX8_draft_27 rfl (lv_at hl 1 rfl) ?_
    refine r_put C0 hw (C := RX8) (T := TX8) (N := 33) (ty := .int) iw_X8_draft_X8 tyX8 tyX8_ok nmX8 (lg_48 ad cI cJ X S5) rfl 5 (by decide) (C0.ts _ fw_X8_draft_80) rfl (by decide +kernel) rfl rfl (Nat.le_of_ble_eq_true rfl) dX8_draft_28 (S' := (sI S5 24 p0)) (ls_48_5 ad cI cJ X S5 p0) (fun S6 H locs eS6 hw => ?_)
    have hV := hV S6 eS6
    refine lv_iconst (v := 0) C0.x C0.b dX8_draft_31 (by decide) ?_
    refine lv_istore_n (lv' := [(2, .int (0 : Int32)), (0, .ref (ad 48)), (1, .int p0)]) C0.x C0.b dX8_draft_32 rfl hl (by decide) rfl (fun ls hl => ?_)
    obtain ⟨n33, hV⟩ := hV
    exact lp_X8_draft_33  _ post C0  n33 _ _ hV _ _ hw _ (lv_sub hl [1, 2, 0] rfl)
  · have hV := hV.1 c4
    refine lv_iconst (v := 0) C0.x C0.b dX8_draft_19 (by decide) ?_
    exact r_zret C0 rfl bz_0 hw hV dX8_draft_20
/-! StepBenchModel.sheet(II)Z -/
abbrev rm_X8_sheet : Room := { frames := 1, cells := 0, slots := 0, locals := 25 }
set_option maxRecDepth 20000 in
theorem fw_X8_sheet_61 : Cond.fieldLink RX8 61 "StepBenchModel" "thrown" "I" ∈ wsX8_sheet := by decide +kernel
set_option maxRecDepth 20000 in
theorem iw_X8_sheet_X8 : ∀ w ∈ wsX80, w ∈ wsX8_sheet := by decide +kernel
set_option maxRecDepth 20000 in
theorem cw_X8_sheet_83 : Cond.constantLong RX8 83 3 ∈ wsX8_sheet := by decide +kernel
set_option maxRecDepth 20000 in
theorem fw_X8_sheet_9 : Cond.fieldLink RX8 9 "StepBenchModel" "sheet" "I" ∈ wsX8_sheet := by decide +kernel
set_option maxRecDepth 20000 in
theorem fw_X8_sheet_85 : Cond.fieldLink RX8 85 "StepBenchModel" "entries" "I" ∈ wsX8_sheet := by decide +kernel
set_option maxRecDepth 20000 in
theorem fw_X8_sheet_13 : Cond.fieldLink RX8 13 "StepBenchModel" "entry" "[J" ∈ wsX8_sheet := by decide +kernel
set_option maxRecDepth 20000 in
theorem cw_X8_sheet_74 : Cond.constantLong RX8 74 64 ∈ wsX8_sheet := by decide +kernel
set_option maxRecDepth 20000 in
theorem hd_X8_sheet : yX8_sheet.cls = RX8 ∧ yX8_sheet.cls ≠ "java/lang/invoke/MethodHandle" ∧ yX8_sheet.cls ≠ "java/lang/invoke/VarHandle" ∧ (parseMethodDescriptor yX8_sheet.desc).map (fun d => d.parameters.length) = some 2 := by decide +kernel
def V_X8_sheet_57    (post : Int32 → SS → Prop) : Nat → Int32 → SS → Prop
  | 0, _, _ => False
  | n + 1, v3, S =>
    (((gI S 22) ≤ v3 → (post (1 : Int32) S)) ∧ (¬ (gI S 22) ≤ v3 → (vp_in v3 64 ∧ ∀ S10 : SS, S10 = (sA S 30 (vp_updL (gA S 30) v3.toNatClampNeg (0 : Int64))) → (∀ x11 : Int32, x11 = v3 + 1 → (V_X8_sheet_57    post n x11 S10)))))
set_option maxHeartbeats 4000000 in
set_option maxRecDepth 100000 in
theorem lp_X8_sheet_57    (post : Int32 → SS → Prop) (C0 : Bd p s m meth c args cX8_sheet 4 (some .boolean) wsX8_sheet RX8 D n0 cI cJ) : ∀ (n : Nat) (v3 : Int32) (S : SS), V_X8_sheet_57    post n v3 S → ∀ (H : Heap) (locs : List Loc), Wh D n0 ad cI cJ X S s H locs → ∀ ls : Array Slot, lv_has ls 4 [(0, .ref (ad 48)), (3, .int v3)] → W p l e rm_X8_sheet s m args below meth c H locs 0 0 (MQ below (va_Qi post (fun S' t => Wd D n0 ad cI cJ X S' t) (fr n0)) args s 0 0 (fr n0)) (F0 m 57 ls []) := by
  intro n
  induction n with
  | zero => intro v3 S hV; exact False.elim hV
  | succ n ih =>
    intro v3 S hV H locs hw ls hl
    rw [V_X8_sheet_57] at hV
    refine lv_iload_n C0.x C0.b dX8_sheet_57 rfl (lv_at hl 1 rfl) ?_
    refine lv_aload_n C0.x C0.b dX8_sheet_58 rfl (lv_at hl 0 rfl) ?_
    refine r_get C0 hw (C := RX8) (T := TX8) (N := 33) (v := .int (gI S 22)) iw_X8_sheet_X8 (lg_48 ad cI cJ X S) rfl 2 (by decide) (C0.ts _ fw_X8_sheet_85) rfl dX8_sheet_59 ?_
    refine lv_icmp_ge (tgt := 78) C0.x C0.b dX8_sheet_62 (by decide) (fun c9 => ?_) (fun c9 => ?_)
    · have hV := hV.1 c9
      refine lv_iconst (v := 1) C0.x C0.b dX8_sheet_78 (by decide) ?_
      exact r_zret C0 rfl bz_1 hw hV dX8_sheet_79
    · have hV := hV.2 c9
      refine lv_aload_n C0.x C0.b dX8_sheet_65 rfl (lv_at hl 0 rfl) ?_
      refine r_get C0 hw (C := RX8) (T := TX8) (N := 33) (v := .ref (ad 49)) iw_X8_sheet_X8 (lg_48 ad cI cJ X S) rfl 3 (by decide) (C0.ts _ fw_X8_sheet_13) rfl dX8_sheet_66 ?_
      refine lv_iload_n C0.x C0.b dX8_sheet_69 rfl (lv_at hl 1 rfl) ?_
      refine lv_lconst (v := 0) C0.x C0.b dX8_sheet_70 (by decide) ?_
      refine r_last C0 hw (lg_49 ad cI cJ X S) hV.1 dX8_sheet_71 (S' := (sA S 30 (vp_updL (gA S 30) v3.toNatClampNeg (0 : Int64)))) (ls_49 ad cI cJ X S (vp_updL (gA S 30) v3.toNatClampNeg (0 : Int64))) (fun S10 H locs eS10 hw => ?_)
      have hV := hV.2 S10 eS10
      obtain ⟨x11, ex11⟩ : ∃ z : Int32, z = v3 + 1 := ⟨_, rfl⟩
      have hV := hV x11 ex11
      refine lv_iinc (v := x11) (lv' := [(3, .int x11), (0, .ref (ad 48))]) C0.x C0.b dX8_sheet_72 hl (k := 1) rfl (by rw [ex11]; rfl) (by decide) rfl (fun ls hl => ?_)
      refine lv_goto (tgt := 57) C0.x C0.b dX8_sheet_75 (by decide) ?_
      exact ih _ _ hV _ _ hw _ (lv_sub hl [1, 0] rfl)
def V_X8_sheet  (p0 : Int32) (p1 : Int32) (S : SS) (post : Int32 → SS → Prop) : Prop :=
  (∀ S1 : SS, S1 = (sI S 20 (0 : Int32)) → (V_X8_in p0.toInt64 (0 : Int64) (3 : Int64) S1 (fun (r2 : Int32) (S3 : SS) => ((r2 = 0 → (post (0 : Int32) S3)) ∧ (¬ r2 = 0 → (((3 : Int32) ≤ p0 → (∀ S6 : SS, S6 = (sI S3 21 p0) → ((p0 = (3 : Int32) → (∀ S8 : SS, S8 = (sI S6 22 (0 : Int32)) → (∃ n57 : Nat, V_X8_sheet_57    post n57 (0 : Int32) S8))) ∧ (¬ p0 = (3 : Int32) → (∀ S12 : SS, S12 = (sI S6 22 p1) → (∃ n57 : Nat, V_X8_sheet_57    post n57 (0 : Int32) S12)))))) ∧ (¬ (3 : Int32) ≤ p0 → (V_X8_in p1.toInt64 (0 : Int64) (64 : Int64) S3 (fun (r13 : Int32) (S14 : SS) => ((r13 = 0 → (post (0 : Int32) S14)) ∧ (¬ r13 = 0 → (∀ S16 : SS, S16 = (sI S14 21 p0) → ((p0 = (3 : Int32) → (∀ S18 : SS, S18 = (sI S16 22 (0 : Int32)) → (∃ n57 : Nat, V_X8_sheet_57    post n57 (0 : Int32) S18))) ∧ (¬ p0 = (3 : Int32) → (∀ S19 : SS, S19 = (sI S16 22 p1) → (∃ n57 : Nat, V_X8_sheet_57    post n57 (0 : Int32) S19))))))))))))))))
set_option maxHeartbeats 4000000 in
set_option maxRecDepth 100000 in
theorem c_X8_sheet  {S : SS} {p0 : Int32} {p1 : Int32} {post : Int32 → SS → Prop} (hV : V_X8_sheet  p0 p1 S post) : MI l yX8_sheet wsX8_sheet rm_X8_sheet [.ref (ad 48), .int p0, .int p1] D n0 ad cI cJ X S post := by
  refine Met.ofW (cc := cX8_sheet) (maxL := 4) (ret := (some .boolean)) (by decide) rfl ?_
  intro p e s m args below meth c s₁ B hml hv
  obtain ⟨rfl, hv⟩ := hv
  have C0 := Bd.mk B hml (atoms_spec (ws := wsX8_sheet) B.pre) (findClass_of_methodNamed B.named) hv.1
  have hw : Wh D n0 ad cI cJ X S s s.heap [] := ⟨hv.2.1, hv.2.2, va_S.rf⟩
  refine r_entry (Nat.le_of_ble_eq_true rfl) (fun ls hl => ?_)
  have hl : lv_has ls 4 [(0, .ref (ad 48)), (1, .int p0), (2, .int p1)] := hl
  unfold V_X8_sheet at hV
  refine lv_aload_n C0.x C0.b dX8_sheet_0 rfl (lv_at hl 0 rfl) ?_
  refine lv_iconst (v := 0) C0.x C0.b dX8_sheet_1 (by decide) ?_
  refine r_put C0 hw (C := RX8) (T := TX8) (N := 33) (ty := .int) iw_X8_sheet_X8 tyX8 tyX8_ok nmX8 (lg_48 ad cI cJ X S) rfl 0 (by decide) (C0.ts _ fw_X8_sheet_61) rfl (by decide +kernel) rfl rfl (Nat.le_of_ble_eq_true rfl) dX8_sheet_2 (S' := (sI S 20 (0 : Int32))) (ls_48_0 ad cI cJ X S (0 : Int32)) (fun S1 H locs eS1 hw => ?_)
  have hV := hV S1 eS1
  refine lv_iload_n C0.x C0.b dX8_sheet_5 rfl (lv_at hl 1 rfl) ?_
  refine lv_i2l C0.x C0.b dX8_sheet_6 rfl ?_
  refine lv_lconst (v := 0) C0.x C0.b dX8_sheet_7 (by decide) ?_
  refine lv_ldc2 (v := 3) C0.x C0.b C0.ow (C0.ts _ cw_X8_sheet_83) dX8_sheet_8 ?_
  refine r_cS_i (As := [.long p0.toInt64, .long (0 : Int64), .long (3 : Int64)]) (rest := []) C0 hw (c_X8_in  hV) (va_cwS 3 C0.ts gX8_sheet_X8_in rfl rfl rfl hd_X8_in ⟨Nat.le_of_ble_eq_true rfl, Nat.le_of_ble_eq_true rfl⟩) rfl hl.1 rfl (Nat.le_of_ble_eq_true rfl) ⟨Nat.le_of_ble_eq_true rfl, Nat.le_of_ble_eq_true rfl⟩ dX8_sheet_11 (fun r2 S3 H locs hV hw => ?_)
  refine lv_if_eq (tgt := 34) C0.x C0.b dX8_sheet_14 (by decide) (fun c4 => ?_) (fun c4 => ?_)
  · have hV := hV.1 c4
    refine lv_iconst (v := 0) C0.x C0.b dX8_sheet_34 (by decide) ?_
    exact r_zret C0 rfl bz_0 hw hV dX8_sheet_35
  · have hV := hV.2 c4
    refine lv_iload_n C0.x C0.b dX8_sheet_17 rfl (lv_at hl 1 rfl) ?_
    refine lv_iconst (v := 3) C0.x C0.b dX8_sheet_18 (by decide) ?_
    refine lv_icmp_ge (tgt := 36) C0.x C0.b dX8_sheet_19 (by decide) (fun c5 => ?_) (fun c5 => ?_)
    · have hV := hV.1 c5
      refine lv_aload_n C0.x C0.b dX8_sheet_36 rfl (lv_at hl 0 rfl) ?_
      refine lv_iload_n C0.x C0.b dX8_sheet_37 rfl (lv_at hl 1 rfl) ?_
      refine r_put C0 hw (C := RX8) (T := TX8) (N := 33) (ty := .int) iw_X8_sheet_X8 tyX8 tyX8_ok nmX8 (lg_48 ad cI cJ X S3) rfl 1 (by decide) (C0.ts _ fw_X8_sheet_9) rfl (by decide +kernel) rfl rfl (Nat.le_of_ble_eq_true rfl) dX8_sheet_38 (S' := (sI S3 21 p0)) (ls_48_1 ad cI cJ X S3 p0) (fun S6 H locs eS6 hw => ?_)
      have hV := hV S6 eS6
      refine lv_aload_n C0.x C0.b dX8_sheet_41 rfl (lv_at hl 0 rfl) ?_
      refine lv_iload_n C0.x C0.b dX8_sheet_42 rfl (lv_at hl 1 rfl) ?_
      refine lv_iconst (v := 3) C0.x C0.b dX8_sheet_43 (by decide) ?_
      refine lv_icmp_ne (tgt := 51) C0.x C0.b dX8_sheet_44 (by decide) (fun c7 => ?_) (fun c7 => ?_)
      · have hV := hV.2 c7
        refine lv_iload_n C0.x C0.b dX8_sheet_51 rfl (lv_at hl 2 rfl) ?_
        refine r_put C0 hw (C := RX8) (T := TX8) (N := 33) (ty := .int) iw_X8_sheet_X8 tyX8 tyX8_ok nmX8 (lg_48 ad cI cJ X S6) rfl 2 (by decide) (C0.ts _ fw_X8_sheet_85) rfl (by decide +kernel) rfl rfl (Nat.le_of_ble_eq_true rfl) dX8_sheet_52 (S' := (sI S6 22 p1)) (ls_48_2 ad cI cJ X S6 p1) (fun S12 H locs eS12 hw => ?_)
        have hV := hV S12 eS12
        refine lv_iconst (v := 0) C0.x C0.b dX8_sheet_55 (by decide) ?_
        refine lv_istore_n (lv' := [(3, .int (0 : Int32)), (0, .ref (ad 48)), (1, .int p0), (2, .int p1)]) C0.x C0.b dX8_sheet_56 rfl hl (by decide) rfl (fun ls hl => ?_)
        obtain ⟨n57, hV⟩ := hV
        exact lp_X8_sheet_57   post C0  n57 _ _ hV _ _ hw _ (lv_sub hl [1, 0] rfl)
      · have hV := hV.1 c7
        refine lv_iconst (v := 0) C0.x C0.b dX8_sheet_47 (by decide) ?_
        refine lv_goto (tgt := 52) C0.x C0.b dX8_sheet_48 (by decide) ?_
        refine r_put C0 hw (C := RX8) (T := TX8) (N := 33) (ty := .int) iw_X8_sheet_X8 tyX8 tyX8_ok nmX8 (lg_48 ad cI cJ X S6) rfl 2 (by decide) (C0.ts _ fw_X8_sheet_85) rfl (by decide +kernel) rfl rfl (Nat.le_of_ble_eq_true rfl) dX8_sheet_52 (S' := (sI S6 22 (0 : Int32))) (ls_48_2 ad cI cJ X S6 (0 : Int32)) (fun S8 H locs eS8 hw => ?_)
        have hV := hV S8 eS8
        refine lv_iconst (v := 0) C0.x C0.b dX8_sheet_55 (by decide) ?_
        refine lv_istore_n (lv' := [(3, .int (0 : Int32)), (0, .ref (ad 48)), (1, .int p0), (2, .int p1)]) C0.x C0.b dX8_sheet_56 rfl hl (by decide) rfl (fun ls hl => ?_)
        obtain ⟨n57, hV⟩ := hV
        exact lp_X8_sheet_57   post C0  n57 _ _ hV _ _ hw _ (lv_sub hl [1, 0] rfl)
    · have hV := hV.2 c5
      refine lv_iload_n C0.x C0.b dX8_sheet_22 rfl (lv_at hl 2 rfl) ?_
      refine lv_i2l C0.x C0.b dX8_sheet_23 rfl ?_
      refine lv_lconst (v := 0) C0.x C0.b dX8_sheet_24 (by decide) ?_
      refine lv_ldc2 (v := 64) C0.x C0.b C0.ow (C0.ts _ cw_X8_sheet_74) dX8_sheet_25 ?_
      refine r_cS_i (As := [.long p1.toInt64, .long (0 : Int64), .long (64 : Int64)]) (rest := []) C0 hw (c_X8_in  hV) (va_cwS 3 C0.ts gX8_sheet_X8_in rfl rfl rfl hd_X8_in ⟨Nat.le_of_ble_eq_true rfl, Nat.le_of_ble_eq_true rfl⟩) rfl hl.1 rfl (Nat.le_of_ble_eq_true rfl) ⟨Nat.le_of_ble_eq_true rfl, Nat.le_of_ble_eq_true rfl⟩ dX8_sheet_28 (fun r13 S14 H locs hV hw => ?_)
      refine lv_if_ne (tgt := 36) C0.x C0.b dX8_sheet_31 (by decide) (fun c15 => ?_) (fun c15 => ?_)
      · have hV := hV.2 c15
        refine lv_aload_n C0.x C0.b dX8_sheet_36 rfl (lv_at hl 0 rfl) ?_
        refine lv_iload_n C0.x C0.b dX8_sheet_37 rfl (lv_at hl 1 rfl) ?_
        refine r_put C0 hw (C := RX8) (T := TX8) (N := 33) (ty := .int) iw_X8_sheet_X8 tyX8 tyX8_ok nmX8 (lg_48 ad cI cJ X S14) rfl 1 (by decide) (C0.ts _ fw_X8_sheet_9) rfl (by decide +kernel) rfl rfl (Nat.le_of_ble_eq_true rfl) dX8_sheet_38 (S' := (sI S14 21 p0)) (ls_48_1 ad cI cJ X S14 p0) (fun S16 H locs eS16 hw => ?_)
        have hV := hV S16 eS16
        refine lv_aload_n C0.x C0.b dX8_sheet_41 rfl (lv_at hl 0 rfl) ?_
        refine lv_iload_n C0.x C0.b dX8_sheet_42 rfl (lv_at hl 1 rfl) ?_
        refine lv_iconst (v := 3) C0.x C0.b dX8_sheet_43 (by decide) ?_
        refine lv_icmp_ne (tgt := 51) C0.x C0.b dX8_sheet_44 (by decide) (fun c17 => ?_) (fun c17 => ?_)
        · have hV := hV.2 c17
          refine lv_iload_n C0.x C0.b dX8_sheet_51 rfl (lv_at hl 2 rfl) ?_
          refine r_put C0 hw (C := RX8) (T := TX8) (N := 33) (ty := .int) iw_X8_sheet_X8 tyX8 tyX8_ok nmX8 (lg_48 ad cI cJ X S16) rfl 2 (by decide) (C0.ts _ fw_X8_sheet_85) rfl (by decide +kernel) rfl rfl (Nat.le_of_ble_eq_true rfl) dX8_sheet_52 (S' := (sI S16 22 p1)) (ls_48_2 ad cI cJ X S16 p1) (fun S19 H locs eS19 hw => ?_)
          have hV := hV S19 eS19
          refine lv_iconst (v := 0) C0.x C0.b dX8_sheet_55 (by decide) ?_
          refine lv_istore_n (lv' := [(3, .int (0 : Int32)), (0, .ref (ad 48)), (1, .int p0), (2, .int p1)]) C0.x C0.b dX8_sheet_56 rfl hl (by decide) rfl (fun ls hl => ?_)
          obtain ⟨n57, hV⟩ := hV
          exact lp_X8_sheet_57   post C0  n57 _ _ hV _ _ hw _ (lv_sub hl [1, 0] rfl)
        · have hV := hV.1 c17
          refine lv_iconst (v := 0) C0.x C0.b dX8_sheet_47 (by decide) ?_
          refine lv_goto (tgt := 52) C0.x C0.b dX8_sheet_48 (by decide) ?_
          refine r_put C0 hw (C := RX8) (T := TX8) (N := 33) (ty := .int) iw_X8_sheet_X8 tyX8 tyX8_ok nmX8 (lg_48 ad cI cJ X S16) rfl 2 (by decide) (C0.ts _ fw_X8_sheet_85) rfl (by decide +kernel) rfl rfl (Nat.le_of_ble_eq_true rfl) dX8_sheet_52 (S' := (sI S16 22 (0 : Int32))) (ls_48_2 ad cI cJ X S16 (0 : Int32)) (fun S18 H locs eS18 hw => ?_)
          have hV := hV S18 eS18
          refine lv_iconst (v := 0) C0.x C0.b dX8_sheet_55 (by decide) ?_
          refine lv_istore_n (lv' := [(3, .int (0 : Int32)), (0, .ref (ad 48)), (1, .int p0), (2, .int p1)]) C0.x C0.b dX8_sheet_56 rfl hl (by decide) rfl (fun ls hl => ?_)
          obtain ⟨n57, hV⟩ := hV
          exact lp_X8_sheet_57   post C0  n57 _ _ hV _ _ hw _ (lv_sub hl [1, 0] rfl)
      · have hV := hV.1 c15
        refine lv_iconst (v := 0) C0.x C0.b dX8_sheet_34 (by decide) ?_
        exact r_zret C0 rfl bz_0 hw hV dX8_sheet_35
/-! StepBenchModel.entry(IJ)Z -/
abbrev rm_X8_entry : Room := { frames := 1, cells := 0, slots := 0, locals := 25 }
set_option maxRecDepth 20000 in
theorem fw_X8_entry_61 : Cond.fieldLink RX8 61 "StepBenchModel" "thrown" "I" ∈ wsX8_entry := by decide +kernel
set_option maxRecDepth 20000 in
theorem iw_X8_entry_X8 : ∀ w ∈ wsX80, w ∈ wsX8_entry := by decide +kernel
set_option maxRecDepth 20000 in
theorem fw_X8_entry_9 : Cond.fieldLink RX8 9 "StepBenchModel" "sheet" "I" ∈ wsX8_entry := by decide +kernel
set_option maxRecDepth 20000 in
theorem cw_X8_entry_72 : Cond.constantLong RX8 72 2 ∈ wsX8_entry := by decide +kernel
set_option maxRecDepth 20000 in
theorem fw_X8_entry_85 : Cond.fieldLink RX8 85 "StepBenchModel" "entries" "I" ∈ wsX8_entry := by decide +kernel
set_option maxRecDepth 20000 in
theorem fw_X8_entry_13 : Cond.fieldLink RX8 13 "StepBenchModel" "entry" "[J" ∈ wsX8_entry := by decide +kernel
set_option maxRecDepth 20000 in
theorem hd_X8_entry : yX8_entry.cls = RX8 ∧ yX8_entry.cls ≠ "java/lang/invoke/MethodHandle" ∧ yX8_entry.cls ≠ "java/lang/invoke/VarHandle" ∧ (parseMethodDescriptor yX8_entry.desc).map (fun d => d.parameters.length) = some 2 := by decide +kernel
def V_X8_entry  (p0 : Int32) (p1 : Int64) (S : SS) (post : Int32 → SS → Prop) : Prop :=
  (∀ S1 : SS, S1 = (sI S 20 (0 : Int32)) → (V_X8_in ((gI S1 21).toInt64) (0 : Int64) (2 : Int64) S1 (fun (r2 : Int32) (S3 : SS) => ((r2 = 0 → (post (0 : Int32) S3)) ∧ (¬ r2 = 0 → (V_X8_in p0.toInt64 (0 : Int64) (((gI S3 22) - (1 : Int32)).toInt64) S3 (fun (r5 : Int32) (S6 : SS) => ((r5 = 0 → (post (0 : Int32) S6)) ∧ (¬ r5 = 0 → (((gI S6 21) = 0 → (vp_in p0 64 ∧ ∀ S9 : SS, S9 = (sA S6 30 (vp_updL (gA S6 30) p0.toNatClampNeg p1.toInt32.toInt8.toInt32.toInt64)) → (post (1 : Int32) S9))) ∧ (¬ (gI S6 21) = 0 → (((gI S6 21) = (1 : Int32) → (vp_in p0 64 ∧ ∀ S11 : SS, S11 = (sA S6 30 (vp_updL (gA S6 30) p0.toNatClampNeg p1.toInt32.toInt64)) → (post (1 : Int32) S11))) ∧ (¬ (gI S6 21) = (1 : Int32) → (vp_in p0 64 ∧ ∀ S12 : SS, S12 = (sA S6 30 (vp_updL (gA S6 30) p0.toNatClampNeg p1)) → (post (1 : Int32) S12)))))))))))))))
set_option maxHeartbeats 4000000 in
set_option maxRecDepth 100000 in
theorem c_X8_entry  {S : SS} {p0 : Int32} {p1 : Int64} {post : Int32 → SS → Prop} (hV : V_X8_entry  p0 p1 S post) : MI l yX8_entry wsX8_entry rm_X8_entry [.ref (ad 48), .int p0, .long p1] D n0 ad cI cJ X S post := by
  refine Met.ofW (cc := cX8_entry) (maxL := 4) (ret := (some .boolean)) (by decide) rfl ?_
  intro p e s m args below meth c s₁ B hml hv
  obtain ⟨rfl, hv⟩ := hv
  have C0 := Bd.mk B hml (atoms_spec (ws := wsX8_entry) B.pre) (findClass_of_methodNamed B.named) hv.1
  have hw : Wh D n0 ad cI cJ X S s s.heap [] := ⟨hv.2.1, hv.2.2, va_S.rf⟩
  refine r_entry (Nat.le_of_ble_eq_true rfl) (fun ls hl => ?_)
  have hl : lv_has ls 4 [(0, .ref (ad 48)), (1, .int p0), (2, .long p1)] := hl
  unfold V_X8_entry at hV
  refine lv_aload_n C0.x C0.b dX8_entry_0 rfl (lv_at hl 0 rfl) ?_
  refine lv_iconst (v := 0) C0.x C0.b dX8_entry_1 (by decide) ?_
  refine r_put C0 hw (C := RX8) (T := TX8) (N := 33) (ty := .int) iw_X8_entry_X8 tyX8 tyX8_ok nmX8 (lg_48 ad cI cJ X S) rfl 0 (by decide) (C0.ts _ fw_X8_entry_61) rfl (by decide +kernel) rfl rfl (Nat.le_of_ble_eq_true rfl) dX8_entry_2 (S' := (sI S 20 (0 : Int32))) (ls_48_0 ad cI cJ X S (0 : Int32)) (fun S1 H locs eS1 hw => ?_)
  have hV := hV S1 eS1
  refine lv_aload_n C0.x C0.b dX8_entry_5 rfl (lv_at hl 0 rfl) ?_
  refine r_get C0 hw (C := RX8) (T := TX8) (N := 33) (v := .int (gI S1 21)) iw_X8_entry_X8 (lg_48 ad cI cJ X S1) rfl 1 (by decide) (C0.ts _ fw_X8_entry_9) rfl dX8_entry_6 ?_
  refine lv_i2l C0.x C0.b dX8_entry_9 rfl ?_
  refine lv_lconst (v := 0) C0.x C0.b dX8_entry_10 (by decide) ?_
  refine lv_ldc2 (v := 2) C0.x C0.b C0.ow (C0.ts _ cw_X8_entry_72) dX8_entry_11 ?_
  refine r_cS_i (As := [.long (gI S1 21).toInt64, .long (0 : Int64), .long (2 : Int64)]) (rest := []) C0 hw (c_X8_in  hV) (va_cwS 3 C0.ts gX8_entry_X8_in rfl rfl rfl hd_X8_in ⟨Nat.le_of_ble_eq_true rfl, Nat.le_of_ble_eq_true rfl⟩) rfl hl.1 rfl (Nat.le_of_ble_eq_true rfl) ⟨Nat.le_of_ble_eq_true rfl, Nat.le_of_ble_eq_true rfl⟩ dX8_entry_14 (fun r2 S3 H locs hV hw => ?_)
  refine lv_if_eq (tgt := 36) C0.x C0.b dX8_entry_17 (by decide) (fun c4 => ?_) (fun c4 => ?_)
  · have hV := hV.1 c4
    refine lv_iconst (v := 0) C0.x C0.b dX8_entry_36 (by decide) ?_
    exact r_zret C0 rfl bz_0 hw hV dX8_entry_37
  · have hV := hV.2 c4
    refine lv_iload_n C0.x C0.b dX8_entry_20 rfl (lv_at hl 1 rfl) ?_
    refine lv_i2l C0.x C0.b dX8_entry_21 rfl ?_
    refine lv_lconst (v := 0) C0.x C0.b dX8_entry_22 (by decide) ?_
    refine lv_aload_n C0.x C0.b dX8_entry_23 rfl (lv_at hl 0 rfl) ?_
    refine r_get C0 hw (C := RX8) (T := TX8) (N := 33) (v := .int (gI S3 22)) iw_X8_entry_X8 (lg_48 ad cI cJ X S3) rfl 2 (by decide) (C0.ts _ fw_X8_entry_85) rfl dX8_entry_24 ?_
    refine lv_iconst (v := 1) C0.x C0.b dX8_entry_27 (by decide) ?_
    refine lv_isub C0.x C0.b dX8_entry_28 ?_
    refine lv_i2l C0.x C0.b dX8_entry_29 rfl ?_
    refine r_cS_i (As := [.long p0.toInt64, .long (0 : Int64), .long ((gI S3 22) - (1 : Int32)).toInt64]) (rest := []) C0 hw (c_X8_in  hV) (va_cwS 3 C0.ts gX8_entry_X8_in rfl rfl rfl hd_X8_in ⟨Nat.le_of_ble_eq_true rfl, Nat.le_of_ble_eq_true rfl⟩) rfl hl.1 rfl (Nat.le_of_ble_eq_true rfl) ⟨Nat.le_of_ble_eq_true rfl, Nat.le_of_ble_eq_true rfl⟩ dX8_entry_30 (fun r5 S6 H locs hV hw => ?_)
    refine lv_if_ne (tgt := 38) C0.x C0.b dX8_entry_33 (by decide) (fun c7 => ?_) (fun c7 => ?_)
    · have hV := hV.2 c7
      refine lv_aload_n C0.x C0.b dX8_entry_38 rfl (lv_at hl 0 rfl) ?_
      refine r_get C0 hw (C := RX8) (T := TX8) (N := 33) (v := .ref (ad 49)) iw_X8_entry_X8 (lg_48 ad cI cJ X S6) rfl 3 (by decide) (C0.ts _ fw_X8_entry_13) rfl dX8_entry_39 ?_
      refine lv_iload_n C0.x C0.b dX8_entry_42 rfl (lv_at hl 1 rfl) ?_
      refine lv_aload_n C0.x C0.b dX8_entry_43 rfl (lv_at hl 0 rfl) ?_
      refine r_get C0 hw (C := RX8) (T := TX8) (N := 33) (v := .int (gI S6 21)) iw_X8_entry_X8 (lg_48 ad cI cJ X S6) rfl 1 (by decide) (C0.ts _ fw_X8_entry_9) rfl dX8_entry_44 ?_
      refine lv_if_ne (tgt := 57) C0.x C0.b dX8_entry_47 (by decide) (fun c8 => ?_) (fun c8 => ?_)
      · have hV := hV.2 c8
        refine lv_aload_n C0.x C0.b dX8_entry_57 rfl (lv_at hl 0 rfl) ?_
        refine r_get C0 hw (C := RX8) (T := TX8) (N := 33) (v := .int (gI S6 21)) iw_X8_entry_X8 (lg_48 ad cI cJ X S6) rfl 1 (by decide) (C0.ts _ fw_X8_entry_9) rfl dX8_entry_58 ?_
        refine lv_iconst (v := 1) C0.x C0.b dX8_entry_61 (by decide) ?_
        refine lv_icmp_ne (tgt := 71) C0.x C0.b dX8_entry_62 (by decide) (fun c10 => ?_) (fun c10 => ?_)
        · have hV := hV.2 c10
          refine lv_lload_n C0.x C0.b dX8_entry_71 rfl (lv_at hl 2 rfl) ?_
          refine r_last C0 hw (lg_49 ad cI cJ X S6) hV.1 dX8_entry_72 (S' := (sA S6 30 (vp_updL (gA S6 30) p0.toNatClampNeg p1))) (ls_49 ad cI cJ X S6 (vp_updL (gA S6 30) p0.toNatClampNeg p1)) (fun S12 H locs eS12 hw => ?_)
          have hV := hV.2 S12 eS12
          refine lv_iconst (v := 1) C0.x C0.b dX8_entry_73 (by decide) ?_
          exact r_zret C0 rfl bz_1 hw hV dX8_entry_74
        · have hV := hV.1 c10
          refine lv_lload_n C0.x C0.b dX8_entry_65 rfl (lv_at hl 2 rfl) ?_
          refine lv_l2i C0.x C0.b dX8_entry_66 rfl ?_
          refine lv_i2l C0.x C0.b dX8_entry_67 rfl ?_
          refine lv_goto (tgt := 72) C0.x C0.b dX8_entry_68 (by decide) ?_
          refine r_last C0 hw (lg_49 ad cI cJ X S6) hV.1 dX8_entry_72 (S' := (sA S6 30 (vp_updL (gA S6 30) p0.toNatClampNeg p1.toInt32.toInt64))) (ls_49 ad cI cJ X S6 (vp_updL (gA S6 30) p0.toNatClampNeg p1.toInt32.toInt64)) (fun S11 H locs eS11 hw => ?_)
          have hV := hV.2 S11 eS11
          refine lv_iconst (v := 1) C0.x C0.b dX8_entry_73 (by decide) ?_
          exact r_zret C0 rfl bz_1 hw hV dX8_entry_74
      · have hV := hV.1 c8
        refine lv_lload_n C0.x C0.b dX8_entry_50 rfl (lv_at hl 2 rfl) ?_
        refine lv_l2i C0.x C0.b dX8_entry_51 rfl ?_
        refine lv_i2b C0.x C0.b dX8_entry_52 rfl ?_
        refine lv_i2l C0.x C0.b dX8_entry_53 rfl ?_
        refine lv_goto (tgt := 72) C0.x C0.b dX8_entry_54 (by decide) ?_
        refine r_last C0 hw (lg_49 ad cI cJ X S6) hV.1 dX8_entry_72 (S' := (sA S6 30 (vp_updL (gA S6 30) p0.toNatClampNeg p1.toInt32.toInt8.toInt32.toInt64))) (ls_49 ad cI cJ X S6 (vp_updL (gA S6 30) p0.toNatClampNeg p1.toInt32.toInt8.toInt32.toInt64)) (fun S9 H locs eS9 hw => ?_)
        have hV := hV.2 S9 eS9
        refine lv_iconst (v := 1) C0.x C0.b dX8_entry_73 (by decide) ?_
        exact r_zret C0 rfl bz_1 hw hV dX8_entry_74
    · have hV := hV.1 c7
      refine lv_iconst (v := 0) C0.x C0.b dX8_entry_36 (by decide) ?_
      exact r_zret C0 rfl bz_0 hw hV dX8_entry_37
/-! StepBenchModel.lay(I)I -/
abbrev rm_X8_lay : Room := { frames := 1, cells := 0, slots := 0, locals := 25 }
set_option maxRecDepth 20000 in
theorem fw_X8_lay_61 : Cond.fieldLink RX8 61 "StepBenchModel" "thrown" "I" ∈ wsX8_lay := by decide +kernel
set_option maxRecDepth 20000 in
theorem iw_X8_lay_X8 : ∀ w ∈ wsX80, w ∈ wsX8_lay := by decide +kernel
set_option maxRecDepth 20000 in
theorem fw_X8_lay_9 : Cond.fieldLink RX8 9 "StepBenchModel" "sheet" "I" ∈ wsX8_lay := by decide +kernel
set_option maxRecDepth 20000 in
theorem fw_X8_lay_76 : Cond.fieldLink RX8 76 "StepBenchModel" "hasDraft" "Z" ∈ wsX8_lay := by decide +kernel
set_option maxRecDepth 20000 in
theorem cw_X8_lay_72 : Cond.constantLong RX8 72 2 ∈ wsX8_lay := by decide +kernel
set_option maxRecDepth 20000 in
theorem fw_X8_lay_85 : Cond.fieldLink RX8 85 "StepBenchModel" "entries" "I" ∈ wsX8_lay := by decide +kernel
set_option maxRecDepth 20000 in
theorem fw_X8_lay_80 : Cond.fieldLink RX8 80 "StepBenchModel" "draftM" "I" ∈ wsX8_lay := by decide +kernel
set_option maxRecDepth 20000 in
theorem ml_X8_lay_88 : Cond.methodLink RX8 88 Lib.Math.min.name ∈ wsX8_lay := by decide +kernel
set_option maxRecDepth 20000 in
theorem ms_X8_lay_88 : Cond.static Lib.Math.min.name ∈ wsX8_lay := by decide +kernel
set_option maxRecDepth 20000 in
theorem mi_X8_lay_88 : Cond.initialized "java/lang/Math" ∈ wsX8_lay := by decide +kernel
set_option maxRecDepth 20000 in
theorem mc_X8_lay_88 : Cond.code Lib.Math.min.name Lib.Math.min.code 2 (some .int) ∈ wsX8_lay := by decide +kernel
set_option maxRecDepth 20000 in
theorem fw_X8_lay_17 : Cond.fieldLink RX8 17 "StepBenchModel" "draft" "[J" ∈ wsX8_lay := by decide +kernel
set_option maxRecDepth 20000 in
theorem fw_X8_lay_13 : Cond.fieldLink RX8 13 "StepBenchModel" "entry" "[J" ∈ wsX8_lay := by decide +kernel
set_option maxRecDepth 20000 in
theorem hd_X8_lay : yX8_lay.cls = RX8 ∧ yX8_lay.cls ≠ "java/lang/invoke/MethodHandle" ∧ yX8_lay.cls ≠ "java/lang/invoke/VarHandle" ∧ (parseMethodDescriptor yX8_lay.desc).map (fun d => d.parameters.length) = some 1 := by decide +kernel
def V_X8_lay_47  (v1 : Int32) (v2 : Int32)  (post : Int32 → SS → Prop) : Nat → Int32 → SS → Prop
  | 0, _, _ => False
  | n + 1, v3, S =>
    ((v2 ≤ v3 → (∀ S9 : SS, S9 = (sI S 21 (-1 : Int32)) → (post v2 S9))) ∧ (¬ v2 ≤ v3 → (vp_in v3 64 ∧ (vp_in (((3 : Int32) * v3) + v1) 192 ∧ ∀ S10 : SS, S10 = (sA S 31 (vp_updL (gA S 31) (((3 : Int32) * v3) + v1).toNatClampNeg (gA S 30 v3.toNatClampNeg))) → (∀ x11 : Int32, x11 = v3 + 1 → (V_X8_lay_47  v1 v2  post n x11 S10))))))
set_option maxHeartbeats 4000000 in
set_option maxRecDepth 100000 in
theorem lp_X8_lay_47  (v1 : Int32) (v2 : Int32)  (post : Int32 → SS → Prop) (C0 : Bd p s m meth c args cX8_lay 4 (some .int) wsX8_lay RX8 D n0 cI cJ) : ∀ (n : Nat) (v3 : Int32) (S : SS), V_X8_lay_47  v1 v2  post n v3 S → ∀ (H : Heap) (locs : List Loc), Wh D n0 ad cI cJ X S s H locs → ∀ ls : Array Slot, lv_has ls 4 [(0, .ref (ad 48)), (1, .int v1), (2, .int v2), (3, .int v3)] → W p l e rm_X8_lay s m args below meth c H locs 0 0 (MQ below (va_Qi post (fun S' t => Wd D n0 ad cI cJ X S' t) (fr n0)) args s 0 0 (fr n0)) (F0 m 47 ls []) := by
  intro n
  induction n with
  | zero => intro v3 S hV; exact False.elim hV
  | succ n ih =>
    intro v3 S hV H locs hw ls hl
    rw [V_X8_lay_47] at hV
    refine lv_iload_n C0.x C0.b dX8_lay_47 rfl (lv_at hl 3 rfl) ?_
    refine lv_iload_n C0.x C0.b dX8_lay_48 rfl (lv_at hl 2 rfl) ?_
    refine lv_icmp_ge (tgt := 74) C0.x C0.b dX8_lay_49 (by decide) (fun c8 => ?_) (fun c8 => ?_)
    · have hV := hV.1 c8
      refine lv_aload_n C0.x C0.b dX8_lay_74 rfl (lv_at hl 0 rfl) ?_
      refine lv_iconst (v := -1) C0.x C0.b dX8_lay_75 (by decide) ?_
      refine r_put C0 hw (C := RX8) (T := TX8) (N := 33) (ty := .int) iw_X8_lay_X8 tyX8 tyX8_ok nmX8 (lg_48 ad cI cJ X S) rfl 1 (by decide) (C0.ts _ fw_X8_lay_9) rfl (by decide +kernel) rfl rfl (Nat.le_of_ble_eq_true rfl) dX8_lay_76 (S' := (sI S 21 (-1 : Int32))) (ls_48_1 ad cI cJ X S (-1 : Int32)) (fun S9 H locs eS9 hw => ?_)
      have hV := hV S9 eS9
      refine lv_iload_n C0.x C0.b dX8_lay_79 rfl (lv_at hl 2 rfl) ?_
      exact r_iret C0 rfl hw hV dX8_lay_80
    · have hV := hV.2 c8
      refine lv_aload_n C0.x C0.b dX8_lay_52 rfl (lv_at hl 0 rfl) ?_
      refine r_get C0 hw (C := RX8) (T := TX8) (N := 33) (v := .ref (ad 50)) iw_X8_lay_X8 (lg_48 ad cI cJ X S) rfl 6 (by decide) (C0.ts _ fw_X8_lay_17) rfl dX8_lay_53 ?_
      refine lv_iconst (v := 3) C0.x C0.b dX8_lay_56 (by decide) ?_
      refine lv_iload_n C0.x C0.b dX8_lay_57 rfl (lv_at hl 3 rfl) ?_
      refine lv_imul C0.x C0.b dX8_lay_58 ?_
      refine lv_iload_n C0.x C0.b dX8_lay_59 rfl (lv_at hl 1 rfl) ?_
      refine lv_iadd C0.x C0.b dX8_lay_60 ?_
      refine lv_aload_n C0.x C0.b dX8_lay_61 rfl (lv_at hl 0 rfl) ?_
      refine r_get C0 hw (C := RX8) (T := TX8) (N := 33) (v := .ref (ad 49)) iw_X8_lay_X8 (lg_48 ad cI cJ X S) rfl 3 (by decide) (C0.ts _ fw_X8_lay_13) rfl dX8_lay_62 ?_
      refine lv_iload_n C0.x C0.b dX8_lay_65 rfl (lv_at hl 3 rfl) ?_
      refine r_lald C0 hw (lg_49 ad cI cJ X S) hV.1 dX8_lay_66 ?_
      have hV := hV.2
      refine r_last C0 hw (lg_50 ad cI cJ X S) hV.1 dX8_lay_67 (S' := (sA S 31 (vp_updL (gA S 31) (((3 : Int32) * v3) + v1).toNatClampNeg (gA S 30 v3.toNatClampNeg)))) (ls_50 ad cI cJ X S (vp_updL (gA S 31) (((3 : Int32) * v3) + v1).toNatClampNeg (gA S 30 v3.toNatClampNeg))) (fun S10 H locs eS10 hw => ?_)
      have hV := hV.2 S10 eS10
      obtain ⟨x11, ex11⟩ : ∃ z : Int32, z = v3 + 1 := ⟨_, rfl⟩
      have hV := hV x11 ex11
      refine lv_iinc (v := x11) (lv' := [(3, .int x11), (0, .ref (ad 48)), (1, .int v1), (2, .int v2)]) C0.x C0.b dX8_lay_68 hl (k := 3) rfl (by rw [ex11]; rfl) (by decide) rfl (fun ls hl => ?_)
      refine lv_goto (tgt := 47) C0.x C0.b dX8_lay_71 (by decide) ?_
      exact ih _ _ hV _ _ hw _ (lv_sub hl [1, 2, 3, 0] rfl)
def V_X8_lay  (p0 : Int32) (S : SS) (post : Int32 → SS → Prop) : Prop :=
  (∀ S1 : SS, S1 = (sI S 20 (0 : Int32)) → (((gI S1 21) < 0 → (post (-1 : Int32) S1)) ∧ (¬ (gI S1 21) < 0 → (((gI S1 23) = 0 → (post (-1 : Int32) S1)) ∧ (¬ (gI S1 23) = 0 → (V_X8_in p0.toInt64 (0 : Int64) (2 : Int64) S1 (fun (r4 : Int32) (S5 : SS) => ((r4 = 0 → (post (-1 : Int32) S5)) ∧ (¬ r4 = 0 → (∀ x7 : Int32, x7 = (mnI (gI S5 22) (gI S5 24)) → (∃ n47 : Nat, V_X8_lay_47  p0 x7  post n47 (0 : Int32) S5)))))))))))
set_option maxHeartbeats 4000000 in
set_option maxRecDepth 100000 in
theorem c_X8_lay  {S : SS} {p0 : Int32} {post : Int32 → SS → Prop} (hV : V_X8_lay  p0 S post) : MI l yX8_lay wsX8_lay rm_X8_lay [.ref (ad 48), .int p0] D n0 ad cI cJ X S post := by
  refine Met.ofW (cc := cX8_lay) (maxL := 4) (ret := (some .int)) (by decide) rfl ?_
  intro p e s m args below meth c s₁ B hml hv
  obtain ⟨rfl, hv⟩ := hv
  have C0 := Bd.mk B hml (atoms_spec (ws := wsX8_lay) B.pre) (findClass_of_methodNamed B.named) hv.1
  have hw : Wh D n0 ad cI cJ X S s s.heap [] := ⟨hv.2.1, hv.2.2, va_S.rf⟩
  refine r_entry (Nat.le_of_ble_eq_true rfl) (fun ls hl => ?_)
  have hl : lv_has ls 4 [(0, .ref (ad 48)), (1, .int p0)] := hl
  unfold V_X8_lay at hV
  refine lv_aload_n C0.x C0.b dX8_lay_0 rfl (lv_at hl 0 rfl) ?_
  refine lv_iconst (v := 0) C0.x C0.b dX8_lay_1 (by decide) ?_
  refine r_put C0 hw (C := RX8) (T := TX8) (N := 33) (ty := .int) iw_X8_lay_X8 tyX8 tyX8_ok nmX8 (lg_48 ad cI cJ X S) rfl 0 (by decide) (C0.ts _ fw_X8_lay_61) rfl (by decide +kernel) rfl rfl (Nat.le_of_ble_eq_true rfl) dX8_lay_2 (S' := (sI S 20 (0 : Int32))) (ls_48_0 ad cI cJ X S (0 : Int32)) (fun S1 H locs eS1 hw => ?_)
  have hV := hV S1 eS1
  refine lv_aload_n C0.x C0.b dX8_lay_5 rfl (lv_at hl 0 rfl) ?_
  refine r_get C0 hw (C := RX8) (T := TX8) (N := 33) (v := .int (gI S1 21)) iw_X8_lay_X8 (lg_48 ad cI cJ X S1) rfl 1 (by decide) (C0.ts _ fw_X8_lay_9) rfl dX8_lay_6 ?_
  refine lv_if_lt (tgt := 31) C0.x C0.b dX8_lay_9 (by decide) (fun c2 => ?_) (fun c2 => ?_)
  · have hV := hV.1 c2
    refine lv_iconst (v := -1) C0.x C0.b dX8_lay_31 (by decide) ?_
    exact r_iret C0 rfl hw hV dX8_lay_32
  · have hV := hV.2 c2
    refine lv_aload_n C0.x C0.b dX8_lay_12 rfl (lv_at hl 0 rfl) ?_
    refine r_get C0 hw (C := RX8) (T := TX8) (N := 33) (v := .int (gI S1 23)) iw_X8_lay_X8 (lg_48 ad cI cJ X S1) rfl 4 (by decide) (C0.ts _ fw_X8_lay_76) rfl dX8_lay_13 ?_
    refine lv_if_eq (tgt := 31) C0.x C0.b dX8_lay_16 (by decide) (fun c3 => ?_) (fun c3 => ?_)
    · have hV := hV.1 c3
      refine lv_iconst (v := -1) C0.x C0.b dX8_lay_31 (by decide) ?_
      exact r_iret C0 rfl hw hV dX8_lay_32
    · have hV := hV.2 c3
      refine lv_iload_n C0.x C0.b dX8_lay_19 rfl (lv_at hl 1 rfl) ?_
      refine lv_i2l C0.x C0.b dX8_lay_20 rfl ?_
      refine lv_lconst (v := 0) C0.x C0.b dX8_lay_21 (by decide) ?_
      refine lv_ldc2 (v := 2) C0.x C0.b C0.ow (C0.ts _ cw_X8_lay_72) dX8_lay_22 ?_
      refine r_cS_i (As := [.long p0.toInt64, .long (0 : Int64), .long (2 : Int64)]) (rest := []) C0 hw (c_X8_in  hV) (va_cwS 3 C0.ts gX8_lay_X8_in rfl rfl rfl hd_X8_in ⟨Nat.le_of_ble_eq_true rfl, Nat.le_of_ble_eq_true rfl⟩) rfl hl.1 rfl (Nat.le_of_ble_eq_true rfl) ⟨Nat.le_of_ble_eq_true rfl, Nat.le_of_ble_eq_true rfl⟩ dX8_lay_25 (fun r4 S5 H locs hV hw => ?_)
      refine lv_if_ne (tgt := 33) C0.x C0.b dX8_lay_28 (by decide) (fun c6 => ?_) (fun c6 => ?_)
      · have hV := hV.2 c6
        refine lv_aload_n C0.x C0.b dX8_lay_33 rfl (lv_at hl 0 rfl) ?_
        refine r_get C0 hw (C := RX8) (T := TX8) (N := 33) (v := .int (gI S5 22)) iw_X8_lay_X8 (lg_48 ad cI cJ X S5) rfl 2 (by decide) (C0.ts _ fw_X8_lay_85) rfl dX8_lay_34 ?_
        refine lv_aload_n C0.x C0.b dX8_lay_37 rfl (lv_at hl 0 rfl) ?_
        refine r_get C0 hw (C := RX8) (T := TX8) (N := 33) (v := .int (gI S5 24)) iw_X8_lay_X8 (lg_48 ad cI cJ X S5) rfl 5 (by decide) (C0.ts _ fw_X8_lay_80) rfl dX8_lay_38 ?_
        refine va_mmin C0.x C0.b (C0.ml.trans hl.1.symm) C0.ow (C0.ts _ ml_X8_lay_88) (C0.ts _ ms_X8_lay_88) (C0.ts _ mi_X8_lay_88) (C0.ts _ mc_X8_lay_88) (Nat.le_of_ble_eq_true rfl) (Nat.le_of_ble_eq_true rfl) (Nat.le_of_ble_eq_true rfl) (Nat.le_of_ble_eq_true rfl) dX8_lay_41 ?_
        refine lv_topi (fun x7 ex7 => ?_)
        have hV := hV x7 ex7
        refine lv_istore_n (lv' := [(2, .int x7), (0, .ref (ad 48)), (1, .int p0)]) C0.x C0.b dX8_lay_44 rfl hl (by decide) rfl (fun ls hl => ?_)
        refine lv_iconst (v := 0) C0.x C0.b dX8_lay_45 (by decide) ?_
        refine lv_istore_n (lv' := [(3, .int (0 : Int32)), (2, .int x7), (0, .ref (ad 48)), (1, .int p0)]) C0.x C0.b dX8_lay_46 rfl hl (by decide) rfl (fun ls hl => ?_)
        obtain ⟨n47, hV⟩ := hV
        exact lp_X8_lay_47  _ _ post C0  n47 _ _ hV _ _ hw _ (lv_sub hl [2, 3, 1, 0] rfl)
      · have hV := hV.1 c6
        refine lv_iconst (v := -1) C0.x C0.b dX8_lay_31 (by decide) ?_
        exact r_iret C0 rfl hw hV dX8_lay_32
/-! StepBenchModel.isShare(JJJ)Z -/
abbrev rm_X8_isShare : Room := { frames := 1, cells := 0, slots := 0, locals := 25 }
set_option maxRecDepth 20000 in
theorem cw_X8_isShare_94 : Cond.constantLong RX8 94 (-1000) ∈ wsX8_isShare := by decide +kernel
set_option maxRecDepth 20000 in
theorem cw_X8_isShare_96 : Cond.constantLong RX8 96 1000 ∈ wsX8_isShare := by decide +kernel
set_option maxRecDepth 20000 in
theorem hd_X8_isShare : yX8_isShare.cls ≠ "java/lang/invoke/MethodHandle" ∧ yX8_isShare.cls ≠ "java/lang/invoke/VarHandle" ∧ (parseMethodDescriptor yX8_isShare.desc).map (fun d => d.parameters.length) = some 3 := by decide +kernel
def V_X8_isShare  (p0 : Int64) (p1 : Int64) (p2 : Int64) (S : SS) (post : Int32 → SS → Prop) : Prop :=
  (V_X8_in p0 (-1000 : Int64) (1000 : Int64) S (fun (r1 : Int32) (S2 : SS) => ((r1 = 0 → (post (0 : Int32) S2)) ∧ (¬ r1 = 0 → (V_X8_in p1 (-1000 : Int64) (1000 : Int64) S2 (fun (r4 : Int32) (S5 : SS) => ((r4 = 0 → (post (0 : Int32) S5)) ∧ (¬ r4 = 0 → (V_X8_in p2 (1 : Int64) (1000 : Int64) S5 (fun (r7 : Int32) (S8 : SS) => ((r7 = 0 → (post (0 : Int32) S8)) ∧ (¬ r7 = 0 → (post (1 : Int32) S8)))))))))))))
set_option maxHeartbeats 4000000 in
set_option maxRecDepth 100000 in
theorem c_X8_isShare  {S : SS} {p0 : Int64} {p1 : Int64} {p2 : Int64} {post : Int32 → SS → Prop} (hV : V_X8_isShare  p0 p1 p2 S post) : MI l yX8_isShare wsX8_isShare rm_X8_isShare [.long p0, .long p1, .long p2] D n0 ad cI cJ X S post := by
  refine Met.ofW (cc := cX8_isShare) (maxL := 6) (ret := (some .boolean)) (by decide) rfl ?_
  intro p e s m args below meth c s₁ B hml hv
  obtain ⟨rfl, hv⟩ := hv
  have C0 := Bd.mk B hml (atoms_spec (ws := wsX8_isShare) B.pre) (findClass_of_methodNamed B.named) hv.1
  have hw : Wh D n0 ad cI cJ X S s s.heap [] := ⟨hv.2.1, hv.2.2, va_S.rf⟩
  refine r_entry (Nat.le_of_ble_eq_true rfl) (fun ls hl => ?_)
  have hl : lv_has ls 6 [(0, .long p0), (2, .long p1), (4, .long p2)] := hl
  unfold V_X8_isShare at hV
  refine lv_lload_n C0.x C0.b dX8_isShare_0 rfl (lv_at hl 0 rfl) ?_
  refine lv_ldc2 (v := -1000) C0.x C0.b C0.ow (C0.ts _ cw_X8_isShare_94) dX8_isShare_1 ?_
  refine lv_ldc2 (v := 1000) C0.x C0.b C0.ow (C0.ts _ cw_X8_isShare_96) dX8_isShare_4 ?_
  refine r_cS_i (As := [.long p0, .long (-1000 : Int64), .long (1000 : Int64)]) (rest := []) C0 hw (c_X8_in  hV) (va_cwS 3 C0.ts gX8_isShare_X8_in rfl rfl rfl hd_X8_in ⟨Nat.le_of_ble_eq_true rfl, Nat.le_of_ble_eq_true rfl⟩) rfl hl.1 rfl (Nat.le_of_ble_eq_true rfl) ⟨Nat.le_of_ble_eq_true rfl, Nat.le_of_ble_eq_true rfl⟩ dX8_isShare_7 (fun r1 S2 H locs hV hw => ?_)
  refine lv_if_eq (tgt := 42) C0.x C0.b dX8_isShare_10 (by decide) (fun c3 => ?_) (fun c3 => ?_)
  · have hV := hV.1 c3
    refine lv_iconst (v := 0) C0.x C0.b dX8_isShare_42 (by decide) ?_
    exact r_zret C0 rfl bz_0 hw hV dX8_isShare_43
  · have hV := hV.2 c3
    refine lv_lload_n C0.x C0.b dX8_isShare_13 rfl (lv_at hl 1 rfl) ?_
    refine lv_ldc2 (v := -1000) C0.x C0.b C0.ow (C0.ts _ cw_X8_isShare_94) dX8_isShare_14 ?_
    refine lv_ldc2 (v := 1000) C0.x C0.b C0.ow (C0.ts _ cw_X8_isShare_96) dX8_isShare_17 ?_
    refine r_cS_i (As := [.long p1, .long (-1000 : Int64), .long (1000 : Int64)]) (rest := []) C0 hw (c_X8_in  hV) (va_cwS 3 C0.ts gX8_isShare_X8_in rfl rfl rfl hd_X8_in ⟨Nat.le_of_ble_eq_true rfl, Nat.le_of_ble_eq_true rfl⟩) rfl hl.1 rfl (Nat.le_of_ble_eq_true rfl) ⟨Nat.le_of_ble_eq_true rfl, Nat.le_of_ble_eq_true rfl⟩ dX8_isShare_20 (fun r4 S5 H locs hV hw => ?_)
    refine lv_if_eq (tgt := 42) C0.x C0.b dX8_isShare_23 (by decide) (fun c6 => ?_) (fun c6 => ?_)
    · have hV := hV.1 c6
      refine lv_iconst (v := 0) C0.x C0.b dX8_isShare_42 (by decide) ?_
      exact r_zret C0 rfl bz_0 hw hV dX8_isShare_43
    · have hV := hV.2 c6
      refine lv_lload C0.x C0.b dX8_isShare_26 (lv_at hl 2 rfl) ?_
      refine lv_lconst (v := 1) C0.x C0.b dX8_isShare_28 (by decide) ?_
      refine lv_ldc2 (v := 1000) C0.x C0.b C0.ow (C0.ts _ cw_X8_isShare_96) dX8_isShare_29 ?_
      refine r_cS_i (As := [.long p2, .long (1 : Int64), .long (1000 : Int64)]) (rest := []) C0 hw (c_X8_in  hV) (va_cwS 3 C0.ts gX8_isShare_X8_in rfl rfl rfl hd_X8_in ⟨Nat.le_of_ble_eq_true rfl, Nat.le_of_ble_eq_true rfl⟩) rfl hl.1 rfl (Nat.le_of_ble_eq_true rfl) ⟨Nat.le_of_ble_eq_true rfl, Nat.le_of_ble_eq_true rfl⟩ dX8_isShare_32 (fun r7 S8 H locs hV hw => ?_)
      refine lv_if_eq (tgt := 42) C0.x C0.b dX8_isShare_35 (by decide) (fun c9 => ?_) (fun c9 => ?_)
      · have hV := hV.1 c9
        refine lv_iconst (v := 0) C0.x C0.b dX8_isShare_42 (by decide) ?_
        exact r_zret C0 rfl bz_0 hw hV dX8_isShare_43
      · have hV := hV.2 c9
        refine lv_iconst (v := 1) C0.x C0.b dX8_isShare_38 (by decide) ?_
        refine lv_goto (tgt := 43) C0.x C0.b dX8_isShare_39 (by decide) ?_
        exact r_zret C0 rfl bz_1 hw hV dX8_isShare_43
/-! StepBenchModel.seal()I -/
abbrev rm_X8_seal : Room := { frames := 2, cells := 0, slots := 0, locals := 50 }
set_option maxRecDepth 20000 in
theorem fw_X8_seal_61 : Cond.fieldLink RX8 61 "StepBenchModel" "thrown" "I" ∈ wsX8_seal := by decide +kernel
set_option maxRecDepth 20000 in
theorem iw_X8_seal_X8 : ∀ w ∈ wsX80, w ∈ wsX8_seal := by decide +kernel
set_option maxRecDepth 20000 in
theorem fw_X8_seal_76 : Cond.fieldLink RX8 76 "StepBenchModel" "hasDraft" "Z" ∈ wsX8_seal := by decide +kernel
set_option maxRecDepth 20000 in
theorem fw_X8_seal_80 : Cond.fieldLink RX8 80 "StepBenchModel" "draftM" "I" ∈ wsX8_seal := by decide +kernel
set_option maxRecDepth 20000 in
theorem fw_X8_seal_105 : Cond.fieldLink RX8 105 "StepBenchModel" "m" "I" ∈ wsX8_seal := by decide +kernel
set_option maxRecDepth 20000 in
theorem fw_X8_seal_108 : Cond.fieldLink RX8 108 "StepBenchModel" "sort" "I" ∈ wsX8_seal := by decide +kernel
set_option maxRecDepth 20000 in
theorem fw_X8_seal_20 : Cond.fieldLink RX8 20 "StepBenchModel" "rule" "[J" ∈ wsX8_seal := by decide +kernel
set_option maxRecDepth 20000 in
theorem fw_X8_seal_17 : Cond.fieldLink RX8 17 "StepBenchModel" "draft" "[J" ∈ wsX8_seal := by decide +kernel
set_option maxRecDepth 20000 in
theorem hd_X8_seal : yX8_seal.cls = RX8 ∧ yX8_seal.cls ≠ "java/lang/invoke/MethodHandle" ∧ yX8_seal.cls ≠ "java/lang/invoke/VarHandle" ∧ (parseMethodDescriptor yX8_seal.desc).map (fun d => d.parameters.length) = some 0 := by decide +kernel
def V_X8_seal_115    (post : Int32 → SS → Prop) : Nat → Int32 → SS → Prop
  | 0, _, _ => False
  | n + 1, v1, S =>
    ((((3 : Int32) * (gI S 24)) ≤ v1 → (∀ S7 : SS, S7 = (sI S 26 (gI S 24)) → (∀ S8 : SS, S8 = (sI S7 25 (1 : Int32)) → (∀ S9 : SS, S9 = (sI S8 23 (0 : Int32)) → (post (0 : Int32) S9))))) ∧ (¬ ((3 : Int32) * (gI S 24)) ≤ v1 → (vp_in v1 192 ∧ (vp_in v1 192 ∧ ∀ S10 : SS, S10 = (sA S 32 (vp_updL (gA S 32) v1.toNatClampNeg (gA S 31 v1.toNatClampNeg))) → (∀ x11 : Int32, x11 = v1 + 1 → (V_X8_seal_115    post n x11 S10))))))
set_option maxHeartbeats 4000000 in
set_option maxRecDepth 100000 in
theorem lp_X8_seal_115    (post : Int32 → SS → Prop) (C0 : Bd p s m meth c args cX8_seal 8 (some .int) wsX8_seal RX8 D n0 cI cJ) : ∀ (n : Nat) (v1 : Int32) (S : SS), V_X8_seal_115    post n v1 S → ∀ (H : Heap) (locs : List Loc), Wh D n0 ad cI cJ X S s H locs → ∀ ls : Array Slot, lv_has ls 8 [(0, .ref (ad 48)), (1, .int v1)] → W p l e rm_X8_seal s m args below meth c H locs 0 0 (MQ below (va_Qi post (fun S' t => Wd D n0 ad cI cJ X S' t) (fr n0)) args s 0 0 (fr n0)) (F0 m 115 ls []) := by
  intro n
  induction n with
  | zero => intro v1 S hV; exact False.elim hV
  | succ n ih =>
    intro v1 S hV H locs hw ls hl
    rw [V_X8_seal_115] at hV
    refine lv_iload_n C0.x C0.b dX8_seal_115 rfl (lv_at hl 1 rfl) ?_
    refine lv_iconst (v := 3) C0.x C0.b dX8_seal_116 (by decide) ?_
    refine lv_aload_n C0.x C0.b dX8_seal_117 rfl (lv_at hl 0 rfl) ?_
    refine r_get C0 hw (C := RX8) (T := TX8) (N := 33) (v := .int (gI S 24)) iw_X8_seal_X8 (lg_48 ad cI cJ X S) rfl 5 (by decide) (C0.ts _ fw_X8_seal_80) rfl dX8_seal_118 ?_
    refine lv_imul C0.x C0.b dX8_seal_121 ?_
    refine lv_icmp_ge (tgt := 143) C0.x C0.b dX8_seal_122 (by decide) (fun c6 => ?_) (fun c6 => ?_)
    · have hV := hV.1 c6
      refine lv_aload_n C0.x C0.b dX8_seal_143 rfl (lv_at hl 0 rfl) ?_
      refine lv_aload_n C0.x C0.b dX8_seal_144 rfl (lv_at hl 0 rfl) ?_
      refine r_get C0 hw (C := RX8) (T := TX8) (N := 33) (v := .int (gI S 24)) iw_X8_seal_X8 (lg_48 ad cI cJ X S) rfl 5 (by decide) (C0.ts _ fw_X8_seal_80) rfl dX8_seal_145 ?_
      refine r_put C0 hw (C := RX8) (T := TX8) (N := 33) (ty := .int) iw_X8_seal_X8 tyX8 tyX8_ok nmX8 (lg_48 ad cI cJ X S) rfl 8 (by decide) (C0.ts _ fw_X8_seal_105) rfl (by decide +kernel) rfl rfl (Nat.le_of_ble_eq_true rfl) dX8_seal_148 (S' := (sI S 26 (gI S 24))) (ls_48_8 ad cI cJ X S (gI S 24)) (fun S7 H locs eS7 hw => ?_)
      have hV := hV S7 eS7
      refine lv_aload_n C0.x C0.b dX8_seal_151 rfl (lv_at hl 0 rfl) ?_
      refine lv_iconst (v := 1) C0.x C0.b dX8_seal_152 (by decide) ?_
      refine r_put C0 hw (C := RX8) (T := TX8) (N := 33) (ty := .int) iw_X8_seal_X8 tyX8 tyX8_ok nmX8 (lg_48 ad cI cJ X S7) rfl 7 (by decide) (C0.ts _ fw_X8_seal_108) rfl (by decide +kernel) rfl rfl (Nat.le_of_ble_eq_true rfl) dX8_seal_153 (S' := (sI S7 25 (1 : Int32))) (ls_48_7 ad cI cJ X S7 (1 : Int32)) (fun S8 H locs eS8 hw => ?_)
      have hV := hV S8 eS8
      refine lv_aload_n C0.x C0.b dX8_seal_156 rfl (lv_at hl 0 rfl) ?_
      refine lv_iconst (v := 0) C0.x C0.b dX8_seal_157 (by decide) ?_
      refine r_put C0 hw (C := RX8) (T := TX8) (N := 33) (ty := .boolean) iw_X8_seal_X8 tyX8 tyX8_ok nmX8 (lg_48 ad cI cJ X S8) rfl 4 (by decide) (C0.ts _ fw_X8_seal_76) rfl (by decide +kernel) rfl rfl (Nat.le_of_ble_eq_true rfl) dX8_seal_158 (S' := (sI S8 23 (0 : Int32))) (ls_48_4 ad cI cJ X S8 (0 : Int32)) (fun S9 H locs eS9 hw => ?_)
      have hV := hV S9 eS9
      refine lv_iconst (v := 0) C0.x C0.b dX8_seal_161 (by decide) ?_
      exact r_iret C0 rfl hw hV dX8_seal_162
    · have hV := hV.2 c6
      refine lv_aload_n C0.x C0.b dX8_seal_125 rfl (lv_at hl 0 rfl) ?_
      refine r_get C0 hw (C := RX8) (T := TX8) (N := 33) (v := .ref (ad 51)) iw_X8_seal_X8 (lg_48 ad cI cJ X S) rfl 9 (by decide) (C0.ts _ fw_X8_seal_20) rfl dX8_seal_126 ?_
      refine lv_iload_n C0.x C0.b dX8_seal_129 rfl (lv_at hl 1 rfl) ?_
      refine lv_aload_n C0.x C0.b dX8_seal_130 rfl (lv_at hl 0 rfl) ?_
      refine r_get C0 hw (C := RX8) (T := TX8) (N := 33) (v := .ref (ad 50)) iw_X8_seal_X8 (lg_48 ad cI cJ X S) rfl 6 (by decide) (C0.ts _ fw_X8_seal_17) rfl dX8_seal_131 ?_
      refine lv_iload_n C0.x C0.b dX8_seal_134 rfl (lv_at hl 1 rfl) ?_
      refine r_lald C0 hw (lg_50 ad cI cJ X S) hV.1 dX8_seal_135 ?_
      have hV := hV.2
      refine r_last C0 hw (lg_51 ad cI cJ X S) hV.1 dX8_seal_136 (S' := (sA S 32 (vp_updL (gA S 32) v1.toNatClampNeg (gA S 31 v1.toNatClampNeg)))) (ls_51 ad cI cJ X S (vp_updL (gA S 32) v1.toNatClampNeg (gA S 31 v1.toNatClampNeg))) (fun S10 H locs eS10 hw => ?_)
      have hV := hV.2 S10 eS10
      obtain ⟨x11, ex11⟩ : ∃ z : Int32, z = v1 + 1 := ⟨_, rfl⟩
      have hV := hV x11 ex11
      refine lv_iinc (v := x11) (lv' := [(1, .int x11), (0, .ref (ad 48))]) C0.x C0.b dX8_seal_137 hl (k := 1) rfl (by rw [ex11]; rfl) (by decide) rfl (fun ls hl => ?_)
      refine lv_goto (tgt := 115) C0.x C0.b dX8_seal_140 (by decide) ?_
      exact ih _ _ hV _ _ hw _ (lv_sub hl [1, 0] rfl)
def V_X8_seal_21    (post : Int32 → SS → Prop) : Nat → Int32 → SS → Prop
  | 0, _, _ => False
  | n + 1, v1, S =>
    (((gI S 24) ≤ v1 → (∃ n115 : Nat, V_X8_seal_115    post n115 (0 : Int32) S)) ∧ (¬ (gI S 24) ≤ v1 → (vp_in ((3 : Int32) * v1) 192 ∧ (vp_in (((3 : Int32) * v1) + (1 : Int32)) 192 ∧ (vp_in (((3 : Int32) * v1) + (2 : Int32)) 192 ∧ (V_X8_isShare (gA S 31 ((3 : Int32) * v1).toNatClampNeg) (gA S 31 (((3 : Int32) * v1) + (1 : Int32)).toNatClampNeg) (gA S 31 (((3 : Int32) * v1) + (2 : Int32)).toNatClampNeg) S (fun (r12 : Int32) (S13 : SS) => ((r12 = 0 → (post ((-1 : Int32) - v1) S13)) ∧ (¬ r12 = 0 → (¬ (gA S 31 (((3 : Int32) * v1) + (2 : Int32)).toNatClampNeg) = 0 ∧ (((lrm ((gA S 31 ((3 : Int32) * v1).toNatClampNeg) * (gI S13 24).toInt64) (gA S 31 (((3 : Int32) * v1) + (2 : Int32)).toNatClampNeg)) = (0 : Int64) → (¬ (gA S 31 (((3 : Int32) * v1) + (2 : Int32)).toNatClampNeg) = 0 ∧ (((lrm (((gA S 31 ((3 : Int32) * v1).toNatClampNeg) * v1.toInt64) + (gA S 31 (((3 : Int32) * v1) + (1 : Int32)).toNatClampNeg)) (gA S 31 (((3 : Int32) * v1) + (2 : Int32)).toNatClampNeg)) = (0 : Int64) → (∀ x17 : Int32, x17 = v1 + 1 → (V_X8_seal_21    post n x17 S13))) ∧ (¬ (lrm (((gA S 31 ((3 : Int32) * v1).toNatClampNeg) * v1.toInt64) + (gA S 31 (((3 : Int32) * v1) + (1 : Int32)).toNatClampNeg)) (gA S 31 (((3 : Int32) * v1) + (2 : Int32)).toNatClampNeg)) = (0 : Int64) → (post ((-1 : Int32) - v1) S13))))) ∧ (¬ (lrm ((gA S 31 ((3 : Int32) * v1).toNatClampNeg) * (gI S13 24).toInt64) (gA S 31 (((3 : Int32) * v1) + (2 : Int32)).toNatClampNeg)) = (0 : Int64) → (post ((-1 : Int32) - v1) S13)))))))))))))
set_option maxHeartbeats 4000000 in
set_option maxRecDepth 100000 in
theorem lp_X8_seal_21    (post : Int32 → SS → Prop) (C0 : Bd p s m meth c args cX8_seal 8 (some .int) wsX8_seal RX8 D n0 cI cJ) : ∀ (n : Nat) (v1 : Int32) (S : SS), V_X8_seal_21    post n v1 S → ∀ (H : Heap) (locs : List Loc), Wh D n0 ad cI cJ X S s H locs → ∀ ls : Array Slot, lv_has ls 8 [(0, .ref (ad 48)), (1, .int v1)] → W p l e rm_X8_seal s m args below meth c H locs 0 0 (MQ below (va_Qi post (fun S' t => Wd D n0 ad cI cJ X S' t) (fr n0)) args s 0 0 (fr n0)) (F0 m 21 ls []) := by
  intro n
  induction n with
  | zero => intro v1 S hV; exact False.elim hV
  | succ n ih =>
    intro v1 S hV H locs hw ls hl
    rw [V_X8_seal_21] at hV
    refine lv_iload_n C0.x C0.b dX8_seal_21 rfl (lv_at hl 1 rfl) ?_
    refine lv_aload_n C0.x C0.b dX8_seal_22 rfl (lv_at hl 0 rfl) ?_
    refine r_get C0 hw (C := RX8) (T := TX8) (N := 33) (v := .int (gI S 24)) iw_X8_seal_X8 (lg_48 ad cI cJ X S) rfl 5 (by decide) (C0.ts _ fw_X8_seal_80) rfl dX8_seal_23 ?_
    refine lv_icmp_ge (tgt := 113) C0.x C0.b dX8_seal_26 (by decide) (fun c5 => ?_) (fun c5 => ?_)
    · have hV := hV.1 c5
      refine lv_iconst (v := 0) C0.x C0.b dX8_seal_113 (by decide) ?_
      refine lv_istore_n (lv' := [(1, .int (0 : Int32)), (0, .ref (ad 48))]) C0.x C0.b dX8_seal_114 rfl hl (by decide) rfl (fun ls hl => ?_)
      obtain ⟨n115, hV⟩ := hV
      exact lp_X8_seal_115   post C0  n115 _ _ hV _ _ hw _ (lv_sub hl [1, 0] rfl)
    · have hV := hV.2 c5
      refine lv_aload_n C0.x C0.b dX8_seal_29 rfl (lv_at hl 0 rfl) ?_
      refine r_get C0 hw (C := RX8) (T := TX8) (N := 33) (v := .ref (ad 50)) iw_X8_seal_X8 (lg_48 ad cI cJ X S) rfl 6 (by decide) (C0.ts _ fw_X8_seal_17) rfl dX8_seal_30 ?_
      refine lv_iconst (v := 3) C0.x C0.b dX8_seal_33 (by decide) ?_
      refine lv_iload_n C0.x C0.b dX8_seal_34 rfl (lv_at hl 1 rfl) ?_
      refine lv_imul C0.x C0.b dX8_seal_35 ?_
      refine r_lald C0 hw (lg_50 ad cI cJ X S) hV.1 dX8_seal_36 ?_
      have hV := hV.2
      refine lv_lstore_n (lv' := [(2, .long (gA S 31 ((3 : Int32) * v1).toNatClampNeg)), (0, .ref (ad 48)), (1, .int v1)]) C0.x C0.b dX8_seal_37 rfl hl (by decide) rfl (fun ls hl => ?_)
      refine lv_aload_n C0.x C0.b dX8_seal_38 rfl (lv_at hl 1 rfl) ?_
      refine r_get C0 hw (C := RX8) (T := TX8) (N := 33) (v := .ref (ad 50)) iw_X8_seal_X8 (lg_48 ad cI cJ X S) rfl 6 (by decide) (C0.ts _ fw_X8_seal_17) rfl dX8_seal_39 ?_
      refine lv_iconst (v := 3) C0.x C0.b dX8_seal_42 (by decide) ?_
      refine lv_iload_n C0.x C0.b dX8_seal_43 rfl (lv_at hl 2 rfl) ?_
      refine lv_imul C0.x C0.b dX8_seal_44 ?_
      refine lv_iconst (v := 1) C0.x C0.b dX8_seal_45 (by decide) ?_
      refine lv_iadd C0.x C0.b dX8_seal_46 ?_
      refine r_lald C0 hw (lg_50 ad cI cJ X S) hV.1 dX8_seal_47 ?_
      have hV := hV.2
      refine lv_lstore (lv' := [(4, .long (gA S 31 (((3 : Int32) * v1) + (1 : Int32)).toNatClampNeg)), (2, .long (gA S 31 ((3 : Int32) * v1).toNatClampNeg)), (0, .ref (ad 48)), (1, .int v1)]) C0.x C0.b dX8_seal_48 hl (by decide) rfl (fun ls hl => ?_)
      refine lv_aload_n C0.x C0.b dX8_seal_50 rfl (lv_at hl 2 rfl) ?_
      refine r_get C0 hw (C := RX8) (T := TX8) (N := 33) (v := .ref (ad 50)) iw_X8_seal_X8 (lg_48 ad cI cJ X S) rfl 6 (by decide) (C0.ts _ fw_X8_seal_17) rfl dX8_seal_51 ?_
      refine lv_iconst (v := 3) C0.x C0.b dX8_seal_54 (by decide) ?_
      refine lv_iload_n C0.x C0.b dX8_seal_55 rfl (lv_at hl 3 rfl) ?_
      refine lv_imul C0.x C0.b dX8_seal_56 ?_
      refine lv_iconst (v := 2) C0.x C0.b dX8_seal_57 (by decide) ?_
      refine lv_iadd C0.x C0.b dX8_seal_58 ?_
      refine r_lald C0 hw (lg_50 ad cI cJ X S) hV.1 dX8_seal_59 ?_
      have hV := hV.2
      refine lv_lstore (lv' := [(6, .long (gA S 31 (((3 : Int32) * v1) + (2 : Int32)).toNatClampNeg)), (4, .long (gA S 31 (((3 : Int32) * v1) + (1 : Int32)).toNatClampNeg)), (2, .long (gA S 31 ((3 : Int32) * v1).toNatClampNeg)), (0, .ref (ad 48)), (1, .int v1)]) C0.x C0.b dX8_seal_60 hl (by decide) rfl (fun ls hl => ?_)
      refine lv_lload_n C0.x C0.b dX8_seal_62 rfl (lv_at hl 2 rfl) ?_
      refine lv_lload C0.x C0.b dX8_seal_63 (lv_at hl 1 rfl) ?_
      refine lv_lload C0.x C0.b dX8_seal_65 (lv_at hl 0 rfl) ?_
      refine r_cS_i (As := [.long (gA S 31 ((3 : Int32) * v1).toNatClampNeg), .long (gA S 31 (((3 : Int32) * v1) + (1 : Int32)).toNatClampNeg), .long (gA S 31 (((3 : Int32) * v1) + (2 : Int32)).toNatClampNeg)]) (rest := []) C0 hw (c_X8_isShare  hV) (va_cwS 3 C0.ts gX8_seal_X8_isShare rfl rfl rfl hd_X8_isShare ⟨Nat.le_of_ble_eq_true rfl, Nat.le_of_ble_eq_true rfl⟩) rfl hl.1 rfl (Nat.le_of_ble_eq_true rfl) ⟨Nat.le_of_ble_eq_true rfl, Nat.le_of_ble_eq_true rfl⟩ dX8_seal_67 (fun r12 S13 H locs hV hw => ?_)
      refine lv_if_eq (tgt := 103) C0.x C0.b dX8_seal_70 (by decide) (fun c14 => ?_) (fun c14 => ?_)
      · have hV := hV.1 c14
        refine lv_iconst (v := -1) C0.x C0.b dX8_seal_103 (by decide) ?_
        refine lv_iload_n C0.x C0.b dX8_seal_104 rfl (lv_at hl 4 rfl) ?_
        refine lv_isub C0.x C0.b dX8_seal_105 ?_
        exact r_iret C0 rfl hw hV dX8_seal_106
      · have hV := hV.2 c14
        refine lv_lload_n C0.x C0.b dX8_seal_73 rfl (lv_at hl 2 rfl) ?_
        refine lv_aload_n C0.x C0.b dX8_seal_74 rfl (lv_at hl 3 rfl) ?_
        refine r_get C0 hw (C := RX8) (T := TX8) (N := 33) (v := .int (gI S13 24)) iw_X8_seal_X8 (lg_48 ad cI cJ X S13) rfl 5 (by decide) (C0.ts _ fw_X8_seal_80) rfl dX8_seal_75 ?_
        refine lv_i2l C0.x C0.b dX8_seal_78 rfl ?_
        refine lv_lmul C0.x C0.b dX8_seal_79 ?_
        refine lv_lload C0.x C0.b dX8_seal_80 (lv_at hl 0 rfl) ?_
        refine lv_lrem C0.x C0.b dX8_seal_82 hV.1 ?_
        have hV := hV.2
        refine lv_lconst (v := 0) C0.x C0.b dX8_seal_83 (by decide) ?_
        refine r_lcmp C0 dX8_seal_84 ?_
        refine lv_if_ne (tgt := 103) C0.x C0.b dX8_seal_85 (by decide) (fun c15 => ?_) (fun c15 => ?_)
        · have hV := hV.2 (fun h => c15 ((lc_eq _ _).mpr h))
          refine lv_iconst (v := -1) C0.x C0.b dX8_seal_103 (by decide) ?_
          refine lv_iload_n C0.x C0.b dX8_seal_104 rfl (lv_at hl 4 rfl) ?_
          refine lv_isub C0.x C0.b dX8_seal_105 ?_
          exact r_iret C0 rfl hw hV dX8_seal_106
        · have hV := hV.1 ((lc_eq _ _).mp c15)
          refine lv_lload_n C0.x C0.b dX8_seal_88 rfl (lv_at hl 2 rfl) ?_
          refine lv_iload_n C0.x C0.b dX8_seal_89 rfl (lv_at hl 4 rfl) ?_
          refine lv_i2l C0.x C0.b dX8_seal_90 rfl ?_
          refine lv_lmul C0.x C0.b dX8_seal_91 ?_
          refine lv_lload C0.x C0.b dX8_seal_92 (lv_at hl 1 rfl) ?_
          refine lv_ladd C0.x C0.b dX8_seal_94 ?_
          refine lv_lload C0.x C0.b dX8_seal_95 (lv_at hl 0 rfl) ?_
          refine lv_lrem C0.x C0.b dX8_seal_97 hV.1 ?_
          have hV := hV.2
          refine lv_lconst (v := 0) C0.x C0.b dX8_seal_98 (by decide) ?_
          refine r_lcmp C0 dX8_seal_99 ?_
          refine lv_if_eq (tgt := 107) C0.x C0.b dX8_seal_100 (by decide) (fun c16 => ?_) (fun c16 => ?_)
          · have hV := hV.1 ((lc_eq _ _).mp c16)
            obtain ⟨x17, ex17⟩ : ∃ z : Int32, z = v1 + 1 := ⟨_, rfl⟩
            have hV := hV x17 ex17
            refine lv_iinc (v := x17) (lv' := [(1, .int x17), (6, .long (gA S 31 (((3 : Int32) * v1) + (2 : Int32)).toNatClampNeg)), (4, .long (gA S 31 (((3 : Int32) * v1) + (1 : Int32)).toNatClampNeg)), (2, .long (gA S 31 ((3 : Int32) * v1).toNatClampNeg)), (0, .ref (ad 48))]) C0.x C0.b dX8_seal_107 hl (k := 4) rfl (by rw [ex17]; rfl) (by decide) rfl (fun ls hl => ?_)
            refine lv_goto (tgt := 21) C0.x C0.b dX8_seal_110 (by decide) ?_
            exact ih _ _ hV _ _ hw _ (lv_sub hl [4, 0] rfl)
          · have hV := hV.2 (fun h => c16 ((lc_eq _ _).mpr h))
            refine lv_iconst (v := -1) C0.x C0.b dX8_seal_103 (by decide) ?_
            refine lv_iload_n C0.x C0.b dX8_seal_104 rfl (lv_at hl 4 rfl) ?_
            refine lv_isub C0.x C0.b dX8_seal_105 ?_
            exact r_iret C0 rfl hw hV dX8_seal_106
def V_X8_seal   (S : SS) (post : Int32 → SS → Prop) : Prop :=
  (∀ S1 : SS, S1 = (sI S 20 (0 : Int32)) → (((gI S1 23) = 0 → (V_X8_refuse (1 : Int32) S1 (fun (r3 : Int64) (S4 : SS) => (post r3.toInt32 S4)))) ∧ (¬ (gI S1 23) = 0 → (∃ n21 : Nat, V_X8_seal_21    post n21 (0 : Int32) S1))))
set_option maxHeartbeats 4000000 in
set_option maxRecDepth 100000 in
theorem c_X8_seal  {S : SS}  {post : Int32 → SS → Prop} (hV : V_X8_seal   S post) : MI l yX8_seal wsX8_seal rm_X8_seal [.ref (ad 48)] D n0 ad cI cJ X S post := by
  refine Met.ofW (cc := cX8_seal) (maxL := 8) (ret := (some .int)) (by decide) rfl ?_
  intro p e s m args below meth c s₁ B hml hv
  obtain ⟨rfl, hv⟩ := hv
  have C0 := Bd.mk B hml (atoms_spec (ws := wsX8_seal) B.pre) (findClass_of_methodNamed B.named) hv.1
  have hw : Wh D n0 ad cI cJ X S s s.heap [] := ⟨hv.2.1, hv.2.2, va_S.rf⟩
  refine r_entry (Nat.le_of_ble_eq_true rfl) (fun ls hl => ?_)
  have hl : lv_has ls 8 [(0, .ref (ad 48))] := hl
  unfold V_X8_seal at hV
  refine lv_aload_n C0.x C0.b dX8_seal_0 rfl (lv_at hl 0 rfl) ?_
  refine lv_iconst (v := 0) C0.x C0.b dX8_seal_1 (by decide) ?_
  refine r_put C0 hw (C := RX8) (T := TX8) (N := 33) (ty := .int) iw_X8_seal_X8 tyX8 tyX8_ok nmX8 (lg_48 ad cI cJ X S) rfl 0 (by decide) (C0.ts _ fw_X8_seal_61) rfl (by decide +kernel) rfl rfl (Nat.le_of_ble_eq_true rfl) dX8_seal_2 (S' := (sI S 20 (0 : Int32))) (ls_48_0 ad cI cJ X S (0 : Int32)) (fun S1 H locs eS1 hw => ?_)
  have hV := hV S1 eS1
  refine lv_aload_n C0.x C0.b dX8_seal_5 rfl (lv_at hl 0 rfl) ?_
  refine r_get C0 hw (C := RX8) (T := TX8) (N := 33) (v := .int (gI S1 23)) iw_X8_seal_X8 (lg_48 ad cI cJ X S1) rfl 4 (by decide) (C0.ts _ fw_X8_seal_76) rfl dX8_seal_6 ?_
  refine lv_if_ne (tgt := 19) C0.x C0.b dX8_seal_9 (by decide) (fun c2 => ?_) (fun c2 => ?_)
  · have hV := hV.2 c2
    refine lv_iconst (v := 0) C0.x C0.b dX8_seal_19 (by decide) ?_
    refine lv_istore_n (lv' := [(1, .int (0 : Int32)), (0, .ref (ad 48))]) C0.x C0.b dX8_seal_20 rfl hl (by decide) rfl (fun ls hl => ?_)
    obtain ⟨n21, hV⟩ := hV
    exact lp_X8_seal_21   post C0  n21 _ _ hV _ _ hw _ (lv_sub hl [1, 0] rfl)
  · have hV := hV.1 c2
    refine lv_aload_n C0.x C0.b dX8_seal_12 rfl (lv_at hl 0 rfl) ?_
    refine lv_iconst (v := 1) C0.x C0.b dX8_seal_13 (by decide) ?_
    refine r_cV_l (As := [.int (1 : Int32)]) (rest := []) C0 hw (c_X8_refuse  hV) (cwV 1 C0.ts gX8_seal_X8_refuse rfl rfl rfl hd_X8_refuse ⟨Nat.le_of_ble_eq_true rfl, Nat.le_of_ble_eq_true rfl⟩) (lg_48 ad cI cJ X S1) rfl rfl hl.1 rfl (Nat.le_of_ble_eq_true rfl) ⟨Nat.le_of_ble_eq_true rfl, Nat.le_of_ble_eq_true rfl⟩ dX8_seal_14 (fun r3 S4 H locs hV hw => ?_)
    refine lv_l2i C0.x C0.b dX8_seal_17 rfl ?_
    exact r_iret C0 rfl hw hV dX8_seal_18
/-! StepBenchModel.list()Z -/
abbrev rm_X8_list : Room := { frames := 0, cells := 0, slots := 0, locals := 0 }
set_option maxRecDepth 20000 in
theorem fw_X8_list_61 : Cond.fieldLink RX8 61 "StepBenchModel" "thrown" "I" ∈ wsX8_list := by decide +kernel
set_option maxRecDepth 20000 in
theorem iw_X8_list_X8 : ∀ w ∈ wsX80, w ∈ wsX8_list := by decide +kernel
set_option maxRecDepth 20000 in
theorem fw_X8_list_108 : Cond.fieldLink RX8 108 "StepBenchModel" "sort" "I" ∈ wsX8_list := by decide +kernel
set_option maxRecDepth 20000 in
theorem fw_X8_list_111 : Cond.fieldLink RX8 111 "StepBenchModel" "fractions" "I" ∈ wsX8_list := by decide +kernel
set_option maxRecDepth 20000 in
theorem hd_X8_list : yX8_list.cls = RX8 ∧ yX8_list.cls ≠ "java/lang/invoke/MethodHandle" ∧ yX8_list.cls ≠ "java/lang/invoke/VarHandle" ∧ (parseMethodDescriptor yX8_list.desc).map (fun d => d.parameters.length) = some 0 := by decide +kernel
def V_X8_list   (S : SS) (post : Int32 → SS → Prop) : Prop :=
  (∀ S1 : SS, S1 = (sI S 20 (0 : Int32)) → (∀ S2 : SS, S2 = (sI S1 25 (2 : Int32)) → (∀ S3 : SS, S3 = (sI S2 27 (0 : Int32)) → (post (1 : Int32) S3))))
set_option maxHeartbeats 4000000 in
set_option maxRecDepth 100000 in
theorem c_X8_list  {S : SS}  {post : Int32 → SS → Prop} (hV : V_X8_list   S post) : MI l yX8_list wsX8_list rm_X8_list [.ref (ad 48)] D n0 ad cI cJ X S post := by
  refine Met.ofW (cc := cX8_list) (maxL := 1) (ret := (some .boolean)) (by decide) rfl ?_
  intro p e s m args below meth c s₁ B hml hv
  obtain ⟨rfl, hv⟩ := hv
  have C0 := Bd.mk B hml (atoms_spec (ws := wsX8_list) B.pre) (findClass_of_methodNamed B.named) hv.1
  have hw : Wh D n0 ad cI cJ X S s s.heap [] := ⟨hv.2.1, hv.2.2, va_S.rf⟩
  refine r_entry (Nat.le_of_ble_eq_true rfl) (fun ls hl => ?_)
  have hl : lv_has ls 1 [(0, .ref (ad 48))] := hl
  unfold V_X8_list at hV
  refine lv_aload_n C0.x C0.b dX8_list_0 rfl (lv_at hl 0 rfl) ?_
  refine lv_iconst (v := 0) C0.x C0.b dX8_list_1 (by decide) ?_
  refine r_put C0 hw (C := RX8) (T := TX8) (N := 33) (ty := .int) iw_X8_list_X8 tyX8 tyX8_ok nmX8 (lg_48 ad cI cJ X S) rfl 0 (by decide) (C0.ts _ fw_X8_list_61) rfl (by decide +kernel) rfl rfl (Nat.le_of_ble_eq_true rfl) dX8_list_2 (S' := (sI S 20 (0 : Int32))) (ls_48_0 ad cI cJ X S (0 : Int32)) (fun S1 H locs eS1 hw => ?_)
  have hV := hV S1 eS1
  refine lv_aload_n C0.x C0.b dX8_list_5 rfl (lv_at hl 0 rfl) ?_
  refine lv_iconst (v := 2) C0.x C0.b dX8_list_6 (by decide) ?_
  refine r_put C0 hw (C := RX8) (T := TX8) (N := 33) (ty := .int) iw_X8_list_X8 tyX8 tyX8_ok nmX8 (lg_48 ad cI cJ X S1) rfl 7 (by decide) (C0.ts _ fw_X8_list_108) rfl (by decide +kernel) rfl rfl (Nat.le_of_ble_eq_true rfl) dX8_list_7 (S' := (sI S1 25 (2 : Int32))) (ls_48_7 ad cI cJ X S1 (2 : Int32)) (fun S2 H locs eS2 hw => ?_)
  have hV := hV S2 eS2
  refine lv_aload_n C0.x C0.b dX8_list_10 rfl (lv_at hl 0 rfl) ?_
  refine lv_iconst (v := 0) C0.x C0.b dX8_list_11 (by decide) ?_
  refine r_put C0 hw (C := RX8) (T := TX8) (N := 33) (ty := .int) iw_X8_list_X8 tyX8 tyX8_ok nmX8 (lg_48 ad cI cJ X S2) rfl 10 (by decide) (C0.ts _ fw_X8_list_111) rfl (by decide +kernel) rfl rfl (Nat.le_of_ble_eq_true rfl) dX8_list_12 (S' := (sI S2 27 (0 : Int32))) (ls_48_10 ad cI cJ X S2 (0 : Int32)) (fun S3 H locs eS3 hw => ?_)
  have hV := hV S3 eS3
  refine lv_iconst (v := 1) C0.x C0.b dX8_list_15 (by decide) ?_
  exact r_zret C0 rfl bz_1 hw hV dX8_list_16
/-! StepBenchModel.add(JJ)V -/
abbrev rm_X8_add : Room := { frames := 1, cells := 0, slots := 0, locals := 29 }
set_option maxRecDepth 20000 in
theorem fw_X8_add_23 : Cond.fieldLink RX8 23 "StepBenchModel" "p" "[J" ∈ wsX8_add := by decide +kernel
set_option maxRecDepth 20000 in
theorem iw_X8_add_X8 : ∀ w ∈ wsX80, w ∈ wsX8_add := by decide +kernel
set_option maxRecDepth 20000 in
theorem fw_X8_add_111 : Cond.fieldLink RX8 111 "StepBenchModel" "fractions" "I" ∈ wsX8_add := by decide +kernel
set_option maxRecDepth 20000 in
theorem fw_X8_add_26 : Cond.fieldLink RX8 26 "StepBenchModel" "q" "[J" ∈ wsX8_add := by decide +kernel
set_option maxRecDepth 20000 in
theorem hd_X8_add : yX8_add.cls = RX8 ∧ yX8_add.cls ≠ "java/lang/invoke/MethodHandle" ∧ yX8_add.cls ≠ "java/lang/invoke/VarHandle" ∧ (parseMethodDescriptor yX8_add.desc).map (fun d => d.parameters.length) = some 2 := by decide +kernel
def V_X8_add  (p0 : Int64) (p1 : Int64) (S : SS) (post : SS → Prop) : Prop :=
  (V_X8_common p0 p1 S (fun (r1 : Int64) (S2 : SS) => (¬ r1 = 0 ∧ (vp_in (gI S2 27) 40 ∧ ∀ S3 : SS, S3 = (sA S2 33 (vp_updL (gA S2 33) (gI S2 27).toNatClampNeg (p0 / r1))) → (¬ r1 = 0 ∧ (vp_in (gI S3 27) 40 ∧ ∀ S4 : SS, S4 = (sA S3 34 (vp_updL (gA S3 34) (gI S3 27).toNatClampNeg (p1 / r1))) → (∀ S5 : SS, S5 = (sI S4 27 ((gI S4 27) + (1 : Int32))) → (post S5))))))))
set_option maxHeartbeats 4000000 in
set_option maxRecDepth 100000 in
theorem c_X8_add  {S : SS} {p0 : Int64} {p1 : Int64} {post : SS → Prop} (hV : V_X8_add  p0 p1 S post) : MV l yX8_add wsX8_add rm_X8_add [.ref (ad 48), .long p0, .long p1] D n0 ad cI cJ X S post := by
  refine Met.ofW (cc := cX8_add) (maxL := 7) (ret := none) (by decide) rfl ?_
  intro p e s m args below meth c s₁ B hml hv
  obtain ⟨rfl, hv⟩ := hv
  have C0 := Bd.mk B hml (atoms_spec (ws := wsX8_add) B.pre) (findClass_of_methodNamed B.named) hv.1
  have hw : Wh D n0 ad cI cJ X S s s.heap [] := ⟨hv.2.1, hv.2.2, va_S.rf⟩
  refine r_entry (Nat.le_of_ble_eq_true rfl) (fun ls hl => ?_)
  have hl : lv_has ls 7 [(0, .ref (ad 48)), (1, .long p0), (3, .long p1)] := hl
  unfold V_X8_add at hV
  refine lv_lload_n C0.x C0.b dX8_add_0 rfl (lv_at hl 1 rfl) ?_
  refine lv_lload_n C0.x C0.b dX8_add_1 rfl (lv_at hl 2 rfl) ?_
  refine r_cS_l (As := [.long p0, .long p1]) (rest := []) C0 hw (c_X8_common  hV) (va_cwS 2 C0.ts gX8_add_X8_common rfl rfl rfl hd_X8_common ⟨Nat.le_of_ble_eq_true rfl, Nat.le_of_ble_eq_true rfl⟩) rfl hl.1 rfl (Nat.le_of_ble_eq_true rfl) ⟨Nat.le_of_ble_eq_true rfl, Nat.le_of_ble_eq_true rfl⟩ dX8_add_2 (fun r1 S2 H locs hV hw => ?_)
  refine lv_lstore (lv' := [(5, .long r1), (0, .ref (ad 48)), (1, .long p0), (3, .long p1)]) C0.x C0.b dX8_add_5 hl (by decide) rfl (fun ls hl => ?_)
  refine lv_aload_n C0.x C0.b dX8_add_7 rfl (lv_at hl 1 rfl) ?_
  refine r_get C0 hw (C := RX8) (T := TX8) (N := 33) (v := .ref (ad 52)) iw_X8_add_X8 (lg_48 ad cI cJ X S2) rfl 11 (by decide) (C0.ts _ fw_X8_add_23) rfl dX8_add_8 ?_
  refine lv_aload_n C0.x C0.b dX8_add_11 rfl (lv_at hl 1 rfl) ?_
  refine r_get C0 hw (C := RX8) (T := TX8) (N := 33) (v := .int (gI S2 27)) iw_X8_add_X8 (lg_48 ad cI cJ X S2) rfl 10 (by decide) (C0.ts _ fw_X8_add_111) rfl dX8_add_12 ?_
  refine lv_lload_n C0.x C0.b dX8_add_15 rfl (lv_at hl 2 rfl) ?_
  refine lv_lload C0.x C0.b dX8_add_16 (lv_at hl 0 rfl) ?_
  refine lv_ldiv C0.x C0.b dX8_add_18 hV.1 ?_
  have hV := hV.2
  refine r_last C0 hw (lg_52 ad cI cJ X S2) hV.1 dX8_add_19 (S' := (sA S2 33 (vp_updL (gA S2 33) (gI S2 27).toNatClampNeg (p0 / r1)))) (ls_52 ad cI cJ X S2 (vp_updL (gA S2 33) (gI S2 27).toNatClampNeg (p0 / r1))) (fun S3 H locs eS3 hw => ?_)
  have hV := hV.2 S3 eS3
  refine lv_aload_n C0.x C0.b dX8_add_20 rfl (lv_at hl 1 rfl) ?_
  refine r_get C0 hw (C := RX8) (T := TX8) (N := 33) (v := .ref (ad 53)) iw_X8_add_X8 (lg_48 ad cI cJ X S3) rfl 12 (by decide) (C0.ts _ fw_X8_add_26) rfl dX8_add_21 ?_
  refine lv_aload_n C0.x C0.b dX8_add_24 rfl (lv_at hl 1 rfl) ?_
  refine r_get C0 hw (C := RX8) (T := TX8) (N := 33) (v := .int (gI S3 27)) iw_X8_add_X8 (lg_48 ad cI cJ X S3) rfl 10 (by decide) (C0.ts _ fw_X8_add_111) rfl dX8_add_25 ?_
  refine lv_lload_n C0.x C0.b dX8_add_28 rfl (lv_at hl 3 rfl) ?_
  refine lv_lload C0.x C0.b dX8_add_29 (lv_at hl 0 rfl) ?_
  refine lv_ldiv C0.x C0.b dX8_add_31 hV.1 ?_
  have hV := hV.2
  refine r_last C0 hw (lg_53 ad cI cJ X S3) hV.1 dX8_add_32 (S' := (sA S3 34 (vp_updL (gA S3 34) (gI S3 27).toNatClampNeg (p1 / r1)))) (ls_53 ad cI cJ X S3 (vp_updL (gA S3 34) (gI S3 27).toNatClampNeg (p1 / r1))) (fun S4 H locs eS4 hw => ?_)
  have hV := hV.2 S4 eS4
  refine lv_aload_n C0.x C0.b dX8_add_33 rfl (lv_at hl 1 rfl) ?_
  refine lv_dup C0.x C0.b dX8_add_34 rfl ?_
  refine r_get C0 hw (C := RX8) (T := TX8) (N := 33) (v := .int (gI S4 27)) iw_X8_add_X8 (lg_48 ad cI cJ X S4) rfl 10 (by decide) (C0.ts _ fw_X8_add_111) rfl dX8_add_35 ?_
  refine lv_iconst (v := 1) C0.x C0.b dX8_add_38 (by decide) ?_
  refine lv_iadd C0.x C0.b dX8_add_39 ?_
  refine r_put C0 hw (C := RX8) (T := TX8) (N := 33) (ty := .int) iw_X8_add_X8 tyX8 tyX8_ok nmX8 (lg_48 ad cI cJ X S4) rfl 10 (by decide) (C0.ts _ fw_X8_add_111) rfl (by decide +kernel) rfl rfl (Nat.le_of_ble_eq_true rfl) dX8_add_40 (S' := (sI S4 27 ((gI S4 27) + (1 : Int32)))) (ls_48_10 ad cI cJ X S4 ((gI S4 27) + (1 : Int32))) (fun S5 H locs eS5 hw => ?_)
  have hV := hV S5 eS5
  exact r_vret C0 rfl hw hV dX8_add_43
/-! StepBenchModel.fraction(JJ)I -/
abbrev rm_X8_fraction : Room := { frames := 2, cells := 0, slots := 0, locals := 55 }
set_option maxRecDepth 20000 in
theorem fw_X8_fraction_61 : Cond.fieldLink RX8 61 "StepBenchModel" "thrown" "I" ∈ wsX8_fraction := by decide +kernel
set_option maxRecDepth 20000 in
theorem iw_X8_fraction_X8 : ∀ w ∈ wsX80, w ∈ wsX8_fraction := by decide +kernel
set_option maxRecDepth 20000 in
theorem fw_X8_fraction_108 : Cond.fieldLink RX8 108 "StepBenchModel" "sort" "I" ∈ wsX8_fraction := by decide +kernel
set_option maxRecDepth 20000 in
theorem cw_X8_fraction_118 : Cond.constantLong RX8 118 1000000000 ∈ wsX8_fraction := by decide +kernel
set_option maxRecDepth 20000 in
theorem fw_X8_fraction_111 : Cond.fieldLink RX8 111 "StepBenchModel" "fractions" "I" ∈ wsX8_fraction := by decide +kernel
set_option maxRecDepth 20000 in
theorem hd_X8_fraction : yX8_fraction.cls = RX8 ∧ yX8_fraction.cls ≠ "java/lang/invoke/MethodHandle" ∧ yX8_fraction.cls ≠ "java/lang/invoke/VarHandle" ∧ (parseMethodDescriptor yX8_fraction.desc).map (fun d => d.parameters.length) = some 2 := by decide +kernel
def V_X8_fraction  (p0 : Int64) (p1 : Int64) (S : SS) (post : Int32 → SS → Prop) : Prop :=
  (∀ S1 : SS, S1 = (sI S 20 (0 : Int32)) → (((gI S1 25) = (2 : Int32) → (V_X8_in p0 (1 : Int64) (1000000000 : Int64) S1 (fun (r3 : Int32) (S4 : SS) => ((r3 = 0 → (post (-1 : Int32) S4)) ∧ (¬ r3 = 0 → (V_X8_in p1 (1 : Int64) (1000000000 : Int64) S4 (fun (r6 : Int32) (S7 : SS) => ((r6 = 0 → (post (-1 : Int32) S7)) ∧ (¬ r6 = 0 → (((gI S7 27) = (40 : Int32) → (post (-1 : Int32) S7)) ∧ (¬ (gI S7 27) = (40 : Int32) → (V_X8_add p0 p1 S7 (fun (S11 : SS) => (post (gI S11 27) S11)))))))))))))) ∧ (¬ (gI S1 25) = (2 : Int32) → (post (-1 : Int32) S1))))
set_option maxHeartbeats 4000000 in
set_option maxRecDepth 100000 in
theorem c_X8_fraction  {S : SS} {p0 : Int64} {p1 : Int64} {post : Int32 → SS → Prop} (hV : V_X8_fraction  p0 p1 S post) : MI l yX8_fraction wsX8_fraction rm_X8_fraction [.ref (ad 48), .long p0, .long p1] D n0 ad cI cJ X S post := by
  refine Met.ofW (cc := cX8_fraction) (maxL := 5) (ret := (some .int)) (by decide) rfl ?_
  intro p e s m args below meth c s₁ B hml hv
  obtain ⟨rfl, hv⟩ := hv
  have C0 := Bd.mk B hml (atoms_spec (ws := wsX8_fraction) B.pre) (findClass_of_methodNamed B.named) hv.1
  have hw : Wh D n0 ad cI cJ X S s s.heap [] := ⟨hv.2.1, hv.2.2, va_S.rf⟩
  refine r_entry (Nat.le_of_ble_eq_true rfl) (fun ls hl => ?_)
  have hl : lv_has ls 5 [(0, .ref (ad 48)), (1, .long p0), (3, .long p1)] := hl
  unfold V_X8_fraction at hV
  refine lv_aload_n C0.x C0.b dX8_fraction_0 rfl (lv_at hl 0 rfl) ?_
  refine lv_iconst (v := 0) C0.x C0.b dX8_fraction_1 (by decide) ?_
  refine r_put C0 hw (C := RX8) (T := TX8) (N := 33) (ty := .int) iw_X8_fraction_X8 tyX8 tyX8_ok nmX8 (lg_48 ad cI cJ X S) rfl 0 (by decide) (C0.ts _ fw_X8_fraction_61) rfl (by decide +kernel) rfl rfl (Nat.le_of_ble_eq_true rfl) dX8_fraction_2 (S' := (sI S 20 (0 : Int32))) (ls_48_0 ad cI cJ X S (0 : Int32)) (fun S1 H locs eS1 hw => ?_)
  have hV := hV S1 eS1
  refine lv_aload_n C0.x C0.b dX8_fraction_5 rfl (lv_at hl 0 rfl) ?_
  refine r_get C0 hw (C := RX8) (T := TX8) (N := 33) (v := .int (gI S1 25)) iw_X8_fraction_X8 (lg_48 ad cI cJ X S1) rfl 7 (by decide) (C0.ts _ fw_X8_fraction_108) rfl dX8_fraction_6 ?_
  refine lv_iconst (v := 2) C0.x C0.b dX8_fraction_9 (by decide) ?_
  refine lv_icmp_ne (tgt := 44) C0.x C0.b dX8_fraction_10 (by decide) (fun c2 => ?_) (fun c2 => ?_)
  · have hV := hV.2 c2
    refine lv_iconst (v := -1) C0.x C0.b dX8_fraction_44 (by decide) ?_
    exact r_iret C0 rfl hw hV dX8_fraction_45
  · have hV := hV.1 c2
    refine lv_lload_n C0.x C0.b dX8_fraction_13 rfl (lv_at hl 1 rfl) ?_
    refine lv_lconst (v := 1) C0.x C0.b dX8_fraction_14 (by decide) ?_
    refine lv_ldc2 (v := 1000000000) C0.x C0.b C0.ow (C0.ts _ cw_X8_fraction_118) dX8_fraction_15 ?_
    refine r_cS_i (As := [.long p0, .long (1 : Int64), .long (1000000000 : Int64)]) (rest := []) C0 hw (c_X8_in  hV) (va_cwS 3 C0.ts gX8_fraction_X8_in rfl rfl rfl hd_X8_in ⟨Nat.le_of_ble_eq_true rfl, Nat.le_of_ble_eq_true rfl⟩) rfl hl.1 rfl (Nat.le_of_ble_eq_true rfl) ⟨Nat.le_of_ble_eq_true rfl, Nat.le_of_ble_eq_true rfl⟩ dX8_fraction_18 (fun r3 S4 H locs hV hw => ?_)
    refine lv_if_eq (tgt := 44) C0.x C0.b dX8_fraction_21 (by decide) (fun c5 => ?_) (fun c5 => ?_)
    · have hV := hV.1 c5
      refine lv_iconst (v := -1) C0.x C0.b dX8_fraction_44 (by decide) ?_
      exact r_iret C0 rfl hw hV dX8_fraction_45
    · have hV := hV.2 c5
      refine lv_lload_n C0.x C0.b dX8_fraction_24 rfl (lv_at hl 2 rfl) ?_
      refine lv_lconst (v := 1) C0.x C0.b dX8_fraction_25 (by decide) ?_
      refine lv_ldc2 (v := 1000000000) C0.x C0.b C0.ow (C0.ts _ cw_X8_fraction_118) dX8_fraction_26 ?_
      refine r_cS_i (As := [.long p1, .long (1 : Int64), .long (1000000000 : Int64)]) (rest := []) C0 hw (c_X8_in  hV) (va_cwS 3 C0.ts gX8_fraction_X8_in rfl rfl rfl hd_X8_in ⟨Nat.le_of_ble_eq_true rfl, Nat.le_of_ble_eq_true rfl⟩) rfl hl.1 rfl (Nat.le_of_ble_eq_true rfl) ⟨Nat.le_of_ble_eq_true rfl, Nat.le_of_ble_eq_true rfl⟩ dX8_fraction_29 (fun r6 S7 H locs hV hw => ?_)
      refine lv_if_eq (tgt := 44) C0.x C0.b dX8_fraction_32 (by decide) (fun c8 => ?_) (fun c8 => ?_)
      · have hV := hV.1 c8
        refine lv_iconst (v := -1) C0.x C0.b dX8_fraction_44 (by decide) ?_
        exact r_iret C0 rfl hw hV dX8_fraction_45
      · have hV := hV.2 c8
        refine lv_aload_n C0.x C0.b dX8_fraction_35 rfl (lv_at hl 0 rfl) ?_
        refine r_get C0 hw (C := RX8) (T := TX8) (N := 33) (v := .int (gI S7 27)) iw_X8_fraction_X8 (lg_48 ad cI cJ X S7) rfl 10 (by decide) (C0.ts _ fw_X8_fraction_111) rfl dX8_fraction_36 ?_
        refine lv_bipush (v := 40) C0.x C0.b dX8_fraction_39 (by decide) ?_
        refine lv_icmp_ne (tgt := 46) C0.x C0.b dX8_fraction_41 (by decide) (fun c9 => ?_) (fun c9 => ?_)
        · have hV := hV.2 c9
          refine lv_aload_n C0.x C0.b dX8_fraction_46 rfl (lv_at hl 0 rfl) ?_
          refine lv_lload_n C0.x C0.b dX8_fraction_47 rfl (lv_at hl 1 rfl) ?_
          refine lv_lload_n C0.x C0.b dX8_fraction_48 rfl (lv_at hl 2 rfl) ?_
          refine r_cV_v (As := [.long p0, .long p1]) (rest := []) C0 hw (c_X8_add  hV) (cwV 2 C0.ts gX8_fraction_X8_add rfl rfl rfl hd_X8_add ⟨Nat.le_of_ble_eq_true rfl, Nat.le_of_ble_eq_true rfl⟩) (lg_48 ad cI cJ X S7) rfl rfl hl.1 rfl (Nat.le_of_ble_eq_true rfl) ⟨Nat.le_of_ble_eq_true rfl, Nat.le_of_ble_eq_true rfl⟩ dX8_fraction_49 (fun S11 H locs hV hw => ?_)
          refine lv_aload_n C0.x C0.b dX8_fraction_52 rfl (lv_at hl 0 rfl) ?_
          refine r_get C0 hw (C := RX8) (T := TX8) (N := 33) (v := .int (gI S11 27)) iw_X8_fraction_X8 (lg_48 ad cI cJ X S11) rfl 10 (by decide) (C0.ts _ fw_X8_fraction_111) rfl dX8_fraction_53 ?_
          exact r_iret C0 rfl hw hV dX8_fraction_56
        · have hV := hV.1 c9
          refine lv_iconst (v := -1) C0.x C0.b dX8_fraction_44 (by decide) ?_
          exact r_iret C0 rfl hw hV dX8_fraction_45
/-! StepBenchModel.count(I)I -/
abbrev rm_X8_count : Room := { frames := 0, cells := 0, slots := 0, locals := 0 }
set_option maxRecDepth 20000 in
theorem fw_X8_count_61 : Cond.fieldLink RX8 61 "StepBenchModel" "thrown" "I" ∈ wsX8_count := by decide +kernel
set_option maxRecDepth 20000 in
theorem iw_X8_count_X8 : ∀ w ∈ wsX80, w ∈ wsX8_count := by decide +kernel
set_option maxRecDepth 20000 in
theorem fw_X8_count_108 : Cond.fieldLink RX8 108 "StepBenchModel" "sort" "I" ∈ wsX8_count := by decide +kernel
set_option maxRecDepth 20000 in
theorem fw_X8_count_105 : Cond.fieldLink RX8 105 "StepBenchModel" "m" "I" ∈ wsX8_count := by decide +kernel
set_option maxRecDepth 20000 in
theorem fw_X8_count_111 : Cond.fieldLink RX8 111 "StepBenchModel" "fractions" "I" ∈ wsX8_count := by decide +kernel
set_option maxRecDepth 20000 in
theorem fw_X8_count_124 : Cond.fieldLink RX8 124 "StepBenchModel" "rows" "I" ∈ wsX8_count := by decide +kernel
set_option maxRecDepth 20000 in
theorem fw_X8_count_127 : Cond.fieldLink RX8 127 "StepBenchModel" "words" "I" ∈ wsX8_count := by decide +kernel
set_option maxRecDepth 20000 in
theorem fw_X8_count_130 : Cond.fieldLink RX8 130 "StepBenchModel" "acts" "I" ∈ wsX8_count := by decide +kernel
set_option maxRecDepth 20000 in
theorem fw_X8_count_9 : Cond.fieldLink RX8 9 "StepBenchModel" "sheet" "I" ∈ wsX8_count := by decide +kernel
set_option maxRecDepth 20000 in
theorem fw_X8_count_85 : Cond.fieldLink RX8 85 "StepBenchModel" "entries" "I" ∈ wsX8_count := by decide +kernel
set_option maxRecDepth 20000 in
theorem hd_X8_count : yX8_count.cls = RX8 ∧ yX8_count.cls ≠ "java/lang/invoke/MethodHandle" ∧ yX8_count.cls ≠ "java/lang/invoke/VarHandle" ∧ (parseMethodDescriptor yX8_count.desc).map (fun d => d.parameters.length) = some 1 := by decide +kernel
def V_X8_count  (p0 : Int32) (S : SS) (post : Int32 → SS → Prop) : Prop :=
  (∀ S1 : SS, S1 = (sI S 20 (0 : Int32)) → ((p0 = 0 → (post (gI S1 25) S1)) ∧ (p0 = 1 → (((gI S1 25) = (1 : Int32) → (post (gI S1 26) S1)) ∧ (¬ (gI S1 25) = (1 : Int32) → (post (0 : Int32) S1)))) ∧ (p0 = 2 → (((gI S1 25) = (2 : Int32) → (post (gI S1 27) S1)) ∧ (¬ (gI S1 25) = (2 : Int32) → (post (0 : Int32) S1)))) ∧ (p0 = 3 → (post (gI S1 28) S1)) ∧ (p0 = 4 → (post (gI S1 29) S1)) ∧ (p0 = 5 → (post (gI S1 31) S1)) ∧ (p0 = 6 → ((0 ≤ (gI S1 21) → (post (gI S1 22) S1)) ∧ (¬ 0 ≤ (gI S1 21) → (post (-1 : Int32) S1)))) ∧ ((p0.toInt < 0 ∨ 6 < p0.toInt) → (post (-1 : Int32) S1))))
set_option maxHeartbeats 4000000 in
set_option maxRecDepth 100000 in
theorem c_X8_count  {S : SS} {p0 : Int32} {post : Int32 → SS → Prop} (hV : V_X8_count  p0 S post) : MI l yX8_count wsX8_count rm_X8_count [.ref (ad 48), .int p0] D n0 ad cI cJ X S post := by
  refine Met.ofW (cc := cX8_count) (maxL := 2) (ret := (some .int)) (by decide) rfl ?_
  intro p e s m args below meth c s₁ B hml hv
  obtain ⟨rfl, hv⟩ := hv
  have C0 := Bd.mk B hml (atoms_spec (ws := wsX8_count) B.pre) (findClass_of_methodNamed B.named) hv.1
  have hw : Wh D n0 ad cI cJ X S s s.heap [] := ⟨hv.2.1, hv.2.2, va_S.rf⟩
  refine r_entry (Nat.le_of_ble_eq_true rfl) (fun ls hl => ?_)
  have hl : lv_has ls 2 [(0, .ref (ad 48)), (1, .int p0)] := hl
  unfold V_X8_count at hV
  refine lv_aload_n C0.x C0.b dX8_count_0 rfl (lv_at hl 0 rfl) ?_
  refine lv_iconst (v := 0) C0.x C0.b dX8_count_1 (by decide) ?_
  refine r_put C0 hw (C := RX8) (T := TX8) (N := 33) (ty := .int) iw_X8_count_X8 tyX8 tyX8_ok nmX8 (lg_48 ad cI cJ X S) rfl 0 (by decide) (C0.ts _ fw_X8_count_61) rfl (by decide +kernel) rfl rfl (Nat.le_of_ble_eq_true rfl) dX8_count_2 (S' := (sI S 20 (0 : Int32))) (ls_48_0 ad cI cJ X S (0 : Int32)) (fun S1 H locs eS1 hw => ?_)
  have hV := hV S1 eS1
  refine lv_iload_n C0.x C0.b dX8_count_5 rfl (lv_at hl 1 rfl) ?_
  by_cases hsw : p0.toInt < 0 ∨ 6 < p0.toInt
  · refine lv_tableOut (tgt := 118) C0.x C0.b dX8_count_6 hsw (by decide) ?_
    have hV := hV.2.2.2.2.2.2.2 hsw
    refine lv_iconst (v := -1) C0.x C0.b dX8_count_118 (by decide) ?_
    exact r_iret C0 rfl hw hV dX8_count_119
  · obtain ⟨k, hk, ek⟩ := sw_of hsw
    have hk : k = 0 ∨ k = 1 ∨ k = 2 ∨ k = 3 ∨ k = 4 ∨ k = 5 ∨ k = 6 := by omega
    rcases hk with rfl | rfl | rfl | rfl | rfl | rfl | rfl
    · have ek : p0 = 0 := ek
      have hV := hV.1 ek
      refine lv_tableIn (tgt := 48) C0.x C0.b dX8_count_6 (by rw [ek]; decide) (by rw [ek]; decide) (by rw [ek]; rfl) (by decide) ?_
      refine lv_aload_n C0.x C0.b dX8_count_48 rfl (lv_at hl 0 rfl) ?_
      refine r_get C0 hw (C := RX8) (T := TX8) (N := 33) (v := .int (gI S1 25)) iw_X8_count_X8 (lg_48 ad cI cJ X S1) rfl 7 (by decide) (C0.ts _ fw_X8_count_108) rfl dX8_count_49 ?_
      exact r_iret C0 rfl hw hV dX8_count_52
    · have ek : p0 = 1 := ek
      have hV := hV.2.1 ek
      refine lv_tableIn (tgt := 53) C0.x C0.b dX8_count_6 (by rw [ek]; decide) (by rw [ek]; decide) (by rw [ek]; rfl) (by decide) ?_
      refine lv_aload_n C0.x C0.b dX8_count_53 rfl (lv_at hl 0 rfl) ?_
      refine r_get C0 hw (C := RX8) (T := TX8) (N := 33) (v := .int (gI S1 25)) iw_X8_count_X8 (lg_48 ad cI cJ X S1) rfl 7 (by decide) (C0.ts _ fw_X8_count_108) rfl dX8_count_54 ?_
      refine lv_iconst (v := 1) C0.x C0.b dX8_count_57 (by decide) ?_
      refine lv_icmp_ne (tgt := 68) C0.x C0.b dX8_count_58 (by decide) (fun c2 => ?_) (fun c2 => ?_)
      · have hV := hV.2 c2
        refine lv_iconst (v := 0) C0.x C0.b dX8_count_68 (by decide) ?_
        exact r_iret C0 rfl hw hV dX8_count_69
      · have hV := hV.1 c2
        refine lv_aload_n C0.x C0.b dX8_count_61 rfl (lv_at hl 0 rfl) ?_
        refine r_get C0 hw (C := RX8) (T := TX8) (N := 33) (v := .int (gI S1 26)) iw_X8_count_X8 (lg_48 ad cI cJ X S1) rfl 8 (by decide) (C0.ts _ fw_X8_count_105) rfl dX8_count_62 ?_
        refine lv_goto (tgt := 69) C0.x C0.b dX8_count_65 (by decide) ?_
        exact r_iret C0 rfl hw hV dX8_count_69
    · have ek : p0 = 2 := ek
      have hV := hV.2.2.1 ek
      refine lv_tableIn (tgt := 70) C0.x C0.b dX8_count_6 (by rw [ek]; decide) (by rw [ek]; decide) (by rw [ek]; rfl) (by decide) ?_
      refine lv_aload_n C0.x C0.b dX8_count_70 rfl (lv_at hl 0 rfl) ?_
      refine r_get C0 hw (C := RX8) (T := TX8) (N := 33) (v := .int (gI S1 25)) iw_X8_count_X8 (lg_48 ad cI cJ X S1) rfl 7 (by decide) (C0.ts _ fw_X8_count_108) rfl dX8_count_71 ?_
      refine lv_iconst (v := 2) C0.x C0.b dX8_count_74 (by decide) ?_
      refine lv_icmp_ne (tgt := 85) C0.x C0.b dX8_count_75 (by decide) (fun c3 => ?_) (fun c3 => ?_)
      · have hV := hV.2 c3
        refine lv_iconst (v := 0) C0.x C0.b dX8_count_85 (by decide) ?_
        exact r_iret C0 rfl hw hV dX8_count_86
      · have hV := hV.1 c3
        refine lv_aload_n C0.x C0.b dX8_count_78 rfl (lv_at hl 0 rfl) ?_
        refine r_get C0 hw (C := RX8) (T := TX8) (N := 33) (v := .int (gI S1 27)) iw_X8_count_X8 (lg_48 ad cI cJ X S1) rfl 10 (by decide) (C0.ts _ fw_X8_count_111) rfl dX8_count_79 ?_
        refine lv_goto (tgt := 86) C0.x C0.b dX8_count_82 (by decide) ?_
        exact r_iret C0 rfl hw hV dX8_count_86
    · have ek : p0 = 3 := ek
      have hV := hV.2.2.2.1 ek
      refine lv_tableIn (tgt := 87) C0.x C0.b dX8_count_6 (by rw [ek]; decide) (by rw [ek]; decide) (by rw [ek]; rfl) (by decide) ?_
      refine lv_aload_n C0.x C0.b dX8_count_87 rfl (lv_at hl 0 rfl) ?_
      refine r_get C0 hw (C := RX8) (T := TX8) (N := 33) (v := .int (gI S1 28)) iw_X8_count_X8 (lg_48 ad cI cJ X S1) rfl 15 (by decide) (C0.ts _ fw_X8_count_124) rfl dX8_count_88 ?_
      exact r_iret C0 rfl hw hV dX8_count_91
    · have ek : p0 = 4 := ek
      have hV := hV.2.2.2.2.1 ek
      refine lv_tableIn (tgt := 92) C0.x C0.b dX8_count_6 (by rw [ek]; decide) (by rw [ek]; decide) (by rw [ek]; rfl) (by decide) ?_
      refine lv_aload_n C0.x C0.b dX8_count_92 rfl (lv_at hl 0 rfl) ?_
      refine r_get C0 hw (C := RX8) (T := TX8) (N := 33) (v := .int (gI S1 29)) iw_X8_count_X8 (lg_48 ad cI cJ X S1) rfl 18 (by decide) (C0.ts _ fw_X8_count_127) rfl dX8_count_93 ?_
      exact r_iret C0 rfl hw hV dX8_count_96
    · have ek : p0 = 5 := ek
      have hV := hV.2.2.2.2.2.1 ek
      refine lv_tableIn (tgt := 97) C0.x C0.b dX8_count_6 (by rw [ek]; decide) (by rw [ek]; decide) (by rw [ek]; rfl) (by decide) ?_
      refine lv_aload_n C0.x C0.b dX8_count_97 rfl (lv_at hl 0 rfl) ?_
      refine r_get C0 hw (C := RX8) (T := TX8) (N := 33) (v := .int (gI S1 31)) iw_X8_count_X8 (lg_48 ad cI cJ X S1) rfl 31 (by decide) (C0.ts _ fw_X8_count_130) rfl dX8_count_98 ?_
      exact r_iret C0 rfl hw hV dX8_count_101
    · have ek : p0 = 6 := ek
      have hV := hV.2.2.2.2.2.2.1 ek
      refine lv_tableIn (tgt := 102) C0.x C0.b dX8_count_6 (by rw [ek]; decide) (by rw [ek]; decide) (by rw [ek]; rfl) (by decide) ?_
      refine lv_aload_n C0.x C0.b dX8_count_102 rfl (lv_at hl 0 rfl) ?_
      refine r_get C0 hw (C := RX8) (T := TX8) (N := 33) (v := .int (gI S1 21)) iw_X8_count_X8 (lg_48 ad cI cJ X S1) rfl 1 (by decide) (C0.ts _ fw_X8_count_9) rfl dX8_count_103 ?_
      refine lv_if_ge (tgt := 113) C0.x C0.b dX8_count_106 (by decide) (fun c4 => ?_) (fun c4 => ?_)
      · have hV := hV.1 c4
        refine lv_aload_n C0.x C0.b dX8_count_113 rfl (lv_at hl 0 rfl) ?_
        refine r_get C0 hw (C := RX8) (T := TX8) (N := 33) (v := .int (gI S1 22)) iw_X8_count_X8 (lg_48 ad cI cJ X S1) rfl 2 (by decide) (C0.ts _ fw_X8_count_85) rfl dX8_count_114 ?_
        exact r_iret C0 rfl hw hV dX8_count_117
      · have hV := hV.2 c4
        refine lv_iconst (v := -1) C0.x C0.b dX8_count_109 (by decide) ?_
        refine lv_goto (tgt := 117) C0.x C0.b dX8_count_110 (by decide) ?_
        exact r_iret C0 rfl hw hV dX8_count_117
/-! StepBenchModel.told(II)J -/
abbrev rm_X8_told : Room := { frames := 1, cells := 0, slots := 0, locals := 25 }
set_option maxRecDepth 20000 in
theorem fw_X8_told_61 : Cond.fieldLink RX8 61 "StepBenchModel" "thrown" "I" ∈ wsX8_told := by decide +kernel
set_option maxRecDepth 20000 in
theorem iw_X8_told_X8 : ∀ w ∈ wsX80, w ∈ wsX8_told := by decide +kernel
set_option maxRecDepth 20000 in
theorem fw_X8_told_108 : Cond.fieldLink RX8 108 "StepBenchModel" "sort" "I" ∈ wsX8_told := by decide +kernel
set_option maxRecDepth 20000 in
theorem fw_X8_told_105 : Cond.fieldLink RX8 105 "StepBenchModel" "m" "I" ∈ wsX8_told := by decide +kernel
set_option maxRecDepth 20000 in
theorem fw_X8_told_111 : Cond.fieldLink RX8 111 "StepBenchModel" "fractions" "I" ∈ wsX8_told := by decide +kernel
set_option maxRecDepth 20000 in
theorem fw_X8_told_23 : Cond.fieldLink RX8 23 "StepBenchModel" "p" "[J" ∈ wsX8_told := by decide +kernel
set_option maxRecDepth 20000 in
theorem fw_X8_told_26 : Cond.fieldLink RX8 26 "StepBenchModel" "q" "[J" ∈ wsX8_told := by decide +kernel
set_option maxRecDepth 20000 in
theorem cw_X8_told_72 : Cond.constantLong RX8 72 2 ∈ wsX8_told := by decide +kernel
set_option maxRecDepth 20000 in
theorem fw_X8_told_20 : Cond.fieldLink RX8 20 "StepBenchModel" "rule" "[J" ∈ wsX8_told := by decide +kernel
set_option maxRecDepth 20000 in
theorem hd_X8_told : yX8_told.cls = RX8 ∧ yX8_told.cls ≠ "java/lang/invoke/MethodHandle" ∧ yX8_told.cls ≠ "java/lang/invoke/VarHandle" ∧ (parseMethodDescriptor yX8_told.desc).map (fun d => d.parameters.length) = some 2 := by decide +kernel
def V_X8_told  (p0 : Int32) (p1 : Int32) (S : SS) (post : Int64 → SS → Prop) : Prop :=
  (∀ S1 : SS, S1 = (sI S 20 (0 : Int32)) → (((gI S1 25) = (1 : Int32) → (V_X8_in p0.toInt64 (0 : Int64) (((gI S1 26) - (1 : Int32)).toInt64) S1 (fun (r3 : Int32) (S4 : SS) => ((r3 = 0 → (((gI S4 25) = (2 : Int32) → (V_X8_in p0.toInt64 (0 : Int64) (((gI S4 27) - (1 : Int32)).toInt64) S4 (fun (r7 : Int32) (S8 : SS) => ((r7 = 0 → (V_X8_refuse (1 : Int32) S8 (fun (r10 : Int64) (S11 : SS) => (post r10 S11)))) ∧ (¬ r7 = 0 → (V_X8_in p1.toInt64 (0 : Int64) (1 : Int64) S8 (fun (r12 : Int32) (S13 : SS) => ((r12 = 0 → (V_X8_refuse (1 : Int32) S13 (fun (r15 : Int64) (S16 : SS) => (post r15 S16)))) ∧ (¬ r12 = 0 → ((p1 = 0 → (vp_in p0 40 ∧ (post (gA S13 33 p0.toNatClampNeg) S13))) ∧ (¬ p1 = 0 → (vp_in p0 40 ∧ (post (gA S13 34 p0.toNatClampNeg) S13))))))))))))) ∧ (¬ (gI S4 25) = (2 : Int32) → (V_X8_refuse (1 : Int32) S4 (fun (r18 : Int64) (S19 : SS) => (post r18 S19)))))) ∧ (¬ r3 = 0 → (V_X8_in p1.toInt64 (0 : Int64) (2 : Int64) S4 (fun (r20 : Int32) (S21 : SS) => ((r20 = 0 → (((gI S21 25) = (2 : Int32) → (V_X8_in p0.toInt64 (0 : Int64) (((gI S21 27) - (1 : Int32)).toInt64) S21 (fun (r24 : Int32) (S25 : SS) => ((r24 = 0 → (V_X8_refuse (1 : Int32) S25 (fun (r27 : Int64) (S28 : SS) => (post r27 S28)))) ∧ (¬ r24 = 0 → (V_X8_in p1.toInt64 (0 : Int64) (1 : Int64) S25 (fun (r29 : Int32) (S30 : SS) => ((r29 = 0 → (V_X8_refuse (1 : Int32) S30 (fun (r32 : Int64) (S33 : SS) => (post r32 S33)))) ∧ (¬ r29 = 0 → ((p1 = 0 → (vp_in p0 40 ∧ (post (gA S30 33 p0.toNatClampNeg) S30))) ∧ (¬ p1 = 0 → (vp_in p0 40 ∧ (post (gA S30 34 p0.toNatClampNeg) S30))))))))))))) ∧ (¬ (gI S21 25) = (2 : Int32) → (V_X8_refuse (1 : Int32) S21 (fun (r35 : Int64) (S36 : SS) => (post r35 S36)))))) ∧ (¬ r20 = 0 → (vp_in (((3 : Int32) * p0) + p1) 192 ∧ (post (gA S21 32 (((3 : Int32) * p0) + p1).toNatClampNeg) S21))))))))))) ∧ (¬ (gI S1 25) = (1 : Int32) → (((gI S1 25) = (2 : Int32) → (V_X8_in p0.toInt64 (0 : Int64) (((gI S1 27) - (1 : Int32)).toInt64) S1 (fun (r38 : Int32) (S39 : SS) => ((r38 = 0 → (V_X8_refuse (1 : Int32) S39 (fun (r41 : Int64) (S42 : SS) => (post r41 S42)))) ∧ (¬ r38 = 0 → (V_X8_in p1.toInt64 (0 : Int64) (1 : Int64) S39 (fun (r43 : Int32) (S44 : SS) => ((r43 = 0 → (V_X8_refuse (1 : Int32) S44 (fun (r46 : Int64) (S47 : SS) => (post r46 S47)))) ∧ (¬ r43 = 0 → ((p1 = 0 → (vp_in p0 40 ∧ (post (gA S44 33 p0.toNatClampNeg) S44))) ∧ (¬ p1 = 0 → (vp_in p0 40 ∧ (post (gA S44 34 p0.toNatClampNeg) S44))))))))))))) ∧ (¬ (gI S1 25) = (2 : Int32) → (V_X8_refuse (1 : Int32) S1 (fun (r49 : Int64) (S50 : SS) => (post r49 S50))))))))
set_option maxHeartbeats 4000000 in
set_option maxRecDepth 100000 in
theorem c_X8_told  {S : SS} {p0 : Int32} {p1 : Int32} {post : Int64 → SS → Prop} (hV : V_X8_told  p0 p1 S post) : ML l yX8_told wsX8_told rm_X8_told [.ref (ad 48), .int p0, .int p1] D n0 ad cI cJ X S post := by
  refine Met.ofW (cc := cX8_told) (maxL := 3) (ret := (some .long)) (by decide) rfl ?_
  intro p e s m args below meth c s₁ B hml hv
  obtain ⟨rfl, hv⟩ := hv
  have C0 := Bd.mk B hml (atoms_spec (ws := wsX8_told) B.pre) (findClass_of_methodNamed B.named) hv.1
  have hw : Wh D n0 ad cI cJ X S s s.heap [] := ⟨hv.2.1, hv.2.2, va_S.rf⟩
  refine r_entry (Nat.le_of_ble_eq_true rfl) (fun ls hl => ?_)
  have hl : lv_has ls 3 [(0, .ref (ad 48)), (1, .int p0), (2, .int p1)] := hl
  unfold V_X8_told at hV
  refine lv_aload_n C0.x C0.b dX8_told_0 rfl (lv_at hl 0 rfl) ?_
  refine lv_iconst (v := 0) C0.x C0.b dX8_told_1 (by decide) ?_
  refine r_put C0 hw (C := RX8) (T := TX8) (N := 33) (ty := .int) iw_X8_told_X8 tyX8 tyX8_ok nmX8 (lg_48 ad cI cJ X S) rfl 0 (by decide) (C0.ts _ fw_X8_told_61) rfl (by decide +kernel) rfl rfl (Nat.le_of_ble_eq_true rfl) dX8_told_2 (S' := (sI S 20 (0 : Int32))) (ls_48_0 ad cI cJ X S (0 : Int32)) (fun S1 H locs eS1 hw => ?_)
  have hV := hV S1 eS1
  refine lv_aload_n C0.x C0.b dX8_told_5 rfl (lv_at hl 0 rfl) ?_
  refine r_get C0 hw (C := RX8) (T := TX8) (N := 33) (v := .int (gI S1 25)) iw_X8_told_X8 (lg_48 ad cI cJ X S1) rfl 7 (by decide) (C0.ts _ fw_X8_told_108) rfl dX8_told_6 ?_
  refine lv_iconst (v := 1) C0.x C0.b dX8_told_9 (by decide) ?_
  refine lv_icmp_ne (tgt := 52) C0.x C0.b dX8_told_10 (by decide) (fun c2 => ?_) (fun c2 => ?_)
  · have hV := hV.2 c2
    refine lv_aload_n C0.x C0.b dX8_told_52 rfl (lv_at hl 0 rfl) ?_
    refine r_get C0 hw (C := RX8) (T := TX8) (N := 33) (v := .int (gI S1 25)) iw_X8_told_X8 (lg_48 ad cI cJ X S1) rfl 7 (by decide) (C0.ts _ fw_X8_told_108) rfl dX8_told_53 ?_
    refine lv_iconst (v := 2) C0.x C0.b dX8_told_56 (by decide) ?_
    refine lv_icmp_ne (tgt := 106) C0.x C0.b dX8_told_57 (by decide) (fun c37 => ?_) (fun c37 => ?_)
    · have hV := hV.2 c37
      refine lv_aload_n C0.x C0.b dX8_told_106 rfl (lv_at hl 0 rfl) ?_
      refine lv_iconst (v := 1) C0.x C0.b dX8_told_107 (by decide) ?_
      refine r_cV_l (As := [.int (1 : Int32)]) (rest := []) C0 hw (c_X8_refuse  hV) (cwV 1 C0.ts gX8_told_X8_refuse rfl rfl rfl hd_X8_refuse ⟨Nat.le_of_ble_eq_true rfl, Nat.le_of_ble_eq_true rfl⟩) (lg_48 ad cI cJ X S1) rfl rfl hl.1 rfl (Nat.le_of_ble_eq_true rfl) ⟨Nat.le_of_ble_eq_true rfl, Nat.le_of_ble_eq_true rfl⟩ dX8_told_108 (fun r49 S50 H locs hV hw => ?_)
      exact r_lret C0 rfl hw hV dX8_told_111
    · have hV := hV.1 c37
      refine lv_iload_n C0.x C0.b dX8_told_60 rfl (lv_at hl 1 rfl) ?_
      refine lv_i2l C0.x C0.b dX8_told_61 rfl ?_
      refine lv_lconst (v := 0) C0.x C0.b dX8_told_62 (by decide) ?_
      refine lv_aload_n C0.x C0.b dX8_told_63 rfl (lv_at hl 0 rfl) ?_
      refine r_get C0 hw (C := RX8) (T := TX8) (N := 33) (v := .int (gI S1 27)) iw_X8_told_X8 (lg_48 ad cI cJ X S1) rfl 10 (by decide) (C0.ts _ fw_X8_told_111) rfl dX8_told_64 ?_
      refine lv_iconst (v := 1) C0.x C0.b dX8_told_67 (by decide) ?_
      refine lv_isub C0.x C0.b dX8_told_68 ?_
      refine lv_i2l C0.x C0.b dX8_told_69 rfl ?_
      refine r_cS_i (As := [.long p0.toInt64, .long (0 : Int64), .long ((gI S1 27) - (1 : Int32)).toInt64]) (rest := []) C0 hw (c_X8_in  hV) (va_cwS 3 C0.ts gX8_told_X8_in rfl rfl rfl hd_X8_in ⟨Nat.le_of_ble_eq_true rfl, Nat.le_of_ble_eq_true rfl⟩) rfl hl.1 rfl (Nat.le_of_ble_eq_true rfl) ⟨Nat.le_of_ble_eq_true rfl, Nat.le_of_ble_eq_true rfl⟩ dX8_told_70 (fun r38 S39 H locs hV hw => ?_)
      refine lv_if_eq (tgt := 106) C0.x C0.b dX8_told_73 (by decide) (fun c40 => ?_) (fun c40 => ?_)
      · have hV := hV.1 c40
        refine lv_aload_n C0.x C0.b dX8_told_106 rfl (lv_at hl 0 rfl) ?_
        refine lv_iconst (v := 1) C0.x C0.b dX8_told_107 (by decide) ?_
        refine r_cV_l (As := [.int (1 : Int32)]) (rest := []) C0 hw (c_X8_refuse  hV) (cwV 1 C0.ts gX8_told_X8_refuse rfl rfl rfl hd_X8_refuse ⟨Nat.le_of_ble_eq_true rfl, Nat.le_of_ble_eq_true rfl⟩) (lg_48 ad cI cJ X S39) rfl rfl hl.1 rfl (Nat.le_of_ble_eq_true rfl) ⟨Nat.le_of_ble_eq_true rfl, Nat.le_of_ble_eq_true rfl⟩ dX8_told_108 (fun r41 S42 H locs hV hw => ?_)
        exact r_lret C0 rfl hw hV dX8_told_111
      · have hV := hV.2 c40
        refine lv_iload_n C0.x C0.b dX8_told_76 rfl (lv_at hl 2 rfl) ?_
        refine lv_i2l C0.x C0.b dX8_told_77 rfl ?_
        refine lv_lconst (v := 0) C0.x C0.b dX8_told_78 (by decide) ?_
        refine lv_lconst (v := 1) C0.x C0.b dX8_told_79 (by decide) ?_
        refine r_cS_i (As := [.long p1.toInt64, .long (0 : Int64), .long (1 : Int64)]) (rest := []) C0 hw (c_X8_in  hV) (va_cwS 3 C0.ts gX8_told_X8_in rfl rfl rfl hd_X8_in ⟨Nat.le_of_ble_eq_true rfl, Nat.le_of_ble_eq_true rfl⟩) rfl hl.1 rfl (Nat.le_of_ble_eq_true rfl) ⟨Nat.le_of_ble_eq_true rfl, Nat.le_of_ble_eq_true rfl⟩ dX8_told_80 (fun r43 S44 H locs hV hw => ?_)
        refine lv_if_eq (tgt := 106) C0.x C0.b dX8_told_83 (by decide) (fun c45 => ?_) (fun c45 => ?_)
        · have hV := hV.1 c45
          refine lv_aload_n C0.x C0.b dX8_told_106 rfl (lv_at hl 0 rfl) ?_
          refine lv_iconst (v := 1) C0.x C0.b dX8_told_107 (by decide) ?_
          refine r_cV_l (As := [.int (1 : Int32)]) (rest := []) C0 hw (c_X8_refuse  hV) (cwV 1 C0.ts gX8_told_X8_refuse rfl rfl rfl hd_X8_refuse ⟨Nat.le_of_ble_eq_true rfl, Nat.le_of_ble_eq_true rfl⟩) (lg_48 ad cI cJ X S44) rfl rfl hl.1 rfl (Nat.le_of_ble_eq_true rfl) ⟨Nat.le_of_ble_eq_true rfl, Nat.le_of_ble_eq_true rfl⟩ dX8_told_108 (fun r46 S47 H locs hV hw => ?_)
          exact r_lret C0 rfl hw hV dX8_told_111
        · have hV := hV.2 c45
          refine lv_iload_n C0.x C0.b dX8_told_86 rfl (lv_at hl 2 rfl) ?_
          refine lv_if_ne (tgt := 99) C0.x C0.b dX8_told_87 (by decide) (fun c48 => ?_) (fun c48 => ?_)
          · have hV := hV.2 c48
            refine lv_aload_n C0.x C0.b dX8_told_99 rfl (lv_at hl 0 rfl) ?_
            refine r_get C0 hw (C := RX8) (T := TX8) (N := 33) (v := .ref (ad 53)) iw_X8_told_X8 (lg_48 ad cI cJ X S44) rfl 12 (by decide) (C0.ts _ fw_X8_told_26) rfl dX8_told_100 ?_
            refine lv_iload_n C0.x C0.b dX8_told_103 rfl (lv_at hl 1 rfl) ?_
            refine r_lald C0 hw (lg_53 ad cI cJ X S44) hV.1 dX8_told_104 ?_
            have hV := hV.2
            exact r_lret C0 rfl hw hV dX8_told_105
          · have hV := hV.1 c48
            refine lv_aload_n C0.x C0.b dX8_told_90 rfl (lv_at hl 0 rfl) ?_
            refine r_get C0 hw (C := RX8) (T := TX8) (N := 33) (v := .ref (ad 52)) iw_X8_told_X8 (lg_48 ad cI cJ X S44) rfl 11 (by decide) (C0.ts _ fw_X8_told_23) rfl dX8_told_91 ?_
            refine lv_iload_n C0.x C0.b dX8_told_94 rfl (lv_at hl 1 rfl) ?_
            refine r_lald C0 hw (lg_52 ad cI cJ X S44) hV.1 dX8_told_95 ?_
            have hV := hV.2
            refine lv_goto (tgt := 105) C0.x C0.b dX8_told_96 (by decide) ?_
            exact r_lret C0 rfl hw hV dX8_told_105
  · have hV := hV.1 c2
    refine lv_iload_n C0.x C0.b dX8_told_13 rfl (lv_at hl 1 rfl) ?_
    refine lv_i2l C0.x C0.b dX8_told_14 rfl ?_
    refine lv_lconst (v := 0) C0.x C0.b dX8_told_15 (by decide) ?_
    refine lv_aload_n C0.x C0.b dX8_told_16 rfl (lv_at hl 0 rfl) ?_
    refine r_get C0 hw (C := RX8) (T := TX8) (N := 33) (v := .int (gI S1 26)) iw_X8_told_X8 (lg_48 ad cI cJ X S1) rfl 8 (by decide) (C0.ts _ fw_X8_told_105) rfl dX8_told_17 ?_
    refine lv_iconst (v := 1) C0.x C0.b dX8_told_20 (by decide) ?_
    refine lv_isub C0.x C0.b dX8_told_21 ?_
    refine lv_i2l C0.x C0.b dX8_told_22 rfl ?_
    refine r_cS_i (As := [.long p0.toInt64, .long (0 : Int64), .long ((gI S1 26) - (1 : Int32)).toInt64]) (rest := []) C0 hw (c_X8_in  hV) (va_cwS 3 C0.ts gX8_told_X8_in rfl rfl rfl hd_X8_in ⟨Nat.le_of_ble_eq_true rfl, Nat.le_of_ble_eq_true rfl⟩) rfl hl.1 rfl (Nat.le_of_ble_eq_true rfl) ⟨Nat.le_of_ble_eq_true rfl, Nat.le_of_ble_eq_true rfl⟩ dX8_told_23 (fun r3 S4 H locs hV hw => ?_)
    refine lv_if_eq (tgt := 52) C0.x C0.b dX8_told_26 (by decide) (fun c5 => ?_) (fun c5 => ?_)
    · have hV := hV.1 c5
      refine lv_aload_n C0.x C0.b dX8_told_52 rfl (lv_at hl 0 rfl) ?_
      refine r_get C0 hw (C := RX8) (T := TX8) (N := 33) (v := .int (gI S4 25)) iw_X8_told_X8 (lg_48 ad cI cJ X S4) rfl 7 (by decide) (C0.ts _ fw_X8_told_108) rfl dX8_told_53 ?_
      refine lv_iconst (v := 2) C0.x C0.b dX8_told_56 (by decide) ?_
      refine lv_icmp_ne (tgt := 106) C0.x C0.b dX8_told_57 (by decide) (fun c6 => ?_) (fun c6 => ?_)
      · have hV := hV.2 c6
        refine lv_aload_n C0.x C0.b dX8_told_106 rfl (lv_at hl 0 rfl) ?_
        refine lv_iconst (v := 1) C0.x C0.b dX8_told_107 (by decide) ?_
        refine r_cV_l (As := [.int (1 : Int32)]) (rest := []) C0 hw (c_X8_refuse  hV) (cwV 1 C0.ts gX8_told_X8_refuse rfl rfl rfl hd_X8_refuse ⟨Nat.le_of_ble_eq_true rfl, Nat.le_of_ble_eq_true rfl⟩) (lg_48 ad cI cJ X S4) rfl rfl hl.1 rfl (Nat.le_of_ble_eq_true rfl) ⟨Nat.le_of_ble_eq_true rfl, Nat.le_of_ble_eq_true rfl⟩ dX8_told_108 (fun r18 S19 H locs hV hw => ?_)
        exact r_lret C0 rfl hw hV dX8_told_111
      · have hV := hV.1 c6
        refine lv_iload_n C0.x C0.b dX8_told_60 rfl (lv_at hl 1 rfl) ?_
        refine lv_i2l C0.x C0.b dX8_told_61 rfl ?_
        refine lv_lconst (v := 0) C0.x C0.b dX8_told_62 (by decide) ?_
        refine lv_aload_n C0.x C0.b dX8_told_63 rfl (lv_at hl 0 rfl) ?_
        refine r_get C0 hw (C := RX8) (T := TX8) (N := 33) (v := .int (gI S4 27)) iw_X8_told_X8 (lg_48 ad cI cJ X S4) rfl 10 (by decide) (C0.ts _ fw_X8_told_111) rfl dX8_told_64 ?_
        refine lv_iconst (v := 1) C0.x C0.b dX8_told_67 (by decide) ?_
        refine lv_isub C0.x C0.b dX8_told_68 ?_
        refine lv_i2l C0.x C0.b dX8_told_69 rfl ?_
        refine r_cS_i (As := [.long p0.toInt64, .long (0 : Int64), .long ((gI S4 27) - (1 : Int32)).toInt64]) (rest := []) C0 hw (c_X8_in  hV) (va_cwS 3 C0.ts gX8_told_X8_in rfl rfl rfl hd_X8_in ⟨Nat.le_of_ble_eq_true rfl, Nat.le_of_ble_eq_true rfl⟩) rfl hl.1 rfl (Nat.le_of_ble_eq_true rfl) ⟨Nat.le_of_ble_eq_true rfl, Nat.le_of_ble_eq_true rfl⟩ dX8_told_70 (fun r7 S8 H locs hV hw => ?_)
        refine lv_if_eq (tgt := 106) C0.x C0.b dX8_told_73 (by decide) (fun c9 => ?_) (fun c9 => ?_)
        · have hV := hV.1 c9
          refine lv_aload_n C0.x C0.b dX8_told_106 rfl (lv_at hl 0 rfl) ?_
          refine lv_iconst (v := 1) C0.x C0.b dX8_told_107 (by decide) ?_
          refine r_cV_l (As := [.int (1 : Int32)]) (rest := []) C0 hw (c_X8_refuse  hV) (cwV 1 C0.ts gX8_told_X8_refuse rfl rfl rfl hd_X8_refuse ⟨Nat.le_of_ble_eq_true rfl, Nat.le_of_ble_eq_true rfl⟩) (lg_48 ad cI cJ X S8) rfl rfl hl.1 rfl (Nat.le_of_ble_eq_true rfl) ⟨Nat.le_of_ble_eq_true rfl, Nat.le_of_ble_eq_true rfl⟩ dX8_told_108 (fun r10 S11 H locs hV hw => ?_)
          exact r_lret C0 rfl hw hV dX8_told_111
        · have hV := hV.2 c9
          refine lv_iload_n C0.x C0.b dX8_told_76 rfl (lv_at hl 2 rfl) ?_
          refine lv_i2l C0.x C0.b dX8_told_77 rfl ?_
          refine lv_lconst (v := 0) C0.x C0.b dX8_told_78 (by decide) ?_
          refine lv_lconst (v := 1) C0.x C0.b dX8_told_79 (by decide) ?_
          refine r_cS_i (As := [.long p1.toInt64, .long (0 : Int64), .long (1 : Int64)]) (rest := []) C0 hw (c_X8_in  hV) (va_cwS 3 C0.ts gX8_told_X8_in rfl rfl rfl hd_X8_in ⟨Nat.le_of_ble_eq_true rfl, Nat.le_of_ble_eq_true rfl⟩) rfl hl.1 rfl (Nat.le_of_ble_eq_true rfl) ⟨Nat.le_of_ble_eq_true rfl, Nat.le_of_ble_eq_true rfl⟩ dX8_told_80 (fun r12 S13 H locs hV hw => ?_)
          refine lv_if_eq (tgt := 106) C0.x C0.b dX8_told_83 (by decide) (fun c14 => ?_) (fun c14 => ?_)
          · have hV := hV.1 c14
            refine lv_aload_n C0.x C0.b dX8_told_106 rfl (lv_at hl 0 rfl) ?_
            refine lv_iconst (v := 1) C0.x C0.b dX8_told_107 (by decide) ?_
            refine r_cV_l (As := [.int (1 : Int32)]) (rest := []) C0 hw (c_X8_refuse  hV) (cwV 1 C0.ts gX8_told_X8_refuse rfl rfl rfl hd_X8_refuse ⟨Nat.le_of_ble_eq_true rfl, Nat.le_of_ble_eq_true rfl⟩) (lg_48 ad cI cJ X S13) rfl rfl hl.1 rfl (Nat.le_of_ble_eq_true rfl) ⟨Nat.le_of_ble_eq_true rfl, Nat.le_of_ble_eq_true rfl⟩ dX8_told_108 (fun r15 S16 H locs hV hw => ?_)
            exact r_lret C0 rfl hw hV dX8_told_111
          · have hV := hV.2 c14
            refine lv_iload_n C0.x C0.b dX8_told_86 rfl (lv_at hl 2 rfl) ?_
            refine lv_if_ne (tgt := 99) C0.x C0.b dX8_told_87 (by decide) (fun c17 => ?_) (fun c17 => ?_)
            · have hV := hV.2 c17
              refine lv_aload_n C0.x C0.b dX8_told_99 rfl (lv_at hl 0 rfl) ?_
              refine r_get C0 hw (C := RX8) (T := TX8) (N := 33) (v := .ref (ad 53)) iw_X8_told_X8 (lg_48 ad cI cJ X S13) rfl 12 (by decide) (C0.ts _ fw_X8_told_26) rfl dX8_told_100 ?_
              refine lv_iload_n C0.x C0.b dX8_told_103 rfl (lv_at hl 1 rfl) ?_
              refine r_lald C0 hw (lg_53 ad cI cJ X S13) hV.1 dX8_told_104 ?_
              have hV := hV.2
              exact r_lret C0 rfl hw hV dX8_told_105
            · have hV := hV.1 c17
              refine lv_aload_n C0.x C0.b dX8_told_90 rfl (lv_at hl 0 rfl) ?_
              refine r_get C0 hw (C := RX8) (T := TX8) (N := 33) (v := .ref (ad 52)) iw_X8_told_X8 (lg_48 ad cI cJ X S13) rfl 11 (by decide) (C0.ts _ fw_X8_told_23) rfl dX8_told_91 ?_
              refine lv_iload_n C0.x C0.b dX8_told_94 rfl (lv_at hl 1 rfl) ?_
              refine r_lald C0 hw (lg_52 ad cI cJ X S13) hV.1 dX8_told_95 ?_
              have hV := hV.2
              refine lv_goto (tgt := 105) C0.x C0.b dX8_told_96 (by decide) ?_
              exact r_lret C0 rfl hw hV dX8_told_105
    · have hV := hV.2 c5
      refine lv_iload_n C0.x C0.b dX8_told_29 rfl (lv_at hl 2 rfl) ?_
      refine lv_i2l C0.x C0.b dX8_told_30 rfl ?_
      refine lv_lconst (v := 0) C0.x C0.b dX8_told_31 (by decide) ?_
      refine lv_ldc2 (v := 2) C0.x C0.b C0.ow (C0.ts _ cw_X8_told_72) dX8_told_32 ?_
      refine r_cS_i (As := [.long p1.toInt64, .long (0 : Int64), .long (2 : Int64)]) (rest := []) C0 hw (c_X8_in  hV) (va_cwS 3 C0.ts gX8_told_X8_in rfl rfl rfl hd_X8_in ⟨Nat.le_of_ble_eq_true rfl, Nat.le_of_ble_eq_true rfl⟩) rfl hl.1 rfl (Nat.le_of_ble_eq_true rfl) ⟨Nat.le_of_ble_eq_true rfl, Nat.le_of_ble_eq_true rfl⟩ dX8_told_35 (fun r20 S21 H locs hV hw => ?_)
      refine lv_if_eq (tgt := 52) C0.x C0.b dX8_told_38 (by decide) (fun c22 => ?_) (fun c22 => ?_)
      · have hV := hV.1 c22
        refine lv_aload_n C0.x C0.b dX8_told_52 rfl (lv_at hl 0 rfl) ?_
        refine r_get C0 hw (C := RX8) (T := TX8) (N := 33) (v := .int (gI S21 25)) iw_X8_told_X8 (lg_48 ad cI cJ X S21) rfl 7 (by decide) (C0.ts _ fw_X8_told_108) rfl dX8_told_53 ?_
        refine lv_iconst (v := 2) C0.x C0.b dX8_told_56 (by decide) ?_
        refine lv_icmp_ne (tgt := 106) C0.x C0.b dX8_told_57 (by decide) (fun c23 => ?_) (fun c23 => ?_)
        · have hV := hV.2 c23
          refine lv_aload_n C0.x C0.b dX8_told_106 rfl (lv_at hl 0 rfl) ?_
          refine lv_iconst (v := 1) C0.x C0.b dX8_told_107 (by decide) ?_
          refine r_cV_l (As := [.int (1 : Int32)]) (rest := []) C0 hw (c_X8_refuse  hV) (cwV 1 C0.ts gX8_told_X8_refuse rfl rfl rfl hd_X8_refuse ⟨Nat.le_of_ble_eq_true rfl, Nat.le_of_ble_eq_true rfl⟩) (lg_48 ad cI cJ X S21) rfl rfl hl.1 rfl (Nat.le_of_ble_eq_true rfl) ⟨Nat.le_of_ble_eq_true rfl, Nat.le_of_ble_eq_true rfl⟩ dX8_told_108 (fun r35 S36 H locs hV hw => ?_)
          exact r_lret C0 rfl hw hV dX8_told_111
        · have hV := hV.1 c23
          refine lv_iload_n C0.x C0.b dX8_told_60 rfl (lv_at hl 1 rfl) ?_
          refine lv_i2l C0.x C0.b dX8_told_61 rfl ?_
          refine lv_lconst (v := 0) C0.x C0.b dX8_told_62 (by decide) ?_
          refine lv_aload_n C0.x C0.b dX8_told_63 rfl (lv_at hl 0 rfl) ?_
          refine r_get C0 hw (C := RX8) (T := TX8) (N := 33) (v := .int (gI S21 27)) iw_X8_told_X8 (lg_48 ad cI cJ X S21) rfl 10 (by decide) (C0.ts _ fw_X8_told_111) rfl dX8_told_64 ?_
          refine lv_iconst (v := 1) C0.x C0.b dX8_told_67 (by decide) ?_
          refine lv_isub C0.x C0.b dX8_told_68 ?_
          refine lv_i2l C0.x C0.b dX8_told_69 rfl ?_
          refine r_cS_i (As := [.long p0.toInt64, .long (0 : Int64), .long ((gI S21 27) - (1 : Int32)).toInt64]) (rest := []) C0 hw (c_X8_in  hV) (va_cwS 3 C0.ts gX8_told_X8_in rfl rfl rfl hd_X8_in ⟨Nat.le_of_ble_eq_true rfl, Nat.le_of_ble_eq_true rfl⟩) rfl hl.1 rfl (Nat.le_of_ble_eq_true rfl) ⟨Nat.le_of_ble_eq_true rfl, Nat.le_of_ble_eq_true rfl⟩ dX8_told_70 (fun r24 S25 H locs hV hw => ?_)
          refine lv_if_eq (tgt := 106) C0.x C0.b dX8_told_73 (by decide) (fun c26 => ?_) (fun c26 => ?_)
          · have hV := hV.1 c26
            refine lv_aload_n C0.x C0.b dX8_told_106 rfl (lv_at hl 0 rfl) ?_
            refine lv_iconst (v := 1) C0.x C0.b dX8_told_107 (by decide) ?_
            refine r_cV_l (As := [.int (1 : Int32)]) (rest := []) C0 hw (c_X8_refuse  hV) (cwV 1 C0.ts gX8_told_X8_refuse rfl rfl rfl hd_X8_refuse ⟨Nat.le_of_ble_eq_true rfl, Nat.le_of_ble_eq_true rfl⟩) (lg_48 ad cI cJ X S25) rfl rfl hl.1 rfl (Nat.le_of_ble_eq_true rfl) ⟨Nat.le_of_ble_eq_true rfl, Nat.le_of_ble_eq_true rfl⟩ dX8_told_108 (fun r27 S28 H locs hV hw => ?_)
            exact r_lret C0 rfl hw hV dX8_told_111
          · have hV := hV.2 c26
            refine lv_iload_n C0.x C0.b dX8_told_76 rfl (lv_at hl 2 rfl) ?_
            refine lv_i2l C0.x C0.b dX8_told_77 rfl ?_
            refine lv_lconst (v := 0) C0.x C0.b dX8_told_78 (by decide) ?_
            refine lv_lconst (v := 1) C0.x C0.b dX8_told_79 (by decide) ?_
            refine r_cS_i (As := [.long p1.toInt64, .long (0 : Int64), .long (1 : Int64)]) (rest := []) C0 hw (c_X8_in  hV) (va_cwS 3 C0.ts gX8_told_X8_in rfl rfl rfl hd_X8_in ⟨Nat.le_of_ble_eq_true rfl, Nat.le_of_ble_eq_true rfl⟩) rfl hl.1 rfl (Nat.le_of_ble_eq_true rfl) ⟨Nat.le_of_ble_eq_true rfl, Nat.le_of_ble_eq_true rfl⟩ dX8_told_80 (fun r29 S30 H locs hV hw => ?_)
            refine lv_if_eq (tgt := 106) C0.x C0.b dX8_told_83 (by decide) (fun c31 => ?_) (fun c31 => ?_)
            · have hV := hV.1 c31
              refine lv_aload_n C0.x C0.b dX8_told_106 rfl (lv_at hl 0 rfl) ?_
              refine lv_iconst (v := 1) C0.x C0.b dX8_told_107 (by decide) ?_
              refine r_cV_l (As := [.int (1 : Int32)]) (rest := []) C0 hw (c_X8_refuse  hV) (cwV 1 C0.ts gX8_told_X8_refuse rfl rfl rfl hd_X8_refuse ⟨Nat.le_of_ble_eq_true rfl, Nat.le_of_ble_eq_true rfl⟩) (lg_48 ad cI cJ X S30) rfl rfl hl.1 rfl (Nat.le_of_ble_eq_true rfl) ⟨Nat.le_of_ble_eq_true rfl, Nat.le_of_ble_eq_true rfl⟩ dX8_told_108 (fun r32 S33 H locs hV hw => ?_)
              exact r_lret C0 rfl hw hV dX8_told_111
            · have hV := hV.2 c31
              refine lv_iload_n C0.x C0.b dX8_told_86 rfl (lv_at hl 2 rfl) ?_
              refine lv_if_ne (tgt := 99) C0.x C0.b dX8_told_87 (by decide) (fun c34 => ?_) (fun c34 => ?_)
              · have hV := hV.2 c34
                refine lv_aload_n C0.x C0.b dX8_told_99 rfl (lv_at hl 0 rfl) ?_
                refine r_get C0 hw (C := RX8) (T := TX8) (N := 33) (v := .ref (ad 53)) iw_X8_told_X8 (lg_48 ad cI cJ X S30) rfl 12 (by decide) (C0.ts _ fw_X8_told_26) rfl dX8_told_100 ?_
                refine lv_iload_n C0.x C0.b dX8_told_103 rfl (lv_at hl 1 rfl) ?_
                refine r_lald C0 hw (lg_53 ad cI cJ X S30) hV.1 dX8_told_104 ?_
                have hV := hV.2
                exact r_lret C0 rfl hw hV dX8_told_105
              · have hV := hV.1 c34
                refine lv_aload_n C0.x C0.b dX8_told_90 rfl (lv_at hl 0 rfl) ?_
                refine r_get C0 hw (C := RX8) (T := TX8) (N := 33) (v := .ref (ad 52)) iw_X8_told_X8 (lg_48 ad cI cJ X S30) rfl 11 (by decide) (C0.ts _ fw_X8_told_23) rfl dX8_told_91 ?_
                refine lv_iload_n C0.x C0.b dX8_told_94 rfl (lv_at hl 1 rfl) ?_
                refine r_lald C0 hw (lg_52 ad cI cJ X S30) hV.1 dX8_told_95 ?_
                have hV := hV.2
                refine lv_goto (tgt := 105) C0.x C0.b dX8_told_96 (by decide) ?_
                exact r_lret C0 rfl hw hV dX8_told_105
      · have hV := hV.2 c22
        refine lv_aload_n C0.x C0.b dX8_told_41 rfl (lv_at hl 0 rfl) ?_
        refine r_get C0 hw (C := RX8) (T := TX8) (N := 33) (v := .ref (ad 51)) iw_X8_told_X8 (lg_48 ad cI cJ X S21) rfl 9 (by decide) (C0.ts _ fw_X8_told_20) rfl dX8_told_42 ?_
        refine lv_iconst (v := 3) C0.x C0.b dX8_told_45 (by decide) ?_
        refine lv_iload_n C0.x C0.b dX8_told_46 rfl (lv_at hl 1 rfl) ?_
        refine lv_imul C0.x C0.b dX8_told_47 ?_
        refine lv_iload_n C0.x C0.b dX8_told_48 rfl (lv_at hl 2 rfl) ?_
        refine lv_iadd C0.x C0.b dX8_told_49 ?_
        refine r_lald C0 hw (lg_51 ad cI cJ X S21) hV.1 dX8_told_50 ?_
        have hV := hV.2
        exact r_lret C0 rfl hw hV dX8_told_51
/-! StepBenchModel.restBy(JI)J -/
abbrev rm_X8_restBy : Room := { frames := 1, cells := 0, slots := 0, locals := 25 }
set_option maxRecDepth 20000 in
theorem hd_X8_restBy : yX8_restBy.cls ≠ "java/lang/invoke/MethodHandle" ∧ yX8_restBy.cls ≠ "java/lang/invoke/VarHandle" ∧ (parseMethodDescriptor yX8_restBy.desc).map (fun d => d.parameters.length) = some 2 := by decide +kernel
def V_X8_restBy  (p0 : Int64) (p1 : Int32) (S : SS) (post : Int64 → SS → Prop) : Prop :=
  (V_J9_floorMod_f86c9 p0 p1.toInt64 S (fun (r1 : Int64) (S2 : SS) => (post r1 S2)))
set_option maxHeartbeats 4000000 in
set_option maxRecDepth 100000 in
theorem c_X8_restBy  {S : SS} {p0 : Int64} {p1 : Int32} {post : Int64 → SS → Prop} (hV : V_X8_restBy  p0 p1 S post) : ML l yX8_restBy wsX8_restBy rm_X8_restBy [.long p0, .int p1] D n0 ad cI cJ X S post := by
  refine Met.ofW (cc := cX8_restBy) (maxL := 3) (ret := (some .long)) (by decide) rfl ?_
  intro p e s m args below meth c s₁ B hml hv
  obtain ⟨rfl, hv⟩ := hv
  have C0 := Bd.mk B hml (atoms_spec (ws := wsX8_restBy) B.pre) (findClass_of_methodNamed B.named) hv.1
  have hw : Wh D n0 ad cI cJ X S s s.heap [] := ⟨hv.2.1, hv.2.2, va_S.rf⟩
  refine r_entry (Nat.le_of_ble_eq_true rfl) (fun ls hl => ?_)
  have hl : lv_has ls 3 [(0, .long p0), (2, .int p1)] := hl
  unfold V_X8_restBy at hV
  refine lv_lload_n C0.x C0.b dX8_restBy_0 rfl (lv_at hl 0 rfl) ?_
  refine lv_iload_n C0.x C0.b dX8_restBy_1 rfl (lv_at hl 1 rfl) ?_
  refine lv_i2l C0.x C0.b dX8_restBy_2 rfl ?_
  refine r_cS_l (As := [.long p0, .long p1.toInt64]) (rest := []) C0 hw (c_J9_floorMod_f86c9  hV) (va_cwS 2 C0.ts gX8_restBy_J9_floorMod_f86c9 rfl rfl rfl hd_J9_floorMod_f86c9 ⟨Nat.le_of_ble_eq_true rfl, Nat.le_of_ble_eq_true rfl⟩) rfl hl.1 rfl (Nat.le_of_ble_eq_true rfl) ⟨Nat.le_of_ble_eq_true rfl, Nat.le_of_ble_eq_true rfl⟩ dX8_restBy_3 (fun r1 S2 H locs hV hw => ?_)
  exact r_lret C0 rfl hw hV dX8_restBy_6
/-! StepBenchModel.way(J)I -/
abbrev rm_X8_way : Room := { frames := 2, cells := 0, slots := 0, locals := 47 }
set_option maxRecDepth 20000 in
theorem fw_X8_way_108 : Cond.fieldLink RX8 108 "StepBenchModel" "sort" "I" ∈ wsX8_way := by decide +kernel
set_option maxRecDepth 20000 in
theorem iw_X8_way_X8 : ∀ w ∈ wsX80, w ∈ wsX8_way := by decide +kernel
set_option maxRecDepth 20000 in
theorem fw_X8_way_105 : Cond.fieldLink RX8 105 "StepBenchModel" "m" "I" ∈ wsX8_way := by decide +kernel
set_option maxRecDepth 20000 in
theorem fw_X8_way_111 : Cond.fieldLink RX8 111 "StepBenchModel" "fractions" "I" ∈ wsX8_way := by decide +kernel
set_option maxRecDepth 20000 in
theorem fw_X8_way_26 : Cond.fieldLink RX8 26 "StepBenchModel" "q" "[J" ∈ wsX8_way := by decide +kernel
set_option maxRecDepth 20000 in
theorem hd_X8_way : yX8_way.cls = RX8 ∧ yX8_way.cls ≠ "java/lang/invoke/MethodHandle" ∧ yX8_way.cls ≠ "java/lang/invoke/VarHandle" ∧ (parseMethodDescriptor yX8_way.desc).map (fun d => d.parameters.length) = some 1 := by decide +kernel
def V_X8_way_20  (v1 : Int64)  (post : Int32 → SS → Prop) : Nat → Int32 → SS → Prop
  | 0, _, _ => False
  | n + 1, v3, S =>
    (((gI S 27) ≤ v3 → (post (-1 : Int32) S)) ∧ (¬ (gI S 27) ≤ v3 → ((v1 < (1 : Int64) → (post (-1 : Int32) S)) ∧ (¬ v1 < (1 : Int64) → (vp_in v3 40 ∧ (¬ (gA S 34 v3.toNatClampNeg) = 0 ∧ (((lrm v1 (gA S 34 v3.toNatClampNeg)) = (0 : Int64) → (post v3 S)) ∧ (¬ (lrm v1 (gA S 34 v3.toNatClampNeg)) = (0 : Int64) → (∀ x7 : Int32, x7 = v3 + 1 → (V_X8_way_20  v1  post n x7 S))))))))))
set_option maxHeartbeats 4000000 in
set_option maxRecDepth 100000 in
theorem lp_X8_way_20  (v1 : Int64)  (post : Int32 → SS → Prop) (C0 : Bd p s m meth c args cX8_way 4 (some .int) wsX8_way RX8 D n0 cI cJ) : ∀ (n : Nat) (v3 : Int32) (S : SS), V_X8_way_20  v1  post n v3 S → ∀ (H : Heap) (locs : List Loc), Wh D n0 ad cI cJ X S s H locs → ∀ ls : Array Slot, lv_has ls 4 [(0, .ref (ad 48)), (1, .long v1), (3, .int v3)] → W p l e rm_X8_way s m args below meth c H locs 0 0 (MQ below (va_Qi post (fun S' t => Wd D n0 ad cI cJ X S' t) (fr n0)) args s 0 0 (fr n0)) (F0 m 20 ls []) := by
  intro n
  induction n with
  | zero => intro v3 S hV; exact False.elim hV
  | succ n ih =>
    intro v3 S hV H locs hw ls hl
    rw [V_X8_way_20] at hV
    refine lv_iload_n C0.x C0.b dX8_way_20 rfl (lv_at hl 2 rfl) ?_
    refine lv_aload_n C0.x C0.b dX8_way_21 rfl (lv_at hl 0 rfl) ?_
    refine r_get C0 hw (C := RX8) (T := TX8) (N := 33) (v := .int (gI S 27)) iw_X8_way_X8 (lg_48 ad cI cJ X S) rfl 10 (by decide) (C0.ts _ fw_X8_way_111) rfl dX8_way_22 ?_
    refine lv_icmp_ge (tgt := 55) C0.x C0.b dX8_way_25 (by decide) (fun c4 => ?_) (fun c4 => ?_)
    · have hV := hV.1 c4
      refine lv_iconst (v := -1) C0.x C0.b dX8_way_55 (by decide) ?_
      exact r_iret C0 rfl hw hV dX8_way_56
    · have hV := hV.2 c4
      refine lv_lload_n C0.x C0.b dX8_way_28 rfl (lv_at hl 1 rfl) ?_
      refine lv_lconst (v := 1) C0.x C0.b dX8_way_29 (by decide) ?_
      refine r_lcmp C0 dX8_way_30 ?_
      refine lv_if_lt (tgt := 55) C0.x C0.b dX8_way_31 (by decide) (fun c5 => ?_) (fun c5 => ?_)
      · have hV := hV.1 ((lc_lt _ _).mp c5)
        refine lv_iconst (v := -1) C0.x C0.b dX8_way_55 (by decide) ?_
        exact r_iret C0 rfl hw hV dX8_way_56
      · have hV := hV.2 (fun h => c5 ((lc_lt _ _).mpr h))
        refine lv_lload_n C0.x C0.b dX8_way_34 rfl (lv_at hl 1 rfl) ?_
        refine lv_aload_n C0.x C0.b dX8_way_35 rfl (lv_at hl 0 rfl) ?_
        refine r_get C0 hw (C := RX8) (T := TX8) (N := 33) (v := .ref (ad 53)) iw_X8_way_X8 (lg_48 ad cI cJ X S) rfl 12 (by decide) (C0.ts _ fw_X8_way_26) rfl dX8_way_36 ?_
        refine lv_iload_n C0.x C0.b dX8_way_39 rfl (lv_at hl 2 rfl) ?_
        refine r_lald C0 hw (lg_53 ad cI cJ X S) hV.1 dX8_way_40 ?_
        have hV := hV.2
        refine lv_lrem C0.x C0.b dX8_way_41 hV.1 ?_
        have hV := hV.2
        refine lv_lconst (v := 0) C0.x C0.b dX8_way_42 (by decide) ?_
        refine r_lcmp C0 dX8_way_43 ?_
        refine lv_if_ne (tgt := 49) C0.x C0.b dX8_way_44 (by decide) (fun c6 => ?_) (fun c6 => ?_)
        · have hV := hV.2 (fun h => c6 ((lc_eq _ _).mpr h))
          obtain ⟨x7, ex7⟩ : ∃ z : Int32, z = v3 + 1 := ⟨_, rfl⟩
          have hV := hV x7 ex7
          refine lv_iinc (v := x7) (lv' := [(3, .int x7), (0, .ref (ad 48)), (1, .long v1)]) C0.x C0.b dX8_way_49 hl (k := 2) rfl (by rw [ex7]; rfl) (by decide) rfl (fun ls hl => ?_)
          refine lv_goto (tgt := 20) C0.x C0.b dX8_way_52 (by decide) ?_
          exact ih _ _ hV _ _ hw _ (lv_sub hl [1, 2, 0] rfl)
        · have hV := hV.1 ((lc_eq _ _).mp c6)
          refine lv_iload_n C0.x C0.b dX8_way_47 rfl (lv_at hl 2 rfl) ?_
          exact r_iret C0 rfl hw hV dX8_way_48
def V_X8_way  (p0 : Int64) (S : SS) (post : Int32 → SS → Prop) : Prop :=
  (((gI S 25) = (1 : Int32) → (V_X8_restBy p0 (gI S 26) S (fun (r2 : Int64) (S3 : SS) => (post r2.toInt32 S3)))) ∧ (¬ (gI S 25) = (1 : Int32) → (∃ n20 : Nat, V_X8_way_20  p0  post n20 (0 : Int32) S)))
set_option maxHeartbeats 4000000 in
set_option maxRecDepth 100000 in
theorem c_X8_way  {S : SS} {p0 : Int64} {post : Int32 → SS → Prop} (hV : V_X8_way  p0 S post) : MI l yX8_way wsX8_way rm_X8_way [.ref (ad 48), .long p0] D n0 ad cI cJ X S post := by
  refine Met.ofW (cc := cX8_way) (maxL := 4) (ret := (some .int)) (by decide) rfl ?_
  intro p e s m args below meth c s₁ B hml hv
  obtain ⟨rfl, hv⟩ := hv
  have C0 := Bd.mk B hml (atoms_spec (ws := wsX8_way) B.pre) (findClass_of_methodNamed B.named) hv.1
  have hw : Wh D n0 ad cI cJ X S s s.heap [] := ⟨hv.2.1, hv.2.2, va_S.rf⟩
  refine r_entry (Nat.le_of_ble_eq_true rfl) (fun ls hl => ?_)
  have hl : lv_has ls 4 [(0, .ref (ad 48)), (1, .long p0)] := hl
  unfold V_X8_way at hV
  refine lv_aload_n C0.x C0.b dX8_way_0 rfl (lv_at hl 0 rfl) ?_
  refine r_get C0 hw (C := RX8) (T := TX8) (N := 33) (v := .int (gI S 25)) iw_X8_way_X8 (lg_48 ad cI cJ X S) rfl 7 (by decide) (C0.ts _ fw_X8_way_108) rfl dX8_way_1 ?_
  refine lv_iconst (v := 1) C0.x C0.b dX8_way_4 (by decide) ?_
  refine lv_icmp_ne (tgt := 18) C0.x C0.b dX8_way_5 (by decide) (fun c1 => ?_) (fun c1 => ?_)
  · have hV := hV.2 c1
    refine lv_iconst (v := 0) C0.x C0.b dX8_way_18 (by decide) ?_
    refine lv_istore_n (lv' := [(3, .int (0 : Int32)), (0, .ref (ad 48)), (1, .long p0)]) C0.x C0.b dX8_way_19 rfl hl (by decide) rfl (fun ls hl => ?_)
    obtain ⟨n20, hV⟩ := hV
    exact lp_X8_way_20  _ post C0  n20 _ _ hV _ _ hw _ (lv_sub hl [1, 2, 0] rfl)
  · have hV := hV.1 c1
    refine lv_lload_n C0.x C0.b dX8_way_8 rfl (lv_at hl 1 rfl) ?_
    refine lv_aload_n C0.x C0.b dX8_way_9 rfl (lv_at hl 0 rfl) ?_
    refine r_get C0 hw (C := RX8) (T := TX8) (N := 33) (v := .int (gI S 26)) iw_X8_way_X8 (lg_48 ad cI cJ X S) rfl 8 (by decide) (C0.ts _ fw_X8_way_105) rfl dX8_way_10 ?_
    refine r_cS_l (As := [.long p0, .int (gI S 26)]) (rest := []) C0 hw (c_X8_restBy  hV) (va_cwS 2 C0.ts gX8_way_X8_restBy rfl rfl rfl hd_X8_restBy ⟨Nat.le_of_ble_eq_true rfl, Nat.le_of_ble_eq_true rfl⟩) rfl hl.1 rfl (Nat.le_of_ble_eq_true rfl) ⟨Nat.le_of_ble_eq_true rfl, Nat.le_of_ble_eq_true rfl⟩ dX8_way_13 (fun r2 S3 H locs hV hw => ?_)
    refine lv_l2i C0.x C0.b dX8_way_16 rfl ?_
    exact r_iret C0 rfl hw hV dX8_way_17
end
