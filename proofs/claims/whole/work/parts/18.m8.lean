section
variable {p : Program} {l : Launch} {e : Env} {s : State} {m : MethodId} {args : Array Value} {below : List Frame} {meth : Method} {c : Code}
variable {D : va_G} {n0 : Nat} {ad : Nat → Nat} {cI cJ : ClassId} {X : va_W}
/-! StepBenchModel.both()I -/
abbrev rm_X8_both : Room := { frames := 2, cells := 0, slots := 0, locals := 52 }
set_option maxRecDepth 20000 in
theorem fw_X8_both_61 : Cond.fieldLink RX8 61 "StepBenchModel" "thrown" "I" ∈ wsX8_both := by decide +kernel
set_option maxRecDepth 20000 in
theorem iw_X8_both_X8 : ∀ w ∈ wsX80, w ∈ wsX8_both := by decide +kernel
set_option maxRecDepth 20000 in
theorem fw_X8_both_108 : Cond.fieldLink RX8 108 "StepBenchModel" "sort" "I" ∈ wsX8_both := by decide +kernel
set_option maxRecDepth 20000 in
theorem cw_X8_both_51 : Cond.constant RX8 51 100000 ∈ wsX8_both := by decide +kernel
set_option maxRecDepth 20000 in
theorem fw_X8_both_105 : Cond.fieldLink RX8 105 "StepBenchModel" "m" "I" ∈ wsX8_both := by decide +kernel
set_option maxRecDepth 20000 in
theorem fw_X8_both_52 : Cond.fieldLink RX8 52 "StepBenchModel" "covers" "[I" ∈ wsX8_both := by decide +kernel
set_option maxRecDepth 20000 in
theorem hd_X8_both : yX8_both.cls = RX8 ∧ yX8_both.cls ≠ "java/lang/invoke/MethodHandle" ∧ yX8_both.cls ≠ "java/lang/invoke/VarHandle" ∧ (parseMethodDescriptor yX8_both.desc).map (fun d => d.parameters.length) = some 0 := by decide +kernel
def V_X8_both_119  (v1 : Int32)  (post : Int32 → SS → Prop) : Nat → Int32 → SS → Prop
  | 0, _, _ => False
  | n + 1, v2, S =>
    ((v1 ≤ v2 → (post (1 : Int32) S)) ∧ (¬ v1 ≤ v2 → (vp_in v2 100000 ∧ (((gB S 2 v2.toNatClampNeg) = (1 : Int32) → (∀ x11 : Int32, x11 = v2 + 1 → (V_X8_both_119  v1  post n x11 S))) ∧ (¬ (gB S 2 v2.toNatClampNeg) = (1 : Int32) → (post (0 : Int32) S))))))
set_option maxHeartbeats 4000000 in
set_option maxRecDepth 100000 in
theorem lp_X8_both_119  (v1 : Int32)  (post : Int32 → SS → Prop) (C0 : Bd p s m meth c args cX8_both 5 (some .int) wsX8_both RX8 D n0 cI cJ) : ∀ (n : Nat) (v2 : Int32) (S : SS), V_X8_both_119  v1  post n v2 S → ∀ (H : Heap) (locs : List Loc), Wh D n0 ad cI cJ X S s H locs → ∀ ls : Array Slot, lv_has ls 5 [(0, .ref (ad 48)), (1, .int v1), (2, .int v2)] → W p l e rm_X8_both s m args below meth c H locs 0 0 (MQ below (va_Qi post (fun S' t => Wd D n0 ad cI cJ X S' t) (fr n0)) args s 0 0 (fr n0)) (F0 m 119 ls []) := by
  intro n
  induction n with
  | zero => intro v2 S hV; exact False.elim hV
  | succ n ih =>
    intro v2 S hV H locs hw ls hl
    rw [V_X8_both_119] at hV
    refine lv_iload_n C0.x C0.b dX8_both_119 rfl (lv_at hl 2 rfl) ?_
    refine lv_iload_n C0.x C0.b dX8_both_120 rfl (lv_at hl 1 rfl) ?_
    refine lv_icmp_ge (tgt := 142) C0.x C0.b dX8_both_121 (by decide) (fun c9 => ?_) (fun c9 => ?_)
    · have hV := hV.1 c9
      refine lv_iconst (v := 1) C0.x C0.b dX8_both_142 (by decide) ?_
      exact r_iret C0 rfl hw hV dX8_both_143
    · have hV := hV.2 c9
      refine lv_aload_n C0.x C0.b dX8_both_124 rfl (lv_at hl 0 rfl) ?_
      refine r_get C0 hw (C := RX8) (T := TX8) (N := 33) (v := .ref (ad 61)) iw_X8_both_X8 (lg_48 ad cI cJ X S) rfl 29 (by decide) (C0.ts _ fw_X8_both_52) rfl dX8_both_125 ?_
      refine lv_iload_n C0.x C0.b dX8_both_128 rfl (lv_at hl 2 rfl) ?_
      refine r_iald C0 hw (lg_61 ad cI cJ X S) hV.1 dX8_both_129 ?_
      have hV := hV.2
      refine lv_iconst (v := 1) C0.x C0.b dX8_both_130 (by decide) ?_
      refine lv_icmp_eq (tgt := 136) C0.x C0.b dX8_both_131 (by decide) (fun c10 => ?_) (fun c10 => ?_)
      · have hV := hV.1 c10
        obtain ⟨x11, ex11⟩ : ∃ z : Int32, z = v2 + 1 := ⟨_, rfl⟩
        have hV := hV x11 ex11
        refine lv_iinc (v := x11) (lv' := [(2, .int x11), (0, .ref (ad 48)), (1, .int v1)]) C0.x C0.b dX8_both_136 hl (k := 2) rfl (by rw [ex11]; rfl) (by decide) rfl (fun ls hl => ?_)
        refine lv_goto (tgt := 119) C0.x C0.b dX8_both_139 (by decide) ?_
        exact ih _ _ hV _ _ hw _ (lv_sub hl [1, 2, 0] rfl)
      · have hV := hV.2 c10
        refine lv_iconst (v := 0) C0.x C0.b dX8_both_134 (by decide) ?_
        exact r_iret C0 rfl hw hV dX8_both_135
def V_X8_both_85  (v1 : Int32) (v2 : Int32) (v3 : Int32) (K57 : Int32 → SS → Prop) (post : Int32 → SS → Prop) : Nat → Int32 → SS → Prop
  | 0, _, _ => False
  | n + 1, v4, S =>
    ((v1 ≤ v4 → (∀ x21 : Int32, x21 = v2 + 1 → (K57 x21 S))) ∧ (¬ v1 ≤ v4 → (vp_in v4 100000 ∧ (vp_in v4 100000 ∧ ∀ S22 : SS, S22 = (sB S 2 (upd (gB S 2) v4.toNatClampNeg ((gB S 2 v4.toNatClampNeg) + (1 : Int32)))) → (∀ x23 : Int32, x23 = (v4 + v3) → (V_X8_both_85  v1 v2 v3 K57 post n x23 S22))))))
set_option maxHeartbeats 4000000 in
set_option maxRecDepth 100000 in
theorem lp_X8_both_85  (v1 : Int32) (v2 : Int32) (v3 : Int32) (K57 : Int32 → SS → Prop) (post : Int32 → SS → Prop) (C0 : Bd p s m meth c args cX8_both 5 (some .int) wsX8_both RX8 D n0 cI cJ) (hK57 : ∀ (v2 : Int32) (S : SS), K57 v2 S → ∀ (H : Heap) (locs : List Loc), Wh D n0 ad cI cJ X S s H locs → ∀ ls : Array Slot, lv_has ls 5 [(0, .ref (ad 48)), (1, .int v1), (2, .int v2)] → W p l e rm_X8_both s m args below meth c H locs 0 0 (MQ below (va_Qi post (fun S' t => Wd D n0 ad cI cJ X S' t) (fr n0)) args s 0 0 (fr n0)) (F0 m 57 ls [])) : ∀ (n : Nat) (v4 : Int32) (S : SS), V_X8_both_85  v1 v2 v3 K57 post n v4 S → ∀ (H : Heap) (locs : List Loc), Wh D n0 ad cI cJ X S s H locs → ∀ ls : Array Slot, lv_has ls 5 [(0, .ref (ad 48)), (1, .int v1), (2, .int v2), (3, .int v3), (4, .int v4)] → W p l e rm_X8_both s m args below meth c H locs 0 0 (MQ below (va_Qi post (fun S' t => Wd D n0 ad cI cJ X S' t) (fr n0)) args s 0 0 (fr n0)) (F0 m 85 ls []) := by
  intro n
  induction n with
  | zero => intro v4 S hV; exact False.elim hV
  | succ n ih =>
    intro v4 S hV H locs hw ls hl
    rw [V_X8_both_85] at hV
    refine lv_iload C0.x C0.b dX8_both_85 (lv_at hl 4 rfl) ?_
    refine lv_iload_n C0.x C0.b dX8_both_87 rfl (lv_at hl 1 rfl) ?_
    refine lv_icmp_ge (tgt := 111) C0.x C0.b dX8_both_88 (by decide) (fun c20 => ?_) (fun c20 => ?_)
    · have hV := hV.1 c20
      obtain ⟨x21, ex21⟩ : ∃ z : Int32, z = v2 + 1 := ⟨_, rfl⟩
      have hV := hV x21 ex21
      refine lv_iinc (v := x21) (lv' := [(2, .int x21), (0, .ref (ad 48)), (1, .int v1), (3, .int v3), (4, .int v4)]) C0.x C0.b dX8_both_111 hl (k := 2) rfl (by rw [ex21]; rfl) (by decide) rfl (fun ls hl => ?_)
      refine lv_goto (tgt := 57) C0.x C0.b dX8_both_114 (by decide) ?_
      exact hK57 _ _ hV _ _ hw _ (lv_sub hl [1, 2, 0] rfl)
    · have hV := hV.2 c20
      refine lv_aload_n C0.x C0.b dX8_both_91 rfl (lv_at hl 0 rfl) ?_
      refine r_get C0 hw (C := RX8) (T := TX8) (N := 33) (v := .ref (ad 61)) iw_X8_both_X8 (lg_48 ad cI cJ X S) rfl 29 (by decide) (C0.ts _ fw_X8_both_52) rfl dX8_both_92 ?_
      refine lv_iload C0.x C0.b dX8_both_95 (lv_at hl 4 rfl) ?_
      refine lv_dup2_11 C0.x C0.b dX8_both_97 rfl rfl ?_
      refine r_iald C0 hw (lg_61 ad cI cJ X S) hV.1 dX8_both_98 ?_
      have hV := hV.2
      refine lv_iconst (v := 1) C0.x C0.b dX8_both_99 (by decide) ?_
      refine lv_iadd C0.x C0.b dX8_both_100 ?_
      refine r_iast C0 hw (lg_61 ad cI cJ X S) hV.1 dX8_both_101 (S' := (sB S 2 (upd (gB S 2) v4.toNatClampNeg ((gB S 2 v4.toNatClampNeg) + (1 : Int32))))) (ls_61 ad cI cJ X S (upd (gB S 2) v4.toNatClampNeg ((gB S 2 v4.toNatClampNeg) + (1 : Int32)))) (fun S22 H locs eS22 hw => ?_)
      have hV := hV.2 S22 eS22
      refine lv_iload C0.x C0.b dX8_both_102 (lv_at hl 4 rfl) ?_
      refine lv_iload_n C0.x C0.b dX8_both_104 rfl (lv_at hl 3 rfl) ?_
      refine lv_iadd C0.x C0.b dX8_both_105 ?_
      refine lv_topi (fun x23 ex23 => ?_)
      have hV := hV x23 ex23
      refine lv_istore (lv' := [(4, .int x23), (0, .ref (ad 48)), (1, .int v1), (2, .int v2), (3, .int v3)]) C0.x C0.b dX8_both_106 hl (by decide) rfl (fun ls hl => ?_)
      refine lv_goto (tgt := 85) C0.x C0.b dX8_both_108 (by decide) ?_
      exact ih _ _ hV _ _ hw _ (lv_sub hl [1, 2, 3, 4, 0] rfl)
def V_X8_both_57  (v1 : Int32)  (post : Int32 → SS → Prop) : Nat → Int32 → SS → Prop
  | 0, _, _ => False
  | n + 1, v2, S =>
    (((gI S 26) ≤ v2 → (∃ n119 : Nat, V_X8_both_119  v1  post n119 (0 : Int32) S)) ∧ (¬ (gI S 26) ≤ v2 → (V_X8_gap v2 S (fun (r12 : Int64) (S13 : SS) => (∀ x14 : Int32, x14 = r12.toInt32 → (V_X8_first v2 S13 (fun (r15 : Int64) (S16 : SS) => (V_J9_floorMod_f86c9 r15 x14.toInt64 S16 (fun (r17 : Int64) (S18 : SS) => (∀ x19 : Int32, x19 = r17.toInt32 → (∃ n85 : Nat, V_X8_both_85  v1 v2 x14 (fun w2 T => V_X8_both_57  v1  post n w2 T) post n85 x19 S18)))))))))))
set_option maxHeartbeats 4000000 in
set_option maxRecDepth 100000 in
theorem lp_X8_both_57  (v1 : Int32)  (post : Int32 → SS → Prop) (C0 : Bd p s m meth c args cX8_both 5 (some .int) wsX8_both RX8 D n0 cI cJ) : ∀ (n : Nat) (v2 : Int32) (S : SS), V_X8_both_57  v1  post n v2 S → ∀ (H : Heap) (locs : List Loc), Wh D n0 ad cI cJ X S s H locs → ∀ ls : Array Slot, lv_has ls 5 [(0, .ref (ad 48)), (1, .int v1), (2, .int v2)] → W p l e rm_X8_both s m args below meth c H locs 0 0 (MQ below (va_Qi post (fun S' t => Wd D n0 ad cI cJ X S' t) (fr n0)) args s 0 0 (fr n0)) (F0 m 57 ls []) := by
  intro n
  induction n with
  | zero => intro v2 S hV; exact False.elim hV
  | succ n ih =>
    intro v2 S hV H locs hw ls hl
    rw [V_X8_both_57] at hV
    refine lv_iload_n C0.x C0.b dX8_both_57 rfl (lv_at hl 2 rfl) ?_
    refine lv_aload_n C0.x C0.b dX8_both_58 rfl (lv_at hl 0 rfl) ?_
    refine r_get C0 hw (C := RX8) (T := TX8) (N := 33) (v := .int (gI S 26)) iw_X8_both_X8 (lg_48 ad cI cJ X S) rfl 8 (by decide) (C0.ts _ fw_X8_both_105) rfl dX8_both_59 ?_
    refine lv_icmp_ge (tgt := 117) C0.x C0.b dX8_both_62 (by decide) (fun c8 => ?_) (fun c8 => ?_)
    · have hV := hV.1 c8
      refine lv_iconst (v := 0) C0.x C0.b dX8_both_117 (by decide) ?_
      refine lv_istore_n (lv' := [(2, .int (0 : Int32)), (0, .ref (ad 48)), (1, .int v1)]) C0.x C0.b dX8_both_118 rfl hl (by decide) rfl (fun ls hl => ?_)
      obtain ⟨n119, hV⟩ := hV
      exact lp_X8_both_119  _ post C0  n119 _ _ hV _ _ hw _ (lv_sub hl [1, 2, 0] rfl)
    · have hV := hV.2 c8
      refine lv_aload_n C0.x C0.b dX8_both_65 rfl (lv_at hl 0 rfl) ?_
      refine lv_iload_n C0.x C0.b dX8_both_66 rfl (lv_at hl 2 rfl) ?_
      refine r_cV_l (As := [.int v2]) (rest := []) C0 hw (c_X8_gap  hV) (cwV 1 C0.ts gX8_both_X8_gap rfl rfl rfl hd_X8_gap ⟨Nat.le_of_ble_eq_true rfl, Nat.le_of_ble_eq_true rfl⟩) (lg_48 ad cI cJ X S) rfl rfl hl.1 rfl (Nat.le_of_ble_eq_true rfl) ⟨Nat.le_of_ble_eq_true rfl, Nat.le_of_ble_eq_true rfl⟩ dX8_both_67 (fun r12 S13 H locs hV hw => ?_)
      refine lv_l2i C0.x C0.b dX8_both_70 rfl ?_
      refine lv_topi (fun x14 ex14 => ?_)
      have hV := hV x14 ex14
      refine lv_istore_n (lv' := [(3, .int x14), (0, .ref (ad 48)), (1, .int v1), (2, .int v2)]) C0.x C0.b dX8_both_71 rfl hl (by decide) rfl (fun ls hl => ?_)
      refine lv_aload_n C0.x C0.b dX8_both_72 rfl (lv_at hl 1 rfl) ?_
      refine lv_iload_n C0.x C0.b dX8_both_73 rfl (lv_at hl 3 rfl) ?_
      refine r_cV_l (As := [.int v2]) (rest := []) C0 hw (c_X8_first  hV) (cwV 1 C0.ts gX8_both_X8_first rfl rfl rfl hd_X8_first ⟨Nat.le_of_ble_eq_true rfl, Nat.le_of_ble_eq_true rfl⟩) (lg_48 ad cI cJ X S13) rfl rfl hl.1 rfl (Nat.le_of_ble_eq_true rfl) ⟨Nat.le_of_ble_eq_true rfl, Nat.le_of_ble_eq_true rfl⟩ dX8_both_74 (fun r15 S16 H locs hV hw => ?_)
      refine lv_iload_n C0.x C0.b dX8_both_77 rfl (lv_at hl 0 rfl) ?_
      refine lv_i2l C0.x C0.b dX8_both_78 rfl ?_
      refine r_cS_l (As := [.long r15, .long x14.toInt64]) (rest := []) C0 hw (c_J9_floorMod_f86c9  hV) (va_cwS 2 C0.ts gX8_both_J9_floorMod_f86c9 rfl rfl rfl hd_J9_floorMod_f86c9 ⟨Nat.le_of_ble_eq_true rfl, Nat.le_of_ble_eq_true rfl⟩) rfl hl.1 rfl (Nat.le_of_ble_eq_true rfl) ⟨Nat.le_of_ble_eq_true rfl, Nat.le_of_ble_eq_true rfl⟩ dX8_both_79 (fun r17 S18 H locs hV hw => ?_)
      refine lv_l2i C0.x C0.b dX8_both_82 rfl ?_
      refine lv_topi (fun x19 ex19 => ?_)
      have hV := hV x19 ex19
      refine lv_istore (lv' := [(4, .int x19), (3, .int x14), (0, .ref (ad 48)), (1, .int v1), (2, .int v2)]) C0.x C0.b dX8_both_83 hl (by decide) rfl (fun ls hl => ?_)
      obtain ⟨n85, hV⟩ := hV
      exact lp_X8_both_85  _ _ _ _ post C0 ih n85 _ _ hV _ _ hw _ (lv_sub hl [2, 3, 4, 1, 0] rfl)
def V_X8_both_37  (v1 : Int32)  (post : Int32 → SS → Prop) : Nat → Int32 → SS → Prop
  | 0, _, _ => False
  | n + 1, v2, S =>
    ((v1 ≤ v2 → (∃ n57 : Nat, V_X8_both_57  v1  post n57 (0 : Int32) S)) ∧ (¬ v1 ≤ v2 → (vp_in v2 100000 ∧ ∀ S24 : SS, S24 = (sB S 2 (upd (gB S 2) v2.toNatClampNeg (0 : Int32))) → (∀ x25 : Int32, x25 = v2 + 1 → (V_X8_both_37  v1  post n x25 S24)))))
set_option maxHeartbeats 4000000 in
set_option maxRecDepth 100000 in
theorem lp_X8_both_37  (v1 : Int32)  (post : Int32 → SS → Prop) (C0 : Bd p s m meth c args cX8_both 5 (some .int) wsX8_both RX8 D n0 cI cJ) : ∀ (n : Nat) (v2 : Int32) (S : SS), V_X8_both_37  v1  post n v2 S → ∀ (H : Heap) (locs : List Loc), Wh D n0 ad cI cJ X S s H locs → ∀ ls : Array Slot, lv_has ls 5 [(0, .ref (ad 48)), (1, .int v1), (2, .int v2)] → W p l e rm_X8_both s m args below meth c H locs 0 0 (MQ below (va_Qi post (fun S' t => Wd D n0 ad cI cJ X S' t) (fr n0)) args s 0 0 (fr n0)) (F0 m 37 ls []) := by
  intro n
  induction n with
  | zero => intro v2 S hV; exact False.elim hV
  | succ n ih =>
    intro v2 S hV H locs hw ls hl
    rw [V_X8_both_37] at hV
    refine lv_iload_n C0.x C0.b dX8_both_37 rfl (lv_at hl 2 rfl) ?_
    refine lv_iload_n C0.x C0.b dX8_both_38 rfl (lv_at hl 1 rfl) ?_
    refine lv_icmp_ge (tgt := 55) C0.x C0.b dX8_both_39 (by decide) (fun c7 => ?_) (fun c7 => ?_)
    · have hV := hV.1 c7
      refine lv_iconst (v := 0) C0.x C0.b dX8_both_55 (by decide) ?_
      refine lv_istore_n (lv' := [(2, .int (0 : Int32)), (0, .ref (ad 48)), (1, .int v1)]) C0.x C0.b dX8_both_56 rfl hl (by decide) rfl (fun ls hl => ?_)
      obtain ⟨n57, hV⟩ := hV
      exact lp_X8_both_57  _ post C0  n57 _ _ hV _ _ hw _ (lv_sub hl [1, 2, 0] rfl)
    · have hV := hV.2 c7
      refine lv_aload_n C0.x C0.b dX8_both_42 rfl (lv_at hl 0 rfl) ?_
      refine r_get C0 hw (C := RX8) (T := TX8) (N := 33) (v := .ref (ad 61)) iw_X8_both_X8 (lg_48 ad cI cJ X S) rfl 29 (by decide) (C0.ts _ fw_X8_both_52) rfl dX8_both_43 ?_
      refine lv_iload_n C0.x C0.b dX8_both_46 rfl (lv_at hl 2 rfl) ?_
      refine lv_iconst (v := 0) C0.x C0.b dX8_both_47 (by decide) ?_
      refine r_iast C0 hw (lg_61 ad cI cJ X S) hV.1 dX8_both_48 (S' := (sB S 2 (upd (gB S 2) v2.toNatClampNeg (0 : Int32)))) (ls_61 ad cI cJ X S (upd (gB S 2) v2.toNatClampNeg (0 : Int32))) (fun S24 H locs eS24 hw => ?_)
      have hV := hV.2 S24 eS24
      obtain ⟨x25, ex25⟩ : ∃ z : Int32, z = v2 + 1 := ⟨_, rfl⟩
      have hV := hV x25 ex25
      refine lv_iinc (v := x25) (lv' := [(2, .int x25), (0, .ref (ad 48)), (1, .int v1)]) C0.x C0.b dX8_both_49 hl (k := 2) rfl (by rw [ex25]; rfl) (by decide) rfl (fun ls hl => ?_)
      refine lv_goto (tgt := 37) C0.x C0.b dX8_both_52 (by decide) ?_
      exact ih _ _ hV _ _ hw _ (lv_sub hl [1, 2, 0] rfl)
def V_X8_both   (S : SS) (post : Int32 → SS → Prop) : Prop :=
  (∀ S1 : SS, S1 = (sI S 20 (0 : Int32)) → (((gI S1 25) = (1 : Int32) → (V_X8_measure  S1 (fun (r3 : Int32) (S4 : SS) => ((r3 = 0 → (post (0 : Int32) S4)) ∧ (¬ r3 = 0 → ((r3 ≤ (100000 : Int32) → (∃ n37 : Nat, V_X8_both_37  r3  post n37 (0 : Int32) S4)) ∧ (¬ r3 ≤ (100000 : Int32) → (post (-2 : Int32) S4)))))))) ∧ (¬ (gI S1 25) = (1 : Int32) → (post (-1 : Int32) S1))))
set_option maxHeartbeats 4000000 in
set_option maxRecDepth 100000 in
theorem c_X8_both  {S : SS}  {post : Int32 → SS → Prop} (hV : V_X8_both   S post) : MI l yX8_both wsX8_both rm_X8_both [.ref (ad 48)] D n0 ad cI cJ X S post := by
  refine Met.ofW (cc := cX8_both) (maxL := 5) (ret := (some .int)) (by decide) rfl ?_
  intro p e s m args below meth c s₁ B hml hv
  obtain ⟨rfl, hv⟩ := hv
  have C0 := Bd.mk B hml (atoms_spec (ws := wsX8_both) B.pre) (findClass_of_methodNamed B.named) hv.1
  have hw : Wh D n0 ad cI cJ X S s s.heap [] := ⟨hv.2.1, hv.2.2, va_S.rf⟩
  refine r_entry (Nat.le_of_ble_eq_true rfl) (fun ls hl => ?_)
  have hl : lv_has ls 5 [(0, .ref (ad 48))] := hl
  unfold V_X8_both at hV
  refine lv_aload_n C0.x C0.b dX8_both_0 rfl (lv_at hl 0 rfl) ?_
  refine lv_iconst (v := 0) C0.x C0.b dX8_both_1 (by decide) ?_
  refine r_put C0 hw (C := RX8) (T := TX8) (N := 33) (ty := .int) iw_X8_both_X8 tyX8 tyX8_ok nmX8 (lg_48 ad cI cJ X S) rfl 0 (by decide) (C0.ts _ fw_X8_both_61) rfl (by decide +kernel) rfl rfl (Nat.le_of_ble_eq_true rfl) dX8_both_2 (S' := (sI S 20 (0 : Int32))) (ls_48_0 ad cI cJ X S (0 : Int32)) (fun S1 H locs eS1 hw => ?_)
  have hV := hV S1 eS1
  refine lv_aload_n C0.x C0.b dX8_both_5 rfl (lv_at hl 0 rfl) ?_
  refine r_get C0 hw (C := RX8) (T := TX8) (N := 33) (v := .int (gI S1 25)) iw_X8_both_X8 (lg_48 ad cI cJ X S1) rfl 7 (by decide) (C0.ts _ fw_X8_both_108) rfl dX8_both_6 ?_
  refine lv_iconst (v := 1) C0.x C0.b dX8_both_9 (by decide) ?_
  refine lv_icmp_eq (tgt := 15) C0.x C0.b dX8_both_10 (by decide) (fun c2 => ?_) (fun c2 => ?_)
  · have hV := hV.1 c2
    refine lv_aload_n C0.x C0.b dX8_both_15 rfl (lv_at hl 0 rfl) ?_
    refine r_cV_i (As := []) (rest := []) C0 hw (c_X8_measure  hV) (cwV 0 C0.ts gX8_both_X8_measure rfl rfl rfl hd_X8_measure ⟨Nat.le_of_ble_eq_true rfl, Nat.le_of_ble_eq_true rfl⟩) (lg_48 ad cI cJ X S1) rfl rfl hl.1 rfl (Nat.le_of_ble_eq_true rfl) ⟨Nat.le_of_ble_eq_true rfl, Nat.le_of_ble_eq_true rfl⟩ dX8_both_16 (fun r3 S4 H locs hV hw => ?_)
    refine lv_istore_n (lv' := [(1, .int r3), (0, .ref (ad 48))]) C0.x C0.b dX8_both_19 rfl hl (by decide) rfl (fun ls hl => ?_)
    refine lv_iload_n C0.x C0.b dX8_both_20 rfl (lv_at hl 0 rfl) ?_
    refine lv_if_ne (tgt := 26) C0.x C0.b dX8_both_21 (by decide) (fun c5 => ?_) (fun c5 => ?_)
    · have hV := hV.2 c5
      refine lv_iload_n C0.x C0.b dX8_both_26 rfl (lv_at hl 0 rfl) ?_
      refine lv_ldc (v := 100000) C0.x C0.b C0.ow (C0.ts _ cw_X8_both_51) dX8_both_27 ?_
      refine lv_icmp_le (tgt := 35) C0.x C0.b dX8_both_29 (by decide) (fun c6 => ?_) (fun c6 => ?_)
      · have hV := hV.1 c6
        refine lv_iconst (v := 0) C0.x C0.b dX8_both_35 (by decide) ?_
        refine lv_istore_n (lv' := [(2, .int (0 : Int32)), (1, .int r3), (0, .ref (ad 48))]) C0.x C0.b dX8_both_36 rfl hl (by decide) rfl (fun ls hl => ?_)
        obtain ⟨n37, hV⟩ := hV
        exact lp_X8_both_37  _ post C0  n37 _ _ hV _ _ hw _ (lv_sub hl [2, 1, 0] rfl)
      · have hV := hV.2 c6
        refine lv_bipush (v := -2) C0.x C0.b dX8_both_32 (by decide) ?_
        exact r_iret C0 rfl hw hV dX8_both_34
    · have hV := hV.1 c5
      refine lv_iconst (v := 0) C0.x C0.b dX8_both_24 (by decide) ?_
      exact r_iret C0 rfl hw hV dX8_both_25
  · have hV := hV.2 c2
    refine lv_iconst (v := -1) C0.x C0.b dX8_both_13 (by decide) ?_
    exact r_iret C0 rfl hw hV dX8_both_14
/-! StepBenchModel.turn()I -/
abbrev rm_X8_turn : Room := { frames := 3, cells := 0, slots := 0, locals := 76 }
set_option maxRecDepth 20000 in
theorem fw_X8_turn_61 : Cond.fieldLink RX8 61 "StepBenchModel" "thrown" "I" ∈ wsX8_turn := by decide +kernel
set_option maxRecDepth 20000 in
theorem iw_X8_turn_X8 : ∀ w ∈ wsX80, w ∈ wsX8_turn := by decide +kernel
set_option maxRecDepth 20000 in
theorem fw_X8_turn_105 : Cond.fieldLink RX8 105 "StepBenchModel" "m" "I" ∈ wsX8_turn := by decide +kernel
set_option maxRecDepth 20000 in
theorem fw_X8_turn_20 : Cond.fieldLink RX8 20 "StepBenchModel" "rule" "[J" ∈ wsX8_turn := by decide +kernel
set_option maxRecDepth 20000 in
theorem fw_X8_turn_55 : Cond.fieldLink RX8 55 "StepBenchModel" "turned" "[J" ∈ wsX8_turn := by decide +kernel
set_option maxRecDepth 20000 in
theorem hd_X8_turn : yX8_turn.cls = RX8 ∧ yX8_turn.cls ≠ "java/lang/invoke/MethodHandle" ∧ yX8_turn.cls ≠ "java/lang/invoke/VarHandle" ∧ (parseMethodDescriptor yX8_turn.desc).map (fun d => d.parameters.length) = some 0 := by decide +kernel
def V_X8_turn_210    (post : Int32 → SS → Prop) : Nat → Int32 → SS → Prop
  | 0, _, _ => False
  | n + 1, v2, S =>
    ((((3 : Int32) * (gI S 26)) ≤ v2 → (post (gI S 26) S)) ∧ (¬ ((3 : Int32) * (gI S 26)) ≤ v2 → (vp_in v2 192 ∧ (vp_in v2 192 ∧ ∀ S13 : SS, S13 = (sA S 32 (vp_updL (gA S 32) v2.toNatClampNeg (gA S 40 v2.toNatClampNeg))) → (∀ x14 : Int32, x14 = v2 + 1 → (V_X8_turn_210    post n x14 S13))))))
set_option maxHeartbeats 4000000 in
set_option maxRecDepth 100000 in
theorem lp_X8_turn_210    (post : Int32 → SS → Prop) (C0 : Bd p s m meth c args cX8_turn 12 (some .int) wsX8_turn RX8 D n0 cI cJ) : ∀ (n : Nat) (v2 : Int32) (S : SS), V_X8_turn_210    post n v2 S → ∀ (H : Heap) (locs : List Loc), Wh D n0 ad cI cJ X S s H locs → ∀ ls : Array Slot, lv_has ls 12 [(0, .ref (ad 48)), (2, .int v2)] → W p l e rm_X8_turn s m args below meth c H locs 0 0 (MQ below (va_Qi post (fun S' t => Wd D n0 ad cI cJ X S' t) (fr n0)) args s 0 0 (fr n0)) (F0 m 210 ls []) := by
  intro n
  induction n with
  | zero => intro v2 S hV; exact False.elim hV
  | succ n ih =>
    intro v2 S hV H locs hw ls hl
    rw [V_X8_turn_210] at hV
    refine lv_iload_n C0.x C0.b dX8_turn_210 rfl (lv_at hl 1 rfl) ?_
    refine lv_iconst (v := 3) C0.x C0.b dX8_turn_211 (by decide) ?_
    refine lv_aload_n C0.x C0.b dX8_turn_212 rfl (lv_at hl 0 rfl) ?_
    refine r_get C0 hw (C := RX8) (T := TX8) (N := 33) (v := .int (gI S 26)) iw_X8_turn_X8 (lg_48 ad cI cJ X S) rfl 8 (by decide) (C0.ts _ fw_X8_turn_105) rfl dX8_turn_213 ?_
    refine lv_imul C0.x C0.b dX8_turn_216 ?_
    refine lv_icmp_ge (tgt := 238) C0.x C0.b dX8_turn_217 (by decide) (fun c12 => ?_) (fun c12 => ?_)
    · have hV := hV.1 c12
      refine lv_aload_n C0.x C0.b dX8_turn_238 rfl (lv_at hl 0 rfl) ?_
      refine r_get C0 hw (C := RX8) (T := TX8) (N := 33) (v := .int (gI S 26)) iw_X8_turn_X8 (lg_48 ad cI cJ X S) rfl 8 (by decide) (C0.ts _ fw_X8_turn_105) rfl dX8_turn_239 ?_
      exact r_iret C0 rfl hw hV dX8_turn_242
    · have hV := hV.2 c12
      refine lv_aload_n C0.x C0.b dX8_turn_220 rfl (lv_at hl 0 rfl) ?_
      refine r_get C0 hw (C := RX8) (T := TX8) (N := 33) (v := .ref (ad 51)) iw_X8_turn_X8 (lg_48 ad cI cJ X S) rfl 9 (by decide) (C0.ts _ fw_X8_turn_20) rfl dX8_turn_221 ?_
      refine lv_iload_n C0.x C0.b dX8_turn_224 rfl (lv_at hl 1 rfl) ?_
      refine lv_aload_n C0.x C0.b dX8_turn_225 rfl (lv_at hl 0 rfl) ?_
      refine r_get C0 hw (C := RX8) (T := TX8) (N := 33) (v := .ref (ad 62)) iw_X8_turn_X8 (lg_48 ad cI cJ X S) rfl 30 (by decide) (C0.ts _ fw_X8_turn_55) rfl dX8_turn_226 ?_
      refine lv_iload_n C0.x C0.b dX8_turn_229 rfl (lv_at hl 1 rfl) ?_
      refine r_lald C0 hw (lg_62 ad cI cJ X S) hV.1 dX8_turn_230 ?_
      have hV := hV.2
      refine r_last C0 hw (lg_51 ad cI cJ X S) hV.1 dX8_turn_231 (S' := (sA S 32 (vp_updL (gA S 32) v2.toNatClampNeg (gA S 40 v2.toNatClampNeg)))) (ls_51 ad cI cJ X S (vp_updL (gA S 32) v2.toNatClampNeg (gA S 40 v2.toNatClampNeg))) (fun S13 H locs eS13 hw => ?_)
      have hV := hV.2 S13 eS13
      obtain ⟨x14, ex14⟩ : ∃ z : Int32, z = v2 + 1 := ⟨_, rfl⟩
      have hV := hV x14 ex14
      refine lv_iinc (v := x14) (lv' := [(2, .int x14), (0, .ref (ad 48))]) C0.x C0.b dX8_turn_232 hl (k := 1) rfl (by rw [ex14]; rfl) (by decide) rfl (fun ls hl => ?_)
      refine lv_goto (tgt := 210) C0.x C0.b dX8_turn_235 (by decide) ?_
      exact ih _ _ hV _ _ hw _ (lv_sub hl [1, 0] rfl)
def V_X8_turn_38  (v1 : Int32) (v2 : Int32) (K31 : Int32 → SS → Prop) (post : Int32 → SS → Prop) : Nat → Int32 → SS → Prop
  | 0, _, _ => False
  | n + 1, v3, S =>
    (V_X8_first v3 S (fun (r15 : Int64) (S16 : SS) => (V_X8_gap v3 S16 (fun (r17 : Int64) (S18 : SS) => (V_J9_floorMod_f86c9 (v2.toInt64 - r15) r17 S18 (fun (r19 : Int64) (S20 : SS) => ((r19 = (0 : Int64) → (vp_in (((3 : Int32) * v3) + (2 : Int32)) 192 ∧ (vp_in (((3 : Int32) * v3) + (1 : Int32)) 192 ∧ (∀ y22 : Int64, y22 = (-(gA S20 32 (((3 : Int32) * v3) + (1 : Int32)).toNatClampNeg)) → (vp_in ((3 : Int32) * v3) 192 ∧ (V_X8_common (gA S20 32 (((3 : Int32) * v3) + (2 : Int32)).toNatClampNeg) y22 S20 (fun (r23 : Int64) (S24 : SS) => (V_X8_common r23 (gA S20 32 ((3 : Int32) * v3).toNatClampNeg) S24 (fun (r25 : Int64) (S26 : SS) => (((0 : Int64) ≤ (gA S20 32 ((3 : Int32) * v3).toNatClampNeg) → (¬ r25 = 0 ∧ (¬ r25 = 0 ∧ (¬ r25 = 0 ∧ (V_X8_isShare ((gA S20 32 (((3 : Int32) * v3) + (2 : Int32)).toNatClampNeg) / r25) (y22 / r25) ((gA S20 32 ((3 : Int32) * v3).toNatClampNeg) / r25) S26 (fun (r28 : Int32) (S29 : SS) => ((r28 = 0 → (post (-1 : Int32) S29)) ∧ (¬ r28 = 0 → (¬ r25 = 0 ∧ (vp_in ((3 : Int32) * v2) 192 ∧ ∀ S31 : SS, S31 = (sA S29 40 (vp_updL (gA S29 40) ((3 : Int32) * v2).toNatClampNeg ((gA S20 32 (((3 : Int32) * v3) + (2 : Int32)).toNatClampNeg) / r25))) → (¬ r25 = 0 ∧ (vp_in (((3 : Int32) * v2) + (1 : Int32)) 192 ∧ ∀ S32 : SS, S32 = (sA S31 40 (vp_updL (gA S31 40) (((3 : Int32) * v2) + (1 : Int32)).toNatClampNeg (y22 / r25))) → (¬ r25 = 0 ∧ (vp_in (((3 : Int32) * v2) + (2 : Int32)) 192 ∧ ∀ S33 : SS, S33 = (sA S32 40 (vp_updL (gA S32 40) (((3 : Int32) * v2) + (2 : Int32)).toNatClampNeg ((gA S20 32 ((3 : Int32) * v3).toNatClampNeg) / r25))) → (∀ x34 : Int32, x34 = v2 + 1 → (K31 x34 S33)))))))))))))))) ∧ (¬ (0 : Int64) ≤ (gA S20 32 ((3 : Int32) * v3).toNatClampNeg) → (∀ y35 : Int64, y35 = (-r25) → (¬ y35 = 0 ∧ (¬ y35 = 0 ∧ (¬ y35 = 0 ∧ (V_X8_isShare ((gA S20 32 (((3 : Int32) * v3) + (2 : Int32)).toNatClampNeg) / y35) (y22 / y35) ((gA S20 32 ((3 : Int32) * v3).toNatClampNeg) / y35) S26 (fun (r36 : Int32) (S37 : SS) => ((r36 = 0 → (post (-1 : Int32) S37)) ∧ (¬ r36 = 0 → (¬ y35 = 0 ∧ (vp_in ((3 : Int32) * v2) 192 ∧ ∀ S39 : SS, S39 = (sA S37 40 (vp_updL (gA S37 40) ((3 : Int32) * v2).toNatClampNeg ((gA S20 32 (((3 : Int32) * v3) + (2 : Int32)).toNatClampNeg) / y35))) → (¬ y35 = 0 ∧ (vp_in (((3 : Int32) * v2) + (1 : Int32)) 192 ∧ ∀ S40 : SS, S40 = (sA S39 40 (vp_updL (gA S39 40) (((3 : Int32) * v2) + (1 : Int32)).toNatClampNeg (y22 / y35))) → (¬ y35 = 0 ∧ (vp_in (((3 : Int32) * v2) + (2 : Int32)) 192 ∧ ∀ S41 : SS, S41 = (sA S40 40 (vp_updL (gA S40 40) (((3 : Int32) * v2) + (2 : Int32)).toNatClampNeg ((gA S20 32 ((3 : Int32) * v3).toNatClampNeg) / y35))) → (∀ x42 : Int32, x42 = v2 + 1 → (K31 x42 S41))))))))))))))))))))))))))) ∧ (¬ r19 = (0 : Int64) → (∀ x43 : Int32, x43 = v3 + 1 → (V_X8_turn_38  v1 v2 K31 post n x43 S20))))))))))
set_option maxHeartbeats 4000000 in
set_option maxRecDepth 100000 in
theorem lp_X8_turn_38  (v1 : Int32) (v2 : Int32) (K31 : Int32 → SS → Prop) (post : Int32 → SS → Prop) (C0 : Bd p s m meth c args cX8_turn 12 (some .int) wsX8_turn RX8 D n0 cI cJ) (hK31 : ∀ (v2 : Int32) (S : SS), K31 v2 S → ∀ (H : Heap) (locs : List Loc), Wh D n0 ad cI cJ X S s H locs → ∀ ls : Array Slot, lv_has ls 12 [(0, .ref (ad 48)), (1, .int v1), (2, .int v2)] → W p l e rm_X8_turn s m args below meth c H locs 0 0 (MQ below (va_Qi post (fun S' t => Wd D n0 ad cI cJ X S' t) (fr n0)) args s 0 0 (fr n0)) (F0 m 31 ls [])) : ∀ (n : Nat) (v3 : Int32) (S : SS), V_X8_turn_38  v1 v2 K31 post n v3 S → ∀ (H : Heap) (locs : List Loc), Wh D n0 ad cI cJ X S s H locs → ∀ ls : Array Slot, lv_has ls 12 [(0, .ref (ad 48)), (1, .int v1), (2, .int v2), (3, .int v3)] → W p l e rm_X8_turn s m args below meth c H locs 0 0 (MQ below (va_Qi post (fun S' t => Wd D n0 ad cI cJ X S' t) (fr n0)) args s 0 0 (fr n0)) (F0 m 38 ls []) := by
  intro n
  induction n with
  | zero => intro v3 S hV; exact False.elim hV
  | succ n ih =>
    intro v3 S hV H locs hw ls hl
    rw [V_X8_turn_38] at hV
    refine lv_iload_n C0.x C0.b dX8_turn_38 rfl (lv_at hl 2 rfl) ?_
    refine lv_i2l C0.x C0.b dX8_turn_39 rfl ?_
    refine lv_aload_n C0.x C0.b dX8_turn_40 rfl (lv_at hl 0 rfl) ?_
    refine lv_iload_n C0.x C0.b dX8_turn_41 rfl (lv_at hl 3 rfl) ?_
    refine r_cV_l (As := [.int v3]) (rest := [.long v2.toInt64]) C0 hw (c_X8_first  hV) (cwV 1 C0.ts gX8_turn_X8_first rfl rfl rfl hd_X8_first ⟨Nat.le_of_ble_eq_true rfl, Nat.le_of_ble_eq_true rfl⟩) (lg_48 ad cI cJ X S) rfl rfl hl.1 rfl (Nat.le_of_ble_eq_true rfl) ⟨Nat.le_of_ble_eq_true rfl, Nat.le_of_ble_eq_true rfl⟩ dX8_turn_42 (fun r15 S16 H locs hV hw => ?_)
    refine lv_lsub C0.x C0.b dX8_turn_45 ?_
    refine lv_aload_n C0.x C0.b dX8_turn_46 rfl (lv_at hl 0 rfl) ?_
    refine lv_iload_n C0.x C0.b dX8_turn_47 rfl (lv_at hl 3 rfl) ?_
    refine r_cV_l (As := [.int v3]) (rest := [.long (v2.toInt64 - r15)]) C0 hw (c_X8_gap  hV) (cwV 1 C0.ts gX8_turn_X8_gap rfl rfl rfl hd_X8_gap ⟨Nat.le_of_ble_eq_true rfl, Nat.le_of_ble_eq_true rfl⟩) (lg_48 ad cI cJ X S16) rfl rfl hl.1 rfl (Nat.le_of_ble_eq_true rfl) ⟨Nat.le_of_ble_eq_true rfl, Nat.le_of_ble_eq_true rfl⟩ dX8_turn_48 (fun r17 S18 H locs hV hw => ?_)
    refine r_cS_l (As := [.long (v2.toInt64 - r15), .long r17]) (rest := []) C0 hw (c_J9_floorMod_f86c9  hV) (va_cwS 2 C0.ts gX8_turn_J9_floorMod_f86c9 rfl rfl rfl hd_J9_floorMod_f86c9 ⟨Nat.le_of_ble_eq_true rfl, Nat.le_of_ble_eq_true rfl⟩) rfl hl.1 rfl (Nat.le_of_ble_eq_true rfl) ⟨Nat.le_of_ble_eq_true rfl, Nat.le_of_ble_eq_true rfl⟩ dX8_turn_51 (fun r19 S20 H locs hV hw => ?_)
    refine lv_lconst (v := 0) C0.x C0.b dX8_turn_54 (by decide) ?_
    refine r_lcmp C0 dX8_turn_55 ?_
    refine lv_if_eq (tgt := 65) C0.x C0.b dX8_turn_56 (by decide) (fun c21 => ?_) (fun c21 => ?_)
    · have hV := hV.1 ((lc_eq _ _).mp c21)
      refine lv_aload_n C0.x C0.b dX8_turn_65 rfl (lv_at hl 0 rfl) ?_
      refine r_get C0 hw (C := RX8) (T := TX8) (N := 33) (v := .ref (ad 51)) iw_X8_turn_X8 (lg_48 ad cI cJ X S20) rfl 9 (by decide) (C0.ts _ fw_X8_turn_20) rfl dX8_turn_66 ?_
      refine lv_iconst (v := 3) C0.x C0.b dX8_turn_69 (by decide) ?_
      refine lv_iload_n C0.x C0.b dX8_turn_70 rfl (lv_at hl 3 rfl) ?_
      refine lv_imul C0.x C0.b dX8_turn_71 ?_
      refine lv_iconst (v := 2) C0.x C0.b dX8_turn_72 (by decide) ?_
      refine lv_iadd C0.x C0.b dX8_turn_73 ?_
      refine r_lald C0 hw (lg_51 ad cI cJ X S20) hV.1 dX8_turn_74 ?_
      have hV := hV.2
      refine lv_lstore (lv' := [(4, .long (gA S20 32 (((3 : Int32) * v3) + (2 : Int32)).toNatClampNeg)), (0, .ref (ad 48)), (1, .int v1), (2, .int v2), (3, .int v3)]) C0.x C0.b dX8_turn_75 hl (by decide) rfl (fun ls hl => ?_)
      refine lv_aload_n C0.x C0.b dX8_turn_77 rfl (lv_at hl 1 rfl) ?_
      refine r_get C0 hw (C := RX8) (T := TX8) (N := 33) (v := .ref (ad 51)) iw_X8_turn_X8 (lg_48 ad cI cJ X S20) rfl 9 (by decide) (C0.ts _ fw_X8_turn_20) rfl dX8_turn_78 ?_
      refine lv_iconst (v := 3) C0.x C0.b dX8_turn_81 (by decide) ?_
      refine lv_iload_n C0.x C0.b dX8_turn_82 rfl (lv_at hl 4 rfl) ?_
      refine lv_imul C0.x C0.b dX8_turn_83 ?_
      refine lv_iconst (v := 1) C0.x C0.b dX8_turn_84 (by decide) ?_
      refine lv_iadd C0.x C0.b dX8_turn_85 ?_
      refine r_lald C0 hw (lg_51 ad cI cJ X S20) hV.1 dX8_turn_86 ?_
      have hV := hV.2
      refine lv_lneg C0.x C0.b dX8_turn_87 ?_
      refine lv_topl (fun y22 ey22 => ?_)
      have hV := hV y22 ey22
      refine lv_lstore (lv' := [(6, .long y22), (4, .long (gA S20 32 (((3 : Int32) * v3) + (2 : Int32)).toNatClampNeg)), (0, .ref (ad 48)), (1, .int v1), (2, .int v2), (3, .int v3)]) C0.x C0.b dX8_turn_88 hl (by decide) rfl (fun ls hl => ?_)
      refine lv_aload_n C0.x C0.b dX8_turn_90 rfl (lv_at hl 2 rfl) ?_
      refine r_get C0 hw (C := RX8) (T := TX8) (N := 33) (v := .ref (ad 51)) iw_X8_turn_X8 (lg_48 ad cI cJ X S20) rfl 9 (by decide) (C0.ts _ fw_X8_turn_20) rfl dX8_turn_91 ?_
      refine lv_iconst (v := 3) C0.x C0.b dX8_turn_94 (by decide) ?_
      refine lv_iload_n C0.x C0.b dX8_turn_95 rfl (lv_at hl 5 rfl) ?_
      refine lv_imul C0.x C0.b dX8_turn_96 ?_
      refine r_lald C0 hw (lg_51 ad cI cJ X S20) hV.1 dX8_turn_97 ?_
      have hV := hV.2
      refine lv_lstore (lv' := [(8, .long (gA S20 32 ((3 : Int32) * v3).toNatClampNeg)), (6, .long y22), (4, .long (gA S20 32 (((3 : Int32) * v3) + (2 : Int32)).toNatClampNeg)), (0, .ref (ad 48)), (1, .int v1), (2, .int v2), (3, .int v3)]) C0.x C0.b dX8_turn_98 hl (by decide) rfl (fun ls hl => ?_)
      refine lv_lload C0.x C0.b dX8_turn_100 (lv_at hl 2 rfl) ?_
      refine lv_lload C0.x C0.b dX8_turn_102 (lv_at hl 1 rfl) ?_
      refine r_cS_l (As := [.long (gA S20 32 (((3 : Int32) * v3) + (2 : Int32)).toNatClampNeg), .long y22]) (rest := []) C0 hw (c_X8_common  hV) (va_cwS 2 C0.ts gX8_turn_X8_common rfl rfl rfl hd_X8_common ⟨Nat.le_of_ble_eq_true rfl, Nat.le_of_ble_eq_true rfl⟩) rfl hl.1 rfl (Nat.le_of_ble_eq_true rfl) ⟨Nat.le_of_ble_eq_true rfl, Nat.le_of_ble_eq_true rfl⟩ dX8_turn_104 (fun r23 S24 H locs hV hw => ?_)
      refine lv_lload C0.x C0.b dX8_turn_107 (lv_at hl 0 rfl) ?_
      refine r_cS_l (As := [.long r23, .long (gA S20 32 ((3 : Int32) * v3).toNatClampNeg)]) (rest := []) C0 hw (c_X8_common  hV) (va_cwS 2 C0.ts gX8_turn_X8_common rfl rfl rfl hd_X8_common ⟨Nat.le_of_ble_eq_true rfl, Nat.le_of_ble_eq_true rfl⟩) rfl hl.1 rfl (Nat.le_of_ble_eq_true rfl) ⟨Nat.le_of_ble_eq_true rfl, Nat.le_of_ble_eq_true rfl⟩ dX8_turn_109 (fun r25 S26 H locs hV hw => ?_)
      refine lv_lstore (lv' := [(10, .long r25), (8, .long (gA S20 32 ((3 : Int32) * v3).toNatClampNeg)), (6, .long y22), (4, .long (gA S20 32 (((3 : Int32) * v3) + (2 : Int32)).toNatClampNeg)), (0, .ref (ad 48)), (1, .int v1), (2, .int v2), (3, .int v3)]) C0.x C0.b dX8_turn_112 hl (by decide) rfl (fun ls hl => ?_)
      refine lv_lload C0.x C0.b dX8_turn_114 (lv_at hl 1 rfl) ?_
      refine lv_lconst (v := 0) C0.x C0.b dX8_turn_116 (by decide) ?_
      refine r_lcmp C0 dX8_turn_117 ?_
      refine lv_if_ge (tgt := 127) C0.x C0.b dX8_turn_118 (by decide) (fun c27 => ?_) (fun c27 => ?_)
      · have hV := hV.1 ((lc_ge _ _).mp c27)
        refine lv_lload C0.x C0.b dX8_turn_127 (lv_at hl 0 rfl) ?_
        refine lv_lstore (lv' := [(10, .long r25), (8, .long (gA S20 32 ((3 : Int32) * v3).toNatClampNeg)), (6, .long y22), (4, .long (gA S20 32 (((3 : Int32) * v3) + (2 : Int32)).toNatClampNeg)), (0, .ref (ad 48)), (1, .int v1), (2, .int v2), (3, .int v3)]) C0.x C0.b dX8_turn_129 hl (by decide) rfl (fun ls hl => ?_)
        refine lv_lload C0.x C0.b dX8_turn_131 (lv_at hl 3 rfl) ?_
        refine lv_lload C0.x C0.b dX8_turn_133 (lv_at hl 0 rfl) ?_
        refine lv_ldiv C0.x C0.b dX8_turn_135 hV.1 ?_
        have hV := hV.2
        refine lv_lload C0.x C0.b dX8_turn_136 (lv_at hl 2 rfl) ?_
        refine lv_lload C0.x C0.b dX8_turn_138 (lv_at hl 0 rfl) ?_
        refine lv_ldiv C0.x C0.b dX8_turn_140 hV.1 ?_
        have hV := hV.2
        refine lv_lload C0.x C0.b dX8_turn_141 (lv_at hl 1 rfl) ?_
        refine lv_lload C0.x C0.b dX8_turn_143 (lv_at hl 0 rfl) ?_
        refine lv_ldiv C0.x C0.b dX8_turn_145 hV.1 ?_
        have hV := hV.2
        refine r_cS_i (As := [.long ((gA S20 32 (((3 : Int32) * v3) + (2 : Int32)).toNatClampNeg) / r25), .long (y22 / r25), .long ((gA S20 32 ((3 : Int32) * v3).toNatClampNeg) / r25)]) (rest := []) C0 hw (c_X8_isShare  hV) (va_cwS 3 C0.ts gX8_turn_X8_isShare rfl rfl rfl hd_X8_isShare ⟨Nat.le_of_ble_eq_true rfl, Nat.le_of_ble_eq_true rfl⟩) rfl hl.1 rfl (Nat.le_of_ble_eq_true rfl) ⟨Nat.le_of_ble_eq_true rfl, Nat.le_of_ble_eq_true rfl⟩ dX8_turn_146 (fun r28 S29 H locs hV hw => ?_)
        refine lv_if_ne (tgt := 154) C0.x C0.b dX8_turn_149 (by decide) (fun c30 => ?_) (fun c30 => ?_)
        · have hV := hV.2 c30
          refine lv_aload_n C0.x C0.b dX8_turn_154 rfl (lv_at hl 4 rfl) ?_
          refine r_get C0 hw (C := RX8) (T := TX8) (N := 33) (v := .ref (ad 62)) iw_X8_turn_X8 (lg_48 ad cI cJ X S29) rfl 30 (by decide) (C0.ts _ fw_X8_turn_55) rfl dX8_turn_155 ?_
          refine lv_iconst (v := 3) C0.x C0.b dX8_turn_158 (by decide) ?_
          refine lv_iload_n C0.x C0.b dX8_turn_159 rfl (lv_at hl 6 rfl) ?_
          refine lv_imul C0.x C0.b dX8_turn_160 ?_
          refine lv_lload C0.x C0.b dX8_turn_161 (lv_at hl 3 rfl) ?_
          refine lv_lload C0.x C0.b dX8_turn_163 (lv_at hl 0 rfl) ?_
          refine lv_ldiv C0.x C0.b dX8_turn_165 hV.1 ?_
          have hV := hV.2
          refine r_last C0 hw (lg_62 ad cI cJ X S29) hV.1 dX8_turn_166 (S' := (sA S29 40 (vp_updL (gA S29 40) ((3 : Int32) * v2).toNatClampNeg ((gA S20 32 (((3 : Int32) * v3) + (2 : Int32)).toNatClampNeg) / r25)))) (ls_62 ad cI cJ X S29 (vp_updL (gA S29 40) ((3 : Int32) * v2).toNatClampNeg ((gA S20 32 (((3 : Int32) * v3) + (2 : Int32)).toNatClampNeg) / r25))) (fun S31 H locs eS31 hw => ?_)
          have hV := hV.2 S31 eS31
          refine lv_aload_n C0.x C0.b dX8_turn_167 rfl (lv_at hl 4 rfl) ?_
          refine r_get C0 hw (C := RX8) (T := TX8) (N := 33) (v := .ref (ad 62)) iw_X8_turn_X8 (lg_48 ad cI cJ X S31) rfl 30 (by decide) (C0.ts _ fw_X8_turn_55) rfl dX8_turn_168 ?_
          refine lv_iconst (v := 3) C0.x C0.b dX8_turn_171 (by decide) ?_
          refine lv_iload_n C0.x C0.b dX8_turn_172 rfl (lv_at hl 6 rfl) ?_
          refine lv_imul C0.x C0.b dX8_turn_173 ?_
          refine lv_iconst (v := 1) C0.x C0.b dX8_turn_174 (by decide) ?_
          refine lv_iadd C0.x C0.b dX8_turn_175 ?_
          refine lv_lload C0.x C0.b dX8_turn_176 (lv_at hl 2 rfl) ?_
          refine lv_lload C0.x C0.b dX8_turn_178 (lv_at hl 0 rfl) ?_
          refine lv_ldiv C0.x C0.b dX8_turn_180 hV.1 ?_
          have hV := hV.2
          refine r_last C0 hw (lg_62 ad cI cJ X S31) hV.1 dX8_turn_181 (S' := (sA S31 40 (vp_updL (gA S31 40) (((3 : Int32) * v2) + (1 : Int32)).toNatClampNeg (y22 / r25)))) (ls_62 ad cI cJ X S31 (vp_updL (gA S31 40) (((3 : Int32) * v2) + (1 : Int32)).toNatClampNeg (y22 / r25))) (fun S32 H locs eS32 hw => ?_)
          have hV := hV.2 S32 eS32
          refine lv_aload_n C0.x C0.b dX8_turn_182 rfl (lv_at hl 4 rfl) ?_
          refine r_get C0 hw (C := RX8) (T := TX8) (N := 33) (v := .ref (ad 62)) iw_X8_turn_X8 (lg_48 ad cI cJ X S32) rfl 30 (by decide) (C0.ts _ fw_X8_turn_55) rfl dX8_turn_183 ?_
          refine lv_iconst (v := 3) C0.x C0.b dX8_turn_186 (by decide) ?_
          refine lv_iload_n C0.x C0.b dX8_turn_187 rfl (lv_at hl 6 rfl) ?_
          refine lv_imul C0.x C0.b dX8_turn_188 ?_
          refine lv_iconst (v := 2) C0.x C0.b dX8_turn_189 (by decide) ?_
          refine lv_iadd C0.x C0.b dX8_turn_190 ?_
          refine lv_lload C0.x C0.b dX8_turn_191 (lv_at hl 1 rfl) ?_
          refine lv_lload C0.x C0.b dX8_turn_193 (lv_at hl 0 rfl) ?_
          refine lv_ldiv C0.x C0.b dX8_turn_195 hV.1 ?_
          have hV := hV.2
          refine r_last C0 hw (lg_62 ad cI cJ X S32) hV.1 dX8_turn_196 (S' := (sA S32 40 (vp_updL (gA S32 40) (((3 : Int32) * v2) + (2 : Int32)).toNatClampNeg ((gA S20 32 ((3 : Int32) * v3).toNatClampNeg) / r25)))) (ls_62 ad cI cJ X S32 (vp_updL (gA S32 40) (((3 : Int32) * v2) + (2 : Int32)).toNatClampNeg ((gA S20 32 ((3 : Int32) * v3).toNatClampNeg) / r25))) (fun S33 H locs eS33 hw => ?_)
          have hV := hV.2 S33 eS33
          obtain ⟨x34, ex34⟩ : ∃ z : Int32, z = v2 + 1 := ⟨_, rfl⟩
          have hV := hV x34 ex34
          refine lv_iinc (v := x34) (lv' := [(2, .int x34), (10, .long r25), (8, .long (gA S20 32 ((3 : Int32) * v3).toNatClampNeg)), (6, .long y22), (4, .long (gA S20 32 (((3 : Int32) * v3) + (2 : Int32)).toNatClampNeg)), (0, .ref (ad 48)), (1, .int v1), (3, .int v3)]) C0.x C0.b dX8_turn_197 hl (k := 6) rfl (by rw [ex34]; rfl) (by decide) rfl (fun ls hl => ?_)
          refine lv_goto (tgt := 31) C0.x C0.b dX8_turn_200 (by decide) ?_
          exact hK31 _ _ hV _ _ hw _ (lv_sub hl [5, 6, 0] rfl)
        · have hV := hV.1 c30
          refine lv_iconst (v := -1) C0.x C0.b dX8_turn_152 (by decide) ?_
          exact r_iret C0 rfl hw hV dX8_turn_153
      · have hV := hV.2 (fun h => c27 ((lc_ge _ _).mpr h))
        refine lv_lload C0.x C0.b dX8_turn_121 (lv_at hl 0 rfl) ?_
        refine lv_lneg C0.x C0.b dX8_turn_123 ?_
        refine lv_goto (tgt := 129) C0.x C0.b dX8_turn_124 (by decide) ?_
        refine lv_topl (fun y35 ey35 => ?_)
        have hV := hV y35 ey35
        refine lv_lstore (lv' := [(10, .long y35), (8, .long (gA S20 32 ((3 : Int32) * v3).toNatClampNeg)), (6, .long y22), (4, .long (gA S20 32 (((3 : Int32) * v3) + (2 : Int32)).toNatClampNeg)), (0, .ref (ad 48)), (1, .int v1), (2, .int v2), (3, .int v3)]) C0.x C0.b dX8_turn_129 hl (by decide) rfl (fun ls hl => ?_)
        refine lv_lload C0.x C0.b dX8_turn_131 (lv_at hl 3 rfl) ?_
        refine lv_lload C0.x C0.b dX8_turn_133 (lv_at hl 0 rfl) ?_
        refine lv_ldiv C0.x C0.b dX8_turn_135 hV.1 ?_
        have hV := hV.2
        refine lv_lload C0.x C0.b dX8_turn_136 (lv_at hl 2 rfl) ?_
        refine lv_lload C0.x C0.b dX8_turn_138 (lv_at hl 0 rfl) ?_
        refine lv_ldiv C0.x C0.b dX8_turn_140 hV.1 ?_
        have hV := hV.2
        refine lv_lload C0.x C0.b dX8_turn_141 (lv_at hl 1 rfl) ?_
        refine lv_lload C0.x C0.b dX8_turn_143 (lv_at hl 0 rfl) ?_
        refine lv_ldiv C0.x C0.b dX8_turn_145 hV.1 ?_
        have hV := hV.2
        refine r_cS_i (As := [.long ((gA S20 32 (((3 : Int32) * v3) + (2 : Int32)).toNatClampNeg) / y35), .long (y22 / y35), .long ((gA S20 32 ((3 : Int32) * v3).toNatClampNeg) / y35)]) (rest := []) C0 hw (c_X8_isShare  hV) (va_cwS 3 C0.ts gX8_turn_X8_isShare rfl rfl rfl hd_X8_isShare ⟨Nat.le_of_ble_eq_true rfl, Nat.le_of_ble_eq_true rfl⟩) rfl hl.1 rfl (Nat.le_of_ble_eq_true rfl) ⟨Nat.le_of_ble_eq_true rfl, Nat.le_of_ble_eq_true rfl⟩ dX8_turn_146 (fun r36 S37 H locs hV hw => ?_)
        refine lv_if_ne (tgt := 154) C0.x C0.b dX8_turn_149 (by decide) (fun c38 => ?_) (fun c38 => ?_)
        · have hV := hV.2 c38
          refine lv_aload_n C0.x C0.b dX8_turn_154 rfl (lv_at hl 4 rfl) ?_
          refine r_get C0 hw (C := RX8) (T := TX8) (N := 33) (v := .ref (ad 62)) iw_X8_turn_X8 (lg_48 ad cI cJ X S37) rfl 30 (by decide) (C0.ts _ fw_X8_turn_55) rfl dX8_turn_155 ?_
          refine lv_iconst (v := 3) C0.x C0.b dX8_turn_158 (by decide) ?_
          refine lv_iload_n C0.x C0.b dX8_turn_159 rfl (lv_at hl 6 rfl) ?_
          refine lv_imul C0.x C0.b dX8_turn_160 ?_
          refine lv_lload C0.x C0.b dX8_turn_161 (lv_at hl 3 rfl) ?_
          refine lv_lload C0.x C0.b dX8_turn_163 (lv_at hl 0 rfl) ?_
          refine lv_ldiv C0.x C0.b dX8_turn_165 hV.1 ?_
          have hV := hV.2
          refine r_last C0 hw (lg_62 ad cI cJ X S37) hV.1 dX8_turn_166 (S' := (sA S37 40 (vp_updL (gA S37 40) ((3 : Int32) * v2).toNatClampNeg ((gA S20 32 (((3 : Int32) * v3) + (2 : Int32)).toNatClampNeg) / y35)))) (ls_62 ad cI cJ X S37 (vp_updL (gA S37 40) ((3 : Int32) * v2).toNatClampNeg ((gA S20 32 (((3 : Int32) * v3) + (2 : Int32)).toNatClampNeg) / y35))) (fun S39 H locs eS39 hw => ?_)
          have hV := hV.2 S39 eS39
          refine lv_aload_n C0.x C0.b dX8_turn_167 rfl (lv_at hl 4 rfl) ?_
          refine r_get C0 hw (C := RX8) (T := TX8) (N := 33) (v := .ref (ad 62)) iw_X8_turn_X8 (lg_48 ad cI cJ X S39) rfl 30 (by decide) (C0.ts _ fw_X8_turn_55) rfl dX8_turn_168 ?_
          refine lv_iconst (v := 3) C0.x C0.b dX8_turn_171 (by decide) ?_
          refine lv_iload_n C0.x C0.b dX8_turn_172 rfl (lv_at hl 6 rfl) ?_
          refine lv_imul C0.x C0.b dX8_turn_173 ?_
          refine lv_iconst (v := 1) C0.x C0.b dX8_turn_174 (by decide) ?_
          refine lv_iadd C0.x C0.b dX8_turn_175 ?_
          refine lv_lload C0.x C0.b dX8_turn_176 (lv_at hl 2 rfl) ?_
          refine lv_lload C0.x C0.b dX8_turn_178 (lv_at hl 0 rfl) ?_
          refine lv_ldiv C0.x C0.b dX8_turn_180 hV.1 ?_
          have hV := hV.2
          refine r_last C0 hw (lg_62 ad cI cJ X S39) hV.1 dX8_turn_181 (S' := (sA S39 40 (vp_updL (gA S39 40) (((3 : Int32) * v2) + (1 : Int32)).toNatClampNeg (y22 / y35)))) (ls_62 ad cI cJ X S39 (vp_updL (gA S39 40) (((3 : Int32) * v2) + (1 : Int32)).toNatClampNeg (y22 / y35))) (fun S40 H locs eS40 hw => ?_)
          have hV := hV.2 S40 eS40
          refine lv_aload_n C0.x C0.b dX8_turn_182 rfl (lv_at hl 4 rfl) ?_
          refine r_get C0 hw (C := RX8) (T := TX8) (N := 33) (v := .ref (ad 62)) iw_X8_turn_X8 (lg_48 ad cI cJ X S40) rfl 30 (by decide) (C0.ts _ fw_X8_turn_55) rfl dX8_turn_183 ?_
          refine lv_iconst (v := 3) C0.x C0.b dX8_turn_186 (by decide) ?_
          refine lv_iload_n C0.x C0.b dX8_turn_187 rfl (lv_at hl 6 rfl) ?_
          refine lv_imul C0.x C0.b dX8_turn_188 ?_
          refine lv_iconst (v := 2) C0.x C0.b dX8_turn_189 (by decide) ?_
          refine lv_iadd C0.x C0.b dX8_turn_190 ?_
          refine lv_lload C0.x C0.b dX8_turn_191 (lv_at hl 1 rfl) ?_
          refine lv_lload C0.x C0.b dX8_turn_193 (lv_at hl 0 rfl) ?_
          refine lv_ldiv C0.x C0.b dX8_turn_195 hV.1 ?_
          have hV := hV.2
          refine r_last C0 hw (lg_62 ad cI cJ X S40) hV.1 dX8_turn_196 (S' := (sA S40 40 (vp_updL (gA S40 40) (((3 : Int32) * v2) + (2 : Int32)).toNatClampNeg ((gA S20 32 ((3 : Int32) * v3).toNatClampNeg) / y35)))) (ls_62 ad cI cJ X S40 (vp_updL (gA S40 40) (((3 : Int32) * v2) + (2 : Int32)).toNatClampNeg ((gA S20 32 ((3 : Int32) * v3).toNatClampNeg) / y35))) (fun S41 H locs eS41 hw => ?_)
          have hV := hV.2 S41 eS41
          obtain ⟨x42, ex42⟩ : ∃ z : Int32, z = v2 + 1 := ⟨_, rfl⟩
          have hV := hV x42 ex42
          refine lv_iinc (v := x42) (lv' := [(2, .int x42), (10, .long y35), (8, .long (gA S20 32 ((3 : Int32) * v3).toNatClampNeg)), (6, .long y22), (4, .long (gA S20 32 (((3 : Int32) * v3) + (2 : Int32)).toNatClampNeg)), (0, .ref (ad 48)), (1, .int v1), (3, .int v3)]) C0.x C0.b dX8_turn_197 hl (k := 6) rfl (by rw [ex42]; rfl) (by decide) rfl (fun ls hl => ?_)
          refine lv_goto (tgt := 31) C0.x C0.b dX8_turn_200 (by decide) ?_
          exact hK31 _ _ hV _ _ hw _ (lv_sub hl [5, 6, 0] rfl)
        · have hV := hV.1 c38
          refine lv_iconst (v := -1) C0.x C0.b dX8_turn_152 (by decide) ?_
          exact r_iret C0 rfl hw hV dX8_turn_153
    · have hV := hV.2 (fun h => c21 ((lc_eq _ _).mpr h))
      obtain ⟨x43, ex43⟩ : ∃ z : Int32, z = v3 + 1 := ⟨_, rfl⟩
      have hV := hV x43 ex43
      refine lv_iinc (v := x43) (lv' := [(3, .int x43), (0, .ref (ad 48)), (1, .int v1), (2, .int v2)]) C0.x C0.b dX8_turn_59 hl (k := 3) rfl (by rw [ex43]; rfl) (by decide) rfl (fun ls hl => ?_)
      refine lv_goto (tgt := 38) C0.x C0.b dX8_turn_62 (by decide) ?_
      exact ih _ _ hV _ _ hw _ (lv_sub hl [1, 2, 3, 0] rfl)
def V_X8_turn_31  (v1 : Int32)  (post : Int32 → SS → Prop) : Nat → Int32 → SS → Prop
  | 0, _, _ => False
  | n + 1, v2, S =>
    ((v1 ≤ v2 → (∀ S11 : SS, S11 = (sI S 26 v1) → (∃ n210 : Nat, V_X8_turn_210    post n210 (0 : Int32) S11))) ∧ (¬ v1 ≤ v2 → (∃ n38 : Nat, V_X8_turn_38  v1 v2 (fun w2 T => V_X8_turn_31  v1  post n w2 T) post n38 (0 : Int32) S)))
set_option maxHeartbeats 4000000 in
set_option maxRecDepth 100000 in
theorem lp_X8_turn_31  (v1 : Int32)  (post : Int32 → SS → Prop) (C0 : Bd p s m meth c args cX8_turn 12 (some .int) wsX8_turn RX8 D n0 cI cJ) : ∀ (n : Nat) (v2 : Int32) (S : SS), V_X8_turn_31  v1  post n v2 S → ∀ (H : Heap) (locs : List Loc), Wh D n0 ad cI cJ X S s H locs → ∀ ls : Array Slot, lv_has ls 12 [(0, .ref (ad 48)), (1, .int v1), (2, .int v2)] → W p l e rm_X8_turn s m args below meth c H locs 0 0 (MQ below (va_Qi post (fun S' t => Wd D n0 ad cI cJ X S' t) (fr n0)) args s 0 0 (fr n0)) (F0 m 31 ls []) := by
  intro n
  induction n with
  | zero => intro v2 S hV; exact False.elim hV
  | succ n ih =>
    intro v2 S hV H locs hw ls hl
    rw [V_X8_turn_31] at hV
    refine lv_iload_n C0.x C0.b dX8_turn_31 rfl (lv_at hl 2 rfl) ?_
    refine lv_iload_n C0.x C0.b dX8_turn_32 rfl (lv_at hl 1 rfl) ?_
    refine lv_icmp_ge (tgt := 203) C0.x C0.b dX8_turn_33 (by decide) (fun c10 => ?_) (fun c10 => ?_)
    · have hV := hV.1 c10
      refine lv_aload_n C0.x C0.b dX8_turn_203 rfl (lv_at hl 0 rfl) ?_
      refine lv_iload_n C0.x C0.b dX8_turn_204 rfl (lv_at hl 1 rfl) ?_
      refine r_put C0 hw (C := RX8) (T := TX8) (N := 33) (ty := .int) iw_X8_turn_X8 tyX8 tyX8_ok nmX8 (lg_48 ad cI cJ X S) rfl 8 (by decide) (C0.ts _ fw_X8_turn_105) rfl (by decide +kernel) rfl rfl (Nat.le_of_ble_eq_true rfl) dX8_turn_205 (S' := (sI S 26 v1)) (ls_48_8 ad cI cJ X S v1) (fun S11 H locs eS11 hw => ?_)
      have hV := hV S11 eS11
      refine lv_iconst (v := 0) C0.x C0.b dX8_turn_208 (by decide) ?_
      refine lv_istore_n (lv' := [(2, .int (0 : Int32)), (0, .ref (ad 48)), (1, .int v1)]) C0.x C0.b dX8_turn_209 rfl hl (by decide) rfl (fun ls hl => ?_)
      obtain ⟨n210, hV⟩ := hV
      exact lp_X8_turn_210   post C0  n210 _ _ hV _ _ hw _ (lv_sub hl [1, 0] rfl)
    · have hV := hV.2 c10
      refine lv_iconst (v := 0) C0.x C0.b dX8_turn_36 (by decide) ?_
      refine lv_istore_n (lv' := [(3, .int (0 : Int32)), (0, .ref (ad 48)), (1, .int v1), (2, .int v2)]) C0.x C0.b dX8_turn_37 rfl hl (by decide) rfl (fun ls hl => ?_)
      obtain ⟨n38, hV⟩ := hV
      exact lp_X8_turn_38  _ _ _ post C0 ih n38 _ _ hV _ _ hw _ (lv_sub hl [1, 2, 3, 0] rfl)
def V_X8_turn   (S : SS) (post : Int32 → SS → Prop) : Prop :=
  (∀ S1 : SS, S1 = (sI S 20 (0 : Int32)) → (V_X8_both  S1 (fun (r2 : Int32) (S3 : SS) => ((r2 = (1 : Int32) → (V_X8_measure  S3 (fun (r5 : Int32) (S6 : SS) => ((r5 ≤ (64 : Int32) → (V_X8_measure  S6 (fun (r8 : Int32) (S9 : SS) => (∃ n31 : Nat, V_X8_turn_31  r8  post n31 (0 : Int32) S9)))) ∧ (¬ r5 ≤ (64 : Int32) → (post (-1 : Int32) S6)))))) ∧ (¬ r2 = (1 : Int32) → (post (-1 : Int32) S3))))))
set_option maxHeartbeats 4000000 in
set_option maxRecDepth 100000 in
theorem c_X8_turn  {S : SS}  {post : Int32 → SS → Prop} (hV : V_X8_turn   S post) : MI l yX8_turn wsX8_turn rm_X8_turn [.ref (ad 48)] D n0 ad cI cJ X S post := by
  refine Met.ofW (cc := cX8_turn) (maxL := 12) (ret := (some .int)) (by decide) rfl ?_
  intro p e s m args below meth c s₁ B hml hv
  obtain ⟨rfl, hv⟩ := hv
  have C0 := Bd.mk B hml (atoms_spec (ws := wsX8_turn) B.pre) (findClass_of_methodNamed B.named) hv.1
  have hw : Wh D n0 ad cI cJ X S s s.heap [] := ⟨hv.2.1, hv.2.2, va_S.rf⟩
  refine r_entry (Nat.le_of_ble_eq_true rfl) (fun ls hl => ?_)
  have hl : lv_has ls 12 [(0, .ref (ad 48))] := hl
  unfold V_X8_turn at hV
  refine lv_aload_n C0.x C0.b dX8_turn_0 rfl (lv_at hl 0 rfl) ?_
  refine lv_iconst (v := 0) C0.x C0.b dX8_turn_1 (by decide) ?_
  refine r_put C0 hw (C := RX8) (T := TX8) (N := 33) (ty := .int) iw_X8_turn_X8 tyX8 tyX8_ok nmX8 (lg_48 ad cI cJ X S) rfl 0 (by decide) (C0.ts _ fw_X8_turn_61) rfl (by decide +kernel) rfl rfl (Nat.le_of_ble_eq_true rfl) dX8_turn_2 (S' := (sI S 20 (0 : Int32))) (ls_48_0 ad cI cJ X S (0 : Int32)) (fun S1 H locs eS1 hw => ?_)
  have hV := hV S1 eS1
  refine lv_aload_n C0.x C0.b dX8_turn_5 rfl (lv_at hl 0 rfl) ?_
  refine r_cV_i (As := []) (rest := []) C0 hw (c_X8_both  hV) (cwV 0 C0.ts gX8_turn_X8_both rfl rfl rfl hd_X8_both ⟨Nat.le_of_ble_eq_true rfl, Nat.le_of_ble_eq_true rfl⟩) (lg_48 ad cI cJ X S1) rfl rfl hl.1 rfl (Nat.le_of_ble_eq_true rfl) ⟨Nat.le_of_ble_eq_true rfl, Nat.le_of_ble_eq_true rfl⟩ dX8_turn_6 (fun r2 S3 H locs hV hw => ?_)
  refine lv_iconst (v := 1) C0.x C0.b dX8_turn_9 (by decide) ?_
  refine lv_icmp_ne (tgt := 22) C0.x C0.b dX8_turn_10 (by decide) (fun c4 => ?_) (fun c4 => ?_)
  · have hV := hV.2 c4
    refine lv_iconst (v := -1) C0.x C0.b dX8_turn_22 (by decide) ?_
    exact r_iret C0 rfl hw hV dX8_turn_23
  · have hV := hV.1 c4
    refine lv_aload_n C0.x C0.b dX8_turn_13 rfl (lv_at hl 0 rfl) ?_
    refine r_cV_i (As := []) (rest := []) C0 hw (c_X8_measure  hV) (cwV 0 C0.ts gX8_turn_X8_measure rfl rfl rfl hd_X8_measure ⟨Nat.le_of_ble_eq_true rfl, Nat.le_of_ble_eq_true rfl⟩) (lg_48 ad cI cJ X S3) rfl rfl hl.1 rfl (Nat.le_of_ble_eq_true rfl) ⟨Nat.le_of_ble_eq_true rfl, Nat.le_of_ble_eq_true rfl⟩ dX8_turn_14 (fun r5 S6 H locs hV hw => ?_)
    refine lv_bipush (v := 64) C0.x C0.b dX8_turn_17 (by decide) ?_
    refine lv_icmp_le (tgt := 24) C0.x C0.b dX8_turn_19 (by decide) (fun c7 => ?_) (fun c7 => ?_)
    · have hV := hV.1 c7
      refine lv_aload_n C0.x C0.b dX8_turn_24 rfl (lv_at hl 0 rfl) ?_
      refine r_cV_i (As := []) (rest := []) C0 hw (c_X8_measure  hV) (cwV 0 C0.ts gX8_turn_X8_measure rfl rfl rfl hd_X8_measure ⟨Nat.le_of_ble_eq_true rfl, Nat.le_of_ble_eq_true rfl⟩) (lg_48 ad cI cJ X S6) rfl rfl hl.1 rfl (Nat.le_of_ble_eq_true rfl) ⟨Nat.le_of_ble_eq_true rfl, Nat.le_of_ble_eq_true rfl⟩ dX8_turn_25 (fun r8 S9 H locs hV hw => ?_)
      refine lv_istore_n (lv' := [(1, .int r8), (0, .ref (ad 48))]) C0.x C0.b dX8_turn_28 rfl hl (by decide) rfl (fun ls hl => ?_)
      refine lv_iconst (v := 0) C0.x C0.b dX8_turn_29 (by decide) ?_
      refine lv_istore_n (lv' := [(2, .int (0 : Int32)), (1, .int r8), (0, .ref (ad 48))]) C0.x C0.b dX8_turn_30 rfl hl (by decide) rfl (fun ls hl => ?_)
      obtain ⟨n31, hV⟩ := hV
      exact lp_X8_turn_31  _ post C0  n31 _ _ hV _ _ hw _ (lv_sub hl [2, 1, 0] rfl)
    · have hV := hV.2 c7
      refine lv_iconst (v := -1) C0.x C0.b dX8_turn_22 (by decide) ?_
      exact r_iret C0 rfl hw hV dX8_turn_23
/-! StepBenchModel.drift()I -/
abbrev rm_X8_drift : Room := { frames := 1, cells := 0, slots := 0, locals := 27 }
set_option maxRecDepth 20000 in
theorem fw_X8_drift_61 : Cond.fieldLink RX8 61 "StepBenchModel" "thrown" "I" ∈ wsX8_drift := by decide +kernel
set_option maxRecDepth 20000 in
theorem iw_X8_drift_X8 : ∀ w ∈ wsX80, w ∈ wsX8_drift := by decide +kernel
set_option maxRecDepth 20000 in
theorem fw_X8_drift_108 : Cond.fieldLink RX8 108 "StepBenchModel" "sort" "I" ∈ wsX8_drift := by decide +kernel
set_option maxRecDepth 20000 in
theorem fw_X8_drift_42 : Cond.fieldLink RX8 42 "StepBenchModel" "large" "[J" ∈ wsX8_drift := by decide +kernel
set_option maxRecDepth 20000 in
theorem fw_X8_drift_45 : Cond.fieldLink RX8 45 "StepBenchModel" "other" "[J" ∈ wsX8_drift := by decide +kernel
set_option maxRecDepth 20000 in
theorem fw_X8_drift_105 : Cond.fieldLink RX8 105 "StepBenchModel" "m" "I" ∈ wsX8_drift := by decide +kernel
set_option maxRecDepth 20000 in
theorem fw_X8_drift_20 : Cond.fieldLink RX8 20 "StepBenchModel" "rule" "[J" ∈ wsX8_drift := by decide +kernel
set_option maxRecDepth 20000 in
theorem hd_X8_drift : yX8_drift.cls = RX8 ∧ yX8_drift.cls ≠ "java/lang/invoke/MethodHandle" ∧ yX8_drift.cls ≠ "java/lang/invoke/VarHandle" ∧ (parseMethodDescriptor yX8_drift.desc).map (fun d => d.parameters.length) = some 0 := by decide +kernel
def V_X8_drift_105    (post : Int32 → SS → Prop) : Nat → Int32 → SS → Prop
  | 0, _, _ => False
  | n + 1, v1, S =>
    ((v1 < 0 → (post (0 : Int32) S)) ∧ (¬ v1 < 0 → (vp_in v1 26 ∧ (vp_in v1 26 ∧ (((gA S 37 v1.toNatClampNeg) = (gA S 38 v1.toNatClampNeg) → (∀ x10 : Int32, x10 = v1 + (-1) → (V_X8_drift_105    post n x10 S))) ∧ (¬ (gA S 37 v1.toNatClampNeg) = (gA S 38 v1.toNatClampNeg) → (vp_in v1 26 ∧ (vp_in v1 26 ∧ (((gA S 37 v1.toNatClampNeg) ≤ (gA S 38 v1.toNatClampNeg) → (post (-1 : Int32) S)) ∧ (¬ (gA S 37 v1.toNatClampNeg) ≤ (gA S 38 v1.toNatClampNeg) → (post (1 : Int32) S)))))))))))
set_option maxHeartbeats 4000000 in
set_option maxRecDepth 100000 in
theorem lp_X8_drift_105    (post : Int32 → SS → Prop) (C0 : Bd p s m meth c args cX8_drift 4 (some .int) wsX8_drift RX8 D n0 cI cJ) : ∀ (n : Nat) (v1 : Int32) (S : SS), V_X8_drift_105    post n v1 S → ∀ (H : Heap) (locs : List Loc), Wh D n0 ad cI cJ X S s H locs → ∀ ls : Array Slot, lv_has ls 4 [(0, .ref (ad 48)), (1, .int v1)] → W p l e rm_X8_drift s m args below meth c H locs 0 0 (MQ below (va_Qi post (fun S' t => Wd D n0 ad cI cJ X S' t) (fr n0)) args s 0 0 (fr n0)) (F0 m 105 ls []) := by
  intro n
  induction n with
  | zero => intro v1 S hV; exact False.elim hV
  | succ n ih =>
    intro v1 S hV H locs hw ls hl
    rw [V_X8_drift_105] at hV
    refine lv_iload_n C0.x C0.b dX8_drift_105 rfl (lv_at hl 1 rfl) ?_
    refine lv_if_lt (tgt := 153) C0.x C0.b dX8_drift_106 (by decide) (fun c8 => ?_) (fun c8 => ?_)
    · have hV := hV.1 c8
      refine lv_iconst (v := 0) C0.x C0.b dX8_drift_153 (by decide) ?_
      exact r_iret C0 rfl hw hV dX8_drift_154
    · have hV := hV.2 c8
      refine lv_aload_n C0.x C0.b dX8_drift_109 rfl (lv_at hl 0 rfl) ?_
      refine r_get C0 hw (C := RX8) (T := TX8) (N := 33) (v := .ref (ad 58)) iw_X8_drift_X8 (lg_48 ad cI cJ X S) rfl 26 (by decide) (C0.ts _ fw_X8_drift_42) rfl dX8_drift_110 ?_
      refine lv_iload_n C0.x C0.b dX8_drift_113 rfl (lv_at hl 1 rfl) ?_
      refine r_lald C0 hw (lg_58 ad cI cJ X S) hV.1 dX8_drift_114 ?_
      have hV := hV.2
      refine lv_aload_n C0.x C0.b dX8_drift_115 rfl (lv_at hl 0 rfl) ?_
      refine r_get C0 hw (C := RX8) (T := TX8) (N := 33) (v := .ref (ad 59)) iw_X8_drift_X8 (lg_48 ad cI cJ X S) rfl 27 (by decide) (C0.ts _ fw_X8_drift_45) rfl dX8_drift_116 ?_
      refine lv_iload_n C0.x C0.b dX8_drift_119 rfl (lv_at hl 1 rfl) ?_
      refine r_lald C0 hw (lg_59 ad cI cJ X S) hV.1 dX8_drift_120 ?_
      have hV := hV.2
      refine r_lcmp C0 dX8_drift_121 ?_
      refine lv_if_eq (tgt := 147) C0.x C0.b dX8_drift_122 (by decide) (fun c9 => ?_) (fun c9 => ?_)
      · have hV := hV.1 ((lc_eq _ _).mp c9)
        obtain ⟨x10, ex10⟩ : ∃ z : Int32, z = v1 + (-1) := ⟨_, rfl⟩
        have hV := hV x10 ex10
        refine lv_iinc (v := x10) (lv' := [(1, .int x10), (0, .ref (ad 48))]) C0.x C0.b dX8_drift_147 hl (k := 1) rfl (by rw [ex10]; rfl) (by decide) rfl (fun ls hl => ?_)
        refine lv_goto (tgt := 105) C0.x C0.b dX8_drift_150 (by decide) ?_
        exact ih _ _ hV _ _ hw _ (lv_sub hl [1, 0] rfl)
      · have hV := hV.2 (fun h => c9 ((lc_eq _ _).mpr h))
        refine lv_aload_n C0.x C0.b dX8_drift_125 rfl (lv_at hl 0 rfl) ?_
        refine r_get C0 hw (C := RX8) (T := TX8) (N := 33) (v := .ref (ad 58)) iw_X8_drift_X8 (lg_48 ad cI cJ X S) rfl 26 (by decide) (C0.ts _ fw_X8_drift_42) rfl dX8_drift_126 ?_
        refine lv_iload_n C0.x C0.b dX8_drift_129 rfl (lv_at hl 1 rfl) ?_
        refine r_lald C0 hw (lg_58 ad cI cJ X S) hV.1 dX8_drift_130 ?_
        have hV := hV.2
        refine lv_aload_n C0.x C0.b dX8_drift_131 rfl (lv_at hl 0 rfl) ?_
        refine r_get C0 hw (C := RX8) (T := TX8) (N := 33) (v := .ref (ad 59)) iw_X8_drift_X8 (lg_48 ad cI cJ X S) rfl 27 (by decide) (C0.ts _ fw_X8_drift_45) rfl dX8_drift_132 ?_
        refine lv_iload_n C0.x C0.b dX8_drift_135 rfl (lv_at hl 1 rfl) ?_
        refine r_lald C0 hw (lg_59 ad cI cJ X S) hV.1 dX8_drift_136 ?_
        have hV := hV.2
        refine r_lcmp C0 dX8_drift_137 ?_
        refine lv_if_le (tgt := 145) C0.x C0.b dX8_drift_138 (by decide) (fun c11 => ?_) (fun c11 => ?_)
        · have hV := hV.1 ((lc_le _ _).mp c11)
          refine lv_iconst (v := -1) C0.x C0.b dX8_drift_145 (by decide) ?_
          exact r_iret C0 rfl hw hV dX8_drift_146
        · have hV := hV.2 (fun h => c11 ((lc_le _ _).mpr h))
          refine lv_iconst (v := 1) C0.x C0.b dX8_drift_141 (by decide) ?_
          refine lv_goto (tgt := 146) C0.x C0.b dX8_drift_142 (by decide) ?_
          exact r_iret C0 rfl hw hV dX8_drift_146
def V_X8_drift_34    (post : Int32 → SS → Prop) : Nat → Int32 → SS → Prop
  | 0, _, _ => False
  | n + 1, v1, S =>
    (((gI S 26) ≤ v1 → (∃ n105 : Nat, V_X8_drift_105    post n105 (25 : Int32) S)) ∧ (¬ (gI S 26) ≤ v1 → (vp_in ((3 : Int32) * v1) 192 ∧ (((gA S 32 ((3 : Int32) * v1).toNatClampNeg) = (0 : Int64) → (post (-2 : Int32) S)) ∧ (¬ (gA S 32 ((3 : Int32) * v1).toNatClampNeg) = (0 : Int64) → (((0 : Int64) ≤ (gA S 32 ((3 : Int32) * v1).toNatClampNeg) → (V_X8_times 37 26 (gA S 32 ((3 : Int32) * v1).toNatClampNeg) S (fun (S15 : SS) => (vp_in (((3 : Int32) * v1) + (2 : Int32)) 192 ∧ (V_X8_times 38 26 (gA S15 32 (((3 : Int32) * v1) + (2 : Int32)).toNatClampNeg) S15 (fun (S17 : SS) => (∀ x18 : Int32, x18 = v1 + 1 → (V_X8_drift_34    post n x18 S17)))))))) ∧ (¬ (0 : Int64) ≤ (gA S 32 ((3 : Int32) * v1).toNatClampNeg) → (V_X8_times 37 26 (-(gA S 32 ((3 : Int32) * v1).toNatClampNeg)) S (fun (S20 : SS) => (vp_in (((3 : Int32) * v1) + (2 : Int32)) 192 ∧ (V_X8_times 38 26 (gA S20 32 (((3 : Int32) * v1) + (2 : Int32)).toNatClampNeg) S20 (fun (S22 : SS) => (∀ x23 : Int32, x23 = v1 + 1 → (V_X8_drift_34    post n x23 S22))))))))))))))
set_option maxHeartbeats 4000000 in
set_option maxRecDepth 100000 in
theorem lp_X8_drift_34    (post : Int32 → SS → Prop) (C0 : Bd p s m meth c args cX8_drift 4 (some .int) wsX8_drift RX8 D n0 cI cJ) : ∀ (n : Nat) (v1 : Int32) (S : SS), V_X8_drift_34    post n v1 S → ∀ (H : Heap) (locs : List Loc), Wh D n0 ad cI cJ X S s H locs → ∀ ls : Array Slot, lv_has ls 4 [(0, .ref (ad 48)), (1, .int v1)] → W p l e rm_X8_drift s m args below meth c H locs 0 0 (MQ below (va_Qi post (fun S' t => Wd D n0 ad cI cJ X S' t) (fr n0)) args s 0 0 (fr n0)) (F0 m 34 ls []) := by
  intro n
  induction n with
  | zero => intro v1 S hV; exact False.elim hV
  | succ n ih =>
    intro v1 S hV H locs hw ls hl
    rw [V_X8_drift_34] at hV
    refine lv_iload_n C0.x C0.b dX8_drift_34 rfl (lv_at hl 1 rfl) ?_
    refine lv_aload_n C0.x C0.b dX8_drift_35 rfl (lv_at hl 0 rfl) ?_
    refine r_get C0 hw (C := RX8) (T := TX8) (N := 33) (v := .int (gI S 26)) iw_X8_drift_X8 (lg_48 ad cI cJ X S) rfl 8 (by decide) (C0.ts _ fw_X8_drift_105) rfl dX8_drift_36 ?_
    refine lv_icmp_ge (tgt := 102) C0.x C0.b dX8_drift_39 (by decide) (fun c7 => ?_) (fun c7 => ?_)
    · have hV := hV.1 c7
      refine lv_bipush (v := 25) C0.x C0.b dX8_drift_102 (by decide) ?_
      refine lv_istore_n (lv' := [(1, .int (25 : Int32)), (0, .ref (ad 48))]) C0.x C0.b dX8_drift_104 rfl hl (by decide) rfl (fun ls hl => ?_)
      obtain ⟨n105, hV⟩ := hV
      exact lp_X8_drift_105   post C0  n105 _ _ hV _ _ hw _ (lv_sub hl [1, 0] rfl)
    · have hV := hV.2 c7
      refine lv_aload_n C0.x C0.b dX8_drift_42 rfl (lv_at hl 0 rfl) ?_
      refine r_get C0 hw (C := RX8) (T := TX8) (N := 33) (v := .ref (ad 51)) iw_X8_drift_X8 (lg_48 ad cI cJ X S) rfl 9 (by decide) (C0.ts _ fw_X8_drift_20) rfl dX8_drift_43 ?_
      refine lv_iconst (v := 3) C0.x C0.b dX8_drift_46 (by decide) ?_
      refine lv_iload_n C0.x C0.b dX8_drift_47 rfl (lv_at hl 1 rfl) ?_
      refine lv_imul C0.x C0.b dX8_drift_48 ?_
      refine r_lald C0 hw (lg_51 ad cI cJ X S) hV.1 dX8_drift_49 ?_
      have hV := hV.2
      refine lv_lstore_n (lv' := [(2, .long (gA S 32 ((3 : Int32) * v1).toNatClampNeg)), (0, .ref (ad 48)), (1, .int v1)]) C0.x C0.b dX8_drift_50 rfl hl (by decide) rfl (fun ls hl => ?_)
      refine lv_lload_n C0.x C0.b dX8_drift_51 rfl (lv_at hl 0 rfl) ?_
      refine lv_lconst (v := 0) C0.x C0.b dX8_drift_52 (by decide) ?_
      refine r_lcmp C0 dX8_drift_53 ?_
      refine lv_if_ne (tgt := 60) C0.x C0.b dX8_drift_54 (by decide) (fun c12 => ?_) (fun c12 => ?_)
      · have hV := hV.2 (fun h => c12 ((lc_eq _ _).mpr h))
        refine lv_aload_n C0.x C0.b dX8_drift_60 rfl (lv_at hl 1 rfl) ?_
        refine r_get C0 hw (C := RX8) (T := TX8) (N := 33) (v := .ref (ad 58)) iw_X8_drift_X8 (lg_48 ad cI cJ X S) rfl 26 (by decide) (C0.ts _ fw_X8_drift_42) rfl dX8_drift_61 ?_
        refine lv_lload_n C0.x C0.b dX8_drift_64 rfl (lv_at hl 0 rfl) ?_
        refine lv_lconst (v := 0) C0.x C0.b dX8_drift_65 (by decide) ?_
        refine r_lcmp C0 dX8_drift_66 ?_
        refine lv_if_ge (tgt := 75) C0.x C0.b dX8_drift_67 (by decide) (fun c13 => ?_) (fun c13 => ?_)
        · have hV := hV.1 ((lc_ge _ _).mp c13)
          refine lv_lload_n C0.x C0.b dX8_drift_75 rfl (lv_at hl 0 rfl) ?_
          refine r_cS_v (As := [.ref (ad 58), .long (gA S 32 ((3 : Int32) * v1).toNatClampNeg)]) (rest := []) C0 hw (c_X8_times (la_58 ad cI cJ X) hV) (va_cwS 2 C0.ts gX8_drift_X8_times rfl rfl rfl hd_X8_times ⟨Nat.le_of_ble_eq_true rfl, Nat.le_of_ble_eq_true rfl⟩) rfl hl.1 rfl (Nat.le_of_ble_eq_true rfl) ⟨Nat.le_of_ble_eq_true rfl, Nat.le_of_ble_eq_true rfl⟩ dX8_drift_76 (fun S15 H locs hV hw => ?_)
          refine lv_aload_n C0.x C0.b dX8_drift_79 rfl (lv_at hl 1 rfl) ?_
          refine r_get C0 hw (C := RX8) (T := TX8) (N := 33) (v := .ref (ad 59)) iw_X8_drift_X8 (lg_48 ad cI cJ X S15) rfl 27 (by decide) (C0.ts _ fw_X8_drift_45) rfl dX8_drift_80 ?_
          refine lv_aload_n C0.x C0.b dX8_drift_83 rfl (lv_at hl 1 rfl) ?_
          refine r_get C0 hw (C := RX8) (T := TX8) (N := 33) (v := .ref (ad 51)) iw_X8_drift_X8 (lg_48 ad cI cJ X S15) rfl 9 (by decide) (C0.ts _ fw_X8_drift_20) rfl dX8_drift_84 ?_
          refine lv_iconst (v := 3) C0.x C0.b dX8_drift_87 (by decide) ?_
          refine lv_iload_n C0.x C0.b dX8_drift_88 rfl (lv_at hl 2 rfl) ?_
          refine lv_imul C0.x C0.b dX8_drift_89 ?_
          refine lv_iconst (v := 2) C0.x C0.b dX8_drift_90 (by decide) ?_
          refine lv_iadd C0.x C0.b dX8_drift_91 ?_
          refine r_lald C0 hw (lg_51 ad cI cJ X S15) hV.1 dX8_drift_92 ?_
          have hV := hV.2
          refine r_cS_v (As := [.ref (ad 59), .long (gA S15 32 (((3 : Int32) * v1) + (2 : Int32)).toNatClampNeg)]) (rest := []) C0 hw (c_X8_times (la_59 ad cI cJ X) hV) (va_cwS 2 C0.ts gX8_drift_X8_times rfl rfl rfl hd_X8_times ⟨Nat.le_of_ble_eq_true rfl, Nat.le_of_ble_eq_true rfl⟩) rfl hl.1 rfl (Nat.le_of_ble_eq_true rfl) ⟨Nat.le_of_ble_eq_true rfl, Nat.le_of_ble_eq_true rfl⟩ dX8_drift_93 (fun S17 H locs hV hw => ?_)
          obtain ⟨x18, ex18⟩ : ∃ z : Int32, z = v1 + 1 := ⟨_, rfl⟩
          have hV := hV x18 ex18
          refine lv_iinc (v := x18) (lv' := [(1, .int x18), (2, .long (gA S 32 ((3 : Int32) * v1).toNatClampNeg)), (0, .ref (ad 48))]) C0.x C0.b dX8_drift_96 hl (k := 2) rfl (by rw [ex18]; rfl) (by decide) rfl (fun ls hl => ?_)
          refine lv_goto (tgt := 34) C0.x C0.b dX8_drift_99 (by decide) ?_
          exact ih _ _ hV _ _ hw _ (lv_sub hl [2, 0] rfl)
        · have hV := hV.2 (fun h => c13 ((lc_ge _ _).mpr h))
          refine lv_lload_n C0.x C0.b dX8_drift_70 rfl (lv_at hl 0 rfl) ?_
          refine lv_lneg C0.x C0.b dX8_drift_71 ?_
          refine lv_goto (tgt := 76) C0.x C0.b dX8_drift_72 (by decide) ?_
          refine r_cS_v (As := [.ref (ad 58), .long (-(gA S 32 ((3 : Int32) * v1).toNatClampNeg))]) (rest := []) C0 hw (c_X8_times (la_58 ad cI cJ X) hV) (va_cwS 2 C0.ts gX8_drift_X8_times rfl rfl rfl hd_X8_times ⟨Nat.le_of_ble_eq_true rfl, Nat.le_of_ble_eq_true rfl⟩) rfl hl.1 rfl (Nat.le_of_ble_eq_true rfl) ⟨Nat.le_of_ble_eq_true rfl, Nat.le_of_ble_eq_true rfl⟩ dX8_drift_76 (fun S20 H locs hV hw => ?_)
          refine lv_aload_n C0.x C0.b dX8_drift_79 rfl (lv_at hl 1 rfl) ?_
          refine r_get C0 hw (C := RX8) (T := TX8) (N := 33) (v := .ref (ad 59)) iw_X8_drift_X8 (lg_48 ad cI cJ X S20) rfl 27 (by decide) (C0.ts _ fw_X8_drift_45) rfl dX8_drift_80 ?_
          refine lv_aload_n C0.x C0.b dX8_drift_83 rfl (lv_at hl 1 rfl) ?_
          refine r_get C0 hw (C := RX8) (T := TX8) (N := 33) (v := .ref (ad 51)) iw_X8_drift_X8 (lg_48 ad cI cJ X S20) rfl 9 (by decide) (C0.ts _ fw_X8_drift_20) rfl dX8_drift_84 ?_
          refine lv_iconst (v := 3) C0.x C0.b dX8_drift_87 (by decide) ?_
          refine lv_iload_n C0.x C0.b dX8_drift_88 rfl (lv_at hl 2 rfl) ?_
          refine lv_imul C0.x C0.b dX8_drift_89 ?_
          refine lv_iconst (v := 2) C0.x C0.b dX8_drift_90 (by decide) ?_
          refine lv_iadd C0.x C0.b dX8_drift_91 ?_
          refine r_lald C0 hw (lg_51 ad cI cJ X S20) hV.1 dX8_drift_92 ?_
          have hV := hV.2
          refine r_cS_v (As := [.ref (ad 59), .long (gA S20 32 (((3 : Int32) * v1) + (2 : Int32)).toNatClampNeg)]) (rest := []) C0 hw (c_X8_times (la_59 ad cI cJ X) hV) (va_cwS 2 C0.ts gX8_drift_X8_times rfl rfl rfl hd_X8_times ⟨Nat.le_of_ble_eq_true rfl, Nat.le_of_ble_eq_true rfl⟩) rfl hl.1 rfl (Nat.le_of_ble_eq_true rfl) ⟨Nat.le_of_ble_eq_true rfl, Nat.le_of_ble_eq_true rfl⟩ dX8_drift_93 (fun S22 H locs hV hw => ?_)
          obtain ⟨x23, ex23⟩ : ∃ z : Int32, z = v1 + 1 := ⟨_, rfl⟩
          have hV := hV x23 ex23
          refine lv_iinc (v := x23) (lv' := [(1, .int x23), (2, .long (gA S 32 ((3 : Int32) * v1).toNatClampNeg)), (0, .ref (ad 48))]) C0.x C0.b dX8_drift_96 hl (k := 2) rfl (by rw [ex23]; rfl) (by decide) rfl (fun ls hl => ?_)
          refine lv_goto (tgt := 34) C0.x C0.b dX8_drift_99 (by decide) ?_
          exact ih _ _ hV _ _ hw _ (lv_sub hl [2, 0] rfl)
      · have hV := hV.1 ((lc_eq _ _).mp c12)
        refine lv_bipush (v := -2) C0.x C0.b dX8_drift_57 (by decide) ?_
        exact r_iret C0 rfl hw hV dX8_drift_59
def V_X8_drift   (S : SS) (post : Int32 → SS → Prop) : Prop :=
  (∀ S1 : SS, S1 = (sI S 20 (0 : Int32)) → (((gI S1 25) = (1 : Int32) → (V_X8_set 37 26 (1 : Int64) S1 (fun (S4 : SS) => (V_X8_set 38 26 (1 : Int64) S4 (fun (S6 : SS) => (∃ n34 : Nat, V_X8_drift_34    post n34 (0 : Int32) S6)))))) ∧ (¬ (gI S1 25) = (1 : Int32) → (post (-2 : Int32) S1))))
set_option maxHeartbeats 4000000 in
set_option maxRecDepth 100000 in
theorem c_X8_drift  {S : SS}  {post : Int32 → SS → Prop} (hV : V_X8_drift   S post) : MI l yX8_drift wsX8_drift rm_X8_drift [.ref (ad 48)] D n0 ad cI cJ X S post := by
  refine Met.ofW (cc := cX8_drift) (maxL := 4) (ret := (some .int)) (by decide) rfl ?_
  intro p e s m args below meth c s₁ B hml hv
  obtain ⟨rfl, hv⟩ := hv
  have C0 := Bd.mk B hml (atoms_spec (ws := wsX8_drift) B.pre) (findClass_of_methodNamed B.named) hv.1
  have hw : Wh D n0 ad cI cJ X S s s.heap [] := ⟨hv.2.1, hv.2.2, va_S.rf⟩
  refine r_entry (Nat.le_of_ble_eq_true rfl) (fun ls hl => ?_)
  have hl : lv_has ls 4 [(0, .ref (ad 48))] := hl
  unfold V_X8_drift at hV
  refine lv_aload_n C0.x C0.b dX8_drift_0 rfl (lv_at hl 0 rfl) ?_
  refine lv_iconst (v := 0) C0.x C0.b dX8_drift_1 (by decide) ?_
  refine r_put C0 hw (C := RX8) (T := TX8) (N := 33) (ty := .int) iw_X8_drift_X8 tyX8 tyX8_ok nmX8 (lg_48 ad cI cJ X S) rfl 0 (by decide) (C0.ts _ fw_X8_drift_61) rfl (by decide +kernel) rfl rfl (Nat.le_of_ble_eq_true rfl) dX8_drift_2 (S' := (sI S 20 (0 : Int32))) (ls_48_0 ad cI cJ X S (0 : Int32)) (fun S1 H locs eS1 hw => ?_)
  have hV := hV S1 eS1
  refine lv_aload_n C0.x C0.b dX8_drift_5 rfl (lv_at hl 0 rfl) ?_
  refine r_get C0 hw (C := RX8) (T := TX8) (N := 33) (v := .int (gI S1 25)) iw_X8_drift_X8 (lg_48 ad cI cJ X S1) rfl 7 (by decide) (C0.ts _ fw_X8_drift_108) rfl dX8_drift_6 ?_
  refine lv_iconst (v := 1) C0.x C0.b dX8_drift_9 (by decide) ?_
  refine lv_icmp_eq (tgt := 16) C0.x C0.b dX8_drift_10 (by decide) (fun c2 => ?_) (fun c2 => ?_)
  · have hV := hV.1 c2
    refine lv_aload_n C0.x C0.b dX8_drift_16 rfl (lv_at hl 0 rfl) ?_
    refine r_get C0 hw (C := RX8) (T := TX8) (N := 33) (v := .ref (ad 58)) iw_X8_drift_X8 (lg_48 ad cI cJ X S1) rfl 26 (by decide) (C0.ts _ fw_X8_drift_42) rfl dX8_drift_17 ?_
    refine lv_lconst (v := 1) C0.x C0.b dX8_drift_20 (by decide) ?_
    refine r_cS_v (As := [.ref (ad 58), .long (1 : Int64)]) (rest := []) C0 hw (c_X8_set (la_58 ad cI cJ X) hV) (va_cwS 2 C0.ts gX8_drift_X8_set rfl rfl rfl hd_X8_set ⟨Nat.le_of_ble_eq_true rfl, Nat.le_of_ble_eq_true rfl⟩) rfl hl.1 rfl (Nat.le_of_ble_eq_true rfl) ⟨Nat.le_of_ble_eq_true rfl, Nat.le_of_ble_eq_true rfl⟩ dX8_drift_21 (fun S4 H locs hV hw => ?_)
    refine lv_aload_n C0.x C0.b dX8_drift_24 rfl (lv_at hl 0 rfl) ?_
    refine r_get C0 hw (C := RX8) (T := TX8) (N := 33) (v := .ref (ad 59)) iw_X8_drift_X8 (lg_48 ad cI cJ X S4) rfl 27 (by decide) (C0.ts _ fw_X8_drift_45) rfl dX8_drift_25 ?_
    refine lv_lconst (v := 1) C0.x C0.b dX8_drift_28 (by decide) ?_
    refine r_cS_v (As := [.ref (ad 59), .long (1 : Int64)]) (rest := []) C0 hw (c_X8_set (la_59 ad cI cJ X) hV) (va_cwS 2 C0.ts gX8_drift_X8_set rfl rfl rfl hd_X8_set ⟨Nat.le_of_ble_eq_true rfl, Nat.le_of_ble_eq_true rfl⟩) rfl hl.1 rfl (Nat.le_of_ble_eq_true rfl) ⟨Nat.le_of_ble_eq_true rfl, Nat.le_of_ble_eq_true rfl⟩ dX8_drift_29 (fun S6 H locs hV hw => ?_)
    refine lv_iconst (v := 0) C0.x C0.b dX8_drift_32 (by decide) ?_
    refine lv_istore_n (lv' := [(1, .int (0 : Int32)), (0, .ref (ad 48))]) C0.x C0.b dX8_drift_33 rfl hl (by decide) rfl (fun ls hl => ?_)
    obtain ⟨n34, hV⟩ := hV
    exact lp_X8_drift_34   post C0  n34 _ _ hV _ _ hw _ (lv_sub hl [1, 0] rfl)
  · have hV := hV.2 c2
    refine lv_bipush (v := -2) C0.x C0.b dX8_drift_13 (by decide) ?_
    exact r_iret C0 rfl hw hV dX8_drift_15
/-! StepBenchModel.fixed()I -/
abbrev rm_X8_fixed : Room := { frames := 2, cells := 0, slots := 0, locals := 47 }
set_option maxRecDepth 20000 in
theorem fw_X8_fixed_61 : Cond.fieldLink RX8 61 "StepBenchModel" "thrown" "I" ∈ wsX8_fixed := by decide +kernel
set_option maxRecDepth 20000 in
theorem iw_X8_fixed_X8 : ∀ w ∈ wsX80, w ∈ wsX8_fixed := by decide +kernel
set_option maxRecDepth 20000 in
theorem fw_X8_fixed_108 : Cond.fieldLink RX8 108 "StepBenchModel" "sort" "I" ∈ wsX8_fixed := by decide +kernel
set_option maxRecDepth 20000 in
theorem fw_X8_fixed_105 : Cond.fieldLink RX8 105 "StepBenchModel" "m" "I" ∈ wsX8_fixed := by decide +kernel
set_option maxRecDepth 20000 in
theorem fw_X8_fixed_20 : Cond.fieldLink RX8 20 "StepBenchModel" "rule" "[J" ∈ wsX8_fixed := by decide +kernel
set_option maxRecDepth 20000 in
theorem fw_X8_fixed_32 : Cond.fieldLink RX8 32 "StepBenchModel" "found" "[J" ∈ wsX8_fixed := by decide +kernel
set_option maxRecDepth 20000 in
theorem hd_X8_fixed : yX8_fixed.cls = RX8 ∧ yX8_fixed.cls ≠ "java/lang/invoke/MethodHandle" ∧ yX8_fixed.cls ≠ "java/lang/invoke/VarHandle" ∧ (parseMethodDescriptor yX8_fixed.desc).map (fun d => d.parameters.length) = some 0 := by decide +kernel
def V_X8_fixed_19    (post : Int32 → SS → Prop) : Nat → Int32 → Int32 → SS → Prop
  | 0, _, _, _ => False
  | n + 1, v1, v2, S =>
    (((gI S 26) ≤ v2 → (V_X8_ascend v1 S (fun (S5 : SS) => (V_X8_tells v1 S5 (fun (S7 : SS) => (post v1 S7)))))) ∧ (¬ (gI S 26) ≤ v2 → (vp_in (((3 : Int32) * v2) + (2 : Int32)) 192 ∧ (vp_in ((3 : Int32) * v2) 192 ∧ (∀ y8 : Int64, y8 = ((gA S 32 (((3 : Int32) * v2) + (2 : Int32)).toNatClampNeg) - (gA S 32 ((3 : Int32) * v2).toNatClampNeg)) → (vp_in (((3 : Int32) * v2) + (1 : Int32)) 192 ∧ ((y8 = (0 : Int64) → (∀ x10 : Int32, x10 = v2 + 1 → (V_X8_fixed_19    post n v1 x10 S))) ∧ (¬ y8 = (0 : Int64) → (¬ y8 = 0 ∧ (((lrm (gA S 32 (((3 : Int32) * v2) + (1 : Int32)).toNatClampNeg) y8) = (0 : Int64) → (¬ y8 = 0 ∧ (V_X8_restBy ((gA S 32 (((3 : Int32) * v2) + (1 : Int32)).toNatClampNeg) / y8) (gI S 26) S (fun (r12 : Int64) (S13 : SS) => ((r12 = v2.toInt64 → (¬ y8 = 0 ∧ (vp_in v1 20000 ∧ ∀ S15 : SS, S15 = (sA S13 36 (vp_updL (gA S13 36) v1.toNatClampNeg ((gA S 32 (((3 : Int32) * v2) + (1 : Int32)).toNatClampNeg) / y8))) → (∀ x16 : Int32, x16 = v1 + 1 → (∀ x17 : Int32, x17 = v2 + 1 → (V_X8_fixed_19    post n x16 x17 S15)))))) ∧ (¬ r12 = v2.toInt64 → (∀ x18 : Int32, x18 = v2 + 1 → (V_X8_fixed_19    post n v1 x18 S13)))))))) ∧ (¬ (lrm (gA S 32 (((3 : Int32) * v2) + (1 : Int32)).toNatClampNeg) y8) = (0 : Int64) → (∀ x19 : Int32, x19 = v2 + 1 → (V_X8_fixed_19    post n v1 x19 S)))))))))))))
set_option maxHeartbeats 4000000 in
set_option maxRecDepth 100000 in
theorem lp_X8_fixed_19    (post : Int32 → SS → Prop) (C0 : Bd p s m meth c args cX8_fixed 7 (some .int) wsX8_fixed RX8 D n0 cI cJ) : ∀ (n : Nat) (v1 : Int32) (v2 : Int32) (S : SS), V_X8_fixed_19    post n v1 v2 S → ∀ (H : Heap) (locs : List Loc), Wh D n0 ad cI cJ X S s H locs → ∀ ls : Array Slot, lv_has ls 7 [(0, .ref (ad 48)), (1, .int v1), (2, .int v2)] → W p l e rm_X8_fixed s m args below meth c H locs 0 0 (MQ below (va_Qi post (fun S' t => Wd D n0 ad cI cJ X S' t) (fr n0)) args s 0 0 (fr n0)) (F0 m 19 ls []) := by
  intro n
  induction n with
  | zero => intro v1 v2 S hV; exact False.elim hV
  | succ n ih =>
    intro v1 v2 S hV H locs hw ls hl
    rw [V_X8_fixed_19] at hV
    refine lv_iload_n C0.x C0.b dX8_fixed_19 rfl (lv_at hl 2 rfl) ?_
    refine lv_aload_n C0.x C0.b dX8_fixed_20 rfl (lv_at hl 0 rfl) ?_
    refine r_get C0 hw (C := RX8) (T := TX8) (N := 33) (v := .int (gI S 26)) iw_X8_fixed_X8 (lg_48 ad cI cJ X S) rfl 8 (by decide) (C0.ts _ fw_X8_fixed_105) rfl dX8_fixed_21 ?_
    refine lv_icmp_ge (tgt := 110) C0.x C0.b dX8_fixed_24 (by decide) (fun c3 => ?_) (fun c3 => ?_)
    · have hV := hV.1 c3
      refine lv_aload_n C0.x C0.b dX8_fixed_110 rfl (lv_at hl 0 rfl) ?_
      refine lv_iload_n C0.x C0.b dX8_fixed_111 rfl (lv_at hl 1 rfl) ?_
      refine r_cV_v (As := [.int v1]) (rest := []) C0 hw (c_X8_ascend  hV) (cwV 1 C0.ts gX8_fixed_X8_ascend rfl rfl rfl hd_X8_ascend ⟨Nat.le_of_ble_eq_true rfl, Nat.le_of_ble_eq_true rfl⟩) (lg_48 ad cI cJ X S) rfl rfl hl.1 rfl (Nat.le_of_ble_eq_true rfl) ⟨Nat.le_of_ble_eq_true rfl, Nat.le_of_ble_eq_true rfl⟩ dX8_fixed_112 (fun S5 H locs hV hw => ?_)
      refine lv_aload_n C0.x C0.b dX8_fixed_115 rfl (lv_at hl 0 rfl) ?_
      refine lv_iload_n C0.x C0.b dX8_fixed_116 rfl (lv_at hl 1 rfl) ?_
      refine r_cV_v (As := [.int v1]) (rest := []) C0 hw (c_X8_tells  hV) (cwV 1 C0.ts gX8_fixed_X8_tells rfl rfl rfl hd_X8_tells ⟨Nat.le_of_ble_eq_true rfl, Nat.le_of_ble_eq_true rfl⟩) (lg_48 ad cI cJ X S5) rfl rfl hl.1 rfl (Nat.le_of_ble_eq_true rfl) ⟨Nat.le_of_ble_eq_true rfl, Nat.le_of_ble_eq_true rfl⟩ dX8_fixed_117 (fun S7 H locs hV hw => ?_)
      refine lv_iload_n C0.x C0.b dX8_fixed_120 rfl (lv_at hl 1 rfl) ?_
      exact r_iret C0 rfl hw hV dX8_fixed_121
    · have hV := hV.2 c3
      refine lv_aload_n C0.x C0.b dX8_fixed_27 rfl (lv_at hl 0 rfl) ?_
      refine r_get C0 hw (C := RX8) (T := TX8) (N := 33) (v := .ref (ad 51)) iw_X8_fixed_X8 (lg_48 ad cI cJ X S) rfl 9 (by decide) (C0.ts _ fw_X8_fixed_20) rfl dX8_fixed_28 ?_
      refine lv_iconst (v := 3) C0.x C0.b dX8_fixed_31 (by decide) ?_
      refine lv_iload_n C0.x C0.b dX8_fixed_32 rfl (lv_at hl 2 rfl) ?_
      refine lv_imul C0.x C0.b dX8_fixed_33 ?_
      refine lv_iconst (v := 2) C0.x C0.b dX8_fixed_34 (by decide) ?_
      refine lv_iadd C0.x C0.b dX8_fixed_35 ?_
      refine r_lald C0 hw (lg_51 ad cI cJ X S) hV.1 dX8_fixed_36 ?_
      have hV := hV.2
      refine lv_aload_n C0.x C0.b dX8_fixed_37 rfl (lv_at hl 0 rfl) ?_
      refine r_get C0 hw (C := RX8) (T := TX8) (N := 33) (v := .ref (ad 51)) iw_X8_fixed_X8 (lg_48 ad cI cJ X S) rfl 9 (by decide) (C0.ts _ fw_X8_fixed_20) rfl dX8_fixed_38 ?_
      refine lv_iconst (v := 3) C0.x C0.b dX8_fixed_41 (by decide) ?_
      refine lv_iload_n C0.x C0.b dX8_fixed_42 rfl (lv_at hl 2 rfl) ?_
      refine lv_imul C0.x C0.b dX8_fixed_43 ?_
      refine r_lald C0 hw (lg_51 ad cI cJ X S) hV.1 dX8_fixed_44 ?_
      have hV := hV.2
      refine lv_lsub C0.x C0.b dX8_fixed_45 ?_
      refine lv_topl (fun y8 ey8 => ?_)
      have hV := hV y8 ey8
      refine lv_lstore_n (lv' := [(3, .long y8), (0, .ref (ad 48)), (1, .int v1), (2, .int v2)]) C0.x C0.b dX8_fixed_46 rfl hl (by decide) rfl (fun ls hl => ?_)
      refine lv_aload_n C0.x C0.b dX8_fixed_47 rfl (lv_at hl 1 rfl) ?_
      refine r_get C0 hw (C := RX8) (T := TX8) (N := 33) (v := .ref (ad 51)) iw_X8_fixed_X8 (lg_48 ad cI cJ X S) rfl 9 (by decide) (C0.ts _ fw_X8_fixed_20) rfl dX8_fixed_48 ?_
      refine lv_iconst (v := 3) C0.x C0.b dX8_fixed_51 (by decide) ?_
      refine lv_iload_n C0.x C0.b dX8_fixed_52 rfl (lv_at hl 3 rfl) ?_
      refine lv_imul C0.x C0.b dX8_fixed_53 ?_
      refine lv_iconst (v := 1) C0.x C0.b dX8_fixed_54 (by decide) ?_
      refine lv_iadd C0.x C0.b dX8_fixed_55 ?_
      refine r_lald C0 hw (lg_51 ad cI cJ X S) hV.1 dX8_fixed_56 ?_
      have hV := hV.2
      refine lv_lstore (lv' := [(5, .long (gA S 32 (((3 : Int32) * v2) + (1 : Int32)).toNatClampNeg)), (3, .long y8), (0, .ref (ad 48)), (1, .int v1), (2, .int v2)]) C0.x C0.b dX8_fixed_57 hl (by decide) rfl (fun ls hl => ?_)
      refine lv_lload_n C0.x C0.b dX8_fixed_59 rfl (lv_at hl 1 rfl) ?_
      refine lv_lconst (v := 0) C0.x C0.b dX8_fixed_60 (by decide) ?_
      refine r_lcmp C0 dX8_fixed_61 ?_
      refine lv_if_eq (tgt := 104) C0.x C0.b dX8_fixed_62 (by decide) (fun c9 => ?_) (fun c9 => ?_)
      · have hV := hV.1 ((lc_eq _ _).mp c9)
        obtain ⟨x10, ex10⟩ : ∃ z : Int32, z = v2 + 1 := ⟨_, rfl⟩
        have hV := hV x10 ex10
        refine lv_iinc (v := x10) (lv' := [(2, .int x10), (5, .long (gA S 32 (((3 : Int32) * v2) + (1 : Int32)).toNatClampNeg)), (3, .long y8), (0, .ref (ad 48)), (1, .int v1)]) C0.x C0.b dX8_fixed_104 hl (k := 4) rfl (by rw [ex10]; rfl) (by decide) rfl (fun ls hl => ?_)
        refine lv_goto (tgt := 19) C0.x C0.b dX8_fixed_107 (by decide) ?_
        exact ih _ _ _ hV _ _ hw _ (lv_sub hl [3, 4, 0] rfl)
      · have hV := hV.2 (fun h => c9 ((lc_eq _ _).mpr h))
        refine lv_lload C0.x C0.b dX8_fixed_65 (lv_at hl 0 rfl) ?_
        refine lv_lload_n C0.x C0.b dX8_fixed_67 rfl (lv_at hl 1 rfl) ?_
        refine lv_lrem C0.x C0.b dX8_fixed_68 hV.1 ?_
        have hV := hV.2
        refine lv_lconst (v := 0) C0.x C0.b dX8_fixed_69 (by decide) ?_
        refine r_lcmp C0 dX8_fixed_70 ?_
        refine lv_if_ne (tgt := 104) C0.x C0.b dX8_fixed_71 (by decide) (fun c11 => ?_) (fun c11 => ?_)
        · have hV := hV.2 (fun h => c11 ((lc_eq _ _).mpr h))
          obtain ⟨x19, ex19⟩ : ∃ z : Int32, z = v2 + 1 := ⟨_, rfl⟩
          have hV := hV x19 ex19
          refine lv_iinc (v := x19) (lv' := [(2, .int x19), (5, .long (gA S 32 (((3 : Int32) * v2) + (1 : Int32)).toNatClampNeg)), (3, .long y8), (0, .ref (ad 48)), (1, .int v1)]) C0.x C0.b dX8_fixed_104 hl (k := 4) rfl (by rw [ex19]; rfl) (by decide) rfl (fun ls hl => ?_)
          refine lv_goto (tgt := 19) C0.x C0.b dX8_fixed_107 (by decide) ?_
          exact ih _ _ _ hV _ _ hw _ (lv_sub hl [3, 4, 0] rfl)
        · have hV := hV.1 ((lc_eq _ _).mp c11)
          refine lv_lload C0.x C0.b dX8_fixed_74 (lv_at hl 0 rfl) ?_
          refine lv_lload_n C0.x C0.b dX8_fixed_76 rfl (lv_at hl 1 rfl) ?_
          refine lv_ldiv C0.x C0.b dX8_fixed_77 hV.1 ?_
          have hV := hV.2
          refine lv_aload_n C0.x C0.b dX8_fixed_78 rfl (lv_at hl 2 rfl) ?_
          refine r_get C0 hw (C := RX8) (T := TX8) (N := 33) (v := .int (gI S 26)) iw_X8_fixed_X8 (lg_48 ad cI cJ X S) rfl 8 (by decide) (C0.ts _ fw_X8_fixed_105) rfl dX8_fixed_79 ?_
          refine r_cS_l (As := [.long ((gA S 32 (((3 : Int32) * v2) + (1 : Int32)).toNatClampNeg) / y8), .int (gI S 26)]) (rest := []) C0 hw (c_X8_restBy  hV) (va_cwS 2 C0.ts gX8_fixed_X8_restBy rfl rfl rfl hd_X8_restBy ⟨Nat.le_of_ble_eq_true rfl, Nat.le_of_ble_eq_true rfl⟩) rfl hl.1 rfl (Nat.le_of_ble_eq_true rfl) ⟨Nat.le_of_ble_eq_true rfl, Nat.le_of_ble_eq_true rfl⟩ dX8_fixed_82 (fun r12 S13 H locs hV hw => ?_)
          refine lv_iload_n C0.x C0.b dX8_fixed_85 rfl (lv_at hl 4 rfl) ?_
          refine lv_i2l C0.x C0.b dX8_fixed_86 rfl ?_
          refine r_lcmp C0 dX8_fixed_87 ?_
          refine lv_if_ne (tgt := 104) C0.x C0.b dX8_fixed_88 (by decide) (fun c14 => ?_) (fun c14 => ?_)
          · have hV := hV.2 (fun h => c14 ((lc_eq _ _).mpr h))
            obtain ⟨x18, ex18⟩ : ∃ z : Int32, z = v2 + 1 := ⟨_, rfl⟩
            have hV := hV x18 ex18
            refine lv_iinc (v := x18) (lv' := [(2, .int x18), (5, .long (gA S 32 (((3 : Int32) * v2) + (1 : Int32)).toNatClampNeg)), (3, .long y8), (0, .ref (ad 48)), (1, .int v1)]) C0.x C0.b dX8_fixed_104 hl (k := 4) rfl (by rw [ex18]; rfl) (by decide) rfl (fun ls hl => ?_)
            refine lv_goto (tgt := 19) C0.x C0.b dX8_fixed_107 (by decide) ?_
            exact ih _ _ _ hV _ _ hw _ (lv_sub hl [3, 4, 0] rfl)
          · have hV := hV.1 ((lc_eq _ _).mp c14)
            refine lv_aload_n C0.x C0.b dX8_fixed_91 rfl (lv_at hl 2 rfl) ?_
            refine r_get C0 hw (C := RX8) (T := TX8) (N := 33) (v := .ref (ad 55)) iw_X8_fixed_X8 (lg_48 ad cI cJ X S13) rfl 16 (by decide) (C0.ts _ fw_X8_fixed_32) rfl dX8_fixed_92 ?_
            refine lv_iload_n C0.x C0.b dX8_fixed_95 rfl (lv_at hl 3 rfl) ?_
            refine lv_lload C0.x C0.b dX8_fixed_96 (lv_at hl 0 rfl) ?_
            refine lv_lload_n C0.x C0.b dX8_fixed_98 rfl (lv_at hl 1 rfl) ?_
            refine lv_ldiv C0.x C0.b dX8_fixed_99 hV.1 ?_
            have hV := hV.2
            refine r_last C0 hw (lg_55 ad cI cJ X S13) hV.1 dX8_fixed_100 (S' := (sA S13 36 (vp_updL (gA S13 36) v1.toNatClampNeg ((gA S 32 (((3 : Int32) * v2) + (1 : Int32)).toNatClampNeg) / y8)))) (ls_55 ad cI cJ X S13 (vp_updL (gA S13 36) v1.toNatClampNeg ((gA S 32 (((3 : Int32) * v2) + (1 : Int32)).toNatClampNeg) / y8))) (fun S15 H locs eS15 hw => ?_)
            have hV := hV.2 S15 eS15
            obtain ⟨x16, ex16⟩ : ∃ z : Int32, z = v1 + 1 := ⟨_, rfl⟩
            have hV := hV x16 ex16
            refine lv_iinc (v := x16) (lv' := [(1, .int x16), (5, .long (gA S 32 (((3 : Int32) * v2) + (1 : Int32)).toNatClampNeg)), (3, .long y8), (0, .ref (ad 48)), (2, .int v2)]) C0.x C0.b dX8_fixed_101 hl (k := 3) rfl (by rw [ex16]; rfl) (by decide) rfl (fun ls hl => ?_)
            obtain ⟨x17, ex17⟩ : ∃ z : Int32, z = v2 + 1 := ⟨_, rfl⟩
            have hV := hV x17 ex17
            refine lv_iinc (v := x17) (lv' := [(2, .int x17), (1, .int x16), (5, .long (gA S 32 (((3 : Int32) * v2) + (1 : Int32)).toNatClampNeg)), (3, .long y8), (0, .ref (ad 48))]) C0.x C0.b dX8_fixed_104 hl (k := 4) rfl (by rw [ex17]; rfl) (by decide) rfl (fun ls hl => ?_)
            refine lv_goto (tgt := 19) C0.x C0.b dX8_fixed_107 (by decide) ?_
            exact ih _ _ _ hV _ _ hw _ (lv_sub hl [4, 1, 0] rfl)
def V_X8_fixed   (S : SS) (post : Int32 → SS → Prop) : Prop :=
  (∀ S1 : SS, S1 = (sI S 20 (0 : Int32)) → (((gI S1 25) = (1 : Int32) → (∃ n19 : Nat, V_X8_fixed_19    post n19 (0 : Int32) (0 : Int32) S1)) ∧ (¬ (gI S1 25) = (1 : Int32) → (post (-1 : Int32) S1))))
set_option maxHeartbeats 4000000 in
set_option maxRecDepth 100000 in
theorem c_X8_fixed  {S : SS}  {post : Int32 → SS → Prop} (hV : V_X8_fixed   S post) : MI l yX8_fixed wsX8_fixed rm_X8_fixed [.ref (ad 48)] D n0 ad cI cJ X S post := by
  refine Met.ofW (cc := cX8_fixed) (maxL := 7) (ret := (some .int)) (by decide) rfl ?_
  intro p e s m args below meth c s₁ B hml hv
  obtain ⟨rfl, hv⟩ := hv
  have C0 := Bd.mk B hml (atoms_spec (ws := wsX8_fixed) B.pre) (findClass_of_methodNamed B.named) hv.1
  have hw : Wh D n0 ad cI cJ X S s s.heap [] := ⟨hv.2.1, hv.2.2, va_S.rf⟩
  refine r_entry (Nat.le_of_ble_eq_true rfl) (fun ls hl => ?_)
  have hl : lv_has ls 7 [(0, .ref (ad 48))] := hl
  unfold V_X8_fixed at hV
  refine lv_aload_n C0.x C0.b dX8_fixed_0 rfl (lv_at hl 0 rfl) ?_
  refine lv_iconst (v := 0) C0.x C0.b dX8_fixed_1 (by decide) ?_
  refine r_put C0 hw (C := RX8) (T := TX8) (N := 33) (ty := .int) iw_X8_fixed_X8 tyX8 tyX8_ok nmX8 (lg_48 ad cI cJ X S) rfl 0 (by decide) (C0.ts _ fw_X8_fixed_61) rfl (by decide +kernel) rfl rfl (Nat.le_of_ble_eq_true rfl) dX8_fixed_2 (S' := (sI S 20 (0 : Int32))) (ls_48_0 ad cI cJ X S (0 : Int32)) (fun S1 H locs eS1 hw => ?_)
  have hV := hV S1 eS1
  refine lv_aload_n C0.x C0.b dX8_fixed_5 rfl (lv_at hl 0 rfl) ?_
  refine r_get C0 hw (C := RX8) (T := TX8) (N := 33) (v := .int (gI S1 25)) iw_X8_fixed_X8 (lg_48 ad cI cJ X S1) rfl 7 (by decide) (C0.ts _ fw_X8_fixed_108) rfl dX8_fixed_6 ?_
  refine lv_iconst (v := 1) C0.x C0.b dX8_fixed_9 (by decide) ?_
  refine lv_icmp_eq (tgt := 15) C0.x C0.b dX8_fixed_10 (by decide) (fun c2 => ?_) (fun c2 => ?_)
  · have hV := hV.1 c2
    refine lv_iconst (v := 0) C0.x C0.b dX8_fixed_15 (by decide) ?_
    refine lv_istore_n (lv' := [(1, .int (0 : Int32)), (0, .ref (ad 48))]) C0.x C0.b dX8_fixed_16 rfl hl (by decide) rfl (fun ls hl => ?_)
    refine lv_iconst (v := 0) C0.x C0.b dX8_fixed_17 (by decide) ?_
    refine lv_istore_n (lv' := [(2, .int (0 : Int32)), (1, .int (0 : Int32)), (0, .ref (ad 48))]) C0.x C0.b dX8_fixed_18 rfl hl (by decide) rfl (fun ls hl => ?_)
    obtain ⟨n19, hV⟩ := hV
    exact lp_X8_fixed_19   post C0  n19 _ _ _ hV _ _ hw _ (lv_sub hl [2, 1, 0] rfl)
  · have hV := hV.2 c2
    refine lv_iconst (v := -1) C0.x C0.b dX8_fixed_13 (by decide) ?_
    exact r_iret C0 rfl hw hV dX8_fixed_14
/-! StepBenchModel.act(IIII)I -/
abbrev rm_X8_act : Room := { frames := 1, cells := 0, slots := 0, locals := 25 }
set_option maxRecDepth 20000 in
theorem fw_X8_act_61 : Cond.fieldLink RX8 61 "StepBenchModel" "thrown" "I" ∈ wsX8_act := by decide +kernel
set_option maxRecDepth 20000 in
theorem iw_X8_act_X8 : ∀ w ∈ wsX80, w ∈ wsX8_act := by decide +kernel
set_option maxRecDepth 20000 in
theorem cw_X8_act_72 : Cond.constantLong RX8 72 2 ∈ wsX8_act := by decide +kernel
set_option maxRecDepth 20000 in
theorem cw_X8_act_247 : Cond.constantLong RX8 247 11 ∈ wsX8_act := by decide +kernel
set_option maxRecDepth 20000 in
theorem fw_X8_act_130 : Cond.fieldLink RX8 130 "StepBenchModel" "acts" "I" ∈ wsX8_act := by decide +kernel
set_option maxRecDepth 20000 in
theorem fw_X8_act_58 : Cond.fieldLink RX8 58 "StepBenchModel" "act" "[I" ∈ wsX8_act := by decide +kernel
set_option maxRecDepth 20000 in
theorem cw_X8_act_83 : Cond.constantLong RX8 83 3 ∈ wsX8_act := by decide +kernel
set_option maxRecDepth 20000 in
theorem hd_X8_act : yX8_act.cls = RX8 ∧ yX8_act.cls ≠ "java/lang/invoke/MethodHandle" ∧ yX8_act.cls ≠ "java/lang/invoke/VarHandle" ∧ (parseMethodDescriptor yX8_act.desc).map (fun d => d.parameters.length) = some 4 := by decide +kernel
def V_X8_act  (p0 : Int32) (p1 : Int32) (p2 : Int32) (p3 : Int32) (S : SS) (post : Int32 → SS → Prop) : Prop :=
  (∀ S1 : SS, S1 = (sI S 20 (0 : Int32)) → (V_X8_in p0.toInt64 (0 : Int64) (2 : Int64) S1 (fun (r2 : Int32) (S3 : SS) => ((r2 = 0 → (post (-1 : Int32) S3)) ∧ (¬ r2 = 0 → ((p0 = (2 : Int32) → ((p0 = (1 : Int32) → (V_X8_in p3.toInt64 (0 : Int64) (11 : Int64) S3 (fun (r8 : Int32) (S9 : SS) => ((r8 = 0 → (post (-1 : Int32) S9)) ∧ (¬ r8 = 0 → (((12 : Int32) ≤ (gI S9 31) → (post (-1 : Int32) S9)) ∧ (¬ (12 : Int32) ≤ (gI S9 31) → (vp_in ((4 : Int32) * (gI S9 31)) 48 ∧ ∀ S15 : SS, S15 = (sB S9 3 (upd (gB S9 3) ((4 : Int32) * (gI S9 31)).toNatClampNeg p0)) → (vp_in (((4 : Int32) * (gI S15 31)) + (1 : Int32)) 48 ∧ ∀ S16 : SS, S16 = (sB S15 3 (upd (gB S15 3) (((4 : Int32) * (gI S15 31)) + (1 : Int32)).toNatClampNeg p1)) → (vp_in (((4 : Int32) * (gI S16 31)) + (2 : Int32)) 48 ∧ ∀ S17 : SS, S17 = (sB S16 3 (upd (gB S16 3) (((4 : Int32) * (gI S16 31)) + (2 : Int32)).toNatClampNeg p2)) → (vp_in (((4 : Int32) * (gI S17 31)) + (3 : Int32)) 48 ∧ ∀ S18 : SS, S18 = (sB S17 3 (upd (gB S17 3) (((4 : Int32) * (gI S17 31)) + (3 : Int32)).toNatClampNeg p3)) → (∀ S19 : SS, S19 = (sI S18 31 ((gI S18 31) + (1 : Int32))) → (post ((gI S19 31) - (1 : Int32)) S19))))))))))))) ∧ (¬ p0 = (1 : Int32) → (((12 : Int32) ≤ (gI S3 31) → (post (-1 : Int32) S3)) ∧ (¬ (12 : Int32) ≤ (gI S3 31) → (vp_in ((4 : Int32) * (gI S3 31)) 48 ∧ ∀ S23 : SS, S23 = (sB S3 3 (upd (gB S3 3) ((4 : Int32) * (gI S3 31)).toNatClampNeg p0)) → (vp_in (((4 : Int32) * (gI S23 31)) + (1 : Int32)) 48 ∧ ∀ S24 : SS, S24 = (sB S23 3 (upd (gB S23 3) (((4 : Int32) * (gI S23 31)) + (1 : Int32)).toNatClampNeg p1)) → (vp_in (((4 : Int32) * (gI S24 31)) + (2 : Int32)) 48 ∧ ∀ S25 : SS, S25 = (sB S24 3 (upd (gB S24 3) (((4 : Int32) * (gI S24 31)) + (2 : Int32)).toNatClampNeg p2)) → (vp_in (((4 : Int32) * (gI S25 31)) + (3 : Int32)) 48 ∧ ∀ S26 : SS, S26 = (sB S25 3 (upd (gB S25 3) (((4 : Int32) * (gI S25 31)) + (3 : Int32)).toNatClampNeg p3)) → (∀ S27 : SS, S27 = (sI S26 31 ((gI S26 31) + (1 : Int32))) → (post ((gI S27 31) - (1 : Int32)) S27))))))))))) ∧ (¬ p0 = (2 : Int32) → (V_X8_in p1.toInt64 (0 : Int64) (3 : Int64) S3 (fun (r28 : Int32) (S29 : SS) => ((r28 = 0 → (post (-1 : Int32) S29)) ∧ (¬ r28 = 0 → (V_X8_in p2.toInt64 (0 : Int64) (11 : Int64) S29 (fun (r32 : Int32) (S33 : SS) => ((r32 = 0 → (post (-1 : Int32) S33)) ∧ (¬ r32 = 0 → ((p0 = (1 : Int32) → (V_X8_in p3.toInt64 (0 : Int64) (11 : Int64) S33 (fun (r37 : Int32) (S38 : SS) => ((r37 = 0 → (post (-1 : Int32) S38)) ∧ (¬ r37 = 0 → (((12 : Int32) ≤ (gI S38 31) → (post (-1 : Int32) S38)) ∧ (¬ (12 : Int32) ≤ (gI S38 31) → (vp_in ((4 : Int32) * (gI S38 31)) 48 ∧ ∀ S44 : SS, S44 = (sB S38 3 (upd (gB S38 3) ((4 : Int32) * (gI S38 31)).toNatClampNeg p0)) → (vp_in (((4 : Int32) * (gI S44 31)) + (1 : Int32)) 48 ∧ ∀ S45 : SS, S45 = (sB S44 3 (upd (gB S44 3) (((4 : Int32) * (gI S44 31)) + (1 : Int32)).toNatClampNeg p1)) → (vp_in (((4 : Int32) * (gI S45 31)) + (2 : Int32)) 48 ∧ ∀ S46 : SS, S46 = (sB S45 3 (upd (gB S45 3) (((4 : Int32) * (gI S45 31)) + (2 : Int32)).toNatClampNeg p2)) → (vp_in (((4 : Int32) * (gI S46 31)) + (3 : Int32)) 48 ∧ ∀ S47 : SS, S47 = (sB S46 3 (upd (gB S46 3) (((4 : Int32) * (gI S46 31)) + (3 : Int32)).toNatClampNeg p3)) → (∀ S48 : SS, S48 = (sI S47 31 ((gI S47 31) + (1 : Int32))) → (post ((gI S48 31) - (1 : Int32)) S48))))))))))))) ∧ (¬ p0 = (1 : Int32) → (((12 : Int32) ≤ (gI S33 31) → (post (-1 : Int32) S33)) ∧ (¬ (12 : Int32) ≤ (gI S33 31) → (vp_in ((4 : Int32) * (gI S33 31)) 48 ∧ ∀ S52 : SS, S52 = (sB S33 3 (upd (gB S33 3) ((4 : Int32) * (gI S33 31)).toNatClampNeg p0)) → (vp_in (((4 : Int32) * (gI S52 31)) + (1 : Int32)) 48 ∧ ∀ S53 : SS, S53 = (sB S52 3 (upd (gB S52 3) (((4 : Int32) * (gI S52 31)) + (1 : Int32)).toNatClampNeg p1)) → (vp_in (((4 : Int32) * (gI S53 31)) + (2 : Int32)) 48 ∧ ∀ S54 : SS, S54 = (sB S53 3 (upd (gB S53 3) (((4 : Int32) * (gI S53 31)) + (2 : Int32)).toNatClampNeg p2)) → (vp_in (((4 : Int32) * (gI S54 31)) + (3 : Int32)) 48 ∧ ∀ S55 : SS, S55 = (sB S54 3 (upd (gB S54 3) (((4 : Int32) * (gI S54 31)) + (3 : Int32)).toNatClampNeg p3)) → (∀ S56 : SS, S56 = (sI S55 31 ((gI S55 31) + (1 : Int32))) → (post ((gI S56 31) - (1 : Int32)) S56)))))))))))))))))))))))))
set_option maxHeartbeats 4000000 in
set_option maxRecDepth 100000 in
theorem c_X8_act  {S : SS} {p0 : Int32} {p1 : Int32} {p2 : Int32} {p3 : Int32} {post : Int32 → SS → Prop} (hV : V_X8_act  p0 p1 p2 p3 S post) : MI l yX8_act wsX8_act rm_X8_act [.ref (ad 48), .int p0, .int p1, .int p2, .int p3] D n0 ad cI cJ X S post := by
  refine Met.ofW (cc := cX8_act) (maxL := 6) (ret := (some .int)) (by decide) rfl ?_
  intro p e s m args below meth c s₁ B hml hv
  obtain ⟨rfl, hv⟩ := hv
  have C0 := Bd.mk B hml (atoms_spec (ws := wsX8_act) B.pre) (findClass_of_methodNamed B.named) hv.1
  have hw : Wh D n0 ad cI cJ X S s s.heap [] := ⟨hv.2.1, hv.2.2, va_S.rf⟩
  refine r_entry (Nat.le_of_ble_eq_true rfl) (fun ls hl => ?_)
  have hl : lv_has ls 6 [(0, .ref (ad 48)), (1, .int p0), (2, .int p1), (3, .int p2), (4, .int p3)] := hl
  unfold V_X8_act at hV
  refine lv_aload_n C0.x C0.b dX8_act_0 rfl (lv_at hl 0 rfl) ?_
  refine lv_iconst (v := 0) C0.x C0.b dX8_act_1 (by decide) ?_
  refine r_put C0 hw (C := RX8) (T := TX8) (N := 33) (ty := .int) iw_X8_act_X8 tyX8 tyX8_ok nmX8 (lg_48 ad cI cJ X S) rfl 0 (by decide) (C0.ts _ fw_X8_act_61) rfl (by decide +kernel) rfl rfl (Nat.le_of_ble_eq_true rfl) dX8_act_2 (S' := (sI S 20 (0 : Int32))) (ls_48_0 ad cI cJ X S (0 : Int32)) (fun S1 H locs eS1 hw => ?_)
  have hV := hV S1 eS1
  refine lv_iload_n C0.x C0.b dX8_act_5 rfl (lv_at hl 1 rfl) ?_
  refine lv_i2l C0.x C0.b dX8_act_6 rfl ?_
  refine lv_lconst (v := 0) C0.x C0.b dX8_act_7 (by decide) ?_
  refine lv_ldc2 (v := 2) C0.x C0.b C0.ow (C0.ts _ cw_X8_act_72) dX8_act_8 ?_
  refine r_cS_i (As := [.long p0.toInt64, .long (0 : Int64), .long (2 : Int64)]) (rest := []) C0 hw (c_X8_in  hV) (va_cwS 3 C0.ts gX8_act_X8_in rfl rfl rfl hd_X8_in ⟨Nat.le_of_ble_eq_true rfl, Nat.le_of_ble_eq_true rfl⟩) rfl hl.1 rfl (Nat.le_of_ble_eq_true rfl) ⟨Nat.le_of_ble_eq_true rfl, Nat.le_of_ble_eq_true rfl⟩ dX8_act_11 (fun r2 S3 H locs hV hw => ?_)
  refine lv_if_eq (tgt := 77) C0.x C0.b dX8_act_14 (by decide) (fun c4 => ?_) (fun c4 => ?_)
  · have hV := hV.1 c4
    refine lv_iconst (v := 0) C0.x C0.b dX8_act_77 (by decide) ?_
    refine lv_istore (lv' := [(5, .int (0 : Int32)), (0, .ref (ad 48)), (1, .int p0), (2, .int p1), (3, .int p2), (4, .int p3)]) C0.x C0.b dX8_act_78 hl (by decide) rfl (fun ls hl => ?_)
    refine lv_iload C0.x C0.b dX8_act_80 (lv_at hl 0 rfl) ?_
    refine lv_if_ne (tgt := 87) C0.x C0.b dX8_act_82 (by decide) (fun c5 => absurd (by decide) c5) (fun c5 => ?_)
    refine lv_iconst (v := -1) C0.x C0.b dX8_act_85 (by decide) ?_
    exact r_iret C0 rfl hw hV dX8_act_86
  · have hV := hV.2 c4
    refine lv_iload_n C0.x C0.b dX8_act_17 rfl (lv_at hl 1 rfl) ?_
    refine lv_iconst (v := 2) C0.x C0.b dX8_act_18 (by decide) ?_
    refine lv_icmp_eq (tgt := 46) C0.x C0.b dX8_act_19 (by decide) (fun c6 => ?_) (fun c6 => ?_)
    · have hV := hV.1 c6
      refine lv_iload_n C0.x C0.b dX8_act_46 rfl (lv_at hl 1 rfl) ?_
      refine lv_iconst (v := 1) C0.x C0.b dX8_act_47 (by decide) ?_
      refine lv_icmp_ne (tgt := 64) C0.x C0.b dX8_act_48 (by decide) (fun c7 => ?_) (fun c7 => ?_)
      · have hV := hV.2 c7
        refine lv_aload_n C0.x C0.b dX8_act_64 rfl (lv_at hl 0 rfl) ?_
        refine r_get C0 hw (C := RX8) (T := TX8) (N := 33) (v := .int (gI S3 31)) iw_X8_act_X8 (lg_48 ad cI cJ X S3) rfl 31 (by decide) (C0.ts _ fw_X8_act_130) rfl dX8_act_65 ?_
        refine lv_bipush (v := 12) C0.x C0.b dX8_act_68 (by decide) ?_
        refine lv_icmp_ge (tgt := 77) C0.x C0.b dX8_act_70 (by decide) (fun c20 => ?_) (fun c20 => ?_)
        · have hV := hV.1 c20
          refine lv_iconst (v := 0) C0.x C0.b dX8_act_77 (by decide) ?_
          refine lv_istore (lv' := [(5, .int (0 : Int32)), (0, .ref (ad 48)), (1, .int p0), (2, .int p1), (3, .int p2), (4, .int p3)]) C0.x C0.b dX8_act_78 hl (by decide) rfl (fun ls hl => ?_)
          refine lv_iload C0.x C0.b dX8_act_80 (lv_at hl 0 rfl) ?_
          refine lv_if_ne (tgt := 87) C0.x C0.b dX8_act_82 (by decide) (fun c21 => absurd (by decide) c21) (fun c21 => ?_)
          refine lv_iconst (v := -1) C0.x C0.b dX8_act_85 (by decide) ?_
          exact r_iret C0 rfl hw hV dX8_act_86
        · have hV := hV.2 c20
          refine lv_iconst (v := 1) C0.x C0.b dX8_act_73 (by decide) ?_
          refine lv_goto (tgt := 78) C0.x C0.b dX8_act_74 (by decide) ?_
          refine lv_istore (lv' := [(5, .int (1 : Int32)), (0, .ref (ad 48)), (1, .int p0), (2, .int p1), (3, .int p2), (4, .int p3)]) C0.x C0.b dX8_act_78 hl (by decide) rfl (fun ls hl => ?_)
          refine lv_iload C0.x C0.b dX8_act_80 (lv_at hl 0 rfl) ?_
          refine lv_if_ne (tgt := 87) C0.x C0.b dX8_act_82 (by decide) (fun c22 => ?_) (fun c22 => absurd c22 (by decide))
          refine lv_aload_n C0.x C0.b dX8_act_87 rfl (lv_at hl 1 rfl) ?_
          refine r_get C0 hw (C := RX8) (T := TX8) (N := 33) (v := .ref (ad 63)) iw_X8_act_X8 (lg_48 ad cI cJ X S3) rfl 32 (by decide) (C0.ts _ fw_X8_act_58) rfl dX8_act_88 ?_
          refine lv_iconst (v := 4) C0.x C0.b dX8_act_91 (by decide) ?_
          refine lv_aload_n C0.x C0.b dX8_act_92 rfl (lv_at hl 1 rfl) ?_
          refine r_get C0 hw (C := RX8) (T := TX8) (N := 33) (v := .int (gI S3 31)) iw_X8_act_X8 (lg_48 ad cI cJ X S3) rfl 31 (by decide) (C0.ts _ fw_X8_act_130) rfl dX8_act_93 ?_
          refine lv_imul C0.x C0.b dX8_act_96 ?_
          refine lv_iload_n C0.x C0.b dX8_act_97 rfl (lv_at hl 2 rfl) ?_
          refine r_iast C0 hw (lg_63 ad cI cJ X S3) hV.1 dX8_act_98 (S' := (sB S3 3 (upd (gB S3 3) ((4 : Int32) * (gI S3 31)).toNatClampNeg p0))) (ls_63 ad cI cJ X S3 (upd (gB S3 3) ((4 : Int32) * (gI S3 31)).toNatClampNeg p0)) (fun S23 H locs eS23 hw => ?_)
          have hV := hV.2 S23 eS23
          refine lv_aload_n C0.x C0.b dX8_act_99 rfl (lv_at hl 1 rfl) ?_
          refine r_get C0 hw (C := RX8) (T := TX8) (N := 33) (v := .ref (ad 63)) iw_X8_act_X8 (lg_48 ad cI cJ X S23) rfl 32 (by decide) (C0.ts _ fw_X8_act_58) rfl dX8_act_100 ?_
          refine lv_iconst (v := 4) C0.x C0.b dX8_act_103 (by decide) ?_
          refine lv_aload_n C0.x C0.b dX8_act_104 rfl (lv_at hl 1 rfl) ?_
          refine r_get C0 hw (C := RX8) (T := TX8) (N := 33) (v := .int (gI S23 31)) iw_X8_act_X8 (lg_48 ad cI cJ X S23) rfl 31 (by decide) (C0.ts _ fw_X8_act_130) rfl dX8_act_105 ?_
          refine lv_imul C0.x C0.b dX8_act_108 ?_
          refine lv_iconst (v := 1) C0.x C0.b dX8_act_109 (by decide) ?_
          refine lv_iadd C0.x C0.b dX8_act_110 ?_
          refine lv_iload_n C0.x C0.b dX8_act_111 rfl (lv_at hl 3 rfl) ?_
          refine r_iast C0 hw (lg_63 ad cI cJ X S23) hV.1 dX8_act_112 (S' := (sB S23 3 (upd (gB S23 3) (((4 : Int32) * (gI S23 31)) + (1 : Int32)).toNatClampNeg p1))) (ls_63 ad cI cJ X S23 (upd (gB S23 3) (((4 : Int32) * (gI S23 31)) + (1 : Int32)).toNatClampNeg p1)) (fun S24 H locs eS24 hw => ?_)
          have hV := hV.2 S24 eS24
          refine lv_aload_n C0.x C0.b dX8_act_113 rfl (lv_at hl 1 rfl) ?_
          refine r_get C0 hw (C := RX8) (T := TX8) (N := 33) (v := .ref (ad 63)) iw_X8_act_X8 (lg_48 ad cI cJ X S24) rfl 32 (by decide) (C0.ts _ fw_X8_act_58) rfl dX8_act_114 ?_
          refine lv_iconst (v := 4) C0.x C0.b dX8_act_117 (by decide) ?_
          refine lv_aload_n C0.x C0.b dX8_act_118 rfl (lv_at hl 1 rfl) ?_
          refine r_get C0 hw (C := RX8) (T := TX8) (N := 33) (v := .int (gI S24 31)) iw_X8_act_X8 (lg_48 ad cI cJ X S24) rfl 31 (by decide) (C0.ts _ fw_X8_act_130) rfl dX8_act_119 ?_
          refine lv_imul C0.x C0.b dX8_act_122 ?_
          refine lv_iconst (v := 2) C0.x C0.b dX8_act_123 (by decide) ?_
          refine lv_iadd C0.x C0.b dX8_act_124 ?_
          refine lv_iload_n C0.x C0.b dX8_act_125 rfl (lv_at hl 4 rfl) ?_
          refine r_iast C0 hw (lg_63 ad cI cJ X S24) hV.1 dX8_act_126 (S' := (sB S24 3 (upd (gB S24 3) (((4 : Int32) * (gI S24 31)) + (2 : Int32)).toNatClampNeg p2))) (ls_63 ad cI cJ X S24 (upd (gB S24 3) (((4 : Int32) * (gI S24 31)) + (2 : Int32)).toNatClampNeg p2)) (fun S25 H locs eS25 hw => ?_)
          have hV := hV.2 S25 eS25
          refine lv_aload_n C0.x C0.b dX8_act_127 rfl (lv_at hl 1 rfl) ?_
          refine r_get C0 hw (C := RX8) (T := TX8) (N := 33) (v := .ref (ad 63)) iw_X8_act_X8 (lg_48 ad cI cJ X S25) rfl 32 (by decide) (C0.ts _ fw_X8_act_58) rfl dX8_act_128 ?_
          refine lv_iconst (v := 4) C0.x C0.b dX8_act_131 (by decide) ?_
          refine lv_aload_n C0.x C0.b dX8_act_132 rfl (lv_at hl 1 rfl) ?_
          refine r_get C0 hw (C := RX8) (T := TX8) (N := 33) (v := .int (gI S25 31)) iw_X8_act_X8 (lg_48 ad cI cJ X S25) rfl 31 (by decide) (C0.ts _ fw_X8_act_130) rfl dX8_act_133 ?_
          refine lv_imul C0.x C0.b dX8_act_136 ?_
          refine lv_iconst (v := 3) C0.x C0.b dX8_act_137 (by decide) ?_
          refine lv_iadd C0.x C0.b dX8_act_138 ?_
          refine lv_iload C0.x C0.b dX8_act_139 (lv_at hl 5 rfl) ?_
          refine r_iast C0 hw (lg_63 ad cI cJ X S25) hV.1 dX8_act_141 (S' := (sB S25 3 (upd (gB S25 3) (((4 : Int32) * (gI S25 31)) + (3 : Int32)).toNatClampNeg p3))) (ls_63 ad cI cJ X S25 (upd (gB S25 3) (((4 : Int32) * (gI S25 31)) + (3 : Int32)).toNatClampNeg p3)) (fun S26 H locs eS26 hw => ?_)
          have hV := hV.2 S26 eS26
          refine lv_aload_n C0.x C0.b dX8_act_142 rfl (lv_at hl 1 rfl) ?_
          refine lv_dup C0.x C0.b dX8_act_143 rfl ?_
          refine r_get C0 hw (C := RX8) (T := TX8) (N := 33) (v := .int (gI S26 31)) iw_X8_act_X8 (lg_48 ad cI cJ X S26) rfl 31 (by decide) (C0.ts _ fw_X8_act_130) rfl dX8_act_144 ?_
          refine lv_iconst (v := 1) C0.x C0.b dX8_act_147 (by decide) ?_
          refine lv_iadd C0.x C0.b dX8_act_148 ?_
          refine r_put C0 hw (C := RX8) (T := TX8) (N := 33) (ty := .int) iw_X8_act_X8 tyX8 tyX8_ok nmX8 (lg_48 ad cI cJ X S26) rfl 31 (by decide) (C0.ts _ fw_X8_act_130) rfl (by decide +kernel) rfl rfl (Nat.le_of_ble_eq_true rfl) dX8_act_149 (S' := (sI S26 31 ((gI S26 31) + (1 : Int32)))) (ls_48_31 ad cI cJ X S26 ((gI S26 31) + (1 : Int32))) (fun S27 H locs eS27 hw => ?_)
          have hV := hV S27 eS27
          refine lv_aload_n C0.x C0.b dX8_act_152 rfl (lv_at hl 1 rfl) ?_
          refine r_get C0 hw (C := RX8) (T := TX8) (N := 33) (v := .int (gI S27 31)) iw_X8_act_X8 (lg_48 ad cI cJ X S27) rfl 31 (by decide) (C0.ts _ fw_X8_act_130) rfl dX8_act_153 ?_
          refine lv_iconst (v := 1) C0.x C0.b dX8_act_156 (by decide) ?_
          refine lv_isub C0.x C0.b dX8_act_157 ?_
          exact r_iret C0 rfl hw hV dX8_act_158
      · have hV := hV.1 c7
        refine lv_iload C0.x C0.b dX8_act_51 (lv_at hl 4 rfl) ?_
        refine lv_i2l C0.x C0.b dX8_act_53 rfl ?_
        refine lv_lconst (v := 0) C0.x C0.b dX8_act_54 (by decide) ?_
        refine lv_ldc2 (v := 11) C0.x C0.b C0.ow (C0.ts _ cw_X8_act_247) dX8_act_55 ?_
        refine r_cS_i (As := [.long p3.toInt64, .long (0 : Int64), .long (11 : Int64)]) (rest := []) C0 hw (c_X8_in  hV) (va_cwS 3 C0.ts gX8_act_X8_in rfl rfl rfl hd_X8_in ⟨Nat.le_of_ble_eq_true rfl, Nat.le_of_ble_eq_true rfl⟩) rfl hl.1 rfl (Nat.le_of_ble_eq_true rfl) ⟨Nat.le_of_ble_eq_true rfl, Nat.le_of_ble_eq_true rfl⟩ dX8_act_58 (fun r8 S9 H locs hV hw => ?_)
        refine lv_if_eq (tgt := 77) C0.x C0.b dX8_act_61 (by decide) (fun c10 => ?_) (fun c10 => ?_)
        · have hV := hV.1 c10
          refine lv_iconst (v := 0) C0.x C0.b dX8_act_77 (by decide) ?_
          refine lv_istore (lv' := [(5, .int (0 : Int32)), (0, .ref (ad 48)), (1, .int p0), (2, .int p1), (3, .int p2), (4, .int p3)]) C0.x C0.b dX8_act_78 hl (by decide) rfl (fun ls hl => ?_)
          refine lv_iload C0.x C0.b dX8_act_80 (lv_at hl 0 rfl) ?_
          refine lv_if_ne (tgt := 87) C0.x C0.b dX8_act_82 (by decide) (fun c11 => absurd (by decide) c11) (fun c11 => ?_)
          refine lv_iconst (v := -1) C0.x C0.b dX8_act_85 (by decide) ?_
          exact r_iret C0 rfl hw hV dX8_act_86
        · have hV := hV.2 c10
          refine lv_aload_n C0.x C0.b dX8_act_64 rfl (lv_at hl 0 rfl) ?_
          refine r_get C0 hw (C := RX8) (T := TX8) (N := 33) (v := .int (gI S9 31)) iw_X8_act_X8 (lg_48 ad cI cJ X S9) rfl 31 (by decide) (C0.ts _ fw_X8_act_130) rfl dX8_act_65 ?_
          refine lv_bipush (v := 12) C0.x C0.b dX8_act_68 (by decide) ?_
          refine lv_icmp_ge (tgt := 77) C0.x C0.b dX8_act_70 (by decide) (fun c12 => ?_) (fun c12 => ?_)
          · have hV := hV.1 c12
            refine lv_iconst (v := 0) C0.x C0.b dX8_act_77 (by decide) ?_
            refine lv_istore (lv' := [(5, .int (0 : Int32)), (0, .ref (ad 48)), (1, .int p0), (2, .int p1), (3, .int p2), (4, .int p3)]) C0.x C0.b dX8_act_78 hl (by decide) rfl (fun ls hl => ?_)
            refine lv_iload C0.x C0.b dX8_act_80 (lv_at hl 0 rfl) ?_
            refine lv_if_ne (tgt := 87) C0.x C0.b dX8_act_82 (by decide) (fun c13 => absurd (by decide) c13) (fun c13 => ?_)
            refine lv_iconst (v := -1) C0.x C0.b dX8_act_85 (by decide) ?_
            exact r_iret C0 rfl hw hV dX8_act_86
          · have hV := hV.2 c12
            refine lv_iconst (v := 1) C0.x C0.b dX8_act_73 (by decide) ?_
            refine lv_goto (tgt := 78) C0.x C0.b dX8_act_74 (by decide) ?_
            refine lv_istore (lv' := [(5, .int (1 : Int32)), (0, .ref (ad 48)), (1, .int p0), (2, .int p1), (3, .int p2), (4, .int p3)]) C0.x C0.b dX8_act_78 hl (by decide) rfl (fun ls hl => ?_)
            refine lv_iload C0.x C0.b dX8_act_80 (lv_at hl 0 rfl) ?_
            refine lv_if_ne (tgt := 87) C0.x C0.b dX8_act_82 (by decide) (fun c14 => ?_) (fun c14 => absurd c14 (by decide))
            refine lv_aload_n C0.x C0.b dX8_act_87 rfl (lv_at hl 1 rfl) ?_
            refine r_get C0 hw (C := RX8) (T := TX8) (N := 33) (v := .ref (ad 63)) iw_X8_act_X8 (lg_48 ad cI cJ X S9) rfl 32 (by decide) (C0.ts _ fw_X8_act_58) rfl dX8_act_88 ?_
            refine lv_iconst (v := 4) C0.x C0.b dX8_act_91 (by decide) ?_
            refine lv_aload_n C0.x C0.b dX8_act_92 rfl (lv_at hl 1 rfl) ?_
            refine r_get C0 hw (C := RX8) (T := TX8) (N := 33) (v := .int (gI S9 31)) iw_X8_act_X8 (lg_48 ad cI cJ X S9) rfl 31 (by decide) (C0.ts _ fw_X8_act_130) rfl dX8_act_93 ?_
            refine lv_imul C0.x C0.b dX8_act_96 ?_
            refine lv_iload_n C0.x C0.b dX8_act_97 rfl (lv_at hl 2 rfl) ?_
            refine r_iast C0 hw (lg_63 ad cI cJ X S9) hV.1 dX8_act_98 (S' := (sB S9 3 (upd (gB S9 3) ((4 : Int32) * (gI S9 31)).toNatClampNeg p0))) (ls_63 ad cI cJ X S9 (upd (gB S9 3) ((4 : Int32) * (gI S9 31)).toNatClampNeg p0)) (fun S15 H locs eS15 hw => ?_)
            have hV := hV.2 S15 eS15
            refine lv_aload_n C0.x C0.b dX8_act_99 rfl (lv_at hl 1 rfl) ?_
            refine r_get C0 hw (C := RX8) (T := TX8) (N := 33) (v := .ref (ad 63)) iw_X8_act_X8 (lg_48 ad cI cJ X S15) rfl 32 (by decide) (C0.ts _ fw_X8_act_58) rfl dX8_act_100 ?_
            refine lv_iconst (v := 4) C0.x C0.b dX8_act_103 (by decide) ?_
            refine lv_aload_n C0.x C0.b dX8_act_104 rfl (lv_at hl 1 rfl) ?_
            refine r_get C0 hw (C := RX8) (T := TX8) (N := 33) (v := .int (gI S15 31)) iw_X8_act_X8 (lg_48 ad cI cJ X S15) rfl 31 (by decide) (C0.ts _ fw_X8_act_130) rfl dX8_act_105 ?_
            refine lv_imul C0.x C0.b dX8_act_108 ?_
            refine lv_iconst (v := 1) C0.x C0.b dX8_act_109 (by decide) ?_
            refine lv_iadd C0.x C0.b dX8_act_110 ?_
            refine lv_iload_n C0.x C0.b dX8_act_111 rfl (lv_at hl 3 rfl) ?_
            refine r_iast C0 hw (lg_63 ad cI cJ X S15) hV.1 dX8_act_112 (S' := (sB S15 3 (upd (gB S15 3) (((4 : Int32) * (gI S15 31)) + (1 : Int32)).toNatClampNeg p1))) (ls_63 ad cI cJ X S15 (upd (gB S15 3) (((4 : Int32) * (gI S15 31)) + (1 : Int32)).toNatClampNeg p1)) (fun S16 H locs eS16 hw => ?_)
            have hV := hV.2 S16 eS16
            refine lv_aload_n C0.x C0.b dX8_act_113 rfl (lv_at hl 1 rfl) ?_
            refine r_get C0 hw (C := RX8) (T := TX8) (N := 33) (v := .ref (ad 63)) iw_X8_act_X8 (lg_48 ad cI cJ X S16) rfl 32 (by decide) (C0.ts _ fw_X8_act_58) rfl dX8_act_114 ?_
            refine lv_iconst (v := 4) C0.x C0.b dX8_act_117 (by decide) ?_
            refine lv_aload_n C0.x C0.b dX8_act_118 rfl (lv_at hl 1 rfl) ?_
            refine r_get C0 hw (C := RX8) (T := TX8) (N := 33) (v := .int (gI S16 31)) iw_X8_act_X8 (lg_48 ad cI cJ X S16) rfl 31 (by decide) (C0.ts _ fw_X8_act_130) rfl dX8_act_119 ?_
            refine lv_imul C0.x C0.b dX8_act_122 ?_
            refine lv_iconst (v := 2) C0.x C0.b dX8_act_123 (by decide) ?_
            refine lv_iadd C0.x C0.b dX8_act_124 ?_
            refine lv_iload_n C0.x C0.b dX8_act_125 rfl (lv_at hl 4 rfl) ?_
            refine r_iast C0 hw (lg_63 ad cI cJ X S16) hV.1 dX8_act_126 (S' := (sB S16 3 (upd (gB S16 3) (((4 : Int32) * (gI S16 31)) + (2 : Int32)).toNatClampNeg p2))) (ls_63 ad cI cJ X S16 (upd (gB S16 3) (((4 : Int32) * (gI S16 31)) + (2 : Int32)).toNatClampNeg p2)) (fun S17 H locs eS17 hw => ?_)
            have hV := hV.2 S17 eS17
            refine lv_aload_n C0.x C0.b dX8_act_127 rfl (lv_at hl 1 rfl) ?_
            refine r_get C0 hw (C := RX8) (T := TX8) (N := 33) (v := .ref (ad 63)) iw_X8_act_X8 (lg_48 ad cI cJ X S17) rfl 32 (by decide) (C0.ts _ fw_X8_act_58) rfl dX8_act_128 ?_
            refine lv_iconst (v := 4) C0.x C0.b dX8_act_131 (by decide) ?_
            refine lv_aload_n C0.x C0.b dX8_act_132 rfl (lv_at hl 1 rfl) ?_
            refine r_get C0 hw (C := RX8) (T := TX8) (N := 33) (v := .int (gI S17 31)) iw_X8_act_X8 (lg_48 ad cI cJ X S17) rfl 31 (by decide) (C0.ts _ fw_X8_act_130) rfl dX8_act_133 ?_
            refine lv_imul C0.x C0.b dX8_act_136 ?_
            refine lv_iconst (v := 3) C0.x C0.b dX8_act_137 (by decide) ?_
            refine lv_iadd C0.x C0.b dX8_act_138 ?_
            refine lv_iload C0.x C0.b dX8_act_139 (lv_at hl 5 rfl) ?_
            refine r_iast C0 hw (lg_63 ad cI cJ X S17) hV.1 dX8_act_141 (S' := (sB S17 3 (upd (gB S17 3) (((4 : Int32) * (gI S17 31)) + (3 : Int32)).toNatClampNeg p3))) (ls_63 ad cI cJ X S17 (upd (gB S17 3) (((4 : Int32) * (gI S17 31)) + (3 : Int32)).toNatClampNeg p3)) (fun S18 H locs eS18 hw => ?_)
            have hV := hV.2 S18 eS18
            refine lv_aload_n C0.x C0.b dX8_act_142 rfl (lv_at hl 1 rfl) ?_
            refine lv_dup C0.x C0.b dX8_act_143 rfl ?_
            refine r_get C0 hw (C := RX8) (T := TX8) (N := 33) (v := .int (gI S18 31)) iw_X8_act_X8 (lg_48 ad cI cJ X S18) rfl 31 (by decide) (C0.ts _ fw_X8_act_130) rfl dX8_act_144 ?_
            refine lv_iconst (v := 1) C0.x C0.b dX8_act_147 (by decide) ?_
            refine lv_iadd C0.x C0.b dX8_act_148 ?_
            refine r_put C0 hw (C := RX8) (T := TX8) (N := 33) (ty := .int) iw_X8_act_X8 tyX8 tyX8_ok nmX8 (lg_48 ad cI cJ X S18) rfl 31 (by decide) (C0.ts _ fw_X8_act_130) rfl (by decide +kernel) rfl rfl (Nat.le_of_ble_eq_true rfl) dX8_act_149 (S' := (sI S18 31 ((gI S18 31) + (1 : Int32)))) (ls_48_31 ad cI cJ X S18 ((gI S18 31) + (1 : Int32))) (fun S19 H locs eS19 hw => ?_)
            have hV := hV S19 eS19
            refine lv_aload_n C0.x C0.b dX8_act_152 rfl (lv_at hl 1 rfl) ?_
            refine r_get C0 hw (C := RX8) (T := TX8) (N := 33) (v := .int (gI S19 31)) iw_X8_act_X8 (lg_48 ad cI cJ X S19) rfl 31 (by decide) (C0.ts _ fw_X8_act_130) rfl dX8_act_153 ?_
            refine lv_iconst (v := 1) C0.x C0.b dX8_act_156 (by decide) ?_
            refine lv_isub C0.x C0.b dX8_act_157 ?_
            exact r_iret C0 rfl hw hV dX8_act_158
    · have hV := hV.2 c6
      refine lv_iload_n C0.x C0.b dX8_act_22 rfl (lv_at hl 2 rfl) ?_
      refine lv_i2l C0.x C0.b dX8_act_23 rfl ?_
      refine lv_lconst (v := 0) C0.x C0.b dX8_act_24 (by decide) ?_
      refine lv_ldc2 (v := 3) C0.x C0.b C0.ow (C0.ts _ cw_X8_act_83) dX8_act_25 ?_
      refine r_cS_i (As := [.long p1.toInt64, .long (0 : Int64), .long (3 : Int64)]) (rest := []) C0 hw (c_X8_in  hV) (va_cwS 3 C0.ts gX8_act_X8_in rfl rfl rfl hd_X8_in ⟨Nat.le_of_ble_eq_true rfl, Nat.le_of_ble_eq_true rfl⟩) rfl hl.1 rfl (Nat.le_of_ble_eq_true rfl) ⟨Nat.le_of_ble_eq_true rfl, Nat.le_of_ble_eq_true rfl⟩ dX8_act_28 (fun r28 S29 H locs hV hw => ?_)
      refine lv_if_eq (tgt := 77) C0.x C0.b dX8_act_31 (by decide) (fun c30 => ?_) (fun c30 => ?_)
      · have hV := hV.1 c30
        refine lv_iconst (v := 0) C0.x C0.b dX8_act_77 (by decide) ?_
        refine lv_istore (lv' := [(5, .int (0 : Int32)), (0, .ref (ad 48)), (1, .int p0), (2, .int p1), (3, .int p2), (4, .int p3)]) C0.x C0.b dX8_act_78 hl (by decide) rfl (fun ls hl => ?_)
        refine lv_iload C0.x C0.b dX8_act_80 (lv_at hl 0 rfl) ?_
        refine lv_if_ne (tgt := 87) C0.x C0.b dX8_act_82 (by decide) (fun c31 => absurd (by decide) c31) (fun c31 => ?_)
        refine lv_iconst (v := -1) C0.x C0.b dX8_act_85 (by decide) ?_
        exact r_iret C0 rfl hw hV dX8_act_86
      · have hV := hV.2 c30
        refine lv_iload_n C0.x C0.b dX8_act_34 rfl (lv_at hl 3 rfl) ?_
        refine lv_i2l C0.x C0.b dX8_act_35 rfl ?_
        refine lv_lconst (v := 0) C0.x C0.b dX8_act_36 (by decide) ?_
        refine lv_ldc2 (v := 11) C0.x C0.b C0.ow (C0.ts _ cw_X8_act_247) dX8_act_37 ?_
        refine r_cS_i (As := [.long p2.toInt64, .long (0 : Int64), .long (11 : Int64)]) (rest := []) C0 hw (c_X8_in  hV) (va_cwS 3 C0.ts gX8_act_X8_in rfl rfl rfl hd_X8_in ⟨Nat.le_of_ble_eq_true rfl, Nat.le_of_ble_eq_true rfl⟩) rfl hl.1 rfl (Nat.le_of_ble_eq_true rfl) ⟨Nat.le_of_ble_eq_true rfl, Nat.le_of_ble_eq_true rfl⟩ dX8_act_40 (fun r32 S33 H locs hV hw => ?_)
        refine lv_if_eq (tgt := 77) C0.x C0.b dX8_act_43 (by decide) (fun c34 => ?_) (fun c34 => ?_)
        · have hV := hV.1 c34
          refine lv_iconst (v := 0) C0.x C0.b dX8_act_77 (by decide) ?_
          refine lv_istore (lv' := [(5, .int (0 : Int32)), (0, .ref (ad 48)), (1, .int p0), (2, .int p1), (3, .int p2), (4, .int p3)]) C0.x C0.b dX8_act_78 hl (by decide) rfl (fun ls hl => ?_)
          refine lv_iload C0.x C0.b dX8_act_80 (lv_at hl 0 rfl) ?_
          refine lv_if_ne (tgt := 87) C0.x C0.b dX8_act_82 (by decide) (fun c35 => absurd (by decide) c35) (fun c35 => ?_)
          refine lv_iconst (v := -1) C0.x C0.b dX8_act_85 (by decide) ?_
          exact r_iret C0 rfl hw hV dX8_act_86
        · have hV := hV.2 c34
          refine lv_iload_n C0.x C0.b dX8_act_46 rfl (lv_at hl 1 rfl) ?_
          refine lv_iconst (v := 1) C0.x C0.b dX8_act_47 (by decide) ?_
          refine lv_icmp_ne (tgt := 64) C0.x C0.b dX8_act_48 (by decide) (fun c36 => ?_) (fun c36 => ?_)
          · have hV := hV.2 c36
            refine lv_aload_n C0.x C0.b dX8_act_64 rfl (lv_at hl 0 rfl) ?_
            refine r_get C0 hw (C := RX8) (T := TX8) (N := 33) (v := .int (gI S33 31)) iw_X8_act_X8 (lg_48 ad cI cJ X S33) rfl 31 (by decide) (C0.ts _ fw_X8_act_130) rfl dX8_act_65 ?_
            refine lv_bipush (v := 12) C0.x C0.b dX8_act_68 (by decide) ?_
            refine lv_icmp_ge (tgt := 77) C0.x C0.b dX8_act_70 (by decide) (fun c49 => ?_) (fun c49 => ?_)
            · have hV := hV.1 c49
              refine lv_iconst (v := 0) C0.x C0.b dX8_act_77 (by decide) ?_
              refine lv_istore (lv' := [(5, .int (0 : Int32)), (0, .ref (ad 48)), (1, .int p0), (2, .int p1), (3, .int p2), (4, .int p3)]) C0.x C0.b dX8_act_78 hl (by decide) rfl (fun ls hl => ?_)
              refine lv_iload C0.x C0.b dX8_act_80 (lv_at hl 0 rfl) ?_
              refine lv_if_ne (tgt := 87) C0.x C0.b dX8_act_82 (by decide) (fun c50 => absurd (by decide) c50) (fun c50 => ?_)
              refine lv_iconst (v := -1) C0.x C0.b dX8_act_85 (by decide) ?_
              exact r_iret C0 rfl hw hV dX8_act_86
            · have hV := hV.2 c49
              refine lv_iconst (v := 1) C0.x C0.b dX8_act_73 (by decide) ?_
              refine lv_goto (tgt := 78) C0.x C0.b dX8_act_74 (by decide) ?_
              refine lv_istore (lv' := [(5, .int (1 : Int32)), (0, .ref (ad 48)), (1, .int p0), (2, .int p1), (3, .int p2), (4, .int p3)]) C0.x C0.b dX8_act_78 hl (by decide) rfl (fun ls hl => ?_)
              refine lv_iload C0.x C0.b dX8_act_80 (lv_at hl 0 rfl) ?_
              refine lv_if_ne (tgt := 87) C0.x C0.b dX8_act_82 (by decide) (fun c51 => ?_) (fun c51 => absurd c51 (by decide))
              refine lv_aload_n C0.x C0.b dX8_act_87 rfl (lv_at hl 1 rfl) ?_
              refine r_get C0 hw (C := RX8) (T := TX8) (N := 33) (v := .ref (ad 63)) iw_X8_act_X8 (lg_48 ad cI cJ X S33) rfl 32 (by decide) (C0.ts _ fw_X8_act_58) rfl dX8_act_88 ?_
              refine lv_iconst (v := 4) C0.x C0.b dX8_act_91 (by decide) ?_
              refine lv_aload_n C0.x C0.b dX8_act_92 rfl (lv_at hl 1 rfl) ?_
              refine r_get C0 hw (C := RX8) (T := TX8) (N := 33) (v := .int (gI S33 31)) iw_X8_act_X8 (lg_48 ad cI cJ X S33) rfl 31 (by decide) (C0.ts _ fw_X8_act_130) rfl dX8_act_93 ?_
              refine lv_imul C0.x C0.b dX8_act_96 ?_
              refine lv_iload_n C0.x C0.b dX8_act_97 rfl (lv_at hl 2 rfl) ?_
              refine r_iast C0 hw (lg_63 ad cI cJ X S33) hV.1 dX8_act_98 (S' := (sB S33 3 (upd (gB S33 3) ((4 : Int32) * (gI S33 31)).toNatClampNeg p0))) (ls_63 ad cI cJ X S33 (upd (gB S33 3) ((4 : Int32) * (gI S33 31)).toNatClampNeg p0)) (fun S52 H locs eS52 hw => ?_)
              have hV := hV.2 S52 eS52
              refine lv_aload_n C0.x C0.b dX8_act_99 rfl (lv_at hl 1 rfl) ?_
              refine r_get C0 hw (C := RX8) (T := TX8) (N := 33) (v := .ref (ad 63)) iw_X8_act_X8 (lg_48 ad cI cJ X S52) rfl 32 (by decide) (C0.ts _ fw_X8_act_58) rfl dX8_act_100 ?_
              refine lv_iconst (v := 4) C0.x C0.b dX8_act_103 (by decide) ?_
              refine lv_aload_n C0.x C0.b dX8_act_104 rfl (lv_at hl 1 rfl) ?_
              refine r_get C0 hw (C := RX8) (T := TX8) (N := 33) (v := .int (gI S52 31)) iw_X8_act_X8 (lg_48 ad cI cJ X S52) rfl 31 (by decide) (C0.ts _ fw_X8_act_130) rfl dX8_act_105 ?_
              refine lv_imul C0.x C0.b dX8_act_108 ?_
              refine lv_iconst (v := 1) C0.x C0.b dX8_act_109 (by decide) ?_
              refine lv_iadd C0.x C0.b dX8_act_110 ?_
              refine lv_iload_n C0.x C0.b dX8_act_111 rfl (lv_at hl 3 rfl) ?_
              refine r_iast C0 hw (lg_63 ad cI cJ X S52) hV.1 dX8_act_112 (S' := (sB S52 3 (upd (gB S52 3) (((4 : Int32) * (gI S52 31)) + (1 : Int32)).toNatClampNeg p1))) (ls_63 ad cI cJ X S52 (upd (gB S52 3) (((4 : Int32) * (gI S52 31)) + (1 : Int32)).toNatClampNeg p1)) (fun S53 H locs eS53 hw => ?_)
              have hV := hV.2 S53 eS53
              refine lv_aload_n C0.x C0.b dX8_act_113 rfl (lv_at hl 1 rfl) ?_
              refine r_get C0 hw (C := RX8) (T := TX8) (N := 33) (v := .ref (ad 63)) iw_X8_act_X8 (lg_48 ad cI cJ X S53) rfl 32 (by decide) (C0.ts _ fw_X8_act_58) rfl dX8_act_114 ?_
              refine lv_iconst (v := 4) C0.x C0.b dX8_act_117 (by decide) ?_
              refine lv_aload_n C0.x C0.b dX8_act_118 rfl (lv_at hl 1 rfl) ?_
              refine r_get C0 hw (C := RX8) (T := TX8) (N := 33) (v := .int (gI S53 31)) iw_X8_act_X8 (lg_48 ad cI cJ X S53) rfl 31 (by decide) (C0.ts _ fw_X8_act_130) rfl dX8_act_119 ?_
              refine lv_imul C0.x C0.b dX8_act_122 ?_
              refine lv_iconst (v := 2) C0.x C0.b dX8_act_123 (by decide) ?_
              refine lv_iadd C0.x C0.b dX8_act_124 ?_
              refine lv_iload_n C0.x C0.b dX8_act_125 rfl (lv_at hl 4 rfl) ?_
              refine r_iast C0 hw (lg_63 ad cI cJ X S53) hV.1 dX8_act_126 (S' := (sB S53 3 (upd (gB S53 3) (((4 : Int32) * (gI S53 31)) + (2 : Int32)).toNatClampNeg p2))) (ls_63 ad cI cJ X S53 (upd (gB S53 3) (((4 : Int32) * (gI S53 31)) + (2 : Int32)).toNatClampNeg p2)) (fun S54 H locs eS54 hw => ?_)
              have hV := hV.2 S54 eS54
              refine lv_aload_n C0.x C0.b dX8_act_127 rfl (lv_at hl 1 rfl) ?_
              refine r_get C0 hw (C := RX8) (T := TX8) (N := 33) (v := .ref (ad 63)) iw_X8_act_X8 (lg_48 ad cI cJ X S54) rfl 32 (by decide) (C0.ts _ fw_X8_act_58) rfl dX8_act_128 ?_
              refine lv_iconst (v := 4) C0.x C0.b dX8_act_131 (by decide) ?_
              refine lv_aload_n C0.x C0.b dX8_act_132 rfl (lv_at hl 1 rfl) ?_
              refine r_get C0 hw (C := RX8) (T := TX8) (N := 33) (v := .int (gI S54 31)) iw_X8_act_X8 (lg_48 ad cI cJ X S54) rfl 31 (by decide) (C0.ts _ fw_X8_act_130) rfl dX8_act_133 ?_
              refine lv_imul C0.x C0.b dX8_act_136 ?_
              refine lv_iconst (v := 3) C0.x C0.b dX8_act_137 (by decide) ?_
              refine lv_iadd C0.x C0.b dX8_act_138 ?_
              refine lv_iload C0.x C0.b dX8_act_139 (lv_at hl 5 rfl) ?_
              refine r_iast C0 hw (lg_63 ad cI cJ X S54) hV.1 dX8_act_141 (S' := (sB S54 3 (upd (gB S54 3) (((4 : Int32) * (gI S54 31)) + (3 : Int32)).toNatClampNeg p3))) (ls_63 ad cI cJ X S54 (upd (gB S54 3) (((4 : Int32) * (gI S54 31)) + (3 : Int32)).toNatClampNeg p3)) (fun S55 H locs eS55 hw => ?_)
              have hV := hV.2 S55 eS55
              refine lv_aload_n C0.x C0.b dX8_act_142 rfl (lv_at hl 1 rfl) ?_
              refine lv_dup C0.x C0.b dX8_act_143 rfl ?_
              refine r_get C0 hw (C := RX8) (T := TX8) (N := 33) (v := .int (gI S55 31)) iw_X8_act_X8 (lg_48 ad cI cJ X S55) rfl 31 (by decide) (C0.ts _ fw_X8_act_130) rfl dX8_act_144 ?_
              refine lv_iconst (v := 1) C0.x C0.b dX8_act_147 (by decide) ?_
              refine lv_iadd C0.x C0.b dX8_act_148 ?_
              refine r_put C0 hw (C := RX8) (T := TX8) (N := 33) (ty := .int) iw_X8_act_X8 tyX8 tyX8_ok nmX8 (lg_48 ad cI cJ X S55) rfl 31 (by decide) (C0.ts _ fw_X8_act_130) rfl (by decide +kernel) rfl rfl (Nat.le_of_ble_eq_true rfl) dX8_act_149 (S' := (sI S55 31 ((gI S55 31) + (1 : Int32)))) (ls_48_31 ad cI cJ X S55 ((gI S55 31) + (1 : Int32))) (fun S56 H locs eS56 hw => ?_)
              have hV := hV S56 eS56
              refine lv_aload_n C0.x C0.b dX8_act_152 rfl (lv_at hl 1 rfl) ?_
              refine r_get C0 hw (C := RX8) (T := TX8) (N := 33) (v := .int (gI S56 31)) iw_X8_act_X8 (lg_48 ad cI cJ X S56) rfl 31 (by decide) (C0.ts _ fw_X8_act_130) rfl dX8_act_153 ?_
              refine lv_iconst (v := 1) C0.x C0.b dX8_act_156 (by decide) ?_
              refine lv_isub C0.x C0.b dX8_act_157 ?_
              exact r_iret C0 rfl hw hV dX8_act_158
          · have hV := hV.1 c36
            refine lv_iload C0.x C0.b dX8_act_51 (lv_at hl 4 rfl) ?_
            refine lv_i2l C0.x C0.b dX8_act_53 rfl ?_
            refine lv_lconst (v := 0) C0.x C0.b dX8_act_54 (by decide) ?_
            refine lv_ldc2 (v := 11) C0.x C0.b C0.ow (C0.ts _ cw_X8_act_247) dX8_act_55 ?_
            refine r_cS_i (As := [.long p3.toInt64, .long (0 : Int64), .long (11 : Int64)]) (rest := []) C0 hw (c_X8_in  hV) (va_cwS 3 C0.ts gX8_act_X8_in rfl rfl rfl hd_X8_in ⟨Nat.le_of_ble_eq_true rfl, Nat.le_of_ble_eq_true rfl⟩) rfl hl.1 rfl (Nat.le_of_ble_eq_true rfl) ⟨Nat.le_of_ble_eq_true rfl, Nat.le_of_ble_eq_true rfl⟩ dX8_act_58 (fun r37 S38 H locs hV hw => ?_)
            refine lv_if_eq (tgt := 77) C0.x C0.b dX8_act_61 (by decide) (fun c39 => ?_) (fun c39 => ?_)
            · have hV := hV.1 c39
              refine lv_iconst (v := 0) C0.x C0.b dX8_act_77 (by decide) ?_
              refine lv_istore (lv' := [(5, .int (0 : Int32)), (0, .ref (ad 48)), (1, .int p0), (2, .int p1), (3, .int p2), (4, .int p3)]) C0.x C0.b dX8_act_78 hl (by decide) rfl (fun ls hl => ?_)
              refine lv_iload C0.x C0.b dX8_act_80 (lv_at hl 0 rfl) ?_
              refine lv_if_ne (tgt := 87) C0.x C0.b dX8_act_82 (by decide) (fun c40 => absurd (by decide) c40) (fun c40 => ?_)
              refine lv_iconst (v := -1) C0.x C0.b dX8_act_85 (by decide) ?_
              exact r_iret C0 rfl hw hV dX8_act_86
            · have hV := hV.2 c39
              refine lv_aload_n C0.x C0.b dX8_act_64 rfl (lv_at hl 0 rfl) ?_
              refine r_get C0 hw (C := RX8) (T := TX8) (N := 33) (v := .int (gI S38 31)) iw_X8_act_X8 (lg_48 ad cI cJ X S38) rfl 31 (by decide) (C0.ts _ fw_X8_act_130) rfl dX8_act_65 ?_
              refine lv_bipush (v := 12) C0.x C0.b dX8_act_68 (by decide) ?_
              refine lv_icmp_ge (tgt := 77) C0.x C0.b dX8_act_70 (by decide) (fun c41 => ?_) (fun c41 => ?_)
              · have hV := hV.1 c41
                refine lv_iconst (v := 0) C0.x C0.b dX8_act_77 (by decide) ?_
                refine lv_istore (lv' := [(5, .int (0 : Int32)), (0, .ref (ad 48)), (1, .int p0), (2, .int p1), (3, .int p2), (4, .int p3)]) C0.x C0.b dX8_act_78 hl (by decide) rfl (fun ls hl => ?_)
                refine lv_iload C0.x C0.b dX8_act_80 (lv_at hl 0 rfl) ?_
                refine lv_if_ne (tgt := 87) C0.x C0.b dX8_act_82 (by decide) (fun c42 => absurd (by decide) c42) (fun c42 => ?_)
                refine lv_iconst (v := -1) C0.x C0.b dX8_act_85 (by decide) ?_
                exact r_iret C0 rfl hw hV dX8_act_86
              · have hV := hV.2 c41
                refine lv_iconst (v := 1) C0.x C0.b dX8_act_73 (by decide) ?_
                refine lv_goto (tgt := 78) C0.x C0.b dX8_act_74 (by decide) ?_
                refine lv_istore (lv' := [(5, .int (1 : Int32)), (0, .ref (ad 48)), (1, .int p0), (2, .int p1), (3, .int p2), (4, .int p3)]) C0.x C0.b dX8_act_78 hl (by decide) rfl (fun ls hl => ?_)
                refine lv_iload C0.x C0.b dX8_act_80 (lv_at hl 0 rfl) ?_
                refine lv_if_ne (tgt := 87) C0.x C0.b dX8_act_82 (by decide) (fun c43 => ?_) (fun c43 => absurd c43 (by decide))
                refine lv_aload_n C0.x C0.b dX8_act_87 rfl (lv_at hl 1 rfl) ?_
                refine r_get C0 hw (C := RX8) (T := TX8) (N := 33) (v := .ref (ad 63)) iw_X8_act_X8 (lg_48 ad cI cJ X S38) rfl 32 (by decide) (C0.ts _ fw_X8_act_58) rfl dX8_act_88 ?_
                refine lv_iconst (v := 4) C0.x C0.b dX8_act_91 (by decide) ?_
                refine lv_aload_n C0.x C0.b dX8_act_92 rfl (lv_at hl 1 rfl) ?_
                refine r_get C0 hw (C := RX8) (T := TX8) (N := 33) (v := .int (gI S38 31)) iw_X8_act_X8 (lg_48 ad cI cJ X S38) rfl 31 (by decide) (C0.ts _ fw_X8_act_130) rfl dX8_act_93 ?_
                refine lv_imul C0.x C0.b dX8_act_96 ?_
                refine lv_iload_n C0.x C0.b dX8_act_97 rfl (lv_at hl 2 rfl) ?_
                refine r_iast C0 hw (lg_63 ad cI cJ X S38) hV.1 dX8_act_98 (S' := (sB S38 3 (upd (gB S38 3) ((4 : Int32) * (gI S38 31)).toNatClampNeg p0))) (ls_63 ad cI cJ X S38 (upd (gB S38 3) ((4 : Int32) * (gI S38 31)).toNatClampNeg p0)) (fun S44 H locs eS44 hw => ?_)
                have hV := hV.2 S44 eS44
                refine lv_aload_n C0.x C0.b dX8_act_99 rfl (lv_at hl 1 rfl) ?_
                refine r_get C0 hw (C := RX8) (T := TX8) (N := 33) (v := .ref (ad 63)) iw_X8_act_X8 (lg_48 ad cI cJ X S44) rfl 32 (by decide) (C0.ts _ fw_X8_act_58) rfl dX8_act_100 ?_
                refine lv_iconst (v := 4) C0.x C0.b dX8_act_103 (by decide) ?_
                refine lv_aload_n C0.x C0.b dX8_act_104 rfl (lv_at hl 1 rfl) ?_
                refine r_get C0 hw (C := RX8) (T := TX8) (N := 33) (v := .int (gI S44 31)) iw_X8_act_X8 (lg_48 ad cI cJ X S44) rfl 31 (by decide) (C0.ts _ fw_X8_act_130) rfl dX8_act_105 ?_
                refine lv_imul C0.x C0.b dX8_act_108 ?_
                refine lv_iconst (v := 1) C0.x C0.b dX8_act_109 (by decide) ?_
                refine lv_iadd C0.x C0.b dX8_act_110 ?_
                refine lv_iload_n C0.x C0.b dX8_act_111 rfl (lv_at hl 3 rfl) ?_
                refine r_iast C0 hw (lg_63 ad cI cJ X S44) hV.1 dX8_act_112 (S' := (sB S44 3 (upd (gB S44 3) (((4 : Int32) * (gI S44 31)) + (1 : Int32)).toNatClampNeg p1))) (ls_63 ad cI cJ X S44 (upd (gB S44 3) (((4 : Int32) * (gI S44 31)) + (1 : Int32)).toNatClampNeg p1)) (fun S45 H locs eS45 hw => ?_)
                have hV := hV.2 S45 eS45
                refine lv_aload_n C0.x C0.b dX8_act_113 rfl (lv_at hl 1 rfl) ?_
                refine r_get C0 hw (C := RX8) (T := TX8) (N := 33) (v := .ref (ad 63)) iw_X8_act_X8 (lg_48 ad cI cJ X S45) rfl 32 (by decide) (C0.ts _ fw_X8_act_58) rfl dX8_act_114 ?_
                refine lv_iconst (v := 4) C0.x C0.b dX8_act_117 (by decide) ?_
                refine lv_aload_n C0.x C0.b dX8_act_118 rfl (lv_at hl 1 rfl) ?_
                refine r_get C0 hw (C := RX8) (T := TX8) (N := 33) (v := .int (gI S45 31)) iw_X8_act_X8 (lg_48 ad cI cJ X S45) rfl 31 (by decide) (C0.ts _ fw_X8_act_130) rfl dX8_act_119 ?_
                refine lv_imul C0.x C0.b dX8_act_122 ?_
                refine lv_iconst (v := 2) C0.x C0.b dX8_act_123 (by decide) ?_
                refine lv_iadd C0.x C0.b dX8_act_124 ?_
                refine lv_iload_n C0.x C0.b dX8_act_125 rfl (lv_at hl 4 rfl) ?_
                refine r_iast C0 hw (lg_63 ad cI cJ X S45) hV.1 dX8_act_126 (S' := (sB S45 3 (upd (gB S45 3) (((4 : Int32) * (gI S45 31)) + (2 : Int32)).toNatClampNeg p2))) (ls_63 ad cI cJ X S45 (upd (gB S45 3) (((4 : Int32) * (gI S45 31)) + (2 : Int32)).toNatClampNeg p2)) (fun S46 H locs eS46 hw => ?_)
                have hV := hV.2 S46 eS46
                refine lv_aload_n C0.x C0.b dX8_act_127 rfl (lv_at hl 1 rfl) ?_
                refine r_get C0 hw (C := RX8) (T := TX8) (N := 33) (v := .ref (ad 63)) iw_X8_act_X8 (lg_48 ad cI cJ X S46) rfl 32 (by decide) (C0.ts _ fw_X8_act_58) rfl dX8_act_128 ?_
                refine lv_iconst (v := 4) C0.x C0.b dX8_act_131 (by decide) ?_
                refine lv_aload_n C0.x C0.b dX8_act_132 rfl (lv_at hl 1 rfl) ?_
                refine r_get C0 hw (C := RX8) (T := TX8) (N := 33) (v := .int (gI S46 31)) iw_X8_act_X8 (lg_48 ad cI cJ X S46) rfl 31 (by decide) (C0.ts _ fw_X8_act_130) rfl dX8_act_133 ?_
                refine lv_imul C0.x C0.b dX8_act_136 ?_
                refine lv_iconst (v := 3) C0.x C0.b dX8_act_137 (by decide) ?_
                refine lv_iadd C0.x C0.b dX8_act_138 ?_
                refine lv_iload C0.x C0.b dX8_act_139 (lv_at hl 5 rfl) ?_
                refine r_iast C0 hw (lg_63 ad cI cJ X S46) hV.1 dX8_act_141 (S' := (sB S46 3 (upd (gB S46 3) (((4 : Int32) * (gI S46 31)) + (3 : Int32)).toNatClampNeg p3))) (ls_63 ad cI cJ X S46 (upd (gB S46 3) (((4 : Int32) * (gI S46 31)) + (3 : Int32)).toNatClampNeg p3)) (fun S47 H locs eS47 hw => ?_)
                have hV := hV.2 S47 eS47
                refine lv_aload_n C0.x C0.b dX8_act_142 rfl (lv_at hl 1 rfl) ?_
                refine lv_dup C0.x C0.b dX8_act_143 rfl ?_
                refine r_get C0 hw (C := RX8) (T := TX8) (N := 33) (v := .int (gI S47 31)) iw_X8_act_X8 (lg_48 ad cI cJ X S47) rfl 31 (by decide) (C0.ts _ fw_X8_act_130) rfl dX8_act_144 ?_
                refine lv_iconst (v := 1) C0.x C0.b dX8_act_147 (by decide) ?_
                refine lv_iadd C0.x C0.b dX8_act_148 ?_
                refine r_put C0 hw (C := RX8) (T := TX8) (N := 33) (ty := .int) iw_X8_act_X8 tyX8 tyX8_ok nmX8 (lg_48 ad cI cJ X S47) rfl 31 (by decide) (C0.ts _ fw_X8_act_130) rfl (by decide +kernel) rfl rfl (Nat.le_of_ble_eq_true rfl) dX8_act_149 (S' := (sI S47 31 ((gI S47 31) + (1 : Int32)))) (ls_48_31 ad cI cJ X S47 ((gI S47 31) + (1 : Int32))) (fun S48 H locs eS48 hw => ?_)
                have hV := hV S48 eS48
                refine lv_aload_n C0.x C0.b dX8_act_152 rfl (lv_at hl 1 rfl) ?_
                refine r_get C0 hw (C := RX8) (T := TX8) (N := 33) (v := .int (gI S48 31)) iw_X8_act_X8 (lg_48 ad cI cJ X S48) rfl 31 (by decide) (C0.ts _ fw_X8_act_130) rfl dX8_act_153 ?_
                refine lv_iconst (v := 1) C0.x C0.b dX8_act_156 (by decide) ?_
                refine lv_isub C0.x C0.b dX8_act_157 ?_
                exact r_iret C0 rfl hw hV dX8_act_158
/-! StepBenchModel.scrap()I -/
abbrev rm_X8_scrap : Room := { frames := 0, cells := 0, slots := 0, locals := 0 }
set_option maxRecDepth 20000 in
theorem fw_X8_scrap_61 : Cond.fieldLink RX8 61 "StepBenchModel" "thrown" "I" ∈ wsX8_scrap := by decide +kernel
set_option maxRecDepth 20000 in
theorem iw_X8_scrap_X8 : ∀ w ∈ wsX80, w ∈ wsX8_scrap := by decide +kernel
set_option maxRecDepth 20000 in
theorem fw_X8_scrap_130 : Cond.fieldLink RX8 130 "StepBenchModel" "acts" "I" ∈ wsX8_scrap := by decide +kernel
set_option maxRecDepth 20000 in
theorem hd_X8_scrap : yX8_scrap.cls = RX8 ∧ yX8_scrap.cls ≠ "java/lang/invoke/MethodHandle" ∧ yX8_scrap.cls ≠ "java/lang/invoke/VarHandle" ∧ (parseMethodDescriptor yX8_scrap.desc).map (fun d => d.parameters.length) = some 0 := by decide +kernel
def V_X8_scrap   (S : SS) (post : Int32 → SS → Prop) : Prop :=
  (∀ S1 : SS, S1 = (sI S 20 (0 : Int32)) → (∀ S2 : SS, S2 = (sI S1 31 (0 : Int32)) → (post (gI S1 31) S2)))
set_option maxHeartbeats 4000000 in
set_option maxRecDepth 100000 in
theorem c_X8_scrap  {S : SS}  {post : Int32 → SS → Prop} (hV : V_X8_scrap   S post) : MI l yX8_scrap wsX8_scrap rm_X8_scrap [.ref (ad 48)] D n0 ad cI cJ X S post := by
  refine Met.ofW (cc := cX8_scrap) (maxL := 2) (ret := (some .int)) (by decide) rfl ?_
  intro p e s m args below meth c s₁ B hml hv
  obtain ⟨rfl, hv⟩ := hv
  have C0 := Bd.mk B hml (atoms_spec (ws := wsX8_scrap) B.pre) (findClass_of_methodNamed B.named) hv.1
  have hw : Wh D n0 ad cI cJ X S s s.heap [] := ⟨hv.2.1, hv.2.2, va_S.rf⟩
  refine r_entry (Nat.le_of_ble_eq_true rfl) (fun ls hl => ?_)
  have hl : lv_has ls 2 [(0, .ref (ad 48))] := hl
  unfold V_X8_scrap at hV
  refine lv_aload_n C0.x C0.b dX8_scrap_0 rfl (lv_at hl 0 rfl) ?_
  refine lv_iconst (v := 0) C0.x C0.b dX8_scrap_1 (by decide) ?_
  refine r_put C0 hw (C := RX8) (T := TX8) (N := 33) (ty := .int) iw_X8_scrap_X8 tyX8 tyX8_ok nmX8 (lg_48 ad cI cJ X S) rfl 0 (by decide) (C0.ts _ fw_X8_scrap_61) rfl (by decide +kernel) rfl rfl (Nat.le_of_ble_eq_true rfl) dX8_scrap_2 (S' := (sI S 20 (0 : Int32))) (ls_48_0 ad cI cJ X S (0 : Int32)) (fun S1 H locs eS1 hw => ?_)
  have hV := hV S1 eS1
  refine lv_aload_n C0.x C0.b dX8_scrap_5 rfl (lv_at hl 0 rfl) ?_
  refine r_get C0 hw (C := RX8) (T := TX8) (N := 33) (v := .int (gI S1 31)) iw_X8_scrap_X8 (lg_48 ad cI cJ X S1) rfl 31 (by decide) (C0.ts _ fw_X8_scrap_130) rfl dX8_scrap_6 ?_
  refine lv_istore_n (lv' := [(1, .int (gI S1 31)), (0, .ref (ad 48))]) C0.x C0.b dX8_scrap_9 rfl hl (by decide) rfl (fun ls hl => ?_)
  refine lv_aload_n C0.x C0.b dX8_scrap_10 rfl (lv_at hl 1 rfl) ?_
  refine lv_iconst (v := 0) C0.x C0.b dX8_scrap_11 (by decide) ?_
  refine r_put C0 hw (C := RX8) (T := TX8) (N := 33) (ty := .int) iw_X8_scrap_X8 tyX8 tyX8_ok nmX8 (lg_48 ad cI cJ X S1) rfl 31 (by decide) (C0.ts _ fw_X8_scrap_130) rfl (by decide +kernel) rfl rfl (Nat.le_of_ble_eq_true rfl) dX8_scrap_12 (S' := (sI S1 31 (0 : Int32))) (ls_48_31 ad cI cJ X S1 (0 : Int32)) (fun S2 H locs eS2 hw => ?_)
  have hV := hV S2 eS2
  refine lv_iload_n C0.x C0.b dX8_scrap_15 rfl (lv_at hl 0 rfl) ?_
  exact r_iret C0 rfl hw hV dX8_scrap_16
/-! StepBenchModel.areHeaps(IIII)Z -/
abbrev rm_X8_areHeaps : Room := { frames := 1, cells := 0, slots := 0, locals := 25 }
set_option maxRecDepth 20000 in
theorem cw_X8_areHeaps_96 : Cond.constantLong RX8 96 1000 ∈ wsX8_areHeaps := by decide +kernel
set_option maxRecDepth 20000 in
theorem hd_X8_areHeaps : yX8_areHeaps.cls ≠ "java/lang/invoke/MethodHandle" ∧ yX8_areHeaps.cls ≠ "java/lang/invoke/VarHandle" ∧ (parseMethodDescriptor yX8_areHeaps.desc).map (fun d => d.parameters.length) = some 4 := by decide +kernel
def V_X8_areHeaps  (p0 : Int32) (p1 : Int32) (p2 : Int32) (p3 : Int32) (S : SS) (post : Int32 → SS → Prop) : Prop :=
  (V_X8_in p0.toInt64 (0 : Int64) (1000 : Int64) S (fun (r1 : Int32) (S2 : SS) => ((r1 = 0 → (post (0 : Int32) S2)) ∧ (¬ r1 = 0 → (V_X8_in p1.toInt64 (0 : Int64) (1000 : Int64) S2 (fun (r4 : Int32) (S5 : SS) => ((r4 = 0 → (post (0 : Int32) S5)) ∧ (¬ r4 = 0 → (V_X8_in p2.toInt64 (0 : Int64) (1000 : Int64) S5 (fun (r7 : Int32) (S8 : SS) => ((r7 = 0 → (post (0 : Int32) S8)) ∧ (¬ r7 = 0 → (V_X8_in p3.toInt64 (0 : Int64) (1000 : Int64) S8 (fun (r10 : Int32) (S11 : SS) => ((r10 = 0 → (post (0 : Int32) S11)) ∧ (¬ r10 = 0 → (post (1 : Int32) S11)))))))))))))))))
set_option maxHeartbeats 4000000 in
set_option maxRecDepth 100000 in
theorem c_X8_areHeaps  {S : SS} {p0 : Int32} {p1 : Int32} {p2 : Int32} {p3 : Int32} {post : Int32 → SS → Prop} (hV : V_X8_areHeaps  p0 p1 p2 p3 S post) : MI l yX8_areHeaps wsX8_areHeaps rm_X8_areHeaps [.int p0, .int p1, .int p2, .int p3] D n0 ad cI cJ X S post := by
  refine Met.ofW (cc := cX8_areHeaps) (maxL := 4) (ret := (some .boolean)) (by decide) rfl ?_
  intro p e s m args below meth c s₁ B hml hv
  obtain ⟨rfl, hv⟩ := hv
  have C0 := Bd.mk B hml (atoms_spec (ws := wsX8_areHeaps) B.pre) (findClass_of_methodNamed B.named) hv.1
  have hw : Wh D n0 ad cI cJ X S s s.heap [] := ⟨hv.2.1, hv.2.2, va_S.rf⟩
  refine r_entry (Nat.le_of_ble_eq_true rfl) (fun ls hl => ?_)
  have hl : lv_has ls 4 [(0, .int p0), (1, .int p1), (2, .int p2), (3, .int p3)] := hl
  unfold V_X8_areHeaps at hV
  refine lv_iload_n C0.x C0.b dX8_areHeaps_0 rfl (lv_at hl 0 rfl) ?_
  refine lv_i2l C0.x C0.b dX8_areHeaps_1 rfl ?_
  refine lv_lconst (v := 0) C0.x C0.b dX8_areHeaps_2 (by decide) ?_
  refine lv_ldc2 (v := 1000) C0.x C0.b C0.ow (C0.ts _ cw_X8_areHeaps_96) dX8_areHeaps_3 ?_
  refine r_cS_i (As := [.long p0.toInt64, .long (0 : Int64), .long (1000 : Int64)]) (rest := []) C0 hw (c_X8_in  hV) (va_cwS 3 C0.ts gX8_areHeaps_X8_in rfl rfl rfl hd_X8_in ⟨Nat.le_of_ble_eq_true rfl, Nat.le_of_ble_eq_true rfl⟩) rfl hl.1 rfl (Nat.le_of_ble_eq_true rfl) ⟨Nat.le_of_ble_eq_true rfl, Nat.le_of_ble_eq_true rfl⟩ dX8_areHeaps_6 (fun r1 S2 H locs hV hw => ?_)
  refine lv_if_eq (tgt := 52) C0.x C0.b dX8_areHeaps_9 (by decide) (fun c3 => ?_) (fun c3 => ?_)
  · have hV := hV.1 c3
    refine lv_iconst (v := 0) C0.x C0.b dX8_areHeaps_52 (by decide) ?_
    exact r_zret C0 rfl bz_0 hw hV dX8_areHeaps_53
  · have hV := hV.2 c3
    refine lv_iload_n C0.x C0.b dX8_areHeaps_12 rfl (lv_at hl 1 rfl) ?_
    refine lv_i2l C0.x C0.b dX8_areHeaps_13 rfl ?_
    refine lv_lconst (v := 0) C0.x C0.b dX8_areHeaps_14 (by decide) ?_
    refine lv_ldc2 (v := 1000) C0.x C0.b C0.ow (C0.ts _ cw_X8_areHeaps_96) dX8_areHeaps_15 ?_
    refine r_cS_i (As := [.long p1.toInt64, .long (0 : Int64), .long (1000 : Int64)]) (rest := []) C0 hw (c_X8_in  hV) (va_cwS 3 C0.ts gX8_areHeaps_X8_in rfl rfl rfl hd_X8_in ⟨Nat.le_of_ble_eq_true rfl, Nat.le_of_ble_eq_true rfl⟩) rfl hl.1 rfl (Nat.le_of_ble_eq_true rfl) ⟨Nat.le_of_ble_eq_true rfl, Nat.le_of_ble_eq_true rfl⟩ dX8_areHeaps_18 (fun r4 S5 H locs hV hw => ?_)
    refine lv_if_eq (tgt := 52) C0.x C0.b dX8_areHeaps_21 (by decide) (fun c6 => ?_) (fun c6 => ?_)
    · have hV := hV.1 c6
      refine lv_iconst (v := 0) C0.x C0.b dX8_areHeaps_52 (by decide) ?_
      exact r_zret C0 rfl bz_0 hw hV dX8_areHeaps_53
    · have hV := hV.2 c6
      refine lv_iload_n C0.x C0.b dX8_areHeaps_24 rfl (lv_at hl 2 rfl) ?_
      refine lv_i2l C0.x C0.b dX8_areHeaps_25 rfl ?_
      refine lv_lconst (v := 0) C0.x C0.b dX8_areHeaps_26 (by decide) ?_
      refine lv_ldc2 (v := 1000) C0.x C0.b C0.ow (C0.ts _ cw_X8_areHeaps_96) dX8_areHeaps_27 ?_
      refine r_cS_i (As := [.long p2.toInt64, .long (0 : Int64), .long (1000 : Int64)]) (rest := []) C0 hw (c_X8_in  hV) (va_cwS 3 C0.ts gX8_areHeaps_X8_in rfl rfl rfl hd_X8_in ⟨Nat.le_of_ble_eq_true rfl, Nat.le_of_ble_eq_true rfl⟩) rfl hl.1 rfl (Nat.le_of_ble_eq_true rfl) ⟨Nat.le_of_ble_eq_true rfl, Nat.le_of_ble_eq_true rfl⟩ dX8_areHeaps_30 (fun r7 S8 H locs hV hw => ?_)
      refine lv_if_eq (tgt := 52) C0.x C0.b dX8_areHeaps_33 (by decide) (fun c9 => ?_) (fun c9 => ?_)
      · have hV := hV.1 c9
        refine lv_iconst (v := 0) C0.x C0.b dX8_areHeaps_52 (by decide) ?_
        exact r_zret C0 rfl bz_0 hw hV dX8_areHeaps_53
      · have hV := hV.2 c9
        refine lv_iload_n C0.x C0.b dX8_areHeaps_36 rfl (lv_at hl 3 rfl) ?_
        refine lv_i2l C0.x C0.b dX8_areHeaps_37 rfl ?_
        refine lv_lconst (v := 0) C0.x C0.b dX8_areHeaps_38 (by decide) ?_
        refine lv_ldc2 (v := 1000) C0.x C0.b C0.ow (C0.ts _ cw_X8_areHeaps_96) dX8_areHeaps_39 ?_
        refine r_cS_i (As := [.long p3.toInt64, .long (0 : Int64), .long (1000 : Int64)]) (rest := []) C0 hw (c_X8_in  hV) (va_cwS 3 C0.ts gX8_areHeaps_X8_in rfl rfl rfl hd_X8_in ⟨Nat.le_of_ble_eq_true rfl, Nat.le_of_ble_eq_true rfl⟩) rfl hl.1 rfl (Nat.le_of_ble_eq_true rfl) ⟨Nat.le_of_ble_eq_true rfl, Nat.le_of_ble_eq_true rfl⟩ dX8_areHeaps_42 (fun r10 S11 H locs hV hw => ?_)
        refine lv_if_eq (tgt := 52) C0.x C0.b dX8_areHeaps_45 (by decide) (fun c12 => ?_) (fun c12 => ?_)
        · have hV := hV.1 c12
          refine lv_iconst (v := 0) C0.x C0.b dX8_areHeaps_52 (by decide) ?_
          exact r_zret C0 rfl bz_0 hw hV dX8_areHeaps_53
        · have hV := hV.2 c12
          refine lv_iconst (v := 1) C0.x C0.b dX8_areHeaps_48 (by decide) ?_
          refine lv_goto (tgt := 53) C0.x C0.b dX8_areHeaps_49 (by decide) ?_
          exact r_zret C0 rfl bz_1 hw hV dX8_areHeaps_53
/-! StepBenchModel.go(IIIII)I -/
abbrev rm_X8_go : Room := { frames := 2, cells := 0, slots := 0, locals := 48 }
set_option maxRecDepth 20000 in
theorem fw_X8_go_61 : Cond.fieldLink RX8 61 "StepBenchModel" "thrown" "I" ∈ wsX8_go := by decide +kernel
set_option maxRecDepth 20000 in
theorem iw_X8_go_X8 : ∀ w ∈ wsX80, w ∈ wsX8_go := by decide +kernel
set_option maxRecDepth 20000 in
theorem fw_X8_go_130 : Cond.fieldLink RX8 130 "StepBenchModel" "acts" "I" ∈ wsX8_go := by decide +kernel
set_option maxRecDepth 20000 in
theorem cw_X8_go_157 : Cond.constantLong RX8 157 100000 ∈ wsX8_go := by decide +kernel
set_option maxRecDepth 20000 in
theorem fw_X8_go_32 : Cond.fieldLink RX8 32 "StepBenchModel" "found" "[J" ∈ wsX8_go := by decide +kernel
set_option maxRecDepth 20000 in
theorem fw_X8_go_58 : Cond.fieldLink RX8 58 "StepBenchModel" "act" "[I" ∈ wsX8_go := by decide +kernel
set_option maxRecDepth 20000 in
theorem hd_X8_go : yX8_go.cls = RX8 ∧ yX8_go.cls ≠ "java/lang/invoke/MethodHandle" ∧ yX8_go.cls ≠ "java/lang/invoke/VarHandle" ∧ (parseMethodDescriptor yX8_go.desc).map (fun d => d.parameters.length) = some 5 := by decide +kernel
def V_X8_go_81  (v5 : Int32)  (post : Int32 → SS → Prop) : Nat → Int32 → Int32 → Int32 → SS → Prop
  | 0, _, _, _, _ => False
  | n + 1, v6, v7, v8, S =>
    ((v8 = (-2 : Int32) → (((gI S 31) ≤ v6 → ((v6 < (gI S 31) → (vp_in ((4 : Int32) * v6) 48 ∧ (vp_in (((4 : Int32) * v6) + (1 : Int32)) 48 ∧ (∀ x16 : Int32, x16 = v7 + 1 → (((gB S 3 ((4 : Int32) * v6).toNatClampNeg) = (2 : Int32) → (V_X8_go_81  v5  post n v6 x16 (1 : Int32) S)) ∧ (¬ (gB S 3 ((4 : Int32) * v6).toNatClampNeg) = (2 : Int32) → (((gB S 3 ((4 : Int32) * v6).toNatClampNeg) = 0 → (vp_in (gB S 3 (((4 : Int32) * v6) + (1 : Int32)).toNatClampNeg) 20000 ∧ (vp_in (gB S 3 (((4 : Int32) * v6) + (1 : Int32)).toNatClampNeg) 20000 ∧ ∀ S19 : SS, S19 = (sA S 36 (vp_updL (gA S 36) (gB S 3 (((4 : Int32) * v6) + (1 : Int32)).toNatClampNeg).toNatClampNeg ((gA S 36 (gB S 3 (((4 : Int32) * v6) + (1 : Int32)).toNatClampNeg).toNatClampNeg) + (1 : Int64)))) → (vp_in (((4 : Int32) * v6) + (2 : Int32)) 48 ∧ (V_X8_go_81  v5  post n (gB S19 3 (((4 : Int32) * v6) + (2 : Int32)).toNatClampNeg) x16 v8 S19))))) ∧ (¬ (gB S 3 ((4 : Int32) * v6).toNatClampNeg) = 0 → (vp_in (gB S 3 (((4 : Int32) * v6) + (1 : Int32)).toNatClampNeg) 20000 ∧ (((gA S 36 (gB S 3 (((4 : Int32) * v6) + (1 : Int32)).toNatClampNeg).toNatClampNeg) ≤ (0 : Int64) → (vp_in (((4 : Int32) * v6) + (3 : Int32)) 48 ∧ (V_X8_go_81  v5  post n (gB S 3 (((4 : Int32) * v6) + (3 : Int32)).toNatClampNeg) x16 v8 S))) ∧ (¬ (gA S 36 (gB S 3 (((4 : Int32) * v6) + (1 : Int32)).toNatClampNeg).toNatClampNeg) ≤ (0 : Int64) → (vp_in (gB S 3 (((4 : Int32) * v6) + (1 : Int32)).toNatClampNeg) 20000 ∧ (vp_in (gB S 3 (((4 : Int32) * v6) + (1 : Int32)).toNatClampNeg) 20000 ∧ ∀ S21 : SS, S21 = (sA S 36 (vp_updL (gA S 36) (gB S 3 (((4 : Int32) * v6) + (1 : Int32)).toNatClampNeg).toNatClampNeg ((gA S 36 (gB S 3 (((4 : Int32) * v6) + (1 : Int32)).toNatClampNeg).toNatClampNeg) - (1 : Int64)))) → (vp_in (((4 : Int32) * v6) + (2 : Int32)) 48 ∧ (V_X8_go_81  v5  post n (gB S21 3 (((4 : Int32) * v6) + (2 : Int32)).toNatClampNeg) x16 v8 S21))))))))))))))) ∧ (¬ v6 < (gI S 31) → (V_X8_go_81  v5  post n v6 v7 (0 : Int32) S)))) ∧ (¬ (gI S 31) ≤ v6 → ((v5 ≤ v7 → (vp_in (4 : Int32) 20000 ∧ ∀ S23 : SS, S23 = (sA S 36 (vp_updL (gA S 36) (4 : Int32).toNatClampNeg v7.toInt64)) → (V_X8_tells (5 : Int32) S23 (fun (S25 : SS) => (post v8 S25))))) ∧ (¬ v5 ≤ v7 → ((v6 < (gI S 31) → (vp_in ((4 : Int32) * v6) 48 ∧ (vp_in (((4 : Int32) * v6) + (1 : Int32)) 48 ∧ (∀ x27 : Int32, x27 = v7 + 1 → (((gB S 3 ((4 : Int32) * v6).toNatClampNeg) = (2 : Int32) → (V_X8_go_81  v5  post n v6 x27 (1 : Int32) S)) ∧ (¬ (gB S 3 ((4 : Int32) * v6).toNatClampNeg) = (2 : Int32) → (((gB S 3 ((4 : Int32) * v6).toNatClampNeg) = 0 → (vp_in (gB S 3 (((4 : Int32) * v6) + (1 : Int32)).toNatClampNeg) 20000 ∧ (vp_in (gB S 3 (((4 : Int32) * v6) + (1 : Int32)).toNatClampNeg) 20000 ∧ ∀ S30 : SS, S30 = (sA S 36 (vp_updL (gA S 36) (gB S 3 (((4 : Int32) * v6) + (1 : Int32)).toNatClampNeg).toNatClampNeg ((gA S 36 (gB S 3 (((4 : Int32) * v6) + (1 : Int32)).toNatClampNeg).toNatClampNeg) + (1 : Int64)))) → (vp_in (((4 : Int32) * v6) + (2 : Int32)) 48 ∧ (V_X8_go_81  v5  post n (gB S30 3 (((4 : Int32) * v6) + (2 : Int32)).toNatClampNeg) x27 v8 S30))))) ∧ (¬ (gB S 3 ((4 : Int32) * v6).toNatClampNeg) = 0 → (vp_in (gB S 3 (((4 : Int32) * v6) + (1 : Int32)).toNatClampNeg) 20000 ∧ (((gA S 36 (gB S 3 (((4 : Int32) * v6) + (1 : Int32)).toNatClampNeg).toNatClampNeg) ≤ (0 : Int64) → (vp_in (((4 : Int32) * v6) + (3 : Int32)) 48 ∧ (V_X8_go_81  v5  post n (gB S 3 (((4 : Int32) * v6) + (3 : Int32)).toNatClampNeg) x27 v8 S))) ∧ (¬ (gA S 36 (gB S 3 (((4 : Int32) * v6) + (1 : Int32)).toNatClampNeg).toNatClampNeg) ≤ (0 : Int64) → (vp_in (gB S 3 (((4 : Int32) * v6) + (1 : Int32)).toNatClampNeg) 20000 ∧ (vp_in (gB S 3 (((4 : Int32) * v6) + (1 : Int32)).toNatClampNeg) 20000 ∧ ∀ S32 : SS, S32 = (sA S 36 (vp_updL (gA S 36) (gB S 3 (((4 : Int32) * v6) + (1 : Int32)).toNatClampNeg).toNatClampNeg ((gA S 36 (gB S 3 (((4 : Int32) * v6) + (1 : Int32)).toNatClampNeg).toNatClampNeg) - (1 : Int64)))) → (vp_in (((4 : Int32) * v6) + (2 : Int32)) 48 ∧ (V_X8_go_81  v5  post n (gB S32 3 (((4 : Int32) * v6) + (2 : Int32)).toNatClampNeg) x27 v8 S32))))))))))))))) ∧ (¬ v6 < (gI S 31) → (V_X8_go_81  v5  post n v6 v7 (0 : Int32) S)))))))) ∧ (¬ v8 = (-2 : Int32) → (vp_in (4 : Int32) 20000 ∧ ∀ S33 : SS, S33 = (sA S 36 (vp_updL (gA S 36) (4 : Int32).toNatClampNeg v7.toInt64)) → (V_X8_tells (5 : Int32) S33 (fun (S35 : SS) => (post v8 S35))))))
set_option maxHeartbeats 4000000 in
set_option maxRecDepth 100000 in
theorem lp_X8_go_81  (v5 : Int32)  (post : Int32 → SS → Prop) (C0 : Bd p s m meth c args cX8_go 11 (some .int) wsX8_go RX8 D n0 cI cJ) : ∀ (n : Nat) (v6 : Int32) (v7 : Int32) (v8 : Int32) (S : SS), V_X8_go_81  v5  post n v6 v7 v8 S → ∀ (H : Heap) (locs : List Loc), Wh D n0 ad cI cJ X S s H locs → ∀ ls : Array Slot, lv_has ls 11 [(0, .ref (ad 48)), (5, .int v5), (6, .int v6), (7, .int v7), (8, .int v8)] → W p l e rm_X8_go s m args below meth c H locs 0 0 (MQ below (va_Qi post (fun S' t => Wd D n0 ad cI cJ X S' t) (fr n0)) args s 0 0 (fr n0)) (F0 m 81 ls []) := by
  intro n
  induction n with
  | zero => intro v6 v7 v8 S hV; exact False.elim hV
  | succ n ih =>
    intro v6 v7 v8 S hV H locs hw ls hl
    rw [V_X8_go_81] at hV
    refine lv_iload C0.x C0.b dX8_go_81 (lv_at hl 4 rfl) ?_
    refine lv_bipush (v := -2) C0.x C0.b dX8_go_83 (by decide) ?_
    refine lv_icmp_ne (tgt := 245) C0.x C0.b dX8_go_85 (by decide) (fun c13 => ?_) (fun c13 => ?_)
    · have hV := hV.2 c13
      refine lv_aload_n C0.x C0.b dX8_go_245 rfl (lv_at hl 0 rfl) ?_
      refine r_get C0 hw (C := RX8) (T := TX8) (N := 33) (v := .ref (ad 55)) iw_X8_go_X8 (lg_48 ad cI cJ X S) rfl 16 (by decide) (C0.ts _ fw_X8_go_32) rfl dX8_go_246 ?_
      refine lv_iconst (v := 4) C0.x C0.b dX8_go_249 (by decide) ?_
      refine lv_iload C0.x C0.b dX8_go_250 (lv_at hl 3 rfl) ?_
      refine lv_i2l C0.x C0.b dX8_go_252 rfl ?_
      refine r_last C0 hw (lg_55 ad cI cJ X S) hV.1 dX8_go_253 (S' := (sA S 36 (vp_updL (gA S 36) (4 : Int32).toNatClampNeg v7.toInt64))) (ls_55 ad cI cJ X S (vp_updL (gA S 36) (4 : Int32).toNatClampNeg v7.toInt64)) (fun S33 H locs eS33 hw => ?_)
      have hV := hV.2 S33 eS33
      refine lv_aload_n C0.x C0.b dX8_go_254 rfl (lv_at hl 0 rfl) ?_
      refine lv_iconst (v := 5) C0.x C0.b dX8_go_255 (by decide) ?_
      refine r_cV_v (As := [.int (5 : Int32)]) (rest := []) C0 hw (c_X8_tells  hV) (cwV 1 C0.ts gX8_go_X8_tells rfl rfl rfl hd_X8_tells ⟨Nat.le_of_ble_eq_true rfl, Nat.le_of_ble_eq_true rfl⟩) (lg_48 ad cI cJ X S33) rfl rfl hl.1 rfl (Nat.le_of_ble_eq_true rfl) ⟨Nat.le_of_ble_eq_true rfl, Nat.le_of_ble_eq_true rfl⟩ dX8_go_256 (fun S35 H locs hV hw => ?_)
      refine lv_iload C0.x C0.b dX8_go_259 (lv_at hl 4 rfl) ?_
      exact r_iret C0 rfl hw hV dX8_go_261
    · have hV := hV.1 c13
      refine lv_iload C0.x C0.b dX8_go_88 (lv_at hl 2 rfl) ?_
      refine lv_aload_n C0.x C0.b dX8_go_90 rfl (lv_at hl 0 rfl) ?_
      refine r_get C0 hw (C := RX8) (T := TX8) (N := 33) (v := .int (gI S 31)) iw_X8_go_X8 (lg_48 ad cI cJ X S) rfl 31 (by decide) (C0.ts _ fw_X8_go_130) rfl dX8_go_91 ?_
      refine lv_icmp_ge (tgt := 104) C0.x C0.b dX8_go_94 (by decide) (fun c14 => ?_) (fun c14 => ?_)
      · have hV := hV.1 c14
        refine lv_iload C0.x C0.b dX8_go_104 (lv_at hl 2 rfl) ?_
        refine lv_aload_n C0.x C0.b dX8_go_106 rfl (lv_at hl 0 rfl) ?_
        refine r_get C0 hw (C := RX8) (T := TX8) (N := 33) (v := .int (gI S 31)) iw_X8_go_X8 (lg_48 ad cI cJ X S) rfl 31 (by decide) (C0.ts _ fw_X8_go_130) rfl dX8_go_107 ?_
        refine lv_icmp_lt (tgt := 119) C0.x C0.b dX8_go_110 (by decide) (fun c15 => ?_) (fun c15 => ?_)
        · have hV := hV.1 c15
          refine lv_aload_n C0.x C0.b dX8_go_119 rfl (lv_at hl 0 rfl) ?_
          refine r_get C0 hw (C := RX8) (T := TX8) (N := 33) (v := .ref (ad 63)) iw_X8_go_X8 (lg_48 ad cI cJ X S) rfl 32 (by decide) (C0.ts _ fw_X8_go_58) rfl dX8_go_120 ?_
          refine lv_iconst (v := 4) C0.x C0.b dX8_go_123 (by decide) ?_
          refine lv_iload C0.x C0.b dX8_go_124 (lv_at hl 2 rfl) ?_
          refine lv_imul C0.x C0.b dX8_go_126 ?_
          refine r_iald C0 hw (lg_63 ad cI cJ X S) hV.1 dX8_go_127 ?_
          have hV := hV.2
          refine lv_istore (lv' := [(9, .int (gB S 3 ((4 : Int32) * v6).toNatClampNeg)), (0, .ref (ad 48)), (5, .int v5), (6, .int v6), (7, .int v7), (8, .int v8)]) C0.x C0.b dX8_go_128 hl (by decide) rfl (fun ls hl => ?_)
          refine lv_aload_n C0.x C0.b dX8_go_130 rfl (lv_at hl 1 rfl) ?_
          refine r_get C0 hw (C := RX8) (T := TX8) (N := 33) (v := .ref (ad 63)) iw_X8_go_X8 (lg_48 ad cI cJ X S) rfl 32 (by decide) (C0.ts _ fw_X8_go_58) rfl dX8_go_131 ?_
          refine lv_iconst (v := 4) C0.x C0.b dX8_go_134 (by decide) ?_
          refine lv_iload C0.x C0.b dX8_go_135 (lv_at hl 3 rfl) ?_
          refine lv_imul C0.x C0.b dX8_go_137 ?_
          refine lv_iconst (v := 1) C0.x C0.b dX8_go_138 (by decide) ?_
          refine lv_iadd C0.x C0.b dX8_go_139 ?_
          refine r_iald C0 hw (lg_63 ad cI cJ X S) hV.1 dX8_go_140 ?_
          have hV := hV.2
          refine lv_istore (lv' := [(10, .int (gB S 3 (((4 : Int32) * v6) + (1 : Int32)).toNatClampNeg)), (9, .int (gB S 3 ((4 : Int32) * v6).toNatClampNeg)), (0, .ref (ad 48)), (5, .int v5), (6, .int v6), (7, .int v7), (8, .int v8)]) C0.x C0.b dX8_go_141 hl (by decide) rfl (fun ls hl => ?_)
          obtain ⟨x16, ex16⟩ : ∃ z : Int32, z = v7 + 1 := ⟨_, rfl⟩
          have hV := hV x16 ex16
          refine lv_iinc (v := x16) (lv' := [(7, .int x16), (10, .int (gB S 3 (((4 : Int32) * v6) + (1 : Int32)).toNatClampNeg)), (9, .int (gB S 3 ((4 : Int32) * v6).toNatClampNeg)), (0, .ref (ad 48)), (5, .int v5), (6, .int v6), (8, .int v8)]) C0.x C0.b dX8_go_143 hl (k := 5) rfl (by rw [ex16]; rfl) (by decide) rfl (fun ls hl => ?_)
          refine lv_iload C0.x C0.b dX8_go_146 (lv_at hl 2 rfl) ?_
          refine lv_iconst (v := 2) C0.x C0.b dX8_go_148 (by decide) ?_
          refine lv_icmp_ne (tgt := 158) C0.x C0.b dX8_go_149 (by decide) (fun c17 => ?_) (fun c17 => ?_)
          · have hV := hV.2 c17
            refine lv_iload C0.x C0.b dX8_go_158 (lv_at hl 2 rfl) ?_
            refine lv_if_ne (tgt := 190) C0.x C0.b dX8_go_160 (by decide) (fun c18 => ?_) (fun c18 => ?_)
            · have hV := hV.2 c18
              refine lv_aload_n C0.x C0.b dX8_go_190 rfl (lv_at hl 3 rfl) ?_
              refine r_get C0 hw (C := RX8) (T := TX8) (N := 33) (v := .ref (ad 55)) iw_X8_go_X8 (lg_48 ad cI cJ X S) rfl 16 (by decide) (C0.ts _ fw_X8_go_32) rfl dX8_go_191 ?_
              refine lv_iload C0.x C0.b dX8_go_194 (lv_at hl 1 rfl) ?_
              refine r_lald C0 hw (lg_55 ad cI cJ X S) hV.1 dX8_go_196 ?_
              have hV := hV.2
              refine lv_lconst (v := 0) C0.x C0.b dX8_go_197 (by decide) ?_
              refine r_lcmp C0 dX8_go_198 ?_
              refine lv_if_le (tgt := 229) C0.x C0.b dX8_go_199 (by decide) (fun c20 => ?_) (fun c20 => ?_)
              · have hV := hV.1 ((lc_le _ _).mp c20)
                refine lv_aload_n C0.x C0.b dX8_go_229 rfl (lv_at hl 3 rfl) ?_
                refine r_get C0 hw (C := RX8) (T := TX8) (N := 33) (v := .ref (ad 63)) iw_X8_go_X8 (lg_48 ad cI cJ X S) rfl 32 (by decide) (C0.ts _ fw_X8_go_58) rfl dX8_go_230 ?_
                refine lv_iconst (v := 4) C0.x C0.b dX8_go_233 (by decide) ?_
                refine lv_iload C0.x C0.b dX8_go_234 (lv_at hl 5 rfl) ?_
                refine lv_imul C0.x C0.b dX8_go_236 ?_
                refine lv_iconst (v := 3) C0.x C0.b dX8_go_237 (by decide) ?_
                refine lv_iadd C0.x C0.b dX8_go_238 ?_
                refine r_iald C0 hw (lg_63 ad cI cJ X S) hV.1 dX8_go_239 ?_
                have hV := hV.2
                refine lv_istore (lv' := [(6, .int (gB S 3 (((4 : Int32) * v6) + (3 : Int32)).toNatClampNeg)), (7, .int x16), (10, .int (gB S 3 (((4 : Int32) * v6) + (1 : Int32)).toNatClampNeg)), (9, .int (gB S 3 ((4 : Int32) * v6).toNatClampNeg)), (0, .ref (ad 48)), (5, .int v5), (8, .int v8)]) C0.x C0.b dX8_go_240 hl (by decide) rfl (fun ls hl => ?_)
                refine lv_goto (tgt := 81) C0.x C0.b dX8_go_242 (by decide) ?_
                exact ih _ _ _ _ hV _ _ hw _ (lv_sub hl [4, 5, 0, 1, 6] rfl)
              · have hV := hV.2 (fun h => c20 ((lc_le _ _).mpr h))
                refine lv_aload_n C0.x C0.b dX8_go_202 rfl (lv_at hl 3 rfl) ?_
                refine r_get C0 hw (C := RX8) (T := TX8) (N := 33) (v := .ref (ad 55)) iw_X8_go_X8 (lg_48 ad cI cJ X S) rfl 16 (by decide) (C0.ts _ fw_X8_go_32) rfl dX8_go_203 ?_
                refine lv_iload C0.x C0.b dX8_go_206 (lv_at hl 1 rfl) ?_
                refine lv_dup2_11 C0.x C0.b dX8_go_208 rfl rfl ?_
                refine r_lald C0 hw (lg_55 ad cI cJ X S) hV.1 dX8_go_209 ?_
                have hV := hV.2
                refine lv_lconst (v := 1) C0.x C0.b dX8_go_210 (by decide) ?_
                refine lv_lsub C0.x C0.b dX8_go_211 ?_
                refine r_last C0 hw (lg_55 ad cI cJ X S) hV.1 dX8_go_212 (S' := (sA S 36 (vp_updL (gA S 36) (gB S 3 (((4 : Int32) * v6) + (1 : Int32)).toNatClampNeg).toNatClampNeg ((gA S 36 (gB S 3 (((4 : Int32) * v6) + (1 : Int32)).toNatClampNeg).toNatClampNeg) - (1 : Int64))))) (ls_55 ad cI cJ X S (vp_updL (gA S 36) (gB S 3 (((4 : Int32) * v6) + (1 : Int32)).toNatClampNeg).toNatClampNeg ((gA S 36 (gB S 3 (((4 : Int32) * v6) + (1 : Int32)).toNatClampNeg).toNatClampNeg) - (1 : Int64)))) (fun S21 H locs eS21 hw => ?_)
                have hV := hV.2 S21 eS21
                refine lv_aload_n C0.x C0.b dX8_go_213 rfl (lv_at hl 3 rfl) ?_
                refine r_get C0 hw (C := RX8) (T := TX8) (N := 33) (v := .ref (ad 63)) iw_X8_go_X8 (lg_48 ad cI cJ X S21) rfl 32 (by decide) (C0.ts _ fw_X8_go_58) rfl dX8_go_214 ?_
                refine lv_iconst (v := 4) C0.x C0.b dX8_go_217 (by decide) ?_
                refine lv_iload C0.x C0.b dX8_go_218 (lv_at hl 5 rfl) ?_
                refine lv_imul C0.x C0.b dX8_go_220 ?_
                refine lv_iconst (v := 2) C0.x C0.b dX8_go_221 (by decide) ?_
                refine lv_iadd C0.x C0.b dX8_go_222 ?_
                refine r_iald C0 hw (lg_63 ad cI cJ X S21) hV.1 dX8_go_223 ?_
                have hV := hV.2
                refine lv_istore (lv' := [(6, .int (gB S21 3 (((4 : Int32) * v6) + (2 : Int32)).toNatClampNeg)), (7, .int x16), (10, .int (gB S 3 (((4 : Int32) * v6) + (1 : Int32)).toNatClampNeg)), (9, .int (gB S 3 ((4 : Int32) * v6).toNatClampNeg)), (0, .ref (ad 48)), (5, .int v5), (8, .int v8)]) C0.x C0.b dX8_go_224 hl (by decide) rfl (fun ls hl => ?_)
                refine lv_goto (tgt := 242) C0.x C0.b dX8_go_226 (by decide) ?_
                refine lv_goto (tgt := 81) C0.x C0.b dX8_go_242 (by decide) ?_
                exact ih _ _ _ _ hV _ _ hw _ (lv_sub hl [4, 5, 0, 1, 6] rfl)
            · have hV := hV.1 c18
              refine lv_aload_n C0.x C0.b dX8_go_163 rfl (lv_at hl 3 rfl) ?_
              refine r_get C0 hw (C := RX8) (T := TX8) (N := 33) (v := .ref (ad 55)) iw_X8_go_X8 (lg_48 ad cI cJ X S) rfl 16 (by decide) (C0.ts _ fw_X8_go_32) rfl dX8_go_164 ?_
              refine lv_iload C0.x C0.b dX8_go_167 (lv_at hl 1 rfl) ?_
              refine lv_dup2_11 C0.x C0.b dX8_go_169 rfl rfl ?_
              refine r_lald C0 hw (lg_55 ad cI cJ X S) hV.1 dX8_go_170 ?_
              have hV := hV.2
              refine lv_lconst (v := 1) C0.x C0.b dX8_go_171 (by decide) ?_
              refine lv_ladd C0.x C0.b dX8_go_172 ?_
              refine r_last C0 hw (lg_55 ad cI cJ X S) hV.1 dX8_go_173 (S' := (sA S 36 (vp_updL (gA S 36) (gB S 3 (((4 : Int32) * v6) + (1 : Int32)).toNatClampNeg).toNatClampNeg ((gA S 36 (gB S 3 (((4 : Int32) * v6) + (1 : Int32)).toNatClampNeg).toNatClampNeg) + (1 : Int64))))) (ls_55 ad cI cJ X S (vp_updL (gA S 36) (gB S 3 (((4 : Int32) * v6) + (1 : Int32)).toNatClampNeg).toNatClampNeg ((gA S 36 (gB S 3 (((4 : Int32) * v6) + (1 : Int32)).toNatClampNeg).toNatClampNeg) + (1 : Int64)))) (fun S19 H locs eS19 hw => ?_)
              have hV := hV.2 S19 eS19
              refine lv_aload_n C0.x C0.b dX8_go_174 rfl (lv_at hl 3 rfl) ?_
              refine r_get C0 hw (C := RX8) (T := TX8) (N := 33) (v := .ref (ad 63)) iw_X8_go_X8 (lg_48 ad cI cJ X S19) rfl 32 (by decide) (C0.ts _ fw_X8_go_58) rfl dX8_go_175 ?_
              refine lv_iconst (v := 4) C0.x C0.b dX8_go_178 (by decide) ?_
              refine lv_iload C0.x C0.b dX8_go_179 (lv_at hl 5 rfl) ?_
              refine lv_imul C0.x C0.b dX8_go_181 ?_
              refine lv_iconst (v := 2) C0.x C0.b dX8_go_182 (by decide) ?_
              refine lv_iadd C0.x C0.b dX8_go_183 ?_
              refine r_iald C0 hw (lg_63 ad cI cJ X S19) hV.1 dX8_go_184 ?_
              have hV := hV.2
              refine lv_istore (lv' := [(6, .int (gB S19 3 (((4 : Int32) * v6) + (2 : Int32)).toNatClampNeg)), (7, .int x16), (10, .int (gB S 3 (((4 : Int32) * v6) + (1 : Int32)).toNatClampNeg)), (9, .int (gB S 3 ((4 : Int32) * v6).toNatClampNeg)), (0, .ref (ad 48)), (5, .int v5), (8, .int v8)]) C0.x C0.b dX8_go_185 hl (by decide) rfl (fun ls hl => ?_)
              refine lv_goto (tgt := 242) C0.x C0.b dX8_go_187 (by decide) ?_
              refine lv_goto (tgt := 81) C0.x C0.b dX8_go_242 (by decide) ?_
              exact ih _ _ _ _ hV _ _ hw _ (lv_sub hl [4, 5, 0, 1, 6] rfl)
          · have hV := hV.1 c17
            refine lv_iconst (v := 1) C0.x C0.b dX8_go_152 (by decide) ?_
            refine lv_istore (lv' := [(8, .int (1 : Int32)), (7, .int x16), (10, .int (gB S 3 (((4 : Int32) * v6) + (1 : Int32)).toNatClampNeg)), (9, .int (gB S 3 ((4 : Int32) * v6).toNatClampNeg)), (0, .ref (ad 48)), (5, .int v5), (6, .int v6)]) C0.x C0.b dX8_go_153 hl (by decide) rfl (fun ls hl => ?_)
            refine lv_goto (tgt := 242) C0.x C0.b dX8_go_155 (by decide) ?_
            refine lv_goto (tgt := 81) C0.x C0.b dX8_go_242 (by decide) ?_
            exact ih _ _ _ _ hV _ _ hw _ (lv_sub hl [4, 5, 6, 1, 0] rfl)
        · have hV := hV.2 c15
          refine lv_iconst (v := 0) C0.x C0.b dX8_go_113 (by decide) ?_
          refine lv_istore (lv' := [(8, .int (0 : Int32)), (0, .ref (ad 48)), (5, .int v5), (6, .int v6), (7, .int v7)]) C0.x C0.b dX8_go_114 hl (by decide) rfl (fun ls hl => ?_)
          refine lv_goto (tgt := 81) C0.x C0.b dX8_go_116 (by decide) ?_
          exact ih _ _ _ _ hV _ _ hw _ (lv_sub hl [1, 2, 3, 4, 0] rfl)
      · have hV := hV.2 c14
        refine lv_iload C0.x C0.b dX8_go_97 (lv_at hl 3 rfl) ?_
        refine lv_iload C0.x C0.b dX8_go_99 (lv_at hl 1 rfl) ?_
        refine lv_icmp_ge (tgt := 245) C0.x C0.b dX8_go_101 (by decide) (fun c22 => ?_) (fun c22 => ?_)
        · have hV := hV.1 c22
          refine lv_aload_n C0.x C0.b dX8_go_245 rfl (lv_at hl 0 rfl) ?_
          refine r_get C0 hw (C := RX8) (T := TX8) (N := 33) (v := .ref (ad 55)) iw_X8_go_X8 (lg_48 ad cI cJ X S) rfl 16 (by decide) (C0.ts _ fw_X8_go_32) rfl dX8_go_246 ?_
          refine lv_iconst (v := 4) C0.x C0.b dX8_go_249 (by decide) ?_
          refine lv_iload C0.x C0.b dX8_go_250 (lv_at hl 3 rfl) ?_
          refine lv_i2l C0.x C0.b dX8_go_252 rfl ?_
          refine r_last C0 hw (lg_55 ad cI cJ X S) hV.1 dX8_go_253 (S' := (sA S 36 (vp_updL (gA S 36) (4 : Int32).toNatClampNeg v7.toInt64))) (ls_55 ad cI cJ X S (vp_updL (gA S 36) (4 : Int32).toNatClampNeg v7.toInt64)) (fun S23 H locs eS23 hw => ?_)
          have hV := hV.2 S23 eS23
          refine lv_aload_n C0.x C0.b dX8_go_254 rfl (lv_at hl 0 rfl) ?_
          refine lv_iconst (v := 5) C0.x C0.b dX8_go_255 (by decide) ?_
          refine r_cV_v (As := [.int (5 : Int32)]) (rest := []) C0 hw (c_X8_tells  hV) (cwV 1 C0.ts gX8_go_X8_tells rfl rfl rfl hd_X8_tells ⟨Nat.le_of_ble_eq_true rfl, Nat.le_of_ble_eq_true rfl⟩) (lg_48 ad cI cJ X S23) rfl rfl hl.1 rfl (Nat.le_of_ble_eq_true rfl) ⟨Nat.le_of_ble_eq_true rfl, Nat.le_of_ble_eq_true rfl⟩ dX8_go_256 (fun S25 H locs hV hw => ?_)
          refine lv_iload C0.x C0.b dX8_go_259 (lv_at hl 4 rfl) ?_
          exact r_iret C0 rfl hw hV dX8_go_261
        · have hV := hV.2 c22
          refine lv_iload C0.x C0.b dX8_go_104 (lv_at hl 2 rfl) ?_
          refine lv_aload_n C0.x C0.b dX8_go_106 rfl (lv_at hl 0 rfl) ?_
          refine r_get C0 hw (C := RX8) (T := TX8) (N := 33) (v := .int (gI S 31)) iw_X8_go_X8 (lg_48 ad cI cJ X S) rfl 31 (by decide) (C0.ts _ fw_X8_go_130) rfl dX8_go_107 ?_
          refine lv_icmp_lt (tgt := 119) C0.x C0.b dX8_go_110 (by decide) (fun c26 => ?_) (fun c26 => ?_)
          · have hV := hV.1 c26
            refine lv_aload_n C0.x C0.b dX8_go_119 rfl (lv_at hl 0 rfl) ?_
            refine r_get C0 hw (C := RX8) (T := TX8) (N := 33) (v := .ref (ad 63)) iw_X8_go_X8 (lg_48 ad cI cJ X S) rfl 32 (by decide) (C0.ts _ fw_X8_go_58) rfl dX8_go_120 ?_
            refine lv_iconst (v := 4) C0.x C0.b dX8_go_123 (by decide) ?_
            refine lv_iload C0.x C0.b dX8_go_124 (lv_at hl 2 rfl) ?_
            refine lv_imul C0.x C0.b dX8_go_126 ?_
            refine r_iald C0 hw (lg_63 ad cI cJ X S) hV.1 dX8_go_127 ?_
            have hV := hV.2
            refine lv_istore (lv' := [(9, .int (gB S 3 ((4 : Int32) * v6).toNatClampNeg)), (0, .ref (ad 48)), (5, .int v5), (6, .int v6), (7, .int v7), (8, .int v8)]) C0.x C0.b dX8_go_128 hl (by decide) rfl (fun ls hl => ?_)
            refine lv_aload_n C0.x C0.b dX8_go_130 rfl (lv_at hl 1 rfl) ?_
            refine r_get C0 hw (C := RX8) (T := TX8) (N := 33) (v := .ref (ad 63)) iw_X8_go_X8 (lg_48 ad cI cJ X S) rfl 32 (by decide) (C0.ts _ fw_X8_go_58) rfl dX8_go_131 ?_
            refine lv_iconst (v := 4) C0.x C0.b dX8_go_134 (by decide) ?_
            refine lv_iload C0.x C0.b dX8_go_135 (lv_at hl 3 rfl) ?_
            refine lv_imul C0.x C0.b dX8_go_137 ?_
            refine lv_iconst (v := 1) C0.x C0.b dX8_go_138 (by decide) ?_
            refine lv_iadd C0.x C0.b dX8_go_139 ?_
            refine r_iald C0 hw (lg_63 ad cI cJ X S) hV.1 dX8_go_140 ?_
            have hV := hV.2
            refine lv_istore (lv' := [(10, .int (gB S 3 (((4 : Int32) * v6) + (1 : Int32)).toNatClampNeg)), (9, .int (gB S 3 ((4 : Int32) * v6).toNatClampNeg)), (0, .ref (ad 48)), (5, .int v5), (6, .int v6), (7, .int v7), (8, .int v8)]) C0.x C0.b dX8_go_141 hl (by decide) rfl (fun ls hl => ?_)
            obtain ⟨x27, ex27⟩ : ∃ z : Int32, z = v7 + 1 := ⟨_, rfl⟩
            have hV := hV x27 ex27
            refine lv_iinc (v := x27) (lv' := [(7, .int x27), (10, .int (gB S 3 (((4 : Int32) * v6) + (1 : Int32)).toNatClampNeg)), (9, .int (gB S 3 ((4 : Int32) * v6).toNatClampNeg)), (0, .ref (ad 48)), (5, .int v5), (6, .int v6), (8, .int v8)]) C0.x C0.b dX8_go_143 hl (k := 5) rfl (by rw [ex27]; rfl) (by decide) rfl (fun ls hl => ?_)
            refine lv_iload C0.x C0.b dX8_go_146 (lv_at hl 2 rfl) ?_
            refine lv_iconst (v := 2) C0.x C0.b dX8_go_148 (by decide) ?_
            refine lv_icmp_ne (tgt := 158) C0.x C0.b dX8_go_149 (by decide) (fun c28 => ?_) (fun c28 => ?_)
            · have hV := hV.2 c28
              refine lv_iload C0.x C0.b dX8_go_158 (lv_at hl 2 rfl) ?_
              refine lv_if_ne (tgt := 190) C0.x C0.b dX8_go_160 (by decide) (fun c29 => ?_) (fun c29 => ?_)
              · have hV := hV.2 c29
                refine lv_aload_n C0.x C0.b dX8_go_190 rfl (lv_at hl 3 rfl) ?_
                refine r_get C0 hw (C := RX8) (T := TX8) (N := 33) (v := .ref (ad 55)) iw_X8_go_X8 (lg_48 ad cI cJ X S) rfl 16 (by decide) (C0.ts _ fw_X8_go_32) rfl dX8_go_191 ?_
                refine lv_iload C0.x C0.b dX8_go_194 (lv_at hl 1 rfl) ?_
                refine r_lald C0 hw (lg_55 ad cI cJ X S) hV.1 dX8_go_196 ?_
                have hV := hV.2
                refine lv_lconst (v := 0) C0.x C0.b dX8_go_197 (by decide) ?_
                refine r_lcmp C0 dX8_go_198 ?_
                refine lv_if_le (tgt := 229) C0.x C0.b dX8_go_199 (by decide) (fun c31 => ?_) (fun c31 => ?_)
                · have hV := hV.1 ((lc_le _ _).mp c31)
                  refine lv_aload_n C0.x C0.b dX8_go_229 rfl (lv_at hl 3 rfl) ?_
                  refine r_get C0 hw (C := RX8) (T := TX8) (N := 33) (v := .ref (ad 63)) iw_X8_go_X8 (lg_48 ad cI cJ X S) rfl 32 (by decide) (C0.ts _ fw_X8_go_58) rfl dX8_go_230 ?_
                  refine lv_iconst (v := 4) C0.x C0.b dX8_go_233 (by decide) ?_
                  refine lv_iload C0.x C0.b dX8_go_234 (lv_at hl 5 rfl) ?_
                  refine lv_imul C0.x C0.b dX8_go_236 ?_
                  refine lv_iconst (v := 3) C0.x C0.b dX8_go_237 (by decide) ?_
                  refine lv_iadd C0.x C0.b dX8_go_238 ?_
                  refine r_iald C0 hw (lg_63 ad cI cJ X S) hV.1 dX8_go_239 ?_
                  have hV := hV.2
                  refine lv_istore (lv' := [(6, .int (gB S 3 (((4 : Int32) * v6) + (3 : Int32)).toNatClampNeg)), (7, .int x27), (10, .int (gB S 3 (((4 : Int32) * v6) + (1 : Int32)).toNatClampNeg)), (9, .int (gB S 3 ((4 : Int32) * v6).toNatClampNeg)), (0, .ref (ad 48)), (5, .int v5), (8, .int v8)]) C0.x C0.b dX8_go_240 hl (by decide) rfl (fun ls hl => ?_)
                  refine lv_goto (tgt := 81) C0.x C0.b dX8_go_242 (by decide) ?_
                  exact ih _ _ _ _ hV _ _ hw _ (lv_sub hl [4, 5, 0, 1, 6] rfl)
                · have hV := hV.2 (fun h => c31 ((lc_le _ _).mpr h))
                  refine lv_aload_n C0.x C0.b dX8_go_202 rfl (lv_at hl 3 rfl) ?_
                  refine r_get C0 hw (C := RX8) (T := TX8) (N := 33) (v := .ref (ad 55)) iw_X8_go_X8 (lg_48 ad cI cJ X S) rfl 16 (by decide) (C0.ts _ fw_X8_go_32) rfl dX8_go_203 ?_
                  refine lv_iload C0.x C0.b dX8_go_206 (lv_at hl 1 rfl) ?_
                  refine lv_dup2_11 C0.x C0.b dX8_go_208 rfl rfl ?_
                  refine r_lald C0 hw (lg_55 ad cI cJ X S) hV.1 dX8_go_209 ?_
                  have hV := hV.2
                  refine lv_lconst (v := 1) C0.x C0.b dX8_go_210 (by decide) ?_
                  refine lv_lsub C0.x C0.b dX8_go_211 ?_
                  refine r_last C0 hw (lg_55 ad cI cJ X S) hV.1 dX8_go_212 (S' := (sA S 36 (vp_updL (gA S 36) (gB S 3 (((4 : Int32) * v6) + (1 : Int32)).toNatClampNeg).toNatClampNeg ((gA S 36 (gB S 3 (((4 : Int32) * v6) + (1 : Int32)).toNatClampNeg).toNatClampNeg) - (1 : Int64))))) (ls_55 ad cI cJ X S (vp_updL (gA S 36) (gB S 3 (((4 : Int32) * v6) + (1 : Int32)).toNatClampNeg).toNatClampNeg ((gA S 36 (gB S 3 (((4 : Int32) * v6) + (1 : Int32)).toNatClampNeg).toNatClampNeg) - (1 : Int64)))) (fun S32 H locs eS32 hw => ?_)
                  have hV := hV.2 S32 eS32
                  refine lv_aload_n C0.x C0.b dX8_go_213 rfl (lv_at hl 3 rfl) ?_
                  refine r_get C0 hw (C := RX8) (T := TX8) (N := 33) (v := .ref (ad 63)) iw_X8_go_X8 (lg_48 ad cI cJ X S32) rfl 32 (by decide) (C0.ts _ fw_X8_go_58) rfl dX8_go_214 ?_
                  refine lv_iconst (v := 4) C0.x C0.b dX8_go_217 (by decide) ?_
                  refine lv_iload C0.x C0.b dX8_go_218 (lv_at hl 5 rfl) ?_
                  refine lv_imul C0.x C0.b dX8_go_220 ?_
                  refine lv_iconst (v := 2) C0.x C0.b dX8_go_221 (by decide) ?_
                  refine lv_iadd C0.x C0.b dX8_go_222 ?_
                  refine r_iald C0 hw (lg_63 ad cI cJ X S32) hV.1 dX8_go_223 ?_
                  have hV := hV.2
                  refine lv_istore (lv' := [(6, .int (gB S32 3 (((4 : Int32) * v6) + (2 : Int32)).toNatClampNeg)), (7, .int x27), (10, .int (gB S 3 (((4 : Int32) * v6) + (1 : Int32)).toNatClampNeg)), (9, .int (gB S 3 ((4 : Int32) * v6).toNatClampNeg)), (0, .ref (ad 48)), (5, .int v5), (8, .int v8)]) C0.x C0.b dX8_go_224 hl (by decide) rfl (fun ls hl => ?_)
                  refine lv_goto (tgt := 242) C0.x C0.b dX8_go_226 (by decide) ?_
                  refine lv_goto (tgt := 81) C0.x C0.b dX8_go_242 (by decide) ?_
                  exact ih _ _ _ _ hV _ _ hw _ (lv_sub hl [4, 5, 0, 1, 6] rfl)
              · have hV := hV.1 c29
                refine lv_aload_n C0.x C0.b dX8_go_163 rfl (lv_at hl 3 rfl) ?_
                refine r_get C0 hw (C := RX8) (T := TX8) (N := 33) (v := .ref (ad 55)) iw_X8_go_X8 (lg_48 ad cI cJ X S) rfl 16 (by decide) (C0.ts _ fw_X8_go_32) rfl dX8_go_164 ?_
                refine lv_iload C0.x C0.b dX8_go_167 (lv_at hl 1 rfl) ?_
                refine lv_dup2_11 C0.x C0.b dX8_go_169 rfl rfl ?_
                refine r_lald C0 hw (lg_55 ad cI cJ X S) hV.1 dX8_go_170 ?_
                have hV := hV.2
                refine lv_lconst (v := 1) C0.x C0.b dX8_go_171 (by decide) ?_
                refine lv_ladd C0.x C0.b dX8_go_172 ?_
                refine r_last C0 hw (lg_55 ad cI cJ X S) hV.1 dX8_go_173 (S' := (sA S 36 (vp_updL (gA S 36) (gB S 3 (((4 : Int32) * v6) + (1 : Int32)).toNatClampNeg).toNatClampNeg ((gA S 36 (gB S 3 (((4 : Int32) * v6) + (1 : Int32)).toNatClampNeg).toNatClampNeg) + (1 : Int64))))) (ls_55 ad cI cJ X S (vp_updL (gA S 36) (gB S 3 (((4 : Int32) * v6) + (1 : Int32)).toNatClampNeg).toNatClampNeg ((gA S 36 (gB S 3 (((4 : Int32) * v6) + (1 : Int32)).toNatClampNeg).toNatClampNeg) + (1 : Int64)))) (fun S30 H locs eS30 hw => ?_)
                have hV := hV.2 S30 eS30
                refine lv_aload_n C0.x C0.b dX8_go_174 rfl (lv_at hl 3 rfl) ?_
                refine r_get C0 hw (C := RX8) (T := TX8) (N := 33) (v := .ref (ad 63)) iw_X8_go_X8 (lg_48 ad cI cJ X S30) rfl 32 (by decide) (C0.ts _ fw_X8_go_58) rfl dX8_go_175 ?_
                refine lv_iconst (v := 4) C0.x C0.b dX8_go_178 (by decide) ?_
                refine lv_iload C0.x C0.b dX8_go_179 (lv_at hl 5 rfl) ?_
                refine lv_imul C0.x C0.b dX8_go_181 ?_
                refine lv_iconst (v := 2) C0.x C0.b dX8_go_182 (by decide) ?_
                refine lv_iadd C0.x C0.b dX8_go_183 ?_
                refine r_iald C0 hw (lg_63 ad cI cJ X S30) hV.1 dX8_go_184 ?_
                have hV := hV.2
                refine lv_istore (lv' := [(6, .int (gB S30 3 (((4 : Int32) * v6) + (2 : Int32)).toNatClampNeg)), (7, .int x27), (10, .int (gB S 3 (((4 : Int32) * v6) + (1 : Int32)).toNatClampNeg)), (9, .int (gB S 3 ((4 : Int32) * v6).toNatClampNeg)), (0, .ref (ad 48)), (5, .int v5), (8, .int v8)]) C0.x C0.b dX8_go_185 hl (by decide) rfl (fun ls hl => ?_)
                refine lv_goto (tgt := 242) C0.x C0.b dX8_go_187 (by decide) ?_
                refine lv_goto (tgt := 81) C0.x C0.b dX8_go_242 (by decide) ?_
                exact ih _ _ _ _ hV _ _ hw _ (lv_sub hl [4, 5, 0, 1, 6] rfl)
            · have hV := hV.1 c28
              refine lv_iconst (v := 1) C0.x C0.b dX8_go_152 (by decide) ?_
              refine lv_istore (lv' := [(8, .int (1 : Int32)), (7, .int x27), (10, .int (gB S 3 (((4 : Int32) * v6) + (1 : Int32)).toNatClampNeg)), (9, .int (gB S 3 ((4 : Int32) * v6).toNatClampNeg)), (0, .ref (ad 48)), (5, .int v5), (6, .int v6)]) C0.x C0.b dX8_go_153 hl (by decide) rfl (fun ls hl => ?_)
              refine lv_goto (tgt := 242) C0.x C0.b dX8_go_155 (by decide) ?_
              refine lv_goto (tgt := 81) C0.x C0.b dX8_go_242 (by decide) ?_
              exact ih _ _ _ _ hV _ _ hw _ (lv_sub hl [4, 5, 6, 1, 0] rfl)
          · have hV := hV.2 c26
            refine lv_iconst (v := 0) C0.x C0.b dX8_go_113 (by decide) ?_
            refine lv_istore (lv' := [(8, .int (0 : Int32)), (0, .ref (ad 48)), (5, .int v5), (6, .int v6), (7, .int v7)]) C0.x C0.b dX8_go_114 hl (by decide) rfl (fun ls hl => ?_)
            refine lv_goto (tgt := 81) C0.x C0.b dX8_go_116 (by decide) ?_
            exact ih _ _ _ _ hV _ _ hw _ (lv_sub hl [1, 2, 3, 4, 0] rfl)
def V_X8_go  (p0 : Int32) (p1 : Int32) (p2 : Int32) (p3 : Int32) (p4 : Int32) (S : SS) (post : Int32 → SS → Prop) : Prop :=
  (∀ S1 : SS, S1 = (sI S 20 (0 : Int32)) → (((gI S1 31) = 0 → (post (-1 : Int32) S1)) ∧ (¬ (gI S1 31) = 0 → (V_X8_areHeaps p0 p1 p2 p3 S1 (fun (r3 : Int32) (S4 : SS) => ((r3 = 0 → (post (-1 : Int32) S4)) ∧ (¬ r3 = 0 → (V_X8_in p4.toInt64 (0 : Int64) (100000 : Int64) S4 (fun (r6 : Int32) (S7 : SS) => ((r6 = 0 → (post (-1 : Int32) S7)) ∧ (¬ r6 = 0 → (vp_in (0 : Int32) 20000 ∧ ∀ S9 : SS, S9 = (sA S7 36 (vp_updL (gA S7 36) (0 : Int32).toNatClampNeg p0.toInt64)) → (vp_in (1 : Int32) 20000 ∧ ∀ S10 : SS, S10 = (sA S9 36 (vp_updL (gA S9 36) (1 : Int32).toNatClampNeg p1.toInt64)) → (vp_in (2 : Int32) 20000 ∧ ∀ S11 : SS, S11 = (sA S10 36 (vp_updL (gA S10 36) (2 : Int32).toNatClampNeg p2.toInt64)) → (vp_in (3 : Int32) 20000 ∧ ∀ S12 : SS, S12 = (sA S11 36 (vp_updL (gA S11 36) (3 : Int32).toNatClampNeg p3.toInt64)) → (∃ n81 : Nat, V_X8_go_81  p4  post n81 (0 : Int32) (0 : Int32) (-2 : Int32) S12))))))))))))))))
set_option maxHeartbeats 4000000 in
set_option maxRecDepth 100000 in
theorem c_X8_go  {S : SS} {p0 : Int32} {p1 : Int32} {p2 : Int32} {p3 : Int32} {p4 : Int32} {post : Int32 → SS → Prop} (hV : V_X8_go  p0 p1 p2 p3 p4 S post) : MI l yX8_go wsX8_go rm_X8_go [.ref (ad 48), .int p0, .int p1, .int p2, .int p3, .int p4] D n0 ad cI cJ X S post := by
  refine Met.ofW (cc := cX8_go) (maxL := 11) (ret := (some .int)) (by decide) rfl ?_
  intro p e s m args below meth c s₁ B hml hv
  obtain ⟨rfl, hv⟩ := hv
  have C0 := Bd.mk B hml (atoms_spec (ws := wsX8_go) B.pre) (findClass_of_methodNamed B.named) hv.1
  have hw : Wh D n0 ad cI cJ X S s s.heap [] := ⟨hv.2.1, hv.2.2, va_S.rf⟩
  refine r_entry (Nat.le_of_ble_eq_true rfl) (fun ls hl => ?_)
  have hl : lv_has ls 11 [(0, .ref (ad 48)), (1, .int p0), (2, .int p1), (3, .int p2), (4, .int p3), (5, .int p4)] := hl
  unfold V_X8_go at hV
  refine lv_aload_n C0.x C0.b dX8_go_0 rfl (lv_at hl 0 rfl) ?_
  refine lv_iconst (v := 0) C0.x C0.b dX8_go_1 (by decide) ?_
  refine r_put C0 hw (C := RX8) (T := TX8) (N := 33) (ty := .int) iw_X8_go_X8 tyX8 tyX8_ok nmX8 (lg_48 ad cI cJ X S) rfl 0 (by decide) (C0.ts _ fw_X8_go_61) rfl (by decide +kernel) rfl rfl (Nat.le_of_ble_eq_true rfl) dX8_go_2 (S' := (sI S 20 (0 : Int32))) (ls_48_0 ad cI cJ X S (0 : Int32)) (fun S1 H locs eS1 hw => ?_)
  have hV := hV S1 eS1
  refine lv_aload_n C0.x C0.b dX8_go_5 rfl (lv_at hl 0 rfl) ?_
  refine r_get C0 hw (C := RX8) (T := TX8) (N := 33) (v := .int (gI S1 31)) iw_X8_go_X8 (lg_48 ad cI cJ X S1) rfl 31 (by decide) (C0.ts _ fw_X8_go_130) rfl dX8_go_6 ?_
  refine lv_if_eq (tgt := 36) C0.x C0.b dX8_go_9 (by decide) (fun c2 => ?_) (fun c2 => ?_)
  · have hV := hV.1 c2
    refine lv_iconst (v := -1) C0.x C0.b dX8_go_36 (by decide) ?_
    exact r_iret C0 rfl hw hV dX8_go_37
  · have hV := hV.2 c2
    refine lv_iload_n C0.x C0.b dX8_go_12 rfl (lv_at hl 1 rfl) ?_
    refine lv_iload_n C0.x C0.b dX8_go_13 rfl (lv_at hl 2 rfl) ?_
    refine lv_iload_n C0.x C0.b dX8_go_14 rfl (lv_at hl 3 rfl) ?_
    refine lv_iload C0.x C0.b dX8_go_15 (lv_at hl 4 rfl) ?_
    refine r_cS_i (As := [.int p0, .int p1, .int p2, .int p3]) (rest := []) C0 hw (c_X8_areHeaps  hV) (va_cwS 4 C0.ts gX8_go_X8_areHeaps rfl rfl rfl hd_X8_areHeaps ⟨Nat.le_of_ble_eq_true rfl, Nat.le_of_ble_eq_true rfl⟩) rfl hl.1 rfl (Nat.le_of_ble_eq_true rfl) ⟨Nat.le_of_ble_eq_true rfl, Nat.le_of_ble_eq_true rfl⟩ dX8_go_17 (fun r3 S4 H locs hV hw => ?_)
    refine lv_if_eq (tgt := 36) C0.x C0.b dX8_go_20 (by decide) (fun c5 => ?_) (fun c5 => ?_)
    · have hV := hV.1 c5
      refine lv_iconst (v := -1) C0.x C0.b dX8_go_36 (by decide) ?_
      exact r_iret C0 rfl hw hV dX8_go_37
    · have hV := hV.2 c5
      refine lv_iload C0.x C0.b dX8_go_23 (lv_at hl 5 rfl) ?_
      refine lv_i2l C0.x C0.b dX8_go_25 rfl ?_
      refine lv_lconst (v := 0) C0.x C0.b dX8_go_26 (by decide) ?_
      refine lv_ldc2 (v := 100000) C0.x C0.b C0.ow (C0.ts _ cw_X8_go_157) dX8_go_27 ?_
      refine r_cS_i (As := [.long p4.toInt64, .long (0 : Int64), .long (100000 : Int64)]) (rest := []) C0 hw (c_X8_in  hV) (va_cwS 3 C0.ts gX8_go_X8_in rfl rfl rfl hd_X8_in ⟨Nat.le_of_ble_eq_true rfl, Nat.le_of_ble_eq_true rfl⟩) rfl hl.1 rfl (Nat.le_of_ble_eq_true rfl) ⟨Nat.le_of_ble_eq_true rfl, Nat.le_of_ble_eq_true rfl⟩ dX8_go_30 (fun r6 S7 H locs hV hw => ?_)
      refine lv_if_ne (tgt := 38) C0.x C0.b dX8_go_33 (by decide) (fun c8 => ?_) (fun c8 => ?_)
      · have hV := hV.2 c8
        refine lv_aload_n C0.x C0.b dX8_go_38 rfl (lv_at hl 0 rfl) ?_
        refine r_get C0 hw (C := RX8) (T := TX8) (N := 33) (v := .ref (ad 55)) iw_X8_go_X8 (lg_48 ad cI cJ X S7) rfl 16 (by decide) (C0.ts _ fw_X8_go_32) rfl dX8_go_39 ?_
        refine lv_iconst (v := 0) C0.x C0.b dX8_go_42 (by decide) ?_
        refine lv_iload_n C0.x C0.b dX8_go_43 rfl (lv_at hl 1 rfl) ?_
        refine lv_i2l C0.x C0.b dX8_go_44 rfl ?_
        refine r_last C0 hw (lg_55 ad cI cJ X S7) hV.1 dX8_go_45 (S' := (sA S7 36 (vp_updL (gA S7 36) (0 : Int32).toNatClampNeg p0.toInt64))) (ls_55 ad cI cJ X S7 (vp_updL (gA S7 36) (0 : Int32).toNatClampNeg p0.toInt64)) (fun S9 H locs eS9 hw => ?_)
        have hV := hV.2 S9 eS9
        refine lv_aload_n C0.x C0.b dX8_go_46 rfl (lv_at hl 0 rfl) ?_
        refine r_get C0 hw (C := RX8) (T := TX8) (N := 33) (v := .ref (ad 55)) iw_X8_go_X8 (lg_48 ad cI cJ X S9) rfl 16 (by decide) (C0.ts _ fw_X8_go_32) rfl dX8_go_47 ?_
        refine lv_iconst (v := 1) C0.x C0.b dX8_go_50 (by decide) ?_
        refine lv_iload_n C0.x C0.b dX8_go_51 rfl (lv_at hl 2 rfl) ?_
        refine lv_i2l C0.x C0.b dX8_go_52 rfl ?_
        refine r_last C0 hw (lg_55 ad cI cJ X S9) hV.1 dX8_go_53 (S' := (sA S9 36 (vp_updL (gA S9 36) (1 : Int32).toNatClampNeg p1.toInt64))) (ls_55 ad cI cJ X S9 (vp_updL (gA S9 36) (1 : Int32).toNatClampNeg p1.toInt64)) (fun S10 H locs eS10 hw => ?_)
        have hV := hV.2 S10 eS10
        refine lv_aload_n C0.x C0.b dX8_go_54 rfl (lv_at hl 0 rfl) ?_
        refine r_get C0 hw (C := RX8) (T := TX8) (N := 33) (v := .ref (ad 55)) iw_X8_go_X8 (lg_48 ad cI cJ X S10) rfl 16 (by decide) (C0.ts _ fw_X8_go_32) rfl dX8_go_55 ?_
        refine lv_iconst (v := 2) C0.x C0.b dX8_go_58 (by decide) ?_
        refine lv_iload_n C0.x C0.b dX8_go_59 rfl (lv_at hl 3 rfl) ?_
        refine lv_i2l C0.x C0.b dX8_go_60 rfl ?_
        refine r_last C0 hw (lg_55 ad cI cJ X S10) hV.1 dX8_go_61 (S' := (sA S10 36 (vp_updL (gA S10 36) (2 : Int32).toNatClampNeg p2.toInt64))) (ls_55 ad cI cJ X S10 (vp_updL (gA S10 36) (2 : Int32).toNatClampNeg p2.toInt64)) (fun S11 H locs eS11 hw => ?_)
        have hV := hV.2 S11 eS11
        refine lv_aload_n C0.x C0.b dX8_go_62 rfl (lv_at hl 0 rfl) ?_
        refine r_get C0 hw (C := RX8) (T := TX8) (N := 33) (v := .ref (ad 55)) iw_X8_go_X8 (lg_48 ad cI cJ X S11) rfl 16 (by decide) (C0.ts _ fw_X8_go_32) rfl dX8_go_63 ?_
        refine lv_iconst (v := 3) C0.x C0.b dX8_go_66 (by decide) ?_
        refine lv_iload C0.x C0.b dX8_go_67 (lv_at hl 4 rfl) ?_
        refine lv_i2l C0.x C0.b dX8_go_69 rfl ?_
        refine r_last C0 hw (lg_55 ad cI cJ X S11) hV.1 dX8_go_70 (S' := (sA S11 36 (vp_updL (gA S11 36) (3 : Int32).toNatClampNeg p3.toInt64))) (ls_55 ad cI cJ X S11 (vp_updL (gA S11 36) (3 : Int32).toNatClampNeg p3.toInt64)) (fun S12 H locs eS12 hw => ?_)
        have hV := hV.2 S12 eS12
        refine lv_iconst (v := 0) C0.x C0.b dX8_go_71 (by decide) ?_
        refine lv_istore (lv' := [(6, .int (0 : Int32)), (0, .ref (ad 48)), (1, .int p0), (2, .int p1), (3, .int p2), (4, .int p3), (5, .int p4)]) C0.x C0.b dX8_go_72 hl (by decide) rfl (fun ls hl => ?_)
        refine lv_iconst (v := 0) C0.x C0.b dX8_go_74 (by decide) ?_
        refine lv_istore (lv' := [(7, .int (0 : Int32)), (6, .int (0 : Int32)), (0, .ref (ad 48)), (1, .int p0), (2, .int p1), (3, .int p2), (4, .int p3), (5, .int p4)]) C0.x C0.b dX8_go_75 hl (by decide) rfl (fun ls hl => ?_)
        refine lv_bipush (v := -2) C0.x C0.b dX8_go_77 (by decide) ?_
        refine lv_istore (lv' := [(8, .int (-2 : Int32)), (7, .int (0 : Int32)), (6, .int (0 : Int32)), (0, .ref (ad 48)), (1, .int p0), (2, .int p1), (3, .int p2), (4, .int p3), (5, .int p4)]) C0.x C0.b dX8_go_79 hl (by decide) rfl (fun ls hl => ?_)
        obtain ⟨n81, hV⟩ := hV
        exact lp_X8_go_81  _ post C0  n81 _ _ _ _ hV _ _ hw _ (lv_sub hl [3, 8, 2, 1, 0] rfl)
      · have hV := hV.1 c8
        refine lv_iconst (v := -1) C0.x C0.b dX8_go_36 (by decide) ?_
        exact r_iret C0 rfl hw hV dX8_go_37
end
