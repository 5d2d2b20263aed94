section
variable {p : Program} {l : Launch} {e : Env} {s : State} {m : MethodId} {args : Array Value} {below : List Frame} {meth : Method} {c : Code}
variable {D : va_G} {n0 : Nat} {ad : Nat → Nat} {cI cJ : ClassId} {X : va_W}
/-! StepBench.isActNumber(I)Z -/
abbrev rm_X7_isActNumber : Room := { frames := 0, cells := 0, slots := 0, locals := 0 }
set_option maxRecDepth 20000 in
theorem hd_X7_isActNumber : yX7_isActNumber.cls ≠ "java/lang/invoke/MethodHandle" ∧ yX7_isActNumber.cls ≠ "java/lang/invoke/VarHandle" ∧ (parseMethodDescriptor yX7_isActNumber.desc).map (fun d => d.parameters.length) = some 1 := by decide +kernel
def V_X7_isActNumber  (p0 : Int32) (S : SS) (post : Int32 → SS → Prop) : Prop :=
  ((p0 < 0 → (post (0 : Int32) S)) ∧ (¬ p0 < 0 → (((12 : Int32) ≤ p0 → (post (0 : Int32) S)) ∧ (¬ (12 : Int32) ≤ p0 → (post (1 : Int32) S)))))
set_option maxHeartbeats 4000000 in
set_option maxRecDepth 100000 in
theorem c_X7_isActNumber  {S : SS} {p0 : Int32} {post : Int32 → SS → Prop} (hV : V_X7_isActNumber  p0 S post) : MI l yX7_isActNumber wsX7_isActNumber rm_X7_isActNumber [.int p0] D n0 ad cI cJ X S post := by
  refine Met.ofW (cc := cX7_isActNumber) (maxL := 1) (ret := (some .boolean)) (by decide) rfl ?_
  intro p e s m args below meth c s₁ B hml hv
  obtain ⟨rfl, hv⟩ := hv
  have C0 := Bd.mk B hml (atoms_spec (ws := wsX7_isActNumber) B.pre) (findClass_of_methodNamed B.named) hv.1
  have hw : Wh D n0 ad cI cJ X S s s.heap [] := ⟨hv.2.1, hv.2.2, va_S.rf⟩
  refine r_entry (Nat.le_of_ble_eq_true rfl) (fun ls hl => ?_)
  have hl : lv_has ls 1 [(0, .int p0)] := hl
  unfold V_X7_isActNumber at hV
  refine lv_iload_n C0.x C0.b dX7_isActNumber_0 rfl (lv_at hl 0 rfl) ?_
  refine lv_if_lt (tgt := 14) C0.x C0.b dX7_isActNumber_1 (by decide) (fun c1 => ?_) (fun c1 => ?_)
  · have hV := hV.1 c1
    refine lv_iconst (v := 0) C0.x C0.b dX7_isActNumber_14 (by decide) ?_
    exact r_zret C0 rfl bz_0 hw hV dX7_isActNumber_15
  · have hV := hV.2 c1
    refine lv_iload_n C0.x C0.b dX7_isActNumber_4 rfl (lv_at hl 0 rfl) ?_
    refine lv_bipush (v := 12) C0.x C0.b dX7_isActNumber_5 (by decide) ?_
    refine lv_icmp_ge (tgt := 14) C0.x C0.b dX7_isActNumber_7 (by decide) (fun c2 => ?_) (fun c2 => ?_)
    · have hV := hV.1 c2
      refine lv_iconst (v := 0) C0.x C0.b dX7_isActNumber_14 (by decide) ?_
      exact r_zret C0 rfl bz_0 hw hV dX7_isActNumber_15
    · have hV := hV.2 c2
      refine lv_iconst (v := 1) C0.x C0.b dX7_isActNumber_10 (by decide) ?_
      refine lv_goto (tgt := 15) C0.x C0.b dX7_isActNumber_11 (by decide) ?_
      exact r_zret C0 rfl bz_1 hw hV dX7_isActNumber_15
/-! StepBench.act(IIII)I -/
abbrev rm_X7_act : Room := { frames := 2, cells := 0, slots := 0, locals := 46 }
set_option maxRecDepth 20000 in
theorem fw_X7_act_81 : Cond.fieldLink RX7 81 "StepBench" "machine" "LStepBench$Machine;" ∈ wsX7_act := by decide +kernel
set_option maxRecDepth 20000 in
theorem iw_X7_act_X7 : ∀ w ∈ wsX70, w ∈ wsX7_act := by decide +kernel
set_option maxRecDepth 20000 in
theorem hd_X7_act : yX7_act.cls = RX7 ∧ yX7_act.cls ≠ "java/lang/invoke/MethodHandle" ∧ yX7_act.cls ≠ "java/lang/invoke/VarHandle" ∧ (parseMethodDescriptor yX7_act.desc).map (fun d => d.parameters.length) = some 4 := by decide +kernel
def V_X7_act  (p0 : Int32) (p1 : Int32) (p2 : Int32) (p3 : Int32) (S : SS) (post : Int32 → SS → Prop) : Prop :=
  ((p0 < 0 → (post (-1 : Int32) S)) ∧ (¬ p0 < 0 → ((p0 ≤ (2 : Int32) → ((p0 = (2 : Int32) → ((p0 = (1 : Int32) → (V_X7_isActNumber p3 S (fun (r5 : Int32) (S6 : SS) => ((r5 = 0 → (post (-1 : Int32) S6)) ∧ (¬ r5 = 0 → (V_X1_add p0 p1 p2 p3 S6 (fun (r8 : Int32) (S9 : SS) => ((r8 = 0 → (post (-1 : Int32) S9)) ∧ (¬ r8 = 0 → (V_X1_size  S9 (fun (r11 : Int32) (S12 : SS) => (post (r11 - (1 : Int32)) S12)))))))))))) ∧ (¬ p0 = (1 : Int32) → (V_X1_add p0 p1 p2 p3 S (fun (r13 : Int32) (S14 : SS) => ((r13 = 0 → (post (-1 : Int32) S14)) ∧ (¬ r13 = 0 → (V_X1_size  S14 (fun (r16 : Int32) (S17 : SS) => (post (r16 - (1 : Int32)) S17)))))))))) ∧ (¬ p0 = (2 : Int32) → ((p1 < 0 → (post (-1 : Int32) S)) ∧ (¬ p1 < 0 → (((4 : Int32) ≤ p1 → (post (-1 : Int32) S)) ∧ (¬ (4 : Int32) ≤ p1 → (V_X7_isActNumber p2 S (fun (r20 : Int32) (S21 : SS) => ((r20 = 0 → (post (-1 : Int32) S21)) ∧ (¬ r20 = 0 → ((p0 = (1 : Int32) → (V_X7_isActNumber p3 S21 (fun (r24 : Int32) (S25 : SS) => ((r24 = 0 → (post (-1 : Int32) S25)) ∧ (¬ r24 = 0 → (V_X1_add p0 p1 p2 p3 S25 (fun (r27 : Int32) (S28 : SS) => ((r27 = 0 → (post (-1 : Int32) S28)) ∧ (¬ r27 = 0 → (V_X1_size  S28 (fun (r30 : Int32) (S31 : SS) => (post (r30 - (1 : Int32)) S31)))))))))))) ∧ (¬ p0 = (1 : Int32) → (V_X1_add p0 p1 p2 p3 S21 (fun (r32 : Int32) (S33 : SS) => ((r32 = 0 → (post (-1 : Int32) S33)) ∧ (¬ r32 = 0 → (V_X1_size  S33 (fun (r35 : Int32) (S36 : SS) => (post (r35 - (1 : Int32)) S36)))))))))))))))))))) ∧ (¬ p0 ≤ (2 : Int32) → (post (-1 : Int32) S)))))
set_option maxHeartbeats 4000000 in
set_option maxRecDepth 100000 in
theorem c_X7_act  {S : SS} {p0 : Int32} {p1 : Int32} {p2 : Int32} {p3 : Int32} {post : Int32 → SS → Prop} (hV : V_X7_act  p0 p1 p2 p3 S post) : MI l yX7_act wsX7_act rm_X7_act [.ref (ad 0), .int p0, .int p1, .int p2, .int p3] D n0 ad cI cJ X S post := by
  refine Met.ofW (cc := cX7_act) (maxL := 5) (ret := (some .int)) (by decide) rfl ?_
  intro p e s m args below meth c s₁ B hml hv
  obtain ⟨rfl, hv⟩ := hv
  have C0 := Bd.mk B hml (atoms_spec (ws := wsX7_act) B.pre) (findClass_of_methodNamed B.named) hv.1
  have hw : Wh D n0 ad cI cJ X S s s.heap [] := ⟨hv.2.1, hv.2.2, va_S.rf⟩
  refine r_entry (Nat.le_of_ble_eq_true rfl) (fun ls hl => ?_)
  have hl : lv_has ls 5 [(0, .ref (ad 0)), (1, .int p0), (2, .int p1), (3, .int p2), (4, .int p3)] := hl
  unfold V_X7_act at hV
  refine lv_iload_n C0.x C0.b dX7_act_0 rfl (lv_at hl 1 rfl) ?_
  refine lv_if_lt (tgt := 9) C0.x C0.b dX7_act_1 (by decide) (fun c1 => ?_) (fun c1 => ?_)
  · have hV := hV.1 c1
    refine lv_iconst (v := -1) C0.x C0.b dX7_act_9 (by decide) ?_
    exact r_iret C0 rfl hw hV dX7_act_10
  · have hV := hV.2 c1
    refine lv_iload_n C0.x C0.b dX7_act_4 rfl (lv_at hl 1 rfl) ?_
    refine lv_iconst (v := 2) C0.x C0.b dX7_act_5 (by decide) ?_
    refine lv_icmp_le (tgt := 11) C0.x C0.b dX7_act_6 (by decide) (fun c2 => ?_) (fun c2 => ?_)
    · have hV := hV.1 c2
      refine lv_iload_n C0.x C0.b dX7_act_11 rfl (lv_at hl 1 rfl) ?_
      refine lv_iconst (v := 2) C0.x C0.b dX7_act_12 (by decide) ?_
      refine lv_icmp_eq (tgt := 34) C0.x C0.b dX7_act_13 (by decide) (fun c3 => ?_) (fun c3 => ?_)
      · have hV := hV.1 c3
        refine lv_iload_n C0.x C0.b dX7_act_34 rfl (lv_at hl 1 rfl) ?_
        refine lv_iconst (v := 1) C0.x C0.b dX7_act_35 (by decide) ?_
        refine lv_icmp_ne (tgt := 49) C0.x C0.b dX7_act_36 (by decide) (fun c4 => ?_) (fun c4 => ?_)
        · have hV := hV.2 c4
          refine lv_aload_n C0.x C0.b dX7_act_49 rfl (lv_at hl 0 rfl) ?_
          refine r_get C0 hw (C := RX7) (T := TX7) (N := 15) (v := .ref (ad 37)) iw_X7_act_X7 (lg_0 ad cI cJ X S) rfl 14 (by decide) (C0.ts _ fw_X7_act_81) rfl dX7_act_50 ?_
          refine lv_iload_n C0.x C0.b dX7_act_53 rfl (lv_at hl 1 rfl) ?_
          refine lv_iload_n C0.x C0.b dX7_act_54 rfl (lv_at hl 2 rfl) ?_
          refine lv_iload_n C0.x C0.b dX7_act_55 rfl (lv_at hl 3 rfl) ?_
          refine lv_iload C0.x C0.b dX7_act_56 (lv_at hl 4 rfl) ?_
          refine r_cV_i (As := [.int p0, .int p1, .int p2, .int p3]) (rest := []) C0 hw (c_X1_add  hV) (cwV 4 C0.ts gX7_act_X1_add rfl rfl rfl hd_X1_add ⟨Nat.le_of_ble_eq_true rfl, Nat.le_of_ble_eq_true rfl⟩) (lg_37 ad cI cJ X S) rfl rfl hl.1 rfl (Nat.le_of_ble_eq_true rfl) ⟨Nat.zero_le _, Nat.zero_le _⟩ dX7_act_58 (fun r13 S14 H locs hV hw => ?_)
          refine lv_if_eq (tgt := 76) C0.x C0.b dX7_act_61 (by decide) (fun c15 => ?_) (fun c15 => ?_)
          · have hV := hV.1 c15
            refine lv_iconst (v := -1) C0.x C0.b dX7_act_76 (by decide) ?_
            exact r_iret C0 rfl hw hV dX7_act_77
          · have hV := hV.2 c15
            refine lv_aload_n C0.x C0.b dX7_act_64 rfl (lv_at hl 0 rfl) ?_
            refine r_get C0 hw (C := RX7) (T := TX7) (N := 15) (v := .ref (ad 37)) iw_X7_act_X7 (lg_0 ad cI cJ X S14) rfl 14 (by decide) (C0.ts _ fw_X7_act_81) rfl dX7_act_65 ?_
            refine r_cV_i (As := []) (rest := []) C0 hw (c_X1_size  hV) (cwV 0 C0.ts gX7_act_X1_size rfl rfl rfl hd_X1_size ⟨Nat.le_of_ble_eq_true rfl, Nat.le_of_ble_eq_true rfl⟩) (lg_37 ad cI cJ X S14) rfl rfl hl.1 rfl (Nat.le_of_ble_eq_true rfl) ⟨Nat.zero_le _, Nat.zero_le _⟩ dX7_act_68 (fun r16 S17 H locs hV hw => ?_)
            refine lv_iconst (v := 1) C0.x C0.b dX7_act_71 (by decide) ?_
            refine lv_isub C0.x C0.b dX7_act_72 ?_
            refine lv_goto (tgt := 77) C0.x C0.b dX7_act_73 (by decide) ?_
            exact r_iret C0 rfl hw hV dX7_act_77
        · have hV := hV.1 c4
          refine lv_iload C0.x C0.b dX7_act_39 (lv_at hl 4 rfl) ?_
          refine r_cS_i (As := [.int p3]) (rest := []) C0 hw (c_X7_isActNumber  hV) (va_cwS 1 C0.ts gX7_act_X7_isActNumber rfl rfl rfl hd_X7_isActNumber ⟨Nat.le_of_ble_eq_true rfl, Nat.le_of_ble_eq_true rfl⟩) rfl hl.1 rfl (Nat.le_of_ble_eq_true rfl) ⟨Nat.zero_le _, Nat.zero_le _⟩ dX7_act_41 (fun r5 S6 H locs hV hw => ?_)
          refine lv_if_ne (tgt := 49) C0.x C0.b dX7_act_44 (by decide) (fun c7 => ?_) (fun c7 => ?_)
          · have hV := hV.2 c7
            refine lv_aload_n C0.x C0.b dX7_act_49 rfl (lv_at hl 0 rfl) ?_
            refine r_get C0 hw (C := RX7) (T := TX7) (N := 15) (v := .ref (ad 37)) iw_X7_act_X7 (lg_0 ad cI cJ X S6) rfl 14 (by decide) (C0.ts _ fw_X7_act_81) rfl dX7_act_50 ?_
            refine lv_iload_n C0.x C0.b dX7_act_53 rfl (lv_at hl 1 rfl) ?_
            refine lv_iload_n C0.x C0.b dX7_act_54 rfl (lv_at hl 2 rfl) ?_
            refine lv_iload_n C0.x C0.b dX7_act_55 rfl (lv_at hl 3 rfl) ?_
            refine lv_iload C0.x C0.b dX7_act_56 (lv_at hl 4 rfl) ?_
            refine r_cV_i (As := [.int p0, .int p1, .int p2, .int p3]) (rest := []) C0 hw (c_X1_add  hV) (cwV 4 C0.ts gX7_act_X1_add rfl rfl rfl hd_X1_add ⟨Nat.le_of_ble_eq_true rfl, Nat.le_of_ble_eq_true rfl⟩) (lg_37 ad cI cJ X S6) rfl rfl hl.1 rfl (Nat.le_of_ble_eq_true rfl) ⟨Nat.zero_le _, Nat.zero_le _⟩ dX7_act_58 (fun r8 S9 H locs hV hw => ?_)
            refine lv_if_eq (tgt := 76) C0.x C0.b dX7_act_61 (by decide) (fun c10 => ?_) (fun c10 => ?_)
            · have hV := hV.1 c10
              refine lv_iconst (v := -1) C0.x C0.b dX7_act_76 (by decide) ?_
              exact r_iret C0 rfl hw hV dX7_act_77
            · have hV := hV.2 c10
              refine lv_aload_n C0.x C0.b dX7_act_64 rfl (lv_at hl 0 rfl) ?_
              refine r_get C0 hw (C := RX7) (T := TX7) (N := 15) (v := .ref (ad 37)) iw_X7_act_X7 (lg_0 ad cI cJ X S9) rfl 14 (by decide) (C0.ts _ fw_X7_act_81) rfl dX7_act_65 ?_
              refine r_cV_i (As := []) (rest := []) C0 hw (c_X1_size  hV) (cwV 0 C0.ts gX7_act_X1_size rfl rfl rfl hd_X1_size ⟨Nat.le_of_ble_eq_true rfl, Nat.le_of_ble_eq_true rfl⟩) (lg_37 ad cI cJ X S9) rfl rfl hl.1 rfl (Nat.le_of_ble_eq_true rfl) ⟨Nat.zero_le _, Nat.zero_le _⟩ dX7_act_68 (fun r11 S12 H locs hV hw => ?_)
              refine lv_iconst (v := 1) C0.x C0.b dX7_act_71 (by decide) ?_
              refine lv_isub C0.x C0.b dX7_act_72 ?_
              refine lv_goto (tgt := 77) C0.x C0.b dX7_act_73 (by decide) ?_
              exact r_iret C0 rfl hw hV dX7_act_77
          · have hV := hV.1 c7
            refine lv_iconst (v := -1) C0.x C0.b dX7_act_47 (by decide) ?_
            exact r_iret C0 rfl hw hV dX7_act_48
      · have hV := hV.2 c3
        refine lv_iload_n C0.x C0.b dX7_act_16 rfl (lv_at hl 2 rfl) ?_
        refine lv_if_lt (tgt := 32) C0.x C0.b dX7_act_17 (by decide) (fun c18 => ?_) (fun c18 => ?_)
        · have hV := hV.1 c18
          refine lv_iconst (v := -1) C0.x C0.b dX7_act_32 (by decide) ?_
          exact r_iret C0 rfl hw hV dX7_act_33
        · have hV := hV.2 c18
          refine lv_iload_n C0.x C0.b dX7_act_20 rfl (lv_at hl 2 rfl) ?_
          refine lv_iconst (v := 4) C0.x C0.b dX7_act_21 (by decide) ?_
          refine lv_icmp_ge (tgt := 32) C0.x C0.b dX7_act_22 (by decide) (fun c19 => ?_) (fun c19 => ?_)
          · have hV := hV.1 c19
            refine lv_iconst (v := -1) C0.x C0.b dX7_act_32 (by decide) ?_
            exact r_iret C0 rfl hw hV dX7_act_33
          · have hV := hV.2 c19
            refine lv_iload_n C0.x C0.b dX7_act_25 rfl (lv_at hl 3 rfl) ?_
            refine r_cS_i (As := [.int p2]) (rest := []) C0 hw (c_X7_isActNumber  hV) (va_cwS 1 C0.ts gX7_act_X7_isActNumber rfl rfl rfl hd_X7_isActNumber ⟨Nat.le_of_ble_eq_true rfl, Nat.le_of_ble_eq_true rfl⟩) rfl hl.1 rfl (Nat.le_of_ble_eq_true rfl) ⟨Nat.zero_le _, Nat.zero_le _⟩ dX7_act_26 (fun r20 S21 H locs hV hw => ?_)
            refine lv_if_ne (tgt := 34) C0.x C0.b dX7_act_29 (by decide) (fun c22 => ?_) (fun c22 => ?_)
            · have hV := hV.2 c22
              refine lv_iload_n C0.x C0.b dX7_act_34 rfl (lv_at hl 1 rfl) ?_
              refine lv_iconst (v := 1) C0.x C0.b dX7_act_35 (by decide) ?_
              refine lv_icmp_ne (tgt := 49) C0.x C0.b dX7_act_36 (by decide) (fun c23 => ?_) (fun c23 => ?_)
              · have hV := hV.2 c23
                refine lv_aload_n C0.x C0.b dX7_act_49 rfl (lv_at hl 0 rfl) ?_
                refine r_get C0 hw (C := RX7) (T := TX7) (N := 15) (v := .ref (ad 37)) iw_X7_act_X7 (lg_0 ad cI cJ X S21) rfl 14 (by decide) (C0.ts _ fw_X7_act_81) rfl dX7_act_50 ?_
                refine lv_iload_n C0.x C0.b dX7_act_53 rfl (lv_at hl 1 rfl) ?_
                refine lv_iload_n C0.x C0.b dX7_act_54 rfl (lv_at hl 2 rfl) ?_
                refine lv_iload_n C0.x C0.b dX7_act_55 rfl (lv_at hl 3 rfl) ?_
                refine lv_iload C0.x C0.b dX7_act_56 (lv_at hl 4 rfl) ?_
                refine r_cV_i (As := [.int p0, .int p1, .int p2, .int p3]) (rest := []) C0 hw (c_X1_add  hV) (cwV 4 C0.ts gX7_act_X1_add rfl rfl rfl hd_X1_add ⟨Nat.le_of_ble_eq_true rfl, Nat.le_of_ble_eq_true rfl⟩) (lg_37 ad cI cJ X S21) rfl rfl hl.1 rfl (Nat.le_of_ble_eq_true rfl) ⟨Nat.zero_le _, Nat.zero_le _⟩ dX7_act_58 (fun r32 S33 H locs hV hw => ?_)
                refine lv_if_eq (tgt := 76) C0.x C0.b dX7_act_61 (by decide) (fun c34 => ?_) (fun c34 => ?_)
                · have hV := hV.1 c34
                  refine lv_iconst (v := -1) C0.x C0.b dX7_act_76 (by decide) ?_
                  exact r_iret C0 rfl hw hV dX7_act_77
                · have hV := hV.2 c34
                  refine lv_aload_n C0.x C0.b dX7_act_64 rfl (lv_at hl 0 rfl) ?_
                  refine r_get C0 hw (C := RX7) (T := TX7) (N := 15) (v := .ref (ad 37)) iw_X7_act_X7 (lg_0 ad cI cJ X S33) rfl 14 (by decide) (C0.ts _ fw_X7_act_81) rfl dX7_act_65 ?_
                  refine r_cV_i (As := []) (rest := []) C0 hw (c_X1_size  hV) (cwV 0 C0.ts gX7_act_X1_size rfl rfl rfl hd_X1_size ⟨Nat.le_of_ble_eq_true rfl, Nat.le_of_ble_eq_true rfl⟩) (lg_37 ad cI cJ X S33) rfl rfl hl.1 rfl (Nat.le_of_ble_eq_true rfl) ⟨Nat.zero_le _, Nat.zero_le _⟩ dX7_act_68 (fun r35 S36 H locs hV hw => ?_)
                  refine lv_iconst (v := 1) C0.x C0.b dX7_act_71 (by decide) ?_
                  refine lv_isub C0.x C0.b dX7_act_72 ?_
                  refine lv_goto (tgt := 77) C0.x C0.b dX7_act_73 (by decide) ?_
                  exact r_iret C0 rfl hw hV dX7_act_77
              · have hV := hV.1 c23
                refine lv_iload C0.x C0.b dX7_act_39 (lv_at hl 4 rfl) ?_
                refine r_cS_i (As := [.int p3]) (rest := []) C0 hw (c_X7_isActNumber  hV) (va_cwS 1 C0.ts gX7_act_X7_isActNumber rfl rfl rfl hd_X7_isActNumber ⟨Nat.le_of_ble_eq_true rfl, Nat.le_of_ble_eq_true rfl⟩) rfl hl.1 rfl (Nat.le_of_ble_eq_true rfl) ⟨Nat.zero_le _, Nat.zero_le _⟩ dX7_act_41 (fun r24 S25 H locs hV hw => ?_)
                refine lv_if_ne (tgt := 49) C0.x C0.b dX7_act_44 (by decide) (fun c26 => ?_) (fun c26 => ?_)
                · have hV := hV.2 c26
                  refine lv_aload_n C0.x C0.b dX7_act_49 rfl (lv_at hl 0 rfl) ?_
                  refine r_get C0 hw (C := RX7) (T := TX7) (N := 15) (v := .ref (ad 37)) iw_X7_act_X7 (lg_0 ad cI cJ X S25) rfl 14 (by decide) (C0.ts _ fw_X7_act_81) rfl dX7_act_50 ?_
                  refine lv_iload_n C0.x C0.b dX7_act_53 rfl (lv_at hl 1 rfl) ?_
                  refine lv_iload_n C0.x C0.b dX7_act_54 rfl (lv_at hl 2 rfl) ?_
                  refine lv_iload_n C0.x C0.b dX7_act_55 rfl (lv_at hl 3 rfl) ?_
                  refine lv_iload C0.x C0.b dX7_act_56 (lv_at hl 4 rfl) ?_
                  refine r_cV_i (As := [.int p0, .int p1, .int p2, .int p3]) (rest := []) C0 hw (c_X1_add  hV) (cwV 4 C0.ts gX7_act_X1_add rfl rfl rfl hd_X1_add ⟨Nat.le_of_ble_eq_true rfl, Nat.le_of_ble_eq_true rfl⟩) (lg_37 ad cI cJ X S25) rfl rfl hl.1 rfl (Nat.le_of_ble_eq_true rfl) ⟨Nat.zero_le _, Nat.zero_le _⟩ dX7_act_58 (fun r27 S28 H locs hV hw => ?_)
                  refine lv_if_eq (tgt := 76) C0.x C0.b dX7_act_61 (by decide) (fun c29 => ?_) (fun c29 => ?_)
                  · have hV := hV.1 c29
                    refine lv_iconst (v := -1) C0.x C0.b dX7_act_76 (by decide) ?_
                    exact r_iret C0 rfl hw hV dX7_act_77
                  · have hV := hV.2 c29
                    refine lv_aload_n C0.x C0.b dX7_act_64 rfl (lv_at hl 0 rfl) ?_
                    refine r_get C0 hw (C := RX7) (T := TX7) (N := 15) (v := .ref (ad 37)) iw_X7_act_X7 (lg_0 ad cI cJ X S28) rfl 14 (by decide) (C0.ts _ fw_X7_act_81) rfl dX7_act_65 ?_
                    refine r_cV_i (As := []) (rest := []) C0 hw (c_X1_size  hV) (cwV 0 C0.ts gX7_act_X1_size rfl rfl rfl hd_X1_size ⟨Nat.le_of_ble_eq_true rfl, Nat.le_of_ble_eq_true rfl⟩) (lg_37 ad cI cJ X S28) rfl rfl hl.1 rfl (Nat.le_of_ble_eq_true rfl) ⟨Nat.zero_le _, Nat.zero_le _⟩ dX7_act_68 (fun r30 S31 H locs hV hw => ?_)
                    refine lv_iconst (v := 1) C0.x C0.b dX7_act_71 (by decide) ?_
                    refine lv_isub C0.x C0.b dX7_act_72 ?_
                    refine lv_goto (tgt := 77) C0.x C0.b dX7_act_73 (by decide) ?_
                    exact r_iret C0 rfl hw hV dX7_act_77
                · have hV := hV.1 c26
                  refine lv_iconst (v := -1) C0.x C0.b dX7_act_47 (by decide) ?_
                  exact r_iret C0 rfl hw hV dX7_act_48
            · have hV := hV.1 c22
              refine lv_iconst (v := -1) C0.x C0.b dX7_act_32 (by decide) ?_
              exact r_iret C0 rfl hw hV dX7_act_33
    · have hV := hV.2 c2
      refine lv_iconst (v := -1) C0.x C0.b dX7_act_9 (by decide) ?_
      exact r_iret C0 rfl hw hV dX7_act_10
/-! StepBench.scrap()I -/
abbrev rm_X7_scrap : Room := { frames := 2, cells := 0, slots := 0, locals := 40 }
set_option maxRecDepth 20000 in
theorem fw_X7_scrap_81 : Cond.fieldLink RX7 81 "StepBench" "machine" "LStepBench$Machine;" ∈ wsX7_scrap := by decide +kernel
set_option maxRecDepth 20000 in
theorem iw_X7_scrap_X7 : ∀ w ∈ wsX70, w ∈ wsX7_scrap := by decide +kernel
set_option maxRecDepth 20000 in
theorem hd_X7_scrap : yX7_scrap.cls = RX7 ∧ yX7_scrap.cls ≠ "java/lang/invoke/MethodHandle" ∧ yX7_scrap.cls ≠ "java/lang/invoke/VarHandle" ∧ (parseMethodDescriptor yX7_scrap.desc).map (fun d => d.parameters.length) = some 0 := by decide +kernel
def V_X7_scrap   (S : SS) (post : Int32 → SS → Prop) : Prop :=
  (V_X1_size  S (fun (r1 : Int32) (S2 : SS) => (V_X1_empty  S2 (fun (S4 : SS) => (post r1 S4)))))
set_option maxHeartbeats 4000000 in
set_option maxRecDepth 100000 in
theorem c_X7_scrap  {S : SS}  {post : Int32 → SS → Prop} (hV : V_X7_scrap   S post) : MI l yX7_scrap wsX7_scrap rm_X7_scrap [.ref (ad 0)] D n0 ad cI cJ X S post := by
  refine Met.ofW (cc := cX7_scrap) (maxL := 2) (ret := (some .int)) (by decide) rfl ?_
  intro p e s m args below meth c s₁ B hml hv
  obtain ⟨rfl, hv⟩ := hv
  have C0 := Bd.mk B hml (atoms_spec (ws := wsX7_scrap) B.pre) (findClass_of_methodNamed B.named) hv.1
  have hw : Wh D n0 ad cI cJ X S s s.heap [] := ⟨hv.2.1, hv.2.2, va_S.rf⟩
  refine r_entry (Nat.le_of_ble_eq_true rfl) (fun ls hl => ?_)
  have hl : lv_has ls 2 [(0, .ref (ad 0))] := hl
  unfold V_X7_scrap at hV
  refine lv_aload_n C0.x C0.b dX7_scrap_0 rfl (lv_at hl 0 rfl) ?_
  refine r_get C0 hw (C := RX7) (T := TX7) (N := 15) (v := .ref (ad 37)) iw_X7_scrap_X7 (lg_0 ad cI cJ X S) rfl 14 (by decide) (C0.ts _ fw_X7_scrap_81) rfl dX7_scrap_1 ?_
  refine r_cV_i (As := []) (rest := []) C0 hw (c_X1_size  hV) (cwV 0 C0.ts gX7_scrap_X1_size rfl rfl rfl hd_X1_size ⟨Nat.le_of_ble_eq_true rfl, Nat.le_of_ble_eq_true rfl⟩) (lg_37 ad cI cJ X S) rfl rfl hl.1 rfl (Nat.le_of_ble_eq_true rfl) ⟨Nat.zero_le _, Nat.zero_le _⟩ dX7_scrap_4 (fun r1 S2 H locs hV hw => ?_)
  refine lv_istore_n (lv' := [(1, .int r1), (0, .ref (ad 0))]) C0.x C0.b dX7_scrap_7 rfl hl (by decide) rfl (fun ls hl => ?_)
  refine lv_aload_n C0.x C0.b dX7_scrap_8 rfl (lv_at hl 1 rfl) ?_
  refine r_get C0 hw (C := RX7) (T := TX7) (N := 15) (v := .ref (ad 37)) iw_X7_scrap_X7 (lg_0 ad cI cJ X S2) rfl 14 (by decide) (C0.ts _ fw_X7_scrap_81) rfl dX7_scrap_9 ?_
  refine r_cV_v (As := []) (rest := []) C0 hw (c_X1_empty  hV) (cwV 0 C0.ts gX7_scrap_X1_empty rfl rfl rfl hd_X1_empty ⟨Nat.le_of_ble_eq_true rfl, Nat.le_of_ble_eq_true rfl⟩) (lg_37 ad cI cJ X S2) rfl rfl hl.1 rfl (Nat.le_of_ble_eq_true rfl) ⟨Nat.zero_le _, Nat.zero_le _⟩ dX7_scrap_12 (fun S4 H locs hV hw => ?_)
  refine lv_iload_n C0.x C0.b dX7_scrap_15 rfl (lv_at hl 0 rfl) ?_
  exact r_iret C0 rfl hw hV dX7_scrap_16
/-! StepBench.isHeap(I)Z -/
abbrev rm_X7_isHeap : Room := { frames := 0, cells := 0, slots := 0, locals := 0 }
set_option maxRecDepth 20000 in
theorem hd_X7_isHeap : yX7_isHeap.cls ≠ "java/lang/invoke/MethodHandle" ∧ yX7_isHeap.cls ≠ "java/lang/invoke/VarHandle" ∧ (parseMethodDescriptor yX7_isHeap.desc).map (fun d => d.parameters.length) = some 1 := by decide +kernel
def V_X7_isHeap  (p0 : Int32) (S : SS) (post : Int32 → SS → Prop) : Prop :=
  ((p0 < 0 → (post (0 : Int32) S)) ∧ (¬ p0 < 0 → (((1000 : Int32) < p0 → (post (0 : Int32) S)) ∧ (¬ (1000 : Int32) < p0 → (post (1 : Int32) S)))))
set_option maxHeartbeats 4000000 in
set_option maxRecDepth 100000 in
theorem c_X7_isHeap  {S : SS} {p0 : Int32} {post : Int32 → SS → Prop} (hV : V_X7_isHeap  p0 S post) : MI l yX7_isHeap wsX7_isHeap rm_X7_isHeap [.int p0] D n0 ad cI cJ X S post := by
  refine Met.ofW (cc := cX7_isHeap) (maxL := 1) (ret := (some .boolean)) (by decide) rfl ?_
  intro p e s m args below meth c s₁ B hml hv
  obtain ⟨rfl, hv⟩ := hv
  have C0 := Bd.mk B hml (atoms_spec (ws := wsX7_isHeap) B.pre) (findClass_of_methodNamed B.named) hv.1
  have hw : Wh D n0 ad cI cJ X S s s.heap [] := ⟨hv.2.1, hv.2.2, va_S.rf⟩
  refine r_entry (Nat.le_of_ble_eq_true rfl) (fun ls hl => ?_)
  have hl : lv_has ls 1 [(0, .int p0)] := hl
  unfold V_X7_isHeap at hV
  refine lv_iload_n C0.x C0.b dX7_isHeap_0 rfl (lv_at hl 0 rfl) ?_
  refine lv_if_lt (tgt := 15) C0.x C0.b dX7_isHeap_1 (by decide) (fun c1 => ?_) (fun c1 => ?_)
  · have hV := hV.1 c1
    refine lv_iconst (v := 0) C0.x C0.b dX7_isHeap_15 (by decide) ?_
    exact r_zret C0 rfl bz_0 hw hV dX7_isHeap_16
  · have hV := hV.2 c1
    refine lv_iload_n C0.x C0.b dX7_isHeap_4 rfl (lv_at hl 0 rfl) ?_
    refine lv_sipush (v := 1000) C0.x C0.b dX7_isHeap_5 (by decide) ?_
    refine lv_icmp_gt (tgt := 15) C0.x C0.b dX7_isHeap_8 (by decide) (fun c2 => ?_) (fun c2 => ?_)
    · have hV := hV.1 c2
      refine lv_iconst (v := 0) C0.x C0.b dX7_isHeap_15 (by decide) ?_
      exact r_zret C0 rfl bz_0 hw hV dX7_isHeap_16
    · have hV := hV.2 c2
      refine lv_iconst (v := 1) C0.x C0.b dX7_isHeap_11 (by decide) ?_
      refine lv_goto (tgt := 16) C0.x C0.b dX7_isHeap_12 (by decide) ?_
      exact r_zret C0 rfl bz_1 hw hV dX7_isHeap_16
/-! StepBench.areHeaps(IIII)Z -/
abbrev rm_X7_areHeaps : Room := { frames := 1, cells := 0, slots := 0, locals := 20 }
set_option maxRecDepth 20000 in
theorem hd_X7_areHeaps : yX7_areHeaps.cls ≠ "java/lang/invoke/MethodHandle" ∧ yX7_areHeaps.cls ≠ "java/lang/invoke/VarHandle" ∧ (parseMethodDescriptor yX7_areHeaps.desc).map (fun d => d.parameters.length) = some 4 := by decide +kernel
def V_X7_areHeaps  (p0 : Int32) (p1 : Int32) (p2 : Int32) (p3 : Int32) (S : SS) (post : Int32 → SS → Prop) : Prop :=
  (V_X7_isHeap p0 S (fun (r1 : Int32) (S2 : SS) => ((r1 = 0 → (post (0 : Int32) S2)) ∧ (¬ r1 = 0 → (V_X7_isHeap p1 S2 (fun (r4 : Int32) (S5 : SS) => ((r4 = 0 → (post (0 : Int32) S5)) ∧ (¬ r4 = 0 → (V_X7_isHeap p2 S5 (fun (r7 : Int32) (S8 : SS) => ((r7 = 0 → (post (0 : Int32) S8)) ∧ (¬ r7 = 0 → (V_X7_isHeap p3 S8 (fun (r10 : Int32) (S11 : SS) => ((r10 = 0 → (post (0 : Int32) S11)) ∧ (¬ r10 = 0 → (post (1 : Int32) S11)))))))))))))))))
set_option maxHeartbeats 4000000 in
set_option maxRecDepth 100000 in
theorem c_X7_areHeaps  {S : SS} {p0 : Int32} {p1 : Int32} {p2 : Int32} {p3 : Int32} {post : Int32 → SS → Prop} (hV : V_X7_areHeaps  p0 p1 p2 p3 S post) : MI l yX7_areHeaps wsX7_areHeaps rm_X7_areHeaps [.int p0, .int p1, .int p2, .int p3] D n0 ad cI cJ X S post := by
  refine Met.ofW (cc := cX7_areHeaps) (maxL := 4) (ret := (some .boolean)) (by decide) rfl ?_
  intro p e s m args below meth c s₁ B hml hv
  obtain ⟨rfl, hv⟩ := hv
  have C0 := Bd.mk B hml (atoms_spec (ws := wsX7_areHeaps) B.pre) (findClass_of_methodNamed B.named) hv.1
  have hw : Wh D n0 ad cI cJ X S s s.heap [] := ⟨hv.2.1, hv.2.2, va_S.rf⟩
  refine r_entry (Nat.le_of_ble_eq_true rfl) (fun ls hl => ?_)
  have hl : lv_has ls 4 [(0, .int p0), (1, .int p1), (2, .int p2), (3, .int p3)] := hl
  unfold V_X7_areHeaps at hV
  refine lv_iload_n C0.x C0.b dX7_areHeaps_0 rfl (lv_at hl 0 rfl) ?_
  refine r_cS_i (As := [.int p0]) (rest := []) C0 hw (c_X7_isHeap  hV) (va_cwS 1 C0.ts gX7_areHeaps_X7_isHeap rfl rfl rfl hd_X7_isHeap ⟨Nat.le_of_ble_eq_true rfl, Nat.le_of_ble_eq_true rfl⟩) rfl hl.1 rfl (Nat.le_of_ble_eq_true rfl) ⟨Nat.zero_le _, Nat.zero_le _⟩ dX7_areHeaps_1 (fun r1 S2 H locs hV hw => ?_)
  refine lv_if_eq (tgt := 32) C0.x C0.b dX7_areHeaps_4 (by decide) (fun c3 => ?_) (fun c3 => ?_)
  · have hV := hV.1 c3
    refine lv_iconst (v := 0) C0.x C0.b dX7_areHeaps_32 (by decide) ?_
    exact r_zret C0 rfl bz_0 hw hV dX7_areHeaps_33
  · have hV := hV.2 c3
    refine lv_iload_n C0.x C0.b dX7_areHeaps_7 rfl (lv_at hl 1 rfl) ?_
    refine r_cS_i (As := [.int p1]) (rest := []) C0 hw (c_X7_isHeap  hV) (va_cwS 1 C0.ts gX7_areHeaps_X7_isHeap rfl rfl rfl hd_X7_isHeap ⟨Nat.le_of_ble_eq_true rfl, Nat.le_of_ble_eq_true rfl⟩) rfl hl.1 rfl (Nat.le_of_ble_eq_true rfl) ⟨Nat.zero_le _, Nat.zero_le _⟩ dX7_areHeaps_8 (fun r4 S5 H locs hV hw => ?_)
    refine lv_if_eq (tgt := 32) C0.x C0.b dX7_areHeaps_11 (by decide) (fun c6 => ?_) (fun c6 => ?_)
    · have hV := hV.1 c6
      refine lv_iconst (v := 0) C0.x C0.b dX7_areHeaps_32 (by decide) ?_
      exact r_zret C0 rfl bz_0 hw hV dX7_areHeaps_33
    · have hV := hV.2 c6
      refine lv_iload_n C0.x C0.b dX7_areHeaps_14 rfl (lv_at hl 2 rfl) ?_
      refine r_cS_i (As := [.int p2]) (rest := []) C0 hw (c_X7_isHeap  hV) (va_cwS 1 C0.ts gX7_areHeaps_X7_isHeap rfl rfl rfl hd_X7_isHeap ⟨Nat.le_of_ble_eq_true rfl, Nat.le_of_ble_eq_true rfl⟩) rfl hl.1 rfl (Nat.le_of_ble_eq_true rfl) ⟨Nat.zero_le _, Nat.zero_le _⟩ dX7_areHeaps_15 (fun r7 S8 H locs hV hw => ?_)
      refine lv_if_eq (tgt := 32) C0.x C0.b dX7_areHeaps_18 (by decide) (fun c9 => ?_) (fun c9 => ?_)
      · have hV := hV.1 c9
        refine lv_iconst (v := 0) C0.x C0.b dX7_areHeaps_32 (by decide) ?_
        exact r_zret C0 rfl bz_0 hw hV dX7_areHeaps_33
      · have hV := hV.2 c9
        refine lv_iload_n C0.x C0.b dX7_areHeaps_21 rfl (lv_at hl 3 rfl) ?_
        refine r_cS_i (As := [.int p3]) (rest := []) C0 hw (c_X7_isHeap  hV) (va_cwS 1 C0.ts gX7_areHeaps_X7_isHeap rfl rfl rfl hd_X7_isHeap ⟨Nat.le_of_ble_eq_true rfl, Nat.le_of_ble_eq_true rfl⟩) rfl hl.1 rfl (Nat.le_of_ble_eq_true rfl) ⟨Nat.zero_le _, Nat.zero_le _⟩ dX7_areHeaps_22 (fun r10 S11 H locs hV hw => ?_)
        refine lv_if_eq (tgt := 32) C0.x C0.b dX7_areHeaps_25 (by decide) (fun c12 => ?_) (fun c12 => ?_)
        · have hV := hV.1 c12
          refine lv_iconst (v := 0) C0.x C0.b dX7_areHeaps_32 (by decide) ?_
          exact r_zret C0 rfl bz_0 hw hV dX7_areHeaps_33
        · have hV := hV.2 c12
          refine lv_iconst (v := 1) C0.x C0.b dX7_areHeaps_28 (by decide) ?_
          refine lv_goto (tgt := 33) C0.x C0.b dX7_areHeaps_29 (by decide) ?_
          exact r_zret C0 rfl bz_1 hw hV dX7_areHeaps_33
/-! StepBench.go(IIIII)I -/
abbrev rm_X7_go : Room := { frames := 5, cells := 0, slots := 0, locals := 107 }
set_option maxRecDepth 20000 in
theorem fw_X7_go_81 : Cond.fieldLink RX7 81 "StepBench" "machine" "LStepBench$Machine;" ∈ wsX7_go := by decide +kernel
set_option maxRecDepth 20000 in
theorem iw_X7_go_X7 : ∀ w ∈ wsX70, w ∈ wsX7_go := by decide +kernel
set_option maxRecDepth 20000 in
theorem fw_X7_go_45 : Cond.fieldLink RX7 45 "StepBench" "numbers" "LStepBench$Numbers;" ∈ wsX7_go := by decide +kernel
set_option maxRecDepth 20000 in
theorem hd_X7_go : yX7_go.cls = RX7 ∧ yX7_go.cls ≠ "java/lang/invoke/MethodHandle" ∧ yX7_go.cls ≠ "java/lang/invoke/VarHandle" ∧ (parseMethodDescriptor yX7_go.desc).map (fun d => d.parameters.length) = some 5 := by decide +kernel
def V_X7_go_64  (v6 : Int32)  (post : Int32 → SS → Prop) : Nat → Int32 → SS → Prop
  | 0, _, _ => False
  | n + 1, v7, S =>
    (((4 : Int32) ≤ v7 → (V_X1_done  S (fun (r17 : Int32) (S18 : SS) => (V_X2_add 7 12 1000 r17.toInt64 S18 (fun (r19 : Int32) (S20 : SS) => (post v6 S20)))))) ∧ (¬ (4 : Int32) ≤ v7 → (V_X1_inHeap v7 S (fun (r21 : Int64) (S22 : SS) => (V_X2_add 7 12 1000 r21 S22 (fun (r23 : Int32) (S24 : SS) => (∀ x25 : Int32, x25 = v7 + 1 → (V_X7_go_64  v6  post n x25 S24))))))))
set_option maxHeartbeats 4000000 in
set_option maxRecDepth 100000 in
theorem lp_X7_go_64  (v6 : Int32)  (post : Int32 → SS → Prop) (C0 : Bd p s m meth c args cX7_go 8 (some .int) wsX7_go RX7 D n0 cI cJ) : ∀ (n : Nat) (v7 : Int32) (S : SS), V_X7_go_64  v6  post n v7 S → ∀ (H : Heap) (locs : List Loc), Wh D n0 ad cI cJ X S s H locs → ∀ ls : Array Slot, lv_has ls 8 [(0, .ref (ad 0)), (6, .int v6), (7, .int v7)] → W p l e rm_X7_go s m args below meth c H locs 0 0 (MQ below (va_Qi post (fun S' t => Wd D n0 ad cI cJ X S' t) (fr n0)) args s 0 0 (fr n0)) (F0 m 64 ls []) := by
  intro n
  induction n with
  | zero => intro v7 S hV; exact False.elim hV
  | succ n ih =>
    intro v7 S hV H locs hw ls hl
    rw [V_X7_go_64] at hV
    refine lv_iload C0.x C0.b dX7_go_64 (lv_at hl 2 rfl) ?_
    refine lv_iconst (v := 4) C0.x C0.b dX7_go_66 (by decide) ?_
    refine lv_icmp_ge (tgt := 93) C0.x C0.b dX7_go_67 (by decide) (fun c16 => ?_) (fun c16 => ?_)
    · have hV := hV.1 c16
      refine lv_aload_n C0.x C0.b dX7_go_93 rfl (lv_at hl 0 rfl) ?_
      refine r_get C0 hw (C := RX7) (T := TX7) (N := 15) (v := .ref (ad 19)) iw_X7_go_X7 (lg_0 ad cI cJ X S) rfl 6 (by decide) (C0.ts _ fw_X7_go_45) rfl dX7_go_94 ?_
      refine lv_aload_n C0.x C0.b dX7_go_97 rfl (lv_at hl 0 rfl) ?_
      refine r_get C0 hw (C := RX7) (T := TX7) (N := 15) (v := .ref (ad 37)) iw_X7_go_X7 (lg_0 ad cI cJ X S) rfl 14 (by decide) (C0.ts _ fw_X7_go_81) rfl dX7_go_98 ?_
      refine r_cV_i (As := []) (rest := [.ref (ad 19)]) C0 hw (c_X1_done  hV) (cwV 0 C0.ts gX7_go_X1_done rfl rfl rfl hd_X1_done ⟨Nat.le_of_ble_eq_true rfl, Nat.le_of_ble_eq_true rfl⟩) (lg_37 ad cI cJ X S) rfl rfl hl.1 rfl (Nat.le_of_ble_eq_true rfl) ⟨Nat.zero_le _, Nat.zero_le _⟩ dX7_go_101 (fun r17 S18 H locs hV hw => ?_)
      refine lv_i2l C0.x C0.b dX7_go_104 rfl ?_
      refine r_cV_i (As := [.long r17.toInt64]) (rest := []) C0 hw (c_X2_add (ln_19 ad cI cJ X) hV) (cwV 1 C0.ts gX7_go_X2_add rfl rfl rfl hd_X2_add ⟨Nat.le_of_ble_eq_true rfl, Nat.le_of_ble_eq_true rfl⟩) (lg_19 ad cI cJ X S18) rfl rfl hl.1 rfl (Nat.le_of_ble_eq_true rfl) ⟨Nat.zero_le _, Nat.zero_le _⟩ dX7_go_105 (fun r19 S20 H locs hV hw => ?_)
      refine lv_pop C0.x C0.b dX7_go_108 rfl ?_
      refine lv_iload C0.x C0.b dX7_go_109 (lv_at hl 1 rfl) ?_
      exact r_iret C0 rfl hw hV dX7_go_111
    · have hV := hV.2 c16
      refine lv_aload_n C0.x C0.b dX7_go_70 rfl (lv_at hl 0 rfl) ?_
      refine r_get C0 hw (C := RX7) (T := TX7) (N := 15) (v := .ref (ad 19)) iw_X7_go_X7 (lg_0 ad cI cJ X S) rfl 6 (by decide) (C0.ts _ fw_X7_go_45) rfl dX7_go_71 ?_
      refine lv_aload_n C0.x C0.b dX7_go_74 rfl (lv_at hl 0 rfl) ?_
      refine r_get C0 hw (C := RX7) (T := TX7) (N := 15) (v := .ref (ad 37)) iw_X7_go_X7 (lg_0 ad cI cJ X S) rfl 14 (by decide) (C0.ts _ fw_X7_go_81) rfl dX7_go_75 ?_
      refine lv_iload C0.x C0.b dX7_go_78 (lv_at hl 2 rfl) ?_
      refine r_cV_l (As := [.int v7]) (rest := [.ref (ad 19)]) C0 hw (c_X1_inHeap  hV) (cwV 1 C0.ts gX7_go_X1_inHeap rfl rfl rfl hd_X1_inHeap ⟨Nat.le_of_ble_eq_true rfl, Nat.le_of_ble_eq_true rfl⟩) (lg_37 ad cI cJ X S) rfl rfl hl.1 rfl (Nat.le_of_ble_eq_true rfl) ⟨Nat.zero_le _, Nat.zero_le _⟩ dX7_go_80 (fun r21 S22 H locs hV hw => ?_)
      refine r_cV_i (As := [.long r21]) (rest := []) C0 hw (c_X2_add (ln_19 ad cI cJ X) hV) (cwV 1 C0.ts gX7_go_X2_add rfl rfl rfl hd_X2_add ⟨Nat.le_of_ble_eq_true rfl, Nat.le_of_ble_eq_true rfl⟩) (lg_19 ad cI cJ X S22) rfl rfl hl.1 rfl (Nat.le_of_ble_eq_true rfl) ⟨Nat.zero_le _, Nat.zero_le _⟩ dX7_go_83 (fun r23 S24 H locs hV hw => ?_)
      refine lv_pop C0.x C0.b dX7_go_86 rfl ?_
      obtain ⟨x25, ex25⟩ : ∃ z : Int32, z = v7 + 1 := ⟨_, rfl⟩
      have hV := hV x25 ex25
      refine lv_iinc (v := x25) (lv' := [(7, .int x25), (0, .ref (ad 0)), (6, .int v6)]) C0.x C0.b dX7_go_87 hl (k := 2) rfl (by rw [ex25]; rfl) (by decide) rfl (fun ls hl => ?_)
      refine lv_goto (tgt := 64) C0.x C0.b dX7_go_90 (by decide) ?_
      exact ih _ _ hV _ _ hw _ (lv_sub hl [1, 2, 0] rfl)
def V_X7_go  (p0 : Int32) (p1 : Int32) (p2 : Int32) (p3 : Int32) (p4 : Int32) (S : SS) (post : Int32 → SS → Prop) : Prop :=
  (V_X1_size  S (fun (r1 : Int32) (S2 : SS) => ((r1 = 0 → (post (-1 : Int32) S2)) ∧ (¬ r1 = 0 → (V_X7_areHeaps p0 p1 p2 p3 S2 (fun (r4 : Int32) (S5 : SS) => ((r4 = 0 → (post (-1 : Int32) S5)) ∧ (¬ r4 = 0 → (V_X7_isStepCount p4 S5 (fun (r7 : Int32) (S8 : SS) => ((r7 = 0 → (post (-1 : Int32) S8)) ∧ (¬ r7 = 0 → (V_X1_fill p0 p1 p2 p3 S8 (fun (S11 : SS) => (V_X1_work p4 S11 (fun (r12 : Int32) (S13 : SS) => (V_X2_empty 7 12 1000 S13 (fun (S15 : SS) => (∃ n64 : Nat, V_X7_go_64  r12  post n64 (0 : Int32) S15)))))))))))))))))))
set_option maxHeartbeats 4000000 in
set_option maxRecDepth 100000 in
theorem c_X7_go  {S : SS} {p0 : Int32} {p1 : Int32} {p2 : Int32} {p3 : Int32} {p4 : Int32} {post : Int32 → SS → Prop} (hV : V_X7_go  p0 p1 p2 p3 p4 S post) : MI l yX7_go wsX7_go rm_X7_go [.ref (ad 0), .int p0, .int p1, .int p2, .int p3, .int p4] D n0 ad cI cJ X S post := by
  refine Met.ofW (cc := cX7_go) (maxL := 8) (ret := (some .int)) (by decide) rfl ?_
  intro p e s m args below meth c s₁ B hml hv
  obtain ⟨rfl, hv⟩ := hv
  have C0 := Bd.mk B hml (atoms_spec (ws := wsX7_go) B.pre) (findClass_of_methodNamed B.named) hv.1
  have hw : Wh D n0 ad cI cJ X S s s.heap [] := ⟨hv.2.1, hv.2.2, va_S.rf⟩
  refine r_entry (Nat.le_of_ble_eq_true rfl) (fun ls hl => ?_)
  have hl : lv_has ls 8 [(0, .ref (ad 0)), (1, .int p0), (2, .int p1), (3, .int p2), (4, .int p3), (5, .int p4)] := hl
  unfold V_X7_go at hV
  refine lv_aload_n C0.x C0.b dX7_go_0 rfl (lv_at hl 0 rfl) ?_
  refine r_get C0 hw (C := RX7) (T := TX7) (N := 15) (v := .ref (ad 37)) iw_X7_go_X7 (lg_0 ad cI cJ X S) rfl 14 (by decide) (C0.ts _ fw_X7_go_81) rfl dX7_go_1 ?_
  refine r_cV_i (As := []) (rest := []) C0 hw (c_X1_size  hV) (cwV 0 C0.ts gX7_go_X1_size rfl rfl rfl hd_X1_size ⟨Nat.le_of_ble_eq_true rfl, Nat.le_of_ble_eq_true rfl⟩) (lg_37 ad cI cJ X S) rfl rfl hl.1 rfl (Nat.le_of_ble_eq_true rfl) ⟨Nat.zero_le _, Nat.zero_le _⟩ dX7_go_4 (fun r1 S2 H locs hV hw => ?_)
  refine lv_if_eq (tgt := 29) C0.x C0.b dX7_go_7 (by decide) (fun c3 => ?_) (fun c3 => ?_)
  · have hV := hV.1 c3
    refine lv_iconst (v := -1) C0.x C0.b dX7_go_29 (by decide) ?_
    exact r_iret C0 rfl hw hV dX7_go_30
  · have hV := hV.2 c3
    refine lv_iload_n C0.x C0.b dX7_go_10 rfl (lv_at hl 1 rfl) ?_
    refine lv_iload_n C0.x C0.b dX7_go_11 rfl (lv_at hl 2 rfl) ?_
    refine lv_iload_n C0.x C0.b dX7_go_12 rfl (lv_at hl 3 rfl) ?_
    refine lv_iload C0.x C0.b dX7_go_13 (lv_at hl 4 rfl) ?_
    refine r_cS_i (As := [.int p0, .int p1, .int p2, .int p3]) (rest := []) C0 hw (c_X7_areHeaps  hV) (va_cwS 4 C0.ts gX7_go_X7_areHeaps rfl rfl rfl hd_X7_areHeaps ⟨Nat.le_of_ble_eq_true rfl, Nat.le_of_ble_eq_true rfl⟩) rfl hl.1 rfl (Nat.le_of_ble_eq_true rfl) ⟨Nat.zero_le _, Nat.zero_le _⟩ dX7_go_15 (fun r4 S5 H locs hV hw => ?_)
    refine lv_if_eq (tgt := 29) C0.x C0.b dX7_go_18 (by decide) (fun c6 => ?_) (fun c6 => ?_)
    · have hV := hV.1 c6
      refine lv_iconst (v := -1) C0.x C0.b dX7_go_29 (by decide) ?_
      exact r_iret C0 rfl hw hV dX7_go_30
    · have hV := hV.2 c6
      refine lv_iload C0.x C0.b dX7_go_21 (lv_at hl 5 rfl) ?_
      refine r_cS_i (As := [.int p4]) (rest := []) C0 hw (c_X7_isStepCount  hV) (va_cwS 1 C0.ts gX7_go_X7_isStepCount rfl rfl rfl hd_X7_isStepCount ⟨Nat.le_of_ble_eq_true rfl, Nat.le_of_ble_eq_true rfl⟩) rfl hl.1 rfl (Nat.le_of_ble_eq_true rfl) ⟨Nat.zero_le _, Nat.zero_le _⟩ dX7_go_23 (fun r7 S8 H locs hV hw => ?_)
      refine lv_if_ne (tgt := 31) C0.x C0.b dX7_go_26 (by decide) (fun c9 => ?_) (fun c9 => ?_)
      · have hV := hV.2 c9
        refine lv_aload_n C0.x C0.b dX7_go_31 rfl (lv_at hl 0 rfl) ?_
        refine r_get C0 hw (C := RX7) (T := TX7) (N := 15) (v := .ref (ad 37)) iw_X7_go_X7 (lg_0 ad cI cJ X S8) rfl 14 (by decide) (C0.ts _ fw_X7_go_81) rfl dX7_go_32 ?_
        refine lv_iload_n C0.x C0.b dX7_go_35 rfl (lv_at hl 1 rfl) ?_
        refine lv_iload_n C0.x C0.b dX7_go_36 rfl (lv_at hl 2 rfl) ?_
        refine lv_iload_n C0.x C0.b dX7_go_37 rfl (lv_at hl 3 rfl) ?_
        refine lv_iload C0.x C0.b dX7_go_38 (lv_at hl 4 rfl) ?_
        refine r_cV_v (As := [.int p0, .int p1, .int p2, .int p3]) (rest := []) C0 hw (c_X1_fill  hV) (cwV 4 C0.ts gX7_go_X1_fill rfl rfl rfl hd_X1_fill ⟨Nat.le_of_ble_eq_true rfl, Nat.le_of_ble_eq_true rfl⟩) (lg_37 ad cI cJ X S8) rfl rfl hl.1 rfl (Nat.le_of_ble_eq_true rfl) ⟨Nat.zero_le _, Nat.zero_le _⟩ dX7_go_40 (fun S11 H locs hV hw => ?_)
        refine lv_aload_n C0.x C0.b dX7_go_43 rfl (lv_at hl 0 rfl) ?_
        refine r_get C0 hw (C := RX7) (T := TX7) (N := 15) (v := .ref (ad 37)) iw_X7_go_X7 (lg_0 ad cI cJ X S11) rfl 14 (by decide) (C0.ts _ fw_X7_go_81) rfl dX7_go_44 ?_
        refine lv_iload C0.x C0.b dX7_go_47 (lv_at hl 5 rfl) ?_
        refine r_cV_i (As := [.int p4]) (rest := []) C0 hw (c_X1_work  hV) (cwV 1 C0.ts gX7_go_X1_work rfl rfl rfl hd_X1_work ⟨Nat.le_of_ble_eq_true rfl, Nat.le_of_ble_eq_true rfl⟩) (lg_37 ad cI cJ X S11) rfl rfl hl.1 rfl (Nat.le_of_ble_eq_true rfl) ⟨Nat.zero_le _, Nat.zero_le _⟩ dX7_go_49 (fun r12 S13 H locs hV hw => ?_)
        refine lv_istore (lv' := [(6, .int r12), (0, .ref (ad 0)), (1, .int p0), (2, .int p1), (3, .int p2), (4, .int p3), (5, .int p4)]) C0.x C0.b dX7_go_52 hl (by decide) rfl (fun ls hl => ?_)
        refine lv_aload_n C0.x C0.b dX7_go_54 rfl (lv_at hl 1 rfl) ?_
        refine r_get C0 hw (C := RX7) (T := TX7) (N := 15) (v := .ref (ad 19)) iw_X7_go_X7 (lg_0 ad cI cJ X S13) rfl 6 (by decide) (C0.ts _ fw_X7_go_45) rfl dX7_go_55 ?_
        refine r_cV_v (As := []) (rest := []) C0 hw (c_X2_empty (ln_19 ad cI cJ X) hV) (cwV 0 C0.ts gX7_go_X2_empty rfl rfl rfl hd_X2_empty ⟨Nat.le_of_ble_eq_true rfl, Nat.le_of_ble_eq_true rfl⟩) (lg_19 ad cI cJ X S13) rfl rfl hl.1 rfl (Nat.le_of_ble_eq_true rfl) ⟨Nat.zero_le _, Nat.zero_le _⟩ dX7_go_58 (fun S15 H locs hV hw => ?_)
        refine lv_iconst (v := 0) C0.x C0.b dX7_go_61 (by decide) ?_
        refine lv_istore (lv' := [(7, .int (0 : Int32)), (6, .int r12), (0, .ref (ad 0)), (1, .int p0), (2, .int p1), (3, .int p2), (4, .int p3), (5, .int p4)]) C0.x C0.b dX7_go_62 hl (by decide) rfl (fun ls hl => ?_)
        obtain ⟨n64, hV⟩ := hV
        exact lp_X7_go_64  _ post C0  n64 _ _ hV _ _ hw _ (lv_sub hl [2, 1, 0] rfl)
      · have hV := hV.1 c9
        refine lv_iconst (v := -1) C0.x C0.b dX7_go_29 (by decide) ?_
        exact r_iret C0 rfl hw hV dX7_go_30
/-! StepBench.prime(I)J -/
abbrev rm_X7_prime : Room := { frames := 0, cells := 0, slots := 0, locals := 0 }
set_option maxRecDepth 20000 in
theorem fw_X7_prime_412 : Cond.fieldLink RX7 412 "StepBench" "PRIMES" "[I" ∈ wsX7_prime := by decide +kernel
set_option maxRecDepth 20000 in
theorem hd_X7_prime : yX7_prime.cls ≠ "java/lang/invoke/MethodHandle" ∧ yX7_prime.cls ≠ "java/lang/invoke/VarHandle" ∧ (parseMethodDescriptor yX7_prime.desc).map (fun d => d.parameters.length) = some 1 := by decide +kernel
def V_X7_prime  (p0 : Int32) (S : SS) (post : Int64 → SS → Prop) : Prop :=
  ((p0 < 0 → (post (1 : Int64) S)) ∧ (¬ p0 < 0 → (((28 : Int32) ≤ p0 → (post (1 : Int64) S)) ∧ (¬ (28 : Int32) ≤ p0 → (vp_in p0 28 ∧ (post (primeF p0.toNatClampNeg).toInt64 S))))))
set_option maxHeartbeats 4000000 in
set_option maxRecDepth 100000 in
theorem c_X7_prime  {S : SS} {p0 : Int32} {post : Int64 → SS → Prop} (hV : V_X7_prime  p0 S post) : ML l yX7_prime wsX7_prime rm_X7_prime [.int p0] D n0 ad cI cJ X S post := by
  refine Met.ofW (cc := cX7_prime) (maxL := 1) (ret := (some .long)) (by decide) rfl ?_
  intro p e s m args below meth c s₁ B hml hv
  obtain ⟨rfl, hv⟩ := hv
  have C0 := Bd.mk B hml (atoms_spec (ws := wsX7_prime) B.pre) (findClass_of_methodNamed B.named) hv.1
  have hw : Wh D n0 ad cI cJ X S s s.heap [] := ⟨hv.2.1, hv.2.2, va_S.rf⟩
  refine r_entry (Nat.le_of_ble_eq_true rfl) (fun ls hl => ?_)
  have hl : lv_has ls 1 [(0, .int p0)] := hl
  unfold V_X7_prime at hV
  refine lv_iload_n C0.x C0.b dX7_prime_0 rfl (lv_at hl 0 rfl) ?_
  refine lv_if_lt (tgt := 21) C0.x C0.b dX7_prime_1 (by decide) (fun c1 => ?_) (fun c1 => ?_)
  · have hV := hV.1 c1
    refine lv_lconst (v := 1) C0.x C0.b dX7_prime_21 (by decide) ?_
    exact r_lret C0 rfl hw hV dX7_prime_22
  · have hV := hV.2 c1
    refine lv_iload_n C0.x C0.b dX7_prime_4 rfl (lv_at hl 0 rfl) ?_
    obtain ⟨tp, hZ, hT⟩ := C0.en.2.2.2.2.1
    refine va_gets C0.x C0.b hZ hw.2.2 C0.ow (C0.ts _ fw_X7_prime_412) (fun _ h => h) dX7_prime_5 ?_
    refine va_tlen C0.x C0.b hT hw.2.2 (v := 28) rfl dX7_prime_8 ?_
    refine lv_icmp_ge (tgt := 21) C0.x C0.b dX7_prime_9 (by decide) (fun c2 => ?_) (fun c2 => ?_)
    · have hV := hV.1 c2
      refine lv_lconst (v := 1) C0.x C0.b dX7_prime_21 (by decide) ?_
      exact r_lret C0 rfl hw hV dX7_prime_22
    · have hV := hV.2 c2
      obtain ⟨tp, hZ, hT⟩ := C0.en.2.2.2.2.1
      refine va_gets C0.x C0.b hZ hw.2.2 C0.ow (C0.ts _ fw_X7_prime_412) (fun _ h => h) dX7_prime_12 ?_
      refine lv_iload_n C0.x C0.b dX7_prime_15 rfl (lv_at hl 0 rfl) ?_
      refine va_ti C0.x C0.b hT hw.2.2 hV.1 (v := .int (primeF p0.toNatClampNeg)) rfl dX7_prime_16 ?_
      have hV := hV.2
      refine lv_i2l C0.x C0.b dX7_prime_17 rfl ?_
      refine lv_goto (tgt := 22) C0.x C0.b dX7_prime_18 (by decide) ?_
      exact r_lret C0 rfl hw hV dX7_prime_22
/-! StepBench.goPrime(I)J -/
abbrev rm_X7_goPrime : Room := { frames := 1, cells := 0, slots := 0, locals := 20 }
set_option maxRecDepth 20000 in
theorem hd_X7_goPrime : yX7_goPrime.cls ≠ "java/lang/invoke/MethodHandle" ∧ yX7_goPrime.cls ≠ "java/lang/invoke/VarHandle" ∧ (parseMethodDescriptor yX7_goPrime.desc).map (fun d => d.parameters.length) = some 1 := by decide +kernel
def V_X7_goPrime  (p0 : Int32) (S : SS) (post : Int64 → SS → Prop) : Prop :=
  (V_X7_prime ((4 : Int32) + ((2 : Int32) * p0)) S (fun (r1 : Int64) (S2 : SS) => (post r1 S2)))
set_option maxHeartbeats 4000000 in
set_option maxRecDepth 100000 in
theorem c_X7_goPrime  {S : SS} {p0 : Int32} {post : Int64 → SS → Prop} (hV : V_X7_goPrime  p0 S post) : ML l yX7_goPrime wsX7_goPrime rm_X7_goPrime [.int p0] D n0 ad cI cJ X S post := by
  refine Met.ofW (cc := cX7_goPrime) (maxL := 1) (ret := (some .long)) (by decide) rfl ?_
  intro p e s m args below meth c s₁ B hml hv
  obtain ⟨rfl, hv⟩ := hv
  have C0 := Bd.mk B hml (atoms_spec (ws := wsX7_goPrime) B.pre) (findClass_of_methodNamed B.named) hv.1
  have hw : Wh D n0 ad cI cJ X S s s.heap [] := ⟨hv.2.1, hv.2.2, va_S.rf⟩
  refine r_entry (Nat.le_of_ble_eq_true rfl) (fun ls hl => ?_)
  have hl : lv_has ls 1 [(0, .int p0)] := hl
  unfold V_X7_goPrime at hV
  refine lv_iconst (v := 4) C0.x C0.b dX7_goPrime_0 (by decide) ?_
  refine lv_iconst (v := 2) C0.x C0.b dX7_goPrime_1 (by decide) ?_
  refine lv_iload_n C0.x C0.b dX7_goPrime_2 rfl (lv_at hl 0 rfl) ?_
  refine lv_imul C0.x C0.b dX7_goPrime_3 ?_
  refine lv_iadd C0.x C0.b dX7_goPrime_4 ?_
  refine r_cS_l (As := [.int ((4 : Int32) + ((2 : Int32) * p0))]) (rest := []) C0 hw (c_X7_prime  hV) (va_cwS 1 C0.ts gX7_goPrime_X7_prime rfl rfl rfl hd_X7_prime ⟨Nat.le_of_ble_eq_true rfl, Nat.le_of_ble_eq_true rfl⟩) rfl hl.1 rfl (Nat.le_of_ble_eq_true rfl) ⟨Nat.zero_le _, Nat.zero_le _⟩ dX7_goPrime_5 (fun r1 S2 H locs hV hw => ?_)
  exact r_lret C0 rfl hw hV dX7_goPrime_8
/-! StepBench.heapPrime(I)J -/
abbrev rm_X7_heapPrime : Room := { frames := 1, cells := 0, slots := 0, locals := 20 }
set_option maxRecDepth 20000 in
theorem hd_X7_heapPrime : yX7_heapPrime.cls ≠ "java/lang/invoke/MethodHandle" ∧ yX7_heapPrime.cls ≠ "java/lang/invoke/VarHandle" ∧ (parseMethodDescriptor yX7_heapPrime.desc).map (fun d => d.parameters.length) = some 1 := by decide +kernel
def V_X7_heapPrime  (p0 : Int32) (S : SS) (post : Int64 → SS → Prop) : Prop :=
  (V_X7_prime p0 S (fun (r1 : Int64) (S2 : SS) => (post r1 S2)))
set_option maxHeartbeats 4000000 in
set_option maxRecDepth 100000 in
theorem c_X7_heapPrime  {S : SS} {p0 : Int32} {post : Int64 → SS → Prop} (hV : V_X7_heapPrime  p0 S post) : ML l yX7_heapPrime wsX7_heapPrime rm_X7_heapPrime [.int p0] D n0 ad cI cJ X S post := by
  refine Met.ofW (cc := cX7_heapPrime) (maxL := 1) (ret := (some .long)) (by decide) rfl ?_
  intro p e s m args below meth c s₁ B hml hv
  obtain ⟨rfl, hv⟩ := hv
  have C0 := Bd.mk B hml (atoms_spec (ws := wsX7_heapPrime) B.pre) (findClass_of_methodNamed B.named) hv.1
  have hw : Wh D n0 ad cI cJ X S s s.heap [] := ⟨hv.2.1, hv.2.2, va_S.rf⟩
  refine r_entry (Nat.le_of_ble_eq_true rfl) (fun ls hl => ?_)
  have hl : lv_has ls 1 [(0, .int p0)] := hl
  unfold V_X7_heapPrime at hV
  refine lv_iload_n C0.x C0.b dX7_heapPrime_0 rfl (lv_at hl 0 rfl) ?_
  refine r_cS_l (As := [.int p0]) (rest := []) C0 hw (c_X7_prime  hV) (va_cwS 1 C0.ts gX7_heapPrime_X7_prime rfl rfl rfl hd_X7_prime ⟨Nat.le_of_ble_eq_true rfl, Nat.le_of_ble_eq_true rfl⟩) rfl hl.1 rfl (Nat.le_of_ble_eq_true rfl) ⟨Nat.zero_le _, Nat.zero_le _⟩ dX7_heapPrime_1 (fun r1 S2 H locs hV hw => ?_)
  exact r_lret C0 rfl hw hV dX7_heapPrime_4
/-! StepBench.waitPrime(I)J -/
abbrev rm_X7_waitPrime : Room := { frames := 1, cells := 0, slots := 0, locals := 20 }
set_option maxRecDepth 20000 in
theorem hd_X7_waitPrime : yX7_waitPrime.cls ≠ "java/lang/invoke/MethodHandle" ∧ yX7_waitPrime.cls ≠ "java/lang/invoke/VarHandle" ∧ (parseMethodDescriptor yX7_waitPrime.desc).map (fun d => d.parameters.length) = some 1 := by decide +kernel
def V_X7_waitPrime  (p0 : Int32) (S : SS) (post : Int64 → SS → Prop) : Prop :=
  (V_X7_prime (((4 : Int32) + ((2 : Int32) * p0)) + (1 : Int32)) S (fun (r1 : Int64) (S2 : SS) => (post r1 S2)))
set_option maxHeartbeats 4000000 in
set_option maxRecDepth 100000 in
theorem c_X7_waitPrime  {S : SS} {p0 : Int32} {post : Int64 → SS → Prop} (hV : V_X7_waitPrime  p0 S post) : ML l yX7_waitPrime wsX7_waitPrime rm_X7_waitPrime [.int p0] D n0 ad cI cJ X S post := by
  refine Met.ofW (cc := cX7_waitPrime) (maxL := 1) (ret := (some .long)) (by decide) rfl ?_
  intro p e s m args below meth c s₁ B hml hv
  obtain ⟨rfl, hv⟩ := hv
  have C0 := Bd.mk B hml (atoms_spec (ws := wsX7_waitPrime) B.pre) (findClass_of_methodNamed B.named) hv.1
  have hw : Wh D n0 ad cI cJ X S s s.heap [] := ⟨hv.2.1, hv.2.2, va_S.rf⟩
  refine r_entry (Nat.le_of_ble_eq_true rfl) (fun ls hl => ?_)
  have hl : lv_has ls 1 [(0, .int p0)] := hl
  unfold V_X7_waitPrime at hV
  refine lv_iconst (v := 4) C0.x C0.b dX7_waitPrime_0 (by decide) ?_
  refine lv_iconst (v := 2) C0.x C0.b dX7_waitPrime_1 (by decide) ?_
  refine lv_iload_n C0.x C0.b dX7_waitPrime_2 rfl (lv_at hl 0 rfl) ?_
  refine lv_imul C0.x C0.b dX7_waitPrime_3 ?_
  refine lv_iadd C0.x C0.b dX7_waitPrime_4 ?_
  refine lv_iconst (v := 1) C0.x C0.b dX7_waitPrime_5 (by decide) ?_
  refine lv_iadd C0.x C0.b dX7_waitPrime_6 ?_
  refine r_cS_l (As := [.int (((4 : Int32) + ((2 : Int32) * p0)) + (1 : Int32))]) (rest := []) C0 hw (c_X7_prime  hV) (va_cwS 1 C0.ts gX7_waitPrime_X7_prime rfl rfl rfl hd_X7_prime ⟨Nat.le_of_ble_eq_true rfl, Nat.le_of_ble_eq_true rfl⟩) rfl hl.1 rfl (Nat.le_of_ble_eq_true rfl) ⟨Nat.zero_le _, Nat.zero_le _⟩ dX7_waitPrime_7 (fun r1 S2 H locs hV hw => ?_)
  exact r_lret C0 rfl hw hV dX7_waitPrime_10
/-! StepBench.addFractionsOfAct(I)V -/
abbrev rm_X7_addFractionsOfAct : Room := { frames := 3, cells := 0, slots := 0, locals := 80 }
set_option maxRecDepth 20000 in
theorem fw_X7_addFractionsOfAct_81 : Cond.fieldLink RX7 81 "StepBench" "machine" "LStepBench$Machine;" ∈ wsX7_addFractionsOfAct := by decide +kernel
set_option maxRecDepth 20000 in
theorem iw_X7_addFractionsOfAct_X7 : ∀ w ∈ wsX70, w ∈ wsX7_addFractionsOfAct := by decide +kernel
set_option maxRecDepth 20000 in
theorem fw_X7_addFractionsOfAct_29 : Cond.fieldLink RX7 29 "StepBench" "fractions" "LStepBench$Fractions;" ∈ wsX7_addFractionsOfAct := by decide +kernel
set_option maxRecDepth 20000 in
theorem hd_X7_addFractionsOfAct : yX7_addFractionsOfAct.cls = RX7 ∧ yX7_addFractionsOfAct.cls ≠ "java/lang/invoke/MethodHandle" ∧ yX7_addFractionsOfAct.cls ≠ "java/lang/invoke/VarHandle" ∧ (parseMethodDescriptor yX7_addFractionsOfAct.desc).map (fun d => d.parameters.length) = some 1 := by decide +kernel
def V_X7_addFractionsOfAct  (p0 : Int32) (S : SS) (post : SS → Prop) : Prop :=
  (V_X1_next p0 S (fun (r1 : Int32) (S2 : SS) => (V_X7_waitPrime r1 S2 (fun (r3 : Int64) (S4 : SS) => (V_X1_heap p0 S4 (fun (r5 : Int32) (S6 : SS) => (V_X7_heapPrime r5 S6 (fun (r7 : Int64) (S8 : SS) => (V_X1_kind p0 S8 (fun (r9 : Int32) (S10 : SS) => ((r9 = 0 → (V_X7_goPrime p0 S10 (fun (r11 : Int64) (S12 : SS) => (V_X0_add (r3 * r7) r11 S12 (fun (r13 : Int32) (S14 : SS) => (post S14)))))) ∧ (r9 = 1 → (V_X7_goPrime p0 S10 (fun (r15 : Int64) (S16 : SS) => (V_X0_add r3 (r15 * r7) S16 (fun (r17 : Int32) (S18 : SS) => (V_X1_otherwise p0 S18 (fun (r19 : Int32) (S20 : SS) => (V_X7_waitPrime r19 S20 (fun (r21 : Int64) (S22 : SS) => (V_X7_goPrime p0 S22 (fun (r23 : Int64) (S24 : SS) => (V_X0_add r21 r23 S24 (fun (r25 : Int32) (S26 : SS) => (post S26)))))))))))))) ∧ (¬ r9 = 0 → ¬ r9 = 1 → (V_X7_goPrime p0 S10 (fun (r27 : Int64) (S28 : SS) => (V_X0_add (1 : Int64) r27 S28 (fun (r29 : Int32) (S30 : SS) => (post S30)))))))))))))))))
set_option maxHeartbeats 4000000 in
set_option maxRecDepth 100000 in
theorem c_X7_addFractionsOfAct  {S : SS} {p0 : Int32} {post : SS → Prop} (hV : V_X7_addFractionsOfAct  p0 S post) : MV l yX7_addFractionsOfAct wsX7_addFractionsOfAct rm_X7_addFractionsOfAct [.ref (ad 0), .int p0] D n0 ad cI cJ X S post := by
  refine Met.ofW (cc := cX7_addFractionsOfAct) (maxL := 6) (ret := none) (by decide) rfl ?_
  intro p e s m args below meth c s₁ B hml hv
  obtain ⟨rfl, hv⟩ := hv
  have C0 := Bd.mk B hml (atoms_spec (ws := wsX7_addFractionsOfAct) B.pre) (findClass_of_methodNamed B.named) hv.1
  have hw : Wh D n0 ad cI cJ X S s s.heap [] := ⟨hv.2.1, hv.2.2, va_S.rf⟩
  refine r_entry (Nat.le_of_ble_eq_true rfl) (fun ls hl => ?_)
  have hl : lv_has ls 6 [(0, .ref (ad 0)), (1, .int p0)] := hl
  unfold V_X7_addFractionsOfAct at hV
  refine lv_aload_n C0.x C0.b dX7_addFractionsOfAct_0 rfl (lv_at hl 0 rfl) ?_
  refine r_get C0 hw (C := RX7) (T := TX7) (N := 15) (v := .ref (ad 37)) iw_X7_addFractionsOfAct_X7 (lg_0 ad cI cJ X S) rfl 14 (by decide) (C0.ts _ fw_X7_addFractionsOfAct_81) rfl dX7_addFractionsOfAct_1 ?_
  refine lv_iload_n C0.x C0.b dX7_addFractionsOfAct_4 rfl (lv_at hl 1 rfl) ?_
  refine r_cV_i (As := [.int p0]) (rest := []) C0 hw (c_X1_next  hV) (cwV 1 C0.ts gX7_addFractionsOfAct_X1_next rfl rfl rfl hd_X1_next ⟨Nat.le_of_ble_eq_true rfl, Nat.le_of_ble_eq_true rfl⟩) (lg_37 ad cI cJ X S) rfl rfl hl.1 rfl (Nat.le_of_ble_eq_true rfl) ⟨Nat.zero_le _, Nat.zero_le _⟩ dX7_addFractionsOfAct_5 (fun r1 S2 H locs hV hw => ?_)
  refine r_cS_l (As := [.int r1]) (rest := []) C0 hw (c_X7_waitPrime  hV) (va_cwS 1 C0.ts gX7_addFractionsOfAct_X7_waitPrime rfl rfl rfl hd_X7_waitPrime ⟨Nat.le_of_ble_eq_true rfl, Nat.le_of_ble_eq_true rfl⟩) rfl hl.1 rfl (Nat.le_of_ble_eq_true rfl) ⟨Nat.zero_le _, Nat.zero_le _⟩ dX7_addFractionsOfAct_8 (fun r3 S4 H locs hV hw => ?_)
  refine lv_lstore_n (lv' := [(2, .long r3), (0, .ref (ad 0)), (1, .int p0)]) C0.x C0.b dX7_addFractionsOfAct_11 rfl hl (by decide) rfl (fun ls hl => ?_)
  refine lv_aload_n C0.x C0.b dX7_addFractionsOfAct_12 rfl (lv_at hl 1 rfl) ?_
  refine r_get C0 hw (C := RX7) (T := TX7) (N := 15) (v := .ref (ad 37)) iw_X7_addFractionsOfAct_X7 (lg_0 ad cI cJ X S4) rfl 14 (by decide) (C0.ts _ fw_X7_addFractionsOfAct_81) rfl dX7_addFractionsOfAct_13 ?_
  refine lv_iload_n C0.x C0.b dX7_addFractionsOfAct_16 rfl (lv_at hl 2 rfl) ?_
  refine r_cV_i (As := [.int p0]) (rest := []) C0 hw (c_X1_heap  hV) (cwV 1 C0.ts gX7_addFractionsOfAct_X1_heap rfl rfl rfl hd_X1_heap ⟨Nat.le_of_ble_eq_true rfl, Nat.le_of_ble_eq_true rfl⟩) (lg_37 ad cI cJ X S4) rfl rfl hl.1 rfl (Nat.le_of_ble_eq_true rfl) ⟨Nat.zero_le _, Nat.zero_le _⟩ dX7_addFractionsOfAct_17 (fun r5 S6 H locs hV hw => ?_)
  refine r_cS_l (As := [.int r5]) (rest := []) C0 hw (c_X7_heapPrime  hV) (va_cwS 1 C0.ts gX7_addFractionsOfAct_X7_heapPrime rfl rfl rfl hd_X7_heapPrime ⟨Nat.le_of_ble_eq_true rfl, Nat.le_of_ble_eq_true rfl⟩) rfl hl.1 rfl (Nat.le_of_ble_eq_true rfl) ⟨Nat.zero_le _, Nat.zero_le _⟩ dX7_addFractionsOfAct_20 (fun r7 S8 H locs hV hw => ?_)
  refine lv_lstore (lv' := [(4, .long r7), (2, .long r3), (0, .ref (ad 0)), (1, .int p0)]) C0.x C0.b dX7_addFractionsOfAct_23 hl (by decide) rfl (fun ls hl => ?_)
  refine lv_aload_n C0.x C0.b dX7_addFractionsOfAct_25 rfl (lv_at hl 2 rfl) ?_
  refine r_get C0 hw (C := RX7) (T := TX7) (N := 15) (v := .ref (ad 37)) iw_X7_addFractionsOfAct_X7 (lg_0 ad cI cJ X S8) rfl 14 (by decide) (C0.ts _ fw_X7_addFractionsOfAct_81) rfl dX7_addFractionsOfAct_26 ?_
  refine lv_iload_n C0.x C0.b dX7_addFractionsOfAct_29 rfl (lv_at hl 3 rfl) ?_
  refine r_cV_i (As := [.int p0]) (rest := []) C0 hw (c_X1_kind  hV) (cwV 1 C0.ts gX7_addFractionsOfAct_X1_kind rfl rfl rfl hd_X1_kind ⟨Nat.le_of_ble_eq_true rfl, Nat.le_of_ble_eq_true rfl⟩) (lg_37 ad cI cJ X S8) rfl rfl hl.1 rfl (Nat.le_of_ble_eq_true rfl) ⟨Nat.zero_le _, Nat.zero_le _⟩ dX7_addFractionsOfAct_30 (fun r9 S10 H locs hV hw => ?_)
  by_cases hs0 : r9 = 0
  · have hV := hV.1 hs0
    refine lv_lookup (off := 27) (tgt := 60) C0.x C0.b dX7_addFractionsOfAct_33 (by decide) (by rw [hs0]; rfl) (by decide) ?_
    refine lv_aload_n C0.x C0.b dX7_addFractionsOfAct_60 rfl (lv_at hl 2 rfl) ?_
    refine r_get C0 hw (C := RX7) (T := TX7) (N := 15) (v := .ref (ad 13)) iw_X7_addFractionsOfAct_X7 (lg_0 ad cI cJ X S10) rfl 4 (by decide) (C0.ts _ fw_X7_addFractionsOfAct_29) rfl dX7_addFractionsOfAct_61 ?_
    refine lv_lload_n C0.x C0.b dX7_addFractionsOfAct_64 rfl (lv_at hl 1 rfl) ?_
    refine lv_lload C0.x C0.b dX7_addFractionsOfAct_65 (lv_at hl 0 rfl) ?_
    refine lv_lmul C0.x C0.b dX7_addFractionsOfAct_67 ?_
    refine lv_iload_n C0.x C0.b dX7_addFractionsOfAct_68 rfl (lv_at hl 3 rfl) ?_
    refine r_cS_l (As := [.int p0]) (rest := [.long (r3 * r7), .ref (ad 13)]) C0 hw (c_X7_goPrime  hV) (va_cwS 1 C0.ts gX7_addFractionsOfAct_X7_goPrime rfl rfl rfl hd_X7_goPrime ⟨Nat.le_of_ble_eq_true rfl, Nat.le_of_ble_eq_true rfl⟩) rfl hl.1 rfl (Nat.le_of_ble_eq_true rfl) ⟨Nat.zero_le _, Nat.zero_le _⟩ dX7_addFractionsOfAct_69 (fun r11 S12 H locs hV hw => ?_)
    refine r_cV_i (As := [.long (r3 * r7), .long r11]) (rest := []) C0 hw (c_X0_add  hV) (cwV 2 C0.ts gX7_addFractionsOfAct_X0_add rfl rfl rfl hd_X0_add ⟨Nat.le_of_ble_eq_true rfl, Nat.le_of_ble_eq_true rfl⟩) (lg_13 ad cI cJ X S12) rfl rfl hl.1 rfl (Nat.le_of_ble_eq_true rfl) ⟨Nat.zero_le _, Nat.zero_le _⟩ dX7_addFractionsOfAct_72 (fun r13 S14 H locs hV hw => ?_)
    refine lv_pop C0.x C0.b dX7_addFractionsOfAct_75 rfl ?_
    refine lv_goto (tgt := 134) C0.x C0.b dX7_addFractionsOfAct_76 (by decide) ?_
    exact r_vret C0 rfl hw hV dX7_addFractionsOfAct_134
  · skip
    by_cases hs1 : r9 = 1
    · have hV := hV.2.1 hs1
      refine lv_lookup (off := 46) (tgt := 79) C0.x C0.b dX7_addFractionsOfAct_33 (by decide) (by rw [hs1]; rfl) (by decide) ?_
      refine lv_aload_n C0.x C0.b dX7_addFractionsOfAct_79 rfl (lv_at hl 2 rfl) ?_
      refine r_get C0 hw (C := RX7) (T := TX7) (N := 15) (v := .ref (ad 13)) iw_X7_addFractionsOfAct_X7 (lg_0 ad cI cJ X S10) rfl 4 (by decide) (C0.ts _ fw_X7_addFractionsOfAct_29) rfl dX7_addFractionsOfAct_80 ?_
      refine lv_lload_n C0.x C0.b dX7_addFractionsOfAct_83 rfl (lv_at hl 1 rfl) ?_
      refine lv_iload_n C0.x C0.b dX7_addFractionsOfAct_84 rfl (lv_at hl 3 rfl) ?_
      refine r_cS_l (As := [.int p0]) (rest := [.long r3, .ref (ad 13)]) C0 hw (c_X7_goPrime  hV) (va_cwS 1 C0.ts gX7_addFractionsOfAct_X7_goPrime rfl rfl rfl hd_X7_goPrime ⟨Nat.le_of_ble_eq_true rfl, Nat.le_of_ble_eq_true rfl⟩) rfl hl.1 rfl (Nat.le_of_ble_eq_true rfl) ⟨Nat.zero_le _, Nat.zero_le _⟩ dX7_addFractionsOfAct_85 (fun r15 S16 H locs hV hw => ?_)
      refine lv_lload C0.x C0.b dX7_addFractionsOfAct_88 (lv_at hl 0 rfl) ?_
      refine lv_lmul C0.x C0.b dX7_addFractionsOfAct_90 ?_
      refine r_cV_i (As := [.long r3, .long (r15 * r7)]) (rest := []) C0 hw (c_X0_add  hV) (cwV 2 C0.ts gX7_addFractionsOfAct_X0_add rfl rfl rfl hd_X0_add ⟨Nat.le_of_ble_eq_true rfl, Nat.le_of_ble_eq_true rfl⟩) (lg_13 ad cI cJ X S16) rfl rfl hl.1 rfl (Nat.le_of_ble_eq_true rfl) ⟨Nat.zero_le _, Nat.zero_le _⟩ dX7_addFractionsOfAct_91 (fun r17 S18 H locs hV hw => ?_)
      refine lv_pop C0.x C0.b dX7_addFractionsOfAct_94 rfl ?_
      refine lv_aload_n C0.x C0.b dX7_addFractionsOfAct_95 rfl (lv_at hl 2 rfl) ?_
      refine r_get C0 hw (C := RX7) (T := TX7) (N := 15) (v := .ref (ad 13)) iw_X7_addFractionsOfAct_X7 (lg_0 ad cI cJ X S18) rfl 4 (by decide) (C0.ts _ fw_X7_addFractionsOfAct_29) rfl dX7_addFractionsOfAct_96 ?_
      refine lv_aload_n C0.x C0.b dX7_addFractionsOfAct_99 rfl (lv_at hl 2 rfl) ?_
      refine r_get C0 hw (C := RX7) (T := TX7) (N := 15) (v := .ref (ad 37)) iw_X7_addFractionsOfAct_X7 (lg_0 ad cI cJ X S18) rfl 14 (by decide) (C0.ts _ fw_X7_addFractionsOfAct_81) rfl dX7_addFractionsOfAct_100 ?_
      refine lv_iload_n C0.x C0.b dX7_addFractionsOfAct_103 rfl (lv_at hl 3 rfl) ?_
      refine r_cV_i (As := [.int p0]) (rest := [.ref (ad 13)]) C0 hw (c_X1_otherwise  hV) (cwV 1 C0.ts gX7_addFractionsOfAct_X1_otherwise rfl rfl rfl hd_X1_otherwise ⟨Nat.le_of_ble_eq_true rfl, Nat.le_of_ble_eq_true rfl⟩) (lg_37 ad cI cJ X S18) rfl rfl hl.1 rfl (Nat.le_of_ble_eq_true rfl) ⟨Nat.zero_le _, Nat.zero_le _⟩ dX7_addFractionsOfAct_104 (fun r19 S20 H locs hV hw => ?_)
      refine r_cS_l (As := [.int r19]) (rest := [.ref (ad 13)]) C0 hw (c_X7_waitPrime  hV) (va_cwS 1 C0.ts gX7_addFractionsOfAct_X7_waitPrime rfl rfl rfl hd_X7_waitPrime ⟨Nat.le_of_ble_eq_true rfl, Nat.le_of_ble_eq_true rfl⟩) rfl hl.1 rfl (Nat.le_of_ble_eq_true rfl) ⟨Nat.zero_le _, Nat.zero_le _⟩ dX7_addFractionsOfAct_107 (fun r21 S22 H locs hV hw => ?_)
      refine lv_iload_n C0.x C0.b dX7_addFractionsOfAct_110 rfl (lv_at hl 3 rfl) ?_
      refine r_cS_l (As := [.int p0]) (rest := [.long r21, .ref (ad 13)]) C0 hw (c_X7_goPrime  hV) (va_cwS 1 C0.ts gX7_addFractionsOfAct_X7_goPrime rfl rfl rfl hd_X7_goPrime ⟨Nat.le_of_ble_eq_true rfl, Nat.le_of_ble_eq_true rfl⟩) rfl hl.1 rfl (Nat.le_of_ble_eq_true rfl) ⟨Nat.zero_le _, Nat.zero_le _⟩ dX7_addFractionsOfAct_111 (fun r23 S24 H locs hV hw => ?_)
      refine r_cV_i (As := [.long r21, .long r23]) (rest := []) C0 hw (c_X0_add  hV) (cwV 2 C0.ts gX7_addFractionsOfAct_X0_add rfl rfl rfl hd_X0_add ⟨Nat.le_of_ble_eq_true rfl, Nat.le_of_ble_eq_true rfl⟩) (lg_13 ad cI cJ X S24) rfl rfl hl.1 rfl (Nat.le_of_ble_eq_true rfl) ⟨Nat.zero_le _, Nat.zero_le _⟩ dX7_addFractionsOfAct_114 (fun r25 S26 H locs hV hw => ?_)
      refine lv_pop C0.x C0.b dX7_addFractionsOfAct_117 rfl ?_
      refine lv_goto (tgt := 134) C0.x C0.b dX7_addFractionsOfAct_118 (by decide) ?_
      exact r_vret C0 rfl hw hV dX7_addFractionsOfAct_134
    · skip
      have hV := hV.2.2 hs0 hs1
      refine lv_lookup (off := 88) (tgt := 121) C0.x C0.b dX7_addFractionsOfAct_33 (by decide) (lk2 hs0 hs1) (by decide) ?_
      refine lv_aload_n C0.x C0.b dX7_addFractionsOfAct_121 rfl (lv_at hl 2 rfl) ?_
      refine r_get C0 hw (C := RX7) (T := TX7) (N := 15) (v := .ref (ad 13)) iw_X7_addFractionsOfAct_X7 (lg_0 ad cI cJ X S10) rfl 4 (by decide) (C0.ts _ fw_X7_addFractionsOfAct_29) rfl dX7_addFractionsOfAct_122 ?_
      refine lv_lconst (v := 1) C0.x C0.b dX7_addFractionsOfAct_125 (by decide) ?_
      refine lv_iload_n C0.x C0.b dX7_addFractionsOfAct_126 rfl (lv_at hl 3 rfl) ?_
      refine r_cS_l (As := [.int p0]) (rest := [.long (1 : Int64), .ref (ad 13)]) C0 hw (c_X7_goPrime  hV) (va_cwS 1 C0.ts gX7_addFractionsOfAct_X7_goPrime rfl rfl rfl hd_X7_goPrime ⟨Nat.le_of_ble_eq_true rfl, Nat.le_of_ble_eq_true rfl⟩) rfl hl.1 rfl (Nat.le_of_ble_eq_true rfl) ⟨Nat.zero_le _, Nat.zero_le _⟩ dX7_addFractionsOfAct_127 (fun r27 S28 H locs hV hw => ?_)
      refine r_cV_i (As := [.long (1 : Int64), .long r27]) (rest := []) C0 hw (c_X0_add  hV) (cwV 2 C0.ts gX7_addFractionsOfAct_X0_add rfl rfl rfl hd_X0_add ⟨Nat.le_of_ble_eq_true rfl, Nat.le_of_ble_eq_true rfl⟩) (lg_13 ad cI cJ X S28) rfl rfl hl.1 rfl (Nat.le_of_ble_eq_true rfl) ⟨Nat.zero_le _, Nat.zero_le _⟩ dX7_addFractionsOfAct_130 (fun r29 S30 H locs hV hw => ?_)
      refine lv_pop C0.x C0.b dX7_addFractionsOfAct_133 rfl ?_
      exact r_vret C0 rfl hw hV dX7_addFractionsOfAct_134
/-! StepBench.made()I -/
abbrev rm_X7_made : Room := { frames := 4, cells := 0, slots := 0, locals := 105 }
set_option maxRecDepth 20000 in
theorem fw_X7_made_81 : Cond.fieldLink RX7 81 "StepBench" "machine" "LStepBench$Machine;" ∈ wsX7_made := by decide +kernel
set_option maxRecDepth 20000 in
theorem iw_X7_made_X7 : ∀ w ∈ wsX70, w ∈ wsX7_made := by decide +kernel
set_option maxRecDepth 20000 in
theorem fw_X7_made_29 : Cond.fieldLink RX7 29 "StepBench" "fractions" "LStepBench$Fractions;" ∈ wsX7_made := by decide +kernel
set_option maxRecDepth 20000 in
theorem fw_X7_made_9 : Cond.fieldLink RX7 9 "StepBench" "ruleKind" "I" ∈ wsX7_made := by decide +kernel
set_option maxRecDepth 20000 in
theorem hd_X7_made : yX7_made.cls = RX7 ∧ yX7_made.cls ≠ "java/lang/invoke/MethodHandle" ∧ yX7_made.cls ≠ "java/lang/invoke/VarHandle" ∧ (parseMethodDescriptor yX7_made.desc).map (fun d => d.parameters.length) = some 0 := by decide +kernel
def V_X7_made_57    (post : Int32 → SS → Prop) : Nat → Int32 → SS → Prop
  | 0, _, _ => False
  | n + 1, v1, S =>
    (V_X1_size  S (fun (r12 : Int32) (S13 : SS) => ((r12 ≤ v1 → (∀ S15 : SS, S15 = (sI S13 0 (2 : Int32)) → (V_X0_size  S15 (fun (r16 : Int32) (S17 : SS) => (post r16 S17))))) ∧ (¬ r12 ≤ v1 → (V_X7_goPrime v1 S13 (fun (r18 : Int64) (S19 : SS) => (V_X7_waitPrime v1 S19 (fun (r20 : Int64) (S21 : SS) => (V_X0_add r18 r20 S21 (fun (r22 : Int32) (S23 : SS) => (∀ x24 : Int32, x24 = v1 + 1 → (V_X7_made_57    post n x24 S23))))))))))))
set_option maxHeartbeats 4000000 in
set_option maxRecDepth 100000 in
theorem lp_X7_made_57    (post : Int32 → SS → Prop) (C0 : Bd p s m meth c args cX7_made 2 (some .int) wsX7_made RX7 D n0 cI cJ) : ∀ (n : Nat) (v1 : Int32) (S : SS), V_X7_made_57    post n v1 S → ∀ (H : Heap) (locs : List Loc), Wh D n0 ad cI cJ X S s H locs → ∀ ls : Array Slot, lv_has ls 2 [(0, .ref (ad 0)), (1, .int v1)] → W p l e rm_X7_made s m args below meth c H locs 0 0 (MQ below (va_Qi post (fun S' t => Wd D n0 ad cI cJ X S' t) (fr n0)) args s 0 0 (fr n0)) (F0 m 57 ls []) := by
  intro n
  induction n with
  | zero => intro v1 S hV; exact False.elim hV
  | succ n ih =>
    intro v1 S hV H locs hw ls hl
    rw [V_X7_made_57] at hV
    refine lv_iload_n C0.x C0.b dX7_made_57 rfl (lv_at hl 1 rfl) ?_
    refine lv_aload_n C0.x C0.b dX7_made_58 rfl (lv_at hl 0 rfl) ?_
    refine r_get C0 hw (C := RX7) (T := TX7) (N := 15) (v := .ref (ad 37)) iw_X7_made_X7 (lg_0 ad cI cJ X S) rfl 14 (by decide) (C0.ts _ fw_X7_made_81) rfl dX7_made_59 ?_
    refine r_cV_i (As := []) (rest := [.int v1]) C0 hw (c_X1_size  hV) (cwV 0 C0.ts gX7_made_X1_size rfl rfl rfl hd_X1_size ⟨Nat.le_of_ble_eq_true rfl, Nat.le_of_ble_eq_true rfl⟩) (lg_37 ad cI cJ X S) rfl rfl hl.1 rfl (Nat.le_of_ble_eq_true rfl) ⟨Nat.zero_le _, Nat.zero_le _⟩ dX7_made_62 (fun r12 S13 H locs hV hw => ?_)
    refine lv_icmp_ge (tgt := 90) C0.x C0.b dX7_made_65 (by decide) (fun c14 => ?_) (fun c14 => ?_)
    · have hV := hV.1 c14
      refine lv_aload_n C0.x C0.b dX7_made_90 rfl (lv_at hl 0 rfl) ?_
      refine lv_iconst (v := 2) C0.x C0.b dX7_made_91 (by decide) ?_
      refine r_put C0 hw (C := RX7) (T := TX7) (N := 15) (ty := .int) iw_X7_made_X7 tyX7 tyX7_ok nmX7 (lg_0 ad cI cJ X S13) rfl 0 (by decide) (C0.ts _ fw_X7_made_9) rfl (by decide +kernel) rfl rfl (Nat.le_of_ble_eq_true rfl) dX7_made_92 (S' := (sI S13 0 (2 : Int32))) (ls_0_0 ad cI cJ X S13 (2 : Int32)) (fun S15 H locs eS15 hw => ?_)
      have hV := hV S15 eS15
      refine lv_aload_n C0.x C0.b dX7_made_95 rfl (lv_at hl 0 rfl) ?_
      refine r_get C0 hw (C := RX7) (T := TX7) (N := 15) (v := .ref (ad 13)) iw_X7_made_X7 (lg_0 ad cI cJ X S15) rfl 4 (by decide) (C0.ts _ fw_X7_made_29) rfl dX7_made_96 ?_
      refine r_cV_i (As := []) (rest := []) C0 hw (c_X0_size  hV) (cwV 0 C0.ts gX7_made_X0_size rfl rfl rfl hd_X0_size ⟨Nat.le_of_ble_eq_true rfl, Nat.le_of_ble_eq_true rfl⟩) (lg_13 ad cI cJ X S15) rfl rfl hl.1 rfl (Nat.le_of_ble_eq_true rfl) ⟨Nat.zero_le _, Nat.zero_le _⟩ dX7_made_99 (fun r16 S17 H locs hV hw => ?_)
      exact r_iret C0 rfl hw hV dX7_made_102
    · have hV := hV.2 c14
      refine lv_aload_n C0.x C0.b dX7_made_68 rfl (lv_at hl 0 rfl) ?_
      refine r_get C0 hw (C := RX7) (T := TX7) (N := 15) (v := .ref (ad 13)) iw_X7_made_X7 (lg_0 ad cI cJ X S13) rfl 4 (by decide) (C0.ts _ fw_X7_made_29) rfl dX7_made_69 ?_
      refine lv_iload_n C0.x C0.b dX7_made_72 rfl (lv_at hl 1 rfl) ?_
      refine r_cS_l (As := [.int v1]) (rest := [.ref (ad 13)]) C0 hw (c_X7_goPrime  hV) (va_cwS 1 C0.ts gX7_made_X7_goPrime rfl rfl rfl hd_X7_goPrime ⟨Nat.le_of_ble_eq_true rfl, Nat.le_of_ble_eq_true rfl⟩) rfl hl.1 rfl (Nat.le_of_ble_eq_true rfl) ⟨Nat.zero_le _, Nat.zero_le _⟩ dX7_made_73 (fun r18 S19 H locs hV hw => ?_)
      refine lv_iload_n C0.x C0.b dX7_made_76 rfl (lv_at hl 1 rfl) ?_
      refine r_cS_l (As := [.int v1]) (rest := [.long r18, .ref (ad 13)]) C0 hw (c_X7_waitPrime  hV) (va_cwS 1 C0.ts gX7_made_X7_waitPrime rfl rfl rfl hd_X7_waitPrime ⟨Nat.le_of_ble_eq_true rfl, Nat.le_of_ble_eq_true rfl⟩) rfl hl.1 rfl (Nat.le_of_ble_eq_true rfl) ⟨Nat.zero_le _, Nat.zero_le _⟩ dX7_made_77 (fun r20 S21 H locs hV hw => ?_)
      refine r_cV_i (As := [.long r18, .long r20]) (rest := []) C0 hw (c_X0_add  hV) (cwV 2 C0.ts gX7_made_X0_add rfl rfl rfl hd_X0_add ⟨Nat.le_of_ble_eq_true rfl, Nat.le_of_ble_eq_true rfl⟩) (lg_13 ad cI cJ X S21) rfl rfl hl.1 rfl (Nat.le_of_ble_eq_true rfl) ⟨Nat.zero_le _, Nat.zero_le _⟩ dX7_made_80 (fun r22 S23 H locs hV hw => ?_)
      refine lv_pop C0.x C0.b dX7_made_83 rfl ?_
      obtain ⟨x24, ex24⟩ : ∃ z : Int32, z = v1 + 1 := ⟨_, rfl⟩
      have hV := hV x24 ex24
      refine lv_iinc (v := x24) (lv' := [(1, .int x24), (0, .ref (ad 0))]) C0.x C0.b dX7_made_84 hl (k := 1) rfl (by rw [ex24]; rfl) (by decide) rfl (fun ls hl => ?_)
      refine lv_goto (tgt := 57) C0.x C0.b dX7_made_87 (by decide) ?_
      exact ih _ _ hV _ _ hw _ (lv_sub hl [1, 0] rfl)
def V_X7_made_33    (post : Int32 → SS → Prop) : Nat → Int32 → SS → Prop
  | 0, _, _ => False
  | n + 1, v1, S =>
    (V_X1_size  S (fun (r9 : Int32) (S10 : SS) => ((r9 ≤ v1 → (∃ n57 : Nat, V_X7_made_57    post n57 (0 : Int32) S10)) ∧ (¬ r9 ≤ v1 → (V_X7_addFractionsOfAct v1 S10 (fun (S26 : SS) => (∀ x27 : Int32, x27 = v1 + 1 → (V_X7_made_33    post n x27 S26))))))))
set_option maxHeartbeats 4000000 in
set_option maxRecDepth 100000 in
theorem lp_X7_made_33    (post : Int32 → SS → Prop) (C0 : Bd p s m meth c args cX7_made 2 (some .int) wsX7_made RX7 D n0 cI cJ) : ∀ (n : Nat) (v1 : Int32) (S : SS), V_X7_made_33    post n v1 S → ∀ (H : Heap) (locs : List Loc), Wh D n0 ad cI cJ X S s H locs → ∀ ls : Array Slot, lv_has ls 2 [(0, .ref (ad 0)), (1, .int v1)] → W p l e rm_X7_made s m args below meth c H locs 0 0 (MQ below (va_Qi post (fun S' t => Wd D n0 ad cI cJ X S' t) (fr n0)) args s 0 0 (fr n0)) (F0 m 33 ls []) := by
  intro n
  induction n with
  | zero => intro v1 S hV; exact False.elim hV
  | succ n ih =>
    intro v1 S hV H locs hw ls hl
    rw [V_X7_made_33] at hV
    refine lv_iload_n C0.x C0.b dX7_made_33 rfl (lv_at hl 1 rfl) ?_
    refine lv_aload_n C0.x C0.b dX7_made_34 rfl (lv_at hl 0 rfl) ?_
    refine r_get C0 hw (C := RX7) (T := TX7) (N := 15) (v := .ref (ad 37)) iw_X7_made_X7 (lg_0 ad cI cJ X S) rfl 14 (by decide) (C0.ts _ fw_X7_made_81) rfl dX7_made_35 ?_
    refine r_cV_i (As := []) (rest := [.int v1]) C0 hw (c_X1_size  hV) (cwV 0 C0.ts gX7_made_X1_size rfl rfl rfl hd_X1_size ⟨Nat.le_of_ble_eq_true rfl, Nat.le_of_ble_eq_true rfl⟩) (lg_37 ad cI cJ X S) rfl rfl hl.1 rfl (Nat.le_of_ble_eq_true rfl) ⟨Nat.zero_le _, Nat.zero_le _⟩ dX7_made_38 (fun r9 S10 H locs hV hw => ?_)
    refine lv_icmp_ge (tgt := 55) C0.x C0.b dX7_made_41 (by decide) (fun c11 => ?_) (fun c11 => ?_)
    · have hV := hV.1 c11
      refine lv_iconst (v := 0) C0.x C0.b dX7_made_55 (by decide) ?_
      refine lv_istore_n (lv' := [(1, .int (0 : Int32)), (0, .ref (ad 0))]) C0.x C0.b dX7_made_56 rfl hl (by decide) rfl (fun ls hl => ?_)
      obtain ⟨n57, hV⟩ := hV
      exact lp_X7_made_57   post C0  n57 _ _ hV _ _ hw _ (lv_sub hl [1, 0] rfl)
    · have hV := hV.2 c11
      refine lv_aload_n C0.x C0.b dX7_made_44 rfl (lv_at hl 0 rfl) ?_
      refine lv_iload_n C0.x C0.b dX7_made_45 rfl (lv_at hl 1 rfl) ?_
      refine r_cV_v (As := [.int v1]) (rest := []) C0 hw (c_X7_addFractionsOfAct  hV) (cwV 1 C0.ts gX7_made_X7_addFractionsOfAct rfl rfl rfl hd_X7_addFractionsOfAct ⟨Nat.le_of_ble_eq_true rfl, Nat.le_of_ble_eq_true rfl⟩) (lg_0 ad cI cJ X S10) rfl rfl hl.1 rfl (Nat.le_of_ble_eq_true rfl) ⟨Nat.zero_le _, Nat.zero_le _⟩ dX7_made_46 (fun S26 H locs hV hw => ?_)
      obtain ⟨x27, ex27⟩ : ∃ z : Int32, z = v1 + 1 := ⟨_, rfl⟩
      have hV := hV x27 ex27
      refine lv_iinc (v := x27) (lv' := [(1, .int x27), (0, .ref (ad 0))]) C0.x C0.b dX7_made_49 hl (k := 1) rfl (by rw [ex27]; rfl) (by decide) rfl (fun ls hl => ?_)
      refine lv_goto (tgt := 33) C0.x C0.b dX7_made_52 (by decide) ?_
      exact ih _ _ hV _ _ hw _ (lv_sub hl [1, 0] rfl)
def V_X7_made   (S : SS) (post : Int32 → SS → Prop) : Prop :=
  (V_X1_size  S (fun (r1 : Int32) (S2 : SS) => ((r1 = 0 → (post (-1 : Int32) S2)) ∧ (¬ r1 = 0 → (V_X1_fractionsNeeded  S2 (fun (r4 : Int32) (S5 : SS) => ((r4 ≤ (40 : Int32) → (V_X0_empty  S5 (fun (S8 : SS) => (∃ n33 : Nat, V_X7_made_33    post n33 (0 : Int32) S8)))) ∧ (¬ r4 ≤ (40 : Int32) → (post (-1 : Int32) S5)))))))))
set_option maxHeartbeats 4000000 in
set_option maxRecDepth 100000 in
theorem c_X7_made  {S : SS}  {post : Int32 → SS → Prop} (hV : V_X7_made   S post) : MI l yX7_made wsX7_made rm_X7_made [.ref (ad 0)] D n0 ad cI cJ X S post := by
  refine Met.ofW (cc := cX7_made) (maxL := 2) (ret := (some .int)) (by decide) rfl ?_
  intro p e s m args below meth c s₁ B hml hv
  obtain ⟨rfl, hv⟩ := hv
  have C0 := Bd.mk B hml (atoms_spec (ws := wsX7_made) B.pre) (findClass_of_methodNamed B.named) hv.1
  have hw : Wh D n0 ad cI cJ X S s s.heap [] := ⟨hv.2.1, hv.2.2, va_S.rf⟩
  refine r_entry (Nat.le_of_ble_eq_true rfl) (fun ls hl => ?_)
  have hl : lv_has ls 2 [(0, .ref (ad 0))] := hl
  unfold V_X7_made at hV
  refine lv_aload_n C0.x C0.b dX7_made_0 rfl (lv_at hl 0 rfl) ?_
  refine r_get C0 hw (C := RX7) (T := TX7) (N := 15) (v := .ref (ad 37)) iw_X7_made_X7 (lg_0 ad cI cJ X S) rfl 14 (by decide) (C0.ts _ fw_X7_made_81) rfl dX7_made_1 ?_
  refine r_cV_i (As := []) (rest := []) C0 hw (c_X1_size  hV) (cwV 0 C0.ts gX7_made_X1_size rfl rfl rfl hd_X1_size ⟨Nat.le_of_ble_eq_true rfl, Nat.le_of_ble_eq_true rfl⟩) (lg_37 ad cI cJ X S) rfl rfl hl.1 rfl (Nat.le_of_ble_eq_true rfl) ⟨Nat.zero_le _, Nat.zero_le _⟩ dX7_made_4 (fun r1 S2 H locs hV hw => ?_)
  refine lv_if_eq (tgt := 22) C0.x C0.b dX7_made_7 (by decide) (fun c3 => ?_) (fun c3 => ?_)
  · have hV := hV.1 c3
    refine lv_iconst (v := -1) C0.x C0.b dX7_made_22 (by decide) ?_
    exact r_iret C0 rfl hw hV dX7_made_23
  · have hV := hV.2 c3
    refine lv_aload_n C0.x C0.b dX7_made_10 rfl (lv_at hl 0 rfl) ?_
    refine r_get C0 hw (C := RX7) (T := TX7) (N := 15) (v := .ref (ad 37)) iw_X7_made_X7 (lg_0 ad cI cJ X S2) rfl 14 (by decide) (C0.ts _ fw_X7_made_81) rfl dX7_made_11 ?_
    refine r_cV_i (As := []) (rest := []) C0 hw (c_X1_fractionsNeeded  hV) (cwV 0 C0.ts gX7_made_X1_fractionsNeeded rfl rfl rfl hd_X1_fractionsNeeded ⟨Nat.le_of_ble_eq_true rfl, Nat.le_of_ble_eq_true rfl⟩) (lg_37 ad cI cJ X S2) rfl rfl hl.1 rfl (Nat.le_of_ble_eq_true rfl) ⟨Nat.zero_le _, Nat.zero_le _⟩ dX7_made_14 (fun r4 S5 H locs hV hw => ?_)
    refine lv_bipush (v := 40) C0.x C0.b dX7_made_17 (by decide) ?_
    refine lv_icmp_le (tgt := 24) C0.x C0.b dX7_made_19 (by decide) (fun c6 => ?_) (fun c6 => ?_)
    · have hV := hV.1 c6
      refine lv_aload_n C0.x C0.b dX7_made_24 rfl (lv_at hl 0 rfl) ?_
      refine r_get C0 hw (C := RX7) (T := TX7) (N := 15) (v := .ref (ad 13)) iw_X7_made_X7 (lg_0 ad cI cJ X S5) rfl 4 (by decide) (C0.ts _ fw_X7_made_29) rfl dX7_made_25 ?_
      refine r_cV_v (As := []) (rest := []) C0 hw (c_X0_empty  hV) (cwV 0 C0.ts gX7_made_X0_empty rfl rfl rfl hd_X0_empty ⟨Nat.le_of_ble_eq_true rfl, Nat.le_of_ble_eq_true rfl⟩) (lg_13 ad cI cJ X S5) rfl rfl hl.1 rfl (Nat.le_of_ble_eq_true rfl) ⟨Nat.zero_le _, Nat.zero_le _⟩ dX7_made_28 (fun S8 H locs hV hw => ?_)
      refine lv_iconst (v := 0) C0.x C0.b dX7_made_31 (by decide) ?_
      refine lv_istore_n (lv' := [(1, .int (0 : Int32)), (0, .ref (ad 0))]) C0.x C0.b dX7_made_32 rfl hl (by decide) rfl (fun ls hl => ?_)
      obtain ⟨n33, hV⟩ := hV
      exact lp_X7_made_33   post C0  n33 _ _ hV _ _ hw _ (lv_sub hl [1, 0] rfl)
    · have hV := hV.2 c6
      refine lv_iconst (v := -1) C0.x C0.b dX7_made_22 (by decide) ?_
      exact r_iret C0 rfl hw hV dX7_made_23
/-! StepBench.timesPower(JJI)J -/
abbrev rm_X7_timesPower : Room := { frames := 1, cells := 0, slots := 0, locals := 21 }
set_option maxRecDepth 20000 in
theorem cw_X7_timesPower_190 : Cond.constantLong RX7 190 3000000000000000 ∈ wsX7_timesPower := by decide +kernel
set_option maxRecDepth 20000 in
theorem hd_X7_timesPower : yX7_timesPower.cls ≠ "java/lang/invoke/MethodHandle" ∧ yX7_timesPower.cls ≠ "java/lang/invoke/VarHandle" ∧ (parseMethodDescriptor yX7_timesPower.desc).map (fun d => d.parameters.length) = some 3 := by decide +kernel
def V_X7_timesPower_6  (v2 : Int64) (v4 : Int32)  (post : Int64 → SS → Prop) : Nat → Int64 → Int32 → SS → Prop
  | 0, _, _, _ => False
  | n + 1, v5, v7, S =>
    ((v4 ≤ v7 → (V_X7_isNumber v5 S (fun (r2 : Int32) (S3 : SS) => ((r2 = 0 → (post (3000000000000000 : Int64) S3)) ∧ (¬ r2 = 0 → (post v5 S3)))))) ∧ (¬ v4 ≤ v7 → (V_X7_isNumber v5 S (fun (r5 : Int32) (S6 : SS) => ((r5 = 0 → (V_X7_isNumber v5 S6 (fun (r8 : Int32) (S9 : SS) => ((r8 = 0 → (post (3000000000000000 : Int64) S9)) ∧ (¬ r8 = 0 → (post v5 S9)))))) ∧ (¬ r5 = 0 → (∀ y11 : Int64, y11 = (v5 * v2) → (∀ x12 : Int32, x12 = v7 + 1 → (V_X7_timesPower_6  v2 v4  post n y11 x12 S6)))))))))
set_option maxHeartbeats 4000000 in
set_option maxRecDepth 100000 in
theorem lp_X7_timesPower_6  (v2 : Int64) (v4 : Int32)  (post : Int64 → SS → Prop) (C0 : Bd p s m meth c args cX7_timesPower 8 (some .long) wsX7_timesPower RX7 D n0 cI cJ) : ∀ (n : Nat) (v5 : Int64) (v7 : Int32) (S : SS), V_X7_timesPower_6  v2 v4  post n v5 v7 S → ∀ (H : Heap) (locs : List Loc), Wh D n0 ad cI cJ X S s H locs → ∀ ls : Array Slot, lv_has ls 8 [(2, .long v2), (4, .int v4), (5, .long v5), (7, .int v7)] → W p l e rm_X7_timesPower s m args below meth c H locs 0 0 (MQ below (va_Ql post (fun S' t => Wd D n0 ad cI cJ X S' t) (fr n0)) args s 0 0 (fr n0)) (F0 m 6 ls []) := by
  intro n
  induction n with
  | zero => intro v5 v7 S hV; exact False.elim hV
  | succ n ih =>
    intro v5 v7 S hV H locs hw ls hl
    rw [V_X7_timesPower_6] at hV
    refine lv_iload C0.x C0.b dX7_timesPower_6 (lv_at hl 3 rfl) ?_
    refine lv_iload C0.x C0.b dX7_timesPower_8 (lv_at hl 1 rfl) ?_
    refine lv_icmp_ge (tgt := 33) C0.x C0.b dX7_timesPower_10 (by decide) (fun c1 => ?_) (fun c1 => ?_)
    · have hV := hV.1 c1
      refine lv_lload C0.x C0.b dX7_timesPower_33 (lv_at hl 2 rfl) ?_
      refine r_cS_i (As := [.long v5]) (rest := []) C0 hw (c_X7_isNumber  hV) (va_cwS 1 C0.ts gX7_timesPower_X7_isNumber rfl rfl rfl hd_X7_isNumber ⟨Nat.le_of_ble_eq_true rfl, Nat.le_of_ble_eq_true rfl⟩) rfl hl.1 rfl (Nat.le_of_ble_eq_true rfl) ⟨Nat.zero_le _, Nat.zero_le _⟩ dX7_timesPower_35 (fun r2 S3 H locs hV hw => ?_)
      refine lv_if_eq (tgt := 46) C0.x C0.b dX7_timesPower_38 (by decide) (fun c4 => ?_) (fun c4 => ?_)
      · have hV := hV.1 c4
        refine lv_ldc2 (v := 3000000000000000) C0.x C0.b C0.ow (C0.ts _ cw_X7_timesPower_190) dX7_timesPower_46 ?_
        exact r_lret C0 rfl hw hV dX7_timesPower_49
      · have hV := hV.2 c4
        refine lv_lload C0.x C0.b dX7_timesPower_41 (lv_at hl 2 rfl) ?_
        refine lv_goto (tgt := 49) C0.x C0.b dX7_timesPower_43 (by decide) ?_
        exact r_lret C0 rfl hw hV dX7_timesPower_49
    · have hV := hV.2 c1
      refine lv_lload C0.x C0.b dX7_timesPower_13 (lv_at hl 2 rfl) ?_
      refine r_cS_i (As := [.long v5]) (rest := []) C0 hw (c_X7_isNumber  hV) (va_cwS 1 C0.ts gX7_timesPower_X7_isNumber rfl rfl rfl hd_X7_isNumber ⟨Nat.le_of_ble_eq_true rfl, Nat.le_of_ble_eq_true rfl⟩) rfl hl.1 rfl (Nat.le_of_ble_eq_true rfl) ⟨Nat.zero_le _, Nat.zero_le _⟩ dX7_timesPower_15 (fun r5 S6 H locs hV hw => ?_)
      refine lv_if_eq (tgt := 33) C0.x C0.b dX7_timesPower_18 (by decide) (fun c7 => ?_) (fun c7 => ?_)
      · have hV := hV.1 c7
        refine lv_lload C0.x C0.b dX7_timesPower_33 (lv_at hl 2 rfl) ?_
        refine r_cS_i (As := [.long v5]) (rest := []) C0 hw (c_X7_isNumber  hV) (va_cwS 1 C0.ts gX7_timesPower_X7_isNumber rfl rfl rfl hd_X7_isNumber ⟨Nat.le_of_ble_eq_true rfl, Nat.le_of_ble_eq_true rfl⟩) rfl hl.1 rfl (Nat.le_of_ble_eq_true rfl) ⟨Nat.zero_le _, Nat.zero_le _⟩ dX7_timesPower_35 (fun r8 S9 H locs hV hw => ?_)
        refine lv_if_eq (tgt := 46) C0.x C0.b dX7_timesPower_38 (by decide) (fun c10 => ?_) (fun c10 => ?_)
        · have hV := hV.1 c10
          refine lv_ldc2 (v := 3000000000000000) C0.x C0.b C0.ow (C0.ts _ cw_X7_timesPower_190) dX7_timesPower_46 ?_
          exact r_lret C0 rfl hw hV dX7_timesPower_49
        · have hV := hV.2 c10
          refine lv_lload C0.x C0.b dX7_timesPower_41 (lv_at hl 2 rfl) ?_
          refine lv_goto (tgt := 49) C0.x C0.b dX7_timesPower_43 (by decide) ?_
          exact r_lret C0 rfl hw hV dX7_timesPower_49
      · have hV := hV.2 c7
        refine lv_lload C0.x C0.b dX7_timesPower_21 (lv_at hl 2 rfl) ?_
        refine lv_lload_n C0.x C0.b dX7_timesPower_23 rfl (lv_at hl 0 rfl) ?_
        refine lv_lmul C0.x C0.b dX7_timesPower_24 ?_
        refine lv_topl (fun y11 ey11 => ?_)
        have hV := hV y11 ey11
        refine lv_lstore (lv' := [(5, .long y11), (2, .long v2), (4, .int v4), (7, .int v7)]) C0.x C0.b dX7_timesPower_25 hl (by decide) rfl (fun ls hl => ?_)
        obtain ⟨x12, ex12⟩ : ∃ z : Int32, z = v7 + 1 := ⟨_, rfl⟩
        have hV := hV x12 ex12
        refine lv_iinc (v := x12) (lv' := [(7, .int x12), (5, .long y11), (2, .long v2), (4, .int v4)]) C0.x C0.b dX7_timesPower_27 hl (k := 3) rfl (by rw [ex12]; rfl) (by decide) rfl (fun ls hl => ?_)
        refine lv_goto (tgt := 6) C0.x C0.b dX7_timesPower_30 (by decide) ?_
        exact ih _ _ _ hV _ _ hw _ (lv_sub hl [2, 3, 1, 0] rfl)
def V_X7_timesPower  (p0 : Int64) (p1 : Int64) (p2 : Int32) (S : SS) (post : Int64 → SS → Prop) : Prop :=
  (∃ n6 : Nat, V_X7_timesPower_6  p1 p2  post n6 p0 (0 : Int32) S)
set_option maxHeartbeats 4000000 in
set_option maxRecDepth 100000 in
theorem c_X7_timesPower  {S : SS} {p0 : Int64} {p1 : Int64} {p2 : Int32} {post : Int64 → SS → Prop} (hV : V_X7_timesPower  p0 p1 p2 S post) : ML l yX7_timesPower wsX7_timesPower rm_X7_timesPower [.long p0, .long p1, .int p2] D n0 ad cI cJ X S post := by
  refine Met.ofW (cc := cX7_timesPower) (maxL := 8) (ret := (some .long)) (by decide) rfl ?_
  intro p e s m args below meth c s₁ B hml hv
  obtain ⟨rfl, hv⟩ := hv
  have C0 := Bd.mk B hml (atoms_spec (ws := wsX7_timesPower) B.pre) (findClass_of_methodNamed B.named) hv.1
  have hw : Wh D n0 ad cI cJ X S s s.heap [] := ⟨hv.2.1, hv.2.2, va_S.rf⟩
  refine r_entry (Nat.le_of_ble_eq_true rfl) (fun ls hl => ?_)
  have hl : lv_has ls 8 [(0, .long p0), (2, .long p1), (4, .int p2)] := hl
  unfold V_X7_timesPower at hV
  refine lv_lload_n C0.x C0.b dX7_timesPower_0 rfl (lv_at hl 0 rfl) ?_
  refine lv_lstore (lv' := [(5, .long p0), (0, .long p0), (2, .long p1), (4, .int p2)]) C0.x C0.b dX7_timesPower_1 hl (by decide) rfl (fun ls hl => ?_)
  refine lv_iconst (v := 0) C0.x C0.b dX7_timesPower_3 (by decide) ?_
  refine lv_istore (lv' := [(7, .int (0 : Int32)), (5, .long p0), (0, .long p0), (2, .long p1), (4, .int p2)]) C0.x C0.b dX7_timesPower_4 hl (by decide) rfl (fun ls hl => ?_)
  obtain ⟨n6, hV⟩ := hV
  exact lp_X7_timesPower_6  _ _ post C0  n6 _ _ _ hV _ _ hw _ (lv_sub hl [3, 4, 1, 0] rfl)
/-! StepBench.weightOfPrime(JIIIII)J -/
abbrev rm_X7_weightOfPrime : Room := { frames := 2, cells := 0, slots := 0, locals := 40 }
set_option maxRecDepth 20000 in
theorem hd_X7_weightOfPrime : yX7_weightOfPrime.cls ≠ "java/lang/invoke/MethodHandle" ∧ yX7_weightOfPrime.cls ≠ "java/lang/invoke/VarHandle" ∧ (parseMethodDescriptor yX7_weightOfPrime.desc).map (fun d => d.parameters.length) = some 6 := by decide +kernel
def V_X7_weightOfPrime  (p0 : Int64) (p1 : Int32) (p2 : Int32) (p3 : Int32) (p4 : Int32) (p5 : Int32) (S : SS) (post : Int64 → SS → Prop) : Prop :=
  (V_X7_heapPrime (0 : Int32) S (fun (r1 : Int64) (S2 : SS) => ((p0 = r1 → (post p1.toInt64 S2)) ∧ (¬ p0 = r1 → (V_X7_heapPrime (1 : Int32) S2 (fun (r4 : Int64) (S5 : SS) => ((p0 = r4 → (post p2.toInt64 S5)) ∧ (¬ p0 = r4 → (V_X7_heapPrime (2 : Int32) S5 (fun (r7 : Int64) (S8 : SS) => ((p0 = r7 → (post p3.toInt64 S8)) ∧ (¬ p0 = r7 → (V_X7_heapPrime (3 : Int32) S8 (fun (r10 : Int64) (S11 : SS) => ((p0 = r10 → (post p4.toInt64 S11)) ∧ (¬ p0 = r10 → (post p5.toInt64 S11)))))))))))))))))
set_option maxHeartbeats 4000000 in
set_option maxRecDepth 100000 in
theorem c_X7_weightOfPrime  {S : SS} {p0 : Int64} {p1 : Int32} {p2 : Int32} {p3 : Int32} {p4 : Int32} {p5 : Int32} {post : Int64 → SS → Prop} (hV : V_X7_weightOfPrime  p0 p1 p2 p3 p4 p5 S post) : ML l yX7_weightOfPrime wsX7_weightOfPrime rm_X7_weightOfPrime [.long p0, .int p1, .int p2, .int p3, .int p4, .int p5] D n0 ad cI cJ X S post := by
  refine Met.ofW (cc := cX7_weightOfPrime) (maxL := 7) (ret := (some .long)) (by decide) rfl ?_
  intro p e s m args below meth c s₁ B hml hv
  obtain ⟨rfl, hv⟩ := hv
  have C0 := Bd.mk B hml (atoms_spec (ws := wsX7_weightOfPrime) B.pre) (findClass_of_methodNamed B.named) hv.1
  have hw : Wh D n0 ad cI cJ X S s s.heap [] := ⟨hv.2.1, hv.2.2, va_S.rf⟩
  refine r_entry (Nat.le_of_ble_eq_true rfl) (fun ls hl => ?_)
  have hl : lv_has ls 7 [(0, .long p0), (2, .int p1), (3, .int p2), (4, .int p3), (5, .int p4), (6, .int p5)] := hl
  unfold V_X7_weightOfPrime at hV
  refine lv_lload_n C0.x C0.b dX7_weightOfPrime_0 rfl (lv_at hl 0 rfl) ?_
  refine lv_iconst (v := 0) C0.x C0.b dX7_weightOfPrime_1 (by decide) ?_
  refine r_cS_l (As := [.int (0 : Int32)]) (rest := [.long p0]) C0 hw (c_X7_heapPrime  hV) (va_cwS 1 C0.ts gX7_weightOfPrime_X7_heapPrime rfl rfl rfl hd_X7_heapPrime ⟨Nat.le_of_ble_eq_true rfl, Nat.le_of_ble_eq_true rfl⟩) rfl hl.1 rfl (Nat.le_of_ble_eq_true rfl) ⟨Nat.zero_le _, Nat.zero_le _⟩ dX7_weightOfPrime_2 (fun r1 S2 H locs hV hw => ?_)
  refine r_lcmp C0 dX7_weightOfPrime_5 ?_
  refine lv_if_ne (tgt := 12) C0.x C0.b dX7_weightOfPrime_6 (by decide) (fun c3 => ?_) (fun c3 => ?_)
  · have hV := hV.2 (fun h => c3 ((lc_eq _ _).mpr h))
    refine lv_lload_n C0.x C0.b dX7_weightOfPrime_12 rfl (lv_at hl 0 rfl) ?_
    refine lv_iconst (v := 1) C0.x C0.b dX7_weightOfPrime_13 (by decide) ?_
    refine r_cS_l (As := [.int (1 : Int32)]) (rest := [.long p0]) C0 hw (c_X7_heapPrime  hV) (va_cwS 1 C0.ts gX7_weightOfPrime_X7_heapPrime rfl rfl rfl hd_X7_heapPrime ⟨Nat.le_of_ble_eq_true rfl, Nat.le_of_ble_eq_true rfl⟩) rfl hl.1 rfl (Nat.le_of_ble_eq_true rfl) ⟨Nat.zero_le _, Nat.zero_le _⟩ dX7_weightOfPrime_14 (fun r4 S5 H locs hV hw => ?_)
    refine r_lcmp C0 dX7_weightOfPrime_17 ?_
    refine lv_if_ne (tgt := 24) C0.x C0.b dX7_weightOfPrime_18 (by decide) (fun c6 => ?_) (fun c6 => ?_)
    · have hV := hV.2 (fun h => c6 ((lc_eq _ _).mpr h))
      refine lv_lload_n C0.x C0.b dX7_weightOfPrime_24 rfl (lv_at hl 0 rfl) ?_
      refine lv_iconst (v := 2) C0.x C0.b dX7_weightOfPrime_25 (by decide) ?_
      refine r_cS_l (As := [.int (2 : Int32)]) (rest := [.long p0]) C0 hw (c_X7_heapPrime  hV) (va_cwS 1 C0.ts gX7_weightOfPrime_X7_heapPrime rfl rfl rfl hd_X7_heapPrime ⟨Nat.le_of_ble_eq_true rfl, Nat.le_of_ble_eq_true rfl⟩) rfl hl.1 rfl (Nat.le_of_ble_eq_true rfl) ⟨Nat.zero_le _, Nat.zero_le _⟩ dX7_weightOfPrime_26 (fun r7 S8 H locs hV hw => ?_)
      refine r_lcmp C0 dX7_weightOfPrime_29 ?_
      refine lv_if_ne (tgt := 37) C0.x C0.b dX7_weightOfPrime_30 (by decide) (fun c9 => ?_) (fun c9 => ?_)
      · have hV := hV.2 (fun h => c9 ((lc_eq _ _).mpr h))
        refine lv_lload_n C0.x C0.b dX7_weightOfPrime_37 rfl (lv_at hl 0 rfl) ?_
        refine lv_iconst (v := 3) C0.x C0.b dX7_weightOfPrime_38 (by decide) ?_
        refine r_cS_l (As := [.int (3 : Int32)]) (rest := [.long p0]) C0 hw (c_X7_heapPrime  hV) (va_cwS 1 C0.ts gX7_weightOfPrime_X7_heapPrime rfl rfl rfl hd_X7_heapPrime ⟨Nat.le_of_ble_eq_true rfl, Nat.le_of_ble_eq_true rfl⟩) rfl hl.1 rfl (Nat.le_of_ble_eq_true rfl) ⟨Nat.zero_le _, Nat.zero_le _⟩ dX7_weightOfPrime_39 (fun r10 S11 H locs hV hw => ?_)
        refine r_lcmp C0 dX7_weightOfPrime_42 ?_
        refine lv_if_ne (tgt := 52) C0.x C0.b dX7_weightOfPrime_43 (by decide) (fun c12 => ?_) (fun c12 => ?_)
        · have hV := hV.2 (fun h => c12 ((lc_eq _ _).mpr h))
          refine lv_iload C0.x C0.b dX7_weightOfPrime_52 (lv_at hl 5 rfl) ?_
          refine lv_i2l C0.x C0.b dX7_weightOfPrime_54 rfl ?_
          exact r_lret C0 rfl hw hV dX7_weightOfPrime_55
        · have hV := hV.1 ((lc_eq _ _).mp c12)
          refine lv_iload C0.x C0.b dX7_weightOfPrime_46 (lv_at hl 4 rfl) ?_
          refine lv_i2l C0.x C0.b dX7_weightOfPrime_48 rfl ?_
          refine lv_goto (tgt := 55) C0.x C0.b dX7_weightOfPrime_49 (by decide) ?_
          exact r_lret C0 rfl hw hV dX7_weightOfPrime_55
      · have hV := hV.1 ((lc_eq _ _).mp c9)
        refine lv_iload C0.x C0.b dX7_weightOfPrime_33 (lv_at hl 3 rfl) ?_
        refine lv_i2l C0.x C0.b dX7_weightOfPrime_35 rfl ?_
        exact r_lret C0 rfl hw hV dX7_weightOfPrime_36
    · have hV := hV.1 ((lc_eq _ _).mp c6)
      refine lv_iload_n C0.x C0.b dX7_weightOfPrime_21 rfl (lv_at hl 2 rfl) ?_
      refine lv_i2l C0.x C0.b dX7_weightOfPrime_22 rfl ?_
      exact r_lret C0 rfl hw hV dX7_weightOfPrime_23
  · have hV := hV.1 ((lc_eq _ _).mp c3)
    refine lv_iload_n C0.x C0.b dX7_weightOfPrime_9 rfl (lv_at hl 1 rfl) ?_
    refine lv_i2l C0.x C0.b dX7_weightOfPrime_10 rfl ?_
    exact r_lret C0 rfl hw hV dX7_weightOfPrime_11
/-! StepBench.weight(JIIIII)J -/
abbrev rm_X7_weight : Room := { frames := 3, cells := 0, slots := 0, locals := 66 }
set_option maxRecDepth 20000 in
theorem cw_X7_weight_428 : Cond.constantLong RX7 428 2 ∈ wsX7_weight := by decide +kernel
set_option maxRecDepth 20000 in
theorem cw_X7_weight_140 : Cond.constantLong RX7 140 1000000000 ∈ wsX7_weight := by decide +kernel
set_option maxRecDepth 20000 in
theorem hd_X7_weight : yX7_weight.cls ≠ "java/lang/invoke/MethodHandle" ∧ yX7_weight.cls ≠ "java/lang/invoke/VarHandle" ∧ (parseMethodDescriptor yX7_weight.desc).map (fun d => d.parameters.length) = some 6 := by decide +kernel
def V_X7_weight_37  (v2 : Int32) (v3 : Int32) (v4 : Int32) (v5 : Int32) (v6 : Int32) (v11 : Int64) (K11 : Int64 → Int64 → Int64 → SS → Prop) (post : Int64 → SS → Prop) : Nat → Int64 → Int64 → Int32 → SS → Prop
  | 0, _, _, _, _ => False
  | n + 1, v7, v9, v13, S =>
    (((64 : Int32) ≤ v13 → ((v11 = (2 : Int64) → (∀ y11 : Int64, y11 = (v11 + (1 : Int64)) → (K11 v7 v9 y11 S))) ∧ (¬ v11 = (2 : Int64) → (∀ y12 : Int64, y12 = (v11 + (2 : Int64)) → (K11 v7 v9 y12 S))))) ∧ (¬ (64 : Int32) ≤ v13 → (¬ v11 = 0 ∧ (((lrm v9 v11) = (0 : Int64) → (¬ v11 = 0 ∧ (∀ y14 : Int64, y14 = (v9 / v11) → (V_X7_weightOfPrime v11 v2 v3 v4 v5 v6 S (fun (r15 : Int64) (S16 : SS) => (∀ y17 : Int64, y17 = (v7 + r15) → (∀ x18 : Int32, x18 = v13 + 1 → (V_X7_weight_37  v2 v3 v4 v5 v6 v11 K11 post n y17 y14 x18 S16)))))))) ∧ (¬ (lrm v9 v11) = (0 : Int64) → ((v11 = (2 : Int64) → (∀ y20 : Int64, y20 = (v11 + (1 : Int64)) → (K11 v7 v9 y20 S))) ∧ (¬ v11 = (2 : Int64) → (∀ y21 : Int64, y21 = (v11 + (2 : Int64)) → (K11 v7 v9 y21 S)))))))))
set_option maxHeartbeats 4000000 in
set_option maxRecDepth 100000 in
theorem lp_X7_weight_37  (v2 : Int32) (v3 : Int32) (v4 : Int32) (v5 : Int32) (v6 : Int32) (v11 : Int64) (K11 : Int64 → Int64 → Int64 → SS → Prop) (post : Int64 → SS → Prop) (C0 : Bd p s m meth c args cX7_weight 14 (some .long) wsX7_weight RX7 D n0 cI cJ) (hK11 : ∀ (v7 : Int64) (v9 : Int64) (v11 : Int64) (S : SS), K11 v7 v9 v11 S → ∀ (H : Heap) (locs : List Loc), Wh D n0 ad cI cJ X S s H locs → ∀ ls : Array Slot, lv_has ls 14 [(2, .int v2), (3, .int v3), (4, .int v4), (5, .int v5), (6, .int v6), (7, .long v7), (9, .long v9), (11, .long v11)] → W p l e rm_X7_weight s m args below meth c H locs 0 0 (MQ below (va_Ql post (fun S' t => Wd D n0 ad cI cJ X S' t) (fr n0)) args s 0 0 (fr n0)) (F0 m 11 ls [])) : ∀ (n : Nat) (v7 : Int64) (v9 : Int64) (v13 : Int32) (S : SS), V_X7_weight_37  v2 v3 v4 v5 v6 v11 K11 post n v7 v9 v13 S → ∀ (H : Heap) (locs : List Loc), Wh D n0 ad cI cJ X S s H locs → ∀ ls : Array Slot, lv_has ls 14 [(2, .int v2), (3, .int v3), (4, .int v4), (5, .int v5), (6, .int v6), (7, .long v7), (9, .long v9), (11, .long v11), (13, .int v13)] → W p l e rm_X7_weight s m args below meth c H locs 0 0 (MQ below (va_Ql post (fun S' t => Wd D n0 ad cI cJ X S' t) (fr n0)) args s 0 0 (fr n0)) (F0 m 37 ls []) := by
  intro n
  induction n with
  | zero => intro v7 v9 v13 S hV; exact False.elim hV
  | succ n ih =>
    intro v7 v9 v13 S hV H locs hw ls hl
    rw [V_X7_weight_37] at hV
    refine lv_iload C0.x C0.b dX7_weight_37 (lv_at hl 8 rfl) ?_
    refine lv_bipush (v := 64) C0.x C0.b dX7_weight_39 (by decide) ?_
    refine lv_icmp_ge (tgt := 85) C0.x C0.b dX7_weight_41 (by decide) (fun c9 => ?_) (fun c9 => ?_)
    · have hV := hV.1 c9
      refine lv_lload C0.x C0.b dX7_weight_85 (lv_at hl 7 rfl) ?_
      refine lv_lload C0.x C0.b dX7_weight_87 (lv_at hl 7 rfl) ?_
      refine lv_ldc2 (v := 2) C0.x C0.b C0.ow (C0.ts _ cw_X7_weight_428) dX7_weight_89 ?_
      refine r_lcmp C0 dX7_weight_92 ?_
      refine lv_if_ne (tgt := 100) C0.x C0.b dX7_weight_93 (by decide) (fun c10 => ?_) (fun c10 => ?_)
      · have hV := hV.2 (fun h => c10 ((lc_eq _ _).mpr h))
        refine lv_ldc2 (v := 2) C0.x C0.b C0.ow (C0.ts _ cw_X7_weight_428) dX7_weight_100 ?_
        refine lv_ladd C0.x C0.b dX7_weight_103 ?_
        refine lv_topl (fun y12 ey12 => ?_)
        have hV := hV y12 ey12
        refine lv_lstore (lv' := [(11, .long y12), (2, .int v2), (3, .int v3), (4, .int v4), (5, .int v5), (6, .int v6), (7, .long v7), (9, .long v9), (13, .int v13)]) C0.x C0.b dX7_weight_104 hl (by decide) rfl (fun ls hl => ?_)
        refine lv_goto (tgt := 11) C0.x C0.b dX7_weight_106 (by decide) ?_
        exact hK11 _ _ _ _ hV _ _ hw _ (lv_sub hl [1, 2, 3, 4, 5, 6, 7, 0] rfl)
      · have hV := hV.1 ((lc_eq _ _).mp c10)
        refine lv_lconst (v := 1) C0.x C0.b dX7_weight_96 (by decide) ?_
        refine lv_goto (tgt := 103) C0.x C0.b dX7_weight_97 (by decide) ?_
        refine lv_ladd C0.x C0.b dX7_weight_103 ?_
        refine lv_topl (fun y11 ey11 => ?_)
        have hV := hV y11 ey11
        refine lv_lstore (lv' := [(11, .long y11), (2, .int v2), (3, .int v3), (4, .int v4), (5, .int v5), (6, .int v6), (7, .long v7), (9, .long v9), (13, .int v13)]) C0.x C0.b dX7_weight_104 hl (by decide) rfl (fun ls hl => ?_)
        refine lv_goto (tgt := 11) C0.x C0.b dX7_weight_106 (by decide) ?_
        exact hK11 _ _ _ _ hV _ _ hw _ (lv_sub hl [1, 2, 3, 4, 5, 6, 7, 0] rfl)
    · have hV := hV.2 c9
      refine lv_lload C0.x C0.b dX7_weight_44 (lv_at hl 6 rfl) ?_
      refine lv_lload C0.x C0.b dX7_weight_46 (lv_at hl 7 rfl) ?_
      refine lv_lrem C0.x C0.b dX7_weight_48 hV.1 ?_
      have hV := hV.2
      refine lv_lconst (v := 0) C0.x C0.b dX7_weight_49 (by decide) ?_
      refine r_lcmp C0 dX7_weight_50 ?_
      refine lv_if_ne (tgt := 85) C0.x C0.b dX7_weight_51 (by decide) (fun c13 => ?_) (fun c13 => ?_)
      · have hV := hV.2 (fun h => c13 ((lc_eq _ _).mpr h))
        refine lv_lload C0.x C0.b dX7_weight_85 (lv_at hl 7 rfl) ?_
        refine lv_lload C0.x C0.b dX7_weight_87 (lv_at hl 7 rfl) ?_
        refine lv_ldc2 (v := 2) C0.x C0.b C0.ow (C0.ts _ cw_X7_weight_428) dX7_weight_89 ?_
        refine r_lcmp C0 dX7_weight_92 ?_
        refine lv_if_ne (tgt := 100) C0.x C0.b dX7_weight_93 (by decide) (fun c19 => ?_) (fun c19 => ?_)
        · have hV := hV.2 (fun h => c19 ((lc_eq _ _).mpr h))
          refine lv_ldc2 (v := 2) C0.x C0.b C0.ow (C0.ts _ cw_X7_weight_428) dX7_weight_100 ?_
          refine lv_ladd C0.x C0.b dX7_weight_103 ?_
          refine lv_topl (fun y21 ey21 => ?_)
          have hV := hV y21 ey21
          refine lv_lstore (lv' := [(11, .long y21), (2, .int v2), (3, .int v3), (4, .int v4), (5, .int v5), (6, .int v6), (7, .long v7), (9, .long v9), (13, .int v13)]) C0.x C0.b dX7_weight_104 hl (by decide) rfl (fun ls hl => ?_)
          refine lv_goto (tgt := 11) C0.x C0.b dX7_weight_106 (by decide) ?_
          exact hK11 _ _ _ _ hV _ _ hw _ (lv_sub hl [1, 2, 3, 4, 5, 6, 7, 0] rfl)
        · have hV := hV.1 ((lc_eq _ _).mp c19)
          refine lv_lconst (v := 1) C0.x C0.b dX7_weight_96 (by decide) ?_
          refine lv_goto (tgt := 103) C0.x C0.b dX7_weight_97 (by decide) ?_
          refine lv_ladd C0.x C0.b dX7_weight_103 ?_
          refine lv_topl (fun y20 ey20 => ?_)
          have hV := hV y20 ey20
          refine lv_lstore (lv' := [(11, .long y20), (2, .int v2), (3, .int v3), (4, .int v4), (5, .int v5), (6, .int v6), (7, .long v7), (9, .long v9), (13, .int v13)]) C0.x C0.b dX7_weight_104 hl (by decide) rfl (fun ls hl => ?_)
          refine lv_goto (tgt := 11) C0.x C0.b dX7_weight_106 (by decide) ?_
          exact hK11 _ _ _ _ hV _ _ hw _ (lv_sub hl [1, 2, 3, 4, 5, 6, 7, 0] rfl)
      · have hV := hV.1 ((lc_eq _ _).mp c13)
        refine lv_lload C0.x C0.b dX7_weight_54 (lv_at hl 6 rfl) ?_
        refine lv_lload C0.x C0.b dX7_weight_56 (lv_at hl 7 rfl) ?_
        refine lv_ldiv C0.x C0.b dX7_weight_58 hV.1 ?_
        have hV := hV.2
        refine lv_topl (fun y14 ey14 => ?_)
        have hV := hV y14 ey14
        refine lv_lstore (lv' := [(9, .long y14), (2, .int v2), (3, .int v3), (4, .int v4), (5, .int v5), (6, .int v6), (7, .long v7), (11, .long v11), (13, .int v13)]) C0.x C0.b dX7_weight_59 hl (by decide) rfl (fun ls hl => ?_)
        refine lv_lload C0.x C0.b dX7_weight_61 (lv_at hl 6 rfl) ?_
        refine lv_lload C0.x C0.b dX7_weight_63 (lv_at hl 7 rfl) ?_
        refine lv_iload_n C0.x C0.b dX7_weight_65 rfl (lv_at hl 1 rfl) ?_
        refine lv_iload_n C0.x C0.b dX7_weight_66 rfl (lv_at hl 2 rfl) ?_
        refine lv_iload C0.x C0.b dX7_weight_67 (lv_at hl 3 rfl) ?_
        refine lv_iload C0.x C0.b dX7_weight_69 (lv_at hl 4 rfl) ?_
        refine lv_iload C0.x C0.b dX7_weight_71 (lv_at hl 5 rfl) ?_
        refine r_cS_l (As := [.long v11, .int v2, .int v3, .int v4, .int v5, .int v6]) (rest := [.long v7]) C0 hw (c_X7_weightOfPrime  hV) (va_cwS 6 C0.ts gX7_weight_X7_weightOfPrime rfl rfl rfl hd_X7_weightOfPrime ⟨Nat.le_of_ble_eq_true rfl, Nat.le_of_ble_eq_true rfl⟩) rfl hl.1 rfl (Nat.le_of_ble_eq_true rfl) ⟨Nat.zero_le _, Nat.zero_le _⟩ dX7_weight_73 (fun r15 S16 H locs hV hw => ?_)
        refine lv_ladd C0.x C0.b dX7_weight_76 ?_
        refine lv_topl (fun y17 ey17 => ?_)
        have hV := hV y17 ey17
        refine lv_lstore (lv' := [(7, .long y17), (9, .long y14), (2, .int v2), (3, .int v3), (4, .int v4), (5, .int v5), (6, .int v6), (11, .long v11), (13, .int v13)]) C0.x C0.b dX7_weight_77 hl (by decide) rfl (fun ls hl => ?_)
        obtain ⟨x18, ex18⟩ : ∃ z : Int32, z = v13 + 1 := ⟨_, rfl⟩
        have hV := hV x18 ex18
        refine lv_iinc (v := x18) (lv' := [(13, .int x18), (7, .long y17), (9, .long y14), (2, .int v2), (3, .int v3), (4, .int v4), (5, .int v5), (6, .int v6), (11, .long v11)]) C0.x C0.b dX7_weight_79 hl (k := 8) rfl (by rw [ex18]; rfl) (by decide) rfl (fun ls hl => ?_)
        refine lv_goto (tgt := 37) C0.x C0.b dX7_weight_82 (by decide) ?_
        exact ih _ _ _ _ hV _ _ hw _ (lv_sub hl [3, 4, 5, 6, 7, 1, 2, 8, 0] rfl)
def V_X7_weight_11  (v2 : Int32) (v3 : Int32) (v4 : Int32) (v5 : Int32) (v6 : Int32)  (post : Int64 → SS → Prop) : Nat → Int64 → Int64 → Int64 → SS → Prop
  | 0, _, _, _, _ => False
  | n + 1, v7, v9, v11, S =>
    (((1000000000 : Int64) < (v11 * v11) → ((v9 ≤ (1 : Int64) → (post v7 S)) ∧ (¬ v9 ≤ (1 : Int64) → (V_X7_weightOfPrime v9 v2 v3 v4 v5 v6 S (fun (r3 : Int64) (S4 : SS) => (post (v7 + r3) S4)))))) ∧ (¬ (1000000000 : Int64) < (v11 * v11) → ((v9 < (v11 * v11) → ((v9 ≤ (1 : Int64) → (post v7 S)) ∧ (¬ v9 ≤ (1 : Int64) → (V_X7_weightOfPrime v9 v2 v3 v4 v5 v6 S (fun (r7 : Int64) (S8 : SS) => (post (v7 + r7) S8)))))) ∧ (¬ v9 < (v11 * v11) → (∃ n37 : Nat, V_X7_weight_37  v2 v3 v4 v5 v6 v11 (fun w7 w9 w11 T => V_X7_weight_11  v2 v3 v4 v5 v6  post n w7 w9 w11 T) post n37 v7 v9 (0 : Int32) S)))))
set_option maxHeartbeats 4000000 in
set_option maxRecDepth 100000 in
theorem lp_X7_weight_11  (v2 : Int32) (v3 : Int32) (v4 : Int32) (v5 : Int32) (v6 : Int32)  (post : Int64 → SS → Prop) (C0 : Bd p s m meth c args cX7_weight 14 (some .long) wsX7_weight RX7 D n0 cI cJ) : ∀ (n : Nat) (v7 : Int64) (v9 : Int64) (v11 : Int64) (S : SS), V_X7_weight_11  v2 v3 v4 v5 v6  post n v7 v9 v11 S → ∀ (H : Heap) (locs : List Loc), Wh D n0 ad cI cJ X S s H locs → ∀ ls : Array Slot, lv_has ls 14 [(2, .int v2), (3, .int v3), (4, .int v4), (5, .int v5), (6, .int v6), (7, .long v7), (9, .long v9), (11, .long v11)] → W p l e rm_X7_weight s m args below meth c H locs 0 0 (MQ below (va_Ql post (fun S' t => Wd D n0 ad cI cJ X S' t) (fr n0)) args s 0 0 (fr n0)) (F0 m 11 ls []) := by
  intro n
  induction n with
  | zero => intro v7 v9 v11 S hV; exact False.elim hV
  | succ n ih =>
    intro v7 v9 v11 S hV H locs hw ls hl
    rw [V_X7_weight_11] at hV
    refine lv_lload C0.x C0.b dX7_weight_11 (lv_at hl 7 rfl) ?_
    refine lv_lload C0.x C0.b dX7_weight_13 (lv_at hl 7 rfl) ?_
    refine lv_lmul C0.x C0.b dX7_weight_15 ?_
    refine lv_ldc2 (v := 1000000000) C0.x C0.b C0.ow (C0.ts _ cw_X7_weight_140) dX7_weight_16 ?_
    refine r_lcmp C0 dX7_weight_19 ?_
    refine lv_if_gt (tgt := 109) C0.x C0.b dX7_weight_20 (by decide) (fun c1 => ?_) (fun c1 => ?_)
    · have hV := hV.1 ((lc_gt _ _).mp c1)
      refine lv_lload C0.x C0.b dX7_weight_109 (lv_at hl 6 rfl) ?_
      refine lv_lconst (v := 1) C0.x C0.b dX7_weight_111 (by decide) ?_
      refine r_lcmp C0 dX7_weight_112 ?_
      refine lv_if_le (tgt := 135) C0.x C0.b dX7_weight_113 (by decide) (fun c2 => ?_) (fun c2 => ?_)
      · have hV := hV.1 ((lc_le _ _).mp c2)
        refine lv_lload C0.x C0.b dX7_weight_135 (lv_at hl 5 rfl) ?_
        exact r_lret C0 rfl hw hV dX7_weight_137
      · have hV := hV.2 (fun h => c2 ((lc_le _ _).mpr h))
        refine lv_lload C0.x C0.b dX7_weight_116 (lv_at hl 5 rfl) ?_
        refine lv_lload C0.x C0.b dX7_weight_118 (lv_at hl 6 rfl) ?_
        refine lv_iload_n C0.x C0.b dX7_weight_120 rfl (lv_at hl 0 rfl) ?_
        refine lv_iload_n C0.x C0.b dX7_weight_121 rfl (lv_at hl 1 rfl) ?_
        refine lv_iload C0.x C0.b dX7_weight_122 (lv_at hl 2 rfl) ?_
        refine lv_iload C0.x C0.b dX7_weight_124 (lv_at hl 3 rfl) ?_
        refine lv_iload C0.x C0.b dX7_weight_126 (lv_at hl 4 rfl) ?_
        refine r_cS_l (As := [.long v9, .int v2, .int v3, .int v4, .int v5, .int v6]) (rest := [.long v7]) C0 hw (c_X7_weightOfPrime  hV) (va_cwS 6 C0.ts gX7_weight_X7_weightOfPrime rfl rfl rfl hd_X7_weightOfPrime ⟨Nat.le_of_ble_eq_true rfl, Nat.le_of_ble_eq_true rfl⟩) rfl hl.1 rfl (Nat.le_of_ble_eq_true rfl) ⟨Nat.zero_le _, Nat.zero_le _⟩ dX7_weight_128 (fun r3 S4 H locs hV hw => ?_)
        refine lv_ladd C0.x C0.b dX7_weight_131 ?_
        refine lv_goto (tgt := 137) C0.x C0.b dX7_weight_132 (by decide) ?_
        exact r_lret C0 rfl hw hV dX7_weight_137
    · have hV := hV.2 (fun h => c1 ((lc_gt _ _).mpr h))
      refine lv_lload C0.x C0.b dX7_weight_23 (lv_at hl 7 rfl) ?_
      refine lv_lload C0.x C0.b dX7_weight_25 (lv_at hl 7 rfl) ?_
      refine lv_lmul C0.x C0.b dX7_weight_27 ?_
      refine lv_lload C0.x C0.b dX7_weight_28 (lv_at hl 6 rfl) ?_
      refine r_lcmp C0 dX7_weight_30 ?_
      refine lv_if_gt (tgt := 109) C0.x C0.b dX7_weight_31 (by decide) (fun c5 => ?_) (fun c5 => ?_)
      · have hV := hV.1 ((lc_gt _ _).mp c5)
        refine lv_lload C0.x C0.b dX7_weight_109 (lv_at hl 6 rfl) ?_
        refine lv_lconst (v := 1) C0.x C0.b dX7_weight_111 (by decide) ?_
        refine r_lcmp C0 dX7_weight_112 ?_
        refine lv_if_le (tgt := 135) C0.x C0.b dX7_weight_113 (by decide) (fun c6 => ?_) (fun c6 => ?_)
        · have hV := hV.1 ((lc_le _ _).mp c6)
          refine lv_lload C0.x C0.b dX7_weight_135 (lv_at hl 5 rfl) ?_
          exact r_lret C0 rfl hw hV dX7_weight_137
        · have hV := hV.2 (fun h => c6 ((lc_le _ _).mpr h))
          refine lv_lload C0.x C0.b dX7_weight_116 (lv_at hl 5 rfl) ?_
          refine lv_lload C0.x C0.b dX7_weight_118 (lv_at hl 6 rfl) ?_
          refine lv_iload_n C0.x C0.b dX7_weight_120 rfl (lv_at hl 0 rfl) ?_
          refine lv_iload_n C0.x C0.b dX7_weight_121 rfl (lv_at hl 1 rfl) ?_
          refine lv_iload C0.x C0.b dX7_weight_122 (lv_at hl 2 rfl) ?_
          refine lv_iload C0.x C0.b dX7_weight_124 (lv_at hl 3 rfl) ?_
          refine lv_iload C0.x C0.b dX7_weight_126 (lv_at hl 4 rfl) ?_
          refine r_cS_l (As := [.long v9, .int v2, .int v3, .int v4, .int v5, .int v6]) (rest := [.long v7]) C0 hw (c_X7_weightOfPrime  hV) (va_cwS 6 C0.ts gX7_weight_X7_weightOfPrime rfl rfl rfl hd_X7_weightOfPrime ⟨Nat.le_of_ble_eq_true rfl, Nat.le_of_ble_eq_true rfl⟩) rfl hl.1 rfl (Nat.le_of_ble_eq_true rfl) ⟨Nat.zero_le _, Nat.zero_le _⟩ dX7_weight_128 (fun r7 S8 H locs hV hw => ?_)
          refine lv_ladd C0.x C0.b dX7_weight_131 ?_
          refine lv_goto (tgt := 137) C0.x C0.b dX7_weight_132 (by decide) ?_
          exact r_lret C0 rfl hw hV dX7_weight_137
      · have hV := hV.2 (fun h => c5 ((lc_gt _ _).mpr h))
        refine lv_iconst (v := 0) C0.x C0.b dX7_weight_34 (by decide) ?_
        refine lv_istore (lv' := [(13, .int (0 : Int32)), (2, .int v2), (3, .int v3), (4, .int v4), (5, .int v5), (6, .int v6), (7, .long v7), (9, .long v9), (11, .long v11)]) C0.x C0.b dX7_weight_35 hl (by decide) rfl (fun ls hl => ?_)
        obtain ⟨n37, hV⟩ := hV
        exact lp_X7_weight_37  _ _ _ _ _ _ _ post C0 ih n37 _ _ _ _ hV _ _ hw _ (lv_sub hl [1, 2, 3, 4, 5, 6, 7, 8, 0] rfl)
def V_X7_weight  (p0 : Int64) (p1 : Int32) (p2 : Int32) (p3 : Int32) (p4 : Int32) (p5 : Int32) (S : SS) (post : Int64 → SS → Prop) : Prop :=
  (∃ n11 : Nat, V_X7_weight_11  p1 p2 p3 p4 p5  post n11 (0 : Int64) p0 (2 : Int64) S)
set_option maxHeartbeats 4000000 in
set_option maxRecDepth 100000 in
theorem c_X7_weight  {S : SS} {p0 : Int64} {p1 : Int32} {p2 : Int32} {p3 : Int32} {p4 : Int32} {p5 : Int32} {post : Int64 → SS → Prop} (hV : V_X7_weight  p0 p1 p2 p3 p4 p5 S post) : ML l yX7_weight wsX7_weight rm_X7_weight [.long p0, .int p1, .int p2, .int p3, .int p4, .int p5] D n0 ad cI cJ X S post := by
  refine Met.ofW (cc := cX7_weight) (maxL := 14) (ret := (some .long)) (by decide) rfl ?_
  intro p e s m args below meth c s₁ B hml hv
  obtain ⟨rfl, hv⟩ := hv
  have C0 := Bd.mk B hml (atoms_spec (ws := wsX7_weight) B.pre) (findClass_of_methodNamed B.named) hv.1
  have hw : Wh D n0 ad cI cJ X S s s.heap [] := ⟨hv.2.1, hv.2.2, va_S.rf⟩
  refine r_entry (Nat.le_of_ble_eq_true rfl) (fun ls hl => ?_)
  have hl : lv_has ls 14 [(0, .long p0), (2, .int p1), (3, .int p2), (4, .int p3), (5, .int p4), (6, .int p5)] := hl
  unfold V_X7_weight at hV
  refine lv_lconst (v := 0) C0.x C0.b dX7_weight_0 (by decide) ?_
  refine lv_lstore (lv' := [(7, .long (0 : Int64)), (0, .long p0), (2, .int p1), (3, .int p2), (4, .int p3), (5, .int p4), (6, .int p5)]) C0.x C0.b dX7_weight_1 hl (by decide) rfl (fun ls hl => ?_)
  refine lv_lload_n C0.x C0.b dX7_weight_3 rfl (lv_at hl 1 rfl) ?_
  refine lv_lstore (lv' := [(9, .long p0), (7, .long (0 : Int64)), (0, .long p0), (2, .int p1), (3, .int p2), (4, .int p3), (5, .int p4), (6, .int p5)]) C0.x C0.b dX7_weight_4 hl (by decide) rfl (fun ls hl => ?_)
  refine lv_ldc2 (v := 2) C0.x C0.b C0.ow (C0.ts _ cw_X7_weight_428) dX7_weight_6 ?_
  refine lv_lstore (lv' := [(11, .long (2 : Int64)), (9, .long p0), (7, .long (0 : Int64)), (0, .long p0), (2, .int p1), (3, .int p2), (4, .int p3), (5, .int p4), (6, .int p5)]) C0.x C0.b dX7_weight_9 hl (by decide) rfl (fun ls hl => ?_)
  obtain ⟨n11, hV⟩ := hV
  exact lp_X7_weight_11  _ _ _ _ _ post C0  n11 _ _ _ _ hV _ _ hw _ (lv_sub hl [4, 5, 6, 7, 8, 2, 1, 0] rfl)
/-! StepBench.law(IIIII)I -/
abbrev rm_X7_law : Room := { frames := 4, cells := 0, slots := 0, locals := 99 }
set_option maxRecDepth 20000 in
theorem fw_X7_law_9 : Cond.fieldLink RX7 9 "StepBench" "ruleKind" "I" ∈ wsX7_law := by decide +kernel
set_option maxRecDepth 20000 in
theorem iw_X7_law_X7 : ∀ w ∈ wsX70, w ∈ wsX7_law := by decide +kernel
set_option maxRecDepth 20000 in
theorem fw_X7_law_29 : Cond.fieldLink RX7 29 "StepBench" "fractions" "LStepBench$Fractions;" ∈ wsX7_law := by decide +kernel
set_option maxRecDepth 20000 in
theorem hd_X7_law : yX7_law.cls = RX7 ∧ yX7_law.cls ≠ "java/lang/invoke/MethodHandle" ∧ yX7_law.cls ≠ "java/lang/invoke/VarHandle" ∧ (parseMethodDescriptor yX7_law.desc).map (fun d => d.parameters.length) = some 5 := by decide +kernel
def V_X7_law_14  (v1 : Int32) (v2 : Int32) (v3 : Int32) (v4 : Int32) (v5 : Int32)  (post : Int32 → SS → Prop) : Nat → Int32 → SS → Prop
  | 0, _, _ => False
  | n + 1, v6, S =>
    (V_X0_size  S (fun (r2 : Int32) (S3 : SS) => ((r2 ≤ v6 → (post (-1 : Int32) S3)) ∧ (¬ r2 ≤ v6 → (V_X0_isEverFirst v6 S3 (fun (r5 : Int32) (S6 : SS) => ((r5 = 0 → (∀ x8 : Int32, x8 = v6 + 1 → (V_X7_law_14  v1 v2 v3 v4 v5  post n x8 S6))) ∧ (¬ r5 = 0 → (V_X0_over v6 S6 (fun (r9 : Int64) (S10 : SS) => (V_X7_weight r9 v1 v2 v3 v4 v5 S10 (fun (r11 : Int64) (S12 : SS) => (V_X0_under v6 S12 (fun (r13 : Int64) (S14 : SS) => (V_X7_weight r13 v1 v2 v3 v4 v5 S14 (fun (r15 : Int64) (S16 : SS) => ((r11 = r15 → (∀ x18 : Int32, x18 = v6 + 1 → (V_X7_law_14  v1 v2 v3 v4 v5  post n x18 S16))) ∧ (¬ r11 = r15 → (post v6 S16)))))))))))))))))))
set_option maxHeartbeats 4000000 in
set_option maxRecDepth 100000 in
theorem lp_X7_law_14  (v1 : Int32) (v2 : Int32) (v3 : Int32) (v4 : Int32) (v5 : Int32)  (post : Int32 → SS → Prop) (C0 : Bd p s m meth c args cX7_law 7 (some .int) wsX7_law RX7 D n0 cI cJ) : ∀ (n : Nat) (v6 : Int32) (S : SS), V_X7_law_14  v1 v2 v3 v4 v5  post n v6 S → ∀ (H : Heap) (locs : List Loc), Wh D n0 ad cI cJ X S s H locs → ∀ ls : Array Slot, lv_has ls 7 [(0, .ref (ad 0)), (1, .int v1), (2, .int v2), (3, .int v3), (4, .int v4), (5, .int v5), (6, .int v6)] → W p l e rm_X7_law s m args below meth c H locs 0 0 (MQ below (va_Qi post (fun S' t => Wd D n0 ad cI cJ X S' t) (fr n0)) args s 0 0 (fr n0)) (F0 m 14 ls []) := by
  intro n
  induction n with
  | zero => intro v6 S hV; exact False.elim hV
  | succ n ih =>
    intro v6 S hV H locs hw ls hl
    rw [V_X7_law_14] at hV
    refine lv_iload C0.x C0.b dX7_law_14 (lv_at hl 6 rfl) ?_
    refine lv_aload_n C0.x C0.b dX7_law_16 rfl (lv_at hl 0 rfl) ?_
    refine r_get C0 hw (C := RX7) (T := TX7) (N := 15) (v := .ref (ad 13)) iw_X7_law_X7 (lg_0 ad cI cJ X S) rfl 4 (by decide) (C0.ts _ fw_X7_law_29) rfl dX7_law_17 ?_
    refine r_cV_i (As := []) (rest := [.int v6]) C0 hw (c_X0_size  hV) (cwV 0 C0.ts gX7_law_X0_size rfl rfl rfl hd_X0_size ⟨Nat.le_of_ble_eq_true rfl, Nat.le_of_ble_eq_true rfl⟩) (lg_13 ad cI cJ X S) rfl rfl hl.1 rfl (Nat.le_of_ble_eq_true rfl) ⟨Nat.zero_le _, Nat.zero_le _⟩ dX7_law_20 (fun r2 S3 H locs hV hw => ?_)
    refine lv_icmp_ge (tgt := 89) C0.x C0.b dX7_law_23 (by decide) (fun c4 => ?_) (fun c4 => ?_)
    · have hV := hV.1 c4
      refine lv_iconst (v := -1) C0.x C0.b dX7_law_89 (by decide) ?_
      exact r_iret C0 rfl hw hV dX7_law_90
    · have hV := hV.2 c4
      refine lv_aload_n C0.x C0.b dX7_law_26 rfl (lv_at hl 0 rfl) ?_
      refine r_get C0 hw (C := RX7) (T := TX7) (N := 15) (v := .ref (ad 13)) iw_X7_law_X7 (lg_0 ad cI cJ X S3) rfl 4 (by decide) (C0.ts _ fw_X7_law_29) rfl dX7_law_27 ?_
      refine lv_iload C0.x C0.b dX7_law_30 (lv_at hl 6 rfl) ?_
      refine r_cV_i (As := [.int v6]) (rest := []) C0 hw (c_X0_isEverFirst  hV) (cwV 1 C0.ts gX7_law_X0_isEverFirst rfl rfl rfl hd_X0_isEverFirst ⟨Nat.le_of_ble_eq_true rfl, Nat.le_of_ble_eq_true rfl⟩) (lg_13 ad cI cJ X S3) rfl rfl hl.1 rfl (Nat.le_of_ble_eq_true rfl) ⟨Nat.zero_le _, Nat.zero_le _⟩ dX7_law_32 (fun r5 S6 H locs hV hw => ?_)
      refine lv_if_eq (tgt := 83) C0.x C0.b dX7_law_35 (by decide) (fun c7 => ?_) (fun c7 => ?_)
      · have hV := hV.1 c7
        obtain ⟨x8, ex8⟩ : ∃ z : Int32, z = v6 + 1 := ⟨_, rfl⟩
        have hV := hV x8 ex8
        refine lv_iinc (v := x8) (lv' := [(6, .int x8), (0, .ref (ad 0)), (1, .int v1), (2, .int v2), (3, .int v3), (4, .int v4), (5, .int v5)]) C0.x C0.b dX7_law_83 hl (k := 6) rfl (by rw [ex8]; rfl) (by decide) rfl (fun ls hl => ?_)
        refine lv_goto (tgt := 14) C0.x C0.b dX7_law_86 (by decide) ?_
        exact ih _ _ hV _ _ hw _ (lv_sub hl [1, 2, 3, 4, 5, 6, 0] rfl)
      · have hV := hV.2 c7
        refine lv_aload_n C0.x C0.b dX7_law_38 rfl (lv_at hl 0 rfl) ?_
        refine r_get C0 hw (C := RX7) (T := TX7) (N := 15) (v := .ref (ad 13)) iw_X7_law_X7 (lg_0 ad cI cJ X S6) rfl 4 (by decide) (C0.ts _ fw_X7_law_29) rfl dX7_law_39 ?_
        refine lv_iload C0.x C0.b dX7_law_42 (lv_at hl 6 rfl) ?_
        refine r_cV_l (As := [.int v6]) (rest := []) C0 hw (c_X0_over  hV) (cwV 1 C0.ts gX7_law_X0_over rfl rfl rfl hd_X0_over ⟨Nat.le_of_ble_eq_true rfl, Nat.le_of_ble_eq_true rfl⟩) (lg_13 ad cI cJ X S6) rfl rfl hl.1 rfl (Nat.le_of_ble_eq_true rfl) ⟨Nat.zero_le _, Nat.zero_le _⟩ dX7_law_44 (fun r9 S10 H locs hV hw => ?_)
        refine lv_iload_n C0.x C0.b dX7_law_47 rfl (lv_at hl 1 rfl) ?_
        refine lv_iload_n C0.x C0.b dX7_law_48 rfl (lv_at hl 2 rfl) ?_
        refine lv_iload_n C0.x C0.b dX7_law_49 rfl (lv_at hl 3 rfl) ?_
        refine lv_iload C0.x C0.b dX7_law_50 (lv_at hl 4 rfl) ?_
        refine lv_iload C0.x C0.b dX7_law_52 (lv_at hl 5 rfl) ?_
        refine r_cS_l (As := [.long r9, .int v1, .int v2, .int v3, .int v4, .int v5]) (rest := []) C0 hw (c_X7_weight  hV) (va_cwS 6 C0.ts gX7_law_X7_weight rfl rfl rfl hd_X7_weight ⟨Nat.le_of_ble_eq_true rfl, Nat.le_of_ble_eq_true rfl⟩) rfl hl.1 rfl (Nat.le_of_ble_eq_true rfl) ⟨Nat.zero_le _, Nat.zero_le _⟩ dX7_law_54 (fun r11 S12 H locs hV hw => ?_)
        refine lv_aload_n C0.x C0.b dX7_law_57 rfl (lv_at hl 0 rfl) ?_
        refine r_get C0 hw (C := RX7) (T := TX7) (N := 15) (v := .ref (ad 13)) iw_X7_law_X7 (lg_0 ad cI cJ X S12) rfl 4 (by decide) (C0.ts _ fw_X7_law_29) rfl dX7_law_58 ?_
        refine lv_iload C0.x C0.b dX7_law_61 (lv_at hl 6 rfl) ?_
        refine r_cV_l (As := [.int v6]) (rest := [.long r11]) C0 hw (c_X0_under  hV) (cwV 1 C0.ts gX7_law_X0_under rfl rfl rfl hd_X0_under ⟨Nat.le_of_ble_eq_true rfl, Nat.le_of_ble_eq_true rfl⟩) (lg_13 ad cI cJ X S12) rfl rfl hl.1 rfl (Nat.le_of_ble_eq_true rfl) ⟨Nat.zero_le _, Nat.zero_le _⟩ dX7_law_63 (fun r13 S14 H locs hV hw => ?_)
        refine lv_iload_n C0.x C0.b dX7_law_66 rfl (lv_at hl 1 rfl) ?_
        refine lv_iload_n C0.x C0.b dX7_law_67 rfl (lv_at hl 2 rfl) ?_
        refine lv_iload_n C0.x C0.b dX7_law_68 rfl (lv_at hl 3 rfl) ?_
        refine lv_iload C0.x C0.b dX7_law_69 (lv_at hl 4 rfl) ?_
        refine lv_iload C0.x C0.b dX7_law_71 (lv_at hl 5 rfl) ?_
        refine r_cS_l (As := [.long r13, .int v1, .int v2, .int v3, .int v4, .int v5]) (rest := [.long r11]) C0 hw (c_X7_weight  hV) (va_cwS 6 C0.ts gX7_law_X7_weight rfl rfl rfl hd_X7_weight ⟨Nat.le_of_ble_eq_true rfl, Nat.le_of_ble_eq_true rfl⟩) rfl hl.1 rfl (Nat.le_of_ble_eq_true rfl) ⟨Nat.zero_le _, Nat.zero_le _⟩ dX7_law_73 (fun r15 S16 H locs hV hw => ?_)
        refine r_lcmp C0 dX7_law_76 ?_
        refine lv_if_eq (tgt := 83) C0.x C0.b dX7_law_77 (by decide) (fun c17 => ?_) (fun c17 => ?_)
        · have hV := hV.1 ((lc_eq _ _).mp c17)
          obtain ⟨x18, ex18⟩ : ∃ z : Int32, z = v6 + 1 := ⟨_, rfl⟩
          have hV := hV x18 ex18
          refine lv_iinc (v := x18) (lv' := [(6, .int x18), (0, .ref (ad 0)), (1, .int v1), (2, .int v2), (3, .int v3), (4, .int v4), (5, .int v5)]) C0.x C0.b dX7_law_83 hl (k := 6) rfl (by rw [ex18]; rfl) (by decide) rfl (fun ls hl => ?_)
          refine lv_goto (tgt := 14) C0.x C0.b dX7_law_86 (by decide) ?_
          exact ih _ _ hV _ _ hw _ (lv_sub hl [1, 2, 3, 4, 5, 6, 0] rfl)
        · have hV := hV.2 (fun h => c17 ((lc_eq _ _).mpr h))
          refine lv_iload C0.x C0.b dX7_law_80 (lv_at hl 6 rfl) ?_
          exact r_iret C0 rfl hw hV dX7_law_82
def V_X7_law  (p0 : Int32) (p1 : Int32) (p2 : Int32) (p3 : Int32) (p4 : Int32) (S : SS) (post : Int32 → SS → Prop) : Prop :=
  (((gI S 0) = (2 : Int32) → (∃ n14 : Nat, V_X7_law_14  p0 p1 p2 p3 p4  post n14 (0 : Int32) S)) ∧ (¬ (gI S 0) = (2 : Int32) → (post (-2 : Int32) S)))
set_option maxHeartbeats 4000000 in
set_option maxRecDepth 100000 in
theorem c_X7_law  {S : SS} {p0 : Int32} {p1 : Int32} {p2 : Int32} {p3 : Int32} {p4 : Int32} {post : Int32 → SS → Prop} (hV : V_X7_law  p0 p1 p2 p3 p4 S post) : MI l yX7_law wsX7_law rm_X7_law [.ref (ad 0), .int p0, .int p1, .int p2, .int p3, .int p4] D n0 ad cI cJ X S post := by
  refine Met.ofW (cc := cX7_law) (maxL := 7) (ret := (some .int)) (by decide) rfl ?_
  intro p e s m args below meth c s₁ B hml hv
  obtain ⟨rfl, hv⟩ := hv
  have C0 := Bd.mk B hml (atoms_spec (ws := wsX7_law) B.pre) (findClass_of_methodNamed B.named) hv.1
  have hw : Wh D n0 ad cI cJ X S s s.heap [] := ⟨hv.2.1, hv.2.2, va_S.rf⟩
  refine r_entry (Nat.le_of_ble_eq_true rfl) (fun ls hl => ?_)
  have hl : lv_has ls 7 [(0, .ref (ad 0)), (1, .int p0), (2, .int p1), (3, .int p2), (4, .int p3), (5, .int p4)] := hl
  unfold V_X7_law at hV
  refine lv_aload_n C0.x C0.b dX7_law_0 rfl (lv_at hl 0 rfl) ?_
  refine r_get C0 hw (C := RX7) (T := TX7) (N := 15) (v := .int (gI S 0)) iw_X7_law_X7 (lg_0 ad cI cJ X S) rfl 0 (by decide) (C0.ts _ fw_X7_law_9) rfl dX7_law_1 ?_
  refine lv_iconst (v := 2) C0.x C0.b dX7_law_4 (by decide) ?_
  refine lv_icmp_eq (tgt := 11) C0.x C0.b dX7_law_5 (by decide) (fun c1 => ?_) (fun c1 => ?_)
  · have hV := hV.1 c1
    refine lv_iconst (v := 0) C0.x C0.b dX7_law_11 (by decide) ?_
    refine lv_istore (lv' := [(6, .int (0 : Int32)), (0, .ref (ad 0)), (1, .int p0), (2, .int p1), (3, .int p2), (4, .int p3), (5, .int p4)]) C0.x C0.b dX7_law_12 hl (by decide) rfl (fun ls hl => ?_)
    obtain ⟨n14, hV⟩ := hV
    exact lp_X7_law_14  _ _ _ _ _ post C0  n14 _ _ hV _ _ hw _ (lv_sub hl [1, 2, 3, 4, 5, 6, 0] rfl)
  · have hV := hV.2 c1
    refine lv_bipush (v := -2) C0.x C0.b dX7_law_8 (by decide) ?_
    exact r_iret C0 rfl hw hV dX7_law_10
/-! StepBenchModel.thrown()I -/
abbrev rm_X8_thrown : Room := { frames := 0, cells := 0, slots := 0, locals := 0 }
set_option maxRecDepth 20000 in
theorem fw_X8_thrown_61 : Cond.fieldLink RX8 61 "StepBenchModel" "thrown" "I" ∈ wsX8_thrown := by decide +kernel
set_option maxRecDepth 20000 in
theorem iw_X8_thrown_X8 : ∀ w ∈ wsX80, w ∈ wsX8_thrown := by decide +kernel
set_option maxRecDepth 20000 in
theorem hd_X8_thrown : yX8_thrown.cls = RX8 ∧ yX8_thrown.cls ≠ "java/lang/invoke/MethodHandle" ∧ yX8_thrown.cls ≠ "java/lang/invoke/VarHandle" ∧ (parseMethodDescriptor yX8_thrown.desc).map (fun d => d.parameters.length) = some 0 := by decide +kernel
def V_X8_thrown   (S : SS) (post : Int32 → SS → Prop) : Prop :=
  (post (gI S 20) S)
set_option maxHeartbeats 4000000 in
set_option maxRecDepth 100000 in
theorem c_X8_thrown  {S : SS}  {post : Int32 → SS → Prop} (hV : V_X8_thrown   S post) : MI l yX8_thrown wsX8_thrown rm_X8_thrown [.ref (ad 48)] D n0 ad cI cJ X S post := by
  refine Met.ofW (cc := cX8_thrown) (maxL := 1) (ret := (some .int)) (by decide) rfl ?_
  intro p e s m args below meth c s₁ B hml hv
  obtain ⟨rfl, hv⟩ := hv
  have C0 := Bd.mk B hml (atoms_spec (ws := wsX8_thrown) B.pre) (findClass_of_methodNamed B.named) hv.1
  have hw : Wh D n0 ad cI cJ X S s s.heap [] := ⟨hv.2.1, hv.2.2, va_S.rf⟩
  refine r_entry (Nat.le_of_ble_eq_true rfl) (fun ls hl => ?_)
  have hl : lv_has ls 1 [(0, .ref (ad 48))] := hl
  unfold V_X8_thrown at hV
  refine lv_aload_n C0.x C0.b dX8_thrown_0 rfl (lv_at hl 0 rfl) ?_
  refine r_get C0 hw (C := RX8) (T := TX8) (N := 33) (v := .int (gI S 20)) iw_X8_thrown_X8 (lg_48 ad cI cJ X S) rfl 0 (by decide) (C0.ts _ fw_X8_thrown_61) rfl dX8_thrown_1 ?_
  exact r_iret C0 rfl hw hV dX8_thrown_4
/-! StepBenchModel.in(JJJ)Z -/
abbrev rm_X8_in : Room := { frames := 0, cells := 0, slots := 0, locals := 0 }
set_option maxRecDepth 20000 in
theorem hd_X8_in : yX8_in.cls ≠ "java/lang/invoke/MethodHandle" ∧ yX8_in.cls ≠ "java/lang/invoke/VarHandle" ∧ (parseMethodDescriptor yX8_in.desc).map (fun d => d.parameters.length) = some 3 := by decide +kernel
def V_X8_in  (p0 : Int64) (p1 : Int64) (p2 : Int64) (S : SS) (post : Int32 → SS → Prop) : Prop :=
  ((p0 < p1 → (post (0 : Int32) S)) ∧ (¬ p0 < p1 → ((p2 < p0 → (post (0 : Int32) S)) ∧ (¬ p2 < p0 → (post (1 : Int32) S)))))
set_option maxHeartbeats 4000000 in
set_option maxRecDepth 100000 in
theorem c_X8_in  {S : SS} {p0 : Int64} {p1 : Int64} {p2 : Int64} {post : Int32 → SS → Prop} (hV : V_X8_in  p0 p1 p2 S post) : MI l yX8_in wsX8_in rm_X8_in [.long p0, .long p1, .long p2] D n0 ad cI cJ X S post := by
  refine Met.ofW (cc := cX8_in) (maxL := 6) (ret := (some .boolean)) (by decide) rfl ?_
  intro p e s m args below meth c s₁ B hml hv
  obtain ⟨rfl, hv⟩ := hv
  have C0 := Bd.mk B hml (atoms_spec (ws := wsX8_in) B.pre) (findClass_of_methodNamed B.named) hv.1
  have hw : Wh D n0 ad cI cJ X S s s.heap [] := ⟨hv.2.1, hv.2.2, va_S.rf⟩
  refine r_entry (Nat.le_of_ble_eq_true rfl) (fun ls hl => ?_)
  have hl : lv_has ls 6 [(0, .long p0), (2, .long p1), (4, .long p2)] := hl
  unfold V_X8_in at hV
  refine lv_lload_n C0.x C0.b dX8_in_0 rfl (lv_at hl 0 rfl) ?_
  refine lv_lload_n C0.x C0.b dX8_in_1 rfl (lv_at hl 1 rfl) ?_
  refine r_lcmp C0 dX8_in_2 ?_
  refine lv_if_lt (tgt := 17) C0.x C0.b dX8_in_3 (by decide) (fun c1 => ?_) (fun c1 => ?_)
  · have hV := hV.1 ((lc_lt _ _).mp c1)
    refine lv_iconst (v := 0) C0.x C0.b dX8_in_17 (by decide) ?_
    exact r_zret C0 rfl bz_0 hw hV dX8_in_18
  · have hV := hV.2 (fun h => c1 ((lc_lt _ _).mpr h))
    refine lv_lload_n C0.x C0.b dX8_in_6 rfl (lv_at hl 0 rfl) ?_
    refine lv_lload C0.x C0.b dX8_in_7 (lv_at hl 2 rfl) ?_
    refine r_lcmp C0 dX8_in_9 ?_
    refine lv_if_gt (tgt := 17) C0.x C0.b dX8_in_10 (by decide) (fun c2 => ?_) (fun c2 => ?_)
    · have hV := hV.1 ((lc_gt _ _).mp c2)
      refine lv_iconst (v := 0) C0.x C0.b dX8_in_17 (by decide) ?_
      exact r_zret C0 rfl bz_0 hw hV dX8_in_18
    · have hV := hV.2 (fun h => c2 ((lc_gt _ _).mpr h))
      refine lv_iconst (v := 1) C0.x C0.b dX8_in_13 (by decide) ?_
      refine lv_goto (tgt := 18) C0.x C0.b dX8_in_14 (by decide) ?_
      exact r_zret C0 rfl bz_1 hw hV dX8_in_18
/-! StepBenchModel.isNumber(J)Z -/
abbrev rm_X8_isNumber : Room := { frames := 1, cells := 0, slots := 0, locals := 25 }
set_option maxRecDepth 20000 in
theorem cw_X8_isNumber_64 : Cond.constantLong RX8 64 (-1000000000000000) ∈ wsX8_isNumber := by decide +kernel
set_option maxRecDepth 20000 in
theorem cw_X8_isNumber_66 : Cond.constantLong RX8 66 1000000000000000 ∈ wsX8_isNumber := by decide +kernel
set_option maxRecDepth 20000 in
theorem hd_X8_isNumber : yX8_isNumber.cls ≠ "java/lang/invoke/MethodHandle" ∧ yX8_isNumber.cls ≠ "java/lang/invoke/VarHandle" ∧ (parseMethodDescriptor yX8_isNumber.desc).map (fun d => d.parameters.length) = some 1 := by decide +kernel
def V_X8_isNumber  (p0 : Int64) (S : SS) (post : Int32 → SS → Prop) : Prop :=
  (V_X8_in p0 (-1000000000000000 : Int64) (1000000000000000 : Int64) S (fun (r1 : Int32) (S2 : SS) => (bz r1 ∧ post r1 S2)))
set_option maxHeartbeats 4000000 in
set_option maxRecDepth 100000 in
theorem c_X8_isNumber  {S : SS} {p0 : Int64} {post : Int32 → SS → Prop} (hV : V_X8_isNumber  p0 S post) : MI l yX8_isNumber wsX8_isNumber rm_X8_isNumber [.long p0] D n0 ad cI cJ X S post := by
  refine Met.ofW (cc := cX8_isNumber) (maxL := 2) (ret := (some .boolean)) (by decide) rfl ?_
  intro p e s m args below meth c s₁ B hml hv
  obtain ⟨rfl, hv⟩ := hv
  have C0 := Bd.mk B hml (atoms_spec (ws := wsX8_isNumber) B.pre) (findClass_of_methodNamed B.named) hv.1
  have hw : Wh D n0 ad cI cJ X S s s.heap [] := ⟨hv.2.1, hv.2.2, va_S.rf⟩
  refine r_entry (Nat.le_of_ble_eq_true rfl) (fun ls hl => ?_)
  have hl : lv_has ls 2 [(0, .long p0)] := hl
  unfold V_X8_isNumber at hV
  refine lv_lload_n C0.x C0.b dX8_isNumber_0 rfl (lv_at hl 0 rfl) ?_
  refine lv_ldc2 (v := -1000000000000000) C0.x C0.b C0.ow (C0.ts _ cw_X8_isNumber_64) dX8_isNumber_1 ?_
  refine lv_ldc2 (v := 1000000000000000) C0.x C0.b C0.ow (C0.ts _ cw_X8_isNumber_66) dX8_isNumber_4 ?_
  refine r_cS_i (As := [.long p0, .long (-1000000000000000 : Int64), .long (1000000000000000 : Int64)]) (rest := []) C0 hw (c_X8_in  hV) (va_cwS 3 C0.ts gX8_isNumber_X8_in rfl rfl rfl hd_X8_in ⟨Nat.le_of_ble_eq_true rfl, Nat.le_of_ble_eq_true rfl⟩) rfl hl.1 rfl (Nat.le_of_ble_eq_true rfl) ⟨Nat.zero_le _, Nat.zero_le _⟩ dX8_isNumber_7 (fun r1 S2 H locs hV hw => ?_)
  exact r_zret C0 rfl hV.1 hw hV.2 dX8_isNumber_10
/-! StepBenchModel.refuse(I)J -/
abbrev rm_X8_refuse : Room := { frames := 0, cells := 0, slots := 0, locals := 0 }
set_option maxRecDepth 20000 in
theorem fw_X8_refuse_61 : Cond.fieldLink RX8 61 "StepBenchModel" "thrown" "I" ∈ wsX8_refuse := by decide +kernel
set_option maxRecDepth 20000 in
theorem iw_X8_refuse_X8 : ∀ w ∈ wsX80, w ∈ wsX8_refuse := by decide +kernel
set_option maxRecDepth 20000 in
theorem hd_X8_refuse : yX8_refuse.cls = RX8 ∧ yX8_refuse.cls ≠ "java/lang/invoke/MethodHandle" ∧ yX8_refuse.cls ≠ "java/lang/invoke/VarHandle" ∧ (parseMethodDescriptor yX8_refuse.desc).map (fun d => d.parameters.length) = some 1 := by decide +kernel
def V_X8_refuse  (p0 : Int32) (S : SS) (post : Int64 → SS → Prop) : Prop :=
  (∀ S1 : SS, S1 = (sI S 20 p0) → (post (0 : Int64) S1))
set_option maxHeartbeats 4000000 in
set_option maxRecDepth 100000 in
theorem c_X8_refuse  {S : SS} {p0 : Int32} {post : Int64 → SS → Prop} (hV : V_X8_refuse  p0 S post) : ML l yX8_refuse wsX8_refuse rm_X8_refuse [.ref (ad 48), .int p0] D n0 ad cI cJ X S post := by
  refine Met.ofW (cc := cX8_refuse) (maxL := 2) (ret := (some .long)) (by decide) rfl ?_
  intro p e s m args below meth c s₁ B hml hv
  obtain ⟨rfl, hv⟩ := hv
  have C0 := Bd.mk B hml (atoms_spec (ws := wsX8_refuse) B.pre) (findClass_of_methodNamed B.named) hv.1
  have hw : Wh D n0 ad cI cJ X S s s.heap [] := ⟨hv.2.1, hv.2.2, va_S.rf⟩
  refine r_entry (Nat.le_of_ble_eq_true rfl) (fun ls hl => ?_)
  have hl : lv_has ls 2 [(0, .ref (ad 48)), (1, .int p0)] := hl
  unfold V_X8_refuse at hV
  refine lv_aload_n C0.x C0.b dX8_refuse_0 rfl (lv_at hl 0 rfl) ?_
  refine lv_iload_n C0.x C0.b dX8_refuse_1 rfl (lv_at hl 1 rfl) ?_
  refine r_put C0 hw (C := RX8) (T := TX8) (N := 33) (ty := .int) iw_X8_refuse_X8 tyX8 tyX8_ok nmX8 (lg_48 ad cI cJ X S) rfl 0 (by decide) (C0.ts _ fw_X8_refuse_61) rfl (by decide +kernel) rfl rfl (Nat.le_of_ble_eq_true rfl) dX8_refuse_2 (S' := (sI S 20 p0)) (ls_48_0 ad cI cJ X S p0) (fun S1 H locs eS1 hw => ?_)
  have hV := hV S1 eS1
  refine lv_lconst (v := 0) C0.x C0.b dX8_refuse_5 (by decide) ?_
  exact r_lret C0 rfl hw hV dX8_refuse_6
/-! StepBenchModel.common(JJ)J -/
abbrev rm_X8_common : Room := { frames := 0, cells := 0, slots := 0, locals := 0 }
set_option maxRecDepth 20000 in
theorem hd_X8_common : yX8_common.cls ≠ "java/lang/invoke/MethodHandle" ∧ yX8_common.cls ≠ "java/lang/invoke/VarHandle" ∧ (parseMethodDescriptor yX8_common.desc).map (fun d => d.parameters.length) = some 2 := by decide +kernel
def V_X8_common_28    (post : Int64 → SS → Prop) : Nat → Int64 → Int64 → SS → Prop
  | 0, _, _, _ => False
  | n + 1, v4, v6, S =>
    ((v6 = (0 : Int64) → (post v4 S)) ∧ (¬ v6 = (0 : Int64) → (¬ v6 = 0 ∧ (∀ y4 : Int64, y4 = (lrm v4 v6) → (V_X8_common_28    post n v6 y4 S)))))
set_option maxHeartbeats 4000000 in
set_option maxRecDepth 100000 in
theorem lp_X8_common_28    (post : Int64 → SS → Prop) (C0 : Bd p s m meth c args cX8_common 10 (some .long) wsX8_common RX8 D n0 cI cJ) : ∀ (n : Nat) (v4 : Int64) (v6 : Int64) (S : SS), V_X8_common_28    post n v4 v6 S → ∀ (H : Heap) (locs : List Loc), Wh D n0 ad cI cJ X S s H locs → ∀ ls : Array Slot, lv_has ls 10 [(4, .long v4), (6, .long v6)] → W p l e rm_X8_common s m args below meth c H locs 0 0 (MQ below (va_Ql post (fun S' t => Wd D n0 ad cI cJ X S' t) (fr n0)) args s 0 0 (fr n0)) (F0 m 28 ls []) := by
  intro n
  induction n with
  | zero => intro v4 v6 S hV; exact False.elim hV
  | succ n ih =>
    intro v4 v6 S hV H locs hw ls hl
    rw [V_X8_common_28] at hV
    refine lv_lload C0.x C0.b dX8_common_28 (lv_at hl 1 rfl) ?_
    refine lv_lconst (v := 0) C0.x C0.b dX8_common_30 (by decide) ?_
    refine r_lcmp C0 dX8_common_31 ?_
    refine lv_if_eq (tgt := 53) C0.x C0.b dX8_common_32 (by decide) (fun c3 => ?_) (fun c3 => ?_)
    · have hV := hV.1 ((lc_eq _ _).mp c3)
      refine lv_lload C0.x C0.b dX8_common_53 (lv_at hl 0 rfl) ?_
      exact r_lret C0 rfl hw hV dX8_common_55
    · have hV := hV.2 (fun h => c3 ((lc_eq _ _).mpr h))
      refine lv_lload C0.x C0.b dX8_common_35 (lv_at hl 0 rfl) ?_
      refine lv_lload C0.x C0.b dX8_common_37 (lv_at hl 1 rfl) ?_
      refine lv_lrem C0.x C0.b dX8_common_39 hV.1 ?_
      have hV := hV.2
      refine lv_topl (fun y4 ey4 => ?_)
      have hV := hV y4 ey4
      refine lv_lstore (lv' := [(8, .long y4), (4, .long v4), (6, .long v6)]) C0.x C0.b dX8_common_40 hl (by decide) rfl (fun ls hl => ?_)
      refine lv_lload C0.x C0.b dX8_common_42 (lv_at hl 2 rfl) ?_
      refine lv_lstore (lv' := [(4, .long v6), (8, .long y4), (6, .long v6)]) C0.x C0.b dX8_common_44 hl (by decide) rfl (fun ls hl => ?_)
      refine lv_lload C0.x C0.b dX8_common_46 (lv_at hl 1 rfl) ?_
      refine lv_lstore (lv' := [(6, .long y4), (4, .long v6), (8, .long y4)]) C0.x C0.b dX8_common_48 hl (by decide) rfl (fun ls hl => ?_)
      refine lv_goto (tgt := 28) C0.x C0.b dX8_common_50 (by decide) ?_
      exact ih _ _ _ hV _ _ hw _ (lv_sub hl [1, 0] rfl)
def V_X8_common  (p0 : Int64) (p1 : Int64) (S : SS) (post : Int64 → SS → Prop) : Prop :=
  (((0 : Int64) ≤ p0 → (((0 : Int64) ≤ p1 → (∃ n28 : Nat, V_X8_common_28    post n28 p0 p1 S)) ∧ (¬ (0 : Int64) ≤ p1 → (∀ y5 : Int64, y5 = (-p1) → (∃ n28 : Nat, V_X8_common_28    post n28 p0 y5 S))))) ∧ (¬ (0 : Int64) ≤ p0 → (∀ y6 : Int64, y6 = (-p0) → (((0 : Int64) ≤ p1 → (∃ n28 : Nat, V_X8_common_28    post n28 y6 p1 S)) ∧ (¬ (0 : Int64) ≤ p1 → (∀ y8 : Int64, y8 = (-p1) → (∃ n28 : Nat, V_X8_common_28    post n28 y6 y8 S)))))))
set_option maxHeartbeats 4000000 in
set_option maxRecDepth 100000 in
theorem c_X8_common  {S : SS} {p0 : Int64} {p1 : Int64} {post : Int64 → SS → Prop} (hV : V_X8_common  p0 p1 S post) : ML l yX8_common wsX8_common rm_X8_common [.long p0, .long p1] D n0 ad cI cJ X S post := by
  refine Met.ofW (cc := cX8_common) (maxL := 10) (ret := (some .long)) (by decide) rfl ?_
  intro p e s m args below meth c s₁ B hml hv
  obtain ⟨rfl, hv⟩ := hv
  have C0 := Bd.mk B hml (atoms_spec (ws := wsX8_common) B.pre) (findClass_of_methodNamed B.named) hv.1
  have hw : Wh D n0 ad cI cJ X S s s.heap [] := ⟨hv.2.1, hv.2.2, va_S.rf⟩
  refine r_entry (Nat.le_of_ble_eq_true rfl) (fun ls hl => ?_)
  have hl : lv_has ls 10 [(0, .long p0), (2, .long p1)] := hl
  unfold V_X8_common at hV
  refine lv_lload_n C0.x C0.b dX8_common_0 rfl (lv_at hl 0 rfl) ?_
  refine lv_lconst (v := 0) C0.x C0.b dX8_common_1 (by decide) ?_
  refine r_lcmp C0 dX8_common_2 ?_
  refine lv_if_ge (tgt := 11) C0.x C0.b dX8_common_3 (by decide) (fun c1 => ?_) (fun c1 => ?_)
  · have hV := hV.1 ((lc_ge _ _).mp c1)
    refine lv_lload_n C0.x C0.b dX8_common_11 rfl (lv_at hl 0 rfl) ?_
    refine lv_lstore (lv' := [(4, .long p0), (0, .long p0), (2, .long p1)]) C0.x C0.b dX8_common_12 hl (by decide) rfl (fun ls hl => ?_)
    refine lv_lload_n C0.x C0.b dX8_common_14 rfl (lv_at hl 2 rfl) ?_
    refine lv_lconst (v := 0) C0.x C0.b dX8_common_15 (by decide) ?_
    refine r_lcmp C0 dX8_common_16 ?_
    refine lv_if_ge (tgt := 25) C0.x C0.b dX8_common_17 (by decide) (fun c2 => ?_) (fun c2 => ?_)
    · have hV := hV.1 ((lc_ge _ _).mp c2)
      refine lv_lload_n C0.x C0.b dX8_common_25 rfl (lv_at hl 2 rfl) ?_
      refine lv_lstore (lv' := [(6, .long p1), (4, .long p0), (0, .long p0), (2, .long p1)]) C0.x C0.b dX8_common_26 hl (by decide) rfl (fun ls hl => ?_)
      obtain ⟨n28, hV⟩ := hV
      exact lp_X8_common_28   post C0  n28 _ _ _ hV _ _ hw _ (lv_sub hl [1, 0] rfl)
    · have hV := hV.2 (fun h => c2 ((lc_ge _ _).mpr h))
      refine lv_lload_n C0.x C0.b dX8_common_20 rfl (lv_at hl 2 rfl) ?_
      refine lv_lneg C0.x C0.b dX8_common_21 ?_
      refine lv_goto (tgt := 26) C0.x C0.b dX8_common_22 (by decide) ?_
      refine lv_topl (fun y5 ey5 => ?_)
      have hV := hV y5 ey5
      refine lv_lstore (lv' := [(6, .long y5), (4, .long p0), (0, .long p0), (2, .long p1)]) C0.x C0.b dX8_common_26 hl (by decide) rfl (fun ls hl => ?_)
      obtain ⟨n28, hV⟩ := hV
      exact lp_X8_common_28   post C0  n28 _ _ _ hV _ _ hw _ (lv_sub hl [1, 0] rfl)
  · have hV := hV.2 (fun h => c1 ((lc_ge _ _).mpr h))
    refine lv_lload_n C0.x C0.b dX8_common_6 rfl (lv_at hl 0 rfl) ?_
    refine lv_lneg C0.x C0.b dX8_common_7 ?_
    refine lv_goto (tgt := 12) C0.x C0.b dX8_common_8 (by decide) ?_
    refine lv_topl (fun y6 ey6 => ?_)
    have hV := hV y6 ey6
    refine lv_lstore (lv' := [(4, .long y6), (0, .long p0), (2, .long p1)]) C0.x C0.b dX8_common_12 hl (by decide) rfl (fun ls hl => ?_)
    refine lv_lload_n C0.x C0.b dX8_common_14 rfl (lv_at hl 2 rfl) ?_
    refine lv_lconst (v := 0) C0.x C0.b dX8_common_15 (by decide) ?_
    refine r_lcmp C0 dX8_common_16 ?_
    refine lv_if_ge (tgt := 25) C0.x C0.b dX8_common_17 (by decide) (fun c7 => ?_) (fun c7 => ?_)
    · have hV := hV.1 ((lc_ge _ _).mp c7)
      refine lv_lload_n C0.x C0.b dX8_common_25 rfl (lv_at hl 2 rfl) ?_
      refine lv_lstore (lv' := [(6, .long p1), (4, .long y6), (0, .long p0), (2, .long p1)]) C0.x C0.b dX8_common_26 hl (by decide) rfl (fun ls hl => ?_)
      obtain ⟨n28, hV⟩ := hV
      exact lp_X8_common_28   post C0  n28 _ _ _ hV _ _ hw _ (lv_sub hl [1, 0] rfl)
    · have hV := hV.2 (fun h => c7 ((lc_ge _ _).mpr h))
      refine lv_lload_n C0.x C0.b dX8_common_20 rfl (lv_at hl 2 rfl) ?_
      refine lv_lneg C0.x C0.b dX8_common_21 ?_
      refine lv_goto (tgt := 26) C0.x C0.b dX8_common_22 (by decide) ?_
      refine lv_topl (fun y8 ey8 => ?_)
      have hV := hV y8 ey8
      refine lv_lstore (lv' := [(6, .long y8), (4, .long y6), (0, .long p0), (2, .long p1)]) C0.x C0.b dX8_common_26 hl (by decide) rfl (fun ls hl => ?_)
      obtain ⟨n28, hV⟩ := hV
      exact lp_X8_common_28   post C0  n28 _ _ _ hV _ _ hw _ (lv_sub hl [1, 0] rfl)
/-! StepBenchModel.draft(I)Z -/
abbrev rm_X8_draft : Room := { frames := 1, cells := 0, slots := 0, locals := 25 }
set_option maxRecDepth 20000 in
theorem fw_X8_draft_61 : Cond.fieldLink RX8 61 "StepBenchModel" "thrown" "I" ∈ wsX8_draft := by decide +kernel
set_option maxRecDepth 20000 in
theorem iw_X8_draft_X8 : ∀ w ∈ wsX80, w ∈ wsX8_draft := by decide +kernel
set_option maxRecDepth 20000 in
theorem cw_X8_draft_72 : Cond.constantLong RX8 72 2 ∈ wsX8_draft := by decide +kernel
set_option maxRecDepth 20000 in
theorem cw_X8_draft_74 : Cond.constantLong RX8 74 64 ∈ wsX8_draft := by decide +kernel
set_option maxRecDepth 20000 in
theorem fw_X8_draft_76 : Cond.fieldLink RX8 76 "StepBenchModel" "hasDraft" "Z" ∈ wsX8_draft := by decide +kernel
set_option maxRecDepth 20000 in
theorem fw_X8_draft_80 : Cond.fieldLink RX8 80 "StepBenchModel" "draftM" "I" ∈ wsX8_draft := by decide +kernel
set_option maxRecDepth 20000 in
theorem fw_X8_draft_17 : Cond.fieldLink RX8 17 "StepBenchModel" "draft" "[J" ∈ wsX8_draft := by decide +kernel
set_option maxRecDepth 20000 in
theorem hd_X8_draft : yX8_draft.cls = RX8 ∧ yX8_draft.cls ≠ "java/lang/invoke/MethodHandle" ∧ yX8_draft.cls ≠ "java/lang/invoke/VarHandle" ∧ (parseMethodDescriptor yX8_draft.desc).map (fun d => d.parameters.length) = some 1 := by decide +kernel
def V_X8_draft_33  (v1 : Int32)  (post : Int32 → SS → Prop) : Nat → Int32 → SS → Prop
  | 0, _, _ => False
  | n + 1, v2, S =>
    ((v1 ≤ v2 → (post (1 : Int32) S)) ∧ (¬ v1 ≤ v2 → (vp_in ((3 : Int32) * v2) 192 ∧ ∀ S8 : SS, S8 = (sA S 31 (vp_updL (gA S 31) ((3 : Int32) * v2).toNatClampNeg (1 : Int64))) → (vp_in (((3 : Int32) * v2) + (1 : Int32)) 192 ∧ ∀ S9 : SS, S9 = (sA S8 31 (vp_updL (gA S8 31) (((3 : Int32) * v2) + (1 : Int32)).toNatClampNeg (0 : Int64))) → (vp_in (((3 : Int32) * v2) + (2 : Int32)) 192 ∧ ∀ S10 : SS, S10 = (sA S9 31 (vp_updL (gA S9 31) (((3 : Int32) * v2) + (2 : Int32)).toNatClampNeg (1 : Int64))) → (∀ x11 : Int32, x11 = v2 + 1 → (V_X8_draft_33  v1  post n x11 S10)))))))
set_option maxHeartbeats 4000000 in
set_option maxRecDepth 100000 in
theorem lp_X8_draft_33  (v1 : Int32)  (post : Int32 → SS → Prop) (C0 : Bd p s m meth c args cX8_draft 3 (some .boolean) wsX8_draft RX8 D n0 cI cJ) : ∀ (n : Nat) (v2 : Int32) (S : SS), V_X8_draft_33  v1  post n v2 S → ∀ (H : Heap) (locs : List Loc), Wh D n0 ad cI cJ X S s H locs → ∀ ls : Array Slot, lv_has ls 3 [(0, .ref (ad 48)), (1, .int v1), (2, .int v2)] → W p l e rm_X8_draft s m args below meth c H locs 0 0 (MQ below (va_Qi post (fun S' t => Wd D n0 ad cI cJ X S' t) (fr n0)) args s 0 0 (fr n0)) (F0 m 33 ls []) := by
  intro n
  induction n with
  | zero => intro v2 S hV; exact False.elim hV
  | succ n ih =>
    intro v2 S hV H locs hw ls hl
    rw [V_X8_draft_33] at hV
    refine lv_iload_n C0.x C0.b dX8_draft_33 rfl (lv_at hl 2 rfl) ?_
    refine lv_iload_n C0.x C0.b dX8_draft_34 rfl (lv_at hl 1 rfl) ?_
    refine lv_icmp_ge (tgt := 75) C0.x C0.b dX8_draft_35 (by decide) (fun c7 => ?_) (fun c7 => ?_)
    · have hV := hV.1 c7
      refine lv_iconst (v := 1) C0.x C0.b dX8_draft_75 (by decide) ?_
      exact r_zret C0 rfl bz_1 hw hV dX8_draft_76
    · have hV := hV.2 c7
      refine lv_aload_n C0.x C0.b dX8_draft_38 rfl (lv_at hl 0 rfl) ?_
      refine r_get C0 hw (C := RX8) (T := TX8) (N := 33) (v := .ref (ad 50)) iw_X8_draft_X8 (lg_48 ad cI cJ X S) rfl 6 (by decide) (C0.ts _ fw_X8_draft_17) rfl dX8_draft_39 ?_
      refine lv_iconst (v := 3) C0.x C0.b dX8_draft_42 (by decide) ?_
      refine lv_iload_n C0.x C0.b dX8_draft_43 rfl (lv_at hl 2 rfl) ?_
      refine lv_imul C0.x C0.b dX8_draft_44 ?_
      refine lv_lconst (v := 1) C0.x C0.b dX8_draft_45 (by decide) ?_
      refine r_last C0 hw (lg_50 ad cI cJ X S) hV.1 dX8_draft_46 (S' := (sA S 31 (vp_updL (gA S 31) ((3 : Int32) * v2).toNatClampNeg (1 : Int64)))) (ls_50 ad cI cJ X S (vp_updL (gA S 31) ((3 : Int32) * v2).toNatClampNeg (1 : Int64))) (fun S8 H locs eS8 hw => ?_)
      have hV := hV.2 S8 eS8
      refine lv_aload_n C0.x C0.b dX8_draft_47 rfl (lv_at hl 0 rfl) ?_
      refine r_get C0 hw (C := RX8) (T := TX8) (N := 33) (v := .ref (ad 50)) iw_X8_draft_X8 (lg_48 ad cI cJ X S8) rfl 6 (by decide) (C0.ts _ fw_X8_draft_17) rfl dX8_draft_48 ?_
      refine lv_iconst (v := 3) C0.x C0.b dX8_draft_51 (by decide) ?_
      refine lv_iload_n C0.x C0.b dX8_draft_52 rfl (lv_at hl 2 rfl) ?_
      refine lv_imul C0.x C0.b dX8_draft_53 ?_
      refine lv_iconst (v := 1) C0.x C0.b dX8_draft_54 (by decide) ?_
      refine lv_iadd C0.x C0.b dX8_draft_55 ?_
      refine lv_lconst (v := 0) C0.x C0.b dX8_draft_56 (by decide) ?_
      refine r_last C0 hw (lg_50 ad cI cJ X S8) hV.1 dX8_draft_57 (S' := (sA S8 31 (vp_updL (gA S8 31) (((3 : Int32) * v2) + (1 : Int32)).toNatClampNeg (0 : Int64)))) (ls_50 ad cI cJ X S8 (vp_updL (gA S8 31) (((3 : Int32) * v2) + (1 : Int32)).toNatClampNeg (0 : Int64))) (fun S9 H locs eS9 hw => ?_)
      have hV := hV.2 S9 eS9
      refine lv_aload_n C0.x C0.b dX8_draft_58 rfl (lv_at hl 0 rfl) ?_
      refine r_get C0 hw (C := RX8) (T := TX8) (N := 33) (v := .ref (ad 50)) iw_X8_draft_X8 (lg_48 ad cI cJ X S9) rfl 6 (by decide) (C0.ts _ fw_X8_draft_17) rfl dX8_draft_59 ?_
      refine lv_iconst (v := 3) C0.x C0.b dX8_draft_62 (by decide) ?_
      refine lv_iload_n C0.x C0.b dX8_draft_63 rfl (lv_at hl 2 rfl) ?_
      refine lv_imul C0.x C0.b dX8_draft_64 ?_
      refine lv_iconst (v := 2) C0.x C0.b dX8_draft_65 (by decide) ?_
      refine lv_iadd C0.x C0.b dX8_draft_66 ?_
      refine lv_lconst (v := 1) C0.x C0.b dX8_draft_67 (by decide) ?_
      refine r_last C0 hw (lg_50 ad cI cJ X S9) hV.1 dX8_draft_68 (S' := (sA S9 31 (vp_updL (gA S9 31) (((3 : Int32) * v2) + (2 : Int32)).toNatClampNeg (1 : Int64)))) (ls_50 ad cI cJ X S9 (vp_updL (gA S9 31) (((3 : Int32) * v2) + (2 : Int32)).toNatClampNeg (1 : Int64))) (fun S10 H locs eS10 hw => ?_)
      have hV := hV.2 S10 eS10
      obtain ⟨x11, ex11⟩ : ∃ z : Int32, z = v2 + 1 := ⟨_, rfl⟩
      have hV := hV x11 ex11
      refine lv_iinc (v := x11) (lv' := [(2, .int x11), (0, .ref (ad 48)), (1, .int v1)]) C0.x C0.b dX8_draft_69 hl (k := 2) rfl (by rw [ex11]; rfl) (by decide) rfl (fun ls hl => ?_)
      refine lv_goto (tgt := 33) C0.x C0.b dX8_draft_72 (by decide) ?_
      exact ih _ _ hV _ _ hw _ (lv_sub hl [1, 2, 0] rfl)
def V_X8_draft  (p0 : Int32) (S : SS) (post : Int32 → SS → Prop) : Prop :=
  (∀ S1 : SS, S1 = (sI S 20 (0 : Int32)) → (V_X8_in p0.toInt64 (2 : Int64) (64 : Int64) S1 (fun (r2 : Int32) (S3 : SS) => ((r2 = 0 → (post (0 : Int32) S3)) ∧ (¬ r2 = 0 → (∀ S5 : SS, S5 = (sI S3 23 (1 : Int32)) → (∀ S6 : SS, S6 = (sI S5 24 p0) → (∃ n33 : Nat, V_X8_draft_33  p0  post n33 (0 : Int32) S6))))))))
set_option maxHeartbeats 4000000 in
set_option maxRecDepth 100000 in
theorem c_X8_draft  {S : SS} {p0 : Int32} {post : Int32 → SS → Prop} (hV : V_X8_draft  p0 S post) : MI l yX8_draft wsX8_draft rm_X8_draft [.ref (ad 48), .int p0] D n0 ad cI cJ X S post := by
  refine Met.ofW (cc := cX8_draft) (maxL := 3) (ret := (some .boolean)) (by decide) rfl ?_
  intro p e s m args below meth c s₁ B hml hv
  obtain ⟨rfl, hv⟩ := hv
  have C0 := Bd.mk B hml (atoms_spec (ws := wsX8_draft) B.pre) (findClass_of_methodNamed B.named) hv.1
  have hw : Wh D n0 ad cI cJ X S s s.heap [] := ⟨hv.2.1, hv.2.2, va_S.rf⟩
  refine r_entry (Nat.le_of_ble_eq_true rfl) (fun ls hl => ?_)
  have hl : lv_has ls 3 [(0, .ref (ad 48)), (1, .int p0)] := hl
  unfold V_X8_draft at hV
  refine lv_aload_n C0.x C0.b dX8_draft_0 rfl (lv_at hl 0 rfl) ?_
  refine lv_iconst (v := 0) C0.x C0.b dX8_draft_1 (by decide) ?_
  refine r_put C0 hw (C := RX8) (T := TX8) (N := 33) (ty := .int) iw_X8_draft_X8 tyX8 tyX8_ok nmX8 (lg_48 ad cI cJ X S) rfl 0 (by decide) (C0.ts _ fw_X8_draft_61) rfl (by decide +kernel) rfl rfl (Nat.le_of_ble_eq_true rfl) dX8_draft_2 (S' := (sI S 20 (0 : Int32))) (ls_48_0 ad cI cJ X S (0 : Int32)) (fun S1 H locs eS1 hw => ?_)
  have hV := hV S1 eS1
  refine lv_iload_n C0.x C0.b dX8_draft_5 rfl (lv_at hl 1 rfl) ?_
  refine lv_i2l C0.x C0.b dX8_draft_6 rfl ?_
  refine lv_ldc2 (v := 2) C0.x C0.b C0.ow (C0.ts _ cw_X8_draft_72) dX8_draft_7 ?_
  refine lv_ldc2 (v := 64) C0.x C0.b C0.ow (C0.ts _ cw_X8_draft_74) dX8_draft_10 ?_
  refine r_cS_i (As := [.long p0.toInt64, .long (2 : Int64), .long (64 : Int64)]) (rest := []) C0 hw (c_X8_in  hV) (va_cwS 3 C0.ts gX8_draft_X8_in rfl rfl rfl hd_X8_in ⟨Nat.le_of_ble_eq_true rfl, Nat.le_of_ble_eq_true rfl⟩) rfl hl.1 rfl (Nat.le_of_ble_eq_true rfl) ⟨Nat.zero_le _, Nat.zero_le _⟩ dX8_draft_13 (fun r2 S3 H locs hV hw => ?_)
  refine lv_if_ne (tgt := 21) C0.x C0.b dX8_draft_16 (by decide) (fun c4 => ?_) (fun c4 => ?_)
  · have hV := hV.2 c4
    refine lv_aload_n C0.x C0.b dX8_draft_21 rfl (lv_at hl 0 rfl) ?_
    refine lv_iconst (v := 1) C0.x C0.b dX8_draft_22 (by decide) ?_
    refine r_put C0 hw (C := RX8) (T := TX8) (N := 33) (ty := .boolean) iw_X8_draft_X8 tyX8 tyX8_ok nmX8 (lg_48 ad cI cJ X S3) rfl 4 (by decide) (C0.ts _ fw_X8_draft_76) rfl (by decide +kernel) rfl rfl (Nat.le_of_ble_eq_true rfl) dX8_draft_23 (S' := (sI S3 23 (1 : Int32))) (ls_48_4 ad cI cJ X S3 (1 : Int32)) (fun S5 H locs eS5 hw => ?_)
    have hV := hV S5 eS5
    refine lv_aload_n C0.x C0.b dX8_draft_26 rfl (lv_at hl 0 rfl) ?_
    refine lv_iload_n C0.x C0.b dX8_draft_27 rfl (lv_at hl 1 rfl) ?_
    refine r_put C0 hw (C := RX8) (T := TX8) (N := 33) (ty := .int) iw_X8_draft_X8 tyX8 tyX8_ok nmX8 (lg_48 ad cI cJ X S5) rfl 5 (by decide) (C0.ts _ fw_X8_draft_80) rfl (by decide +kernel) rfl rfl (Nat.le_of_ble_eq_true rfl) dX8_draft_28 (S' := (sI S5 24 p0)) (ls_48_5 ad cI cJ X S5 p0) (fun S6 H locs eS6 hw => ?_)
    have hV := hV S6 eS6
    refine lv_iconst (v := 0) C0.x C0.b dX8_draft_31 (by decide) ?_
    refine lv_istore_n (lv' := [(2, .int (0 : Int32)), (0, .ref (ad 48)), (1, .int p0)]) C0.x C0.b dX8_draft_32 rfl hl (by decide) rfl (fun ls hl => ?_)
    obtain ⟨n33, hV⟩ := hV
    exact lp_X8_draft_33  _ post C0  n33 _ _ hV _ _ hw _ (lv_sub hl [1, 2, 0] rfl)
  · have hV := hV.1 c4
    refine lv_iconst (v := 0) C0.x C0.b dX8_draft_19 (by decide) ?_
    exact r_zret C0 rfl bz_0 hw hV dX8_draft_20
/-! StepBenchModel.sheet(II)Z -/
abbrev rm_X8_sheet : Room := { frames := 1, cells := 0, slots := 0, locals := 25 }
set_option maxRecDepth 20000 in
theorem fw_X8_sheet_61 : Cond.fieldLink RX8 61 "StepBenchModel" "thrown" "I" ∈ wsX8_sheet := by decide +kernel
set_option maxRecDepth 20000 in
theorem iw_X8_sheet_X8 : ∀ w ∈ wsX80, w ∈ wsX8_sheet := by decide +kernel
set_option maxRecDepth 20000 in
theorem cw_X8_sheet_83 : Cond.constantLong RX8 83 3 ∈ wsX8_sheet := by decide +kernel
set_option maxRecDepth 20000 in
theorem fw_X8_sheet_9 : Cond.fieldLink RX8 9 "StepBenchModel" "sheet" "I" ∈ wsX8_sheet := by decide +kernel
set_option maxRecDepth 20000 in
theorem fw_X8_sheet_85 : Cond.fieldLink RX8 85 "StepBenchModel" "entries" "I" ∈ wsX8_sheet := by decide +kernel
set_option maxRecDepth 20000 in
theorem fw_X8_sheet_13 : Cond.fieldLink RX8 13 "StepBenchModel" "entry" "[J" ∈ wsX8_sheet := by decide +kernel
set_option maxRecDepth 20000 in
theorem cw_X8_sheet_74 : Cond.constantLong RX8 74 64 ∈ wsX8_sheet := by decide +kernel
set_option maxRecDepth 20000 in
theorem hd_X8_sheet : yX8_sheet.cls = RX8 ∧ yX8_sheet.cls ≠ "java/lang/invoke/MethodHandle" ∧ yX8_sheet.cls ≠ "java/lang/invoke/VarHandle" ∧ (parseMethodDescriptor yX8_sheet.desc).map (fun d => d.parameters.length) = some 2 := by decide +kernel
def V_X8_sheet_57    (post : Int32 → SS → Prop) : Nat → Int32 → SS → Prop
  | 0, _, _ => False
  | n + 1, v3, S =>
    (((gI S 22) ≤ v3 → (post (1 : Int32) S)) ∧ (¬ (gI S 22) ≤ v3 → (vp_in v3 64 ∧ ∀ S10 : SS, S10 = (sA S 30 (vp_updL (gA S 30) v3.toNatClampNeg (0 : Int64))) → (∀ x11 : Int32, x11 = v3 + 1 → (V_X8_sheet_57    post n x11 S10)))))
set_option maxHeartbeats 4000000 in
set_option maxRecDepth 100000 in
theorem lp_X8_sheet_57    (post : Int32 → SS → Prop) (C0 : Bd p s m meth c args cX8_sheet 4 (some .boolean) wsX8_sheet RX8 D n0 cI cJ) : ∀ (n : Nat) (v3 : Int32) (S : SS), V_X8_sheet_57    post n v3 S → ∀ (H : Heap) (locs : List Loc), Wh D n0 ad cI cJ X S s H locs → ∀ ls : Array Slot, lv_has ls 4 [(0, .ref (ad 48)), (3, .int v3)] → W p l e rm_X8_sheet s m args below meth c H locs 0 0 (MQ below (va_Qi post (fun S' t => Wd D n0 ad cI cJ X S' t) (fr n0)) args s 0 0 (fr n0)) (F0 m 57 ls []) := by
  intro n
  induction n with
  | zero => intro v3 S hV; exact False.elim hV
  | succ n ih =>
    intro v3 S hV H locs hw ls hl
    rw [V_X8_sheet_57] at hV
    refine lv_iload_n C0.x C0.b dX8_sheet_57 rfl (lv_at hl 1 rfl) ?_
    refine lv_aload_n C0.x C0.b dX8_sheet_58 rfl (lv_at hl 0 rfl) ?_
    refine r_get C0 hw (C := RX8) (T := TX8) (N := 33) (v := .int (gI S 22)) iw_X8_sheet_X8 (lg_48 ad cI cJ X S) rfl 2 (by decide) (C0.ts _ fw_X8_sheet_85) rfl dX8_sheet_59 ?_
    refine lv_icmp_ge (tgt := 78) C0.x C0.b dX8_sheet_62 (by decide) (fun c9 => ?_) (fun c9 => ?_)
    · have hV := hV.1 c9
      refine lv_iconst (v := 1) C0.x C0.b dX8_sheet_78 (by decide) ?_
      exact r_zret C0 rfl bz_1 hw hV dX8_sheet_79
    · have hV := hV.2 c9
      refine lv_aload_n C0.x C0.b dX8_sheet_65 rfl (lv_at hl 0 rfl) ?_
      refine r_get C0 hw (C := RX8) (T := TX8) (N := 33) (v := .ref (ad 49)) iw_X8_sheet_X8 (lg_48 ad cI cJ X S) rfl 3 (by decide) (C0.ts _ fw_X8_sheet_13) rfl dX8_sheet_66 ?_
      refine lv_iload_n C0.x C0.b dX8_sheet_69 rfl (lv_at hl 1 rfl) ?_
      refine lv_lconst (v := 0) C0.x C0.b dX8_sheet_70 (by decide) ?_
      refine r_last C0 hw (lg_49 ad cI cJ X S) hV.1 dX8_sheet_71 (S' := (sA S 30 (vp_updL (gA S 30) v3.toNatClampNeg (0 : Int64)))) (ls_49 ad cI cJ X S (vp_updL (gA S 30) v3.toNatClampNeg (0 : Int64))) (fun S10 H locs eS10 hw => ?_)
      have hV := hV.2 S10 eS10
      obtain ⟨x11, ex11⟩ : ∃ z : Int32, z = v3 + 1 := ⟨_, rfl⟩
      have hV := hV x11 ex11
      refine lv_iinc (v := x11) (lv' := [(3, .int x11), (0, .ref (ad 48))]) C0.x C0.b dX8_sheet_72 hl (k := 1) rfl (by rw [ex11]; rfl) (by decide) rfl (fun ls hl => ?_)
      refine lv_goto (tgt := 57) C0.x C0.b dX8_sheet_75 (by decide) ?_
      exact ih _ _ hV _ _ hw _ (lv_sub hl [1, 0] rfl)
def V_X8_sheet  (p0 : Int32) (p1 : Int32) (S : SS) (post : Int32 → SS → Prop) : Prop :=
  (∀ S1 : SS, S1 = (sI S 20 (0 : Int32)) → (V_X8_in p0.toInt64 (0 : Int64) (3 : Int64) S1 (fun (r2 : Int32) (S3 : SS) => ((r2 = 0 → (post (0 : Int32) S3)) ∧ (¬ r2 = 0 → (((3 : Int32) ≤ p0 → (∀ S6 : SS, S6 = (sI S3 21 p0) → ((p0 = (3 : Int32) → (∀ S8 : SS, S8 = (sI S6 22 (0 : Int32)) → (∃ n57 : Nat, V_X8_sheet_57    post n57 (0 : Int32) S8))) ∧ (¬ p0 = (3 : Int32) → (∀ S12 : SS, S12 = (sI S6 22 p1) → (∃ n57 : Nat, V_X8_sheet_57    post n57 (0 : Int32) S12)))))) ∧ (¬ (3 : Int32) ≤ p0 → (V_X8_in p1.toInt64 (0 : Int64) (64 : Int64) S3 (fun (r13 : Int32) (S14 : SS) => ((r13 = 0 → (post (0 : Int32) S14)) ∧ (¬ r13 = 0 → (∀ S16 : SS, S16 = (sI S14 21 p0) → ((p0 = (3 : Int32) → (∀ S18 : SS, S18 = (sI S16 22 (0 : Int32)) → (∃ n57 : Nat, V_X8_sheet_57    post n57 (0 : Int32) S18))) ∧ (¬ p0 = (3 : Int32) → (∀ S19 : SS, S19 = (sI S16 22 p1) → (∃ n57 : Nat, V_X8_sheet_57    post n57 (0 : Int32) S19))))))))))))))))
set_option maxHeartbeats 4000000 in
set_option maxRecDepth 100000 in
theorem c_X8_sheet  {S : SS} {p0 : Int32} {p1 : Int32} {post : Int32 → SS → Prop} (hV : V_X8_sheet  p0 p1 S post) : MI l yX8_sheet wsX8_sheet rm_X8_sheet [.ref (ad 48), .int p0, .int p1] D n0 ad cI cJ X S post := by
  refine Met.ofW (cc := cX8_sheet) (maxL := 4) (ret := (some .boolean)) (by decide) rfl ?_
  intro p e s m args below meth c s₁ B hml hv
  obtain ⟨rfl, hv⟩ := hv
  have C0 := Bd.mk B hml (atoms_spec (ws := wsX8_sheet) B.pre) (findClass_of_methodNamed B.named) hv.1
  have hw : Wh D n0 ad cI cJ X S s s.heap [] := ⟨hv.2.1, hv.2.2, va_S.rf⟩
  refine r_entry (Nat.le_of_ble_eq_true rfl) (fun ls hl => ?_)
  have hl : lv_has ls 4 [(0, .ref (ad 48)), (1, .int p0), (2, .int p1)] := hl
  unfold V_X8_sheet at hV
  refine lv_aload_n C0.x C0.b dX8_sheet_0 rfl (lv_at hl 0 rfl) ?_
  refine lv_iconst (v := 0) C0.x C0.b dX8_sheet_1 (by decide) ?_
  refine r_put C0 hw (C := RX8) (T := TX8) (N := 33) (ty := .int) iw_X8_sheet_X8 tyX8 tyX8_ok nmX8 (lg_48 ad cI cJ X S) rfl 0 (by decide) (C0.ts _ fw_X8_sheet_61) rfl (by decide +kernel) rfl rfl (Nat.le_of_ble_eq_true rfl) dX8_sheet_2 (S' := (sI S 20 (0 : Int32))) (ls_48_0 ad cI cJ X S (0 : Int32)) (fun S1 H locs eS1 hw => ?_)
  have hV := hV S1 eS1
  refine lv_iload_n C0.x C0.b dX8_sheet_5 rfl (lv_at hl 1 rfl) ?_
  refine lv_i2l C0.x C0.b dX8_sheet_6 rfl ?_
  refine lv_lconst (v := 0) C0.x C0.b dX8_sheet_7 (by decide) ?_
  refine lv_ldc2 (v := 3) C0.x C0.b C0.ow (C0.ts _ cw_X8_sheet_83) dX8_sheet_8 ?_
  refine r_cS_i (As := [.long p0.toInt64, .long (0 : Int64), .long (3 : Int64)]) (rest := []) C0 hw (c_X8_in  hV) (va_cwS 3 C0.ts gX8_sheet_X8_in rfl rfl rfl hd_X8_in ⟨Nat.le_of_ble_eq_true rfl, Nat.le_of_ble_eq_true rfl⟩) rfl hl.1 rfl (Nat.le_of_ble_eq_true rfl) ⟨Nat.zero_le _, Nat.zero_le _⟩ dX8_sheet_11 (fun r2 S3 H locs hV hw => ?_)
  refine lv_if_eq (tgt := 34) C0.x C0.b dX8_sheet_14 (by decide) (fun c4 => ?_) (fun c4 => ?_)
  · have hV := hV.1 c4
    refine lv_iconst (v := 0) C0.x C0.b dX8_sheet_34 (by decide) ?_
    exact r_zret C0 rfl bz_0 hw hV dX8_sheet_35
  · have hV := hV.2 c4
    refine lv_iload_n C0.x C0.b dX8_sheet_17 rfl (lv_at hl 1 rfl) ?_
    refine lv_iconst (v := 3) C0.x C0.b dX8_sheet_18 (by decide) ?_
    refine lv_icmp_ge (tgt := 36) C0.x C0.b dX8_sheet_19 (by decide) (fun c5 => ?_) (fun c5 => ?_)
    · have hV := hV.1 c5
      refine lv_aload_n C0.x C0.b dX8_sheet_36 rfl (lv_at hl 0 rfl) ?_
      refine lv_iload_n C0.x C0.b dX8_sheet_37 rfl (lv_at hl 1 rfl) ?_
      refine r_put C0 hw (C := RX8) (T := TX8) (N := 33) (ty := .int) iw_X8_sheet_X8 tyX8 tyX8_ok nmX8 (lg_48 ad cI cJ X S3) rfl 1 (by decide) (C0.ts _ fw_X8_sheet_9) rfl (by decide +kernel) rfl rfl (Nat.le_of_ble_eq_true rfl) dX8_sheet_38 (S' := (sI S3 21 p0)) (ls_48_1 ad cI cJ X S3 p0) (fun S6 H locs eS6 hw => ?_)
      have hV := hV S6 eS6
      refine lv_aload_n C0.x C0.b dX8_sheet_41 rfl (lv_at hl 0 rfl) ?_
      refine lv_iload_n C0.x C0.b dX8_sheet_42 rfl (lv_at hl 1 rfl) ?_
      refine lv_iconst (v := 3) C0.x C0.b dX8_sheet_43 (by decide) ?_
      refine lv_icmp_ne (tgt := 51) C0.x C0.b dX8_sheet_44 (by decide) (fun c7 => ?_) (fun c7 => ?_)
      · have hV := hV.2 c7
        refine lv_iload_n C0.x C0.b dX8_sheet_51 rfl (lv_at hl 2 rfl) ?_
        refine r_put C0 hw (C := RX8) (T := TX8) (N := 33) (ty := .int) iw_X8_sheet_X8 tyX8 tyX8_ok nmX8 (lg_48 ad cI cJ X S6) rfl 2 (by decide) (C0.ts _ fw_X8_sheet_85) rfl (by decide +kernel) rfl rfl (Nat.le_of_ble_eq_true rfl) dX8_sheet_52 (S' := (sI S6 22 p1)) (ls_48_2 ad cI cJ X S6 p1) (fun S12 H locs eS12 hw => ?_)
        have hV := hV S12 eS12
        refine lv_iconst (v := 0) C0.x C0.b dX8_sheet_55 (by decide) ?_
        refine lv_istore_n (lv' := [(3, .int (0 : Int32)), (0, .ref (ad 48)), (1, .int p0), (2, .int p1)]) C0.x C0.b dX8_sheet_56 rfl hl (by decide) rfl (fun ls hl => ?_)
        obtain ⟨n57, hV⟩ := hV
        exact lp_X8_sheet_57   post C0  n57 _ _ hV _ _ hw _ (lv_sub hl [1, 0] rfl)
      · have hV := hV.1 c7
        refine lv_iconst (v := 0) C0.x C0.b dX8_sheet_47 (by decide) ?_
        refine lv_goto (tgt := 52) C0.x C0.b dX8_sheet_48 (by decide) ?_
        refine r_put C0 hw (C := RX8) (T := TX8) (N := 33) (ty := .int) iw_X8_sheet_X8 tyX8 tyX8_ok nmX8 (lg_48 ad cI cJ X S6) rfl 2 (by decide) (C0.ts _ fw_X8_sheet_85) rfl (by decide +kernel) rfl rfl (Nat.le_of_ble_eq_true rfl) dX8_sheet_52 (S' := (sI S6 22 (0 : Int32))) (ls_48_2 ad cI cJ X S6 (0 : Int32)) (fun S8 H locs eS8 hw => ?_)
        have hV := hV S8 eS8
        refine lv_iconst (v := 0) C0.x C0.b dX8_sheet_55 (by decide) ?_
        refine lv_istore_n (lv' := [(3, .int (0 : Int32)), (0, .ref (ad 48)), (1, .int p0), (2, .int p1)]) C0.x C0.b dX8_sheet_56 rfl hl (by decide) rfl (fun ls hl => ?_)
        obtain ⟨n57, hV⟩ := hV
        exact lp_X8_sheet_57   post C0  n57 _ _ hV _ _ hw _ (lv_sub hl [1, 0] rfl)
    · have hV := hV.2 c5
      refine lv_iload_n C0.x C0.b dX8_sheet_22 rfl (lv_at hl 2 rfl) ?_
      refine lv_i2l C0.x C0.b dX8_sheet_23 rfl ?_
      refine lv_lconst (v := 0) C0.x C0.b dX8_sheet_24 (by decide) ?_
      refine lv_ldc2 (v := 64) C0.x C0.b C0.ow (C0.ts _ cw_X8_sheet_74) dX8_sheet_25 ?_
      refine r_cS_i (As := [.long p1.toInt64, .long (0 : Int64), .long (64 : Int64)]) (rest := []) C0 hw (c_X8_in  hV) (va_cwS 3 C0.ts gX8_sheet_X8_in rfl rfl rfl hd_X8_in ⟨Nat.le_of_ble_eq_true rfl, Nat.le_of_ble_eq_true rfl⟩) rfl hl.1 rfl (Nat.le_of_ble_eq_true rfl) ⟨Nat.zero_le _, Nat.zero_le _⟩ dX8_sheet_28 (fun r13 S14 H locs hV hw => ?_)
      refine lv_if_ne (tgt := 36) C0.x C0.b dX8_sheet_31 (by decide) (fun c15 => ?_) (fun c15 => ?_)
      · have hV := hV.2 c15
        refine lv_aload_n C0.x C0.b dX8_sheet_36 rfl (lv_at hl 0 rfl) ?_
        refine lv_iload_n C0.x C0.b dX8_sheet_37 rfl (lv_at hl 1 rfl) ?_
        refine r_put C0 hw (C := RX8) (T := TX8) (N := 33) (ty := .int) iw_X8_sheet_X8 tyX8 tyX8_ok nmX8 (lg_48 ad cI cJ X S14) rfl 1 (by decide) (C0.ts _ fw_X8_sheet_9) rfl (by decide +kernel) rfl rfl (Nat.le_of_ble_eq_true rfl) dX8_sheet_38 (S' := (sI S14 21 p0)) (ls_48_1 ad cI cJ X S14 p0) (fun S16 H locs eS16 hw => ?_)
        have hV := hV S16 eS16
        refine lv_aload_n C0.x C0.b dX8_sheet_41 rfl (lv_at hl 0 rfl) ?_
        refine lv_iload_n C0.x C0.b dX8_sheet_42 rfl (lv_at hl 1 rfl) ?_
        refine lv_iconst (v := 3) C0.x C0.b dX8_sheet_43 (by decide) ?_
        refine lv_icmp_ne (tgt := 51) C0.x C0.b dX8_sheet_44 (by decide) (fun c17 => ?_) (fun c17 => ?_)
        · have hV := hV.2 c17
          refine lv_iload_n C0.x C0.b dX8_sheet_51 rfl (lv_at hl 2 rfl) ?_
          refine r_put C0 hw (C := RX8) (T := TX8) (N := 33) (ty := .int) iw_X8_sheet_X8 tyX8 tyX8_ok nmX8 (lg_48 ad cI cJ X S16) rfl 2 (by decide) (C0.ts _ fw_X8_sheet_85) rfl (by decide +kernel) rfl rfl (Nat.le_of_ble_eq_true rfl) dX8_sheet_52 (S' := (sI S16 22 p1)) (ls_48_2 ad cI cJ X S16 p1) (fun S19 H locs eS19 hw => ?_)
          have hV := hV S19 eS19
          refine lv_iconst (v := 0) C0.x C0.b dX8_sheet_55 (by decide) ?_
          refine lv_istore_n (lv' := [(3, .int (0 : Int32)), (0, .ref (ad 48)), (1, .int p0), (2, .int p1)]) C0.x C0.b dX8_sheet_56 rfl hl (by decide) rfl (fun ls hl => ?_)
          obtain ⟨n57, hV⟩ := hV
          exact lp_X8_sheet_57   post C0  n57 _ _ hV _ _ hw _ (lv_sub hl [1, 0] rfl)
        · have hV := hV.1 c17
          refine lv_iconst (v := 0) C0.x C0.b dX8_sheet_47 (by decide) ?_
          refine lv_goto (tgt := 52) C0.x C0.b dX8_sheet_48 (by decide) ?_
          refine r_put C0 hw (C := RX8) (T := TX8) (N := 33) (ty := .int) iw_X8_sheet_X8 tyX8 tyX8_ok nmX8 (lg_48 ad cI cJ X S16) rfl 2 (by decide) (C0.ts _ fw_X8_sheet_85) rfl (by decide +kernel) rfl rfl (Nat.le_of_ble_eq_true rfl) dX8_sheet_52 (S' := (sI S16 22 (0 : Int32))) (ls_48_2 ad cI cJ X S16 (0 : Int32)) (fun S18 H locs eS18 hw => ?_)
          have hV := hV S18 eS18
          refine lv_iconst (v := 0) C0.x C0.b dX8_sheet_55 (by decide) ?_
          refine lv_istore_n (lv' := [(3, .int (0 : Int32)), (0, .ref (ad 48)), (1, .int p0), (2, .int p1)]) C0.x C0.b dX8_sheet_56 rfl hl (by decide) rfl (fun ls hl => ?_)
          obtain ⟨n57, hV⟩ := hV
          exact lp_X8_sheet_57   post C0  n57 _ _ hV _ _ hw _ (lv_sub hl [1, 0] rfl)
      · have hV := hV.1 c15
        refine lv_iconst (v := 0) C0.x C0.b dX8_sheet_34 (by decide) ?_
        exact r_zret C0 rfl bz_0 hw hV dX8_sheet_35
/-! StepBenchModel.entry(IJ)Z -/
abbrev rm_X8_entry : Room := { frames := 1, cells := 0, slots := 0, locals := 25 }
set_option maxRecDepth 20000 in
theorem fw_X8_entry_61 : Cond.fieldLink RX8 61 "StepBenchModel" "thrown" "I" ∈ wsX8_entry := by decide +kernel
set_option maxRecDepth 20000 in
theorem iw_X8_entry_X8 : ∀ w ∈ wsX80, w ∈ wsX8_entry := by decide +kernel
set_option maxRecDepth 20000 in
theorem fw_X8_entry_9 : Cond.fieldLink RX8 9 "StepBenchModel" "sheet" "I" ∈ wsX8_entry := by decide +kernel
set_option maxRecDepth 20000 in
theorem cw_X8_entry_72 : Cond.constantLong RX8 72 2 ∈ wsX8_entry := by decide +kernel
set_option maxRecDepth 20000 in
theorem fw_X8_entry_85 : Cond.fieldLink RX8 85 "StepBenchModel" "entries" "I" ∈ wsX8_entry := by decide +kernel
set_option maxRecDepth 20000 in
theorem fw_X8_entry_13 : Cond.fieldLink RX8 13 "StepBenchModel" "entry" "[J" ∈ wsX8_entry := by decide +kernel
set_option maxRecDepth 20000 in
theorem hd_X8_entry : yX8_entry.cls = RX8 ∧ yX8_entry.cls ≠ "java/lang/invoke/MethodHandle" ∧ yX8_entry.cls ≠ "java/lang/invoke/VarHandle" ∧ (parseMethodDescriptor yX8_entry.desc).map (fun d => d.parameters.length) = some 2 := by decide +kernel
def V_X8_entry  (p0 : Int32) (p1 : Int64) (S : SS) (post : Int32 → SS → Prop) : Prop :=
  (∀ S1 : SS, S1 = (sI S 20 (0 : Int32)) → (V_X8_in ((gI S1 21).toInt64) (0 : Int64) (2 : Int64) S1 (fun (r2 : Int32) (S3 : SS) => ((r2 = 0 → (post (0 : Int32) S3)) ∧ (¬ r2 = 0 → (V_X8_in p0.toInt64 (0 : Int64) (((gI S3 22) - (1 : Int32)).toInt64) S3 (fun (r5 : Int32) (S6 : SS) => ((r5 = 0 → (post (0 : Int32) S6)) ∧ (¬ r5 = 0 → (((gI S6 21) = 0 → (vp_in p0 64 ∧ ∀ S9 : SS, S9 = (sA S6 30 (vp_updL (gA S6 30) p0.toNatClampNeg p1.toInt32.toInt8.toInt32.toInt64)) → (post (1 : Int32) S9))) ∧ (¬ (gI S6 21) = 0 → (((gI S6 21) = (1 : Int32) → (vp_in p0 64 ∧ ∀ S11 : SS, S11 = (sA S6 30 (vp_updL (gA S6 30) p0.toNatClampNeg p1.toInt32.toInt64)) → (post (1 : Int32) S11))) ∧ (¬ (gI S6 21) = (1 : Int32) → (vp_in p0 64 ∧ ∀ S12 : SS, S12 = (sA S6 30 (vp_updL (gA S6 30) p0.toNatClampNeg p1)) → (post (1 : Int32) S12)))))))))))))))
set_option maxHeartbeats 4000000 in
set_option maxRecDepth 100000 in
theorem c_X8_entry  {S : SS} {p0 : Int32} {p1 : Int64} {post : Int32 → SS → Prop} (hV : V_X8_entry  p0 p1 S post) : MI l yX8_entry wsX8_entry rm_X8_entry [.ref (ad 48), .int p0, .long p1] D n0 ad cI cJ X S post := by
  refine Met.ofW (cc := cX8_entry) (maxL := 4) (ret := (some .boolean)) (by decide) rfl ?_
  intro p e s m args below meth c s₁ B hml hv
  obtain ⟨rfl, hv⟩ := hv
  have C0 := Bd.mk B hml (atoms_spec (ws := wsX8_entry) B.pre) (findClass_of_methodNamed B.named) hv.1
  have hw : Wh D n0 ad cI cJ X S s s.heap [] := ⟨hv.2.1, hv.2.2, va_S.rf⟩
  refine r_entry (Nat.le_of_ble_eq_true rfl) (fun ls hl => ?_)
  have hl : lv_has ls 4 [(0, .ref (ad 48)), (1, .int p0), (2, .long p1)] := hl
  unfold V_X8_entry at hV
  refine lv_aload_n C0.x C0.b dX8_entry_0 rfl (lv_at hl 0 rfl) ?_
  refine lv_iconst (v := 0) C0.x C0.b dX8_entry_1 (by decide) ?_
  refine r_put C0 hw (C := RX8) (T := TX8) (N := 33) (ty := .int) iw_X8_entry_X8 tyX8 tyX8_ok nmX8 (lg_48 ad cI cJ X S) rfl 0 (by decide) (C0.ts _ fw_X8_entry_61) rfl (by decide +kernel) rfl rfl (Nat.le_of_ble_eq_true rfl) dX8_entry_2 (S' := (sI S 20 (0 : Int32))) (ls_48_0 ad cI cJ X S (0 : Int32)) (fun S1 H locs eS1 hw => ?_)
  have hV := hV S1 eS1
  refine lv_aload_n C0.x C0.b dX8_entry_5 rfl (lv_at hl 0 rfl) ?_
  refine r_get C0 hw (C := RX8) (T := TX8) (N := 33) (v := .int (gI S1 21)) iw_X8_entry_X8 (lg_48 ad cI cJ X S1) rfl 1 (by decide) (C0.ts _ fw_X8_entry_9) rfl dX8_entry_6 ?_
  refine lv_i2l C0.x C0.b dX8_entry_9 rfl ?_
  refine lv_lconst (v := 0) C0.x C0.b dX8_entry_10 (by decide) ?_
  refine lv_ldc2 (v := 2) C0.x C0.b C0.ow (C0.ts _ cw_X8_entry_72) dX8_entry_11 ?_
  refine r_cS_i (As := [.long (gI S1 21).toInt64, .long (0 : Int64), .long (2 : Int64)]) (rest := []) C0 hw (c_X8_in  hV) (va_cwS 3 C0.ts gX8_entry_X8_in rfl rfl rfl hd_X8_in ⟨Nat.le_of_ble_eq_true rfl, Nat.le_of_ble_eq_true rfl⟩) rfl hl.1 rfl (Nat.le_of_ble_eq_true rfl) ⟨Nat.zero_le _, Nat.zero_le _⟩ dX8_entry_14 (fun r2 S3 H locs hV hw => ?_)
  refine lv_if_eq (tgt := 36) C0.x C0.b dX8_entry_17 (by decide) (fun c4 => ?_) (fun c4 => ?_)
  · have hV := hV.1 c4
    refine lv_iconst (v := 0) C0.x C0.b dX8_entry_36 (by decide) ?_
    exact r_zret C0 rfl bz_0 hw hV dX8_entry_37
  · have hV := hV.2 c4
    refine lv_iload_n C0.x C0.b dX8_entry_20 rfl (lv_at hl 1 rfl) ?_
    refine lv_i2l C0.x C0.b dX8_entry_21 rfl ?_
    refine lv_lconst (v := 0) C0.x C0.b dX8_entry_22 (by decide) ?_
    refine lv_aload_n C0.x C0.b dX8_entry_23 rfl (lv_at hl 0 rfl) ?_
    refine r_get C0 hw (C := RX8) (T := TX8) (N := 33) (v := .int (gI S3 22)) iw_X8_entry_X8 (lg_48 ad cI cJ X S3) rfl 2 (by decide) (C0.ts _ fw_X8_entry_85) rfl dX8_entry_24 ?_
    refine lv_iconst (v := 1) C0.x C0.b dX8_entry_27 (by decide) ?_
    refine lv_isub C0.x C0.b dX8_entry_28 ?_
    refine lv_i2l C0.x C0.b dX8_entry_29 rfl ?_
    refine r_cS_i (As := [.long p0.toInt64, .long (0 : Int64), .long ((gI S3 22) - (1 : Int32)).toInt64]) (rest := []) C0 hw (c_X8_in  hV) (va_cwS 3 C0.ts gX8_entry_X8_in rfl rfl rfl hd_X8_in ⟨Nat.le_of_ble_eq_true rfl, Nat.le_of_ble_eq_true rfl⟩) rfl hl.1 rfl (Nat.le_of_ble_eq_true rfl) ⟨Nat.zero_le _, Nat.zero_le _⟩ dX8_entry_30 (fun r5 S6 H locs hV hw => ?_)
    refine lv_if_ne (tgt := 38) C0.x C0.b dX8_entry_33 (by decide) (fun c7 => ?_) (fun c7 => ?_)
    · have hV := hV.2 c7
      refine lv_aload_n C0.x C0.b dX8_entry_38 rfl (lv_at hl 0 rfl) ?_
      refine r_get C0 hw (C := RX8) (T := TX8) (N := 33) (v := .ref (ad 49)) iw_X8_entry_X8 (lg_48 ad cI cJ X S6) rfl 3 (by decide) (C0.ts _ fw_X8_entry_13) rfl dX8_entry_39 ?_
      refine lv_iload_n C0.x C0.b dX8_entry_42 rfl (lv_at hl 1 rfl) ?_
      refine lv_aload_n C0.x C0.b dX8_entry_43 rfl (lv_at hl 0 rfl) ?_
      refine r_get C0 hw (C := RX8) (T := TX8) (N := 33) (v := .int (gI S6 21)) iw_X8_entry_X8 (lg_48 ad cI cJ X S6) rfl 1 (by decide) (C0.ts _ fw_X8_entry_9) rfl dX8_entry_44 ?_
      refine lv_if_ne (tgt := 57) C0.x C0.b dX8_entry_47 (by decide) (fun c8 => ?_) (fun c8 => ?_)
      · have hV := hV.2 c8
        refine lv_aload_n C0.x C0.b dX8_entry_57 rfl (lv_at hl 0 rfl) ?_
        refine r_get C0 hw (C := RX8) (T := TX8) (N := 33) (v := .int (gI S6 21)) iw_X8_entry_X8 (lg_48 ad cI cJ X S6) rfl 1 (by decide) (C0.ts _ fw_X8_entry_9) rfl dX8_entry_58 ?_
        refine lv_iconst (v := 1) C0.x C0.b dX8_entry_61 (by decide) ?_
        refine lv_icmp_ne (tgt := 71) C0.x C0.b dX8_entry_62 (by decide) (fun c10 => ?_) (fun c10 => ?_)
        · have hV := hV.2 c10
          refine lv_lload_n C0.x C0.b dX8_entry_71 rfl (lv_at hl 2 rfl) ?_
          refine r_last C0 hw (lg_49 ad cI cJ X S6) hV.1 dX8_entry_72 (S' := (sA S6 30 (vp_updL (gA S6 30) p0.toNatClampNeg p1))) (ls_49 ad cI cJ X S6 (vp_updL (gA S6 30) p0.toNatClampNeg p1)) (fun S12 H locs eS12 hw => ?_)
          have hV := hV.2 S12 eS12
          refine lv_iconst (v := 1) C0.x C0.b dX8_entry_73 (by decide) ?_
          exact r_zret C0 rfl bz_1 hw hV dX8_entry_74
        · have hV := hV.1 c10
          refine lv_lload_n C0.x C0.b dX8_entry_65 rfl (lv_at hl 2 rfl) ?_
          refine lv_l2i C0.x C0.b dX8_entry_66 rfl ?_
          refine lv_i2l C0.x C0.b dX8_entry_67 rfl ?_
          refine lv_goto (tgt := 72) C0.x C0.b dX8_entry_68 (by decide) ?_
          refine r_last C0 hw (lg_49 ad cI cJ X S6) hV.1 dX8_entry_72 (S' := (sA S6 30 (vp_updL (gA S6 30) p0.toNatClampNeg p1.toInt32.toInt64))) (ls_49 ad cI cJ X S6 (vp_updL (gA S6 30) p0.toNatClampNeg p1.toInt32.toInt64)) (fun S11 H locs eS11 hw => ?_)
          have hV := hV.2 S11 eS11
          refine lv_iconst (v := 1) C0.x C0.b dX8_entry_73 (by decide) ?_
          exact r_zret C0 rfl bz_1 hw hV dX8_entry_74
      · have hV := hV.1 c8
        refine lv_lload_n C0.x C0.b dX8_entry_50 rfl (lv_at hl 2 rfl) ?_
        refine lv_l2i C0.x C0.b dX8_entry_51 rfl ?_
        refine lv_i2b C0.x C0.b dX8_entry_52 rfl ?_
        refine lv_i2l C0.x C0.b dX8_entry_53 rfl ?_
        refine lv_goto (tgt := 72) C0.x C0.b dX8_entry_54 (by decide) ?_
        refine r_last C0 hw (lg_49 ad cI cJ X S6) hV.1 dX8_entry_72 (S' := (sA S6 30 (vp_updL (gA S6 30) p0.toNatClampNeg p1.toInt32.toInt8.toInt32.toInt64))) (ls_49 ad cI cJ X S6 (vp_updL (gA S6 30) p0.toNatClampNeg p1.toInt32.toInt8.toInt32.toInt64)) (fun S9 H locs eS9 hw => ?_)
        have hV := hV.2 S9 eS9
        refine lv_iconst (v := 1) C0.x C0.b dX8_entry_73 (by decide) ?_
        exact r_zret C0 rfl bz_1 hw hV dX8_entry_74
    · have hV := hV.1 c7
      refine lv_iconst (v := 0) C0.x C0.b dX8_entry_36 (by decide) ?_
      exact r_zret C0 rfl bz_0 hw hV dX8_entry_37
/-! StepBenchModel.lay(I)I -/
abbrev rm_X8_lay : Room := { frames := 1, cells := 0, slots := 0, locals := 25 }
set_option maxRecDepth 20000 in
theorem fw_X8_lay_61 : Cond.fieldLink RX8 61 "StepBenchModel" "thrown" "I" ∈ wsX8_lay := by decide +kernel
set_option maxRecDepth 20000 in
theorem iw_X8_lay_X8 : ∀ w ∈ wsX80, w ∈ wsX8_lay := by decide +kernel
set_option maxRecDepth 20000 in
theorem fw_X8_lay_9 : Cond.fieldLink RX8 9 "StepBenchModel" "sheet" "I" ∈ wsX8_lay := by decide +kernel
set_option maxRecDepth 20000 in
theorem fw_X8_lay_76 : Cond.fieldLink RX8 76 "StepBenchModel" "hasDraft" "Z" ∈ wsX8_lay := by decide +kernel
set_option maxRecDepth 20000 in
theorem cw_X8_lay_72 : Cond.constantLong RX8 72 2 ∈ wsX8_lay := by decide +kernel
set_option maxRecDepth 20000 in
theorem fw_X8_lay_85 : Cond.fieldLink RX8 85 "StepBenchModel" "entries" "I" ∈ wsX8_lay := by decide +kernel
set_option maxRecDepth 20000 in
theorem fw_X8_lay_80 : Cond.fieldLink RX8 80 "StepBenchModel" "draftM" "I" ∈ wsX8_lay := by decide +kernel
set_option maxRecDepth 20000 in
theorem ml_X8_lay_88 : Cond.methodLink RX8 88 Lib.Math.min.name ∈ wsX8_lay := by decide +kernel
set_option maxRecDepth 20000 in
theorem ms_X8_lay_88 : Cond.static Lib.Math.min.name ∈ wsX8_lay := by decide +kernel
set_option maxRecDepth 20000 in
theorem mi_X8_lay_88 : Cond.initialized "java/lang/Math" ∈ wsX8_lay := by decide +kernel
set_option maxRecDepth 20000 in
theorem mc_X8_lay_88 : Cond.code Lib.Math.min.name Lib.Math.min.code 2 (some .int) ∈ wsX8_lay := by decide +kernel
set_option maxRecDepth 20000 in
theorem fw_X8_lay_17 : Cond.fieldLink RX8 17 "StepBenchModel" "draft" "[J" ∈ wsX8_lay := by decide +kernel
set_option maxRecDepth 20000 in
theorem fw_X8_lay_13 : Cond.fieldLink RX8 13 "StepBenchModel" "entry" "[J" ∈ wsX8_lay := by decide +kernel
set_option maxRecDepth 20000 in
theorem hd_X8_lay : yX8_lay.cls = RX8 ∧ yX8_lay.cls ≠ "java/lang/invoke/MethodHandle" ∧ yX8_lay.cls ≠ "java/lang/invoke/VarHandle" ∧ (parseMethodDescriptor yX8_lay.desc).map (fun d => d.parameters.length) = some 1 := by decide +kernel
def V_X8_lay_47  (v1 : Int32) (v2 : Int32)  (post : Int32 → SS → Prop) : Nat → Int32 → SS → Prop
  | 0, _, _ => False
  | n + 1, v3, S =>
    ((v2 ≤ v3 → (∀ S9 : SS, S9 = (sI S 21 (-1 : Int32)) → (post v2 S9))) ∧ (¬ v2 ≤ v3 → (vp_in v3 64 ∧ (vp_in (((3 : Int32) * v3) + v1) 192 ∧ ∀ S10 : SS, S10 = (sA S 31 (vp_updL (gA S 31) (((3 : Int32) * v3) + v1).toNatClampNeg (gA S 30 v3.toNatClampNeg))) → (∀ x11 : Int32, x11 = v3 + 1 → (V_X8_lay_47  v1 v2  post n x11 S10))))))
set_option maxHeartbeats 4000000 in
set_option maxRecDepth 100000 in
theorem lp_X8_lay_47  (v1 : Int32) (v2 : Int32)  (post : Int32 → SS → Prop) (C0 : Bd p s m meth c args cX8_lay 4 (some .int) wsX8_lay RX8 D n0 cI cJ) : ∀ (n : Nat) (v3 : Int32) (S : SS), V_X8_lay_47  v1 v2  post n v3 S → ∀ (H : Heap) (locs : List Loc), Wh D n0 ad cI cJ X S s H locs → ∀ ls : Array Slot, lv_has ls 4 [(0, .ref (ad 48)), (1, .int v1), (2, .int v2), (3, .int v3)] → W p l e rm_X8_lay s m args below meth c H locs 0 0 (MQ below (va_Qi post (fun S' t => Wd D n0 ad cI cJ X S' t) (fr n0)) args s 0 0 (fr n0)) (F0 m 47 ls []) := by
  intro n
  induction n with
  | zero => intro v3 S hV; exact False.elim hV
  | succ n ih =>
    intro v3 S hV H locs hw ls hl
    rw [V_X8_lay_47] at hV
    refine lv_iload_n C0.x C0.b dX8_lay_47 rfl (lv_at hl 3 rfl) ?_
    refine lv_iload_n C0.x C0.b dX8_lay_48 rfl (lv_at hl 2 rfl) ?_
    refine lv_icmp_ge (tgt := 74) C0.x C0.b dX8_lay_49 (by decide) (fun c8 => ?_) (fun c8 => ?_)
    · have hV := hV.1 c8
      refine lv_aload_n C0.x C0.b dX8_lay_74 rfl (lv_at hl 0 rfl) ?_
      refine lv_iconst (v := -1) C0.x C0.b dX8_lay_75 (by decide) ?_
      refine r_put C0 hw (C := RX8) (T := TX8) (N := 33) (ty := .int) iw_X8_lay_X8 tyX8 tyX8_ok nmX8 (lg_48 ad cI cJ X S) rfl 1 (by decide) (C0.ts _ fw_X8_lay_9) rfl (by decide +kernel) rfl rfl (Nat.le_of_ble_eq_true rfl) dX8_lay_76 (S' := (sI S 21 (-1 : Int32))) (ls_48_1 ad cI cJ X S (-1 : Int32)) (fun S9 H locs eS9 hw => ?_)
      have hV := hV S9 eS9
      refine lv_iload_n C0.x C0.b dX8_lay_79 rfl (lv_at hl 2 rfl) ?_
      exact r_iret C0 rfl hw hV dX8_lay_80
    · have hV := hV.2 c8
      refine lv_aload_n C0.x C0.b dX8_lay_52 rfl (lv_at hl 0 rfl) ?_
      refine r_get C0 hw (C := RX8) (T := TX8) (N := 33) (v := .ref (ad 50)) iw_X8_lay_X8 (lg_48 ad cI cJ X S) rfl 6 (by decide) (C0.ts _ fw_X8_lay_17) rfl dX8_lay_53 ?_
      refine lv_iconst (v := 3) C0.x C0.b dX8_lay_56 (by decide) ?_
      refine lv_iload_n C0.x C0.b dX8_lay_57 rfl (lv_at hl 3 rfl) ?_
      refine lv_imul C0.x C0.b dX8_lay_58 ?_
      refine lv_iload_n C0.x C0.b dX8_lay_59 rfl (lv_at hl 1 rfl) ?_
      refine lv_iadd C0.x C0.b dX8_lay_60 ?_
      refine lv_aload_n C0.x C0.b dX8_lay_61 rfl (lv_at hl 0 rfl) ?_
      refine r_get C0 hw (C := RX8) (T := TX8) (N := 33) (v := .ref (ad 49)) iw_X8_lay_X8 (lg_48 ad cI cJ X S) rfl 3 (by decide) (C0.ts _ fw_X8_lay_13) rfl dX8_lay_62 ?_
      refine lv_iload_n C0.x C0.b dX8_lay_65 rfl (lv_at hl 3 rfl) ?_
      refine r_lald C0 hw (lg_49 ad cI cJ X S) hV.1 dX8_lay_66 ?_
      have hV := hV.2
      refine r_last C0 hw (lg_50 ad cI cJ X S) hV.1 dX8_lay_67 (S' := (sA S 31 (vp_updL (gA S 31) (((3 : Int32) * v3) + v1).toNatClampNeg (gA S 30 v3.toNatClampNeg)))) (ls_50 ad cI cJ X S (vp_updL (gA S 31) (((3 : Int32) * v3) + v1).toNatClampNeg (gA S 30 v3.toNatClampNeg))) (fun S10 H locs eS10 hw => ?_)
      have hV := hV.2 S10 eS10
      obtain ⟨x11, ex11⟩ : ∃ z : Int32, z = v3 + 1 := ⟨_, rfl⟩
      have hV := hV x11 ex11
      refine lv_iinc (v := x11) (lv' := [(3, .int x11), (0, .ref (ad 48)), (1, .int v1), (2, .int v2)]) C0.x C0.b dX8_lay_68 hl (k := 3) rfl (by rw [ex11]; rfl) (by decide) rfl (fun ls hl => ?_)
      refine lv_goto (tgt := 47) C0.x C0.b dX8_lay_71 (by decide) ?_
      exact ih _ _ hV _ _ hw _ (lv_sub hl [1, 2, 3, 0] rfl)
def V_X8_lay  (p0 : Int32) (S : SS) (post : Int32 → SS → Prop) : Prop :=
  (∀ S1 : SS, S1 = (sI S 20 (0 : Int32)) → (((gI S1 21) < 0 → (post (-1 : Int32) S1)) ∧ (¬ (gI S1 21) < 0 → (((gI S1 23) = 0 → (post (-1 : Int32) S1)) ∧ (¬ (gI S1 23) = 0 → (V_X8_in p0.toInt64 (0 : Int64) (2 : Int64) S1 (fun (r4 : Int32) (S5 : SS) => ((r4 = 0 → (post (-1 : Int32) S5)) ∧ (¬ r4 = 0 → (∀ x7 : Int32, x7 = (mnI (gI S5 22) (gI S5 24)) → (∃ n47 : Nat, V_X8_lay_47  p0 x7  post n47 (0 : Int32) S5)))))))))))
set_option maxHeartbeats 4000000 in
set_option maxRecDepth 100000 in
theorem c_X8_lay  {S : SS} {p0 : Int32} {post : Int32 → SS → Prop} (hV : V_X8_lay  p0 S post) : MI l yX8_lay wsX8_lay rm_X8_lay [.ref (ad 48), .int p0] D n0 ad cI cJ X S post := by
  refine Met.ofW (cc := cX8_lay) (maxL := 4) (ret := (some .int)) (by decide) rfl ?_
  intro p e s m args below meth c s₁ B hml hv
  obtain ⟨rfl, hv⟩ := hv
  have C0 := Bd.mk B hml (atoms_spec (ws := wsX8_lay) B.pre) (findClass_of_methodNamed B.named) hv.1
  have hw : Wh D n0 ad cI cJ X S s s.heap [] := ⟨hv.2.1, hv.2.2, va_S.rf⟩
  refine r_entry (Nat.le_of_ble_eq_true rfl) (fun ls hl => ?_)
  have hl : lv_has ls 4 [(0, .ref (ad 48)), (1, .int p0)] := hl
  unfold V_X8_lay at hV
  refine lv_aload_n C0.x C0.b dX8_lay_0 rfl (lv_at hl 0 rfl) ?_
  refine lv_iconst (v := 0) C0.x C0.b dX8_lay_1 (by decide) ?_
  refine r_put C0 hw (C := RX8) (T := TX8) (N := 33) (ty := .int) iw_X8_lay_X8 tyX8 tyX8_ok nmX8 (lg_48 ad cI cJ X S) rfl 0 (by decide) (C0.ts _ fw_X8_lay_61) rfl (by decide +kernel) rfl rfl (Nat.le_of_ble_eq_true rfl) dX8_lay_2 (S' := (sI S 20 (0 : Int32))) (ls_48_0 ad cI cJ X S (0 : Int32)) (fun S1 H locs eS1 hw => ?_)
  have hV := hV S1 eS1
  refine lv_aload_n C0.x C0.b dX8_lay_5 rfl (lv_at hl 0 rfl) ?_
  refine r_get C0 hw (C := RX8) (T := TX8) (N := 33) (v := .int (gI S1 21)) iw_X8_lay_X8 (lg_48 ad cI cJ X S1) rfl 1 (by decide) (C0.ts _ fw_X8_lay_9) rfl dX8_lay_6 ?_
  refine lv_if_lt (tgt := 31) C0.x C0.b dX8_lay_9 (by decide) (fun c2 => ?_) (fun c2 => ?_)
  · have hV := hV.1 c2
    refine lv_iconst (v := -1) C0.x C0.b dX8_lay_31 (by decide) ?_
    exact r_iret C0 rfl hw hV dX8_lay_32
  · have hV := hV.2 c2
    refine lv_aload_n C0.x C0.b dX8_lay_12 rfl (lv_at hl 0 rfl) ?_
    refine r_get C0 hw (C := RX8) (T := TX8) (N := 33) (v := .int (gI S1 23)) iw_X8_lay_X8 (lg_48 ad cI cJ X S1) rfl 4 (by decide) (C0.ts _ fw_X8_lay_76) rfl dX8_lay_13 ?_
    refine lv_if_eq (tgt := 31) C0.x C0.b dX8_lay_16 (by decide) (fun c3 => ?_) (fun c3 => ?_)
    · have hV := hV.1 c3
      refine lv_iconst (v := -1) C0.x C0.b dX8_lay_31 (by decide) ?_
      exact r_iret C0 rfl hw hV dX8_lay_32
    · have hV := hV.2 c3
      refine lv_iload_n C0.x C0.b dX8_lay_19 rfl (lv_at hl 1 rfl) ?_
      refine lv_i2l C0.x C0.b dX8_lay_20 rfl ?_
      refine lv_lconst (v := 0) C0.x C0.b dX8_lay_21 (by decide) ?_
      refine lv_ldc2 (v := 2) C0.x C0.b C0.ow (C0.ts _ cw_X8_lay_72) dX8_lay_22 ?_
      refine r_cS_i (As := [.long p0.toInt64, .long (0 : Int64), .long (2 : Int64)]) (rest := []) C0 hw (c_X8_in  hV) (va_cwS 3 C0.ts gX8_lay_X8_in rfl rfl rfl hd_X8_in ⟨Nat.le_of_ble_eq_true rfl, Nat.le_of_ble_eq_true rfl⟩) rfl hl.1 rfl (Nat.le_of_ble_eq_true rfl) ⟨Nat.zero_le _, Nat.zero_le _⟩ dX8_lay_25 (fun r4 S5 H locs hV hw => ?_)
      refine lv_if_ne (tgt := 33) C0.x C0.b dX8_lay_28 (by decide) (fun c6 => ?_) (fun c6 => ?_)
      · have hV := hV.2 c6
        refine lv_aload_n C0.x C0.b dX8_lay_33 rfl (lv_at hl 0 rfl) ?_
        refine r_get C0 hw (C := RX8) (T := TX8) (N := 33) (v := .int (gI S5 22)) iw_X8_lay_X8 (lg_48 ad cI cJ X S5) rfl 2 (by decide) (C0.ts _ fw_X8_lay_85) rfl dX8_lay_34 ?_
        refine lv_aload_n C0.x C0.b dX8_lay_37 rfl (lv_at hl 0 rfl) ?_
        refine r_get C0 hw (C := RX8) (T := TX8) (N := 33) (v := .int (gI S5 24)) iw_X8_lay_X8 (lg_48 ad cI cJ X S5) rfl 5 (by decide) (C0.ts _ fw_X8_lay_80) rfl dX8_lay_38 ?_
        refine va_mmin C0.x C0.b (C0.ml.trans hl.1.symm) C0.ow (C0.ts _ ml_X8_lay_88) (C0.ts _ ms_X8_lay_88) (C0.ts _ mi_X8_lay_88) (C0.ts _ mc_X8_lay_88) (Nat.le_of_ble_eq_true rfl) (Nat.le_of_ble_eq_true rfl) (Nat.zero_le _) (Nat.zero_le _) dX8_lay_41 ?_
        refine lv_topi (fun x7 ex7 => ?_)
        have hV := hV x7 ex7
        refine lv_istore_n (lv' := [(2, .int x7), (0, .ref (ad 48)), (1, .int p0)]) C0.x C0.b dX8_lay_44 rfl hl (by decide) rfl (fun ls hl => ?_)
        refine lv_iconst (v := 0) C0.x C0.b dX8_lay_45 (by decide) ?_
        refine lv_istore_n (lv' := [(3, .int (0 : Int32)), (2, .int x7), (0, .ref (ad 48)), (1, .int p0)]) C0.x C0.b dX8_lay_46 rfl hl (by decide) rfl (fun ls hl => ?_)
        obtain ⟨n47, hV⟩ := hV
        exact lp_X8_lay_47  _ _ post C0  n47 _ _ hV _ _ hw _ (lv_sub hl [2, 3, 1, 0] rfl)
      · have hV := hV.1 c6
        refine lv_iconst (v := -1) C0.x C0.b dX8_lay_31 (by decide) ?_
        exact r_iret C0 rfl hw hV dX8_lay_32
end
