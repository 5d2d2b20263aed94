section
variable {p : Program} {l : Launch} {e : Env} {s : State} {m : MethodId} {args : Array Value} {below : List Frame} {meth : Method} {c : Code}
variable {D : va_G} {n0 : Nat} {ad : Nat → Nat} {cI cJ : ClassId} {X : va_W}
/-! java/lang/Math.floorMod(JJ)J -/
abbrev rm_J9_floorMod_f86c9 : Room := { frames := 0, cells := 0, slots := 0, locals := 0 }
set_option maxRecDepth 20000 in
theorem hd_J9_floorMod_f86c9 : yJ9_floorMod_f86c9.cls ≠ "java/lang/invoke/MethodHandle" ∧ yJ9_floorMod_f86c9.cls ≠ "java/lang/invoke/VarHandle" ∧ (parseMethodDescriptor yJ9_floorMod_f86c9.desc).map (fun d => d.parameters.length) = some 2 := by decide +kernel
def V_J9_floorMod_f86c9  (p0 : Int64) (p1 : Int64) (S : SS) (post : Int64 → SS → Prop) : Prop :=
  (¬ p1 = 0 ∧ (∀ y1 : Int64, y1 = (lrm p0 p1) → (((0 : Int64) ≤ (p0 ^^^ p1) → (post y1 S)) ∧ (¬ (0 : Int64) ≤ (p0 ^^^ p1) → ((y1 = (0 : Int64) → (post y1 S)) ∧ (¬ y1 = (0 : Int64) → (post (y1 + p1) S)))))))
set_option maxHeartbeats 4000000 in
set_option maxRecDepth 100000 in
theorem c_J9_floorMod_f86c9  {S : SS} {p0 : Int64} {p1 : Int64} {post : Int64 → SS → Prop} (hV : V_J9_floorMod_f86c9  p0 p1 S post) : ML l yJ9_floorMod_f86c9 wsJ9_floorMod_f86c9 rm_J9_floorMod_f86c9 [.long p0, .long p1] D n0 ad cI cJ X S post := by
  refine metF (cc := cJ9_floorMod_f86c9) (maxL := 6) (ret := (some .long)) (by decide +kernel) rfl ?_
  intro p e s m args below meth c s₁ B hml hv
  obtain ⟨rfl, hv⟩ := hv
  have C0 := Bd.mk B hml (atoms_spec (ws := wsJ9_floorMod_f86c9) B.pre) (findClass_of_methodNamed B.named) hv.1
  have hw : Wh D n0 ad cI cJ X S s s.heap [] := ⟨hv.2.1, hv.2.2, va_S.rf⟩
  refine r_entry (Nat.le_of_ble_eq_true rfl) (fun ls hl => ?_)
  have hl : lv_has ls 6 [(0, .long p0), (2, .long p1)] := hl
  unfold V_J9_floorMod_f86c9 at hV
  refine lv_lload_n C0.x C0.b dJ9_floorMod_f86c9_0 rfl (lv_at hl 0 rfl) ?_
  refine lv_lload_n C0.x C0.b dJ9_floorMod_f86c9_1 rfl (lv_at hl 1 rfl) ?_
  refine lv_lrem C0.x C0.b dJ9_floorMod_f86c9_2 hV.1 ?_
  have hV := hV.2
  refine lv_topl (fun y1 ey1 => ?_)
  have hV := hV y1 ey1
  refine lv_lstore (lv' := [(4, .long y1), (0, .long p0), (2, .long p1)]) C0.x C0.b dJ9_floorMod_f86c9_3 hl (by decide) rfl (fun ls hl => ?_)
  refine lv_lload_n C0.x C0.b dJ9_floorMod_f86c9_5 rfl (lv_at hl 1 rfl) ?_
  refine lv_lload_n C0.x C0.b dJ9_floorMod_f86c9_6 rfl (lv_at hl 2 rfl) ?_
  refine lv_lxor C0.x C0.b dJ9_floorMod_f86c9_7 ?_
  refine lv_lconst (v := 0) C0.x C0.b dJ9_floorMod_f86c9_8 (by decide) ?_
  refine r_lcmp C0 dJ9_floorMod_f86c9_9 ?_
  refine lv_if_ge (tgt := 25) C0.x C0.b dJ9_floorMod_f86c9_10 (by decide) (fun c2 => ?_) (fun c2 => ?_)
  · have hV := hV.1 ((lc_ge _ _).mp c2)
    refine lv_lload C0.x C0.b dJ9_floorMod_f86c9_25 (lv_at hl 0 rfl) ?_
    exact r_lret C0 rfl hw hV dJ9_floorMod_f86c9_27
  · have hV := hV.2 (fun h => c2 ((lc_ge _ _).mpr h))
    refine lv_lload C0.x C0.b dJ9_floorMod_f86c9_13 (lv_at hl 0 rfl) ?_
    refine lv_lconst (v := 0) C0.x C0.b dJ9_floorMod_f86c9_15 (by decide) ?_
    refine r_lcmp C0 dJ9_floorMod_f86c9_16 ?_
    refine lv_if_eq (tgt := 25) C0.x C0.b dJ9_floorMod_f86c9_17 (by decide) (fun c3 => ?_) (fun c3 => ?_)
    · have hV := hV.1 ((lc_eq _ _).mp c3)
      refine lv_lload C0.x C0.b dJ9_floorMod_f86c9_25 (lv_at hl 0 rfl) ?_
      exact r_lret C0 rfl hw hV dJ9_floorMod_f86c9_27
    · have hV := hV.2 (fun h => c3 ((lc_eq _ _).mpr h))
      refine lv_lload C0.x C0.b dJ9_floorMod_f86c9_20 (lv_at hl 0 rfl) ?_
      refine lv_lload_n C0.x C0.b dJ9_floorMod_f86c9_22 rfl (lv_at hl 2 rfl) ?_
      refine lv_ladd C0.x C0.b dJ9_floorMod_f86c9_23 ?_
      exact r_lret C0 rfl hw hV dJ9_floorMod_f86c9_24
/-! java/util/Arrays.fill([JJ)V -/
abbrev rm_J7_fill_d0a16 : Room := { frames := 0, cells := 0, slots := 0, locals := 0 }
set_option maxRecDepth 20000 in
theorem hd_J7_fill_d0a16 : yJ7_fill_d0a16.cls ≠ "java/lang/invoke/MethodHandle" ∧ yJ7_fill_d0a16.cls ≠ "java/lang/invoke/VarHandle" ∧ (parseMethodDescriptor yJ7_fill_d0a16.desc).map (fun d => d.parameters.length) = some 2 := by decide +kernel
def V_J7_fill_d0a16_6 (ai0 L0 : Nat) (v1 : Int64) (v4 : Int32)  (post : SS → Prop) : Nat → Int32 → SS → Prop
  | 0, _, _ => False
  | n + 1, v3, S =>
    ((v4 ≤ v3 → (post S)) ∧ (¬ v4 ≤ v3 → (vp_in v3 L0 ∧ ∀ S2 : SS, S2 = (sA S ai0 (vp_updL (gA S ai0) v3.toNatClampNeg v1)) → (∀ x3 : Int32, x3 = v3 + 1 → (V_J7_fill_d0a16_6 ai0 L0 v1 v4  post n x3 S2)))))
set_option maxHeartbeats 4000000 in
set_option maxRecDepth 100000 in
theorem lp_J7_fill_d0a16_6 {pa0 ai0 L0 : Nat} (hO0 : lnA ad cI cJ X pa0 ai0 L0) (v1 : Int64) (v4 : Int32)  (post : SS → Prop) (C0 : Bd p s m meth c args cJ7_fill_d0a16 5 none wsJ7_fill_d0a16 RJ7 D n0 cI cJ) : ∀ (n : Nat) (v3 : Int32) (S : SS), V_J7_fill_d0a16_6 ai0 L0 v1 v4  post n v3 S → ∀ (H : Heap) (locs : List Loc), Wh D n0 ad cI cJ X S s H locs → ∀ ls : Array Slot, lv_has ls 5 [(0, .ref (ad pa0)), (1, .long v1), (3, .int v3), (4, .int v4)] → W p l e rm_J7_fill_d0a16 s m args below meth c H locs 0 0 (MQ below (va_Qv post (fun S' t => Wd D n0 ad cI cJ X S' t) (fr n0)) args s 0 0 (fr n0)) (F0 m 6 ls []) := by
  intro n
  induction n with
  | zero => intro v3 S hV; exact False.elim hV
  | succ n ih =>
    intro v3 S hV H locs hw ls hl
    rw [V_J7_fill_d0a16_6] at hV
    refine lv_iload_n C0.x C0.b dJ7_fill_d0a16_6 rfl (lv_at hl 2 rfl) ?_
    refine lv_iload C0.x C0.b dJ7_fill_d0a16_7 (lv_at hl 3 rfl) ?_
    refine lv_icmp_ge (tgt := 22) C0.x C0.b dJ7_fill_d0a16_9 (by decide) (fun c1 => ?_) (fun c1 => ?_)
    · have hV := hV.1 c1
      exact r_vret C0 rfl hw hV dJ7_fill_d0a16_22
    · have hV := hV.2 c1
      refine lv_aload_n C0.x C0.b dJ7_fill_d0a16_12 rfl (lv_at hl 0 rfl) ?_
      refine lv_iload_n C0.x C0.b dJ7_fill_d0a16_13 rfl (lv_at hl 2 rfl) ?_
      refine lv_lload_n C0.x C0.b dJ7_fill_d0a16_14 rfl (lv_at hl 1 rfl) ?_
      refine r_last C0 hw (hO0 S).1 hV.1 dJ7_fill_d0a16_15 (S' := (sA S ai0 (vp_updL (gA S ai0) v3.toNatClampNeg v1))) ((hO0 S).2 (vp_updL (gA S ai0) v3.toNatClampNeg v1)) (fun S2 H locs eS2 hw => ?_)
      have hV := hV.2 S2 eS2
      obtain ⟨x3, ex3⟩ : ∃ z : Int32, z = v3 + 1 := ⟨_, rfl⟩
      have hV := hV x3 ex3
      refine lv_iinc (v := x3) (lv' := [(3, .int x3), (0, .ref (ad pa0)), (1, .long v1), (4, .int v4)]) C0.x C0.b dJ7_fill_d0a16_16 hl (k := 2) rfl (by rw [ex3]; rfl) (by decide) rfl (fun ls hl => ?_)
      refine lv_goto (tgt := 6) C0.x C0.b dJ7_fill_d0a16_19 (by decide) ?_
      exact ih _ _ hV _ _ hw _ (lv_sub hl [1, 2, 0, 3] rfl)
def V_J7_fill_d0a16 (ai0 L0 : Nat) (p1 : Int64) (S : SS) (post : SS → Prop) : Prop :=
  (∃ n6 : Nat, V_J7_fill_d0a16_6 ai0 L0 p1 (Int32.ofNat L0)  post n6 (0 : Int32) S)
set_option maxHeartbeats 4000000 in
set_option maxRecDepth 100000 in
theorem c_J7_fill_d0a16 {pa0 ai0 L0 : Nat} (hO0 : lnA ad cI cJ X pa0 ai0 L0) {S : SS} {p1 : Int64} {post : SS → Prop} (hV : V_J7_fill_d0a16 ai0 L0 p1 S post) : MV l yJ7_fill_d0a16 wsJ7_fill_d0a16 rm_J7_fill_d0a16 [.ref (ad pa0), .long p1] D n0 ad cI cJ X S post := by
  refine metF (cc := cJ7_fill_d0a16) (maxL := 5) (ret := none) (by decide +kernel) rfl ?_
  intro p e s m args below meth c s₁ B hml hv
  obtain ⟨rfl, hv⟩ := hv
  have C0 := Bd.mk B hml (atoms_spec (ws := wsJ7_fill_d0a16) B.pre) (findClass_of_methodNamed B.named) hv.1
  have hw : Wh D n0 ad cI cJ X S s s.heap [] := ⟨hv.2.1, hv.2.2, va_S.rf⟩
  refine r_entry (Nat.le_of_ble_eq_true rfl) (fun ls hl => ?_)
  have hl : lv_has ls 5 [(0, .ref (ad pa0)), (1, .long p1)] := hl
  unfold V_J7_fill_d0a16 at hV
  refine lv_iconst (v := 0) C0.x C0.b dJ7_fill_d0a16_0 (by decide) ?_
  refine lv_istore_n (lv' := [(3, .int (0 : Int32)), (0, .ref (ad pa0)), (1, .long p1)]) C0.x C0.b dJ7_fill_d0a16_1 rfl hl (by decide) rfl (fun ls hl => ?_)
  refine lv_aload_n C0.x C0.b dJ7_fill_d0a16_2 rfl (lv_at hl 1 rfl) ?_
  refine r_alenL C0 hw (hO0 S).1 (v := Int32.ofNat L0) rfl dJ7_fill_d0a16_3 ?_
  refine lv_istore (lv' := [(4, .int (Int32.ofNat L0)), (3, .int (0 : Int32)), (0, .ref (ad pa0)), (1, .long p1)]) C0.x C0.b dJ7_fill_d0a16_4 hl (by decide) rfl (fun ls hl => ?_)
  obtain ⟨n6, hV⟩ := hV
  exact lp_J7_fill_d0a16_6 hO0 _ _ post C0  n6 _ _ hV _ _ hw _ (lv_sub hl [2, 3, 1, 0] rfl)
/-! StepBench$Fractions.size()I -/
abbrev rm_X0_size : Room := { frames := 0, cells := 0, slots := 0, locals := 0 }
set_option maxRecDepth 20000 in
theorem fw_X0_size_9 : Cond.fieldLink RX0 9 "StepBench$Fractions" "size" "I" ∈ wsX0_size := by decide +kernel
set_option maxRecDepth 20000 in
theorem iw_X0_size_X0 : ∀ w ∈ wsX00, w ∈ wsX0_size := by decide +kernel
set_option maxRecDepth 20000 in
theorem hd_X0_size : yX0_size.cls = RX0 ∧ yX0_size.cls ≠ "java/lang/invoke/MethodHandle" ∧ yX0_size.cls ≠ "java/lang/invoke/VarHandle" ∧ (parseMethodDescriptor yX0_size.desc).map (fun d => d.parameters.length) = some 0 := by decide +kernel
def V_X0_size   (S : SS) (post : Int32 → SS → Prop) : Prop :=
  (post (gI S 4) S)
set_option maxHeartbeats 4000000 in
set_option maxRecDepth 100000 in
theorem c_X0_size  {S : SS}  {post : Int32 → SS → Prop} (hV : V_X0_size   S post) : MI l yX0_size wsX0_size rm_X0_size [.ref (ad 13)] D n0 ad cI cJ X S post := by
  refine Met.ofW (cc := cX0_size) (maxL := 1) (ret := (some .int)) (by decide) rfl ?_
  intro p e s m args below meth c s₁ B hml hv
  obtain ⟨rfl, hv⟩ := hv
  have C0 := Bd.mk B hml (atoms_spec (ws := wsX0_size) B.pre) (findClass_of_methodNamed B.named) hv.1
  have hw : Wh D n0 ad cI cJ X S s s.heap [] := ⟨hv.2.1, hv.2.2, va_S.rf⟩
  refine r_entry (Nat.le_of_ble_eq_true rfl) (fun ls hl => ?_)
  have hl : lv_has ls 1 [(0, .ref (ad 13))] := hl
  unfold V_X0_size at hV
  refine lv_aload_n C0.x C0.b dX0_size_0 rfl (lv_at hl 0 rfl) ?_
  refine r_get C0 hw (C := RX0) (T := TX0) (N := 3) (v := .int (gI S 4)) iw_X0_size_X0 (lg_13 ad cI cJ X S) rfl 0 (by decide) (C0.ts _ fw_X0_size_9) rfl dX0_size_1 ?_
  exact r_iret C0 rfl hw hV dX0_size_4
/-! StepBench$Fractions.has(I)Z -/
abbrev rm_X0_has : Room := { frames := 0, cells := 0, slots := 0, locals := 0 }
set_option maxRecDepth 20000 in
theorem fw_X0_has_9 : Cond.fieldLink RX0 9 "StepBench$Fractions" "size" "I" ∈ wsX0_has := by decide +kernel
set_option maxRecDepth 20000 in
theorem iw_X0_has_X0 : ∀ w ∈ wsX00, w ∈ wsX0_has := by decide +kernel
set_option maxRecDepth 20000 in
theorem hd_X0_has : yX0_has.cls = RX0 ∧ yX0_has.cls ≠ "java/lang/invoke/MethodHandle" ∧ yX0_has.cls ≠ "java/lang/invoke/VarHandle" ∧ (parseMethodDescriptor yX0_has.desc).map (fun d => d.parameters.length) = some 1 := by decide +kernel
def V_X0_has  (p0 : Int32) (S : SS) (post : Int32 → SS → Prop) : Prop :=
  ((p0 < 0 → (post (0 : Int32) S)) ∧ (¬ p0 < 0 → (((gI S 4) ≤ p0 → (post (0 : Int32) S)) ∧ (¬ (gI S 4) ≤ p0 → (((40 : Int32) ≤ p0 → (post (0 : Int32) S)) ∧ (¬ (40 : Int32) ≤ p0 → (post (1 : Int32) S)))))))
set_option maxHeartbeats 4000000 in
set_option maxRecDepth 100000 in
theorem c_X0_has  {S : SS} {p0 : Int32} {post : Int32 → SS → Prop} (hV : V_X0_has  p0 S post) : MI l yX0_has wsX0_has rm_X0_has [.ref (ad 13), .int p0] D n0 ad cI cJ X S post := by
  refine Met.ofW (cc := cX0_has) (maxL := 2) (ret := (some .boolean)) (by decide) rfl ?_
  intro p e s m args below meth c s₁ B hml hv
  obtain ⟨rfl, hv⟩ := hv
  have C0 := Bd.mk B hml (atoms_spec (ws := wsX0_has) B.pre) (findClass_of_methodNamed B.named) hv.1
  have hw : Wh D n0 ad cI cJ X S s s.heap [] := ⟨hv.2.1, hv.2.2, va_S.rf⟩
  refine r_entry (Nat.le_of_ble_eq_true rfl) (fun ls hl => ?_)
  have hl : lv_has ls 2 [(0, .ref (ad 13)), (1, .int p0)] := hl
  unfold V_X0_has at hV
  refine lv_iload_n C0.x C0.b dX0_has_0 rfl (lv_at hl 1 rfl) ?_
  refine lv_if_lt (tgt := 22) C0.x C0.b dX0_has_1 (by decide) (fun c1 => ?_) (fun c1 => ?_)
  · have hV := hV.1 c1
    refine lv_iconst (v := 0) C0.x C0.b dX0_has_22 (by decide) ?_
    exact r_zret C0 rfl bz_0 hw hV dX0_has_23
  · have hV := hV.2 c1
    refine lv_iload_n C0.x C0.b dX0_has_4 rfl (lv_at hl 1 rfl) ?_
    refine lv_aload_n C0.x C0.b dX0_has_5 rfl (lv_at hl 0 rfl) ?_
    refine r_get C0 hw (C := RX0) (T := TX0) (N := 3) (v := .int (gI S 4)) iw_X0_has_X0 (lg_13 ad cI cJ X S) rfl 0 (by decide) (C0.ts _ fw_X0_has_9) rfl dX0_has_6 ?_
    refine lv_icmp_ge (tgt := 22) C0.x C0.b dX0_has_9 (by decide) (fun c2 => ?_) (fun c2 => ?_)
    · have hV := hV.1 c2
      refine lv_iconst (v := 0) C0.x C0.b dX0_has_22 (by decide) ?_
      exact r_zret C0 rfl bz_0 hw hV dX0_has_23
    · have hV := hV.2 c2
      refine lv_iload_n C0.x C0.b dX0_has_12 rfl (lv_at hl 1 rfl) ?_
      refine lv_bipush (v := 40) C0.x C0.b dX0_has_13 (by decide) ?_
      refine lv_icmp_ge (tgt := 22) C0.x C0.b dX0_has_15 (by decide) (fun c3 => ?_) (fun c3 => ?_)
      · have hV := hV.1 c3
        refine lv_iconst (v := 0) C0.x C0.b dX0_has_22 (by decide) ?_
        exact r_zret C0 rfl bz_0 hw hV dX0_has_23
      · have hV := hV.2 c3
        refine lv_iconst (v := 1) C0.x C0.b dX0_has_18 (by decide) ?_
        refine lv_goto (tgt := 23) C0.x C0.b dX0_has_19 (by decide) ?_
        exact r_zret C0 rfl bz_1 hw hV dX0_has_23
/-! StepBench$Fractions.empty()V -/
abbrev rm_X0_empty : Room := { frames := 0, cells := 0, slots := 0, locals := 0 }
set_option maxRecDepth 20000 in
theorem fw_X0_empty_9 : Cond.fieldLink RX0 9 "StepBench$Fractions" "size" "I" ∈ wsX0_empty := by decide +kernel
set_option maxRecDepth 20000 in
theorem iw_X0_empty_X0 : ∀ w ∈ wsX00, w ∈ wsX0_empty := by decide +kernel
set_option maxRecDepth 20000 in
theorem hd_X0_empty : yX0_empty.cls = RX0 ∧ yX0_empty.cls ≠ "java/lang/invoke/MethodHandle" ∧ yX0_empty.cls ≠ "java/lang/invoke/VarHandle" ∧ (parseMethodDescriptor yX0_empty.desc).map (fun d => d.parameters.length) = some 0 := by decide +kernel
def V_X0_empty   (S : SS) (post : SS → Prop) : Prop :=
  (∀ S1 : SS, S1 = (sI S 4 (0 : Int32)) → (post S1))
set_option maxHeartbeats 4000000 in
set_option maxRecDepth 100000 in
theorem c_X0_empty  {S : SS}  {post : SS → Prop} (hV : V_X0_empty   S post) : MV l yX0_empty wsX0_empty rm_X0_empty [.ref (ad 13)] D n0 ad cI cJ X S post := by
  refine Met.ofW (cc := cX0_empty) (maxL := 1) (ret := none) (by decide) rfl ?_
  intro p e s m args below meth c s₁ B hml hv
  obtain ⟨rfl, hv⟩ := hv
  have C0 := Bd.mk B hml (atoms_spec (ws := wsX0_empty) B.pre) (findClass_of_methodNamed B.named) hv.1
  have hw : Wh D n0 ad cI cJ X S s s.heap [] := ⟨hv.2.1, hv.2.2, va_S.rf⟩
  refine r_entry (Nat.le_of_ble_eq_true rfl) (fun ls hl => ?_)
  have hl : lv_has ls 1 [(0, .ref (ad 13))] := hl
  unfold V_X0_empty at hV
  refine lv_aload_n C0.x C0.b dX0_empty_0 rfl (lv_at hl 0 rfl) ?_
  refine lv_iconst (v := 0) C0.x C0.b dX0_empty_1 (by decide) ?_
  refine r_put C0 hw (C := RX0) (T := TX0) (N := 3) (ty := .int) iw_X0_empty_X0 tyX0 tyX0_ok nmX0 (lg_13 ad cI cJ X S) rfl 0 (by decide) (C0.ts _ fw_X0_empty_9) rfl (by decide +kernel) rfl rfl (Nat.le_of_ble_eq_true rfl) dX0_empty_2 (S' := (sI S 4 (0 : Int32))) (ls_13_0 ad cI cJ X S (0 : Int32)) (fun S1 H locs eS1 hw => ?_)
  have hV := hV S1 eS1
  exact r_vret C0 rfl hw hV dX0_empty_5
/-! StepBench.commonDivisor(JJ)J -/
abbrev rm_X7_commonDivisor : Room := { frames := 1, cells := 0, slots := 0, locals := 24 }
set_option maxRecDepth 20000 in
theorem ml_X7_commonDivisor_293 : Cond.methodLink RX7 293 Lib.MathLoose.abs_long.x ∈ wsX7_commonDivisor := by decide +kernel
set_option maxRecDepth 20000 in
theorem ms_X7_commonDivisor_293 : Cond.static Lib.MathLoose.abs_long.x ∈ wsX7_commonDivisor := by decide +kernel
set_option maxRecDepth 20000 in
theorem mi_X7_commonDivisor_293 : Cond.initialized "java/lang/Math" ∈ wsX7_commonDivisor := by decide +kernel
set_option maxRecDepth 20000 in
theorem mc_X7_commonDivisor_293 : Cond.code Lib.MathLoose.abs_long.x Lib.MathLoose.abs_long.code 2 (some .long) ∈ wsX7_commonDivisor := by decide +kernel
set_option maxRecDepth 20000 in
theorem hd_X7_commonDivisor : yX7_commonDivisor.cls ≠ "java/lang/invoke/MethodHandle" ∧ yX7_commonDivisor.cls ≠ "java/lang/invoke/VarHandle" ∧ (parseMethodDescriptor yX7_commonDivisor.desc).map (fun d => d.parameters.length) = some 2 := by decide +kernel
def V_X7_commonDivisor_15    (post : Int64 → SS → Prop) : Nat → Int64 → Int64 → Int32 → SS → Prop
  | 0, _, _, _, _ => False
  | n + 1, v4, v6, v8, S =>
    (((1000 : Int32) ≤ v8 → ((v4 = (0 : Int64) → (post (1 : Int64) S)) ∧ (¬ v4 = (0 : Int64) → (post v4 S)))) ∧ (¬ (1000 : Int32) ≤ v8 → ((v6 = (0 : Int64) → ((v4 = (0 : Int64) → (post (1 : Int64) S)) ∧ (¬ v4 = (0 : Int64) → (post v4 S)))) ∧ (¬ v6 = (0 : Int64) → (¬ v6 = 0 ∧ (∀ y7 : Int64, y7 = (lrm v4 v6) → (∀ x8 : Int32, x8 = v8 + 1 → (V_X7_commonDivisor_15    post n v6 y7 x8 S))))))))
set_option maxHeartbeats 4000000 in
set_option maxRecDepth 100000 in
theorem lp_X7_commonDivisor_15    (post : Int64 → SS → Prop) (C0 : Bd p s m meth c args cX7_commonDivisor 11 (some .long) wsX7_commonDivisor RX7 D n0 cI cJ) : ∀ (n : Nat) (v4 : Int64) (v6 : Int64) (v8 : Int32) (S : SS), V_X7_commonDivisor_15    post n v4 v6 v8 S → ∀ (H : Heap) (locs : List Loc), Wh D n0 ad cI cJ X S s H locs → ∀ ls : Array Slot, lv_has ls 11 [(4, .long v4), (6, .long v6), (8, .int v8)] → W p l e rm_X7_commonDivisor s m args below meth c H locs 0 0 (MQ below (va_Ql post (fun S' t => Wd D n0 ad cI cJ X S' t) (fr n0)) args s 0 0 (fr n0)) (F0 m 15 ls []) := by
  intro n
  induction n with
  | zero => intro v4 v6 v8 S hV; exact False.elim hV
  | succ n ih =>
    intro v4 v6 v8 S hV H locs hw ls hl
    rw [V_X7_commonDivisor_15] at hV
    refine lv_iload C0.x C0.b dX7_commonDivisor_15 (lv_at hl 2 rfl) ?_
    refine lv_sipush (v := 1000) C0.x C0.b dX7_commonDivisor_17 (by decide) ?_
    refine lv_icmp_ge (tgt := 51) C0.x C0.b dX7_commonDivisor_20 (by decide) (fun c3 => ?_) (fun c3 => ?_)
    · have hV := hV.1 c3
      refine lv_lload C0.x C0.b dX7_commonDivisor_51 (lv_at hl 0 rfl) ?_
      refine lv_lconst (v := 0) C0.x C0.b dX7_commonDivisor_53 (by decide) ?_
      refine r_lcmp C0 dX7_commonDivisor_54 ?_
      refine lv_if_ne (tgt := 62) C0.x C0.b dX7_commonDivisor_55 (by decide) (fun c4 => ?_) (fun c4 => ?_)
      · have hV := hV.2 (fun h => c4 ((lc_eq _ _).mpr h))
        refine lv_lload C0.x C0.b dX7_commonDivisor_62 (lv_at hl 0 rfl) ?_
        exact r_lret C0 rfl hw hV dX7_commonDivisor_64
      · have hV := hV.1 ((lc_eq _ _).mp c4)
        refine lv_lconst (v := 1) C0.x C0.b dX7_commonDivisor_58 (by decide) ?_
        refine lv_goto (tgt := 64) C0.x C0.b dX7_commonDivisor_59 (by decide) ?_
        exact r_lret C0 rfl hw hV dX7_commonDivisor_64
    · have hV := hV.2 c3
      refine lv_lload C0.x C0.b dX7_commonDivisor_23 (lv_at hl 1 rfl) ?_
      refine lv_lconst (v := 0) C0.x C0.b dX7_commonDivisor_25 (by decide) ?_
      refine r_lcmp C0 dX7_commonDivisor_26 ?_
      refine lv_if_eq (tgt := 51) C0.x C0.b dX7_commonDivisor_27 (by decide) (fun c5 => ?_) (fun c5 => ?_)
      · have hV := hV.1 ((lc_eq _ _).mp c5)
        refine lv_lload C0.x C0.b dX7_commonDivisor_51 (lv_at hl 0 rfl) ?_
        refine lv_lconst (v := 0) C0.x C0.b dX7_commonDivisor_53 (by decide) ?_
        refine r_lcmp C0 dX7_commonDivisor_54 ?_
        refine lv_if_ne (tgt := 62) C0.x C0.b dX7_commonDivisor_55 (by decide) (fun c6 => ?_) (fun c6 => ?_)
        · have hV := hV.2 (fun h => c6 ((lc_eq _ _).mpr h))
          refine lv_lload C0.x C0.b dX7_commonDivisor_62 (lv_at hl 0 rfl) ?_
          exact r_lret C0 rfl hw hV dX7_commonDivisor_64
        · have hV := hV.1 ((lc_eq _ _).mp c6)
          refine lv_lconst (v := 1) C0.x C0.b dX7_commonDivisor_58 (by decide) ?_
          refine lv_goto (tgt := 64) C0.x C0.b dX7_commonDivisor_59 (by decide) ?_
          exact r_lret C0 rfl hw hV dX7_commonDivisor_64
      · have hV := hV.2 (fun h => c5 ((lc_eq _ _).mpr h))
        refine lv_lload C0.x C0.b dX7_commonDivisor_30 (lv_at hl 0 rfl) ?_
        refine lv_lload C0.x C0.b dX7_commonDivisor_32 (lv_at hl 1 rfl) ?_
        refine lv_lrem C0.x C0.b dX7_commonDivisor_34 hV.1 ?_
        have hV := hV.2
        refine lv_topl (fun y7 ey7 => ?_)
        have hV := hV y7 ey7
        refine lv_lstore (lv' := [(9, .long y7), (4, .long v4), (6, .long v6), (8, .int v8)]) C0.x C0.b dX7_commonDivisor_35 hl (by decide) rfl (fun ls hl => ?_)
        refine lv_lload C0.x C0.b dX7_commonDivisor_37 (lv_at hl 2 rfl) ?_
        refine lv_lstore (lv' := [(4, .long v6), (9, .long y7), (6, .long v6), (8, .int v8)]) C0.x C0.b dX7_commonDivisor_39 hl (by decide) rfl (fun ls hl => ?_)
        refine lv_lload C0.x C0.b dX7_commonDivisor_41 (lv_at hl 1 rfl) ?_
        refine lv_lstore (lv' := [(6, .long y7), (4, .long v6), (9, .long y7), (8, .int v8)]) C0.x C0.b dX7_commonDivisor_43 hl (by decide) rfl (fun ls hl => ?_)
        obtain ⟨x8, ex8⟩ : ∃ z : Int32, z = v8 + 1 := ⟨_, rfl⟩
        have hV := hV x8 ex8
        refine lv_iinc (v := x8) (lv' := [(8, .int x8), (6, .long y7), (4, .long v6), (9, .long y7)]) C0.x C0.b dX7_commonDivisor_45 hl (k := 3) rfl (by rw [ex8]; rfl) (by decide) rfl (fun ls hl => ?_)
        refine lv_goto (tgt := 15) C0.x C0.b dX7_commonDivisor_48 (by decide) ?_
        exact ih _ _ _ _ hV _ _ hw _ (lv_sub hl [2, 1, 0] rfl)
def V_X7_commonDivisor  (p0 : Int64) (p1 : Int64) (S : SS) (post : Int64 → SS → Prop) : Prop :=
  (∀ y1 : Int64, y1 = (abL p0) → (∀ y2 : Int64, y2 = (abL p1) → (∃ n15 : Nat, V_X7_commonDivisor_15    post n15 y1 y2 (0 : Int32) S)))
set_option maxHeartbeats 4000000 in
set_option maxRecDepth 100000 in
theorem c_X7_commonDivisor  {S : SS} {p0 : Int64} {p1 : Int64} {post : Int64 → SS → Prop} (hV : V_X7_commonDivisor  p0 p1 S post) : ML l yX7_commonDivisor wsX7_commonDivisor rm_X7_commonDivisor [.long p0, .long p1] D n0 ad cI cJ X S post := by
  refine Met.ofW (cc := cX7_commonDivisor) (maxL := 11) (ret := (some .long)) (by decide) rfl ?_
  intro p e s m args below meth c s₁ B hml hv
  obtain ⟨rfl, hv⟩ := hv
  have C0 := Bd.mk B hml (atoms_spec (ws := wsX7_commonDivisor) B.pre) (findClass_of_methodNamed B.named) hv.1
  have hw : Wh D n0 ad cI cJ X S s s.heap [] := ⟨hv.2.1, hv.2.2, va_S.rf⟩
  refine r_entry (Nat.le_of_ble_eq_true rfl) (fun ls hl => ?_)
  have hl : lv_has ls 11 [(0, .long p0), (2, .long p1)] := hl
  unfold V_X7_commonDivisor at hV
  refine lv_lload_n C0.x C0.b dX7_commonDivisor_0 rfl (lv_at hl 0 rfl) ?_
  refine va_mabs_long C0.x C0.b (C0.ml.trans hl.1.symm) C0.ow (C0.ts _ ml_X7_commonDivisor_293) (C0.ts _ ms_X7_commonDivisor_293) (C0.ts _ mi_X7_commonDivisor_293) (C0.ts _ mc_X7_commonDivisor_293) (Nat.le_of_ble_eq_true rfl) (Nat.le_of_ble_eq_true rfl) (Nat.le_of_ble_eq_true rfl) (Nat.le_of_ble_eq_true rfl) dX7_commonDivisor_1 ?_
  refine lv_topl (fun y1 ey1 => ?_)
  have hV := hV y1 ey1
  refine lv_lstore (lv' := [(4, .long y1), (0, .long p0), (2, .long p1)]) C0.x C0.b dX7_commonDivisor_4 hl (by decide) rfl (fun ls hl => ?_)
  refine lv_lload_n C0.x C0.b dX7_commonDivisor_6 rfl (lv_at hl 2 rfl) ?_
  refine va_mabs_long C0.x C0.b (C0.ml.trans hl.1.symm) C0.ow (C0.ts _ ml_X7_commonDivisor_293) (C0.ts _ ms_X7_commonDivisor_293) (C0.ts _ mi_X7_commonDivisor_293) (C0.ts _ mc_X7_commonDivisor_293) (Nat.le_of_ble_eq_true rfl) (Nat.le_of_ble_eq_true rfl) (Nat.le_of_ble_eq_true rfl) (Nat.le_of_ble_eq_true rfl) dX7_commonDivisor_7 ?_
  refine lv_topl (fun y2 ey2 => ?_)
  have hV := hV y2 ey2
  refine lv_lstore (lv' := [(6, .long y2), (4, .long y1), (0, .long p0), (2, .long p1)]) C0.x C0.b dX7_commonDivisor_10 hl (by decide) rfl (fun ls hl => ?_)
  refine lv_iconst (v := 0) C0.x C0.b dX7_commonDivisor_12 (by decide) ?_
  refine lv_istore (lv' := [(8, .int (0 : Int32)), (6, .long y2), (4, .long y1), (0, .long p0), (2, .long p1)]) C0.x C0.b dX7_commonDivisor_13 hl (by decide) rfl (fun ls hl => ?_)
  obtain ⟨n15, hV⟩ := hV
  exact lp_X7_commonDivisor_15   post C0  n15 _ _ _ _ hV _ _ hw _ (lv_sub hl [2, 1, 0] rfl)
/-! StepBench$Fractions.add(JJ)Z -/
abbrev rm_X0_add : Room := { frames := 2, cells := 0, slots := 0, locals := 54 }
set_option maxRecDepth 20000 in
theorem fw_X0_add_9 : Cond.fieldLink RX0 9 "StepBench$Fractions" "size" "I" ∈ wsX0_add := by decide +kernel
set_option maxRecDepth 20000 in
theorem iw_X0_add_X0 : ∀ w ∈ wsX00, w ∈ wsX0_add := by decide +kernel
set_option maxRecDepth 20000 in
theorem fw_X0_add_15 : Cond.fieldLink RX0 15 "StepBench$Fractions" "overs" "[J" ∈ wsX0_add := by decide +kernel
set_option maxRecDepth 20000 in
theorem fw_X0_add_19 : Cond.fieldLink RX0 19 "StepBench$Fractions" "unders" "[J" ∈ wsX0_add := by decide +kernel
set_option maxRecDepth 20000 in
theorem ns_X0_add_22 : Cond.static yX7_commonDivisor ∈ wsX0_add := by decide +kernel
set_option maxRecDepth 20000 in
theorem ni_X0_add_22 : Cond.initialized yX7_commonDivisor.cls ∈ wsX0_add := by decide +kernel
set_option maxRecDepth 20000 in
theorem hd_X0_add : yX0_add.cls = RX0 ∧ yX0_add.cls ≠ "java/lang/invoke/MethodHandle" ∧ yX0_add.cls ≠ "java/lang/invoke/VarHandle" ∧ (parseMethodDescriptor yX0_add.desc).map (fun d => d.parameters.length) = some 2 := by decide +kernel
def V_X0_add  (p0 : Int64) (p1 : Int64) (S : SS) (post : Int32 → SS → Prop) : Prop :=
  (((gI S 4) < 0 → (post (0 : Int32) S)) ∧ (¬ (gI S 4) < 0 → (((gI S 4) < (40 : Int32) → (V_X7_commonDivisor p0 p1 S (fun (r3 : Int64) (S4 : SS) => (¬ r3 = 0 ∧ (vp_in (gI S4 4) 40 ∧ ∀ S5 : SS, S5 = (sA S4 9 (vp_updL (gA S4 9) (gI S4 4).toNatClampNeg (p0 / r3))) → (¬ r3 = 0 ∧ (vp_in (gI S5 4) 40 ∧ ∀ S6 : SS, S6 = (sA S5 10 (vp_updL (gA S5 10) (gI S5 4).toNatClampNeg (p1 / r3))) → (∀ S7 : SS, S7 = (sI S6 4 ((gI S6 4) + (1 : Int32))) → (post (1 : Int32) S7))))))))) ∧ (¬ (gI S 4) < (40 : Int32) → (post (0 : Int32) S)))))
set_option maxHeartbeats 4000000 in
set_option maxRecDepth 100000 in
theorem c_X0_add  {S : SS} {p0 : Int64} {p1 : Int64} {post : Int32 → SS → Prop} (hV : V_X0_add  p0 p1 S post) : MI l yX0_add wsX0_add rm_X0_add [.ref (ad 13), .long p0, .long p1] D n0 ad cI cJ X S post := by
  refine Met.ofW (cc := cX0_add) (maxL := 7) (ret := (some .boolean)) (by decide) rfl ?_
  intro p e s m args below meth c s₁ B hml hv
  obtain ⟨rfl, hv⟩ := hv
  have C0 := Bd.mk B hml (atoms_spec (ws := wsX0_add) B.pre) (findClass_of_methodNamed B.named) hv.1
  have hw : Wh D n0 ad cI cJ X S s s.heap [] := ⟨hv.2.1, hv.2.2, va_S.rf⟩
  refine r_entry (Nat.le_of_ble_eq_true rfl) (fun ls hl => ?_)
  have hl : lv_has ls 7 [(0, .ref (ad 13)), (1, .long p0), (3, .long p1)] := hl
  unfold V_X0_add at hV
  refine lv_aload_n C0.x C0.b dX0_add_0 rfl (lv_at hl 0 rfl) ?_
  refine r_get C0 hw (C := RX0) (T := TX0) (N := 3) (v := .int (gI S 4)) iw_X0_add_X0 (lg_13 ad cI cJ X S) rfl 0 (by decide) (C0.ts _ fw_X0_add_9) rfl dX0_add_1 ?_
  refine lv_if_lt (tgt := 16) C0.x C0.b dX0_add_4 (by decide) (fun c1 => ?_) (fun c1 => ?_)
  · have hV := hV.1 c1
    refine lv_iconst (v := 0) C0.x C0.b dX0_add_16 (by decide) ?_
    exact r_zret C0 rfl bz_0 hw hV dX0_add_17
  · have hV := hV.2 c1
    refine lv_aload_n C0.x C0.b dX0_add_7 rfl (lv_at hl 0 rfl) ?_
    refine r_get C0 hw (C := RX0) (T := TX0) (N := 3) (v := .int (gI S 4)) iw_X0_add_X0 (lg_13 ad cI cJ X S) rfl 0 (by decide) (C0.ts _ fw_X0_add_9) rfl dX0_add_8 ?_
    refine lv_bipush (v := 40) C0.x C0.b dX0_add_11 (by decide) ?_
    refine lv_icmp_lt (tgt := 18) C0.x C0.b dX0_add_13 (by decide) (fun c2 => ?_) (fun c2 => ?_)
    · have hV := hV.1 c2
      refine lv_lload_n C0.x C0.b dX0_add_18 rfl (lv_at hl 1 rfl) ?_
      refine lv_lload_n C0.x C0.b dX0_add_19 rfl (lv_at hl 2 rfl) ?_
      refine r_cN_l (As := [.long p0, .long p1]) (rest := []) C0 hw (c_X7_commonDivisor  hV) ⟨va_cnB 2 C0.ts gX0_add_X7_commonDivisor_n22 rfl rfl rfl (C0.en.2.2.1 ("StepBench$Fractions", 22, yX7_commonDivisor, "StepBench") (by simp [nestL])) (C0.ts _ ni_X0_add_22) hd_X7_commonDivisor ⟨Nat.le_of_ble_eq_true rfl, Nat.le_of_ble_eq_true rfl⟩, C0.ts _ ns_X0_add_22, trivial⟩ rfl hl.1 rfl (Nat.le_of_ble_eq_true rfl) ⟨Nat.le_of_ble_eq_true rfl, Nat.le_of_ble_eq_true rfl⟩ dX0_add_20 (fun r3 S4 H locs hV hw => ?_)
      refine lv_lstore (lv' := [(5, .long r3), (0, .ref (ad 13)), (1, .long p0), (3, .long p1)]) C0.x C0.b dX0_add_23 hl (by decide) rfl (fun ls hl => ?_)
      refine lv_aload_n C0.x C0.b dX0_add_25 rfl (lv_at hl 1 rfl) ?_
      refine r_get C0 hw (C := RX0) (T := TX0) (N := 3) (v := .ref (ad 14)) iw_X0_add_X0 (lg_13 ad cI cJ X S4) rfl 1 (by decide) (C0.ts _ fw_X0_add_15) rfl dX0_add_26 ?_
      refine lv_aload_n C0.x C0.b dX0_add_29 rfl (lv_at hl 1 rfl) ?_
      refine r_get C0 hw (C := RX0) (T := TX0) (N := 3) (v := .int (gI S4 4)) iw_X0_add_X0 (lg_13 ad cI cJ X S4) rfl 0 (by decide) (C0.ts _ fw_X0_add_9) rfl dX0_add_30 ?_
      refine lv_lload_n C0.x C0.b dX0_add_33 rfl (lv_at hl 2 rfl) ?_
      refine lv_lload C0.x C0.b dX0_add_34 (lv_at hl 0 rfl) ?_
      refine lv_ldiv C0.x C0.b dX0_add_36 hV.1 ?_
      have hV := hV.2
      refine r_last C0 hw (lg_14 ad cI cJ X S4) hV.1 dX0_add_37 (S' := (sA S4 9 (vp_updL (gA S4 9) (gI S4 4).toNatClampNeg (p0 / r3)))) (ls_14 ad cI cJ X S4 (vp_updL (gA S4 9) (gI S4 4).toNatClampNeg (p0 / r3))) (fun S5 H locs eS5 hw => ?_)
      have hV := hV.2 S5 eS5
      refine lv_aload_n C0.x C0.b dX0_add_38 rfl (lv_at hl 1 rfl) ?_
      refine r_get C0 hw (C := RX0) (T := TX0) (N := 3) (v := .ref (ad 15)) iw_X0_add_X0 (lg_13 ad cI cJ X S5) rfl 2 (by decide) (C0.ts _ fw_X0_add_19) rfl dX0_add_39 ?_
      refine lv_aload_n C0.x C0.b dX0_add_42 rfl (lv_at hl 1 rfl) ?_
      refine r_get C0 hw (C := RX0) (T := TX0) (N := 3) (v := .int (gI S5 4)) iw_X0_add_X0 (lg_13 ad cI cJ X S5) rfl 0 (by decide) (C0.ts _ fw_X0_add_9) rfl dX0_add_43 ?_
      refine lv_lload_n C0.x C0.b dX0_add_46 rfl (lv_at hl 3 rfl) ?_
      refine lv_lload C0.x C0.b dX0_add_47 (lv_at hl 0 rfl) ?_
      refine lv_ldiv C0.x C0.b dX0_add_49 hV.1 ?_
      have hV := hV.2
      refine r_last C0 hw (lg_15 ad cI cJ X S5) hV.1 dX0_add_50 (S' := (sA S5 10 (vp_updL (gA S5 10) (gI S5 4).toNatClampNeg (p1 / r3)))) (ls_15 ad cI cJ X S5 (vp_updL (gA S5 10) (gI S5 4).toNatClampNeg (p1 / r3))) (fun S6 H locs eS6 hw => ?_)
      have hV := hV.2 S6 eS6
      refine lv_aload_n C0.x C0.b dX0_add_51 rfl (lv_at hl 1 rfl) ?_
      refine lv_dup C0.x C0.b dX0_add_52 rfl ?_
      refine r_get C0 hw (C := RX0) (T := TX0) (N := 3) (v := .int (gI S6 4)) iw_X0_add_X0 (lg_13 ad cI cJ X S6) rfl 0 (by decide) (C0.ts _ fw_X0_add_9) rfl dX0_add_53 ?_
      refine lv_iconst (v := 1) C0.x C0.b dX0_add_56 (by decide) ?_
      refine lv_iadd C0.x C0.b dX0_add_57 ?_
      refine r_put C0 hw (C := RX0) (T := TX0) (N := 3) (ty := .int) iw_X0_add_X0 tyX0 tyX0_ok nmX0 (lg_13 ad cI cJ X S6) rfl 0 (by decide) (C0.ts _ fw_X0_add_9) rfl (by decide +kernel) rfl rfl (Nat.le_of_ble_eq_true rfl) dX0_add_58 (S' := (sI S6 4 ((gI S6 4) + (1 : Int32)))) (ls_13_0 ad cI cJ X S6 ((gI S6 4) + (1 : Int32))) (fun S7 H locs eS7 hw => ?_)
      have hV := hV S7 eS7
      refine lv_iconst (v := 1) C0.x C0.b dX0_add_61 (by decide) ?_
      exact r_zret C0 rfl bz_1 hw hV dX0_add_62
    · have hV := hV.2 c2
      refine lv_iconst (v := 0) C0.x C0.b dX0_add_16 (by decide) ?_
      exact r_zret C0 rfl bz_0 hw hV dX0_add_17
/-! StepBench$Fractions.over(I)J -/
abbrev rm_X0_over : Room := { frames := 1, cells := 0, slots := 0, locals := 21 }
set_option maxRecDepth 20000 in
theorem fw_X0_over_15 : Cond.fieldLink RX0 15 "StepBench$Fractions" "overs" "[J" ∈ wsX0_over := by decide +kernel
set_option maxRecDepth 20000 in
theorem iw_X0_over_X0 : ∀ w ∈ wsX00, w ∈ wsX0_over := by decide +kernel
set_option maxRecDepth 20000 in
theorem hd_X0_over : yX0_over.cls = RX0 ∧ yX0_over.cls ≠ "java/lang/invoke/MethodHandle" ∧ yX0_over.cls ≠ "java/lang/invoke/VarHandle" ∧ (parseMethodDescriptor yX0_over.desc).map (fun d => d.parameters.length) = some 1 := by decide +kernel
def V_X0_over  (p0 : Int32) (S : SS) (post : Int64 → SS → Prop) : Prop :=
  (V_X0_has p0 S (fun (r1 : Int32) (S2 : SS) => ((r1 = 0 → (post (1 : Int64) S2)) ∧ (¬ r1 = 0 → (vp_in p0 40 ∧ (((gA S2 9 p0.toNatClampNeg) ≤ (1 : Int64) → (post (1 : Int64) S2)) ∧ (¬ (gA S2 9 p0.toNatClampNeg) ≤ (1 : Int64) → (vp_in p0 40 ∧ (post (gA S2 9 p0.toNatClampNeg) S2)))))))))
set_option maxHeartbeats 4000000 in
set_option maxRecDepth 100000 in
theorem c_X0_over  {S : SS} {p0 : Int32} {post : Int64 → SS → Prop} (hV : V_X0_over  p0 S post) : ML l yX0_over wsX0_over rm_X0_over [.ref (ad 13), .int p0] D n0 ad cI cJ X S post := by
  refine Met.ofW (cc := cX0_over) (maxL := 2) (ret := (some .long)) (by decide) rfl ?_
  intro p e s m args below meth c s₁ B hml hv
  obtain ⟨rfl, hv⟩ := hv
  have C0 := Bd.mk B hml (atoms_spec (ws := wsX0_over) B.pre) (findClass_of_methodNamed B.named) hv.1
  have hw : Wh D n0 ad cI cJ X S s s.heap [] := ⟨hv.2.1, hv.2.2, va_S.rf⟩
  refine r_entry (Nat.le_of_ble_eq_true rfl) (fun ls hl => ?_)
  have hl : lv_has ls 2 [(0, .ref (ad 13)), (1, .int p0)] := hl
  unfold V_X0_over at hV
  refine lv_aload_n C0.x C0.b dX0_over_0 rfl (lv_at hl 0 rfl) ?_
  refine lv_iload_n C0.x C0.b dX0_over_1 rfl (lv_at hl 1 rfl) ?_
  refine r_cV_i (As := [.int p0]) (rest := []) C0 hw (c_X0_has  hV) (cwV 1 C0.ts gX0_over_X0_has rfl rfl rfl hd_X0_has ⟨Nat.le_of_ble_eq_true rfl, Nat.le_of_ble_eq_true rfl⟩) (lg_13 ad cI cJ X S) rfl rfl hl.1 rfl (Nat.le_of_ble_eq_true rfl) ⟨Nat.le_of_ble_eq_true rfl, Nat.le_of_ble_eq_true rfl⟩ dX0_over_2 (fun r1 S2 H locs hV hw => ?_)
  refine lv_if_eq (tgt := 28) C0.x C0.b dX0_over_5 (by decide) (fun c3 => ?_) (fun c3 => ?_)
  · have hV := hV.1 c3
    refine lv_lconst (v := 1) C0.x C0.b dX0_over_28 (by decide) ?_
    exact r_lret C0 rfl hw hV dX0_over_29
  · have hV := hV.2 c3
    refine lv_aload_n C0.x C0.b dX0_over_8 rfl (lv_at hl 0 rfl) ?_
    refine r_get C0 hw (C := RX0) (T := TX0) (N := 3) (v := .ref (ad 14)) iw_X0_over_X0 (lg_13 ad cI cJ X S2) rfl 1 (by decide) (C0.ts _ fw_X0_over_15) rfl dX0_over_9 ?_
    refine lv_iload_n C0.x C0.b dX0_over_12 rfl (lv_at hl 1 rfl) ?_
    refine r_lald C0 hw (lg_14 ad cI cJ X S2) hV.1 dX0_over_13 ?_
    have hV := hV.2
    refine lv_lconst (v := 1) C0.x C0.b dX0_over_14 (by decide) ?_
    refine r_lcmp C0 dX0_over_15 ?_
    refine lv_if_le (tgt := 28) C0.x C0.b dX0_over_16 (by decide) (fun c4 => ?_) (fun c4 => ?_)
    · have hV := hV.1 ((lc_le _ _).mp c4)
      refine lv_lconst (v := 1) C0.x C0.b dX0_over_28 (by decide) ?_
      exact r_lret C0 rfl hw hV dX0_over_29
    · have hV := hV.2 (fun h => c4 ((lc_le _ _).mpr h))
      refine lv_aload_n C0.x C0.b dX0_over_19 rfl (lv_at hl 0 rfl) ?_
      refine r_get C0 hw (C := RX0) (T := TX0) (N := 3) (v := .ref (ad 14)) iw_X0_over_X0 (lg_13 ad cI cJ X S2) rfl 1 (by decide) (C0.ts _ fw_X0_over_15) rfl dX0_over_20 ?_
      refine lv_iload_n C0.x C0.b dX0_over_23 rfl (lv_at hl 1 rfl) ?_
      refine r_lald C0 hw (lg_14 ad cI cJ X S2) hV.1 dX0_over_24 ?_
      have hV := hV.2
      refine lv_goto (tgt := 29) C0.x C0.b dX0_over_25 (by decide) ?_
      exact r_lret C0 rfl hw hV dX0_over_29
/-! StepBench$Fractions.under(I)J -/
abbrev rm_X0_under : Room := { frames := 1, cells := 0, slots := 0, locals := 21 }
set_option maxRecDepth 20000 in
theorem fw_X0_under_19 : Cond.fieldLink RX0 19 "StepBench$Fractions" "unders" "[J" ∈ wsX0_under := by decide +kernel
set_option maxRecDepth 20000 in
theorem iw_X0_under_X0 : ∀ w ∈ wsX00, w ∈ wsX0_under := by decide +kernel
set_option maxRecDepth 20000 in
theorem hd_X0_under : yX0_under.cls = RX0 ∧ yX0_under.cls ≠ "java/lang/invoke/MethodHandle" ∧ yX0_under.cls ≠ "java/lang/invoke/VarHandle" ∧ (parseMethodDescriptor yX0_under.desc).map (fun d => d.parameters.length) = some 1 := by decide +kernel
def V_X0_under  (p0 : Int32) (S : SS) (post : Int64 → SS → Prop) : Prop :=
  (V_X0_has p0 S (fun (r1 : Int32) (S2 : SS) => ((r1 = 0 → (post (1 : Int64) S2)) ∧ (¬ r1 = 0 → (vp_in p0 40 ∧ (((gA S2 10 p0.toNatClampNeg) ≤ (1 : Int64) → (post (1 : Int64) S2)) ∧ (¬ (gA S2 10 p0.toNatClampNeg) ≤ (1 : Int64) → (vp_in p0 40 ∧ (post (gA S2 10 p0.toNatClampNeg) S2)))))))))
set_option maxHeartbeats 4000000 in
set_option maxRecDepth 100000 in
theorem c_X0_under  {S : SS} {p0 : Int32} {post : Int64 → SS → Prop} (hV : V_X0_under  p0 S post) : ML l yX0_under wsX0_under rm_X0_under [.ref (ad 13), .int p0] D n0 ad cI cJ X S post := by
  refine Met.ofW (cc := cX0_under) (maxL := 2) (ret := (some .long)) (by decide) rfl ?_
  intro p e s m args below meth c s₁ B hml hv
  obtain ⟨rfl, hv⟩ := hv
  have C0 := Bd.mk B hml (atoms_spec (ws := wsX0_under) B.pre) (findClass_of_methodNamed B.named) hv.1
  have hw : Wh D n0 ad cI cJ X S s s.heap [] := ⟨hv.2.1, hv.2.2, va_S.rf⟩
  refine r_entry (Nat.le_of_ble_eq_true rfl) (fun ls hl => ?_)
  have hl : lv_has ls 2 [(0, .ref (ad 13)), (1, .int p0)] := hl
  unfold V_X0_under at hV
  refine lv_aload_n C0.x C0.b dX0_under_0 rfl (lv_at hl 0 rfl) ?_
  refine lv_iload_n C0.x C0.b dX0_under_1 rfl (lv_at hl 1 rfl) ?_
  refine r_cV_i (As := [.int p0]) (rest := []) C0 hw (c_X0_has  hV) (cwV 1 C0.ts gX0_under_X0_has rfl rfl rfl hd_X0_has ⟨Nat.le_of_ble_eq_true rfl, Nat.le_of_ble_eq_true rfl⟩) (lg_13 ad cI cJ X S) rfl rfl hl.1 rfl (Nat.le_of_ble_eq_true rfl) ⟨Nat.le_of_ble_eq_true rfl, Nat.le_of_ble_eq_true rfl⟩ dX0_under_2 (fun r1 S2 H locs hV hw => ?_)
  refine lv_if_eq (tgt := 28) C0.x C0.b dX0_under_5 (by decide) (fun c3 => ?_) (fun c3 => ?_)
  · have hV := hV.1 c3
    refine lv_lconst (v := 1) C0.x C0.b dX0_under_28 (by decide) ?_
    exact r_lret C0 rfl hw hV dX0_under_29
  · have hV := hV.2 c3
    refine lv_aload_n C0.x C0.b dX0_under_8 rfl (lv_at hl 0 rfl) ?_
    refine r_get C0 hw (C := RX0) (T := TX0) (N := 3) (v := .ref (ad 15)) iw_X0_under_X0 (lg_13 ad cI cJ X S2) rfl 2 (by decide) (C0.ts _ fw_X0_under_19) rfl dX0_under_9 ?_
    refine lv_iload_n C0.x C0.b dX0_under_12 rfl (lv_at hl 1 rfl) ?_
    refine r_lald C0 hw (lg_15 ad cI cJ X S2) hV.1 dX0_under_13 ?_
    have hV := hV.2
    refine lv_lconst (v := 1) C0.x C0.b dX0_under_14 (by decide) ?_
    refine r_lcmp C0 dX0_under_15 ?_
    refine lv_if_le (tgt := 28) C0.x C0.b dX0_under_16 (by decide) (fun c4 => ?_) (fun c4 => ?_)
    · have hV := hV.1 ((lc_le _ _).mp c4)
      refine lv_lconst (v := 1) C0.x C0.b dX0_under_28 (by decide) ?_
      exact r_lret C0 rfl hw hV dX0_under_29
    · have hV := hV.2 (fun h => c4 ((lc_le _ _).mpr h))
      refine lv_aload_n C0.x C0.b dX0_under_19 rfl (lv_at hl 0 rfl) ?_
      refine r_get C0 hw (C := RX0) (T := TX0) (N := 3) (v := .ref (ad 15)) iw_X0_under_X0 (lg_13 ad cI cJ X S2) rfl 2 (by decide) (C0.ts _ fw_X0_under_19) rfl dX0_under_20 ?_
      refine lv_iload_n C0.x C0.b dX0_under_23 rfl (lv_at hl 1 rfl) ?_
      refine r_lald C0 hw (lg_15 ad cI cJ X S2) hV.1 dX0_under_24 ?_
      have hV := hV.2
      refine lv_goto (tgt := 29) C0.x C0.b dX0_under_25 (by decide) ?_
      exact r_lret C0 rfl hw hV dX0_under_29
/-! StepBench$Fractions.firstFit(J)I -/
abbrev rm_X0_firstFit : Room := { frames := 2, cells := 0, slots := 0, locals := 42 }
set_option maxRecDepth 20000 in
theorem fw_X0_firstFit_9 : Cond.fieldLink RX0 9 "StepBench$Fractions" "size" "I" ∈ wsX0_firstFit := by decide +kernel
set_option maxRecDepth 20000 in
theorem iw_X0_firstFit_X0 : ∀ w ∈ wsX00, w ∈ wsX0_firstFit := by decide +kernel
set_option maxRecDepth 20000 in
theorem hd_X0_firstFit : yX0_firstFit.cls = RX0 ∧ yX0_firstFit.cls ≠ "java/lang/invoke/MethodHandle" ∧ yX0_firstFit.cls ≠ "java/lang/invoke/VarHandle" ∧ (parseMethodDescriptor yX0_firstFit.desc).map (fun d => d.parameters.length) = some 1 := by decide +kernel
def V_X0_firstFit_10  (v1 : Int64)  (post : Int32 → SS → Prop) : Nat → Int32 → SS → Prop
  | 0, _, _ => False
  | n + 1, v3, S =>
    (((gI S 4) ≤ v3 → (post (-1 : Int32) S)) ∧ (¬ (gI S 4) ≤ v3 → (V_X0_under v3 S (fun (r3 : Int64) (S4 : SS) => (¬ r3 = 0 ∧ (((lrm v1 r3) = (0 : Int64) → (post v3 S4)) ∧ (¬ (lrm v1 r3) = (0 : Int64) → (∀ x6 : Int32, x6 = v3 + 1 → (V_X0_firstFit_10  v1  post n x6 S4)))))))))
set_option maxHeartbeats 4000000 in
set_option maxRecDepth 100000 in
theorem lp_X0_firstFit_10  (v1 : Int64)  (post : Int32 → SS → Prop) (C0 : Bd p s m meth c args cX0_firstFit 4 (some .int) wsX0_firstFit RX0 D n0 cI cJ) : ∀ (n : Nat) (v3 : Int32) (S : SS), V_X0_firstFit_10  v1  post n v3 S → ∀ (H : Heap) (locs : List Loc), Wh D n0 ad cI cJ X S s H locs → ∀ ls : Array Slot, lv_has ls 4 [(0, .ref (ad 13)), (1, .long v1), (3, .int v3)] → W p l e rm_X0_firstFit s m args below meth c H locs 0 0 (MQ below (va_Qi post (fun S' t => Wd D n0 ad cI cJ X S' t) (fr n0)) args s 0 0 (fr n0)) (F0 m 10 ls []) := by
  intro n
  induction n with
  | zero => intro v3 S hV; exact False.elim hV
  | succ n ih =>
    intro v3 S hV H locs hw ls hl
    rw [V_X0_firstFit_10] at hV
    refine lv_iload_n C0.x C0.b dX0_firstFit_10 rfl (lv_at hl 2 rfl) ?_
    refine lv_aload_n C0.x C0.b dX0_firstFit_11 rfl (lv_at hl 0 rfl) ?_
    refine r_get C0 hw (C := RX0) (T := TX0) (N := 3) (v := .int (gI S 4)) iw_X0_firstFit_X0 (lg_13 ad cI cJ X S) rfl 0 (by decide) (C0.ts _ fw_X0_firstFit_9) rfl dX0_firstFit_12 ?_
    refine lv_icmp_ge (tgt := 38) C0.x C0.b dX0_firstFit_15 (by decide) (fun c2 => ?_) (fun c2 => ?_)
    · have hV := hV.1 c2
      refine lv_iconst (v := -1) C0.x C0.b dX0_firstFit_38 (by decide) ?_
      exact r_iret C0 rfl hw hV dX0_firstFit_39
    · have hV := hV.2 c2
      refine lv_lload_n C0.x C0.b dX0_firstFit_18 rfl (lv_at hl 1 rfl) ?_
      refine lv_aload_n C0.x C0.b dX0_firstFit_19 rfl (lv_at hl 0 rfl) ?_
      refine lv_iload_n C0.x C0.b dX0_firstFit_20 rfl (lv_at hl 2 rfl) ?_
      refine r_cV_l (As := [.int v3]) (rest := [.long v1]) C0 hw (c_X0_under  hV) (cwV 1 C0.ts gX0_firstFit_X0_under rfl rfl rfl hd_X0_under ⟨Nat.le_of_ble_eq_true rfl, Nat.le_of_ble_eq_true rfl⟩) (lg_13 ad cI cJ X S) rfl rfl hl.1 rfl (Nat.le_of_ble_eq_true rfl) ⟨Nat.le_of_ble_eq_true rfl, Nat.le_of_ble_eq_true rfl⟩ dX0_firstFit_21 (fun r3 S4 H locs hV hw => ?_)
      refine lv_lrem C0.x C0.b dX0_firstFit_24 hV.1 ?_
      have hV := hV.2
      refine lv_lconst (v := 0) C0.x C0.b dX0_firstFit_25 (by decide) ?_
      refine r_lcmp C0 dX0_firstFit_26 ?_
      refine lv_if_ne (tgt := 32) C0.x C0.b dX0_firstFit_27 (by decide) (fun c5 => ?_) (fun c5 => ?_)
      · have hV := hV.2 (fun h => c5 ((lc_eq _ _).mpr h))
        obtain ⟨x6, ex6⟩ : ∃ z : Int32, z = v3 + 1 := ⟨_, rfl⟩
        have hV := hV x6 ex6
        refine lv_iinc (v := x6) (lv' := [(3, .int x6), (0, .ref (ad 13)), (1, .long v1)]) C0.x C0.b dX0_firstFit_32 hl (k := 2) rfl (by rw [ex6]; rfl) (by decide) rfl (fun ls hl => ?_)
        refine lv_goto (tgt := 10) C0.x C0.b dX0_firstFit_35 (by decide) ?_
        exact ih _ _ hV _ _ hw _ (lv_sub hl [1, 2, 0] rfl)
      · have hV := hV.1 ((lc_eq _ _).mp c5)
        refine lv_iload_n C0.x C0.b dX0_firstFit_30 rfl (lv_at hl 2 rfl) ?_
        exact r_iret C0 rfl hw hV dX0_firstFit_31
def V_X0_firstFit  (p0 : Int64) (S : SS) (post : Int32 → SS → Prop) : Prop :=
  (((1 : Int64) ≤ p0 → (∃ n10 : Nat, V_X0_firstFit_10  p0  post n10 (0 : Int32) S)) ∧ (¬ (1 : Int64) ≤ p0 → (post (-1 : Int32) S)))
set_option maxHeartbeats 4000000 in
set_option maxRecDepth 100000 in
theorem c_X0_firstFit  {S : SS} {p0 : Int64} {post : Int32 → SS → Prop} (hV : V_X0_firstFit  p0 S post) : MI l yX0_firstFit wsX0_firstFit rm_X0_firstFit [.ref (ad 13), .long p0] D n0 ad cI cJ X S post := by
  refine Met.ofW (cc := cX0_firstFit) (maxL := 4) (ret := (some .int)) (by decide) rfl ?_
  intro p e s m args below meth c s₁ B hml hv
  obtain ⟨rfl, hv⟩ := hv
  have C0 := Bd.mk B hml (atoms_spec (ws := wsX0_firstFit) B.pre) (findClass_of_methodNamed B.named) hv.1
  have hw : Wh D n0 ad cI cJ X S s s.heap [] := ⟨hv.2.1, hv.2.2, va_S.rf⟩
  refine r_entry (Nat.le_of_ble_eq_true rfl) (fun ls hl => ?_)
  have hl : lv_has ls 4 [(0, .ref (ad 13)), (1, .long p0)] := hl
  unfold V_X0_firstFit at hV
  refine lv_lload_n C0.x C0.b dX0_firstFit_0 rfl (lv_at hl 1 rfl) ?_
  refine lv_lconst (v := 1) C0.x C0.b dX0_firstFit_1 (by decide) ?_
  refine r_lcmp C0 dX0_firstFit_2 ?_
  refine lv_if_ge (tgt := 8) C0.x C0.b dX0_firstFit_3 (by decide) (fun c1 => ?_) (fun c1 => ?_)
  · have hV := hV.1 ((lc_ge _ _).mp c1)
    refine lv_iconst (v := 0) C0.x C0.b dX0_firstFit_8 (by decide) ?_
    refine lv_istore_n (lv' := [(3, .int (0 : Int32)), (0, .ref (ad 13)), (1, .long p0)]) C0.x C0.b dX0_firstFit_9 rfl hl (by decide) rfl (fun ls hl => ?_)
    obtain ⟨n10, hV⟩ := hV
    exact lp_X0_firstFit_10  _ post C0  n10 _ _ hV _ _ hw _ (lv_sub hl [1, 2, 0] rfl)
  · have hV := hV.2 (fun h => c1 ((lc_ge _ _).mpr h))
    refine lv_iconst (v := -1) C0.x C0.b dX0_firstFit_6 (by decide) ?_
    exact r_iret C0 rfl hw hV dX0_firstFit_7
/-! StepBench$Fractions.after(J)J -/
abbrev rm_X0_after : Room := { frames := 3, cells := 0, slots := 0, locals := 65 }
set_option maxRecDepth 20000 in
theorem cw_X0_after_40 : Cond.constantLong RX0 40 1000000000000000 ∈ wsX0_after := by decide +kernel
set_option maxRecDepth 20000 in
theorem cw_X0_after_45 : Cond.constantLong RX0 45 3000000000000000 ∈ wsX0_after := by decide +kernel
set_option maxRecDepth 20000 in
theorem cw_X0_after_38 : Cond.constantLong RX0 38 2000000000000000 ∈ wsX0_after := by decide +kernel
set_option maxRecDepth 20000 in
theorem hd_X0_after : yX0_after.cls = RX0 ∧ yX0_after.cls ≠ "java/lang/invoke/MethodHandle" ∧ yX0_after.cls ≠ "java/lang/invoke/VarHandle" ∧ (parseMethodDescriptor yX0_after.desc).map (fun d => d.parameters.length) = some 1 := by decide +kernel
def V_X0_after  (p0 : Int64) (S : SS) (post : Int64 → SS → Prop) : Prop :=
  (V_X0_firstFit p0 S (fun (r1 : Int32) (S2 : SS) => ((0 ≤ r1 → (V_X0_under r1 S2 (fun (r4 : Int64) (S5 : SS) => (¬ r4 = 0 ∧ (∀ y6 : Int64, y6 = (p0 / r4) → (V_X0_over r1 S5 (fun (r7 : Int64) (S8 : SS) => (¬ r7 = 0 ∧ ((y6 ≤ ((1000000000000000 : Int64) / r7) → (V_X0_over r1 S8 (fun (r10 : Int64) (S11 : SS) => (post (y6 * r10) S11)))) ∧ (¬ y6 ≤ ((1000000000000000 : Int64) / r7) → (post (3000000000000000 : Int64) S8))))))))))) ∧ (¬ 0 ≤ r1 → (post (2000000000000000 : Int64) S2)))))
set_option maxHeartbeats 4000000 in
set_option maxRecDepth 100000 in
theorem c_X0_after  {S : SS} {p0 : Int64} {post : Int64 → SS → Prop} (hV : V_X0_after  p0 S post) : ML l yX0_after wsX0_after rm_X0_after [.ref (ad 13), .long p0] D n0 ad cI cJ X S post := by
  refine Met.ofW (cc := cX0_after) (maxL := 6) (ret := (some .long)) (by decide) rfl ?_
  intro p e s m args below meth c s₁ B hml hv
  obtain ⟨rfl, hv⟩ := hv
  have C0 := Bd.mk B hml (atoms_spec (ws := wsX0_after) B.pre) (findClass_of_methodNamed B.named) hv.1
  have hw : Wh D n0 ad cI cJ X S s s.heap [] := ⟨hv.2.1, hv.2.2, va_S.rf⟩
  refine r_entry (Nat.le_of_ble_eq_true rfl) (fun ls hl => ?_)
  have hl : lv_has ls 6 [(0, .ref (ad 13)), (1, .long p0)] := hl
  unfold V_X0_after at hV
  refine lv_aload_n C0.x C0.b dX0_after_0 rfl (lv_at hl 0 rfl) ?_
  refine lv_lload_n C0.x C0.b dX0_after_1 rfl (lv_at hl 1 rfl) ?_
  refine r_cV_i (As := [.long p0]) (rest := []) C0 hw (c_X0_firstFit  hV) (cwV 1 C0.ts gX0_after_X0_firstFit rfl rfl rfl hd_X0_firstFit ⟨Nat.le_of_ble_eq_true rfl, Nat.le_of_ble_eq_true rfl⟩) (lg_13 ad cI cJ X S) rfl rfl hl.1 rfl (Nat.le_of_ble_eq_true rfl) ⟨Nat.le_of_ble_eq_true rfl, Nat.le_of_ble_eq_true rfl⟩ dX0_after_2 (fun r1 S2 H locs hV hw => ?_)
  refine lv_istore_n (lv' := [(3, .int r1), (0, .ref (ad 13)), (1, .long p0)]) C0.x C0.b dX0_after_5 rfl hl (by decide) rfl (fun ls hl => ?_)
  refine lv_iload_n C0.x C0.b dX0_after_6 rfl (lv_at hl 0 rfl) ?_
  refine lv_if_ge (tgt := 14) C0.x C0.b dX0_after_7 (by decide) (fun c3 => ?_) (fun c3 => ?_)
  · have hV := hV.1 c3
    refine lv_lload_n C0.x C0.b dX0_after_14 rfl (lv_at hl 2 rfl) ?_
    refine lv_aload_n C0.x C0.b dX0_after_15 rfl (lv_at hl 1 rfl) ?_
    refine lv_iload_n C0.x C0.b dX0_after_16 rfl (lv_at hl 0 rfl) ?_
    refine r_cV_l (As := [.int r1]) (rest := [.long p0]) C0 hw (c_X0_under  hV) (cwV 1 C0.ts gX0_after_X0_under rfl rfl rfl hd_X0_under ⟨Nat.le_of_ble_eq_true rfl, Nat.le_of_ble_eq_true rfl⟩) (lg_13 ad cI cJ X S2) rfl rfl hl.1 rfl (Nat.le_of_ble_eq_true rfl) ⟨Nat.le_of_ble_eq_true rfl, Nat.le_of_ble_eq_true rfl⟩ dX0_after_17 (fun r4 S5 H locs hV hw => ?_)
    refine lv_ldiv C0.x C0.b dX0_after_20 hV.1 ?_
    have hV := hV.2
    refine lv_topl (fun y6 ey6 => ?_)
    have hV := hV y6 ey6
    refine lv_lstore (lv' := [(4, .long y6), (3, .int r1), (0, .ref (ad 13)), (1, .long p0)]) C0.x C0.b dX0_after_21 hl (by decide) rfl (fun ls hl => ?_)
    refine lv_lload C0.x C0.b dX0_after_23 (lv_at hl 0 rfl) ?_
    refine lv_ldc2 (v := 1000000000000000) C0.x C0.b C0.ow (C0.ts _ cw_X0_after_40) dX0_after_25 ?_
    refine lv_aload_n C0.x C0.b dX0_after_28 rfl (lv_at hl 2 rfl) ?_
    refine lv_iload_n C0.x C0.b dX0_after_29 rfl (lv_at hl 1 rfl) ?_
    refine r_cV_l (As := [.int r1]) (rest := [.long (1000000000000000 : Int64), .long y6]) C0 hw (c_X0_over  hV) (cwV 1 C0.ts gX0_after_X0_over rfl rfl rfl hd_X0_over ⟨Nat.le_of_ble_eq_true rfl, Nat.le_of_ble_eq_true rfl⟩) (lg_13 ad cI cJ X S5) rfl rfl hl.1 rfl (Nat.le_of_ble_eq_true rfl) ⟨Nat.le_of_ble_eq_true rfl, Nat.le_of_ble_eq_true rfl⟩ dX0_after_30 (fun r7 S8 H locs hV hw => ?_)
    refine lv_ldiv C0.x C0.b dX0_after_33 hV.1 ?_
    have hV := hV.2
    refine r_lcmp C0 dX0_after_34 ?_
    refine lv_if_le (tgt := 44) C0.x C0.b dX0_after_35 (by decide) (fun c9 => ?_) (fun c9 => ?_)
    · have hV := hV.1 ((lc_le _ _).mp c9)
      refine lv_lload C0.x C0.b dX0_after_44 (lv_at hl 0 rfl) ?_
      refine lv_aload_n C0.x C0.b dX0_after_46 rfl (lv_at hl 2 rfl) ?_
      refine lv_iload_n C0.x C0.b dX0_after_47 rfl (lv_at hl 1 rfl) ?_
      refine r_cV_l (As := [.int r1]) (rest := [.long y6]) C0 hw (c_X0_over  hV) (cwV 1 C0.ts gX0_after_X0_over rfl rfl rfl hd_X0_over ⟨Nat.le_of_ble_eq_true rfl, Nat.le_of_ble_eq_true rfl⟩) (lg_13 ad cI cJ X S8) rfl rfl hl.1 rfl (Nat.le_of_ble_eq_true rfl) ⟨Nat.le_of_ble_eq_true rfl, Nat.le_of_ble_eq_true rfl⟩ dX0_after_48 (fun r10 S11 H locs hV hw => ?_)
      refine lv_lmul C0.x C0.b dX0_after_51 ?_
      exact r_lret C0 rfl hw hV dX0_after_52
    · have hV := hV.2 (fun h => c9 ((lc_le _ _).mpr h))
      refine lv_ldc2 (v := 3000000000000000) C0.x C0.b C0.ow (C0.ts _ cw_X0_after_45) dX0_after_38 ?_
      refine lv_goto (tgt := 52) C0.x C0.b dX0_after_41 (by decide) ?_
      exact r_lret C0 rfl hw hV dX0_after_52
  · have hV := hV.2 c3
    refine lv_ldc2 (v := 2000000000000000) C0.x C0.b C0.ow (C0.ts _ cw_X0_after_38) dX0_after_10 ?_
    exact r_lret C0 rfl hw hV dX0_after_13
/-! StepBench$Fractions.isEverFirst(I)Z -/
abbrev rm_X0_isEverFirst : Room := { frames := 3, cells := 0, slots := 0, locals := 65 }
set_option maxRecDepth 20000 in
theorem hd_X0_isEverFirst : yX0_isEverFirst.cls = RX0 ∧ yX0_isEverFirst.cls ≠ "java/lang/invoke/MethodHandle" ∧ yX0_isEverFirst.cls ≠ "java/lang/invoke/VarHandle" ∧ (parseMethodDescriptor yX0_isEverFirst.desc).map (fun d => d.parameters.length) = some 1 := by decide +kernel
def V_X0_isEverFirst  (p0 : Int32) (S : SS) (post : Int32 → SS → Prop) : Prop :=
  (V_X0_under p0 S (fun (r1 : Int64) (S2 : SS) => (V_X0_firstFit r1 S2 (fun (r3 : Int32) (S4 : SS) => ((r3 = p0 → (post (1 : Int32) S4)) ∧ (¬ r3 = p0 → (post (0 : Int32) S4)))))))
set_option maxHeartbeats 4000000 in
set_option maxRecDepth 100000 in
theorem c_X0_isEverFirst  {S : SS} {p0 : Int32} {post : Int32 → SS → Prop} (hV : V_X0_isEverFirst  p0 S post) : MI l yX0_isEverFirst wsX0_isEverFirst rm_X0_isEverFirst [.ref (ad 13), .int p0] D n0 ad cI cJ X S post := by
  refine Met.ofW (cc := cX0_isEverFirst) (maxL := 2) (ret := (some .boolean)) (by decide) rfl ?_
  intro p e s m args below meth c s₁ B hml hv
  obtain ⟨rfl, hv⟩ := hv
  have C0 := Bd.mk B hml (atoms_spec (ws := wsX0_isEverFirst) B.pre) (findClass_of_methodNamed B.named) hv.1
  have hw : Wh D n0 ad cI cJ X S s s.heap [] := ⟨hv.2.1, hv.2.2, va_S.rf⟩
  refine r_entry (Nat.le_of_ble_eq_true rfl) (fun ls hl => ?_)
  have hl : lv_has ls 2 [(0, .ref (ad 13)), (1, .int p0)] := hl
  unfold V_X0_isEverFirst at hV
  refine lv_aload_n C0.x C0.b dX0_isEverFirst_0 rfl (lv_at hl 0 rfl) ?_
  refine lv_aload_n C0.x C0.b dX0_isEverFirst_1 rfl (lv_at hl 0 rfl) ?_
  refine lv_iload_n C0.x C0.b dX0_isEverFirst_2 rfl (lv_at hl 1 rfl) ?_
  refine r_cV_l (As := [.int p0]) (rest := [.ref (ad 13)]) C0 hw (c_X0_under  hV) (cwV 1 C0.ts gX0_isEverFirst_X0_under rfl rfl rfl hd_X0_under ⟨Nat.le_of_ble_eq_true rfl, Nat.le_of_ble_eq_true rfl⟩) (lg_13 ad cI cJ X S) rfl rfl hl.1 rfl (Nat.le_of_ble_eq_true rfl) ⟨Nat.le_of_ble_eq_true rfl, Nat.le_of_ble_eq_true rfl⟩ dX0_isEverFirst_3 (fun r1 S2 H locs hV hw => ?_)
  refine r_cV_i (As := [.long r1]) (rest := []) C0 hw (c_X0_firstFit  hV) (cwV 1 C0.ts gX0_isEverFirst_X0_firstFit rfl rfl rfl hd_X0_firstFit ⟨Nat.le_of_ble_eq_true rfl, Nat.le_of_ble_eq_true rfl⟩) (lg_13 ad cI cJ X S2) rfl rfl hl.1 rfl (Nat.le_of_ble_eq_true rfl) ⟨Nat.le_of_ble_eq_true rfl, Nat.le_of_ble_eq_true rfl⟩ dX0_isEverFirst_6 (fun r3 S4 H locs hV hw => ?_)
  refine lv_iload_n C0.x C0.b dX0_isEverFirst_9 rfl (lv_at hl 1 rfl) ?_
  refine lv_icmp_ne (tgt := 17) C0.x C0.b dX0_isEverFirst_10 (by decide) (fun c5 => ?_) (fun c5 => ?_)
  · have hV := hV.2 c5
    refine lv_iconst (v := 0) C0.x C0.b dX0_isEverFirst_17 (by decide) ?_
    exact r_zret C0 rfl bz_0 hw hV dX0_isEverFirst_18
  · have hV := hV.1 c5
    refine lv_iconst (v := 1) C0.x C0.b dX0_isEverFirst_13 (by decide) ?_
    refine lv_goto (tgt := 18) C0.x C0.b dX0_isEverFirst_14 (by decide) ?_
    exact r_zret C0 rfl bz_1 hw hV dX0_isEverFirst_18
/-! StepBench$Numbers.size()I -/
abbrev rm_X2_size : Room := { frames := 0, cells := 0, slots := 0, locals := 0 }
set_option maxRecDepth 20000 in
theorem fw_X2_size_7 : Cond.fieldLink RX2 7 "StepBench$Numbers" "size" "I" ∈ wsX2_size := by decide +kernel
set_option maxRecDepth 20000 in
theorem iw_X2_size_X2 : ∀ w ∈ wsX20, w ∈ wsX2_size := by decide +kernel
set_option maxRecDepth 20000 in
theorem hd_X2_size : yX2_size.cls = RX2 ∧ yX2_size.cls ≠ "java/lang/invoke/MethodHandle" ∧ yX2_size.cls ≠ "java/lang/invoke/VarHandle" ∧ (parseMethodDescriptor yX2_size.desc).map (fun d => d.parameters.length) = some 0 := by decide +kernel
def V_X2_size (si ai L : Nat)  (S : SS) (post : Int32 → SS → Prop) : Prop :=
  (post (gI S si) S)
set_option maxHeartbeats 4000000 in
set_option maxRecDepth 100000 in
theorem c_X2_size {po pa si ai L : Nat} (hO : lnN ad cI cJ X po pa si ai L) {S : SS}  {post : Int32 → SS → Prop} (hV : V_X2_size si ai L  S post) : MI l yX2_size wsX2_size rm_X2_size [.ref (ad po)] D n0 ad cI cJ X S post := by
  refine Met.ofW (cc := cX2_size) (maxL := 1) (ret := (some .int)) (by decide) rfl ?_
  intro p e s m args below meth c s₁ B hml hv
  obtain ⟨rfl, hv⟩ := hv
  have C0 := Bd.mk B hml (atoms_spec (ws := wsX2_size) B.pre) (findClass_of_methodNamed B.named) hv.1
  have hw : Wh D n0 ad cI cJ X S s s.heap [] := ⟨hv.2.1, hv.2.2, va_S.rf⟩
  refine r_entry (Nat.le_of_ble_eq_true rfl) (fun ls hl => ?_)
  have hl : lv_has ls 1 [(0, .ref (ad po))] := hl
  unfold V_X2_size at hV
  refine lv_aload_n C0.x C0.b dX2_size_0 rfl (lv_at hl 0 rfl) ?_
  refine r_get C0 hw (C := RX2) (T := TX2) (N := 2) (v := .int (gI S si)) iw_X2_size_X2 (hO S).1 rfl 1 (by decide) (C0.ts _ fw_X2_size_7) rfl dX2_size_1 ?_
  exact r_iret C0 rfl hw hV dX2_size_4
/-! StepBench$Machine.size()I -/
abbrev rm_X1_size : Room := { frames := 1, cells := 0, slots := 0, locals := 20 }
set_option maxRecDepth 20000 in
theorem fw_X1_size_14 : Cond.fieldLink RX1 14 "StepBench$Machine" "kinds" "LStepBench$Numbers;" ∈ wsX1_size := by decide +kernel
set_option maxRecDepth 20000 in
theorem iw_X1_size_X1 : ∀ w ∈ wsX10, w ∈ wsX1_size := by decide +kernel
set_option maxRecDepth 20000 in
theorem hd_X1_size : yX1_size.cls = RX1 ∧ yX1_size.cls ≠ "java/lang/invoke/MethodHandle" ∧ yX1_size.cls ≠ "java/lang/invoke/VarHandle" ∧ (parseMethodDescriptor yX1_size.desc).map (fun d => d.parameters.length) = some 0 := by decide +kernel
def V_X1_size   (S : SS) (post : Int32 → SS → Prop) : Prop :=
  (V_X2_size 12 22 12 S (fun (r1 : Int32) (S2 : SS) => (post r1 S2)))
set_option maxHeartbeats 4000000 in
set_option maxRecDepth 100000 in
theorem c_X1_size  {S : SS}  {post : Int32 → SS → Prop} (hV : V_X1_size   S post) : MI l yX1_size wsX1_size rm_X1_size [.ref (ad 37)] D n0 ad cI cJ X S post := by
  refine Met.ofW (cc := cX1_size) (maxL := 1) (ret := (some .int)) (by decide) rfl ?_
  intro p e s m args below meth c s₁ B hml hv
  obtain ⟨rfl, hv⟩ := hv
  have C0 := Bd.mk B hml (atoms_spec (ws := wsX1_size) B.pre) (findClass_of_methodNamed B.named) hv.1
  have hw : Wh D n0 ad cI cJ X S s s.heap [] := ⟨hv.2.1, hv.2.2, va_S.rf⟩
  refine r_entry (Nat.le_of_ble_eq_true rfl) (fun ls hl => ?_)
  have hl : lv_has ls 1 [(0, .ref (ad 37))] := hl
  unfold V_X1_size at hV
  refine lv_aload_n C0.x C0.b dX1_size_0 rfl (lv_at hl 0 rfl) ?_
  refine r_get C0 hw (C := RX1) (T := TX1) (N := 6) (v := .ref (ad 38)) iw_X1_size_X1 (lg_37 ad cI cJ X S) rfl 0 (by decide) (C0.ts _ fw_X1_size_14) rfl dX1_size_1 ?_
  refine r_cV_i (As := []) (rest := []) C0 hw (c_X2_size (ln_38 ad cI cJ X) hV) (cwV 0 C0.ts gX1_size_X2_size rfl rfl rfl hd_X2_size ⟨Nat.le_of_ble_eq_true rfl, Nat.le_of_ble_eq_true rfl⟩) (lg_38 ad cI cJ X S) rfl rfl hl.1 rfl (Nat.le_of_ble_eq_true rfl) ⟨Nat.le_of_ble_eq_true rfl, Nat.le_of_ble_eq_true rfl⟩ dX1_size_4 (fun r1 S2 H locs hV hw => ?_)
  exact r_iret C0 rfl hw hV dX1_size_7
/-! StepBench$Numbers.empty()V -/
abbrev rm_X2_empty : Room := { frames := 0, cells := 0, slots := 0, locals := 0 }
set_option maxRecDepth 20000 in
theorem fw_X2_empty_7 : Cond.fieldLink RX2 7 "StepBench$Numbers" "size" "I" ∈ wsX2_empty := by decide +kernel
set_option maxRecDepth 20000 in
theorem iw_X2_empty_X2 : ∀ w ∈ wsX20, w ∈ wsX2_empty := by decide +kernel
set_option maxRecDepth 20000 in
theorem hd_X2_empty : yX2_empty.cls = RX2 ∧ yX2_empty.cls ≠ "java/lang/invoke/MethodHandle" ∧ yX2_empty.cls ≠ "java/lang/invoke/VarHandle" ∧ (parseMethodDescriptor yX2_empty.desc).map (fun d => d.parameters.length) = some 0 := by decide +kernel
def V_X2_empty (si ai L : Nat)  (S : SS) (post : SS → Prop) : Prop :=
  (∀ S1 : SS, S1 = (sI S si (0 : Int32)) → (post S1))
set_option maxHeartbeats 4000000 in
set_option maxRecDepth 100000 in
theorem c_X2_empty {po pa si ai L : Nat} (hO : lnN ad cI cJ X po pa si ai L) {S : SS}  {post : SS → Prop} (hV : V_X2_empty si ai L  S post) : MV l yX2_empty wsX2_empty rm_X2_empty [.ref (ad po)] D n0 ad cI cJ X S post := by
  refine Met.ofW (cc := cX2_empty) (maxL := 1) (ret := none) (by decide) rfl ?_
  intro p e s m args below meth c s₁ B hml hv
  obtain ⟨rfl, hv⟩ := hv
  have C0 := Bd.mk B hml (atoms_spec (ws := wsX2_empty) B.pre) (findClass_of_methodNamed B.named) hv.1
  have hw : Wh D n0 ad cI cJ X S s s.heap [] := ⟨hv.2.1, hv.2.2, va_S.rf⟩
  refine r_entry (Nat.le_of_ble_eq_true rfl) (fun ls hl => ?_)
  have hl : lv_has ls 1 [(0, .ref (ad po))] := hl
  unfold V_X2_empty at hV
  refine lv_aload_n C0.x C0.b dX2_empty_0 rfl (lv_at hl 0 rfl) ?_
  refine lv_iconst (v := 0) C0.x C0.b dX2_empty_1 (by decide) ?_
  refine r_put C0 hw (C := RX2) (T := TX2) (N := 2) (ty := .int) iw_X2_empty_X2 tyX2 tyX2_ok nmX2 (hO S).1 rfl 1 (by decide) (C0.ts _ fw_X2_empty_7) rfl (by decide +kernel) rfl rfl (Nat.le_of_ble_eq_true rfl) dX2_empty_2 (S' := (sI S si (0 : Int32))) ((hO S).2.2.1 (0 : Int32)) (fun S1 H locs eS1 hw => ?_)
  have hV := hV S1 eS1
  exact r_vret C0 rfl hw hV dX2_empty_5
/-! StepBench$Machine.empty()V -/
abbrev rm_X1_empty : Room := { frames := 1, cells := 0, slots := 0, locals := 20 }
set_option maxRecDepth 20000 in
theorem fw_X1_empty_14 : Cond.fieldLink RX1 14 "StepBench$Machine" "kinds" "LStepBench$Numbers;" ∈ wsX1_empty := by decide +kernel
set_option maxRecDepth 20000 in
theorem iw_X1_empty_X1 : ∀ w ∈ wsX10, w ∈ wsX1_empty := by decide +kernel
set_option maxRecDepth 20000 in
theorem fw_X1_empty_20 : Cond.fieldLink RX1 20 "StepBench$Machine" "heapsOf" "LStepBench$Numbers;" ∈ wsX1_empty := by decide +kernel
set_option maxRecDepth 20000 in
theorem fw_X1_empty_23 : Cond.fieldLink RX1 23 "StepBench$Machine" "nexts" "LStepBench$Numbers;" ∈ wsX1_empty := by decide +kernel
set_option maxRecDepth 20000 in
theorem fw_X1_empty_26 : Cond.fieldLink RX1 26 "StepBench$Machine" "otherwises" "LStepBench$Numbers;" ∈ wsX1_empty := by decide +kernel
set_option maxRecDepth 20000 in
theorem hd_X1_empty : yX1_empty.cls = RX1 ∧ yX1_empty.cls ≠ "java/lang/invoke/MethodHandle" ∧ yX1_empty.cls ≠ "java/lang/invoke/VarHandle" ∧ (parseMethodDescriptor yX1_empty.desc).map (fun d => d.parameters.length) = some 0 := by decide +kernel
def V_X1_empty   (S : SS) (post : SS → Prop) : Prop :=
  (V_X2_empty 12 22 12 S (fun (S2 : SS) => (V_X2_empty 13 23 12 S2 (fun (S4 : SS) => (V_X2_empty 14 24 12 S4 (fun (S6 : SS) => (V_X2_empty 15 25 12 S6 (fun (S8 : SS) => (post S8)))))))))
set_option maxHeartbeats 4000000 in
set_option maxRecDepth 100000 in
theorem c_X1_empty  {S : SS}  {post : SS → Prop} (hV : V_X1_empty   S post) : MV l yX1_empty wsX1_empty rm_X1_empty [.ref (ad 37)] D n0 ad cI cJ X S post := by
  refine Met.ofW (cc := cX1_empty) (maxL := 1) (ret := none) (by decide) rfl ?_
  intro p e s m args below meth c s₁ B hml hv
  obtain ⟨rfl, hv⟩ := hv
  have C0 := Bd.mk B hml (atoms_spec (ws := wsX1_empty) B.pre) (findClass_of_methodNamed B.named) hv.1
  have hw : Wh D n0 ad cI cJ X S s s.heap [] := ⟨hv.2.1, hv.2.2, va_S.rf⟩
  refine r_entry (Nat.le_of_ble_eq_true rfl) (fun ls hl => ?_)
  have hl : lv_has ls 1 [(0, .ref (ad 37))] := hl
  unfold V_X1_empty at hV
  refine lv_aload_n C0.x C0.b dX1_empty_0 rfl (lv_at hl 0 rfl) ?_
  refine r_get C0 hw (C := RX1) (T := TX1) (N := 6) (v := .ref (ad 38)) iw_X1_empty_X1 (lg_37 ad cI cJ X S) rfl 0 (by decide) (C0.ts _ fw_X1_empty_14) rfl dX1_empty_1 ?_
  refine r_cV_v (As := []) (rest := []) C0 hw (c_X2_empty (ln_38 ad cI cJ X) hV) (cwV 0 C0.ts gX1_empty_X2_empty rfl rfl rfl hd_X2_empty ⟨Nat.le_of_ble_eq_true rfl, Nat.le_of_ble_eq_true rfl⟩) (lg_38 ad cI cJ X S) rfl rfl hl.1 rfl (Nat.le_of_ble_eq_true rfl) ⟨Nat.le_of_ble_eq_true rfl, Nat.le_of_ble_eq_true rfl⟩ dX1_empty_4 (fun S2 H locs hV hw => ?_)
  refine lv_aload_n C0.x C0.b dX1_empty_7 rfl (lv_at hl 0 rfl) ?_
  refine r_get C0 hw (C := RX1) (T := TX1) (N := 6) (v := .ref (ad 40)) iw_X1_empty_X1 (lg_37 ad cI cJ X S2) rfl 1 (by decide) (C0.ts _ fw_X1_empty_20) rfl dX1_empty_8 ?_
  refine r_cV_v (As := []) (rest := []) C0 hw (c_X2_empty (ln_40 ad cI cJ X) hV) (cwV 0 C0.ts gX1_empty_X2_empty rfl rfl rfl hd_X2_empty ⟨Nat.le_of_ble_eq_true rfl, Nat.le_of_ble_eq_true rfl⟩) (lg_40 ad cI cJ X S2) rfl rfl hl.1 rfl (Nat.le_of_ble_eq_true rfl) ⟨Nat.le_of_ble_eq_true rfl, Nat.le_of_ble_eq_true rfl⟩ dX1_empty_11 (fun S4 H locs hV hw => ?_)
  refine lv_aload_n C0.x C0.b dX1_empty_14 rfl (lv_at hl 0 rfl) ?_
  refine r_get C0 hw (C := RX1) (T := TX1) (N := 6) (v := .ref (ad 42)) iw_X1_empty_X1 (lg_37 ad cI cJ X S4) rfl 2 (by decide) (C0.ts _ fw_X1_empty_23) rfl dX1_empty_15 ?_
  refine r_cV_v (As := []) (rest := []) C0 hw (c_X2_empty (ln_42 ad cI cJ X) hV) (cwV 0 C0.ts gX1_empty_X2_empty rfl rfl rfl hd_X2_empty ⟨Nat.le_of_ble_eq_true rfl, Nat.le_of_ble_eq_true rfl⟩) (lg_42 ad cI cJ X S4) rfl rfl hl.1 rfl (Nat.le_of_ble_eq_true rfl) ⟨Nat.le_of_ble_eq_true rfl, Nat.le_of_ble_eq_true rfl⟩ dX1_empty_18 (fun S6 H locs hV hw => ?_)
  refine lv_aload_n C0.x C0.b dX1_empty_21 rfl (lv_at hl 0 rfl) ?_
  refine r_get C0 hw (C := RX1) (T := TX1) (N := 6) (v := .ref (ad 44)) iw_X1_empty_X1 (lg_37 ad cI cJ X S6) rfl 3 (by decide) (C0.ts _ fw_X1_empty_26) rfl dX1_empty_22 ?_
  refine r_cV_v (As := []) (rest := []) C0 hw (c_X2_empty (ln_44 ad cI cJ X) hV) (cwV 0 C0.ts gX1_empty_X2_empty rfl rfl rfl hd_X2_empty ⟨Nat.le_of_ble_eq_true rfl, Nat.le_of_ble_eq_true rfl⟩) (lg_44 ad cI cJ X S6) rfl rfl hl.1 rfl (Nat.le_of_ble_eq_true rfl) ⟨Nat.le_of_ble_eq_true rfl, Nat.le_of_ble_eq_true rfl⟩ dX1_empty_25 (fun S8 H locs hV hw => ?_)
  exact r_vret C0 rfl hw hV dX1_empty_28
/-! StepBench$Numbers.add(J)Z -/
abbrev rm_X2_add : Room := { frames := 0, cells := 0, slots := 0, locals := 0 }
set_option maxRecDepth 20000 in
theorem fw_X2_add_7 : Cond.fieldLink RX2 7 "StepBench$Numbers" "size" "I" ∈ wsX2_add := by decide +kernel
set_option maxRecDepth 20000 in
theorem iw_X2_add_X2 : ∀ w ∈ wsX20, w ∈ wsX2_add := by decide +kernel
set_option maxRecDepth 20000 in
theorem fw_X2_add_19 : Cond.fieldLink RX2 19 "StepBench$Numbers" "cells" "[J" ∈ wsX2_add := by decide +kernel
set_option maxRecDepth 20000 in
theorem hd_X2_add : yX2_add.cls = RX2 ∧ yX2_add.cls ≠ "java/lang/invoke/MethodHandle" ∧ yX2_add.cls ≠ "java/lang/invoke/VarHandle" ∧ (parseMethodDescriptor yX2_add.desc).map (fun d => d.parameters.length) = some 1 := by decide +kernel
def V_X2_add (si ai L : Nat) (p0 : Int64) (S : SS) (post : Int32 → SS → Prop) : Prop :=
  (((gI S si) < 0 → (post (0 : Int32) S)) ∧ (¬ (gI S si) < 0 → (((gI S si) < (Int32.ofNat L) → (vp_in (gI S si) L ∧ ∀ S3 : SS, S3 = (sA S ai (vp_updL (gA S ai) (gI S si).toNatClampNeg p0)) → (∀ S4 : SS, S4 = (sI S3 si ((gI S3 si) + (1 : Int32))) → (post (1 : Int32) S4)))) ∧ (¬ (gI S si) < (Int32.ofNat L) → (post (0 : Int32) S)))))
set_option maxHeartbeats 4000000 in
set_option maxRecDepth 100000 in
theorem c_X2_add {po pa si ai L : Nat} (hO : lnN ad cI cJ X po pa si ai L) {S : SS} {p0 : Int64} {post : Int32 → SS → Prop} (hV : V_X2_add si ai L p0 S post) : MI l yX2_add wsX2_add rm_X2_add [.ref (ad po), .long p0] D n0 ad cI cJ X S post := by
  refine Met.ofW (cc := cX2_add) (maxL := 3) (ret := (some .boolean)) (by decide) rfl ?_
  intro p e s m args below meth c s₁ B hml hv
  obtain ⟨rfl, hv⟩ := hv
  have C0 := Bd.mk B hml (atoms_spec (ws := wsX2_add) B.pre) (findClass_of_methodNamed B.named) hv.1
  have hw : Wh D n0 ad cI cJ X S s s.heap [] := ⟨hv.2.1, hv.2.2, va_S.rf⟩
  refine r_entry (Nat.le_of_ble_eq_true rfl) (fun ls hl => ?_)
  have hl : lv_has ls 3 [(0, .ref (ad po)), (1, .long p0)] := hl
  unfold V_X2_add at hV
  refine lv_aload_n C0.x C0.b dX2_add_0 rfl (lv_at hl 0 rfl) ?_
  refine r_get C0 hw (C := RX2) (T := TX2) (N := 2) (v := .int (gI S si)) iw_X2_add_X2 (hO S).1 rfl 1 (by decide) (C0.ts _ fw_X2_add_7) rfl dX2_add_1 ?_
  refine lv_if_lt (tgt := 19) C0.x C0.b dX2_add_4 (by decide) (fun c1 => ?_) (fun c1 => ?_)
  · have hV := hV.1 c1
    refine lv_iconst (v := 0) C0.x C0.b dX2_add_19 (by decide) ?_
    exact r_zret C0 rfl bz_0 hw hV dX2_add_20
  · have hV := hV.2 c1
    refine lv_aload_n C0.x C0.b dX2_add_7 rfl (lv_at hl 0 rfl) ?_
    refine r_get C0 hw (C := RX2) (T := TX2) (N := 2) (v := .int (gI S si)) iw_X2_add_X2 (hO S).1 rfl 1 (by decide) (C0.ts _ fw_X2_add_7) rfl dX2_add_8 ?_
    refine lv_aload_n C0.x C0.b dX2_add_11 rfl (lv_at hl 0 rfl) ?_
    refine r_get C0 hw (C := RX2) (T := TX2) (N := 2) (v := .ref (ad pa)) iw_X2_add_X2 (hO S).1 rfl 0 (by decide) (C0.ts _ fw_X2_add_19) rfl dX2_add_12 ?_
    refine r_alenL C0 hw (hO S).2.1 (v := Int32.ofNat L) rfl dX2_add_15 ?_
    refine lv_icmp_lt (tgt := 21) C0.x C0.b dX2_add_16 (by decide) (fun c2 => ?_) (fun c2 => ?_)
    · have hV := hV.1 c2
      refine lv_aload_n C0.x C0.b dX2_add_21 rfl (lv_at hl 0 rfl) ?_
      refine r_get C0 hw (C := RX2) (T := TX2) (N := 2) (v := .ref (ad pa)) iw_X2_add_X2 (hO S).1 rfl 0 (by decide) (C0.ts _ fw_X2_add_19) rfl dX2_add_22 ?_
      refine lv_aload_n C0.x C0.b dX2_add_25 rfl (lv_at hl 0 rfl) ?_
      refine r_get C0 hw (C := RX2) (T := TX2) (N := 2) (v := .int (gI S si)) iw_X2_add_X2 (hO S).1 rfl 1 (by decide) (C0.ts _ fw_X2_add_7) rfl dX2_add_26 ?_
      refine lv_lload_n C0.x C0.b dX2_add_29 rfl (lv_at hl 1 rfl) ?_
      refine r_last C0 hw (hO S).2.1 hV.1 dX2_add_30 (S' := (sA S ai (vp_updL (gA S ai) (gI S si).toNatClampNeg p0))) ((hO S).2.2.2 (vp_updL (gA S ai) (gI S si).toNatClampNeg p0)) (fun S3 H locs eS3 hw => ?_)
      have hV := hV.2 S3 eS3
      refine lv_aload_n C0.x C0.b dX2_add_31 rfl (lv_at hl 0 rfl) ?_
      refine lv_dup C0.x C0.b dX2_add_32 rfl ?_
      refine r_get C0 hw (C := RX2) (T := TX2) (N := 2) (v := .int (gI S3 si)) iw_X2_add_X2 (hO S3).1 rfl 1 (by decide) (C0.ts _ fw_X2_add_7) rfl dX2_add_33 ?_
      refine lv_iconst (v := 1) C0.x C0.b dX2_add_36 (by decide) ?_
      refine lv_iadd C0.x C0.b dX2_add_37 ?_
      refine r_put C0 hw (C := RX2) (T := TX2) (N := 2) (ty := .int) iw_X2_add_X2 tyX2 tyX2_ok nmX2 (hO S3).1 rfl 1 (by decide) (C0.ts _ fw_X2_add_7) rfl (by decide +kernel) rfl rfl (Nat.le_of_ble_eq_true rfl) dX2_add_38 (S' := (sI S3 si ((gI S3 si) + (1 : Int32)))) ((hO S3).2.2.1 ((gI S3 si) + (1 : Int32))) (fun S4 H locs eS4 hw => ?_)
      have hV := hV S4 eS4
      refine lv_iconst (v := 1) C0.x C0.b dX2_add_41 (by decide) ?_
      exact r_zret C0 rfl bz_1 hw hV dX2_add_42
    · have hV := hV.2 c2
      refine lv_iconst (v := 0) C0.x C0.b dX2_add_19 (by decide) ?_
      exact r_zret C0 rfl bz_0 hw hV dX2_add_20
/-! StepBench$Machine.add(IIII)Z -/
abbrev rm_X1_add : Room := { frames := 1, cells := 0, slots := 0, locals := 22 }
set_option maxRecDepth 20000 in
theorem fw_X1_add_14 : Cond.fieldLink RX1 14 "StepBench$Machine" "kinds" "LStepBench$Numbers;" ∈ wsX1_add := by decide +kernel
set_option maxRecDepth 20000 in
theorem iw_X1_add_X1 : ∀ w ∈ wsX10, w ∈ wsX1_add := by decide +kernel
set_option maxRecDepth 20000 in
theorem fw_X1_add_20 : Cond.fieldLink RX1 20 "StepBench$Machine" "heapsOf" "LStepBench$Numbers;" ∈ wsX1_add := by decide +kernel
set_option maxRecDepth 20000 in
theorem fw_X1_add_23 : Cond.fieldLink RX1 23 "StepBench$Machine" "nexts" "LStepBench$Numbers;" ∈ wsX1_add := by decide +kernel
set_option maxRecDepth 20000 in
theorem fw_X1_add_26 : Cond.fieldLink RX1 26 "StepBench$Machine" "otherwises" "LStepBench$Numbers;" ∈ wsX1_add := by decide +kernel
set_option maxRecDepth 20000 in
theorem hd_X1_add : yX1_add.cls = RX1 ∧ yX1_add.cls ≠ "java/lang/invoke/MethodHandle" ∧ yX1_add.cls ≠ "java/lang/invoke/VarHandle" ∧ (parseMethodDescriptor yX1_add.desc).map (fun d => d.parameters.length) = some 4 := by decide +kernel
def V_X1_add  (p0 : Int32) (p1 : Int32) (p2 : Int32) (p3 : Int32) (S : SS) (post : Int32 → SS → Prop) : Prop :=
  (V_X2_add 12 22 12 p0.toInt64 S (fun (r1 : Int32) (S2 : SS) => ((r1 = 0 → (post (0 : Int32) S2)) ∧ (¬ r1 = 0 → (V_X2_add 13 23 12 p1.toInt64 S2 (fun (r4 : Int32) (S5 : SS) => ((r4 = 0 → (post (0 : Int32) S5)) ∧ (¬ r4 = 0 → (V_X2_add 14 24 12 p2.toInt64 S5 (fun (r7 : Int32) (S8 : SS) => ((r7 = 0 → (post (0 : Int32) S8)) ∧ (¬ r7 = 0 → (V_X2_add 15 25 12 p3.toInt64 S8 (fun (r10 : Int32) (S11 : SS) => ((r10 = 0 → (post (0 : Int32) S11)) ∧ (¬ r10 = 0 → (post (1 : Int32) S11)))))))))))))))))
set_option maxHeartbeats 4000000 in
set_option maxRecDepth 100000 in
theorem c_X1_add  {S : SS} {p0 : Int32} {p1 : Int32} {p2 : Int32} {p3 : Int32} {post : Int32 → SS → Prop} (hV : V_X1_add  p0 p1 p2 p3 S post) : MI l yX1_add wsX1_add rm_X1_add [.ref (ad 37), .int p0, .int p1, .int p2, .int p3] D n0 ad cI cJ X S post := by
  refine Met.ofW (cc := cX1_add) (maxL := 5) (ret := (some .boolean)) (by decide) rfl ?_
  intro p e s m args below meth c s₁ B hml hv
  obtain ⟨rfl, hv⟩ := hv
  have C0 := Bd.mk B hml (atoms_spec (ws := wsX1_add) B.pre) (findClass_of_methodNamed B.named) hv.1
  have hw : Wh D n0 ad cI cJ X S s s.heap [] := ⟨hv.2.1, hv.2.2, va_S.rf⟩
  refine r_entry (Nat.le_of_ble_eq_true rfl) (fun ls hl => ?_)
  have hl : lv_has ls 5 [(0, .ref (ad 37)), (1, .int p0), (2, .int p1), (3, .int p2), (4, .int p3)] := hl
  unfold V_X1_add at hV
  refine lv_aload_n C0.x C0.b dX1_add_0 rfl (lv_at hl 0 rfl) ?_
  refine r_get C0 hw (C := RX1) (T := TX1) (N := 6) (v := .ref (ad 38)) iw_X1_add_X1 (lg_37 ad cI cJ X S) rfl 0 (by decide) (C0.ts _ fw_X1_add_14) rfl dX1_add_1 ?_
  refine lv_iload_n C0.x C0.b dX1_add_4 rfl (lv_at hl 1 rfl) ?_
  refine lv_i2l C0.x C0.b dX1_add_5 rfl ?_
  refine r_cV_i (As := [.long p0.toInt64]) (rest := []) C0 hw (c_X2_add (ln_38 ad cI cJ X) hV) (cwV 1 C0.ts gX1_add_X2_add rfl rfl rfl hd_X2_add ⟨Nat.le_of_ble_eq_true rfl, Nat.le_of_ble_eq_true rfl⟩) (lg_38 ad cI cJ X S) rfl rfl hl.1 rfl (Nat.le_of_ble_eq_true rfl) ⟨Nat.le_of_ble_eq_true rfl, Nat.le_of_ble_eq_true rfl⟩ dX1_add_6 (fun r1 S2 H locs hV hw => ?_)
  refine lv_if_eq (tgt := 53) C0.x C0.b dX1_add_9 (by decide) (fun c3 => ?_) (fun c3 => ?_)
  · have hV := hV.1 c3
    refine lv_iconst (v := 0) C0.x C0.b dX1_add_53 (by decide) ?_
    exact r_zret C0 rfl bz_0 hw hV dX1_add_54
  · have hV := hV.2 c3
    refine lv_aload_n C0.x C0.b dX1_add_12 rfl (lv_at hl 0 rfl) ?_
    refine r_get C0 hw (C := RX1) (T := TX1) (N := 6) (v := .ref (ad 40)) iw_X1_add_X1 (lg_37 ad cI cJ X S2) rfl 1 (by decide) (C0.ts _ fw_X1_add_20) rfl dX1_add_13 ?_
    refine lv_iload_n C0.x C0.b dX1_add_16 rfl (lv_at hl 2 rfl) ?_
    refine lv_i2l C0.x C0.b dX1_add_17 rfl ?_
    refine r_cV_i (As := [.long p1.toInt64]) (rest := []) C0 hw (c_X2_add (ln_40 ad cI cJ X) hV) (cwV 1 C0.ts gX1_add_X2_add rfl rfl rfl hd_X2_add ⟨Nat.le_of_ble_eq_true rfl, Nat.le_of_ble_eq_true rfl⟩) (lg_40 ad cI cJ X S2) rfl rfl hl.1 rfl (Nat.le_of_ble_eq_true rfl) ⟨Nat.le_of_ble_eq_true rfl, Nat.le_of_ble_eq_true rfl⟩ dX1_add_18 (fun r4 S5 H locs hV hw => ?_)
    refine lv_if_eq (tgt := 53) C0.x C0.b dX1_add_21 (by decide) (fun c6 => ?_) (fun c6 => ?_)
    · have hV := hV.1 c6
      refine lv_iconst (v := 0) C0.x C0.b dX1_add_53 (by decide) ?_
      exact r_zret C0 rfl bz_0 hw hV dX1_add_54
    · have hV := hV.2 c6
      refine lv_aload_n C0.x C0.b dX1_add_24 rfl (lv_at hl 0 rfl) ?_
      refine r_get C0 hw (C := RX1) (T := TX1) (N := 6) (v := .ref (ad 42)) iw_X1_add_X1 (lg_37 ad cI cJ X S5) rfl 2 (by decide) (C0.ts _ fw_X1_add_23) rfl dX1_add_25 ?_
      refine lv_iload_n C0.x C0.b dX1_add_28 rfl (lv_at hl 3 rfl) ?_
      refine lv_i2l C0.x C0.b dX1_add_29 rfl ?_
      refine r_cV_i (As := [.long p2.toInt64]) (rest := []) C0 hw (c_X2_add (ln_42 ad cI cJ X) hV) (cwV 1 C0.ts gX1_add_X2_add rfl rfl rfl hd_X2_add ⟨Nat.le_of_ble_eq_true rfl, Nat.le_of_ble_eq_true rfl⟩) (lg_42 ad cI cJ X S5) rfl rfl hl.1 rfl (Nat.le_of_ble_eq_true rfl) ⟨Nat.le_of_ble_eq_true rfl, Nat.le_of_ble_eq_true rfl⟩ dX1_add_30 (fun r7 S8 H locs hV hw => ?_)
      refine lv_if_eq (tgt := 53) C0.x C0.b dX1_add_33 (by decide) (fun c9 => ?_) (fun c9 => ?_)
      · have hV := hV.1 c9
        refine lv_iconst (v := 0) C0.x C0.b dX1_add_53 (by decide) ?_
        exact r_zret C0 rfl bz_0 hw hV dX1_add_54
      · have hV := hV.2 c9
        refine lv_aload_n C0.x C0.b dX1_add_36 rfl (lv_at hl 0 rfl) ?_
        refine r_get C0 hw (C := RX1) (T := TX1) (N := 6) (v := .ref (ad 44)) iw_X1_add_X1 (lg_37 ad cI cJ X S8) rfl 3 (by decide) (C0.ts _ fw_X1_add_26) rfl dX1_add_37 ?_
        refine lv_iload C0.x C0.b dX1_add_40 (lv_at hl 4 rfl) ?_
        refine lv_i2l C0.x C0.b dX1_add_42 rfl ?_
        refine r_cV_i (As := [.long p3.toInt64]) (rest := []) C0 hw (c_X2_add (ln_44 ad cI cJ X) hV) (cwV 1 C0.ts gX1_add_X2_add rfl rfl rfl hd_X2_add ⟨Nat.le_of_ble_eq_true rfl, Nat.le_of_ble_eq_true rfl⟩) (lg_44 ad cI cJ X S8) rfl rfl hl.1 rfl (Nat.le_of_ble_eq_true rfl) ⟨Nat.le_of_ble_eq_true rfl, Nat.le_of_ble_eq_true rfl⟩ dX1_add_43 (fun r10 S11 H locs hV hw => ?_)
        refine lv_if_eq (tgt := 53) C0.x C0.b dX1_add_46 (by decide) (fun c12 => ?_) (fun c12 => ?_)
        · have hV := hV.1 c12
          refine lv_iconst (v := 0) C0.x C0.b dX1_add_53 (by decide) ?_
          exact r_zret C0 rfl bz_0 hw hV dX1_add_54
        · have hV := hV.2 c12
          refine lv_iconst (v := 1) C0.x C0.b dX1_add_49 (by decide) ?_
          refine lv_goto (tgt := 54) C0.x C0.b dX1_add_50 (by decide) ?_
          exact r_zret C0 rfl bz_1 hw hV dX1_add_54
/-! StepBench$Numbers.has(I)Z -/
abbrev rm_X2_has : Room := { frames := 0, cells := 0, slots := 0, locals := 0 }
set_option maxRecDepth 20000 in
theorem fw_X2_has_7 : Cond.fieldLink RX2 7 "StepBench$Numbers" "size" "I" ∈ wsX2_has := by decide +kernel
set_option maxRecDepth 20000 in
theorem iw_X2_has_X2 : ∀ w ∈ wsX20, w ∈ wsX2_has := by decide +kernel
set_option maxRecDepth 20000 in
theorem fw_X2_has_19 : Cond.fieldLink RX2 19 "StepBench$Numbers" "cells" "[J" ∈ wsX2_has := by decide +kernel
set_option maxRecDepth 20000 in
theorem hd_X2_has : yX2_has.cls = RX2 ∧ yX2_has.cls ≠ "java/lang/invoke/MethodHandle" ∧ yX2_has.cls ≠ "java/lang/invoke/VarHandle" ∧ (parseMethodDescriptor yX2_has.desc).map (fun d => d.parameters.length) = some 1 := by decide +kernel
def V_X2_has (si ai L : Nat) (p0 : Int32) (S : SS) (post : Int32 → SS → Prop) : Prop :=
  ((p0 < 0 → (post (0 : Int32) S)) ∧ (¬ p0 < 0 → (((gI S si) ≤ p0 → (post (0 : Int32) S)) ∧ (¬ (gI S si) ≤ p0 → (((Int32.ofNat L) ≤ p0 → (post (0 : Int32) S)) ∧ (¬ (Int32.ofNat L) ≤ p0 → (post (1 : Int32) S)))))))
set_option maxHeartbeats 4000000 in
set_option maxRecDepth 100000 in
theorem c_X2_has {po pa si ai L : Nat} (hO : lnN ad cI cJ X po pa si ai L) {S : SS} {p0 : Int32} {post : Int32 → SS → Prop} (hV : V_X2_has si ai L p0 S post) : MI l yX2_has wsX2_has rm_X2_has [.ref (ad po), .int p0] D n0 ad cI cJ X S post := by
  refine Met.ofW (cc := cX2_has) (maxL := 2) (ret := (some .boolean)) (by decide) rfl ?_
  intro p e s m args below meth c s₁ B hml hv
  obtain ⟨rfl, hv⟩ := hv
  have C0 := Bd.mk B hml (atoms_spec (ws := wsX2_has) B.pre) (findClass_of_methodNamed B.named) hv.1
  have hw : Wh D n0 ad cI cJ X S s s.heap [] := ⟨hv.2.1, hv.2.2, va_S.rf⟩
  refine r_entry (Nat.le_of_ble_eq_true rfl) (fun ls hl => ?_)
  have hl : lv_has ls 2 [(0, .ref (ad po)), (1, .int p0)] := hl
  unfold V_X2_has at hV
  refine lv_iload_n C0.x C0.b dX2_has_0 rfl (lv_at hl 1 rfl) ?_
  refine lv_if_lt (tgt := 25) C0.x C0.b dX2_has_1 (by decide) (fun c1 => ?_) (fun c1 => ?_)
  · have hV := hV.1 c1
    refine lv_iconst (v := 0) C0.x C0.b dX2_has_25 (by decide) ?_
    exact r_zret C0 rfl bz_0 hw hV dX2_has_26
  · have hV := hV.2 c1
    refine lv_iload_n C0.x C0.b dX2_has_4 rfl (lv_at hl 1 rfl) ?_
    refine lv_aload_n C0.x C0.b dX2_has_5 rfl (lv_at hl 0 rfl) ?_
    refine r_get C0 hw (C := RX2) (T := TX2) (N := 2) (v := .int (gI S si)) iw_X2_has_X2 (hO S).1 rfl 1 (by decide) (C0.ts _ fw_X2_has_7) rfl dX2_has_6 ?_
    refine lv_icmp_ge (tgt := 25) C0.x C0.b dX2_has_9 (by decide) (fun c2 => ?_) (fun c2 => ?_)
    · have hV := hV.1 c2
      refine lv_iconst (v := 0) C0.x C0.b dX2_has_25 (by decide) ?_
      exact r_zret C0 rfl bz_0 hw hV dX2_has_26
    · have hV := hV.2 c2
      refine lv_iload_n C0.x C0.b dX2_has_12 rfl (lv_at hl 1 rfl) ?_
      refine lv_aload_n C0.x C0.b dX2_has_13 rfl (lv_at hl 0 rfl) ?_
      refine r_get C0 hw (C := RX2) (T := TX2) (N := 2) (v := .ref (ad pa)) iw_X2_has_X2 (hO S).1 rfl 0 (by decide) (C0.ts _ fw_X2_has_19) rfl dX2_has_14 ?_
      refine r_alenL C0 hw (hO S).2.1 (v := Int32.ofNat L) rfl dX2_has_17 ?_
      refine lv_icmp_ge (tgt := 25) C0.x C0.b dX2_has_18 (by decide) (fun c3 => ?_) (fun c3 => ?_)
      · have hV := hV.1 c3
        refine lv_iconst (v := 0) C0.x C0.b dX2_has_25 (by decide) ?_
        exact r_zret C0 rfl bz_0 hw hV dX2_has_26
      · have hV := hV.2 c3
        refine lv_iconst (v := 1) C0.x C0.b dX2_has_21 (by decide) ?_
        refine lv_goto (tgt := 26) C0.x C0.b dX2_has_22 (by decide) ?_
        exact r_zret C0 rfl bz_1 hw hV dX2_has_26
/-! StepBench$Numbers.at(I)J -/
abbrev rm_X2_at : Room := { frames := 1, cells := 0, slots := 0, locals := 21 }
set_option maxRecDepth 20000 in
theorem fw_X2_at_19 : Cond.fieldLink RX2 19 "StepBench$Numbers" "cells" "[J" ∈ wsX2_at := by decide +kernel
set_option maxRecDepth 20000 in
theorem iw_X2_at_X2 : ∀ w ∈ wsX20, w ∈ wsX2_at := by decide +kernel
set_option maxRecDepth 20000 in
theorem hd_X2_at : yX2_at.cls = RX2 ∧ yX2_at.cls ≠ "java/lang/invoke/MethodHandle" ∧ yX2_at.cls ≠ "java/lang/invoke/VarHandle" ∧ (parseMethodDescriptor yX2_at.desc).map (fun d => d.parameters.length) = some 1 := by decide +kernel
def V_X2_at (si ai L : Nat) (p0 : Int32) (S : SS) (post : Int64 → SS → Prop) : Prop :=
  (V_X2_has si ai L p0 S (fun (r1 : Int32) (S2 : SS) => ((r1 = 0 → (post (0 : Int64) S2)) ∧ (¬ r1 = 0 → (vp_in p0 L ∧ (post (gA S2 ai p0.toNatClampNeg) S2))))))
set_option maxHeartbeats 4000000 in
set_option maxRecDepth 100000 in
theorem c_X2_at {po pa si ai L : Nat} (hO : lnN ad cI cJ X po pa si ai L) {S : SS} {p0 : Int32} {post : Int64 → SS → Prop} (hV : V_X2_at si ai L p0 S post) : ML l yX2_at wsX2_at rm_X2_at [.ref (ad po), .int p0] D n0 ad cI cJ X S post := by
  refine Met.ofW (cc := cX2_at) (maxL := 2) (ret := (some .long)) (by decide) rfl ?_
  intro p e s m args below meth c s₁ B hml hv
  obtain ⟨rfl, hv⟩ := hv
  have C0 := Bd.mk B hml (atoms_spec (ws := wsX2_at) B.pre) (findClass_of_methodNamed B.named) hv.1
  have hw : Wh D n0 ad cI cJ X S s s.heap [] := ⟨hv.2.1, hv.2.2, va_S.rf⟩
  refine r_entry (Nat.le_of_ble_eq_true rfl) (fun ls hl => ?_)
  have hl : lv_has ls 2 [(0, .ref (ad po)), (1, .int p0)] := hl
  unfold V_X2_at at hV
  refine lv_aload_n C0.x C0.b dX2_at_0 rfl (lv_at hl 0 rfl) ?_
  refine lv_iload_n C0.x C0.b dX2_at_1 rfl (lv_at hl 1 rfl) ?_
  refine r_cV_i (As := [.int p0]) (rest := []) C0 hw (c_X2_has hO hV) (cwV 1 C0.ts gX2_at_X2_has rfl rfl rfl hd_X2_has ⟨Nat.le_of_ble_eq_true rfl, Nat.le_of_ble_eq_true rfl⟩) (hO S).1 rfl rfl hl.1 rfl (Nat.le_of_ble_eq_true rfl) ⟨Nat.le_of_ble_eq_true rfl, Nat.le_of_ble_eq_true rfl⟩ dX2_at_2 (fun r1 S2 H locs hV hw => ?_)
  refine lv_if_eq (tgt := 17) C0.x C0.b dX2_at_5 (by decide) (fun c3 => ?_) (fun c3 => ?_)
  · have hV := hV.1 c3
    refine lv_lconst (v := 0) C0.x C0.b dX2_at_17 (by decide) ?_
    exact r_lret C0 rfl hw hV dX2_at_18
  · have hV := hV.2 c3
    refine lv_aload_n C0.x C0.b dX2_at_8 rfl (lv_at hl 0 rfl) ?_
    refine r_get C0 hw (C := RX2) (T := TX2) (N := 2) (v := .ref (ad pa)) iw_X2_at_X2 (hO S2).1 rfl 0 (by decide) (C0.ts _ fw_X2_at_19) rfl dX2_at_9 ?_
    refine lv_iload_n C0.x C0.b dX2_at_12 rfl (lv_at hl 1 rfl) ?_
    refine r_lald C0 hw (hO S2).2.1 hV.1 dX2_at_13 ?_
    have hV := hV.2
    refine lv_goto (tgt := 18) C0.x C0.b dX2_at_14 (by decide) ?_
    exact r_lret C0 rfl hw hV dX2_at_18
/-! StepBench$Machine.kind(I)I -/
abbrev rm_X1_kind : Room := { frames := 2, cells := 0, slots := 0, locals := 42 }
set_option maxRecDepth 20000 in
theorem fw_X1_kind_14 : Cond.fieldLink RX1 14 "StepBench$Machine" "kinds" "LStepBench$Numbers;" ∈ wsX1_kind := by decide +kernel
set_option maxRecDepth 20000 in
theorem iw_X1_kind_X1 : ∀ w ∈ wsX10, w ∈ wsX1_kind := by decide +kernel
set_option maxRecDepth 20000 in
theorem hd_X1_kind : yX1_kind.cls = RX1 ∧ yX1_kind.cls ≠ "java/lang/invoke/MethodHandle" ∧ yX1_kind.cls ≠ "java/lang/invoke/VarHandle" ∧ (parseMethodDescriptor yX1_kind.desc).map (fun d => d.parameters.length) = some 1 := by decide +kernel
def V_X1_kind  (p0 : Int32) (S : SS) (post : Int32 → SS → Prop) : Prop :=
  (V_X2_at 12 22 12 p0 S (fun (r1 : Int64) (S2 : SS) => (post r1.toInt32 S2)))
set_option maxHeartbeats 4000000 in
set_option maxRecDepth 100000 in
theorem c_X1_kind  {S : SS} {p0 : Int32} {post : Int32 → SS → Prop} (hV : V_X1_kind  p0 S post) : MI l yX1_kind wsX1_kind rm_X1_kind [.ref (ad 37), .int p0] D n0 ad cI cJ X S post := by
  refine Met.ofW (cc := cX1_kind) (maxL := 2) (ret := (some .int)) (by decide) rfl ?_
  intro p e s m args below meth c s₁ B hml hv
  obtain ⟨rfl, hv⟩ := hv
  have C0 := Bd.mk B hml (atoms_spec (ws := wsX1_kind) B.pre) (findClass_of_methodNamed B.named) hv.1
  have hw : Wh D n0 ad cI cJ X S s s.heap [] := ⟨hv.2.1, hv.2.2, va_S.rf⟩
  refine r_entry (Nat.le_of_ble_eq_true rfl) (fun ls hl => ?_)
  have hl : lv_has ls 2 [(0, .ref (ad 37)), (1, .int p0)] := hl
  unfold V_X1_kind at hV
  refine lv_aload_n C0.x C0.b dX1_kind_0 rfl (lv_at hl 0 rfl) ?_
  refine r_get C0 hw (C := RX1) (T := TX1) (N := 6) (v := .ref (ad 38)) iw_X1_kind_X1 (lg_37 ad cI cJ X S) rfl 0 (by decide) (C0.ts _ fw_X1_kind_14) rfl dX1_kind_1 ?_
  refine lv_iload_n C0.x C0.b dX1_kind_4 rfl (lv_at hl 1 rfl) ?_
  refine r_cV_l (As := [.int p0]) (rest := []) C0 hw (c_X2_at (ln_38 ad cI cJ X) hV) (cwV 1 C0.ts gX1_kind_X2_at rfl rfl rfl hd_X2_at ⟨Nat.le_of_ble_eq_true rfl, Nat.le_of_ble_eq_true rfl⟩) (lg_38 ad cI cJ X S) rfl rfl hl.1 rfl (Nat.le_of_ble_eq_true rfl) ⟨Nat.le_of_ble_eq_true rfl, Nat.le_of_ble_eq_true rfl⟩ dX1_kind_5 (fun r1 S2 H locs hV hw => ?_)
  refine lv_l2i C0.x C0.b dX1_kind_8 rfl ?_
  exact r_iret C0 rfl hw hV dX1_kind_9
/-! StepBench$Machine.heap(I)I -/
abbrev rm_X1_heap : Room := { frames := 2, cells := 0, slots := 0, locals := 42 }
set_option maxRecDepth 20000 in
theorem fw_X1_heap_20 : Cond.fieldLink RX1 20 "StepBench$Machine" "heapsOf" "LStepBench$Numbers;" ∈ wsX1_heap := by decide +kernel
set_option maxRecDepth 20000 in
theorem iw_X1_heap_X1 : ∀ w ∈ wsX10, w ∈ wsX1_heap := by decide +kernel
set_option maxRecDepth 20000 in
theorem hd_X1_heap : yX1_heap.cls = RX1 ∧ yX1_heap.cls ≠ "java/lang/invoke/MethodHandle" ∧ yX1_heap.cls ≠ "java/lang/invoke/VarHandle" ∧ (parseMethodDescriptor yX1_heap.desc).map (fun d => d.parameters.length) = some 1 := by decide +kernel
def V_X1_heap  (p0 : Int32) (S : SS) (post : Int32 → SS → Prop) : Prop :=
  (V_X2_at 13 23 12 p0 S (fun (r1 : Int64) (S2 : SS) => (post r1.toInt32 S2)))
set_option maxHeartbeats 4000000 in
set_option maxRecDepth 100000 in
theorem c_X1_heap  {S : SS} {p0 : Int32} {post : Int32 → SS → Prop} (hV : V_X1_heap  p0 S post) : MI l yX1_heap wsX1_heap rm_X1_heap [.ref (ad 37), .int p0] D n0 ad cI cJ X S post := by
  refine Met.ofW (cc := cX1_heap) (maxL := 2) (ret := (some .int)) (by decide) rfl ?_
  intro p e s m args below meth c s₁ B hml hv
  obtain ⟨rfl, hv⟩ := hv
  have C0 := Bd.mk B hml (atoms_spec (ws := wsX1_heap) B.pre) (findClass_of_methodNamed B.named) hv.1
  have hw : Wh D n0 ad cI cJ X S s s.heap [] := ⟨hv.2.1, hv.2.2, va_S.rf⟩
  refine r_entry (Nat.le_of_ble_eq_true rfl) (fun ls hl => ?_)
  have hl : lv_has ls 2 [(0, .ref (ad 37)), (1, .int p0)] := hl
  unfold V_X1_heap at hV
  refine lv_aload_n C0.x C0.b dX1_heap_0 rfl (lv_at hl 0 rfl) ?_
  refine r_get C0 hw (C := RX1) (T := TX1) (N := 6) (v := .ref (ad 40)) iw_X1_heap_X1 (lg_37 ad cI cJ X S) rfl 1 (by decide) (C0.ts _ fw_X1_heap_20) rfl dX1_heap_1 ?_
  refine lv_iload_n C0.x C0.b dX1_heap_4 rfl (lv_at hl 1 rfl) ?_
  refine r_cV_l (As := [.int p0]) (rest := []) C0 hw (c_X2_at (ln_40 ad cI cJ X) hV) (cwV 1 C0.ts gX1_heap_X2_at rfl rfl rfl hd_X2_at ⟨Nat.le_of_ble_eq_true rfl, Nat.le_of_ble_eq_true rfl⟩) (lg_40 ad cI cJ X S) rfl rfl hl.1 rfl (Nat.le_of_ble_eq_true rfl) ⟨Nat.le_of_ble_eq_true rfl, Nat.le_of_ble_eq_true rfl⟩ dX1_heap_5 (fun r1 S2 H locs hV hw => ?_)
  refine lv_l2i C0.x C0.b dX1_heap_8 rfl ?_
  exact r_iret C0 rfl hw hV dX1_heap_9
/-! StepBench$Machine.next(I)I -/
abbrev rm_X1_next : Room := { frames := 2, cells := 0, slots := 0, locals := 42 }
set_option maxRecDepth 20000 in
theorem fw_X1_next_23 : Cond.fieldLink RX1 23 "StepBench$Machine" "nexts" "LStepBench$Numbers;" ∈ wsX1_next := by decide +kernel
set_option maxRecDepth 20000 in
theorem iw_X1_next_X1 : ∀ w ∈ wsX10, w ∈ wsX1_next := by decide +kernel
set_option maxRecDepth 20000 in
theorem hd_X1_next : yX1_next.cls = RX1 ∧ yX1_next.cls ≠ "java/lang/invoke/MethodHandle" ∧ yX1_next.cls ≠ "java/lang/invoke/VarHandle" ∧ (parseMethodDescriptor yX1_next.desc).map (fun d => d.parameters.length) = some 1 := by decide +kernel
def V_X1_next  (p0 : Int32) (S : SS) (post : Int32 → SS → Prop) : Prop :=
  (V_X2_at 14 24 12 p0 S (fun (r1 : Int64) (S2 : SS) => (post r1.toInt32 S2)))
set_option maxHeartbeats 4000000 in
set_option maxRecDepth 100000 in
theorem c_X1_next  {S : SS} {p0 : Int32} {post : Int32 → SS → Prop} (hV : V_X1_next  p0 S post) : MI l yX1_next wsX1_next rm_X1_next [.ref (ad 37), .int p0] D n0 ad cI cJ X S post := by
  refine Met.ofW (cc := cX1_next) (maxL := 2) (ret := (some .int)) (by decide) rfl ?_
  intro p e s m args below meth c s₁ B hml hv
  obtain ⟨rfl, hv⟩ := hv
  have C0 := Bd.mk B hml (atoms_spec (ws := wsX1_next) B.pre) (findClass_of_methodNamed B.named) hv.1
  have hw : Wh D n0 ad cI cJ X S s s.heap [] := ⟨hv.2.1, hv.2.2, va_S.rf⟩
  refine r_entry (Nat.le_of_ble_eq_true rfl) (fun ls hl => ?_)
  have hl : lv_has ls 2 [(0, .ref (ad 37)), (1, .int p0)] := hl
  unfold V_X1_next at hV
  refine lv_aload_n C0.x C0.b dX1_next_0 rfl (lv_at hl 0 rfl) ?_
  refine r_get C0 hw (C := RX1) (T := TX1) (N := 6) (v := .ref (ad 42)) iw_X1_next_X1 (lg_37 ad cI cJ X S) rfl 2 (by decide) (C0.ts _ fw_X1_next_23) rfl dX1_next_1 ?_
  refine lv_iload_n C0.x C0.b dX1_next_4 rfl (lv_at hl 1 rfl) ?_
  refine r_cV_l (As := [.int p0]) (rest := []) C0 hw (c_X2_at (ln_42 ad cI cJ X) hV) (cwV 1 C0.ts gX1_next_X2_at rfl rfl rfl hd_X2_at ⟨Nat.le_of_ble_eq_true rfl, Nat.le_of_ble_eq_true rfl⟩) (lg_42 ad cI cJ X S) rfl rfl hl.1 rfl (Nat.le_of_ble_eq_true rfl) ⟨Nat.le_of_ble_eq_true rfl, Nat.le_of_ble_eq_true rfl⟩ dX1_next_5 (fun r1 S2 H locs hV hw => ?_)
  refine lv_l2i C0.x C0.b dX1_next_8 rfl ?_
  exact r_iret C0 rfl hw hV dX1_next_9
/-! StepBench$Machine.otherwise(I)I -/
abbrev rm_X1_otherwise : Room := { frames := 2, cells := 0, slots := 0, locals := 42 }
set_option maxRecDepth 20000 in
theorem fw_X1_otherwise_26 : Cond.fieldLink RX1 26 "StepBench$Machine" "otherwises" "LStepBench$Numbers;" ∈ wsX1_otherwise := by decide +kernel
set_option maxRecDepth 20000 in
theorem iw_X1_otherwise_X1 : ∀ w ∈ wsX10, w ∈ wsX1_otherwise := by decide +kernel
set_option maxRecDepth 20000 in
theorem hd_X1_otherwise : yX1_otherwise.cls = RX1 ∧ yX1_otherwise.cls ≠ "java/lang/invoke/MethodHandle" ∧ yX1_otherwise.cls ≠ "java/lang/invoke/VarHandle" ∧ (parseMethodDescriptor yX1_otherwise.desc).map (fun d => d.parameters.length) = some 1 := by decide +kernel
def V_X1_otherwise  (p0 : Int32) (S : SS) (post : Int32 → SS → Prop) : Prop :=
  (V_X2_at 15 25 12 p0 S (fun (r1 : Int64) (S2 : SS) => (post r1.toInt32 S2)))
set_option maxHeartbeats 4000000 in
set_option maxRecDepth 100000 in
theorem c_X1_otherwise  {S : SS} {p0 : Int32} {post : Int32 → SS → Prop} (hV : V_X1_otherwise  p0 S post) : MI l yX1_otherwise wsX1_otherwise rm_X1_otherwise [.ref (ad 37), .int p0] D n0 ad cI cJ X S post := by
  refine Met.ofW (cc := cX1_otherwise) (maxL := 2) (ret := (some .int)) (by decide) rfl ?_
  intro p e s m args below meth c s₁ B hml hv
  obtain ⟨rfl, hv⟩ := hv
  have C0 := Bd.mk B hml (atoms_spec (ws := wsX1_otherwise) B.pre) (findClass_of_methodNamed B.named) hv.1
  have hw : Wh D n0 ad cI cJ X S s s.heap [] := ⟨hv.2.1, hv.2.2, va_S.rf⟩
  refine r_entry (Nat.le_of_ble_eq_true rfl) (fun ls hl => ?_)
  have hl : lv_has ls 2 [(0, .ref (ad 37)), (1, .int p0)] := hl
  unfold V_X1_otherwise at hV
  refine lv_aload_n C0.x C0.b dX1_otherwise_0 rfl (lv_at hl 0 rfl) ?_
  refine r_get C0 hw (C := RX1) (T := TX1) (N := 6) (v := .ref (ad 44)) iw_X1_otherwise_X1 (lg_37 ad cI cJ X S) rfl 3 (by decide) (C0.ts _ fw_X1_otherwise_26) rfl dX1_otherwise_1 ?_
  refine lv_iload_n C0.x C0.b dX1_otherwise_4 rfl (lv_at hl 1 rfl) ?_
  refine r_cV_l (As := [.int p0]) (rest := []) C0 hw (c_X2_at (ln_44 ad cI cJ X) hV) (cwV 1 C0.ts gX1_otherwise_X2_at rfl rfl rfl hd_X2_at ⟨Nat.le_of_ble_eq_true rfl, Nat.le_of_ble_eq_true rfl⟩) (lg_44 ad cI cJ X S) rfl rfl hl.1 rfl (Nat.le_of_ble_eq_true rfl) ⟨Nat.le_of_ble_eq_true rfl, Nat.le_of_ble_eq_true rfl⟩ dX1_otherwise_5 (fun r1 S2 H locs hV hw => ?_)
  refine lv_l2i C0.x C0.b dX1_otherwise_8 rfl ?_
  exact r_iret C0 rfl hw hV dX1_otherwise_9
/-! StepBench$Machine.fill(IIII)V -/
abbrev rm_X1_fill : Room := { frames := 1, cells := 0, slots := 0, locals := 22 }
set_option maxRecDepth 20000 in
theorem fw_X1_fill_29 : Cond.fieldLink RX1 29 "StepBench$Machine" "heaps" "LStepBench$Numbers;" ∈ wsX1_fill := by decide +kernel
set_option maxRecDepth 20000 in
theorem iw_X1_fill_X1 : ∀ w ∈ wsX10, w ∈ wsX1_fill := by decide +kernel
set_option maxRecDepth 20000 in
theorem hd_X1_fill : yX1_fill.cls = RX1 ∧ yX1_fill.cls ≠ "java/lang/invoke/MethodHandle" ∧ yX1_fill.cls ≠ "java/lang/invoke/VarHandle" ∧ (parseMethodDescriptor yX1_fill.desc).map (fun d => d.parameters.length) = some 4 := by decide +kernel
def V_X1_fill  (p0 : Int32) (p1 : Int32) (p2 : Int32) (p3 : Int32) (S : SS) (post : SS → Prop) : Prop :=
  (V_X2_empty 16 26 4 S (fun (S2 : SS) => (V_X2_add 16 26 4 p0.toInt64 S2 (fun (r3 : Int32) (S4 : SS) => (V_X2_add 16 26 4 p1.toInt64 S4 (fun (r5 : Int32) (S6 : SS) => (V_X2_add 16 26 4 p2.toInt64 S6 (fun (r7 : Int32) (S8 : SS) => (V_X2_add 16 26 4 p3.toInt64 S8 (fun (r9 : Int32) (S10 : SS) => (post S10)))))))))))
set_option maxHeartbeats 4000000 in
set_option maxRecDepth 100000 in
theorem c_X1_fill  {S : SS} {p0 : Int32} {p1 : Int32} {p2 : Int32} {p3 : Int32} {post : SS → Prop} (hV : V_X1_fill  p0 p1 p2 p3 S post) : MV l yX1_fill wsX1_fill rm_X1_fill [.ref (ad 37), .int p0, .int p1, .int p2, .int p3] D n0 ad cI cJ X S post := by
  refine Met.ofW (cc := cX1_fill) (maxL := 5) (ret := none) (by decide) rfl ?_
  intro p e s m args below meth c s₁ B hml hv
  obtain ⟨rfl, hv⟩ := hv
  have C0 := Bd.mk B hml (atoms_spec (ws := wsX1_fill) B.pre) (findClass_of_methodNamed B.named) hv.1
  have hw : Wh D n0 ad cI cJ X S s s.heap [] := ⟨hv.2.1, hv.2.2, va_S.rf⟩
  refine r_entry (Nat.le_of_ble_eq_true rfl) (fun ls hl => ?_)
  have hl : lv_has ls 5 [(0, .ref (ad 37)), (1, .int p0), (2, .int p1), (3, .int p2), (4, .int p3)] := hl
  unfold V_X1_fill at hV
  refine lv_aload_n C0.x C0.b dX1_fill_0 rfl (lv_at hl 0 rfl) ?_
  refine r_get C0 hw (C := RX1) (T := TX1) (N := 6) (v := .ref (ad 46)) iw_X1_fill_X1 (lg_37 ad cI cJ X S) rfl 4 (by decide) (C0.ts _ fw_X1_fill_29) rfl dX1_fill_1 ?_
  refine r_cV_v (As := []) (rest := []) C0 hw (c_X2_empty (ln_46 ad cI cJ X) hV) (cwV 0 C0.ts gX1_fill_X2_empty rfl rfl rfl hd_X2_empty ⟨Nat.le_of_ble_eq_true rfl, Nat.le_of_ble_eq_true rfl⟩) (lg_46 ad cI cJ X S) rfl rfl hl.1 rfl (Nat.le_of_ble_eq_true rfl) ⟨Nat.le_of_ble_eq_true rfl, Nat.le_of_ble_eq_true rfl⟩ dX1_fill_4 (fun S2 H locs hV hw => ?_)
  refine lv_aload_n C0.x C0.b dX1_fill_7 rfl (lv_at hl 0 rfl) ?_
  refine r_get C0 hw (C := RX1) (T := TX1) (N := 6) (v := .ref (ad 46)) iw_X1_fill_X1 (lg_37 ad cI cJ X S2) rfl 4 (by decide) (C0.ts _ fw_X1_fill_29) rfl dX1_fill_8 ?_
  refine lv_iload_n C0.x C0.b dX1_fill_11 rfl (lv_at hl 1 rfl) ?_
  refine lv_i2l C0.x C0.b dX1_fill_12 rfl ?_
  refine r_cV_i (As := [.long p0.toInt64]) (rest := []) C0 hw (c_X2_add (ln_46 ad cI cJ X) hV) (cwV 1 C0.ts gX1_fill_X2_add rfl rfl rfl hd_X2_add ⟨Nat.le_of_ble_eq_true rfl, Nat.le_of_ble_eq_true rfl⟩) (lg_46 ad cI cJ X S2) rfl rfl hl.1 rfl (Nat.le_of_ble_eq_true rfl) ⟨Nat.le_of_ble_eq_true rfl, Nat.le_of_ble_eq_true rfl⟩ dX1_fill_13 (fun r3 S4 H locs hV hw => ?_)
  refine lv_pop C0.x C0.b dX1_fill_16 rfl ?_
  refine lv_aload_n C0.x C0.b dX1_fill_17 rfl (lv_at hl 0 rfl) ?_
  refine r_get C0 hw (C := RX1) (T := TX1) (N := 6) (v := .ref (ad 46)) iw_X1_fill_X1 (lg_37 ad cI cJ X S4) rfl 4 (by decide) (C0.ts _ fw_X1_fill_29) rfl dX1_fill_18 ?_
  refine lv_iload_n C0.x C0.b dX1_fill_21 rfl (lv_at hl 2 rfl) ?_
  refine lv_i2l C0.x C0.b dX1_fill_22 rfl ?_
  refine r_cV_i (As := [.long p1.toInt64]) (rest := []) C0 hw (c_X2_add (ln_46 ad cI cJ X) hV) (cwV 1 C0.ts gX1_fill_X2_add rfl rfl rfl hd_X2_add ⟨Nat.le_of_ble_eq_true rfl, Nat.le_of_ble_eq_true rfl⟩) (lg_46 ad cI cJ X S4) rfl rfl hl.1 rfl (Nat.le_of_ble_eq_true rfl) ⟨Nat.le_of_ble_eq_true rfl, Nat.le_of_ble_eq_true rfl⟩ dX1_fill_23 (fun r5 S6 H locs hV hw => ?_)
  refine lv_pop C0.x C0.b dX1_fill_26 rfl ?_
  refine lv_aload_n C0.x C0.b dX1_fill_27 rfl (lv_at hl 0 rfl) ?_
  refine r_get C0 hw (C := RX1) (T := TX1) (N := 6) (v := .ref (ad 46)) iw_X1_fill_X1 (lg_37 ad cI cJ X S6) rfl 4 (by decide) (C0.ts _ fw_X1_fill_29) rfl dX1_fill_28 ?_
  refine lv_iload_n C0.x C0.b dX1_fill_31 rfl (lv_at hl 3 rfl) ?_
  refine lv_i2l C0.x C0.b dX1_fill_32 rfl ?_
  refine r_cV_i (As := [.long p2.toInt64]) (rest := []) C0 hw (c_X2_add (ln_46 ad cI cJ X) hV) (cwV 1 C0.ts gX1_fill_X2_add rfl rfl rfl hd_X2_add ⟨Nat.le_of_ble_eq_true rfl, Nat.le_of_ble_eq_true rfl⟩) (lg_46 ad cI cJ X S6) rfl rfl hl.1 rfl (Nat.le_of_ble_eq_true rfl) ⟨Nat.le_of_ble_eq_true rfl, Nat.le_of_ble_eq_true rfl⟩ dX1_fill_33 (fun r7 S8 H locs hV hw => ?_)
  refine lv_pop C0.x C0.b dX1_fill_36 rfl ?_
  refine lv_aload_n C0.x C0.b dX1_fill_37 rfl (lv_at hl 0 rfl) ?_
  refine r_get C0 hw (C := RX1) (T := TX1) (N := 6) (v := .ref (ad 46)) iw_X1_fill_X1 (lg_37 ad cI cJ X S8) rfl 4 (by decide) (C0.ts _ fw_X1_fill_29) rfl dX1_fill_38 ?_
  refine lv_iload C0.x C0.b dX1_fill_41 (lv_at hl 4 rfl) ?_
  refine lv_i2l C0.x C0.b dX1_fill_43 rfl ?_
  refine r_cV_i (As := [.long p3.toInt64]) (rest := []) C0 hw (c_X2_add (ln_46 ad cI cJ X) hV) (cwV 1 C0.ts gX1_fill_X2_add rfl rfl rfl hd_X2_add ⟨Nat.le_of_ble_eq_true rfl, Nat.le_of_ble_eq_true rfl⟩) (lg_46 ad cI cJ X S8) rfl rfl hl.1 rfl (Nat.le_of_ble_eq_true rfl) ⟨Nat.le_of_ble_eq_true rfl, Nat.le_of_ble_eq_true rfl⟩ dX1_fill_44 (fun r9 S10 H locs hV hw => ?_)
  refine lv_pop C0.x C0.b dX1_fill_47 rfl ?_
  exact r_vret C0 rfl hw hV dX1_fill_48
/-! StepBench$Machine.inHeap(I)J -/
abbrev rm_X1_inHeap : Room := { frames := 2, cells := 0, slots := 0, locals := 42 }
set_option maxRecDepth 20000 in
theorem fw_X1_inHeap_29 : Cond.fieldLink RX1 29 "StepBench$Machine" "heaps" "LStepBench$Numbers;" ∈ wsX1_inHeap := by decide +kernel
set_option maxRecDepth 20000 in
theorem iw_X1_inHeap_X1 : ∀ w ∈ wsX10, w ∈ wsX1_inHeap := by decide +kernel
set_option maxRecDepth 20000 in
theorem hd_X1_inHeap : yX1_inHeap.cls = RX1 ∧ yX1_inHeap.cls ≠ "java/lang/invoke/MethodHandle" ∧ yX1_inHeap.cls ≠ "java/lang/invoke/VarHandle" ∧ (parseMethodDescriptor yX1_inHeap.desc).map (fun d => d.parameters.length) = some 1 := by decide +kernel
def V_X1_inHeap  (p0 : Int32) (S : SS) (post : Int64 → SS → Prop) : Prop :=
  (V_X2_at 16 26 4 p0 S (fun (r1 : Int64) (S2 : SS) => (post r1 S2)))
set_option maxHeartbeats 4000000 in
set_option maxRecDepth 100000 in
theorem c_X1_inHeap  {S : SS} {p0 : Int32} {post : Int64 → SS → Prop} (hV : V_X1_inHeap  p0 S post) : ML l yX1_inHeap wsX1_inHeap rm_X1_inHeap [.ref (ad 37), .int p0] D n0 ad cI cJ X S post := by
  refine Met.ofW (cc := cX1_inHeap) (maxL := 2) (ret := (some .long)) (by decide) rfl ?_
  intro p e s m args below meth c s₁ B hml hv
  obtain ⟨rfl, hv⟩ := hv
  have C0 := Bd.mk B hml (atoms_spec (ws := wsX1_inHeap) B.pre) (findClass_of_methodNamed B.named) hv.1
  have hw : Wh D n0 ad cI cJ X S s s.heap [] := ⟨hv.2.1, hv.2.2, va_S.rf⟩
  refine r_entry (Nat.le_of_ble_eq_true rfl) (fun ls hl => ?_)
  have hl : lv_has ls 2 [(0, .ref (ad 37)), (1, .int p0)] := hl
  unfold V_X1_inHeap at hV
  refine lv_aload_n C0.x C0.b dX1_inHeap_0 rfl (lv_at hl 0 rfl) ?_
  refine r_get C0 hw (C := RX1) (T := TX1) (N := 6) (v := .ref (ad 46)) iw_X1_inHeap_X1 (lg_37 ad cI cJ X S) rfl 4 (by decide) (C0.ts _ fw_X1_inHeap_29) rfl dX1_inHeap_1 ?_
  refine lv_iload_n C0.x C0.b dX1_inHeap_4 rfl (lv_at hl 1 rfl) ?_
  refine r_cV_l (As := [.int p0]) (rest := []) C0 hw (c_X2_at (ln_46 ad cI cJ X) hV) (cwV 1 C0.ts gX1_inHeap_X2_at rfl rfl rfl hd_X2_at ⟨Nat.le_of_ble_eq_true rfl, Nat.le_of_ble_eq_true rfl⟩) (lg_46 ad cI cJ X S) rfl rfl hl.1 rfl (Nat.le_of_ble_eq_true rfl) ⟨Nat.le_of_ble_eq_true rfl, Nat.le_of_ble_eq_true rfl⟩ dX1_inHeap_5 (fun r1 S2 H locs hV hw => ?_)
  exact r_lret C0 rfl hw hV dX1_inHeap_8
/-! StepBench$Machine.done()I -/
abbrev rm_X1_done : Room := { frames := 0, cells := 0, slots := 0, locals := 0 }
set_option maxRecDepth 20000 in
theorem fw_X1_done_32 : Cond.fieldLink RX1 32 "StepBench$Machine" "done" "I" ∈ wsX1_done := by decide +kernel
set_option maxRecDepth 20000 in
theorem iw_X1_done_X1 : ∀ w ∈ wsX10, w ∈ wsX1_done := by decide +kernel
set_option maxRecDepth 20000 in
theorem hd_X1_done : yX1_done.cls = RX1 ∧ yX1_done.cls ≠ "java/lang/invoke/MethodHandle" ∧ yX1_done.cls ≠ "java/lang/invoke/VarHandle" ∧ (parseMethodDescriptor yX1_done.desc).map (fun d => d.parameters.length) = some 0 := by decide +kernel
def V_X1_done   (S : SS) (post : Int32 → SS → Prop) : Prop :=
  (post (gI S 17) S)
set_option maxHeartbeats 4000000 in
set_option maxRecDepth 100000 in
theorem c_X1_done  {S : SS}  {post : Int32 → SS → Prop} (hV : V_X1_done   S post) : MI l yX1_done wsX1_done rm_X1_done [.ref (ad 37)] D n0 ad cI cJ X S post := by
  refine Met.ofW (cc := cX1_done) (maxL := 1) (ret := (some .int)) (by decide) rfl ?_
  intro p e s m args below meth c s₁ B hml hv
  obtain ⟨rfl, hv⟩ := hv
  have C0 := Bd.mk B hml (atoms_spec (ws := wsX1_done) B.pre) (findClass_of_methodNamed B.named) hv.1
  have hw : Wh D n0 ad cI cJ X S s s.heap [] := ⟨hv.2.1, hv.2.2, va_S.rf⟩
  refine r_entry (Nat.le_of_ble_eq_true rfl) (fun ls hl => ?_)
  have hl : lv_has ls 1 [(0, .ref (ad 37))] := hl
  unfold V_X1_done at hV
  refine lv_aload_n C0.x C0.b dX1_done_0 rfl (lv_at hl 0 rfl) ?_
  refine r_get C0 hw (C := RX1) (T := TX1) (N := 6) (v := .int (gI S 17)) iw_X1_done_X1 (lg_37 ad cI cJ X S) rfl 5 (by decide) (C0.ts _ fw_X1_done_32) rfl dX1_done_1 ?_
  exact r_iret C0 rfl hw hV dX1_done_4
/-! StepBench$Numbers.put(IJ)V -/
abbrev rm_X2_put : Room := { frames := 1, cells := 0, slots := 0, locals := 21 }
set_option maxRecDepth 20000 in
theorem fw_X2_put_19 : Cond.fieldLink RX2 19 "StepBench$Numbers" "cells" "[J" ∈ wsX2_put := by decide +kernel
set_option maxRecDepth 20000 in
theorem iw_X2_put_X2 : ∀ w ∈ wsX20, w ∈ wsX2_put := by decide +kernel
set_option maxRecDepth 20000 in
theorem hd_X2_put : yX2_put.cls = RX2 ∧ yX2_put.cls ≠ "java/lang/invoke/MethodHandle" ∧ yX2_put.cls ≠ "java/lang/invoke/VarHandle" ∧ (parseMethodDescriptor yX2_put.desc).map (fun d => d.parameters.length) = some 2 := by decide +kernel
def V_X2_put (si ai L : Nat) (p0 : Int32) (p1 : Int64) (S : SS) (post : SS → Prop) : Prop :=
  (V_X2_has si ai L p0 S (fun (r1 : Int32) (S2 : SS) => ((r1 = 0 → (post S2)) ∧ (¬ r1 = 0 → (vp_in p0 L ∧ ∀ S4 : SS, S4 = (sA S2 ai (vp_updL (gA S2 ai) p0.toNatClampNeg p1)) → (post S4))))))
set_option maxHeartbeats 4000000 in
set_option maxRecDepth 100000 in
theorem c_X2_put {po pa si ai L : Nat} (hO : lnN ad cI cJ X po pa si ai L) {S : SS} {p0 : Int32} {p1 : Int64} {post : SS → Prop} (hV : V_X2_put si ai L p0 p1 S post) : MV l yX2_put wsX2_put rm_X2_put [.ref (ad po), .int p0, .long p1] D n0 ad cI cJ X S post := by
  refine Met.ofW (cc := cX2_put) (maxL := 4) (ret := none) (by decide) rfl ?_
  intro p e s m args below meth c s₁ B hml hv
  obtain ⟨rfl, hv⟩ := hv
  have C0 := Bd.mk B hml (atoms_spec (ws := wsX2_put) B.pre) (findClass_of_methodNamed B.named) hv.1
  have hw : Wh D n0 ad cI cJ X S s s.heap [] := ⟨hv.2.1, hv.2.2, va_S.rf⟩
  refine r_entry (Nat.le_of_ble_eq_true rfl) (fun ls hl => ?_)
  have hl : lv_has ls 4 [(0, .ref (ad po)), (1, .int p0), (2, .long p1)] := hl
  unfold V_X2_put at hV
  refine lv_aload_n C0.x C0.b dX2_put_0 rfl (lv_at hl 0 rfl) ?_
  refine lv_iload_n C0.x C0.b dX2_put_1 rfl (lv_at hl 1 rfl) ?_
  refine r_cV_i (As := [.int p0]) (rest := []) C0 hw (c_X2_has hO hV) (cwV 1 C0.ts gX2_put_X2_has rfl rfl rfl hd_X2_has ⟨Nat.le_of_ble_eq_true rfl, Nat.le_of_ble_eq_true rfl⟩) (hO S).1 rfl rfl hl.1 rfl (Nat.le_of_ble_eq_true rfl) ⟨Nat.le_of_ble_eq_true rfl, Nat.le_of_ble_eq_true rfl⟩ dX2_put_2 (fun r1 S2 H locs hV hw => ?_)
  refine lv_if_eq (tgt := 15) C0.x C0.b dX2_put_5 (by decide) (fun c3 => ?_) (fun c3 => ?_)
  · have hV := hV.1 c3
    exact r_vret C0 rfl hw hV dX2_put_15
  · have hV := hV.2 c3
    refine lv_aload_n C0.x C0.b dX2_put_8 rfl (lv_at hl 0 rfl) ?_
    refine r_get C0 hw (C := RX2) (T := TX2) (N := 2) (v := .ref (ad pa)) iw_X2_put_X2 (hO S2).1 rfl 0 (by decide) (C0.ts _ fw_X2_put_19) rfl dX2_put_9 ?_
    refine lv_iload_n C0.x C0.b dX2_put_12 rfl (lv_at hl 1 rfl) ?_
    refine lv_lload_n C0.x C0.b dX2_put_13 rfl (lv_at hl 2 rfl) ?_
    refine r_last C0 hw (hO S2).2.1 hV.1 dX2_put_14 (S' := (sA S2 ai (vp_updL (gA S2 ai) p0.toNatClampNeg p1))) ((hO S2).2.2.2 (vp_updL (gA S2 ai) p0.toNatClampNeg p1)) (fun S4 H locs eS4 hw => ?_)
    have hV := hV.2 S4 eS4
    exact r_vret C0 rfl hw hV dX2_put_15
/-! StepBench$Machine.follow(I)I -/
abbrev rm_X1_follow : Room := { frames := 3, cells := 0, slots := 0, locals := 63 }
set_option maxRecDepth 20000 in
theorem fw_X1_follow_29 : Cond.fieldLink RX1 29 "StepBench$Machine" "heaps" "LStepBench$Numbers;" ∈ wsX1_follow := by decide +kernel
set_option maxRecDepth 20000 in
theorem iw_X1_follow_X1 : ∀ w ∈ wsX10, w ∈ wsX1_follow := by decide +kernel
set_option maxRecDepth 20000 in
theorem hd_X1_follow : yX1_follow.cls = RX1 ∧ yX1_follow.cls ≠ "java/lang/invoke/MethodHandle" ∧ yX1_follow.cls ≠ "java/lang/invoke/VarHandle" ∧ (parseMethodDescriptor yX1_follow.desc).map (fun d => d.parameters.length) = some 1 := by decide +kernel
def V_X1_follow  (p0 : Int32) (S : SS) (post : Int32 → SS → Prop) : Prop :=
  (V_X1_heap p0 S (fun (r1 : Int32) (S2 : SS) => (V_X1_kind p0 S2 (fun (r3 : Int32) (S4 : SS) => ((r3 = 0 → (V_X2_at 16 26 4 r1 S4 (fun (r6 : Int64) (S7 : SS) => (V_X2_put 16 26 4 r1 (r6 + (1 : Int64)) S7 (fun (S9 : SS) => (V_X1_next p0 S9 (fun (r10 : Int32) (S11 : SS) => (post r10 S11)))))))) ∧ (¬ r3 = 0 → (V_X2_at 16 26 4 r1 S4 (fun (r12 : Int64) (S13 : SS) => ((r12 = (0 : Int64) → (V_X1_otherwise p0 S13 (fun (r15 : Int32) (S16 : SS) => (post r15 S16)))) ∧ (¬ r12 = (0 : Int64) → (V_X2_at 16 26 4 r1 S13 (fun (r17 : Int64) (S18 : SS) => (V_X2_put 16 26 4 r1 (r17 - (1 : Int64)) S18 (fun (S20 : SS) => (V_X1_next p0 S20 (fun (r21 : Int32) (S22 : SS) => (post r21 S22)))))))))))))))))
set_option maxHeartbeats 4000000 in
set_option maxRecDepth 100000 in
theorem c_X1_follow  {S : SS} {p0 : Int32} {post : Int32 → SS → Prop} (hV : V_X1_follow  p0 S post) : MI l yX1_follow wsX1_follow rm_X1_follow [.ref (ad 37), .int p0] D n0 ad cI cJ X S post := by
  refine Met.ofW (cc := cX1_follow) (maxL := 3) (ret := (some .int)) (by decide) rfl ?_
  intro p e s m args below meth c s₁ B hml hv
  obtain ⟨rfl, hv⟩ := hv
  have C0 := Bd.mk B hml (atoms_spec (ws := wsX1_follow) B.pre) (findClass_of_methodNamed B.named) hv.1
  have hw : Wh D n0 ad cI cJ X S s s.heap [] := ⟨hv.2.1, hv.2.2, va_S.rf⟩
  refine r_entry (Nat.le_of_ble_eq_true rfl) (fun ls hl => ?_)
  have hl : lv_has ls 3 [(0, .ref (ad 37)), (1, .int p0)] := hl
  unfold V_X1_follow at hV
  refine lv_aload_n C0.x C0.b dX1_follow_0 rfl (lv_at hl 0 rfl) ?_
  refine lv_iload_n C0.x C0.b dX1_follow_1 rfl (lv_at hl 1 rfl) ?_
  refine r_cV_i (As := [.int p0]) (rest := []) C0 hw (c_X1_heap  hV) (cwV 1 C0.ts gX1_follow_X1_heap rfl rfl rfl hd_X1_heap ⟨Nat.le_of_ble_eq_true rfl, Nat.le_of_ble_eq_true rfl⟩) (lg_37 ad cI cJ X S) rfl rfl hl.1 rfl (Nat.le_of_ble_eq_true rfl) ⟨Nat.le_of_ble_eq_true rfl, Nat.le_of_ble_eq_true rfl⟩ dX1_follow_2 (fun r1 S2 H locs hV hw => ?_)
  refine lv_istore_n (lv' := [(2, .int r1), (0, .ref (ad 37)), (1, .int p0)]) C0.x C0.b dX1_follow_5 rfl hl (by decide) rfl (fun ls hl => ?_)
  refine lv_aload_n C0.x C0.b dX1_follow_6 rfl (lv_at hl 1 rfl) ?_
  refine lv_iload_n C0.x C0.b dX1_follow_7 rfl (lv_at hl 2 rfl) ?_
  refine r_cV_i (As := [.int p0]) (rest := []) C0 hw (c_X1_kind  hV) (cwV 1 C0.ts gX1_follow_X1_kind rfl rfl rfl hd_X1_kind ⟨Nat.le_of_ble_eq_true rfl, Nat.le_of_ble_eq_true rfl⟩) (lg_37 ad cI cJ X S2) rfl rfl hl.1 rfl (Nat.le_of_ble_eq_true rfl) ⟨Nat.le_of_ble_eq_true rfl, Nat.le_of_ble_eq_true rfl⟩ dX1_follow_8 (fun r3 S4 H locs hV hw => ?_)
  refine lv_if_ne (tgt := 38) C0.x C0.b dX1_follow_11 (by decide) (fun c5 => ?_) (fun c5 => ?_)
  · have hV := hV.2 c5
    refine lv_aload_n C0.x C0.b dX1_follow_38 rfl (lv_at hl 1 rfl) ?_
    refine r_get C0 hw (C := RX1) (T := TX1) (N := 6) (v := .ref (ad 46)) iw_X1_follow_X1 (lg_37 ad cI cJ X S4) rfl 4 (by decide) (C0.ts _ fw_X1_follow_29) rfl dX1_follow_39 ?_
    refine lv_iload_n C0.x C0.b dX1_follow_42 rfl (lv_at hl 0 rfl) ?_
    refine r_cV_l (As := [.int r1]) (rest := []) C0 hw (c_X2_at (ln_46 ad cI cJ X) hV) (cwV 1 C0.ts gX1_follow_X2_at rfl rfl rfl hd_X2_at ⟨Nat.le_of_ble_eq_true rfl, Nat.le_of_ble_eq_true rfl⟩) (lg_46 ad cI cJ X S4) rfl rfl hl.1 rfl (Nat.le_of_ble_eq_true rfl) ⟨Nat.le_of_ble_eq_true rfl, Nat.le_of_ble_eq_true rfl⟩ dX1_follow_43 (fun r12 S13 H locs hV hw => ?_)
    refine lv_lconst (v := 0) C0.x C0.b dX1_follow_46 (by decide) ?_
    refine r_lcmp C0 dX1_follow_47 ?_
    refine lv_if_ne (tgt := 57) C0.x C0.b dX1_follow_48 (by decide) (fun c14 => ?_) (fun c14 => ?_)
    · have hV := hV.2 (fun h => c14 ((lc_eq _ _).mpr h))
      refine lv_aload_n C0.x C0.b dX1_follow_57 rfl (lv_at hl 1 rfl) ?_
      refine r_get C0 hw (C := RX1) (T := TX1) (N := 6) (v := .ref (ad 46)) iw_X1_follow_X1 (lg_37 ad cI cJ X S13) rfl 4 (by decide) (C0.ts _ fw_X1_follow_29) rfl dX1_follow_58 ?_
      refine lv_iload_n C0.x C0.b dX1_follow_61 rfl (lv_at hl 0 rfl) ?_
      refine lv_aload_n C0.x C0.b dX1_follow_62 rfl (lv_at hl 1 rfl) ?_
      refine r_get C0 hw (C := RX1) (T := TX1) (N := 6) (v := .ref (ad 46)) iw_X1_follow_X1 (lg_37 ad cI cJ X S13) rfl 4 (by decide) (C0.ts _ fw_X1_follow_29) rfl dX1_follow_63 ?_
      refine lv_iload_n C0.x C0.b dX1_follow_66 rfl (lv_at hl 0 rfl) ?_
      refine r_cV_l (As := [.int r1]) (rest := [.int r1, .ref (ad 46)]) C0 hw (c_X2_at (ln_46 ad cI cJ X) hV) (cwV 1 C0.ts gX1_follow_X2_at rfl rfl rfl hd_X2_at ⟨Nat.le_of_ble_eq_true rfl, Nat.le_of_ble_eq_true rfl⟩) (lg_46 ad cI cJ X S13) rfl rfl hl.1 rfl (Nat.le_of_ble_eq_true rfl) ⟨Nat.le_of_ble_eq_true rfl, Nat.le_of_ble_eq_true rfl⟩ dX1_follow_67 (fun r17 S18 H locs hV hw => ?_)
      refine lv_lconst (v := 1) C0.x C0.b dX1_follow_70 (by decide) ?_
      refine lv_lsub C0.x C0.b dX1_follow_71 ?_
      refine r_cV_v (As := [.int r1, .long (r17 - (1 : Int64))]) (rest := []) C0 hw (c_X2_put (ln_46 ad cI cJ X) hV) (cwV 2 C0.ts gX1_follow_X2_put rfl rfl rfl hd_X2_put ⟨Nat.le_of_ble_eq_true rfl, Nat.le_of_ble_eq_true rfl⟩) (lg_46 ad cI cJ X S18) rfl rfl hl.1 rfl (Nat.le_of_ble_eq_true rfl) ⟨Nat.le_of_ble_eq_true rfl, Nat.le_of_ble_eq_true rfl⟩ dX1_follow_72 (fun S20 H locs hV hw => ?_)
      refine lv_aload_n C0.x C0.b dX1_follow_75 rfl (lv_at hl 1 rfl) ?_
      refine lv_iload_n C0.x C0.b dX1_follow_76 rfl (lv_at hl 2 rfl) ?_
      refine r_cV_i (As := [.int p0]) (rest := []) C0 hw (c_X1_next  hV) (cwV 1 C0.ts gX1_follow_X1_next rfl rfl rfl hd_X1_next ⟨Nat.le_of_ble_eq_true rfl, Nat.le_of_ble_eq_true rfl⟩) (lg_37 ad cI cJ X S20) rfl rfl hl.1 rfl (Nat.le_of_ble_eq_true rfl) ⟨Nat.le_of_ble_eq_true rfl, Nat.le_of_ble_eq_true rfl⟩ dX1_follow_77 (fun r21 S22 H locs hV hw => ?_)
      exact r_iret C0 rfl hw hV dX1_follow_80
    · have hV := hV.1 ((lc_eq _ _).mp c14)
      refine lv_aload_n C0.x C0.b dX1_follow_51 rfl (lv_at hl 1 rfl) ?_
      refine lv_iload_n C0.x C0.b dX1_follow_52 rfl (lv_at hl 2 rfl) ?_
      refine r_cV_i (As := [.int p0]) (rest := []) C0 hw (c_X1_otherwise  hV) (cwV 1 C0.ts gX1_follow_X1_otherwise rfl rfl rfl hd_X1_otherwise ⟨Nat.le_of_ble_eq_true rfl, Nat.le_of_ble_eq_true rfl⟩) (lg_37 ad cI cJ X S13) rfl rfl hl.1 rfl (Nat.le_of_ble_eq_true rfl) ⟨Nat.le_of_ble_eq_true rfl, Nat.le_of_ble_eq_true rfl⟩ dX1_follow_53 (fun r15 S16 H locs hV hw => ?_)
      exact r_iret C0 rfl hw hV dX1_follow_56
  · have hV := hV.1 c5
    refine lv_aload_n C0.x C0.b dX1_follow_14 rfl (lv_at hl 1 rfl) ?_
    refine r_get C0 hw (C := RX1) (T := TX1) (N := 6) (v := .ref (ad 46)) iw_X1_follow_X1 (lg_37 ad cI cJ X S4) rfl 4 (by decide) (C0.ts _ fw_X1_follow_29) rfl dX1_follow_15 ?_
    refine lv_iload_n C0.x C0.b dX1_follow_18 rfl (lv_at hl 0 rfl) ?_
    refine lv_aload_n C0.x C0.b dX1_follow_19 rfl (lv_at hl 1 rfl) ?_
    refine r_get C0 hw (C := RX1) (T := TX1) (N := 6) (v := .ref (ad 46)) iw_X1_follow_X1 (lg_37 ad cI cJ X S4) rfl 4 (by decide) (C0.ts _ fw_X1_follow_29) rfl dX1_follow_20 ?_
    refine lv_iload_n C0.x C0.b dX1_follow_23 rfl (lv_at hl 0 rfl) ?_
    refine r_cV_l (As := [.int r1]) (rest := [.int r1, .ref (ad 46)]) C0 hw (c_X2_at (ln_46 ad cI cJ X) hV) (cwV 1 C0.ts gX1_follow_X2_at rfl rfl rfl hd_X2_at ⟨Nat.le_of_ble_eq_true rfl, Nat.le_of_ble_eq_true rfl⟩) (lg_46 ad cI cJ X S4) rfl rfl hl.1 rfl (Nat.le_of_ble_eq_true rfl) ⟨Nat.le_of_ble_eq_true rfl, Nat.le_of_ble_eq_true rfl⟩ dX1_follow_24 (fun r6 S7 H locs hV hw => ?_)
    refine lv_lconst (v := 1) C0.x C0.b dX1_follow_27 (by decide) ?_
    refine lv_ladd C0.x C0.b dX1_follow_28 ?_
    refine r_cV_v (As := [.int r1, .long (r6 + (1 : Int64))]) (rest := []) C0 hw (c_X2_put (ln_46 ad cI cJ X) hV) (cwV 2 C0.ts gX1_follow_X2_put rfl rfl rfl hd_X2_put ⟨Nat.le_of_ble_eq_true rfl, Nat.le_of_ble_eq_true rfl⟩) (lg_46 ad cI cJ X S7) rfl rfl hl.1 rfl (Nat.le_of_ble_eq_true rfl) ⟨Nat.le_of_ble_eq_true rfl, Nat.le_of_ble_eq_true rfl⟩ dX1_follow_29 (fun S9 H locs hV hw => ?_)
    refine lv_aload_n C0.x C0.b dX1_follow_32 rfl (lv_at hl 1 rfl) ?_
    refine lv_iload_n C0.x C0.b dX1_follow_33 rfl (lv_at hl 2 rfl) ?_
    refine r_cV_i (As := [.int p0]) (rest := []) C0 hw (c_X1_next  hV) (cwV 1 C0.ts gX1_follow_X1_next rfl rfl rfl hd_X1_next ⟨Nat.le_of_ble_eq_true rfl, Nat.le_of_ble_eq_true rfl⟩) (lg_37 ad cI cJ X S9) rfl rfl hl.1 rfl (Nat.le_of_ble_eq_true rfl) ⟨Nat.le_of_ble_eq_true rfl, Nat.le_of_ble_eq_true rfl⟩ dX1_follow_34 (fun r10 S11 H locs hV hw => ?_)
    exact r_iret C0 rfl hw hV dX1_follow_37
/-! StepBench$Machine.work(I)I -/
abbrev rm_X1_work : Room := { frames := 4, cells := 0, slots := 0, locals := 85 }
set_option maxRecDepth 20000 in
theorem fw_X1_work_32 : Cond.fieldLink RX1 32 "StepBench$Machine" "done" "I" ∈ wsX1_work := by decide +kernel
set_option maxRecDepth 20000 in
theorem iw_X1_work_X1 : ∀ w ∈ wsX10, w ∈ wsX1_work := by decide +kernel
set_option maxRecDepth 20000 in
theorem hd_X1_work : yX1_work.cls = RX1 ∧ yX1_work.cls ≠ "java/lang/invoke/MethodHandle" ∧ yX1_work.cls ≠ "java/lang/invoke/VarHandle" ∧ (parseMethodDescriptor yX1_work.desc).map (fun d => d.parameters.length) = some 1 := by decide +kernel
def V_X1_work_7  (v1 : Int32)  (post : Int32 → SS → Prop) : Nat → Int32 → SS → Prop
  | 0, _, _ => False
  | n + 1, v2, S =>
    ((v1 ≤ (gI S 17) → (V_X1_size  S (fun (r3 : Int32) (S4 : SS) => ((r3 ≤ v2 → (post (0 : Int32) S4)) ∧ (¬ r3 ≤ v2 → (post (-2 : Int32) S4)))))) ∧ (¬ v1 ≤ (gI S 17) → (V_X1_size  S (fun (r6 : Int32) (S7 : SS) => ((r6 ≤ v2 → (V_X1_size  S7 (fun (r9 : Int32) (S10 : SS) => ((r9 ≤ v2 → (post (0 : Int32) S10)) ∧ (¬ r9 ≤ v2 → (post (-2 : Int32) S10)))))) ∧ (¬ r6 ≤ v2 → (∀ S12 : SS, S12 = (sI S7 17 ((gI S7 17) + (1 : Int32))) → (V_X1_kind v2 S12 (fun (r13 : Int32) (S14 : SS) => ((r13 = (2 : Int32) → (post (1 : Int32) S14)) ∧ (¬ r13 = (2 : Int32) → (V_X1_follow v2 S14 (fun (r16 : Int32) (S17 : SS) => (V_X1_work_7  v1  post n r16 S17))))))))))))))
set_option maxHeartbeats 4000000 in
set_option maxRecDepth 100000 in
theorem lp_X1_work_7  (v1 : Int32)  (post : Int32 → SS → Prop) (C0 : Bd p s m meth c args cX1_work 3 (some .int) wsX1_work RX1 D n0 cI cJ) : ∀ (n : Nat) (v2 : Int32) (S : SS), V_X1_work_7  v1  post n v2 S → ∀ (H : Heap) (locs : List Loc), Wh D n0 ad cI cJ X S s H locs → ∀ ls : Array Slot, lv_has ls 3 [(0, .ref (ad 37)), (1, .int v1), (2, .int v2)] → W p l e rm_X1_work s m args below meth c H locs 0 0 (MQ below (va_Qi post (fun S' t => Wd D n0 ad cI cJ X S' t) (fr n0)) args s 0 0 (fr n0)) (F0 m 7 ls []) := by
  intro n
  induction n with
  | zero => intro v2 S hV; exact False.elim hV
  | succ n ih =>
    intro v2 S hV H locs hw ls hl
    rw [V_X1_work_7] at hV
    refine lv_aload_n C0.x C0.b dX1_work_7 rfl (lv_at hl 0 rfl) ?_
    refine r_get C0 hw (C := RX1) (T := TX1) (N := 6) (v := .int (gI S 17)) iw_X1_work_X1 (lg_37 ad cI cJ X S) rfl 5 (by decide) (C0.ts _ fw_X1_work_32) rfl dX1_work_8 ?_
    refine lv_iload_n C0.x C0.b dX1_work_11 rfl (lv_at hl 1 rfl) ?_
    refine lv_icmp_ge (tgt := 53) C0.x C0.b dX1_work_12 (by decide) (fun c2 => ?_) (fun c2 => ?_)
    · have hV := hV.1 c2
      refine lv_iload_n C0.x C0.b dX1_work_53 rfl (lv_at hl 2 rfl) ?_
      refine lv_aload_n C0.x C0.b dX1_work_54 rfl (lv_at hl 0 rfl) ?_
      refine r_cV_i (As := []) (rest := [.int v2]) C0 hw (c_X1_size  hV) (cwV 0 C0.ts gX1_work_X1_size rfl rfl rfl hd_X1_size ⟨Nat.le_of_ble_eq_true rfl, Nat.le_of_ble_eq_true rfl⟩) (lg_37 ad cI cJ X S) rfl rfl hl.1 rfl (Nat.le_of_ble_eq_true rfl) ⟨Nat.le_of_ble_eq_true rfl, Nat.le_of_ble_eq_true rfl⟩ dX1_work_55 (fun r3 S4 H locs hV hw => ?_)
      refine lv_icmp_ge (tgt := 66) C0.x C0.b dX1_work_58 (by decide) (fun c5 => ?_) (fun c5 => ?_)
      · have hV := hV.1 c5
        refine lv_iconst (v := 0) C0.x C0.b dX1_work_66 (by decide) ?_
        exact r_iret C0 rfl hw hV dX1_work_67
      · have hV := hV.2 c5
        refine lv_bipush (v := -2) C0.x C0.b dX1_work_61 (by decide) ?_
        refine lv_goto (tgt := 67) C0.x C0.b dX1_work_63 (by decide) ?_
        exact r_iret C0 rfl hw hV dX1_work_67
    · have hV := hV.2 c2
      refine lv_iload_n C0.x C0.b dX1_work_15 rfl (lv_at hl 2 rfl) ?_
      refine lv_aload_n C0.x C0.b dX1_work_16 rfl (lv_at hl 0 rfl) ?_
      refine r_cV_i (As := []) (rest := [.int v2]) C0 hw (c_X1_size  hV) (cwV 0 C0.ts gX1_work_X1_size rfl rfl rfl hd_X1_size ⟨Nat.le_of_ble_eq_true rfl, Nat.le_of_ble_eq_true rfl⟩) (lg_37 ad cI cJ X S) rfl rfl hl.1 rfl (Nat.le_of_ble_eq_true rfl) ⟨Nat.le_of_ble_eq_true rfl, Nat.le_of_ble_eq_true rfl⟩ dX1_work_17 (fun r6 S7 H locs hV hw => ?_)
      refine lv_icmp_ge (tgt := 53) C0.x C0.b dX1_work_20 (by decide) (fun c8 => ?_) (fun c8 => ?_)
      · have hV := hV.1 c8
        refine lv_iload_n C0.x C0.b dX1_work_53 rfl (lv_at hl 2 rfl) ?_
        refine lv_aload_n C0.x C0.b dX1_work_54 rfl (lv_at hl 0 rfl) ?_
        refine r_cV_i (As := []) (rest := [.int v2]) C0 hw (c_X1_size  hV) (cwV 0 C0.ts gX1_work_X1_size rfl rfl rfl hd_X1_size ⟨Nat.le_of_ble_eq_true rfl, Nat.le_of_ble_eq_true rfl⟩) (lg_37 ad cI cJ X S7) rfl rfl hl.1 rfl (Nat.le_of_ble_eq_true rfl) ⟨Nat.le_of_ble_eq_true rfl, Nat.le_of_ble_eq_true rfl⟩ dX1_work_55 (fun r9 S10 H locs hV hw => ?_)
        refine lv_icmp_ge (tgt := 66) C0.x C0.b dX1_work_58 (by decide) (fun c11 => ?_) (fun c11 => ?_)
        · have hV := hV.1 c11
          refine lv_iconst (v := 0) C0.x C0.b dX1_work_66 (by decide) ?_
          exact r_iret C0 rfl hw hV dX1_work_67
        · have hV := hV.2 c11
          refine lv_bipush (v := -2) C0.x C0.b dX1_work_61 (by decide) ?_
          refine lv_goto (tgt := 67) C0.x C0.b dX1_work_63 (by decide) ?_
          exact r_iret C0 rfl hw hV dX1_work_67
      · have hV := hV.2 c8
        refine lv_aload_n C0.x C0.b dX1_work_23 rfl (lv_at hl 0 rfl) ?_
        refine lv_dup C0.x C0.b dX1_work_24 rfl ?_
        refine r_get C0 hw (C := RX1) (T := TX1) (N := 6) (v := .int (gI S7 17)) iw_X1_work_X1 (lg_37 ad cI cJ X S7) rfl 5 (by decide) (C0.ts _ fw_X1_work_32) rfl dX1_work_25 ?_
        refine lv_iconst (v := 1) C0.x C0.b dX1_work_28 (by decide) ?_
        refine lv_iadd C0.x C0.b dX1_work_29 ?_
        refine r_put C0 hw (C := RX1) (T := TX1) (N := 6) (ty := .int) iw_X1_work_X1 tyX1 tyX1_ok nmX1 (lg_37 ad cI cJ X S7) rfl 5 (by decide) (C0.ts _ fw_X1_work_32) rfl (by decide +kernel) rfl rfl (Nat.le_of_ble_eq_true rfl) dX1_work_30 (S' := (sI S7 17 ((gI S7 17) + (1 : Int32)))) (ls_37_5 ad cI cJ X S7 ((gI S7 17) + (1 : Int32))) (fun S12 H locs eS12 hw => ?_)
        have hV := hV S12 eS12
        refine lv_aload_n C0.x C0.b dX1_work_33 rfl (lv_at hl 0 rfl) ?_
        refine lv_iload_n C0.x C0.b dX1_work_34 rfl (lv_at hl 2 rfl) ?_
        refine r_cV_i (As := [.int v2]) (rest := []) C0 hw (c_X1_kind  hV) (cwV 1 C0.ts gX1_work_X1_kind rfl rfl rfl hd_X1_kind ⟨Nat.le_of_ble_eq_true rfl, Nat.le_of_ble_eq_true rfl⟩) (lg_37 ad cI cJ X S12) rfl rfl hl.1 rfl (Nat.le_of_ble_eq_true rfl) ⟨Nat.le_of_ble_eq_true rfl, Nat.le_of_ble_eq_true rfl⟩ dX1_work_35 (fun r13 S14 H locs hV hw => ?_)
        refine lv_iconst (v := 2) C0.x C0.b dX1_work_38 (by decide) ?_
        refine lv_icmp_ne (tgt := 44) C0.x C0.b dX1_work_39 (by decide) (fun c15 => ?_) (fun c15 => ?_)
        · have hV := hV.2 c15
          refine lv_aload_n C0.x C0.b dX1_work_44 rfl (lv_at hl 0 rfl) ?_
          refine lv_iload_n C0.x C0.b dX1_work_45 rfl (lv_at hl 2 rfl) ?_
          refine r_cV_i (As := [.int v2]) (rest := []) C0 hw (c_X1_follow  hV) (cwV 1 C0.ts gX1_work_X1_follow rfl rfl rfl hd_X1_follow ⟨Nat.le_of_ble_eq_true rfl, Nat.le_of_ble_eq_true rfl⟩) (lg_37 ad cI cJ X S14) rfl rfl hl.1 rfl (Nat.le_of_ble_eq_true rfl) ⟨Nat.le_of_ble_eq_true rfl, Nat.le_of_ble_eq_true rfl⟩ dX1_work_46 (fun r16 S17 H locs hV hw => ?_)
          refine lv_istore_n (lv' := [(2, .int r16), (0, .ref (ad 37)), (1, .int v1)]) C0.x C0.b dX1_work_49 rfl hl (by decide) rfl (fun ls hl => ?_)
          refine lv_goto (tgt := 7) C0.x C0.b dX1_work_50 (by decide) ?_
          exact ih _ _ hV _ _ hw _ (lv_sub hl [1, 2, 0] rfl)
        · have hV := hV.1 c15
          refine lv_iconst (v := 1) C0.x C0.b dX1_work_42 (by decide) ?_
          exact r_iret C0 rfl hw hV dX1_work_43
def V_X1_work  (p0 : Int32) (S : SS) (post : Int32 → SS → Prop) : Prop :=
  (∀ S1 : SS, S1 = (sI S 17 (0 : Int32)) → (∃ n7 : Nat, V_X1_work_7  p0  post n7 (0 : Int32) S1))
set_option maxHeartbeats 4000000 in
set_option maxRecDepth 100000 in
theorem c_X1_work  {S : SS} {p0 : Int32} {post : Int32 → SS → Prop} (hV : V_X1_work  p0 S post) : MI l yX1_work wsX1_work rm_X1_work [.ref (ad 37), .int p0] D n0 ad cI cJ X S post := by
  refine Met.ofW (cc := cX1_work) (maxL := 3) (ret := (some .int)) (by decide) rfl ?_
  intro p e s m args below meth c s₁ B hml hv
  obtain ⟨rfl, hv⟩ := hv
  have C0 := Bd.mk B hml (atoms_spec (ws := wsX1_work) B.pre) (findClass_of_methodNamed B.named) hv.1
  have hw : Wh D n0 ad cI cJ X S s s.heap [] := ⟨hv.2.1, hv.2.2, va_S.rf⟩
  refine r_entry (Nat.le_of_ble_eq_true rfl) (fun ls hl => ?_)
  have hl : lv_has ls 3 [(0, .ref (ad 37)), (1, .int p0)] := hl
  unfold V_X1_work at hV
  refine lv_iconst (v := 0) C0.x C0.b dX1_work_0 (by decide) ?_
  refine lv_istore_n (lv' := [(2, .int (0 : Int32)), (0, .ref (ad 37)), (1, .int p0)]) C0.x C0.b dX1_work_1 rfl hl (by decide) rfl (fun ls hl => ?_)
  refine lv_aload_n C0.x C0.b dX1_work_2 rfl (lv_at hl 1 rfl) ?_
  refine lv_iconst (v := 0) C0.x C0.b dX1_work_3 (by decide) ?_
  refine r_put C0 hw (C := RX1) (T := TX1) (N := 6) (ty := .int) iw_X1_work_X1 tyX1 tyX1_ok nmX1 (lg_37 ad cI cJ X S) rfl 5 (by decide) (C0.ts _ fw_X1_work_32) rfl (by decide +kernel) rfl rfl (Nat.le_of_ble_eq_true rfl) dX1_work_4 (S' := (sI S 17 (0 : Int32))) (ls_37_5 ad cI cJ X S (0 : Int32)) (fun S1 H locs eS1 hw => ?_)
  have hV := hV S1 eS1
  obtain ⟨n7, hV⟩ := hV
  exact lp_X1_work_7  _ post C0  n7 _ _ hV _ _ hw _ (lv_sub hl [1, 2, 0] rfl)
/-! StepBench$Machine.fractionsNeeded()I -/
abbrev rm_X1_fractionsNeeded : Room := { frames := 3, cells := 0, slots := 0, locals := 63 }
set_option maxRecDepth 20000 in
theorem hd_X1_fractionsNeeded : yX1_fractionsNeeded.cls = RX1 ∧ yX1_fractionsNeeded.cls ≠ "java/lang/invoke/MethodHandle" ∧ yX1_fractionsNeeded.cls ≠ "java/lang/invoke/VarHandle" ∧ (parseMethodDescriptor yX1_fractionsNeeded.desc).map (fun d => d.parameters.length) = some 0 := by decide +kernel
def V_X1_fractionsNeeded_9    (post : Int32 → SS → Prop) : Nat → Int32 → Int32 → SS → Prop
  | 0, _, _, _ => False
  | n + 1, v1, v2, S =>
    (V_X1_size  S (fun (r4 : Int32) (S5 : SS) => ((r4 ≤ v2 → (post v1 S5)) ∧ (¬ r4 ≤ v2 → (V_X1_kind v2 S5 (fun (r7 : Int32) (S8 : SS) => ((r7 = (1 : Int32) → (∀ x10 : Int32, x10 = (v1 + (1 : Int32)) → (∀ x11 : Int32, x11 = v2 + 1 → (V_X1_fractionsNeeded_9    post n x10 x11 S8)))) ∧ (¬ r7 = (1 : Int32) → (∀ x12 : Int32, x12 = (v1 + (0 : Int32)) → (∀ x13 : Int32, x13 = v2 + 1 → (V_X1_fractionsNeeded_9    post n x12 x13 S8)))))))))))
set_option maxHeartbeats 4000000 in
set_option maxRecDepth 100000 in
theorem lp_X1_fractionsNeeded_9    (post : Int32 → SS → Prop) (C0 : Bd p s m meth c args cX1_fractionsNeeded 3 (some .int) wsX1_fractionsNeeded RX1 D n0 cI cJ) : ∀ (n : Nat) (v1 : Int32) (v2 : Int32) (S : SS), V_X1_fractionsNeeded_9    post n v1 v2 S → ∀ (H : Heap) (locs : List Loc), Wh D n0 ad cI cJ X S s H locs → ∀ ls : Array Slot, lv_has ls 3 [(0, .ref (ad 37)), (1, .int v1), (2, .int v2)] → W p l e rm_X1_fractionsNeeded s m args below meth c H locs 0 0 (MQ below (va_Qi post (fun S' t => Wd D n0 ad cI cJ X S' t) (fr n0)) args s 0 0 (fr n0)) (F0 m 9 ls []) := by
  intro n
  induction n with
  | zero => intro v1 v2 S hV; exact False.elim hV
  | succ n ih =>
    intro v1 v2 S hV H locs hw ls hl
    rw [V_X1_fractionsNeeded_9] at hV
    refine lv_iload_n C0.x C0.b dX1_fractionsNeeded_9 rfl (lv_at hl 2 rfl) ?_
    refine lv_aload_n C0.x C0.b dX1_fractionsNeeded_10 rfl (lv_at hl 0 rfl) ?_
    refine r_cV_i (As := []) (rest := [.int v2]) C0 hw (c_X1_size  hV) (cwV 0 C0.ts gX1_fractionsNeeded_X1_size rfl rfl rfl hd_X1_size ⟨Nat.le_of_ble_eq_true rfl, Nat.le_of_ble_eq_true rfl⟩) (lg_37 ad cI cJ X S) rfl rfl hl.1 rfl (Nat.le_of_ble_eq_true rfl) ⟨Nat.le_of_ble_eq_true rfl, Nat.le_of_ble_eq_true rfl⟩ dX1_fractionsNeeded_11 (fun r4 S5 H locs hV hw => ?_)
    refine lv_icmp_ge (tgt := 40) C0.x C0.b dX1_fractionsNeeded_14 (by decide) (fun c6 => ?_) (fun c6 => ?_)
    · have hV := hV.1 c6
      refine lv_iload_n C0.x C0.b dX1_fractionsNeeded_40 rfl (lv_at hl 1 rfl) ?_
      exact r_iret C0 rfl hw hV dX1_fractionsNeeded_41
    · have hV := hV.2 c6
      refine lv_iload_n C0.x C0.b dX1_fractionsNeeded_17 rfl (lv_at hl 1 rfl) ?_
      refine lv_aload_n C0.x C0.b dX1_fractionsNeeded_18 rfl (lv_at hl 0 rfl) ?_
      refine lv_iload_n C0.x C0.b dX1_fractionsNeeded_19 rfl (lv_at hl 2 rfl) ?_
      refine r_cV_i (As := [.int v2]) (rest := [.int v1]) C0 hw (c_X1_kind  hV) (cwV 1 C0.ts gX1_fractionsNeeded_X1_kind rfl rfl rfl hd_X1_kind ⟨Nat.le_of_ble_eq_true rfl, Nat.le_of_ble_eq_true rfl⟩) (lg_37 ad cI cJ X S5) rfl rfl hl.1 rfl (Nat.le_of_ble_eq_true rfl) ⟨Nat.le_of_ble_eq_true rfl, Nat.le_of_ble_eq_true rfl⟩ dX1_fractionsNeeded_20 (fun r7 S8 H locs hV hw => ?_)
      refine lv_iconst (v := 1) C0.x C0.b dX1_fractionsNeeded_23 (by decide) ?_
      refine lv_icmp_ne (tgt := 31) C0.x C0.b dX1_fractionsNeeded_24 (by decide) (fun c9 => ?_) (fun c9 => ?_)
      · have hV := hV.2 c9
        refine lv_iconst (v := 0) C0.x C0.b dX1_fractionsNeeded_31 (by decide) ?_
        refine lv_iadd C0.x C0.b dX1_fractionsNeeded_32 ?_
        refine lv_topi (fun x12 ex12 => ?_)
        have hV := hV x12 ex12
        refine lv_istore_n (lv' := [(1, .int x12), (0, .ref (ad 37)), (2, .int v2)]) C0.x C0.b dX1_fractionsNeeded_33 rfl hl (by decide) rfl (fun ls hl => ?_)
        obtain ⟨x13, ex13⟩ : ∃ z : Int32, z = v2 + 1 := ⟨_, rfl⟩
        have hV := hV x13 ex13
        refine lv_iinc (v := x13) (lv' := [(2, .int x13), (1, .int x12), (0, .ref (ad 37))]) C0.x C0.b dX1_fractionsNeeded_34 hl (k := 2) rfl (by rw [ex13]; rfl) (by decide) rfl (fun ls hl => ?_)
        refine lv_goto (tgt := 9) C0.x C0.b dX1_fractionsNeeded_37 (by decide) ?_
        exact ih _ _ _ hV _ _ hw _ (lv_sub hl [2, 1, 0] rfl)
      · have hV := hV.1 c9
        refine lv_iconst (v := 1) C0.x C0.b dX1_fractionsNeeded_27 (by decide) ?_
        refine lv_goto (tgt := 32) C0.x C0.b dX1_fractionsNeeded_28 (by decide) ?_
        refine lv_iadd C0.x C0.b dX1_fractionsNeeded_32 ?_
        refine lv_topi (fun x10 ex10 => ?_)
        have hV := hV x10 ex10
        refine lv_istore_n (lv' := [(1, .int x10), (0, .ref (ad 37)), (2, .int v2)]) C0.x C0.b dX1_fractionsNeeded_33 rfl hl (by decide) rfl (fun ls hl => ?_)
        obtain ⟨x11, ex11⟩ : ∃ z : Int32, z = v2 + 1 := ⟨_, rfl⟩
        have hV := hV x11 ex11
        refine lv_iinc (v := x11) (lv' := [(2, .int x11), (1, .int x10), (0, .ref (ad 37))]) C0.x C0.b dX1_fractionsNeeded_34 hl (k := 2) rfl (by rw [ex11]; rfl) (by decide) rfl (fun ls hl => ?_)
        refine lv_goto (tgt := 9) C0.x C0.b dX1_fractionsNeeded_37 (by decide) ?_
        exact ih _ _ _ hV _ _ hw _ (lv_sub hl [2, 1, 0] rfl)
def V_X1_fractionsNeeded   (S : SS) (post : Int32 → SS → Prop) : Prop :=
  (V_X1_size  S (fun (r1 : Int32) (S2 : SS) => (∀ x3 : Int32, x3 = ((2 : Int32) * r1) → (∃ n9 : Nat, V_X1_fractionsNeeded_9    post n9 x3 (0 : Int32) S2))))
set_option maxHeartbeats 4000000 in
set_option maxRecDepth 100000 in
theorem c_X1_fractionsNeeded  {S : SS}  {post : Int32 → SS → Prop} (hV : V_X1_fractionsNeeded   S post) : MI l yX1_fractionsNeeded wsX1_fractionsNeeded rm_X1_fractionsNeeded [.ref (ad 37)] D n0 ad cI cJ X S post := by
  refine Met.ofW (cc := cX1_fractionsNeeded) (maxL := 3) (ret := (some .int)) (by decide) rfl ?_
  intro p e s m args below meth c s₁ B hml hv
  obtain ⟨rfl, hv⟩ := hv
  have C0 := Bd.mk B hml (atoms_spec (ws := wsX1_fractionsNeeded) B.pre) (findClass_of_methodNamed B.named) hv.1
  have hw : Wh D n0 ad cI cJ X S s s.heap [] := ⟨hv.2.1, hv.2.2, va_S.rf⟩
  refine r_entry (Nat.le_of_ble_eq_true rfl) (fun ls hl => ?_)
  have hl : lv_has ls 3 [(0, .ref (ad 37))] := hl
  unfold V_X1_fractionsNeeded at hV
  refine lv_iconst (v := 2) C0.x C0.b dX1_fractionsNeeded_0 (by decide) ?_
  refine lv_aload_n C0.x C0.b dX1_fractionsNeeded_1 rfl (lv_at hl 0 rfl) ?_
  refine r_cV_i (As := []) (rest := [.int (2 : Int32)]) C0 hw (c_X1_size  hV) (cwV 0 C0.ts gX1_fractionsNeeded_X1_size rfl rfl rfl hd_X1_size ⟨Nat.le_of_ble_eq_true rfl, Nat.le_of_ble_eq_true rfl⟩) (lg_37 ad cI cJ X S) rfl rfl hl.1 rfl (Nat.le_of_ble_eq_true rfl) ⟨Nat.le_of_ble_eq_true rfl, Nat.le_of_ble_eq_true rfl⟩ dX1_fractionsNeeded_2 (fun r1 S2 H locs hV hw => ?_)
  refine lv_imul C0.x C0.b dX1_fractionsNeeded_5 ?_
  refine lv_topi (fun x3 ex3 => ?_)
  have hV := hV x3 ex3
  refine lv_istore_n (lv' := [(1, .int x3), (0, .ref (ad 37))]) C0.x C0.b dX1_fractionsNeeded_6 rfl hl (by decide) rfl (fun ls hl => ?_)
  refine lv_iconst (v := 0) C0.x C0.b dX1_fractionsNeeded_7 (by decide) ?_
  refine lv_istore_n (lv' := [(2, .int (0 : Int32)), (1, .int x3), (0, .ref (ad 37))]) C0.x C0.b dX1_fractionsNeeded_8 rfl hl (by decide) rfl (fun ls hl => ?_)
  obtain ⟨n9, hV⟩ := hV
  exact lp_X1_fractionsNeeded_9   post C0  n9 _ _ _ hV _ _ hw _ (lv_sub hl [2, 1, 0] rfl)
/-! StepBench$Numbers.zeros(I)V -/
abbrev rm_X2_zeros : Room := { frames := 1, cells := 0, slots := 0, locals := 22 }
set_option maxRecDepth 20000 in
theorem fw_X2_zeros_7 : Cond.fieldLink RX2 7 "StepBench$Numbers" "size" "I" ∈ wsX2_zeros := by decide +kernel
set_option maxRecDepth 20000 in
theorem iw_X2_zeros_X2 : ∀ w ∈ wsX20, w ∈ wsX2_zeros := by decide +kernel
set_option maxRecDepth 20000 in
theorem hd_X2_zeros : yX2_zeros.cls = RX2 ∧ yX2_zeros.cls ≠ "java/lang/invoke/MethodHandle" ∧ yX2_zeros.cls ≠ "java/lang/invoke/VarHandle" ∧ (parseMethodDescriptor yX2_zeros.desc).map (fun d => d.parameters.length) = some 1 := by decide +kernel
def V_X2_zeros_7 (si ai L : Nat) (v1 : Int32)  (post : SS → Prop) : Nat → Int32 → SS → Prop
  | 0, _, _ => False
  | n + 1, v2, S =>
    ((v1 ≤ v2 → (post S)) ∧ (¬ v1 ≤ v2 → (V_X2_add si ai L (0 : Int64) S (fun (r3 : Int32) (S4 : SS) => (∀ x5 : Int32, x5 = v2 + 1 → (V_X2_zeros_7 si ai L v1  post n x5 S4))))))
set_option maxHeartbeats 4000000 in
set_option maxRecDepth 100000 in
theorem lp_X2_zeros_7 {po pa si ai L : Nat} (hO : lnN ad cI cJ X po pa si ai L) (v1 : Int32)  (post : SS → Prop) (C0 : Bd p s m meth c args cX2_zeros 3 none wsX2_zeros RX2 D n0 cI cJ) : ∀ (n : Nat) (v2 : Int32) (S : SS), V_X2_zeros_7 si ai L v1  post n v2 S → ∀ (H : Heap) (locs : List Loc), Wh D n0 ad cI cJ X S s H locs → ∀ ls : Array Slot, lv_has ls 3 [(0, .ref (ad po)), (1, .int v1), (2, .int v2)] → W p l e rm_X2_zeros s m args below meth c H locs 0 0 (MQ below (va_Qv post (fun S' t => Wd D n0 ad cI cJ X S' t) (fr n0)) args s 0 0 (fr n0)) (F0 m 7 ls []) := by
  intro n
  induction n with
  | zero => intro v2 S hV; exact False.elim hV
  | succ n ih =>
    intro v2 S hV H locs hw ls hl
    rw [V_X2_zeros_7] at hV
    refine lv_iload_n C0.x C0.b dX2_zeros_7 rfl (lv_at hl 2 rfl) ?_
    refine lv_iload_n C0.x C0.b dX2_zeros_8 rfl (lv_at hl 1 rfl) ?_
    refine lv_icmp_ge (tgt := 24) C0.x C0.b dX2_zeros_9 (by decide) (fun c2 => ?_) (fun c2 => ?_)
    · have hV := hV.1 c2
      exact r_vret C0 rfl hw hV dX2_zeros_24
    · have hV := hV.2 c2
      refine lv_aload_n C0.x C0.b dX2_zeros_12 rfl (lv_at hl 0 rfl) ?_
      refine lv_lconst (v := 0) C0.x C0.b dX2_zeros_13 (by decide) ?_
      refine r_cV_i (As := [.long (0 : Int64)]) (rest := []) C0 hw (c_X2_add hO hV) (cwV 1 C0.ts gX2_zeros_X2_add rfl rfl rfl hd_X2_add ⟨Nat.le_of_ble_eq_true rfl, Nat.le_of_ble_eq_true rfl⟩) (hO S).1 rfl rfl hl.1 rfl (Nat.le_of_ble_eq_true rfl) ⟨Nat.le_of_ble_eq_true rfl, Nat.le_of_ble_eq_true rfl⟩ dX2_zeros_14 (fun r3 S4 H locs hV hw => ?_)
      refine lv_pop C0.x C0.b dX2_zeros_17 rfl ?_
      obtain ⟨x5, ex5⟩ : ∃ z : Int32, z = v2 + 1 := ⟨_, rfl⟩
      have hV := hV x5 ex5
      refine lv_iinc (v := x5) (lv' := [(2, .int x5), (0, .ref (ad po)), (1, .int v1)]) C0.x C0.b dX2_zeros_18 hl (k := 2) rfl (by rw [ex5]; rfl) (by decide) rfl (fun ls hl => ?_)
      refine lv_goto (tgt := 7) C0.x C0.b dX2_zeros_21 (by decide) ?_
      exact ih _ _ hV _ _ hw _ (lv_sub hl [1, 2, 0] rfl)
def V_X2_zeros (si ai L : Nat) (p0 : Int32) (S : SS) (post : SS → Prop) : Prop :=
  (∀ S1 : SS, S1 = (sI S si (0 : Int32)) → (∃ n7 : Nat, V_X2_zeros_7 si ai L p0  post n7 (0 : Int32) S1))
set_option maxHeartbeats 4000000 in
set_option maxRecDepth 100000 in
theorem c_X2_zeros {po pa si ai L : Nat} (hO : lnN ad cI cJ X po pa si ai L) {S : SS} {p0 : Int32} {post : SS → Prop} (hV : V_X2_zeros si ai L p0 S post) : MV l yX2_zeros wsX2_zeros rm_X2_zeros [.ref (ad po), .int p0] D n0 ad cI cJ X S post := by
  refine Met.ofW (cc := cX2_zeros) (maxL := 3) (ret := none) (by decide) rfl ?_
  intro p e s m args below meth c s₁ B hml hv
  obtain ⟨rfl, hv⟩ := hv
  have C0 := Bd.mk B hml (atoms_spec (ws := wsX2_zeros) B.pre) (findClass_of_methodNamed B.named) hv.1
  have hw : Wh D n0 ad cI cJ X S s s.heap [] := ⟨hv.2.1, hv.2.2, va_S.rf⟩
  refine r_entry (Nat.le_of_ble_eq_true rfl) (fun ls hl => ?_)
  have hl : lv_has ls 3 [(0, .ref (ad po)), (1, .int p0)] := hl
  unfold V_X2_zeros at hV
  refine lv_aload_n C0.x C0.b dX2_zeros_0 rfl (lv_at hl 0 rfl) ?_
  refine lv_iconst (v := 0) C0.x C0.b dX2_zeros_1 (by decide) ?_
  refine r_put C0 hw (C := RX2) (T := TX2) (N := 2) (ty := .int) iw_X2_zeros_X2 tyX2 tyX2_ok nmX2 (hO S).1 rfl 1 (by decide) (C0.ts _ fw_X2_zeros_7) rfl (by decide +kernel) rfl rfl (Nat.le_of_ble_eq_true rfl) dX2_zeros_2 (S' := (sI S si (0 : Int32))) ((hO S).2.2.1 (0 : Int32)) (fun S1 H locs eS1 hw => ?_)
  have hV := hV S1 eS1
  refine lv_iconst (v := 0) C0.x C0.b dX2_zeros_5 (by decide) ?_
  refine lv_istore_n (lv' := [(2, .int (0 : Int32)), (0, .ref (ad po)), (1, .int p0)]) C0.x C0.b dX2_zeros_6 rfl hl (by decide) rfl (fun ls hl => ?_)
  obtain ⟨n7, hV⟩ := hV
  exact lp_X2_zeros_7 hO _ post C0  n7 _ _ hV _ _ hw _ (lv_sub hl [1, 2, 0] rfl)
/-! StepBench$Numbers.become(LStepBench$Numbers;)V -/
abbrev rm_X2_become : Room := { frames := 2, cells := 0, slots := 0, locals := 42 }
set_option maxRecDepth 20000 in
theorem fw_X2_become_7 : Cond.fieldLink RX2 7 "StepBench$Numbers" "size" "I" ∈ wsX2_become := by decide +kernel
set_option maxRecDepth 20000 in
theorem iw_X2_become_X2 : ∀ w ∈ wsX20, w ∈ wsX2_become := by decide +kernel
set_option maxRecDepth 20000 in
theorem hd_X2_become : yX2_become.cls = RX2 ∧ yX2_become.cls ≠ "java/lang/invoke/MethodHandle" ∧ yX2_become.cls ≠ "java/lang/invoke/VarHandle" ∧ (parseMethodDescriptor yX2_become.desc).map (fun d => d.parameters.length) = some 1 := by decide +kernel
def V_X2_become_7 (si ai L : Nat) (si0 ai0 L0 : Nat)   (post : SS → Prop) : Nat → Int32 → SS → Prop
  | 0, _, _ => False
  | n + 1, v2, S =>
    (((gI S si0) ≤ v2 → (post S)) ∧ (¬ (gI S si0) ≤ v2 → (V_X2_at si0 ai0 L0 v2 S (fun (r3 : Int64) (S4 : SS) => (V_X2_add si ai L r3 S4 (fun (r5 : Int32) (S6 : SS) => (∀ x7 : Int32, x7 = v2 + 1 → (V_X2_become_7 si ai L si0 ai0 L0   post n x7 S6))))))))
set_option maxHeartbeats 4000000 in
set_option maxRecDepth 100000 in
theorem lp_X2_become_7 {po pa si ai L : Nat} (hO : lnN ad cI cJ X po pa si ai L) {po0 pa0 si0 ai0 L0 : Nat} (hO0 : lnN ad cI cJ X po0 pa0 si0 ai0 L0)   (post : SS → Prop) (C0 : Bd p s m meth c args cX2_become 3 none wsX2_become RX2 D n0 cI cJ) : ∀ (n : Nat) (v2 : Int32) (S : SS), V_X2_become_7 si ai L si0 ai0 L0   post n v2 S → ∀ (H : Heap) (locs : List Loc), Wh D n0 ad cI cJ X S s H locs → ∀ ls : Array Slot, lv_has ls 3 [(0, .ref (ad po)), (1, .ref (ad po0)), (2, .int v2)] → W p l e rm_X2_become s m args below meth c H locs 0 0 (MQ below (va_Qv post (fun S' t => Wd D n0 ad cI cJ X S' t) (fr n0)) args s 0 0 (fr n0)) (F0 m 7 ls []) := by
  intro n
  induction n with
  | zero => intro v2 S hV; exact False.elim hV
  | succ n ih =>
    intro v2 S hV H locs hw ls hl
    rw [V_X2_become_7] at hV
    refine lv_iload_n C0.x C0.b dX2_become_7 rfl (lv_at hl 2 rfl) ?_
    refine lv_aload_n C0.x C0.b dX2_become_8 rfl (lv_at hl 1 rfl) ?_
    refine r_get C0 hw (C := RX2) (T := TX2) (N := 2) (v := .int (gI S si0)) iw_X2_become_X2 (hO0 S).1 rfl 1 (by decide) (C0.ts _ fw_X2_become_7) rfl dX2_become_9 ?_
    refine lv_icmp_ge (tgt := 31) C0.x C0.b dX2_become_12 (by decide) (fun c2 => ?_) (fun c2 => ?_)
    · have hV := hV.1 c2
      exact r_vret C0 rfl hw hV dX2_become_31
    · have hV := hV.2 c2
      refine lv_aload_n C0.x C0.b dX2_become_15 rfl (lv_at hl 0 rfl) ?_
      refine lv_aload_n C0.x C0.b dX2_become_16 rfl (lv_at hl 1 rfl) ?_
      refine lv_iload_n C0.x C0.b dX2_become_17 rfl (lv_at hl 2 rfl) ?_
      refine r_cV_l (As := [.int v2]) (rest := [.ref (ad po)]) C0 hw (c_X2_at hO0 hV) (cwV 1 C0.ts gX2_become_X2_at rfl rfl rfl hd_X2_at ⟨Nat.le_of_ble_eq_true rfl, Nat.le_of_ble_eq_true rfl⟩) (hO0 S).1 rfl rfl hl.1 rfl (Nat.le_of_ble_eq_true rfl) ⟨Nat.le_of_ble_eq_true rfl, Nat.le_of_ble_eq_true rfl⟩ dX2_become_18 (fun r3 S4 H locs hV hw => ?_)
      refine r_cV_i (As := [.long r3]) (rest := []) C0 hw (c_X2_add hO hV) (cwV 1 C0.ts gX2_become_X2_add rfl rfl rfl hd_X2_add ⟨Nat.le_of_ble_eq_true rfl, Nat.le_of_ble_eq_true rfl⟩) (hO S4).1 rfl rfl hl.1 rfl (Nat.le_of_ble_eq_true rfl) ⟨Nat.le_of_ble_eq_true rfl, Nat.le_of_ble_eq_true rfl⟩ dX2_become_21 (fun r5 S6 H locs hV hw => ?_)
      refine lv_pop C0.x C0.b dX2_become_24 rfl ?_
      obtain ⟨x7, ex7⟩ : ∃ z : Int32, z = v2 + 1 := ⟨_, rfl⟩
      have hV := hV x7 ex7
      refine lv_iinc (v := x7) (lv' := [(2, .int x7), (0, .ref (ad po)), (1, .ref (ad po0))]) C0.x C0.b dX2_become_25 hl (k := 2) rfl (by rw [ex7]; rfl) (by decide) rfl (fun ls hl => ?_)
      refine lv_goto (tgt := 7) C0.x C0.b dX2_become_28 (by decide) ?_
      exact ih _ _ hV _ _ hw _ (lv_sub hl [1, 2, 0] rfl)
def V_X2_become (si ai L : Nat) (si0 ai0 L0 : Nat)  (S : SS) (post : SS → Prop) : Prop :=
  (∀ S1 : SS, S1 = (sI S si (0 : Int32)) → (∃ n7 : Nat, V_X2_become_7 si ai L si0 ai0 L0   post n7 (0 : Int32) S1))
set_option maxHeartbeats 4000000 in
set_option maxRecDepth 100000 in
theorem c_X2_become {po pa si ai L : Nat} (hO : lnN ad cI cJ X po pa si ai L) {po0 pa0 si0 ai0 L0 : Nat} (hO0 : lnN ad cI cJ X po0 pa0 si0 ai0 L0) {S : SS}  {post : SS → Prop} (hV : V_X2_become si ai L si0 ai0 L0  S post) : MV l yX2_become wsX2_become rm_X2_become [.ref (ad po), .ref (ad po0)] D n0 ad cI cJ X S post := by
  refine Met.ofW (cc := cX2_become) (maxL := 3) (ret := none) (by decide) rfl ?_
  intro p e s m args below meth c s₁ B hml hv
  obtain ⟨rfl, hv⟩ := hv
  have C0 := Bd.mk B hml (atoms_spec (ws := wsX2_become) B.pre) (findClass_of_methodNamed B.named) hv.1
  have hw : Wh D n0 ad cI cJ X S s s.heap [] := ⟨hv.2.1, hv.2.2, va_S.rf⟩
  refine r_entry (Nat.le_of_ble_eq_true rfl) (fun ls hl => ?_)
  have hl : lv_has ls 3 [(0, .ref (ad po)), (1, .ref (ad po0))] := hl
  unfold V_X2_become at hV
  refine lv_aload_n C0.x C0.b dX2_become_0 rfl (lv_at hl 0 rfl) ?_
  refine lv_iconst (v := 0) C0.x C0.b dX2_become_1 (by decide) ?_
  refine r_put C0 hw (C := RX2) (T := TX2) (N := 2) (ty := .int) iw_X2_become_X2 tyX2 tyX2_ok nmX2 (hO S).1 rfl 1 (by decide) (C0.ts _ fw_X2_become_7) rfl (by decide +kernel) rfl rfl (Nat.le_of_ble_eq_true rfl) dX2_become_2 (S' := (sI S si (0 : Int32))) ((hO S).2.2.1 (0 : Int32)) (fun S1 H locs eS1 hw => ?_)
  have hV := hV S1 eS1
  refine lv_iconst (v := 0) C0.x C0.b dX2_become_5 (by decide) ?_
  refine lv_istore_n (lv' := [(2, .int (0 : Int32)), (0, .ref (ad po)), (1, .ref (ad po0))]) C0.x C0.b dX2_become_6 rfl hl (by decide) rfl (fun ls hl => ?_)
  obtain ⟨n7, hV⟩ := hV
  exact lp_X2_become_7 hO hO0  post C0  n7 _ _ hV _ _ hw _ (lv_sub hl [1, 2, 0] rfl)
/-! StepBench$Numbers.sortIn(J)V -/
abbrev rm_X2_sortIn : Room := { frames := 2, cells := 0, slots := 0, locals := 44 }
set_option maxRecDepth 20000 in
theorem fw_X2_sortIn_7 : Cond.fieldLink RX2 7 "StepBench$Numbers" "size" "I" ∈ wsX2_sortIn := by decide +kernel
set_option maxRecDepth 20000 in
theorem iw_X2_sortIn_X2 : ∀ w ∈ wsX20, w ∈ wsX2_sortIn := by decide +kernel
set_option maxRecDepth 20000 in
theorem hd_X2_sortIn : yX2_sortIn.cls = RX2 ∧ yX2_sortIn.cls ≠ "java/lang/invoke/MethodHandle" ∧ yX2_sortIn.cls ≠ "java/lang/invoke/VarHandle" ∧ (parseMethodDescriptor yX2_sortIn.desc).map (fun d => d.parameters.length) = some 1 := by decide +kernel
def V_X2_sortIn_42 (si ai L : Nat) (v1 : Int64)  (post : SS → Prop) : Nat → Int32 → SS → Prop
  | 0, _, _ => False
  | n + 1, v3, S =>
    ((v3 ≤ 0 → (post S)) ∧ (¬ v3 ≤ 0 → (V_X2_at si ai L (v3 - (1 : Int32)) S (fun (r11 : Int64) (S12 : SS) => ((r11 ≤ v1 → (post S12)) ∧ (¬ r11 ≤ v1 → (V_X2_at si ai L (v3 - (1 : Int32)) S12 (fun (r14 : Int64) (S15 : SS) => (V_X2_put si ai L v3 r14 S15 (fun (S17 : SS) => (V_X2_put si ai L (v3 - (1 : Int32)) v1 S17 (fun (S19 : SS) => (∀ x20 : Int32, x20 = v3 + (-1) → (V_X2_sortIn_42 si ai L v1  post n x20 S19))))))))))))))
set_option maxHeartbeats 4000000 in
set_option maxRecDepth 100000 in
theorem lp_X2_sortIn_42 {po pa si ai L : Nat} (hO : lnN ad cI cJ X po pa si ai L) (v1 : Int64)  (post : SS → Prop) (C0 : Bd p s m meth c args cX2_sortIn 4 none wsX2_sortIn RX2 D n0 cI cJ) : ∀ (n : Nat) (v3 : Int32) (S : SS), V_X2_sortIn_42 si ai L v1  post n v3 S → ∀ (H : Heap) (locs : List Loc), Wh D n0 ad cI cJ X S s H locs → ∀ ls : Array Slot, lv_has ls 4 [(0, .ref (ad po)), (1, .long v1), (3, .int v3)] → W p l e rm_X2_sortIn s m args below meth c H locs 0 0 (MQ below (va_Qv post (fun S' t => Wd D n0 ad cI cJ X S' t) (fr n0)) args s 0 0 (fr n0)) (F0 m 42 ls []) := by
  intro n
  induction n with
  | zero => intro v3 S hV; exact False.elim hV
  | succ n ih =>
    intro v3 S hV H locs hw ls hl
    rw [V_X2_sortIn_42] at hV
    refine lv_iload_n C0.x C0.b dX2_sortIn_42 rfl (lv_at hl 2 rfl) ?_
    refine lv_if_le (tgt := 84) C0.x C0.b dX2_sortIn_43 (by decide) (fun c10 => ?_) (fun c10 => ?_)
    · have hV := hV.1 c10
      exact r_vret C0 rfl hw hV dX2_sortIn_84
    · have hV := hV.2 c10
      refine lv_aload_n C0.x C0.b dX2_sortIn_46 rfl (lv_at hl 0 rfl) ?_
      refine lv_iload_n C0.x C0.b dX2_sortIn_47 rfl (lv_at hl 2 rfl) ?_
      refine lv_iconst (v := 1) C0.x C0.b dX2_sortIn_48 (by decide) ?_
      refine lv_isub C0.x C0.b dX2_sortIn_49 ?_
      refine r_cV_l (As := [.int (v3 - (1 : Int32))]) (rest := []) C0 hw (c_X2_at hO hV) (cwV 1 C0.ts gX2_sortIn_X2_at rfl rfl rfl hd_X2_at ⟨Nat.le_of_ble_eq_true rfl, Nat.le_of_ble_eq_true rfl⟩) (hO S).1 rfl rfl hl.1 rfl (Nat.le_of_ble_eq_true rfl) ⟨Nat.le_of_ble_eq_true rfl, Nat.le_of_ble_eq_true rfl⟩ dX2_sortIn_50 (fun r11 S12 H locs hV hw => ?_)
      refine lv_lload_n C0.x C0.b dX2_sortIn_53 rfl (lv_at hl 1 rfl) ?_
      refine r_lcmp C0 dX2_sortIn_54 ?_
      refine lv_if_le (tgt := 84) C0.x C0.b dX2_sortIn_55 (by decide) (fun c13 => ?_) (fun c13 => ?_)
      · have hV := hV.1 ((lc_le _ _).mp c13)
        exact r_vret C0 rfl hw hV dX2_sortIn_84
      · have hV := hV.2 (fun h => c13 ((lc_le _ _).mpr h))
        refine lv_aload_n C0.x C0.b dX2_sortIn_58 rfl (lv_at hl 0 rfl) ?_
        refine lv_iload_n C0.x C0.b dX2_sortIn_59 rfl (lv_at hl 2 rfl) ?_
        refine lv_aload_n C0.x C0.b dX2_sortIn_60 rfl (lv_at hl 0 rfl) ?_
        refine lv_iload_n C0.x C0.b dX2_sortIn_61 rfl (lv_at hl 2 rfl) ?_
        refine lv_iconst (v := 1) C0.x C0.b dX2_sortIn_62 (by decide) ?_
        refine lv_isub C0.x C0.b dX2_sortIn_63 ?_
        refine r_cV_l (As := [.int (v3 - (1 : Int32))]) (rest := [.int v3, .ref (ad po)]) C0 hw (c_X2_at hO hV) (cwV 1 C0.ts gX2_sortIn_X2_at rfl rfl rfl hd_X2_at ⟨Nat.le_of_ble_eq_true rfl, Nat.le_of_ble_eq_true rfl⟩) (hO S12).1 rfl rfl hl.1 rfl (Nat.le_of_ble_eq_true rfl) ⟨Nat.le_of_ble_eq_true rfl, Nat.le_of_ble_eq_true rfl⟩ dX2_sortIn_64 (fun r14 S15 H locs hV hw => ?_)
        refine r_cV_v (As := [.int v3, .long r14]) (rest := []) C0 hw (c_X2_put hO hV) (cwV 2 C0.ts gX2_sortIn_X2_put rfl rfl rfl hd_X2_put ⟨Nat.le_of_ble_eq_true rfl, Nat.le_of_ble_eq_true rfl⟩) (hO S15).1 rfl rfl hl.1 rfl (Nat.le_of_ble_eq_true rfl) ⟨Nat.le_of_ble_eq_true rfl, Nat.le_of_ble_eq_true rfl⟩ dX2_sortIn_67 (fun S17 H locs hV hw => ?_)
        refine lv_aload_n C0.x C0.b dX2_sortIn_70 rfl (lv_at hl 0 rfl) ?_
        refine lv_iload_n C0.x C0.b dX2_sortIn_71 rfl (lv_at hl 2 rfl) ?_
        refine lv_iconst (v := 1) C0.x C0.b dX2_sortIn_72 (by decide) ?_
        refine lv_isub C0.x C0.b dX2_sortIn_73 ?_
        refine lv_lload_n C0.x C0.b dX2_sortIn_74 rfl (lv_at hl 1 rfl) ?_
        refine r_cV_v (As := [.int (v3 - (1 : Int32)), .long v1]) (rest := []) C0 hw (c_X2_put hO hV) (cwV 2 C0.ts gX2_sortIn_X2_put rfl rfl rfl hd_X2_put ⟨Nat.le_of_ble_eq_true rfl, Nat.le_of_ble_eq_true rfl⟩) (hO S17).1 rfl rfl hl.1 rfl (Nat.le_of_ble_eq_true rfl) ⟨Nat.le_of_ble_eq_true rfl, Nat.le_of_ble_eq_true rfl⟩ dX2_sortIn_75 (fun S19 H locs hV hw => ?_)
        obtain ⟨x20, ex20⟩ : ∃ z : Int32, z = v3 + (-1) := ⟨_, rfl⟩
        have hV := hV x20 ex20
        refine lv_iinc (v := x20) (lv' := [(3, .int x20), (0, .ref (ad po)), (1, .long v1)]) C0.x C0.b dX2_sortIn_78 hl (k := 2) rfl (by rw [ex20]; rfl) (by decide) rfl (fun ls hl => ?_)
        refine lv_goto (tgt := 42) C0.x C0.b dX2_sortIn_81 (by decide) ?_
        exact ih _ _ hV _ _ hw _ (lv_sub hl [1, 2, 0] rfl)
def V_X2_sortIn (si ai L : Nat) (p0 : Int64) (S : SS) (post : SS → Prop) : Prop :=
  (V_X2_add si ai L p0 S (fun (r1 : Int32) (S2 : SS) => ((r1 = 0 → (V_X2_at si ai L ((gI S2 si) - (1 : Int32)) S2 (fun (r4 : Int64) (S5 : SS) => ((p0 < r4 → (V_X2_put si ai L ((gI S5 si) - (1 : Int32)) p0 S5 (fun (S8 : SS) => (∀ x9 : Int32, x9 = ((gI S8 si) - (1 : Int32)) → (∃ n42 : Nat, V_X2_sortIn_42 si ai L p0  post n42 x9 S8))))) ∧ (¬ p0 < r4 → (post S5)))))) ∧ (¬ r1 = 0 → (∀ x21 : Int32, x21 = ((gI S2 si) - (1 : Int32)) → (∃ n42 : Nat, V_X2_sortIn_42 si ai L p0  post n42 x21 S2))))))
set_option maxHeartbeats 4000000 in
set_option maxRecDepth 100000 in
theorem c_X2_sortIn {po pa si ai L : Nat} (hO : lnN ad cI cJ X po pa si ai L) {S : SS} {p0 : Int64} {post : SS → Prop} (hV : V_X2_sortIn si ai L p0 S post) : MV l yX2_sortIn wsX2_sortIn rm_X2_sortIn [.ref (ad po), .long p0] D n0 ad cI cJ X S post := by
  refine Met.ofW (cc := cX2_sortIn) (maxL := 4) (ret := none) (by decide) rfl ?_
  intro p e s m args below meth c s₁ B hml hv
  obtain ⟨rfl, hv⟩ := hv
  have C0 := Bd.mk B hml (atoms_spec (ws := wsX2_sortIn) B.pre) (findClass_of_methodNamed B.named) hv.1
  have hw : Wh D n0 ad cI cJ X S s s.heap [] := ⟨hv.2.1, hv.2.2, va_S.rf⟩
  refine r_entry (Nat.le_of_ble_eq_true rfl) (fun ls hl => ?_)
  have hl : lv_has ls 4 [(0, .ref (ad po)), (1, .long p0)] := hl
  unfold V_X2_sortIn at hV
  refine lv_aload_n C0.x C0.b dX2_sortIn_0 rfl (lv_at hl 0 rfl) ?_
  refine lv_lload_n C0.x C0.b dX2_sortIn_1 rfl (lv_at hl 1 rfl) ?_
  refine r_cV_i (As := [.long p0]) (rest := []) C0 hw (c_X2_add hO hV) (cwV 1 C0.ts gX2_sortIn_X2_add rfl rfl rfl hd_X2_add ⟨Nat.le_of_ble_eq_true rfl, Nat.le_of_ble_eq_true rfl⟩) (hO S).1 rfl rfl hl.1 rfl (Nat.le_of_ble_eq_true rfl) ⟨Nat.le_of_ble_eq_true rfl, Nat.le_of_ble_eq_true rfl⟩ dX2_sortIn_2 (fun r1 S2 H locs hV hw => ?_)
  refine lv_if_ne (tgt := 35) C0.x C0.b dX2_sortIn_5 (by decide) (fun c3 => ?_) (fun c3 => ?_)
  · have hV := hV.2 c3
    refine lv_aload_n C0.x C0.b dX2_sortIn_35 rfl (lv_at hl 0 rfl) ?_
    refine r_get C0 hw (C := RX2) (T := TX2) (N := 2) (v := .int (gI S2 si)) iw_X2_sortIn_X2 (hO S2).1 rfl 1 (by decide) (C0.ts _ fw_X2_sortIn_7) rfl dX2_sortIn_36 ?_
    refine lv_iconst (v := 1) C0.x C0.b dX2_sortIn_39 (by decide) ?_
    refine lv_isub C0.x C0.b dX2_sortIn_40 ?_
    refine lv_topi (fun x21 ex21 => ?_)
    have hV := hV x21 ex21
    refine lv_istore_n (lv' := [(3, .int x21), (0, .ref (ad po)), (1, .long p0)]) C0.x C0.b dX2_sortIn_41 rfl hl (by decide) rfl (fun ls hl => ?_)
    obtain ⟨n42, hV⟩ := hV
    exact lp_X2_sortIn_42 hO _ post C0  n42 _ _ hV _ _ hw _ (lv_sub hl [1, 2, 0] rfl)
  · have hV := hV.1 c3
    refine lv_lload_n C0.x C0.b dX2_sortIn_8 rfl (lv_at hl 1 rfl) ?_
    refine lv_aload_n C0.x C0.b dX2_sortIn_9 rfl (lv_at hl 0 rfl) ?_
    refine lv_aload_n C0.x C0.b dX2_sortIn_10 rfl (lv_at hl 0 rfl) ?_
    refine r_get C0 hw (C := RX2) (T := TX2) (N := 2) (v := .int (gI S2 si)) iw_X2_sortIn_X2 (hO S2).1 rfl 1 (by decide) (C0.ts _ fw_X2_sortIn_7) rfl dX2_sortIn_11 ?_
    refine lv_iconst (v := 1) C0.x C0.b dX2_sortIn_14 (by decide) ?_
    refine lv_isub C0.x C0.b dX2_sortIn_15 ?_
    refine r_cV_l (As := [.int ((gI S2 si) - (1 : Int32))]) (rest := [.long p0]) C0 hw (c_X2_at hO hV) (cwV 1 C0.ts gX2_sortIn_X2_at rfl rfl rfl hd_X2_at ⟨Nat.le_of_ble_eq_true rfl, Nat.le_of_ble_eq_true rfl⟩) (hO S2).1 rfl rfl hl.1 rfl (Nat.le_of_ble_eq_true rfl) ⟨Nat.le_of_ble_eq_true rfl, Nat.le_of_ble_eq_true rfl⟩ dX2_sortIn_16 (fun r4 S5 H locs hV hw => ?_)
    refine r_lcmp C0 dX2_sortIn_19 ?_
    refine lv_if_lt (tgt := 24) C0.x C0.b dX2_sortIn_20 (by decide) (fun c6 => ?_) (fun c6 => ?_)
    · have hV := hV.1 ((lc_lt _ _).mp c6)
      refine lv_aload_n C0.x C0.b dX2_sortIn_24 rfl (lv_at hl 0 rfl) ?_
      refine lv_aload_n C0.x C0.b dX2_sortIn_25 rfl (lv_at hl 0 rfl) ?_
      refine r_get C0 hw (C := RX2) (T := TX2) (N := 2) (v := .int (gI S5 si)) iw_X2_sortIn_X2 (hO S5).1 rfl 1 (by decide) (C0.ts _ fw_X2_sortIn_7) rfl dX2_sortIn_26 ?_
      refine lv_iconst (v := 1) C0.x C0.b dX2_sortIn_29 (by decide) ?_
      refine lv_isub C0.x C0.b dX2_sortIn_30 ?_
      refine lv_lload_n C0.x C0.b dX2_sortIn_31 rfl (lv_at hl 1 rfl) ?_
      refine r_cV_v (As := [.int ((gI S5 si) - (1 : Int32)), .long p0]) (rest := []) C0 hw (c_X2_put hO hV) (cwV 2 C0.ts gX2_sortIn_X2_put rfl rfl rfl hd_X2_put ⟨Nat.le_of_ble_eq_true rfl, Nat.le_of_ble_eq_true rfl⟩) (hO S5).1 rfl rfl hl.1 rfl (Nat.le_of_ble_eq_true rfl) ⟨Nat.le_of_ble_eq_true rfl, Nat.le_of_ble_eq_true rfl⟩ dX2_sortIn_32 (fun S8 H locs hV hw => ?_)
      refine lv_aload_n C0.x C0.b dX2_sortIn_35 rfl (lv_at hl 0 rfl) ?_
      refine r_get C0 hw (C := RX2) (T := TX2) (N := 2) (v := .int (gI S8 si)) iw_X2_sortIn_X2 (hO S8).1 rfl 1 (by decide) (C0.ts _ fw_X2_sortIn_7) rfl dX2_sortIn_36 ?_
      refine lv_iconst (v := 1) C0.x C0.b dX2_sortIn_39 (by decide) ?_
      refine lv_isub C0.x C0.b dX2_sortIn_40 ?_
      refine lv_topi (fun x9 ex9 => ?_)
      have hV := hV x9 ex9
      refine lv_istore_n (lv' := [(3, .int x9), (0, .ref (ad po)), (1, .long p0)]) C0.x C0.b dX2_sortIn_41 rfl hl (by decide) rfl (fun ls hl => ?_)
      obtain ⟨n42, hV⟩ := hV
      exact lp_X2_sortIn_42 hO _ post C0  n42 _ _ hV _ _ hw _ (lv_sub hl [1, 2, 0] rfl)
    · have hV := hV.2 (fun h => c6 ((lc_lt _ _).mpr h))
      exact r_vret C0 rfl hw hV dX2_sortIn_23
/-! StepBench$Product.begin()V -/
abbrev rm_X3_begin : Room := { frames := 0, cells := 0, slots := 0, locals := 0 }
set_option maxRecDepth 20000 in
theorem fw_X3_begin_9 : Cond.fieldLink RX3 9 "StepBench$Product" "digits" "[J" ∈ wsX3_begin := by decide +kernel
set_option maxRecDepth 20000 in
theorem iw_X3_begin_X3 : ∀ w ∈ wsX30, w ∈ wsX3_begin := by decide +kernel
set_option maxRecDepth 20000 in
theorem hd_X3_begin : yX3_begin.cls = RX3 ∧ yX3_begin.cls ≠ "java/lang/invoke/MethodHandle" ∧ yX3_begin.cls ≠ "java/lang/invoke/VarHandle" ∧ (parseMethodDescriptor yX3_begin.desc).map (fun d => d.parameters.length) = some 0 := by decide +kernel
def V_X3_begin_2 (ai : Nat)   (post : SS → Prop) : Nat → Int32 → SS → Prop
  | 0, _, _ => False
  | n + 1, v1, S =>
    (((24 : Int32) ≤ v1 → (post S)) ∧ (¬ (24 : Int32) ≤ v1 → ((v1 = 0 → (vp_in v1 24 ∧ ∀ S3 : SS, S3 = (sA S ai (vp_updL (gA S ai) v1.toNatClampNeg (1 : Int64))) → (∀ x4 : Int32, x4 = v1 + 1 → (V_X3_begin_2 ai   post n x4 S3)))) ∧ (¬ v1 = 0 → (vp_in v1 24 ∧ ∀ S5 : SS, S5 = (sA S ai (vp_updL (gA S ai) v1.toNatClampNeg (0 : Int64))) → (∀ x6 : Int32, x6 = v1 + 1 → (V_X3_begin_2 ai   post n x6 S5)))))))
set_option maxHeartbeats 4000000 in
set_option maxRecDepth 100000 in
theorem lp_X3_begin_2 {po pa ai : Nat} (hO : lnP ad cI cJ X po pa ai)   (post : SS → Prop) (C0 : Bd p s m meth c args cX3_begin 2 none wsX3_begin RX3 D n0 cI cJ) : ∀ (n : Nat) (v1 : Int32) (S : SS), V_X3_begin_2 ai   post n v1 S → ∀ (H : Heap) (locs : List Loc), Wh D n0 ad cI cJ X S s H locs → ∀ ls : Array Slot, lv_has ls 2 [(0, .ref (ad po)), (1, .int v1)] → W p l e rm_X3_begin s m args below meth c H locs 0 0 (MQ below (va_Qv post (fun S' t => Wd D n0 ad cI cJ X S' t) (fr n0)) args s 0 0 (fr n0)) (F0 m 2 ls []) := by
  intro n
  induction n with
  | zero => intro v1 S hV; exact False.elim hV
  | succ n ih =>
    intro v1 S hV H locs hw ls hl
    rw [V_X3_begin_2] at hV
    refine lv_iload_n C0.x C0.b dX3_begin_2 rfl (lv_at hl 1 rfl) ?_
    refine lv_bipush (v := 24) C0.x C0.b dX3_begin_3 (by decide) ?_
    refine lv_icmp_ge (tgt := 29) C0.x C0.b dX3_begin_5 (by decide) (fun c1 => ?_) (fun c1 => ?_)
    · have hV := hV.1 c1
      exact r_vret C0 rfl hw hV dX3_begin_29
    · have hV := hV.2 c1
      refine lv_aload_n C0.x C0.b dX3_begin_8 rfl (lv_at hl 0 rfl) ?_
      refine r_get C0 hw (C := RX3) (T := TX3) (N := 1) (v := .ref (ad pa)) iw_X3_begin_X3 (hO S).1 rfl 0 (by decide) (C0.ts _ fw_X3_begin_9) rfl dX3_begin_9 ?_
      refine lv_iload_n C0.x C0.b dX3_begin_12 rfl (lv_at hl 1 rfl) ?_
      refine lv_iload_n C0.x C0.b dX3_begin_13 rfl (lv_at hl 1 rfl) ?_
      refine lv_if_ne (tgt := 21) C0.x C0.b dX3_begin_14 (by decide) (fun c2 => ?_) (fun c2 => ?_)
      · have hV := hV.2 c2
        refine lv_lconst (v := 0) C0.x C0.b dX3_begin_21 (by decide) ?_
        refine r_last C0 hw (hO S).2.1 hV.1 dX3_begin_22 (S' := (sA S ai (vp_updL (gA S ai) v1.toNatClampNeg (0 : Int64)))) ((hO S).2.2 (vp_updL (gA S ai) v1.toNatClampNeg (0 : Int64))) (fun S5 H locs eS5 hw => ?_)
        have hV := hV.2 S5 eS5
        obtain ⟨x6, ex6⟩ : ∃ z : Int32, z = v1 + 1 := ⟨_, rfl⟩
        have hV := hV x6 ex6
        refine lv_iinc (v := x6) (lv' := [(1, .int x6), (0, .ref (ad po))]) C0.x C0.b dX3_begin_23 hl (k := 1) rfl (by rw [ex6]; rfl) (by decide) rfl (fun ls hl => ?_)
        refine lv_goto (tgt := 2) C0.x C0.b dX3_begin_26 (by decide) ?_
        exact ih _ _ hV _ _ hw _ (lv_sub hl [1, 0] rfl)
      · have hV := hV.1 c2
        refine lv_lconst (v := 1) C0.x C0.b dX3_begin_17 (by decide) ?_
        refine lv_goto (tgt := 22) C0.x C0.b dX3_begin_18 (by decide) ?_
        refine r_last C0 hw (hO S).2.1 hV.1 dX3_begin_22 (S' := (sA S ai (vp_updL (gA S ai) v1.toNatClampNeg (1 : Int64)))) ((hO S).2.2 (vp_updL (gA S ai) v1.toNatClampNeg (1 : Int64))) (fun S3 H locs eS3 hw => ?_)
        have hV := hV.2 S3 eS3
        obtain ⟨x4, ex4⟩ : ∃ z : Int32, z = v1 + 1 := ⟨_, rfl⟩
        have hV := hV x4 ex4
        refine lv_iinc (v := x4) (lv' := [(1, .int x4), (0, .ref (ad po))]) C0.x C0.b dX3_begin_23 hl (k := 1) rfl (by rw [ex4]; rfl) (by decide) rfl (fun ls hl => ?_)
        refine lv_goto (tgt := 2) C0.x C0.b dX3_begin_26 (by decide) ?_
        exact ih _ _ hV _ _ hw _ (lv_sub hl [1, 0] rfl)
def V_X3_begin (ai : Nat)  (S : SS) (post : SS → Prop) : Prop :=
  (∃ n2 : Nat, V_X3_begin_2 ai   post n2 (0 : Int32) S)
set_option maxHeartbeats 4000000 in
set_option maxRecDepth 100000 in
theorem c_X3_begin {po pa ai : Nat} (hO : lnP ad cI cJ X po pa ai) {S : SS}  {post : SS → Prop} (hV : V_X3_begin ai  S post) : MV l yX3_begin wsX3_begin rm_X3_begin [.ref (ad po)] D n0 ad cI cJ X S post := by
  refine Met.ofW (cc := cX3_begin) (maxL := 2) (ret := none) (by decide) rfl ?_
  intro p e s m args below meth c s₁ B hml hv
  obtain ⟨rfl, hv⟩ := hv
  have C0 := Bd.mk B hml (atoms_spec (ws := wsX3_begin) B.pre) (findClass_of_methodNamed B.named) hv.1
  have hw : Wh D n0 ad cI cJ X S s s.heap [] := ⟨hv.2.1, hv.2.2, va_S.rf⟩
  refine r_entry (Nat.le_of_ble_eq_true rfl) (fun ls hl => ?_)
  have hl : lv_has ls 2 [(0, .ref (ad po))] := hl
  unfold V_X3_begin at hV
  refine lv_iconst (v := 0) C0.x C0.b dX3_begin_0 (by decide) ?_
  refine lv_istore_n (lv' := [(1, .int (0 : Int32)), (0, .ref (ad po))]) C0.x C0.b dX3_begin_1 rfl hl (by decide) rfl (fun ls hl => ?_)
  obtain ⟨n2, hV⟩ := hV
  exact lp_X3_begin_2 hO  post C0  n2 _ _ hV _ _ hw _ (lv_sub hl [1, 0] rfl)
/-! StepBench$Product.multiply(J)V -/
abbrev rm_X3_multiply : Room := { frames := 0, cells := 0, slots := 0, locals := 0 }
set_option maxRecDepth 20000 in
theorem fw_X3_multiply_9 : Cond.fieldLink RX3 9 "StepBench$Product" "digits" "[J" ∈ wsX3_multiply := by decide +kernel
set_option maxRecDepth 20000 in
theorem iw_X3_multiply_X3 : ∀ w ∈ wsX30, w ∈ wsX3_multiply := by decide +kernel
set_option maxRecDepth 20000 in
theorem cw_X3_multiply_13 : Cond.constantLong RX3 13 1000000000 ∈ wsX3_multiply := by decide +kernel
set_option maxRecDepth 20000 in
theorem hd_X3_multiply : yX3_multiply.cls = RX3 ∧ yX3_multiply.cls ≠ "java/lang/invoke/MethodHandle" ∧ yX3_multiply.cls ≠ "java/lang/invoke/VarHandle" ∧ (parseMethodDescriptor yX3_multiply.desc).map (fun d => d.parameters.length) = some 1 := by decide +kernel
def V_X3_multiply_5 (ai : Nat) (v1 : Int64)  (post : SS → Prop) : Nat → Int64 → Int32 → SS → Prop
  | 0, _, _, _ => False
  | n + 1, v3, v5, S =>
    (((24 : Int32) ≤ v5 → (post S)) ∧ (¬ (24 : Int32) ≤ v5 → (vp_in v5 24 ∧ (∀ y2 : Int64, y2 = (((gA S ai v5.toNatClampNeg) * v1) + v3) → (vp_in v5 24 ∧ ∀ S3 : SS, S3 = (sA S ai (vp_updL (gA S ai) v5.toNatClampNeg (lrm y2 (1000000000 : Int64)))) → (∀ y4 : Int64, y4 = (y2 / (1000000000 : Int64)) → (∀ x5 : Int32, x5 = v5 + 1 → (V_X3_multiply_5 ai v1  post n y4 x5 S3))))))))
set_option maxHeartbeats 4000000 in
set_option maxRecDepth 100000 in
theorem lp_X3_multiply_5 {po pa ai : Nat} (hO : lnP ad cI cJ X po pa ai) (v1 : Int64)  (post : SS → Prop) (C0 : Bd p s m meth c args cX3_multiply 8 none wsX3_multiply RX3 D n0 cI cJ) : ∀ (n : Nat) (v3 : Int64) (v5 : Int32) (S : SS), V_X3_multiply_5 ai v1  post n v3 v5 S → ∀ (H : Heap) (locs : List Loc), Wh D n0 ad cI cJ X S s H locs → ∀ ls : Array Slot, lv_has ls 8 [(0, .ref (ad po)), (1, .long v1), (3, .long v3), (5, .int v5)] → W p l e rm_X3_multiply s m args below meth c H locs 0 0 (MQ below (va_Qv post (fun S' t => Wd D n0 ad cI cJ X S' t) (fr n0)) args s 0 0 (fr n0)) (F0 m 5 ls []) := by
  intro n
  induction n with
  | zero => intro v3 v5 S hV; exact False.elim hV
  | succ n ih =>
    intro v3 v5 S hV H locs hw ls hl
    rw [V_X3_multiply_5] at hV
    refine lv_iload C0.x C0.b dX3_multiply_5 (lv_at hl 3 rfl) ?_
    refine lv_bipush (v := 24) C0.x C0.b dX3_multiply_7 (by decide) ?_
    refine lv_icmp_ge (tgt := 51) C0.x C0.b dX3_multiply_9 (by decide) (fun c1 => ?_) (fun c1 => ?_)
    · have hV := hV.1 c1
      exact r_vret C0 rfl hw hV dX3_multiply_51
    · have hV := hV.2 c1
      refine lv_aload_n C0.x C0.b dX3_multiply_12 rfl (lv_at hl 0 rfl) ?_
      refine r_get C0 hw (C := RX3) (T := TX3) (N := 1) (v := .ref (ad pa)) iw_X3_multiply_X3 (hO S).1 rfl 0 (by decide) (C0.ts _ fw_X3_multiply_9) rfl dX3_multiply_13 ?_
      refine lv_iload C0.x C0.b dX3_multiply_16 (lv_at hl 3 rfl) ?_
      refine r_lald C0 hw (hO S).2.1 hV.1 dX3_multiply_18 ?_
      have hV := hV.2
      refine lv_lload_n C0.x C0.b dX3_multiply_19 rfl (lv_at hl 1 rfl) ?_
      refine lv_lmul C0.x C0.b dX3_multiply_20 ?_
      refine lv_lload_n C0.x C0.b dX3_multiply_21 rfl (lv_at hl 2 rfl) ?_
      refine lv_ladd C0.x C0.b dX3_multiply_22 ?_
      refine lv_topl (fun y2 ey2 => ?_)
      have hV := hV y2 ey2
      refine lv_lstore (lv' := [(6, .long y2), (0, .ref (ad po)), (1, .long v1), (3, .long v3), (5, .int v5)]) C0.x C0.b dX3_multiply_23 hl (by decide) rfl (fun ls hl => ?_)
      refine lv_aload_n C0.x C0.b dX3_multiply_25 rfl (lv_at hl 1 rfl) ?_
      refine r_get C0 hw (C := RX3) (T := TX3) (N := 1) (v := .ref (ad pa)) iw_X3_multiply_X3 (hO S).1 rfl 0 (by decide) (C0.ts _ fw_X3_multiply_9) rfl dX3_multiply_26 ?_
      refine lv_iload C0.x C0.b dX3_multiply_29 (lv_at hl 4 rfl) ?_
      refine lv_lload C0.x C0.b dX3_multiply_31 (lv_at hl 0 rfl) ?_
      refine lv_ldc2 (v := 1000000000) C0.x C0.b C0.ow (C0.ts _ cw_X3_multiply_13) dX3_multiply_33 ?_
      refine lv_lrem C0.x C0.b dX3_multiply_36 (by decide) ?_
      refine r_last C0 hw (hO S).2.1 hV.1 dX3_multiply_37 (S' := (sA S ai (vp_updL (gA S ai) v5.toNatClampNeg (lrm y2 (1000000000 : Int64))))) ((hO S).2.2 (vp_updL (gA S ai) v5.toNatClampNeg (lrm y2 (1000000000 : Int64)))) (fun S3 H locs eS3 hw => ?_)
      have hV := hV.2 S3 eS3
      refine lv_lload C0.x C0.b dX3_multiply_38 (lv_at hl 0 rfl) ?_
      refine lv_ldc2 (v := 1000000000) C0.x C0.b C0.ow (C0.ts _ cw_X3_multiply_13) dX3_multiply_40 ?_
      refine lv_ldiv C0.x C0.b dX3_multiply_43 (by decide) ?_
      refine lv_topl (fun y4 ey4 => ?_)
      have hV := hV y4 ey4
      refine lv_lstore_n (lv' := [(3, .long y4), (6, .long y2), (0, .ref (ad po)), (1, .long v1), (5, .int v5)]) C0.x C0.b dX3_multiply_44 rfl hl (by decide) rfl (fun ls hl => ?_)
      obtain ⟨x5, ex5⟩ : ∃ z : Int32, z = v5 + 1 := ⟨_, rfl⟩
      have hV := hV x5 ex5
      refine lv_iinc (v := x5) (lv' := [(5, .int x5), (3, .long y4), (6, .long y2), (0, .ref (ad po)), (1, .long v1)]) C0.x C0.b dX3_multiply_45 hl (k := 4) rfl (by rw [ex5]; rfl) (by decide) rfl (fun ls hl => ?_)
      refine lv_goto (tgt := 5) C0.x C0.b dX3_multiply_48 (by decide) ?_
      exact ih _ _ _ hV _ _ hw _ (lv_sub hl [3, 4, 1, 0] rfl)
def V_X3_multiply (ai : Nat) (p0 : Int64) (S : SS) (post : SS → Prop) : Prop :=
  (∃ n5 : Nat, V_X3_multiply_5 ai p0  post n5 (0 : Int64) (0 : Int32) S)
set_option maxHeartbeats 4000000 in
set_option maxRecDepth 100000 in
theorem c_X3_multiply {po pa ai : Nat} (hO : lnP ad cI cJ X po pa ai) {S : SS} {p0 : Int64} {post : SS → Prop} (hV : V_X3_multiply ai p0 S post) : MV l yX3_multiply wsX3_multiply rm_X3_multiply [.ref (ad po), .long p0] D n0 ad cI cJ X S post := by
  refine Met.ofW (cc := cX3_multiply) (maxL := 8) (ret := none) (by decide) rfl ?_
  intro p e s m args below meth c s₁ B hml hv
  obtain ⟨rfl, hv⟩ := hv
  have C0 := Bd.mk B hml (atoms_spec (ws := wsX3_multiply) B.pre) (findClass_of_methodNamed B.named) hv.1
  have hw : Wh D n0 ad cI cJ X S s s.heap [] := ⟨hv.2.1, hv.2.2, va_S.rf⟩
  refine r_entry (Nat.le_of_ble_eq_true rfl) (fun ls hl => ?_)
  have hl : lv_has ls 8 [(0, .ref (ad po)), (1, .long p0)] := hl
  unfold V_X3_multiply at hV
  refine lv_lconst (v := 0) C0.x C0.b dX3_multiply_0 (by decide) ?_
  refine lv_lstore_n (lv' := [(3, .long (0 : Int64)), (0, .ref (ad po)), (1, .long p0)]) C0.x C0.b dX3_multiply_1 rfl hl (by decide) rfl (fun ls hl => ?_)
  refine lv_iconst (v := 0) C0.x C0.b dX3_multiply_2 (by decide) ?_
  refine lv_istore (lv' := [(5, .int (0 : Int32)), (3, .long (0 : Int64)), (0, .ref (ad po)), (1, .long p0)]) C0.x C0.b dX3_multiply_3 hl (by decide) rfl (fun ls hl => ?_)
  obtain ⟨n5, hV⟩ := hV
  exact lp_X3_multiply_5 hO _ post C0  n5 _ _ _ hV _ _ hw _ (lv_sub hl [2, 3, 1, 0] rfl)
/-! StepBench$Product.against(LStepBench$Product;)I -/
abbrev rm_X3_against : Room := { frames := 0, cells := 0, slots := 0, locals := 0 }
set_option maxRecDepth 20000 in
theorem fw_X3_against_9 : Cond.fieldLink RX3 9 "StepBench$Product" "digits" "[J" ∈ wsX3_against := by decide +kernel
set_option maxRecDepth 20000 in
theorem iw_X3_against_X3 : ∀ w ∈ wsX30, w ∈ wsX3_against := by decide +kernel
set_option maxRecDepth 20000 in
theorem hd_X3_against : yX3_against.cls = RX3 ∧ yX3_against.cls ≠ "java/lang/invoke/MethodHandle" ∧ yX3_against.cls ≠ "java/lang/invoke/VarHandle" ∧ (parseMethodDescriptor yX3_against.desc).map (fun d => d.parameters.length) = some 1 := by decide +kernel
def V_X3_against_3 (ai : Nat) (ai0 : Nat)   (post : Int32 → SS → Prop) : Nat → Int32 → SS → Prop
  | 0, _, _ => False
  | n + 1, v2, S =>
    ((v2 < 0 → (post (0 : Int32) S)) ∧ (¬ v2 < 0 → (vp_in v2 24 ∧ (vp_in v2 24 ∧ (((gA S ai v2.toNatClampNeg) = (gA S ai0 v2.toNatClampNeg) → (∀ x3 : Int32, x3 = v2 + (-1) → (V_X3_against_3 ai ai0   post n x3 S))) ∧ (¬ (gA S ai v2.toNatClampNeg) = (gA S ai0 v2.toNatClampNeg) → (vp_in v2 24 ∧ (vp_in v2 24 ∧ (((gA S ai v2.toNatClampNeg) ≤ (gA S ai0 v2.toNatClampNeg) → (post (-1 : Int32) S)) ∧ (¬ (gA S ai v2.toNatClampNeg) ≤ (gA S ai0 v2.toNatClampNeg) → (post (1 : Int32) S)))))))))))
set_option maxHeartbeats 4000000 in
set_option maxRecDepth 100000 in
theorem lp_X3_against_3 {po pa ai : Nat} (hO : lnP ad cI cJ X po pa ai) {po0 pa0 ai0 : Nat} (hO0 : lnP ad cI cJ X po0 pa0 ai0)   (post : Int32 → SS → Prop) (C0 : Bd p s m meth c args cX3_against 3 (some .int) wsX3_against RX3 D n0 cI cJ) : ∀ (n : Nat) (v2 : Int32) (S : SS), V_X3_against_3 ai ai0   post n v2 S → ∀ (H : Heap) (locs : List Loc), Wh D n0 ad cI cJ X S s H locs → ∀ ls : Array Slot, lv_has ls 3 [(0, .ref (ad po)), (1, .ref (ad po0)), (2, .int v2)] → W p l e rm_X3_against s m args below meth c H locs 0 0 (MQ below (va_Qi post (fun S' t => Wd D n0 ad cI cJ X S' t) (fr n0)) args s 0 0 (fr n0)) (F0 m 3 ls []) := by
  intro n
  induction n with
  | zero => intro v2 S hV; exact False.elim hV
  | succ n ih =>
    intro v2 S hV H locs hw ls hl
    rw [V_X3_against_3] at hV
    refine lv_iload_n C0.x C0.b dX3_against_3 rfl (lv_at hl 2 rfl) ?_
    refine lv_if_lt (tgt := 51) C0.x C0.b dX3_against_4 (by decide) (fun c1 => ?_) (fun c1 => ?_)
    · have hV := hV.1 c1
      refine lv_iconst (v := 0) C0.x C0.b dX3_against_51 (by decide) ?_
      exact r_iret C0 rfl hw hV dX3_against_52
    · have hV := hV.2 c1
      refine lv_aload_n C0.x C0.b dX3_against_7 rfl (lv_at hl 0 rfl) ?_
      refine r_get C0 hw (C := RX3) (T := TX3) (N := 1) (v := .ref (ad pa)) iw_X3_against_X3 (hO S).1 rfl 0 (by decide) (C0.ts _ fw_X3_against_9) rfl dX3_against_8 ?_
      refine lv_iload_n C0.x C0.b dX3_against_11 rfl (lv_at hl 2 rfl) ?_
      refine r_lald C0 hw (hO S).2.1 hV.1 dX3_against_12 ?_
      have hV := hV.2
      refine lv_aload_n C0.x C0.b dX3_against_13 rfl (lv_at hl 1 rfl) ?_
      refine r_get C0 hw (C := RX3) (T := TX3) (N := 1) (v := .ref (ad pa0)) iw_X3_against_X3 (hO0 S).1 rfl 0 (by decide) (C0.ts _ fw_X3_against_9) rfl dX3_against_14 ?_
      refine lv_iload_n C0.x C0.b dX3_against_17 rfl (lv_at hl 2 rfl) ?_
      refine r_lald C0 hw (hO0 S).2.1 hV.1 dX3_against_18 ?_
      have hV := hV.2
      refine r_lcmp C0 dX3_against_19 ?_
      refine lv_if_eq (tgt := 45) C0.x C0.b dX3_against_20 (by decide) (fun c2 => ?_) (fun c2 => ?_)
      · have hV := hV.1 ((lc_eq _ _).mp c2)
        obtain ⟨x3, ex3⟩ : ∃ z : Int32, z = v2 + (-1) := ⟨_, rfl⟩
        have hV := hV x3 ex3
        refine lv_iinc (v := x3) (lv' := [(2, .int x3), (0, .ref (ad po)), (1, .ref (ad po0))]) C0.x C0.b dX3_against_45 hl (k := 2) rfl (by rw [ex3]; rfl) (by decide) rfl (fun ls hl => ?_)
        refine lv_goto (tgt := 3) C0.x C0.b dX3_against_48 (by decide) ?_
        exact ih _ _ hV _ _ hw _ (lv_sub hl [1, 2, 0] rfl)
      · have hV := hV.2 (fun h => c2 ((lc_eq _ _).mpr h))
        refine lv_aload_n C0.x C0.b dX3_against_23 rfl (lv_at hl 0 rfl) ?_
        refine r_get C0 hw (C := RX3) (T := TX3) (N := 1) (v := .ref (ad pa)) iw_X3_against_X3 (hO S).1 rfl 0 (by decide) (C0.ts _ fw_X3_against_9) rfl dX3_against_24 ?_
        refine lv_iload_n C0.x C0.b dX3_against_27 rfl (lv_at hl 2 rfl) ?_
        refine r_lald C0 hw (hO S).2.1 hV.1 dX3_against_28 ?_
        have hV := hV.2
        refine lv_aload_n C0.x C0.b dX3_against_29 rfl (lv_at hl 1 rfl) ?_
        refine r_get C0 hw (C := RX3) (T := TX3) (N := 1) (v := .ref (ad pa0)) iw_X3_against_X3 (hO0 S).1 rfl 0 (by decide) (C0.ts _ fw_X3_against_9) rfl dX3_against_30 ?_
        refine lv_iload_n C0.x C0.b dX3_against_33 rfl (lv_at hl 2 rfl) ?_
        refine r_lald C0 hw (hO0 S).2.1 hV.1 dX3_against_34 ?_
        have hV := hV.2
        refine r_lcmp C0 dX3_against_35 ?_
        refine lv_if_le (tgt := 43) C0.x C0.b dX3_against_36 (by decide) (fun c4 => ?_) (fun c4 => ?_)
        · have hV := hV.1 ((lc_le _ _).mp c4)
          refine lv_iconst (v := -1) C0.x C0.b dX3_against_43 (by decide) ?_
          exact r_iret C0 rfl hw hV dX3_against_44
        · have hV := hV.2 (fun h => c4 ((lc_le _ _).mpr h))
          refine lv_iconst (v := 1) C0.x C0.b dX3_against_39 (by decide) ?_
          refine lv_goto (tgt := 44) C0.x C0.b dX3_against_40 (by decide) ?_
          exact r_iret C0 rfl hw hV dX3_against_44
def V_X3_against (ai : Nat) (ai0 : Nat)  (S : SS) (post : Int32 → SS → Prop) : Prop :=
  (∃ n3 : Nat, V_X3_against_3 ai ai0   post n3 (23 : Int32) S)
set_option maxHeartbeats 4000000 in
set_option maxRecDepth 100000 in
theorem c_X3_against {po pa ai : Nat} (hO : lnP ad cI cJ X po pa ai) {po0 pa0 ai0 : Nat} (hO0 : lnP ad cI cJ X po0 pa0 ai0) {S : SS}  {post : Int32 → SS → Prop} (hV : V_X3_against ai ai0  S post) : MI l yX3_against wsX3_against rm_X3_against [.ref (ad po), .ref (ad po0)] D n0 ad cI cJ X S post := by
  refine Met.ofW (cc := cX3_against) (maxL := 3) (ret := (some .int)) (by decide) rfl ?_
  intro p e s m args below meth c s₁ B hml hv
  obtain ⟨rfl, hv⟩ := hv
  have C0 := Bd.mk B hml (atoms_spec (ws := wsX3_against) B.pre) (findClass_of_methodNamed B.named) hv.1
  have hw : Wh D n0 ad cI cJ X S s s.heap [] := ⟨hv.2.1, hv.2.2, va_S.rf⟩
  refine r_entry (Nat.le_of_ble_eq_true rfl) (fun ls hl => ?_)
  have hl : lv_has ls 3 [(0, .ref (ad po)), (1, .ref (ad po0))] := hl
  unfold V_X3_against at hV
  refine lv_bipush (v := 23) C0.x C0.b dX3_against_0 (by decide) ?_
  refine lv_istore_n (lv' := [(2, .int (23 : Int32)), (0, .ref (ad po)), (1, .ref (ad po0))]) C0.x C0.b dX3_against_2 rfl hl (by decide) rfl (fun ls hl => ?_)
  obtain ⟨n3, hV⟩ := hV
  exact lp_X3_against_3 hO hO0  post C0  n3 _ _ hV _ _ hw _ (lv_sub hl [1, 2, 0] rfl)
/-! StepBench$Shapes.has(I)Z -/
abbrev rm_X4_has : Room := { frames := 0, cells := 0, slots := 0, locals := 0 }
set_option maxRecDepth 20000 in
theorem hd_X4_has : yX4_has.cls ≠ "java/lang/invoke/MethodHandle" ∧ yX4_has.cls ≠ "java/lang/invoke/VarHandle" ∧ (parseMethodDescriptor yX4_has.desc).map (fun d => d.parameters.length) = some 1 := by decide +kernel
def V_X4_has  (p0 : Int32) (S : SS) (post : Int32 → SS → Prop) : Prop :=
  ((p0 < 0 → (post (0 : Int32) S)) ∧ (¬ p0 < 0 → (((40 : Int32) < p0 → (post (0 : Int32) S)) ∧ (¬ (40 : Int32) < p0 → (post (1 : Int32) S)))))
set_option maxHeartbeats 4000000 in
set_option maxRecDepth 100000 in
theorem c_X4_has  {S : SS} {p0 : Int32} {post : Int32 → SS → Prop} (hV : V_X4_has  p0 S post) : MI l yX4_has wsX4_has rm_X4_has [.int p0] D n0 ad cI cJ X S post := by
  refine Met.ofW (cc := cX4_has) (maxL := 1) (ret := (some .boolean)) (by decide) rfl ?_
  intro p e s m args below meth c s₁ B hml hv
  obtain ⟨rfl, hv⟩ := hv
  have C0 := Bd.mk B hml (atoms_spec (ws := wsX4_has) B.pre) (findClass_of_methodNamed B.named) hv.1
  have hw : Wh D n0 ad cI cJ X S s s.heap [] := ⟨hv.2.1, hv.2.2, va_S.rf⟩
  refine r_entry (Nat.le_of_ble_eq_true rfl) (fun ls hl => ?_)
  have hl : lv_has ls 1 [(0, .int p0)] := hl
  unfold V_X4_has at hV
  refine lv_iload_n C0.x C0.b dX4_has_0 rfl (lv_at hl 0 rfl) ?_
  refine lv_if_lt (tgt := 14) C0.x C0.b dX4_has_1 (by decide) (fun c1 => ?_) (fun c1 => ?_)
  · have hV := hV.1 c1
    refine lv_iconst (v := 0) C0.x C0.b dX4_has_14 (by decide) ?_
    exact r_zret C0 rfl bz_0 hw hV dX4_has_15
  · have hV := hV.2 c1
    refine lv_iload_n C0.x C0.b dX4_has_4 rfl (lv_at hl 0 rfl) ?_
    refine lv_bipush (v := 40) C0.x C0.b dX4_has_5 (by decide) ?_
    refine lv_icmp_gt (tgt := 14) C0.x C0.b dX4_has_7 (by decide) (fun c2 => ?_) (fun c2 => ?_)
    · have hV := hV.1 c2
      refine lv_iconst (v := 0) C0.x C0.b dX4_has_14 (by decide) ?_
      exact r_zret C0 rfl bz_0 hw hV dX4_has_15
    · have hV := hV.2 c2
      refine lv_iconst (v := 1) C0.x C0.b dX4_has_10 (by decide) ?_
      refine lv_goto (tgt := 15) C0.x C0.b dX4_has_11 (by decide) ?_
      exact r_zret C0 rfl bz_1 hw hV dX4_has_15
end
