section
variable {p : Program} {l : Launch} {e : Env} {s : State} {m : MethodId} {args : Array Value} {below : List Frame} {meth : Method} {c : Code}
variable {D : va_G} {n0 : Nat} {ad : Nat → Nat} {cI cJ : ClassId} {X : va_W}
/-! StepBench$Numbers.size()I -/
abbrev rm_X2_size : Room := { frames := 0, cells := 0, slots := 0, locals := 0 }
set_option maxRecDepth 20000 in
theorem fw_X2_size_7 : Cond.fieldLink RX2 7 "StepBench$Numbers" "size" "I" ∈ wsX2_size := by decide +kernel
set_option maxRecDepth 20000 in
theorem iw_X2_size_X2 : ∀ w ∈ wsX20, w ∈ wsX2_size := by decide +kernel
set_option maxRecDepth 20000 in
theorem hd_X2_size : yX2_size.cls = RX2 ∧ yX2_size.cls ≠ "java/lang/invoke/MethodHandle" ∧ yX2_size.cls ≠ "java/lang/invoke/VarHandle" ∧ (parseMethodDescriptor yX2_size.desc).map (fun d => d.parameters.length) = some 0 := by decide +kernel
def V_X2_size (si ai L : Nat)  (S : SS) (post : Int32 → SS → Prop) : Prop :=
  (post (gI S si) S)
set_option maxHeartbeats 4000000 in
set_option maxRecDepth 100000 in
theorem c_X2_size {po pa si ai L : Nat} (hO : lnN ad cI cJ X po pa si ai L) {S : SS}  {post : Int32 → SS → Prop} (hV : V_X2_size si ai L  S post) : MI l yX2_size wsX2_size rm_X2_size [.ref (ad po)] D n0 ad cI cJ X S post := by
  refine Met.ofW (cc := cX2_size) (maxL := 1) (ret := (some .int)) (by decide) rfl ?_
  intro p e s m args below meth c s₁ B hml hv
  obtain ⟨rfl, hv⟩ := hv
  have C0 := Bd.mk B hml (atoms_spec (ws := wsX2_size) B.pre) (findClass_of_methodNamed B.named) hv.1
  have hw : Wh D n0 ad cI cJ X S s s.heap [] := ⟨hv.2.1, hv.2.2, va_S.rf⟩
  refine r_entry (Nat.le_of_ble_eq_true rfl) (fun ls hl => ?_)
  have hl : lv_has ls 1 [(0, .ref (ad po))] := hl
  unfold V_X2_size at hV
  refine lv_aload_n C0.x C0.b dX2_size_0 rfl (lv_at hl 0 rfl) ?_
  refine r_get C0 hw (C := RX2) (T := TX2) (N := 2) (v := .int (gI S si)) iw_X2_size_X2 (hO S).1 rfl 1 (by decide) (C0.ts _ fw_X2_size_7) rfl dX2_size_1 ?_
  exact r_iret C0 rfl hw hV dX2_size_4
/-! StepBench$Numbers.has(I)Z -/
abbrev rm_X2_has : Room := { frames := 0, cells := 0, slots := 0, locals := 0 }
set_option maxRecDepth 20000 in
theorem fw_X2_has_7 : Cond.fieldLink RX2 7 "StepBench$Numbers" "size" "I" ∈ wsX2_has := by decide +kernel
set_option maxRecDepth 20000 in
theorem iw_X2_has_X2 : ∀ w ∈ wsX20, w ∈ wsX2_has := by decide +kernel
set_option maxRecDepth 20000 in
theorem fw_X2_has_19 : Cond.fieldLink RX2 19 "StepBench$Numbers" "cells" "[J" ∈ wsX2_has := by decide +kernel
set_option maxRecDepth 20000 in
theorem hd_X2_has : yX2_has.cls = RX2 ∧ yX2_has.cls ≠ "java/lang/invoke/MethodHandle" ∧ yX2_has.cls ≠ "java/lang/invoke/VarHandle" ∧ (parseMethodDescriptor yX2_has.desc).map (fun d => d.parameters.length) = some 1 := by decide +kernel
def V_X2_has (si ai L : Nat) (p0 : Int32) (S : SS) (post : Int32 → SS → Prop) : Prop :=
  ((p0 < 0 → (post (0 : Int32) S)) ∧ (¬ p0 < 0 → (((gI S si) ≤ p0 → (post (0 : Int32) S)) ∧ (¬ (gI S si) ≤ p0 → (((Int32.ofNat L) ≤ p0 → (post (0 : Int32) S)) ∧ (¬ (Int32.ofNat L) ≤ p0 → (post (1 : Int32) S)))))))
set_option maxHeartbeats 4000000 in
set_option maxRecDepth 100000 in
theorem c_X2_has {po pa si ai L : Nat} (hO : lnN ad cI cJ X po pa si ai L) {S : SS} {p0 : Int32} {post : Int32 → SS → Prop} (hV : V_X2_has si ai L p0 S post) : MI l yX2_has wsX2_has rm_X2_has [.ref (ad po), .int p0] D n0 ad cI cJ X S post := by
  refine Met.ofW (cc := cX2_has) (maxL := 2) (ret := (some .boolean)) (by decide) rfl ?_
  intro p e s m args below meth c s₁ B hml hv
  obtain ⟨rfl, hv⟩ := hv
  have C0 := Bd.mk B hml (atoms_spec (ws := wsX2_has) B.pre) (findClass_of_methodNamed B.named) hv.1
  have hw : Wh D n0 ad cI cJ X S s s.heap [] := ⟨hv.2.1, hv.2.2, va_S.rf⟩
  refine r_entry (Nat.le_of_ble_eq_true rfl) (fun ls hl => ?_)
  have hl : lv_has ls 2 [(0, .ref (ad po)), (1, .int p0)] := hl
  unfold V_X2_has at hV
  refine lv_iload_n C0.x C0.b dX2_has_0 rfl (lv_at hl 1 rfl) ?_
  refine lv_if_lt (tgt := 25) C0.x C0.b dX2_has_1 (by decide) (fun c1 => ?_) (fun c1 => ?_)
  · have hV := hV.1 c1
    refine lv_iconst (v := 0) C0.x C0.b dX2_has_25 (by decide) ?_
    exact r_zret C0 rfl bz_0 hw hV dX2_has_26
  · have hV := hV.2 c1
    refine lv_iload_n C0.x C0.b dX2_has_4 rfl (lv_at hl 1 rfl) ?_
    refine lv_aload_n C0.x C0.b dX2_has_5 rfl (lv_at hl 0 rfl) ?_
    refine r_get C0 hw (C := RX2) (T := TX2) (N := 2) (v := .int (gI S si)) iw_X2_has_X2 (hO S).1 rfl 1 (by decide) (C0.ts _ fw_X2_has_7) rfl dX2_has_6 ?_
    refine lv_icmp_ge (tgt := 25) C0.x C0.b dX2_has_9 (by decide) (fun c2 => ?_) (fun c2 => ?_)
    · have hV := hV.1 c2
      refine lv_iconst (v := 0) C0.x C0.b dX2_has_25 (by decide) ?_
      exact r_zret C0 rfl bz_0 hw hV dX2_has_26
    · have hV := hV.2 c2
      refine lv_iload_n C0.x C0.b dX2_has_12 rfl (lv_at hl 1 rfl) ?_
      refine lv_aload_n C0.x C0.b dX2_has_13 rfl (lv_at hl 0 rfl) ?_
      refine r_get C0 hw (C := RX2) (T := TX2) (N := 2) (v := .ref (ad pa)) iw_X2_has_X2 (hO S).1 rfl 0 (by decide) (C0.ts _ fw_X2_has_19) rfl dX2_has_14 ?_
      refine r_alenL C0 hw (hO S).2.1 (v := Int32.ofNat L) rfl dX2_has_17 ?_
      refine lv_icmp_ge (tgt := 25) C0.x C0.b dX2_has_18 (by decide) (fun c3 => ?_) (fun c3 => ?_)
      · have hV := hV.1 c3
        refine lv_iconst (v := 0) C0.x C0.b dX2_has_25 (by decide) ?_
        exact r_zret C0 rfl bz_0 hw hV dX2_has_26
      · have hV := hV.2 c3
        refine lv_iconst (v := 1) C0.x C0.b dX2_has_21 (by decide) ?_
        refine lv_goto (tgt := 26) C0.x C0.b dX2_has_22 (by decide) ?_
        exact r_zret C0 rfl bz_1 hw hV dX2_has_26
/-! StepBench$Numbers.at(I)J -/
abbrev rm_X2_at : Room := { frames := 1, cells := 0, slots := 0, locals := 21 }
set_option maxRecDepth 20000 in
theorem fw_X2_at_19 : Cond.fieldLink RX2 19 "StepBench$Numbers" "cells" "[J" ∈ wsX2_at := by decide +kernel
set_option maxRecDepth 20000 in
theorem iw_X2_at_X2 : ∀ w ∈ wsX20, w ∈ wsX2_at := by decide +kernel
set_option maxRecDepth 20000 in
theorem hd_X2_at : yX2_at.cls = RX2 ∧ yX2_at.cls ≠ "java/lang/invoke/MethodHandle" ∧ yX2_at.cls ≠ "java/lang/invoke/VarHandle" ∧ (parseMethodDescriptor yX2_at.desc).map (fun d => d.parameters.length) = some 1 := by decide +kernel
def V_X2_at (si ai L : Nat) (p0 : Int32) (S : SS) (post : Int64 → SS → Prop) : Prop :=
  (V_X2_has si ai L p0 S (fun (r1 : Int32) (S2 : SS) => ((r1 = 0 → (post (0 : Int64) S2)) ∧ (¬ r1 = 0 → (vp_in p0 L ∧ (post (gA S2 ai p0.toNatClampNeg) S2))))))
set_option maxHeartbeats 4000000 in
set_option maxRecDepth 100000 in
theorem c_X2_at {po pa si ai L : Nat} (hO : lnN ad cI cJ X po pa si ai L) {S : SS} {p0 : Int32} {post : Int64 → SS → Prop} (hV : V_X2_at si ai L p0 S post) : ML l yX2_at wsX2_at rm_X2_at [.ref (ad po), .int p0] D n0 ad cI cJ X S post := by
  refine Met.ofW (cc := cX2_at) (maxL := 2) (ret := (some .long)) (by decide) rfl ?_
  intro p e s m args below meth c s₁ B hml hv
  obtain ⟨rfl, hv⟩ := hv
  have C0 := Bd.mk B hml (atoms_spec (ws := wsX2_at) B.pre) (findClass_of_methodNamed B.named) hv.1
  have hw : Wh D n0 ad cI cJ X S s s.heap [] := ⟨hv.2.1, hv.2.2, va_S.rf⟩
  refine r_entry (Nat.le_of_ble_eq_true rfl) (fun ls hl => ?_)
  have hl : lv_has ls 2 [(0, .ref (ad po)), (1, .int p0)] := hl
  unfold V_X2_at at hV
  refine lv_aload_n C0.x C0.b dX2_at_0 rfl (lv_at hl 0 rfl) ?_
  refine lv_iload_n C0.x C0.b dX2_at_1 rfl (lv_at hl 1 rfl) ?_
  refine r_cV_i (As := [.int p0]) (rest := []) C0 hw (c_X2_has hO hV) (cwV 1 C0.ts gX2_at_X2_has rfl rfl rfl hd_X2_has ⟨Nat.le_of_ble_eq_true rfl, Nat.le_of_ble_eq_true rfl⟩) (hO S).1 rfl rfl hl.1 rfl (Nat.le_of_ble_eq_true rfl) ⟨Nat.zero_le _, Nat.zero_le _⟩ dX2_at_2 (fun r1 S2 H locs hV hw => ?_)
  refine lv_if_eq (tgt := 17) C0.x C0.b dX2_at_5 (by decide) (fun c3 => ?_) (fun c3 => ?_)
  · have hV := hV.1 c3
    refine lv_lconst (v := 0) C0.x C0.b dX2_at_17 (by decide) ?_
    exact r_lret C0 rfl hw hV dX2_at_18
  · have hV := hV.2 c3
    refine lv_aload_n C0.x C0.b dX2_at_8 rfl (lv_at hl 0 rfl) ?_
    refine r_get C0 hw (C := RX2) (T := TX2) (N := 2) (v := .ref (ad pa)) iw_X2_at_X2 (hO S2).1 rfl 0 (by decide) (C0.ts _ fw_X2_at_19) rfl dX2_at_9 ?_
    refine lv_iload_n C0.x C0.b dX2_at_12 rfl (lv_at hl 1 rfl) ?_
    refine r_lald C0 hw (hO S2).2.1 hV.1 dX2_at_13 ?_
    have hV := hV.2
    refine lv_goto (tgt := 18) C0.x C0.b dX2_at_14 (by decide) ?_
    exact r_lret C0 rfl hw hV dX2_at_18
/-! StepBench$Numbers.put(IJ)V -/
abbrev rm_X2_put : Room := { frames := 1, cells := 0, slots := 0, locals := 21 }
set_option maxRecDepth 20000 in
theorem fw_X2_put_19 : Cond.fieldLink RX2 19 "StepBench$Numbers" "cells" "[J" ∈ wsX2_put := by decide +kernel
set_option maxRecDepth 20000 in
theorem iw_X2_put_X2 : ∀ w ∈ wsX20, w ∈ wsX2_put := by decide +kernel
set_option maxRecDepth 20000 in
theorem hd_X2_put : yX2_put.cls = RX2 ∧ yX2_put.cls ≠ "java/lang/invoke/MethodHandle" ∧ yX2_put.cls ≠ "java/lang/invoke/VarHandle" ∧ (parseMethodDescriptor yX2_put.desc).map (fun d => d.parameters.length) = some 2 := by decide +kernel
def V_X2_put (si ai L : Nat) (p0 : Int32) (p1 : Int64) (S : SS) (post : SS → Prop) : Prop :=
  (V_X2_has si ai L p0 S (fun (r1 : Int32) (S2 : SS) => ((r1 = 0 → (post S2)) ∧ (¬ r1 = 0 → (vp_in p0 L ∧ ∀ S4 : SS, S4 = (sA S2 ai (vp_updL (gA S2 ai) p0.toNatClampNeg p1)) → (post S4))))))
set_option maxHeartbeats 4000000 in
set_option maxRecDepth 100000 in
theorem c_X2_put {po pa si ai L : Nat} (hO : lnN ad cI cJ X po pa si ai L) {S : SS} {p0 : Int32} {p1 : Int64} {post : SS → Prop} (hV : V_X2_put si ai L p0 p1 S post) : MV l yX2_put wsX2_put rm_X2_put [.ref (ad po), .int p0, .long p1] D n0 ad cI cJ X S post := by
  refine Met.ofW (cc := cX2_put) (maxL := 4) (ret := none) (by decide) rfl ?_
  intro p e s m args below meth c s₁ B hml hv
  obtain ⟨rfl, hv⟩ := hv
  have C0 := Bd.mk B hml (atoms_spec (ws := wsX2_put) B.pre) (findClass_of_methodNamed B.named) hv.1
  have hw : Wh D n0 ad cI cJ X S s s.heap [] := ⟨hv.2.1, hv.2.2, va_S.rf⟩
  refine r_entry (Nat.le_of_ble_eq_true rfl) (fun ls hl => ?_)
  have hl : lv_has ls 4 [(0, .ref (ad po)), (1, .int p0), (2, .long p1)] := hl
  unfold V_X2_put at hV
  refine lv_aload_n C0.x C0.b dX2_put_0 rfl (lv_at hl 0 rfl) ?_
  refine lv_iload_n C0.x C0.b dX2_put_1 rfl (lv_at hl 1 rfl) ?_
  refine r_cV_i (As := [.int p0]) (rest := []) C0 hw (c_X2_has hO hV) (cwV 1 C0.ts gX2_put_X2_has rfl rfl rfl hd_X2_has ⟨Nat.le_of_ble_eq_true rfl, Nat.le_of_ble_eq_true rfl⟩) (hO S).1 rfl rfl hl.1 rfl (Nat.le_of_ble_eq_true rfl) ⟨Nat.zero_le _, Nat.zero_le _⟩ dX2_put_2 (fun r1 S2 H locs hV hw => ?_)
  refine lv_if_eq (tgt := 15) C0.x C0.b dX2_put_5 (by decide) (fun c3 => ?_) (fun c3 => ?_)
  · have hV := hV.1 c3
    exact r_vret C0 rfl hw hV dX2_put_15
  · have hV := hV.2 c3
    refine lv_aload_n C0.x C0.b dX2_put_8 rfl (lv_at hl 0 rfl) ?_
    refine r_get C0 hw (C := RX2) (T := TX2) (N := 2) (v := .ref (ad pa)) iw_X2_put_X2 (hO S2).1 rfl 0 (by decide) (C0.ts _ fw_X2_put_19) rfl dX2_put_9 ?_
    refine lv_iload_n C0.x C0.b dX2_put_12 rfl (lv_at hl 1 rfl) ?_
    refine lv_lload_n C0.x C0.b dX2_put_13 rfl (lv_at hl 2 rfl) ?_
    refine r_last C0 hw (hO S2).2.1 hV.1 dX2_put_14 (S' := (sA S2 ai (vp_updL (gA S2 ai) p0.toNatClampNeg p1))) ((hO S2).2.2.2 (vp_updL (gA S2 ai) p0.toNatClampNeg p1)) (fun S4 H locs eS4 hw => ?_)
    have hV := hV.2 S4 eS4
    exact r_vret C0 rfl hw hV dX2_put_15
/-! StepBench$Numbers.empty()V -/
abbrev rm_X2_empty : Room := { frames := 0, cells := 0, slots := 0, locals := 0 }
set_option maxRecDepth 20000 in
theorem fw_X2_empty_7 : Cond.fieldLink RX2 7 "StepBench$Numbers" "size" "I" ∈ wsX2_empty := by decide +kernel
set_option maxRecDepth 20000 in
theorem iw_X2_empty_X2 : ∀ w ∈ wsX20, w ∈ wsX2_empty := by decide +kernel
set_option maxRecDepth 20000 in
theorem hd_X2_empty : yX2_empty.cls = RX2 ∧ yX2_empty.cls ≠ "java/lang/invoke/MethodHandle" ∧ yX2_empty.cls ≠ "java/lang/invoke/VarHandle" ∧ (parseMethodDescriptor yX2_empty.desc).map (fun d => d.parameters.length) = some 0 := by decide +kernel
def V_X2_empty (si ai L : Nat)  (S : SS) (post : SS → Prop) : Prop :=
  (∀ S1 : SS, S1 = (sI S si (0 : Int32)) → (post S1))
set_option maxHeartbeats 4000000 in
set_option maxRecDepth 100000 in
theorem c_X2_empty {po pa si ai L : Nat} (hO : lnN ad cI cJ X po pa si ai L) {S : SS}  {post : SS → Prop} (hV : V_X2_empty si ai L  S post) : MV l yX2_empty wsX2_empty rm_X2_empty [.ref (ad po)] D n0 ad cI cJ X S post := by
  refine Met.ofW (cc := cX2_empty) (maxL := 1) (ret := none) (by decide) rfl ?_
  intro p e s m args below meth c s₁ B hml hv
  obtain ⟨rfl, hv⟩ := hv
  have C0 := Bd.mk B hml (atoms_spec (ws := wsX2_empty) B.pre) (findClass_of_methodNamed B.named) hv.1
  have hw : Wh D n0 ad cI cJ X S s s.heap [] := ⟨hv.2.1, hv.2.2, va_S.rf⟩
  refine r_entry (Nat.le_of_ble_eq_true rfl) (fun ls hl => ?_)
  have hl : lv_has ls 1 [(0, .ref (ad po))] := hl
  unfold V_X2_empty at hV
  refine lv_aload_n C0.x C0.b dX2_empty_0 rfl (lv_at hl 0 rfl) ?_
  refine lv_iconst (v := 0) C0.x C0.b dX2_empty_1 (by decide) ?_
  refine r_put C0 hw (C := RX2) (T := TX2) (N := 2) (ty := .int) iw_X2_empty_X2 tyX2 tyX2_ok nmX2 (hO S).1 rfl 1 (by decide) (C0.ts _ fw_X2_empty_7) rfl (by decide +kernel) rfl rfl (Nat.le_of_ble_eq_true rfl) dX2_empty_2 (S' := (sI S si (0 : Int32))) ((hO S).2.2.1 (0 : Int32)) (fun S1 H locs eS1 hw => ?_)
  have hV := hV S1 eS1
  exact r_vret C0 rfl hw hV dX2_empty_5
/-! StepBench$Numbers.add(J)Z -/
abbrev rm_X2_add : Room := { frames := 0, cells := 0, slots := 0, locals := 0 }
set_option maxRecDepth 20000 in
theorem fw_X2_add_7 : Cond.fieldLink RX2 7 "StepBench$Numbers" "size" "I" ∈ wsX2_add := by decide +kernel
set_option maxRecDepth 20000 in
theorem iw_X2_add_X2 : ∀ w ∈ wsX20, w ∈ wsX2_add := by decide +kernel
set_option maxRecDepth 20000 in
theorem fw_X2_add_19 : Cond.fieldLink RX2 19 "StepBench$Numbers" "cells" "[J" ∈ wsX2_add := by decide +kernel
set_option maxRecDepth 20000 in
theorem hd_X2_add : yX2_add.cls = RX2 ∧ yX2_add.cls ≠ "java/lang/invoke/MethodHandle" ∧ yX2_add.cls ≠ "java/lang/invoke/VarHandle" ∧ (parseMethodDescriptor yX2_add.desc).map (fun d => d.parameters.length) = some 1 := by decide +kernel
def V_X2_add (si ai L : Nat) (p0 : Int64) (S : SS) (post : Int32 → SS → Prop) : Prop :=
  (((gI S si) < 0 → (post (0 : Int32) S)) ∧ (¬ (gI S si) < 0 → (((gI S si) < (Int32.ofNat L) → (vp_in (gI S si) L ∧ ∀ S3 : SS, S3 = (sA S ai (vp_updL (gA S ai) (gI S si).toNatClampNeg p0)) → (∀ S4 : SS, S4 = (sI S3 si ((gI S3 si) + (1 : Int32))) → (post (1 : Int32) S4)))) ∧ (¬ (gI S si) < (Int32.ofNat L) → (post (0 : Int32) S)))))
set_option maxHeartbeats 4000000 in
set_option maxRecDepth 100000 in
theorem c_X2_add {po pa si ai L : Nat} (hO : lnN ad cI cJ X po pa si ai L) {S : SS} {p0 : Int64} {post : Int32 → SS → Prop} (hV : V_X2_add si ai L p0 S post) : MI l yX2_add wsX2_add rm_X2_add [.ref (ad po), .long p0] D n0 ad cI cJ X S post := by
  refine Met.ofW (cc := cX2_add) (maxL := 3) (ret := (some .boolean)) (by decide) rfl ?_
  intro p e s m args below meth c s₁ B hml hv
  obtain ⟨rfl, hv⟩ := hv
  have C0 := Bd.mk B hml (atoms_spec (ws := wsX2_add) B.pre) (findClass_of_methodNamed B.named) hv.1
  have hw : Wh D n0 ad cI cJ X S s s.heap [] := ⟨hv.2.1, hv.2.2, va_S.rf⟩
  refine r_entry (Nat.le_of_ble_eq_true rfl) (fun ls hl => ?_)
  have hl : lv_has ls 3 [(0, .ref (ad po)), (1, .long p0)] := hl
  unfold V_X2_add at hV
  refine lv_aload_n C0.x C0.b dX2_add_0 rfl (lv_at hl 0 rfl) ?_
  refine r_get C0 hw (C := RX2) (T := TX2) (N := 2) (v := .int (gI S si)) iw_X2_add_X2 (hO S).1 rfl 1 (by decide) (C0.ts _ fw_X2_add_7) rfl dX2_add_1 ?_
  refine lv_if_lt (tgt := 19) C0.x C0.b dX2_add_4 (by decide) (fun c1 => ?_) (fun c1 => ?_)
  · have hV := hV.1 c1
    refine lv_iconst (v := 0) C0.x C0.b dX2_add_19 (by decide) ?_
    exact r_zret C0 rfl bz_0 hw hV dX2_add_20
  · have hV := hV.2 c1
    refine lv_aload_n C0.x C0.b dX2_add_7 rfl (lv_at hl 0 rfl) ?_
    refine r_get C0 hw (C := RX2) (T := TX2) (N := 2) (v := .int (gI S si)) iw_X2_add_X2 (hO S).1 rfl 1 (by decide) (C0.ts _ fw_X2_add_7) rfl dX2_add_8 ?_
    refine lv_aload_n C0.x C0.b dX2_add_11 rfl (lv_at hl 0 rfl) ?_
    refine r_get C0 hw (C := RX2) (T := TX2) (N := 2) (v := .ref (ad pa)) iw_X2_add_X2 (hO S).1 rfl 0 (by decide) (C0.ts _ fw_X2_add_19) rfl dX2_add_12 ?_
    refine r_alenL C0 hw (hO S).2.1 (v := Int32.ofNat L) rfl dX2_add_15 ?_
    refine lv_icmp_lt (tgt := 21) C0.x C0.b dX2_add_16 (by decide) (fun c2 => ?_) (fun c2 => ?_)
    · have hV := hV.1 c2
      refine lv_aload_n C0.x C0.b dX2_add_21 rfl (lv_at hl 0 rfl) ?_
      refine r_get C0 hw (C := RX2) (T := TX2) (N := 2) (v := .ref (ad pa)) iw_X2_add_X2 (hO S).1 rfl 0 (by decide) (C0.ts _ fw_X2_add_19) rfl dX2_add_22 ?_
      refine lv_aload_n C0.x C0.b dX2_add_25 rfl (lv_at hl 0 rfl) ?_
      refine r_get C0 hw (C := RX2) (T := TX2) (N := 2) (v := .int (gI S si)) iw_X2_add_X2 (hO S).1 rfl 1 (by decide) (C0.ts _ fw_X2_add_7) rfl dX2_add_26 ?_
      refine lv_lload_n C0.x C0.b dX2_add_29 rfl (lv_at hl 1 rfl) ?_
      refine r_last C0 hw (hO S).2.1 hV.1 dX2_add_30 (S' := (sA S ai (vp_updL (gA S ai) (gI S si).toNatClampNeg p0))) ((hO S).2.2.2 (vp_updL (gA S ai) (gI S si).toNatClampNeg p0)) (fun S3 H locs eS3 hw => ?_)
      have hV := hV.2 S3 eS3
      refine lv_aload_n C0.x C0.b dX2_add_31 rfl (lv_at hl 0 rfl) ?_
      refine lv_dup C0.x C0.b dX2_add_32 rfl ?_
      refine r_get C0 hw (C := RX2) (T := TX2) (N := 2) (v := .int (gI S3 si)) iw_X2_add_X2 (hO S3).1 rfl 1 (by decide) (C0.ts _ fw_X2_add_7) rfl dX2_add_33 ?_
      refine lv_iconst (v := 1) C0.x C0.b dX2_add_36 (by decide) ?_
      refine lv_iadd C0.x C0.b dX2_add_37 ?_
      refine r_put C0 hw (C := RX2) (T := TX2) (N := 2) (ty := .int) iw_X2_add_X2 tyX2 tyX2_ok nmX2 (hO S3).1 rfl 1 (by decide) (C0.ts _ fw_X2_add_7) rfl (by decide +kernel) rfl rfl (Nat.le_of_ble_eq_true rfl) dX2_add_38 (S' := (sI S3 si ((gI S3 si) + (1 : Int32)))) ((hO S3).2.2.1 ((gI S3 si) + (1 : Int32))) (fun S4 H locs eS4 hw => ?_)
      have hV := hV S4 eS4
      refine lv_iconst (v := 1) C0.x C0.b dX2_add_41 (by decide) ?_
      exact r_zret C0 rfl bz_1 hw hV dX2_add_42
    · have hV := hV.2 c2
      refine lv_iconst (v := 0) C0.x C0.b dX2_add_19 (by decide) ?_
      exact r_zret C0 rfl bz_0 hw hV dX2_add_20
/-! StepBench$Numbers.zeros(I)V -/
abbrev rm_X2_zeros : Room := { frames := 1, cells := 0, slots := 0, locals := 22 }
set_option maxRecDepth 20000 in
theorem fw_X2_zeros_7 : Cond.fieldLink RX2 7 "StepBench$Numbers" "size" "I" ∈ wsX2_zeros := by decide +kernel
set_option maxRecDepth 20000 in
theorem iw_X2_zeros_X2 : ∀ w ∈ wsX20, w ∈ wsX2_zeros := by decide +kernel
set_option maxRecDepth 20000 in
theorem hd_X2_zeros : yX2_zeros.cls = RX2 ∧ yX2_zeros.cls ≠ "java/lang/invoke/MethodHandle" ∧ yX2_zeros.cls ≠ "java/lang/invoke/VarHandle" ∧ (parseMethodDescriptor yX2_zeros.desc).map (fun d => d.parameters.length) = some 1 := by decide +kernel
def V_X2_zeros_7 (si ai L : Nat) (v1 : Int32)  (post : SS → Prop) : Nat → Int32 → SS → Prop
  | 0, _, _ => False
  | n + 1, v2, S =>
    ((v1 ≤ v2 → (post S)) ∧ (¬ v1 ≤ v2 → (V_X2_add si ai L (0 : Int64) S (fun (r3 : Int32) (S4 : SS) => (∀ x5 : Int32, x5 = v2 + 1 → (V_X2_zeros_7 si ai L v1  post n x5 S4))))))
set_option maxHeartbeats 4000000 in
set_option maxRecDepth 100000 in
theorem lp_X2_zeros_7 {po pa si ai L : Nat} (hO : lnN ad cI cJ X po pa si ai L) (v1 : Int32)  (post : SS → Prop) (C0 : Bd p s m meth c args cX2_zeros 3 none wsX2_zeros RX2 D n0 cI cJ) : ∀ (n : Nat) (v2 : Int32) (S : SS), V_X2_zeros_7 si ai L v1  post n v2 S → ∀ (H : Heap) (locs : List Loc), Wh D n0 ad cI cJ X S s H locs → ∀ ls : Array Slot, lv_has ls 3 [(0, .ref (ad po)), (1, .int v1), (2, .int v2)] → W p l e rm_X2_zeros s m args below meth c H locs 0 0 (MQ below (va_Qv post (fun S' t => Wd D n0 ad cI cJ X S' t) (fr n0)) args s 0 0 (fr n0)) (F0 m 7 ls []) := by
  intro n
  induction n with
  | zero => intro v2 S hV; exact False.elim hV
  | succ n ih =>
    intro v2 S hV H locs hw ls hl
    rw [V_X2_zeros_7] at hV
    refine lv_iload_n C0.x C0.b dX2_zeros_7 rfl (lv_at hl 2 rfl) ?_
    refine lv_iload_n C0.x C0.b dX2_zeros_8 rfl (lv_at hl 1 rfl) ?_
    refine lv_icmp_ge (tgt := 24) C0.x C0.b dX2_zeros_9 (by decide) (fun c2 => ?_) (fun c2 => ?_)
    · have hV := hV.1 c2
      exact r_vret C0 rfl hw hV dX2_zeros_24
    · have hV := hV.2 c2
      refine lv_aload_n C0.x C0.b dX2_zeros_12 rfl (lv_at hl 0 rfl) ?_
      refine lv_lconst (v := 0) C0.x C0.b dX2_zeros_13 (by decide) ?_
      refine r_cV_i (As := [.long (0 : Int64)]) (rest := []) C0 hw (c_X2_add hO hV) (cwV 1 C0.ts gX2_zeros_X2_add rfl rfl rfl hd_X2_add ⟨Nat.le_of_ble_eq_true rfl, Nat.le_of_ble_eq_true rfl⟩) (hO S).1 rfl rfl hl.1 rfl (Nat.le_of_ble_eq_true rfl) ⟨Nat.zero_le _, Nat.zero_le _⟩ dX2_zeros_14 (fun r3 S4 H locs hV hw => ?_)
      refine lv_pop C0.x C0.b dX2_zeros_17 rfl ?_
      obtain ⟨x5, ex5⟩ : ∃ z : Int32, z = v2 + 1 := ⟨_, rfl⟩
      have hV := hV x5 ex5
      refine lv_iinc (v := x5) (lv' := [(2, .int x5), (0, .ref (ad po)), (1, .int v1)]) C0.x C0.b dX2_zeros_18 hl (k := 2) rfl (by rw [ex5]; rfl) (by decide) rfl (fun ls hl => ?_)
      refine lv_goto (tgt := 7) C0.x C0.b dX2_zeros_21 (by decide) ?_
      exact ih _ _ hV _ _ hw _ (lv_sub hl [1, 2, 0] rfl)
def V_X2_zeros (si ai L : Nat) (p0 : Int32) (S : SS) (post : SS → Prop) : Prop :=
  (∀ S1 : SS, S1 = (sI S si (0 : Int32)) → (∃ n7 : Nat, V_X2_zeros_7 si ai L p0  post n7 (0 : Int32) S1))
set_option maxHeartbeats 4000000 in
set_option maxRecDepth 100000 in
theorem c_X2_zeros {po pa si ai L : Nat} (hO : lnN ad cI cJ X po pa si ai L) {S : SS} {p0 : Int32} {post : SS → Prop} (hV : V_X2_zeros si ai L p0 S post) : MV l yX2_zeros wsX2_zeros rm_X2_zeros [.ref (ad po), .int p0] D n0 ad cI cJ X S post := by
  refine Met.ofW (cc := cX2_zeros) (maxL := 3) (ret := none) (by decide) rfl ?_
  intro p e s m args below meth c s₁ B hml hv
  obtain ⟨rfl, hv⟩ := hv
  have C0 := Bd.mk B hml (atoms_spec (ws := wsX2_zeros) B.pre) (findClass_of_methodNamed B.named) hv.1
  have hw : Wh D n0 ad cI cJ X S s s.heap [] := ⟨hv.2.1, hv.2.2, va_S.rf⟩
  refine r_entry (Nat.le_of_ble_eq_true rfl) (fun ls hl => ?_)
  have hl : lv_has ls 3 [(0, .ref (ad po)), (1, .int p0)] := hl
  unfold V_X2_zeros at hV
  refine lv_aload_n C0.x C0.b dX2_zeros_0 rfl (lv_at hl 0 rfl) ?_
  refine lv_iconst (v := 0) C0.x C0.b dX2_zeros_1 (by decide) ?_
  refine r_put C0 hw (C := RX2) (T := TX2) (N := 2) (ty := .int) iw_X2_zeros_X2 tyX2 tyX2_ok nmX2 (hO S).1 rfl 1 (by decide) (C0.ts _ fw_X2_zeros_7) rfl (by decide +kernel) rfl rfl (Nat.le_of_ble_eq_true rfl) dX2_zeros_2 (S' := (sI S si (0 : Int32))) ((hO S).2.2.1 (0 : Int32)) (fun S1 H locs eS1 hw => ?_)
  have hV := hV S1 eS1
  refine lv_iconst (v := 0) C0.x C0.b dX2_zeros_5 (by decide) ?_
  refine lv_istore_n (lv' := [(2, .int (0 : Int32)), (0, .ref (ad po)), (1, .int p0)]) C0.x C0.b dX2_zeros_6 rfl hl (by decide) rfl (fun ls hl => ?_)
  obtain ⟨n7, hV⟩ := hV
  exact lp_X2_zeros_7 hO _ post C0  n7 _ _ hV _ _ hw _ (lv_sub hl [1, 2, 0] rfl)
/-! StepBench$Numbers.become(LStepBench$Numbers;)V -/
abbrev rm_X2_become : Room := { frames := 2, cells := 0, slots := 0, locals := 42 }
set_option maxRecDepth 20000 in
theorem fw_X2_become_7 : Cond.fieldLink RX2 7 "StepBench$Numbers" "size" "I" ∈ wsX2_become := by decide +kernel
set_option maxRecDepth 20000 in
theorem iw_X2_become_X2 : ∀ w ∈ wsX20, w ∈ wsX2_become := by decide +kernel
set_option maxRecDepth 20000 in
theorem hd_X2_become : yX2_become.cls = RX2 ∧ yX2_become.cls ≠ "java/lang/invoke/MethodHandle" ∧ yX2_become.cls ≠ "java/lang/invoke/VarHandle" ∧ (parseMethodDescriptor yX2_become.desc).map (fun d => d.parameters.length) = some 1 := by decide +kernel
def V_X2_become_7 (si ai L : Nat) (si0 ai0 L0 : Nat)   (post : SS → Prop) : Nat → Int32 → SS → Prop
  | 0, _, _ => False
  | n + 1, v2, S =>
    (((gI S si0) ≤ v2 → (post S)) ∧ (¬ (gI S si0) ≤ v2 → (V_X2_at si0 ai0 L0 v2 S (fun (r3 : Int64) (S4 : SS) => (V_X2_add si ai L r3 S4 (fun (r5 : Int32) (S6 : SS) => (∀ x7 : Int32, x7 = v2 + 1 → (V_X2_become_7 si ai L si0 ai0 L0   post n x7 S6))))))))
set_option maxHeartbeats 4000000 in
set_option maxRecDepth 100000 in
theorem lp_X2_become_7 {po pa si ai L : Nat} (hO : lnN ad cI cJ X po pa si ai L) {po0 pa0 si0 ai0 L0 : Nat} (hO0 : lnN ad cI cJ X po0 pa0 si0 ai0 L0)   (post : SS → Prop) (C0 : Bd p s m meth c args cX2_become 3 none wsX2_become RX2 D n0 cI cJ) : ∀ (n : Nat) (v2 : Int32) (S : SS), V_X2_become_7 si ai L si0 ai0 L0   post n v2 S → ∀ (H : Heap) (locs : List Loc), Wh D n0 ad cI cJ X S s H locs → ∀ ls : Array Slot, lv_has ls 3 [(0, .ref (ad po)), (1, .ref (ad po0)), (2, .int v2)] → W p l e rm_X2_become s m args below meth c H locs 0 0 (MQ below (va_Qv post (fun S' t => Wd D n0 ad cI cJ X S' t) (fr n0)) args s 0 0 (fr n0)) (F0 m 7 ls []) := by
  intro n
  induction n with
  | zero => intro v2 S hV; exact False.elim hV
  | succ n ih =>
    intro v2 S hV H locs hw ls hl
    rw [V_X2_become_7] at hV
    refine lv_iload_n C0.x C0.b dX2_become_7 rfl (lv_at hl 2 rfl) ?_
    refine lv_aload_n C0.x C0.b dX2_become_8 rfl (lv_at hl 1 rfl) ?_
    refine r_get C0 hw (C := RX2) (T := TX2) (N := 2) (v := .int (gI S si0)) iw_X2_become_X2 (hO0 S).1 rfl 1 (by decide) (C0.ts _ fw_X2_become_7) rfl dX2_become_9 ?_
    refine lv_icmp_ge (tgt := 31) C0.x C0.b dX2_become_12 (by decide) (fun c2 => ?_) (fun c2 => ?_)
    · have hV := hV.1 c2
      exact r_vret C0 rfl hw hV dX2_become_31
    · have hV := hV.2 c2
      refine lv_aload_n C0.x C0.b dX2_become_15 rfl (lv_at hl 0 rfl) ?_
      refine lv_aload_n C0.x C0.b dX2_become_16 rfl (lv_at hl 1 rfl) ?_
      refine lv_iload_n C0.x C0.b dX2_become_17 rfl (lv_at hl 2 rfl) ?_
      refine r_cV_l (As := [.int v2]) (rest := [.ref (ad po)]) C0 hw (c_X2_at hO0 hV) (cwV 1 C0.ts gX2_become_X2_at rfl rfl rfl hd_X2_at ⟨Nat.le_of_ble_eq_true rfl, Nat.le_of_ble_eq_true rfl⟩) (hO0 S).1 rfl rfl hl.1 rfl (Nat.le_of_ble_eq_true rfl) ⟨Nat.zero_le _, Nat.zero_le _⟩ dX2_become_18 (fun r3 S4 H locs hV hw => ?_)
      refine r_cV_i (As := [.long r3]) (rest := []) C0 hw (c_X2_add hO hV) (cwV 1 C0.ts gX2_become_X2_add rfl rfl rfl hd_X2_add ⟨Nat.le_of_ble_eq_true rfl, Nat.le_of_ble_eq_true rfl⟩) (hO S4).1 rfl rfl hl.1 rfl (Nat.le_of_ble_eq_true rfl) ⟨Nat.zero_le _, Nat.zero_le _⟩ dX2_become_21 (fun r5 S6 H locs hV hw => ?_)
      refine lv_pop C0.x C0.b dX2_become_24 rfl ?_
      obtain ⟨x7, ex7⟩ : ∃ z : Int32, z = v2 + 1 := ⟨_, rfl⟩
      have hV := hV x7 ex7
      refine lv_iinc (v := x7) (lv' := [(2, .int x7), (0, .ref (ad po)), (1, .ref (ad po0))]) C0.x C0.b dX2_become_25 hl (k := 2) rfl (by rw [ex7]; rfl) (by decide) rfl (fun ls hl => ?_)
      refine lv_goto (tgt := 7) C0.x C0.b dX2_become_28 (by decide) ?_
      exact ih _ _ hV _ _ hw _ (lv_sub hl [1, 2, 0] rfl)
def V_X2_become (si ai L : Nat) (si0 ai0 L0 : Nat)  (S : SS) (post : SS → Prop) : Prop :=
  (∀ S1 : SS, S1 = (sI S si (0 : Int32)) → (∃ n7 : Nat, V_X2_become_7 si ai L si0 ai0 L0   post n7 (0 : Int32) S1))
set_option maxHeartbeats 4000000 in
set_option maxRecDepth 100000 in
theorem c_X2_become {po pa si ai L : Nat} (hO : lnN ad cI cJ X po pa si ai L) {po0 pa0 si0 ai0 L0 : Nat} (hO0 : lnN ad cI cJ X po0 pa0 si0 ai0 L0) {S : SS}  {post : SS → Prop} (hV : V_X2_become si ai L si0 ai0 L0  S post) : MV l yX2_become wsX2_become rm_X2_become [.ref (ad po), .ref (ad po0)] D n0 ad cI cJ X S post := by
  refine Met.ofW (cc := cX2_become) (maxL := 3) (ret := none) (by decide) rfl ?_
  intro p e s m args below meth c s₁ B hml hv
  obtain ⟨rfl, hv⟩ := hv
  have C0 := Bd.mk B hml (atoms_spec (ws := wsX2_become) B.pre) (findClass_of_methodNamed B.named) hv.1
  have hw : Wh D n0 ad cI cJ X S s s.heap [] := ⟨hv.2.1, hv.2.2, va_S.rf⟩
  refine r_entry (Nat.le_of_ble_eq_true rfl) (fun ls hl => ?_)
  have hl : lv_has ls 3 [(0, .ref (ad po)), (1, .ref (ad po0))] := hl
  unfold V_X2_become at hV
  refine lv_aload_n C0.x C0.b dX2_become_0 rfl (lv_at hl 0 rfl) ?_
  refine lv_iconst (v := 0) C0.x C0.b dX2_become_1 (by decide) ?_
  refine r_put C0 hw (C := RX2) (T := TX2) (N := 2) (ty := .int) iw_X2_become_X2 tyX2 tyX2_ok nmX2 (hO S).1 rfl 1 (by decide) (C0.ts _ fw_X2_become_7) rfl (by decide +kernel) rfl rfl (Nat.le_of_ble_eq_true rfl) dX2_become_2 (S' := (sI S si (0 : Int32))) ((hO S).2.2.1 (0 : Int32)) (fun S1 H locs eS1 hw => ?_)
  have hV := hV S1 eS1
  refine lv_iconst (v := 0) C0.x C0.b dX2_become_5 (by decide) ?_
  refine lv_istore_n (lv' := [(2, .int (0 : Int32)), (0, .ref (ad po)), (1, .ref (ad po0))]) C0.x C0.b dX2_become_6 rfl hl (by decide) rfl (fun ls hl => ?_)
  obtain ⟨n7, hV⟩ := hV
  exact lp_X2_become_7 hO hO0  post C0  n7 _ _ hV _ _ hw _ (lv_sub hl [1, 2, 0] rfl)
/-! StepBench$Numbers.sortIn(J)V -/
abbrev rm_X2_sortIn : Room := { frames := 2, cells := 0, slots := 0, locals := 44 }
set_option maxRecDepth 20000 in
theorem fw_X2_sortIn_7 : Cond.fieldLink RX2 7 "StepBench$Numbers" "size" "I" ∈ wsX2_sortIn := by decide +kernel
set_option maxRecDepth 20000 in
theorem iw_X2_sortIn_X2 : ∀ w ∈ wsX20, w ∈ wsX2_sortIn := by decide +kernel
set_option maxRecDepth 20000 in
theorem hd_X2_sortIn : yX2_sortIn.cls = RX2 ∧ yX2_sortIn.cls ≠ "java/lang/invoke/MethodHandle" ∧ yX2_sortIn.cls ≠ "java/lang/invoke/VarHandle" ∧ (parseMethodDescriptor yX2_sortIn.desc).map (fun d => d.parameters.length) = some 1 := by decide +kernel
def V_X2_sortIn_42 (si ai L : Nat) (v1 : Int64)  (post : SS → Prop) : Nat → Int32 → SS → Prop
  | 0, _, _ => False
  | n + 1, v3, S =>
    ((v3 ≤ 0 → (post S)) ∧ (¬ v3 ≤ 0 → (V_X2_at si ai L (v3 - (1 : Int32)) S (fun (r11 : Int64) (S12 : SS) => ((r11 ≤ v1 → (post S12)) ∧ (¬ r11 ≤ v1 → (V_X2_at si ai L (v3 - (1 : Int32)) S12 (fun (r14 : Int64) (S15 : SS) => (V_X2_put si ai L v3 r14 S15 (fun (S17 : SS) => (V_X2_put si ai L (v3 - (1 : Int32)) v1 S17 (fun (S19 : SS) => (∀ x20 : Int32, x20 = v3 + (-1) → (V_X2_sortIn_42 si ai L v1  post n x20 S19))))))))))))))
set_option maxHeartbeats 4000000 in
set_option maxRecDepth 100000 in
theorem lp_X2_sortIn_42 {po pa si ai L : Nat} (hO : lnN ad cI cJ X po pa si ai L) (v1 : Int64)  (post : SS → Prop) (C0 : Bd p s m meth c args cX2_sortIn 4 none wsX2_sortIn RX2 D n0 cI cJ) : ∀ (n : Nat) (v3 : Int32) (S : SS), V_X2_sortIn_42 si ai L v1  post n v3 S → ∀ (H : Heap) (locs : List Loc), Wh D n0 ad cI cJ X S s H locs → ∀ ls : Array Slot, lv_has ls 4 [(0, .ref (ad po)), (1, .long v1), (3, .int v3)] → W p l e rm_X2_sortIn s m args below meth c H locs 0 0 (MQ below (va_Qv post (fun S' t => Wd D n0 ad cI cJ X S' t) (fr n0)) args s 0 0 (fr n0)) (F0 m 42 ls []) := by
  intro n
  induction n with
  | zero => intro v3 S hV; exact False.elim hV
  | succ n ih =>
    intro v3 S hV H locs hw ls hl
    rw [V_X2_sortIn_42] at hV
    refine lv_iload_n C0.x C0.b dX2_sortIn_42 rfl (lv_at hl 2 rfl) ?_
    refine lv_if_le (tgt := 84) C0.x C0.b dX2_sortIn_43 (by decide) (fun c10 => ?_) (fun c10 => ?_)
    · have hV := hV.1 c10
      exact r_vret C0 rfl hw hV dX2_sortIn_84
    · have hV := hV.2 c10
      refine lv_aload_n C0.x C0.b dX2_sortIn_46 rfl (lv_at hl 0 rfl) ?_
      refine lv_iload_n C0.x C0.b dX2_sortIn_47 rfl (lv_at hl 2 rfl) ?_
      refine lv_iconst (v := 1) C0.x C0.b dX2_sortIn_48 (by decide) ?_
      refine lv_isub C0.x C0.b dX2_sortIn_49 ?_
      refine r_cV_l (As := [.int (v3 - (1 : Int32))]) (rest := []) C0 hw (c_X2_at hO hV) (cwV 1 C0.ts gX2_sortIn_X2_at rfl rfl rfl hd_X2_at ⟨Nat.le_of_ble_eq_true rfl, Nat.le_of_ble_eq_true rfl⟩) (hO S).1 rfl rfl hl.1 rfl (Nat.le_of_ble_eq_true rfl) ⟨Nat.zero_le _, Nat.zero_le _⟩ dX2_sortIn_50 (fun r11 S12 H locs hV hw => ?_)
      refine lv_lload_n C0.x C0.b dX2_sortIn_53 rfl (lv_at hl 1 rfl) ?_
      refine r_lcmp C0 dX2_sortIn_54 ?_
      refine lv_if_le (tgt := 84) C0.x C0.b dX2_sortIn_55 (by decide) (fun c13 => ?_) (fun c13 => ?_)
      · have hV := hV.1 ((lc_le _ _).mp c13)
        exact r_vret C0 rfl hw hV dX2_sortIn_84
      · have hV := hV.2 (fun h => c13 ((lc_le _ _).mpr h))
        refine lv_aload_n C0.x C0.b dX2_sortIn_58 rfl (lv_at hl 0 rfl) ?_
        refine lv_iload_n C0.x C0.b dX2_sortIn_59 rfl (lv_at hl 2 rfl) ?_
        refine lv_aload_n C0.x C0.b dX2_sortIn_60 rfl (lv_at hl 0 rfl) ?_
        refine lv_iload_n C0.x C0.b dX2_sortIn_61 rfl (lv_at hl 2 rfl) ?_
        refine lv_iconst (v := 1) C0.x C0.b dX2_sortIn_62 (by decide) ?_
        refine lv_isub C0.x C0.b dX2_sortIn_63 ?_
        refine r_cV_l (As := [.int (v3 - (1 : Int32))]) (rest := [.int v3, .ref (ad po)]) C0 hw (c_X2_at hO hV) (cwV 1 C0.ts gX2_sortIn_X2_at rfl rfl rfl hd_X2_at ⟨Nat.le_of_ble_eq_true rfl, Nat.le_of_ble_eq_true rfl⟩) (hO S12).1 rfl rfl hl.1 rfl (Nat.le_of_ble_eq_true rfl) ⟨Nat.zero_le _, Nat.zero_le _⟩ dX2_sortIn_64 (fun r14 S15 H locs hV hw => ?_)
        refine r_cV_v (As := [.int v3, .long r14]) (rest := []) C0 hw (c_X2_put hO hV) (cwV 2 C0.ts gX2_sortIn_X2_put rfl rfl rfl hd_X2_put ⟨Nat.le_of_ble_eq_true rfl, Nat.le_of_ble_eq_true rfl⟩) (hO S15).1 rfl rfl hl.1 rfl (Nat.le_of_ble_eq_true rfl) ⟨Nat.zero_le _, Nat.zero_le _⟩ dX2_sortIn_67 (fun S17 H locs hV hw => ?_)
        refine lv_aload_n C0.x C0.b dX2_sortIn_70 rfl (lv_at hl 0 rfl) ?_
        refine lv_iload_n C0.x C0.b dX2_sortIn_71 rfl (lv_at hl 2 rfl) ?_
        refine lv_iconst (v := 1) C0.x C0.b dX2_sortIn_72 (by decide) ?_
        refine lv_isub C0.x C0.b dX2_sortIn_73 ?_
        refine lv_lload_n C0.x C0.b dX2_sortIn_74 rfl (lv_at hl 1 rfl) ?_
        refine r_cV_v (As := [.int (v3 - (1 : Int32)), .long v1]) (rest := []) C0 hw (c_X2_put hO hV) (cwV 2 C0.ts gX2_sortIn_X2_put rfl rfl rfl hd_X2_put ⟨Nat.le_of_ble_eq_true rfl, Nat.le_of_ble_eq_true rfl⟩) (hO S17).1 rfl rfl hl.1 rfl (Nat.le_of_ble_eq_true rfl) ⟨Nat.zero_le _, Nat.zero_le _⟩ dX2_sortIn_75 (fun S19 H locs hV hw => ?_)
        obtain ⟨x20, ex20⟩ : ∃ z : Int32, z = v3 + (-1) := ⟨_, rfl⟩
        have hV := hV x20 ex20
        refine lv_iinc (v := x20) (lv' := [(3, .int x20), (0, .ref (ad po)), (1, .long v1)]) C0.x C0.b dX2_sortIn_78 hl (k := 2) rfl (by rw [ex20]; rfl) (by decide) rfl (fun ls hl => ?_)
        refine lv_goto (tgt := 42) C0.x C0.b dX2_sortIn_81 (by decide) ?_
        exact ih _ _ hV _ _ hw _ (lv_sub hl [1, 2, 0] rfl)
def V_X2_sortIn (si ai L : Nat) (p0 : Int64) (S : SS) (post : SS → Prop) : Prop :=
  (V_X2_add si ai L p0 S (fun (r1 : Int32) (S2 : SS) => ((r1 = 0 → (V_X2_at si ai L ((gI S2 si) - (1 : Int32)) S2 (fun (r4 : Int64) (S5 : SS) => ((p0 < r4 → (V_X2_put si ai L ((gI S5 si) - (1 : Int32)) p0 S5 (fun (S8 : SS) => (∀ x9 : Int32, x9 = ((gI S8 si) - (1 : Int32)) → (∃ n42 : Nat, V_X2_sortIn_42 si ai L p0  post n42 x9 S8))))) ∧ (¬ p0 < r4 → (post S5)))))) ∧ (¬ r1 = 0 → (∀ x21 : Int32, x21 = ((gI S2 si) - (1 : Int32)) → (∃ n42 : Nat, V_X2_sortIn_42 si ai L p0  post n42 x21 S2))))))
set_option maxHeartbeats 4000000 in
set_option maxRecDepth 100000 in
theorem c_X2_sortIn {po pa si ai L : Nat} (hO : lnN ad cI cJ X po pa si ai L) {S : SS} {p0 : Int64} {post : SS → Prop} (hV : V_X2_sortIn si ai L p0 S post) : MV l yX2_sortIn wsX2_sortIn rm_X2_sortIn [.ref (ad po), .long p0] D n0 ad cI cJ X S post := by
  refine Met.ofW (cc := cX2_sortIn) (maxL := 4) (ret := none) (by decide) rfl ?_
  intro p e s m args below meth c s₁ B hml hv
  obtain ⟨rfl, hv⟩ := hv
  have C0 := Bd.mk B hml (atoms_spec (ws := wsX2_sortIn) B.pre) (findClass_of_methodNamed B.named) hv.1
  have hw : Wh D n0 ad cI cJ X S s s.heap [] := ⟨hv.2.1, hv.2.2, va_S.rf⟩
  refine r_entry (Nat.le_of_ble_eq_true rfl) (fun ls hl => ?_)
  have hl : lv_has ls 4 [(0, .ref (ad po)), (1, .long p0)] := hl
  unfold V_X2_sortIn at hV
  refine lv_aload_n C0.x C0.b dX2_sortIn_0 rfl (lv_at hl 0 rfl) ?_
  refine lv_lload_n C0.x C0.b dX2_sortIn_1 rfl (lv_at hl 1 rfl) ?_
  refine r_cV_i (As := [.long p0]) (rest := []) C0 hw (c_X2_add hO hV) (cwV 1 C0.ts gX2_sortIn_X2_add rfl rfl rfl hd_X2_add ⟨Nat.le_of_ble_eq_true rfl, Nat.le_of_ble_eq_true rfl⟩) (hO S).1 rfl rfl hl.1 rfl (Nat.le_of_ble_eq_true rfl) ⟨Nat.zero_le _, Nat.zero_le _⟩ dX2_sortIn_2 (fun r1 S2 H locs hV hw => ?_)
  refine lv_if_ne (tgt := 35) C0.x C0.b dX2_sortIn_5 (by decide) (fun c3 => ?_) (fun c3 => ?_)
  · have hV := hV.2 c3
    refine lv_aload_n C0.x C0.b dX2_sortIn_35 rfl (lv_at hl 0 rfl) ?_
    refine r_get C0 hw (C := RX2) (T := TX2) (N := 2) (v := .int (gI S2 si)) iw_X2_sortIn_X2 (hO S2).1 rfl 1 (by decide) (C0.ts _ fw_X2_sortIn_7) rfl dX2_sortIn_36 ?_
    refine lv_iconst (v := 1) C0.x C0.b dX2_sortIn_39 (by decide) ?_
    refine lv_isub C0.x C0.b dX2_sortIn_40 ?_
    refine lv_topi (fun x21 ex21 => ?_)
    have hV := hV x21 ex21
    refine lv_istore_n (lv' := [(3, .int x21), (0, .ref (ad po)), (1, .long p0)]) C0.x C0.b dX2_sortIn_41 rfl hl (by decide) rfl (fun ls hl => ?_)
    obtain ⟨n42, hV⟩ := hV
    exact lp_X2_sortIn_42 hO _ post C0  n42 _ _ hV _ _ hw _ (lv_sub hl [1, 2, 0] rfl)
  · have hV := hV.1 c3
    refine lv_lload_n C0.x C0.b dX2_sortIn_8 rfl (lv_at hl 1 rfl) ?_
    refine lv_aload_n C0.x C0.b dX2_sortIn_9 rfl (lv_at hl 0 rfl) ?_
    refine lv_aload_n C0.x C0.b dX2_sortIn_10 rfl (lv_at hl 0 rfl) ?_
    refine r_get C0 hw (C := RX2) (T := TX2) (N := 2) (v := .int (gI S2 si)) iw_X2_sortIn_X2 (hO S2).1 rfl 1 (by decide) (C0.ts _ fw_X2_sortIn_7) rfl dX2_sortIn_11 ?_
    refine lv_iconst (v := 1) C0.x C0.b dX2_sortIn_14 (by decide) ?_
    refine lv_isub C0.x C0.b dX2_sortIn_15 ?_
    refine r_cV_l (As := [.int ((gI S2 si) - (1 : Int32))]) (rest := [.long p0]) C0 hw (c_X2_at hO hV) (cwV 1 C0.ts gX2_sortIn_X2_at rfl rfl rfl hd_X2_at ⟨Nat.le_of_ble_eq_true rfl, Nat.le_of_ble_eq_true rfl⟩) (hO S2).1 rfl rfl hl.1 rfl (Nat.le_of_ble_eq_true rfl) ⟨Nat.zero_le _, Nat.zero_le _⟩ dX2_sortIn_16 (fun r4 S5 H locs hV hw => ?_)
    refine r_lcmp C0 dX2_sortIn_19 ?_
    refine lv_if_lt (tgt := 24) C0.x C0.b dX2_sortIn_20 (by decide) (fun c6 => ?_) (fun c6 => ?_)
    · have hV := hV.1 ((lc_lt _ _).mp c6)
      refine lv_aload_n C0.x C0.b dX2_sortIn_24 rfl (lv_at hl 0 rfl) ?_
      refine lv_aload_n C0.x C0.b dX2_sortIn_25 rfl (lv_at hl 0 rfl) ?_
      refine r_get C0 hw (C := RX2) (T := TX2) (N := 2) (v := .int (gI S5 si)) iw_X2_sortIn_X2 (hO S5).1 rfl 1 (by decide) (C0.ts _ fw_X2_sortIn_7) rfl dX2_sortIn_26 ?_
      refine lv_iconst (v := 1) C0.x C0.b dX2_sortIn_29 (by decide) ?_
      refine lv_isub C0.x C0.b dX2_sortIn_30 ?_
      refine lv_lload_n C0.x C0.b dX2_sortIn_31 rfl (lv_at hl 1 rfl) ?_
      refine r_cV_v (As := [.int ((gI S5 si) - (1 : Int32)), .long p0]) (rest := []) C0 hw (c_X2_put hO hV) (cwV 2 C0.ts gX2_sortIn_X2_put rfl rfl rfl hd_X2_put ⟨Nat.le_of_ble_eq_true rfl, Nat.le_of_ble_eq_true rfl⟩) (hO S5).1 rfl rfl hl.1 rfl (Nat.le_of_ble_eq_true rfl) ⟨Nat.zero_le _, Nat.zero_le _⟩ dX2_sortIn_32 (fun S8 H locs hV hw => ?_)
      refine lv_aload_n C0.x C0.b dX2_sortIn_35 rfl (lv_at hl 0 rfl) ?_
      refine r_get C0 hw (C := RX2) (T := TX2) (N := 2) (v := .int (gI S8 si)) iw_X2_sortIn_X2 (hO S8).1 rfl 1 (by decide) (C0.ts _ fw_X2_sortIn_7) rfl dX2_sortIn_36 ?_
      refine lv_iconst (v := 1) C0.x C0.b dX2_sortIn_39 (by decide) ?_
      refine lv_isub C0.x C0.b dX2_sortIn_40 ?_
      refine lv_topi (fun x9 ex9 => ?_)
      have hV := hV x9 ex9
      refine lv_istore_n (lv' := [(3, .int x9), (0, .ref (ad po)), (1, .long p0)]) C0.x C0.b dX2_sortIn_41 rfl hl (by decide) rfl (fun ls hl => ?_)
      obtain ⟨n42, hV⟩ := hV
      exact lp_X2_sortIn_42 hO _ post C0  n42 _ _ hV _ _ hw _ (lv_sub hl [1, 2, 0] rfl)
    · have hV := hV.2 (fun h => c6 ((lc_lt _ _).mpr h))
      exact r_vret C0 rfl hw hV dX2_sortIn_23
end
