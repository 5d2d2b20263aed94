section
variable {p : Program} {l : Launch} {e : Env} {s : State} {m : MethodId} {args : Array Value} {below : List Frame} {meth : Method} {c : Code}
variable {D : va_G} {n0 : Nat} {ad : Nat → Nat} {cI cJ : ClassId} {X : va_W}
/-! StepBenchModel.isPrime(I)Z -/
abbrev rm_X8_isPrime : Room := { frames := 0, cells := 0, slots := 0, locals := 0 }
set_option maxRecDepth 20000 in
theorem hd_X8_isPrime : yX8_isPrime.cls ≠ "java/lang/invoke/MethodHandle" ∧ yX8_isPrime.cls ≠ "java/lang/invoke/VarHandle" ∧ (parseMethodDescriptor yX8_isPrime.desc).map (fun d => d.parameters.length) = some 1 := by decide +kernel
def V_X8_isPrime_2  (v0 : Int32)  (post : Int32 → SS → Prop) : Nat → Int32 → SS → Prop
  | 0, _, _ => False
  | n + 1, v1, S =>
    ((v0 < (v1 * v1) → (post (1 : Int32) S)) ∧ (¬ v0 < (v1 * v1) → (¬ v1 = 0 ∧ (((irm v0 v1) = 0 → (post (0 : Int32) S)) ∧ (¬ (irm v0 v1) = 0 → (∀ x3 : Int32, x3 = v1 + 1 → (V_X8_isPrime_2  v0  post n x3 S)))))))
set_option maxHeartbeats 4000000 in
set_option maxRecDepth 100000 in
theorem lp_X8_isPrime_2  (v0 : Int32)  (post : Int32 → SS → Prop) (C0 : Bd p s m meth c args cX8_isPrime 2 (some .boolean) wsX8_isPrime RX8 D n0 cI cJ) : ∀ (n : Nat) (v1 : Int32) (S : SS), V_X8_isPrime_2  v0  post n v1 S → ∀ (H : Heap) (locs : List Loc), Wh D n0 ad cI cJ X S s H locs → ∀ ls : Array Slot, lv_has ls 2 [(0, .int v0), (1, .int v1)] → W p l e rm_X8_isPrime s m args below meth c H locs 0 0 (MQ below (va_Qi post (fun S' t => Wd D n0 ad cI cJ X S' t) (fr n0)) args s 0 0 (fr n0)) (F0 m 2 ls []) := by
  intro n
  induction n with
  | zero => intro v1 S hV; exact False.elim hV
  | succ n ih =>
    intro v1 S hV H locs hw ls hl
    rw [V_X8_isPrime_2] at hV
    refine lv_iload_n C0.x C0.b dX8_isPrime_2 rfl (lv_at hl 1 rfl) ?_
    refine lv_iload_n C0.x C0.b dX8_isPrime_3 rfl (lv_at hl 1 rfl) ?_
    refine lv_imul C0.x C0.b dX8_isPrime_4 ?_
    refine lv_iload_n C0.x C0.b dX8_isPrime_5 rfl (lv_at hl 0 rfl) ?_
    refine lv_icmp_gt (tgt := 23) C0.x C0.b dX8_isPrime_6 (by decide) (fun c1 => ?_) (fun c1 => ?_)
    · have hV := hV.1 c1
      refine lv_iconst (v := 1) C0.x C0.b dX8_isPrime_23 (by decide) ?_
      exact r_zret C0 rfl bz_1 hw hV dX8_isPrime_24
    · have hV := hV.2 c1
      refine lv_iload_n C0.x C0.b dX8_isPrime_9 rfl (lv_at hl 0 rfl) ?_
      refine lv_iload_n C0.x C0.b dX8_isPrime_10 rfl (lv_at hl 1 rfl) ?_
      refine lv_irem C0.x C0.b dX8_isPrime_11 hV.1 ?_
      have hV := hV.2
      refine lv_if_ne (tgt := 17) C0.x C0.b dX8_isPrime_12 (by decide) (fun c2 => ?_) (fun c2 => ?_)
      · have hV := hV.2 c2
        obtain ⟨x3, ex3⟩ : ∃ z : Int32, z = v1 + 1 := ⟨_, rfl⟩
        have hV := hV x3 ex3
        refine lv_iinc (v := x3) (lv' := [(1, .int x3), (0, .int v0)]) C0.x C0.b dX8_isPrime_17 hl (k := 1) rfl (by rw [ex3]; rfl) (by decide) rfl (fun ls hl => ?_)
        refine lv_goto (tgt := 2) C0.x C0.b dX8_isPrime_20 (by decide) ?_
        exact ih _ _ hV _ _ hw _ (lv_sub hl [1, 0] rfl)
      · have hV := hV.1 c2
        refine lv_iconst (v := 0) C0.x C0.b dX8_isPrime_15 (by decide) ?_
        exact r_zret C0 rfl bz_0 hw hV dX8_isPrime_16
def V_X8_isPrime  (p0 : Int32) (S : SS) (post : Int32 → SS → Prop) : Prop :=
  (∃ n2 : Nat, V_X8_isPrime_2  p0  post n2 (2 : Int32) S)
set_option maxHeartbeats 4000000 in
set_option maxRecDepth 100000 in
theorem c_X8_isPrime  {S : SS} {p0 : Int32} {post : Int32 → SS → Prop} (hV : V_X8_isPrime  p0 S post) : MI l yX8_isPrime wsX8_isPrime rm_X8_isPrime [.int p0] D n0 ad cI cJ X S post := by
  refine Met.ofW (cc := cX8_isPrime) (maxL := 2) (ret := (some .boolean)) (by decide) rfl ?_
  intro p e s m args below meth c s₁ B hml hv
  obtain ⟨rfl, hv⟩ := hv
  have C0 := Bd.mk B hml (atoms_spec (ws := wsX8_isPrime) B.pre) (findClass_of_methodNamed B.named) hv.1
  have hw : Wh D n0 ad cI cJ X S s s.heap [] := ⟨hv.2.1, hv.2.2, va_S.rf⟩
  refine r_entry (Nat.le_of_ble_eq_true rfl) (fun ls hl => ?_)
  have hl : lv_has ls 2 [(0, .int p0)] := hl
  unfold V_X8_isPrime at hV
  refine lv_iconst (v := 2) C0.x C0.b dX8_isPrime_0 (by decide) ?_
  refine lv_istore_n (lv' := [(1, .int (2 : Int32)), (0, .int p0)]) C0.x C0.b dX8_isPrime_1 rfl hl (by decide) rfl (fun ls hl => ?_)
  obtain ⟨n2, hV⟩ := hV
  exact lp_X8_isPrime_2  _ post C0  n2 _ _ hV _ _ hw _ (lv_sub hl [1, 0] rfl)
/-! StepBenchModel.prime(I)I -/
abbrev rm_X8_prime : Room := { frames := 1, cells := 0, slots := 0, locals := 21 }
set_option maxRecDepth 20000 in
theorem hd_X8_prime : yX8_prime.cls ≠ "java/lang/invoke/MethodHandle" ∧ yX8_prime.cls ≠ "java/lang/invoke/VarHandle" ∧ (parseMethodDescriptor yX8_prime.desc).map (fun d => d.parameters.length) = some 1 := by decide +kernel
def V_X8_prime_5    (post : Int32 → SS → Prop) : Nat → Int32 → Int32 → SS → Prop
  | 0, _, _, _ => False
  | n + 1, v1, v2, S =>
    ((0 < v1 → (V_X8_isPrime v2 S (fun (r2 : Int32) (S3 : SS) => ((r2 = 0 → (∀ x5 : Int32, x5 = (v1 - (0 : Int32)) → (∀ x6 : Int32, x6 = v2 + 1 → (V_X8_prime_5    post n x5 x6 S3)))) ∧ (¬ r2 = 0 → (∀ x7 : Int32, x7 = (v1 - (1 : Int32)) → (∀ x8 : Int32, x8 = v2 + 1 → (V_X8_prime_5    post n x7 x8 S3)))))))) ∧ (¬ 0 < v1 → (V_X8_isPrime v2 S (fun (r9 : Int32) (S10 : SS) => ((r9 = 0 → (V_X8_isPrime v2 S10 (fun (r12 : Int32) (S13 : SS) => ((r12 = 0 → (∀ x15 : Int32, x15 = (v1 - (0 : Int32)) → (∀ x16 : Int32, x16 = v2 + 1 → (V_X8_prime_5    post n x15 x16 S13)))) ∧ (¬ r12 = 0 → (∀ x17 : Int32, x17 = (v1 - (1 : Int32)) → (∀ x18 : Int32, x18 = v2 + 1 → (V_X8_prime_5    post n x17 x18 S13)))))))) ∧ (¬ r9 = 0 → (post v2 S10)))))))
set_option maxHeartbeats 4000000 in
set_option maxRecDepth 100000 in
theorem lp_X8_prime_5    (post : Int32 → SS → Prop) (C0 : Bd p s m meth c args cX8_prime 3 (some .int) wsX8_prime RX8 D n0 cI cJ) : ∀ (n : Nat) (v1 : Int32) (v2 : Int32) (S : SS), V_X8_prime_5    post n v1 v2 S → ∀ (H : Heap) (locs : List Loc), Wh D n0 ad cI cJ X S s H locs → ∀ ls : Array Slot, lv_has ls 3 [(1, .int v1), (2, .int v2)] → W p l e rm_X8_prime s m args below meth c H locs 0 0 (MQ below (va_Qi post (fun S' t => Wd D n0 ad cI cJ X S' t) (fr n0)) args s 0 0 (fr n0)) (F0 m 5 ls []) := by
  intro n
  induction n with
  | zero => intro v1 v2 S hV; exact False.elim hV
  | succ n ih =>
    intro v1 v2 S hV H locs hw ls hl
    rw [V_X8_prime_5] at hV
    refine lv_iload_n C0.x C0.b dX8_prime_5 rfl (lv_at hl 0 rfl) ?_
    refine lv_if_gt (tgt := 16) C0.x C0.b dX8_prime_6 (by decide) (fun c1 => ?_) (fun c1 => ?_)
    · have hV := hV.1 c1
      refine lv_iload_n C0.x C0.b dX8_prime_16 rfl (lv_at hl 0 rfl) ?_
      refine lv_iload_n C0.x C0.b dX8_prime_17 rfl (lv_at hl 1 rfl) ?_
      refine r_cS_i (As := [.int v2]) (rest := [.int v1]) C0 hw (c_X8_isPrime  hV) (va_cwS 1 C0.ts gX8_prime_X8_isPrime rfl rfl rfl hd_X8_isPrime ⟨Nat.le_of_ble_eq_true rfl, Nat.le_of_ble_eq_true rfl⟩) rfl hl.1 rfl (Nat.le_of_ble_eq_true rfl) ⟨Nat.le_of_ble_eq_true rfl, Nat.le_of_ble_eq_true rfl⟩ dX8_prime_18 (fun r2 S3 H locs hV hw => ?_)
      refine lv_if_eq (tgt := 28) C0.x C0.b dX8_prime_21 (by decide) (fun c4 => ?_) (fun c4 => ?_)
      · have hV := hV.1 c4
        refine lv_iconst (v := 0) C0.x C0.b dX8_prime_28 (by decide) ?_
        refine lv_isub C0.x C0.b dX8_prime_29 ?_
        refine lv_topi (fun x5 ex5 => ?_)
        have hV := hV x5 ex5
        refine lv_istore_n (lv' := [(1, .int x5), (2, .int v2)]) C0.x C0.b dX8_prime_30 rfl hl (by decide) rfl (fun ls hl => ?_)
        obtain ⟨x6, ex6⟩ : ∃ z : Int32, z = v2 + 1 := ⟨_, rfl⟩
        have hV := hV x6 ex6
        refine lv_iinc (v := x6) (lv' := [(2, .int x6), (1, .int x5)]) C0.x C0.b dX8_prime_31 hl (k := 1) rfl (by rw [ex6]; rfl) (by decide) rfl (fun ls hl => ?_)
        refine lv_goto (tgt := 5) C0.x C0.b dX8_prime_34 (by decide) ?_
        exact ih _ _ _ hV _ _ hw _ (lv_sub hl [1, 0] rfl)
      · have hV := hV.2 c4
        refine lv_iconst (v := 1) C0.x C0.b dX8_prime_24 (by decide) ?_
        refine lv_goto (tgt := 29) C0.x C0.b dX8_prime_25 (by decide) ?_
        refine lv_isub C0.x C0.b dX8_prime_29 ?_
        refine lv_topi (fun x7 ex7 => ?_)
        have hV := hV x7 ex7
        refine lv_istore_n (lv' := [(1, .int x7), (2, .int v2)]) C0.x C0.b dX8_prime_30 rfl hl (by decide) rfl (fun ls hl => ?_)
        obtain ⟨x8, ex8⟩ : ∃ z : Int32, z = v2 + 1 := ⟨_, rfl⟩
        have hV := hV x8 ex8
        refine lv_iinc (v := x8) (lv' := [(2, .int x8), (1, .int x7)]) C0.x C0.b dX8_prime_31 hl (k := 1) rfl (by rw [ex8]; rfl) (by decide) rfl (fun ls hl => ?_)
        refine lv_goto (tgt := 5) C0.x C0.b dX8_prime_34 (by decide) ?_
        exact ih _ _ _ hV _ _ hw _ (lv_sub hl [1, 0] rfl)
    · have hV := hV.2 c1
      refine lv_iload_n C0.x C0.b dX8_prime_9 rfl (lv_at hl 1 rfl) ?_
      refine r_cS_i (As := [.int v2]) (rest := []) C0 hw (c_X8_isPrime  hV) (va_cwS 1 C0.ts gX8_prime_X8_isPrime rfl rfl rfl hd_X8_isPrime ⟨Nat.le_of_ble_eq_true rfl, Nat.le_of_ble_eq_true rfl⟩) rfl hl.1 rfl (Nat.le_of_ble_eq_true rfl) ⟨Nat.le_of_ble_eq_true rfl, Nat.le_of_ble_eq_true rfl⟩ dX8_prime_10 (fun r9 S10 H locs hV hw => ?_)
      refine lv_if_ne (tgt := 37) C0.x C0.b dX8_prime_13 (by decide) (fun c11 => ?_) (fun c11 => ?_)
      · have hV := hV.2 c11
        refine lv_iload_n C0.x C0.b dX8_prime_37 rfl (lv_at hl 1 rfl) ?_
        exact r_iret C0 rfl hw hV dX8_prime_38
      · have hV := hV.1 c11
        refine lv_iload_n C0.x C0.b dX8_prime_16 rfl (lv_at hl 0 rfl) ?_
        refine lv_iload_n C0.x C0.b dX8_prime_17 rfl (lv_at hl 1 rfl) ?_
        refine r_cS_i (As := [.int v2]) (rest := [.int v1]) C0 hw (c_X8_isPrime  hV) (va_cwS 1 C0.ts gX8_prime_X8_isPrime rfl rfl rfl hd_X8_isPrime ⟨Nat.le_of_ble_eq_true rfl, Nat.le_of_ble_eq_true rfl⟩) rfl hl.1 rfl (Nat.le_of_ble_eq_true rfl) ⟨Nat.le_of_ble_eq_true rfl, Nat.le_of_ble_eq_true rfl⟩ dX8_prime_18 (fun r12 S13 H locs hV hw => ?_)
        refine lv_if_eq (tgt := 28) C0.x C0.b dX8_prime_21 (by decide) (fun c14 => ?_) (fun c14 => ?_)
        · have hV := hV.1 c14
          refine lv_iconst (v := 0) C0.x C0.b dX8_prime_28 (by decide) ?_
          refine lv_isub C0.x C0.b dX8_prime_29 ?_
          refine lv_topi (fun x15 ex15 => ?_)
          have hV := hV x15 ex15
          refine lv_istore_n (lv' := [(1, .int x15), (2, .int v2)]) C0.x C0.b dX8_prime_30 rfl hl (by decide) rfl (fun ls hl => ?_)
          obtain ⟨x16, ex16⟩ : ∃ z : Int32, z = v2 + 1 := ⟨_, rfl⟩
          have hV := hV x16 ex16
          refine lv_iinc (v := x16) (lv' := [(2, .int x16), (1, .int x15)]) C0.x C0.b dX8_prime_31 hl (k := 1) rfl (by rw [ex16]; rfl) (by decide) rfl (fun ls hl => ?_)
          refine lv_goto (tgt := 5) C0.x C0.b dX8_prime_34 (by decide) ?_
          exact ih _ _ _ hV _ _ hw _ (lv_sub hl [1, 0] rfl)
        · have hV := hV.2 c14
          refine lv_iconst (v := 1) C0.x C0.b dX8_prime_24 (by decide) ?_
          refine lv_goto (tgt := 29) C0.x C0.b dX8_prime_25 (by decide) ?_
          refine lv_isub C0.x C0.b dX8_prime_29 ?_
          refine lv_topi (fun x17 ex17 => ?_)
          have hV := hV x17 ex17
          refine lv_istore_n (lv' := [(1, .int x17), (2, .int v2)]) C0.x C0.b dX8_prime_30 rfl hl (by decide) rfl (fun ls hl => ?_)
          obtain ⟨x18, ex18⟩ : ∃ z : Int32, z = v2 + 1 := ⟨_, rfl⟩
          have hV := hV x18 ex18
          refine lv_iinc (v := x18) (lv' := [(2, .int x18), (1, .int x17)]) C0.x C0.b dX8_prime_31 hl (k := 1) rfl (by rw [ex18]; rfl) (by decide) rfl (fun ls hl => ?_)
          refine lv_goto (tgt := 5) C0.x C0.b dX8_prime_34 (by decide) ?_
          exact ih _ _ _ hV _ _ hw _ (lv_sub hl [1, 0] rfl)
def V_X8_prime  (p0 : Int32) (S : SS) (post : Int32 → SS → Prop) : Prop :=
  (∃ n5 : Nat, V_X8_prime_5    post n5 p0 (11 : Int32) S)
set_option maxHeartbeats 4000000 in
set_option maxRecDepth 100000 in
theorem c_X8_prime  {S : SS} {p0 : Int32} {post : Int32 → SS → Prop} (hV : V_X8_prime  p0 S post) : MI l yX8_prime wsX8_prime rm_X8_prime [.int p0] D n0 ad cI cJ X S post := by
  refine Met.ofW (cc := cX8_prime) (maxL := 3) (ret := (some .int)) (by decide) rfl ?_
  intro p e s m args below meth c s₁ B hml hv
  obtain ⟨rfl, hv⟩ := hv
  have C0 := Bd.mk B hml (atoms_spec (ws := wsX8_prime) B.pre) (findClass_of_methodNamed B.named) hv.1
  have hw : Wh D n0 ad cI cJ X S s s.heap [] := ⟨hv.2.1, hv.2.2, va_S.rf⟩
  refine r_entry (Nat.le_of_ble_eq_true rfl) (fun ls hl => ?_)
  have hl : lv_has ls 3 [(0, .int p0)] := hl
  unfold V_X8_prime at hV
  refine lv_iload_n C0.x C0.b dX8_prime_0 rfl (lv_at hl 0 rfl) ?_
  refine lv_istore_n (lv' := [(1, .int p0), (0, .int p0)]) C0.x C0.b dX8_prime_1 rfl hl (by decide) rfl (fun ls hl => ?_)
  refine lv_bipush (v := 11) C0.x C0.b dX8_prime_2 (by decide) ?_
  refine lv_istore_n (lv' := [(2, .int (11 : Int32)), (1, .int p0), (0, .int p0)]) C0.x C0.b dX8_prime_4 rfl hl (by decide) rfl (fun ls hl => ?_)
  obtain ⟨n5, hV⟩ := hV
  exact lp_X8_prime_5   post C0  n5 _ _ _ hV _ _ hw _ (lv_sub hl [1, 0] rfl)
/-! StepBenchModel.heapPrime(I)I -/
abbrev rm_X8_heapPrime : Room := { frames := 0, cells := 0, slots := 0, locals := 0 }
set_option maxRecDepth 20000 in
theorem hd_X8_heapPrime : yX8_heapPrime.cls ≠ "java/lang/invoke/MethodHandle" ∧ yX8_heapPrime.cls ≠ "java/lang/invoke/VarHandle" ∧ (parseMethodDescriptor yX8_heapPrime.desc).map (fun d => d.parameters.length) = some 1 := by decide +kernel
def V_X8_heapPrime  (p0 : Int32) (S : SS) (post : Int32 → SS → Prop) : Prop :=
  ((p0 = 0 → (post (2 : Int32) S)) ∧ (¬ p0 = 0 → ((p0 = (1 : Int32) → (post (3 : Int32) S)) ∧ (¬ p0 = (1 : Int32) → ((p0 = (2 : Int32) → (post (5 : Int32) S)) ∧ (¬ p0 = (2 : Int32) → (post (7 : Int32) S)))))))
set_option maxHeartbeats 4000000 in
set_option maxRecDepth 100000 in
theorem c_X8_heapPrime  {S : SS} {p0 : Int32} {post : Int32 → SS → Prop} (hV : V_X8_heapPrime  p0 S post) : MI l yX8_heapPrime wsX8_heapPrime rm_X8_heapPrime [.int p0] D n0 ad cI cJ X S post := by
  refine Met.ofW (cc := cX8_heapPrime) (maxL := 1) (ret := (some .int)) (by decide) rfl ?_
  intro p e s m args below meth c s₁ B hml hv
  obtain ⟨rfl, hv⟩ := hv
  have C0 := Bd.mk B hml (atoms_spec (ws := wsX8_heapPrime) B.pre) (findClass_of_methodNamed B.named) hv.1
  have hw : Wh D n0 ad cI cJ X S s s.heap [] := ⟨hv.2.1, hv.2.2, va_S.rf⟩
  refine r_entry (Nat.le_of_ble_eq_true rfl) (fun ls hl => ?_)
  have hl : lv_has ls 1 [(0, .int p0)] := hl
  unfold V_X8_heapPrime at hV
  refine lv_iload_n C0.x C0.b dX8_heapPrime_0 rfl (lv_at hl 0 rfl) ?_
  refine lv_if_ne (tgt := 8) C0.x C0.b dX8_heapPrime_1 (by decide) (fun c1 => ?_) (fun c1 => ?_)
  · have hV := hV.2 c1
    refine lv_iload_n C0.x C0.b dX8_heapPrime_8 rfl (lv_at hl 0 rfl) ?_
    refine lv_iconst (v := 1) C0.x C0.b dX8_heapPrime_9 (by decide) ?_
    refine lv_icmp_ne (tgt := 17) C0.x C0.b dX8_heapPrime_10 (by decide) (fun c2 => ?_) (fun c2 => ?_)
    · have hV := hV.2 c2
      refine lv_iload_n C0.x C0.b dX8_heapPrime_17 rfl (lv_at hl 0 rfl) ?_
      refine lv_iconst (v := 2) C0.x C0.b dX8_heapPrime_18 (by decide) ?_
      refine lv_icmp_ne (tgt := 26) C0.x C0.b dX8_heapPrime_19 (by decide) (fun c3 => ?_) (fun c3 => ?_)
      · have hV := hV.2 c3
        refine lv_bipush (v := 7) C0.x C0.b dX8_heapPrime_26 (by decide) ?_
        exact r_iret C0 rfl hw hV dX8_heapPrime_28
      · have hV := hV.1 c3
        refine lv_iconst (v := 5) C0.x C0.b dX8_heapPrime_22 (by decide) ?_
        refine lv_goto (tgt := 28) C0.x C0.b dX8_heapPrime_23 (by decide) ?_
        exact r_iret C0 rfl hw hV dX8_heapPrime_28
    · have hV := hV.1 c2
      refine lv_iconst (v := 3) C0.x C0.b dX8_heapPrime_13 (by decide) ?_
      refine lv_goto (tgt := 28) C0.x C0.b dX8_heapPrime_14 (by decide) ?_
      exact r_iret C0 rfl hw hV dX8_heapPrime_28
  · have hV := hV.1 c1
    refine lv_iconst (v := 2) C0.x C0.b dX8_heapPrime_4 (by decide) ?_
    refine lv_goto (tgt := 28) C0.x C0.b dX8_heapPrime_5 (by decide) ?_
    exact r_iret C0 rfl hw hV dX8_heapPrime_28
/-! StepBenchModel.goPrime(I)I -/
abbrev rm_X8_goPrime : Room := { frames := 2, cells := 0, slots := 0, locals := 43 }
set_option maxRecDepth 20000 in
theorem hd_X8_goPrime : yX8_goPrime.cls ≠ "java/lang/invoke/MethodHandle" ∧ yX8_goPrime.cls ≠ "java/lang/invoke/VarHandle" ∧ (parseMethodDescriptor yX8_goPrime.desc).map (fun d => d.parameters.length) = some 1 := by decide +kernel
def V_X8_goPrime  (p0 : Int32) (S : SS) (post : Int32 → SS → Prop) : Prop :=
  (V_X8_prime ((2 : Int32) * p0) S (fun (r1 : Int32) (S2 : SS) => (post r1 S2)))
set_option maxHeartbeats 4000000 in
set_option maxRecDepth 100000 in
theorem c_X8_goPrime  {S : SS} {p0 : Int32} {post : Int32 → SS → Prop} (hV : V_X8_goPrime  p0 S post) : MI l yX8_goPrime wsX8_goPrime rm_X8_goPrime [.int p0] D n0 ad cI cJ X S post := by
  refine Met.ofW (cc := cX8_goPrime) (maxL := 1) (ret := (some .int)) (by decide) rfl ?_
  intro p e s m args below meth c s₁ B hml hv
  obtain ⟨rfl, hv⟩ := hv
  have C0 := Bd.mk B hml (atoms_spec (ws := wsX8_goPrime) B.pre) (findClass_of_methodNamed B.named) hv.1
  have hw : Wh D n0 ad cI cJ X S s s.heap [] := ⟨hv.2.1, hv.2.2, va_S.rf⟩
  refine r_entry (Nat.le_of_ble_eq_true rfl) (fun ls hl => ?_)
  have hl : lv_has ls 1 [(0, .int p0)] := hl
  unfold V_X8_goPrime at hV
  refine lv_iconst (v := 2) C0.x C0.b dX8_goPrime_0 (by decide) ?_
  refine lv_iload_n C0.x C0.b dX8_goPrime_1 rfl (lv_at hl 0 rfl) ?_
  refine lv_imul C0.x C0.b dX8_goPrime_2 ?_
  refine r_cS_i (As := [.int ((2 : Int32) * p0)]) (rest := []) C0 hw (c_X8_prime  hV) (va_cwS 1 C0.ts gX8_goPrime_X8_prime rfl rfl rfl hd_X8_prime ⟨Nat.le_of_ble_eq_true rfl, Nat.le_of_ble_eq_true rfl⟩) rfl hl.1 rfl (Nat.le_of_ble_eq_true rfl) ⟨Nat.le_of_ble_eq_true rfl, Nat.le_of_ble_eq_true rfl⟩ dX8_goPrime_3 (fun r1 S2 H locs hV hw => ?_)
  exact r_iret C0 rfl hw hV dX8_goPrime_6
/-! StepBenchModel.waitPrime(I)I -/
abbrev rm_X8_waitPrime : Room := { frames := 2, cells := 0, slots := 0, locals := 43 }
set_option maxRecDepth 20000 in
theorem hd_X8_waitPrime : yX8_waitPrime.cls ≠ "java/lang/invoke/MethodHandle" ∧ yX8_waitPrime.cls ≠ "java/lang/invoke/VarHandle" ∧ (parseMethodDescriptor yX8_waitPrime.desc).map (fun d => d.parameters.length) = some 1 := by decide +kernel
def V_X8_waitPrime  (p0 : Int32) (S : SS) (post : Int32 → SS → Prop) : Prop :=
  (V_X8_prime (((2 : Int32) * p0) + (1 : Int32)) S (fun (r1 : Int32) (S2 : SS) => (post r1 S2)))
set_option maxHeartbeats 4000000 in
set_option maxRecDepth 100000 in
theorem c_X8_waitPrime  {S : SS} {p0 : Int32} {post : Int32 → SS → Prop} (hV : V_X8_waitPrime  p0 S post) : MI l yX8_waitPrime wsX8_waitPrime rm_X8_waitPrime [.int p0] D n0 ad cI cJ X S post := by
  refine Met.ofW (cc := cX8_waitPrime) (maxL := 1) (ret := (some .int)) (by decide) rfl ?_
  intro p e s m args below meth c s₁ B hml hv
  obtain ⟨rfl, hv⟩ := hv
  have C0 := Bd.mk B hml (atoms_spec (ws := wsX8_waitPrime) B.pre) (findClass_of_methodNamed B.named) hv.1
  have hw : Wh D n0 ad cI cJ X S s s.heap [] := ⟨hv.2.1, hv.2.2, va_S.rf⟩
  refine r_entry (Nat.le_of_ble_eq_true rfl) (fun ls hl => ?_)
  have hl : lv_has ls 1 [(0, .int p0)] := hl
  unfold V_X8_waitPrime at hV
  refine lv_iconst (v := 2) C0.x C0.b dX8_waitPrime_0 (by decide) ?_
  refine lv_iload_n C0.x C0.b dX8_waitPrime_1 rfl (lv_at hl 0 rfl) ?_
  refine lv_imul C0.x C0.b dX8_waitPrime_2 ?_
  refine lv_iconst (v := 1) C0.x C0.b dX8_waitPrime_3 (by decide) ?_
  refine lv_iadd C0.x C0.b dX8_waitPrime_4 ?_
  refine r_cS_i (As := [.int (((2 : Int32) * p0) + (1 : Int32))]) (rest := []) C0 hw (c_X8_prime  hV) (va_cwS 1 C0.ts gX8_waitPrime_X8_prime rfl rfl rfl hd_X8_prime ⟨Nat.le_of_ble_eq_true rfl, Nat.le_of_ble_eq_true rfl⟩) rfl hl.1 rfl (Nat.le_of_ble_eq_true rfl) ⟨Nat.le_of_ble_eq_true rfl, Nat.le_of_ble_eq_true rfl⟩ dX8_waitPrime_5 (fun r1 S2 H locs hV hw => ?_)
  exact r_iret C0 rfl hw hV dX8_waitPrime_8
/-! StepBenchModel.made()I -/
abbrev rm_X8_made : Room := { frames := 3, cells := 0, slots := 0, locals := 63 }
set_option maxRecDepth 20000 in
theorem fw_X8_made_61 : Cond.fieldLink RX8 61 "StepBenchModel" "thrown" "I" ∈ wsX8_made := by decide +kernel
set_option maxRecDepth 20000 in
theorem iw_X8_made_X8 : ∀ w ∈ wsX80, w ∈ wsX8_made := by decide +kernel
set_option maxRecDepth 20000 in
theorem fw_X8_made_130 : Cond.fieldLink RX8 130 "StepBenchModel" "acts" "I" ∈ wsX8_made := by decide +kernel
set_option maxRecDepth 20000 in
theorem fw_X8_made_108 : Cond.fieldLink RX8 108 "StepBenchModel" "sort" "I" ∈ wsX8_made := by decide +kernel
set_option maxRecDepth 20000 in
theorem fw_X8_made_111 : Cond.fieldLink RX8 111 "StepBenchModel" "fractions" "I" ∈ wsX8_made := by decide +kernel
set_option maxRecDepth 20000 in
theorem fw_X8_made_58 : Cond.fieldLink RX8 58 "StepBenchModel" "act" "[I" ∈ wsX8_made := by decide +kernel
set_option maxRecDepth 20000 in
theorem hd_X8_made : yX8_made.cls = RX8 ∧ yX8_made.cls ≠ "java/lang/invoke/MethodHandle" ∧ yX8_made.cls ≠ "java/lang/invoke/VarHandle" ∧ (parseMethodDescriptor yX8_made.desc).map (fun d => d.parameters.length) = some 0 := by decide +kernel
def V_X8_made_214    (post : Int32 → SS → Prop) : Nat → Int32 → SS → Prop
  | 0, _, _ => False
  | n + 1, v2, S =>
    (((gI S 31) ≤ v2 → (post (gI S 27) S)) ∧ (¬ (gI S 31) ≤ v2 → (V_X8_goPrime v2 S (fun (r9 : Int32) (S10 : SS) => (V_X8_waitPrime v2 S10 (fun (r11 : Int32) (S12 : SS) => (V_X8_add r9.toInt64 r11.toInt64 S12 (fun (S14 : SS) => (∀ x15 : Int32, x15 = v2 + 1 → (V_X8_made_214    post n x15 S14))))))))))
set_option maxHeartbeats 4000000 in
set_option maxRecDepth 100000 in
theorem lp_X8_made_214    (post : Int32 → SS → Prop) (C0 : Bd p s m meth c args cX8_made 4 (some .int) wsX8_made RX8 D n0 cI cJ) : ∀ (n : Nat) (v2 : Int32) (S : SS), V_X8_made_214    post n v2 S → ∀ (H : Heap) (locs : List Loc), Wh D n0 ad cI cJ X S s H locs → ∀ ls : Array Slot, lv_has ls 4 [(0, .ref (ad 48)), (2, .int v2)] → W p l e rm_X8_made s m args below meth c H locs 0 0 (MQ below (va_Qi post (fun S' t => Wd D n0 ad cI cJ X S' t) (fr n0)) args s 0 0 (fr n0)) (F0 m 214 ls []) := by
  intro n
  induction n with
  | zero => intro v2 S hV; exact False.elim hV
  | succ n ih =>
    intro v2 S hV H locs hw ls hl
    rw [V_X8_made_214] at hV
    refine lv_iload_n C0.x C0.b dX8_made_214 rfl (lv_at hl 1 rfl) ?_
    refine lv_aload_n C0.x C0.b dX8_made_215 rfl (lv_at hl 0 rfl) ?_
    refine r_get C0 hw (C := RX8) (T := TX8) (N := 33) (v := .int (gI S 31)) iw_X8_made_X8 (lg_48 ad cI cJ X S) rfl 31 (by decide) (C0.ts _ fw_X8_made_130) rfl dX8_made_216 ?_
    refine lv_icmp_ge (tgt := 242) C0.x C0.b dX8_made_219 (by decide) (fun c8 => ?_) (fun c8 => ?_)
    · have hV := hV.1 c8
      refine lv_aload_n C0.x C0.b dX8_made_242 rfl (lv_at hl 0 rfl) ?_
      refine r_get C0 hw (C := RX8) (T := TX8) (N := 33) (v := .int (gI S 27)) iw_X8_made_X8 (lg_48 ad cI cJ X S) rfl 10 (by decide) (C0.ts _ fw_X8_made_111) rfl dX8_made_243 ?_
      exact r_iret C0 rfl hw hV dX8_made_246
    · have hV := hV.2 c8
      refine lv_aload_n C0.x C0.b dX8_made_222 rfl (lv_at hl 0 rfl) ?_
      refine lv_iload_n C0.x C0.b dX8_made_223 rfl (lv_at hl 1 rfl) ?_
      refine r_cS_i (As := [.int v2]) (rest := [.ref (ad 48)]) C0 hw (c_X8_goPrime  hV) (va_cwS 1 C0.ts gX8_made_X8_goPrime rfl rfl rfl hd_X8_goPrime ⟨Nat.le_of_ble_eq_true rfl, Nat.le_of_ble_eq_true rfl⟩) rfl hl.1 rfl (Nat.le_of_ble_eq_true rfl) ⟨Nat.le_of_ble_eq_true rfl, Nat.le_of_ble_eq_true rfl⟩ dX8_made_224 (fun r9 S10 H locs hV hw => ?_)
      refine lv_i2l C0.x C0.b dX8_made_227 rfl ?_
      refine lv_iload_n C0.x C0.b dX8_made_228 rfl (lv_at hl 1 rfl) ?_
      refine r_cS_i (As := [.int v2]) (rest := [.long r9.toInt64, .ref (ad 48)]) C0 hw (c_X8_waitPrime  hV) (va_cwS 1 C0.ts gX8_made_X8_waitPrime rfl rfl rfl hd_X8_waitPrime ⟨Nat.le_of_ble_eq_true rfl, Nat.le_of_ble_eq_true rfl⟩) rfl hl.1 rfl (Nat.le_of_ble_eq_true rfl) ⟨Nat.le_of_ble_eq_true rfl, Nat.le_of_ble_eq_true rfl⟩ dX8_made_229 (fun r11 S12 H locs hV hw => ?_)
      refine lv_i2l C0.x C0.b dX8_made_232 rfl ?_
      refine r_cV_v (As := [.long r9.toInt64, .long r11.toInt64]) (rest := []) C0 hw (c_X8_add  hV) (cwV 2 C0.ts gX8_made_X8_add rfl rfl rfl hd_X8_add ⟨Nat.le_of_ble_eq_true rfl, Nat.le_of_ble_eq_true rfl⟩) (lg_48 ad cI cJ X S12) rfl rfl hl.1 rfl (Nat.le_of_ble_eq_true rfl) ⟨Nat.le_of_ble_eq_true rfl, Nat.le_of_ble_eq_true rfl⟩ dX8_made_233 (fun S14 H locs hV hw => ?_)
      obtain ⟨x15, ex15⟩ : ∃ z : Int32, z = v2 + 1 := ⟨_, rfl⟩
      have hV := hV x15 ex15
      refine lv_iinc (v := x15) (lv' := [(2, .int x15), (0, .ref (ad 48))]) C0.x C0.b dX8_made_236 hl (k := 1) rfl (by rw [ex15]; rfl) (by decide) rfl (fun ls hl => ?_)
      refine lv_goto (tgt := 214) C0.x C0.b dX8_made_239 (by decide) ?_
      exact ih _ _ hV _ _ hw _ (lv_sub hl [1, 0] rfl)
def V_X8_made_70    (post : Int32 → SS → Prop) : Nat → Int32 → SS → Prop
  | 0, _, _ => False
  | n + 1, v2, S =>
    (((gI S 31) ≤ v2 → (∃ n214 : Nat, V_X8_made_214    post n214 (0 : Int32) S)) ∧ (¬ (gI S 31) ≤ v2 → (vp_in (((4 : Int32) * v2) + (1 : Int32)) 48 ∧ (V_X8_heapPrime (gB S 3 (((4 : Int32) * v2) + (1 : Int32)).toNatClampNeg) S (fun (r16 : Int32) (S17 : SS) => (vp_in ((4 : Int32) * v2) 48 ∧ (((gB S17 3 ((4 : Int32) * v2).toNatClampNeg) = 0 → (vp_in (((4 : Int32) * v2) + (2 : Int32)) 48 ∧ (V_X8_waitPrime (gB S17 3 (((4 : Int32) * v2) + (2 : Int32)).toNatClampNeg) S17 (fun (r19 : Int32) (S20 : SS) => (V_X8_goPrime v2 S20 (fun (r21 : Int32) (S22 : SS) => (V_X8_add (r19.toInt64 * r16.toInt64) r21.toInt64 S22 (fun (S24 : SS) => (∀ x25 : Int32, x25 = v2 + 1 → (V_X8_made_70    post n x25 S24)))))))))) ∧ (¬ (gB S17 3 ((4 : Int32) * v2).toNatClampNeg) = 0 → (vp_in ((4 : Int32) * v2) 48 ∧ (((gB S17 3 ((4 : Int32) * v2).toNatClampNeg) = (1 : Int32) → (vp_in (((4 : Int32) * v2) + (2 : Int32)) 48 ∧ (V_X8_waitPrime (gB S17 3 (((4 : Int32) * v2) + (2 : Int32)).toNatClampNeg) S17 (fun (r27 : Int32) (S28 : SS) => (V_X8_goPrime v2 S28 (fun (r29 : Int32) (S30 : SS) => (V_X8_add r27.toInt64 (r29.toInt64 * r16.toInt64) S30 (fun (S32 : SS) => (vp_in (((4 : Int32) * v2) + (3 : Int32)) 48 ∧ (V_X8_waitPrime (gB S32 3 (((4 : Int32) * v2) + (3 : Int32)).toNatClampNeg) S32 (fun (r33 : Int32) (S34 : SS) => (V_X8_goPrime v2 S34 (fun (r35 : Int32) (S36 : SS) => (V_X8_add r33.toInt64 r35.toInt64 S36 (fun (S38 : SS) => (∀ x39 : Int32, x39 = v2 + 1 → (V_X8_made_70    post n x39 S38))))))))))))))))) ∧ (¬ (gB S17 3 ((4 : Int32) * v2).toNatClampNeg) = (1 : Int32) → (V_X8_goPrime v2 S17 (fun (r40 : Int32) (S41 : SS) => (V_X8_add (1 : Int64) r40.toInt64 S41 (fun (S43 : SS) => (∀ x44 : Int32, x44 = v2 + 1 → (V_X8_made_70    post n x44 S43)))))))))))))))))
set_option maxHeartbeats 4000000 in
set_option maxRecDepth 100000 in
theorem lp_X8_made_70    (post : Int32 → SS → Prop) (C0 : Bd p s m meth c args cX8_made 4 (some .int) wsX8_made RX8 D n0 cI cJ) : ∀ (n : Nat) (v2 : Int32) (S : SS), V_X8_made_70    post n v2 S → ∀ (H : Heap) (locs : List Loc), Wh D n0 ad cI cJ X S s H locs → ∀ ls : Array Slot, lv_has ls 4 [(0, .ref (ad 48)), (2, .int v2)] → W p l e rm_X8_made s m args below meth c H locs 0 0 (MQ below (va_Qi post (fun S' t => Wd D n0 ad cI cJ X S' t) (fr n0)) args s 0 0 (fr n0)) (F0 m 70 ls []) := by
  intro n
  induction n with
  | zero => intro v2 S hV; exact False.elim hV
  | succ n ih =>
    intro v2 S hV H locs hw ls hl
    rw [V_X8_made_70] at hV
    refine lv_iload_n C0.x C0.b dX8_made_70 rfl (lv_at hl 1 rfl) ?_
    refine lv_aload_n C0.x C0.b dX8_made_71 rfl (lv_at hl 0 rfl) ?_
    refine r_get C0 hw (C := RX8) (T := TX8) (N := 33) (v := .int (gI S 31)) iw_X8_made_X8 (lg_48 ad cI cJ X S) rfl 31 (by decide) (C0.ts _ fw_X8_made_130) rfl dX8_made_72 ?_
    refine lv_icmp_ge (tgt := 212) C0.x C0.b dX8_made_75 (by decide) (fun c7 => ?_) (fun c7 => ?_)
    · have hV := hV.1 c7
      refine lv_iconst (v := 0) C0.x C0.b dX8_made_212 (by decide) ?_
      refine lv_istore_n (lv' := [(2, .int (0 : Int32)), (0, .ref (ad 48))]) C0.x C0.b dX8_made_213 rfl hl (by decide) rfl (fun ls hl => ?_)
      obtain ⟨n214, hV⟩ := hV
      exact lp_X8_made_214   post C0  n214 _ _ hV _ _ hw _ (lv_sub hl [1, 0] rfl)
    · have hV := hV.2 c7
      refine lv_aload_n C0.x C0.b dX8_made_78 rfl (lv_at hl 0 rfl) ?_
      refine r_get C0 hw (C := RX8) (T := TX8) (N := 33) (v := .ref (ad 63)) iw_X8_made_X8 (lg_48 ad cI cJ X S) rfl 32 (by decide) (C0.ts _ fw_X8_made_58) rfl dX8_made_79 ?_
      refine lv_iconst (v := 4) C0.x C0.b dX8_made_82 (by decide) ?_
      refine lv_iload_n C0.x C0.b dX8_made_83 rfl (lv_at hl 1 rfl) ?_
      refine lv_imul C0.x C0.b dX8_made_84 ?_
      refine lv_iconst (v := 1) C0.x C0.b dX8_made_85 (by decide) ?_
      refine lv_iadd C0.x C0.b dX8_made_86 ?_
      refine r_iald C0 hw (lg_63 ad cI cJ X S) hV.1 dX8_made_87 ?_
      have hV := hV.2
      refine r_cS_i (As := [.int (gB S 3 (((4 : Int32) * v2) + (1 : Int32)).toNatClampNeg)]) (rest := []) C0 hw (c_X8_heapPrime  hV) (va_cwS 1 C0.ts gX8_made_X8_heapPrime rfl rfl rfl hd_X8_heapPrime ⟨Nat.le_of_ble_eq_true rfl, Nat.le_of_ble_eq_true rfl⟩) rfl hl.1 rfl (Nat.le_of_ble_eq_true rfl) ⟨Nat.le_of_ble_eq_true rfl, Nat.le_of_ble_eq_true rfl⟩ dX8_made_88 (fun r16 S17 H locs hV hw => ?_)
      refine lv_istore_n (lv' := [(3, .int r16), (0, .ref (ad 48)), (2, .int v2)]) C0.x C0.b dX8_made_91 rfl hl (by decide) rfl (fun ls hl => ?_)
      refine lv_aload_n C0.x C0.b dX8_made_92 rfl (lv_at hl 1 rfl) ?_
      refine r_get C0 hw (C := RX8) (T := TX8) (N := 33) (v := .ref (ad 63)) iw_X8_made_X8 (lg_48 ad cI cJ X S17) rfl 32 (by decide) (C0.ts _ fw_X8_made_58) rfl dX8_made_93 ?_
      refine lv_iconst (v := 4) C0.x C0.b dX8_made_96 (by decide) ?_
      refine lv_iload_n C0.x C0.b dX8_made_97 rfl (lv_at hl 2 rfl) ?_
      refine lv_imul C0.x C0.b dX8_made_98 ?_
      refine r_iald C0 hw (lg_63 ad cI cJ X S17) hV.1 dX8_made_99 ?_
      have hV := hV.2
      refine lv_if_ne (tgt := 132) C0.x C0.b dX8_made_100 (by decide) (fun c18 => ?_) (fun c18 => ?_)
      · have hV := hV.2 c18
        refine lv_aload_n C0.x C0.b dX8_made_132 rfl (lv_at hl 1 rfl) ?_
        refine r_get C0 hw (C := RX8) (T := TX8) (N := 33) (v := .ref (ad 63)) iw_X8_made_X8 (lg_48 ad cI cJ X S17) rfl 32 (by decide) (C0.ts _ fw_X8_made_58) rfl dX8_made_133 ?_
        refine lv_iconst (v := 4) C0.x C0.b dX8_made_136 (by decide) ?_
        refine lv_iload_n C0.x C0.b dX8_made_137 rfl (lv_at hl 2 rfl) ?_
        refine lv_imul C0.x C0.b dX8_made_138 ?_
        refine r_iald C0 hw (lg_63 ad cI cJ X S17) hV.1 dX8_made_139 ?_
        have hV := hV.2
        refine lv_iconst (v := 1) C0.x C0.b dX8_made_140 (by decide) ?_
        refine lv_icmp_ne (tgt := 196) C0.x C0.b dX8_made_141 (by decide) (fun c26 => ?_) (fun c26 => ?_)
        · have hV := hV.2 c26
          refine lv_aload_n C0.x C0.b dX8_made_196 rfl (lv_at hl 1 rfl) ?_
          refine lv_lconst (v := 1) C0.x C0.b dX8_made_197 (by decide) ?_
          refine lv_iload_n C0.x C0.b dX8_made_198 rfl (lv_at hl 2 rfl) ?_
          refine r_cS_i (As := [.int v2]) (rest := [.long (1 : Int64), .ref (ad 48)]) C0 hw (c_X8_goPrime  hV) (va_cwS 1 C0.ts gX8_made_X8_goPrime rfl rfl rfl hd_X8_goPrime ⟨Nat.le_of_ble_eq_true rfl, Nat.le_of_ble_eq_true rfl⟩) rfl hl.1 rfl (Nat.le_of_ble_eq_true rfl) ⟨Nat.le_of_ble_eq_true rfl, Nat.le_of_ble_eq_true rfl⟩ dX8_made_199 (fun r40 S41 H locs hV hw => ?_)
          refine lv_i2l C0.x C0.b dX8_made_202 rfl ?_
          refine r_cV_v (As := [.long (1 : Int64), .long r40.toInt64]) (rest := []) C0 hw (c_X8_add  hV) (cwV 2 C0.ts gX8_made_X8_add rfl rfl rfl hd_X8_add ⟨Nat.le_of_ble_eq_true rfl, Nat.le_of_ble_eq_true rfl⟩) (lg_48 ad cI cJ X S41) rfl rfl hl.1 rfl (Nat.le_of_ble_eq_true rfl) ⟨Nat.le_of_ble_eq_true rfl, Nat.le_of_ble_eq_true rfl⟩ dX8_made_203 (fun S43 H locs hV hw => ?_)
          obtain ⟨x44, ex44⟩ : ∃ z : Int32, z = v2 + 1 := ⟨_, rfl⟩
          have hV := hV x44 ex44
          refine lv_iinc (v := x44) (lv' := [(2, .int x44), (3, .int r16), (0, .ref (ad 48))]) C0.x C0.b dX8_made_206 hl (k := 2) rfl (by rw [ex44]; rfl) (by decide) rfl (fun ls hl => ?_)
          refine lv_goto (tgt := 70) C0.x C0.b dX8_made_209 (by decide) ?_
          exact ih _ _ hV _ _ hw _ (lv_sub hl [2, 0] rfl)
        · have hV := hV.1 c26
          refine lv_aload_n C0.x C0.b dX8_made_144 rfl (lv_at hl 1 rfl) ?_
          refine lv_aload_n C0.x C0.b dX8_made_145 rfl (lv_at hl 1 rfl) ?_
          refine r_get C0 hw (C := RX8) (T := TX8) (N := 33) (v := .ref (ad 63)) iw_X8_made_X8 (lg_48 ad cI cJ X S17) rfl 32 (by decide) (C0.ts _ fw_X8_made_58) rfl dX8_made_146 ?_
          refine lv_iconst (v := 4) C0.x C0.b dX8_made_149 (by decide) ?_
          refine lv_iload_n C0.x C0.b dX8_made_150 rfl (lv_at hl 2 rfl) ?_
          refine lv_imul C0.x C0.b dX8_made_151 ?_
          refine lv_iconst (v := 2) C0.x C0.b dX8_made_152 (by decide) ?_
          refine lv_iadd C0.x C0.b dX8_made_153 ?_
          refine r_iald C0 hw (lg_63 ad cI cJ X S17) hV.1 dX8_made_154 ?_
          have hV := hV.2
          refine r_cS_i (As := [.int (gB S17 3 (((4 : Int32) * v2) + (2 : Int32)).toNatClampNeg)]) (rest := [.ref (ad 48)]) C0 hw (c_X8_waitPrime  hV) (va_cwS 1 C0.ts gX8_made_X8_waitPrime rfl rfl rfl hd_X8_waitPrime ⟨Nat.le_of_ble_eq_true rfl, Nat.le_of_ble_eq_true rfl⟩) rfl hl.1 rfl (Nat.le_of_ble_eq_true rfl) ⟨Nat.le_of_ble_eq_true rfl, Nat.le_of_ble_eq_true rfl⟩ dX8_made_155 (fun r27 S28 H locs hV hw => ?_)
          refine lv_i2l C0.x C0.b dX8_made_158 rfl ?_
          refine lv_iload_n C0.x C0.b dX8_made_159 rfl (lv_at hl 2 rfl) ?_
          refine r_cS_i (As := [.int v2]) (rest := [.long r27.toInt64, .ref (ad 48)]) C0 hw (c_X8_goPrime  hV) (va_cwS 1 C0.ts gX8_made_X8_goPrime rfl rfl rfl hd_X8_goPrime ⟨Nat.le_of_ble_eq_true rfl, Nat.le_of_ble_eq_true rfl⟩) rfl hl.1 rfl (Nat.le_of_ble_eq_true rfl) ⟨Nat.le_of_ble_eq_true rfl, Nat.le_of_ble_eq_true rfl⟩ dX8_made_160 (fun r29 S30 H locs hV hw => ?_)
          refine lv_i2l C0.x C0.b dX8_made_163 rfl ?_
          refine lv_iload_n C0.x C0.b dX8_made_164 rfl (lv_at hl 0 rfl) ?_
          refine lv_i2l C0.x C0.b dX8_made_165 rfl ?_
          refine lv_lmul C0.x C0.b dX8_made_166 ?_
          refine r_cV_v (As := [.long r27.toInt64, .long (r29.toInt64 * r16.toInt64)]) (rest := []) C0 hw (c_X8_add  hV) (cwV 2 C0.ts gX8_made_X8_add rfl rfl rfl hd_X8_add ⟨Nat.le_of_ble_eq_true rfl, Nat.le_of_ble_eq_true rfl⟩) (lg_48 ad cI cJ X S30) rfl rfl hl.1 rfl (Nat.le_of_ble_eq_true rfl) ⟨Nat.le_of_ble_eq_true rfl, Nat.le_of_ble_eq_true rfl⟩ dX8_made_167 (fun S32 H locs hV hw => ?_)
          refine lv_aload_n C0.x C0.b dX8_made_170 rfl (lv_at hl 1 rfl) ?_
          refine lv_aload_n C0.x C0.b dX8_made_171 rfl (lv_at hl 1 rfl) ?_
          refine r_get C0 hw (C := RX8) (T := TX8) (N := 33) (v := .ref (ad 63)) iw_X8_made_X8 (lg_48 ad cI cJ X S32) rfl 32 (by decide) (C0.ts _ fw_X8_made_58) rfl dX8_made_172 ?_
          refine lv_iconst (v := 4) C0.x C0.b dX8_made_175 (by decide) ?_
          refine lv_iload_n C0.x C0.b dX8_made_176 rfl (lv_at hl 2 rfl) ?_
          refine lv_imul C0.x C0.b dX8_made_177 ?_
          refine lv_iconst (v := 3) C0.x C0.b dX8_made_178 (by decide) ?_
          refine lv_iadd C0.x C0.b dX8_made_179 ?_
          refine r_iald C0 hw (lg_63 ad cI cJ X S32) hV.1 dX8_made_180 ?_
          have hV := hV.2
          refine r_cS_i (As := [.int (gB S32 3 (((4 : Int32) * v2) + (3 : Int32)).toNatClampNeg)]) (rest := [.ref (ad 48)]) C0 hw (c_X8_waitPrime  hV) (va_cwS 1 C0.ts gX8_made_X8_waitPrime rfl rfl rfl hd_X8_waitPrime ⟨Nat.le_of_ble_eq_true rfl, Nat.le_of_ble_eq_true rfl⟩) rfl hl.1 rfl (Nat.le_of_ble_eq_true rfl) ⟨Nat.le_of_ble_eq_true rfl, Nat.le_of_ble_eq_true rfl⟩ dX8_made_181 (fun r33 S34 H locs hV hw => ?_)
          refine lv_i2l C0.x C0.b dX8_made_184 rfl ?_
          refine lv_iload_n C0.x C0.b dX8_made_185 rfl (lv_at hl 2 rfl) ?_
          refine r_cS_i (As := [.int v2]) (rest := [.long r33.toInt64, .ref (ad 48)]) C0 hw (c_X8_goPrime  hV) (va_cwS 1 C0.ts gX8_made_X8_goPrime rfl rfl rfl hd_X8_goPrime ⟨Nat.le_of_ble_eq_true rfl, Nat.le_of_ble_eq_true rfl⟩) rfl hl.1 rfl (Nat.le_of_ble_eq_true rfl) ⟨Nat.le_of_ble_eq_true rfl, Nat.le_of_ble_eq_true rfl⟩ dX8_made_186 (fun r35 S36 H locs hV hw => ?_)
          refine lv_i2l C0.x C0.b dX8_made_189 rfl ?_
          refine r_cV_v (As := [.long r33.toInt64, .long r35.toInt64]) (rest := []) C0 hw (c_X8_add  hV) (cwV 2 C0.ts gX8_made_X8_add rfl rfl rfl hd_X8_add ⟨Nat.le_of_ble_eq_true rfl, Nat.le_of_ble_eq_true rfl⟩) (lg_48 ad cI cJ X S36) rfl rfl hl.1 rfl (Nat.le_of_ble_eq_true rfl) ⟨Nat.le_of_ble_eq_true rfl, Nat.le_of_ble_eq_true rfl⟩ dX8_made_190 (fun S38 H locs hV hw => ?_)
          refine lv_goto (tgt := 206) C0.x C0.b dX8_made_193 (by decide) ?_
          obtain ⟨x39, ex39⟩ : ∃ z : Int32, z = v2 + 1 := ⟨_, rfl⟩
          have hV := hV x39 ex39
          refine lv_iinc (v := x39) (lv' := [(2, .int x39), (3, .int r16), (0, .ref (ad 48))]) C0.x C0.b dX8_made_206 hl (k := 2) rfl (by rw [ex39]; rfl) (by decide) rfl (fun ls hl => ?_)
          refine lv_goto (tgt := 70) C0.x C0.b dX8_made_209 (by decide) ?_
          exact ih _ _ hV _ _ hw _ (lv_sub hl [2, 0] rfl)
      · have hV := hV.1 c18
        refine lv_aload_n C0.x C0.b dX8_made_103 rfl (lv_at hl 1 rfl) ?_
        refine lv_aload_n C0.x C0.b dX8_made_104 rfl (lv_at hl 1 rfl) ?_
        refine r_get C0 hw (C := RX8) (T := TX8) (N := 33) (v := .ref (ad 63)) iw_X8_made_X8 (lg_48 ad cI cJ X S17) rfl 32 (by decide) (C0.ts _ fw_X8_made_58) rfl dX8_made_105 ?_
        refine lv_iconst (v := 4) C0.x C0.b dX8_made_108 (by decide) ?_
        refine lv_iload_n C0.x C0.b dX8_made_109 rfl (lv_at hl 2 rfl) ?_
        refine lv_imul C0.x C0.b dX8_made_110 ?_
        refine lv_iconst (v := 2) C0.x C0.b dX8_made_111 (by decide) ?_
        refine lv_iadd C0.x C0.b dX8_made_112 ?_
        refine r_iald C0 hw (lg_63 ad cI cJ X S17) hV.1 dX8_made_113 ?_
        have hV := hV.2
        refine r_cS_i (As := [.int (gB S17 3 (((4 : Int32) * v2) + (2 : Int32)).toNatClampNeg)]) (rest := [.ref (ad 48)]) C0 hw (c_X8_waitPrime  hV) (va_cwS 1 C0.ts gX8_made_X8_waitPrime rfl rfl rfl hd_X8_waitPrime ⟨Nat.le_of_ble_eq_true rfl, Nat.le_of_ble_eq_true rfl⟩) rfl hl.1 rfl (Nat.le_of_ble_eq_true rfl) ⟨Nat.le_of_ble_eq_true rfl, Nat.le_of_ble_eq_true rfl⟩ dX8_made_114 (fun r19 S20 H locs hV hw => ?_)
        refine lv_i2l C0.x C0.b dX8_made_117 rfl ?_
        refine lv_iload_n C0.x C0.b dX8_made_118 rfl (lv_at hl 0 rfl) ?_
        refine lv_i2l C0.x C0.b dX8_made_119 rfl ?_
        refine lv_lmul C0.x C0.b dX8_made_120 ?_
        refine lv_iload_n C0.x C0.b dX8_made_121 rfl (lv_at hl 2 rfl) ?_
        refine r_cS_i (As := [.int v2]) (rest := [.long (r19.toInt64 * r16.toInt64), .ref (ad 48)]) C0 hw (c_X8_goPrime  hV) (va_cwS 1 C0.ts gX8_made_X8_goPrime rfl rfl rfl hd_X8_goPrime ⟨Nat.le_of_ble_eq_true rfl, Nat.le_of_ble_eq_true rfl⟩) rfl hl.1 rfl (Nat.le_of_ble_eq_true rfl) ⟨Nat.le_of_ble_eq_true rfl, Nat.le_of_ble_eq_true rfl⟩ dX8_made_122 (fun r21 S22 H locs hV hw => ?_)
        refine lv_i2l C0.x C0.b dX8_made_125 rfl ?_
        refine r_cV_v (As := [.long (r19.toInt64 * r16.toInt64), .long r21.toInt64]) (rest := []) C0 hw (c_X8_add  hV) (cwV 2 C0.ts gX8_made_X8_add rfl rfl rfl hd_X8_add ⟨Nat.le_of_ble_eq_true rfl, Nat.le_of_ble_eq_true rfl⟩) (lg_48 ad cI cJ X S22) rfl rfl hl.1 rfl (Nat.le_of_ble_eq_true rfl) ⟨Nat.le_of_ble_eq_true rfl, Nat.le_of_ble_eq_true rfl⟩ dX8_made_126 (fun S24 H locs hV hw => ?_)
        refine lv_goto (tgt := 206) C0.x C0.b dX8_made_129 (by decide) ?_
        obtain ⟨x25, ex25⟩ : ∃ z : Int32, z = v2 + 1 := ⟨_, rfl⟩
        have hV := hV x25 ex25
        refine lv_iinc (v := x25) (lv' := [(2, .int x25), (3, .int r16), (0, .ref (ad 48))]) C0.x C0.b dX8_made_206 hl (k := 2) rfl (by rw [ex25]; rfl) (by decide) rfl (fun ls hl => ?_)
        refine lv_goto (tgt := 70) C0.x C0.b dX8_made_209 (by decide) ?_
        exact ih _ _ hV _ _ hw _ (lv_sub hl [2, 0] rfl)
def V_X8_made_9    (post : Int32 → SS → Prop) : Nat → Int32 → Int32 → SS → Prop
  | 0, _, _, _ => False
  | n + 1, v1, v2, S =>
    (((gI S 31) ≤ v2 → (((gI S 31) = 0 → (post (-1 : Int32) S)) ∧ (¬ (gI S 31) = 0 → ((v1 ≤ (40 : Int32) → (∀ S5 : SS, S5 = (sI S 25 (2 : Int32)) → (∀ S6 : SS, S6 = (sI S5 27 (0 : Int32)) → (∃ n70 : Nat, V_X8_made_70    post n70 (0 : Int32) S6)))) ∧ (¬ v1 ≤ (40 : Int32) → (post (-1 : Int32) S)))))) ∧ (¬ (gI S 31) ≤ v2 → (vp_in ((4 : Int32) * v2) 48 ∧ (((gB S 3 ((4 : Int32) * v2).toNatClampNeg) = (1 : Int32) → (∀ x46 : Int32, x46 = (v1 + (3 : Int32)) → (∀ x47 : Int32, x47 = v2 + 1 → (V_X8_made_9    post n x46 x47 S)))) ∧ (¬ (gB S 3 ((4 : Int32) * v2).toNatClampNeg) = (1 : Int32) → (∀ x48 : Int32, x48 = (v1 + (2 : Int32)) → (∀ x49 : Int32, x49 = v2 + 1 → (V_X8_made_9    post n x48 x49 S))))))))
set_option maxHeartbeats 4000000 in
set_option maxRecDepth 100000 in
theorem lp_X8_made_9    (post : Int32 → SS → Prop) (C0 : Bd p s m meth c args cX8_made 4 (some .int) wsX8_made RX8 D n0 cI cJ) : ∀ (n : Nat) (v1 : Int32) (v2 : Int32) (S : SS), V_X8_made_9    post n v1 v2 S → ∀ (H : Heap) (locs : List Loc), Wh D n0 ad cI cJ X S s H locs → ∀ ls : Array Slot, lv_has ls 4 [(0, .ref (ad 48)), (1, .int v1), (2, .int v2)] → W p l e rm_X8_made s m args below meth c H locs 0 0 (MQ below (va_Qi post (fun S' t => Wd D n0 ad cI cJ X S' t) (fr n0)) args s 0 0 (fr n0)) (F0 m 9 ls []) := by
  intro n
  induction n with
  | zero => intro v1 v2 S hV; exact False.elim hV
  | succ n ih =>
    intro v1 v2 S hV H locs hw ls hl
    rw [V_X8_made_9] at hV
    refine lv_iload_n C0.x C0.b dX8_made_9 rfl (lv_at hl 2 rfl) ?_
    refine lv_aload_n C0.x C0.b dX8_made_10 rfl (lv_at hl 0 rfl) ?_
    refine r_get C0 hw (C := RX8) (T := TX8) (N := 33) (v := .int (gI S 31)) iw_X8_made_X8 (lg_48 ad cI cJ X S) rfl 31 (by decide) (C0.ts _ fw_X8_made_130) rfl dX8_made_11 ?_
    refine lv_icmp_ge (tgt := 43) C0.x C0.b dX8_made_14 (by decide) (fun c2 => ?_) (fun c2 => ?_)
    · have hV := hV.1 c2
      refine lv_aload_n C0.x C0.b dX8_made_43 rfl (lv_at hl 0 rfl) ?_
      refine r_get C0 hw (C := RX8) (T := TX8) (N := 33) (v := .int (gI S 31)) iw_X8_made_X8 (lg_48 ad cI cJ X S) rfl 31 (by decide) (C0.ts _ fw_X8_made_130) rfl dX8_made_44 ?_
      refine lv_if_eq (tgt := 56) C0.x C0.b dX8_made_47 (by decide) (fun c3 => ?_) (fun c3 => ?_)
      · have hV := hV.1 c3
        refine lv_iconst (v := -1) C0.x C0.b dX8_made_56 (by decide) ?_
        exact r_iret C0 rfl hw hV dX8_made_57
      · have hV := hV.2 c3
        refine lv_iload_n C0.x C0.b dX8_made_50 rfl (lv_at hl 1 rfl) ?_
        refine lv_bipush (v := 40) C0.x C0.b dX8_made_51 (by decide) ?_
        refine lv_icmp_le (tgt := 58) C0.x C0.b dX8_made_53 (by decide) (fun c4 => ?_) (fun c4 => ?_)
        · have hV := hV.1 c4
          refine lv_aload_n C0.x C0.b dX8_made_58 rfl (lv_at hl 0 rfl) ?_
          refine lv_iconst (v := 2) C0.x C0.b dX8_made_59 (by decide) ?_
          refine r_put C0 hw (C := RX8) (T := TX8) (N := 33) (ty := .int) iw_X8_made_X8 tyX8 tyX8_ok nmX8 (lg_48 ad cI cJ X S) rfl 7 (by decide) (C0.ts _ fw_X8_made_108) rfl (by decide +kernel) rfl rfl (Nat.le_of_ble_eq_true rfl) dX8_made_60 (S' := (sI S 25 (2 : Int32))) (ls_48_7 ad cI cJ X S (2 : Int32)) (fun S5 H locs eS5 hw => ?_)
          have hV := hV S5 eS5
          refine lv_aload_n C0.x C0.b dX8_made_63 rfl (lv_at hl 0 rfl) ?_
          refine lv_iconst (v := 0) C0.x C0.b dX8_made_64 (by decide) ?_
          refine r_put C0 hw (C := RX8) (T := TX8) (N := 33) (ty := .int) iw_X8_made_X8 tyX8 tyX8_ok nmX8 (lg_48 ad cI cJ X S5) rfl 10 (by decide) (C0.ts _ fw_X8_made_111) rfl (by decide +kernel) rfl rfl (Nat.le_of_ble_eq_true rfl) dX8_made_65 (S' := (sI S5 27 (0 : Int32))) (ls_48_10 ad cI cJ X S5 (0 : Int32)) (fun S6 H locs eS6 hw => ?_)
          have hV := hV S6 eS6
          refine lv_iconst (v := 0) C0.x C0.b dX8_made_68 (by decide) ?_
          refine lv_istore_n (lv' := [(2, .int (0 : Int32)), (0, .ref (ad 48)), (1, .int v1)]) C0.x C0.b dX8_made_69 rfl hl (by decide) rfl (fun ls hl => ?_)
          obtain ⟨n70, hV⟩ := hV
          exact lp_X8_made_70   post C0  n70 _ _ hV _ _ hw _ (lv_sub hl [1, 0] rfl)
        · have hV := hV.2 c4
          refine lv_iconst (v := -1) C0.x C0.b dX8_made_56 (by decide) ?_
          exact r_iret C0 rfl hw hV dX8_made_57
    · have hV := hV.2 c2
      refine lv_iload_n C0.x C0.b dX8_made_17 rfl (lv_at hl 1 rfl) ?_
      refine lv_aload_n C0.x C0.b dX8_made_18 rfl (lv_at hl 0 rfl) ?_
      refine r_get C0 hw (C := RX8) (T := TX8) (N := 33) (v := .ref (ad 63)) iw_X8_made_X8 (lg_48 ad cI cJ X S) rfl 32 (by decide) (C0.ts _ fw_X8_made_58) rfl dX8_made_19 ?_
      refine lv_iconst (v := 4) C0.x C0.b dX8_made_22 (by decide) ?_
      refine lv_iload_n C0.x C0.b dX8_made_23 rfl (lv_at hl 2 rfl) ?_
      refine lv_imul C0.x C0.b dX8_made_24 ?_
      refine r_iald C0 hw (lg_63 ad cI cJ X S) hV.1 dX8_made_25 ?_
      have hV := hV.2
      refine lv_iconst (v := 1) C0.x C0.b dX8_made_26 (by decide) ?_
      refine lv_icmp_ne (tgt := 34) C0.x C0.b dX8_made_27 (by decide) (fun c45 => ?_) (fun c45 => ?_)
      · have hV := hV.2 c45
        refine lv_iconst (v := 2) C0.x C0.b dX8_made_34 (by decide) ?_
        refine lv_iadd C0.x C0.b dX8_made_35 ?_
        refine lv_topi (fun x48 ex48 => ?_)
        have hV := hV x48 ex48
        refine lv_istore_n (lv' := [(1, .int x48), (0, .ref (ad 48)), (2, .int v2)]) C0.x C0.b dX8_made_36 rfl hl (by decide) rfl (fun ls hl => ?_)
        obtain ⟨x49, ex49⟩ : ∃ z : Int32, z = v2 + 1 := ⟨_, rfl⟩
        have hV := hV x49 ex49
        refine lv_iinc (v := x49) (lv' := [(2, .int x49), (1, .int x48), (0, .ref (ad 48))]) C0.x C0.b dX8_made_37 hl (k := 2) rfl (by rw [ex49]; rfl) (by decide) rfl (fun ls hl => ?_)
        refine lv_goto (tgt := 9) C0.x C0.b dX8_made_40 (by decide) ?_
        exact ih _ _ _ hV _ _ hw _ (lv_sub hl [2, 1, 0] rfl)
      · have hV := hV.1 c45
        refine lv_iconst (v := 3) C0.x C0.b dX8_made_30 (by decide) ?_
        refine lv_goto (tgt := 35) C0.x C0.b dX8_made_31 (by decide) ?_
        refine lv_iadd C0.x C0.b dX8_made_35 ?_
        refine lv_topi (fun x46 ex46 => ?_)
        have hV := hV x46 ex46
        refine lv_istore_n (lv' := [(1, .int x46), (0, .ref (ad 48)), (2, .int v2)]) C0.x C0.b dX8_made_36 rfl hl (by decide) rfl (fun ls hl => ?_)
        obtain ⟨x47, ex47⟩ : ∃ z : Int32, z = v2 + 1 := ⟨_, rfl⟩
        have hV := hV x47 ex47
        refine lv_iinc (v := x47) (lv' := [(2, .int x47), (1, .int x46), (0, .ref (ad 48))]) C0.x C0.b dX8_made_37 hl (k := 2) rfl (by rw [ex47]; rfl) (by decide) rfl (fun ls hl => ?_)
        refine lv_goto (tgt := 9) C0.x C0.b dX8_made_40 (by decide) ?_
        exact ih _ _ _ hV _ _ hw _ (lv_sub hl [2, 1, 0] rfl)
def V_X8_made   (S : SS) (post : Int32 → SS → Prop) : Prop :=
  (∀ S1 : SS, S1 = (sI S 20 (0 : Int32)) → (∃ n9 : Nat, V_X8_made_9    post n9 (0 : Int32) (0 : Int32) S1))
set_option maxHeartbeats 4000000 in
set_option maxRecDepth 100000 in
theorem c_X8_made  {S : SS}  {post : Int32 → SS → Prop} (hV : V_X8_made   S post) : MI l yX8_made wsX8_made rm_X8_made [.ref (ad 48)] D n0 ad cI cJ X S post := by
  refine Met.ofW (cc := cX8_made) (maxL := 4) (ret := (some .int)) (by decide) rfl ?_
  intro p e s m args below meth c s₁ B hml hv
  obtain ⟨rfl, hv⟩ := hv
  have C0 := Bd.mk B hml (atoms_spec (ws := wsX8_made) B.pre) (findClass_of_methodNamed B.named) hv.1
  have hw : Wh D n0 ad cI cJ X S s s.heap [] := ⟨hv.2.1, hv.2.2, va_S.rf⟩
  refine r_entry (Nat.le_of_ble_eq_true rfl) (fun ls hl => ?_)
  have hl : lv_has ls 4 [(0, .ref (ad 48))] := hl
  unfold V_X8_made at hV
  refine lv_aload_n C0.x C0.b dX8_made_0 rfl (lv_at hl 0 rfl) ?_
  refine lv_iconst (v := 0) C0.x C0.b dX8_made_1 (by decide) ?_
  refine r_put C0 hw (C := RX8) (T := TX8) (N := 33) (ty := .int) iw_X8_made_X8 tyX8 tyX8_ok nmX8 (lg_48 ad cI cJ X S) rfl 0 (by decide) (C0.ts _ fw_X8_made_61) rfl (by decide +kernel) rfl rfl (Nat.le_of_ble_eq_true rfl) dX8_made_2 (S' := (sI S 20 (0 : Int32))) (ls_48_0 ad cI cJ X S (0 : Int32)) (fun S1 H locs eS1 hw => ?_)
  have hV := hV S1 eS1
  refine lv_iconst (v := 0) C0.x C0.b dX8_made_5 (by decide) ?_
  refine lv_istore_n (lv' := [(1, .int (0 : Int32)), (0, .ref (ad 48))]) C0.x C0.b dX8_made_6 rfl hl (by decide) rfl (fun ls hl => ?_)
  refine lv_iconst (v := 0) C0.x C0.b dX8_made_7 (by decide) ?_
  refine lv_istore_n (lv' := [(2, .int (0 : Int32)), (1, .int (0 : Int32)), (0, .ref (ad 48))]) C0.x C0.b dX8_made_8 rfl hl (by decide) rfl (fun ls hl => ?_)
  obtain ⟨n9, hV⟩ := hV
  exact lp_X8_made_9   post C0  n9 _ _ _ hV _ _ hw _ (lv_sub hl [2, 1, 0] rfl)
/-! StepBenchModel.begins(IIII)J -/
abbrev rm_X8_begins : Room := { frames := 3, cells := 1, slots := 4, locals := 63 }
set_option maxRecDepth 20000 in
theorem fw_X8_begins_61 : Cond.fieldLink RX8 61 "StepBenchModel" "thrown" "I" ∈ wsX8_begins := by decide +kernel
set_option maxRecDepth 20000 in
theorem iw_X8_begins_X8 : ∀ w ∈ wsX80, w ∈ wsX8_begins := by decide +kernel
set_option maxRecDepth 20000 in
theorem na_X8_begins : Cond.arrayClass .int ∈ wsX8_begins := by decide +kernel
set_option maxRecDepth 20000 in
theorem cw_X8_begins_66 : Cond.constantLong RX8 66 1000000000000000 ∈ wsX8_begins := by decide +kernel
set_option maxRecDepth 20000 in
theorem hd_X8_begins : yX8_begins.cls = RX8 ∧ yX8_begins.cls ≠ "java/lang/invoke/MethodHandle" ∧ yX8_begins.cls ≠ "java/lang/invoke/VarHandle" ∧ (parseMethodDescriptor yX8_begins.desc).map (fun d => d.parameters.length) = some 4 := by decide +kernel
def V_X8_begins_63  (fx : Nat → Int32) (v8 : Int32) (K54 : Int64 → Int32 → SS → Prop) (post : Int64 → SS → Prop) : Nat → Int64 → Int32 → SS → Prop
  | 0, _, _, _ => False
  | n + 1, v5, v9, S =>
    (vp_in v8 4 ∧ (((fx v8.toNatClampNeg) ≤ v9 → (∀ x15 : Int32, x15 = v8 + 1 → (K54 v5 x15 S))) ∧ (¬ (fx v8.toNatClampNeg) ≤ v9 → (V_X8_heapPrime v8 S (fun (r16 : Int32) (S17 : SS) => (∀ y18 : Int64, y18 = (v5 * r16.toInt64) → ((y18 ≤ (1000000000000000 : Int64) → (∀ x20 : Int32, x20 = v9 + 1 → (V_X8_begins_63  fx v8 K54 post n y18 x20 S17))) ∧ (¬ y18 ≤ (1000000000000000 : Int64) → (V_X8_refuse (2 : Int32) S17 (fun (r21 : Int64) (S22 : SS) => (post r21 S22)))))))))))
set_option maxHeartbeats 4000000 in
set_option maxRecDepth 100000 in
theorem lp_X8_begins_63  {qx : Nat} (fx : Nat → Int32) (v8 : Int32) (K54 : Int64 → Int32 → SS → Prop) (post : Int64 → SS → Prop) (C0 : Bd p s m meth c args cX8_begins 10 (some .long) wsX8_begins RX8 D n0 cI cJ) (hK54 : ∀ (v5 : Int64) (v8 : Int32) (S : SS), K54 v5 v8 S → ∀ (H : Heap) (locs : List Loc), Wh D n0 ad cI cJ [(qx, .inl (cI, (4, .inl fx)))] S s H locs → ∀ ls : Array Slot, lv_has ls 10 [(0, .ref (ad 48)), (5, .long v5), (7, .ref qx), (8, .int v8)] → W p l e rm_X8_begins s m args below meth c H locs 1 4 (MQ below (va_Ql post (fun S' t => Wd D n0 ad cI cJ [] S' t) (fr n0)) args s 1 4 (fr n0)) (F0 m 54 ls [])) : ∀ (n : Nat) (v5 : Int64) (v9 : Int32) (S : SS), V_X8_begins_63  fx v8 K54 post n v5 v9 S → ∀ (H : Heap) (locs : List Loc), Wh D n0 ad cI cJ [(qx, .inl (cI, (4, .inl fx)))] S s H locs → ∀ ls : Array Slot, lv_has ls 10 [(0, .ref (ad 48)), (5, .long v5), (7, .ref qx), (8, .int v8), (9, .int v9)] → W p l e rm_X8_begins s m args below meth c H locs 1 4 (MQ below (va_Ql post (fun S' t => Wd D n0 ad cI cJ [] S' t) (fr n0)) args s 1 4 (fr n0)) (F0 m 63 ls []) := by
  intro n
  induction n with
  | zero => intro v5 v9 S hV; exact False.elim hV
  | succ n ih =>
    intro v5 v9 S hV H locs hw ls hl
    rw [V_X8_begins_63] at hV
    refine lv_iload C0.x C0.b dX8_begins_63 (lv_at hl 4 rfl) ?_
    refine lv_aload C0.x C0.b dX8_begins_65 (lv_at hl 2 rfl) ?_
    refine lv_iload C0.x C0.b dX8_begins_67 (lv_at hl 3 rfl) ?_
    refine r_iald C0 hw (q0 := 65) (n := 4) (f := fx) (a := qx) rfl hV.1 dX8_begins_69 ?_
    have hV := hV.2
    refine lv_icmp_ge (tgt := 105) C0.x C0.b dX8_begins_70 (by decide) (fun c14 => ?_) (fun c14 => ?_)
    · have hV := hV.1 c14
      obtain ⟨x15, ex15⟩ : ∃ z : Int32, z = v8 + 1 := ⟨_, rfl⟩
      have hV := hV x15 ex15
      refine lv_iinc (v := x15) (lv' := [(8, .int x15), (0, .ref (ad 48)), (5, .long v5), (7, .ref qx), (9, .int v9)]) C0.x C0.b dX8_begins_105 hl (k := 3) rfl (by rw [ex15]; rfl) (by decide) rfl (fun ls hl => ?_)
      refine lv_goto (tgt := 54) C0.x C0.b dX8_begins_108 (by decide) ?_
      exact hK54 _ _ _ hV _ _ hw _ (lv_sub hl [1, 2, 3, 0] rfl)
    · have hV := hV.2 c14
      refine lv_lload C0.x C0.b dX8_begins_73 (lv_at hl 1 rfl) ?_
      refine lv_iload C0.x C0.b dX8_begins_75 (lv_at hl 3 rfl) ?_
      refine r_cS_i (As := [.int v8]) (rest := [.long v5]) C0 hw (c_X8_heapPrime  hV) (va_cwS 1 C0.ts gX8_begins_X8_heapPrime rfl rfl rfl hd_X8_heapPrime ⟨Nat.le_of_ble_eq_true rfl, Nat.le_of_ble_eq_true rfl⟩) rfl hl.1 rfl (Nat.le_of_ble_eq_true rfl) ⟨Nat.le_of_ble_eq_true rfl, Nat.le_of_ble_eq_true rfl⟩ dX8_begins_77 (fun r16 S17 H locs hV hw => ?_)
      refine lv_i2l C0.x C0.b dX8_begins_80 rfl ?_
      refine lv_lmul C0.x C0.b dX8_begins_81 ?_
      refine lv_topl (fun y18 ey18 => ?_)
      have hV := hV y18 ey18
      refine lv_lstore (lv' := [(5, .long y18), (0, .ref (ad 48)), (7, .ref qx), (8, .int v8), (9, .int v9)]) C0.x C0.b dX8_begins_82 hl (by decide) rfl (fun ls hl => ?_)
      refine lv_lload C0.x C0.b dX8_begins_84 (lv_at hl 0 rfl) ?_
      refine lv_ldc2 (v := 1000000000000000) C0.x C0.b C0.ow (C0.ts _ cw_X8_begins_66) dX8_begins_86 ?_
      refine r_lcmp C0 dX8_begins_89 ?_
      refine lv_if_le (tgt := 99) C0.x C0.b dX8_begins_90 (by decide) (fun c19 => ?_) (fun c19 => ?_)
      · have hV := hV.1 ((lc_le _ _).mp c19)
        obtain ⟨x20, ex20⟩ : ∃ z : Int32, z = v9 + 1 := ⟨_, rfl⟩
        have hV := hV x20 ex20
        refine lv_iinc (v := x20) (lv' := [(9, .int x20), (5, .long y18), (0, .ref (ad 48)), (7, .ref qx), (8, .int v8)]) C0.x C0.b dX8_begins_99 hl (k := 4) rfl (by rw [ex20]; rfl) (by decide) rfl (fun ls hl => ?_)
        refine lv_goto (tgt := 63) C0.x C0.b dX8_begins_102 (by decide) ?_
        exact ih _ _ _ hV _ _ hw _ (lv_sub hl [2, 1, 3, 4, 0] rfl)
      · have hV := hV.2 (fun h => c19 ((lc_le _ _).mpr h))
        refine lv_aload_n C0.x C0.b dX8_begins_93 rfl (lv_at hl 1 rfl) ?_
        refine lv_iconst (v := 2) C0.x C0.b dX8_begins_94 (by decide) ?_
        refine r_cV_l (As := [.int (2 : Int32)]) (rest := []) C0 hw (c_X8_refuse  hV) (cwV 1 C0.ts gX8_begins_X8_refuse rfl rfl rfl hd_X8_refuse ⟨Nat.le_of_ble_eq_true rfl, Nat.le_of_ble_eq_true rfl⟩) (lg_48 ad cI cJ [(qx, .inl (cI, (4, .inl fx)))] S17) rfl rfl hl.1 rfl (Nat.le_of_ble_eq_true rfl) ⟨Nat.le_of_ble_eq_true rfl, Nat.le_of_ble_eq_true rfl⟩ dX8_begins_95 (fun r21 S22 H locs hV hw => ?_)
        refine W.widen (k := 1) (n := 4) (Nat.le_of_ble_eq_true rfl) (Nat.le_of_ble_eq_true rfl) ?_
        exact r_lret C0 rfl hw.drop hV dX8_begins_98
def V_X8_begins_54  (fx : Nat → Int32)   (post : Int64 → SS → Prop) : Nat → Int64 → Int32 → SS → Prop
  | 0, _, _, _ => False
  | n + 1, v5, v8, S =>
    (((4 : Int32) ≤ v8 → (post v5 S)) ∧ (¬ (4 : Int32) ≤ v8 → (∃ n63 : Nat, V_X8_begins_63  fx v8 (fun w5 w8 T => V_X8_begins_54  fx   post n w5 w8 T) post n63 v5 (0 : Int32) S)))
set_option maxHeartbeats 4000000 in
set_option maxRecDepth 100000 in
theorem lp_X8_begins_54  {qx : Nat} (fx : Nat → Int32)   (post : Int64 → SS → Prop) (C0 : Bd p s m meth c args cX8_begins 10 (some .long) wsX8_begins RX8 D n0 cI cJ) : ∀ (n : Nat) (v5 : Int64) (v8 : Int32) (S : SS), V_X8_begins_54  fx   post n v5 v8 S → ∀ (H : Heap) (locs : List Loc), Wh D n0 ad cI cJ [(qx, .inl (cI, (4, .inl fx)))] S s H locs → ∀ ls : Array Slot, lv_has ls 10 [(0, .ref (ad 48)), (5, .long v5), (7, .ref qx), (8, .int v8)] → W p l e rm_X8_begins s m args below meth c H locs 1 4 (MQ below (va_Ql post (fun S' t => Wd D n0 ad cI cJ [] S' t) (fr n0)) args s 1 4 (fr n0)) (F0 m 54 ls []) := by
  intro n
  induction n with
  | zero => intro v5 v8 S hV; exact False.elim hV
  | succ n ih =>
    intro v5 v8 S hV H locs hw ls hl
    rw [V_X8_begins_54] at hV
    refine lv_iload C0.x C0.b dX8_begins_54 (lv_at hl 3 rfl) ?_
    refine lv_iconst (v := 4) C0.x C0.b dX8_begins_56 (by decide) ?_
    refine lv_icmp_ge (tgt := 111) C0.x C0.b dX8_begins_57 (by decide) (fun c13 => ?_) (fun c13 => ?_)
    · have hV := hV.1 c13
      refine lv_lload C0.x C0.b dX8_begins_111 (lv_at hl 1 rfl) ?_
      refine W.widen (k := 1) (n := 4) (Nat.le_of_ble_eq_true rfl) (Nat.le_of_ble_eq_true rfl) ?_
      exact r_lret C0 rfl hw.drop hV dX8_begins_113
    · have hV := hV.2 c13
      refine lv_iconst (v := 0) C0.x C0.b dX8_begins_60 (by decide) ?_
      refine lv_istore (lv' := [(9, .int (0 : Int32)), (0, .ref (ad 48)), (5, .long v5), (7, .ref qx), (8, .int v8)]) C0.x C0.b dX8_begins_61 hl (by decide) rfl (fun ls hl => ?_)
      obtain ⟨n63, hV⟩ := hV
      exact lp_X8_begins_63  _ _ _ post C0 ih n63 _ _ _ hV _ _ hw _ (lv_sub hl [1, 2, 3, 4, 0] rfl)
def V_X8_begins  (p0 : Int32) (p1 : Int32) (p2 : Int32) (p3 : Int32) (S : SS) (post : Int64 → SS → Prop) : Prop :=
  (∀ S1 : SS, S1 = (sI S 20 (0 : Int32)) → (V_X8_areHeaps p0 p1 p2 p3 S1 (fun (r2 : Int32) (S3 : SS) => ((r2 = 0 → (V_X8_refuse (1 : Int32) S3 (fun (r5 : Int64) (S6 : SS) => (post r5 S6)))) ∧ (¬ r2 = 0 → (V_X8_goPrime (0 : Int32) S3 (fun (r7 : Int32) (S8 : SS) => (vp_in (0 : Int32) 4 ∧ ∀ f9 : Nat → Int32, f9 = upd (fun _ => (0 : Int32)) (0 : Int32).toNatClampNeg p0 → (vp_in (1 : Int32) 4 ∧ ∀ f10 : Nat → Int32, f10 = upd f9 (1 : Int32).toNatClampNeg p1 → (vp_in (2 : Int32) 4 ∧ ∀ f11 : Nat → Int32, f11 = upd f10 (2 : Int32).toNatClampNeg p2 → (vp_in (3 : Int32) 4 ∧ ∀ f12 : Nat → Int32, f12 = upd f11 (3 : Int32).toNatClampNeg p3 → (∃ n54 : Nat, V_X8_begins_54  f12   post n54 r7.toInt64 (0 : Int32) S8))))))))))))
set_option maxHeartbeats 4000000 in
set_option maxRecDepth 100000 in
theorem c_X8_begins {S : SS} {p0 : Int32} {p1 : Int32} {p2 : Int32} {p3 : Int32} {post : Int64 → SS → Prop} (hV : V_X8_begins  p0 p1 p2 p3 S post) : MLc l yX8_begins wsX8_begins rm_X8_begins [.ref (ad 48), .int p0, .int p1, .int p2, .int p3] D n0 ad cI cJ [] S post 1 4 := by
  refine Met.ofW (cc := cX8_begins) (maxL := 10) (ret := (some .long)) (by decide) rfl ?_
  intro p e s m args below meth c s₁ B hml hv
  obtain ⟨rfl, hv⟩ := hv
  have C0 := Bd.mk B hml (atoms_spec (ws := wsX8_begins) B.pre) (findClass_of_methodNamed B.named) hv.1
  have hw : Wh D n0 ad cI cJ [] S s s.heap [] := ⟨hv.2.1, hv.2.2, va_S.rf⟩
  refine r_entry (Nat.le_of_ble_eq_true rfl) (fun ls hl => ?_)
  have hl : lv_has ls 10 [(0, .ref (ad 48)), (1, .int p0), (2, .int p1), (3, .int p2), (4, .int p3)] := hl
  unfold V_X8_begins at hV
  refine lv_aload_n C0.x C0.b dX8_begins_0 rfl (lv_at hl 0 rfl) ?_
  refine lv_iconst (v := 0) C0.x C0.b dX8_begins_1 (by decide) ?_
  refine r_put C0 hw (C := RX8) (T := TX8) (N := 33) (ty := .int) iw_X8_begins_X8 tyX8 tyX8_ok nmX8 (lg_48 ad cI cJ [] S) rfl 0 (by decide) (C0.ts _ fw_X8_begins_61) rfl (by decide +kernel) rfl rfl (Nat.le_of_ble_eq_true rfl) dX8_begins_2 (S' := (sI S 20 (0 : Int32))) (ls_48_0 ad cI cJ [] S (0 : Int32)) (fun S1 H locs eS1 hw => ?_)
  have hV := hV S1 eS1
  refine lv_iload_n C0.x C0.b dX8_begins_5 rfl (lv_at hl 1 rfl) ?_
  refine lv_iload_n C0.x C0.b dX8_begins_6 rfl (lv_at hl 2 rfl) ?_
  refine lv_iload_n C0.x C0.b dX8_begins_7 rfl (lv_at hl 3 rfl) ?_
  refine lv_iload C0.x C0.b dX8_begins_8 (lv_at hl 4 rfl) ?_
  refine r_cS_i (As := [.int p0, .int p1, .int p2, .int p3]) (rest := []) C0 hw (c_X8_areHeaps  hV) (va_cwS 4 C0.ts gX8_begins_X8_areHeaps rfl rfl rfl hd_X8_areHeaps ⟨Nat.le_of_ble_eq_true rfl, Nat.le_of_ble_eq_true rfl⟩) rfl hl.1 rfl (Nat.le_of_ble_eq_true rfl) ⟨Nat.le_of_ble_eq_true rfl, Nat.le_of_ble_eq_true rfl⟩ dX8_begins_10 (fun r2 S3 H locs hV hw => ?_)
  refine lv_if_ne (tgt := 22) C0.x C0.b dX8_begins_13 (by decide) (fun c4 => ?_) (fun c4 => ?_)
  · have hV := hV.2 c4
    refine lv_iconst (v := 0) C0.x C0.b dX8_begins_22 (by decide) ?_
    refine r_cS_i (As := [.int (0 : Int32)]) (rest := []) C0 hw (c_X8_goPrime  hV) (va_cwS 1 C0.ts gX8_begins_X8_goPrime rfl rfl rfl hd_X8_goPrime ⟨Nat.le_of_ble_eq_true rfl, Nat.le_of_ble_eq_true rfl⟩) rfl hl.1 rfl (Nat.le_of_ble_eq_true rfl) ⟨Nat.le_of_ble_eq_true rfl, Nat.le_of_ble_eq_true rfl⟩ dX8_begins_23 (fun r7 S8 H locs hV hw => ?_)
    refine lv_i2l C0.x C0.b dX8_begins_26 rfl ?_
    refine lv_lstore (lv' := [(5, .long r7.toInt64), (0, .ref (ad 48)), (1, .int p0), (2, .int p1), (3, .int p2), (4, .int p3)]) C0.x C0.b dX8_begins_27 hl (by decide) rfl (fun ls hl => ?_)
    refine lv_iconst (v := 4) C0.x C0.b dX8_begins_29 (by decide) ?_
    refine r_newX (N' := 4) C0 hw (C0.ts _ na_X8_begins) (by decide) (by decide) (by decide) (Nat.le_of_ble_eq_true rfl) (Nat.le_of_ble_eq_true rfl) dX8_begins_30 (fun qx H hw => ?_)
    refine lv_dup C0.x C0.b dX8_begins_32 rfl ?_
    refine lv_iconst (v := 0) C0.x C0.b dX8_begins_33 (by decide) ?_
    refine lv_iload_n C0.x C0.b dX8_begins_34 rfl (lv_at hl 2 rfl) ?_
    refine r_iastX C0 hw hV.1 dX8_begins_35 (fun f9 H locs ef9 hw => ?_)
    have hV := hV.2 f9 ef9
    refine lv_dup C0.x C0.b dX8_begins_36 rfl ?_
    refine lv_iconst (v := 1) C0.x C0.b dX8_begins_37 (by decide) ?_
    refine lv_iload_n C0.x C0.b dX8_begins_38 rfl (lv_at hl 3 rfl) ?_
    refine r_iastX C0 hw hV.1 dX8_begins_39 (fun f10 H locs ef10 hw => ?_)
    have hV := hV.2 f10 ef10
    refine lv_dup C0.x C0.b dX8_begins_40 rfl ?_
    refine lv_iconst (v := 2) C0.x C0.b dX8_begins_41 (by decide) ?_
    refine lv_iload_n C0.x C0.b dX8_begins_42 rfl (lv_at hl 4 rfl) ?_
    refine r_iastX C0 hw hV.1 dX8_begins_43 (fun f11 H locs ef11 hw => ?_)
    have hV := hV.2 f11 ef11
    refine lv_dup C0.x C0.b dX8_begins_44 rfl ?_
    refine lv_iconst (v := 3) C0.x C0.b dX8_begins_45 (by decide) ?_
    refine lv_iload C0.x C0.b dX8_begins_46 (lv_at hl 5 rfl) ?_
    refine r_iastX C0 hw hV.1 dX8_begins_48 (fun f12 H locs ef12 hw => ?_)
    have hV := hV.2 f12 ef12
    refine lv_astore (lv' := [(7, .ref qx), (5, .long r7.toInt64), (0, .ref (ad 48)), (1, .int p0), (2, .int p1), (3, .int p2), (4, .int p3)]) C0.x C0.b dX8_begins_49 hl (by decide) rfl (fun ls hl => ?_)
    refine lv_iconst (v := 0) C0.x C0.b dX8_begins_51 (by decide) ?_
    refine lv_istore (lv' := [(8, .int (0 : Int32)), (7, .ref qx), (5, .long r7.toInt64), (0, .ref (ad 48)), (1, .int p0), (2, .int p1), (3, .int p2), (4, .int p3)]) C0.x C0.b dX8_begins_52 hl (by decide) rfl (fun ls hl => ?_)
    obtain ⟨n54, hV⟩ := hV
    exact lp_X8_begins_54  _ post C0  n54 _ _ _ hV _ _ hw _ (lv_sub hl [3, 2, 1, 0] rfl)
  · have hV := hV.1 c4
    refine lv_aload_n C0.x C0.b dX8_begins_16 rfl (lv_at hl 0 rfl) ?_
    refine lv_iconst (v := 1) C0.x C0.b dX8_begins_17 (by decide) ?_
    refine r_cV_l (As := [.int (1 : Int32)]) (rest := []) C0 hw (c_X8_refuse  hV) (cwV 1 C0.ts gX8_begins_X8_refuse rfl rfl rfl hd_X8_refuse ⟨Nat.le_of_ble_eq_true rfl, Nat.le_of_ble_eq_true rfl⟩) (lg_48 ad cI cJ [] S3) rfl rfl hl.1 rfl (Nat.le_of_ble_eq_true rfl) ⟨Nat.le_of_ble_eq_true rfl, Nat.le_of_ble_eq_true rfl⟩ dX8_begins_18 (fun r5 S6 H locs hV hw => ?_)
    refine W.widen (k := 1) (n := 4) (Nat.le_of_ble_eq_true rfl) (Nat.le_of_ble_eq_true rfl) ?_
    exact r_lret C0 rfl hw hV dX8_begins_21
/-! StepBenchModel.weightOf(J[I)J -/
abbrev rm_X8_weightOf : Room := { frames := 0, cells := 0, slots := 0, locals := 0 }
set_option maxRecDepth 20000 in
theorem cw_X8_weightOf_72 : Cond.constantLong RX8 72 2 ∈ wsX8_weightOf := by decide +kernel
set_option maxRecDepth 20000 in
theorem cw_X8_weightOf_83 : Cond.constantLong RX8 83 3 ∈ wsX8_weightOf := by decide +kernel
set_option maxRecDepth 20000 in
theorem cw_X8_weightOf_273 : Cond.constantLong RX8 273 5 ∈ wsX8_weightOf := by decide +kernel
set_option maxRecDepth 20000 in
theorem cw_X8_weightOf_275 : Cond.constantLong RX8 275 7 ∈ wsX8_weightOf := by decide +kernel
set_option maxRecDepth 20000 in
theorem hd_X8_weightOf : yX8_weightOf.cls ≠ "java/lang/invoke/MethodHandle" ∧ yX8_weightOf.cls ≠ "java/lang/invoke/VarHandle" ∧ (parseMethodDescriptor yX8_weightOf.desc).map (fun d => d.parameters.length) = some 2 := by decide +kernel
def V_X8_weightOf (L1 : Nat) (f1 : Nat → Int32) (p0 : Int64) (S : SS) (post : Int64 → SS → Prop) : Prop :=
  ((p0 = (2 : Int64) → (vp_in (0 : Int32) L1 ∧ (post (f1 (0 : Int32).toNatClampNeg).toInt64 S))) ∧ (¬ p0 = (2 : Int64) → ((p0 = (3 : Int64) → (vp_in (1 : Int32) L1 ∧ (post (f1 (1 : Int32).toNatClampNeg).toInt64 S))) ∧ (¬ p0 = (3 : Int64) → ((p0 = (5 : Int64) → (vp_in (2 : Int32) L1 ∧ (post (f1 (2 : Int32).toNatClampNeg).toInt64 S))) ∧ (¬ p0 = (5 : Int64) → ((p0 = (7 : Int64) → (vp_in (3 : Int32) L1 ∧ (post (f1 (3 : Int32).toNatClampNeg).toInt64 S))) ∧ (¬ p0 = (7 : Int64) → (vp_in (4 : Int32) L1 ∧ (post (f1 (4 : Int32).toNatClampNeg).toInt64 S))))))))))
set_option maxHeartbeats 4000000 in
set_option maxRecDepth 100000 in
theorem c_X8_weightOf {q1 L1 : Nat} {f1 : Nat → Int32} {S : SS} {p0 : Int64} {post : Int64 → SS → Prop} (hV : V_X8_weightOf L1 f1 p0 S post) : ML l yX8_weightOf wsX8_weightOf rm_X8_weightOf [.long p0, .ref q1] D n0 ad cI cJ [(q1, .inl (cI, (L1, .inl f1)))] S post := by
  refine Met.ofW (cc := cX8_weightOf) (maxL := 3) (ret := (some .long)) (by decide) rfl ?_
  intro p e s m args below meth c s₁ B hml hv
  obtain ⟨rfl, hv⟩ := hv
  have C0 := Bd.mk B hml (atoms_spec (ws := wsX8_weightOf) B.pre) (findClass_of_methodNamed B.named) hv.1
  have hw : Wh D n0 ad cI cJ [(q1, .inl (cI, (L1, .inl f1)))] S s s.heap [] := ⟨hv.2.1, hv.2.2, va_S.rf⟩
  refine r_entry (Nat.le_of_ble_eq_true rfl) (fun ls hl => ?_)
  have hl : lv_has ls 3 [(0, .long p0), (2, .ref q1)] := hl
  unfold V_X8_weightOf at hV
  refine lv_lload_n C0.x C0.b dX8_weightOf_0 rfl (lv_at hl 0 rfl) ?_
  refine lv_ldc2 (v := 2) C0.x C0.b C0.ow (C0.ts _ cw_X8_weightOf_72) dX8_weightOf_1 ?_
  refine r_lcmp C0 dX8_weightOf_4 ?_
  refine lv_if_ne (tgt := 15) C0.x C0.b dX8_weightOf_5 (by decide) (fun c1 => ?_) (fun c1 => ?_)
  · have hV := hV.2 (fun h => c1 ((lc_eq _ _).mpr h))
    refine lv_lload_n C0.x C0.b dX8_weightOf_15 rfl (lv_at hl 0 rfl) ?_
    refine lv_ldc2 (v := 3) C0.x C0.b C0.ow (C0.ts _ cw_X8_weightOf_83) dX8_weightOf_16 ?_
    refine r_lcmp C0 dX8_weightOf_19 ?_
    refine lv_if_ne (tgt := 30) C0.x C0.b dX8_weightOf_20 (by decide) (fun c2 => ?_) (fun c2 => ?_)
    · have hV := hV.2 (fun h => c2 ((lc_eq _ _).mpr h))
      refine lv_lload_n C0.x C0.b dX8_weightOf_30 rfl (lv_at hl 0 rfl) ?_
      refine lv_ldc2 (v := 5) C0.x C0.b C0.ow (C0.ts _ cw_X8_weightOf_273) dX8_weightOf_31 ?_
      refine r_lcmp C0 dX8_weightOf_34 ?_
      refine lv_if_ne (tgt := 45) C0.x C0.b dX8_weightOf_35 (by decide) (fun c3 => ?_) (fun c3 => ?_)
      · have hV := hV.2 (fun h => c3 ((lc_eq _ _).mpr h))
        refine lv_lload_n C0.x C0.b dX8_weightOf_45 rfl (lv_at hl 0 rfl) ?_
        refine lv_ldc2 (v := 7) C0.x C0.b C0.ow (C0.ts _ cw_X8_weightOf_275) dX8_weightOf_46 ?_
        refine r_lcmp C0 dX8_weightOf_49 ?_
        refine lv_if_ne (tgt := 60) C0.x C0.b dX8_weightOf_50 (by decide) (fun c4 => ?_) (fun c4 => ?_)
        · have hV := hV.2 (fun h => c4 ((lc_eq _ _).mpr h))
          refine lv_aload_n C0.x C0.b dX8_weightOf_60 rfl (lv_at hl 1 rfl) ?_
          refine lv_iconst (v := 4) C0.x C0.b dX8_weightOf_61 (by decide) ?_
          refine r_iald C0 hw (q0 := 65) (n := L1) (f := f1) (a := q1) rfl hV.1 dX8_weightOf_62 ?_
          have hV := hV.2
          refine lv_i2l C0.x C0.b dX8_weightOf_63 rfl ?_
          exact r_lret C0 rfl hw hV dX8_weightOf_64
        · have hV := hV.1 ((lc_eq _ _).mp c4)
          refine lv_aload_n C0.x C0.b dX8_weightOf_53 rfl (lv_at hl 1 rfl) ?_
          refine lv_iconst (v := 3) C0.x C0.b dX8_weightOf_54 (by decide) ?_
          refine r_iald C0 hw (q0 := 65) (n := L1) (f := f1) (a := q1) rfl hV.1 dX8_weightOf_55 ?_
          have hV := hV.2
          refine lv_i2l C0.x C0.b dX8_weightOf_56 rfl ?_
          refine lv_goto (tgt := 64) C0.x C0.b dX8_weightOf_57 (by decide) ?_
          exact r_lret C0 rfl hw hV dX8_weightOf_64
      · have hV := hV.1 ((lc_eq _ _).mp c3)
        refine lv_aload_n C0.x C0.b dX8_weightOf_38 rfl (lv_at hl 1 rfl) ?_
        refine lv_iconst (v := 2) C0.x C0.b dX8_weightOf_39 (by decide) ?_
        refine r_iald C0 hw (q0 := 65) (n := L1) (f := f1) (a := q1) rfl hV.1 dX8_weightOf_40 ?_
        have hV := hV.2
        refine lv_i2l C0.x C0.b dX8_weightOf_41 rfl ?_
        refine lv_goto (tgt := 64) C0.x C0.b dX8_weightOf_42 (by decide) ?_
        exact r_lret C0 rfl hw hV dX8_weightOf_64
    · have hV := hV.1 ((lc_eq _ _).mp c2)
      refine lv_aload_n C0.x C0.b dX8_weightOf_23 rfl (lv_at hl 1 rfl) ?_
      refine lv_iconst (v := 1) C0.x C0.b dX8_weightOf_24 (by decide) ?_
      refine r_iald C0 hw (q0 := 65) (n := L1) (f := f1) (a := q1) rfl hV.1 dX8_weightOf_25 ?_
      have hV := hV.2
      refine lv_i2l C0.x C0.b dX8_weightOf_26 rfl ?_
      refine lv_goto (tgt := 64) C0.x C0.b dX8_weightOf_27 (by decide) ?_
      exact r_lret C0 rfl hw hV dX8_weightOf_64
  · have hV := hV.1 ((lc_eq _ _).mp c1)
    refine lv_aload_n C0.x C0.b dX8_weightOf_8 rfl (lv_at hl 1 rfl) ?_
    refine lv_iconst (v := 0) C0.x C0.b dX8_weightOf_9 (by decide) ?_
    refine r_iald C0 hw (q0 := 65) (n := L1) (f := f1) (a := q1) rfl hV.1 dX8_weightOf_10 ?_
    have hV := hV.2
    refine lv_i2l C0.x C0.b dX8_weightOf_11 rfl ?_
    refine lv_goto (tgt := 64) C0.x C0.b dX8_weightOf_12 (by decide) ?_
    exact r_lret C0 rfl hw hV dX8_weightOf_64
/-! StepBenchModel.weight(J[I)J -/
abbrev rm_X8_weight : Room := { frames := 1, cells := 0, slots := 0, locals := 22 }
set_option maxRecDepth 20000 in
theorem cw_X8_weight_72 : Cond.constantLong RX8 72 2 ∈ wsX8_weight := by decide +kernel
set_option maxRecDepth 20000 in
theorem hd_X8_weight : yX8_weight.cls ≠ "java/lang/invoke/MethodHandle" ∧ yX8_weight.cls ≠ "java/lang/invoke/VarHandle" ∧ (parseMethodDescriptor yX8_weight.desc).map (fun d => d.parameters.length) = some 2 := by decide +kernel
def V_X8_weight_21 (L1 : Nat) (f1 : Nat → Int32) (v7 : Int64) (K10 : Int64 → Int64 → Int64 → SS → Prop) (post : Int64 → SS → Prop) : Nat → Int64 → Int64 → SS → Prop
  | 0, _, _, _ => False
  | n + 1, v3, v5, S =>
    (¬ v7 = 0 ∧ (((lrm v5 v7) = (0 : Int64) → (¬ v7 = 0 ∧ (∀ y6 : Int64, y6 = (v5 / v7) → (V_X8_weightOf L1 f1 v7 S (fun (r7 : Int64) (S8 : SS) => (∀ y9 : Int64, y9 = (v3 + r7) → (V_X8_weight_21 L1 f1 v7 K10 post n y9 y6 S8))))))) ∧ (¬ (lrm v5 v7) = (0 : Int64) → (∀ y10 : Int64, y10 = (v7 + (1 : Int64)) → (K10 v3 v5 y10 S)))))
set_option maxHeartbeats 4000000 in
set_option maxRecDepth 100000 in
theorem lp_X8_weight_21 {q1 L1 : Nat} {f1 : Nat → Int32} (v7 : Int64) (K10 : Int64 → Int64 → Int64 → SS → Prop) (post : Int64 → SS → Prop) (C0 : Bd p s m meth c args cX8_weight 9 (some .long) wsX8_weight RX8 D n0 cI cJ) (hK10 : ∀ (v3 : Int64) (v5 : Int64) (v7 : Int64) (S : SS), K10 v3 v5 v7 S → ∀ (H : Heap) (locs : List Loc), Wh D n0 ad cI cJ [(q1, .inl (cI, (L1, .inl f1)))] S s H locs → ∀ ls : Array Slot, lv_has ls 9 [(2, .ref q1), (3, .long v3), (5, .long v5), (7, .long v7)] → W p l e rm_X8_weight s m args below meth c H locs 0 0 (MQ below (va_Ql post (fun S' t => Wd D n0 ad cI cJ [(q1, .inl (cI, (L1, .inl f1)))] S' t) (fr n0)) args s 0 0 (fr n0)) (F0 m 10 ls [])) : ∀ (n : Nat) (v3 : Int64) (v5 : Int64) (S : SS), V_X8_weight_21 L1 f1 v7 K10 post n v3 v5 S → ∀ (H : Heap) (locs : List Loc), Wh D n0 ad cI cJ [(q1, .inl (cI, (L1, .inl f1)))] S s H locs → ∀ ls : Array Slot, lv_has ls 9 [(2, .ref q1), (3, .long v3), (5, .long v5), (7, .long v7)] → W p l e rm_X8_weight s m args below meth c H locs 0 0 (MQ below (va_Ql post (fun S' t => Wd D n0 ad cI cJ [(q1, .inl (cI, (L1, .inl f1)))] S' t) (fr n0)) args s 0 0 (fr n0)) (F0 m 21 ls []) := by
  intro n
  induction n with
  | zero => intro v3 v5 S hV; exact False.elim hV
  | succ n ih =>
    intro v3 v5 S hV H locs hw ls hl
    rw [V_X8_weight_21] at hV
    refine lv_lload C0.x C0.b dX8_weight_21 (lv_at hl 2 rfl) ?_
    refine lv_lload C0.x C0.b dX8_weight_23 (lv_at hl 3 rfl) ?_
    refine lv_lrem C0.x C0.b dX8_weight_25 hV.1 ?_
    have hV := hV.2
    refine lv_lconst (v := 0) C0.x C0.b dX8_weight_26 (by decide) ?_
    refine r_lcmp C0 dX8_weight_27 ?_
    refine lv_if_ne (tgt := 50) C0.x C0.b dX8_weight_28 (by decide) (fun c5 => ?_) (fun c5 => ?_)
    · have hV := hV.2 (fun h => c5 ((lc_eq _ _).mpr h))
      refine lv_lload C0.x C0.b dX8_weight_50 (lv_at hl 3 rfl) ?_
      refine lv_lconst (v := 1) C0.x C0.b dX8_weight_52 (by decide) ?_
      refine lv_ladd C0.x C0.b dX8_weight_53 ?_
      refine lv_topl (fun y10 ey10 => ?_)
      have hV := hV y10 ey10
      refine lv_lstore (lv' := [(7, .long y10), (2, .ref q1), (3, .long v3), (5, .long v5)]) C0.x C0.b dX8_weight_54 hl (by decide) rfl (fun ls hl => ?_)
      refine lv_goto (tgt := 10) C0.x C0.b dX8_weight_56 (by decide) ?_
      exact hK10 _ _ _ _ hV _ _ hw _ (lv_sub hl [1, 2, 3, 0] rfl)
    · have hV := hV.1 ((lc_eq _ _).mp c5)
      refine lv_lload C0.x C0.b dX8_weight_31 (lv_at hl 2 rfl) ?_
      refine lv_lload C0.x C0.b dX8_weight_33 (lv_at hl 3 rfl) ?_
      refine lv_ldiv C0.x C0.b dX8_weight_35 hV.1 ?_
      have hV := hV.2
      refine lv_topl (fun y6 ey6 => ?_)
      have hV := hV y6 ey6
      refine lv_lstore (lv' := [(5, .long y6), (2, .ref q1), (3, .long v3), (7, .long v7)]) C0.x C0.b dX8_weight_36 hl (by decide) rfl (fun ls hl => ?_)
      refine lv_lload_n C0.x C0.b dX8_weight_38 rfl (lv_at hl 2 rfl) ?_
      refine lv_lload C0.x C0.b dX8_weight_39 (lv_at hl 3 rfl) ?_
      refine lv_aload_n C0.x C0.b dX8_weight_41 rfl (lv_at hl 1 rfl) ?_
      refine r_cS_l (As := [.long v7, .ref q1]) (rest := [.long v3]) C0 hw (c_X8_weightOf  hV) (va_cwS 2 C0.ts gX8_weight_X8_weightOf rfl rfl rfl hd_X8_weightOf ⟨Nat.le_of_ble_eq_true rfl, Nat.le_of_ble_eq_true rfl⟩) rfl hl.1 rfl (Nat.le_of_ble_eq_true rfl) ⟨Nat.le_of_ble_eq_true rfl, Nat.le_of_ble_eq_true rfl⟩ dX8_weight_42 (fun r7 S8 H locs hV hw => ?_)
      refine lv_ladd C0.x C0.b dX8_weight_45 ?_
      refine lv_topl (fun y9 ey9 => ?_)
      have hV := hV y9 ey9
      refine lv_lstore_n (lv' := [(3, .long y9), (5, .long y6), (2, .ref q1), (7, .long v7)]) C0.x C0.b dX8_weight_46 rfl hl (by decide) rfl (fun ls hl => ?_)
      refine lv_goto (tgt := 21) C0.x C0.b dX8_weight_47 (by decide) ?_
      exact ih _ _ _ hV _ _ hw _ (lv_sub hl [2, 0, 1, 3] rfl)
def V_X8_weight_10 (L1 : Nat) (f1 : Nat → Int32)   (post : Int64 → SS → Prop) : Nat → Int64 → Int64 → Int64 → SS → Prop
  | 0, _, _, _, _ => False
  | n + 1, v3, v5, v7, S =>
    ((v5 < (v7 * v7) → ((v5 ≤ (1 : Int64) → (post v3 S)) ∧ (¬ v5 ≤ (1 : Int64) → (V_X8_weightOf L1 f1 v5 S (fun (r3 : Int64) (S4 : SS) => (post (v3 + r3) S4)))))) ∧ (¬ v5 < (v7 * v7) → (∃ n21 : Nat, V_X8_weight_21 L1 f1 v7 (fun w3 w5 w7 T => V_X8_weight_10 L1 f1   post n w3 w5 w7 T) post n21 v3 v5 S)))
set_option maxHeartbeats 4000000 in
set_option maxRecDepth 100000 in
theorem lp_X8_weight_10 {q1 L1 : Nat} {f1 : Nat → Int32}   (post : Int64 → SS → Prop) (C0 : Bd p s m meth c args cX8_weight 9 (some .long) wsX8_weight RX8 D n0 cI cJ) : ∀ (n : Nat) (v3 : Int64) (v5 : Int64) (v7 : Int64) (S : SS), V_X8_weight_10 L1 f1   post n v3 v5 v7 S → ∀ (H : Heap) (locs : List Loc), Wh D n0 ad cI cJ [(q1, .inl (cI, (L1, .inl f1)))] S s H locs → ∀ ls : Array Slot, lv_has ls 9 [(2, .ref q1), (3, .long v3), (5, .long v5), (7, .long v7)] → W p l e rm_X8_weight s m args below meth c H locs 0 0 (MQ below (va_Ql post (fun S' t => Wd D n0 ad cI cJ [(q1, .inl (cI, (L1, .inl f1)))] S' t) (fr n0)) args s 0 0 (fr n0)) (F0 m 10 ls []) := by
  intro n
  induction n with
  | zero => intro v3 v5 v7 S hV; exact False.elim hV
  | succ n ih =>
    intro v3 v5 v7 S hV H locs hw ls hl
    rw [V_X8_weight_10] at hV
    refine lv_lload C0.x C0.b dX8_weight_10 (lv_at hl 3 rfl) ?_
    refine lv_lload C0.x C0.b dX8_weight_12 (lv_at hl 3 rfl) ?_
    refine lv_lmul C0.x C0.b dX8_weight_14 ?_
    refine lv_lload C0.x C0.b dX8_weight_15 (lv_at hl 2 rfl) ?_
    refine r_lcmp C0 dX8_weight_17 ?_
    refine lv_if_gt (tgt := 59) C0.x C0.b dX8_weight_18 (by decide) (fun c1 => ?_) (fun c1 => ?_)
    · have hV := hV.1 ((lc_gt _ _).mp c1)
      refine lv_lload C0.x C0.b dX8_weight_59 (lv_at hl 2 rfl) ?_
      refine lv_lconst (v := 1) C0.x C0.b dX8_weight_61 (by decide) ?_
      refine r_lcmp C0 dX8_weight_62 ?_
      refine lv_if_le (tgt := 77) C0.x C0.b dX8_weight_63 (by decide) (fun c2 => ?_) (fun c2 => ?_)
      · have hV := hV.1 ((lc_le _ _).mp c2)
        refine lv_lload_n C0.x C0.b dX8_weight_77 rfl (lv_at hl 1 rfl) ?_
        exact r_lret C0 rfl hw hV dX8_weight_78
      · have hV := hV.2 (fun h => c2 ((lc_le _ _).mpr h))
        refine lv_lload_n C0.x C0.b dX8_weight_66 rfl (lv_at hl 1 rfl) ?_
        refine lv_lload C0.x C0.b dX8_weight_67 (lv_at hl 2 rfl) ?_
        refine lv_aload_n C0.x C0.b dX8_weight_69 rfl (lv_at hl 0 rfl) ?_
        refine r_cS_l (As := [.long v5, .ref q1]) (rest := [.long v3]) C0 hw (c_X8_weightOf  hV) (va_cwS 2 C0.ts gX8_weight_X8_weightOf rfl rfl rfl hd_X8_weightOf ⟨Nat.le_of_ble_eq_true rfl, Nat.le_of_ble_eq_true rfl⟩) rfl hl.1 rfl (Nat.le_of_ble_eq_true rfl) ⟨Nat.le_of_ble_eq_true rfl, Nat.le_of_ble_eq_true rfl⟩ dX8_weight_70 (fun r3 S4 H locs hV hw => ?_)
        refine lv_ladd C0.x C0.b dX8_weight_73 ?_
        refine lv_goto (tgt := 78) C0.x C0.b dX8_weight_74 (by decide) ?_
        exact r_lret C0 rfl hw hV dX8_weight_78
    · have hV := hV.2 (fun h => c1 ((lc_gt _ _).mpr h))
      obtain ⟨n21, hV⟩ := hV
      exact lp_X8_weight_21  _ _ post C0 ih n21 _ _ _ hV _ _ hw _ (lv_sub hl [0, 1, 2, 3] rfl)
def V_X8_weight (L1 : Nat) (f1 : Nat → Int32) (p0 : Int64) (S : SS) (post : Int64 → SS → Prop) : Prop :=
  (∃ n10 : Nat, V_X8_weight_10 L1 f1   post n10 (0 : Int64) p0 (2 : Int64) S)
set_option maxHeartbeats 4000000 in
set_option maxRecDepth 100000 in
theorem c_X8_weight {q1 L1 : Nat} {f1 : Nat → Int32} {S : SS} {p0 : Int64} {post : Int64 → SS → Prop} (hV : V_X8_weight L1 f1 p0 S post) : ML l yX8_weight wsX8_weight rm_X8_weight [.long p0, .ref q1] D n0 ad cI cJ [(q1, .inl (cI, (L1, .inl f1)))] S post := by
  refine Met.ofW (cc := cX8_weight) (maxL := 9) (ret := (some .long)) (by decide) rfl ?_
  intro p e s m args below meth c s₁ B hml hv
  obtain ⟨rfl, hv⟩ := hv
  have C0 := Bd.mk B hml (atoms_spec (ws := wsX8_weight) B.pre) (findClass_of_methodNamed B.named) hv.1
  have hw : Wh D n0 ad cI cJ [(q1, .inl (cI, (L1, .inl f1)))] S s s.heap [] := ⟨hv.2.1, hv.2.2, va_S.rf⟩
  refine r_entry (Nat.le_of_ble_eq_true rfl) (fun ls hl => ?_)
  have hl : lv_has ls 9 [(0, .long p0), (2, .ref q1)] := hl
  unfold V_X8_weight at hV
  refine lv_lconst (v := 0) C0.x C0.b dX8_weight_0 (by decide) ?_
  refine lv_lstore_n (lv' := [(3, .long (0 : Int64)), (0, .long p0), (2, .ref q1)]) C0.x C0.b dX8_weight_1 rfl hl (by decide) rfl (fun ls hl => ?_)
  refine lv_lload_n C0.x C0.b dX8_weight_2 rfl (lv_at hl 1 rfl) ?_
  refine lv_lstore (lv' := [(5, .long p0), (3, .long (0 : Int64)), (0, .long p0), (2, .ref q1)]) C0.x C0.b dX8_weight_3 hl (by decide) rfl (fun ls hl => ?_)
  refine lv_ldc2 (v := 2) C0.x C0.b C0.ow (C0.ts _ cw_X8_weight_72) dX8_weight_5 ?_
  refine lv_lstore (lv' := [(7, .long (2 : Int64)), (5, .long p0), (3, .long (0 : Int64)), (0, .long p0), (2, .ref q1)]) C0.x C0.b dX8_weight_8 hl (by decide) rfl (fun ls hl => ?_)
  obtain ⟨n10, hV⟩ := hV
  exact lp_X8_weight_10   post C0  n10 _ _ _ _ hV _ _ hw _ (lv_sub hl [4, 2, 1, 0] rfl)
/-! StepBenchModel.law(IIIII)I -/
abbrev rm_X8_law : Room := { frames := 2, cells := 1, slots := 5, locals := 50 }
set_option maxRecDepth 20000 in
theorem fw_X8_law_61 : Cond.fieldLink RX8 61 "StepBenchModel" "thrown" "I" ∈ wsX8_law := by decide +kernel
set_option maxRecDepth 20000 in
theorem iw_X8_law_X8 : ∀ w ∈ wsX80, w ∈ wsX8_law := by decide +kernel
set_option maxRecDepth 20000 in
theorem fw_X8_law_108 : Cond.fieldLink RX8 108 "StepBenchModel" "sort" "I" ∈ wsX8_law := by decide +kernel
set_option maxRecDepth 20000 in
theorem na_X8_law : Cond.arrayClass .int ∈ wsX8_law := by decide +kernel
set_option maxRecDepth 20000 in
theorem fw_X8_law_111 : Cond.fieldLink RX8 111 "StepBenchModel" "fractions" "I" ∈ wsX8_law := by decide +kernel
set_option maxRecDepth 20000 in
theorem fw_X8_law_23 : Cond.fieldLink RX8 23 "StepBenchModel" "p" "[J" ∈ wsX8_law := by decide +kernel
set_option maxRecDepth 20000 in
theorem fw_X8_law_26 : Cond.fieldLink RX8 26 "StepBenchModel" "q" "[J" ∈ wsX8_law := by decide +kernel
set_option maxRecDepth 20000 in
theorem hd_X8_law : yX8_law.cls = RX8 ∧ yX8_law.cls ≠ "java/lang/invoke/MethodHandle" ∧ yX8_law.cls ≠ "java/lang/invoke/VarHandle" ∧ (parseMethodDescriptor yX8_law.desc).map (fun d => d.parameters.length) = some 5 := by decide +kernel
def V_X8_law_61  (fx : Nat → Int32) (v7 : Int32) (K46 : Int32 → SS → Prop) (post : Int32 → SS → Prop) : Nat → Int32 → Int32 → SS → Prop
  | 0, _, _, _ => False
  | n + 1, v8, v9, S =>
    ((v7 ≤ v9 → ((v8 = 0 → (∀ x11 : Int32, x11 = v7 + 1 → (K46 x11 S))) ∧ (¬ v8 = 0 → (vp_in v7 40 ∧ (V_X8_weight 5 fx (gA S 33 v7.toNatClampNeg) S (fun (r12 : Int64) (S13 : SS) => (vp_in v7 40 ∧ (V_X8_weight 5 fx (gA S13 34 v7.toNatClampNeg) S13 (fun (r14 : Int64) (S15 : SS) => ((r12 = r14 → (∀ x17 : Int32, x17 = v7 + 1 → (K46 x17 S15))) ∧ (¬ r12 = r14 → (post v7 S15)))))))))))) ∧ (¬ v7 ≤ v9 → ((v8 = 0 → (∀ x19 : Int32, x19 = v9 + 1 → (V_X8_law_61  fx v7 K46 post n (0 : Int32) x19 S))) ∧ (¬ v8 = 0 → (vp_in v7 40 ∧ (vp_in v9 40 ∧ (¬ (gA S 34 v9.toNatClampNeg) = 0 ∧ (((lrm (gA S 34 v7.toNatClampNeg) (gA S 34 v9.toNatClampNeg)) = (0 : Int64) → (∀ x21 : Int32, x21 = v9 + 1 → (V_X8_law_61  fx v7 K46 post n (0 : Int32) x21 S))) ∧ (¬ (lrm (gA S 34 v7.toNatClampNeg) (gA S 34 v9.toNatClampNeg)) = (0 : Int64) → (∀ x22 : Int32, x22 = v9 + 1 → (V_X8_law_61  fx v7 K46 post n (1 : Int32) x22 S)))))))))))
set_option maxHeartbeats 4000000 in
set_option maxRecDepth 100000 in
theorem lp_X8_law_61  {qx : Nat} (fx : Nat → Int32) (v7 : Int32) (K46 : Int32 → SS → Prop) (post : Int32 → SS → Prop) (C0 : Bd p s m meth c args cX8_law 10 (some .int) wsX8_law RX8 D n0 cI cJ) (hK46 : ∀ (v7 : Int32) (S : SS), K46 v7 S → ∀ (H : Heap) (locs : List Loc), Wh D n0 ad cI cJ [(qx, .inl (cI, (5, .inl fx)))] S s H locs → ∀ ls : Array Slot, lv_has ls 10 [(0, .ref (ad 48)), (6, .ref qx), (7, .int v7)] → W p l e rm_X8_law s m args below meth c H locs 1 5 (MQ below (va_Qi post (fun S' t => Wd D n0 ad cI cJ [] S' t) (fr n0)) args s 1 5 (fr n0)) (F0 m 46 ls [])) : ∀ (n : Nat) (v8 : Int32) (v9 : Int32) (S : SS), V_X8_law_61  fx v7 K46 post n v8 v9 S → ∀ (H : Heap) (locs : List Loc), Wh D n0 ad cI cJ [(qx, .inl (cI, (5, .inl fx)))] S s H locs → ∀ ls : Array Slot, lv_has ls 10 [(0, .ref (ad 48)), (6, .ref qx), (7, .int v7), (8, .int v8), (9, .int v9)] → W p l e rm_X8_law s m args below meth c H locs 1 5 (MQ below (va_Qi post (fun S' t => Wd D n0 ad cI cJ [] S' t) (fr n0)) args s 1 5 (fr n0)) (F0 m 61 ls []) := by
  intro n
  induction n with
  | zero => intro v8 v9 S hV; exact False.elim hV
  | succ n ih =>
    intro v8 v9 S hV H locs hw ls hl
    rw [V_X8_law_61] at hV
    refine lv_iload C0.x C0.b dX8_law_61 (lv_at hl 4 rfl) ?_
    refine lv_iload C0.x C0.b dX8_law_63 (lv_at hl 2 rfl) ?_
    refine lv_icmp_ge (tgt := 106) C0.x C0.b dX8_law_65 (by decide) (fun c9 => ?_) (fun c9 => ?_)
    · have hV := hV.1 c9
      refine lv_iload C0.x C0.b dX8_law_106 (lv_at hl 3 rfl) ?_
      refine lv_if_eq (tgt := 142) C0.x C0.b dX8_law_108 (by decide) (fun c10 => ?_) (fun c10 => ?_)
      · have hV := hV.1 c10
        obtain ⟨x11, ex11⟩ : ∃ z : Int32, z = v7 + 1 := ⟨_, rfl⟩
        have hV := hV x11 ex11
        refine lv_iinc (v := x11) (lv' := [(7, .int x11), (0, .ref (ad 48)), (6, .ref qx), (8, .int v8), (9, .int v9)]) C0.x C0.b dX8_law_142 hl (k := 2) rfl (by rw [ex11]; rfl) (by decide) rfl (fun ls hl => ?_)
        refine lv_goto (tgt := 46) C0.x C0.b dX8_law_145 (by decide) ?_
        exact hK46 _ _ hV _ _ hw _ (lv_sub hl [1, 2, 0] rfl)
      · have hV := hV.2 c10
        refine lv_aload_n C0.x C0.b dX8_law_111 rfl (lv_at hl 0 rfl) ?_
        refine r_get C0 hw (C := RX8) (T := TX8) (N := 33) (v := .ref (ad 52)) iw_X8_law_X8 (lg_48 ad cI cJ [(qx, .inl (cI, (5, .inl fx)))] S) rfl 11 (by decide) (C0.ts _ fw_X8_law_23) rfl dX8_law_112 ?_
        refine lv_iload C0.x C0.b dX8_law_115 (lv_at hl 2 rfl) ?_
        refine r_lald C0 hw (lg_52 ad cI cJ [(qx, .inl (cI, (5, .inl fx)))] S) hV.1 dX8_law_117 ?_
        have hV := hV.2
        refine lv_aload C0.x C0.b dX8_law_118 (lv_at hl 1 rfl) ?_
        refine r_cS_l (As := [.long (gA S 33 v7.toNatClampNeg), .ref qx]) (rest := []) C0 hw (c_X8_weight  hV) (va_cwS 2 C0.ts gX8_law_X8_weight rfl rfl rfl hd_X8_weight ⟨Nat.le_of_ble_eq_true rfl, Nat.le_of_ble_eq_true rfl⟩) rfl hl.1 rfl (Nat.le_of_ble_eq_true rfl) ⟨Nat.le_of_ble_eq_true rfl, Nat.le_of_ble_eq_true rfl⟩ dX8_law_120 (fun r12 S13 H locs hV hw => ?_)
        refine lv_aload_n C0.x C0.b dX8_law_123 rfl (lv_at hl 0 rfl) ?_
        refine r_get C0 hw (C := RX8) (T := TX8) (N := 33) (v := .ref (ad 53)) iw_X8_law_X8 (lg_48 ad cI cJ [(qx, .inl (cI, (5, .inl fx)))] S13) rfl 12 (by decide) (C0.ts _ fw_X8_law_26) rfl dX8_law_124 ?_
        refine lv_iload C0.x C0.b dX8_law_127 (lv_at hl 2 rfl) ?_
        refine r_lald C0 hw (lg_53 ad cI cJ [(qx, .inl (cI, (5, .inl fx)))] S13) hV.1 dX8_law_129 ?_
        have hV := hV.2
        refine lv_aload C0.x C0.b dX8_law_130 (lv_at hl 1 rfl) ?_
        refine r_cS_l (As := [.long (gA S13 34 v7.toNatClampNeg), .ref qx]) (rest := [.long r12]) C0 hw (c_X8_weight  hV) (va_cwS 2 C0.ts gX8_law_X8_weight rfl rfl rfl hd_X8_weight ⟨Nat.le_of_ble_eq_true rfl, Nat.le_of_ble_eq_true rfl⟩) rfl hl.1 rfl (Nat.le_of_ble_eq_true rfl) ⟨Nat.le_of_ble_eq_true rfl, Nat.le_of_ble_eq_true rfl⟩ dX8_law_132 (fun r14 S15 H locs hV hw => ?_)
        refine r_lcmp C0 dX8_law_135 ?_
        refine lv_if_eq (tgt := 142) C0.x C0.b dX8_law_136 (by decide) (fun c16 => ?_) (fun c16 => ?_)
        · have hV := hV.1 ((lc_eq _ _).mp c16)
          obtain ⟨x17, ex17⟩ : ∃ z : Int32, z = v7 + 1 := ⟨_, rfl⟩
          have hV := hV x17 ex17
          refine lv_iinc (v := x17) (lv' := [(7, .int x17), (0, .ref (ad 48)), (6, .ref qx), (8, .int v8), (9, .int v9)]) C0.x C0.b dX8_law_142 hl (k := 2) rfl (by rw [ex17]; rfl) (by decide) rfl (fun ls hl => ?_)
          refine lv_goto (tgt := 46) C0.x C0.b dX8_law_145 (by decide) ?_
          exact hK46 _ _ hV _ _ hw _ (lv_sub hl [1, 2, 0] rfl)
        · have hV := hV.2 (fun h => c16 ((lc_eq _ _).mpr h))
          refine lv_iload C0.x C0.b dX8_law_139 (lv_at hl 2 rfl) ?_
          refine W.widen (k := 1) (n := 5) (Nat.le_of_ble_eq_true rfl) (Nat.le_of_ble_eq_true rfl) ?_
          exact r_iret C0 rfl hw.drop hV dX8_law_141
    · have hV := hV.2 c9
      refine lv_iload C0.x C0.b dX8_law_68 (lv_at hl 3 rfl) ?_
      refine lv_if_eq (tgt := 97) C0.x C0.b dX8_law_70 (by decide) (fun c18 => ?_) (fun c18 => ?_)
      · have hV := hV.1 c18
        refine lv_iconst (v := 0) C0.x C0.b dX8_law_97 (by decide) ?_
        refine lv_istore (lv' := [(8, .int (0 : Int32)), (0, .ref (ad 48)), (6, .ref qx), (7, .int v7), (9, .int v9)]) C0.x C0.b dX8_law_98 hl (by decide) rfl (fun ls hl => ?_)
        obtain ⟨x19, ex19⟩ : ∃ z : Int32, z = v9 + 1 := ⟨_, rfl⟩
        have hV := hV x19 ex19
        refine lv_iinc (v := x19) (lv' := [(9, .int x19), (8, .int (0 : Int32)), (0, .ref (ad 48)), (6, .ref qx), (7, .int v7)]) C0.x C0.b dX8_law_100 hl (k := 4) rfl (by rw [ex19]; rfl) (by decide) rfl (fun ls hl => ?_)
        refine lv_goto (tgt := 61) C0.x C0.b dX8_law_103 (by decide) ?_
        exact ih _ _ _ hV _ _ hw _ (lv_sub hl [2, 3, 4, 1, 0] rfl)
      · have hV := hV.2 c18
        refine lv_aload_n C0.x C0.b dX8_law_73 rfl (lv_at hl 0 rfl) ?_
        refine r_get C0 hw (C := RX8) (T := TX8) (N := 33) (v := .ref (ad 53)) iw_X8_law_X8 (lg_48 ad cI cJ [(qx, .inl (cI, (5, .inl fx)))] S) rfl 12 (by decide) (C0.ts _ fw_X8_law_26) rfl dX8_law_74 ?_
        refine lv_iload C0.x C0.b dX8_law_77 (lv_at hl 2 rfl) ?_
        refine r_lald C0 hw (lg_53 ad cI cJ [(qx, .inl (cI, (5, .inl fx)))] S) hV.1 dX8_law_79 ?_
        have hV := hV.2
        refine lv_aload_n C0.x C0.b dX8_law_80 rfl (lv_at hl 0 rfl) ?_
        refine r_get C0 hw (C := RX8) (T := TX8) (N := 33) (v := .ref (ad 53)) iw_X8_law_X8 (lg_48 ad cI cJ [(qx, .inl (cI, (5, .inl fx)))] S) rfl 12 (by decide) (C0.ts _ fw_X8_law_26) rfl dX8_law_81 ?_
        refine lv_iload C0.x C0.b dX8_law_84 (lv_at hl 4 rfl) ?_
        refine r_lald C0 hw (lg_53 ad cI cJ [(qx, .inl (cI, (5, .inl fx)))] S) hV.1 dX8_law_86 ?_
        have hV := hV.2
        refine lv_lrem C0.x C0.b dX8_law_87 hV.1 ?_
        have hV := hV.2
        refine lv_lconst (v := 0) C0.x C0.b dX8_law_88 (by decide) ?_
        refine r_lcmp C0 dX8_law_89 ?_
        refine lv_if_eq (tgt := 97) C0.x C0.b dX8_law_90 (by decide) (fun c20 => ?_) (fun c20 => ?_)
        · have hV := hV.1 ((lc_eq _ _).mp c20)
          refine lv_iconst (v := 0) C0.x C0.b dX8_law_97 (by decide) ?_
          refine lv_istore (lv' := [(8, .int (0 : Int32)), (0, .ref (ad 48)), (6, .ref qx), (7, .int v7), (9, .int v9)]) C0.x C0.b dX8_law_98 hl (by decide) rfl (fun ls hl => ?_)
          obtain ⟨x21, ex21⟩ : ∃ z : Int32, z = v9 + 1 := ⟨_, rfl⟩
          have hV := hV x21 ex21
          refine lv_iinc (v := x21) (lv' := [(9, .int x21), (8, .int (0 : Int32)), (0, .ref (ad 48)), (6, .ref qx), (7, .int v7)]) C0.x C0.b dX8_law_100 hl (k := 4) rfl (by rw [ex21]; rfl) (by decide) rfl (fun ls hl => ?_)
          refine lv_goto (tgt := 61) C0.x C0.b dX8_law_103 (by decide) ?_
          exact ih _ _ _ hV _ _ hw _ (lv_sub hl [2, 3, 4, 1, 0] rfl)
        · have hV := hV.2 (fun h => c20 ((lc_eq _ _).mpr h))
          refine lv_iconst (v := 1) C0.x C0.b dX8_law_93 (by decide) ?_
          refine lv_goto (tgt := 98) C0.x C0.b dX8_law_94 (by decide) ?_
          refine lv_istore (lv' := [(8, .int (1 : Int32)), (0, .ref (ad 48)), (6, .ref qx), (7, .int v7), (9, .int v9)]) C0.x C0.b dX8_law_98 hl (by decide) rfl (fun ls hl => ?_)
          obtain ⟨x22, ex22⟩ : ∃ z : Int32, z = v9 + 1 := ⟨_, rfl⟩
          have hV := hV x22 ex22
          refine lv_iinc (v := x22) (lv' := [(9, .int x22), (8, .int (1 : Int32)), (0, .ref (ad 48)), (6, .ref qx), (7, .int v7)]) C0.x C0.b dX8_law_100 hl (k := 4) rfl (by rw [ex22]; rfl) (by decide) rfl (fun ls hl => ?_)
          refine lv_goto (tgt := 61) C0.x C0.b dX8_law_103 (by decide) ?_
          exact ih _ _ _ hV _ _ hw _ (lv_sub hl [2, 3, 4, 1, 0] rfl)
def V_X8_law_46  (fx : Nat → Int32)   (post : Int32 → SS → Prop) : Nat → Int32 → SS → Prop
  | 0, _, _ => False
  | n + 1, v7, S =>
    (((gI S 27) ≤ v7 → (post (-1 : Int32) S)) ∧ (¬ (gI S 27) ≤ v7 → (∃ n61 : Nat, V_X8_law_61  fx v7 (fun w7 T => V_X8_law_46  fx   post n w7 T) post n61 (1 : Int32) (0 : Int32) S)))
set_option maxHeartbeats 4000000 in
set_option maxRecDepth 100000 in
theorem lp_X8_law_46  {qx : Nat} (fx : Nat → Int32)   (post : Int32 → SS → Prop) (C0 : Bd p s m meth c args cX8_law 10 (some .int) wsX8_law RX8 D n0 cI cJ) : ∀ (n : Nat) (v7 : Int32) (S : SS), V_X8_law_46  fx   post n v7 S → ∀ (H : Heap) (locs : List Loc), Wh D n0 ad cI cJ [(qx, .inl (cI, (5, .inl fx)))] S s H locs → ∀ ls : Array Slot, lv_has ls 10 [(0, .ref (ad 48)), (6, .ref qx), (7, .int v7)] → W p l e rm_X8_law s m args below meth c H locs 1 5 (MQ below (va_Qi post (fun S' t => Wd D n0 ad cI cJ [] S' t) (fr n0)) args s 1 5 (fr n0)) (F0 m 46 ls []) := by
  intro n
  induction n with
  | zero => intro v7 S hV; exact False.elim hV
  | succ n ih =>
    intro v7 S hV H locs hw ls hl
    rw [V_X8_law_46] at hV
    refine lv_iload C0.x C0.b dX8_law_46 (lv_at hl 2 rfl) ?_
    refine lv_aload_n C0.x C0.b dX8_law_48 rfl (lv_at hl 0 rfl) ?_
    refine r_get C0 hw (C := RX8) (T := TX8) (N := 33) (v := .int (gI S 27)) iw_X8_law_X8 (lg_48 ad cI cJ [(qx, .inl (cI, (5, .inl fx)))] S) rfl 10 (by decide) (C0.ts _ fw_X8_law_111) rfl dX8_law_49 ?_
    refine lv_icmp_ge (tgt := 148) C0.x C0.b dX8_law_52 (by decide) (fun c8 => ?_) (fun c8 => ?_)
    · have hV := hV.1 c8
      refine lv_iconst (v := -1) C0.x C0.b dX8_law_148 (by decide) ?_
      refine W.widen (k := 1) (n := 5) (Nat.le_of_ble_eq_true rfl) (Nat.le_of_ble_eq_true rfl) ?_
      exact r_iret C0 rfl hw.drop hV dX8_law_149
    · have hV := hV.2 c8
      refine lv_iconst (v := 1) C0.x C0.b dX8_law_55 (by decide) ?_
      refine lv_istore (lv' := [(8, .int (1 : Int32)), (0, .ref (ad 48)), (6, .ref qx), (7, .int v7)]) C0.x C0.b dX8_law_56 hl (by decide) rfl (fun ls hl => ?_)
      refine lv_iconst (v := 0) C0.x C0.b dX8_law_58 (by decide) ?_
      refine lv_istore (lv' := [(9, .int (0 : Int32)), (8, .int (1 : Int32)), (0, .ref (ad 48)), (6, .ref qx), (7, .int v7)]) C0.x C0.b dX8_law_59 hl (by decide) rfl (fun ls hl => ?_)
      obtain ⟨n61, hV⟩ := hV
      exact lp_X8_law_61  _ _ _ post C0 ih n61 _ _ _ hV _ _ hw _ (lv_sub hl [2, 3, 4, 1, 0] rfl)
def V_X8_law  (p0 : Int32) (p1 : Int32) (p2 : Int32) (p3 : Int32) (p4 : Int32) (S : SS) (post : Int32 → SS → Prop) : Prop :=
  (∀ S1 : SS, S1 = (sI S 20 (0 : Int32)) → (((gI S1 25) = (2 : Int32) → (vp_in (0 : Int32) 5 ∧ ∀ f3 : Nat → Int32, f3 = upd (fun _ => (0 : Int32)) (0 : Int32).toNatClampNeg p0 → (vp_in (1 : Int32) 5 ∧ ∀ f4 : Nat → Int32, f4 = upd f3 (1 : Int32).toNatClampNeg p1 → (vp_in (2 : Int32) 5 ∧ ∀ f5 : Nat → Int32, f5 = upd f4 (2 : Int32).toNatClampNeg p2 → (vp_in (3 : Int32) 5 ∧ ∀ f6 : Nat → Int32, f6 = upd f5 (3 : Int32).toNatClampNeg p3 → (vp_in (4 : Int32) 5 ∧ ∀ f7 : Nat → Int32, f7 = upd f6 (4 : Int32).toNatClampNeg p4 → (∃ n46 : Nat, V_X8_law_46  f7   post n46 (0 : Int32) S1))))))) ∧ (¬ (gI S1 25) = (2 : Int32) → (post (-2 : Int32) S1))))
set_option maxHeartbeats 4000000 in
set_option maxRecDepth 100000 in
theorem c_X8_law {S : SS} {p0 : Int32} {p1 : Int32} {p2 : Int32} {p3 : Int32} {p4 : Int32} {post : Int32 → SS → Prop} (hV : V_X8_law  p0 p1 p2 p3 p4 S post) : MIc l yX8_law wsX8_law rm_X8_law [.ref (ad 48), .int p0, .int p1, .int p2, .int p3, .int p4] D n0 ad cI cJ [] S post 1 5 := by
  refine Met.ofW (cc := cX8_law) (maxL := 10) (ret := (some .int)) (by decide) rfl ?_
  intro p e s m args below meth c s₁ B hml hv
  obtain ⟨rfl, hv⟩ := hv
  have C0 := Bd.mk B hml (atoms_spec (ws := wsX8_law) B.pre) (findClass_of_methodNamed B.named) hv.1
  have hw : Wh D n0 ad cI cJ [] S s s.heap [] := ⟨hv.2.1, hv.2.2, va_S.rf⟩
  refine r_entry (Nat.le_of_ble_eq_true rfl) (fun ls hl => ?_)
  have hl : lv_has ls 10 [(0, .ref (ad 48)), (1, .int p0), (2, .int p1), (3, .int p2), (4, .int p3), (5, .int p4)] := hl
  unfold V_X8_law at hV
  refine lv_aload_n C0.x C0.b dX8_law_0 rfl (lv_at hl 0 rfl) ?_
  refine lv_iconst (v := 0) C0.x C0.b dX8_law_1 (by decide) ?_
  refine r_put C0 hw (C := RX8) (T := TX8) (N := 33) (ty := .int) iw_X8_law_X8 tyX8 tyX8_ok nmX8 (lg_48 ad cI cJ [] S) rfl 0 (by decide) (C0.ts _ fw_X8_law_61) rfl (by decide +kernel) rfl rfl (Nat.le_of_ble_eq_true rfl) dX8_law_2 (S' := (sI S 20 (0 : Int32))) (ls_48_0 ad cI cJ [] S (0 : Int32)) (fun S1 H locs eS1 hw => ?_)
  have hV := hV S1 eS1
  refine lv_aload_n C0.x C0.b dX8_law_5 rfl (lv_at hl 0 rfl) ?_
  refine r_get C0 hw (C := RX8) (T := TX8) (N := 33) (v := .int (gI S1 25)) iw_X8_law_X8 (lg_48 ad cI cJ [] S1) rfl 7 (by decide) (C0.ts _ fw_X8_law_108) rfl dX8_law_6 ?_
  refine lv_iconst (v := 2) C0.x C0.b dX8_law_9 (by decide) ?_
  refine lv_icmp_eq (tgt := 16) C0.x C0.b dX8_law_10 (by decide) (fun c2 => ?_) (fun c2 => ?_)
  · have hV := hV.1 c2
    refine lv_iconst (v := 5) C0.x C0.b dX8_law_16 (by decide) ?_
    refine r_newX (N' := 5) C0 hw (C0.ts _ na_X8_law) (by decide) (by decide) (by decide) (Nat.le_of_ble_eq_true rfl) (Nat.le_of_ble_eq_true rfl) dX8_law_17 (fun qx H hw => ?_)
    refine lv_dup C0.x C0.b dX8_law_19 rfl ?_
    refine lv_iconst (v := 0) C0.x C0.b dX8_law_20 (by decide) ?_
    refine lv_iload_n C0.x C0.b dX8_law_21 rfl (lv_at hl 1 rfl) ?_
    refine r_iastX C0 hw hV.1 dX8_law_22 (fun f3 H locs ef3 hw => ?_)
    have hV := hV.2 f3 ef3
    refine lv_dup C0.x C0.b dX8_law_23 rfl ?_
    refine lv_iconst (v := 1) C0.x C0.b dX8_law_24 (by decide) ?_
    refine lv_iload_n C0.x C0.b dX8_law_25 rfl (lv_at hl 2 rfl) ?_
    refine r_iastX C0 hw hV.1 dX8_law_26 (fun f4 H locs ef4 hw => ?_)
    have hV := hV.2 f4 ef4
    refine lv_dup C0.x C0.b dX8_law_27 rfl ?_
    refine lv_iconst (v := 2) C0.x C0.b dX8_law_28 (by decide) ?_
    refine lv_iload_n C0.x C0.b dX8_law_29 rfl (lv_at hl 3 rfl) ?_
    refine r_iastX C0 hw hV.1 dX8_law_30 (fun f5 H locs ef5 hw => ?_)
    have hV := hV.2 f5 ef5
    refine lv_dup C0.x C0.b dX8_law_31 rfl ?_
    refine lv_iconst (v := 3) C0.x C0.b dX8_law_32 (by decide) ?_
    refine lv_iload C0.x C0.b dX8_law_33 (lv_at hl 4 rfl) ?_
    refine r_iastX C0 hw hV.1 dX8_law_35 (fun f6 H locs ef6 hw => ?_)
    have hV := hV.2 f6 ef6
    refine lv_dup C0.x C0.b dX8_law_36 rfl ?_
    refine lv_iconst (v := 4) C0.x C0.b dX8_law_37 (by decide) ?_
    refine lv_iload C0.x C0.b dX8_law_38 (lv_at hl 5 rfl) ?_
    refine r_iastX C0 hw hV.1 dX8_law_40 (fun f7 H locs ef7 hw => ?_)
    have hV := hV.2 f7 ef7
    refine lv_astore (lv' := [(6, .ref qx), (0, .ref (ad 48)), (1, .int p0), (2, .int p1), (3, .int p2), (4, .int p3), (5, .int p4)]) C0.x C0.b dX8_law_41 hl (by decide) rfl (fun ls hl => ?_)
    refine lv_iconst (v := 0) C0.x C0.b dX8_law_43 (by decide) ?_
    refine lv_istore (lv' := [(7, .int (0 : Int32)), (6, .ref qx), (0, .ref (ad 48)), (1, .int p0), (2, .int p1), (3, .int p2), (4, .int p3), (5, .int p4)]) C0.x C0.b dX8_law_44 hl (by decide) rfl (fun ls hl => ?_)
    obtain ⟨n46, hV⟩ := hV
    exact lp_X8_law_46  _ post C0  n46 _ _ hV _ _ hw _ (lv_sub hl [2, 1, 0] rfl)
  · have hV := hV.2 c2
    refine lv_bipush (v := -2) C0.x C0.b dX8_law_13 (by decide) ?_
    refine W.widen (k := 1) (n := 5) (Nat.le_of_ble_eq_true rfl) (Nat.le_of_ble_eq_true rfl) ?_
    exact r_iret C0 rfl hw hV dX8_law_15
/-! StepBenchLaw.seal(LStepBench;[J)I -/
abbrev rm_L_seal : Room := { frames := 7, cells := 1, slots := 6, locals := 131 }
set_option maxRecDepth 20000 in
theorem tk_L_seal_13 : Cond.classLink RL 13 "java/lang/IllegalStateException" ∈ wsL_seal := by decide +kernel
set_option maxRecDepth 20000 in
theorem hd_L_seal : yL_seal.cls ≠ "java/lang/invoke/MethodHandle" ∧ yL_seal.cls ≠ "java/lang/invoke/VarHandle" ∧ (parseMethodDescriptor yL_seal.desc).map (fun d => d.parameters.length) = some 2 := by decide +kernel
def V_L_seal   (S : SS) (post : Int32 → SS → Prop) : Prop :=
  (V_X7_seal  S (fun (r1 : Int32) (S2 : SS) => (vp_in (0 : Int32) 1 ∧ ∀ S3 : SS, S3 = (sA S2 41 (vp_updL (gA S2 41) (0 : Int32).toNatClampNeg r1.toInt64)) → (post (0 : Int32) S3))) (fun (E : String) (S5 : SS) => (E = "java/lang/IllegalStateException" ∧ (post (1 : Int32) S5))))
set_option maxHeartbeats 4000000 in
set_option maxRecDepth 100000 in
theorem c_L_seal (hlt : l.stackTraces = false)  {S : SS}  {post : Int32 → SS → Prop} (hV : V_L_seal   S post) : MIc l yL_seal wsL_seal rm_L_seal [.ref (ad 0), .ref (ad 64)] D n0 ad cI cJ X S post 1 6 := by
  refine va_MetW (cc := cL_seal) (maxL := 3) (ret := (some .int)) (hh := [(0, 8, 11, 13)]) (by decide) rfl ?_
  intro p e s m args below meth c s₁ B hml hv
  have htab := vx_table (x := yL_seal) B (atoms_spec (ws := wsL_seal) B.pre _ List.mem_cons_self)
  obtain ⟨rfl, hv⟩ := hv
  have C0 := Bd.mk B hml (atoms_spec (ws := wsL_seal) B.pre) (findClass_of_methodNamed B.named) hv.1
  have hw : Wh D n0 ad cI cJ X S s s.heap [] := ⟨hv.2.1, hv.2.2, va_S.rf⟩
  refine r_entry (Nat.le_of_ble_eq_true rfl) (fun ls hl => ?_)
  have hl : lv_has ls 3 [(0, .ref (ad 0)), (1, .ref (ad 64))] := hl
  unfold V_L_seal at hV
  refine lv_aload_n C0.x C0.b dL_seal_0 rfl (lv_at hl 1 rfl) ?_
  refine lv_iconst (v := 0) C0.x C0.b dL_seal_1 (by decide) ?_
  refine lv_aload_n C0.x C0.b dL_seal_2 rfl (lv_at hl 0 rfl) ?_
  refine r_xV_i (As := []) (rest := [.int (0 : Int32), .ref (ad 64)]) C0 hw (c_X7_seal hlt  hV) (cwV 0 C0.ts gL_seal_X7_seal rfl rfl rfl hd_X7_seal ⟨Nat.le_of_ble_eq_true rfl, Nat.le_of_ble_eq_true rfl⟩) (lg_0 ad cI cJ X S) rfl rfl hl.1 rfl (Nat.le_of_ble_eq_true rfl) ⟨Nat.le_of_ble_eq_true rfl, Nat.le_of_ble_eq_true rfl⟩ dL_seal_3 (fun E ce q9 S5 H locs hV hw hce hcv hcl => ?_) (fun r1 S2 H locs hV hw => ?_)
  · obtain ⟨rfl, hV⟩ := hV
    refine r_catch C0 [] [] (htab.trans rfl) (List.forall_mem_nil _) (by decide) (by decide) (C0.ts _ tk_L_seal_13) (va_Nw.use rfl (C0.en.2.2.2.2.2.2.1 _ (by decide))) hce hcv hcl ?_
    refine lv_astore_n (lv' := [(2, .ref q9), (0, .ref (ad 0)), (1, .ref (ad 64))]) C0.x C0.b dL_seal_11 rfl hl (by decide) rfl (fun ls hl => ?_)
    refine lv_iconst (v := 1) C0.x C0.b dL_seal_12 (by decide) ?_
    exact r_iret C0 rfl hw hV dL_seal_13
  · refine lv_i2l C0.x C0.b dL_seal_6 rfl ?_
    refine r_last C0 hw (lg_64 ad cI cJ X S2) hV.1 dL_seal_7 (S' := (sA S2 41 (vp_updL (gA S2 41) (0 : Int32).toNatClampNeg r1.toInt64))) (ls_64 ad cI cJ X S2 (vp_updL (gA S2 41) (0 : Int32).toNatClampNeg r1.toInt64)) (fun S3 H locs eS3 hw => ?_)
    have hV := hV.2 S3 eS3
    refine lv_goto (tgt := 14) C0.x C0.b dL_seal_8 (by decide) ?_
    refine lv_iconst (v := 0) C0.x C0.b dL_seal_14 (by decide) ?_
    exact r_iret C0 rfl hw hV dL_seal_15
/-! StepBenchLaw.told(LStepBench;II[J)I -/
abbrev rm_L_told : Room := { frames := 7, cells := 1, slots := 6, locals := 132 }
set_option maxRecDepth 20000 in
theorem tk_L_told_19 : Cond.classLink RL 19 "java/util/NoSuchElementException" ∈ wsnL_told := by decide +kernel
set_option maxRecDepth 20000 in
theorem hd_L_told : yL_told.cls ≠ "java/lang/invoke/MethodHandle" ∧ yL_told.cls ≠ "java/lang/invoke/VarHandle" ∧ (parseMethodDescriptor yL_told.desc).map (fun d => d.parameters.length) = some 4 := by decide +kernel
def V_L_told  (p1 : Int32) (p2 : Int32) (S : SS) (post : Int32 → SS → Prop) : Prop :=
  (V_X7_told p1 p2 S (fun (r1 : Int64) (S2 : SS) => (vp_in (0 : Int32) 1 ∧ ∀ S3 : SS, S3 = (sA S2 41 (vp_updL (gA S2 41) (0 : Int32).toNatClampNeg r1)) → (post (0 : Int32) S3))) (fun (E : String) (S5 : SS) => (E = "java/util/NoSuchElementException" ∧ (post (1 : Int32) S5))))
set_option maxHeartbeats 4000000 in
set_option maxRecDepth 100000 in
theorem c_L_told (hlt : l.stackTraces = false)  {S : SS} {p1 : Int32} {p2 : Int32} {post : Int32 → SS → Prop} (hV : V_L_told  p1 p2 S post) : MIc l yL_told wsnL_told rm_L_told [.ref (ad 0), .int p1, .int p2, .ref (ad 64)] D n0 ad cI cJ X S post 1 6 := by
  refine va_MetW (cc := cL_told) (maxL := 5) (ret := (some .int)) (hh := [(0, 9, 12, 19)]) (by decide) rfl ?_
  intro p e s m args below meth c s₁ B hml hv
  have htab := vx_table (x := yL_told) B (atoms_spec (ws := wsnL_told) B.pre _ List.mem_cons_self)
  obtain ⟨rfl, hv⟩ := hv
  have C0 := Bd.mk B hml (atoms_spec (ws := wsnL_told) B.pre) (findClass_of_methodNamed B.named) hv.1
  have hw : Wh D n0 ad cI cJ X S s s.heap [] := ⟨hv.2.1, hv.2.2, va_S.rf⟩
  refine r_entry (Nat.le_of_ble_eq_true rfl) (fun ls hl => ?_)
  have hl : lv_has ls 5 [(0, .ref (ad 0)), (1, .int p1), (2, .int p2), (3, .ref (ad 64))] := hl
  unfold V_L_told at hV
  refine lv_aload_n C0.x C0.b dL_told_0 rfl (lv_at hl 3 rfl) ?_
  refine lv_iconst (v := 0) C0.x C0.b dL_told_1 (by decide) ?_
  refine lv_aload_n C0.x C0.b dL_told_2 rfl (lv_at hl 0 rfl) ?_
  refine lv_iload_n C0.x C0.b dL_told_3 rfl (lv_at hl 1 rfl) ?_
  refine lv_iload_n C0.x C0.b dL_told_4 rfl (lv_at hl 2 rfl) ?_
  refine r_xV_l (As := [.int p1, .int p2]) (rest := [.int (0 : Int32), .ref (ad 64)]) C0 hw (c_X7_told hlt  hV) (cwV 2 C0.ts ngL_told_X7_told rfl rfl rfl hd_X7_told ⟨Nat.le_of_ble_eq_true rfl, Nat.le_of_ble_eq_true rfl⟩) (lg_0 ad cI cJ X S) rfl rfl hl.1 rfl (Nat.le_of_ble_eq_true rfl) ⟨Nat.le_of_ble_eq_true rfl, Nat.le_of_ble_eq_true rfl⟩ dL_told_5 (fun E ce q9 S5 H locs hV hw hce hcv hcl => ?_) (fun r1 S2 H locs hV hw => ?_)
  · obtain ⟨rfl, hV⟩ := hV
    refine r_catch C0 [] [] (htab.trans rfl) (List.forall_mem_nil _) (by decide) (by decide) (C0.ts _ tk_L_told_19) (va_Nw.use rfl (C0.en.2.2.2.2.2.2.1 _ (by decide))) hce hcv hcl ?_
    refine lv_astore (lv' := [(4, .ref q9), (0, .ref (ad 0)), (1, .int p1), (2, .int p2), (3, .ref (ad 64))]) C0.x C0.b dL_told_12 hl (by decide) rfl (fun ls hl => ?_)
    refine lv_iconst (v := 1) C0.x C0.b dL_told_14 (by decide) ?_
    exact r_iret C0 rfl hw hV dL_told_15
  · refine r_last C0 hw (lg_64 ad cI cJ X S2) hV.1 dL_told_8 (S' := (sA S2 41 (vp_updL (gA S2 41) (0 : Int32).toNatClampNeg r1))) (ls_64 ad cI cJ X S2 (vp_updL (gA S2 41) (0 : Int32).toNatClampNeg r1)) (fun S3 H locs eS3 hw => ?_)
    have hV := hV.2 S3 eS3
    refine lv_goto (tgt := 16) C0.x C0.b dL_told_9 (by decide) ?_
    refine lv_iconst (v := 0) C0.x C0.b dL_told_16 (by decide) ?_
    exact r_iret C0 rfl hw hV dL_told_17
/-! StepBenchLaw.step(LStepBench;J[J)I -/
abbrev rm_L_step : Room := { frames := 9, cells := 2, slots := 12, locals := 181 }
set_option maxRecDepth 20000 in
theorem tk_L_step_13 : Cond.classLink RL 13 "java/lang/IllegalStateException" ∈ wsnL_step := by decide +kernel
set_option maxRecDepth 20000 in
theorem tk_L_step_19 : Cond.classLink RL 19 "java/util/NoSuchElementException" ∈ wsnL_step := by decide +kernel
set_option maxRecDepth 20000 in
theorem tk_L_step_25 : Cond.classLink RL 25 "java/lang/ArithmeticException" ∈ wsnL_step := by decide +kernel
set_option maxRecDepth 20000 in
theorem hd_L_step : yL_step.cls ≠ "java/lang/invoke/MethodHandle" ∧ yL_step.cls ≠ "java/lang/invoke/VarHandle" ∧ (parseMethodDescriptor yL_step.desc).map (fun d => d.parameters.length) = some 3 := by decide +kernel
def V_L_step  (p1 : Int64) (S : SS) (post : Int32 → SS → Prop) : Prop :=
  (V_X7_step p1 S (fun (r1 : Int64) (S2 : SS) => (vp_in (0 : Int32) 1 ∧ ∀ S3 : SS, S3 = (sA S2 41 (vp_updL (gA S2 41) (0 : Int32).toNatClampNeg r1)) → (post (0 : Int32) S3))) (fun (E : String) (S7 : SS) => (E = "java/lang/IllegalStateException" ∧ (post (1 : Int32) S7)) ∨ (E = "java/util/NoSuchElementException" ∧ (post (2 : Int32) S7)) ∨ (E = "java/lang/ArithmeticException" ∧ (post (3 : Int32) S7))))
set_option maxHeartbeats 4000000 in
set_option maxRecDepth 100000 in
theorem c_L_step (hlt : l.stackTraces = false)  {S : SS} {p1 : Int64} {post : Int32 → SS → Prop} (hV : V_L_step  p1 S post) : MIc l yL_step wsnL_step rm_L_step [.ref (ad 0), .long p1, .ref (ad 64)] D n0 ad cI cJ X S post 2 12 := by
  refine va_MetW (cc := cL_step) (maxL := 5) (ret := (some .int)) (hh := [(0, 8, 11, 13), (0, 8, 15, 19), (0, 8, 19, 25)]) (by decide) rfl ?_
  intro p e s m args below meth c s₁ B hml hv
  have htab := vx_table (x := yL_step) B (atoms_spec (ws := wsnL_step) B.pre _ List.mem_cons_self)
  obtain ⟨rfl, hv⟩ := hv
  have C0 := Bd.mk B hml (atoms_spec (ws := wsnL_step) B.pre) (findClass_of_methodNamed B.named) hv.1
  have hw : Wh D n0 ad cI cJ X S s s.heap [] := ⟨hv.2.1, hv.2.2, va_S.rf⟩
  refine r_entry (Nat.le_of_ble_eq_true rfl) (fun ls hl => ?_)
  have hl : lv_has ls 5 [(0, .ref (ad 0)), (1, .long p1), (3, .ref (ad 64))] := hl
  unfold V_L_step at hV
  refine lv_aload_n C0.x C0.b dL_step_0 rfl (lv_at hl 2 rfl) ?_
  refine lv_iconst (v := 0) C0.x C0.b dL_step_1 (by decide) ?_
  refine lv_aload_n C0.x C0.b dL_step_2 rfl (lv_at hl 0 rfl) ?_
  refine lv_lload_n C0.x C0.b dL_step_3 rfl (lv_at hl 1 rfl) ?_
  refine r_xV_l (As := [.long p1]) (rest := [.int (0 : Int32), .ref (ad 64)]) C0 hw (c_X7_step hlt  hV) (cwV 1 C0.ts ngL_step_X7_step rfl rfl rfl hd_X7_step ⟨Nat.le_of_ble_eq_true rfl, Nat.le_of_ble_eq_true rfl⟩) (lg_0 ad cI cJ X S) rfl rfl hl.1 rfl (Nat.le_of_ble_eq_true rfl) ⟨Nat.le_of_ble_eq_true rfl, Nat.le_of_ble_eq_true rfl⟩ dL_step_4 (fun E ce q9 S7 H locs hV hw hce hcv hcl => ?_) (fun r1 S2 H locs hV hw => ?_)
  · rcases hV with ⟨rfl, hV⟩ | ⟨rfl, hV⟩ | ⟨rfl, hV⟩
    · refine r_catch C0 [] [⟨0, 8, 15, 19⟩, ⟨0, 8, 19, 25⟩] (htab.trans rfl) (List.forall_mem_nil _) (by decide) (by decide) (C0.ts _ tk_L_step_13) (va_Nw.use rfl (C0.en.2.2.2.2.2.2.1 _ (by decide))) hce hcv hcl ?_
      refine lv_astore (lv' := [(4, .ref q9), (0, .ref (ad 0)), (1, .long p1), (3, .ref (ad 64))]) C0.x C0.b dL_step_11 hl (by decide) rfl (fun ls hl => ?_)
      refine lv_iconst (v := 1) C0.x C0.b dL_step_13 (by decide) ?_
      exact r_iret C0 rfl hw hV dL_step_14
    · refine r_catch C0 [⟨0, 8, 11, 13⟩] [⟨0, 8, 19, 25⟩] (htab.trans rfl) (List.forall_mem_cons.mpr ⟨Or.inr ⟨by decide, "java/lang/IllegalStateException", C0.ts _ tk_L_step_13, C0.en.2.2.2.2.2.2.2 _ (by decide) _ (by decide) (by decide)⟩, (List.forall_mem_nil _)⟩) (by decide) (by decide) (C0.ts _ tk_L_step_19) (va_Nw.use rfl (C0.en.2.2.2.2.2.2.1 _ (by decide))) hce hcv hcl ?_
      refine lv_astore (lv' := [(4, .ref q9), (0, .ref (ad 0)), (1, .long p1), (3, .ref (ad 64))]) C0.x C0.b dL_step_15 hl (by decide) rfl (fun ls hl => ?_)
      refine lv_iconst (v := 2) C0.x C0.b dL_step_17 (by decide) ?_
      exact r_iret C0 rfl hw hV dL_step_18
    · refine r_catch C0 [⟨0, 8, 11, 13⟩, ⟨0, 8, 15, 19⟩] [] (htab.trans rfl) (List.forall_mem_cons.mpr ⟨Or.inr ⟨by decide, "java/lang/IllegalStateException", C0.ts _ tk_L_step_13, C0.en.2.2.2.2.2.2.2 _ (by decide) _ (by decide) (by decide)⟩, (List.forall_mem_cons.mpr ⟨Or.inr ⟨by decide, "java/util/NoSuchElementException", C0.ts _ tk_L_step_19, C0.en.2.2.2.2.2.2.2 _ (by decide) _ (by decide) (by decide)⟩, (List.forall_mem_nil _)⟩)⟩) (by decide) (by decide) (C0.ts _ tk_L_step_25) (va_Nw.use rfl (C0.en.2.2.2.2.2.2.1 _ (by decide))) hce hcv hcl ?_
      refine lv_astore (lv' := [(4, .ref q9), (0, .ref (ad 0)), (1, .long p1), (3, .ref (ad 64))]) C0.x C0.b dL_step_19 hl (by decide) rfl (fun ls hl => ?_)
      refine lv_iconst (v := 3) C0.x C0.b dL_step_21 (by decide) ?_
      exact r_iret C0 rfl hw hV dL_step_22
  · refine r_last C0 hw (lg_64 ad cI cJ X S2) hV.1 dL_step_7 (S' := (sA S2 41 (vp_updL (gA S2 41) (0 : Int32).toNatClampNeg r1))) (ls_64 ad cI cJ X S2 (vp_updL (gA S2 41) (0 : Int32).toNatClampNeg r1)) (fun S3 H locs eS3 hw => ?_)
    have hV := hV.2 S3 eS3
    refine lv_goto (tgt := 23) C0.x C0.b dL_step_8 (by decide) ?_
    refine lv_iconst (v := 0) C0.x C0.b dL_step_23 (by decide) ?_
    exact r_iret C0 rfl hw hV dL_step_24
/-! StepBenchLaw.run(LStepBench;JI[J)I -/
abbrev rm_L_run : Room := { frames := 8, cells := 2, slots := 12, locals := 159 }
set_option maxRecDepth 20000 in
theorem tk_L_run_31 : Cond.classLink RL 31 "java/lang/IllegalArgumentException" ∈ wsnL_run := by decide +kernel
set_option maxRecDepth 20000 in
theorem tk_L_run_13 : Cond.classLink RL 13 "java/lang/IllegalStateException" ∈ wsnL_run := by decide +kernel
set_option maxRecDepth 20000 in
theorem tk_L_run_19 : Cond.classLink RL 19 "java/util/NoSuchElementException" ∈ wsnL_run := by decide +kernel
set_option maxRecDepth 20000 in
theorem tk_L_run_25 : Cond.classLink RL 25 "java/lang/ArithmeticException" ∈ wsnL_run := by decide +kernel
set_option maxRecDepth 20000 in
theorem hd_L_run : yL_run.cls ≠ "java/lang/invoke/MethodHandle" ∧ yL_run.cls ≠ "java/lang/invoke/VarHandle" ∧ (parseMethodDescriptor yL_run.desc).map (fun d => d.parameters.length) = some 4 := by decide +kernel
def V_L_run  (p1 : Int64) (p2 : Int32) (S : SS) (post : Int32 → SS → Prop) : Prop :=
  (V_X7_run p1 p2 S (fun (r1 : Int64) (S2 : SS) => (vp_in (0 : Int32) 1 ∧ ∀ S3 : SS, S3 = (sA S2 41 (vp_updL (gA S2 41) (0 : Int32).toNatClampNeg r1)) → (post (0 : Int32) S3))) (fun (E : String) (S8 : SS) => (E = "java/lang/IllegalArgumentException" ∧ (post (1 : Int32) S8)) ∨ (E = "java/lang/IllegalStateException" ∧ (post (2 : Int32) S8)) ∨ (E = "java/util/NoSuchElementException" ∧ (post (3 : Int32) S8)) ∨ (E = "java/lang/ArithmeticException" ∧ (post (4 : Int32) S8))))
set_option maxHeartbeats 4000000 in
set_option maxRecDepth 100000 in
theorem c_L_run (hlt : l.stackTraces = false)  {S : SS} {p1 : Int64} {p2 : Int32} {post : Int32 → SS → Prop} (hV : V_L_run  p1 p2 S post) : MIc l yL_run wsnL_run rm_L_run [.ref (ad 0), .long p1, .int p2, .ref (ad 64)] D n0 ad cI cJ X S post 2 12 := by
  refine va_MetW (cc := cL_run) (maxL := 6) (ret := (some .int)) (hh := [(0, 10, 13, 31), (0, 10, 17, 13), (0, 10, 21, 19), (0, 10, 25, 25)]) (by decide) rfl ?_
  intro p e s m args below meth c s₁ B hml hv
  have htab := vx_table (x := yL_run) B (atoms_spec (ws := wsnL_run) B.pre _ List.mem_cons_self)
  obtain ⟨rfl, hv⟩ := hv
  have C0 := Bd.mk B hml (atoms_spec (ws := wsnL_run) B.pre) (findClass_of_methodNamed B.named) hv.1
  have hw : Wh D n0 ad cI cJ X S s s.heap [] := ⟨hv.2.1, hv.2.2, va_S.rf⟩
  refine r_entry (Nat.le_of_ble_eq_true rfl) (fun ls hl => ?_)
  have hl : lv_has ls 6 [(0, .ref (ad 0)), (1, .long p1), (3, .int p2), (4, .ref (ad 64))] := hl
  unfold V_L_run at hV
  refine lv_aload C0.x C0.b dL_run_0 (lv_at hl 3 rfl) ?_
  refine lv_iconst (v := 0) C0.x C0.b dL_run_2 (by decide) ?_
  refine lv_aload_n C0.x C0.b dL_run_3 rfl (lv_at hl 0 rfl) ?_
  refine lv_lload_n C0.x C0.b dL_run_4 rfl (lv_at hl 1 rfl) ?_
  refine lv_iload_n C0.x C0.b dL_run_5 rfl (lv_at hl 2 rfl) ?_
  refine r_xV_l (As := [.long p1, .int p2]) (rest := [.int (0 : Int32), .ref (ad 64)]) C0 hw (c_X7_run hlt  hV) (cwV 2 C0.ts ngL_run_X7_run rfl rfl rfl hd_X7_run ⟨Nat.le_of_ble_eq_true rfl, Nat.le_of_ble_eq_true rfl⟩) (lg_0 ad cI cJ X S) rfl rfl hl.1 rfl (Nat.le_of_ble_eq_true rfl) ⟨Nat.le_of_ble_eq_true rfl, Nat.le_of_ble_eq_true rfl⟩ dL_run_6 (fun E ce q9 S8 H locs hV hw hce hcv hcl => ?_) (fun r1 S2 H locs hV hw => ?_)
  · rcases hV with ⟨rfl, hV⟩ | ⟨rfl, hV⟩ | ⟨rfl, hV⟩ | ⟨rfl, hV⟩
    · refine r_catch C0 [] [⟨0, 10, 17, 13⟩, ⟨0, 10, 21, 19⟩, ⟨0, 10, 25, 25⟩] (htab.trans rfl) (List.forall_mem_nil _) (by decide) (by decide) (C0.ts _ tk_L_run_31) (va_Nw.use rfl (C0.en.2.2.2.2.2.2.1 _ (by decide))) hce hcv hcl ?_
      refine lv_astore (lv' := [(5, .ref q9), (0, .ref (ad 0)), (1, .long p1), (3, .int p2), (4, .ref (ad 64))]) C0.x C0.b dL_run_13 hl (by decide) rfl (fun ls hl => ?_)
      refine lv_iconst (v := 1) C0.x C0.b dL_run_15 (by decide) ?_
      exact r_iret C0 rfl hw hV dL_run_16
    · refine r_catch C0 [⟨0, 10, 13, 31⟩] [⟨0, 10, 21, 19⟩, ⟨0, 10, 25, 25⟩] (htab.trans rfl) (List.forall_mem_cons.mpr ⟨Or.inr ⟨by decide, "java/lang/IllegalArgumentException", C0.ts _ tk_L_run_31, C0.en.2.2.2.2.2.2.2 _ (by decide) _ (by decide) (by decide)⟩, (List.forall_mem_nil _)⟩) (by decide) (by decide) (C0.ts _ tk_L_run_13) (va_Nw.use rfl (C0.en.2.2.2.2.2.2.1 _ (by decide))) hce hcv hcl ?_
      refine lv_astore (lv' := [(5, .ref q9), (0, .ref (ad 0)), (1, .long p1), (3, .int p2), (4, .ref (ad 64))]) C0.x C0.b dL_run_17 hl (by decide) rfl (fun ls hl => ?_)
      refine lv_iconst (v := 2) C0.x C0.b dL_run_19 (by decide) ?_
      exact r_iret C0 rfl hw hV dL_run_20
    · refine r_catch C0 [⟨0, 10, 13, 31⟩, ⟨0, 10, 17, 13⟩] [⟨0, 10, 25, 25⟩] (htab.trans rfl) (List.forall_mem_cons.mpr ⟨Or.inr ⟨by decide, "java/lang/IllegalArgumentException", C0.ts _ tk_L_run_31, C0.en.2.2.2.2.2.2.2 _ (by decide) _ (by decide) (by decide)⟩, (List.forall_mem_cons.mpr ⟨Or.inr ⟨by decide, "java/lang/IllegalStateException", C0.ts _ tk_L_run_13, C0.en.2.2.2.2.2.2.2 _ (by decide) _ (by decide) (by decide)⟩, (List.forall_mem_nil _)⟩)⟩) (by decide) (by decide) (C0.ts _ tk_L_run_19) (va_Nw.use rfl (C0.en.2.2.2.2.2.2.1 _ (by decide))) hce hcv hcl ?_
      refine lv_astore (lv' := [(5, .ref q9), (0, .ref (ad 0)), (1, .long p1), (3, .int p2), (4, .ref (ad 64))]) C0.x C0.b dL_run_21 hl (by decide) rfl (fun ls hl => ?_)
      refine lv_iconst (v := 3) C0.x C0.b dL_run_23 (by decide) ?_
      exact r_iret C0 rfl hw hV dL_run_24
    · refine r_catch C0 [⟨0, 10, 13, 31⟩, ⟨0, 10, 17, 13⟩, ⟨0, 10, 21, 19⟩] [] (htab.trans rfl) (List.forall_mem_cons.mpr ⟨Or.inr ⟨by decide, "java/lang/IllegalArgumentException", C0.ts _ tk_L_run_31, C0.en.2.2.2.2.2.2.2 _ (by decide) _ (by decide) (by decide)⟩, (List.forall_mem_cons.mpr ⟨Or.inr ⟨by decide, "java/lang/IllegalStateException", C0.ts _ tk_L_run_13, C0.en.2.2.2.2.2.2.2 _ (by decide) _ (by decide) (by decide)⟩, (List.forall_mem_cons.mpr ⟨Or.inr ⟨by decide, "java/util/NoSuchElementException", C0.ts _ tk_L_run_19, C0.en.2.2.2.2.2.2.2 _ (by decide) _ (by decide) (by decide)⟩, (List.forall_mem_nil _)⟩)⟩)⟩) (by decide) (by decide) (C0.ts _ tk_L_run_25) (va_Nw.use rfl (C0.en.2.2.2.2.2.2.1 _ (by decide))) hce hcv hcl ?_
      refine lv_astore (lv' := [(5, .ref q9), (0, .ref (ad 0)), (1, .long p1), (3, .int p2), (4, .ref (ad 64))]) C0.x C0.b dL_run_25 hl (by decide) rfl (fun ls hl => ?_)
      refine lv_iconst (v := 4) C0.x C0.b dL_run_27 (by decide) ?_
      exact r_iret C0 rfl hw hV dL_run_28
  · refine r_last C0 hw (lg_64 ad cI cJ X S2) hV.1 dL_run_9 (S' := (sA S2 41 (vp_updL (gA S2 41) (0 : Int32).toNatClampNeg r1))) (ls_64 ad cI cJ X S2 (vp_updL (gA S2 41) (0 : Int32).toNatClampNeg r1)) (fun S3 H locs eS3 hw => ?_)
    have hV := hV.2 S3 eS3
    refine lv_goto (tgt := 29) C0.x C0.b dL_run_10 (by decide) ?_
    refine lv_iconst (v := 0) C0.x C0.b dL_run_29 (by decide) ?_
    exact r_iret C0 rfl hw hV dL_run_30
/-! StepBenchLaw.peak(LStepBench;JI[J)I -/
abbrev rm_L_peak : Room := { frames := 8, cells := 1, slots := 6, locals := 161 }
set_option maxRecDepth 20000 in
theorem tk_L_peak_31 : Cond.classLink RL 31 "java/lang/IllegalArgumentException" ∈ wsL_peak := by decide +kernel
set_option maxRecDepth 20000 in
theorem tk_L_peak_13 : Cond.classLink RL 13 "java/lang/IllegalStateException" ∈ wsL_peak := by decide +kernel
set_option maxRecDepth 20000 in
theorem tk_L_peak_25 : Cond.classLink RL 25 "java/lang/ArithmeticException" ∈ wsL_peak := by decide +kernel
set_option maxRecDepth 20000 in
theorem hd_L_peak : yL_peak.cls ≠ "java/lang/invoke/MethodHandle" ∧ yL_peak.cls ≠ "java/lang/invoke/VarHandle" ∧ (parseMethodDescriptor yL_peak.desc).map (fun d => d.parameters.length) = some 4 := by decide +kernel
def V_L_peak  (p1 : Int64) (p2 : Int32) (S : SS) (post : Int32 → SS → Prop) : Prop :=
  (V_X7_peak p1 p2 S (fun (r1 : Int64) (S2 : SS) => (vp_in (0 : Int32) 1 ∧ ∀ S3 : SS, S3 = (sA S2 41 (vp_updL (gA S2 41) (0 : Int32).toNatClampNeg r1)) → (post (0 : Int32) S3))) (fun (E : String) (S7 : SS) => (E = "java/lang/IllegalArgumentException" ∧ (post (1 : Int32) S7)) ∨ (E = "java/lang/IllegalStateException" ∧ (post (2 : Int32) S7)) ∨ (E = "java/lang/ArithmeticException" ∧ (post (3 : Int32) S7))))
set_option maxHeartbeats 4000000 in
set_option maxRecDepth 100000 in
theorem c_L_peak (hlt : l.stackTraces = false)  {S : SS} {p1 : Int64} {p2 : Int32} {post : Int32 → SS → Prop} (hV : V_L_peak  p1 p2 S post) : MIc l yL_peak wsL_peak rm_L_peak [.ref (ad 0), .long p1, .int p2, .ref (ad 64)] D n0 ad cI cJ X S post 1 6 := by
  refine va_MetW (cc := cL_peak) (maxL := 6) (ret := (some .int)) (hh := [(0, 10, 13, 31), (0, 10, 17, 13), (0, 10, 21, 25)]) (by decide) rfl ?_
  intro p e s m args below meth c s₁ B hml hv
  have htab := vx_table (x := yL_peak) B (atoms_spec (ws := wsL_peak) B.pre _ List.mem_cons_self)
  obtain ⟨rfl, hv⟩ := hv
  have C0 := Bd.mk B hml (atoms_spec (ws := wsL_peak) B.pre) (findClass_of_methodNamed B.named) hv.1
  have hw : Wh D n0 ad cI cJ X S s s.heap [] := ⟨hv.2.1, hv.2.2, va_S.rf⟩
  refine r_entry (Nat.le_of_ble_eq_true rfl) (fun ls hl => ?_)
  have hl : lv_has ls 6 [(0, .ref (ad 0)), (1, .long p1), (3, .int p2), (4, .ref (ad 64))] := hl
  unfold V_L_peak at hV
  refine lv_aload C0.x C0.b dL_peak_0 (lv_at hl 3 rfl) ?_
  refine lv_iconst (v := 0) C0.x C0.b dL_peak_2 (by decide) ?_
  refine lv_aload_n C0.x C0.b dL_peak_3 rfl (lv_at hl 0 rfl) ?_
  refine lv_lload_n C0.x C0.b dL_peak_4 rfl (lv_at hl 1 rfl) ?_
  refine lv_iload_n C0.x C0.b dL_peak_5 rfl (lv_at hl 2 rfl) ?_
  refine r_xV_l (As := [.long p1, .int p2]) (rest := [.int (0 : Int32), .ref (ad 64)]) C0 hw (c_X7_peak hlt  hV) (cwV 2 C0.ts gL_peak_X7_peak rfl rfl rfl hd_X7_peak ⟨Nat.le_of_ble_eq_true rfl, Nat.le_of_ble_eq_true rfl⟩) (lg_0 ad cI cJ X S) rfl rfl hl.1 rfl (Nat.le_of_ble_eq_true rfl) ⟨Nat.le_of_ble_eq_true rfl, Nat.le_of_ble_eq_true rfl⟩ dL_peak_6 (fun E ce q9 S7 H locs hV hw hce hcv hcl => ?_) (fun r1 S2 H locs hV hw => ?_)
  · rcases hV with ⟨rfl, hV⟩ | ⟨rfl, hV⟩ | ⟨rfl, hV⟩
    · refine r_catch C0 [] [⟨0, 10, 17, 13⟩, ⟨0, 10, 21, 25⟩] (htab.trans rfl) (List.forall_mem_nil _) (by decide) (by decide) (C0.ts _ tk_L_peak_31) (va_Nw.use rfl (C0.en.2.2.2.2.2.2.1 _ (by decide))) hce hcv hcl ?_
      refine lv_astore (lv' := [(5, .ref q9), (0, .ref (ad 0)), (1, .long p1), (3, .int p2), (4, .ref (ad 64))]) C0.x C0.b dL_peak_13 hl (by decide) rfl (fun ls hl => ?_)
      refine lv_iconst (v := 1) C0.x C0.b dL_peak_15 (by decide) ?_
      exact r_iret C0 rfl hw hV dL_peak_16
    · refine r_catch C0 [⟨0, 10, 13, 31⟩] [⟨0, 10, 21, 25⟩] (htab.trans rfl) (List.forall_mem_cons.mpr ⟨Or.inr ⟨by decide, "java/lang/IllegalArgumentException", C0.ts _ tk_L_peak_31, C0.en.2.2.2.2.2.2.2 _ (by decide) _ (by decide) (by decide)⟩, (List.forall_mem_nil _)⟩) (by decide) (by decide) (C0.ts _ tk_L_peak_13) (va_Nw.use rfl (C0.en.2.2.2.2.2.2.1 _ (by decide))) hce hcv hcl ?_
      refine lv_astore (lv' := [(5, .ref q9), (0, .ref (ad 0)), (1, .long p1), (3, .int p2), (4, .ref (ad 64))]) C0.x C0.b dL_peak_17 hl (by decide) rfl (fun ls hl => ?_)
      refine lv_iconst (v := 2) C0.x C0.b dL_peak_19 (by decide) ?_
      exact r_iret C0 rfl hw hV dL_peak_20
    · refine r_catch C0 [⟨0, 10, 13, 31⟩, ⟨0, 10, 17, 13⟩] [] (htab.trans rfl) (List.forall_mem_cons.mpr ⟨Or.inr ⟨by decide, "java/lang/IllegalArgumentException", C0.ts _ tk_L_peak_31, C0.en.2.2.2.2.2.2.2 _ (by decide) _ (by decide) (by decide)⟩, (List.forall_mem_cons.mpr ⟨Or.inr ⟨by decide, "java/lang/IllegalStateException", C0.ts _ tk_L_peak_13, C0.en.2.2.2.2.2.2.2 _ (by decide) _ (by decide) (by decide)⟩, (List.forall_mem_nil _)⟩)⟩) (by decide) (by decide) (C0.ts _ tk_L_peak_25) (va_Nw.use rfl (C0.en.2.2.2.2.2.2.1 _ (by decide))) hce hcv hcl ?_
      refine lv_astore (lv' := [(5, .ref q9), (0, .ref (ad 0)), (1, .long p1), (3, .int p2), (4, .ref (ad 64))]) C0.x C0.b dL_peak_21 hl (by decide) rfl (fun ls hl => ?_)
      refine lv_iconst (v := 3) C0.x C0.b dL_peak_23 (by decide) ?_
      exact r_iret C0 rfl hw hV dL_peak_24
  · refine r_last C0 hw (lg_64 ad cI cJ X S2) hV.1 dL_peak_9 (S' := (sA S2 41 (vp_updL (gA S2 41) (0 : Int32).toNatClampNeg r1))) (ls_64 ad cI cJ X S2 (vp_updL (gA S2 41) (0 : Int32).toNatClampNeg r1)) (fun S3 H locs eS3 hw => ?_)
    have hV := hV.2 S3 eS3
    refine lv_goto (tgt := 25) C0.x C0.b dL_peak_10 (by decide) ?_
    refine lv_iconst (v := 0) C0.x C0.b dL_peak_25 (by decide) ?_
    exact r_iret C0 rfl hw hV dL_peak_26
/-! StepBenchLaw.begins(LStepBench;IIII[J)I -/
abbrev rm_L_begins : Room := { frames := 7, cells := 1, slots := 6, locals := 136 }
set_option maxRecDepth 20000 in
theorem tk_L_begins_31 : Cond.classLink RL 31 "java/lang/IllegalArgumentException" ∈ wsL_begins := by decide +kernel
set_option maxRecDepth 20000 in
theorem tk_L_begins_25 : Cond.classLink RL 25 "java/lang/ArithmeticException" ∈ wsL_begins := by decide +kernel
set_option maxRecDepth 20000 in
theorem hd_L_begins : yL_begins.cls ≠ "java/lang/invoke/MethodHandle" ∧ yL_begins.cls ≠ "java/lang/invoke/VarHandle" ∧ (parseMethodDescriptor yL_begins.desc).map (fun d => d.parameters.length) = some 6 := by decide +kernel
def V_L_begins  (p1 : Int32) (p2 : Int32) (p3 : Int32) (p4 : Int32) (S : SS) (post : Int32 → SS → Prop) : Prop :=
  (V_X7_begins p1 p2 p3 p4 S (fun (r1 : Int64) (S2 : SS) => (vp_in (0 : Int32) 1 ∧ ∀ S3 : SS, S3 = (sA S2 41 (vp_updL (gA S2 41) (0 : Int32).toNatClampNeg r1)) → (post (0 : Int32) S3))) (fun (E : String) (S6 : SS) => (E = "java/lang/IllegalArgumentException" ∧ (post (1 : Int32) S6)) ∨ (E = "java/lang/ArithmeticException" ∧ (post (2 : Int32) S6))))
set_option maxHeartbeats 4000000 in
set_option maxRecDepth 100000 in
theorem c_L_begins (hlt : l.stackTraces = false)  {S : SS} {p1 : Int32} {p2 : Int32} {p3 : Int32} {p4 : Int32} {post : Int32 → SS → Prop} (hV : V_L_begins  p1 p2 p3 p4 S post) : MIc l yL_begins wsL_begins rm_L_begins [.ref (ad 0), .int p1, .int p2, .int p3, .int p4, .ref (ad 64)] D n0 ad cI cJ X S post 1 6 := by
  refine va_MetW (cc := cL_begins) (maxL := 7) (ret := (some .int)) (hh := [(0, 13, 16, 31), (0, 13, 20, 25)]) (by decide) rfl ?_
  intro p e s m args below meth c s₁ B hml hv
  have htab := vx_table (x := yL_begins) B (atoms_spec (ws := wsL_begins) B.pre _ List.mem_cons_self)
  obtain ⟨rfl, hv⟩ := hv
  have C0 := Bd.mk B hml (atoms_spec (ws := wsL_begins) B.pre) (findClass_of_methodNamed B.named) hv.1
  have hw : Wh D n0 ad cI cJ X S s s.heap [] := ⟨hv.2.1, hv.2.2, va_S.rf⟩
  refine r_entry (Nat.le_of_ble_eq_true rfl) (fun ls hl => ?_)
  have hl : lv_has ls 7 [(0, .ref (ad 0)), (1, .int p1), (2, .int p2), (3, .int p3), (4, .int p4), (5, .ref (ad 64))] := hl
  unfold V_L_begins at hV
  refine lv_aload C0.x C0.b dL_begins_0 (lv_at hl 5 rfl) ?_
  refine lv_iconst (v := 0) C0.x C0.b dL_begins_2 (by decide) ?_
  refine lv_aload_n C0.x C0.b dL_begins_3 rfl (lv_at hl 0 rfl) ?_
  refine lv_iload_n C0.x C0.b dL_begins_4 rfl (lv_at hl 1 rfl) ?_
  refine lv_iload_n C0.x C0.b dL_begins_5 rfl (lv_at hl 2 rfl) ?_
  refine lv_iload_n C0.x C0.b dL_begins_6 rfl (lv_at hl 3 rfl) ?_
  refine lv_iload C0.x C0.b dL_begins_7 (lv_at hl 4 rfl) ?_
  refine r_xV_l (As := [.int p1, .int p2, .int p3, .int p4]) (rest := [.int (0 : Int32), .ref (ad 64)]) C0 hw (c_X7_begins hlt  hV) (cwV 4 C0.ts gL_begins_X7_begins rfl rfl rfl hd_X7_begins ⟨Nat.le_of_ble_eq_true rfl, Nat.le_of_ble_eq_true rfl⟩) (lg_0 ad cI cJ X S) rfl rfl hl.1 rfl (Nat.le_of_ble_eq_true rfl) ⟨Nat.le_of_ble_eq_true rfl, Nat.le_of_ble_eq_true rfl⟩ dL_begins_9 (fun E ce q9 S6 H locs hV hw hce hcv hcl => ?_) (fun r1 S2 H locs hV hw => ?_)
  · rcases hV with ⟨rfl, hV⟩ | ⟨rfl, hV⟩
    · refine r_catch C0 [] [⟨0, 13, 20, 25⟩] (htab.trans rfl) (List.forall_mem_nil _) (by decide) (by decide) (C0.ts _ tk_L_begins_31) (va_Nw.use rfl (C0.en.2.2.2.2.2.2.1 _ (by decide))) hce hcv hcl ?_
      refine lv_astore (lv' := [(6, .ref q9), (0, .ref (ad 0)), (1, .int p1), (2, .int p2), (3, .int p3), (4, .int p4), (5, .ref (ad 64))]) C0.x C0.b dL_begins_16 hl (by decide) rfl (fun ls hl => ?_)
      refine lv_iconst (v := 1) C0.x C0.b dL_begins_18 (by decide) ?_
      exact r_iret C0 rfl hw hV dL_begins_19
    · refine r_catch C0 [⟨0, 13, 16, 31⟩] [] (htab.trans rfl) (List.forall_mem_cons.mpr ⟨Or.inr ⟨by decide, "java/lang/IllegalArgumentException", C0.ts _ tk_L_begins_31, C0.en.2.2.2.2.2.2.2 _ (by decide) _ (by decide) (by decide)⟩, (List.forall_mem_nil _)⟩) (by decide) (by decide) (C0.ts _ tk_L_begins_25) (va_Nw.use rfl (C0.en.2.2.2.2.2.2.1 _ (by decide))) hce hcv hcl ?_
      refine lv_astore (lv' := [(6, .ref q9), (0, .ref (ad 0)), (1, .int p1), (2, .int p2), (3, .int p3), (4, .int p4), (5, .ref (ad 64))]) C0.x C0.b dL_begins_20 hl (by decide) rfl (fun ls hl => ?_)
      refine lv_iconst (v := 2) C0.x C0.b dL_begins_22 (by decide) ?_
      exact r_iret C0 rfl hw hV dL_begins_23
  · refine r_last C0 hw (lg_64 ad cI cJ X S2) hV.1 dL_begins_12 (S' := (sA S2 41 (vp_updL (gA S2 41) (0 : Int32).toNatClampNeg r1))) (ls_64 ad cI cJ X S2 (vp_updL (gA S2 41) (0 : Int32).toNatClampNeg r1)) (fun S3 H locs eS3 hw => ?_)
    have hV := hV.2 S3 eS3
    refine lv_goto (tgt := 24) C0.x C0.b dL_begins_13 (by decide) ?_
    refine lv_iconst (v := 0) C0.x C0.b dL_begins_24 (by decide) ?_
    exact r_iret C0 rfl hw hV dL_begins_25
/-! StepBenchLaw.row(LStepBench;I[J)I -/
abbrev rm_L_row : Room := { frames := 7, cells := 1, slots := 6, locals := 131 }
set_option maxRecDepth 20000 in
theorem tk_L_row_19 : Cond.classLink RL 19 "java/util/NoSuchElementException" ∈ wsnL_row := by decide +kernel
set_option maxRecDepth 20000 in
theorem hd_L_row : yL_row.cls ≠ "java/lang/invoke/MethodHandle" ∧ yL_row.cls ≠ "java/lang/invoke/VarHandle" ∧ (parseMethodDescriptor yL_row.desc).map (fun d => d.parameters.length) = some 3 := by decide +kernel
def V_L_row  (p1 : Int32) (S : SS) (post : Int32 → SS → Prop) : Prop :=
  (V_X7_row p1 S (fun (r1 : Int64) (S2 : SS) => (vp_in (0 : Int32) 1 ∧ ∀ S3 : SS, S3 = (sA S2 41 (vp_updL (gA S2 41) (0 : Int32).toNatClampNeg r1)) → (post (0 : Int32) S3))) (fun (E : String) (S5 : SS) => (E = "java/util/NoSuchElementException" ∧ (post (1 : Int32) S5))))
set_option maxHeartbeats 4000000 in
set_option maxRecDepth 100000 in
theorem c_L_row (hlt : l.stackTraces = false)  {S : SS} {p1 : Int32} {post : Int32 → SS → Prop} (hV : V_L_row  p1 S post) : MIc l yL_row wsnL_row rm_L_row [.ref (ad 0), .int p1, .ref (ad 64)] D n0 ad cI cJ X S post 1 6 := by
  refine va_MetW (cc := cL_row) (maxL := 4) (ret := (some .int)) (hh := [(0, 8, 11, 19)]) (by decide) rfl ?_
  intro p e s m args below meth c s₁ B hml hv
  have htab := vx_table (x := yL_row) B (atoms_spec (ws := wsnL_row) B.pre _ List.mem_cons_self)
  obtain ⟨rfl, hv⟩ := hv
  have C0 := Bd.mk B hml (atoms_spec (ws := wsnL_row) B.pre) (findClass_of_methodNamed B.named) hv.1
  have hw : Wh D n0 ad cI cJ X S s s.heap [] := ⟨hv.2.1, hv.2.2, va_S.rf⟩
  refine r_entry (Nat.le_of_ble_eq_true rfl) (fun ls hl => ?_)
  have hl : lv_has ls 4 [(0, .ref (ad 0)), (1, .int p1), (2, .ref (ad 64))] := hl
  unfold V_L_row at hV
  refine lv_aload_n C0.x C0.b dL_row_0 rfl (lv_at hl 2 rfl) ?_
  refine lv_iconst (v := 0) C0.x C0.b dL_row_1 (by decide) ?_
  refine lv_aload_n C0.x C0.b dL_row_2 rfl (lv_at hl 0 rfl) ?_
  refine lv_iload_n C0.x C0.b dL_row_3 rfl (lv_at hl 1 rfl) ?_
  refine r_xV_l (As := [.int p1]) (rest := [.int (0 : Int32), .ref (ad 64)]) C0 hw (c_X7_row hlt  hV) (cwV 1 C0.ts ngL_row_X7_row rfl rfl rfl hd_X7_row ⟨Nat.le_of_ble_eq_true rfl, Nat.le_of_ble_eq_true rfl⟩) (lg_0 ad cI cJ X S) rfl rfl hl.1 rfl (Nat.le_of_ble_eq_true rfl) ⟨Nat.le_of_ble_eq_true rfl, Nat.le_of_ble_eq_true rfl⟩ dL_row_4 (fun E ce q9 S5 H locs hV hw hce hcv hcl => ?_) (fun r1 S2 H locs hV hw => ?_)
  · obtain ⟨rfl, hV⟩ := hV
    refine r_catch C0 [] [] (htab.trans rfl) (List.forall_mem_nil _) (by decide) (by decide) (C0.ts _ tk_L_row_19) (va_Nw.use rfl (C0.en.2.2.2.2.2.2.1 _ (by decide))) hce hcv hcl ?_
    refine lv_astore_n (lv' := [(3, .ref q9), (0, .ref (ad 0)), (1, .int p1), (2, .ref (ad 64))]) C0.x C0.b dL_row_11 rfl hl (by decide) rfl (fun ls hl => ?_)
    refine lv_iconst (v := 1) C0.x C0.b dL_row_12 (by decide) ?_
    exact r_iret C0 rfl hw hV dL_row_13
  · refine r_last C0 hw (lg_64 ad cI cJ X S2) hV.1 dL_row_7 (S' := (sA S2 41 (vp_updL (gA S2 41) (0 : Int32).toNatClampNeg r1))) (ls_64 ad cI cJ X S2 (vp_updL (gA S2 41) (0 : Int32).toNatClampNeg r1)) (fun S3 H locs eS3 hw => ?_)
    have hV := hV.2 S3 eS3
    refine lv_goto (tgt := 14) C0.x C0.b dL_row_8 (by decide) ?_
    refine lv_iconst (v := 0) C0.x C0.b dL_row_14 (by decide) ?_
    exact r_iret C0 rfl hw hV dL_row_15
end
