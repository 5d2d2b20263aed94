/-! DRIFT: digits of nine figures -/
abbrev B9 : Nat := 1000000000
def dgN (N i : Nat) : Nat := N / B9 ^ i % B9
def cyN (N w i : Nat) : Nat := N % B9 ^ i * w / B9 ^ i
def DG (f : Nat → Int64) (N n : Nat) : Prop := ∀ i, i < n → f i = lN (dgN N i)
theorem b9_pos (i : Nat) : 0 < B9 ^ i := Nat.pow_pos (by decide)
theorem dgN_lt (N i : Nat) : dgN N i < B9 := Nat.mod_lt _ (by decide)
theorem cyN_le (N w i : Nat) : cyN N w i ≤ w := by
  unfold cyN
  refine Nat.div_le_of_le_mul ?_
  exact Nat.mul_le_mul_right w (Nat.le_of_lt (Nat.mod_lt _ (b9_pos i)))
theorem cyN_0 (N w : Nat) : cyN N w 0 = 0 := by
  unfold cyN
  rw [Nat.pow_zero, Nat.mod_one, Nat.zero_mul, Nat.zero_div]
theorem low_eq (N w i : Nat) : N % B9 ^ (i + 1) * w / B9 ^ i = dgN N i * w + cyN N w i := by
  unfold dgN cyN
  rw [Nat.mod_pow_succ, Nat.add_mul, Nat.mul_assoc, Nat.add_mul_div_left _ _ (b9_pos i), Nat.add_comm]
theorem cyN_succ (N w i : Nat) : cyN N w (i + 1) = (dgN N i * w + cyN N w i) / B9 := by
  rw [← low_eq, Nat.div_div_eq_div_mul, ← Nat.pow_succ]
  rfl
theorem dgN_mul (N w i : Nat) : dgN (N * w) i = (dgN N i * w + cyN N w i) % B9 := by
  rw [← low_eq]
  show N * w / B9 ^ i % B9 = _
  have e : N * w = N % B9 ^ (i + 1) * w + B9 ^ i * (B9 * (N / B9 ^ (i + 1) * w)) := by
    conv => lhs; rw [← Nat.mod_add_div N (B9 ^ (i + 1))]
    rw [Nat.add_mul, Nat.pow_succ, Nat.mul_assoc, Nat.mul_assoc]
  rw [e, Nat.add_mul_div_left _ _ (b9_pos i), Nat.add_mul_mod_self_left]
theorem dgN_1 (i : Nat) : dgN 1 i = if i = 0 then 1 else 0 := by
  unfold dgN
  by_cases c : i = 0
  · subst c; rfl
  · rw [if_neg c]
    have h : 1 < B9 ^ i := by
      obtain ⟨j, rfl⟩ : ∃ j, i = j + 1 := ⟨i - 1, by omega⟩
      rw [Nat.pow_succ]
      have := b9_pos j
      have h2 : 1 * B9 ≤ B9 ^ j * B9 := Nat.mul_le_mul_right _ this
      exact Nat.lt_of_lt_of_le (by decide) h2
    rw [Nat.div_eq_of_lt h, Nat.zero_mod]
theorem dg_lN (N w i : Nat) (hw : w ≤ 1000) : dgN N i * w + cyN N w i ≤ 1000000001000 := by
  have h1 := dgN_lt N i
  have h2 := cyN_le N w i
  have h3 : dgN N i * w ≤ 1000000000 * 1000 := Nat.mul_le_mul (Nat.le_of_lt h1) hw
  omega
theorem dg_here {f : Nat → Int64} {N w n i : Nat} (h : f i = lN (dgN N i)) (hw : w ≤ 1000) : (f i * lN w) + lN (cyN N w i) = lN (dgN N i * w + cyN N w i) := by
  have h0 := dg_lN N w i hw
  have h1 := dgN_lt N i
  have h2 := cyN_le N w i
  have h3 : dgN N i < 1000000000 := h1
  rw [h, lN_mul]
  have e1 : (lN (dgN N i * w)).toInt = ((dgN N i * w : Nat) : Int) := lN_int (by omega)
  have e2 : (lN (cyN N w i)).toInt = ((cyN N w i : Nat) : Int) := lN_int (by omega)
  exact of64 (by rw [a64 (by rw [e1, e2]; omega) (by rw [e1, e2]; omega), e1, e2]; omega) (by omega)
theorem b9_lN : (1000000000 : Int64) = lN B9 := rfl
/-- the digits up to i are the product's, the rest are N's -/
def MX (f : Nat → Int64) (N w n i : Nat) : Prop := ∀ t, t < n → f t = if t < i then lN (dgN (N * w) t) else lN (dgN N t)
theorem mx_step {f : Nat → Int64} {N w n i : Nat} (h : MX f N w n i) : MX (vp_updL f i (lN (dgN (N * w) i))) N w n (i + 1) := by
  intro t ht
  by_cases c : t = i
  · subst c; rw [updL_eq, if_pos (Nat.lt_succ_self t)]
  · rw [updL_ne _ _ c, h t ht]
    by_cases c2 : t < i
    · rw [if_pos c2, if_pos (by omega)]
    · rw [if_neg c2, if_neg (by omega)]
section
variable {ai : Nat} {N w : Nat} {S : SS} {post : SS → Prop}
theorem x3_mul5 (hw : w ≤ 1000) : ∀ (j i : Nat) (T : SS), i + j = 24 → MX (gA T ai) N w 24 i → (∀ U, Kp [] [] [] [ai] T U → DG (gA U ai) (N * w) 24 → post U) → V_X3_multiply_5 ai (lN w) post (j + 1) (lN (cyN N w i)) (nI i) T := by
  intro j
  induction j with
  | zero =>
    intro i T hi h hp
    obtain rfl : i = 24 := by omega
    rw [V_X3_multiply_5, brt (c := (24 : Int32) ≤ nI 24) (by decide)]
    exact hp T (kp_refl _ _ _ _ T) (fun t ht => by rw [h t ht, if_pos ht])
  | succ j ih =>
    intro i T hi h hp
    have hd := dg_lN N w i hw
    have hf : gA T ai i = lN (dgN N i) := by rw [h i (by omega), if_neg (Nat.lt_irrefl i)]
    rw [V_X3_multiply_5, brf (c := (24 : Int32) ≤ nI i) (nI_ge (b := 24) (by omega) (by omega)), gdt (vp_in_nI (by omega) (by omega)), ale, gdt (vp_in_nI (by omega) (by omega)), ale, ale, ale, nI_clamp (by omega), nadd1, dg_here (n := 24) hf hw, b9_lN, lrm_lN (by omega) (by decide) (by decide), lN_divN (by omega) (by decide) (by decide), ← cyN_succ, ← dgN_mul]
    exact ih (i + 1) _ (by omega) (by rw [gA_sA]; exact mx_step h) (fun U kU hU => hp U (kp_trans (kp_sA (kp_refl _ _ _ _ T) (List.mem_singleton.mpr rfl)) kU) hU)
theorem x3_mul (hw : w ≤ 1000) (h : DG (gA S ai) N 24) (hp : ∀ U, Kp [] [] [] [ai] S U → DG (gA U ai) (N * w) 24 → post U) : V_X3_multiply ai (lN w) S post := by
  have := x3_mul5 (N := N) hw 24 0 S (by omega) (fun t ht => by rw [h t ht, if_neg (by omega)]) hp
  rw [cyN_0] at this
  exact ⟨24 + 1, this⟩
theorem x8_times5 (hw : w ≤ 1000) : ∀ (j i : Nat) (T : SS), i + j = 26 → MX (gA T ai) N w 26 i → (∀ U, Kp [] [] [] [ai] T U → DG (gA U ai) (N * w) 26 → post U) → V_X8_times_5 ai 26 (lN w) post (j + 1) (lN (cyN N w i)) (nI i) T := by
  intro j
  induction j with
  | zero =>
    intro i T hi h hp
    obtain rfl : i = 26 := by omega
    rw [V_X8_times_5, brt (c := (26 : Int32) ≤ nI 26) (by decide)]
    exact hp T (kp_refl _ _ _ _ T) (fun t ht => by rw [h t ht, if_pos ht])
  | succ j ih =>
    intro i T hi h hp
    have hd := dg_lN N w i hw
    have hf : gA T ai i = lN (dgN N i) := by rw [h i (by omega), if_neg (Nat.lt_irrefl i)]
    rw [V_X8_times_5, brf (c := (26 : Int32) ≤ nI i) (nI_ge (b := 26) (by omega) (by omega)), gdt (vp_in_nI (by omega) (by omega)), ale, gdt (vp_in_nI (by omega) (by omega)), ale, ale, ale, nI_clamp (by omega), nadd1, dg_here (n := 26) hf hw, b9_lN, lrm_lN (by omega) (by decide) (by decide), lN_divN (by omega) (by decide) (by decide), ← cyN_succ, ← dgN_mul]
    exact ih (i + 1) _ (by omega) (by rw [gA_sA]; exact mx_step h) (fun U kU hU => hp U (kp_trans (kp_sA (kp_refl _ _ _ _ T) (List.mem_singleton.mpr rfl)) kU) hU)
theorem x8_times (hw : w ≤ 1000) (h : DG (gA S ai) N 26) (hp : ∀ U, Kp [] [] [] [ai] S U → DG (gA U ai) (N * w) 26 → post U) : V_X8_times ai 26 (lN w) S post := by
  have := x8_times5 (N := N) hw 26 0 S (by omega) (fun t ht => by rw [h t ht, if_neg (by omega)]) hp
  rw [cyN_0] at this
  exact ⟨26 + 1, this⟩
theorem x3_begin (hp : ∀ U, Kp [] [] [] [ai] S U → DG (gA U ai) 1 24 → post U) : V_X3_begin ai S post := by
  have key : ∀ (j i : Nat) (T : SS), i + j = 24 → Kp [] [] [] [ai] S T → DG (gA T ai) 1 i → V_X3_begin_2 ai post (j + 1) (nI i) T := by
    intro j
    induction j with
    | zero =>
      intro i T hi kT h
      obtain rfl : i = 24 := by omega
      rw [V_X3_begin_2, brt (c := (24 : Int32) ≤ nI 24) (by decide)]
      exact hp T kT h
    | succ j ih =>
      intro i T hi kT h
      have st : ∀ v : Int64, v = lN (dgN 1 i) → V_X3_begin_2 ai post (j + 1) (nI (i + 1)) (sA T ai (vp_updL (gA T ai) i v)) := fun v hv => by
        refine ih (i + 1) _ (by omega) (kp_sA kT (List.mem_singleton.mpr rfl)) (fun t ht => ?_)
        rw [gA_sA]
        by_cases c : t = i
        · subst c; rw [updL_eq]; exact hv
        · rw [updL_ne _ _ c]; exact h t (by omega)
      rw [V_X3_begin_2, brf (c := (24 : Int32) ≤ nI i) (nI_ge (b := 24) (by omega) (by omega))]
      refine ⟨fun c => ?_, fun c => ?_⟩
      · have c : i = 0 := (nI_inj (b := 0) (by omega) (by omega)).mp c
        rw [gdt (vp_in_nI (by omega) (by omega)), ale, ale, nI_clamp (by omega), nadd1]
        exact st 1 (by rw [dgN_1, if_pos c]; rfl)
      · have c : ¬ i = 0 := fun z => c (by rw [z]; rfl)
        rw [gdt (vp_in_nI (by omega) (by omega)), ale, ale, nI_clamp (by omega), nadd1]
        exact st 0 (by rw [dgN_1, if_neg c]; rfl)
  exact ⟨24 + 1, key 24 0 S (by omega) (kp_refl _ _ _ _ S) (fun t ht => by omega)⟩
theorem x8_set (hp : ∀ U, Kp [] [] [] [ai] S U → DG (gA U ai) 1 26 → post U) : V_X8_set ai 26 1 S post := by
  have key : ∀ (j i : Nat) (T : SS), i + j = 26 → Kp [] [] [] [ai] S T → DG (gA T ai) 1 i → V_X8_set_16 ai 26 post (j + 1) (lN (if i = 0 then 1 else 0)) (nI i) T := by
    intro j
    induction j with
    | zero =>
      intro i T hi kT h
      obtain rfl : i = 26 := by omega
      rw [V_X8_set_16, brt (c := (26 : Int32) ≤ nI 26) (by decide)]
      exact hp T kT h
    | succ j ih =>
      intro i T hi kT h
      rw [V_X8_set_16, brf (c := (26 : Int32) ≤ nI i) (nI_ge (b := 26) (by omega) (by omega)), gdt (vp_in_nI (by omega) (by omega)), ale, ale, ale, nI_clamp (by omega), nadd1]
      have ev : lrm (lN (if i = 0 then 1 else 0)) (1000000000 : Int64) = lN (dgN 1 i) := by
        rw [dgN_1]
        by_cases c : i = 0
        · rw [if_pos c]; decide
        · rw [if_neg c]; decide
      have ed : lN (if i = 0 then 1 else 0) / (1000000000 : Int64) = lN (if i + 1 = 0 then 1 else 0) := by
        rw [if_neg (Nat.succ_ne_zero i)]
        by_cases c : i = 0
        · rw [if_pos c]; decide
        · rw [if_neg c]; decide
      rw [ev, ed]
      refine ih (i + 1) _ (by omega) (kp_sA kT (List.mem_singleton.mpr rfl)) (fun t ht => ?_)
      rw [gA_sA]
      by_cases c : t = i
      · subst c; rw [updL_eq]
      · rw [updL_ne _ _ c]; exact h t (by omega)
  unfold V_X8_set
  rw [brt (c := (0 : Int64) ≤ 1) (by decide)]
  exact ⟨26 + 1, key 26 0 S (by omega) (kp_refl _ _ _ _ S) (fun t ht => by omega)⟩
end
/-- 1, 0, -1 -/
def cmpN (M N : Nat) : Int32 := if M = N then 0 else if M ≤ N then -1 else 1
theorem hi_eq (N i : Nat) : N / B9 ^ i = N / B9 ^ (i + 1) * B9 + dgN N i := by
  unfold dgN
  have := Nat.div_add_mod (N / B9 ^ i) B9
  rw [Nat.div_div_eq_div_mul, ← Nat.pow_succ] at this
  rw [Nat.mul_comm]; exact this.symm
theorem cmp_dg {M N i : Nat} (h : M / B9 ^ (i + 1) = N / B9 ^ (i + 1)) : (dgN M i = dgN N i → M / B9 ^ i = N / B9 ^ i) ∧ (¬ dgN M i = dgN N i → (dgN M i ≤ dgN N i → cmpN M N = -1) ∧ (¬ dgN M i ≤ dgN N i → cmpN M N = 1)) := by
  have e1 := hi_eq M i
  have e2 := hi_eq N i
  rw [h] at e1
  refine ⟨fun c => by rw [e1, e2, c], fun c => ?_⟩
  have ne : ¬ M = N := fun z => c (by rw [z])
  refine ⟨fun c2 => ?_, fun c2 => ?_⟩
  · have : M / B9 ^ i < N / B9 ^ i := by omega
    have l : M ≤ N := Nat.le_of_not_le (fun z => by have := Nat.div_le_div_right (c := B9 ^ i) z; omega)
    unfold cmpN
    rw [if_neg ne, if_pos l]
  · have : N / B9 ^ i < M / B9 ^ i := by omega
    have l : ¬ M ≤ N := fun z => by have := Nat.div_le_div_right (c := B9 ^ i) z; omega
    unfold cmpN
    rw [if_neg ne, if_neg l]
theorem dg_cmp {f g : Nat → Int64} {M N n i : Nat} (hf : DG f M n) (hg : DG g N n) (hi : i < n) : (f i = g i ↔ dgN M i = dgN N i) ∧ (f i ≤ g i ↔ dgN M i ≤ dgN N i) := by
  have h1 : dgN M i < 1000000000 := dgN_lt M i
  have h2 : dgN N i < 1000000000 := dgN_lt N i
  rw [hf i hi, hg i hi]
  exact ⟨pk_lEQ (by omega) (by omega), pk_lLE (by omega) (by omega)⟩
section
variable {M N : Nat} {S : SS} {post : Int32 → SS → Prop}
theorem x3_against (h1 : DG (gA S 20) M 24) (h2 : DG (gA S 21) N 24) (hM : M < B9 ^ 24) (hN : N < B9 ^ 24) (hp : post (cmpN M N) S) : V_X3_against 20 21 S post := by
  have key : ∀ (i : Nat), i ≤ 24 → M / B9 ^ i = N / B9 ^ i → V_X3_against_3 20 21 post (i + 1) (nI i + (-1)) S := by
    intro i
    induction i with
    | zero =>
      intro _ h
      rw [Nat.pow_zero, Nat.div_one, Nat.div_one] at h
      have e : cmpN M N = 0 := if_pos h
      rw [e] at hp
      rw [V_X3_against_3, brt (c := nI 0 + (-1) < (0 : Int32)) (by decide)]
      exact hp
    | succ i ih =>
      intro hi h
      obtain ⟨q1, q2⟩ := cmp_dg h
      obtain ⟨c1, c2⟩ := dg_cmp h1 h2 (show i < 24 by omega)
      rw [V_X3_against_3, nI_m1 (by omega), Nat.add_sub_cancel, brf (nI_pos (by omega)), gdt (vp_in_nI (by omega) (by omega)), gdt (vp_in_nI (by omega) (by omega)), nI_clamp (by omega)]
      refine ⟨fun c => ?_, fun c => ?_⟩
      · rw [ale]
        exact ih (by omega) (q1 (c1.mp c))
      · rw [gdt (vp_in_nI (by omega) (by omega)), gdt (vp_in_nI (by omega) (by omega))]
        obtain ⟨r1, r2⟩ := q2 (fun z => c (c1.mpr z))
        refine ⟨fun z => ?_, fun z => ?_⟩
        · rw [← r1 (c2.mp z)]; exact hp
        · rw [← r2 (fun y => z (c2.mpr y))]; exact hp
  refine ⟨24 + 1, ?_⟩
  have := key 24 (Nat.le_refl _) (by rw [Nat.div_eq_of_lt hM, Nat.div_eq_of_lt hN])
  rw [show nI 24 + (-1) = (23 : Int32) from by decide] at this
  exact this
theorem x8_drift105 (h1 : DG (gA S 37) M 26) (h2 : DG (gA S 38) N 26) (hM : M < B9 ^ 26) (hN : N < B9 ^ 26) (hp : post (cmpN M N) S) : ∃ n, V_X8_drift_105 post n 25 S := by
  have key : ∀ (i : Nat), i ≤ 26 → M / B9 ^ i = N / B9 ^ i → V_X8_drift_105 post (i + 1) (nI i + (-1)) S := by
    intro i
    induction i with
    | zero =>
      intro _ h
      rw [Nat.pow_zero, Nat.div_one, Nat.div_one] at h
      have e : cmpN M N = 0 := if_pos h
      rw [e] at hp
      rw [V_X8_drift_105, brt (c := nI 0 + (-1) < (0 : Int32)) (by decide)]
      exact hp
    | succ i ih =>
      intro hi h
      obtain ⟨q1, q2⟩ := cmp_dg h
      obtain ⟨c1, c2⟩ := dg_cmp h1 h2 (show i < 26 by omega)
      rw [V_X8_drift_105, nI_m1 (by omega), Nat.add_sub_cancel, brf (nI_pos (by omega)), gdt (vp_in_nI (by omega) (by omega)), gdt (vp_in_nI (by omega) (by omega)), nI_clamp (by omega)]
      refine ⟨fun c => ?_, fun c => ?_⟩
      · rw [ale]
        exact ih (by omega) (q1 (c1.mp c))
      · rw [gdt (vp_in_nI (by omega) (by omega)), gdt (vp_in_nI (by omega) (by omega))]
        obtain ⟨r1, r2⟩ := q2 (fun z => c (c1.mpr z))
        refine ⟨fun z => ?_, fun z => ?_⟩
        · rw [← r1 (c2.mp z)]; exact hp
        · rw [← r2 (fun y => z (c2.mpr y))]; exact hp
  refine ⟨26 + 1, ?_⟩
  have := key 26 (Nat.le_refl _) (by rw [Nat.div_eq_of_lt hM, Nat.div_eq_of_lt hN])
  rw [show nI 26 + (-1) = (25 : Int32) from by decide] at this
  exact this
end
/-- the products of the first k shares' sizes -/
def prA (f : Nat → Int64) : Nat → Nat
  | 0 => 1
  | k + 1 => prA f k * (f k).toInt.natAbs
theorem prA_le {f : Nat → Int64} {m : Nat} (h : ∀ k, k < m → (f k).toInt.natAbs ≤ 1000) : ∀ k, k ≤ m → prA f k ≤ 1000 ^ k := by
  intro k
  induction k with
  | zero => intro _; exact Nat.le_refl _
  | succ k ih =>
    intro hk
    rw [Nat.pow_succ]
    exact Nat.mul_le_mul (ih (by omega)) (h k (by omega))
theorem pr_big {f : Nat → Int64} {m : Nat} (hm : m ≤ 64) (h : ∀ k, k < m → (f k).toInt.natAbs ≤ 1000) : prA f m < B9 ^ 24 ∧ prA f m < B9 ^ 26 := by
  have h1 := prA_le h m (Nat.le_refl _)
  have h2 : (1000 : Nat) ^ m ≤ 1000 ^ 64 := Nat.pow_le_pow_right (by decide) hm
  have h3 : (1000 : Nat) ^ 64 < B9 ^ 24 := by decide
  have h4 : (1000 : Nat) ^ 64 < B9 ^ 26 := by decide
  exact ⟨Nat.lt_of_le_of_lt (Nat.le_trans h1 h2) h3, Nat.lt_of_le_of_lt (Nat.le_trans h1 h2) h4⟩
