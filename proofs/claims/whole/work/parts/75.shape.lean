/-! SHAPES: whole numbers A, B, D without a common divisor -/
abbrev T3 : Type := Int × Int × Int
def g3 (t : T3) : Nat := Nat.gcd (Nat.gcd t.1.natAbs t.2.1.natAbs) t.2.2.natAbs
def rd (t : T3) : T3 := (t.1 / (g3 t : Int), t.2.1 / (g3 t : Int), t.2.2 / (g3 t : Int))
def ml (g : Int) (t : T3) : T3 := (g * t.1, g * t.2.1, g * t.2.2)
/-- one step by a, b, d more, not brought to lowest terms -/
def sp (a b d : Int) (t : T3) : T3 := (a * t.1, a * t.2.1 + b * t.2.2, d * t.2.2)
theorem g3_pos {t : T3} (h : 1 ≤ t.2.2) : 1 ≤ g3 t := by
  unfold g3
  refine Nat.pos_of_ne_zero (fun z => ?_)
  have := Nat.eq_zero_of_gcd_eq_zero_right z
  omega
theorem g3_dvd (t : T3) : ((g3 t : Int) ∣ t.1) ∧ ((g3 t : Int) ∣ t.2.1) ∧ ((g3 t : Int) ∣ t.2.2) := by
  unfold g3
  refine ⟨Int.ofNat_dvd_left.mpr (Nat.dvd_trans (Nat.gcd_dvd_left _ _) (Nat.gcd_dvd_left _ _)), Int.ofNat_dvd_left.mpr (Nat.dvd_trans (Nat.gcd_dvd_left _ _) (Nat.gcd_dvd_right _ _)), Int.ofNat_dvd_left.mpr (Nat.gcd_dvd_right _ _)⟩
theorem rd_eq (t : T3) : ml (g3 t) (rd t) = t := by
  obtain ⟨h1, h2, h3⟩ := g3_dvd t
  show ((g3 t : Int) * (t.1 / (g3 t : Int)), (g3 t : Int) * (t.2.1 / (g3 t : Int)), (g3 t : Int) * (t.2.2 / (g3 t : Int))) = t
  rw [Int.mul_ediv_cancel' h1, Int.mul_ediv_cancel' h2, Int.mul_ediv_cancel' h3]
theorem g3_ml (g : Nat) (t : T3) : g3 (ml g t) = g * g3 t := by
  unfold g3 ml
  show Nat.gcd (Nat.gcd ((g : Int) * t.1).natAbs ((g : Int) * t.2.1).natAbs) ((g : Int) * t.2.2).natAbs = _
  rw [Int.natAbs_mul, Int.natAbs_mul, Int.natAbs_mul, Int.natAbs_natCast, Nat.gcd_mul_left, Nat.gcd_mul_left]
theorem rd_ml {g : Nat} (hg : 1 ≤ g) (t : T3) : rd (ml g t) = rd t := by
  have hp : (0 : Int) < (g : Int) := by omega
  show (((g : Int) * t.1) / (g3 (ml g t) : Int), ((g : Int) * t.2.1) / (g3 (ml g t) : Int), ((g : Int) * t.2.2) / (g3 (ml g t) : Int)) = _
  rw [g3_ml, Int.natCast_mul, Int.mul_ediv_mul_of_pos _ _ hp, Int.mul_ediv_mul_of_pos _ _ hp, Int.mul_ediv_mul_of_pos _ _ hp]
  rfl
theorem sp_ml (a b d g : Int) (t : T3) : sp a b d (ml g t) = ml g (sp a b d t) := by
  show (a * (g * t.1), a * (g * t.2.1) + b * (g * t.2.2), d * (g * t.2.2)) = (g * (a * t.1), g * (a * t.2.1 + b * t.2.2), g * (d * t.2.2))
  rw [Int.mul_left_comm a g, Int.mul_left_comm a g, Int.mul_left_comm b g, Int.mul_left_comm d g, Int.mul_add]
theorem sp_rd {a b d : Int} {t : T3} (h : 1 ≤ t.2.2) : rd (sp a b d (rd t)) = rd (sp a b d t) := by
  conv => rhs; rw [← rd_eq t, sp_ml]
  rw [rd_ml (g3_pos h)]
theorem rd_pos {t : T3} (h : 1 ≤ t.2.2) : 1 ≤ (rd t).2.2 := by
  have e := rd_eq t
  have e2 : (g3 t : Int) * (rd t).2.2 = t.2.2 := congrArg (fun x : T3 => x.2.2) e
  have hg := g3_pos h
  refine Classical.byContradiction (fun z => ?_)
  have := Int.mul_nonpos_of_nonneg_of_nonpos (show (0 : Int) ≤ (g3 t : Int) by omega) (show (rd t).2.2 ≤ 0 by omega)
  omega
theorem sz_le {g : Nat} {x y : Int} (hg : 1 ≤ g) (h : (g : Int) * x = y) : x.natAbs ≤ y.natAbs := by
  rw [← h, Int.natAbs_mul, Int.natAbs_natCast]
  exact Nat.le_mul_of_pos_left _ hg
theorem rd_le {t : T3} (h : 1 ≤ t.2.2) : (rd t).1.natAbs ≤ t.1.natAbs ∧ (rd t).2.1.natAbs ≤ t.2.1.natAbs ∧ (rd t).2.2.natAbs ≤ t.2.2.natAbs := by
  have e := rd_eq t
  exact ⟨sz_le (g3_pos h) (congrArg (fun x : T3 => x.1) e), sz_le (g3_pos h) (congrArg (fun x : T3 => x.2.1) e), sz_le (g3_pos h) (congrArg (fun x : T3 => x.2.2) e)⟩
def okT (t : T3) : Prop := t.1.natAbs ≤ 1000000000000000 ∧ t.2.1.natAbs ≤ 1000000000000000 ∧ t.2.2.natAbs ≤ 1000000000000000
/-- the shape behind the first k steps of a word -/
def shT (a b d : Nat → Int64) (w : Nat → Nat) : Nat → T3
  | 0 => (1, 0, 1)
  | k + 1 => rd (sp (a (w k)).toInt (b (w k)).toInt (d (w k)).toInt (shT a b d w k))
theorem sp_pos {a b d : Int} {t : T3} (hd : 1 ≤ d) (h : 1 ≤ t.2.2) : 1 ≤ (sp a b d t).2.2 := by
  show 1 ≤ d * t.2.2
  have := Int.mul_le_mul hd h (by decide) (by omega)
  omega
theorem shT_pos {m n : Nat} {a b d : Nat → Int64} {w : Nat → Nat} (hr : rulF m a b d) (hw : ∀ k, k < n → w k < m) : ∀ k, k ≤ n → 1 ≤ (shT a b d w k).2.2 := by
  intro k
  induction k with
  | zero => intro _; exact Int.le_refl _
  | succ k ih => intro hk; exact rd_pos (sp_pos (hr (w k) (hw k (by omega))).2.2.1.1 (ih (by omega)))
theorem shT_ext {a b d : Nat → Int64} {w v : Nat → Nat} : ∀ k, (∀ i, i < k → w i = v i) → shT a b d w k = shT a b d v k := by
  intro k
  induction k with
  | zero => intro _; rfl
  | succ k ih =>
    intro h
    show rd (sp _ _ _ (shT a b d w k)) = rd (sp _ _ _ (shT a b d v k))
    rw [ih (fun i hi => h i (by omega)), h k (by omega)]
/-- what the class holds behind i steps: the shape, or a multiple of it -/
def SH (S : SS) (i : Nat) (s : T3) : Prop := isN (gA S 17 i) ∧ isN (gA S 18 i) ∧ isN (gA S 19 i) ∧ 1 ≤ (gA S 19 i).toInt ∧ rd ((gA S 17 i).toInt, (gA S 18 i).toInt, (gA S 19 i).toInt) = s
theorem sh_0 {S : SS} (h : Rs0 (gA S 17) (gA S 18) (gA S 19)) : SH S 0 (1, 0, 1) := by
  obtain ⟨h1, h2, h3⟩ := h
  unfold SH
  rw [h1, h2, h3]
  refine ⟨by unfold isN; decide, by unfold isN; decide, by unfold isN; decide, by decide, by decide⟩
/-- T differs from S at most behind i steps -/
def Ex (S T : SS) (i : Nat) : Prop := Kp [] [] [] [17, 18, 19] S T ∧ ∀ t, t ≠ i → gA T 17 t = gA S 17 t ∧ gA T 18 t = gA S 18 t ∧ gA T 19 t = gA S 19 t
theorem sh_ex {S T : SS} {i j : Nat} {s : T3} (h : SH S j s) (e : Ex S T i) (n : j ≠ i) : SH T j s := by
  obtain ⟨e1, e2, e3⟩ := e.2 j n
  unfold SH
  rw [e1, e2, e3]; exact h
theorem x4_has {i : Nat} {S : SS} {post : Int32 → SS → Prop} (h : i ≤ 40) : V_X4_has (nI i) S post = post 1 S := by
  unfold V_X4_has
  rw [brf (nI_pos (by omega)), brf (c := (40 : Int32) < nI i) (nI_nlt (a := 40) h (by omega))]
theorem x4_factor {i : Nat} {S : SS} {post : Int64 → SS → Prop} (h : i ≤ 40) : V_X4_factor (nI i) S post = post (gA S 17 i) S := by
  unfold V_X4_factor
  rw [x4_has h, brf (by decide), gdt (vp_in_nI (by omega) (by omega)), nI_clamp (by omega)]
theorem x4_addend {i : Nat} {S : SS} {post : Int64 → SS → Prop} (h : i ≤ 40) : V_X4_addend (nI i) S post = post (gA S 18 i) S := by
  unfold V_X4_addend
  rw [x4_has h, brf (by decide), gdt (vp_in_nI (by omega) (by omega)), nI_clamp (by omega)]
theorem x4_divisor {i : Nat} {S : SS} {post : Int64 → SS → Prop} (h : i ≤ 40) : V_X4_divisor (nI i) S post = post (gA S 19 i) S := by
  unfold V_X4_divisor
  rw [x4_has h, brf (by decide), gdt (vp_in_nI (by omega) (by omega)), nI_clamp (by omega)]
abbrev t3 (S : SS) (i : Nat) : T3 := ((gA S 17 i).toInt, (gA S 18 i).toInt, (gA S 19 i).toInt)
theorem isN_abs {x : Int64} : isN x ↔ x.toInt.natAbs ≤ 1000000000000000 := by
  unfold isN; omega
theorem x4_fits {i : Nat} {S : SS} {post : Int32 → SS → Prop} (h : i ≤ 40) (h1 : okT (t3 S i) → post 1 S) (h0 : ¬ okT (t3 S i) → post 0 S) : V_X4_fits (nI i) S post := by
  unfold V_X4_fits
  rw [x4_has h, brf (by decide), gdt (vp_in_nI (by omega) (by omega)), nI_clamp (by omega)]
  refine x7_isNum (fun c1 => ⟨fun z => absurd z (by decide), fun _ => ⟨vp_in_nI (by omega) (by omega), ?_⟩⟩) (fun c1 => ⟨fun _ => h0 (fun q => c1 (isN_abs.mpr q.1)), fun z => absurd rfl z⟩)
  refine x7_isNum (fun c2 => ⟨fun z => absurd z (by decide), fun _ => ⟨vp_in_nI (by omega) (by omega), ?_⟩⟩) (fun c2 => ⟨fun _ => h0 (fun q => c2 (isN_abs.mpr q.2.1)), fun z => absurd rfl z⟩)
  refine x7_isNum (fun c3 => ⟨fun z => absurd z (by decide), fun _ => h1 ⟨isN_abs.mp c1, isN_abs.mp c2, isN_abs.mp c3⟩⟩) (fun c3 => ⟨fun _ => h0 (fun q => c3 (isN_abs.mpr q.2.2)), fun z => absurd rfl z⟩)
theorem dv_lN {v : Int64} {g : Nat} (hg : 1 ≤ g) (hg2 : g ≤ 3000000000000000000) (hd : (g : Int) ∣ v.toInt) : (v / lN g).toInt = v.toInt / (g : Int) := by
  rw [d64 (by rw [lN_int (by omega)]; omega), lN_int (by omega)]
  exact Int.tdiv_eq_ediv_of_dvd hd
theorem x4_reduce {i : Nat} {S : SS} {post : SS → Prop} (h : i ≤ 40) (hb1 : (t3 S i).1.natAbs ≤ 3000000000000000000) (hb2 : (t3 S i).2.1.natAbs ≤ 3000000000000000000) (hb3 : (t3 S i).2.2.natAbs ≤ 3000000000000000000) (hp : 1 ≤ (t3 S i).2.2) (hk : ∀ U, Ex S U i → t3 U i = rd (t3 S i) → post U) : V_X4_reduce (nI i) S post := by
  have hin : vp_in (nI i) 41 := vp_in_nI (by omega) (by omega)
  have hg := g3_pos hp
  have hz : (gA S 19 i).toInt.natAbs ≠ 0 := by have : 1 ≤ (gA S 19 i).toInt := hp; omega
  have c1 : cdn (gA S 17 i).toInt.natAbs (gA S 19 i).toInt.natAbs = Nat.gcd (gA S 17 i).toInt.natAbs (gA S 19 i).toInt.natAbs := by
    unfold cdn
    rw [if_neg (fun z => hz (Nat.eq_zero_of_gcd_eq_zero_right z))]
  have l1 : Nat.gcd (gA S 17 i).toInt.natAbs (gA S 19 i).toInt.natAbs ≤ (gA S 19 i).toInt.natAbs := Nat.le_of_dvd (Nat.pos_of_ne_zero hz) (Nat.gcd_dvd_right _ _)
  have eg : Nat.gcd (Nat.gcd (gA S 17 i).toInt.natAbs (gA S 19 i).toInt.natAbs) (gA S 18 i).toInt.natAbs = g3 (t3 S i) := by
    show _ = Nat.gcd (Nat.gcd (gA S 17 i).toInt.natAbs (gA S 18 i).toInt.natAbs) (gA S 19 i).toInt.natAbs
    rw [Nat.gcd_assoc, Nat.gcd_assoc, Nat.gcd_comm (gA S 19 i).toInt.natAbs]
  have c2 : cdn (Nat.gcd (gA S 17 i).toInt.natAbs (gA S 19 i).toInt.natAbs) (gA S 18 i).toInt.natAbs = g3 (t3 S i) := by
    unfold cdn
    rw [eg, if_neg (by omega)]
  have l3 : g3 (t3 S i) ≤ 3000000000000000000 := by
    have : g3 (t3 S i) ≤ (gA S 19 i).toInt.natAbs := Nat.le_of_dvd (Nat.pos_of_ne_zero hz) (Nat.gcd_dvd_right _ _)
    exact Nat.le_trans this hb3
  have b1 : (gA S 17 i).toInt.natAbs ≤ 3000000000000000000 := hb1
  have b2 : (gA S 18 i).toInt.natAbs ≤ 3000000000000000000 := hb2
  have b3 : (gA S 19 i).toInt.natAbs ≤ 3000000000000000000 := hb3
  have nz : ¬ lN (g3 (t3 S i)) = 0 := fun z => by have := (lN0 (by omega)).mp z; omega
  unfold V_X4_reduce
  rw [x4_has h, brf (by decide), gdt hin, gdt hin, nI_clamp (by omega)]
  refine x7_cd (by omega) (by omega) ?_
  rw [c1, gdt hin]
  refine x7_cd (by rw [lN_int (by omega)]; omega) (by omega) ?_
  rw [show (lN (Nat.gcd (gA S 17 i).toInt.natAbs (gA S 19 i).toInt.natAbs)).toInt.natAbs = Nat.gcd (gA S 17 i).toInt.natAbs (gA S 19 i).toInt.natAbs from by rw [lN_int (by omega)]; rfl, c2, gdt hin, gdt nz, gdt hin, ale, gdt hin, gdt nz, gdt hin, ale, gdt hin, gdt nz, gdt hin, ale]
  obtain ⟨d1, d2, d3⟩ := g3_dvd (t3 S i)
  refine hk _ ⟨kp_sA (kp_sA (kp_sA (kp_refl _ _ _ _ S) (by decide)) (by decide)) (by decide), fun t ht => ⟨?_, ?_, ?_⟩⟩ ?_
  · show vp_updL (gA S 17) i _ t = _
    exact updL_ne _ _ ht
  · show vp_updL (gA S 18) i _ t = _
    exact updL_ne _ _ ht
  · show vp_updL (gA S 19) i _ t = _
    exact updL_ne _ _ ht
  · show ((vp_updL (gA S 17) i (gA S 17 i / lN (g3 (t3 S i))) i).toInt, (vp_updL (gA S 18) i (gA S 18 i / lN (g3 (t3 S i))) i).toInt, (vp_updL (gA S 19) i (gA S 19 i / lN (g3 (t3 S i))) i).toInt) = _
    rw [updL_eq, updL_eq, updL_eq, dv_lN hg l3 d1, dv_lN hg l3 d2, dv_lN hg l3 d3]
    rfl
