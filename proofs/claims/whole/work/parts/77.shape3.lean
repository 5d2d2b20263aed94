/-! THE WORD's SHAPE: class and reference -/
/-- the word on both sides -/
def WW (S : SS) (n : Nat) (w : Nat → Nat) : Prop := n ≤ 40 ∧ WC S 10 15 n w ∧ gI S 29 = nI n ∧ WR S 0 n w ∧ ∀ k, k < n → w k < 64
theorem ww_of {S : SS} (h : RR S) : ∃ n w, WW S n w := by
  obtain ⟨n, hn, h10, h29, hf⟩ := h.2.2.2.2.1
  have key : ∀ k, k < n → gA S 15 k = lN (gB S 0 k).toInt.toNat ∧ gB S 0 k = nI (gB S 0 k).toInt.toNat ∧ (gB S 0 k).toInt.toNat < 64 := fun k hk => by
    obtain ⟨w, hw, e1, e2⟩ := hf k hk
    have e : (gB S 0 k).toInt.toNat = w := by rw [e2, nI_toInt (by omega)]; rfl
    rw [e]
    exact ⟨e1, e2, hw⟩
  exact ⟨n, fun k => (gB S 0 k).toInt.toNat, hn, ⟨h10, fun k hk => (key k hk).1⟩, h29, fun k hk => (key k hk).2.1, fun k hk => (key k hk).2.2⟩
theorem ww_kp {is js bs as : List Nat} {S T : SS} {n : Nat} {w : Nat → Nat} (h : WW S n w) (k : Kp is js bs as S T) (h1 : 10 ∉ is) (h2 : 29 ∉ is) (h3 : 15 ∉ as) (h4 : 0 ∉ bs) : WW T n w :=
  ⟨h.1, wc_kp h.2.1 k h1 h3, (k.1 29 h2).trans h.2.2.1, fun i hi => by rw [k.2.2.1 0 h4]; exact h.2.2.2.1 i hi, h.2.2.2.2⟩
/-- a word that a rule takes -/
def WD (S : SS) (m n : Nat) (w : Nat → Nat) : Prop := RUL S m ∧ ¬ n = 0 ∧ ∀ k, k < n → w k < m
def okW (S : SS) (n : Nat) (w : Nat → Nat) : Prop := ∀ k, k ≤ n → okT (shT (gA S 0) (gA S 1) (gA S 2) w k)
theorem rul_uniq {S : SS} {m m2 : Nat} (h : RUL S m) (h2 : RUL S m2) : m = m2 := by
  have e := h.2.2.2.2.1.symm.trans h2.2.2.2.2.1
  exact (nI_inj (by have := h.2.1; omega) (by have := h2.2.1; omega)).mp e
section
variable {S : SS} {n : Nat} {w : Nat → Nat} {post : Int32 → SS → Prop}
theorem lN_ltm {x m : Nat} (hx : x < 64) (hm : m ≤ 64) : lN x < (nI m).toInt64 ↔ x < m := by
  rw [nI_i64 (by omega)]
  exact lNlt (by omega) (by omega)
theorem x7_shapeTold (h : RR S) (hW : WW S n w) (hno : (∀ m, ¬ WD S m n w) → post (-1) S) (h1 : ∀ m, WD S m n w → okW S n w → ∀ U, Fx S U → (∀ t, t ≤ n → SH U t (shT (gA S 0) (gA S 1) (gA S 2) w t)) → post 1 U) (h0 : ∀ m, WD S m n w → ¬ okW S n w → ∀ U, Fx S U → post (-2) U) : V_X7_shapeTold S post := by
  have hn := hW.1
  unfold V_X7_shapeTold
  refine ⟨fun c => ?_, fun c => hno (fun m q => c q.1.2.2.1)⟩
  obtain ⟨m, hR⟩ := rul_of h c
  have hm := hR.2.1
  rw [x2_size, hW.2.1.1]
  refine ⟨fun z => hno (fun m q => q.2.1 ((nI_inj (b := 0) (by omega) (by omega)).mp z)), fun z => ?_⟩
  have hn0 : ¬ n = 0 := fun e => z (by rw [e]; rfl)
  have key : ∀ (j i : Nat), i + j = n → (∀ k, k < i → w k < m) → V_X7_shapeTold_22 post (j + 1) (nI i) S := by
    intro j
    induction j with
    | zero =>
      intro i hi hw
      obtain rfl : i = n := by omega
      have hD : WD S m i w := ⟨hR, hn0, hw⟩
      rw [V_X7_shapeTold_22, x2_size, hW.2.1.1, brt (nI_le (Nat.le_refl _) (by omega))]
      refine ⟨i + 1, x7_shapeW (m := m) (n := i) (w := w) (a := gA S 0) (b := gA S 1) (d := gA S 2) hn hn (by omega) (by decide) hw i 0 S (Nat.zero_add _) hR ⟨rfl, rfl, rfl⟩ hW.2.1 (fun t ht => ?_) (fun q U fU hU => ⟨fun z => absurd z (by decide), fun _ => h1 m hD q U fU hU⟩) (fun q U fU => ⟨fun _ => h0 m hD q U fU, fun z => absurd rfl z⟩)⟩
      obtain rfl : t = 0 := by omega
      exact sh_0 h.2.2.2.2.2.2
    | succ j ih =>
      intro i hi hw
      have hin : i < n := by omega
      have h64 := hW.2.2.2.2 i hin
      rw [V_X7_shapeTold_22, x2_size, hW.2.1.1, brf (nI_ge hin (by omega)), x2_at hW.2.1.1 hin hn (by omega), hW.2.1.2 i hin, x5_measure, hR.2.2.2.2.1]
      refine ⟨fun c => ?_, fun c => ?_⟩
      · have c := (lN_ltm h64 hm).mp c
        rw [ale, nadd1]
        refine ih (i + 1) (by omega) (fun k hk => ?_)
        rcases Nat.lt_or_eq_of_le (Nat.le_of_lt_succ hk) with y | y
        · exact hw k y
        · rw [y]; exact c
      · refine hno (fun m2 q => c ((lN_ltm h64 hm).mpr ?_))
        rw [rul_uniq hR q.1]
        exact q.2.2 i hin
  exact ⟨n + 1, key n 0 (Nat.zero_add _) (fun k hk => by omega)⟩
theorem x8_isWord (h25 : gI S 25 = gI S 0) (hr : gI S 0 = 1 → ∃ m, RUL S m) (hW : WW S n w) (hno : (∀ m, ¬ WD S m n w) → post 0 S) (hyes : ∀ m, WD S m n w → post 1 S) : V_X8_isWord S post := by
  have hn := hW.1
  have z0 : ∀ j, (∀ m, ¬ WD S m n w) → V_X8_isWord_23 post (j + 1) 0 0 S := fun j q => by
    rw [V_X8_isWord_23]
    exact ⟨fun _ => ⟨bz_0, hno q⟩, fun _ => ⟨fun _ => ⟨bz_0, hno q⟩, fun z => absurd rfl z⟩⟩
  unfold V_X8_isWord
  refine ⟨fun c => ⟨fun c1 => ⟨1, z0 0 (fun m q => ?_)⟩, fun c1 => ?_⟩, fun c => ⟨1, z0 0 (fun m q => c (h25.trans q.1.2.2.1))⟩⟩
  · rw [hW.2.2.1] at c1
    have := (nI_leI (b := 0) (by omega) (by omega)).mp c1
    exact q.2.1 (by omega)
  · have hn0 : ¬ n = 0 := fun e => c1 (by rw [hW.2.2.1, e]; decide)
    obtain ⟨m, hR⟩ := hr (h25.symm.trans c)
    have hm := hR.2.1
    have off : ∀ (j i : Nat), i ≤ n → (∀ m, ¬ WD S m n w) → V_X8_isWord_23 post (j + 1) 0 (nI i) S := fun j i hi q => by
      rw [V_X8_isWord_23]
      exact ⟨fun _ => ⟨bz_0, hno q⟩, fun _ => ⟨fun _ => ⟨bz_0, hno q⟩, fun z => absurd rfl z⟩⟩
    have key : ∀ (j i : Nat), i + j = n → (∀ k, k < i → w k < m) → V_X8_isWord_23 post (j + 2) 1 (nI i) S := by
      intro j
      induction j with
      | zero =>
        intro i hi hw
        obtain rfl : i = n := by omega
        rw [V_X8_isWord_23, hW.2.2.1, brt (nI_le (Nat.le_refl _) (by omega))]
        exact ⟨bz_1, hyes m ⟨hR, hn0, hw⟩⟩
      | succ j ih =>
        intro i hi hw
        have hin : i < n := by omega
        have h64 := hW.2.2.2.2 i hin
        rw [V_X8_isWord_23, hW.2.2.1, brf (nI_ge hin (by omega)), brf (c := (1 : Int32) = 0) (by decide), gdt (vp_in_nI (by omega) (by omega)), nI_clamp (by omega), hR.2.2.2.2.2.1, hW.2.2.2.1 i hin]
        refine ⟨fun c => ?_, fun c => ?_⟩
        · have c := (nI_leI (by omega) (by omega)).mp c
          rw [ale, nadd1]
          refine off (j + 1) (i + 1) (by omega) (fun m2 q => ?_)
          have := q.2.2 i hin
          rw [← rul_uniq hR q.1] at this
          omega
        · have c : ¬ m ≤ w i := fun z => c (nI_le z (by omega))
          rw [ale, nadd1]
          refine ih (i + 1) (by omega) (fun k hk => ?_)
          rcases Nat.lt_or_eq_of_le (Nat.le_of_lt_succ hk) with y | y
          · exact hw k y
          · rw [y]; omega
    exact ⟨n + 2, key n 0 (Nat.zero_add _) (fun k hk => by omega)⟩
end
theorem rul_ref {S : SS} (h : RR S) {is js bs as : List Nat} {T : SS} (k : Kp is js bs as S T) (hi : ∀ j ∈ [0, 25, 1, 26], j ∉ is) (ha : ∀ j ∈ [0, 1, 2, 32], j ∉ as) : gI T 25 = gI T 0 ∧ (gI T 0 = 1 → ∃ m, RUL T m) := by
  have e0 := k.1 0 (hi 0 (by decide))
  have e25 := k.1 25 (hi 25 (by decide))
  refine ⟨by rw [e0, e25]; exact h.2.1.1, fun c => ?_⟩
  obtain ⟨m, hR⟩ := rul_of h (e0.symm.trans c)
  exact ⟨m, (rul_kp hR k hi ha).1⟩
theorem wd_kp {is js bs as : List Nat} {S T : SS} {m n : Nat} {w : Nat → Nat} (h : WD S m n w) (k : Kp is js bs as S T) (hi : ∀ j ∈ [0, 25, 1, 26], j ∉ is) (ha : ∀ j ∈ [0, 1, 2, 32], j ∉ as) : WD T m n w := ⟨(rul_kp h.1 k hi ha).1, h.2.1, h.2.2⟩
/-- the reference's word and shape in a state that differs from a good one -/
theorem x8_shp {S T : SS} {n : Nat} {w : Nat → Nat} {K : Int32 → SS → Prop} (h : RR S) (hW : WW S n w) (k : Kp rI tJ tB rA S T) (hno : (∀ m, ¬ WD S m n w) → K 0 T) (hyes : ∀ m, WD S m n w → K 1 T) : V_X8_isWord T K := by
  obtain ⟨h25, hr⟩ := rul_ref h k (by decide) (by decide)
  have kb : Kp rI tJ tB rA S T := k
  refine x8_isWord h25 hr (ww_kp hW k (by decide) (by decide) (by decide) (by decide)) (fun q => hno (fun m z => q m (wd_kp z k (by decide) (by decide)))) (fun m z => ?_)
  have z0 : gI S 0 = 1 := (k.1 0 (by decide)).symm.trans z.1.2.2.1
  obtain ⟨m2, hR⟩ := rul_of h z0
  have e := rul_uniq (rul_kp hR k (by decide) (by decide)).1 z.1
  subst e
  exact hyes m2 ⟨hR, z.2.1, z.2.2⟩
theorem p_shape {S : SS} (h : RR S) : V_X7_shape S (fun r1 S2 => V_X8_shape S2 (fun r3 S4 => (r1 = r3 → RR S4) ∧ (¬ r1 = r3 → False))) := by
  obtain ⟨n, w, hW⟩ := ww_of h
  have hn := hW.1
  have hs0 := h.2.2.2.2.2.2
  unfold V_X7_shape
  refine x7_shapeTold h hW (fun q => ?_) (fun m hD ok U fU hU => ?_) (fun m hD nok U fU => ?_)
  · refine ⟨fun z => absurd z (by decide), fun _ => ?_⟩
    show V_X8_shape _ _
    unfold V_X8_shape
    rw [ale]
    exact x8_shp (S := S) h hW (kp_sI (kp_refl _ _ _ _ S) (by decide)) (fun _ => ⟨fun _ => eqp rfl h, fun z => absurd rfl z⟩) (fun m z => absurd z (q m))
  · refine ⟨fun _ => ?_, fun z => absurd rfl z⟩
    have kU : Kp [7] [] [] [12, 17, 18, 19] S U := kp_mono fU.1 (by decide) (by decide) (by decide) (by decide)
    rw [x2_size, (wc_kp hW.2.1 kU (by decide) (by decide)).1]
    have hSn := hU n (Nat.le_refl _)
    obtain ⟨n1, n2, n3, n4, n5⟩ := hSn
    have n1 := isN_abs.mp n1
    have n2 := isN_abs.mp n2
    have n3 := isN_abs.mp n3
    refine x4_reduce hn (by show (gA U 17 n).toInt.natAbs ≤ _; omega) (by show (gA U 18 n).toInt.natAbs ≤ _; omega) (by show (gA U 19 n).toInt.natAbs ≤ _; omega) n4 (fun U1 x1 e1 => ?_)
    have e1 : t3 U1 n = shT (gA S 0) (gA S 1) (gA S 2) w n := e1.trans n5
    have k1 : Kp [7] [] [] [12, 17, 18, 19] S U1 := kp_trans kU (kp_mono x1.1 (by decide) (by decide) (by decide) (by decide))
    have r1 : Rs0 (gA U1 17) (gA U1 18) (gA U1 19) := by
      obtain ⟨m1, rfl⟩ : ∃ t, n = t + 1 := ⟨n - 1, by have := hD.2.1; omega⟩
      exact fx_rs (fx_trans fU (fx_ex x1)) hs0
    refine x2_emptyL (fun U2 k2 h2 => ?_)
    rw [x4_factor hn]
    refine x2_addL h2 (by decide) (by omega) (fun U3 k3 h3 => ?_)
    rw [x4_addend hn]
    refine x2_addL h3 (show 1 < 1000 by omega) (by omega) (fun U4 k4 h4 => ?_)
    rw [x4_divisor hn]
    refine x2_addL h4 (show 2 < 1000 by omega) (by omega) (fun U5 k5 h5 => ?_)
    have k13 := kp_trans k2 k3
    have k14 := kp_trans k13 k4
    have k15 := kp_trans k14 k5
    rw [k2.2.2.2 17 (by decide), k13.2.2.2 18 (by decide), k14.2.2.2 19 (by decide)] at h5
    have h5 : NR U5 7 12 [gA U1 17 n, gA U1 18 n, gA U1 19 n] := h5
    have k5' : Kp [7] [] [] [12, 17, 18, 19] S U5 := kp_trans k1 (kp_mono k15 (by decide) (by decide) (by decide) (by decide))
    have r5 := rs0_kp r1 k15 (by decide) (by decide) (by decide)
    show V_X8_shape _ _
    unfold V_X8_shape
    rw [ale]
    have k6 : Kp rI tJ tB rA S (sI U5 20 0) := kp_sI (kp_mono k5' (by decide) (by decide) (by decide) (by decide)) (by decide)
    refine x8_shp h hW k6 (fun q => absurd hD (q m)) (fun _ _ => ⟨fun z => absurd z (by decide), fun _ => ?_⟩)
    obtain ⟨hR6, s1, s2, s3⟩ := rul_kp hD.1 k6 (by decide) (by decide)
    have hW6 := ww_kp hW k6 (by decide) (by decide) (by decide) (by decide)
    rw [hW6.2.2.1]
    refine x8_shaped (m := m) (a := gA S 0) (b := gA S 1) (d := gA S 2) (w := w) hn (Nat.le_refl _) hD.2.2 hR6 ⟨s1, s2, s3⟩ hW6.2.2.2.1 (fun _ U7 k7 h7 => ⟨fun z => absurd z (by decide), fun _ => ?_⟩) (fun z => absurd ok z)
    rw [gdt (by unfold vp_in; decide), ale, gdt (by unfold vp_in; decide), ale, gdt (by unfold vp_in; decide), ale]
    have e7 := h7.trans e1.symm
    have v1 : gJ U7 1 = gA U1 17 n := eq64.mpr (congrArg (fun x : T3 => x.1) e7)
    have v2 : gJ U7 2 = gA U1 18 n := eq64.mpr (congrArg (fun x : T3 => x.2.1) e7)
    have v3 : gJ U7 3 = gA U1 19 n := eq64.mpr (congrArg (fun x : T3 => x.2.2) e7)
    refine x8_tellsL (n := 3) (l := [gA U1 17 n, gA U1 18 n, gA U1 19 n]) ?_ rfl (by omega) (fun U8 k8 h8 => eqp rfl ?_)
    · rw [← v1, ← v2, ← v3]
      intro i v hv
      have hi : i < 3 := lt_of_some hv
      rcases (show i = 0 ∨ i = 1 ∨ i = 2 by omega) with e | e | e <;> subst e <;> exact Option.some.inj hv
    · have kk : Kp qI tJ tB qA U5 U8 := kp_trans (kp_sA (kp_sA (kp_sA (kp_trans (kp_sI (kp_refl _ _ _ _ U5) (by decide)) (kp_mono k7 (by decide) (by decide) (by decide) (by decide))) (by decide)) (by decide)) (by decide)) (kp_mono k8 (by decide) (by decide) (by decide) (by decide))
      exact row_end h (kp_mono k5' (by decide) (by decide) (by decide) (by decide)) r5 h5 kk h8 (by show 3 ≤ 1000; omega)
  · refine ⟨fun z => absurd z (by decide), fun _ => ?_⟩
    show V_X8_shape _ _
    unfold V_X8_shape
    rw [ale]
    have k6 : Kp rI tJ tB rA S (sI U 20 0) := kp_sI (kp_mono fU.1 (by decide) (by decide) (by decide) (by decide)) (by decide)
    refine x8_shp h hW k6 (fun q => absurd hD (q m)) (fun _ _ => ⟨fun z => absurd z (by decide), fun _ => ?_⟩)
    obtain ⟨hR6, s1, s2, s3⟩ := rul_kp hD.1 k6 (by decide) (by decide)
    have hW6 := ww_kp hW k6 (by decide) (by decide) (by decide) (by decide)
    rw [hW6.2.2.1]
    refine x8_shaped (m := m) (a := gA S 0) (b := gA S 1) (d := gA S 2) (w := w) hn (Nat.le_refl _) hD.2.2 hR6 ⟨s1, s2, s3⟩ hW6.2.2.2.1 (fun z => absurd z nok) (fun _ U7 k7 => ⟨fun _ => eqp rfl ?_, fun z => absurd rfl z⟩)
    exact none_end h (kp_mono fU.1 (by decide) (by decide) (by decide) (by decide)) (fx_rs fU hs0) (kp_trans (kp_sI (kp_refl _ _ _ _ U) (by decide)) (kp_mono k7 (by decide) (by decide) (by decide) (by decide)))
