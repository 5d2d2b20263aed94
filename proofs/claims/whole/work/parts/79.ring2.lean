/-! RING to its end -/
theorem ofI {n : Int} (h : n.natAbs ≤ 1000000000000000) : (Int64.ofInt n).toInt = n := Int64.toInt_ofInt_of_le (by omega) (by omega)
/-- a shape that isn't too large, as three longs -/
theorem t3_of {t : T3} (h : okT t) : ((Int64.ofInt t.1).toInt, (Int64.ofInt t.2.1).toInt, (Int64.ofInt t.2.2).toInt) = t := by
  rw [ofI h.1, ofI h.2.1, ofI h.2.2]
theorem p_ring {S : SS} (h : RR S) : V_X7_ring S (fun r1 S2 => V_X8_ring S2 (fun r3 S4 => (r1 = r3 → RR S4) ∧ (¬ r1 = r3 → False))) := by
  obtain ⟨n, w, hW⟩ := ww_of h
  have hn := hW.1
  have hs0 := h.2.2.2.2.2.2
  unfold V_X7_ring
  refine x7_shapeTold h hW (fun q => ?_) (fun m hD ok U fU hU => ?_) (fun m hD nok U fU => ?_)
  · refine ⟨fun z => absurd z (by decide), fun _ => ?_⟩
    show V_X8_ring _ _
    unfold V_X8_ring
    rw [ale]
    exact x8_shp (S := S) h hW (kp_sI (kp_refl _ _ _ _ S) (by decide)) (fun _ => ⟨fun _ => eqp rfl h, fun z => absurd rfl z⟩) (fun m z => absurd z (q m))
  · refine ⟨fun _ => ?_, fun z => absurd rfl z⟩
    have kU : Kp [7] [] [] [12, 17, 18, 19] S U := kp_mono fU.1 (by decide) (by decide) (by decide) (by decide)
    have r1 := fx_rs fU hs0
    obtain ⟨hRU, s1, s2, s3⟩ := rul_kp hD.1 kU (by decide) (by decide)
    rw [x2_size, (wc_kp hW.2.1 kU (by decide) (by decide)).1, x4_factor hn, x4_divisor hn]
    have okn := ok n (Nat.le_refl _)
    have hSn := hU n (Nat.le_refl _)
    have et := t3_of okn
    generalize hP : Int64.ofInt (shT (gA S 0) (gA S 1) (gA S 2) w n).1 = P at et
    generalize hQ : Int64.ofInt (shT (gA S 0) (gA S 1) (gA S 2) w n).2.1 = Q at et
    generalize hR : Int64.ofInt (shT (gA S 0) (gA S 1) (gA S 2) w n).2.2 = R at et
    rw [← et] at hSn
    obtain ⟨n1, n2, n3, n4, n5⟩ := hSn
    obtain ⟨i1, i2, i3, i4, i5⟩ := ring_rep n1 n2 n3 n4 n5
    -- what the reference answers
    have ref : ∀ (V : SS) (post : Int32 → SS → Prop), Kp rI tJ tB rA S V → (P = R → ∀ T, Kp qI tJ tB [36, 37, 38, 39, 40] V T → gI T 28 = gI V 28 → post (if Q = 0 then 2 else 0) T) → (¬ P = R → lrm Q (R - P) = 0 → RGP m (gA S 0) (gA S 1) (gA S 2) w n (Q / (R - P)) → ∀ T, Kp qI tJ tB qA V T → NR T 28 35 [Q / (R - P)] → post 1 T) → (¬ P = R → ¬ (lrm Q (R - P) = 0 ∧ RGP m (gA S 0) (gA S 1) (gA S 2) w n (Q / (R - P))) → ∀ T, Kp qI tJ tB [36, 37, 38, 39, 40] V T → gI T 28 = gI V 28 → post 0 T) → V_X8_ring V post := fun V post kV g2 g1 g0 => by
      show V_X8_ring _ _
      unfold V_X8_ring
      rw [ale]
      have k6 : Kp rI tJ tB rA S (sI V 20 0) := kp_sI kV (by decide)
      refine x8_shp h hW k6 (fun q => absurd hD (q m)) (fun _ _ => ⟨fun z => absurd z (by decide), fun _ => ?_⟩)
      obtain ⟨hR6, t1, t2, t3'⟩ := rul_kp hD.1 k6 (by decide) (by decide)
      have hW6 := ww_kp hW k6 (by decide) (by decide) (by decide) (by decide)
      rw [hW6.2.2.1]
      refine x8_shaped (m := m) (a := gA S 0) (b := gA S 1) (d := gA S 2) (w := w) hn (Nat.le_refl _) hD.2.2 hR6 ⟨t1, t2, t3'⟩ hW6.2.2.2.1 (fun _ U7 k7 h7 => ⟨fun z => absurd z (by decide), fun _ => ?_⟩) (fun z => absurd ok z)
      rw [← et] at h7
      have v1 : gJ U7 1 = P := eq64.mpr (congrArg (fun x : T3 => x.1) h7)
      have v2 : gJ U7 2 = Q := eq64.mpr (congrArg (fun x : T3 => x.2.1) h7)
      have v3 : gJ U7 3 = R := eq64.mpr (congrArg (fun x : T3 => x.2.2) h7)
      have k7' : Kp rI tJ tB rA S U7 := kp_trans k6 (kp_mono k7 (by decide) (by decide) (by decide) (by decide))
      have kV7 : Kp qI tJ tB [36, 37, 38, 39, 40] V U7 := kp_trans (kp_sI (kp_refl _ _ _ _ V) (by decide)) (kp_mono k7 (by decide) (by decide) (by decide) (by decide))
      have e28 : gI U7 28 = gI V 28 := k7.1 28 (by decide)
      obtain ⟨hR7, u1, u2, u3⟩ := rul_kp hD.1 k7' (by decide) (by decide)
      have hW7 := ww_kp hW k7' (by decide) (by decide) (by decide) (by decide)
      rw [hW7.2.2.1]
      refine x8_ringOf (m := m) (a := gA S 0) (b := gA S 1) (d := gA S 2) (w := w) hn (Nat.le_refl _) (by decide) hR7 ⟨u1, u2, u3⟩ hW7.2.2.2.1 hD.2.2 (by rw [v1, v3]; exact i4) (fun c => ?_) (fun c c1 c2 U8 k8 h4 _ _ => ?_) (fun c c1 U8 k8 => ?_)
      · rw [v1, v3] at c
        rw [v2]
        by_cases cq : Q = 0
        · have gg := g2 c U7 kV7 e28
          rw [if_pos cq] at gg ⊢
          exact ⟨fun z => absurd z (by decide), fun _ => gg⟩
        · have gg := g2 c U7 kV7 e28
          rw [if_neg cq] at gg ⊢
          exact ⟨fun z => absurd z (by decide), fun _ => gg⟩
      · rw [v1, v3] at c
        rw [v1, v2, v3] at c1 c2 h4
        refine ⟨fun _ => ⟨by unfold vp_in; decide, fun S11 e11 => ?_⟩, fun z => absurd rfl z⟩
        subst e11
        refine x8_tellsL (n := 1) (l := [Q / (R - P)]) ?_ rfl (by omega) (fun U9 k9 h9 => g1 c c1 c2 U9 ?_ h9)
        · intro i v hv
          have hi : i < 1 := lt_of_some hv
          obtain rfl : i = 0 := by omega
          rw [gA_sA, h4]
          exact Option.some.inj hv
        · exact kp_trans (kp_mono kV7 (by decide) (by decide) (by decide) (by decide)) (kp_trans (kp_sA (kp_mono k8 (by decide) (by decide) (by decide) (by decide)) (by decide)) (kp_mono k9 (by decide) (by decide) (by decide) (by decide)))
      · rw [v1, v3] at c
        rw [v1, v2, v3] at c1
        exact ⟨fun z => absurd z (by decide), fun _ => g0 c c1 U8 (kp_trans kV7 (kp_mono k8 (by decide) (by decide) (by decide) (by decide))) ((k8.1 28 (by decide)).trans e28)⟩
    have kUt : Kp tI tJ tB tA S U := kp_mono fU.1 (by decide) (by decide) (by decide) (by decide)
    -- an end without a row
    have fin : ∀ T, Kp qI tJ tB [36, 37, 38, 39, 40] U T → gI T 28 = gI U 28 → RR T := fun T kT e28 => by
      refine RR_row h (kp_trans (kp_mono fU.1 (by decide) (by decide) (by decide) (by decide)) (kp_mono kT (by decide) (by decide) (by decide) (by decide))) (rs0_kp r1 kT (by decide) (by decide) (by decide)) ?_
      rw [kT.1 7 (by decide), e28, kT.2.2.2 12 (by decide), kT.2.2.2 35 (by decide), fU.1.1 7 (by decide), fU.1.1 28 (by decide), fU.1.2.2.2 12 (by decide), fU.1.2.2.2 35 (by decide)]
      exact h.2.2.2.1
    have kUr : Kp rI tJ tB rA S U := kp_mono fU.1 (by decide) (by decide) (by decide) (by decide)
    refine ⟨fun c => ?_, fun c => ?_⟩
    · have c := i1.mp c
      rw [x4_addend hn]
      refine ⟨fun c2 => ?_, fun c2 => ?_⟩
      · refine ref U _ kUr (fun _ T kT e => ?_) (fun z => absurd c z) (fun z => absurd c z)
        rw [if_pos (i2.mp c2)]
        exact eqp rfl (fin T kT e)
      · refine ref U _ kUr (fun _ T kT e => ?_) (fun z => absurd c z) (fun z => absurd c z)
        rw [if_neg (fun z => c2 (i2.mpr z))]
        exact eqp rfl (fin T kT e)
    · have cX : ¬ gA U 17 n = gA U 19 n := c
      have c : ¬ P = R := fun z => c (i1.mpr z)
      refine x7_ringN (m := m) (a := gA S 0) (b := gA S 1) (d := gA S 2) (w := w) (P := P) (Q := Q) (R := R) hn hn (by omega) hRU ⟨s1, s2, s3⟩ (wc_kp hW.2.1 kU (by decide) (by decide)) hD.2.2 ⟨n1, n2, n3, n4, n5⟩ (fun _ c1 c2 => ?_) (fun c1 => ?_)
      · have hN := ((i5 cX).2 ((i5 cX).1.mpr c1)).2
        rw [x7_isN hN, brf (by decide)]
        refine x2_emptyL (fun U2 k2 h2 => ?_)
        refine x2_addL h2 (by decide) (by omega) (fun U3 k3 h3 => ?_)
        have k3' := kp_trans k2 k3
        have kU3 : Kp rI tJ tB rA S U3 := kp_trans kUr (kp_mono k3' (by decide) (by decide) (by decide) (by decide))
        refine ref U3 _ kU3 (fun z => absurd z c) (fun _ _ _ T kT hT => eqp rfl ?_) (fun _ z => absurd ⟨c1, c2⟩ z)
        exact row_end h kU3 (rs0_kp r1 k3' (by decide) (by decide) (by decide)) h3 kT hT (by show 1 ≤ 1000; omega)
      · rw [x7_notN notN_bey, brt rfl]
        exact ref U _ kUr (fun z => absurd z c) (fun _ z1 z2 => absurd ⟨c, z1, z2⟩ c1) (fun _ _ T kT e => eqp rfl (fin T kT e))
  · refine ⟨fun z => absurd z (by decide), fun _ => ?_⟩
    show V_X8_ring _ _
    unfold V_X8_ring
    rw [ale]
    have k6 : Kp rI tJ tB rA S (sI U 20 0) := kp_sI (kp_mono fU.1 (by decide) (by decide) (by decide) (by decide)) (by decide)
    refine x8_shp h hW k6 (fun q => absurd hD (q m)) (fun _ _ => ⟨fun z => absurd z (by decide), fun _ => ?_⟩)
    obtain ⟨hR6, s1, s2, s3⟩ := rul_kp hD.1 k6 (by decide) (by decide)
    have hW6 := ww_kp hW k6 (by decide) (by decide) (by decide) (by decide)
    rw [hW6.2.2.1]
    refine x8_shaped (m := m) (a := gA S 0) (b := gA S 1) (d := gA S 2) (w := w) hn (Nat.le_refl _) hD.2.2 hR6 ⟨s1, s2, s3⟩ hW6.2.2.2.1 (fun z => absurd z nok) (fun _ U7 k7 => ⟨fun _ => eqp rfl ?_, fun z => absurd rfl z⟩)
    exact none_end h (kp_mono fU.1 (by decide) (by decide) (by decide) (by decide)) (fx_rs fU hs0) (kp_trans (kp_sI (kp_refl _ _ _ _ U) (by decide)) (kp_mono k7 (by decide) (by decide) (by decide) (by decide)))
