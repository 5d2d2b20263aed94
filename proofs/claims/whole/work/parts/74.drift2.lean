/-! DRIFT to its end -/
theorem abs_lN {x : Int64} (h : x.toInt.natAbs ≤ 1000) : abL x = lN x.toInt.natAbs := abL_of (by omega)
theorem pos_lN {x : Int64} (h1 : 1 ≤ x.toInt) : x = lN x.toInt.natAbs := of64 (by omega) (by have := Int64.toInt_lt x; omega)
section
variable {m : Nat} {a b d : Nat → Int64}
theorem x5_noShare {S : SS} {post : Int32 → SS → Prop} (h : RUL S m) (h1 : (∃ r, r < m ∧ gA S 0 r = 0) → post 1 S) (h0 : (∀ r, r < m → ¬ gA S 0 r = 0) → post 0 S) : V_X5_hasNoShare 1 0 1 2 S post := by
  have hi1 := h.2.2.2.2.1
  have hm := h.2.1
  have key : ∀ (j k : Nat), k + j = m → (∀ r, r < k → ¬ gA S 0 r = 0) → V_X5_hasNoShare_2 1 0 1 2 post (j + 1) (nI k) S := by
    intro j
    induction j with
    | zero =>
      intro k hk hr
      obtain rfl : k = m := by omega
      rw [V_X5_hasNoShare_2, hi1, brt (nI_le (Nat.le_refl _) (by omega))]
      exact h0 hr
    | succ j ih =>
      intro k hk hr
      rw [V_X5_hasNoShare_2, hi1, brf (nI_ge (by omega) (by omega)), x5_a hi1 (by omega) hm]
      refine ⟨fun c => h1 ⟨k, by omega, c⟩, fun c => ?_⟩
      rw [ale, nadd1]
      refine ih (k + 1) (by omega) (fun r hr2 => ?_)
      rcases Nat.lt_or_eq_of_le (Nat.le_of_lt_succ hr2) with z | z
      · exact hr r z
      · rw [z]; exact c
  exact ⟨m + 1, key m 0 (by omega) (fun r hr => by omega)⟩
theorem rul_abs {S : SS} (h : RUL S m) {r : Nat} (hr : r < m) : (gA S 0 r).toInt.natAbs ≤ 1000 ∧ (gA S 2 r).toInt.natAbs ≤ 1000 ∧ 1 ≤ (gA S 2 r).toInt := by
  obtain ⟨h1, -, h3, -, -⟩ := h.2.2.2.2.2.2.1 r hr
  omega
theorem x7_drift37 {post : Int32 → SS → Prop} : ∀ (j k : Nat) (T : SS), k + j = m → RUL T m → gA T 0 = a ∧ gA T 1 = b ∧ gA T 2 = d → DG (gA T 20) (prA a k) 24 → DG (gA T 21) (prA d k) 24 → (∀ U, Kp [] [] [] [20, 21] T U → post (cmpN (prA a m) (prA d m)) U) → V_X7_drift_37 post (j + 1) (nI k) T := by
  intro j
  induction j with
  | zero =>
    intro k T hk h hs h1 h2 hp
    obtain rfl : k = m := by omega
    have hA : ∀ r, r < k → (a r).toInt.natAbs ≤ 1000 := fun r hr => by rw [← hs.1]; exact (rul_abs h hr).1
    have hD : ∀ r, r < k → (d r).toInt.natAbs ≤ 1000 := fun r hr => by rw [← hs.2.2]; exact (rul_abs h hr).2.1
    rw [V_X7_drift_37, x5_measure, h.2.2.2.2.1, brt (nI_le (Nat.le_refl _) (by have := h.2.1; omega))]
    exact x3_against h1 h2 (pr_big h.2.1 hA).1 (pr_big h.2.1 hD).1 (hp T (kp_refl _ _ _ _ T))
  | succ j ih =>
    intro k T hk h hs h1 h2 hp
    have hi1 := h.2.2.2.2.1
    have hm := h.2.1
    obtain ⟨l1, l2, l3⟩ := rul_abs h (show k < m by omega)
    rw [V_X7_drift_37, x5_measure, hi1, brf (nI_ge (by omega) (by omega)), x5_a hi1 (by omega) hm, ale, abs_lN l1, hs.1]
    rw [hs.1] at l1
    refine x3_mul l1 h1 (fun U kU hU => ?_)
    obtain ⟨hR, s1, s2, s3⟩ := rul_kp h kU (by decide) (by decide)
    rw [x5_d hR.2.2.2.2.1 (by omega) hm (by rw [s3]; exact l3), s3, hs.2.2]
    rw [hs.2.2] at l2 l3
    rw [pos_lN l3]
    have h2U : DG (gA U 21) (prA d k) 24 := by rw [kU.2.2.2 21 (by decide)]; exact h2
    refine x3_mul l2 h2U (fun W kW hW => ?_)
    obtain ⟨hR2, t1, t2, t3⟩ := rul_kp hR kW (by decide) (by decide)
    rw [ale, nadd1]
    have kTW : Kp [] [] [] [20, 21] T W := kp_trans (kp_mono kU (by decide) (by decide) (by decide) (by decide)) (kp_mono kW (by decide) (by decide) (by decide) (by decide))
    exact ih (k + 1) W (by omega) hR2 ⟨t1.trans (s1.trans hs.1), t2.trans (s2.trans hs.2.1), t3.trans (s3.trans hs.2.2)⟩ (by rw [kW.2.2.2 20 (by decide)]; exact hU) hW (fun V kV => hp V (kp_trans kTW kV))
theorem x8_drift34 {post : Int32 → SS → Prop} {r : Nat} (hrm : r ≤ m) (hnz : ∀ t, t < r → ¬ a t = 0) : ∀ (j k : Nat) (T : SS), k + j = r → RUL T m → gA T 0 = a ∧ gA T 1 = b ∧ gA T 2 = d → DG (gA T 37) (prA a k) 26 → DG (gA T 38) (prA d k) 26 → (r = m → ∀ U, Kp [] [] [] [37, 38] T U → post (cmpN (prA a m) (prA d m)) U) → (r < m → a r = 0 ∧ ∀ U, Kp [] [] [] [37, 38] T U → post (-2) U) → V_X8_drift_34 post (j + 1) (nI k) T := by
  intro j
  induction j with
  | zero =>
    intro k T hk h hs h1 h2 hp hz
    obtain rfl : k = r := by omega
    have hi26 := h.2.2.2.2.2.1
    have hm := h.2.1
    rcases Nat.lt_or_eq_of_le hrm with l | l
    · obtain ⟨e1, -, -⟩ := h.2.2.2.2.2.2.2 k l
      rw [hs.1] at e1
      rw [V_X8_drift_34, hi26, brf (nI_ge l (by omega)), nmul3 (by omega), gdt (vp_in_nI (by omega) (by omega)), nI_clamp (by omega), e1, brt (hz l).1]
      exact (hz l).2 T (kp_refl _ _ _ _ T)
    · have hA : ∀ r, r < m → (a r).toInt.natAbs ≤ 1000 := fun r hr => by rw [← hs.1]; exact (rul_abs h hr).1
      have hD : ∀ r, r < m → (d r).toInt.natAbs ≤ 1000 := fun r hr => by rw [← hs.2.2]; exact (rul_abs h hr).2.1
      rw [V_X8_drift_34, hi26, brt (nI_le (by omega) (by omega))]
      rw [l] at h1 h2
      exact x8_drift105 h1 h2 (pr_big hm hA).2 (pr_big hm hD).2 (hp l T (kp_refl _ _ _ _ T))
  | succ j ih =>
    intro k T hk h hs h1 h2 hp hz
    have hi26 := h.2.2.2.2.2.1
    have hm := h.2.1
    have hkm : k < m := by omega
    obtain ⟨e1, e2, e3⟩ := h.2.2.2.2.2.2.2 k hkm
    rw [hs.1] at e1
    rw [hs.2.2] at e3
    obtain ⟨l1, l2, l3⟩ := rul_abs h hkm
    rw [hs.1] at l1
    rw [hs.2.2] at l2 l3
    have nx : ∀ v : Int64, v = lN (a k).toInt.natAbs → V_X8_times 37 26 v T (fun S15 => vp_in (nI (3 * k + 2)) 192 ∧ V_X8_times 38 26 (gA S15 32 (nI (3 * k + 2)).toNatClampNeg) S15 (fun S17 => ∀ x18 : Int32, x18 = nI k + 1 → V_X8_drift_34 post (j + 1) x18 S17)) := fun v hv => by
      rw [hv]
      refine x8_times l1 h1 (fun U kU hU => ⟨vp_in_nI (by omega) (by omega), ?_⟩)
      obtain ⟨hR, s1, s2, s3⟩ := rul_kp h kU (by decide) (by decide)
      rw [nI_clamp (by omega), kU.2.2.2 32 (by decide), e3, pos_lN l3]
      have h2U : DG (gA U 38) (prA d k) 26 := by rw [kU.2.2.2 38 (by decide)]; exact h2
      refine x8_times l2 h2U (fun W kW hW => ?_)
      obtain ⟨hR2, t1, t2, t3⟩ := rul_kp hR kW (by decide) (by decide)
      rw [ale, nadd1]
      have kTW : Kp [] [] [] [37, 38] T W := kp_trans (kp_mono kU (by decide) (by decide) (by decide) (by decide)) (kp_mono kW (by decide) (by decide) (by decide) (by decide))
      exact ih (k + 1) W (by omega) hR2 ⟨t1.trans (s1.trans hs.1), t2.trans (s2.trans hs.2.1), t3.trans (s3.trans hs.2.2)⟩ (by rw [kW.2.2.2 37 (by decide)]; exact hU) hW (fun e V kV => hp e V (kp_trans kTW kV)) (fun e => ⟨(hz e).1, fun V kV => (hz e).2 V (kp_trans kTW kV)⟩)
    rw [V_X8_drift_34, hi26, brf (nI_ge hkm (by omega)), nmul3 (by omega), nadd2, gdt (vp_in_nI (by omega) (by omega)), nI_clamp (by omega), e1, brf (hnz k (by omega))]
    refine ⟨fun c => nx _ ?_, fun c => nx _ ?_⟩
    · have c : 0 ≤ (a k).toInt := le64.mp c
      exact of64 (by omega) (by omega)
    · have c : ¬ 0 ≤ (a k).toInt := fun z => c (le64.mpr z)
      exact of64 (by rw [n64 (by omega)]; omega) (by omega)
end
theorem p_drift {S : SS} (h : RR S) : V_X7_drift S (fun r1 S2 => V_X8_drift S2 (fun r3 S4 => (r1 = r3 → RR S4) ∧ (¬ r1 = r3 → False))) := by
  have h25 : gI S 25 = gI S 0 := h.2.1.1
  have hs0 := h.2.2.2.2.2.2
  unfold V_X7_drift
  refine ⟨fun c => ?_, fun c => ?_⟩
  · obtain ⟨m, hR⟩ := rul_of h c
    have ref : ∀ (U : SS) (post : Int32 → SS → Prop), Kp [] [] [] [20, 21] S U → ∀ r, r ≤ m → (∀ t, t < r → ¬ gA S 0 t = 0) → (r = m → ∀ W, Kp [20] [] [] [37, 38] U W → post (cmpN (prA (gA S 0) m) (prA (gA S 2) m)) W) → (r < m → gA S 0 r = 0 ∧ ∀ W, Kp [20] [] [] [37, 38] U W → post (-2) W) → V_X8_drift U post := fun U post kU r hr hnz g1 g0 => by
      obtain ⟨hRU, t1, t2, t3⟩ := rul_kp hR kU (by decide) (by decide)
      show V_X8_drift _ _
      unfold V_X8_drift
      rw [ale, brt (c := gI (sI U 20 0) 25 = (1 : Int32)) hRU.2.2.2.1]
      refine x8_set (fun W1 k1 h1 => x8_set (fun W2 k2 h2 => ?_))
      have kW : Kp [20] [] [] [37, 38] U W2 := kp_trans (kp_sI (kp_refl _ _ _ _ U) (by decide)) (kp_trans (kp_mono k1 (by decide) (by decide) (by decide) (by decide)) (kp_mono k2 (by decide) (by decide) (by decide) (by decide)))
      obtain ⟨hRW, u1, u2, u3⟩ := rul_kp hRU kW (by decide) (by decide)
      refine ⟨r + 1, x8_drift34 (m := m) (a := gA S 0) (b := gA S 1) (d := gA S 2) hr hnz r 0 W2 (by omega) hRW ⟨u1.trans t1, u2.trans t2, u3.trans t3⟩ ?_ h2 (fun e V kV => g1 e V (kp_trans kW (kp_mono kV (by decide) (by decide) (by decide) (by decide)))) (fun e => ⟨(g0 e).1, fun V kV => (g0 e).2 V (kp_trans kW (kp_mono kV (by decide) (by decide) (by decide) (by decide)))⟩)⟩
      rw [k2.2.2.2 37 (by decide)]; exact h1
    have fin : ∀ U W, Kp [] [] [] [20, 21] S U → Kp [20] [] [] [37, 38] U W → RR W := fun U W kU kW => none_end h (kp_mono kU (by decide) (by decide) (by decide) (by decide)) (rs0_kp hs0 kU (by decide) (by decide) (by decide)) (kp_mono kW (by decide) (by decide) (by decide) (by decide))
    refine x5_noShare hR (fun hz => ⟨fun z => absurd z (by decide), fun _ => ?_⟩) (fun hz => ⟨fun _ => ?_, fun z => absurd rfl z⟩)
    · rcases first_not (fun r => ¬ gA S 0 r = 0) m with q | ⟨r, q1, q2, q3⟩
      · obtain ⟨r, hr, e⟩ := hz
        exact absurd e (q r hr)
      · have q2 : gA S 0 r = 0 := Classical.byContradiction q2
        exact ref S _ (kp_refl _ _ _ _ S) r (by omega) q3 (fun e => by omega) (fun _ => ⟨q2, fun W kW => eqp rfl (fin S W (kp_refl _ _ _ _ S) kW)⟩)
    · refine x3_begin (fun U1 k1 h1 => x3_begin (fun U2 k2 h2 => ?_))
      have kU : Kp [] [] [] [20, 21] S U2 := kp_trans (kp_mono k1 (by decide) (by decide) (by decide) (by decide)) (kp_mono k2 (by decide) (by decide) (by decide) (by decide))
      obtain ⟨hR2, s1, s2, s3⟩ := rul_kp hR kU (by decide) (by decide)
      refine ⟨m + 1, x7_drift37 (m := m) (a := gA S 0) (b := gA S 1) (d := gA S 2) m 0 U2 (by omega) hR2 ⟨s1, s2, s3⟩ (by rw [k2.2.2.2 20 (by decide)]; exact h1) h2 (fun U3 k3 => ?_)⟩
      have k3 := kp_trans kU k3
      exact ref U3 _ k3 m (Nat.le_refl _) hz (fun _ W kW => eqp rfl (fin U3 W k3 kW)) (fun e => by omega)
  · show V_X8_drift _ _
    unfold V_X8_drift
    rw [ale, brf (c := gI (sI S 20 0) 25 = (1 : Int32)) (fun z => c (h25.symm.trans z))]
    exact eqp rfl h
