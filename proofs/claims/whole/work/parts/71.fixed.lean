/-! FIXED -/
def fxF (m : Nat) (a b d : Nat → Int64) (r : Nat) : Option Int64 :=
  if d r - a r = (0 : Int64) then none
  else if lrm (b r) (d r - a r) = (0 : Int64) then (if rst (b r / (d r - a r)) m = r then some (b r / (d r - a r)) else none)
  else none
section
variable {m : Nat} {a b d : Nat → Int64}
theorem x7_fixed19 {post : Int32 → SS → Prop} : ∀ (j k : Nat) (T : SS), k + j = m → RUL T m → gA T 0 = a ∧ gA T 1 = b ∧ gA T 2 = d → NR T 7 12 (isL (cdL (fxF m a b d) k)) → (∀ U, Kp [7] [] [] [12] T U → NR U 7 12 (isL (cdL (fxF m a b d) m)) → post (nI (isL (cdL (fxF m a b d) m)).length) U) → V_X7_fixed_19 post (j + 1) (nI k) T := by
  intro j
  induction j with
  | zero =>
    intro k T hk h hs hF hp
    obtain rfl : k = m := by omega
    rw [V_X7_fixed_19, x5_measure, h.2.2.2.2.1, brt (nI_le (Nat.le_refl _) (by have := h.2.1; omega)), x2_size, hF.1]
    exact hp T (kp_refl _ _ _ _ T) hF
  | succ j ih =>
    intro k T hk h hs hF hp
    have hkm : k < m := by omega
    have hm2 := h.1
    have hm := h.2.1
    have hi1 := h.2.2.2.2.1
    have hd := (h.2.2.2.2.2.2.1 k hkm).2.2.1.1
    have skip : fxF m a b d k = none → V_X7_fixed_19 post (j + 1) (nI (k + 1)) T := fun hn => ih (k + 1) T (by omega) h hs (by rw [cdL_none hn]; exact hF) hp
    rw [V_X7_fixed_19, x5_measure, hi1, brf (nI_ge (by omega) (by omega)), x5_d hi1 hkm hm hd, x5_a hi1 hkm hm, ale, x5_b hi1 hkm hm, hs.1, hs.2.1, hs.2.2]
    by_cases c0 : d k - a k = (0 : Int64)
    · rw [brt c0, ale, nadd1]
      exact skip (if_pos c0)
    · rw [brf c0, gdt c0]
      by_cases c1 : lrm (b k) (d k - a k) = (0 : Int64)
      · rw [brt c1, x5_b hi1 hkm hm, hs.2.1, gdt c0, x5_restOf hi1 (by omega) hm]
        have hrl : rst (b k / (d k - a k)) m < m := rest_lt _ (show 1 ≤ m by omega)
        refine ⟨fun c2 => ?_, fun c2 => ?_⟩
        · have c2 : rst (b k / (d k - a k)) m = k := (nI_inj (a := rst (b k / (d k - a k)) m) (by omega) (by omega)).mp c2
          have hy : fxF m a b d k = some (b k / (d k - a k)) := by
            unfold fxF
            rw [if_neg c0, if_pos c1, if_pos c2]
          have hlen : (isL (cdL (fxF m a b d) k)).length ≤ 64 := by rw [isL_len]; have := cdL_len (fxF m a b d) k; omega
          rw [x5_b hi1 hkm hm, hs.2.1, gdt c0]
          refine x2_sortInL hF (isL_asc _) (by omega) (by omega) (by omega) (fun U kU hU => ?_)
          rw [take_id (by rw [insL_len]; omega), ← isL_snoc, ← cdL_some hy] at hU
          obtain ⟨hR, s1, s2, s3⟩ := rul_kp h kU (by decide) (by decide)
          rw [ale, nadd1]
          exact ih (k + 1) U (by omega) hR ⟨s1.trans hs.1, s2.trans hs.2.1, s3.trans hs.2.2⟩ hU (fun W kW hW => hp W (kp_trans kU kW) hW)
        · have c2 : ¬ rst (b k / (d k - a k)) m = k := fun z => c2 (congrArg nI z)
          rw [ale, nadd1]
          refine skip ?_
          unfold fxF
          rw [if_neg c0, if_pos c1, if_neg c2]
      · rw [brf c1, ale, nadd1]
        refine skip ?_
        unfold fxF
        rw [if_neg c0, if_neg c1]
theorem x8_fixed19 {post : Int32 → SS → Prop} : ∀ (j k : Nat) (T : SS), k + j = m → RUL T m → gA T 0 = a ∧ gA T 1 = b ∧ gA T 2 = d → FN (gA T 36) (cdL (fxF m a b d) k) → (∀ U, Kp [28] [] [] [35, 36] T U → NR U 28 35 (isL (cdL (fxF m a b d) m)) → post (nI (cdL (fxF m a b d) m).length) U) → V_X8_fixed_19 post (j + 1) (nI (cdL (fxF m a b d) k).length) (nI k) T := by
  intro j
  induction j with
  | zero =>
    intro k T hk h hs hF hp
    obtain rfl : k = m := by omega
    have hlen : (cdL (fxF k a b d) k).length ≤ 64 := by have := cdL_len (fxF k a b d) k; have := h.2.1; omega
    rw [V_X8_fixed_19, h.2.2.2.2.2.1, brt (nI_le (Nat.le_refl _) (by have := h.2.1; omega))]
    refine x8_ascendL hF rfl (by omega) (fun U4 k4 h4 => ?_)
    refine x8_tellsL h4 (isL_len _) (by omega) (fun U5 k5 h5 => ?_)
    rw [take_id (by rw [isL_len]; omega)] at h5
    exact hp U5 (kp_trans (kp_mono k4 (by decide) (by decide) (by decide) (by decide)) (kp_mono k5 (by decide) (by decide) (by decide) (by decide))) h5
  | succ j ih =>
    intro k T hk h hs hF hp
    have hkm : k < m := by omega
    have hR := h
    obtain ⟨hm2, hm, g0, g25, hi1, hi26, hf, he⟩ := h
    obtain ⟨e1, e2, e3⟩ := he k hkm
    rw [hs.1] at e1
    rw [hs.2.1] at e2
    rw [hs.2.2] at e3
    have hlen : (cdL (fxF m a b d) k).length ≤ 64 := by have := cdL_len (fxF m a b d) k; omega
    have skip : fxF m a b d k = none → V_X8_fixed_19 post (j + 1) (nI (cdL (fxF m a b d) k).length) (nI (k + 1)) T := fun hn => by
      have := ih (k + 1) T (by omega) hR hs (by rw [cdL_none hn]; exact hF) hp
      rw [cdL_none hn] at this
      exact this
    rw [V_X8_fixed_19, hi26, brf (nI_ge (by omega) (by omega)), nmul3 (by omega), nadd1, nadd2, gdt (vp_in_nI (by omega) (by omega)), gdt (vp_in_nI (by omega) (by omega)), nI_clamp (by omega), nI_clamp (by omega), nI_clamp (by omega), e1, e2, e3, ale, gdt (vp_in_nI (by omega) (by omega))]
    by_cases c0 : d k - a k = (0 : Int64)
    · rw [brt c0, ale, nadd1]
      exact skip (if_pos c0)
    · rw [brf c0, gdt c0]
      by_cases c1 : lrm (b k) (d k - a k) = (0 : Int64)
      · rw [brt c1, gdt c0]
        refine x8_restBy (by omega) hm ⟨fun c2 => ?_, fun c2 => ?_⟩
        · have c2 := (rst_eq (by omega) hm (by omega)).mp c2
          have hy : fxF m a b d k = some (b k / (d k - a k)) := by
            unfold fxF
            rw [if_neg c0, if_pos c1, if_pos c2]
          rw [gdt c0, gdt (vp_in_nI (by omega) (by omega)), ale, ale, ale, nI_clamp (by omega), nadd1, nadd1]
          have kT : Kp [28] [] [] [35, 36] T (sA T 36 (vp_updL (gA T 36) (cdL (fxF m a b d) k).length (b k / (d k - a k)))) := kp_sA (kp_refl _ _ _ _ T) (by decide)
          have hF2 := fn_add (v := b k / (d k - a k)) hF
          rw [← cdL_some hy] at hF2
          have := ih (k + 1) (sA T 36 (vp_updL (gA T 36) (cdL (fxF m a b d) k).length (b k / (d k - a k)))) (by omega) (rul_kp hR kT (by decide) (by decide)).1 hs (by rw [gA_sA]; exact hF2) (fun U kU hU => hp U (kp_trans kT kU) hU)
          have el : (cdL (fxF m a b d) (k + 1)).length = (cdL (fxF m a b d) k).length + 1 := by
            rw [cdL_some hy, List.length_append]; rfl
          rw [el] at this
          exact this
        · have c2 : ¬ rst (b k / (d k - a k)) m = k := fun z => c2 ((rst_eq (by omega) hm (by omega)).mpr z)
          rw [ale, nadd1]
          refine skip ?_
          unfold fxF
          rw [if_neg c0, if_pos c1, if_neg c2]
      · rw [brf c1, ale, nadd1]
        refine skip ?_
        unfold fxF
        rw [if_neg c0, if_neg c1]
end
theorem p_fixed {S : SS} (h : RR S) : V_X7_fixed S (fun r1 S2 => V_X8_fixed S2 (fun r3 S4 => (r1 = r3 → RR S4) ∧ (¬ r1 = r3 → False))) := by
  have h25 : gI S 25 = gI S 0 := h.2.1.1
  unfold V_X7_fixed
  refine ⟨fun c => ?_, fun c => ?_⟩
  · obtain ⟨m, hR⟩ := rul_of h c
    refine x2_emptyL (fun U1 k1 h1 => ?_)
    obtain ⟨hR1, s1, s2, s3⟩ := rul_kp hR k1 (by decide) (by decide)
    refine ⟨m + 1, x7_fixed19 (a := gA S 0) (b := gA S 1) (d := gA S 2) m 0 U1 (by omega) hR1 ⟨s1, s2, s3⟩ h1 (fun U2 k2 h2 => ?_)⟩
    have k2 := kp_trans k1 k2
    obtain ⟨hR2, t1, t2, t3⟩ := rul_kp hR k2 (by decide) (by decide)
    have hlen : (cdL (fxF m (gA S 0) (gA S 1) (gA S 2)) m).length ≤ 64 := by have := cdL_len (fxF m (gA S 0) (gA S 1) (gA S 2)) m; have := hR.2.1; omega
    show V_X8_fixed _ _
    unfold V_X8_fixed
    rw [ale, brt (c := gI (sI U2 20 0) 25 = (1 : Int32)) hR2.2.2.2.1]
    refine ⟨m + 1, x8_fixed19 (a := gA S 0) (b := gA S 1) (d := gA S 2) m 0 (sI U2 20 0) (by omega) hR2 ⟨t1, t2, t3⟩ (fn_nil _) (fun U5 k5 h5 => eqp (by rw [isL_len]) ?_)⟩
    exact row_end h (kp_mono k2 (by decide) (by decide) (by decide) (by decide)) (rs0_kp h.2.2.2.2.2.2 k2 (by decide) (by decide) (by decide)) h2 (kp_trans (kp_sI (kp_refl _ _ _ _ U2) (by decide)) (kp_mono k5 (by decide) (by decide) (by decide) (by decide))) h5 (by rw [isL_len]; omega)
  · show V_X8_fixed _ _
    unfold V_X8_fixed
    rw [ale, brf (c := gI (sI S 20 0) 25 = (1 : Int32)) (fun z => c (h25.symm.trans z))]
    exact eqp rfl h
