/-! ROW, TOLD: what a throw tells the law -/
/-- the law's end after a call that may throw: k = 0 and the answer, or the number of the throw -/
theorem thp {K : SS → Prop} {S6 : SS} {r1 : Int32} {v : Int64} (h20 : gI S6 20 = r1) (h0 : r1 = 0 → gA S6 41 0 = v) (hK : K S6) : V_X8_thrown S6 (fun r5 S6 => ((r5 = r1 → ((r1 = 0 → (vp_in (0 : Int32) 1 ∧ (((gA S6 41 (0 : Int32).toNatClampNeg) = v → (K S6)) ∧ (¬ (gA S6 41 (0 : Int32).toNatClampNeg) = v → False)))) ∧ (¬ r1 = 0 → (K S6)))) ∧ (¬ r5 = r1 → False))) := by
  unfold V_X8_thrown
  exact ⟨fun _ => ⟨fun e => ⟨by unfold vp_in; decide, fun _ => hK, fun n => n (h0 e)⟩, fun _ => hK⟩, fun n => n h20⟩
theorem x8_refuse {k : Int32} {S : SS} {post : Int64 → SS → Prop} : V_X8_refuse k S post = post 0 (sI S 20 k) := by
  unfold V_X8_refuse; rw [ale]
abbrev endT (r1 : Int32) : Int64 → SS → Prop := fun (r3 : Int64) (S4 : SS) => (V_X8_thrown S4 (fun (r5 : Int32) (S6 : SS) => ((r5 = r1 → ((r1 = 0 → (vp_in (0 : Int32) 1 ∧ (((gA S6 41 (0 : Int32).toNatClampNeg) = r3 → (RR S6)) ∧ (¬ (gA S6 41 (0 : Int32).toNatClampNeg) = r3 → False)))) ∧ (¬ r1 = 0 → (RR S6)))) ∧ (¬ r5 = r1 → False))))
theorem p_row {p : Int32} {S : SS} (h : RR S) : V_L_row p S (fun r1 S2 => V_X8_row p S2 (endT r1)) := by
  obtain ⟨h1, h2, h3, ⟨n, hn, h7, h28, hk⟩, h5⟩ := h
  have hR : RR S := ⟨h1, h2, h3, ⟨n, hn, h7, h28, hk⟩, h5⟩
  unfold V_L_row V_X7_row
  by_cases c : 0 ≤ p.toInt ∧ p.toInt < n
  · obtain ⟨k, rfl, -, hk0⟩ := nat32 (p := p) 0 (n - 1) c.1 (by omega) (by omega)
    have hkn : k < n := by omega
    rw [x2_has h7 hkn hn (by omega), brf (by decide), x2_at h7 hkn hn (by omega)]
    refine ⟨by unfold vp_in; decide, ?_⟩
    rw [ale]
    show V_X8_row _ _ _
    unfold V_X8_row
    have g28 : gI (sI (sA S 41 (vp_updL (gA S 41) (0 : Int32).toNatClampNeg (gA S 12 k))) 20 0) 28 = nI n := h28
    rw [ale, g28, nsub1 (by omega), x8_in (by rw [i64_toInt]; exact c.1) (by rw [i64_toInt, nI_toInt (by omega), i64_toInt, nI_toInt (by omega)]; omega), brf (by decide), gdt (vp_in_nI (by omega) (by omega)), nI_clamp (by omega)]
    refine thp rfl (fun _ => ?_) hR
    show vp_updL (gA S 41) 0 (gA S 12 k) 0 = gA S 35 k
    rw [updL_eq, hk k hkn]
  · rw [x2_hasN h7 hn (by omega) c, brt rfl]
    refine ⟨rfl, ?_⟩
    show V_X8_row _ _ _
    unfold V_X8_row
    have g28 : gI (sI S 20 0) 28 = nI n := h28
    rw [ale, g28, x8_out, brt rfl, x8_refuse]
    · exact thp rfl (fun z => absurd z (by decide)) hR
    · rw [i64_toInt, i64_toInt, show (0 : Int64).toInt = 0 from rfl]
      intro z
      apply c
      refine ⟨z.1, ?_⟩
      have z2 := z.2
      by_cases n0 : n = 0
      · subst n0
        rw [show (nI 0 - (1 : Int32)).toInt = -1 from rfl] at z2
        omega
      · rw [nsub1 (by omega), nI_toInt (by omega)] at z2
        omega
