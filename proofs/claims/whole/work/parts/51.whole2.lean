/-! WHOLE to its end -/
theorem whF_out {a b d : Nat → Int64} {x : Int64} {m : Nat} (hr : rulF m a b d) (hx : ¬ isN x) : ∀ (j k : Nat) (v : Int64), k + j = m → whF a b d x j k v = v := by
  intro j
  induction j with
  | zero => intro k v _; rfl
  | succ j ih =>
    intro k v hk
    unfold whF
    obtain ⟨-, hb, ⟨hd, -⟩, -, -⟩ := hr k (by omega)
    have ne : ¬ b k / d k = x := fun e => by
      apply hx
      rw [← e]
      have e2 : (b k / d k).toInt = (b k).toInt.tdiv (d k).toInt := d64 (by omega)
      have h3 : ((b k).toInt.tdiv (d k).toInt).natAbs ≤ (b k).toInt.natAbs := by
        rw [Int.natAbs_tdiv]; exact Nat.div_le_self _ _
      unfold isN
      rw [e2]
      omega
    rw [if_neg ne, ite_self]
    exact ih (k + 1) v (by omega)
theorem p_whole {x : Int64} {S : SS} (h : RR S) : V_X7_whole x S (fun r1 S2 => V_X8_whole x S2 (fun r3 S4 => (r1 = r3 → RR S4) ∧ (¬ r1 = r3 → False))) := by
  have h25 : gI S 25 = gI S 0 := h.2.1.1
  unfold V_X7_whole
  refine ⟨fun q => ?_, fun q => ?_⟩
  · obtain ⟨m, hm2, hm, h1, h26, hr, heq⟩ : Rru (gI S 1) (gI S 26) (gA S 0) (gA S 1) (gA S 2) (gA S 32) := by
      rcases h.2.1.2 with z | ⟨-, z⟩ | ⟨z, -⟩
      · rw [z] at q; exact absurd q (by decide)
      · exact z
      · rw [z] at q; exact absurd q (by decide)
    refine ⟨m + 1, x7_whole15 (m := m) h1 hm hr m 0 0 (by omega) ?_⟩
    show V_X8_whole _ _ _
    unfold V_X8_whole
    rw [ale]
    by_cases cx : -1000000000000000 ≤ x.toInt ∧ x.toInt ≤ 1000000000000000
    · exact ⟨m + 1, x8_whole10 (S := sI S 20 0) (m := m) (a := gA S 0) (b := gA S 1) (d := gA S 2) h26 (h25.trans q) cx hm (fun r hr' => ⟨(heq r hr').1, (heq r hr').2.1, (heq r hr').2.2, (hr r hr').2.2.1.1⟩) m 0 0 (by omega) (eqp rfl h)⟩
    · refine ⟨1, ?_⟩
      rw [V_X8_whole_10]
      have e := whF_out hr (x := x) cx m 0 0 (by omega)
      refine ⟨fun _ => eqp e h, fun _ => ⟨fun _ => ?_, fun _ => eqp e h⟩⟩
      rw [x8_notN cx, brt rfl]
      exact eqp e h
  · show V_X8_whole _ _ _
    unfold V_X8_whole
    rw [ale]
    refine ⟨1, ?_⟩
    rw [V_X8_whole_10]
    exact ⟨fun _ => eqp rfl h, fun _ => ⟨fun z => absurd (h25.symm.trans z) q, fun _ => eqp rfl h⟩⟩
