/-! LIST, COUNT, REST, CLEAR, SCRAP, ROW, ACT -/
theorem p_list {S : SS} (h : RR S) : V_X7_list S (fun r1 S2 => V_X8_list S2 (fun r3 S4 => (r1 = r3 → RR S4) ∧ (¬ r1 = r3 → False))) := by
  obtain ⟨h1, h2, h3⟩ := h
  unfold V_X7_list V_X0_empty
  rw [ale, ale]
  show V_X8_list _ _
  unfold V_X8_list
  rw [ale, ale, ale]
  exact eqp rfl ⟨h1, ⟨rfl, Or.inr (Or.inr ⟨rfl, 0, by omega, rfl, rfl, fun i hi => absurd hi (by omega)⟩)⟩, h3⟩
theorem p_clear {S : SS} (h : RR S) : V_X7_clear S (fun r1 S2 => V_X8_clear S2 (fun r3 S4 => (r1 = r3 → RR S4) ∧ (¬ r1 = r3 → False))) := by
  obtain ⟨h1, h2, h3, h4, ⟨n, hn, h10, h29, hk⟩, h6⟩ := h
  unfold V_X7_clear
  rw [x2_size, x2_empty]
  show V_X8_clear _ _
  unfold V_X8_clear
  rw [ale, ale]
  exact eqp (h10.trans h29.symm) ⟨h1, h2, h3, h4, ⟨0, by omega, rfl, rfl, fun i hi => absurd hi (by omega)⟩, h6⟩
theorem x1_size {S : SS} {post : Int32 → SS → Prop} : V_X1_size S post = post (gI S 12) S := rfl
theorem x1_empty {S : SS} {post : SS → Prop} : V_X1_empty S post = post (sI (sI (sI (sI S 12 0) 13 0) 14 0) 15 0) := by
  unfold V_X1_empty
  rw [x2_empty, x2_empty, x2_empty, x2_empty]
theorem p_scrap {S : SS} (h : RR S) : V_X7_scrap S (fun r1 S2 => V_X8_scrap S2 (fun r3 S4 => (r1 = r3 → RR S4) ∧ (¬ r1 = r3 → False))) := by
  obtain ⟨h1, h2, h3, h4, h5, ⟨n, hn, h12, h13, h14, h15, h31, hk⟩, h7⟩ := h
  unfold V_X7_scrap
  rw [x1_size, x1_empty]
  show V_X8_scrap _ _
  unfold V_X8_scrap
  rw [ale, ale]
  exact eqp (h12.trans h31.symm) ⟨h1, h2, h3, h4, h5, ⟨0, by omega, rfl, rfl, rfl, rfl, rfl, fun i hi => absurd hi (by omega)⟩, h7⟩
theorem p_count {p : Int32} {S : SS} (h : RR S) : V_X7_count p S (fun r1 S2 => V_X8_count p S2 (fun r3 S4 => (r1 = r3 → RR S4) ∧ (¬ r1 = r3 → False))) := by
  have hR : RR (sI S 20 0) := h
  obtain ⟨h1, ⟨h25, h2⟩, h3, ⟨n7, hn7, h7, h28, -⟩, ⟨n10, hn10, h10, h29, -⟩, ⟨n12, hn12, h12, -, -, -, h31, -⟩, h8⟩ := h
  have key : ∀ r : Int32, (p = 0 → r = gI S 25) → (p = 1 → r = if gI S 25 = 1 then gI S 26 else 0) → (p = 2 → r = if gI S 25 = 2 then gI S 27 else 0) → (p = 3 → r = gI S 28) → (p = 4 → r = gI S 29) → (p = 5 → r = gI S 31) → (p = 6 → r = if 0 ≤ gI S 21 then gI S 22 else -1) → (p.toInt < 0 ∨ 6 < p.toInt → r = -1) → V_X8_count p S (fun r3 S4 => (r = r3 → RR S4) ∧ (¬ r = r3 → False)) := by
    intro r k0 k1 k2 k3 k4 k5 k6 k7
    unfold V_X8_count
    rw [ale]
    refine ⟨fun e => eqp (k0 e) hR, fun e => ⟨fun c => eqp ((k1 e).trans (if_pos c)) hR, fun c => eqp ((k1 e).trans (if_neg c)) hR⟩, fun e => ⟨fun c => eqp ((k2 e).trans (if_pos c)) hR, fun c => eqp ((k2 e).trans (if_neg c)) hR⟩, fun e => eqp (k3 e) hR, fun e => eqp (k4 e) hR, fun e => eqp (k5 e) hR, fun e => ⟨fun c => eqp ((k6 e).trans (if_pos c)) hR, fun c => eqp ((k6 e).trans (if_neg c)) hR⟩, fun e => eqp (k7 e) hR⟩
  have ne : ∀ a b : Int32, a.toInt ≠ b.toInt → p = a → p = b → False := fun a b q e1 e2 => q (by rw [← e1, ← e2])
  have nr : ∀ a : Int32, (0 ≤ a.toInt ∧ a.toInt ≤ 6) → p = a → ¬ (p.toInt < 0 ∨ 6 < p.toInt) := fun a q e z => by rw [e] at z; omega
  unfold V_X7_count
  refine ⟨fun e => ?_, fun e => ⟨fun c => ?_, fun c => ?_⟩, fun e => ⟨fun c => ?_, fun c => ?_⟩, fun e => ?_, fun e => ?_, fun e => ?_, fun e => ?_, fun e => ?_⟩
  · exact key _ (fun _ => h25.symm) (fun q => (ne _ _ (by decide) e q).elim) (fun q => (ne _ _ (by decide) e q).elim) (fun q => (ne _ _ (by decide) e q).elim) (fun q => (ne _ _ (by decide) e q).elim) (fun q => (ne _ _ (by decide) e q).elim) (fun q => (ne _ _ (by decide) e q).elim) (fun q => absurd q (nr _ (by decide) e))
  · have e1 : gI S 1 = gI S 26 := by
      rcases h2 with q | ⟨q, m, -, -, a, b, -⟩ | ⟨q, -⟩
      · rw [q] at c; exact absurd c (by decide)
      · rw [a, b]
      · rw [q] at c; exact absurd c (by decide)
    exact key _ (fun q => (ne _ _ (by decide) e q).elim) (fun _ => by rw [if_pos (h25.trans c)]; exact e1) (fun q => (ne _ _ (by decide) e q).elim) (fun q => (ne _ _ (by decide) e q).elim) (fun q => (ne _ _ (by decide) e q).elim) (fun q => (ne _ _ (by decide) e q).elim) (fun q => (ne _ _ (by decide) e q).elim) (fun q => absurd q (nr _ (by decide) e))
  · exact key _ (fun q => (ne _ _ (by decide) e q).elim) (fun _ => by rw [if_neg (fun z => c (h25.symm.trans z))]) (fun q => (ne _ _ (by decide) e q).elim) (fun q => (ne _ _ (by decide) e q).elim) (fun q => (ne _ _ (by decide) e q).elim) (fun q => (ne _ _ (by decide) e q).elim) (fun q => (ne _ _ (by decide) e q).elim) (fun q => absurd q (nr _ (by decide) e))
  · have e1 : gI S 4 = gI S 27 := by
      rcases h2 with q | ⟨q, -⟩ | ⟨q, n, -, a, b, -⟩
      · rw [q] at c; exact absurd c (by decide)
      · rw [q] at c; exact absurd c (by decide)
      · rw [a, b]
    exact key _ (fun q => (ne _ _ (by decide) e q).elim) (fun q => (ne _ _ (by decide) e q).elim) (fun _ => by rw [if_pos (h25.trans c)]; exact e1) (fun q => (ne _ _ (by decide) e q).elim) (fun q => (ne _ _ (by decide) e q).elim) (fun q => (ne _ _ (by decide) e q).elim) (fun q => (ne _ _ (by decide) e q).elim) (fun q => absurd q (nr _ (by decide) e))
  · exact key _ (fun q => (ne _ _ (by decide) e q).elim) (fun q => (ne _ _ (by decide) e q).elim) (fun _ => by rw [if_neg (fun z => c (h25.symm.trans z))]) (fun q => (ne _ _ (by decide) e q).elim) (fun q => (ne _ _ (by decide) e q).elim) (fun q => (ne _ _ (by decide) e q).elim) (fun q => (ne _ _ (by decide) e q).elim) (fun q => absurd q (nr _ (by decide) e))
  · exact key _ (fun q => (ne _ _ (by decide) e q).elim) (fun q => (ne _ _ (by decide) e q).elim) (fun q => (ne _ _ (by decide) e q).elim) (fun _ => h7.trans h28.symm) (fun q => (ne _ _ (by decide) e q).elim) (fun q => (ne _ _ (by decide) e q).elim) (fun q => (ne _ _ (by decide) e q).elim) (fun q => absurd q (nr _ (by decide) e))
  · exact key _ (fun q => (ne _ _ (by decide) e q).elim) (fun q => (ne _ _ (by decide) e q).elim) (fun q => (ne _ _ (by decide) e q).elim) (fun q => (ne _ _ (by decide) e q).elim) (fun _ => h10.trans h29.symm) (fun q => (ne _ _ (by decide) e q).elim) (fun q => (ne _ _ (by decide) e q).elim) (fun q => absurd q (nr _ (by decide) e))
  · exact key _ (fun q => (ne _ _ (by decide) e q).elim) (fun q => (ne _ _ (by decide) e q).elim) (fun q => (ne _ _ (by decide) e q).elim) (fun q => (ne _ _ (by decide) e q).elim) (fun q => (ne _ _ (by decide) e q).elim) (fun _ => h12.trans h31.symm) (fun q => (ne _ _ (by decide) e q).elim) (fun q => absurd q (nr _ (by decide) e))
  · rcases h3 with ⟨h5, h21, h6⟩ | ⟨t, n, ht, hn, h30, h5, h21, h6, h22, hk⟩
    · rw [x6_there0 h5, brt rfl]
      exact key _ (fun q => (ne _ _ (by decide) e q).elim) (fun q => (ne _ _ (by decide) e q).elim) (fun q => (ne _ _ (by decide) e q).elim) (fun q => (ne _ _ (by decide) e q).elim) (fun q => (ne _ _ (by decide) e q).elim) (fun q => (ne _ _ (by decide) e q).elim) (fun _ => by rw [h21]; rfl) (fun q => absurd q (nr _ (by decide) e))
    · have n5 : ¬ gI S 5 = -1 := fun q => by
        have := congrArg Int32.toInt (h5.symm.trans q)
        rw [nI_toInt (by omega), show (-1 : Int32).toInt = -1 from rfl] at this
        omega
      rw [x6_there1 n5, brf (by decide), x6_entries]
      exact key _ (fun q => (ne _ _ (by decide) e q).elim) (fun q => (ne _ _ (by decide) e q).elim) (fun q => (ne _ _ (by decide) e q).elim) (fun q => (ne _ _ (by decide) e q).elim) (fun q => (ne _ _ (by decide) e q).elim) (fun q => (ne _ _ (by decide) e q).elim) (fun _ => by rw [h21, if_pos (nI_pos' (by omega)), h22]; exact h6) (fun q => absurd q (nr _ (by decide) e))
  · exact key _ (fun q => absurd e (nr _ (by decide) q)) (fun q => absurd e (nr _ (by decide) q)) (fun q => absurd e (nr _ (by decide) q)) (fun q => absurd e (nr _ (by decide) q)) (fun q => absurd e (nr _ (by decide) q)) (fun q => absurd e (nr _ (by decide) q)) (fun q => absurd e (nr _ (by decide) q)) (fun _ => rfl)
theorem p_rest {p : Int32} {S : SS} (h : RR S) : V_X7_rest p S (fun r1 S2 => V_X8_rest p S2 (fun r3 S4 => (r1 = r3 → RR S4) ∧ (¬ r1 = r3 → False))) := by
  have hR : RR (sI S 20 0) := h
  obtain ⟨h1, h2, h3, h4, ⟨n, hn, h10, h29, hk⟩, h6⟩ := h
  unfold V_X7_rest
  by_cases c : 0 ≤ p.toInt ∧ p.toInt ≤ 63
  · obtain ⟨w, rfl, -, hw⟩ := nat32 (p := p) 0 63 c.1 c.2 (by omega)
    rw [brf (nI_pos (by omega)), brt (c := nI w < (64 : Int32)) (nI_lt (b := 64) (by omega) (by omega))]
    rcases Nat.lt_or_ge n 40 with q | q
    · rw [x2_add h10 q (by omega), brf (by decide), x2_size, gI_sI]
      show V_X8_rest _ _ _
      unfold V_X8_rest
      have g29 : gI (sI (sI (sA S 15 (vp_updL (gA S 15) n (nI w).toInt64)) 10 (nI (n + 1))) 20 0) 29 = nI n := h29
      rw [ale, x8_in (by rw [i64_toInt]; exact c.1) (by rw [i64_toInt]; exact c.2), brf (by decide), g29, brf (c := nI n = (40 : Int32)) (fun z => by have := (nI_inj (a := n) (b := 40) (by omega) (by omega)).mp z; omega), gdt (vp_in_nI q (by omega)), ale, ale, nI_clamp (by omega)]
      refine eqp (by show nI (n + 1) = gI S 29 + 1; rw [h29, nadd1]) ⟨h1, h2, h3, h4, ⟨n + 1, by omega, rfl, by show gI S 29 + 1 = nI (n + 1); rw [h29, nadd1], fun k hk' => ?_⟩, h6⟩
      by_cases e : k = n
      · subst e
        exact ⟨w, by omega, by show vp_updL (gA S 15) k (nI w).toInt64 k = lN w; rw [updL_eq, nI_i64 (by omega)], if_pos rfl⟩
      · obtain ⟨w', a, b, b2⟩ := hk k (by omega)
        exact ⟨w', a, by show vp_updL (gA S 15) n (nI w).toInt64 k = lN w'; rw [updL_ne _ _ e, b], (if_neg e).trans b2⟩
    · have e40 : n = 40 := by omega
      subst e40
      rw [x2_addF h10 (by omega), brt rfl]
      show V_X8_rest _ _ _
      unfold V_X8_rest
      have g29 : gI (sI S 20 0) 29 = (40 : Int32) := h29
      rw [ale, x8_in (by rw [i64_toInt]; exact c.1) (by rw [i64_toInt]; exact c.2), brf (by decide), brt g29]
      exact eqp rfl hR
  · have hx : V_X8_rest p S (fun r3 S4 => ((-1 : Int32) = r3 → RR S4) ∧ (¬ (-1 : Int32) = r3 → False)) := by
      unfold V_X8_rest
      rw [ale, x8_out (by rw [i64_toInt]; exact c), brt rfl]
      exact eqp rfl hR
    refine ⟨fun _ => hx, fun c1 => ⟨fun c2 => ?_, fun _ => hx⟩⟩
    have d1 : ¬ p.toInt < 0 := fun q => c1 (lt32.mpr q)
    have d2 : p.toInt < 64 := lt32.mp c2
    exact absurd ⟨by omega, by omega⟩ c
