/-! ACT to its end, FRACTION -/
theorem p_act {p0 p1 p2 p3 : Int32} {S : SS} (h : RR S) : V_X7_act p0 p1 p2 p3 S (fun r1 S2 => V_X8_act p0 p1 p2 p3 S2 (fun r3 S4 => (r1 = r3 → RR S4) ∧ (¬ r1 = r3 → False))) := by
  have hR : RR (sI S 20 0) := h
  obtain ⟨h1, h2, h3, h4, h5, ⟨n, hn, h12, h13, h14, h15, h31, hk⟩, h7⟩ := h
  refine x7_act (fun q => ?_) (fun q => ?_)
  · show V_X8_act _ _ _ _ _ _
    exact x8_act (fun _ => eqp rfl hR) (fun z => absurd z q)
  · rcases Nat.lt_or_ge n 12 with c | c
    · refine x1_add c h12 h13 h14 h15 ⟨fun e => absurd e (by decide), fun _ => ?_⟩
      rw [x1_size]
      show V_X8_act _ _ _ _ _ _
      refine x8_act (fun z => absurd q z) (fun _ => app_of (n := n) h31 c (eqp (by show nI (n + 1) - 1 = nI n; rw [nsub1 (by omega)]; rfl) ⟨h1, h2, h3, h4, h5, ⟨n + 1, by omega, rfl, rfl, rfl, rfl, rfl, fun k hk' => ?_⟩, h7⟩))
      show vp_updL (gA S 22) n p0.toInt64 k = (upd (upd (upd (upd (gB S 3) (4 * n) p0) (4 * n + 1) p1) (4 * n + 2) p2) (4 * n + 3) p3 (4 * k)).toInt64 ∧ vp_updL (gA S 23) n p1.toInt64 k = (upd (upd (upd (upd (gB S 3) (4 * n) p0) (4 * n + 1) p1) (4 * n + 2) p2) (4 * n + 3) p3 (4 * k + 1)).toInt64 ∧ vp_updL (gA S 24) n p2.toInt64 k = (upd (upd (upd (upd (gB S 3) (4 * n) p0) (4 * n + 1) p1) (4 * n + 2) p2) (4 * n + 3) p3 (4 * k + 2)).toInt64 ∧ vp_updL (gA S 25) n p3.toInt64 k = (upd (upd (upd (upd (gB S 3) (4 * n) p0) (4 * n + 1) p1) (4 * n + 2) p2) (4 * n + 3) p3 (4 * k + 3)).toInt64 ∧ (0 ≤ (upd (upd (upd (upd (gB S 3) (4 * n) p0) (4 * n + 1) p1) (4 * n + 2) p2) (4 * n + 3) p3 (4 * k)).toInt ∧ (upd (upd (upd (upd (gB S 3) (4 * n) p0) (4 * n + 1) p1) (4 * n + 2) p2) (4 * n + 3) p3 (4 * k)).toInt ≤ 2) ∧ ((upd (upd (upd (upd (gB S 3) (4 * n) p0) (4 * n + 1) p1) (4 * n + 2) p2) (4 * n + 3) p3 (4 * k)).toInt ≠ 2 → (0 ≤ (upd (upd (upd (upd (gB S 3) (4 * n) p0) (4 * n + 1) p1) (4 * n + 2) p2) (4 * n + 3) p3 (4 * k + 1)).toInt ∧ (upd (upd (upd (upd (gB S 3) (4 * n) p0) (4 * n + 1) p1) (4 * n + 2) p2) (4 * n + 3) p3 (4 * k + 1)).toInt ≤ 3) ∧ (0 ≤ (upd (upd (upd (upd (gB S 3) (4 * n) p0) (4 * n + 1) p1) (4 * n + 2) p2) (4 * n + 3) p3 (4 * k + 2)).toInt ∧ (upd (upd (upd (upd (gB S 3) (4 * n) p0) (4 * n + 1) p1) (4 * n + 2) p2) (4 * n + 3) p3 (4 * k + 2)).toInt ≤ 11)) ∧ ((upd (upd (upd (upd (gB S 3) (4 * n) p0) (4 * n + 1) p1) (4 * n + 2) p2) (4 * n + 3) p3 (4 * k)).toInt = 1 → 0 ≤ (upd (upd (upd (upd (gB S 3) (4 * n) p0) (4 * n + 1) p1) (4 * n + 2) p2) (4 * n + 3) p3 (4 * k + 3)).toInt ∧ (upd (upd (upd (upd (gB S 3) (4 * n) p0) (4 * n + 1) p1) (4 * n + 2) p2) (4 * n + 3) p3 (4 * k + 3)).toInt ≤ 11)
      have ueq : ∀ (f : Nat → Int32) (a : Nat) (v : Int32), upd f a v a = v := fun _ _ _ => if_pos rfl
      have une : ∀ (f : Nat → Int32) (a b : Nat) (v : Int32), b ≠ a → upd f a v b = f b := fun _ _ _ _ z => if_neg z
      by_cases e : k = n
      · subst e
        rw [une _ _ (4 * k) _ (by omega), une _ _ (4 * k) _ (by omega), une _ _ (4 * k) _ (by omega), ueq, une _ _ (4 * k + 1) _ (by omega), une _ _ (4 * k + 1) _ (by omega), ueq, une _ _ (4 * k + 2) _ (by omega), ueq, ueq, updL_eq, updL_eq, updL_eq, updL_eq]
        exact ⟨rfl, rfl, rfl, rfl, q⟩
      · rw [une _ _ (4 * k) _ (by omega), une _ _ (4 * k) _ (by omega), une _ _ (4 * k) _ (by omega), une _ _ (4 * k) _ (by omega), une _ _ (4 * k + 1) _ (by omega), une _ _ (4 * k + 1) _ (by omega), une _ _ (4 * k + 1) _ (by omega), une _ _ (4 * k + 1) _ (by omega), une _ _ (4 * k + 2) _ (by omega), une _ _ (4 * k + 2) _ (by omega), une _ _ (4 * k + 2) _ (by omega), une _ _ (4 * k + 2) _ (by omega), une _ _ (4 * k + 3) _ (by omega), une _ _ (4 * k + 3) _ (by omega), une _ _ (4 * k + 3) _ (by omega), une _ _ (4 * k + 3) _ (by omega), updL_ne _ _ e, updL_ne _ _ e, updL_ne _ _ e, updL_ne _ _ e]
        exact hk k (by omega)
    · obtain rfl : n = 12 := by omega
      refine x1_addF h12 ⟨fun _ => ?_, fun e => absurd rfl e⟩
      show V_X8_act _ _ _ _ _ _
      refine x8_act (fun z => absurd q z) (fun _ => ?_)
      unfold V_app
      rw [show gI (sI S 20 0) 31 = nI 12 from h31, brt (c := (12 : Int32) ≤ nI 12) (by decide)]
      exact eqp rfl hR
theorem natAbs_pos {x : Int64} {n : Nat} (h1 : 1 ≤ x.toInt) (h : x.toInt.natAbs = n) : x.toInt = (n : Int) := by omega
theorem div_lN {p : Int64} {g : Nat} (h1 : 1 ≤ p.toInt) (hg : 1 ≤ g) (hd : g ∣ p.toInt.natAbs) : (1 ≤ (p / lN g).toInt ∧ (p / lN g).toInt ≤ p.toInt) ∧ (p / lN g).toInt = (p.toInt.natAbs / g : Nat) := by
  have hp := Int64.toInt_lt p
  have hle : g ≤ p.toInt.natAbs := Nat.le_of_dvd (by omega) hd
  have eg : (lN g).toInt = (g : Int) := lN_int (by omega)
  have e : (p / lN g).toInt = (p.toInt.natAbs / g : Nat) := by
    rw [d64 (by rw [eg]; omega), eg, show p.toInt = (p.toInt.natAbs : Int) by omega, Int.natAbs_natCast]
    exact (Int.ofNat_tdiv _ _).symm
  have a1 := Nat.div_le_self p.toInt.natAbs g
  have a2 : 1 ≤ p.toInt.natAbs / g := (Nat.one_le_div_iff (by omega)).mpr hle
  exact ⟨⟨by omega, by omega⟩, e⟩
theorem p_fraction {p q : Int64} {S : SS} (h : RR S) : V_X7_fraction p q S (fun r1 S2 => V_X8_fraction p q S2 (fun r3 S4 => (r1 = r3 → RR S4) ∧ (¬ r1 = r3 → False))) := by
  have hR : RR (sI S 20 0) := h
  obtain ⟨h1, ⟨h25, h2⟩, h3⟩ := h
  have g25 : gI (sI S 20 0) 25 = gI S 0 := h25
  have hno : ¬ (gI S 0 = 2 ∧ (1 ≤ p.toInt ∧ p.toInt ≤ 1000000000) ∧ (1 ≤ q.toInt ∧ q.toInt ≤ 1000000000)) → V_X8_fraction p q S (fun r3 S4 => ((-1 : Int32) = r3 → RR S4) ∧ (¬ (-1 : Int32) = r3 → False)) := fun c => by
    unfold V_X8_fraction
    rw [ale]
    refine ⟨fun c0 => ?_, fun _ => eqp rfl hR⟩
    refine in_of (fun c1 => ⟨fun e => absurd e (by decide), fun _ => ?_⟩) (fun c1 => ⟨fun _ => eqp rfl hR, fun e => absurd rfl e⟩)
    refine in_of (fun c2 => ⟨fun e => absurd e (by decide), fun _ => ?_⟩) (fun c2 => ⟨fun _ => eqp rfl hR, fun e => absurd rfl e⟩)
    exact absurd ⟨g25.symm.trans c0, c1, c2⟩ c
  unfold V_X7_fraction
  refine ⟨fun c0 => ⟨fun c1 => ?_, fun c1 => ⟨fun c2 => ?_, fun c2 => ⟨fun c3 => ?_, fun c3 => ⟨fun c4 => ?_, fun c4 => ?_⟩⟩⟩⟩, fun c0 => hno (fun z => c0 z.1)⟩
  · have d : p.toInt < 1 := lt64.mp c1
    exact hno (fun z => absurd z.2.1.1 (by omega))
  · have d : 1000000000 < p.toInt := lt64.mp c2
    exact hno (fun z => absurd z.2.1.2 (by omega))
  · have d : q.toInt < 1 := lt64.mp c3
    exact hno (fun z => absurd z.2.2.1 (by omega))
  · have d1 : ¬ p.toInt < 1 := fun z => c1 (lt64.mpr z)
    have d2 : ¬ 1000000000 < p.toInt := fun z => c2 (lt64.mpr z)
    have d3 : ¬ q.toInt < 1 := fun z => c3 (lt64.mpr z)
    have d4 : q.toInt ≤ 1000000000 := le64.mp c4
    obtain ⟨n, hn, h4, h27, hk⟩ : Rli (gI S 4) (gI S 27) (gA S 9) (gA S 10) (gA S 33) (gA S 34) := by
      rcases h2 with z | ⟨z, -⟩ | ⟨-, z⟩
      · rw [z] at c0; exact absurd c0 (by decide)
      · rw [z] at c0; exact absurd c0 (by decide)
      · exact z
    unfold V_X0_add
    rcases Nat.lt_or_ge n 40 with c | c
    · rw [h4, brf (nI_pos (by omega)), brt (c := nI n < (40 : Int32)) (nI_lt (b := 40) c (by omega))]
      have hg0 : Nat.gcd p.toInt.natAbs q.toInt.natAbs ≠ 0 := fun z => by
        have := Nat.eq_zero_of_gcd_eq_zero_left z
        omega
      have hcd : cdn p.toInt.natAbs q.toInt.natAbs = Nat.gcd p.toInt.natAbs q.toInt.natAbs := by unfold cdn; rw [if_neg hg0]
      have hle := Nat.le_of_dvd (by omega) (Nat.gcd_dvd_left p.toInt.natAbs q.toInt.natAbs)
      have nz : ¬ lN (Nat.gcd p.toInt.natAbs q.toInt.natAbs) = 0 := fun z => hg0 ((lN0 (by omega)).mp z)
      refine x7_cd (by omega) (by omega) ?_
      rw [hcd]
      refine ⟨nz, ?_⟩
      rw [h4, gdt (vp_in_nI c (by omega)), ale]
      refine ⟨nz, ?_⟩
      have g4 : ∀ f : Nat → Int64, gI (sA S 9 f) 4 = nI n := fun _ => h4
      have g4' : ∀ f g : Nat → Int64, gI (sA (sA S 9 f) 10 g) 4 = nI n := fun _ _ => h4
      rw [g4, gdt (vp_in_nI c (by omega)), ale, ale, g4']
      refine ⟨fun e => absurd e (by decide), fun _ => ?_⟩
      unfold V_X0_size
      rw [gI_sI, nadd1, nI_clamp (by omega)]
      show V_X8_fraction _ _ _ _
      unfold V_X8_fraction
      have k25 : ∀ f g : Nat → Int64, gI (sI (sI (sA (sA S 9 f) 10 g) 4 (nI (n + 1))) 20 0) 25 = (2 : Int32) := fun _ _ => h25.trans c0
      have k27 : ∀ f g : Nat → Int64, gI (sI (sI (sA (sA S 9 f) 10 g) 4 (nI (n + 1))) 20 0) 27 = nI n := fun _ _ => h27
      rw [ale, k25, brt rfl, x8_in (by show (1 : Int) ≤ _; omega) (by show _ ≤ (1000000000 : Int); omega), brf (by decide), x8_in (by show (1 : Int) ≤ _; omega) (by show _ ≤ (1000000000 : Int); omega), brf (by decide), k27, brf (c := nI n = (40 : Int32)) (fun z => by have := (nI_inj (a := n) (b := 40) (by omega) (by omega)).mp z; omega)]
      unfold V_X8_add
      refine x8_co (by omega) (by omega) ⟨nz, ?_⟩
      rw [k27, gdt (vp_in_nI c (by omega)), ale]
      refine ⟨nz, ?_⟩
      have j27 : ∀ (T : SS) (f : Nat → Int64), gI (sA T 33 f) 27 = gI T 27 := fun _ _ => rfl
      have j27' : ∀ (T : SS) (f g : Nat → Int64), gI (sA (sA T 33 f) 34 g) 27 = gI T 27 := fun _ _ _ => rfl
      rw [j27, k27, gdt (vp_in_nI c (by omega)), ale, ale, j27', k27, nadd1, nI_clamp (by omega)]
      refine eqp rfl ⟨h1, ⟨h25, Or.inr (Or.inr ⟨c0, n + 1, by omega, rfl, rfl, fun i hi => ?_⟩)⟩, h3⟩
      show vp_updL (gA S 33) n (p / lN (Nat.gcd p.toInt.natAbs q.toInt.natAbs)) i = vp_updL (gA S 9) n (p / lN (Nat.gcd p.toInt.natAbs q.toInt.natAbs)) i ∧ vp_updL (gA S 34) n (q / lN (Nat.gcd p.toInt.natAbs q.toInt.natAbs)) i = vp_updL (gA S 10) n (q / lN (Nat.gcd p.toInt.natAbs q.toInt.natAbs)) i ∧ (1 ≤ (vp_updL (gA S 9) n (p / lN (Nat.gcd p.toInt.natAbs q.toInt.natAbs)) i).toInt ∧ (vp_updL (gA S 9) n (p / lN (Nat.gcd p.toInt.natAbs q.toInt.natAbs)) i).toInt ≤ 1000000000) ∧ (1 ≤ (vp_updL (gA S 10) n (q / lN (Nat.gcd p.toInt.natAbs q.toInt.natAbs)) i).toInt ∧ (vp_updL (gA S 10) n (q / lN (Nat.gcd p.toInt.natAbs q.toInt.natAbs)) i).toInt ≤ 1000000000)
      by_cases e : i = n
      · subst e
        rw [updL_eq, updL_eq, updL_eq, updL_eq]
        have x1 := (div_lN (p := p) (by omega) (Nat.pos_of_ne_zero hg0) (Nat.gcd_dvd_left _ _)).1
        have x2 := (div_lN (p := q) (by omega) (Nat.pos_of_ne_zero hg0) (Nat.gcd_dvd_right _ _)).1
        exact ⟨rfl, rfl, ⟨x1.1, by omega⟩, ⟨x2.1, by omega⟩⟩
      · rw [updL_ne _ _ e, updL_ne _ _ e, updL_ne _ _ e, updL_ne _ _ e]
        exact hk i (by omega)
    · obtain rfl : n = 40 := by omega
      rw [h4, brf (nI_pos (by omega)), brf (c := nI 40 < (40 : Int32)) (by decide)]
      refine ⟨fun _ => ?_, fun e => absurd rfl e⟩
      show V_X8_fraction _ _ _ _
      unfold V_X8_fraction
      have k25 : gI (sI S 20 0) 25 = (2 : Int32) := h25.trans c0
      have k27 : gI (sI S 20 0) 27 = (40 : Int32) := h27
      rw [ale, k25, brt rfl, x8_in (by show (1 : Int) ≤ _; omega) (by show _ ≤ (1000000000 : Int); omega), brf (by decide), x8_in (by show (1 : Int) ≤ _; omega) (by show _ ≤ (1000000000 : Int); omega), brf (by decide), k27, brt rfl]
      exact eqp rfl hR
  · have d4 : ¬ q.toInt ≤ 1000000000 := fun z => c4 (le64.mpr z)
    exact hno (fun z => d4 z.2.2.2)
