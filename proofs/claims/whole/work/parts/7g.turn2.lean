/-! TURN: class and reference -/
section
variable {m M s : Nat} {a b d : Nat → Int64}
theorem x7_turn41 {post : Int32 → SS → Prop} (hM2 : 2 ≤ M) (hM : M ≤ 64) (nz : ∀ r, r < m → ¬ a r = 0) (hq : ∀ s, s < M → fdF a b d m s m 0 < m ∧ stq a d m (fdF a b d m s m 0) ∣ M ∧ (stq a d m (fdF a b d m s m 0) : Int) ∣ (s : Int) - fsq a b d (fdF a b d m s m 0)) : ∀ (j s : Nat) (T : SS), s + j = M → RUL T m → gA T 0 = a ∧ gA T 1 = b ∧ gA T 2 = d → gI T 3 = nI M → (∀ t, t < s → tuV a b d m t (gA T 6 t) (gA T 7 t) (gA T 8 t)) → (∀ U, Kp [1] [] [] [0, 1, 2, 6, 7, 8] T U → gI U 1 = nI M → (∀ t, t < M → tuV a b d m t (gA U 0 t) (gA U 1 t) (gA U 2 t)) → post (nI M) U) → V_X7_turn_41 (nI M) post (j + 1) (nI s) T := by
  intro j
  induction j with
  | zero =>
    intro s T hs h hA h3 hV hp
    obtain rfl : s = M := by omega
    have hm := h.2.1
    have hf : rulF m a b d := by rw [← hA.1, ← hA.2.1, ← hA.2.2]; exact h.2.2.2.2.2.2.1
    rw [V_X7_turn_41, brt (nI_le (Nat.le_refl _) (by omega))]
    have hR : rulF s (gA T 6) (gA T 7) (gA T 8) := fun t ht => by
      obtain ⟨v1, v2, v3⟩ := hV t ht
      obtain ⟨q1, q2, q3⟩ := hq t ht
      have rg := tu_rng hf q1 (nz _ q1)
      have dv := tu_dvd hf q1 q2 q3
      rw [v1, v2, v3]
      exact ⟨rg.1, rg.2.1, rg.2.2, dv⟩
    refine fu_all h3 hM hR ⟨fun _ => ?_, fun z => absurd (by decide) z⟩
    unfold V_X5_become
    rw [ale, ale, ale, ale]
    have ec : ∀ (f g : Nat → Int64) (t : Nat), t < s → va_cpy f g 0 0 64 t = f t := fun f g t ht => by
      unfold va_cpy; rw [if_pos (by omega), Nat.sub_zero, Nat.zero_add]
    refine hp _ (kp_sA (kp_sA (kp_sA (kp_sI (kp_refl _ _ _ _ T) (by decide)) (by decide)) (by decide)) (by decide)) h3 (fun t ht => ?_)
    show tuV a b d m t (va_cpy (gA T 6) (gA T 0) 0 0 64 t) (va_cpy (gA T 7) (gA T 1) 0 0 64 t) (va_cpy (gA T 8) (gA T 2) 0 0 64 t)
    rw [ec _ _ t ht, ec _ _ t ht, ec _ _ t ht]
    exact hV t ht
  | succ j ih =>
    intro s T hs h hA h3 hV hp
    rw [V_X7_turn_41, brf (nI_ge (by omega) (by omega))]
    refine x7_turnRest h hA nz h3 (by omega) hM (hq s (by omega)).1 (fun U kU hU hO => ?_)
    obtain ⟨hR, s1, s2, s3⟩ := rul_kp h kU (by decide) (by decide)
    rw [ale, nadd1]
    refine ih (s + 1) U (by omega) hR ⟨s1.trans hA.1, s2.trans hA.2.1, s3.trans hA.2.2⟩ ((kU.1 3 (by decide)).trans h3) (fun t ht => ?_) (fun W kW => hp W (kp_trans (kp_mono kU (by decide) (by decide) (by decide) (by decide)) kW))
    rcases Nat.lt_or_eq_of_le (Nat.le_of_lt_succ ht) with y | y
    · obtain ⟨o1, o2, o3⟩ := hO t (by omega)
      rw [o1, o2, o3]; exact hV t y
    · rw [y]; exact hU
/-- the reference's way back for rest s, once found -/
theorem x8_tail {T : SS} {r : Nat} {K : Int32 → SS → Prop} {post : Int32 → SS → Prop} (hf : rulF m a b d) (hr : r < m) (hm : m ≤ 64) (hs : s < 64) (na : ¬ a r = 0) (e1 : gA T 32 (3 * r) = a r) (e2 : gA T 32 (3 * r + 1) = b r) (e3 : gA T 32 (3 * r + 2) = d r) (hK : ∀ U, Kp [] [] [] [40] T U → (gA U 40 (3 * s)).toInt = tuA a b d r → (gA U 40 (3 * s + 1)).toInt = tuB a b d r → (gA U 40 (3 * s + 2)).toInt = tuD a b d r → (∀ t, t < 3 * s → gA U 40 t = gA T 40 t) → K (nI (s + 1)) U) : vp_in (nI (3 * r + 2)) 192 ∧ (vp_in (nI (3 * r + 1)) 192 ∧ (∀ y22 : Int64, y22 = (-(gA T 32 (nI (3 * r + 1)).toNatClampNeg)) → (vp_in (nI (3 * r)) 192 ∧ (V_X8_common (gA T 32 (nI (3 * r + 2)).toNatClampNeg) y22 T (fun (r23 : Int64) (S24 : SS) => (V_X8_common r23 (gA T 32 (nI (3 * r)).toNatClampNeg) S24 (fun (r25 : Int64) (S26 : SS) => (((0 : Int64) ≤ (gA T 32 (nI (3 * r)).toNatClampNeg) → (¬ r25 = 0 ∧ (¬ r25 = 0 ∧ (¬ r25 = 0 ∧ (V_X8_isShare ((gA T 32 (nI (3 * r + 2)).toNatClampNeg) / r25) (y22 / r25) ((gA T 32 (nI (3 * r)).toNatClampNeg) / r25) S26 (fun (r28 : Int32) (S29 : SS) => ((r28 = 0 → (post (-1 : Int32) S29)) ∧ (¬ r28 = 0 → (¬ r25 = 0 ∧ (vp_in (nI (3 * s)) 192 ∧ ∀ S31 : SS, S31 = (sA S29 40 (vp_updL (gA S29 40) (nI (3 * s)).toNatClampNeg ((gA T 32 (nI (3 * r + 2)).toNatClampNeg) / r25))) → (¬ r25 = 0 ∧ (vp_in (nI (3 * s + 1)) 192 ∧ ∀ S32 : SS, S32 = (sA S31 40 (vp_updL (gA S31 40) (nI (3 * s + 1)).toNatClampNeg (y22 / r25))) → (¬ r25 = 0 ∧ (vp_in (nI (3 * s + 2)) 192 ∧ ∀ S33 : SS, S33 = (sA S32 40 (vp_updL (gA S32 40) (nI (3 * s + 2)).toNatClampNeg ((gA T 32 (nI (3 * r)).toNatClampNeg) / r25))) → (∀ x34 : Int32, x34 = nI s + 1 → (K x34 S33)))))))))))))))) ∧ (¬ (0 : Int64) ≤ (gA T 32 (nI (3 * r)).toNatClampNeg) → (∀ y35 : Int64, y35 = (-r25) → (¬ y35 = 0 ∧ (¬ y35 = 0 ∧ (¬ y35 = 0 ∧ (V_X8_isShare ((gA T 32 (nI (3 * r + 2)).toNatClampNeg) / y35) (y22 / y35) ((gA T 32 (nI (3 * r)).toNatClampNeg) / y35) S26 (fun (r36 : Int32) (S37 : SS) => ((r36 = 0 → (post (-1 : Int32) S37)) ∧ (¬ r36 = 0 → (¬ y35 = 0 ∧ (vp_in (nI (3 * s)) 192 ∧ ∀ S39 : SS, S39 = (sA S37 40 (vp_updL (gA S37 40) (nI (3 * s)).toNatClampNeg ((gA T 32 (nI (3 * r + 2)).toNatClampNeg) / y35))) → (¬ y35 = 0 ∧ (vp_in (nI (3 * s + 1)) 192 ∧ ∀ S40 : SS, S40 = (sA S39 40 (vp_updL (gA S39 40) (nI (3 * s + 1)).toNatClampNeg (y22 / y35))) → (¬ y35 = 0 ∧ (vp_in (nI (3 * s + 2)) 192 ∧ ∀ S41 : SS, S41 = (sA S40 40 (vp_updL (gA S40 40) (nI (3 * s + 2)).toNatClampNeg ((gA T 32 (nI (3 * r)).toNatClampNeg) / y35))) → (∀ x42 : Int32, x42 = nI s + 1 → (K x42 S41))))))))))))))))))))))))) := by
  obtain ⟨g1, g2, d1, d2, d3⟩ := gm_fine hf hr
  obtain ⟨la, lb, ⟨ld1, ld⟩, -, -⟩ := hf r hr
  have rg := tu_rng hf hr na
  have vb : (-(b r)).toInt = -(b r).toInt := n64 (by omega)
  refine ⟨vp_in_nI (by omega) (by omega), vp_in_nI (by omega) (by omega), ?_⟩
  rw [nI_clamp (by omega), nI_clamp (by omega), nI_clamp (by omega), nI_clamp (by omega), nI_clamp (by omega), nI_clamp (by omega), e1, e2, e3, ale]
  refine ⟨vp_in_nI (by omega) (by omega), ?_⟩
  refine x8_co (by omega) (by omega) ?_
  have p1 : 0 < Nat.gcd (d r).toInt.natAbs (-(b r)).toInt.natAbs := Nat.gcd_pos_of_pos_left _ (by omega)
  have l1 : Nat.gcd (d r).toInt.natAbs (-(b r)).toInt.natAbs ≤ (d r).toInt.natAbs := Nat.le_of_dvd (by omega) (Nat.gcd_dvd_left _ _)
  refine x8_co (by rw [lN_int (by omega)]; omega) (by omega) ?_
  have eg : Nat.gcd (lN (Nat.gcd (d r).toInt.natAbs (-(b r)).toInt.natAbs)).toInt.natAbs (a r).toInt.natAbs = gmN a b d r := by
    rw [lN_int (by omega), Int.natAbs_natCast, vb, Int.natAbs_neg]; rfl
  rw [eg]
  -- what is written, whatever the sign
  have wr : ∀ (x y z : Int64) (S29 : SS), Kp [] [] [] [40] T S29 → S29 = T → x.toInt = tuA a b d r → y.toInt = tuB a b d r → z.toInt = tuD a b d r → K (nI (s + 1)) (sA (sA (sA S29 40 (vp_updL (gA S29 40) (3 * s) x)) 40 (vp_updL (gA (sA S29 40 (vp_updL (gA S29 40) (3 * s) x)) 40) (3 * s + 1) y)) 40 (vp_updL (gA (sA (sA S29 40 (vp_updL (gA S29 40) (3 * s) x)) 40 (vp_updL (gA (sA S29 40 (vp_updL (gA S29 40) (3 * s) x)) 40) (3 * s + 1) y)) 40) (3 * s + 2) z)) := fun x y z S29 _ e hx hy hz => by
    subst e
    refine hK _ (kp_sA (kp_sA (kp_sA (kp_refl _ _ _ _ S29) (by decide)) (by decide)) (by decide)) ?_ ?_ ?_ (fun t ht => ?_)
    · show (vp_updL (vp_updL (vp_updL (gA S29 40) (3 * s) x) (3 * s + 1) y) (3 * s + 2) z (3 * s)).toInt = _
      rw [updL_ne _ _ (by omega), updL_ne _ _ (by omega), updL_eq]; exact hx
    · show (vp_updL (vp_updL (vp_updL (gA S29 40) (3 * s) x) (3 * s + 1) y) (3 * s + 2) z (3 * s + 1)).toInt = _
      rw [updL_ne _ _ (by omega), updL_eq]; exact hy
    · show (vp_updL (vp_updL (vp_updL (gA S29 40) (3 * s) x) (3 * s + 1) y) (3 * s + 2) z (3 * s + 2)).toInt = _
      rw [updL_eq]; exact hz
    · show vp_updL (vp_updL (vp_updL (gA S29 40) (3 * s) x) (3 * s + 1) y) (3 * s + 2) z t = _
      rw [updL_ne _ _ (by omega), updL_ne _ _ (by omega), updL_ne _ _ (by omega)]
  have nz : ¬ lN (gmN a b d r) = 0 := fun z => by have := (lN0 (by omega)).mp z; omega
  refine ⟨fun c => ?_, fun c => ?_⟩
  · have c : 0 ≤ (a r).toInt := le64.mp c
    have q1 : (d r / lN (gmN a b d r)).toInt = tuA a b d r := by
      rw [qv_pos (by omega) g1 g2 d1]; unfold tuA sgZ; rw [if_pos c, Int.one_mul]
    have q2 : (-(b r) / lN (gmN a b d r)).toInt = tuB a b d r := by
      rw [qv_pos (by rw [vb]; omega) g1 g2 (by rw [vb]; exact Int.dvd_neg.mpr d2), vb, Int.neg_ediv_of_dvd d2]; unfold tuB sgZ; rw [if_pos c, Int.one_mul]
    have q3 : (a r / lN (gmN a b d r)).toInt = tuD a b d r := by
      rw [qv_pos (by omega) g1 g2 d3]; unfold tuD sgZ; rw [if_pos c, Int.one_mul]
    refine ⟨nz, nz, nz, share_of (fun _ => ⟨fun z => absurd z (by decide), fun _ => ?_⟩) (fun z => absurd (by rw [q1, q2, q3]; exact rg) z)⟩
    rw [gdt nz, gdt (vp_in_nI (by omega) (by omega)), ale, gdt nz, gdt (vp_in_nI (by omega) (by omega)), ale, gdt nz, gdt (vp_in_nI (by omega) (by omega)), ale, ale, nadd1]
    exact wr _ _ _ T (kp_refl _ _ _ _ T) rfl q1 q2 q3
  · have c : ¬ 0 ≤ (a r).toInt := fun z => c (le64.mpr z)
    have q1 : (d r / -(lN (gmN a b d r))).toInt = tuA a b d r := by
      rw [qv_neg (by omega) g1 g2 d1]; unfold tuA sgZ; rw [if_neg c, Int.neg_mul, Int.one_mul]
    have q2 : (-(b r) / -(lN (gmN a b d r))).toInt = tuB a b d r := by
      rw [qv_neg (by rw [vb]; omega) g1 g2 (by rw [vb]; exact Int.dvd_neg.mpr d2), vb, Int.neg_ediv_of_dvd d2]; unfold tuB sgZ; rw [if_neg c, Int.neg_mul, Int.one_mul]
    have q3 : (a r / -(lN (gmN a b d r))).toInt = tuD a b d r := by
      rw [qv_neg (by omega) g1 g2 d3]; unfold tuD sgZ; rw [if_neg c, Int.neg_mul, Int.one_mul]
    have nn : ¬ -(lN (gmN a b d r)) = 0 := fun z => by
      have := eq64.mp z
      rw [n64 (by rw [lN_int (by omega)]; omega), lN_int (by omega), show (0 : Int64).toInt = 0 from rfl] at this
      omega
    rw [ale]
    refine ⟨nn, nn, nn, share_of (fun _ => ⟨fun z => absurd z (by decide), fun _ => ?_⟩) (fun z => absurd (by rw [q1, q2, q3]; exact rg) z)⟩
    rw [gdt nn, gdt (vp_in_nI (by omega) (by omega)), ale, gdt nn, gdt (vp_in_nI (by omega) (by omega)), ale, gdt nn, gdt (vp_in_nI (by omega) (by omega)), ale, ale, nadd1]
    exact wr _ _ _ T (kp_refl _ _ _ _ T) rfl q1 q2 q3
theorem x8_turn38 {T : SS} {K : Int32 → SS → Prop} {post : Int32 → SS → Prop} {v1 : Int32} (h : RUR T m a b d) (nz : ∀ r, r < m → ¬ a r = 0) (hs : s < 64) (hK : ∀ U, Kp [] [] [] [40] T U → tuV a b d m s (gA U 40 (3 * s)) (gA U 40 (3 * s + 1)) (gA U 40 (3 * s + 2)) → (∀ t, t < 3 * s → gA U 40 t = gA T 40 t) → K (nI (s + 1)) U) (hq : fdF a b d m s m 0 < m) : ∃ n, V_X8_turn_38 v1 (nI s) K post n 0 T := by
  have hm := h.2.1
  have hf := h.2.2.2.2.1
  have key : ∀ (j k : Nat), k + j = m → fdF a b d m s j k < m → (∀ U, Kp [] [] [] [40] T U → (gA U 40 (3 * s)).toInt = tuA a b d (fdF a b d m s j k) → (gA U 40 (3 * s + 1)).toInt = tuB a b d (fdF a b d m s j k) → (gA U 40 (3 * s + 2)).toInt = tuD a b d (fdF a b d m s j k) → (∀ t, t < 3 * s → gA U 40 t = gA T 40 t) → K (nI (s + 1)) U) → V_X8_turn_38 v1 (nI s) K post (j + 1) (nI k) T := by
    intro j
    induction j with
    | zero => intro k hk hq _; exact absurd hq (by show ¬ k < m; omega)
    | succ j ih =>
      intro k hk hq hK
      have hkm : k < m := by omega
      have s1 := stq_pos hf hkm (nz k hkm)
      have s2 := (stq_eq hf hm hkm).2
      obtain ⟨f1, f2⟩ := fv_sub (s := s) hf hm hkm (by omega)
      obtain ⟨e1, e2, e3⟩ := h.2.2.2.2.2 k hkm
      rw [V_X8_turn_38]
      refine x8_first h hkm (x8_gap h hkm ?_)
      rw [nI_i64 (by omega), J9 (by rw [lN_int (by omega)]; omega), nmul3 (by omega), nadd1, nadd2, nmul3 (by omega), nadd1, nadd2]
      have ef : (fmd (lN s - fvq a b d k) (lN (stq a d m k))).toInt = ((s : Int) - fsq a b d k) % (stq a d m k : Int) := by
        rw [fmd_toInt (by rw [lN_int (by omega)]; omega), f1, lN_int (by omega)]
      have ec : fmd (lN s - fvq a b d k) (lN (stq a d m k)) = 0 ↔ ((s : Int) - fsq a b d k) % (stq a d m k : Int) = 0 := by
        rw [eq64, ef]; rfl
      refine ⟨fun c => ?_, fun c => ?_⟩
      · have e : fdF a b d m s (j + 1) k = k := if_pos (ec.mp c)
        rw [e] at hK
        exact x8_tail hf hkm hm hs (nz k hkm) e1 e2 e3 hK
      · have e : fdF a b d m s (j + 1) k = fdF a b d m s j (k + 1) := if_neg (fun z => c (ec.mpr z))
        rw [e] at hK hq
        rw [ale, nadd1]
        exact ih (k + 1) (by omega) hq hK
  exact ⟨m + 1, key m 0 (by omega) hq (fun U kU q1 q2 q3 => hK U kU ⟨q1, q2, q3⟩)⟩
theorem x8_turn210 {post : Int32 → SS → Prop} (hM : M ≤ 64) : ∀ (j k : Nat) (T : SS), k + j = 3 * M → gI T 26 = nI M → (∀ t, t < k → gA T 32 t = gA T 40 t) → (∀ U, Kp [] [] [] [32] T U → (∀ t, t < 3 * M → gA U 32 t = gA T 40 t) → post (nI M) U) → V_X8_turn_210 post (j + 1) (nI k) T := by
  intro j
  induction j with
  | zero =>
    intro k T hk h26 hc hp
    obtain rfl : k = 3 * M := by omega
    rw [V_X8_turn_210, h26, nmul3 (by omega), brt (nI_le (Nat.le_refl _) (by omega))]
    exact hp T (kp_refl _ _ _ _ T) hc
  | succ j ih =>
    intro k T hk h26 hc hp
    rw [V_X8_turn_210, h26, nmul3 (by omega), brf (nI_ge (by omega) (by omega)), gdt (vp_in_nI (by omega) (by omega)), gdt (vp_in_nI (by omega) (by omega)), ale, ale, nI_clamp (by omega), nadd1]
    have kT : Kp [] [] [] [32] T (sA T 32 (vp_updL (gA T 32) k (gA T 40 k))) := kp_sA (kp_refl _ _ _ _ T) (by decide)
    refine ih (k + 1) _ (by omega) h26 (fun t ht => ?_) (fun U kU hU => hp U (kp_trans kT kU) hU)
    show vp_updL (gA T 32) k (gA T 40 k) t = gA T 40 t
    by_cases c : t = k
    · rw [c, updL_eq]
    · rw [updL_ne _ _ c]; exact hc t (by omega)
theorem x8_turn31 {post : Int32 → SS → Prop} (hM : M ≤ 64) (nz : ∀ r, r < m → ¬ a r = 0) (hq : ∀ s, s < M → fdF a b d m s m 0 < m) : ∀ (j s : Nat) (T : SS), s + j = M → RUR T m a b d → (∀ t, t < s → tuV a b d m t (gA T 40 (3 * t)) (gA T 40 (3 * t + 1)) (gA T 40 (3 * t + 2))) → (∀ U, Kp [26] [] [] [32, 40] T U → gI U 26 = nI M → (∀ t, t < M → tuV a b d m t (gA U 32 (3 * t)) (gA U 32 (3 * t + 1)) (gA U 32 (3 * t + 2))) → post (nI M) U) → V_X8_turn_31 (nI M) post (j + 1) (nI s) T := by
  intro j
  induction j with
  | zero =>
    intro s T hs h hV hp
    obtain rfl : s = M := by omega
    rw [V_X8_turn_31, brt (nI_le (Nat.le_refl _) (by omega)), ale]
    have kT : Kp [26] [] [] [32, 40] T (sI T 26 (nI s)) := kp_sI (kp_refl _ _ _ _ T) (by decide)
    refine ⟨3 * s + 1, x8_turn210 hM (3 * s) 0 (sI T 26 (nI s)) (by omega) rfl (fun t ht => by omega) (fun U kU hU => hp U (kp_trans kT (kp_mono kU (by decide) (by decide) (by decide) (by decide))) ((kU.1 26 (by decide)).trans rfl) (fun t ht => ?_))⟩
    rw [hU (3 * t) (by omega), hU (3 * t + 1) (by omega), hU (3 * t + 2) (by omega)]
    exact hV t ht
  | succ j ih =>
    intro s T hs h hV hp
    rw [V_X8_turn_31, brf (nI_ge (by omega) (by omega))]
    refine x8_turn38 h nz (by omega) (fun U kU hU hO => ?_) (hq s (by omega))
    refine ih (s + 1) U (by omega) (rur_kp h kU (by decide) (by decide)) (fun t ht => ?_) (fun W kW => hp W (kp_trans (kp_mono kU (by decide) (by decide) (by decide) (by decide)) kW))
    rcases Nat.lt_or_eq_of_le (Nat.le_of_lt_succ ht) with y | y
    · rw [hO (3 * t) (by omega), hO (3 * t + 1) (by omega), hO (3 * t + 2) (by omega)]
      exact hV t y
    · rw [y]; exact hU
end
theorem tu_rul {m M : Nat} {a b d x y z : Nat → Int64} (hf : rulF m a b d) (nz : ∀ r, r < m → ¬ a r = 0) (hq : ∀ s, s < M → fdF a b d m s m 0 < m ∧ stq a d m (fdF a b d m s m 0) ∣ M ∧ (stq a d m (fdF a b d m s m 0) : Int) ∣ (s : Int) - fsq a b d (fdF a b d m s m 0)) (hV : ∀ t, t < M → tuV a b d m t (x t) (y t) (z t)) : rulF M x y z := fun t ht => by
  obtain ⟨v1, v2, v3⟩ := hV t ht
  obtain ⟨q1, q2, q3⟩ := hq t ht
  have rg := tu_rng hf q1 (nz _ q1)
  have dv := tu_dvd hf q1 q2 q3
  rw [v1, v2, v3]
  exact ⟨rg.1, rg.2.1, rg.2.2, dv⟩
theorem p_turn {S : SS} (h : RR S) : V_X7_turn S (fun r1 S2 => V_X8_turn S2 (fun r3 S4 => (r1 = r3 → RR S4) ∧ (¬ r1 = r3 → False))) := by
  have h25 : gI S 25 = gI S 0 := h.2.1.1
  have hs0 := h.2.2.2.2.2.2
  by_cases c : gI S 0 = 1
  · obtain ⟨m, hR⟩ := rul_of h c
    obtain ⟨v, h7, h8, hv⟩ := both_ex hR
    have hm2 := hR.1
    have hm := hR.2.1
    have hf := hR.2.2.2.2.2.2.1
    have k20 : Kp [20] [] [2] [] S (sI S 20 0) := kp_sI (kp_refl _ _ _ _ S) (by decide)
    have fin : ∀ U, Kp [20] [] [2] [] S U → RR U := fun U kU => none_end h (kp_refl _ _ _ _ S) hs0 (kp_mono kU (by decide) (by decide) (by decide) (by decide))
    have ref1 : ∀ post : Int32 → SS → Prop, ¬ v = 1 → (∀ U, Kp [20] [] [2] [] S U → post (-1) U) → V_X8_turn S post := fun post nv g => by
      unfold V_X8_turn
      rw [ale]
      refine h8 (sI S 20 0) _ (rur_kp (rur_of hR) k20 (by decide) (by decide)) (fun U kU => ⟨fun z => absurd z nv, fun _ => g U (kp_trans k20 kU)⟩)
    unfold V_X7_turn
    refine h7 _ ⟨fun v1 => ?_, fun nv => ref1 _ nv (fun U kU => eqp rfl (fin U kU))⟩
    obtain ⟨nz, hA, gd⟩ := hv v1
    subst v1
    have hd := lcF_dvd (stq (gA S 0) (gA S 2) m) m 0 1 (Nat.le_refl _) (fun t _ ht => stq_pos hf (by omega) (nz t (by omega)))
    have eA : alF (gA S 0) (gA S 2) m = lcF (stq (gA S 0) (gA S 2) m) m 0 1 := by
      have e : alF (gA S 0) (gA S 2) m = min (lcF (stq (gA S 0) (gA S 2) m) m 0 1) 100001 := rfl
      omega
    have a1 : 1 ≤ alF (gA S 0) (gA S 2) m := by rw [eA]; exact hd.1
    have hdv : ∀ r, r < m → 1 ≤ stq (gA S 0) (gA S 2) m r ∧ stq (gA S 0) (gA S 2) m r ∣ alF (gA S 0) (gA S 2) m ∧ (FqN (gA S 0) (gA S 1) (gA S 2) m r : Int) = fsq (gA S 0) (gA S 1) (gA S 2) r % (stq (gA S 0) (gA S 2) m r : Int) := fun r hr => by
      have p1 := stq_pos hf hr (nz r hr)
      refine ⟨p1, ?_, ?_⟩
      · rw [eA]; exact (hd.2 (by omega)).2 r (by omega) (by omega)
      · exact Int.toNat_of_nonneg (Int.emod_nonneg _ (by omega))
    have cov := (cover_iff a1 hdv).mpr gd
    -- at least 2
    have a2 : 2 ≤ alF (gA S 0) (gA S 2) m := by
      refine Classical.byContradiction (fun q => ?_)
      have e1 : alF (gA S 0) (gA S 2) m = 1 := by omega
      have c0 := cov 0 (by omega)
      have two := sm_two (f := fun r => if 0 % stq (gA S 0) (gA S 2) m r = FqN (gA S 0) (gA S 1) (gA S 2) m r then 1 else 0) m (show 1 < m by omega) (show 0 < 1 by omega)
      have st1 : ∀ r, r < m → (if 0 % stq (gA S 0) (gA S 2) m r = FqN (gA S 0) (gA S 1) (gA S 2) m r then 1 else 0) = 1 := fun r hr => by
        obtain ⟨p1, p2, p3⟩ := hdv r hr
        rw [e1] at p2
        have p4 : stq (gA S 0) (gA S 2) m r = 1 := Nat.dvd_one.mp p2
        rw [p4, show ((1 : Nat) : Int) = 1 from rfl, Int.emod_one] at p3
        rw [if_pos]
        rw [p4, Nat.mod_one]; omega
      have two : (if 0 % stq (gA S 0) (gA S 2) m 1 = FqN (gA S 0) (gA S 1) (gA S 2) m 1 then 1 else 0) + (if 0 % stq (gA S 0) (gA S 2) m 0 = FqN (gA S 0) (gA S 1) (gA S 2) m 0 then 1 else 0) ≤ ctN (stq (gA S 0) (gA S 2) m) (FqN (gA S 0) (gA S 1) (gA S 2) m) m 0 := two
      rw [st1 1 (by omega), st1 0 (by omega), c0] at two
      omega
    refine x5_common hR nz ?_
    generalize hM : alF (gA S 0) (gA S 2) m = M at *
    refine ⟨fun z => absurd (nI_le (a := 2) a2 (by omega)) (Int32.not_le.mpr z), fun _ => ⟨fun q => ?_, fun q => ?_⟩⟩
    · have q : M ≤ 64 := (nI_leI (b := 64) (by omega) (by omega)).mp q
      have hq : ∀ s, s < M → fdF (gA S 0) (gA S 1) (gA S 2) m s m 0 < m ∧ stq (gA S 0) (gA S 2) m (fdF (gA S 0) (gA S 1) (gA S 2) m s m 0) ∣ M ∧ (stq (gA S 0) (gA S 2) m (fdF (gA S 0) (gA S 1) (gA S 2) m s m 0) : Int) ∣ (s : Int) - fsq (gA S 0) (gA S 1) (gA S 2) (fdF (gA S 0) (gA S 1) (gA S 2) m s m 0) := fun s hs => by
        have cs := cov s hs
        obtain ⟨r, hr, p⟩ := sm_pos (f := fun r => if s % stq (gA S 0) (gA S 2) m r = FqN (gA S 0) (gA S 1) (gA S 2) m r then 1 else 0) m (by
          show 1 ≤ ctN (stq (gA S 0) (gA S 2) m) (FqN (gA S 0) (gA S 1) (gA S 2) m) m s
          omega)
        have p : s % stq (gA S 0) (gA S 2) m r = FqN (gA S 0) (gA S 1) (gA S 2) m r := Classical.byContradiction (fun z => by
          have p : 1 ≤ (if s % stq (gA S 0) (gA S 2) m r = FqN (gA S 0) (gA S 1) (gA S 2) m r then 1 else 0) := p
          rw [if_neg z] at p; omega)
        obtain ⟨p1, p2, p3⟩ := hdv r hr
        have p4 := (cv_iff p1 p3).mp p
        obtain ⟨w1, w2⟩ := fdF_ok (a := gA S 0) (b := gA S 1) (d := gA S 2) (m := m) (s := s) m 0 r (by omega) (by omega) (Int.dvd_iff_emod_eq_zero.mp p4)
        exact ⟨by omega, (hdv _ (by omega)).2.1, Int.dvd_iff_emod_eq_zero.mpr w2⟩
      refine x5_begin (by decide) (by decide) ?_
      generalize hT : sA (sA (sA (sI S 3 (nI M)) 6 _) 7 _) 8 _ = T
      have kT : Kp [3] [] [] [6, 7, 8] S T := by
        rw [← hT]
        exact kp_sA (kp_sA (kp_sA (kp_sI (kp_refl _ _ _ _ S) (by decide)) (by decide)) (by decide)) (by decide)
      have t3 : gI T 3 = nI M := by rw [← hT]; rfl
      obtain ⟨hRT, s1, s2, s3⟩ := rul_kp hR kT (by decide) (by decide)
      refine ⟨M + 1, x7_turn41 (m := m) (M := M) (a := gA S 0) (b := gA S 1) (d := gA S 2) a2 q nz hq M 0 T (by omega) hRT ⟨s1, s2, s3⟩ t3 (fun t ht => by omega) (fun U kU u1 uV => ?_)⟩
      have kSU : Kp [1, 3] [] [] [0, 1, 2, 6, 7, 8] S U := kp_trans (kp_mono kT (by decide) (by decide) (by decide) (by decide)) (kp_mono kU (by decide) (by decide) (by decide) (by decide))
      have hRU := rur_kp (rur_of hR) kSU (by decide) (by decide)
      show V_X8_turn _ _
      unfold V_X8_turn
      rw [ale]
      have k20U : Kp [20] [] [2] [] U (sI U 20 0) := kp_sI (kp_refl _ _ _ _ U) (by decide)
      refine h8 (sI U 20 0) _ (rur_kp hRU k20U (by decide) (by decide)) (fun U2 k2 => ⟨fun _ => ?_, fun z => absurd rfl z⟩)
      have k2 := kp_trans k20U k2
      have hR2 := rur_kp hRU k2 (by decide) (by decide)
      refine x8_measure hR2 (fun ⟨r, hr, e⟩ => absurd e (nz r hr)) (fun _ => ?_)
      rw [hM]
      refine ⟨fun _ => x8_measure hR2 (fun ⟨r, hr, e⟩ => absurd e (nz r hr)) (fun _ => ?_), fun z => absurd (nI_le (b := 64) q (by omega)) z⟩
      rw [hM]
      refine ⟨M + 1, x8_turn31 (m := m) (M := M) (a := gA S 0) (b := gA S 1) (d := gA S 2) q nz (fun s hs => (hq s hs).1) M 0 U2 (by omega) hR2 (fun t ht => by omega) (fun V kV v26 vV => eqp rfl ?_)⟩
      have kUV : Kp [20, 26] [] [2] [32, 40] U V := kp_trans (kp_mono k2 (by decide) (by decide) (by decide) (by decide)) (kp_mono kV (by decide) (by decide) (by decide) (by decide))
      refine RR_held h (kp_trans (kp_mono kSU (by decide) (by decide) (by decide) (by decide)) (kp_mono kUV (by decide) (by decide) (by decide) (by decide))) ?_
      have kSV : Kp [1, 3, 20, 26] [] [2] [0, 1, 2, 6, 7, 8, 32, 40] S V := kp_trans (kp_mono kSU (by decide) (by decide) (by decide) (by decide)) (kp_mono kUV (by decide) (by decide) (by decide) (by decide))
      have wV : ∀ t, t < M → tuV (gA S 0) (gA S 1) (gA S 2) m t (gA V 0 t) (gA V 1 t) (gA V 2 t) := fun t ht => by
        rw [kUV.2.2.2 0 (by decide), kUV.2.2.2 1 (by decide), kUV.2.2.2 2 (by decide)]; exact uV t ht
      refine ⟨(kSV.1 25 (by decide)).trans (h25.trans (kSV.1 0 (by decide)).symm), Or.inr (Or.inl ⟨(kSV.1 0 (by decide)).trans c, M, a2, q, (kUV.1 1 (by decide)).trans u1, v26, tu_rul hf nz hq wV, fun t ht => ?_⟩)⟩
      obtain ⟨x1, x2, x3⟩ := wV t ht
      obtain ⟨y1, y2, y3⟩ := vV t ht
      exact ⟨eq64.mpr (y1.trans x1.symm), eq64.mpr (y2.trans x2.symm), eq64.mpr (y3.trans x3.symm)⟩
    · have q : ¬ M ≤ 64 := fun z => q (nI_le (b := 64) z (by omega))
      show V_X8_turn _ _
      unfold V_X8_turn
      rw [ale]
      refine h8 (sI S 20 0) _ (rur_kp (rur_of hR) k20 (by decide) (by decide)) (fun U kU => ⟨fun _ => ?_, fun z => absurd rfl z⟩)
      have kSU := kp_trans k20 kU
      refine x8_measure (rur_kp (rur_of hR) kSU (by decide) (by decide)) (fun ⟨r, hr, e⟩ => absurd e (nz r hr)) (fun _ => ?_)
      rw [hM]
      exact ⟨fun z => absurd ((nI_leI (b := 64) (by omega) (by omega)).mp z) q, fun _ => eqp rfl (fin U kSU)⟩
  · unfold V_X7_turn V_X7_both
    rw [brf c]
    refine ⟨fun z => absurd z (by decide), fun _ => ?_⟩
    show V_X8_turn _ _
    unfold V_X8_turn V_X8_both
    rw [ale, ale, brf (c := gI (sI (sI S 20 0) 20 0) 25 = (1 : Int32)) (fun z => c (h25.symm.trans z))]
    exact ⟨fun z => absurd z (by decide), fun _ => eqp rfl h⟩
