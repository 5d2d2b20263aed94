/-! RINGS: the reference, and both -/
theorem i32_div {x y : Nat} (hx : x < 2147483648) (hy : 0 < y) (hy2 : y < 2147483648) : nI x / nI y = nI (x / y) := by
  have e : (nI x / nI y).toInt = (nI x).toInt.tdiv (nI y).toInt := Int32.toInt_div_of_ne_right _ _ (fun q => by
    have := congrArg Int32.toInt q
    rw [nI_toInt hy2, show ((-1 : Int32)).toInt = -1 from rfl] at this
    omega)
  have l := Nat.div_le_self x y
  exact of32 (by rw [e, nI_toInt hx, nI_toInt hy2]; exact (Int.ofNat_tdiv x y).symm) (by omega)
theorem i32_rem {x y : Nat} (hx : x < 2147483648) (hy : 0 < y) (hy2 : y < 2147483648) : irm (nI x) (nI y) = nI (x % y) := by
  have e1 := Nat.div_add_mod x y
  have l := Nat.div_le_self x y
  have l2 : x / y * y ≤ x := Nat.div_mul_le_self x y
  have l3 := Nat.mod_le x y
  have e2 : nI (x / y) * nI y = nI (x / y * y) := by
    have e3 : ((x / y * y : Nat) : Int) = ((x / y : Nat) : Int) * (y : Int) := Int.natCast_mul _ _
    exact of32 (by rw [m32 (by rw [nI_toInt (by omega), nI_toInt hy2, ← e3]; omega) (by rw [nI_toInt (by omega), nI_toInt hy2, ← e3]; omega), nI_toInt (by omega), nI_toInt hy2, e3]) (by omega)
  show nI x - nI x / nI y * nI y = _
  rw [i32_div hx hy hy2, e2]
  have e4 : x / y * y = y * (x / y) := Nat.mul_comm _ _
  exact of32 (by rw [s32 (by rw [nI_toInt hx, nI_toInt (by omega)]; omega) (by rw [nI_toInt hx, nI_toInt (by omega)]; omega), nI_toInt hx, nI_toInt (by omega)]; omega) (by omega)
section
variable {m k : Nat} {a b d : Nat → Int64} {x : Int64}
theorem mn_le (i : Nat) : (mnF m a b d x i).toInt ≤ x.toInt := by
  induction i with
  | zero => exact Int.le_refl _
  | succ i ih =>
    show (if obF m a b d x i < mnF m a b d x i then obF m a b d x i else mnF m a b d x i).toInt ≤ _
    by_cases c : obF m a b d x i < mnF m a b d x i
    · rw [if_pos c]
      have := lt64.mp c
      omega
    · rw [if_neg c]; exact ih
theorem mn_iff (k : Nat) : mnF m a b d x k = x ↔ ∀ t, t < k → x.toInt ≤ (obF m a b d x t).toInt := by
  induction k with
  | zero => exact ⟨fun _ t ht => by omega, fun _ => rfl⟩
  | succ k ih =>
    have e : mnF m a b d x (k + 1) = if obF m a b d x k < mnF m a b d x k then obF m a b d x k else mnF m a b d x k := rfl
    have l := mn_le (m := m) (a := a) (b := b) (d := d) (x := x) k
    by_cases c : obF m a b d x k < mnF m a b d x k
    · rw [e, if_pos c]
      have c := lt64.mp c
      refine ⟨fun q => ?_, fun q => ?_⟩
      · rw [q] at c; omega
      · have := q k (by omega); omega
    · rw [e, if_neg c, ih]
      have c : ¬ (obF m a b d x k).toInt < (mnF m a b d x k).toInt := fun z => c (lt64.mpr z)
      refine ⟨fun q t ht => ?_, fun q t ht => q t (by omega)⟩
      rcases Nat.lt_or_eq_of_le (Nat.le_of_lt_succ ht) with y | y
      · exact q t y
      · have q2 := ih.mpr q
        rw [q2] at c
        rw [y]; omega
theorem ul_iff : ∀ (k : Nat), ¬ ulF m a b d x k = 0 ↔ ∀ t, 0 < t → t < k → ¬ obF m a b d x t = x := by
  intro k
  induction k with
  | zero => exact ⟨fun _ t h1 h2 => by omega, fun _ => by show ¬ (1 : Int32) = 0; decide⟩
  | succ k ih =>
    have e : ulF m a b d x (k + 1) = if ulF m a b d x k = 0 then 0 else if k = 0 then 1 else if obF m a b d x k = x then 0 else 1 := rfl
    by_cases c : ulF m a b d x k = 0
    · rw [e, if_pos c]
      refine ⟨fun q => absurd rfl q, fun q => absurd c (ih.mpr (fun t h1 h2 => q t h1 (by omega)))⟩
    · rw [e, if_neg c]
      by_cases c1 : k = 0
      · rw [if_pos c1]
        exact ⟨fun _ t h1 h2 => by omega, fun _ => by decide⟩
      · rw [if_neg c1]
        by_cases c2 : obF m a b d x k = x
        · rw [if_pos c2]
          exact ⟨fun q => absurd rfl q, fun q => absurd c2 (q k (by omega) (by omega))⟩
        · rw [if_neg c2]
          refine ⟨fun _ t h1 h2 => ?_, fun _ => by decide⟩
          rcases Nat.lt_or_eq_of_le (Nat.le_of_lt_succ h2) with y | y
          · exact ih.mp c t h1 y
          · rw [y]; exact c2
theorem least_iff (hk : 1 ≤ k) : (¬ ulF m a b d x k = 0 ∧ mnF m a b d x k = x) ↔ ∀ t, 0 < t → t < k → x < obF m a b d x t := by
  rw [ul_iff, mn_iff]
  constructor
  · rintro ⟨h1, h2⟩ t ht htk
    have q1 := h1 t ht htk
    have q2 := h2 t htk
    refine lt64.mpr ?_
    have : (obF m a b d x t).toInt ≠ x.toInt := fun z => q1 (eq64.mpr z)
    omega
  · intro h
    refine ⟨fun t h1 h2 e => ?_, fun t ht => ?_⟩
    · have := lt64.mp (h t h1 h2)
      rw [e] at this; omega
    · rcases Nat.eq_zero_or_pos t with z | z
      · subst z; exact Int.le_refl _
      · have := lt64.mp (h t z ht); omega
/-- what the reference writes while it goes over words -/
abbrev hI : List Nat := [30]
abbrev hJ : List Nat := [0, 1, 2, 3, 4, 5]
theorem x8_rings61 {N w : Nat} {K : Int32 → Int32 → SS → Prop} {post : Int32 → SS → Prop} {l : List Int64} {T : SS} (hk1 : 1 ≤ k) (hk : k ≤ 12) (hw20 : w < 20000) (hl : l.length ≤ w) (h : RUL T m) (hs : gA T 0 = a ∧ gA T 1 = b ∧ gA T 2 = d) (hF : FN (gA T 36) l) (hno : ¬ okA a b d k (wR m w) → ∀ U, Kp hI hJ [1] [36] T U → post (-2) U) (hyes : okA a b d k (wR m w) → ∀ U, Kp hI hJ [1] [36] T U → FN (gA U 36) (l ++ (rvF m a b d k (wR m w)).toList) → K (nI (l ++ (rvF m a b d k (wR m w)).toList).length) (nI w + 1) U) : ∃ n, V_X8_rings_61 (nI k) (nI N) (nI l.length) (nI w) K post n (nI w) 0 T := by
  have hm2 := h.1
  have hm := h.2.1
  have hm0 : 0 < m := by omega
  have key : ∀ (j i : Nat) (U : SS), i + j = k → Kp hI hJ [1] [36] T U → FN (gA U 36) l → WR U 1 i (wR m w) → V_X8_rings_61 (nI k) (nI N) (nI l.length) (nI w) K post (j + 1) (nI (w / m ^ i)) (nI i) U := by
    intro j
    induction j with
    | zero =>
      intro i U hi kU hFU wU
      obtain rfl : i = k := by omega
      obtain ⟨hR, s1, s2, s3⟩ := rul_kp h kU (by decide) (by decide)
      have sU : gA U 0 = a ∧ gA U 1 = b ∧ gA U 2 = d := ⟨s1.trans hs.1, s2.trans hs.2.1, s3.trans hs.2.2⟩
      have hwm : ∀ t, t < i → wR m w t < m := fun t _ => wR_lt hm0 w t
      rw [V_X8_rings_61, brt (nI_le (Nat.le_refl _) (by omega))]
      refine x8_shaped (m := m) (a := a) (b := b) (d := d) (w := wR m w) (show i ≤ 40 by omega) (Nat.le_refl _) hwm hR sU wU (fun ok V kV hV => ⟨fun z => absurd z (by decide), fun _ => ?_⟩) (fun nok V kV => ⟨fun _ => hno nok V (kp_trans kU (kp_mono kV (by decide) (by decide) (by decide) (by decide))), fun z => absurd rfl z⟩)
      have okk := ok i (Nat.le_refl _)
      have et := t3_of okk
      rw [← et] at hV
      have v1 : gJ V 1 = Int64.ofInt (shT a b d (wR m w) i).1 := eq64.mpr (congrArg (fun x : T3 => x.1) hV)
      have v2 : gJ V 2 = Int64.ofInt (shT a b d (wR m w) i).2.1 := eq64.mpr (congrArg (fun x : T3 => x.2.1) hV)
      have v3 : gJ V 3 = Int64.ofInt (shT a b d (wR m w) i).2.2 := eq64.mpr (congrArg (fun x : T3 => x.2.2) hV)
      have kTV : Kp hI hJ [1] [36] T V := kp_trans kU (kp_mono kV (by decide) (by decide) (by decide) (by decide))
      obtain ⟨hRV, t1, t2, t3'⟩ := rul_kp hR kV (by decide) (by decide)
      have wV : WR V 1 i (wR m w) := fun t ht => by rw [kV.2.2.1 1 List.not_mem_nil]; exact wU t ht
      have fV : FN (gA V 36) l := by rw [kV.2.2.2 36 List.not_mem_nil]; exact hFU
      have i4 : gJ V 3 - gJ V 1 = 0 ↔ gJ V 1 = gJ V 3 := by
        rw [v1, v3, eq64, eq64, s64 (by rw [ofI okk.1, ofI okk.2.2]; have := okk.1; have := okk.2.2; omega) (by rw [ofI okk.1, ofI okk.2.2]; have := okk.1; have := okk.2.2; omega), show (0 : Int64).toInt = 0 from rfl]
        omega
      -- nothing new
      have none_ : ¬ rvC m a b d i (wR m w) → ∀ W, Kp hI hJ [1] [36] T W → FN (gA W 36) l → K (nI l.length) (nI w + 1) W := fun nc W kW fW => by
        have := hyes ok W kW
        rw [rvF_out nc, show l ++ (none : Option Int64).toList = l from List.append_nil l] at this
        exact this fW
      refine x8_ringOf (m := m) (a := a) (b := b) (d := d) (w := wR m w) (show i ≤ 40 by omega) (Nat.le_refl _) (by decide) hRV ⟨t1.trans sU.1, t2.trans sU.2.1, t3'.trans sU.2.2⟩ wV hwm i4 (fun c => ?_) (fun c c1 c2 W kW h4 h5 h30 => ?_) (fun c c1 W kW => ?_)
      · have nc : ¬ rvC m a b d i (wR m w) := fun z => z.1 (by rw [← v1, ← v3]; exact c)
        by_cases cq : gJ V 2 = 0
        · rw [if_pos cq]
          exact ⟨fun z => absurd z (by decide), fun _ => ale.mpr (none_ nc V kTV fV)⟩
        · rw [if_neg cq]
          exact ⟨fun z => absurd z (by decide), fun _ => ale.mpr (none_ nc V kTV fV)⟩
      · have kTW : Kp hI hJ [1] [36] T W := kp_trans kTV (kp_mono kW (by decide) (by decide) (by decide) (by decide))
        have fW : FN (gA W 36) l := by rw [kW.2.2.2 36 List.not_mem_nil]; exact fV
        rw [v1, v3] at c
        rw [v1, v2, v3] at c1 c2 h4 h5 h30
        have h4 : gJ W 4 = xqS (shT a b d (wR m w) i) := h4
        have h5 : gJ W 5 = mnF m a b d (xqS (shT a b d (wR m w) i)) i := h5
        have h30 : gI W 30 = ulF m a b d (xqS (shT a b d (wR m w) i)) i := h30
        have lf := least_iff (m := m) (a := a) (b := b) (d := d) (x := xqS (shT a b d (wR m w) i)) hk1
        refine ⟨fun _ => ?_, fun z => absurd rfl z⟩
        rw [h30]
        refine ⟨fun u0 => ?_, fun u0 => ?_⟩
        · exact ale.mpr (none_ (fun z => (lf.mpr z.2.2.2).1 u0) W kTW fW)
        · rw [h4, h5]
          refine ⟨fun e => ?_, fun e => ?_⟩
          · have rc : rvC m a b d i (wR m w) := ⟨c, c1, c2, lf.mp ⟨u0, e⟩⟩
            rw [gdt (vp_in_nI (by omega) (by omega)), ale, ale, ale, nI_clamp (by omega), nadd1]
            have := hyes ok (sA W 36 (vp_updL (gA W 36) l.length (xqS (shT a b d (wR m w) i)))) (kp_sA kTW (by decide))
            rw [rvF_in rc, show (some (xqS (shT a b d (wR m w) i)) : Option Int64).toList = [xqS (shT a b d (wR m w) i)] from rfl, List.length_append, gA_sA] at this
            exact this (fn_add fW)
          · exact ale.mpr (none_ (fun z => e (lf.mpr z.2.2.2).2) W kTW fW)
      · have kTW : Kp hI hJ [1] [36] T W := kp_trans kTV (kp_mono kW (by decide) (by decide) (by decide) (by decide))
        have fW : FN (gA W 36) l := by rw [kW.2.2.2 36 List.not_mem_nil]; exact fV
        rw [v1, v2, v3] at c1
        exact ⟨fun z => absurd z (by decide), fun _ => ale.mpr (none_ (fun z => c1 ⟨z.2.1, z.2.2.1⟩) W kTW fW)⟩
    | succ j ih =>
      intro i U hi kU hFU wU
      obtain ⟨hR, -, -, -⟩ := rul_kp h kU (by decide) (by decide)
      have g26 : gI U 26 = nI m := hR.2.2.2.2.2.1
      have nzm : ¬ nI m = 0 := nI_ne0 hm0 (by omega)
      have lw : w / m ^ i ≤ w := Nat.div_le_self _ _
      rw [V_X8_rings_61, brf (nI_ge (by omega) (by omega)), g26, gdt nzm, gdt (vp_in_nI (by omega) (by omega)), ale, i32_rem (by omega) hm0 (by omega), nI_clamp (by omega)]
      have g26' : gI (sB U 1 (upd (gB U 1) i (nI (w / m ^ i % m)))) 26 = nI m := g26
      rw [g26', gdt nzm, ale, ale, i32_div (by omega) hm0 (by omega), nadd1, Nat.div_div_eq_div_mul, ← Nat.pow_succ]
      refine ih (i + 1) _ (by omega) (kp_sB kU (by decide)) hFU (fun t ht => ?_)
      rw [gB_sB]
      show (if t = i then nI (w / m ^ i % m) else gB U 1 t) = nI (wR m w t)
      by_cases c : t = i
      · rw [if_pos c, c]; rfl
      · rw [if_neg c]; exact wU t (by omega)
  have := key k 0 T (by omega) (kp_refl _ _ _ _ T) hF (fun t ht => by omega)
  rw [Nat.pow_zero, Nat.div_one] at this
  exact ⟨k + 1, this⟩
theorem x8_rings48 {N i0 : Nat} {post : Int32 → SS → Prop} (hk1 : 1 ≤ k) (hk : k ≤ 12) (hN2 : N ≤ 20000) (hi0 : i0 ≤ N) (hok : ∀ t, t < i0 → okA a b d k (wR m t)) : ∀ (j w : Nat) (T : SS), w + j = i0 → RUL T m → gA T 0 = a ∧ gA T 1 = b ∧ gA T 2 = d → FN (gA T 36) (cdL (fun j => rvF m a b d k (wR m j)) w) → (i0 = N → ∀ U, Kp [28, 30] hJ [1] [35, 36] T U → NR U 28 35 ((isL (cdL (fun j => rvF m a b d k (wR m j)) N)).take 1000) → post (nI (cdL (fun j => rvF m a b d k (wR m j)) N).length) U) → (i0 < N → ¬ okA a b d k (wR m i0) ∧ ∀ U, Kp [28, 30] hJ [1] [35, 36] T U → (∀ i ∈ [28], gI U i = gI T i) → (∀ i ∈ [35], gA U i = gA T i) → post (-2) U) → V_X8_rings_48 (nI k) (nI N) post (j + 1) (nI (cdL (fun j => rvF m a b d k (wR m j)) w).length) (nI w) T := by
  intro j
  induction j with
  | zero =>
    intro w T hw h hs hF hend hbad
    obtain rfl : w = i0 := by omega
    have hlen := cdL_len (fun j => rvF m a b d k (wR m j)) w
    rcases Nat.lt_or_eq_of_le hi0 with l | l
    · obtain ⟨q1, q2⟩ := hbad l
      rw [V_X8_rings_48, brf (nI_ge l (by omega))]
      exact x8_rings61 hk1 hk (by omega) hlen h hs hF (fun _ U kU => q2 U (kp_mono kU (by decide) (by decide) (by decide) (by decide)) (fun i hi => kU.1 i (by rw [List.mem_singleton.mp hi]; decide)) (fun i hi => kU.2.2.2 i (by rw [List.mem_singleton.mp hi]; decide))) (fun z => absurd z q1)
    · rw [V_X8_rings_48, brt (nI_le (by omega) (by omega))]
      rw [l] at hF hlen ⊢
      refine x8_ascendL hF rfl (by omega) (fun U4 k4 h4 => ?_)
      refine x8_tellsL h4 (isL_len _) (by omega) (fun U5 k5 h5 => ?_)
      exact hend l U5 (kp_trans (kp_mono k4 (by decide) (by decide) (by decide) (by decide)) (kp_mono k5 (by decide) (by decide) (by decide) (by decide))) h5
  | succ j ih =>
    intro w T hw h hs hF hend hbad
    have hlen := cdL_len (fun j => rvF m a b d k (wR m j)) w
    rw [V_X8_rings_48, brf (nI_ge (by omega) (by omega))]
    refine x8_rings61 hk1 hk (by omega) hlen h hs hF (fun z => absurd (hok w (by omega)) z) (fun _ U kU fU => ?_)
    obtain ⟨hR, s1, s2, s3⟩ := rul_kp h kU (by decide) (by decide)
    have kU2 : Kp [28, 30] hJ [1] [35, 36] T U := kp_mono kU (by decide) (by decide) (by decide) (by decide)
    rw [nadd1]
    refine ih (w + 1) U (by omega) hR ⟨s1.trans hs.1, s2.trans hs.2.1, s3.trans hs.2.2⟩ fU (fun e V kV => hend e V (kp_trans kU2 kV)) (fun e => ⟨(hbad e).1, fun V kV q1 q2 => (hbad e).2 V (kp_trans kU2 kV) (fun i hi => (q1 i hi).trans (kU.1 i (by rw [List.mem_singleton.mp hi]; decide))) (fun i hi => (q2 i hi).trans (kU.2.2.2 i (by rw [List.mem_singleton.mp hi]; decide)))⟩)
end
theorem p_rings {p : Int32} {S : SS} (h : RR S) : V_X7_rings p S (fun r1 S2 => V_X8_rings p S2 (fun r3 S4 => (r1 = r3 → RR S4) ∧ (¬ r1 = r3 → False))) := by
  have h25 : gI S 25 = gI S 0 := h.2.1.1
  have hs0 := h.2.2.2.2.2.2
  have hno : ¬ (gI S 0 = 1 ∧ (1 ≤ p.toInt ∧ p.toInt ≤ 12)) → V_X8_rings p S (fun r3 S4 => ((-1 : Int32) = r3 → RR S4) ∧ (¬ (-1 : Int32) = r3 → False)) := fun c => by
    unfold V_X8_rings
    rw [ale]
    refine ⟨fun c0 => ?_, fun _ => eqp rfl h⟩
    exact in32 (a := 1) (b := 12) rfl rfl (fun cp => absurd ⟨h25.symm.trans c0, cp⟩ c) (fun _ => ⟨fun _ => eqp rfl h, fun z => absurd rfl z⟩)
  unfold V_X7_rings
  refine ⟨fun c => ⟨fun c1 => hno (fun q => ?_), fun c1 => ⟨fun c2 => ?_, fun c2 => hno (fun q => ?_)⟩⟩, fun c => hno (fun q => c q.1)⟩
  · have d : p.toInt < 1 := lt32.mp c1
    have := q.2.1
    omega
  · have d1 : ¬ p.toInt < 1 := fun z => c1 (lt32.mpr z)
    have d2 : p.toInt ≤ 12 := le32.mp c2
    obtain ⟨k, rfl, hk1, hk⟩ := nat32 (p := p) 1 12 (by omega) d2 (by omega)
    obtain ⟨m, hR⟩ := rul_of h c
    have hm2 := hR.1
    have hm := hR.2.1
    have hm0 : 0 < m := by omega
    rw [x5_measure, hR.2.2.2.2.1]
    -- the reference, up to its walk over words
    have ref : ∀ (U : SS) (post : Int32 → SS → Prop), RUL U m → (m ^ k ≤ 20000 → ∃ n, V_X8_rings_48 (nI k) (nI (m ^ k)) post n 0 0 (sI U 20 0)) → (¬ m ^ k ≤ 20000 → post (-2) (sI U 20 0)) → V_X8_rings (nI k) U post := fun U post hRU g1 g0 => by
      unfold V_X8_rings
      rw [ale, brt (c := gI (sI U 20 0) 25 = (1 : Int32)) hRU.2.2.2.1]
      refine in32 (a := 1) (b := 12) rfl rfl (fun _ => ⟨fun z => absurd z (by decide), fun _ => ?_⟩) (fun z => absurd ⟨by show (1 : Int) ≤ _; rw [nI_toInt (by omega)]; omega, by show _ ≤ (12 : Int); rw [nI_toInt (by omega)]; omega⟩ z)
      exact x8_power (S := sI U 20 0) hRU.2.2.2.2.2.1 hm2 hm hk (fun q => ⟨fun _ => g1 q, fun z => absurd (nI_le (b := 20000) q (by omega)) z⟩) (fun q => ⟨fun z => absurd z (by decide), fun _ => g0 q⟩)
    refine x7_power hm2 hm hk (fun q => ⟨fun _ => ?_, fun z => absurd (nI_le (b := 20000) q (by omega)) z⟩) (fun q v hv hv2 => ⟨fun z => ?_, fun _ => ?_⟩)
    · refine x2_emptyL (fun U0 k0 h0 => ?_)
      obtain ⟨hR0, s1, s2, s3⟩ := rul_kp hR k0 (by decide) (by decide)
      have g0 : Gx S U0 := gx_kp (kp_mono k0 (by decide) (by decide) (by decide) (by decide))
      have kR : ∀ U, Gx S U → RUL (sI U 20 0) m ∧ gA (sI U 20 0) 0 = gA S 0 ∧ gA (sI U 20 0) 1 = gA S 1 ∧ gA (sI U 20 0) 2 = gA S 2 := fun U gU => rul_kp hR (kp_sI (kp_mono gU.1 (by decide) (by decide) (by decide) (by decide)) (by decide) : Kp [8, 11, 20] [] [] [13, 16, 17, 18, 19] S (sI U 20 0)) (by decide) (by decide)
      have aw := all_words hm0 (k := k) (fun w => okA (gA S 0) (gA S 1) (gA S 2) k w) (fun u v e => okA_ext e)
      by_cases all : ∀ i, i < m ^ k → okA (gA S 0) (gA S 1) (gA S 2) k (wC m k i)
      · have allR := aw.mp all
        obtain ⟨ws1, ws2⟩ := words_sorted hm0 (k := k) (fun w => rvF m (gA S 0) (gA S 1) (gA S 2) k w) (fun u v e => rvF_ext e)
        have lc := cdL_len (fun i => rvF m (gA S 0) (gA S 1) (gA S 2) k (wC m k i)) (m ^ k)
        refine ⟨m ^ k + 1, x7_rings55 (m := m) (k := k) (N := m ^ k) (i0 := m ^ k) (a := gA S 0) (b := gA S 1) (d := gA S 2) hk1 hk rfl q (Nat.le_refl _) all (m ^ k) 0 U0 (by omega) hR0 ⟨s1, s2, s3⟩ (gx_rs g0 hs0) (fun z => by omega) h0 (fun _ U gU hU => ?_) (fun z => by omega)⟩
        have gU := gx_trans g0 gU
        have l1000 : ((isL (cdL (fun i => rvF m (gA S 0) (gA S 1) (gA S 2) k (wC m k i)) (m ^ k))).take 1000).length ≤ 1000 := by rw [List.length_take]; omega
        refine x2_becomeL hU l1000 l1000 (by omega) (by omega) (by decide) (by decide) (fun V kV hV => ?_)
        have kSV : Kp [7, 8, 11] [] [] [12, 13, 16, 17, 18, 19] S V := kp_trans (kp_mono gU.1 (by decide) (by decide) (by decide) (by decide)) (kp_mono kV (by decide) (by decide) (by decide) (by decide))
        have rV := rs0_kp (gx_rs gU hs0) kV (by decide) (by decide) (by decide)
        obtain ⟨hRV, t1, t2, t3'⟩ := rul_kp hR kSV (by decide) (by decide)
        have kz : Kp [20] [] [] [] V (sI V 20 0) := kp_sI (kp_refl _ _ _ _ V) (by decide)
        refine ref V _ hRV (fun _ => ⟨m ^ k + 1, ?_⟩) (fun z => absurd q z)
        refine x8_rings48 (m := m) (k := k) (N := m ^ k) (i0 := m ^ k) (a := gA S 0) (b := gA S 1) (d := gA S 2) hk1 hk q (Nat.le_refl _) allR (m ^ k) 0 (sI V 20 0) (by omega) (rul_kp hRV kz (by decide) (by decide)).1 ⟨t1, t2, t3'⟩ (fn_nil _) (fun _ W kW hW => eqp (by rw [ws2]) ?_) (fun z => by omega)
        rw [← ws1] at hW
        exact row_end h (kp_mono kSV (by decide) (by decide) (by decide) (by decide)) rV hV (kp_trans (kp_mono kz (by decide) (by decide) (by decide) (by decide)) (kp_mono kW (by decide) (by decide) (by decide) (by decide))) hW l1000
      · have nallR : ¬ ∀ j, j < m ^ k → okA (gA S 0) (gA S 1) (gA S 2) k (wR m j) := fun z => all (aw.mpr z)
        obtain ⟨i0, hi0, ni0, bi0⟩ : ∃ r, r < m ^ k ∧ ¬ okA (gA S 0) (gA S 1) (gA S 2) k (wC m k r) ∧ ∀ t, t < r → okA (gA S 0) (gA S 1) (gA S 2) k (wC m k t) := (first_not (fun i => okA (gA S 0) (gA S 1) (gA S 2) k (wC m k i)) (m ^ k)).resolve_left all
        obtain ⟨j0, hj0, nj0, bj0⟩ : ∃ r, r < m ^ k ∧ ¬ okA (gA S 0) (gA S 1) (gA S 2) k (wR m r) ∧ ∀ t, t < r → okA (gA S 0) (gA S 1) (gA S 2) k (wR m t) := (first_not (fun j => okA (gA S 0) (gA S 1) (gA S 2) k (wR m j)) (m ^ k)).resolve_left nallR
        refine ⟨i0 + 1, x7_rings55 (m := m) (k := k) (N := m ^ k) (i0 := i0) (a := gA S 0) (b := gA S 1) (d := gA S 2) hk1 hk rfl q (by omega) bi0 i0 0 U0 (by omega) hR0 ⟨s1, s2, s3⟩ (gx_rs g0 hs0) (fun z => by omega) h0 (fun z => by omega) (fun _ => ⟨ni0, fun U gU => ?_⟩)⟩
        have gU := gx_trans g0 gU
        obtain ⟨hRU, u1, u2, u3⟩ := rul_kp hR gU.1 (by decide) (by decide)
        obtain ⟨hRz, z1, z2, z3⟩ := kR U gU
        refine ref U _ hRU (fun _ => ⟨j0 + 1, ?_⟩) (fun z => absurd q z)
        refine x8_rings48 (m := m) (k := k) (N := m ^ k) (i0 := j0) (a := gA S 0) (b := gA S 1) (d := gA S 2) hk1 hk q (by omega) bj0 j0 0 (sI U 20 0) (by omega) hRz ⟨z1, z2, z3⟩ (fn_nil _) (fun z => by omega) (fun _ => ⟨nj0, fun W kW q1 q2 => eqp rfl ?_⟩)
        have kSW : Kp rI tJ tB rA S W := kp_trans (kp_mono gU.1 (by decide) (by decide) (by decide) (by decide)) (kp_trans (kp_sI (kp_refl _ _ _ _ U) (by decide)) (kp_mono kW (by decide) (by decide) (by decide) (by decide)))
        have ru := gx_rs gU hs0
        refine RR_row h kSW (rs0_kp (S := sI U 20 0) ru kW (by decide) (by decide) (by decide)) ?_
        have e28 : gI W 28 = gI S 28 := (q1 28 (by decide)).trans (gU.1.1 28 (by decide))
        have e35 : gA W 35 = gA S 35 := (q2 35 (by decide)).trans (gU.1.2.2.2 35 (by decide))
        have e7 : gI W 7 = gI S 7 := (kW.1 7 (by decide)).trans (gU.1.1 7 (by decide))
        have e12 : gA W 12 = gA S 12 := (kW.2.2.2 12 (by decide)).trans (gU.1.2.2.2 12 (by decide))
        rw [e28, e35, e7, e12]
        exact h.2.2.2.1
    · have := (nI_leI (b := 20000) (by omega) (by omega)).mp z
      omega
    · exact ref S _ hR (fun z => absurd z q) (fun _ => eqp rfl h)
  · have d2 : ¬ p.toInt ≤ 12 := fun z => c2 (le32.mpr z)
    exact d2 q.2.2
