/-! BOTH: strides, firsts, their common multiple -/
def stq (a d : Nat → Int64) (m r : Nat) : Nat := ((a r).toInt * (m : Int) / (d r).toInt).natAbs
def fsq (a b d : Nat → Int64) (r : Nat) : Int := ((a r).toInt * (r : Int) + (b r).toInt) / (d r).toInt
def fvq (a b d : Nat → Int64) (r : Nat) : Int64 := (a r * (nI r).toInt64 + b r) / d r
section
variable {m r : Nat} {a b d : Nat → Int64}
theorem dv_exact {x y : Int64} {X : Int} (hx : x.toInt = X) (hX : X.natAbs ≤ 4000000000000000000) (hd : y.toInt ∣ X) : (x / y).toInt = X / y.toInt := by
  rw [dvG (by rw [hx]; exact hX), hx]
  exact Int.tdiv_eq_ediv_of_dvd hd
theorem abs_div_le {X y : Int} (hy : 1 ≤ y) (hd : y ∣ X) : (X / y).natAbs ≤ X.natAbs := by
  have e := Int.mul_ediv_cancel' hd
  have h2 : (y * (X / y)).natAbs = y.natAbs * (X / y).natAbs := Int.natAbs_mul _ _
  rw [e] at h2
  rw [h2]
  exact Nat.le_mul_of_pos_left _ (by omega)
theorem rul_pr (hr : rulF m a b d) (hm : m ≤ 64) (h : r < m) : (a r * (nI m).toInt64).toInt = (a r).toInt * m ∧ ((a r).toInt * (m : Int)).natAbs ≤ 64000 ∧ (a r * (nI r).toInt64 + b r).toInt = (a r).toInt * r + (b r).toInt ∧ ((a r).toInt * (r : Int) + (b r).toInt).natAbs ≤ 65000 := by
  obtain ⟨h1, h2, -, -, -⟩ := hr r h
  obtain ⟨e1, e2, e3⟩ := prN (a := a r) (k := m) h1 hm
  obtain ⟨f1, f2, f3⟩ := prN (a := a r) (k := r) h1 (by omega)
  refine ⟨e1, by omega, ?_, by omega⟩
  rw [a64 (by rw [f1]; omega) (by rw [f1]; omega), f1]
theorem stq_eq (hr : rulF m a b d) (hm : m ≤ 64) (h : r < m) : ((a r * (nI m).toInt64) / d r).toInt = (a r).toInt * (m : Int) / (d r).toInt ∧ stq a d m r ≤ 64000 := by
  obtain ⟨e1, e2, -, -⟩ := rul_pr hr hm h
  obtain ⟨-, -, ⟨hd, -⟩, hd1, -⟩ := hr r h
  exact ⟨dv_exact e1 (by omega) hd1, Nat.le_trans (abs_div_le hd hd1) e2⟩
theorem fvq_eq (hr : rulF m a b d) (hm : m ≤ 64) (h : r < m) : (fvq a b d r).toInt = fsq a b d r ∧ (fsq a b d r).natAbs ≤ 65000 := by
  obtain ⟨-, -, e1, e2⟩ := rul_pr hr hm h
  obtain ⟨-, -, ⟨hd, -⟩, -, hd1⟩ := hr r h
  exact ⟨dv_exact e1 (by omega) hd1, Nat.le_trans (abs_div_le hd hd1) e2⟩
theorem stq_pos (hr : rulF m a b d) (h : r < m) (ha : ¬ a r = 0) : 1 ≤ stq a d m r := by
  obtain ⟨-, -, ⟨hd, -⟩, hd1, -⟩ := hr r h
  have ha : (a r).toInt ≠ 0 := fun z => ha (eq64.mpr z)
  have e := Int.mul_ediv_cancel' hd1
  refine Nat.pos_of_ne_zero (fun z => ?_)
  have z : (a r).toInt * (m : Int) / (d r).toInt = 0 := Int.natAbs_eq_zero.mp z
  rw [z, Int.mul_zero] at e
  rcases Int.mul_eq_zero.mp e.symm with q | q
  · exact ha q
  · omega
theorem x5_stride {S : SS} {post : Int64 → SS → Prop} (h : RUL S m) (hrm : r < m) (hp : post (lN (stq (gA S 0) (gA S 2) m r)) S) : V_X5_stride 1 0 1 2 (nI r) S post := by
  obtain ⟨hm2, hm, g0, g25, hi1, hi26, hf, he⟩ := h
  obtain ⟨-, -, ⟨hd, -⟩, -, -⟩ := hf r hrm
  obtain ⟨e1, e2⟩ := stq_eq hf hm hrm
  have e2 : ((gA S 0 r).toInt * (m : Int) / (gA S 2 r).toInt).natAbs ≤ 64000 := e2
  unfold V_X5_stride
  rw [x5_a hi1 hrm hm, x5_d hi1 hrm hm hd, gdt (nz_of hd), ale, hi1, abL_of (by rw [e1]; omega), e1]
  exact hp
/-- a rule on the reference's side alone -/
def RUR (S : SS) (m : Nat) (a b d : Nat → Int64) : Prop := 2 ≤ m ∧ m ≤ 64 ∧ gI S 25 = 1 ∧ gI S 26 = nI m ∧ rulF m a b d ∧ ∀ r, r < m → gA S 32 (3 * r) = a r ∧ gA S 32 (3 * r + 1) = b r ∧ gA S 32 (3 * r + 2) = d r
theorem rur_of {S : SS} (h : RUL S m) : RUR S m (gA S 0) (gA S 1) (gA S 2) := by
  obtain ⟨h1, h2, h3, h4, h5, h6, h7, h8⟩ := h
  exact ⟨h1, h2, h4, h6, h7, h8⟩
theorem rur_kp {is js bs as : List Nat} {S T : SS} (h : RUR S m a b d) (k : Kp is js bs as S T) (hi : ∀ j ∈ [25, 26], j ∉ is) (ha : 32 ∉ as) : RUR T m a b d := by
  obtain ⟨kI, -, kB, kA⟩ := k
  unfold RUR
  rw [kI 25 (hi 25 (by decide)), kI 26 (hi 26 (by decide)), kA 32 ha]
  exact h
theorem x8_gap {S : SS} {post : Int64 → SS → Prop} (h : RUR S m a b d) (hrm : r < m) (hp : post (lN (stq a d m r)) S) : V_X8_gap (nI r) S post := by
  obtain ⟨hm2, hm, g25, hi26, hf, he⟩ := h
  obtain ⟨-, -, ⟨hd, -⟩, -, -⟩ := hf r hrm
  obtain ⟨e1, e2⟩ := stq_eq hf hm hrm
  have e2 : ((a r).toInt * (m : Int) / (d r).toInt).natAbs ≤ 64000 := e2
  obtain ⟨q1, q2, q3⟩ := he r hrm
  unfold V_X8_gap
  rw [nmul3 (by omega), nadd2, gdt (vp_in_nI (by omega) (by omega)), gdt (vp_in_nI (by omega) (by omega)), nI_clamp (by omega), nI_clamp (by omega), q1, q3, gdt (nz_of hd), ale, hi26]
  refine ⟨fun c => ?_, fun c => ?_⟩
  · have c : 0 ≤ (a r * (nI m).toInt64 / d r).toInt := le64.mp c
    have e : a r * (nI m).toInt64 / d r = lN (stq a d m r) := by
      refine of64 ?_ (by show ((a r).toInt * (m : Int) / (d r).toInt).natAbs < _; omega)
      rw [e1] at c ⊢
      show _ = ((((a r).toInt * (m : Int) / (d r).toInt).natAbs : Nat) : Int)
      omega
    rw [e]; exact hp
  · have c : ¬ 0 ≤ (a r * (nI m).toInt64 / d r).toInt := fun z => c (le64.mpr z)
    have e : -(a r * (nI m).toInt64 / d r) = lN (stq a d m r) := by
      refine of64 ?_ (by show ((a r).toInt * (m : Int) / (d r).toInt).natAbs < _; omega)
      rw [n64 (by rw [e1]; omega)]
      rw [e1] at c ⊢
      show _ = ((((a r).toInt * (m : Int) / (d r).toInt).natAbs : Nat) : Int)
      omega
    rw [e]; exact hp
theorem x8_first {S : SS} {post : Int64 → SS → Prop} (h : RUR S m a b d) (hrm : r < m) (hp : post (fvq a b d r) S) : V_X8_first (nI r) S post := by
  obtain ⟨hm2, hm, g25, hi26, hf, he⟩ := h
  obtain ⟨-, -, ⟨hd, -⟩, -, -⟩ := hf r hrm
  obtain ⟨q1, q2, q3⟩ := he r hrm
  unfold V_X8_first
  rw [nmul3 (by omega), nadd1, nadd2, gdt (vp_in_nI (by omega) (by omega)), gdt (vp_in_nI (by omega) (by omega)), gdt (vp_in_nI (by omega) (by omega)), nI_clamp (by omega), nI_clamp (by omega), nI_clamp (by omega), q1, q2, q3, gdt (nz_of hd)]
  exact hp
end
/-- the common multiple, gone on with as long as it isn't too large -/
def lcF (st : Nat → Nat) : Nat → Nat → Nat → Nat
  | 0, _, c => c
  | j + 1, k, c => if 100000 < c then c else lcF st j (k + 1) (c / Nat.gcd c (st k) * st k)
theorem lcF_dvd (st : Nat → Nat) : ∀ (j k c : Nat), 1 ≤ c → (∀ t, k ≤ t → t < k + j → 1 ≤ st t) → 1 ≤ lcF st j k c ∧ (lcF st j k c ≤ 100000 → c ∣ lcF st j k c ∧ ∀ t, k ≤ t → t < k + j → st t ∣ lcF st j k c) := by
  intro j
  induction j with
  | zero => intro k c hc _; exact ⟨hc, fun _ => ⟨Nat.dvd_refl _, fun t h1 h2 => by omega⟩⟩
  | succ j ih =>
    intro k c hc hst
    by_cases q : 100000 < c
    · have e : lcF st (j + 1) k c = c := if_pos q
      rw [e]
      exact ⟨hc, fun z => by omega⟩
    · have e : lcF st (j + 1) k c = lcF st j (k + 1) (c / Nat.gcd c (st k) * st k) := if_neg q
      rw [e]
      have hs := hst k (Nat.le_refl _) (by omega)
      have g1 := Nat.gcd_dvd_left c (st k)
      have g2 := Nat.gcd_dvd_right c (st k)
      have gp : 0 < Nat.gcd c (st k) := Nat.gcd_pos_of_pos_left _ hc
      have ec : c / Nat.gcd c (st k) * st k = c * (st k / Nat.gcd c (st k)) := by
        obtain ⟨u, hu⟩ := g1
        obtain ⟨v, hv⟩ := g2
        generalize Nat.gcd c (st k) = g at *
        rw [hu, hv, Nat.mul_div_cancel_left _ gp, Nat.mul_div_cancel_left _ gp, Nat.mul_left_comm, Nat.mul_assoc]
      have p1 : 1 ≤ c / Nat.gcd c (st k) := (Nat.one_le_div_iff gp).mpr (Nat.le_of_dvd (by omega) g1)
      obtain ⟨h1, h2⟩ := ih (k + 1) (c / Nat.gcd c (st k) * st k) (Nat.mul_le_mul p1 hs) (fun t a b => hst t (by omega) (by omega))
      refine ⟨h1, fun z => ?_⟩
      obtain ⟨h3, h4⟩ := h2 z
      refine ⟨Nat.dvd_trans ⟨_, ec⟩ h3, fun t a b => ?_⟩
      rcases Nat.lt_or_eq_of_le a with y | y
      · exact h4 t y (by omega)
      · rw [← y]; exact Nat.dvd_trans ⟨_, Nat.mul_comm _ _⟩ h3
/-- the common multiple, or just one above 100000 -/
def alF (a d : Nat → Int64) (m : Nat) : Nat := min (lcF (stq a d m) m 0 1) 100001
theorem min_lN {c : Nat} (hc : c ≤ 9000000000) : (mnL (lN c) (100001 : Int64)).toInt32 = nI (min c 100001) := by
  have e : mnL (lN c) (100001 : Int64) = lN (min c 100001) := by
    have e1 : (100001 : Int64) = lN 100001 := rfl
    rw [e1]
    by_cases q : lN 100001 < lN c
    · have q2 := (lNlt (by omega) (by omega)).mp q
      rw [show mnL (lN c) (lN 100001) = lN 100001 from if_pos q, Nat.min_eq_right (by omega)]
    · have q2 : ¬ 100001 < c := fun z => q ((lNlt (a := 100001) (by omega) (by omega)).mpr z)
      rw [show mnL (lN c) (lN 100001) = lN c from if_neg q, Nat.min_eq_left (by omega)]
  rw [e]
  exact l2iN (by omega)
theorem lc_step {c s : Nat} (hc1 : 1 ≤ c) (hc : c ≤ 100000) (hs1 : 1 ≤ s) (hs : s ≤ 64000) : lN c / lN (Nat.gcd c s) * lN s = lN (c / Nat.gcd c s * s) ∧ c / Nat.gcd c s * s ≤ 9000000000 ∧ Nat.gcd c s ≤ 100000 ∧ 1 ≤ Nat.gcd c s ∧ 1 ≤ c / Nat.gcd c s * s := by
  have gp : 0 < Nat.gcd c s := Nat.gcd_pos_of_pos_left _ hc1
  have gl : Nat.gcd c s ≤ c := Nat.le_of_dvd (by omega) (Nat.gcd_dvd_left c s)
  have p1 : 1 ≤ c / Nat.gcd c s := (Nat.one_le_div_iff gp).mpr gl
  have p2 : c / Nat.gcd c s ≤ c := Nat.div_le_self _ _
  have p3 : c / Nat.gcd c s * s ≤ 100000 * 64000 := Nat.mul_le_mul (by omega) hs
  refine ⟨?_, by omega, by omega, gp, Nat.mul_le_mul p1 hs1⟩
  rw [lN_divN (by omega) (by omega) gp, lN_mul]
section
variable {m : Nat} {a b d : Nat → Int64} {S : SS} {post : Int32 → SS → Prop}
theorem x5_common (h : RUL S m) (nz : ∀ r, r < m → ¬ gA S 0 r = 0) (hp : post (nI (alF (gA S 0) (gA S 2) m)) S) : V_X5_commonStride 1 0 1 2 S post := by
  have hm := h.2.1
  have hi1 := h.2.2.2.2.1
  have hf := h.2.2.2.2.2.2.1
  have key : ∀ (j k c : Nat), k + j = m → 1 ≤ c → c ≤ 9000000000 → post (nI (min (lcF (stq (gA S 0) (gA S 2) m) j k c) 100001)) S → V_X5_commonStride_4 1 0 1 2 post (j + 1) (lN c) (nI k) S := by
    intro j
    induction j with
    | zero =>
      intro k c hk hc1 hc hp
      obtain rfl : k = m := by omega
      rw [V_X5_commonStride_4, hi1, brt (nI_le (Nat.le_refl _) (by omega)), ale, min_lN hc]
      exact hp
    | succ j ih =>
      intro k c hk hc1 hc hp
      have hkm : k < m := by omega
      have e9 : (100000 : Int64) = lN 100000 := rfl
      rw [V_X5_commonStride_4, hi1, brf (nI_ge hkm (by omega))]
      refine ⟨fun q => ?_, fun q => ?_⟩
      · have q2 : 100000 < c := (lNlt (a := 100000) (by omega) (by omega)).mp q
        have e : lcF (stq (gA S 0) (gA S 2) m) (j + 1) k c = c := if_pos q2
        rw [e] at hp
        rw [ale, min_lN hc]
        exact hp
      · have q2 : ¬ 100000 < c := fun z => q ((lNlt (a := 100000) (by omega) (by omega)).mpr z)
        have e : lcF (stq (gA S 0) (gA S 2) m) (j + 1) k c = lcF (stq (gA S 0) (gA S 2) m) j (k + 1) (c / Nat.gcd c (stq (gA S 0) (gA S 2) m k) * stq (gA S 0) (gA S 2) m k) := if_neg q2
        rw [e] at hp
        have s1 := stq_pos hf hkm (nz k hkm)
        have s2 := (stq_eq hf hm hkm).2
        obtain ⟨l1, l2, l3, l4, l5⟩ := lc_step hc1 (by omega) s1 s2
        refine x5_stride h hkm ⟨fun z => ?_, fun _ => ?_⟩
        · have z := le64.mp z
          rw [lN_int (by omega), show (0 : Int64).toInt = 0 from rfl] at z
          omega
        · refine x7_cd (by rw [lN_int (by omega)]; omega) (by rw [lN_int (by omega)]; omega) ?_
          have ec : cdn (lN c).toInt.natAbs (lN (stq (gA S 0) (gA S 2) m k)).toInt.natAbs = Nat.gcd c (stq (gA S 0) (gA S 2) m k) := by
            rw [lN_int (by omega), lN_int (by omega), Int.natAbs_natCast, Int.natAbs_natCast]
            unfold cdn
            rw [if_neg (by omega)]
          rw [ec]
          refine ⟨fun z => by have := (lN0 (by omega)).mp z; omega, ?_⟩
          rw [ale, ale, nadd1, l1]
          exact ih (k + 1) _ (by omega) l5 l2 hp
  exact ⟨m + 1, key m 0 1 (by omega) (by omega) (by omega) hp⟩
theorem x8_measure (h : RUR S m a b d) (hz : (∃ r, r < m ∧ a r = 0) → post 0 S) (hp : (∀ r, r < m → ¬ a r = 0) → post (nI (alF a d m)) S) : V_X8_measure S post := by
  have hm := h.2.1
  have hi26 := h.2.2.2.1
  have hf := h.2.2.2.2.1
  have key : (∀ r, r < m → ¬ a r = 0) → ∀ (j k c : Nat), k + j = m → 1 ≤ c → c ≤ 9000000000 → post (nI (min (lcF (stq a d m) j k c) 100001)) S → V_X8_measure_35 post (j + 1) (lN c) (nI k) S := by
    intro nz j
    induction j with
    | zero =>
      intro k c hk hc1 hc hp
      obtain rfl : k = m := by omega
      rw [V_X8_measure_35, hi26, brt (nI_le (Nat.le_refl _) (by omega)), ale, min_lN hc]
      exact hp
    | succ j ih =>
      intro k c hk hc1 hc hp
      have hkm : k < m := by omega
      rw [V_X8_measure_35, hi26, brf (nI_ge hkm (by omega))]
      refine ⟨fun q => ?_, fun q => ?_⟩
      · have q2 : 100000 < c := (lNlt (a := 100000) (by omega) (by omega)).mp q
        have e : lcF (stq a d m) (j + 1) k c = c := if_pos q2
        rw [e] at hp
        rw [ale, min_lN hc]
        exact hp
      · have q2 : ¬ 100000 < c := fun z => q ((lNlt (a := 100000) (by omega) (by omega)).mpr z)
        have e : lcF (stq a d m) (j + 1) k c = lcF (stq a d m) j (k + 1) (c / Nat.gcd c (stq a d m k) * stq a d m k) := if_neg q2
        rw [e] at hp
        have s1 := stq_pos hf hkm (nz k hkm)
        have s2 := (stq_eq hf hm hkm).2
        obtain ⟨l1, l2, l3, l4, l5⟩ := lc_step hc1 (by omega) s1 s2
        refine x8_gap h hkm ?_
        refine x8_co (by rw [lN_int (by omega)]; omega) (by rw [lN_int (by omega)]; omega) ?_
        have ec : Nat.gcd (lN c).toInt.natAbs (lN (stq a d m k)).toInt.natAbs = Nat.gcd c (stq a d m k) := by
          rw [lN_int (by omega), lN_int (by omega), Int.natAbs_natCast, Int.natAbs_natCast]
        rw [ec]
        refine ⟨fun z => by have := (lN0 (by omega)).mp z; omega, ?_⟩
        refine x8_gap h hkm ?_
        rw [ale, ale, nadd1, l1]
        exact ih (k + 1) _ (by omega) l5 l2 hp
  have key2 : ∀ (j k : Nat), k + j = m → (∀ r, r < k → ¬ a r = 0) → V_X8_measure_4 1 post (j + 1) (nI k) S := by
    intro j
    induction j with
    | zero =>
      intro k hk nz
      obtain rfl : k = m := by omega
      rw [V_X8_measure_4, hi26, brt (nI_le (Nat.le_refl _) (by omega))]
      exact ⟨k + 1, key nz k 0 1 (by omega) (by omega) (by omega) (hp nz)⟩
    | succ j ih =>
      intro k hk nz
      have hkm : k < m := by omega
      obtain ⟨q1, -, -⟩ := h.2.2.2.2.2 k hkm
      rw [V_X8_measure_4, hi26, brf (nI_ge hkm (by omega)), nmul3 (by omega), gdt (vp_in_nI (by omega) (by omega)), nI_clamp (by omega), q1]
      refine ⟨fun c => hz ⟨k, hkm, c⟩, fun c => ?_⟩
      rw [ale, nadd1]
      refine ih (k + 1) (by omega) (fun r hr => ?_)
      rcases Nat.lt_or_eq_of_le (Nat.le_of_lt_succ hr) with z | z
      · exact nz r z
      · rw [z]; exact c
  exact ⟨m + 1, key2 m 0 (by omega) (fun r hr => by omega)⟩
end
