/-! TURN: the way back of one rest -/
def gmN (a b d : Nat → Int64) (r : Nat) : Nat := Nat.gcd (Nat.gcd (d r).toInt.natAbs (b r).toInt.natAbs) (a r).toInt.natAbs
def sgZ (x : Int) : Int := if 0 ≤ x then 1 else -1
def tuA (a b d : Nat → Int64) (r : Nat) : Int := sgZ (a r).toInt * ((d r).toInt / (gmN a b d r : Int))
def tuB (a b d : Nat → Int64) (r : Nat) : Int := -(sgZ (a r).toInt * ((b r).toInt / (gmN a b d r : Int)))
def tuD (a b d : Nat → Int64) (r : Nat) : Int := sgZ (a r).toInt * ((a r).toInt / (gmN a b d r : Int))
section
variable {m r : Nat} {a b d : Nat → Int64}
theorem gm_fine (hr : rulF m a b d) (h : r < m) : 1 ≤ gmN a b d r ∧ gmN a b d r ≤ 1000 ∧ ((gmN a b d r : Int) ∣ (d r).toInt) ∧ ((gmN a b d r : Int) ∣ (b r).toInt) ∧ ((gmN a b d r : Int) ∣ (a r).toInt) := by
  obtain ⟨h1, h2, ⟨h3, h4⟩, -, -⟩ := hr r h
  have p1 : 0 < Nat.gcd (d r).toInt.natAbs (b r).toInt.natAbs := Nat.gcd_pos_of_pos_left _ (by omega)
  have p2 : 0 < gmN a b d r := Nat.gcd_pos_of_pos_left _ p1
  have l1 : Nat.gcd (d r).toInt.natAbs (b r).toInt.natAbs ≤ (d r).toInt.natAbs := Nat.le_of_dvd (by omega) (Nat.gcd_dvd_left _ _)
  have l2 : gmN a b d r ≤ Nat.gcd (d r).toInt.natAbs (b r).toInt.natAbs := Nat.le_of_dvd p1 (Nat.gcd_dvd_left _ _)
  refine ⟨p2, by omega, ?_, ?_, ?_⟩
  · exact Int.ofNat_dvd_left.mpr (Nat.dvd_trans (Nat.gcd_dvd_left _ _) (Nat.gcd_dvd_left _ _))
  · exact Int.ofNat_dvd_left.mpr (Nat.dvd_trans (Nat.gcd_dvd_left _ _) (Nat.gcd_dvd_right _ _))
  · exact Int.ofNat_dvd_left.mpr (Nat.gcd_dvd_right _ _)
theorem sgZ_abs (x y : Int) : (sgZ x * y).natAbs = y.natAbs := by
  unfold sgZ
  by_cases c : 0 ≤ x
  · rw [if_pos c, Int.one_mul]
  · rw [if_neg c, Int.neg_mul, Int.one_mul, Int.natAbs_neg]
theorem tu_rng (hr : rulF m a b d) (h : r < m) (ha : ¬ a r = 0) : (-1000 ≤ tuA a b d r ∧ tuA a b d r ≤ 1000) ∧ (-1000 ≤ tuB a b d r ∧ tuB a b d r ≤ 1000) ∧ (1 ≤ tuD a b d r ∧ tuD a b d r ≤ 1000) := by
  obtain ⟨g1, g2, d1, d2, d3⟩ := gm_fine hr h
  obtain ⟨h1, h2, ⟨h3, h4⟩, -, -⟩ := hr r h
  have q1 : (tuA a b d r).natAbs ≤ 1000 := by
    unfold tuA
    rw [sgZ_abs]
    have := abs_div_le (show (1 : Int) ≤ (gmN a b d r : Int) by omega) d1
    omega
  have q2 : (tuB a b d r).natAbs ≤ 1000 := by
    unfold tuB
    rw [Int.natAbs_neg, sgZ_abs]
    have := abs_div_le (show (1 : Int) ≤ (gmN a b d r : Int) by omega) d2
    omega
  have q3 : (tuD a b d r).natAbs ≤ 1000 := by
    unfold tuD
    rw [sgZ_abs]
    have := abs_div_le (show (1 : Int) ≤ (gmN a b d r : Int) by omega) d3
    omega
  have ha : (a r).toInt ≠ 0 := fun z => ha (eq64.mpr z)
  have e := Int.mul_ediv_cancel' d3
  have q4 : 1 ≤ tuD a b d r := by
    unfold tuD sgZ
    by_cases c : 0 ≤ (a r).toInt
    · rw [if_pos c, Int.one_mul]
      have n := Int.ediv_nonneg c (show (0 : Int) ≤ (gmN a b d r : Int) by omega)
      have n0 : (a r).toInt / (gmN a b d r : Int) ≠ 0 := fun z => by rw [z, Int.mul_zero] at e; omega
      omega
    · rw [if_neg c, Int.neg_mul, Int.one_mul]
      have n : ¬ 0 ≤ (a r).toInt / (gmN a b d r : Int) := fun z => by
        have := Int.mul_nonneg (show (0 : Int) ≤ (gmN a b d r : Int) by omega) z
        omega
      omega
  omega
theorem tu_dvd {M s : Nat} (hr : rulF m a b d) (h : r < m) (hM : stq a d m r ∣ M) (hs : (stq a d m r : Int) ∣ (s : Int) - fsq a b d r) : tuD a b d r ∣ tuA a b d r * (M : Int) ∧ tuD a b d r ∣ tuA a b d r * (s : Int) + tuB a b d r := by
  obtain ⟨g1, g2, d1, d2, d3⟩ := gm_fine hr h
  obtain ⟨-, -, ⟨h3, -⟩, h5, h6⟩ := hr r h
  have e1 := Int.mul_ediv_cancel' d1
  have e2 := Int.mul_ediv_cancel' d2
  have e3 := Int.mul_ediv_cancel' d3
  have e4 := Int.mul_ediv_cancel' h5
  have e5 : (d r).toInt * fsq a b d r = (a r).toInt * (r : Int) + (b r).toInt := Int.mul_ediv_cancel' h6
  have eM : ((a r).toInt * (m : Int) / (d r).toInt) ∣ (M : Int) := Int.natAbs_dvd.mp (Int.natCast_dvd_natCast.mpr hM)
  have es : ((a r).toInt * (m : Int) / (d r).toInt) ∣ (s : Int) - fsq a b d r := Int.natAbs_dvd.mp hs
  unfold tuA tuB tuD
  generalize (a r).toInt * (m : Int) / (d r).toInt = E at *
  generalize fsq a b d r = f at *
  generalize sgZ (a r).toInt = σ at *
  generalize (d r).toInt / (gmN a b d r : Int) = δ at *
  generalize (b r).toInt / (gmN a b d r : Int) = β at *
  generalize (a r).toInt / (gmN a b d r : Int) = α at *
  have g0 : (gmN a b d r : Int) ≠ 0 := by omega
  have k1 : δ * E = α * (m : Int) := by
    rw [← e1, ← e3, Int.mul_assoc, Int.mul_assoc] at e4
    exact Int.eq_of_mul_eq_mul_left g0 e4
  have k2 : δ * f = α * (r : Int) + β := by
    rw [← e1, ← e3, ← e2, Int.mul_assoc, Int.mul_assoc, ← Int.mul_add] at e5
    exact Int.eq_of_mul_eq_mul_left g0 e5
  obtain ⟨u, hu⟩ := eM
  obtain ⟨v, hv⟩ := es
  refine ⟨⟨(m : Int) * u, ?_⟩, ⟨(r : Int) + (m : Int) * v, ?_⟩⟩
  · rw [hu, Int.mul_assoc, ← Int.mul_assoc δ, k1, Int.mul_assoc, Int.mul_assoc]
  · have hv2 : (s : Int) = f + E * v := by omega
    rw [hv2, Int.mul_assoc, Int.mul_add, k2, ← Int.mul_assoc δ, k1, Int.mul_assoc α, Int.mul_assoc σ, Int.mul_add α, Int.mul_add, Int.mul_add, Int.mul_add]
    omega
/-- the first rest that comes to s -/
def fdF (a b d : Nat → Int64) (m s : Nat) : Nat → Nat → Nat
  | 0, k => k
  | j + 1, k => if ((s : Int) - fsq a b d k) % (stq a d m k : Int) = 0 then k else fdF a b d m s j (k + 1)
theorem fdF_ok {s : Nat} : ∀ (j k t : Nat), k ≤ t → t < k + j → ((s : Int) - fsq a b d t) % (stq a d m t : Int) = 0 → fdF a b d m s j k < k + j ∧ ((s : Int) - fsq a b d (fdF a b d m s j k)) % (stq a d m (fdF a b d m s j k) : Int) = 0 := by
  intro j
  induction j with
  | zero => intro k t h1 h2; omega
  | succ j ih =>
    intro k t h1 h2 h3
    by_cases c : ((s : Int) - fsq a b d k) % (stq a d m k : Int) = 0
    · have e : fdF a b d m s (j + 1) k = k := if_pos c
      rw [e]
      exact ⟨by omega, c⟩
    · have e : fdF a b d m s (j + 1) k = fdF a b d m s j (k + 1) := if_neg c
      rw [e]
      have ne : t ≠ k := fun z => c (z ▸ h3)
      obtain ⟨q1, q2⟩ := ih (k + 1) t (by omega) (by omega) h3
      exact ⟨by omega, q2⟩
theorem fv_sub {s : Nat} (hr : rulF m a b d) (hm : m ≤ 64) (h : r < m) (hs : s ≤ 64) : (lN s - fvq a b d r).toInt = (s : Int) - fsq a b d r ∧ ((s : Int) - fsq a b d r).natAbs ≤ 70000 := by
  obtain ⟨e, l⟩ := fvq_eq hr hm h
  exact ⟨by rw [s64 (by rw [lN_int (by omega), e]; omega) (by rw [lN_int (by omega), e]; omega), lN_int (by omega), e], by omega⟩
end
section
variable {m M s : Nat} {a b d : Nat → Int64}
theorem x5_restThat {T : SS} {post : Int32 → SS → Prop} (h : RUL T m) (hs : gA T 0 = a ∧ gA T 1 = b ∧ gA T 2 = d) (nz : ∀ r, r < m → ¬ a r = 0) (hs64 : s ≤ 64) (hq : fdF a b d m s m 0 < m) (hp : post (nI (fdF a b d m s m 0)) T) : V_X5_restThatComesTo 1 0 1 2 (lN s) T post := by
  have hm := h.2.1
  have hi1 := h.2.2.2.2.1
  have hf : rulF m a b d := by rw [← hs.1, ← hs.2.1, ← hs.2.2]; exact h.2.2.2.2.2.2.1
  have key : ∀ (j k : Nat), k + j = m → fdF a b d m s j k < m → post (nI (fdF a b d m s j k)) T → V_X5_restThatComesTo_2 1 0 1 2 (lN s) post (j + 1) (nI k) T := by
    intro j
    induction j with
    | zero => intro k hk hq _; exact absurd hq (by show ¬ k < m; omega)
    | succ j ih =>
      intro k hk hq hp
      have hkm : k < m := by omega
      have s1 := stq_pos hf hkm (nz k hkm)
      have s2 := (stq_eq hf hm hkm).2
      have dk := (hf k hkm).2.2.1.1
      obtain ⟨e1, e2⟩ := fv_sub hf hm hkm hs64
      rw [V_X5_restThatComesTo_2, hi1, brf (nI_ge hkm (by omega)), x5_first hi1 hkm hm (by rw [hs.2.2]; exact dk), hs.1, hs.2.1, hs.2.2]
      refine x5_stride h hkm ?_
      rw [hs.1, hs.2.2, mx1 s1 s2, ale]
      refine ⟨fun z => by have := (lN0 (by omega)).mp z; omega, ?_⟩
      have ed := lrm0 (x := lN s - fvq a b d k) (d := lN (stq a d m k)) (by rw [lN_int (by omega)]; omega)
      rw [e1, lN_int (by omega), Int.dvd_iff_emod_eq_zero] at ed
      refine ⟨fun c => ?_, fun c => ?_⟩
      · have e : fdF a b d m s (j + 1) k = k := if_pos (ed.mp c)
        rw [e] at hp
        exact hp
      · have e : fdF a b d m s (j + 1) k = fdF a b d m s j (k + 1) := if_neg (fun z => c (ed.mpr z))
        rw [e] at hp hq
        rw [ale, nadd1]
        exact ih (k + 1) (by omega) hq hp
  exact ⟨m + 1, key m 0 (by omega) hq hp⟩
theorem x5_w0 {k : Nat} {S : SS} {v : Int64} {post : SS → Prop} (h : gI S 3 = nI M) (hk : k < M) (hM : M ≤ 64) : V_X5_write 3 6 7 8 (nI k) 0 v S post = post (sA S 6 (vp_updL (gA S 6) k v)) := by
  unfold V_X5_write
  rw [x5_has h hk hM, brf (by decide), gdt (vp_in_nI (by omega) (by omega)), gdt (vp_in_nI (by omega) (by omega)), gdt (vp_in_nI (by omega) (by omega)), ale, ale, ale, nI_clamp (by omega), brt (c := (0 : Int32) = 0) rfl]
theorem x5_w1 {k : Nat} {S : SS} {v : Int64} {post : SS → Prop} (h : gI S 3 = nI M) (hk : k < M) (hM : M ≤ 64) : V_X5_write 3 6 7 8 (nI k) 1 v S post = post (sA S 7 (vp_updL (gA S 7) k v)) := by
  unfold V_X5_write
  rw [x5_has h hk hM, brf (by decide), gdt (vp_in_nI (by omega) (by omega)), gdt (vp_in_nI (by omega) (by omega)), gdt (vp_in_nI (by omega) (by omega)), ale, ale, ale, nI_clamp (by omega), brf (c := (1 : Int32) = 0) (by decide), brt (c := (1 : Int32) = 1) rfl]
theorem x5_w2 {k : Nat} {S : SS} {v : Int64} {post : SS → Prop} (h : gI S 3 = nI M) (hk : k < M) (hM : M ≤ 64) : V_X5_write 3 6 7 8 (nI k) 2 v S post = post (sA S 8 (vp_updL (gA S 8) k v)) := by
  unfold V_X5_write
  rw [x5_has h hk hM, brf (by decide), gdt (vp_in_nI (by omega) (by omega)), gdt (vp_in_nI (by omega) (by omega)), gdt (vp_in_nI (by omega) (by omega)), ale, ale, ale, nI_clamp (by omega), brf (c := (2 : Int32) = 0) (by decide), brf (c := (2 : Int32) = 1) (by decide)]
theorem tr_tail {T : SS} {y8 y11 y14 : Int64} {post : SS → Prop} (h3 : gI T 3 = nI M) (hs : s < M) (hM : M ≤ 64) (b8 : y8.toInt.natAbs ≤ 1000) (b11 : y11.toInt.natAbs ≤ 1000) (b14 : y14.toInt.natAbs ≤ 1000) (n8 : y8.toInt ≠ 0) (hp : ∀ U, Kp [] [] [] [6, 7, 8] T U → gA U 6 = vp_updL (gA T 6) s (y8 / lN (Nat.gcd (Nat.gcd y8.toInt.natAbs y11.toInt.natAbs) y14.toInt.natAbs)) → gA U 7 = vp_updL (gA T 7) s (y11 / lN (Nat.gcd (Nat.gcd y8.toInt.natAbs y11.toInt.natAbs) y14.toInt.natAbs)) → gA U 8 = vp_updL (gA T 8) s (y14 / lN (Nat.gcd (Nat.gcd y8.toInt.natAbs y11.toInt.natAbs) y14.toInt.natAbs)) → post U) : V_X7_commonDivisor y8 y11 T (fun r15 S16 => V_X7_commonDivisor r15 y14 S16 (fun r17 S18 => ¬ r17 = 0 ∧ V_X5_write 3 6 7 8 (nI s) 0 (y8 / r17) S18 (fun S20 => ¬ r17 = 0 ∧ V_X5_write 3 6 7 8 (nI s) 1 (y11 / r17) S20 (fun S22 => ¬ r17 = 0 ∧ V_X5_write 3 6 7 8 (nI s) 2 (y14 / r17) S22 (fun S24 => post S24))))) := by
  have p1 : 0 < Nat.gcd y8.toInt.natAbs y11.toInt.natAbs := Nat.gcd_pos_of_pos_left _ (by omega)
  have p2 : 0 < Nat.gcd (Nat.gcd y8.toInt.natAbs y11.toInt.natAbs) y14.toInt.natAbs := Nat.gcd_pos_of_pos_left _ p1
  have l1 : Nat.gcd y8.toInt.natAbs y11.toInt.natAbs ≤ y8.toInt.natAbs := Nat.le_of_dvd (by omega) (Nat.gcd_dvd_left _ _)
  have l2 : Nat.gcd (Nat.gcd y8.toInt.natAbs y11.toInt.natAbs) y14.toInt.natAbs ≤ Nat.gcd y8.toInt.natAbs y11.toInt.natAbs := Nat.le_of_dvd p1 (Nat.gcd_dvd_left _ _)
  have c1 : cdn y8.toInt.natAbs y11.toInt.natAbs = Nat.gcd y8.toInt.natAbs y11.toInt.natAbs := by unfold cdn; rw [if_neg (by omega)]
  refine x7_cd (by omega) (by omega) ?_
  rw [c1]
  refine x7_cd (by rw [lN_int (by omega)]; omega) (by omega) ?_
  have c2 : cdn (lN (Nat.gcd y8.toInt.natAbs y11.toInt.natAbs)).toInt.natAbs y14.toInt.natAbs = Nat.gcd (Nat.gcd y8.toInt.natAbs y11.toInt.natAbs) y14.toInt.natAbs := by
    rw [lN_int (by omega), Int.natAbs_natCast]
    unfold cdn
    rw [if_neg (by omega)]
  rw [c2]
  generalize Nat.gcd (Nat.gcd y8.toInt.natAbs y11.toInt.natAbs) y14.toInt.natAbs = γ at *
  have nz : ¬ lN γ = 0 := fun z => by have := (lN0 (by omega)).mp z; omega
  refine ⟨nz, ?_⟩
  rw [x5_w0 h3 hs hM]
  refine ⟨nz, ?_⟩
  rw [x5_w1 (S := sA T 6 (vp_updL (gA T 6) s (y8 / lN γ))) h3 hs hM]
  refine ⟨nz, ?_⟩
  rw [x5_w2 (S := sA (sA T 6 (vp_updL (gA T 6) s (y8 / lN γ))) 7 (vp_updL (gA (sA T 6 (vp_updL (gA T 6) s (y8 / lN γ))) 7) s (y11 / lN γ))) h3 hs hM]
  exact hp _ (kp_sA (kp_sA (kp_sA (kp_refl _ _ _ _ T) (by decide)) (by decide)) (by decide)) rfl rfl rfl
theorem qv_pos {X : Int64} {γ : Nat} (hX : X.toInt.natAbs ≤ 1000) (h1 : 1 ≤ γ) (h2 : γ ≤ 1000) (hd : (γ : Int) ∣ X.toInt) : (X / lN γ).toInt = X.toInt / (γ : Int) := dv_lN h1 (by omega) hd
theorem qv_neg {X : Int64} {γ : Nat} (hX : X.toInt.natAbs ≤ 1000) (h1 : 1 ≤ γ) (h2 : γ ≤ 1000) (hd : (γ : Int) ∣ X.toInt) : (X / -(lN γ)).toInt = -(X.toInt / (γ : Int)) := by
  have e : (-(lN γ)).toInt = -(γ : Int) := by rw [n64 (by rw [lN_int (by omega)]; omega), lN_int (by omega)]
  rw [dvG (by omega), e, Int.tdiv_neg, Int.tdiv_eq_ediv_of_dvd hd]
/-- what is written for rest s -/
def tuV (a b d : Nat → Int64) (m s : Nat) (x y z : Int64) : Prop := x.toInt = tuA a b d (fdF a b d m s m 0) ∧ y.toInt = tuB a b d (fdF a b d m s m 0) ∧ z.toInt = tuD a b d (fdF a b d m s m 0)
theorem x7_turnRest {T : SS} {post : SS → Prop} (h : RUL T m) (hs : gA T 0 = a ∧ gA T 1 = b ∧ gA T 2 = d) (nz : ∀ r, r < m → ¬ a r = 0) (h3 : gI T 3 = nI M) (hsM : s < M) (hM : M ≤ 64) (hq : fdF a b d m s m 0 < m) (hp : ∀ U, Kp [] [] [] [6, 7, 8] T U → tuV a b d m s (gA U 6 s) (gA U 7 s) (gA U 8 s) → (∀ t, t ≠ s → gA U 6 t = gA T 6 t ∧ gA U 7 t = gA T 7 t ∧ gA U 8 t = gA T 8 t) → post U) : V_X7_turnRest (nI s) T post := by
  have hm := h.2.1
  have hi1 := h.2.2.2.2.1
  have hf : rulF m a b d := by rw [← hs.1, ← hs.2.1, ← hs.2.2]; exact h.2.2.2.2.2.2.1
  unfold V_X7_turnRest
  rw [nI_i64 (by omega)]
  refine x5_restThat h hs nz (by omega) hq ?_
  have hp2 : ∀ U, Kp [] [] [] [6, 7, 8] T U → ∀ x y z : Int64, tuV a b d m s x y z → gA U 6 = vp_updL (gA T 6) s x → gA U 7 = vp_updL (gA T 7) s y → gA U 8 = vp_updL (gA T 8) s z → post U := fun U kU x y z hv e1 e2 e3 => by
    refine hp U kU ?_ (fun t ht => ?_)
    · rw [e1, e2, e3, updL_eq, updL_eq, updL_eq]; exact hv
    · rw [e1, e2, e3, updL_ne _ _ ht, updL_ne _ _ ht, updL_ne _ _ ht]; exact ⟨rfl, rfl, rfl⟩
  unfold tuV at hp2
  generalize fdF a b d m s m 0 = r at *
  obtain ⟨g1, g2, d1, d2, d3⟩ := gm_fine hf hq
  obtain ⟨la, lb, ld, ld1⟩ := rul_abs3 h hq
  have ea : gA T 0 r = a r := by rw [hs.1]
  have eb : gA T 1 r = b r := by rw [hs.2.1]
  have ed : gA T 2 r = d r := by rw [hs.2.2]
  rw [ea] at la
  rw [eb] at lb
  rw [ed] at ld ld1
  rw [x5_a hi1 hq hm, ea]
  refine ⟨fun c => ?_, fun c => ?_⟩
  · have c : 0 ≤ (a r).toInt := le64.mp c
    rw [x5_d hi1 hq hm (by rw [ed]; exact ld1), ed, ale, x5_b hi1 hq hm, eb, ale, x5_a hi1 hq hm, ea, ale]
    have v8 : ((1 : Int64) * d r).toInt = (d r).toInt := by rw [Int64.one_mul]
    have v11 : (-(1 : Int64) * b r).toInt = -(b r).toInt := by
      have := (mu64 (x := -(1 : Int64)) (A := 1) (by decide) lb (by omega)).1
      rw [this, show (-(1 : Int64)).toInt = -1 from by decide]; omega
    have v14 : ((1 : Int64) * a r).toInt = (a r).toInt := by rw [Int64.one_mul]
    have eg : Nat.gcd (Nat.gcd ((1 : Int64) * d r).toInt.natAbs (-(1 : Int64) * b r).toInt.natAbs) ((1 : Int64) * a r).toInt.natAbs = gmN a b d r := by
      rw [v8, v11, v14, Int.natAbs_neg]; rfl
    refine tr_tail h3 hsM hM (by rw [v8]; omega) (by rw [v11]; omega) (by rw [v14]; omega) (by rw [v8]; omega) (fun U kU e1 e2 e3 => hp2 U kU _ _ _ ⟨?_, ?_, ?_⟩ e1 e2 e3)
    · rw [eg, qv_pos (by rw [v8]; omega) g1 g2 (by rw [v8]; exact d1), v8]
      unfold tuA sgZ
      rw [if_pos c, Int.one_mul]
    · rw [eg, qv_pos (by rw [v11]; omega) g1 g2 (by rw [v11]; exact Int.dvd_neg.mpr d2), v11, Int.neg_ediv_of_dvd d2]
      unfold tuB sgZ
      rw [if_pos c, Int.one_mul]
    · rw [eg, qv_pos (by rw [v14]; omega) g1 g2 (by rw [v14]; exact d3), v14]
      unfold tuD sgZ
      rw [if_pos c, Int.one_mul]
  · have c : ¬ 0 ≤ (a r).toInt := fun z => c (le64.mpr z)
    rw [x5_d hi1 hq hm (by rw [ed]; exact ld1), ed, ale, x5_b hi1 hq hm, eb, ale, x5_a hi1 hq hm, ea, ale]
    have v8 : ((-1 : Int64) * d r).toInt = -(d r).toInt := by
      have := (mu64 (x := (-1 : Int64)) (A := 1) (by decide) ld (by omega)).1
      rw [this, show ((-1 : Int64)).toInt = -1 from by decide]; omega
    have v11 : (-(-1 : Int64) * b r).toInt = (b r).toInt := by
      have := (mu64 (x := -(-1 : Int64)) (A := 1) (by decide) lb (by omega)).1
      rw [this, show (-(-1 : Int64)).toInt = 1 from by decide]; omega
    have v14 : ((-1 : Int64) * a r).toInt = -(a r).toInt := by
      have := (mu64 (x := (-1 : Int64)) (A := 1) (by decide) la (by omega)).1
      rw [this, show ((-1 : Int64)).toInt = -1 from by decide]; omega
    have eg : Nat.gcd (Nat.gcd ((-1 : Int64) * d r).toInt.natAbs (-(-1 : Int64) * b r).toInt.natAbs) ((-1 : Int64) * a r).toInt.natAbs = gmN a b d r := by
      rw [v8, v11, v14, Int.natAbs_neg, Int.natAbs_neg]; rfl
    refine tr_tail h3 hsM hM (by rw [v8]; omega) (by rw [v11]; omega) (by rw [v14]; omega) (by rw [v8]; omega) (fun U kU e1 e2 e3 => hp2 U kU _ _ _ ⟨?_, ?_, ?_⟩ e1 e2 e3)
    · rw [eg, qv_pos (by rw [v8]; omega) g1 g2 (by rw [v8]; exact Int.dvd_neg.mpr d1), v8, Int.neg_ediv_of_dvd d1]
      unfold tuA sgZ
      rw [if_neg c, Int.neg_mul, Int.one_mul]
    · rw [eg, qv_pos (by rw [v11]; omega) g1 g2 (by rw [v11]; exact d2), v11]
      unfold tuB sgZ
      rw [if_neg c, Int.neg_mul, Int.one_mul, Int.neg_neg]
    · rw [eg, qv_pos (by rw [v14]; omega) g1 g2 (by rw [v14]; exact Int.dvd_neg.mpr d3), v14, Int.neg_ediv_of_dvd d3]
      unfold tuD sgZ
      rw [if_neg c, Int.neg_mul, Int.one_mul]
end
