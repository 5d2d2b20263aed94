/-! COMMON DIVISORS -/
theorem lN0 {x : Nat} (h : x < 9223372036854775808) : lN x = (0 : Int64) ↔ x = 0 := by
  rw [eq64, lN_int h, show (0 : Int64).toInt = 0 from rfl]; omega
theorem lrm_lN {x y : Nat} (hx : x < 9223372036854775808) (hy : y < 9223372036854775808) (h0 : y ≠ 0) : lrm (lN x) (lN y) = lN (x % y) := by
  have hm := Nat.mod_le x y
  refine of64 ?_ (by omega)
  rw [lrm_toInt (by rw [lN_int hy]; omega) (by rw [lN_int hy]; omega), lN_int hx, lN_int hy]
  exact (Int.ofNat_tmod x y).symm
theorem abL_of {p : Int64} (h : -9223372036854775808 < p.toInt) : abL p = lN p.toInt.natAbs := by
  have h2 := Int64.toInt_lt p
  unfold abL
  by_cases h1 : (0 : Int64) < p
  · have h3 := lt64.mp h1
    rw [show (0 : Int64).toInt = 0 from rfl] at h3
    rw [if_pos h1]
    exact of64 (by omega) (by omega)
  · have h3 : ¬ (0 : Int64).toInt < p.toInt := fun q => h1 (lt64.mpr q)
    rw [show (0 : Int64).toInt = 0 from rfl] at h3
    rw [if_neg h1]
    exact of64 (by rw [n64 (by omega)]; omega) (by omega)
theorem gcd_step (x y : Nat) : Nat.gcd y (x % y) = Nat.gcd x y := by
  rw [Nat.gcd_comm x y, Nat.gcd_rec y x, Nat.gcd_comm]
def cdn (x y : Nat) : Nat := if Nat.gcd x y = 0 then 1 else Nat.gcd x y
theorem cdn_step (x y : Nat) : cdn y (x % y) = cdn x y := by unfold cdn; rw [gcd_step]
section
variable {S : SS} {post : Int64 → SS → Prop}
theorem cd_fin {x : Nat} (hx : x < 9223372036854775808) (hp : post (lN (cdn x 0)) S) : (lN x = (0 : Int64) → post (1 : Int64) S) ∧ (¬ lN x = (0 : Int64) → post (lN x) S) := by
  unfold cdn at hp
  rw [Nat.gcd_zero_right] at hp
  constructor
  · intro h
    rw [if_pos ((lN0 hx).mp h)] at hp
    exact hp
  · intro h
    rw [if_neg (fun q => h ((lN0 hx).mpr q))] at hp
    exact hp
theorem cd15 : ∀ (b j x y k : Nat), x < 9223372036854775808 → y < 9223372036854775808 → y < 2 ^ b → k + 2 * b ≤ 999 → 2 * b + 1 ≤ j → post (lN (cdn x y)) S → V_X7_commonDivisor_15 post j (lN x) (lN y) (nI k) S := by
  intro b
  induction b with
  | zero =>
    intro j x y k hx _ hy hk hj hp
    obtain ⟨j, rfl⟩ : ∃ j', j = j' + 1 := ⟨j - 1, by omega⟩
    have hy : y = 0 := by omega
    subst hy
    rw [V_X7_commonDivisor_15, brf (c := (1000 : Int32) ≤ nI _) (nI_ge (b := 1000) (by omega) (by omega)), brt ((lN0 (by omega)).mpr rfl)]
    exact cd_fin hx hp
  | succ b ih =>
    intro j x y k hx hy hyb hk hj hp
    obtain ⟨j, rfl⟩ : ∃ j', j = j' + 1 := ⟨j - 1, by omega⟩
    rw [V_X7_commonDivisor_15, brf (c := (1000 : Int32) ≤ nI _) (nI_ge (b := 1000) (by omega) (by omega))]
    by_cases h0 : y = 0
    · subst h0
      rw [brt ((lN0 (by omega)).mpr rfl)]
      exact cd_fin hx hp
    · rw [brf (fun q => h0 ((lN0 hy).mp q)), gdt (fun q => h0 ((lN0 hy).mp q)), ale, ale, lrm_lN hx hy h0, ← nI_succ]
      have hr := Nat.mod_lt x (Nat.pos_of_ne_zero h0)
      rw [← cdn_step] at hp
      obtain ⟨j, rfl⟩ : ∃ j', j = j' + 1 := ⟨j - 1, by omega⟩
      rw [V_X7_commonDivisor_15, brf (c := (1000 : Int32) ≤ nI _) (nI_ge (b := 1000) (by omega) (by omega))]
      by_cases h1 : x % y = 0
      · rw [h1] at hp ⊢
        rw [brt ((lN0 (by omega)).mpr rfl)]
        exact cd_fin hy hp
      · rw [brf (fun q => h1 ((lN0 (by omega)).mp q)), gdt (fun q => h1 ((lN0 (by omega)).mp q)), ale, ale, lrm_lN hy (by omega) h1, ← nI_succ]
        rw [← cdn_step] at hp
        have h2 := Nat.mod_lt y (Nat.pos_of_ne_zero h1)
        have h3 := Nat.div_add_mod y (x % y)
        have h4 : 1 ≤ y / (x % y) := (Nat.one_le_div_iff (Nat.pos_of_ne_zero h1)).mpr (by omega)
        have h5 : x % y * 1 ≤ x % y * (y / (x % y)) := Nat.mul_le_mul_left _ h4
        rw [Nat.pow_succ] at hyb
        exact ih _ _ _ _ (by omega) (by omega) (by omega) (by omega) (by omega) hp
theorem x7_cd {p q : Int64} (h1 : -9223372036854775808 < p.toInt) (h2 : -9223372036854775808 < q.toInt) (hp : post (lN (cdn p.toInt.natAbs q.toInt.natAbs)) S) : V_X7_commonDivisor p q S post := by
  have a1 := Int64.toInt_lt p
  have a2 := Int64.toInt_lt q
  unfold V_X7_commonDivisor
  rw [ale, ale, abL_of h1, abL_of h2]
  exact ⟨127, cd15 63 127 _ _ 0 (by omega) (by omega) (by rw [show (2 : Nat) ^ 63 = 9223372036854775808 from rfl]; omega) (by omega) (by omega) hp⟩
theorem co28 : ∀ (j x y : Nat), x < 9223372036854775808 → y < 9223372036854775808 → y < j → post (lN (Nat.gcd x y)) S → V_X8_common_28 post j (lN x) (lN y) S := by
  intro j
  induction j with
  | zero => intro x y _ _ h _; omega
  | succ j ih =>
    intro x y hx hy hj hp
    rw [V_X8_common_28]
    by_cases h0 : y = 0
    · subst h0
      rw [brt ((lN0 (by omega)).mpr rfl)]
      rw [Nat.gcd_zero_right] at hp
      exact hp
    · rw [brf (fun q => h0 ((lN0 hy).mp q)), gdt (fun q => h0 ((lN0 hy).mp q)), ale, lrm_lN hx hy h0]
      have hr := Nat.mod_lt x (Nat.pos_of_ne_zero h0)
      rw [← gcd_step] at hp
      exact ih _ _ hy (by omega) (by omega) hp
theorem x8_co {p q : Int64} (h1 : -9223372036854775808 < p.toInt) (h2 : -9223372036854775808 < q.toInt) (hp : post (lN (Nat.gcd p.toInt.natAbs q.toInt.natAbs)) S) : V_X8_common p q S post := by
  have a1 := Int64.toInt_lt p
  have a2 := Int64.toInt_lt q
  have pos : ∀ z : Int64, (0 : Int64) ≤ z → z = lN z.toInt.natAbs := fun z h => by
    have h := le64.mp h
    rw [show (0 : Int64).toInt = 0 from rfl] at h
    have := Int64.toInt_lt z
    exact of64 (by omega) (by omega)
  have neg : ∀ z : Int64, -9223372036854775808 < z.toInt → ¬ (0 : Int64) ≤ z → -z = lN z.toInt.natAbs := fun z h0 h => by
    have h : ¬ (0 : Int64).toInt ≤ z.toInt := fun q => h (le64.mpr q)
    rw [show (0 : Int64).toInt = 0 from rfl] at h
    exact of64 (by rw [n64 (by omega)]; omega) (by omega)
  have key : ∀ u v : Int64, u = lN p.toInt.natAbs → v = lN q.toInt.natAbs → ∃ n28 : Nat, V_X8_common_28 post n28 u v S := fun u v hu hv => by
    rw [hu, hv]
    exact ⟨_, co28 (q.toInt.natAbs + 1) _ _ (by omega) (by omega) (by omega) hp⟩
  unfold V_X8_common
  refine ⟨fun c1 => ⟨fun c2 => key _ _ (pos p c1) (pos q c2), fun c2 => ?_⟩, fun c1 => ?_⟩
  · rw [ale]; exact key _ _ (pos p c1) (neg q h2 c2)
  · rw [ale]
    refine ⟨fun c2 => key _ _ (neg p h1 c1) (pos q c2), fun c2 => ?_⟩
    rw [ale]; exact key _ _ (neg p h1 c1) (neg q h2 c2)
end
