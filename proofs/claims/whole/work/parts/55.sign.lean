/-! WORD: the sign of a number -/
def sgF (S : SS) (y : Int64) : Int32 := if gI S 0 = 1 then nI (rst y (gI S 1).toInt.toNat) else if ¬ (1 : Int64) ≤ y ∨ ffit (gA S 10) y (gI S 4).toInt.toNat 0 = (gI S 4).toInt.toNat then -1 else nI (ffit (gA S 10) y (gI S 4).toInt.toNat 0)
section
variable {S : SS} {y : Int64} {post : Int32 → SS → Prop}
theorem x7_sign (hK : RK S) (h0 : ¬ gI S 0 = 0) (hp : post (sgF S y) S) : V_X7_signOf y S post := by
  unfold V_X7_signOf
  unfold sgF at hp
  obtain ⟨-, q | ⟨q, m, hm2, hm, h1, -, hr, -⟩ | ⟨q, n, hn, h4, -, hf⟩⟩ := hK
  · exact absurd q h0
  · rw [if_pos q, h1, nI_nat (by omega)] at hp
    rw [brt q, x5_restOf h1 (by omega) hm]
    exact hp
  · have n1 : ¬ gI S 0 = 1 := by rw [q]; decide
    rw [if_neg n1, h4, nI_nat (by omega)] at hp
    rw [brf n1]
    unfold V_X0_firstFit
    refine ⟨fun c1 => ⟨n + 1, x0_ff10 h4 hn (fun i hi => (hf i hi).2.2.2.1) n 0 (by omega) ?_⟩, fun c1 => ?_⟩
    · by_cases c : ffit (gA S 10) y n 0 = n
      · rw [if_pos (Or.inr c)] at hp
        rw [if_pos c]; exact hp
      · rw [if_neg (fun z => z.elim (fun w => w c1) c)] at hp
        rw [if_neg c]; exact hp
    · rw [if_pos (Or.inl c1)] at hp
      exact hp
theorem x8_way (hK : RK S) (h0 : ¬ gI S 0 = 0) (hp : post (sgF S y) S) : V_X8_way y S post := by
  unfold V_X8_way
  unfold sgF at hp
  obtain ⟨h25, q | ⟨q, m, hm2, hm, h1, h26, hr, -⟩ | ⟨q, n, hn, h4, h27, hf⟩⟩ := hK
  · exact absurd q h0
  · rw [if_pos q, h1, nI_nat (by omega)] at hp
    rw [brt (h25.trans q)]
    unfold V_X8_restBy
    rw [h26, J9 (by rw [i64_toInt, nI_toInt (by omega)]; omega)]
    show post (fmd y (nI m).toInt64).toInt32 S
    rw [fmd_rst (by omega) hm]
    exact hp
  · have n1 : ¬ gI S 0 = 1 := by rw [q]; decide
    rw [if_neg n1, h4, nI_nat (by omega)] at hp
    rw [brf (fun z => n1 (h25.symm.trans z))]
    by_cases c1 : (1 : Int64) ≤ y
    · refine ⟨n + 1, x8_way20 h27 c1 hn (fun i hi => by rw [(hf i hi).2.1]; exact (hf i hi).2.2.2.1) (gA S 10) (fun i hi => (hf i hi).2.1) n 0 (by omega) ?_⟩
      by_cases c : ffit (gA S 10) y n 0 = n
      · rw [if_pos (Or.inr c)] at hp
        rw [if_pos c]; exact hp
      · rw [if_neg (fun z => z.elim (fun w => w c1) c)] at hp
        rw [if_neg c]; exact hp
    · rw [if_pos (Or.inl c1)] at hp
      refine ⟨1, ?_⟩
      rw [V_X8_way_20]
      exact ⟨fun _ => hp, fun _ => ⟨fun _ => hp, fun z => absurd (Int64.not_lt.mp z) c1⟩⟩
/-- what has a sign steps to a number or beyond -/
theorem aft_sign (hK : RK S) (h0 : ¬ gI S 0 = 0) (hs : 0 ≤ sgF S y) : aft S y = 3000000000000000 ∨ isN (aft S y) := by
  rcases aft_cases (x := y) hK h0 with e | e | e
  · exfalso
    unfold aft at e
    unfold sgF at hs
    obtain ⟨-, q | ⟨q, m, hm2, hm, h1, -, hr, -⟩ | ⟨q, n, hn, h4, -, hf⟩⟩ := hK
    · exact h0 q
    · rw [if_pos q] at e
      by_cases c : isN (stp (gA S 0) (gA S 1) (gA S 2) y (rst y (gI S 1).toInt.toNat))
      · rw [aftR_in c] at e
        rw [e] at c
        exact notN_end c
      · rw [aftR_out c] at e
        exact absurd e (by decide)
    · have n1 : ¬ gI S 0 = 1 := by rw [q]; decide
      rw [if_neg n1, h4, nI_nat (by omega)] at e hs
      unfold aftL at e
      by_cases c : ¬ (1 : Int64) ≤ y ∨ ffit (gA S 10) y n 0 = n
      · rw [if_pos c] at hs
        exact absurd hs (by decide)
      · rw [if_neg c] at e
        have c1 : (1 : Int64) ≤ y := Classical.byContradiction (fun z => c (Or.inl z))
        have hx1 : 1 ≤ y.toInt := le64.mp c1
        have hlt : ffit (gA S 10) y n 0 < n := by
          have := ffit_le (gA S 10) y n 0
          have := fun z => c (Or.inr z)
          omega
        obtain ⟨-, -, ⟨hp1, -⟩, ⟨hq1, -⟩⟩ := hf _ hlt
        by_cases c2 : y / gA S 10 (ffit (gA S 10) y n 0) ≤ (1000000000000000 : Int64) / gA S 9 (ffit (gA S 10) y n 0)
        · rw [if_pos c2] at e
          have hN := isN_prod (y := y / gA S 10 (ffit (gA S 10) y n 0)) (by rw [(dvp hx1 hq1).1]; exact (dvp hx1 hq1).2.1) hp1 c2
          rw [e] at hN
          exact notN_end hN
        · rw [if_neg c2] at e
          exact absurd e (by decide)
  · exact Or.inl e
  · exact Or.inr e
end
