/-! AFTER, GOES -/
theorem num_of {x : Int64} (h : isN x) : -1000000000000000 ≤ x.toInt ∧ x.toInt ≤ 1000000000000000 := h
theorem aftR_in {m : Nat} {a b d : Nat → Int64} {x : Int64} (h : isN (stp a b d x (rst x m))) : aftR m a b d x = stp a b d x (rst x m) := if_pos h
theorem aftR_out {m : Nat} {a b d : Nat → Int64} {x : Int64} (h : ¬ isN (stp a b d x (rst x m))) : aftR m a b d x = 3000000000000000 := if_neg h
/-- whole part by a positive number -/
theorem dvp {x q : Int64} (hx : 1 ≤ x.toInt) (hq : 1 ≤ q.toInt) : (x / q).toInt = x.toInt / q.toInt ∧ 0 ≤ x.toInt / q.toInt ∧ x.toInt / q.toInt ≤ x.toInt := by
  have e : (x / q).toInt = x.toInt / q.toInt := by rw [d64 (by omega), Int.tdiv_eq_ediv_of_nonneg (by omega)]
  exact ⟨e, Int.ediv_nonneg (by omega) (by omega), Int.ediv_le_self _ (by omega)⟩
theorem isN_prod {y p : Int64} (hy : 0 ≤ y.toInt) (hp : 1 ≤ p.toInt) (hle : y ≤ (1000000000000000 : Int64) / p) : isN (y * p) := by
  have e := (dvp (x := 1000000000000000) (q := p) (by decide) hp).1
  have l := le64.mp hle
  rw [e, show (1000000000000000 : Int64).toInt = 1000000000000000 from rfl] at l
  have l2 : y.toInt * p.toInt ≤ 1000000000000000 / p.toInt * p.toInt := Int.mul_le_mul_of_nonneg_right l (by omega)
  have l3 := Int.ediv_mul_le 1000000000000000 (show p.toInt ≠ 0 by omega)
  have l4 : 0 ≤ y.toInt * p.toInt := Int.mul_nonneg hy (by omega)
  unfold isN
  rw [m64 (by omega) (by omega)]
  omega
section
variable {S : SS} {x : Int64}
theorem x7_after {post : Int64 → SS → Prop} (hK : RK S) (h0 : ¬ gI S 0 = 0) (hp : post (aft S x) S) : V_X7_after x S post := by
  unfold V_X7_after
  unfold aft at hp
  obtain ⟨-, q | ⟨q, m, hm2, hm, h1, -, hr, -⟩ | ⟨q, n, hn, h4, -, hf⟩⟩ := hK
  · exact absurd q h0
  · rw [if_pos q] at hp
    rw [brt q, x5_after (m := m) ⟨h1, hm2, hm, hr⟩]
    rw [h1, nI_nat (by omega)] at hp
    refine ⟨fun c => ?_, fun c => ?_⟩
    · rw [aftR_in c] at hp; exact hp
    · rw [aftR_out c] at hp; exact hp
  · have n1 : ¬ gI S 0 = 1 := by rw [q]; decide
    rw [if_neg n1, h4, nI_nat (by omega)] at hp
    rw [brf n1]
    unfold aftL at hp
    unfold V_X0_after V_X0_firstFit
    refine ⟨fun c1 => ⟨n + 1, x0_ff10 h4 hn (fun i hi => (hf i hi).2.2.2.1) n 0 (by omega) ?_⟩, fun c1 => ?_⟩
    · by_cases c : ffit (gA S 10) x n 0 = n
      · rw [if_pos (Or.inr c)] at hp
        rw [if_pos c]
        exact ⟨fun z => absurd z (by decide), fun _ => hp⟩
      · rw [if_neg (fun z => z.elim (fun w => w c1) c)] at hp
        rw [if_neg c]
        have hlt : ffit (gA S 10) x n 0 < n := by have := ffit_le (gA S 10) x n 0; omega
        obtain ⟨-, -, ⟨hp1, -⟩, ⟨hq1, -⟩⟩ := hf _ hlt
        refine ⟨fun _ => ?_, fun z => absurd (nI_pos' (by omega)) z⟩
        rw [x0_under h4 hlt hn hq1, gdt (nz_of hq1), ale, x0_over h4 hlt hn hp1, gdt (nz_of hp1)]
        refine ⟨fun c2 => ?_, fun c2 => ?_⟩
        · rw [if_pos c2] at hp
          rw [x0_over h4 hlt hn hp1]
          exact hp
        · rw [if_neg c2] at hp
          exact hp
    · rw [if_pos (Or.inl c1)] at hp
      exact ⟨fun z => absurd z (by decide), fun _ => hp⟩
theorem x8_isNum {v : Int64} {T : SS} {post : Int32 → SS → Prop} (h1 : isN v → post 1 T) (h0 : ¬ isN v → post 0 T) : V_X8_isNumber v T post := by
  by_cases c : -1000000000000000 ≤ v.toInt ∧ v.toInt ≤ 1000000000000000
  · rw [x8_isN c]; exact h1 c
  · rw [x8_notN c]; exact h0 c
theorem x8_goes {post : Int32 → SS → Prop} (hK : RK S) (h0 : ¬ gI S 0 = 0) (he : aft S x = 2000000000000000 → post 1 S) (hb : aft S x = 3000000000000000 → ∀ z, post 2 (sJ S 0 z)) (hn : isN (aft S x) → post 0 (sJ S 0 (aft S x))) : V_X8_goes x S post := by
  unfold V_X8_goes V_X8_way
  unfold aft at he hb hn
  obtain ⟨h25, q | ⟨q, m, hm2, hm, h1, h26, hr, heq⟩ | ⟨q, n, hn4, h4, h27, hf⟩⟩ := hK
  · exact absurd q h0
  · have g25 : gI S 25 = 1 := h25.trans q
    rw [if_pos q, h1, nI_nat (by omega)] at he hb hn
    have hk := rest_lt x (show 1 ≤ m by omega)
    obtain ⟨e1, e2, e3⟩ := heq _ hk
    obtain ⟨-, -, ⟨hd, -⟩, -, -⟩ := hr _ hk
    rw [brt g25]
    unfold V_X8_restBy
    rw [h26, J9 (by rw [i64_toInt, nI_toInt (by omega)]; omega)]
    have hk64 : rst x m < 64 := by show (x.toInt % (m : Int)).toNat < 64; omega
    show (0 ≤ (fmd x (nI m).toInt64).toInt32 → _) ∧ _
    rw [fmd_rst (by omega) hm]
    refine ⟨fun _ => ?_, fun z => absurd (nI_pos' (by omega)) z⟩
    rw [brf (c := gI S 25 = 2) (by rw [g25]; decide), nmul3 (by omega), nadd1, nadd2, gdt (vp_in_nI (by omega) (by omega)), gdt (vp_in_nI (by omega) (by omega)), gdt (vp_in_nI (by omega) (by omega)), nI_clamp (by omega), nI_clamp (by omega), nI_clamp (by omega), e1, e2, e3, gdt (nz_of hd), ale, gJ_sJ]
    refine x8_isNum (fun c => ⟨fun z => absurd z (by decide), fun _ => ?_⟩) (fun c => ⟨fun _ => ?_, fun z => absurd rfl z⟩)
    · rw [aftR_in c] at hn
      exact hn c
    · rw [aftR_out c] at hb
      exact hb rfl _
  · have g25 : gI S 25 = 2 := h25.trans q
    have n1 : ¬ gI S 0 = 1 := by rw [q]; decide
    rw [if_neg n1, h4, nI_nat (by omega)] at he hb hn
    rw [brf (c := gI S 25 = 1) (by rw [g25]; decide)]
    unfold aftL at he hb hn
    by_cases c1 : (1 : Int64) ≤ x
    · refine ⟨n + 1, x8_way20 h27 c1 hn4 (fun i hi => by rw [(hf i hi).2.1]; exact (hf i hi).2.2.2.1) (gA S 10) (fun i hi => (hf i hi).2.1) n 0 (by omega) ?_⟩
      by_cases c : ffit (gA S 10) x n 0 = n
      · rw [if_pos (Or.inr c)] at he
        rw [if_pos c]
        exact ⟨fun z => absurd z (by decide), fun _ => he rfl⟩
      · rw [if_neg (fun z => z.elim (fun w => w c1) c)] at hb hn
        rw [if_neg c]
        have hlt : ffit (gA S 10) x n 0 < n := by have := ffit_le (gA S 10) x n 0; omega
        obtain ⟨e1, e2, ⟨hp1, -⟩, ⟨hq1, -⟩⟩ := hf _ hlt
        have hx1 : 1 ≤ x.toInt := le64.mp c1
        refine ⟨fun _ => ?_, fun z => absurd (nI_pos' (by omega)) z⟩
        rw [brt g25, nI_clamp (by omega), e1, e2, gdt (vp_in_nI (by omega) (by omega)), gdt (nz_of hq1), ale, gdt (vp_in_nI (by omega) (by omega)), gdt (nz_of hp1)]
        refine ⟨fun c2 => ?_, fun c2 => ?_⟩
        · rw [if_pos c2] at hn
          rw [gdt (vp_in_nI (by omega) (by omega)), ale, gJ_sJ]
          have hN := isN_prod (y := x / gA S 10 (ffit (gA S 10) x n 0)) (by rw [(dvp hx1 hq1).1]; exact (dvp hx1 hq1).2.1) hp1 c2
          exact x8_isNum (fun c => ⟨fun z => absurd z (by decide), fun _ => hn hN⟩) (fun c => absurd hN c)
        · rw [if_neg c2] at hb
          rw [ale, gJ_sJ]
          exact x8_isNum (fun c => absurd c.2 (by decide)) (fun c => ⟨fun _ => hb rfl _, fun z => absurd rfl z⟩)
    · rw [if_pos (Or.inl c1)] at he
      refine ⟨1, ?_⟩
      rw [V_X8_way_20]
      refine ⟨fun _ => ⟨fun z => absurd z (by decide), fun _ => he rfl⟩, fun _ => ⟨fun _ => ⟨fun z => absurd z (by decide), fun _ => he rfl⟩, fun z => absurd (Int64.not_lt.mp z) c1⟩⟩
theorem aft_cases (hK : RK S) (h0 : ¬ gI S 0 = 0) : aft S x = 2000000000000000 ∨ aft S x = 3000000000000000 ∨ isN (aft S x) := by
  unfold aft
  obtain ⟨-, q | ⟨q, m, hm2, hm, h1, -, hr, -⟩ | ⟨q, n, hn, h4, -, hf⟩⟩ := hK
  · exact absurd q h0
  · rw [if_pos q]
    unfold aftR
    by_cases c : -1000000000000000 ≤ (stp (gA S 0) (gA S 1) (gA S 2) x (rst x (gI S 1).toInt.toNat)).toInt ∧ (stp (gA S 0) (gA S 1) (gA S 2) x (rst x (gI S 1).toInt.toNat)).toInt ≤ 1000000000000000
    · rw [if_pos c]; exact Or.inr (Or.inr c)
    · rw [if_neg c]; exact Or.inr (Or.inl rfl)
  · have n1 : ¬ gI S 0 = 1 := by rw [q]; decide
    rw [if_neg n1, h4, nI_nat (by omega)]
    unfold aftL
    by_cases c : ¬ (1 : Int64) ≤ x ∨ ffit (gA S 10) x n 0 = n
    · rw [if_pos c]; exact Or.inl rfl
    · rw [if_neg c]
      have c1 : (1 : Int64) ≤ x := Classical.byContradiction (fun z => c (Or.inl z))
      have hx1 : 1 ≤ x.toInt := le64.mp c1
      have hlt : ffit (gA S 10) x n 0 < n := by
        have := ffit_le (gA S 10) x n 0
        have := fun z => c (Or.inr z)
        omega
      obtain ⟨e1, e2, ⟨hp1, -⟩, ⟨hq1, -⟩⟩ := hf _ hlt
      by_cases c2 : x / gA S 10 (ffit (gA S 10) x n 0) ≤ (1000000000000000 : Int64) / gA S 9 (ffit (gA S 10) x n 0)
      · rw [if_pos c2]
        exact Or.inr (Or.inr (isN_prod (by rw [(dvp hx1 hq1).1]; exact (dvp hx1 hq1).2.1) hp1 c2))
      · rw [if_neg c2]; exact Or.inr (Or.inl rfl)
end
