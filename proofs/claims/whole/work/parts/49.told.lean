/-! TOLD -/
theorem x5_hasN {mi ai bi di m : Nat} {p : Int32} {S : SS} {post : Int32 → SS → Prop} (h : gI S mi = nI m) (hm : m ≤ 64) (hp : ¬ (0 ≤ p.toInt ∧ p.toInt < m)) : V_X5_has mi ai bi di p S post = post 0 S := by
  unfold V_X5_has
  by_cases c1 : p < 0
  · rw [brt c1]
  · rw [brf c1, h, brt]
    have c1 : ¬ p.toInt < 0 := fun q => c1 (lt32.mpr q)
    exact le32.mpr (by rw [nI_toInt (by omega)]; omega)
theorem x0_hasN {n : Nat} {p : Int32} {S : SS} {post : Int32 → SS → Prop} (h : gI S 4 = nI n) (hn : n ≤ 40) (hp : ¬ (0 ≤ p.toInt ∧ p.toInt < n)) : V_X0_has p S post = post 0 S := by
  unfold V_X0_has
  by_cases c1 : p < 0
  · rw [brt c1]
  · rw [brf c1, h, brt]
    have c1 : ¬ p.toInt < 0 := fun q => c1 (lt32.mpr q)
    exact le32.mpr (by rw [nI_toInt (by omega)]; omega)
/-- the reference's test for a place -/
theorem in_place {n : Nat} {p : Int32} {S : SS} {post : Int32 → SS → Prop} (hn : n < 2147483648) (h1 : 0 ≤ p.toInt ∧ p.toInt < n → post 1 S) (h0 : ¬ (0 ≤ p.toInt ∧ p.toInt < n) → post 0 S) : V_X8_in p.toInt64 (0 : Int64) ((nI n) - (1 : Int32)).toInt64 S post := by
  have e : ((nI n) - (1 : Int32)).toInt64.toInt = (n : Int) - 1 := by
    rw [i64_toInt, s32 (by rw [nI_toInt hn, show (1 : Int32).toInt = 1 from rfl]; omega) (by rw [nI_toInt hn, show (1 : Int32).toInt = 1 from rfl]; omega), nI_toInt hn]; rfl
  refine in_of (fun q => h1 ?_) (fun q => h0 (fun z => q ?_))
  · rw [i64_toInt, e, show (0 : Int64).toInt = 0 from rfl] at q; omega
  · rw [i64_toInt, e, show (0 : Int64).toInt = 0 from rfl]; omega
theorem in32 {p a b : Int32} {A B : Int64} {S : SS} {post : Int32 → SS → Prop} (ha : A.toInt = a.toInt) (hb : B.toInt = b.toInt) (h1 : a.toInt ≤ p.toInt ∧ p.toInt ≤ b.toInt → post 1 S) (h0 : ¬ (a.toInt ≤ p.toInt ∧ p.toInt ≤ b.toInt) → post 0 S) : V_X8_in p.toInt64 A B S post :=
  in_of (by rw [i64_toInt, ha, hb]; exact h1) (by rw [i64_toInt, ha, hb]; exact h0)
theorem p_told {p0 p1 : Int32} {S : SS} (h : RR S) : V_L_told p0 p1 S (fun r1 S2 => V_X8_told p0 p1 S2 (endT r1)) := by
  have h25 : gI S 25 = gI S 0 := h.2.1.1
  have thr : ∀ T : SS, RR T → endT 1 0 (sI (sI T 20 0) 20 1) := fun T hT => thp rfl (fun z => absurd z (by decide)) hT
  unfold V_L_told V_X7_told
  rcases h.2.1.2 with q | ⟨q, m, hm2, hm, h1, h26, -, hr⟩ | ⟨q, n, hn, h4, h27, hf⟩
  · have n1 : ¬ gI S 0 = 1 := by rw [q]; decide
    have n2 : ¬ gI S 0 = 2 := by rw [q]; decide
    rw [brf n1, brf n2]
    refine ⟨rfl, ?_⟩
    show V_X8_told _ _ _ _
    unfold V_X8_told
    rw [ale]
    refine ⟨fun e => absurd (h25.symm.trans e) n1, fun _ => ⟨fun e => absurd (h25.symm.trans e) n2, fun _ => ?_⟩⟩
    rw [x8_refuse]
    exact thr S h
  · have n2 : ¬ gI S 0 = 2 := by rw [q]; decide
    have n25 : ∀ T : SS, gI T 25 = gI S 25 → ¬ gI T 25 = 2 := fun T e z => n2 (h25.symm.trans (e.symm.trans z))
    have ref0 : ¬ ((0 ≤ p0.toInt ∧ p0.toInt < m) ∧ (0 ≤ p1.toInt ∧ p1.toInt ≤ 2)) → V_X8_told p0 p1 S (endT 1) := fun c => by
      unfold V_X8_told
      rw [ale]
      refine ⟨fun _ => ?_, fun e => absurd (h25.trans q) e⟩
      rw [show gI (sI S 20 0) 26 = nI m from h26]
      refine in_place (by omega) (fun c0 => ⟨fun z => absurd z (by decide), fun _ => ?_⟩) (fun c0 => ⟨fun _ => ⟨fun e => absurd e (n25 _ rfl), fun _ => ?_⟩, fun z => absurd rfl z⟩)
      · refine in32 (a := 0) (b := 2) rfl rfl (fun c1 => absurd ⟨c0, c1⟩ c) (fun c1 => ⟨fun _ => ⟨fun e => absurd e (n25 _ rfl), fun _ => ?_⟩, fun z => absurd rfl z⟩)
        rw [x8_refuse]
        exact thr S h
      · rw [x8_refuse]
        exact thr S h
    rw [brt q]
    by_cases c0 : 0 ≤ p0.toInt ∧ p0.toInt < m
    · obtain ⟨k, rfl, -, hk0⟩ := nat32 (p := p0) 0 (m - 1) c0.1 (by omega) (by omega)
      have hkm : k < m := by omega
      rw [x5_has h1 hkm hm]
      refine ⟨fun z => absurd z (by decide), fun _ => ⟨fun c1 => ⟨fun e => absurd e n2, fun _ => ⟨rfl, ref0 (fun z => ?_)⟩⟩, fun c1 => ⟨fun c2 => ⟨fun e => absurd e n2, fun _ => ⟨rfl, ref0 (fun z => ?_)⟩⟩, fun c2 => ?_⟩⟩⟩
      · have d : p1.toInt < 0 := lt32.mp c1
        exact absurd z.2.1 (by omega)
      · have d : 2 < p1.toInt := lt32.mp c2
        exact absurd z.2.2 (by omega)
      · have d1 : ¬ p1.toInt < 0 := fun z => c1 (lt32.mpr z)
        have d2 : ¬ (2 : Int) < p1.toInt := fun z => c2 (lt32.mpr z)
        obtain ⟨w, rfl, -, hw⟩ := nat32 (p := p1) 0 2 (by omega) (by omega) (by omega)
        obtain ⟨e0, e1, e2⟩ := hr k hkm
        have val : ∀ v : Int64, v = gA S 32 (3 * k + w) → V_X8_told (nI k) (nI w) (sA S 41 (vp_updL (gA S 41) (0 : Int32).toNatClampNeg v)) (endT 0) := fun v hv => by
          unfold V_X8_told
          rw [ale]
          refine ⟨fun _ => ?_, fun e => absurd (h25.trans q) e⟩
          rw [show gI (sI (sA S 41 (vp_updL (gA S 41) (0 : Int32).toNatClampNeg v)) 20 0) 26 = nI m from h26]
          refine in_place (by omega) (fun _ => ⟨fun z => absurd z (by decide), fun _ => ?_⟩) (fun z => absurd c0 z)
          refine in32 (a := 0) (b := 2) rfl rfl (fun _ => ⟨fun z => absurd z (by decide), fun _ => ?_⟩) (fun z => absurd (by rw [nI_toInt (by omega)]; show (0 : Int) ≤ w ∧ (w : Int) ≤ 2; omega) z)
          rw [nmul3 (by omega), nadd (by omega), gdt (vp_in_nI (by omega) (by omega)), nI_clamp (by omega)]
          exact thp rfl (fun _ => hv) h
        rcases (show w = 0 ∨ w = 1 ∨ w = 2 by omega) with rfl | rfl | rfl
        · show V_X5_read 1 0 1 2 (nI k) (0 : Int32) S _
          rw [x5_read0 h1 hkm hm]
          refine ⟨by unfold vp_in; decide, ?_⟩
          rw [ale]
          exact val _ e0.symm
        · show V_X5_read 1 0 1 2 (nI k) (1 : Int32) S _
          rw [x5_read1 h1 hkm hm]
          refine ⟨by unfold vp_in; decide, ?_⟩
          rw [ale]
          exact val _ e1.symm
        · show V_X5_read 1 0 1 2 (nI k) (2 : Int32) S _
          rw [x5_read2 h1 hkm hm]
          refine ⟨by unfold vp_in; decide, ?_⟩
          rw [ale]
          exact val _ e2.symm
    · rw [x5_hasN h1 hm c0]
      exact ⟨fun _ => ⟨fun e => absurd e n2, fun _ => ⟨rfl, ref0 (fun z => c0 z.1)⟩⟩, fun z => absurd rfl z⟩
  · have n1 : ¬ gI S 0 = 1 := by rw [q]; decide
    have n25 : ∀ T : SS, gI T 25 = gI S 25 → ¬ gI T 25 = 1 := fun T e z => n1 (h25.symm.trans (e.symm.trans z))
    have ref0 : ¬ ((0 ≤ p0.toInt ∧ p0.toInt < n) ∧ (0 ≤ p1.toInt ∧ p1.toInt ≤ 1)) → V_X8_told p0 p1 S (endT 1) := fun c => by
      unfold V_X8_told
      rw [ale]
      refine ⟨fun e => absurd e (n25 _ rfl), fun _ => ⟨fun _ => ?_, fun e => absurd (h25.trans q) e⟩⟩
      rw [show gI (sI S 20 0) 27 = nI n from h27]
      refine in_place (by omega) (fun c0 => ⟨fun z => absurd z (by decide), fun _ => ?_⟩) (fun c0 => ⟨fun _ => ?_, fun z => absurd rfl z⟩)
      · refine in32 (a := 0) (b := 1) rfl rfl (fun c1 => absurd ⟨c0, c1⟩ c) (fun c1 => ⟨fun _ => ?_, fun z => absurd rfl z⟩)
        rw [x8_refuse]
        exact thr S h
      · rw [x8_refuse]
        exact thr S h
    rw [brf n1, brt q]
    by_cases c0 : 0 ≤ p0.toInt ∧ p0.toInt < n
    · obtain ⟨k, rfl, -, hk0⟩ := nat32 (p := p0) 0 (n - 1) c0.1 (by omega) (by omega)
      have hkn : k < n := by omega
      obtain ⟨e0, e1, ⟨hp1, -⟩, ⟨hq1, -⟩⟩ := hf k hkn
      rw [x0_has h4 hkn hn]
      have val : ∀ v : Int64, (0 ≤ p1.toInt ∧ p1.toInt ≤ 1) → (p1 = 0 → v = gA S 33 k) → (¬ p1 = 0 → v = gA S 34 k) → V_X8_told (nI k) p1 (sA S 41 (vp_updL (gA S 41) (0 : Int32).toNatClampNeg v)) (endT 0) := fun v c1 v0 v1 => by
        unfold V_X8_told
        rw [ale]
        refine ⟨fun e => absurd e (n25 _ rfl), fun _ => ⟨fun _ => ?_, fun e => absurd (h25.trans q) e⟩⟩
        rw [show gI (sI (sA S 41 (vp_updL (gA S 41) (0 : Int32).toNatClampNeg v)) 20 0) 27 = nI n from h27]
        refine in_place (by omega) (fun _ => ⟨fun z => absurd z (by decide), fun _ => ?_⟩) (fun z => absurd c0 z)
        refine in32 (a := 0) (b := 1) rfl rfl (fun _ => ⟨fun z => absurd z (by decide), fun _ => ?_⟩) (fun z => absurd c1 z)
        rw [nI_clamp (by omega)]
        exact ⟨fun e => ⟨vp_in_nI (by omega) (by omega), thp rfl (fun _ => v0 e) h⟩, fun e => ⟨vp_in_nI (by omega) (by omega), thp rfl (fun _ => v1 e) h⟩⟩
      refine ⟨fun z => absurd z (by decide), fun _ => ⟨fun c1 => ⟨rfl, ref0 (fun z => ?_)⟩, fun c1 => ⟨fun c2 => ⟨rfl, ref0 (fun z => ?_)⟩, fun c2 => ⟨fun e => ?_, fun e => ?_⟩⟩⟩⟩
      · have d : p1.toInt < 0 := lt32.mp c1
        exact absurd z.2.1 (by omega)
      · have d : 1 < p1.toInt := lt32.mp c2
        exact absurd z.2.2 (by omega)
      · have d1 : ¬ p1.toInt < 0 := fun z => c1 (lt32.mpr z)
        have d2 : ¬ (1 : Int) < p1.toInt := fun z => c2 (lt32.mpr z)
        rw [x0_over h4 hkn hn hp1]
        refine ⟨by unfold vp_in; decide, ?_⟩
        rw [ale]
        exact val _ (by omega) (fun _ => e0.symm) (fun z => absurd e z)
      · have d1 : ¬ p1.toInt < 0 := fun z => c1 (lt32.mpr z)
        have d2 : ¬ (1 : Int) < p1.toInt := fun z => c2 (lt32.mpr z)
        rw [x0_under h4 hkn hn hq1]
        refine ⟨by unfold vp_in; decide, ?_⟩
        rw [ale]
        exact val _ (by omega) (fun z => absurd z e) (fun _ => e1.symm)
    · rw [x0_hasN h4 hn c0]
      exact ⟨fun _ => ⟨rfl, ref0 (fun z => c0 z.1)⟩, fun z => absurd rfl z⟩
