/-! SHEET, ENTRY, LAY -/
theorem t32 {x : Int32} {n : Int} (h : x.toInt = n) {y : Int32} (hy : y.toInt = n) : x = y := eq32.mpr (h.trans hy.symm)
theorem x8_sheet57 {n : Nat} (hn : n ≤ 64) {S : SS} (h22 : gI S 22 = nI n) {post : Int32 → SS → Prop} : ∀ (j k : Nat) (f : Nat → Int64), k + j = n → post 1 (sA S 30 (fun i => if k ≤ i ∧ i < n then 0 else f i)) → V_X8_sheet_57 post (j + 1) (nI k) (sA S 30 f) := by
  intro j
  induction j with
  | zero =>
    intro k f hk hq
    have hk : k = n := by omega
    subst hk
    rw [V_X8_sheet_57, gI_sA, h22, brt (nI_le (Nat.le_refl _) (by omega))]
    have e : (fun i => if k ≤ i ∧ i < k then (0 : Int64) else f i) = f := by funext i; rw [if_neg (by omega)]
    rw [e] at hq
    exact hq
  | succ j ih =>
    intro k f hk hq
    rw [V_X8_sheet_57, gI_sA, h22, brf (nI_ge (by omega) (by omega)), gdt (vp_in_nI (by omega) (by omega)), ale, ale, nI_clamp (by omega), ← nI_succ, gA_sA, sA_sA]
    refine ih (k + 1) _ (by omega) ?_
    have e : (fun i => if k + 1 ≤ i ∧ i < n then (0 : Int64) else vp_updL f k 0 i) = fun i => if k ≤ i ∧ i < n then 0 else f i := by
      funext i
      by_cases h1 : i = k
      · subst h1; rw [if_neg (by omega), if_pos (by omega), updL_eq]
      · rw [updL_ne _ _ h1]
        by_cases h2 : k ≤ i ∧ i < n
        · rw [if_pos (by omega), if_pos h2]
        · rw [if_neg (by omega), if_neg h2]
    rw [e]; exact hq
theorem x8_sheetL {n : Nat} (hn : n ≤ 64) {S : SS} {post : Int32 → SS → Prop} (h22 : gI S 22 = nI n) (hp : post 1 (sA S 30 (fun i => if 0 ≤ i ∧ i < n then 0 else gA S 30 i))) : ∃ j, V_X8_sheet_57 post j 0 S := by
  have := x8_sheet57 hn h22 n 0 (gA S 30) (by omega) hp
  rw [sA_self] at this
  exact ⟨_, this⟩
theorem x6_no {p0 p1 : Int32} {S : SS} {post : Int32 → SS → Prop} (h : ¬ (0 ≤ p0.toInt ∧ p0.toInt ≤ 2 ∧ 0 ≤ p1.toInt ∧ p1.toInt ≤ 64)) (h3 : p0.toInt ≠ 3) (hp : post 0 S) : V_X6_begin p0 p1 S post := by
  have n3 : ¬ p0 = (3 : Int32) := fun q => h3 (by rw [q]; rfl)
  unfold V_X6_begin
  rw [brf n3]
  refine ⟨fun _ => hp, fun c1 => ⟨fun _ => hp, fun c2 => ⟨fun _ => hp, fun c3 => ⟨fun _ => hp, fun c4 => ?_⟩⟩⟩⟩
  have d1 : ¬ p0.toInt < 0 := fun q => c1 (lt32.mpr q)
  have d2 : ¬ (2 : Int) < p0.toInt := fun q => c2 (lt32.mpr q)
  have d3 : ¬ p1.toInt < 0 := fun q => c3 (lt32.mpr q)
  have d4 : ¬ (64 : Int) < p1.toInt := fun q => c4 (lt32.mpr q)
  exact absurd ⟨by omega, by omega, by omega, by omega⟩ h
theorem x6_miss {p1 : Int32} {S : SS} {post : Int32 → SS → Prop} (hp : post 1 (sI (sI S 5 3) 6 0)) : V_X6_begin (3 : Int32) p1 S post := by
  unfold V_X6_begin
  rw [brf (by decide), brt (by decide), brt rfl, ale]
  refine x2_zeros (n := 0) (by omega) (by omega) ?_
  have e : sA (sI S 5 3) 11 (fun i => if i < 0 then 0 else gA (sI S 5 3) 11 i) = sI S 5 3 := by
    have e2 : (fun i => if i < 0 then (0 : Int64) else gA (sI S 5 3) 11 i) = gA (sI S 5 3) 11 := by funext i; rw [if_neg (by omega)]
    rw [e2, sA_self]
  rw [e]
  exact hp
theorem x6_row {t n : Nat} (ht : t ≤ 2) (hn : n ≤ 64) {S : SS} {post : Int32 → SS → Prop} (hp : post 1 (sI (sA (sI S 5 (nI t)) 11 (fun i => if i < n then 0 else gA S 11 i)) 6 (nI n))) : V_X6_begin (nI t) (nI n) S post := by
  unfold V_X6_begin
  rw [brf (nI_pos (by omega)), brf (c := (2 : Int32) < nI t) (nI_nlt (a := 2) ht (by omega)), brf (nI_pos (by omega)), brf (c := (64 : Int32) < nI n) (nI_nlt (a := 64) hn (by omega)), ale]
  exact x2_zeros hn (by omega) hp
theorem p_sheet {p0 p1 : Int32} {S : SS} (h : RR S) : V_X7_sheet p0 p1 S (fun r1 S2 => V_X8_sheet p0 p1 S2 (fun r3 S4 => (r1 = r3 → RR S4) ∧ (¬ r1 = r3 → False))) := by
  obtain ⟨h1, h2, h3, h4⟩ := h
  unfold V_X7_sheet
  by_cases c3 : p0.toInt = 3
  · obtain rfl : p0 = (3 : Int32) := t32 c3 rfl
    refine x6_miss ⟨bz_1, ?_⟩
    show V_X8_sheet _ _ _ _
    unfold V_X8_sheet
    rw [ale, x8_in (by decide) (by decide), brf (by decide), brt (by decide), ale, brt rfl, ale]
    exact x8_sheetL (n := 0) (by omega) rfl (eqp rfl ⟨h1, h2, Or.inr ⟨3, 0, by omega, by omega, fun _ => rfl, rfl, rfl, rfl, rfl, fun k hk => absurd hk (by omega)⟩, h4⟩)
  · by_cases c : 0 ≤ p0.toInt ∧ p0.toInt ≤ 2 ∧ 0 ≤ p1.toInt ∧ p1.toInt ≤ 64
    · obtain ⟨t, rfl, -, ht⟩ := nat32 (p := p0) 0 2 c.1 c.2.1 (by omega)
      obtain ⟨n, rfl, -, hn⟩ := nat32 (p := p1) 0 64 c.2.2.1 c.2.2.2 (by omega)
      refine x6_row ht hn ⟨bz_1, ?_⟩
      show V_X8_sheet _ _ _ _
      unfold V_X8_sheet
      have e3 : ¬ nI t = (3 : Int32) := fun q => c3 (by rw [q]; rfl)
      rw [ale, x8_in (by rw [i64_toInt]; exact c.1) (by rw [i64_toInt]; show (nI t).toInt ≤ 3; omega), brf (by decide), brf (c := (3 : Int32) ≤ nI t) (nI_ge (b := 3) (by omega) (by omega)), x8_in (by rw [i64_toInt]; exact c.2.2.1) (by rw [i64_toInt]; exact c.2.2.2), brf (by decide), ale, brf e3, ale]
      refine x8_sheetL hn rfl (eqp rfl ⟨h1, h2, Or.inr ⟨t, n, by omega, hn, fun q => absurd q (by omega), rfl, rfl, rfl, rfl, fun k hk => ?_⟩, h4⟩)
      show (if 0 ≤ k ∧ k < n then (0 : Int64) else gA S 30 k) = if k < n then 0 else gA S 11 k
      rw [if_pos (by omega), if_pos hk]
    · refine x6_no c c3 ⟨bz_0, ?_⟩
      show V_X8_sheet _ _ _ _
      unfold V_X8_sheet
      rw [ale]
      have hR : RR (sI S 20 0) := ⟨h1, h2, h3, h4⟩
      refine in_of (fun q => ?_) (fun q => ?_)
      · rw [i64_toInt] at q
        have q1 : 0 ≤ p0.toInt := q.1
        have q2 : p0.toInt ≤ 3 := q.2
        rw [brf (by decide), brf (fun z => by have := le32.mp z; rw [show (3 : Int32).toInt = 3 from rfl] at this; omega), x8_out (by rw [i64_toInt]; intro z; exact c ⟨q1, by omega, z.1, z.2⟩), brt rfl]
        exact eqp rfl hR
      · rw [brt rfl]
        exact eqp rfl hR
-- entry
theorem x2_hasN {si ai L n : Nat} {p : Int32} {S : SS} {post : Int32 → SS → Prop} (h : gI S si = nI n) (hn : n ≤ L) (hL : L < 2147483648) (hp : ¬ (0 ≤ p.toInt ∧ p.toInt < n)) : V_X2_has si ai L p S post = post 0 S := by
  unfold V_X2_has
  by_cases c1 : p < 0
  · rw [brt c1]
  · rw [brf c1, h, brt]
    have c1 : ¬ p.toInt < 0 := fun q => c1 (lt32.mpr q)
    exact le32.mpr (by rw [nI_toInt (by omega)]; omega)
theorem p_entry {p0 : Int32} {p1 : Int64} {S : SS} (h : RR S) : V_X7_entry p0 p1 S (fun r1 S2 => V_X8_entry p0 p1 S2 (fun r3 S4 => (r1 = r3 → RR S4) ∧ (¬ r1 = r3 → False))) := by
  obtain ⟨h1, h2, h3, h4⟩ := h
  have hR : RR (sI S 20 0) := ⟨h1, h2, h3, h4⟩
  unfold V_X7_entry V_X6_write
  rcases h3 with ⟨h5, h21, h6⟩ | ⟨t, n, ht, hn, h30, h5, h21, h6, h22, hk⟩
  · rw [x2_hasN (n := 0) h6 (by omega) (by omega) (by omega), brt rfl]
    refine ⟨bz_0, ?_⟩
    show V_X8_entry _ _ _ _
    unfold V_X8_entry
    rw [ale, x8_out (by rw [show gI (sI S 20 0) 21 = gI S 21 from rfl, h21]; decide), brt rfl]
    exact eqp rfl hR
  · by_cases c : 0 ≤ p0.toInt ∧ p0.toInt < n
    · obtain ⟨k, rfl, -, hk0⟩ := nat32 (p := p0) 0 (n - 1) c.1 (by omega) (by omega)
      have t2 : t ≤ 2 := by
        rcases Nat.lt_or_ge t 3 with q | q
        · omega
        · have := h30 (by omega); omega
      have hkn : k < n := by omega
      rw [x2_has h6 hkn hn (by omega), brf (by decide), h5]
      have hsh : ∀ v : Int64, RR (sA (sI (sA S 11 (vp_updL (gA S 11) k v)) 20 0) 30 (vp_updL (gA S 30) k v)) := fun v => ⟨h1, h2, Or.inr ⟨t, n, ht, hn, h30, h5, h21, h6, h22, fun i hi => by
        show vp_updL (gA S 30) k v i = vp_updL (gA S 11) k v i
        by_cases e : i = k
        · subst e; rw [updL_eq, updL_eq]
        · rw [updL_ne _ _ e, updL_ne _ _ e]; exact hk i hi⟩, h4⟩
      have hmod : ∀ v : Int64, ∀ w : Int64, (t = 0 → w = p1.toInt32.toInt8.toInt32.toInt64) → (t = 1 → w = p1.toInt32.toInt64) → (t = 2 → w = p1) → v = w → V_X8_entry (nI k) p1 (sA S 11 (vp_updL (gA S 11) k v)) (fun r3 S4 => ((1 : Int32) = r3 → RR S4) ∧ (¬ (1 : Int32) = r3 → False)) := by
        intro v w w0 w1 w2 hv
        subst hv
        show V_X8_entry _ _ _ _
        unfold V_X8_entry
        have g21 : gI (sI (sA S 11 (vp_updL (gA S 11) k v)) 20 0) 21 = nI t := h21
        have g22 : gI (sI (sA S 11 (vp_updL (gA S 11) k v)) 20 0) 22 = nI n := h22
        rw [ale, g21, x8_in (by rw [i64_toInt, nI_toInt (by omega)]; show (0 : Int) ≤ t; omega) (by rw [i64_toInt, nI_toInt (by omega)]; show (t : Int) ≤ 2; omega), brf (by decide), g22, nsub1 (by omega), x8_in (by rw [i64_toInt, nI_toInt (by omega)]; show (0 : Int) ≤ k; omega) (by rw [i64_toInt, nI_toInt (by omega), i64_toInt, nI_toInt (by omega)]; omega), brf (by decide), g21]
        rw [gdt (vp_in_nI (n := k) (N := 64) (by omega) (by omega)), gdt (vp_in_nI (n := k) (N := 64) (by omega) (by omega)), gdt (vp_in_nI (n := k) (N := 64) (by omega) (by omega)), ale, ale, ale, nI_clamp (by omega)]
        rcases (show t = 0 ∨ t = 1 ∨ t = 2 by omega) with q | q | q
        · rw [brt (by rw [q]; rfl), ← w0 q]; exact eqp rfl (hsh v)
        · rw [brf (by rw [q]; decide), brt (by rw [q]; rfl), ← w1 q]; exact eqp rfl (hsh v)
        · rw [brf (by rw [q]; decide), brf (by rw [q]; decide), ← w2 q]; exact eqp rfl (hsh v)
      rcases (show t = 0 ∨ t = 1 ∨ t = 2 by omega) with q | q | q
      · rw [brt (by rw [q]; rfl), x2_put h6 hkn hn (by omega)]
        exact ⟨bz_1, hmod _ _ (fun _ => rfl) (fun z => absurd z (by omega)) (fun z => absurd z (by omega)) rfl⟩
      · rw [brf (by rw [q]; decide), brt (by rw [q]; rfl), x2_put h6 hkn hn (by omega)]
        exact ⟨bz_1, hmod _ _ (fun z => absurd z (by omega)) (fun _ => rfl) (fun z => absurd z (by omega)) rfl⟩
      · rw [brf (by rw [q]; decide), brf (by rw [q]; decide), x2_put h6 hkn hn (by omega)]
        exact ⟨bz_1, hmod _ _ (fun z => absurd z (by omega)) (fun z => absurd z (by omega)) (fun _ => rfl) rfl⟩
    · rw [x2_hasN h6 hn (by omega) c, brt rfl]
      refine ⟨bz_0, ?_⟩
      show V_X8_entry _ _ _ _
      unfold V_X8_entry
      rw [ale]
      refine in_of (fun _ => ?_) (fun _ => ?_)
      · rw [brf (by decide), show gI (sI S 20 0) 22 = nI n from h22, x8_out, brt rfl]
        · exact eqp rfl hR
        · rw [i64_toInt, i64_toInt, show (0 : Int64).toInt = 0 from rfl]
          intro z
          apply c
          refine ⟨z.1, ?_⟩
          have z2 := z.2
          by_cases n0 : n = 0
          · subst n0
            rw [show (nI 0 - (1 : Int32)).toInt = -1 from rfl] at z2
            omega
          · rw [nsub1 (by omega), nI_toInt (by omega)] at z2
            omega
      · rw [brt rfl]
        exact eqp rfl hR
