/-! LAY, LIST, COUNT, REST, CLEAR, SCRAP, ROW -/
theorem mnI_nI {a b : Nat} (ha : a < 2147483648) (hb : b < 2147483648) : mnI (nI a) (nI b) = nI (min a b) := by
  unfold mnI
  by_cases h : b < a
  · rw [if_pos (nI_lt h ha), Nat.min_eq_right (by omega)]
  · rw [if_neg (nI_nlt (by omega) hb), Nat.min_eq_left (by omega)]
theorem x5_write345 {w k m : Nat} (hw : w ≤ 2) {S : SS} (h : gI S 2 = nI m) (hk : k < m) (hm : m ≤ 64) {v : Int64} {post : SS → Prop} : V_X5_write 2 3 4 5 (nI k) (nI w) v S post = post (sA S (3 + w) (vp_updL (gA S (3 + w)) k v)) := by
  unfold V_X5_write
  rw [x5_has h hk hm, brf (by decide), gdt (vp_in_nI (by omega) (by omega)), gdt (vp_in_nI (by omega) (by omega)), gdt (vp_in_nI (by omega) (by omega)), ale, ale, ale, nI_clamp (by omega)]
  rcases (show w = 0 ∨ w = 1 ∨ w = 2 by omega) with rfl | rfl | rfl
  · rw [brt (c := nI 0 = 0) rfl]
  · rw [brf (c := nI 1 = 0) (by decide), brt (c := nI 1 = 1) rfl]
  · rw [brf (c := nI 2 = 0) (by decide), brf (c := nI 2 = 1) (by decide)]
theorem x6_read {n k : Nat} {S : SS} {post : Int64 → SS → Prop} (h : gI S 6 = nI n) (hk : k < n) (hn : n ≤ 64) : V_X6_read (nI k) S post = post (gA S 11 k) S := by
  unfold V_X6_read
  rw [x2_at h hk hn (by omega)]
theorem x6_drop {S : SS} {post : SS → Prop} : V_X6_drop S post = post (sI (sI S 5 (-1)) 6 0) := by
  unfold V_X6_drop
  rw [ale, x2_empty]
theorem x7_lay51 {w n c m : Nat} (hw : w ≤ 2) (hn : n ≤ c) (hm2 : n ≤ m) (hc : c ≤ 64) (hm : m ≤ 64) {S : SS} (h6 : gI S 6 = nI c) (h2 : gI S 2 = nI m) {post : Int32 → SS → Prop} : ∀ (j k : Nat) (f : Nat → Int64), k + j = n → post (nI n) (sI (sI (sA S (3 + w) (fun i => if k ≤ i ∧ i < n then gA S 11 i else f i)) 5 (-1)) 6 0) → V_X7_lay_51 (nI w) (nI n) post (j + 1) (nI k) (sA S (3 + w) f) := by
  intro j
  induction j with
  | zero =>
    intro k f hk hq
    have hk : k = n := by omega
    subst hk
    rw [V_X7_lay_51, brt (nI_le (Nat.le_refl _) (by omega))]
    rw [x6_drop]
    have e : (fun i => if k ≤ i ∧ i < k then gA S 11 i else f i) = f := by funext i; rw [if_neg (by omega)]
    rw [e] at hq
    exact hq
  | succ j ih =>
    intro k f hk hq
    rw [V_X7_lay_51, brf (nI_ge (by omega) (by omega))]
    rw [x6_read (n := c) (by rw [gI_sA, h6]) (by omega) hc, x5_write345 (m := m) hw (by rw [gI_sA, h2]) (by omega) hm, ale, ← nI_succ, gA_sA, sA_sA, gA_sAn _ _ (by omega)]
    refine ih (k + 1) _ (by omega) ?_
    have e : (fun i => if k + 1 ≤ i ∧ i < n then gA S 11 i else vp_updL f k (gA S 11 k) i) = fun i => if k ≤ i ∧ i < n then gA S 11 i else f i := by
      funext i
      by_cases h1 : i = k
      · subst h1; rw [if_neg (by omega), if_pos (by omega), updL_eq]
      · rw [updL_ne _ _ h1]
        by_cases h2 : k ≤ i ∧ i < n
        · rw [if_pos (by omega), if_pos h2]
        · rw [if_neg (by omega), if_neg h2]
    rw [e]; exact hq
theorem x8_lay47 {w n : Nat} (hw : w ≤ 2) (hn : n ≤ 64) {S : SS} {post : Int32 → SS → Prop} : ∀ (j k : Nat) (f : Nat → Int64), k + j = n → post (nI n) (sI (sA S 31 (fun i => if i % 3 = w ∧ k ≤ i / 3 ∧ i / 3 < n then gA S 30 (i / 3) else f i)) 21 (-1)) → V_X8_lay_47 (nI w) (nI n) post (j + 1) (nI k) (sA S 31 f) := by
  intro j
  induction j with
  | zero =>
    intro k f hk hq
    have hk : k = n := by omega
    subst hk
    rw [V_X8_lay_47, brt (nI_le (Nat.le_refl _) (by omega)), ale]
    have e : (fun i => if i % 3 = w ∧ k ≤ i / 3 ∧ i / 3 < k then gA S 30 (i / 3) else f i) = f := by funext i; rw [if_neg (by omega)]
    rw [e] at hq
    exact hq
  | succ j ih =>
    intro k f hk hq
    rw [V_X8_lay_47, brf (nI_ge (by omega) (by omega)), nmul3 (by omega), nadd (by omega), gdt (vp_in_nI (by omega) (by omega)), gdt (vp_in_nI (by omega) (by omega)), ale, ale, nI_clamp (by omega), nI_clamp (by omega), ← nI_succ, gA_sA, sA_sA, gA_sAn _ _ (by decide)]
    refine ih (k + 1) _ (by omega) ?_
    have e : (fun i => if i % 3 = w ∧ k + 1 ≤ i / 3 ∧ i / 3 < n then gA S 30 (i / 3) else vp_updL f (3 * k + w) (gA S 30 k) i) = fun i => if i % 3 = w ∧ k ≤ i / 3 ∧ i / 3 < n then gA S 30 (i / 3) else f i := by
      funext i
      by_cases h1 : i = 3 * k + w
      · rw [if_neg (by omega), if_pos (by omega), h1, updL_eq, show (3 * k + w) / 3 = k by omega]
      · rw [updL_ne _ _ h1]
        by_cases h2 : i % 3 = w ∧ k ≤ i / 3 ∧ i / 3 < n
        · rw [if_pos (by omega), if_pos h2]
        · rw [if_neg (by omega), if_neg h2]
    rw [e]; exact hq
theorem x7_layL {w n c m : Nat} (hw : w ≤ 2) (hn : n ≤ c) (hm2 : n ≤ m) (hc : c ≤ 64) (hm : m ≤ 64) {S : SS} (h6 : gI S 6 = nI c) (h2 : gI S 2 = nI m) {post : Int32 → SS → Prop} (hp : post (nI n) (sI (sI (sA S (3 + w) (fun i => if 0 ≤ i ∧ i < n then gA S 11 i else gA S (3 + w) i)) 5 (-1)) 6 0)) : ∃ j, V_X7_lay_51 (nI w) (nI n) post j 0 S := by
  have := x7_lay51 hw hn hm2 hc hm h6 h2 n 0 (gA S (3 + w)) (by omega) hp
  rw [sA_self] at this
  exact ⟨_, this⟩
theorem x8_layL {w n : Nat} (hw : w ≤ 2) (hn : n ≤ 64) {S : SS} {post : Int32 → SS → Prop} (hp : post (nI n) (sI (sA S 31 (fun i => if i % 3 = w ∧ 0 ≤ i / 3 ∧ i / 3 < n then gA S 30 (i / 3) else gA S 31 i)) 21 (-1))) : ∃ j, V_X8_lay_47 (nI w) (nI n) post j 0 S := by
  have := x8_lay47 hw hn n 0 (gA S 31) (by omega) hp
  rw [sA_self] at this
  exact ⟨_, this⟩
theorem x6_there0 {S : SS} {post : Int32 → SS → Prop} (h : gI S 5 = -1) : V_X6_isThere S post = post 0 S := by
  unfold V_X6_isThere
  rw [brt h]
theorem x6_there1 {S : SS} {post : Int32 → SS → Prop} (h : ¬ gI S 5 = -1) : V_X6_isThere S post = post 1 S := by
  unfold V_X6_isThere
  rw [brf h]
theorem x6_entries {S : SS} {post : Int32 → SS → Prop} : V_X6_entries S post = post (gI S 6) S := rfl
theorem x2_size {si ai L : Nat} {S : SS} {post : Int32 → SS → Prop} : V_X2_size si ai L S post = post (gI S si) S := rfl
theorem x5_measure {mi ai bi di : Nat} {S : SS} {post : Int32 → SS → Prop} : V_X5_measure mi ai bi di S post = post (gI S mi) S := rfl
theorem p_lay {p : Int32} {S : SS} (h : RR S) : V_X7_lay p S (fun r1 S2 => V_X8_lay p S2 (fun r3 S4 => (r1 = r3 → RR S4) ∧ (¬ r1 = r3 → False))) := by
  obtain ⟨h1, h2, h3, h4⟩ := h
  have hR : RR (sI S 20 0) := ⟨h1, h2, h3, h4⟩
  unfold V_X7_lay
  rcases h3 with ⟨h5, h21, h6⟩ | ⟨t, n, ht, hn, h30, h5, h21, h6, h22, hk⟩
  · rw [x6_there0 h5, brt rfl]
    show V_X8_lay _ _ _
    unfold V_X8_lay
    rw [ale, brt (by rw [show gI (sI S 20 0) 21 = gI S 21 from rfl, h21]; decide)]
    exact eqp rfl hR
  · have n5 : ¬ gI S 5 = -1 := fun q => by
      have := congrArg Int32.toInt (h5.symm.trans q)
      rw [nI_toInt (by omega), show (-1 : Int32).toInt = -1 from rfl] at this
      omega
    have n21 : ¬ gI (sI S 20 0) 21 < 0 := by rw [show gI (sI S 20 0) 21 = gI S 21 from rfl, h21]; exact nI_pos (by omega)
    rw [x6_there1 n5, brf (by decide), x5_measure]
    rcases h1 with ⟨h23, hh2⟩ | ⟨m, hm2, hm, h23, h24, hh2, hd⟩
    · rw [brt hh2]
      show V_X8_lay _ _ _
      unfold V_X8_lay
      rw [ale, brf n21, brt (by exact h23)]
      exact eqp rfl hR
    · rw [brf (by rw [hh2]; exact nI_ne0 (by omega) (by omega))]
      have n23 : ¬ gI (sI S 20 0) 23 = 0 := by rw [show gI (sI S 20 0) 23 = gI S 23 from rfl, h23]; decide
      by_cases c : 0 ≤ p.toInt ∧ p.toInt ≤ 2
      · obtain ⟨w, rfl, -, hw⟩ := nat32 (p := p) 0 2 c.1 c.2 (by omega)
        rw [brf (nI_pos (by omega)), brt (c := nI w ≤ (2 : Int32)) (nI_le (b := 2) hw (by omega))]
        rw [x6_entries, x5_measure, h6, hh2, ale, mnI_nI (by omega) (by omega)]
        refine x7_layL (c := n) (m := m) hw (Nat.min_le_left _ _) (Nat.min_le_right _ _) hn hm h6 hh2 ?_
        show V_X8_lay _ _ _
        unfold V_X8_lay
        have k1 : ∀ F : Nat → Int64, gI (sI (sI (sI (sA S (3 + w) F) 5 (-1)) 6 0) 20 0) 21 = gI S 21 := fun _ => rfl
        have k2 : ∀ F : Nat → Int64, gI (sI (sI (sI (sA S (3 + w) F) 5 (-1)) 6 0) 20 0) 23 = gI S 23 := fun _ => rfl
        have k3 : ∀ F : Nat → Int64, gI (sI (sI (sI (sA S (3 + w) F) 5 (-1)) 6 0) 20 0) 22 = gI S 22 := fun _ => rfl
        have k4 : ∀ F : Nat → Int64, gI (sI (sI (sI (sA S (3 + w) F) 5 (-1)) 6 0) 20 0) 24 = gI S 24 := fun _ => rfl
        rw [ale, k1, brf (by rw [h21]; exact nI_pos (by omega)), k2, brf (by rw [h23]; decide), x8_in (by rw [i64_toInt]; exact c.1) (by rw [i64_toInt]; exact c.2), brf (by decide), k3, k4, h22, h24, ale, mnI_nI (by omega) (by omega)]
        refine x8_layL hw (by omega) (eqp rfl ?_)
        rcases (show w = 0 ∨ w = 1 ∨ w = 2 by omega) with rfl | rfl | rfl
        · refine ⟨Or.inr ⟨m, hm2, hm, h23, h24, hh2, fun r hr => ?_⟩, h2, Or.inl ⟨rfl, rfl, rfl⟩, h4⟩
          obtain ⟨d1, d2, d3⟩ := hd r hr
          refine ⟨?_, ?_, ?_⟩
          · show (if 3 * r % 3 = 0 ∧ 0 ≤ 3 * r / 3 ∧ 3 * r / 3 < min n m then gA S 30 (3 * r / 3) else gA S 31 (3 * r)) = if 0 ≤ r ∧ r < min n m then gA S 11 r else gA S 3 r
            by_cases hrn : r < min n m
            · rw [if_pos (by omega), if_pos (by omega), show 3 * r / 3 = r by omega, hk r (by omega)]
            · rw [if_neg (by omega), if_neg (by omega), d1]
          · show (if (3 * r + 1) % 3 = 0 ∧ 0 ≤ (3 * r + 1) / 3 ∧ (3 * r + 1) / 3 < min n m then gA S 30 ((3 * r + 1) / 3) else gA S 31 (3 * r + 1)) = gA S 4 r
            rw [if_neg (by omega), d2]
          · show (if (3 * r + 2) % 3 = 0 ∧ 0 ≤ (3 * r + 2) / 3 ∧ (3 * r + 2) / 3 < min n m then gA S 30 ((3 * r + 2) / 3) else gA S 31 (3 * r + 2)) = gA S 5 r
            rw [if_neg (by omega), d3]
        · refine ⟨Or.inr ⟨m, hm2, hm, h23, h24, hh2, fun r hr => ?_⟩, h2, Or.inl ⟨rfl, rfl, rfl⟩, h4⟩
          obtain ⟨d1, d2, d3⟩ := hd r hr
          refine ⟨?_, ?_, ?_⟩
          · show (if 3 * r % 3 = 1 ∧ 0 ≤ 3 * r / 3 ∧ 3 * r / 3 < min n m then gA S 30 (3 * r / 3) else gA S 31 (3 * r)) = gA S 3 r
            rw [if_neg (by omega), d1]
          · show (if (3 * r + 1) % 3 = 1 ∧ 0 ≤ (3 * r + 1) / 3 ∧ (3 * r + 1) / 3 < min n m then gA S 30 ((3 * r + 1) / 3) else gA S 31 (3 * r + 1)) = if 0 ≤ r ∧ r < min n m then gA S 11 r else gA S 4 r
            by_cases hrn : r < min n m
            · rw [if_pos (by omega), if_pos (by omega), show (3 * r + 1) / 3 = r by omega, hk r (by omega)]
            · rw [if_neg (by omega), if_neg (by omega), d2]
          · show (if (3 * r + 2) % 3 = 1 ∧ 0 ≤ (3 * r + 2) / 3 ∧ (3 * r + 2) / 3 < min n m then gA S 30 ((3 * r + 2) / 3) else gA S 31 (3 * r + 2)) = gA S 5 r
            rw [if_neg (by omega), d3]
        · refine ⟨Or.inr ⟨m, hm2, hm, h23, h24, hh2, fun r hr => ?_⟩, h2, Or.inl ⟨rfl, rfl, rfl⟩, h4⟩
          obtain ⟨d1, d2, d3⟩ := hd r hr
          refine ⟨?_, ?_, ?_⟩
          · show (if 3 * r % 3 = 2 ∧ 0 ≤ 3 * r / 3 ∧ 3 * r / 3 < min n m then gA S 30 (3 * r / 3) else gA S 31 (3 * r)) = gA S 3 r
            rw [if_neg (by omega), d1]
          · show (if (3 * r + 1) % 3 = 2 ∧ 0 ≤ (3 * r + 1) / 3 ∧ (3 * r + 1) / 3 < min n m then gA S 30 ((3 * r + 1) / 3) else gA S 31 (3 * r + 1)) = gA S 4 r
            rw [if_neg (by omega), d2]
          · show (if (3 * r + 2) % 3 = 2 ∧ 0 ≤ (3 * r + 2) / 3 ∧ (3 * r + 2) / 3 < min n m then gA S 30 ((3 * r + 2) / 3) else gA S 31 (3 * r + 2)) = if 0 ≤ r ∧ r < min n m then gA S 11 r else gA S 5 r
            by_cases hrn : r < min n m
            · rw [if_pos (by omega), if_pos (by omega), show (3 * r + 2) / 3 = r by omega, hk r (by omega)]
            · rw [if_neg (by omega), if_neg (by omega), d3]
      · have hx : V_X8_lay p S (fun r3 S4 => ((-1 : Int32) = r3 → RR S4) ∧ (¬ (-1 : Int32) = r3 → False)) := by
          unfold V_X8_lay
          rw [ale, brf n21, brf n23, x8_out (by rw [i64_toInt]; exact c), brt rfl]
          exact eqp rfl hR
        refine ⟨fun _ => hx, fun c1 => ⟨fun c2 => ?_, fun _ => hx⟩⟩
        have d1 : ¬ p.toInt < 0 := fun q => c1 (lt32.mpr q)
        have d2 : p.toInt ≤ 2 := le32.mp c2
        exact absurd ⟨by omega, d2⟩ c
