/-! A RULE's PARTS, STEPS -/
def isN (x : Int64) : Prop := -1000000000000000 ≤ x.toInt ∧ x.toInt ≤ 1000000000000000
theorem J9 {x y : Int64} {S : SS} {post : Int64 → SS → Prop} (hy : y.toInt ≠ 0) : V_J9_floorMod_f86c9 x y S post = post (fmd x y) S := by
  unfold V_J9_floorMod_f86c9 fmd
  rw [gdt (fun e => hy (by rw [e]; rfl)), ale]
  by_cases h1 : (0 : Int64) ≤ (x ^^^ y)
  · rw [brt h1, if_pos h1]
  · rw [brf h1, if_neg h1]
    by_cases h2 : lrm x y = (0 : Int64)
    · rw [brt h2, if_pos h2]
    · rw [brf h2, if_neg h2]
theorem x7_isN {x : Int64} {S : SS} {post : Int32 → SS → Prop} (h : isN x) : V_X7_isNumber x S post = post 1 S := by
  unfold V_X7_isNumber
  rw [brf (fun q => by have := lt64.mp q; rw [show (-1000000000000000 : Int64).toInt = -1000000000000000 from rfl] at this; have := h.1; omega), brf (fun q => by have := lt64.mp q; rw [show (1000000000000000 : Int64).toInt = 1000000000000000 from rfl] at this; have := h.2; omega)]
theorem x7_notN {x : Int64} {S : SS} {post : Int32 → SS → Prop} (h : ¬ isN x) : V_X7_isNumber x S post = post 0 S := by
  unfold V_X7_isNumber
  by_cases h1 : x < (-1000000000000000 : Int64)
  · rw [brt h1]
  · rw [brf h1, brt]
    have h1 : ¬ x.toInt < -1000000000000000 := fun q => h1 (lt64.mpr q)
    refine lt64.mpr ?_
    show 1000000000000000 < x.toInt
    unfold isN at h
    omega
theorem x8_in {x a b : Int64} {S : SS} {post : Int32 → SS → Prop} (h1 : a.toInt ≤ x.toInt) (h2 : x.toInt ≤ b.toInt) : V_X8_in x a b S post = post 1 S := by
  unfold V_X8_in
  rw [brf (fun q => by have := lt64.mp q; omega), brf (fun q => by have := lt64.mp q; omega)]
theorem x8_out {x a b : Int64} {S : SS} {post : Int32 → SS → Prop} (h : ¬ (a.toInt ≤ x.toInt ∧ x.toInt ≤ b.toInt)) : V_X8_in x a b S post = post 0 S := by
  unfold V_X8_in
  by_cases h1 : x < a
  · rw [brt h1]
  · rw [brf h1, brt]
    have h1 : ¬ x.toInt < a.toInt := fun q => h1 (lt64.mpr q)
    exact lt64.mpr (by omega)
theorem x8_isN {x : Int64} {S : SS} {post : Int32 → SS → Prop} (h : isN x) : V_X8_isNumber x S post = post 1 S := by
  unfold V_X8_isNumber
  rw [x8_in (x := x) (a := -1000000000000000) (b := 1000000000000000) h.1 h.2, gdt bz_1]
theorem x8_notN {x : Int64} {S : SS} {post : Int32 → SS → Prop} (h : ¬ isN x) : V_X8_isNumber x S post = post 0 S := by
  unfold V_X8_isNumber
  rw [x8_out (x := x) (a := -1000000000000000) (b := 1000000000000000) h, gdt bz_0]
section SHA
variable {mi ai bi di m k : Nat} {S : SS}
theorem x5_has {post : Int32 → SS → Prop} (h : gI S mi = nI m) (hk : k < m) (hm : m ≤ 64) : V_X5_has mi ai bi di (nI k) S post = post 1 S := by
  unfold V_X5_has
  rw [brf (nI_pos (by omega)), h, brf (fun q => nI_ge hk (by omega) q), brf (c := (64 : Int32) ≤ nI k) (nI_ge (b := 64) (by omega) (by omega))]
theorem x5_a {post : Int64 → SS → Prop} (h : gI S mi = nI m) (hk : k < m) (hm : m ≤ 64) : V_X5_a mi ai bi di (nI k) S post = post (gA S ai k) S := by
  unfold V_X5_a
  rw [x5_has h hk hm, brf (by decide), gdt (vp_in_nI (by omega) (by omega)), nI_clamp (by omega)]
theorem x5_b {post : Int64 → SS → Prop} (h : gI S mi = nI m) (hk : k < m) (hm : m ≤ 64) : V_X5_b mi ai bi di (nI k) S post = post (gA S bi k) S := by
  unfold V_X5_b
  rw [x5_has h hk hm, brf (by decide), gdt (vp_in_nI (by omega) (by omega)), nI_clamp (by omega)]
theorem x5_d {post : Int64 → SS → Prop} (h : gI S mi = nI m) (hk : k < m) (hm : m ≤ 64) (hd : 1 ≤ (gA S di k).toInt) : V_X5_d mi ai bi di (nI k) S post = post (gA S di k) S := by
  unfold V_X5_d
  rw [x5_has h hk hm, brf (by decide), gdt (vp_in_nI (by omega) (by omega)), nI_clamp (by omega)]
  by_cases h1 : gA S di k ≤ (1 : Int64)
  · have h2 := le64.mp h1
    rw [show (1 : Int64).toInt = 1 from rfl] at h2
    have h3 : gA S di k = (1 : Int64) := eq64.mpr (by show _ = (1 : Int); omega)
    rw [brt h1, h3]
  · rw [brf h1, gdt (vp_in_nI (by omega) (by omega))]
theorem x5_restOf {x : Int64} {post : Int32 → SS → Prop} (h : gI S mi = nI m) (h2 : 1 ≤ m) (hm : m ≤ 64) : V_X5_restOf mi ai bi di x S post = post (nI (x.toInt % (m : Int)).toNat) S := by
  unfold V_X5_restOf
  have hy : ((nI m).toInt64).toInt = (m : Int) := by rw [i64_toInt, nI_toInt (by omega)]
  rw [h, brt (c := (1 : Int32) ≤ nI m) (nI_le (a := 1) h2 (by omega)), J9 (by rw [hy]; omega)]
  have h3 := Int.emod_nonneg x.toInt (show (m : Int) ≠ 0 by omega)
  have h4 := Int.emod_lt_of_pos x.toInt (show (0 : Int) < m by omega)
  have hf : (fmd x (nI m).toInt64).toInt = x.toInt % (m : Int) := by rw [fmd_toInt (by rw [hy]; omega), hy]
  rw [show (fmd x (nI m).toInt64).toInt32 = nI (x.toInt % (m : Int)).toNat from of32 (by rw [l2i_toInt (by rw [hf]; omega) (by rw [hf]; omega), hf]; omega) (by omega)]
end SHA
theorem rest_lt (x : Int64) {m : Nat} (h : 1 ≤ m) : (x.toInt % (m : Int)).toNat < m := by
  have h3 := Int.emod_nonneg x.toInt (show (m : Int) ≠ 0 by omega)
  have h4 := Int.emod_lt_of_pos x.toInt (show (0 : Int) < m by omega)
  omega
/-- a rule: its parts as a RULE wants them -/
def rulF (m : Nat) (a b d : Nat → Int64) : Prop := ∀ r, r < m → (-1000 ≤ (a r).toInt ∧ (a r).toInt ≤ 1000) ∧ (-1000 ≤ (b r).toInt ∧ (b r).toInt ≤ 1000) ∧ (1 ≤ (d r).toInt ∧ (d r).toInt ≤ 1000) ∧ (d r).toInt ∣ (a r).toInt * m ∧ (d r).toInt ∣ (a r).toInt * r + (b r).toInt
def rul (S : SS) (mi ai bi di m : Nat) : Prop := gI S mi = nI m ∧ 2 ≤ m ∧ m ≤ 64 ∧ rulF m (gA S ai) (gA S bi) (gA S di)
/-- the REST of x by m -/
abbrev rst (x : Int64) (m : Nat) : Nat := (x.toInt % (m : Int)).toNat
/-- what x of REST r steps to, not yet looked at -/
abbrev stp (a b d : Nat → Int64) (x : Int64) (r : Nat) : Int64 := (a r * x + b r) / d r
theorem x5_after {mi ai bi di m : Nat} {S : SS} {x : Int64} {post : Int64 → SS → Prop} (h : rul S mi ai bi di m) : V_X5_after mi ai bi di x S post = ((isN (stp (gA S ai) (gA S bi) (gA S di) x (rst x m)) → post (stp (gA S ai) (gA S bi) (gA S di) x (rst x m)) S) ∧ (¬ isN (stp (gA S ai) (gA S bi) (gA S di) x (rst x m)) → post 3000000000000000 S)) := by
  obtain ⟨h1, h2, h3, h4⟩ := h
  have hk := rest_lt x (show 1 ≤ m by omega)
  obtain ⟨-, -, hd, -, -⟩ := h4 _ hk
  unfold V_X5_after
  rw [x5_restOf h1 (by omega) h3, x5_a h1 hk h3, x5_b h1 hk h3, x5_d h1 hk h3 hd.1, gdt (fun e => by rw [e] at hd; exact absurd hd.1 (by decide)), ale]
  by_cases hn : isN (stp (gA S ai) (gA S bi) (gA S di) x (rst x m))
  · rw [x7_isN hn, brf (by decide), brt hn]
  · rw [x7_notN hn, brt rfl, brf hn]
