/-! WHOLE -/
def whF (a b d : Nat → Int64) (x : Int64) : Nat → Nat → Int64 → Int64
  | 0, _, v => v
  | j + 1, k, v => whF a b d x j (k + 1) (if a k = (0 : Int64) then (if b k / d k = x then v ||| ((1 : Int64) <<< ((nI k).toInt64 &&& 63)) else v) else v)
section
variable {S : SS} {m : Nat} {x : Int64} {post : Int64 → SS → Prop}
theorem x5_first {k : Nat} {mi ai bi di : Nat} (h : gI S mi = nI m) (hk : k < m) (hm : m ≤ 64) (hd : 1 ≤ (gA S di k).toInt) : V_X5_first mi ai bi di (nI k) S post = post ((gA S ai k * (nI k).toInt64 + gA S bi k) / gA S di k) S := by
  unfold V_X5_first
  rw [x5_a h hk hm, x5_b h hk hm, x5_d h hk hm hd, gdt (nz_of hd)]
theorem x7_whole15 (h1 : gI S 1 = nI m) (hm : m ≤ 64) (hr : rulF m (gA S 0) (gA S 1) (gA S 2)) : ∀ (j k : Nat) (v : Int64), k + j = m → post (whF (gA S 0) (gA S 1) (gA S 2) x j k v) S → V_X7_whole_15 x post (j + 1) v (nI k) S := by
  intro j
  induction j with
  | zero =>
    intro k v hk hp
    obtain rfl : k = m := by omega
    rw [V_X7_whole_15, x5_measure, h1, brt (nI_le (Nat.le_refl _) (by omega))]
    exact hp
  | succ j ih =>
    intro k v hk hp
    have hkm : k < m := by omega
    obtain ⟨-, -, ⟨hd, -⟩, -, -⟩ := hr k hkm
    rw [V_X7_whole_15, x5_measure, h1, brf (nI_ge (by omega) (by omega)), x5_a h1 hkm hm]
    unfold whF at hp
    refine ⟨fun e => ?_, fun e => ?_⟩
    · rw [x5_first h1 hkm hm hd, e, Int64.zero_mul, Int64.zero_add]
      rw [if_pos e] at hp
      refine ⟨fun e2 => ?_, fun e2 => ?_⟩
      · rw [if_pos e2] at hp
        rw [ale, ale, ← nI_succ]
        exact ih (k + 1) _ (by omega) hp
      · rw [if_neg e2] at hp
        rw [ale, ← nI_succ]
        exact ih (k + 1) _ (by omega) hp
    · rw [if_neg e] at hp
      rw [ale, ← nI_succ]
      exact ih (k + 1) _ (by omega) hp
theorem x8_whole10 {a b d : Nat → Int64} (h26 : gI S 26 = nI m) (h25 : gI S 25 = 1) (hx : isN x) (hm : m ≤ 64) (hr : ∀ r, r < m → gA S 32 (3 * r) = a r ∧ gA S 32 (3 * r + 1) = b r ∧ gA S 32 (3 * r + 2) = d r ∧ 1 ≤ (d r).toInt) : ∀ (j k : Nat) (v : Int64), k + j = m → post (whF a b d x j k v) S → V_X8_whole_10 x post (j + 1) v (nI k) S := by
  intro j
  induction j with
  | zero =>
    intro k v hk hp
    obtain rfl : k = m := by omega
    rw [V_X8_whole_10, h26, brt (nI_le (Nat.le_refl _) (by omega))]
    exact hp
  | succ j ih =>
    intro k v hk hp
    have hkm : k < m := by omega
    obtain ⟨e0, e1, e2, hd⟩ := hr k hkm
    rw [V_X8_whole_10, h26, brf (nI_ge (by omega) (by omega)), brt h25, x8_isN hx, brf (by decide), nmul3 (by omega), nadd1, nadd2, gdt (vp_in_nI (by omega) (by omega)), gdt (vp_in_nI (by omega) (by omega)), gdt (vp_in_nI (by omega) (by omega)), nI_clamp (by omega), nI_clamp (by omega), nI_clamp (by omega), e0, e1, e2, gdt (nz_of hd), Int64.or_zero]
    unfold whF at hp
    refine ⟨fun e => ⟨fun e2 => ?_, fun e2 => ?_⟩, fun e => ?_⟩
    · rw [if_pos e, if_pos e2] at hp
      rw [ale, ale, ← nI_succ]
      exact ih (k + 1) _ (by omega) hp
    · rw [if_pos e, if_neg e2] at hp
      rw [ale, ale, ← nI_succ]
      exact ih (k + 1) _ (by omega) hp
    · rw [if_neg e] at hp
      rw [ale, ale, ← nI_succ]
      exact ih (k + 1) _ (by omega) hp
end
