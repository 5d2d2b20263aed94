/-! THE ROW TOLD: what the reference puts into it -/
theorem x8_tells {n : Nat} {S : SS} {post : SS → Prop} (hn : n ≤ 20000) (hp : post (sI (sA S 35 (fun i => if i < min n 1000 then gA S 36 i else gA S 35 i)) 28 (nI (min n 1000)))) : V_X8_tells (nI n) S post := by
  have key : ∀ (t : Nat), t ≤ 1000 → ∀ (j k : Nat) (f : Nat → Int64), k + j = t → post (sI (sA S 35 (fun i => if k ≤ i ∧ i < t then gA S 36 i else f i)) 28 (nI t)) → V_X8_tells_13 post (j + 1) (nI k) (sI (sA S 35 f) 28 (nI t)) := by
    intro t ht j
    induction j with
    | zero =>
      intro k f hk hq
      obtain rfl : k = t := by omega
      rw [V_X8_tells_13, gI_sI, brt (nI_le (Nat.le_refl _) (by omega))]
      have e : (fun i => if k ≤ i ∧ i < k then gA S 36 i else f i) = f := by funext i; rw [if_neg (by omega)]
      rw [e] at hq
      exact hq
    | succ j ih =>
      intro k f hk hq
      rw [V_X8_tells_13, gI_sI, brf (nI_ge (by omega) (by omega)), gdt (vp_in_nI (by omega) (by omega)), gdt (vp_in_nI (by omega) (by omega)), ale, ale, nI_clamp (by omega), ← nI_succ, gA_sI, gA_sI, gA_sA, gA_sAn _ _ (by decide), sA_sI, sA_sA]
      refine ih (k + 1) _ (by omega) ?_
      have e : (fun i => if k + 1 ≤ i ∧ i < t then gA S 36 i else vp_updL f k (gA S 36 k) i) = fun i => if k ≤ i ∧ i < t then gA S 36 i else f i := by
        funext i
        by_cases h1 : i = k
        · subst h1; rw [if_neg (by omega), if_pos (by omega), updL_eq]
        · rw [updL_ne _ _ h1]
          by_cases h2 : k ≤ i ∧ i < t
          · rw [if_pos (by omega), if_pos h2]
          · rw [if_neg (by omega), if_neg h2]
      rw [e]; exact hq
  unfold V_X8_tells
  rw [ale, show mnI (nI n) (1000 : Int32) = nI (min n 1000) from mnI_nI (b := 1000) (by omega) (by omega), ale]
  have hm : min n 1000 ≤ 1000 := Nat.min_le_right _ _
  have := key (min n 1000) hm (min n 1000) 0 (gA S 35) (by omega) (by simpa using hp)
  rw [sA_self] at this
  exact ⟨_, this⟩
