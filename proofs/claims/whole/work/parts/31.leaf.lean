/-! THE STATE'S WORDS, AND THE LEAVES -/
theorem sA_sI (S : SS) (a k : Nat) (f : Nat → Int64) (v : Int32) : sA (sI S k v) a f = sI (sA S a f) k v := rfl
theorem va_upup {α : Type} (f : Nat → α) (k : Nat) (v w : α) : va_up (va_up f k v) k w = va_up f k w := by
  funext j; unfold va_up; by_cases h : j = k <;> simp [h]
theorem va_upself {α : Type} (f : Nat → α) (k : Nat) : va_up f k (f k) = f := by
  funext j; unfold va_up; by_cases h : j = k <;> simp [h]
theorem sI_sI (S : SS) (k : Nat) (v w : Int32) : sI (sI S k v) k w = sI S k w := by
  unfold sI; simp only [va_upup]
theorem sA_sA (S : SS) (a : Nat) (f g : Nat → Int64) : sA (sA S a f) a g = sA S a g := by
  unfold sA; simp only [va_upup]
theorem sJ_sJ (S : SS) (k : Nat) (v w : Int64) : sJ (sJ S k v) k w = sJ S k w := by
  unfold sJ; simp only [va_upup]
theorem sB_sB (S : SS) (a : Nat) (f g : Nat → Int32) : sB (sB S a f) a g = sB S a g := by
  unfold sB; simp only [va_upup]
theorem sA_self (S : SS) (a : Nat) : sA S a (gA S a) = S := by
  unfold sA gA; rw [va_upself]
theorem sI_self (S : SS) (k : Nat) : sI S k (gI S k) = S := by
  unfold sI gI; rw [va_upself]
theorem gI_sI (S : SS) (k : Nat) (v : Int32) : gI (sI S k v) k = v := if_pos rfl
theorem gI_sIn (S : SS) {k j : Nat} (v : Int32) (h : j ≠ k) : gI (sI S k v) j = gI S j := if_neg h
theorem gA_sA (S : SS) (k : Nat) (v : Nat → Int64) : gA (sA S k v) k = v := if_pos rfl
theorem gA_sAn (S : SS) {k j : Nat} (v : Nat → Int64) (h : j ≠ k) : gA (sA S k v) j = gA S j := if_neg h
theorem gB_sB (S : SS) (k : Nat) (v : Nat → Int32) : gB (sB S k v) k = v := if_pos rfl
theorem gJ_sJ (S : SS) (k : Nat) (v : Int64) : gJ (sJ S k v) k = v := if_pos rfl
theorem gI_sA (S : SS) (k j : Nat) (v : Nat → Int64) : gI (sA S k v) j = gI S j := rfl
theorem gA_sI (S : SS) (k j : Nat) (v : Int32) : gA (sI S k v) j = gA S j := rfl
theorem updL_eq (f : Nat → Int64) (k : Nat) (x : Int64) : vp_updL f k x k = x := if_pos rfl
theorem updL_ne (f : Nat → Int64) {k j : Nat} (x : Int64) (h : j ≠ k) : vp_updL f k x j = f j := if_neg h
-- Numbers
section NUM
variable {si ai L n k : Nat} {S : SS}
theorem x2_has {post : Int32 → SS → Prop} (h : gI S si = nI n) (hk : k < n) (hn : n ≤ L) (hL : L < 2147483648) : V_X2_has si ai L (nI k) S post = post 1 S := by
  unfold V_X2_has
  rw [brf (nI_pos (by omega)), h, brf (fun q => nI_ge hk (by omega) q), brf (c := Int32.ofNat L ≤ nI k) (nI_ge (Nat.lt_of_lt_of_le hk hn) hL)]
theorem x2_at {post : Int64 → SS → Prop} (h : gI S si = nI n) (hk : k < n) (hn : n ≤ L) (hL : L < 2147483648) : V_X2_at si ai L (nI k) S post = post (gA S ai k) S := by
  unfold V_X2_at
  rw [x2_has h hk hn hL, brf (by decide), gdt (vp_in_nI (by omega) hL), nI_clamp (by omega)]
theorem x2_put {v : Int64} {post : SS → Prop} (h : gI S si = nI n) (hk : k < n) (hn : n ≤ L) (hL : L < 2147483648) : V_X2_put si ai L (nI k) v S post = post (sA S ai (vp_updL (gA S ai) k v)) := by
  unfold V_X2_put
  rw [x2_has h hk hn hL, brf (by decide), gdt (vp_in_nI (by omega) hL), ale, nI_clamp (by omega)]
theorem x2_add {v : Int64} {post : Int32 → SS → Prop} (h : gI S si = nI n) (hn : n < L) (hL : L < 2147483648) : V_X2_add si ai L v S post = post 1 (sI (sA S ai (vp_updL (gA S ai) n v)) si (nI (n + 1))) := by
  unfold V_X2_add
  rw [h, brf (nI_pos (by omega)), brt (c := nI n < Int32.ofNat L) (nI_lt hn hL), gdt (vp_in_nI hn hL), ale, ale, nI_clamp (by omega), gI_sA, h, ← nI_succ]
theorem x2_addF {v : Int64} {post : Int32 → SS → Prop} (h : gI S si = nI L) (hL : L < 2147483648) : V_X2_add si ai L v S post = post 0 S := by
  unfold V_X2_add
  rw [h, brf (nI_pos (by omega)), brf (c := nI L < Int32.ofNat L) (nI_nlt (Nat.le_refl _) hL)]
theorem x2_empty {post : SS → Prop} : V_X2_empty si ai L S post = post (sI S si 0) := by
  unfold V_X2_empty; rw [ale]
theorem x2_zeros {post : SS → Prop} (hn : n ≤ L) (hL : L < 2147483648) (hp : post (sI (sA S ai (fun i => if i < n then 0 else gA S ai i)) si (nI n))) : V_X2_zeros si ai L (nI n) S post := by
  unfold V_X2_zeros
  rw [ale]
  have key : ∀ (j k : Nat) (f : Nat → Int64), k + j = n → post (sI (sA S ai (fun i => if k ≤ i ∧ i < n then 0 else f i)) si (nI n)) → V_X2_zeros_7 si ai L (nI n) post (j + 1) (nI k) (sI (sA S ai f) si (nI k)) := by
    intro j
    induction j with
    | zero =>
      intro k f hk hq
      have hk : k = n := by omega
      subst hk
      rw [V_X2_zeros_7, brt (nI_le (Nat.le_refl _) (by omega))]
      have e : (fun i => if k ≤ i ∧ i < k then (0 : Int64) else f i) = f := by funext i; rw [if_neg (by omega)]
      rw [e] at hq
      exact hq
    | succ j ih =>
      intro k f hk hq
      rw [V_X2_zeros_7, brf (nI_ge (by omega) (by omega)), x2_add (n := k) (gI_sI _ _ _) (by omega) hL, ale, ← nI_succ, gA_sI, gA_sA, sA_sI, sI_sI, sA_sA]
      refine ih (k + 1) _ (by omega) ?_
      have e : (fun i => if k + 1 ≤ i ∧ i < n then (0 : Int64) else vp_updL f k 0 i) = fun i => if k ≤ i ∧ i < n then 0 else f i := by
        funext i
        by_cases h1 : i = k
        · subst h1; rw [if_neg (by omega), if_pos (by omega), updL_eq]
        · rw [updL_ne _ _ h1]
          by_cases h2 : k ≤ i ∧ i < n
          · rw [if_pos (by omega), if_pos h2]
          · rw [if_neg (by omega), if_neg h2]
      rw [e]; exact hq
  refine ⟨n + 1, ?_⟩
  have := key n 0 (gA S ai) (by omega) (by simpa using hp)
  rw [sA_self] at this
  exact this
end NUM
section NUM2
variable {si ai L si0 ai0 L0 n : Nat} {S : SS}
theorem x2_become {post : SS → Prop} (h : gI S si0 = nI n) (hn : n ≤ L) (hn0 : n ≤ L0) (hL : L < 2147483648) (hL0 : L0 < 2147483648) (hs : si0 ≠ si) (ha : ai0 ≠ ai) (hp : post (sI (sA S ai (fun i => if i < n then gA S ai0 i else gA S ai i)) si (nI n))) : V_X2_become si ai L si0 ai0 L0 S post := by
  unfold V_X2_become
  rw [ale]
  have key : ∀ (j k : Nat) (f : Nat → Int64), k + j = n → post (sI (sA S ai (fun i => if k ≤ i ∧ i < n then gA S ai0 i else f i)) si (nI n)) → V_X2_become_7 si ai L si0 ai0 L0 post (j + 1) (nI k) (sI (sA S ai f) si (nI k)) := by
    intro j
    induction j with
    | zero =>
      intro k f hk hq
      have hk : k = n := by omega
      subst hk
      rw [V_X2_become_7, gI_sIn _ _ hs, gI_sA, h, brt (nI_le (Nat.le_refl _) (by omega))]
      have e : (fun i => if k ≤ i ∧ i < k then gA S ai0 i else f i) = f := by funext i; rw [if_neg (by omega)]
      rw [e] at hq
      exact hq
    | succ j ih =>
      intro k f hk hq
      have h0 : gI (sI (sA S ai f) si (nI k)) si0 = nI n := by rw [gI_sIn _ _ hs, gI_sA, h]
      rw [V_X2_become_7, h0, brf (nI_ge (by omega) (by omega)), x2_at h0 (by omega) hn0 hL0, x2_add (n := k) (gI_sI _ _ _) (by omega) hL, ale, ← nI_succ]
      rw [gA_sI, gA_sI, gA_sAn _ _ ha, gA_sA, sA_sI, sI_sI, sA_sA]
      refine ih (k + 1) _ (by omega) ?_
      have e : (fun i => if k + 1 ≤ i ∧ i < n then gA S ai0 i else vp_updL f k (gA S ai0 k) i) = fun i => if k ≤ i ∧ i < n then gA S ai0 i else f i := by
        funext i
        by_cases h1 : i = k
        · subst h1; rw [if_neg (by omega), if_pos (by omega), updL_eq]
        · rw [updL_ne _ _ h1]
          by_cases h2 : k ≤ i ∧ i < n
          · rw [if_pos (by omega), if_pos h2]
          · rw [if_neg (by omega), if_neg h2]
      rw [e]; exact hq
  refine ⟨n + 1, ?_⟩
  have := key n 0 (gA S ai) (by omega) (by simpa using hp)
  rw [sA_self] at this
  exact this
end NUM2
