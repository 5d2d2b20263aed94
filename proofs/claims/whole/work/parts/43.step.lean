/-! A STEP: class and reference -/
theorem fmd_rst {x : Int64} {m : Nat} (h2 : 1 ≤ m) (hm : m ≤ 64) : (fmd x (nI m).toInt64).toInt32 = nI (rst x m) := by
  have hy : ((nI m).toInt64).toInt = (m : Int) := by rw [i64_toInt, nI_toInt (by omega)]
  have h3 := Int.emod_nonneg x.toInt (show (m : Int) ≠ 0 by omega)
  have h4 := Int.emod_lt_of_pos x.toInt (show (0 : Int) < m by omega)
  have hf : (fmd x (nI m).toInt64).toInt = x.toInt % (m : Int) := by rw [fmd_toInt (by rw [hy]; omega), hy]
  show _ = nI (x.toInt % (m : Int)).toNat
  exact of32 (by rw [l2i_toInt (by rw [hf]; omega) (by rw [hf]; omega), hf]; omega) (by omega)
/-- the first fraction that x is whole by, from k on; n if there is none -/
def ffit (q : Nat → Int64) (x : Int64) : Nat → Nat → Nat
  | 0, k => k
  | j + 1, k => if lrm x (q k) = (0 : Int64) then k else ffit q x j (k + 1)
theorem ffit_le (q : Nat → Int64) (x : Int64) : ∀ j k, k ≤ ffit q x j k ∧ ffit q x j k ≤ k + j := by
  intro j
  induction j with
  | zero => intro k; exact ⟨Nat.le_refl _, Nat.le_refl _⟩
  | succ j ih =>
    intro k
    unfold ffit
    by_cases c : lrm x (q k) = (0 : Int64)
    · rw [if_pos c]; omega
    · rw [if_neg c]; have := ih (k + 1); omega
/-- what is held, both sides of it, in a state -/
def RK (S : SS) : Prop := Rki (gI S 0) (gI S 25) (Rru (gI S 1) (gI S 26) (gA S 0) (gA S 1) (gA S 2) (gA S 32)) (Rli (gI S 4) (gI S 27) (gA S 9) (gA S 10) (gA S 33) (gA S 34))
/-- what x steps to: its number, or the two that are none -/
def aftR (m : Nat) (a b d : Nat → Int64) (x : Int64) : Int64 := if -1000000000000000 ≤ (stp a b d x (rst x m)).toInt ∧ (stp a b d x (rst x m)).toInt ≤ 1000000000000000 then stp a b d x (rst x m) else 3000000000000000
def aftL (n : Nat) (p q : Nat → Int64) (x : Int64) : Int64 := if ¬ (1 : Int64) ≤ x ∨ ffit q x n 0 = n then 2000000000000000 else if x / q (ffit q x n 0) ≤ (1000000000000000 : Int64) / p (ffit q x n 0) then x / q (ffit q x n 0) * p (ffit q x n 0) else 3000000000000000
def aft (S : SS) (x : Int64) : Int64 := if gI S 0 = 1 then aftR (gI S 1).toInt.toNat (gA S 0) (gA S 1) (gA S 2) x else aftL (gI S 4).toInt.toNat (gA S 9) (gA S 10) x
theorem nI_nat {m : Nat} (h : m < 2147483648) : (nI m).toInt.toNat = m := by rw [nI_toInt h]; rfl
section
variable {n k : Nat} {S : SS}
theorem x0_has {post : Int32 → SS → Prop} (h : gI S 4 = nI n) (hk : k < n) (hn : n ≤ 40) : V_X0_has (nI k) S post = post 1 S := by
  unfold V_X0_has
  rw [brf (nI_pos (by omega)), h, brf (fun q => nI_ge hk (by omega) q), brf (c := (40 : Int32) ≤ nI k) (nI_ge (b := 40) (by omega) (by omega))]
theorem le1_eq {x : Int64} (h : 1 ≤ x.toInt) (h1 : x ≤ (1 : Int64)) : x = 1 := by
  have h2 : x.toInt ≤ 1 := le64.mp h1
  exact eq64.mpr (by show x.toInt = 1; omega)
theorem x0_under {post : Int64 → SS → Prop} (h : gI S 4 = nI n) (hk : k < n) (hn : n ≤ 40) (hd : 1 ≤ (gA S 10 k).toInt) : V_X0_under (nI k) S post = post (gA S 10 k) S := by
  unfold V_X0_under
  rw [x0_has h hk hn, brf (by decide), gdt (vp_in_nI (by omega) (by omega)), nI_clamp (by omega)]
  by_cases h1 : gA S 10 k ≤ (1 : Int64)
  · rw [brt h1, le1_eq hd h1]
  · rw [brf h1, gdt (vp_in_nI (by omega) (by omega))]
theorem x0_over {post : Int64 → SS → Prop} (h : gI S 4 = nI n) (hk : k < n) (hn : n ≤ 40) (hd : 1 ≤ (gA S 9 k).toInt) : V_X0_over (nI k) S post = post (gA S 9 k) S := by
  unfold V_X0_over
  rw [x0_has h hk hn, brf (by decide), gdt (vp_in_nI (by omega) (by omega)), nI_clamp (by omega)]
  by_cases h1 : gA S 9 k ≤ (1 : Int64)
  · rw [brt h1, le1_eq hd h1]
  · rw [brf h1, gdt (vp_in_nI (by omega) (by omega))]
theorem nz_of {x : Int64} (h : 1 ≤ x.toInt) : ¬ x = 0 := fun e => by rw [e] at h; exact absurd h (by decide)
theorem x0_ff10 {x : Int64} {post : Int32 → SS → Prop} (h : gI S 4 = nI n) (hn : n ≤ 40) (hq : ∀ i, i < n → 1 ≤ (gA S 10 i).toInt) : ∀ j k, k + j = n → post (if ffit (gA S 10) x j k = n then -1 else nI (ffit (gA S 10) x j k)) S → V_X0_firstFit_10 x post (j + 1) (nI k) S := by
  intro j
  induction j with
  | zero =>
    intro k hk hp
    obtain rfl : k = n := by omega
    rw [V_X0_firstFit_10, h, brt (nI_le (Nat.le_refl _) (by omega))]
    unfold ffit at hp
    rw [if_pos rfl] at hp
    exact hp
  | succ j ih =>
    intro k hk hp
    rw [V_X0_firstFit_10, h, brf (nI_ge (by omega) (by omega)), x0_under h (by omega) hn (hq k (by omega)), gdt (nz_of (hq k (by omega)))]
    unfold ffit at hp
    by_cases c : lrm x (gA S 10 k) = (0 : Int64)
    · rw [brt c]
      rw [if_pos c, if_neg (by omega)] at hp
      exact hp
    · rw [brf c, ale, ← nI_succ]
      rw [if_neg c] at hp
      exact ih (k + 1) (by omega) hp
theorem x8_way20 {x : Int64} {post : Int32 → SS → Prop} (h : gI S 27 = nI n) (hx : (1 : Int64) ≤ x) (hn : n ≤ 40) (hq : ∀ i, i < n → 1 ≤ (gA S 34 i).toInt) (q : Nat → Int64) (he : ∀ i, i < n → gA S 34 i = q i) : ∀ j k, k + j = n → post (if ffit q x j k = n then -1 else nI (ffit q x j k)) S → V_X8_way_20 x post (j + 1) (nI k) S := by
  have hx1 : ¬ x < (1 : Int64) := Int64.not_lt.mpr hx
  intro j
  induction j with
  | zero =>
    intro k hk hp
    obtain rfl : k = n := by omega
    rw [V_X8_way_20, h, brt (nI_le (Nat.le_refl _) (by omega))]
    unfold ffit at hp
    rw [if_pos rfl] at hp
    exact hp
  | succ j ih =>
    intro k hk hp
    rw [V_X8_way_20, h, brf (nI_ge (by omega) (by omega)), brf hx1, gdt (vp_in_nI (by omega) (by omega)), nI_clamp (by omega), gdt (nz_of (hq k (by omega))), he k (by omega)]
    unfold ffit at hp
    by_cases c : lrm x (q k) = (0 : Int64)
    · rw [brt c]
      rw [if_pos c, if_neg (by omega)] at hp
      exact hp
    · rw [brf c, ale, ← nI_succ]
      rw [if_neg c] at hp
      exact ih (k + 1) (by omega) hp
end
