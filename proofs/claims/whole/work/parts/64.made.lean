/-! THE MACHINE's ACTS; MADE -/
theorem i32_64 (x : Int32) : x.toInt64.toInt32 = x := by
  have h1 := Int32.le_toInt x
  have h2 := Int32.toInt_lt x
  exact eq32.mpr (by rw [l2i_toInt (by rw [i64_toInt]; omega) (by rw [i64_toInt]; omega), i64_toInt])
/-- n acts on both sides -/
def MAc (S : SS) (n : Nat) : Prop := n ≤ 12 ∧ gI S 12 = nI n ∧ gI S 13 = nI n ∧ gI S 14 = nI n ∧ gI S 15 = nI n ∧ gI S 31 = nI n ∧ ∀ k, k < n → gA S 22 k = (gB S 3 (4 * k)).toInt64 ∧ gA S 23 k = (gB S 3 (4 * k + 1)).toInt64 ∧ gA S 24 k = (gB S 3 (4 * k + 2)).toInt64 ∧ gA S 25 k = (gB S 3 (4 * k + 3)).toInt64 ∧ (0 ≤ (gB S 3 (4 * k)).toInt ∧ (gB S 3 (4 * k)).toInt ≤ 2) ∧ ((gB S 3 (4 * k)).toInt ≠ 2 → (0 ≤ (gB S 3 (4 * k + 1)).toInt ∧ (gB S 3 (4 * k + 1)).toInt ≤ 3) ∧ (0 ≤ (gB S 3 (4 * k + 2)).toInt ∧ (gB S 3 (4 * k + 2)).toInt ≤ 11)) ∧ ((gB S 3 (4 * k)).toInt = 1 → 0 ≤ (gB S 3 (4 * k + 3)).toInt ∧ (gB S 3 (4 * k + 3)).toInt ≤ 11)
theorem mac_of {S : SS} (h : RR S) : ∃ n, MAc S n := h.2.2.2.2.2.1
theorem mac_kp {is js bs as : List Nat} {S T : SS} {n : Nat} (h : MAc S n) (k : Kp is js bs as S T) (hi : ∀ j ∈ [12, 13, 14, 15, 31], j ∉ is) (hb : 3 ∉ bs) (ha : ∀ j ∈ [22, 23, 24, 25], j ∉ as) : MAc T n ∧ gB T 3 = gB S 3 := by
  obtain ⟨kI, -, kB, kA⟩ := k
  unfold MAc
  rw [kI 12 (hi 12 (by decide)), kI 13 (hi 13 (by decide)), kI 14 (hi 14 (by decide)), kI 15 (hi 15 (by decide)), kI 31 (hi 31 (by decide)), kB 3 hb, kA 22 (ha 22 (by decide)), kA 23 (ha 23 (by decide)), kA 24 (ha 24 (by decide)), kA 25 (ha 25 (by decide))]
  exact ⟨h, rfl⟩
section
variable {S : SS} {n k : Nat} {post : Int32 → SS → Prop}
theorem x1_kind (h : MAc S n) (hk : k < n) : V_X1_kind (nI k) S post = post (gB S 3 (4 * k)) S := by
  obtain ⟨hn, h12, -, -, -, -, hf⟩ := h
  unfold V_X1_kind
  rw [x2_at h12 hk hn (by omega), (hf k hk).1, i32_64]
theorem x1_heap (h : MAc S n) (hk : k < n) : V_X1_heap (nI k) S post = post (gB S 3 (4 * k + 1)) S := by
  obtain ⟨hn, -, h13, -, -, -, hf⟩ := h
  unfold V_X1_heap
  rw [x2_at h13 hk hn (by omega), (hf k hk).2.1, i32_64]
theorem x1_next (h : MAc S n) (hk : k < n) : V_X1_next (nI k) S post = post (gB S 3 (4 * k + 2)) S := by
  obtain ⟨hn, -, -, h14, -, -, hf⟩ := h
  unfold V_X1_next
  rw [x2_at h14 hk hn (by omega), (hf k hk).2.2.1, i32_64]
theorem x1_other (h : MAc S n) (hk : k < n) : V_X1_otherwise (nI k) S post = post (gB S 3 (4 * k + 3)) S := by
  obtain ⟨hn, -, -, -, h15, -, hf⟩ := h
  unfold V_X1_otherwise
  rw [x2_at h15 hk hn (by omega), (hf k hk).2.2.2.1, i32_64]
end
/-- primes as whole numbers -/
abbrev pmN (i : Nat) : Nat := (primeF i).toInt.toNat
theorem pm_tab : ∀ i, i < 28 → (primeF i).toInt64 = lN (pmN i) ∧ 1 ≤ pmN i ∧ pmN i ≤ 107 := by decide +kernel
theorem x7_goN {k : Nat} {S : SS} {post : Int64 → SS → Prop} (hk : k < 12) (hp : post (lN (pmN (2 * k + 4))) S) : V_X7_goPrime (nI k) S post := by
  refine x7_goP hk ?_
  rw [(pm_tab (2 * k + 4) (by omega)).1]; exact hp
theorem x7_waN {k : Nat} {S : SS} {post : Int64 → SS → Prop} (hk : k < 12) (hp : post (lN (pmN (2 * k + 5))) S) : V_X7_waitPrime (nI k) S post := by
  unfold V_X7_waitPrime
  rw [nmul2 (by omega), show (4 : Int32) = nI 4 from rfl, nadd (by omega), show (1 : Int32) = nI 1 from rfl, nadd (by omega), x7_prime (by omega), show 4 + 2 * k + 1 = 2 * k + 5 by omega, (pm_tab (2 * k + 5) (by omega)).1]
  exact hp
theorem x8_goN {k : Nat} {S : SS} {post : Int32 → SS → Prop} (hk : k < 12) (hp : ∀ v : Int32, v.toInt64 = lN (pmN (2 * k + 4)) → post v S) : V_X8_goPrime (nI k) S post :=
  x8_goP hk (hp _ (pm_tab (2 * k + 4) (by omega)).1)
theorem x8_waN {k : Nat} {S : SS} {post : Int32 → SS → Prop} (hk : k < 12) (hp : ∀ v : Int32, v.toInt64 = lN (pmN (2 * k + 5)) → post v S) : V_X8_waitPrime (nI k) S post := by
  unfold V_X8_waitPrime
  rw [nmul2 (by omega), show (1 : Int32) = nI 1 from rfl, nadd (by omega)]
  exact x8_prime (by omega) (hp _ (by rw [show 2 * k + 1 + 4 = 2 * k + 5 by omega]; exact (pm_tab (2 * k + 5) (by omega)).1))
theorem x7_prAny {p : Int32} {S : SS} {post : Int64 → SS → Prop} (hp : ∀ v, post v S) : V_X7_prime p S post := by
  unfold V_X7_prime
  refine ⟨fun _ => hp _, fun c => ⟨fun _ => hp _, fun c2 => ⟨vp_in_iff.mpr ⟨?_, ?_⟩, hp _⟩⟩⟩
  · have d : ¬ p.toInt < 0 := fun q => c (lt32.mpr q)
    omega
  · have d : ¬ (28 : Int) ≤ p.toInt := fun q => c2 (le32.mpr q)
    show p.toInt < 28
    omega
theorem x8_hpAny {p : Int32} {S : SS} {post : Int32 → SS → Prop} (hp : ∀ v, post v S) : V_X8_heapPrime p S post :=
  ⟨fun _ => hp _, fun _ => ⟨fun _ => hp _, fun _ => ⟨fun _ => hp _, fun _ => hp _⟩⟩⟩
/-- a list of fractions: what came in, kept in lowest terms -/
def FL (S : SS) (ni pi qi : Nat) (L : List (Nat × Nat)) : Prop := gI S ni = nI L.length ∧ ∀ i v, L[i]? = some v → gA S pi i = lN (v.1 / Nat.gcd v.1 v.2) ∧ gA S qi i = lN (v.2 / Nat.gcd v.1 v.2)
theorem fl_nil {S : SS} {ni pi qi : Nat} (h : gI S ni = 0) : FL S ni pi qi [] := ⟨h, fun i v hv => by simp at hv⟩
theorem fl_kp {is js bs as : List Nat} {S T : SS} {ni pi qi : Nat} {L : List (Nat × Nat)} (h : FL S ni pi qi L) (k : Kp is js bs as S T) (h1 : ni ∉ is) (h2 : pi ∉ as) (h3 : qi ∉ as) : FL T ni pi qi L :=
  ⟨(k.1 ni h1).trans h.1, fun i v hv => by rw [k.2.2.2 pi h2, k.2.2.2 qi h3]; exact h.2 i v hv⟩
theorem fl_add {S U : SS} {ni pi qi : Nat} {L : List (Nat × Nat)} {p q : Nat} (h : FL S ni pi qi L) (e1 : gI U ni = nI (L.length + 1)) (e2 : gA U pi = vp_updL (gA S pi) L.length (lN (p / Nat.gcd p q))) (e3 : gA U qi = vp_updL (gA S qi) L.length (lN (q / Nat.gcd p q))) : FL U ni pi qi (L ++ [(p, q)]) := by
  refine ⟨by rw [List.length_append]; exact e1, fun i v hv => ?_⟩
  have hi : i < (L ++ [(p, q)]).length := (List.getElem?_eq_some_iff.mp hv).1
  rw [List.length_append, List.length_singleton] at hi
  rw [e2, e3]
  by_cases c : i = L.length
  · subst c
    rw [List.getElem?_concat_length] at hv
    rw [updL_eq, updL_eq, ← Option.some.inj hv]
    exact ⟨rfl, rfl⟩
  · rw [updL_ne _ _ c, updL_ne _ _ c]
    rw [List.getElem?_append_left (by omega)] at hv
    exact h.2 i v hv
section
variable {S : SS} {L : List (Nat × Nat)} {p q : Nat}
theorem gcd_fine (hp : 1 ≤ p ∧ p ≤ 1000) (hq : 1 ≤ q ∧ q ≤ 1000) : Nat.gcd p q ≠ 0 ∧ Nat.gcd p q ≤ 1000 ∧ ¬ lN (Nat.gcd p q) = 0 ∧ cdn p q = Nat.gcd p q := by
  have h0 : Nat.gcd p q ≠ 0 := fun z => by
    have := Nat.eq_zero_of_gcd_eq_zero_left z
    omega
  have hle := Nat.le_of_dvd (by omega) (Nat.gcd_dvd_left p q)
  exact ⟨h0, by omega, fun z => h0 ((lN0 (by omega)).mp z), by unfold cdn; rw [if_neg h0]⟩
theorem nab_lN {p : Nat} (h : p ≤ 1000) : (lN p).toInt.natAbs = p := by rw [lN_int (by omega)]; rfl
theorem x0_addL {post : Int32 → SS → Prop} (h : FL S 4 9 10 L) (hl : L.length < 40) (hp : 1 ≤ p ∧ p ≤ 1000) (hq : 1 ≤ q ∧ q ≤ 1000) (hk : ∀ U, Kp [4] [] [] [9, 10] S U → FL U 4 9 10 (L ++ [(p, q)]) → post 1 U) : V_X0_add (lN p) (lN q) S post := by
  obtain ⟨g0, g1, nz, hc⟩ := gcd_fine hp hq
  unfold V_X0_add
  rw [h.1, brf (nI_pos (by omega)), brt (c := nI L.length < (40 : Int32)) (nI_lt (b := 40) hl (by omega))]
  refine x7_cd (by rw [lN_int (by omega)]; omega) (by rw [lN_int (by omega)]; omega) ?_
  rw [nab_lN hp.2, nab_lN hq.2, hc]
  refine ⟨nz, ?_⟩
  rw [h.1, gdt (vp_in_nI hl (by omega)), ale]
  refine ⟨nz, ?_⟩
  rw [gI_sA, h.1, gdt (vp_in_nI hl (by omega)), ale, ale, gI_sA, gI_sA, h.1, nI_clamp (by omega), nadd1, lN_divN (by omega) (by omega) (by omega), lN_divN (by omega) (by omega) (by omega)]
  refine hk _ (kp_sI (kp_sA (kp_sA (kp_refl _ _ _ _ S) (by decide)) (by decide)) (by decide)) (fl_add h (gI_sI _ _ _) rfl rfl)
theorem x8_addL {post : SS → Prop} (h : FL S 27 33 34 L) (hl : L.length < 40) (hp : 1 ≤ p ∧ p ≤ 1000) (hq : 1 ≤ q ∧ q ≤ 1000) (hk : ∀ U, Kp [27] [] [] [33, 34] S U → FL U 27 33 34 (L ++ [(p, q)]) → post U) : V_X8_add (lN p) (lN q) S post := by
  obtain ⟨g0, g1, nz, hc⟩ := gcd_fine hp hq
  unfold V_X8_add
  refine x8_co (by rw [lN_int (by omega)]; omega) (by rw [lN_int (by omega)]; omega) ?_
  rw [nab_lN hp.2, nab_lN hq.2]
  refine ⟨nz, ?_⟩
  rw [h.1, gdt (vp_in_nI hl (by omega)), ale]
  refine ⟨nz, ?_⟩
  rw [gI_sA, h.1, gdt (vp_in_nI hl (by omega)), ale, ale, gI_sA, gI_sA, h.1, nI_clamp (by omega), nadd1, lN_divN (by omega) (by omega) (by omega), lN_divN (by omega) (by omega) (by omega)]
  refine hk _ (kp_sI (kp_sA (kp_sA (kp_refl _ _ _ _ S) (by decide)) (by decide)) (by decide)) (fl_add h (gI_sI _ _ _) rfl rfl)
end
/-- an int that tells an act, a heap -/
abbrev iN (x : Int32) : Nat := x.toInt.toNat
theorem iN_eq {x : Int32} {h : Int} (h1 : 0 ≤ x.toInt ∧ x.toInt ≤ h) (h2 : h ≤ 100) : x = nI (iN x) ∧ (iN x : Int) ≤ h :=
  ⟨of32 (by show _ = ((x.toInt.toNat : Nat) : Int); omega) (by show x.toInt.toNat < _; omega), by show ((x.toInt.toNat : Nat) : Int) ≤ h; omega⟩
/-- the fractions of an act -/
def acL (b : Nat → Int32) (k : Nat) : List (Nat × Nat) :=
  if b (4 * k) = 0 then [(pmN (2 * iN (b (4 * k + 2)) + 5) * hpN (iN (b (4 * k + 1))), pmN (2 * k + 4))]
  else if b (4 * k) = 1 then [(pmN (2 * iN (b (4 * k + 2)) + 5), pmN (2 * k + 4) * hpN (iN (b (4 * k + 1)))), (pmN (2 * iN (b (4 * k + 3)) + 5), pmN (2 * k + 4))]
  else [(1, pmN (2 * k + 4))]
def mAL (b : Nat → Int32) : Nat → List (Nat × Nat)
  | 0 => []
  | k + 1 => mAL b k ++ acL b k
def mBL : Nat → List (Nat × Nat)
  | 0 => []
  | k + 1 => mBL k ++ [(pmN (2 * k + 4), pmN (2 * k + 5))]
/-- how many of the first k acts take -/
def tkN (b : Nat → Int32) : Nat → Nat
  | 0 => 0
  | k + 1 => tkN b k + if b (4 * k) = 1 then 1 else 0
theorem mBL_len (k : Nat) : (mBL k).length = k := by
  induction k with
  | zero => rfl
  | succ k ih => show (mBL k ++ _).length = _; rw [List.length_append, ih]; rfl
theorem acL_len (b : Nat → Int32) (k : Nat) : (acL b k).length = 1 + if b (4 * k) = 1 then 1 else 0 := by
  unfold acL
  by_cases c : b (4 * k) = 0
  · rw [if_pos c, if_neg (by rw [c]; decide)]; rfl
  · rw [if_neg c]
    by_cases c1 : b (4 * k) = 1
    · rw [if_pos c1, if_pos c1]; rfl
    · rw [if_neg c1, if_neg c1]; rfl
theorem mAL_len (b : Nat → Int32) (k : Nat) : (mAL b k).length = k + tkN b k := by
  induction k with
  | zero => rfl
  | succ k ih =>
    show (mAL b k ++ acL b k).length = k + 1 + (tkN b k + _)
    rw [List.length_append, ih, acL_len]
    omega
theorem mAL_mono (b : Nat → Int32) {k n : Nat} (h : k ≤ n) : k + tkN b k ≤ n + tkN b n := by
  induction h with
  | refl => exact Nat.le_refl _
  | step _ ih => refine Nat.le_trans ih ?_; show _ ≤ _ + 1 + (tkN b _ + _); omega
theorem mul_pm {p h : Nat} (hp : 1 ≤ p ∧ p ≤ 107) : 1 ≤ p * hpN h ∧ p * hpN h ≤ 1000 := by
  have a := hpN_le h
  have b : p * hpN h ≤ 107 * 7 := Nat.mul_le_mul hp.2 a.2
  exact ⟨Nat.mul_le_mul hp.1 a.1, by omega⟩
theorem pm_le {i : Nat} (h : i < 28) : 1 ≤ pmN i ∧ pmN i ≤ 1000 := by
  have := pm_tab i h
  exact ⟨this.2.1, by have := this.2.2; omega⟩
