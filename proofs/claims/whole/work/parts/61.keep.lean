/-! WHAT A CALL LEAVES AS IT WAS; ROWS AS LISTS -/
/-- T differs from S at most in the int fields is, the long fields js, the int rows bs, the long rows as -/
def Kp (is js bs as : List Nat) (S T : SS) : Prop := (∀ k, k ∉ is → gI T k = gI S k) ∧ (∀ k, k ∉ js → gJ T k = gJ S k) ∧ (∀ k, k ∉ bs → gB T k = gB S k) ∧ (∀ k, k ∉ as → gA T k = gA S k)
theorem kp_refl (is js bs as : List Nat) (S : SS) : Kp is js bs as S S := ⟨fun _ _ => rfl, fun _ _ => rfl, fun _ _ => rfl, fun _ _ => rfl⟩
section
variable {is js bs as : List Nat} {S T U : SS}
theorem kp_trans (h : Kp is js bs as S T) (g : Kp is js bs as T U) : Kp is js bs as S U :=
  ⟨fun k n => (g.1 k n).trans (h.1 k n), fun k n => (g.2.1 k n).trans (h.2.1 k n), fun k n => (g.2.2.1 k n).trans (h.2.2.1 k n), fun k n => (g.2.2.2 k n).trans (h.2.2.2 k n)⟩
theorem kp_mono {is2 js2 bs2 as2 : List Nat} (h : Kp is js bs as S T) (hi : ∀ k ∈ is, k ∈ is2) (hj : ∀ k ∈ js, k ∈ js2) (hb : ∀ k ∈ bs, k ∈ bs2) (ha : ∀ k ∈ as, k ∈ as2) : Kp is2 js2 bs2 as2 S T :=
  ⟨fun k n => h.1 k (fun q => n (hi k q)), fun k n => h.2.1 k (fun q => n (hj k q)), fun k n => h.2.2.1 k (fun q => n (hb k q)), fun k n => h.2.2.2 k (fun q => n (ha k q))⟩
theorem kp_sI {k : Nat} {v : Int32} (h : Kp is js bs as S T) (hk : k ∈ is) : Kp is js bs as S (sI T k v) :=
  ⟨fun j n => (gI_sIn T v (show ¬ j = k from fun e => n (by rw [e]; exact hk))).trans (h.1 j n), h.2.1, h.2.2.1, h.2.2.2⟩
theorem kp_sJ {k : Nat} {v : Int64} (h : Kp is js bs as S T) (hk : k ∈ js) : Kp is js bs as S (sJ T k v) :=
  ⟨h.1, fun j n => (if_neg (show ¬ j = k from fun e => n (by rw [e]; exact hk)) : gJ (sJ T k v) j = gJ T j).trans (h.2.1 j n), h.2.2.1, h.2.2.2⟩
theorem kp_sB {k : Nat} {f : Nat → Int32} (h : Kp is js bs as S T) (hk : k ∈ bs) : Kp is js bs as S (sB T k f) :=
  ⟨h.1, h.2.1, fun j n => (if_neg (show ¬ j = k from fun e => n (by rw [e]; exact hk)) : gB (sB T k f) j = gB T j).trans (h.2.2.1 j n), h.2.2.2⟩
theorem kp_sA {k : Nat} {f : Nat → Int64} (h : Kp is js bs as S T) (hk : k ∈ as) : Kp is js bs as S (sA T k f) :=
  ⟨h.1, h.2.1, h.2.2.1, fun j n => (gA_sAn T f (show ¬ j = k from fun e => n (by rw [e]; exact hk))).trans (h.2.2.2 j n)⟩
end
/-- what no call shows -/
def tI : List Nat := [3, 8, 9, 11, 16, 17, 20, 30]
def tJ : List Nat := [0, 1, 2, 3, 4, 5]
def tB : List Nat := [1, 2]
def tA : List Nat := [6, 7, 8, 13, 14, 16, 17, 18, 19, 20, 21, 26, 36, 37, 38, 39, 40, 41]
/-- that, and the row -/
def rI : List Nat := 7 :: 28 :: tI
def rA : List Nat := 12 :: 35 :: tA
theorem RR_row {S T : SS} (h : RR S) (k : Kp rI tJ tB rA S T) (hs : Rs0 (gA T 17) (gA T 18) (gA T 19)) (hr : Rro (gI T 7) (gI T 28) (gA T 12) (gA T 35)) : RR T := by
  obtain ⟨kI, -, kB, kA⟩ := k
  obtain ⟨h1, h2, h3, -, h5, h6, -⟩ := h
  refine ⟨?_, ?_, ?_, hr, ?_, ?_, hs⟩
  · rw [kI 2 (by decide), kI 23 (by decide), kI 24 (by decide), kA 3 (by decide), kA 4 (by decide), kA 5 (by decide), kA 31 (by decide)]; exact h1
  · rw [kI 0 (by decide), kI 25 (by decide), kI 1 (by decide), kI 26 (by decide), kI 4 (by decide), kI 27 (by decide), kA 0 (by decide), kA 1 (by decide), kA 2 (by decide), kA 32 (by decide), kA 9 (by decide), kA 10 (by decide), kA 33 (by decide), kA 34 (by decide)]; exact h2
  · rw [kI 5 (by decide), kI 6 (by decide), kI 21 (by decide), kI 22 (by decide), kA 11 (by decide), kA 30 (by decide)]; exact h3
  · rw [kI 10 (by decide), kI 29 (by decide), kA 15 (by decide), kB 0 (by decide)]; exact h5
  · rw [kI 12 (by decide), kI 13 (by decide), kI 14 (by decide), kI 15 (by decide), kI 31 (by decide), kA 22 (by decide), kA 23 (by decide), kA 24 (by decide), kA 25 (by decide), kB 3 (by decide)]; exact h6
theorem RR_same {S T : SS} (h : RR S) (k : Kp tI tJ tB tA S T) (hs : Rs0 (gA T 17) (gA T 18) (gA T 19)) : RR T := by
  refine RR_row h (kp_mono k (by decide) (by decide) (by decide) (by decide)) hs ?_
  obtain ⟨kI, -, kB, kA⟩ := k
  rw [kI 7 (by decide), kI 28 (by decide), kA 12 (by decide), kA 35 (by decide)]
  exact h.2.2.2.1
/-- a rule, or a list, in the place of what was held -/
theorem RR_held {S T : SS} (h : RR S) (k : Kp [0, 1, 3, 4, 20, 25, 26, 27] tJ [2] [0, 1, 2, 6, 7, 8, 9, 10, 32, 33, 34, 40] S T) (hk : RK T) : RR T := by
  obtain ⟨kI, -, kB, kA⟩ := k
  obtain ⟨h1, h2, h3, h4, h5, h6, h7⟩ := h
  refine ⟨?_, hk, ?_, ?_, ?_, ?_, ?_⟩
  · rw [kI 2 (by decide), kI 23 (by decide), kI 24 (by decide), kA 3 (by decide), kA 4 (by decide), kA 5 (by decide), kA 31 (by decide)]; exact h1
  · rw [kI 5 (by decide), kI 6 (by decide), kI 21 (by decide), kI 22 (by decide), kA 11 (by decide), kA 30 (by decide)]; exact h3
  · rw [kI 7 (by decide), kI 28 (by decide), kA 12 (by decide), kA 35 (by decide)]; exact h4
  · rw [kI 10 (by decide), kI 29 (by decide), kA 15 (by decide), kB 0 (by decide)]; exact h5
  · rw [kI 12 (by decide), kI 13 (by decide), kI 14 (by decide), kI 15 (by decide), kI 31 (by decide), kA 22 (by decide), kA 23 (by decide), kA 24 (by decide), kA 25 (by decide), kB 3 (by decide)]; exact h6
  · rw [kA 17 (by decide), kA 18 (by decide), kA 19 (by decide)]; exact h7
/-- a row that holds a list -/
def NR (S : SS) (si ai : Nat) (l : List Int64) : Prop := gI S si = nI l.length ∧ ∀ i v, l[i]? = some v → gA S ai i = v
/-- the first cells of a row -/
def FN (f : Nat → Int64) (l : List Int64) : Prop := ∀ i v, l[i]? = some v → f i = v
theorem fn_nil (f : Nat → Int64) : FN f [] := fun i v h => by simp at h
theorem lt_of_some {l : List Int64} {i : Nat} {v : Int64} (h : l[i]? = some v) : i < l.length := by
  have := List.getElem?_eq_some_iff.mp h
  exact this.1
theorem fn_add {f : Nat → Int64} {l : List Int64} {v : Int64} (h : FN f l) : FN (vp_updL f l.length v) (l ++ [v]) := by
  intro i w hw
  have hi := lt_of_some hw
  rw [List.length_append, List.length_singleton] at hi
  by_cases c : i = l.length
  · subst c
    rw [List.getElem?_concat_length] at hw
    rw [updL_eq]
    exact Option.some.inj hw
  · rw [updL_ne _ _ c]
    rw [List.getElem?_append_left (by omega)] at hw
    exact h i w hw
theorem fn_eq {f g : Nat → Int64} {l : List Int64} (h : FN f l) (e : ∀ i, i < l.length → g i = f i) : FN g l := fun i v hv => (e i (lt_of_some hv)).trans (h i v hv)
theorem fn_take {f : Nat → Int64} {l : List Int64} (h : FN f l) (n : Nat) : FN f (l.take n) := by
  intro i v hv
  have hi := lt_of_some hv
  rw [List.length_take] at hi
  rw [List.getElem?_take_of_lt (by omega)] at hv
  exact h i v hv
theorem nr_fn {S : SS} {si ai : Nat} {l : List Int64} (h : NR S si ai l) : FN (gA S ai) l := h.2
theorem nr_get {S : SS} {si ai : Nat} {l : List Int64} (h : NR S si ai l) {i : Nat} (hi : i < l.length) : gA S ai i = l[i] := h.2 i _ (List.getElem?_eq_getElem hi)
theorem Rro_of {S : SS} {l : List Int64} (h1 : NR S 7 12 l) (h2 : NR S 28 35 l) (hl : l.length ≤ 1000) : Rro (gI S 7) (gI S 28) (gA S 12) (gA S 35) :=
  ⟨l.length, hl, h1.1, h2.1, fun k hk => (nr_get h2 hk).trans (nr_get h1 hk).symm⟩
section
variable {si ai L : Nat} {S : SS} {l : List Int64}
theorem nr_kp {is js bs as : List Nat} {T : SS} (h : NR S si ai l) (k : Kp is js bs as S T) (h1 : si ∉ is) (h2 : ai ∉ as) : NR T si ai l :=
  ⟨(k.1 si h1).trans h.1, fun i v hv => by rw [k.2.2.2 ai h2]; exact h.2 i v hv⟩
theorem x2_addL {v : Int64} {post : Int32 → SS → Prop} (h : NR S si ai l) (hn : l.length < L) (hL : L < 2147483648) (hp : ∀ U, Kp [si] [] [] [ai] S U → NR U si ai (l ++ [v]) → post 1 U) : V_X2_add si ai L v S post := by
  rw [x2_add h.1 hn hL]
  refine hp _ (kp_sI (kp_sA (kp_refl _ _ _ _ S) (List.mem_singleton.mpr rfl)) (List.mem_singleton.mpr rfl)) ⟨?_, ?_⟩
  · rw [gI_sI, List.length_append]; rfl
  · rw [gA_sI, gA_sA]; exact fn_add h.2
theorem x2_emptyL {post : SS → Prop} (hp : ∀ U, Kp [si] [] [] [ai] S U → NR U si ai [] → post U) : V_X2_empty si ai L S post := by
  rw [x2_empty]
  exact hp _ (kp_sI (kp_refl _ _ _ _ S) (List.mem_singleton.mpr rfl)) ⟨gI_sI _ _ _, fn_nil _⟩
theorem x2_atL {post : Int64 → SS → Prop} (h : NR S si ai l) {i : Nat} (hi : i < l.length) (hn : l.length ≤ L) (hL : L < 2147483648) (hp : post l[i] S) : V_X2_at si ai L (nI i) S post := by
  rw [x2_at h.1 hi hn hL, nr_get h hi]; exact hp
end
theorem x2_becomeL {si ai L si0 ai0 L0 : Nat} {S : SS} {l : List Int64} {post : SS → Prop} (h : NR S si0 ai0 l) (hn : l.length ≤ L) (hn0 : l.length ≤ L0) (hL : L < 2147483648) (hL0 : L0 < 2147483648) (hs : si0 ≠ si) (ha : ai0 ≠ ai) (hp : ∀ U, Kp [si] [] [] [ai] S U → NR U si ai l → post U) : V_X2_become si ai L si0 ai0 L0 S post := by
  refine x2_become h.1 hn hn0 hL hL0 hs ha (hp _ (kp_sI (kp_sA (kp_refl _ _ _ _ S) (List.mem_singleton.mpr rfl)) (List.mem_singleton.mpr rfl)) ⟨gI_sI _ _ _, ?_⟩)
  rw [gA_sI, gA_sA]
  exact fn_eq h.2 (fun i hi => if_pos hi)
theorem x8_tellsL {S : SS} {l : List Int64} {n : Nat} {post : SS → Prop} (h : FN (gA S 36) l) (hn : l.length = n) (h2 : n ≤ 20000) (hp : ∀ U, Kp [28] [] [] [35] S U → NR U 28 35 (l.take 1000) → post U) : V_X8_tells (nI n) S post := by
  refine x8_tells h2 (hp _ (kp_sI (kp_sA (kp_refl _ _ _ _ S) (List.mem_singleton.mpr rfl)) (List.mem_singleton.mpr rfl)) ⟨?_, ?_⟩)
  · rw [gI_sI, List.length_take, hn, Nat.min_comm]
  · rw [gA_sI, gA_sA]
    refine fn_eq (fn_take h 1000) (fun i hi => ?_)
    rw [List.length_take, hn] at hi
    exact if_pos (by omega)
