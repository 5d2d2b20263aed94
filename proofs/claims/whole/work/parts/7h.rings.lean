/-! ALL WORDS OF k RESTS, in two orders -/
/-- the class's i-th word: its last rest the fastest -/
def wC (m k i : Nat) : Nat → Nat := fun t => i / m ^ (k - 1 - t) % m
/-- the reference's j-th word: its first rest the fastest -/
def wR (m j : Nat) : Nat → Nat := fun t => j / m ^ t % m
def csW (r : Nat) (u : Nat → Nat) : Nat → Nat := fun t => if t = 0 then r else u (t - 1)
theorem sm_block (G : Nat → Nat) (b : Nat) : ∀ a, smN G (a * b) = smN (fun q => smN (fun r => G (q * b + r)) b) a := by
  intro a
  induction a with
  | zero => rw [Nat.zero_mul]; rfl
  | succ a ih =>
    rw [Nat.succ_mul, sm_split, ih]; rfl
section
variable {m : Nat}
theorem wR_cons {k r q t : Nat} (hr : r < m) (ht : t < k + 1) : wR m (q * m + r) t = csW r (wR m q) t := by
  unfold wR csW
  by_cases c : t = 0
  · subst c
    rw [if_pos rfl, Nat.pow_zero, Nat.div_one, Nat.mul_add_mod', Nat.mod_eq_of_lt hr]
  · rw [if_neg c]
    obtain ⟨u, rfl⟩ : ∃ u, t = u + 1 := ⟨t - 1, by omega⟩
    have e : (q * m + r) / m ^ (u + 1) = q / m ^ u := by
      rw [Nat.pow_succ, Nat.mul_comm (m ^ u) m, ← Nat.div_div_eq_div_mul]
      rw [Nat.mul_comm q m, Nat.mul_add_div (by omega), Nat.div_eq_of_lt hr, Nat.add_zero]
    rw [e, Nat.add_sub_cancel]
theorem wC_cons {k r q t : Nat} (hr : r < m) (hq : q < m ^ k) (ht : t < k + 1) : wC m (k + 1) (r * m ^ k + q) t = csW r (wC m k q) t := by
  have hm : 0 < m := by omega
  unfold wC csW
  by_cases c : t = 0
  · subst c
    rw [if_pos rfl, show k + 1 - 1 - 0 = k by omega, Nat.mul_comm r, Nat.mul_add_div (Nat.pow_pos hm), Nat.div_eq_of_lt hq, Nat.add_zero, Nat.mod_eq_of_lt hr]
  · rw [if_neg c]
    obtain ⟨u, rfl⟩ : ∃ u, t = u + 1 := ⟨t - 1, by omega⟩
    have es : k + 1 - 1 - (u + 1) = k - 1 - u := by omega
    rw [es, Nat.add_sub_cancel]
    have ep : m ^ k = m ^ (k - 1 - u) * (m * m ^ u) := by
      rw [← Nat.mul_assoc, ← Nat.pow_succ, ← Nat.pow_add]
      congr 1
      omega
    rw [ep, Nat.mul_left_comm, Nat.mul_add_div (Nat.pow_pos hm), Nat.mul_left_comm, Nat.mul_add_mod]
/-- any sum over all words is the same in both orders -/
theorem sm_words (hm : 0 < m) : ∀ (k : Nat) (f : (Nat → Nat) → Nat), (∀ u v : Nat → Nat, (∀ t, t < k → u t = v t) → f u = f v) → smN (fun i => f (wC m k i)) (m ^ k) = smN (fun j => f (wR m j)) (m ^ k) := by
  intro k
  induction k with
  | zero =>
    intro f hf
    exact sm_ext _ (fun i hi => hf _ _ (fun t ht => by omega))
  | succ k ih =>
    intro f hf
    have h1 : smN (fun j => f (wR m j)) (m ^ (k + 1)) = smN (fun q => smN (fun r => f (csW r (wR m q))) m) (m ^ k) := by
      rw [Nat.pow_succ, sm_block]
      exact sm_ext _ (fun q _ => sm_ext _ (fun r hr => hf _ _ (fun t ht => wR_cons (k := k) hr ht)))
    have h2 : smN (fun i => f (wC m (k + 1) i)) (m ^ (k + 1)) = smN (fun r => smN (fun q => f (csW r (wC m k q))) (m ^ k)) m := by
      rw [Nat.pow_succ, Nat.mul_comm, sm_block]
      exact sm_ext _ (fun r hr => sm_ext _ (fun q hq => hf _ _ (fun t ht => wC_cons hr hq ht)))
    have h3 := ih (fun u => smN (fun r => f (csW r u)) m) (fun u v h => sm_ext _ (fun r _ => hf _ _ (fun t ht => by
      unfold csW
      by_cases c : t = 0
      · rw [if_pos c, if_pos c]
      · rw [if_neg c, if_neg c]; exact h (t - 1) (by omega))))
    rw [h1, h2, ← h3, sm_swap]
theorem wC_lt (hm : 0 < m) (k i t : Nat) : wC m k i t < m := Nat.mod_lt _ hm
theorem wR_lt (hm : 0 < m) (j t : Nat) : wR m j t < m := Nat.mod_lt _ hm
end
theorem sm_eq0 {f : Nat → Nat} : ∀ n, smN f n = 0 → ∀ i, i < n → f i = 0 := by
  intro n
  induction n with
  | zero => intro _ i hi; omega
  | succ n ih =>
    intro h i hi
    have h : smN f n + f n = 0 := h
    rcases Nat.lt_or_eq_of_le (Nat.le_of_lt_succ hi) with z | z
    · exact ih (by omega) i z
    · rw [z]; omega
/-- a property of words holds of all in one order if in the other -/
theorem all_words {m k : Nat} (hm : 0 < m) (P : (Nat → Nat) → Prop) (hP : ∀ u v : Nat → Nat, (∀ t, t < k → u t = v t) → (P u ↔ P v)) : (∀ i, i < m ^ k → P (wC m k i)) ↔ (∀ j, j < m ^ k → P (wR m j)) := by
  have s := sm_words hm k (fun w => @ite Nat (P w) (Classical.propDecidable _) 0 1) (fun u v h => by
    by_cases c : P u
    · rw [if_pos c, if_pos ((hP u v h).mp c)]
    · rw [if_neg c, if_neg (fun z => c ((hP u v h).mpr z))])
  have z1 : ∀ w : Nat → Nat, P w → @ite Nat (P w) (Classical.propDecidable _) 0 1 = 0 := fun w c => if_pos c
  have z2 : ∀ w : Nat → Nat, @ite Nat (P w) (Classical.propDecidable _) 0 1 = 0 → P w := fun w c => Classical.byContradiction (fun n => by rw [if_neg n] at c; omega)
  constructor
  · intro h j hj
    have e : smN (fun i => @ite Nat (P (wC m k i)) (Classical.propDecidable _) 0 1) (m ^ k) = 0 := by
      rw [sm_ext (g := fun _ => 0) _ (fun i hi => z1 _ (h i hi)), sm_zero]
    rw [e] at s
    exact z2 _ (sm_eq0 _ s.symm j hj)
  · intro h i hi
    have e : smN (fun j => @ite Nat (P (wR m j)) (Classical.propDecidable _) 0 1) (m ^ k) = 0 := by
      rw [sm_ext (g := fun _ => 0) _ (fun j hj => z1 _ (h j hj)), sm_zero]
    rw [e] at s
    exact z2 _ (sm_eq0 _ s i hi)
theorem cdL_count (c : Nat → Option Int64) (v : Int64) : ∀ n, (cdL c n).count v = smN (fun i => if c i = some v then 1 else 0) n := by
  intro n
  induction n with
  | zero => rfl
  | succ n ih =>
    show (cdL c n ++ (c n).toList).count v = smN (fun i => if c i = some v then 1 else 0) n + if c n = some v then 1 else 0
    rw [List.count_append, ih]
    congr 1
    cases e : c n with
    | none => rw [if_neg (by simp)]; rfl
    | some x =>
      show [x].count v = _
      rw [List.count_singleton]
      by_cases q : x = v
      · subst q; rw [if_pos (beq_self_eq_true x), if_pos rfl]
      · rw [if_neg (fun z => q (eq_of_beq z)), if_neg (fun z => q (Option.some.inj z))]
theorem isL_perm {l1 l2 : List Int64} (h : l1.Perm l2) : isL l1 = isL l2 := by
  unfold isL
  exact h.foldl_eq' (fun x _ y _ z => insL_comm y x z) []
/-- what all words give, sorted, is the same in both orders -/
theorem words_sorted {m k : Nat} (hm : 0 < m) (g : (Nat → Nat) → Option Int64) (hg : ∀ u v : Nat → Nat, (∀ t, t < k → u t = v t) → g u = g v) : isL (cdL (fun i => g (wC m k i)) (m ^ k)) = isL (cdL (fun j => g (wR m j)) (m ^ k)) ∧ (cdL (fun i => g (wC m k i)) (m ^ k)).length = (cdL (fun j => g (wR m j)) (m ^ k)).length := by
  have p : (cdL (fun i => g (wC m k i)) (m ^ k)).Perm (cdL (fun j => g (wR m j)) (m ^ k)) := List.perm_iff_count.mpr (fun v => by
    rw [cdL_count, cdL_count]
    exact sm_words hm k (fun w => if g w = some v then 1 else 0) (fun u w h => by rw [hg u w h]))
  exact ⟨isL_perm p, p.length_eq⟩
/-! the next word -/
section
variable {m k : Nat}
theorem pow_split {e s : Nat} (h : e ≤ s) : m ^ s = m ^ e * m ^ (s - e) := by
  rw [← Nat.pow_add]; congr 1; omega
/-- all below place e are m - 1: the next number's rests -/
theorem nx_div {i e : Nat} (hm : 0 < m) (h : i % m ^ e = m ^ e - 1) : (i + 1) / m ^ e = i / m ^ e + 1 ∧ (i + 1) % m ^ e = 0 := by
  have hp : 0 < m ^ e := Nat.pow_pos hm
  have e1 := Nat.div_add_mod i (m ^ e)
  have e2 : i + 1 = m ^ e * (i / m ^ e + 1) := by rw [Nat.mul_add, Nat.mul_one]; omega
  exact ⟨by rw [e2, Nat.mul_div_cancel_left _ hp], by rw [e2, Nat.mul_mod_right]⟩
theorem nx_low {i e s : Nat} (hm : 0 < m) (h : i % m ^ e = m ^ e - 1) (hs : s < e) : (i + 1) / m ^ s % m = 0 := by
  obtain ⟨-, h2⟩ := nx_div hm h
  have e1 := Nat.div_add_mod (i + 1) (m ^ e)
  rw [h2, Nat.add_zero, pow_split (m := m) (Nat.le_of_lt hs)] at e1
  have e3 : m ^ (e - s) = m * m ^ (e - s - 1) := by
    rw [Nat.mul_comm, ← Nat.pow_succ]; congr 1; omega
  rw [← e1, Nat.mul_assoc, Nat.mul_div_cancel_left _ (Nat.pow_pos hm), e3, Nat.mul_assoc, Nat.mul_mod_right]
theorem nx_high {i e s : Nat} (hm : 0 < m) (h : i % m ^ e = m ^ e - 1) (hd : ¬ i / m ^ e % m = m - 1) (hs : e < s) : (i + 1) / m ^ s = i / m ^ s := by
  obtain ⟨h1, -⟩ := nx_div hm h
  have e3 : m ^ s = m ^ e * (m * m ^ (s - e - 1)) := by
    rw [pow_split (m := m) (Nat.le_of_lt hs)]
    congr 1
    rw [Nat.mul_comm, ← Nat.pow_succ]; congr 1; omega
  rw [e3, ← Nat.div_div_eq_div_mul, ← Nat.div_div_eq_div_mul, ← Nat.div_div_eq_div_mul, ← Nat.div_div_eq_div_mul, h1]
  have hl := Nat.mod_lt (i / m ^ e) hm
  have e4 := Nat.div_add_mod (i / m ^ e) m
  have e5 : (i / m ^ e + 1) / m = i / m ^ e / m := by
    have e6 : i / m ^ e + 1 = m * (i / m ^ e / m) + (i / m ^ e % m + 1) := by omega
    rw [e6, Nat.mul_add_div hm, Nat.div_eq_of_lt (show i / m ^ e % m + 1 < m by omega), Nat.add_zero]
  rw [e5]
theorem nx_carry {i e : Nat} (hm : 0 < m) (h : i % m ^ e = m ^ e - 1) (hd : i / m ^ e % m = m - 1) : i % m ^ (e + 1) = m ^ (e + 1) - 1 := by
  have hp : 0 < m ^ e := Nat.pow_pos hm
  rw [Nat.mod_pow_succ, h, hd, Nat.pow_succ]
  obtain ⟨u, rfl⟩ : ∃ u, m = u + 1 := ⟨m - 1, by omega⟩
  rw [Nat.add_sub_cancel, Nat.mul_add, Nat.mul_one]
  omega
end
