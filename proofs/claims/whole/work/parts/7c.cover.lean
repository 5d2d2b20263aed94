/-! ROWS OF RESTS THAT FILL ALL NUMBERS ONCE -/
def smN (f : Nat → Nat) : Nat → Nat
  | 0 => 0
  | n + 1 => smN f n + f n
theorem sm_ext {f g : Nat → Nat} : ∀ (n : Nat), (∀ i, i < n → f i = g i) → smN f n = smN g n := by
  intro n
  induction n with
  | zero => intro _; rfl
  | succ n ih =>
    intro h
    show smN f n + f n = smN g n + g n
    rw [ih (fun i hi => h i (by omega)), h n (by omega)]
theorem sm_add (f g : Nat → Nat) (n : Nat) : smN (fun i => f i + g i) n = smN f n + smN g n := by
  induction n with
  | zero => rfl
  | succ n ih =>
    show smN (fun i => f i + g i) n + (f n + g n) = smN f n + f n + (smN g n + g n)
    rw [ih]; omega
theorem sm_zero (n : Nat) : smN (fun _ => 0) n = 0 := by
  induction n with
  | zero => rfl
  | succ n ih => show smN (fun _ => 0) n + 0 = 0; rw [ih]
theorem sm_swap (F : Nat → Nat → Nat) (m : Nat) : ∀ n, smN (fun i => smN (fun j => F i j) m) n = smN (fun j => smN (fun i => F i j) n) m := by
  intro n
  induction n with
  | zero => exact (sm_zero m).symm
  | succ n ih =>
    show smN (fun i => smN (fun j => F i j) m) n + smN (fun j => F n j) m = smN (fun j => smN (fun i => F i j) n + F n j) m
    rw [ih, ← sm_add]
theorem sm_split (f : Nat → Nat) (a b : Nat) : smN f (a + b) = smN f a + smN (fun i => f (a + i)) b := by
  induction b with
  | zero => rfl
  | succ b ih =>
    show smN f (a + b) + f (a + b) = smN f a + (smN (fun i => f (a + i)) b + f (a + b))
    rw [ih]; omega
theorem sm_one (t n : Nat) : smN (fun i => if i = t then 1 else 0) n = if t < n then 1 else 0 := by
  induction n with
  | zero => rw [if_neg (by omega)]; rfl
  | succ n ih =>
    show smN (fun i => if i = t then 1 else 0) n + (if n = t then 1 else 0) = _
    rw [ih]
    by_cases c : n = t
    · rw [if_pos c, if_neg (by omega), if_pos (by omega)]
    · rw [if_neg c]
      by_cases c2 : t < n
      · rw [if_pos c2, if_pos (by omega)]
      · rw [if_neg c2, if_neg (by omega)]
theorem sm_prog {g t : Nat} (ht : t < g) (q : Nat) : smN (fun k => if k % g = t then 1 else 0) (q * g) = q := by
  induction q with
  | zero => rw [Nat.zero_mul]; rfl
  | succ q ih =>
    rw [Nat.succ_mul, sm_split, ih]
    have e : smN (fun i => if (q * g + i) % g = t then 1 else 0) g = smN (fun i => if i = t then 1 else 0) g := sm_ext g (fun i hi => by rw [Nat.mul_add_mod', Nat.mod_eq_of_lt hi])
    rw [e, sm_one, if_pos ht]
theorem sm_le {f : Nat → Nat} : ∀ n, (∀ i, i < n → f i ≤ 1) → smN f n ≤ n := by
  intro n
  induction n with
  | zero => intro _; exact Nat.le_refl _
  | succ n ih =>
    intro h
    have h1 := ih (fun i hi => h i (by omega))
    have h2 := h n (by omega)
    show smN f n + f n ≤ n + 1
    omega
theorem sm_full {f : Nat → Nat} : ∀ n, (∀ i, i < n → f i ≤ 1) → smN f n = n → ∀ i, i < n → f i = 1 := by
  intro n
  induction n with
  | zero => intro _ _ i hi; omega
  | succ n ih =>
    intro h hs i hi
    have h1 := sm_le n (fun i hi => h i (Nat.lt_succ_of_lt hi))
    have h2 := h n (Nat.lt_succ_self n)
    have hs : smN f n + f n = n + 1 := hs
    rcases Nat.lt_or_eq_of_le (Nat.le_of_lt_succ hi) with z | z
    · exact ih (fun i hi => h i (by omega)) (by omega) i z
    · rw [z]; omega
theorem sm_const {f : Nat → Nat} : ∀ n, (∀ i, i < n → f i = 1) → smN f n = n := by
  intro n
  induction n with
  | zero => intro _; rfl
  | succ n ih =>
    intro h
    show smN f n + f n = n + 1
    rw [ih (fun i hi => h i (by omega)), h n (by omega)]
theorem sm_ge {f : Nat → Nat} {r : Nat} : ∀ n, r < n → f r ≤ smN f n := by
  intro n
  induction n with
  | zero => intro h; omega
  | succ n ih =>
    intro h
    show f r ≤ smN f n + f n
    rcases Nat.lt_or_eq_of_le (Nat.le_of_lt_succ h) with z | z
    · have := ih z; omega
    · rw [z]; omega
theorem sm_two {f : Nat → Nat} {r s : Nat} : ∀ n, r < n → s < r → f r + f s ≤ smN f n := by
  intro n
  induction n with
  | zero => intro h _; omega
  | succ n ih =>
    intro h hs
    show f r + f s ≤ smN f n + f n
    rcases Nat.lt_or_eq_of_le (Nat.le_of_lt_succ h) with z | z
    · have := ih z hs; omega
    · have := sm_ge (f := f) n (show s < n by omega)
      rw [z]; omega
theorem sm_pos {f : Nat → Nat} : ∀ n, 1 ≤ smN f n → ∃ r, r < n ∧ 1 ≤ f r := by
  intro n
  induction n with
  | zero => intro h; exact absurd h (by show ¬ 1 ≤ 0; omega)
  | succ n ih =>
    intro h
    have h : 1 ≤ smN f n + f n := h
    rcases Nat.eq_zero_or_pos (f n) with z | z
    · obtain ⟨r, h1, h2⟩ := ih (by omega)
      exact ⟨r, by omega, h2⟩
    · exact ⟨n, by omega, z⟩
theorem sm_most {f : Nat → Nat} : ∀ n, (∀ r, r < n → f r ≤ 1) → (∀ r s, r < n → s < r → ¬ (1 ≤ f r ∧ 1 ≤ f s)) → smN f n ≤ 1 := by
  intro n
  induction n with
  | zero => intro _ _; show 0 ≤ 1; omega
  | succ n ih =>
    intro h h2
    have h3 := ih (fun r hr => h r (by omega)) (fun r s hr => h2 r s (by omega))
    have h4 := h n (by omega)
    show smN f n + f n ≤ 1
    rcases Nat.eq_zero_or_pos (smN f n) with z | z
    · omega
    · obtain ⟨s, hs, hs2⟩ := sm_pos n z
      have := h2 n s (by omega) hs
      omega
theorem bezN : ∀ (n a b : Nat), a ≤ n → ∃ x y : Int, ((Nat.gcd a b : Nat) : Int) = (a : Int) * x + (b : Int) * y := by
  intro n
  induction n with
  | zero =>
    intro a b h
    obtain rfl : a = 0 := by omega
    exact ⟨0, 1, by rw [Nat.gcd_zero_left]; omega⟩
  | succ n ih =>
    intro a b h
    rcases Nat.eq_zero_or_pos a with z | z
    · subst z
      exact ⟨0, 1, by rw [Nat.gcd_zero_left]; omega⟩
    · have hl := Nat.mod_lt b z
      obtain ⟨x, y, e⟩ := ih (b % a) a (by omega)
      refine ⟨y - ((b / a : Nat) : Int) * x, x, ?_⟩
      have e2 : ((b % a : Nat) : Int) = (b : Int) - (a : Int) * ((b / a : Nat) : Int) := by
        have e3 : ((a * (b / a) : Nat) : Int) = (a : Int) * ((b / a : Nat) : Int) := Int.natCast_mul _ _
        have e4 := Nat.div_add_mod b a
        omega
      rw [Nat.gcd_rec, e, e2, Int.sub_mul, Int.mul_sub, Int.mul_assoc]
      omega
/-- how many of the first m rows of rests hold k -/
def ctN (g F : Nat → Nat) (m k : Nat) : Nat := smN (fun r => if k % g r = F r then 1 else 0) m
section
variable {m A : Nat} {g F : Nat → Nat} {f : Nat → Int}
theorem cv_iff {k r : Nat} (hg : 1 ≤ g r) (hF : (F r : Int) = f r % (g r : Int)) : k % g r = F r ↔ (g r : Int) ∣ (k : Int) - f r := by
  have e : ((k % g r : Nat) : Int) = (k : Int) % (g r : Int) := Int.natCast_emod _ _
  rw [Int.dvd_iff_emod_eq_zero, ← Int.emod_eq_emod_iff_emod_sub_eq_zero, ← e, ← hF]
  omega
theorem cv_both {r s : Nat} (hA : 1 ≤ A) (hr : 1 ≤ g r ∧ g r ∣ A ∧ (F r : Int) = f r % (g r : Int)) (hs : 1 ≤ g s ∧ g s ∣ A ∧ (F s : Int) = f s % (g s : Int)) (h : (Nat.gcd (g r) (g s) : Int) ∣ f r - f s) : ∃ k, k < A ∧ k % g r = F r ∧ k % g s = F s := by
  have hb : ∃ x y : Int, f r - f s = (g r : Int) * x + (g s : Int) * y := by
    obtain ⟨t, ht⟩ := h
    obtain ⟨x, y, hxy⟩ := bezN (g r) (g r) (g s) (Nat.le_refl _)
    exact ⟨x * t, y * t, by rw [ht, hxy, Int.add_mul, Int.mul_assoc, Int.mul_assoc]⟩
  obtain ⟨x, y, hxy⟩ := hb
  have hA0 : (0 : Int) < (A : Int) := by omega
  have h1 := Int.emod_nonneg (f r - (g r : Int) * x) (show (A : Int) ≠ 0 by omega)
  have h2 := Int.emod_lt_of_pos (f r - (g r : Int) * x) hA0
  refine ⟨((f r - (g r : Int) * x) % (A : Int)).toNat, by omega, ?_, ?_⟩
  · rw [cv_iff hr.1 hr.2.2]
    have ek : ((((f r - (g r : Int) * x) % (A : Int)).toNat : Nat) : Int) = (f r - (g r : Int) * x) % (A : Int) := Int.toNat_of_nonneg h1
    rw [ek]
    have d1 : (g r : Int) ∣ (A : Int) := Int.natCast_dvd_natCast.mpr hr.2.1
    have e2 := Int.mul_ediv_add_emod (f r - (g r : Int) * x) (A : Int)
    obtain ⟨u, hu⟩ := d1
    refine ⟨-x - u * ((f r - (g r : Int) * x) / (A : Int)), ?_⟩
    rw [Int.mul_sub, ← Int.mul_assoc, ← hu, Int.mul_neg]
    omega
  · rw [cv_iff hs.1 hs.2.2]
    have ek : ((((f r - (g r : Int) * x) % (A : Int)).toNat : Nat) : Int) = (f r - (g r : Int) * x) % (A : Int) := Int.toNat_of_nonneg h1
    rw [ek]
    have d1 : (g s : Int) ∣ (A : Int) := Int.natCast_dvd_natCast.mpr hs.2.1
    have e2 := Int.mul_ediv_add_emod (f r - (g r : Int) * x) (A : Int)
    obtain ⟨u, hu⟩ := d1
    refine ⟨y - u * ((f r - (g r : Int) * x) / (A : Int)), ?_⟩
    rw [Int.mul_sub, ← Int.mul_assoc, ← hu]
    omega
theorem cover_iff (hA : 1 ≤ A) (h : ∀ r, r < m → 1 ≤ g r ∧ g r ∣ A ∧ (F r : Int) = f r % (g r : Int)) : (∀ k, k < A → ctN g F m k = 1) ↔ ((∀ r, r < m → ∀ s, s < r → ¬ ((Nat.gcd (g r) (g s) : Int) ∣ f r - f s)) ∧ smN (fun r => A / g r) m = A) := by
  have hlt : ∀ r, r < m → F r < g r := fun r hr => by
    obtain ⟨h1, -, h3⟩ := h r hr
    have := Int.emod_lt_of_pos (f r) (show (0 : Int) < (g r : Int) by omega)
    omega
  -- all cells counted, two ways
  have tot : smN (fun k => ctN g F m k) A = smN (fun r => A / g r) m := by
    show smN (fun k => smN (fun r => if k % g r = F r then 1 else 0) m) A = _
    rw [sm_swap]
    refine sm_ext m (fun r hr => ?_)
    obtain ⟨h1, h2, -⟩ := h r hr
    have e := sm_prog (hlt r hr) (A / g r)
    rw [Nat.div_mul_cancel h2] at e
    exact e
  have le1 : ∀ k r, (if k % g r = F r then 1 else 0) ≤ 1 := fun k r => by
    by_cases c : k % g r = F r
    · rw [if_pos c]; omega
    · rw [if_neg c]; omega
  constructor
  · intro hc
    refine ⟨fun r hr s hs hd => ?_, ?_⟩
    · obtain ⟨k, hk, k1, k2⟩ := cv_both hA (h r hr) (h s (by omega)) hd
      have h2 := sm_two (f := fun r => if k % g r = F r then 1 else 0) m hr hs
      have h1 : smN (fun r => if k % g r = F r then 1 else 0) m = 1 := hc k hk
      rw [h1] at h2
      have e1 : (if k % g r = F r then 1 else 0) = 1 := if_pos k1
      have e2 : (if k % g s = F s then 1 else 0) = 1 := if_pos k2
      have h2 : (if k % g r = F r then 1 else 0) + (if k % g s = F s then 1 else 0) ≤ 1 := h2
      rw [e1, e2] at h2
      omega
    · rw [← tot]
      exact sm_const A hc
  · rintro ⟨hp, hs⟩
    refine sm_full A (fun k hk => ?_) (tot.trans hs)
    refine sm_most m (fun r _ => le1 k r) (fun r s hr hsr => ?_)
    rintro ⟨q1, q2⟩
    have k1 : k % g r = F r := Classical.byContradiction (fun z => by rw [if_neg z] at q1; omega)
    have k2 : k % g s = F s := Classical.byContradiction (fun z => by rw [if_neg z] at q2; omega)
    refine hp r hr s hsr ?_
    obtain ⟨r1, -, r3⟩ := h r hr
    obtain ⟨s1, -, s3⟩ := h s (by omega)
    have d1 := (cv_iff r1 r3).mp k1
    have d2 := (cv_iff s1 s3).mp k2
    have g1 : (Nat.gcd (g r) (g s) : Int) ∣ (k : Int) - f r := Int.dvd_trans (Int.natCast_dvd_natCast.mpr (Nat.gcd_dvd_left _ _)) d1
    have g2 : (Nat.gcd (g r) (g s) : Int) ∣ (k : Int) - f s := Int.dvd_trans (Int.natCast_dvd_natCast.mpr (Nat.gcd_dvd_right _ _)) d2
    have g3' := Int.dvd_sub g2 g1
    have e : ((k : Int) - f s) - ((k : Int) - f r) = f r - f s := by omega
    rw [e] at g3'
    exact g3'
end
