/-! BOTH: class and reference -/
/-- no two meet, and together they fill A -/
def gdF (m : Nat) (a b d : Nat → Int64) (A : Nat) : Prop := (∀ r, r < m → ∀ s, s < r → ¬ ((Nat.gcd (stq a d m r) (stq a d m s) : Int) ∣ fsq a b d r - fsq a b d s)) ∧ smN (fun r => A / stq a d m r) m = A
theorem mx1 {s : Nat} (h1 : 1 ≤ s) (h2 : s ≤ 64000) : mxL (lN s) (1 : Int64) = lN s := by
  by_cases q : (1 : Int64) < lN s
  · exact if_pos q
  · have e : ¬ 1 < s := fun z => q ((lNlt (a := 1) (by omega) (by omega)).mpr z)
    have e2 : s = 1 := by omega
    subst e2; rfl
theorem sm_bnd {f : Nat → Nat} {B : Nat} : ∀ n, (∀ i, i < n → f i ≤ B) → smN f n ≤ n * B := by
  intro n
  induction n with
  | zero => intro _; exact Nat.zero_le _
  | succ n ih =>
    intro h
    have h1 := ih (fun i hi => h i (by omega))
    have h2 := h n (Nat.lt_succ_self n)
    show smN f n + f n ≤ (n + 1) * B
    rw [Nat.succ_mul]; omega
section
variable {m : Nat} {S : SS} {post : Int32 → SS → Prop}
theorem lN_addN {x y : Nat} (h : x + y < 9223372036854775808) : lN x + lN y = lN (x + y) :=
  of64 (by rw [a64 (by rw [lN_int (by omega), lN_int (by omega)]; omega) (by rw [lN_int (by omega), lN_int (by omega)]; omega), lN_int (by omega), lN_int (by omega)]; omega) h
theorem x5_fills {A : Nat} (h : RUL S m) (nz : ∀ r, r < m → ¬ gA S 0 r = 0) (hA1 : 1 ≤ A) (hA : A ≤ 100000) (h1 : gdF m (gA S 0) (gA S 1) (gA S 2) A → post 1 S) (h0 : ¬ gdF m (gA S 0) (gA S 1) (gA S 2) A → post 0 S) : V_X5_fillsOnce 1 0 1 2 (nI A) S post := by
  have hm := h.2.1
  have hi1 := h.2.2.2.2.1
  have hf := h.2.2.2.2.2.2.1
  have bnd : ∀ r, r ≤ m → smN (fun r => A / stq (gA S 0) (gA S 2) m r) r ≤ 6400000 := fun r hr => by
    have := sm_bnd (f := fun r => A / stq (gA S 0) (gA S 2) m r) (B := 100000) r (fun i _ => Nat.le_trans (Nat.div_le_self _ _) hA)
    have h2 : r * 100000 ≤ 64 * 100000 := Nat.mul_le_mul_right _ (by omega)
    omega
  have k33 : ∀ (v2 : Int64) (r : Nat) (K : Int64 → Int32 → SS → Prop), r < m → ((∀ s, s < r → ¬ ((Nat.gcd (stq (gA S 0) (gA S 2) m r) (stq (gA S 0) (gA S 2) m s) : Int) ∣ fsq (gA S 0) (gA S 1) (gA S 2) r - fsq (gA S 0) (gA S 1) (gA S 2) s)) → K v2 (nI (r + 1)) S) → ∀ (j s : Nat), s + j = r → (∀ t, t < s → ¬ ((Nat.gcd (stq (gA S 0) (gA S 2) m r) (stq (gA S 0) (gA S 2) m t) : Int) ∣ fsq (gA S 0) (gA S 1) (gA S 2) r - fsq (gA S 0) (gA S 1) (gA S 2) t)) → V_X5_fillsOnce_33 1 0 1 2 (nI A) v2 (nI r) K post (j + 1) (nI s) S := fun v2 r K hrm hK j => by
    induction j with
    | zero =>
      intro s hs hd
      obtain rfl : s = r := by omega
      rw [V_X5_fillsOnce_33, brt (nI_le (Nat.le_refl _) (by omega)), ale, nadd1]
      exact hK hd
    | succ j ih =>
      intro s hs hd
      have hsr : s < r := by omega
      have hsm : s < m := by omega
      obtain ⟨fr1, fr2⟩ := fvq_eq hf hm hrm
      obtain ⟨fs1, fs2⟩ := fvq_eq hf hm hsm
      have dr := (hf r hrm).2.2.1.1
      have ds := (hf s hsm).2.2.1.1
      have s1 := stq_pos hf hrm (nz r hrm)
      have s2 := (stq_eq hf hm hrm).2
      have t1 := stq_pos hf hsm (nz s hsm)
      have t2 := (stq_eq hf hm hsm).2
      have gp : 0 < Nat.gcd (stq (gA S 0) (gA S 2) m r) (stq (gA S 0) (gA S 2) m s) := Nat.gcd_pos_of_pos_left _ s1
      have gl : Nat.gcd (stq (gA S 0) (gA S 2) m r) (stq (gA S 0) (gA S 2) m s) ≤ stq (gA S 0) (gA S 2) m r := Nat.le_of_dvd s1 (Nat.gcd_dvd_left _ _)
      rw [V_X5_fillsOnce_33, brf (nI_ge hsr (by omega)), x5_first hi1 hrm hm dr, x5_first hi1 hsm hm ds]
      refine x5_stride h hrm (x5_stride h hsm ?_)
      refine x7_cd (by rw [lN_int (by omega)]; omega) (by rw [lN_int (by omega)]; omega) ?_
      have ec : cdn (lN (stq (gA S 0) (gA S 2) m r)).toInt.natAbs (lN (stq (gA S 0) (gA S 2) m s)).toInt.natAbs = Nat.gcd (stq (gA S 0) (gA S 2) m r) (stq (gA S 0) (gA S 2) m s) := by
        rw [lN_int (by omega), lN_int (by omega), Int.natAbs_natCast, Int.natAbs_natCast]
        unfold cdn
        rw [if_neg (by omega)]
      rw [ec]
      refine ⟨fun z => by have := (lN0 (by omega)).mp z; omega, ?_⟩
      have fr1' : ((gA S 0 r * (nI r).toInt64 + gA S 1 r) / gA S 2 r).toInt = fsq (gA S 0) (gA S 1) (gA S 2) r := fr1
      have fs1' : ((gA S 0 s * (nI s).toInt64 + gA S 1 s) / gA S 2 s).toInt = fsq (gA S 0) (gA S 1) (gA S 2) s := fs1
      have esub : ((gA S 0 r * (nI r).toInt64 + gA S 1 r) / gA S 2 r - (gA S 0 s * (nI s).toInt64 + gA S 1 s) / gA S 2 s).toInt = fsq (gA S 0) (gA S 1) (gA S 2) r - fsq (gA S 0) (gA S 1) (gA S 2) s := by
        rw [s64 (by rw [fr1', fs1']; omega) (by rw [fr1', fs1']; omega), fr1', fs1']
      have ed := lrm0 (x := (gA S 0 r * (nI r).toInt64 + gA S 1 r) / gA S 2 r - (gA S 0 s * (nI s).toInt64 + gA S 1 s) / gA S 2 s) (d := lN (Nat.gcd (stq (gA S 0) (gA S 2) m r) (stq (gA S 0) (gA S 2) m s))) (by rw [lN_int (by omega)]; omega)
      rw [esub, lN_int (by omega)] at ed
      refine ⟨fun c => h0 (fun q => q.1 r hrm s hsr (ed.mp c)), fun c => ?_⟩
      rw [ale, nadd1]
      refine ih (s + 1) (by omega) (fun t ht => ?_)
      rcases Nat.lt_or_eq_of_le (Nat.le_of_lt_succ ht) with y | y
      · exact hd t y
      · rw [y]; exact fun z => c (ed.mpr z)
  have key : ∀ (j r : Nat), r + j = m → (∀ t, t < r → ∀ s, s < t → ¬ ((Nat.gcd (stq (gA S 0) (gA S 2) m t) (stq (gA S 0) (gA S 2) m s) : Int) ∣ fsq (gA S 0) (gA S 1) (gA S 2) t - fsq (gA S 0) (gA S 1) (gA S 2) s)) → V_X5_fillsOnce_5 1 0 1 2 (nI A) post (j + 1) (lN (smN (fun r => A / stq (gA S 0) (gA S 2) m r) r)) (nI r) S := by
    intro j
    induction j with
    | zero =>
      intro r hr hd
      obtain rfl : r = m := by omega
      have hb := bnd r (Nat.le_refl _)
      rw [V_X5_fillsOnce_5, hi1, brt (nI_le (Nat.le_refl _) (by omega)), nI_i64 (by omega)]
      have ee : lN (smN (fun q => A / stq (gA S 0) (gA S 2) r q) r) = lN A ↔ smN (fun q => A / stq (gA S 0) (gA S 2) r q) r = A := pk_lEQ (by omega) (by omega)
      exact ⟨fun c => h1 ⟨hd, ee.mp c⟩, fun c => h0 (fun q => c (ee.mpr q.2))⟩
    | succ j ih =>
      intro r hr hd
      have hrm : r < m := by omega
      have s1 := stq_pos hf hrm (nz r hrm)
      have s2 := (stq_eq hf hm hrm).2
      have hb := bnd r (by omega)
      have hdv : A / stq (gA S 0) (gA S 2) m r ≤ A := Nat.div_le_self _ _
      rw [V_X5_fillsOnce_5, hi1, brf (nI_ge hrm (by omega))]
      refine x5_stride h hrm ?_
      rw [mx1 s1 s2, ale]
      refine ⟨fun z => by have := (lN0 (by omega)).mp z; omega, ?_⟩
      rw [ale, nI_i64 (by omega), lN_divN (by omega) (by omega) (by omega), lN_addN (by omega)]
      refine ⟨r + 1, k33 _ r _ hrm (fun q => ?_) r 0 (by omega) (fun t ht => by omega)⟩
      refine ih (r + 1) (by omega) (fun t ht => ?_)
      rcases Nat.lt_or_eq_of_le (Nat.le_of_lt_succ ht) with y | y
      · exact hd t y
      · rw [y]; exact q
  exact ⟨m + 1, key m 0 (by omega) (fun t ht => by omega)⟩
end
/-- where a row of rests begins -/
def FqN (a b d : Nat → Int64) (m r : Nat) : Nat := (fsq a b d r % (stq a d m r : Int)).toNat
section
variable {m A : Nat} {a b d : Nat → Int64}
theorem ct_succ (g F : Nat → Nat) (r t : Nat) : ctN g F (r + 1) t = ctN g F r t + if t % g r = F r then 1 else 0 := rfl
theorem in_step {g F k t : Nat} (hg : 1 ≤ g) (hk : k % g = F) : (t % g = F ∧ t < k + g) ↔ ((t % g = F ∧ t < k) ∨ t = k) := by
  constructor
  · rintro ⟨h1, h2⟩
    by_cases c : t < k
    · exact Or.inl ⟨h1, c⟩
    · refine Or.inr ?_
      have e1 := Nat.div_add_mod t g
      have e2 := Nat.div_add_mod k g
      rw [h1] at e1
      rw [hk] at e2
      rcases Nat.lt_trichotomy (t / g) (k / g) with q | q | q
      · have := Nat.mul_le_mul_left g (Nat.le_of_lt q)
        omega
      · rw [q] at e1; omega
      · have := Nat.mul_le_mul_left g (show k / g + 1 ≤ t / g from q)
        rw [Nat.mul_add, Nat.mul_one] at this
        omega
  · rintro (⟨h1, h2⟩ | h)
    · exact ⟨h1, by omega⟩
    · subst h; exact ⟨hk, by omega⟩
theorem x8_b85 {v2 : Int32} {g F : Nat} {ct : Nat → Nat} {K : Int32 → SS → Prop} {post : Int32 → SS → Prop} (hg : 1 ≤ g) (hg2 : g ≤ 64000) (hA : A ≤ 100000) (hct : ∀ t, ct t ≤ 64) : ∀ (j k : Nat) (T : SS), A ≤ k + j → k ≤ A + g → k % g = F → (∀ t, t < A → gB T 2 t = nI (ct t + if t % g = F ∧ t < k then 1 else 0)) → (∀ U, Kp [] [] [2] [] T U → (∀ t, t < A → gB U 2 t = nI (ct t + if t % g = F then 1 else 0)) → K (v2 + 1) U) → V_X8_both_85 (nI A) v2 (nI g) K post (j + 1) (nI k) T := by
  have fin : ∀ (j k : Nat) (T : SS), A ≤ k → k ≤ A + g → (∀ t, t < A → gB T 2 t = nI (ct t + if t % g = F ∧ t < k then 1 else 0)) → (∀ U, Kp [] [] [2] [] T U → (∀ t, t < A → gB U 2 t = nI (ct t + if t % g = F then 1 else 0)) → K (v2 + 1) U) → V_X8_both_85 (nI A) v2 (nI g) K post (j + 1) (nI k) T := fun j k T hk hk2 hB hp => by
    rw [V_X8_both_85, brt (nI_le hk (by omega)), ale]
    refine hp T (kp_refl _ _ _ _ T) (fun t ht => ?_)
    rw [hB t ht]
    by_cases c : t % g = F
    · rw [if_pos ⟨c, by omega⟩, if_pos c]
    · rw [if_neg (fun z => c z.1), if_neg c]
  intro j
  induction j with
  | zero => intro k T h1 h2 _ hB hp; exact fin 0 k T (by omega) h2 hB hp
  | succ j ih =>
    intro k T h1 h2 h3 hB hp
    by_cases c : A ≤ k
    · exact fin _ k T c h2 hB hp
    · have hc := hct k
      have ek := hB k (by omega)
      rw [if_neg (by omega), Nat.add_zero] at ek
      rw [V_X8_both_85, brf (nI_ge (by omega) (by omega)), gdt (vp_in_nI (by omega) (by omega)), gdt (vp_in_nI (by omega) (by omega)), ale, ale, nI_clamp (by omega), ek, nadd1, nadd (by omega)]
      have kT : Kp [] [] [2] [] T (sB T 2 (upd (gB T 2) k (nI (ct k + 1)))) := kp_sB (kp_refl _ _ _ _ T) (by decide)
      refine ih (k + g) _ (by omega) (by omega) (by rw [Nat.add_mod_right]; exact h3) (fun t ht => ?_) (fun U kU hU => hp U (kp_trans kT kU) hU)
      rw [gB_sB]
      show (if t = k then nI (ct k + 1) else gB T 2 t) = _
      have es := in_step (t := t) hg h3
      by_cases q : t = k
      · subst q
        rw [if_pos rfl, if_pos (es.mpr (Or.inr rfl))]
      · rw [if_neg q, hB t ht]
        by_cases q2 : t % g = F ∧ t < k
        · rw [if_pos q2, if_pos (es.mpr (Or.inl q2))]
        · rw [if_neg q2, if_neg (fun z => (es.mp z).elim q2 q)]
theorem x8_b57 {post : Int32 → SS → Prop} (hA1 : 1 ≤ A) (hA : A ≤ 100000) (nz : ∀ r, r < m → ¬ a r = 0) : ∀ (j r : Nat) (T : SS), r + j = m → RUR T m a b d → (∀ t, t < A → gB T 2 t = nI (ctN (stq a d m) (FqN a b d m) r t)) → ((∀ t, t < A → ctN (stq a d m) (FqN a b d m) m t = 1) → ∀ U, Kp [] [] [2] [] T U → post 1 U) → (¬ (∀ t, t < A → ctN (stq a d m) (FqN a b d m) m t = 1) → ∀ U, Kp [] [] [2] [] T U → post 0 U) → V_X8_both_57 (nI A) post (j + 1) (nI r) T := by
  have hle : ∀ r t, ctN (stq a d m) (FqN a b d m) r t ≤ r := fun r t => sm_le r (fun i _ => by
    by_cases c : t % stq a d m i = FqN a b d m i
    · rw [if_pos c]; omega
    · rw [if_neg c]; omega)
  intro j
  induction j with
  | zero =>
    intro r T hr h hB h1 h0
    obtain rfl : r = m := by omega
    have hm := h.2.1
    have key : ∀ (j k : Nat), k + j = A → (∀ t, t < k → ctN (stq a d r) (FqN a b d r) r t = 1) → V_X8_both_119 (nI A) post (j + 1) (nI k) T := by
      intro j
      induction j with
      | zero =>
        intro k hk hq
        obtain rfl : k = A := by omega
        rw [V_X8_both_119, brt (nI_le (Nat.le_refl _) (by omega))]
        exact h1 hq T (kp_refl _ _ _ _ T)
      | succ j ih =>
        intro k hk hq
        have hl := hle r k
        rw [V_X8_both_119, brf (nI_ge (by omega) (by omega)), gdt (vp_in_nI (by omega) (by omega)), nI_clamp (by omega), hB k (by omega)]
        refine ⟨fun c => ?_, fun c => h0 (fun z => c (by rw [z k (by omega)]; rfl)) T (kp_refl _ _ _ _ T)⟩
        have c := (nI_inj (b := 1) (by omega) (by omega)).mp c
        rw [ale, nadd1]
        refine ih (k + 1) (by omega) (fun t ht => ?_)
        rcases Nat.lt_or_eq_of_le (Nat.le_of_lt_succ ht) with y | y
        · exact hq t y
        · rw [y]; exact c
    rw [V_X8_both_57, h.2.2.2.1, brt (nI_le (Nat.le_refl _) (by omega))]
    exact ⟨A + 1, key A 0 (by omega) (fun t ht => by omega)⟩
  | succ j ih =>
    intro r T hr h hB h1 h0
    have hm := h.2.1
    have hrm : r < m := by omega
    have hf := h.2.2.2.2.1
    have s1 := stq_pos hf hrm (nz r hrm)
    have s2 := (stq_eq hf hm hrm).2
    obtain ⟨f1, f2⟩ := fvq_eq hf hm hrm
    rw [V_X8_both_57, h.2.2.2.1, brf (nI_ge hrm (by omega))]
    refine x8_gap h hrm ?_
    rw [ale, l2iN (by omega)]
    refine x8_first h hrm ?_
    rw [nI_i64 (by omega), J9 (by rw [lN_int (by omega)]; omega)]
    have eF : (fmd (fvq a b d r) (lN (stq a d m r))).toInt = fsq a b d r % (stq a d m r : Int) := by
      rw [fmd_toInt (by rw [lN_int (by omega)]; omega), f1, lN_int (by omega)]
    have g1 := Int.emod_nonneg (fsq a b d r) (show (stq a d m r : Int) ≠ 0 by omega)
    have g2 := Int.emod_lt_of_pos (fsq a b d r) (show (0 : Int) < (stq a d m r : Int) by omega)
    have eF2 : fmd (fvq a b d r) (lN (stq a d m r)) = lN (FqN a b d m r) := of64 (by rw [eF]; show _ = (((fsq a b d r % (stq a d m r : Int)).toNat : Nat) : Int); omega) (by show (fsq a b d r % (stq a d m r : Int)).toNat < _; omega)
    have lF : FqN a b d m r < stq a d m r := by show (fsq a b d r % (stq a d m r : Int)).toNat < _; omega
    rw [eF2, ale, l2iN (by omega)]
    refine ⟨A + 1, x8_b85 (ct := ctN (stq a d m) (FqN a b d m) r) s1 s2 hA (fun t => by have := hle r t; omega) A (FqN a b d m r) T (by omega) (by omega) (Nat.mod_eq_of_lt lF) (fun t ht => ?_) (fun U kU hU => ?_)⟩
    · rw [if_neg (fun z => ?_), Nat.add_zero]
      · exact hB t ht
      · have := Nat.mod_le t (stq a d m r)
        omega
    · rw [nadd1]
      exact ih (r + 1) U (by omega) (rur_kp h kU (by decide) (by decide)) hU (fun q V kV => h1 q V (kp_trans kU kV)) (fun q V kV => h0 q V (kp_trans kU kV))
theorem x8_b37 {post : Int32 → SS → Prop} (hA1 : 1 ≤ A) (hA : A ≤ 100000) (nz : ∀ r, r < m → ¬ a r = 0) : ∀ (j k : Nat) (T : SS), k + j = A → RUR T m a b d → (∀ t, t < k → gB T 2 t = 0) → ((∀ t, t < A → ctN (stq a d m) (FqN a b d m) m t = 1) → ∀ U, Kp [] [] [2] [] T U → post 1 U) → (¬ (∀ t, t < A → ctN (stq a d m) (FqN a b d m) m t = 1) → ∀ U, Kp [] [] [2] [] T U → post 0 U) → V_X8_both_37 (nI A) post (j + 1) (nI k) T := by
  intro j
  induction j with
  | zero =>
    intro k T hk h hB h1 h0
    obtain rfl : k = A := by omega
    rw [V_X8_both_37, brt (nI_le (Nat.le_refl _) (by omega))]
    exact ⟨m + 1, x8_b57 hA1 hA nz m 0 T (by omega) h hB h1 h0⟩
  | succ j ih =>
    intro k T hk h hB h1 h0
    rw [V_X8_both_37, brf (nI_ge (by omega) (by omega)), gdt (vp_in_nI (by omega) (by omega)), ale, ale, nI_clamp (by omega), nadd1]
    have kT : Kp [] [] [2] [] T (sB T 2 (upd (gB T 2) k 0)) := kp_sB (kp_refl _ _ _ _ T) (by decide)
    refine ih (k + 1) _ (by omega) (rur_kp h kT (by decide) (by decide)) (fun t ht => ?_) (fun q U kU => h1 q U (kp_trans kT kU)) (fun q U kU => h0 q U (kp_trans kT kU))
    rw [gB_sB]
    show (if t = k then (0 : Int32) else gB T 2 t) = 0
    by_cases c : t = k
    · rw [if_pos c]
    · rw [if_neg c]; exact hB t (by omega)
end
/-- what both sides answer, and what 1 says -/
theorem both_ex {S : SS} {m : Nat} (h : RUL S m) : ∃ v : Int32, (∀ post : Int32 → SS → Prop, post v S → V_X7_both S post) ∧ (∀ (T : SS) (post : Int32 → SS → Prop), RUR T m (gA S 0) (gA S 1) (gA S 2) → (∀ U, Kp [20] [] [2] [] T U → post v U) → V_X8_both T post) ∧ (v = 1 → (∀ r, r < m → ¬ gA S 0 r = 0) ∧ alF (gA S 0) (gA S 2) m ≤ 100000 ∧ gdF m (gA S 0) (gA S 1) (gA S 2) (alF (gA S 0) (gA S 2) m)) := by
  have hf := h.2.2.2.2.2.2.1
  have hm := h.2.1
  have hal : alF (gA S 0) (gA S 2) m ≤ 100001 := Nat.min_le_right _ _
  have c7 : ∀ (v : Int32) (post : Int32 → SS → Prop), ((∃ r, r < m ∧ gA S 0 r = 0) → post 0 S) → ((∀ r, r < m → ¬ gA S 0 r = 0) → (alF (gA S 0) (gA S 2) m ≤ 100000 → V_X5_fillsOnce 1 0 1 2 (nI (alF (gA S 0) (gA S 2) m)) S (fun r8 S9 => (r8 = 0 → post 0 S9) ∧ (¬ r8 = 0 → post 1 S9))) ∧ (¬ alF (gA S 0) (gA S 2) m ≤ 100000 → post (-2) S)) → V_X7_both S post := fun v post g0 g1 => by
    unfold V_X7_both
    rw [brt h.2.2.1]
    refine x5_noShare h (fun hz => ⟨fun z => absurd z (by decide), fun _ => g0 hz⟩) (fun nz => ⟨fun _ => ?_, fun z => absurd rfl z⟩)
    obtain ⟨q1, q2⟩ := g1 nz
    exact x5_common h nz ⟨fun c => q1 ((nI_leI (b := 100000) (by omega) (by omega)).mp c), fun c => q2 (fun z => c (nI_le (b := 100000) z (by omega)))⟩
  have c8 : ∀ (T : SS) (post : Int32 → SS → Prop), RUR T m (gA S 0) (gA S 1) (gA S 2) → ((∃ r, r < m ∧ gA S 0 r = 0) → post 0 (sI T 20 0)) → ((∀ r, r < m → ¬ gA S 0 r = 0) → ¬ alF (gA S 0) (gA S 2) m = 0 ∧ (alF (gA S 0) (gA S 2) m ≤ 100000 → ∃ n, V_X8_both_37 (nI (alF (gA S 0) (gA S 2) m)) post n 0 (sI T 20 0)) ∧ (¬ alF (gA S 0) (gA S 2) m ≤ 100000 → post (-2) (sI T 20 0))) → V_X8_both T post := fun T post hT g0 g1 => by
    have kT : Kp [20] [] [2] [] T (sI T 20 0) := kp_sI (kp_refl _ _ _ _ T) (by decide)
    have hT0 := rur_kp hT kT (by decide) (by decide)
    unfold V_X8_both
    rw [ale, brt (c := gI (sI T 20 0) 25 = (1 : Int32)) hT.2.2.1]
    refine x8_measure hT0 (fun hz => ⟨fun _ => g0 hz, fun z => absurd rfl z⟩) (fun nz => ?_)
    obtain ⟨q0, q1, q2⟩ := g1 nz
    refine ⟨fun z => absurd ((nI_inj (b := 0) (by omega) (by omega)).mp z) q0, fun _ => ⟨fun c => q1 ((nI_leI (b := 100000) (by omega) (by omega)).mp c), fun c => q2 (fun z => c (nI_le (b := 100000) z (by omega)))⟩⟩
  have k20 : ∀ T : SS, Kp [20] [] [2] [] T (sI T 20 0) := fun T => kp_sI (kp_refl _ _ _ _ T) (by decide)
  by_cases nz : ∀ r, r < m → ¬ gA S 0 r = 0
  · have hd := lcF_dvd (stq (gA S 0) (gA S 2) m) m 0 1 (Nat.le_refl _) (fun t _ ht => stq_pos hf (by omega) (nz t (by omega)))
    have nhz : ¬ ∃ r, r < m ∧ gA S 0 r = 0 := fun ⟨r, hr, e⟩ => nz r hr e
    have a1 : 1 ≤ alF (gA S 0) (gA S 2) m := by
      show 1 ≤ min _ 100001
      have := hd.1
      omega
    by_cases hA : alF (gA S 0) (gA S 2) m ≤ 100000
    · have eA : alF (gA S 0) (gA S 2) m = lcF (stq (gA S 0) (gA S 2) m) m 0 1 := by
        have e : alF (gA S 0) (gA S 2) m = min (lcF (stq (gA S 0) (gA S 2) m) m 0 1) 100001 := rfl
        omega
      have hdv : ∀ r, r < m → 1 ≤ stq (gA S 0) (gA S 2) m r ∧ stq (gA S 0) (gA S 2) m r ∣ alF (gA S 0) (gA S 2) m ∧ (FqN (gA S 0) (gA S 1) (gA S 2) m r : Int) = fsq (gA S 0) (gA S 1) (gA S 2) r % (stq (gA S 0) (gA S 2) m r : Int) := fun r hr => by
        have p1 := stq_pos hf hr (nz r hr)
        refine ⟨p1, ?_, ?_⟩
        · rw [eA]; exact (hd.2 (by omega)).2 r (by omega) (by omega)
        · exact Int.toNat_of_nonneg (Int.emod_nonneg _ (by omega))
      have iff := cover_iff a1 hdv
      by_cases gd : gdF m (gA S 0) (gA S 1) (gA S 2) (alF (gA S 0) (gA S 2) m)
      · refine ⟨1, fun post hp => c7 1 post (fun z => absurd z nhz) (fun _ => ⟨fun _ => x5_fills h nz a1 hA (fun _ => ⟨fun z => absurd z (by decide), fun _ => hp⟩) (fun z => absurd gd z), fun z => absurd hA z⟩), fun T post hT hp => c8 T post hT (fun z => absurd z nhz) (fun _ => ⟨by omega, fun _ => ⟨_, x8_b37 a1 hA nz _ 0 (sI T 20 0) (Nat.zero_add _) (rur_kp hT (k20 T) (by decide) (by decide)) (fun t ht => by omega) (fun _ U kU => hp U (kp_trans (k20 T) (kp_mono kU (by decide) (by decide) (by decide) (by decide)))) (fun z => absurd (iff.mpr gd) z)⟩, fun z => absurd hA z⟩), fun _ => ⟨nz, hA, gd⟩⟩
      · refine ⟨0, fun post hp => c7 0 post (fun z => absurd z nhz) (fun _ => ⟨fun _ => x5_fills h nz a1 hA (fun z => absurd z gd) (fun _ => ⟨fun _ => hp, fun z => absurd rfl z⟩), fun z => absurd hA z⟩), fun T post hT hp => c8 T post hT (fun z => absurd z nhz) (fun _ => ⟨by omega, fun _ => ⟨_, x8_b37 a1 hA nz _ 0 (sI T 20 0) (Nat.zero_add _) (rur_kp hT (k20 T) (by decide) (by decide)) (fun t ht => by omega) (fun z => absurd (iff.mp z) gd) (fun _ U kU => hp U (kp_trans (k20 T) (kp_mono kU (by decide) (by decide) (by decide) (by decide))))⟩, fun z => absurd hA z⟩), fun z => absurd z (by decide)⟩
    · refine ⟨-2, fun post hp => c7 (-2) post (fun z => absurd z nhz) (fun _ => ⟨fun z => absurd z hA, fun _ => hp⟩), fun T post hT hp => c8 T post hT (fun z => absurd z nhz) (fun _ => ⟨by omega, fun z => absurd z hA, fun _ => hp _ (k20 T)⟩), fun z => absurd z (by decide)⟩
  · have hz : ∃ r, r < m ∧ gA S 0 r = 0 := by
      rcases first_not (fun r => ¬ gA S 0 r = 0) m with q | ⟨r, q1, q2, -⟩
      · exact absurd q nz
      · exact ⟨r, q1, Classical.byContradiction q2⟩
    exact ⟨0, fun post hp => c7 0 post (fun _ => hp) (fun z => absurd z nz), fun T post hT hp => c8 T post hT (fun _ => hp _ (k20 T)) (fun z => absurd z nz), fun z => absurd z (by decide)⟩
theorem p_both {S : SS} (h : RR S) : V_X7_both S (fun r1 S2 => V_X8_both S2 (fun r3 S4 => (r1 = r3 → RR S4) ∧ (¬ r1 = r3 → False))) := by
  have h25 : gI S 25 = gI S 0 := h.2.1.1
  have hs0 := h.2.2.2.2.2.2
  by_cases c : gI S 0 = 1
  · obtain ⟨m, hR⟩ := rul_of h c
    obtain ⟨v, h7, h8, -⟩ := both_ex hR
    refine h7 _ (h8 S _ (rur_of hR) (fun U kU => eqp rfl ?_))
    exact none_end h (kp_refl _ _ _ _ S) hs0 (kp_mono kU (by decide) (by decide) (by decide) (by decide))
  · unfold V_X7_both
    rw [brf c]
    show V_X8_both _ _
    unfold V_X8_both
    rw [ale, brf (c := gI (sI S 20 0) 25 = (1 : Int32)) (fun z => c (h25.symm.trans z))]
    exact eqp rfl h
