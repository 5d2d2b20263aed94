/-! RINGS: the class -/
def xqS (s : T3) : Int64 := Int64.ofInt s.2.1 / (Int64.ofInt s.2.2 - Int64.ofInt s.1)
/-- the word has a ring of its own, met at its least number -/
def rvC (m : Nat) (a b d : Nat → Int64) (k : Nat) (w : Nat → Nat) : Prop := ¬ Int64.ofInt (shT a b d w k).1 = Int64.ofInt (shT a b d w k).2.2 ∧ lrm (Int64.ofInt (shT a b d w k).2.1) (Int64.ofInt (shT a b d w k).2.2 - Int64.ofInt (shT a b d w k).1) = 0 ∧ RGP m a b d w k (xqS (shT a b d w k)) ∧ ∀ t, 0 < t → t < k → xqS (shT a b d w k) < obF m a b d (xqS (shT a b d w k)) t
noncomputable def rvF (m : Nat) (a b d : Nat → Int64) (k : Nat) (w : Nat → Nat) : Option Int64 := @ite (Option Int64) (rvC m a b d k w) (Classical.propDecidable _) (some (xqS (shT a b d w k))) none
theorem rvF_in {m : Nat} {a b d : Nat → Int64} {k : Nat} {w : Nat → Nat} (h : rvC m a b d k w) : rvF m a b d k w = some (xqS (shT a b d w k)) := if_pos h
theorem rvF_out {m : Nat} {a b d : Nat → Int64} {k : Nat} {w : Nat → Nat} (h : ¬ rvC m a b d k w) : rvF m a b d k w = none := if_neg h
theorem rvC_ext {m : Nat} {a b d : Nat → Int64} {k : Nat} {u v : Nat → Nat} (h : ∀ t, t < k → u t = v t) : rvC m a b d k u → rvC m a b d k v := fun ⟨h1, h2, h3, h4⟩ => by
  have e := shT_ext (a := a) (b := b) (d := d) k h
  unfold rvC
  rw [← e]
  exact ⟨h1, h2, ⟨fun i hi => by rw [← h i hi]; exact h3.1 i hi, h3.2⟩, h4⟩
theorem rvF_ext {m : Nat} {a b d : Nat → Int64} {k : Nat} {u v : Nat → Nat} (h : ∀ t, t < k → u t = v t) : rvF m a b d k u = rvF m a b d k v := by
  by_cases c : rvC m a b d k u
  · rw [rvF_in c, rvF_in (rvC_ext h c), shT_ext (a := a) (b := b) (d := d) k h]
  · rw [rvF_out c, rvF_out (fun z => c (rvC_ext (fun t ht => (h t ht).symm) z))]
/-- no shape of the word is too large -/
def okA (a b d : Nat → Int64) (k : Nat) (w : Nat → Nat) : Prop := ∀ t, t ≤ k → okT (shT a b d w t)
theorem okA_ext {a b d : Nat → Int64} {k : Nat} {u v : Nat → Nat} (h : ∀ t, t < k → u t = v t) : okA a b d k u ↔ okA a b d k v := by
  constructor
  · intro q t ht
    rw [← shT_ext (a := a) (b := b) (d := d) (w := u) t (fun i hi => h i (by omega))]
    exact q t ht
  · intro q t ht
    rw [shT_ext (a := a) (b := b) (d := d) (w := u) (v := v) t (fun i hi => h i (by omega))]
    exact q t ht
section
variable {m k : Nat} {a b d : Nat → Int64} {x : Int64}
theorem x7_least6 {S : SS} {post : Int32 → SS → Prop} (h : RUL S m) (hs : gA S 0 = a ∧ gA S 1 = b ∧ gA S 2 = d) (hk1 : 1 ≤ k) (hk : k ≤ 12) (h1 : (∀ t, 0 < t → t < k → x < obF m a b d x t) → post 1 S) (h0 : ¬ (∀ t, 0 < t → t < k → x < obF m a b d x t) → post 0 S) : V_X7_isLeastOfRing x (nI k) S post := by
  have key : ∀ (j i : Nat), i + 1 + j = k → (∀ t, 0 < t → t < i + 1 → x < obF m a b d x t) → V_X7_isLeastOfRing_6 x (nI k) post (j + 1) (obF m a b d x i) (nI (i + 1)) S := by
    intro j
    induction j with
    | zero =>
      intro i hi hq
      obtain rfl : k = i + 1 := by omega
      rw [V_X7_isLeastOfRing_6, brt (nI_le (Nat.le_refl _) (by omega))]
      exact h1 hq
    | succ j ih =>
      intro i hi hq
      rw [V_X7_isLeastOfRing_6, brf (nI_ge (by omega) (by omega))]
      refine x5_afterR h ?_
      rw [hs.1, hs.2.1, hs.2.2]
      refine ⟨fun c => ?_, fun c => h0 (fun z => c (z (i + 1) (by omega) (by omega)))⟩
      rw [ale, nadd1]
      refine ih (i + 1) (by omega) (fun t h1 h2 => ?_)
      rcases Nat.lt_or_eq_of_le (Nat.le_of_lt_succ h2) with y | y
      · exact hq t h1 y
      · rw [y]; exact c
  exact ⟨k - 1 + 1, key (k - 1) 0 (by omega) (fun t h1 h2 => by omega)⟩
theorem x7_next {i : Nat} {T : SS} {post : Int32 → SS → Prop} (h : RUL T m) (hk1 : 1 ≤ k) (hk : k ≤ 12) (hi : i + 1 < m ^ k) (hW : WC T 11 16 k (wC m k i)) (hp : ∀ U p, p < k → Kp [] [] [] [16] T U → WC U 11 16 k (wC m k (i + 1)) → (∀ t, t < p → wC m k (i + 1) t = wC m k i t) → post (nI p) U) : V_X7_nextWord (nI k) T post := by
  have hm2 := h.1
  have hm := h.2.1
  have hm0 : 0 < m := by omega
  have fin : ∀ (p : Nat) (U : SS), p < k → Kp [] [] [] [16] T U → (∀ t, t ≤ p → gA U 16 t = lN (wC m k i t)) → (∀ t, p < t → t < k → gA U 16 t = 0) → i % m ^ (k - 1 - p) = m ^ (k - 1 - p) - 1 → (p = 0 ∨ ¬ wC m k i p = m - 1) → V_X2_at 11 16 12 (nI p) U (fun r3 S4 => V_X2_put 11 16 12 (nI p) (r3 + (1 : Int64)) S4 (fun S6 => post (nI p) S6)) := fun p U hpk kU hlo hhi he hd => by
    have g11 : gI U 11 = nI k := (kU.1 11 List.not_mem_nil).trans hW.1
    have hdl := wC_lt hm0 k i p
    rw [x2_at g11 hpk hk (by omega), hlo p (Nat.le_refl _), l_inc (by omega), x2_put g11 hpk hk (by omega)]
    have edig : wC m k (i + 1) p = wC m k i p + 1 := by
      obtain ⟨n1, -⟩ := nx_div hm0 he
      show (i + 1) / m ^ (k - 1 - p) % m = i / m ^ (k - 1 - p) % m + 1
      rw [n1]
      rcases hd with z | z
      · subst z
        have e1 : m ^ k = m ^ (k - 1 - 0) * m := by
          rw [← Nat.pow_succ]; congr 1; omega
        have l1 : (i + 1) / m ^ (k - 1 - 0) < m := Nat.div_lt_of_lt_mul (by rw [← e1]; exact hi)
        rw [n1] at l1
        rw [Nat.mod_eq_of_lt l1, Nat.mod_eq_of_lt (show i / m ^ (k - 1 - 0) < m by omega)]
      · have z : ¬ i / m ^ (k - 1 - p) % m = m - 1 := z
        have hl := Nat.mod_lt (i / m ^ (k - 1 - p)) hm0
        have e4 := Nat.div_add_mod (i / m ^ (k - 1 - p)) m
        have e6 : i / m ^ (k - 1 - p) + 1 = m * (i / m ^ (k - 1 - p) / m) + (i / m ^ (k - 1 - p) % m + 1) := by omega
        rw [e6, Nat.mul_add_mod, Nat.mod_eq_of_lt (by omega)]
    have ehigh : ∀ t, t < p → wC m k (i + 1) t = wC m k i t := fun t ht => by
      rcases hd with z | z
      · omega
      · show (i + 1) / m ^ (k - 1 - t) % m = i / m ^ (k - 1 - t) % m
        rw [nx_high hm0 he z (by omega)]
    refine hp _ p hpk (kp_sA kU (by decide)) ⟨g11, fun t ht => ?_⟩ ehigh
    rw [gA_sA]
    by_cases c : t = p
    · subst c; rw [updL_eq, edig]
    · rw [updL_ne _ _ c]
      rcases Nat.lt_or_ge t p with y | y
      · rw [hlo t (by omega), ehigh t y]
      · rw [hhi t (by omega) ht]
        have : wC m k (i + 1) t = 0 := nx_low hm0 he (show k - 1 - t < k - 1 - p by omega)
        rw [this]; rfl
  have key : ∀ (p : Nat) (U : SS), p < k → Kp [] [] [] [16] T U → (∀ t, t ≤ p → gA U 16 t = lN (wC m k i t)) → (∀ t, p < t → t < k → gA U 16 t = 0) → i % m ^ (k - 1 - p) = m ^ (k - 1 - p) - 1 → V_X7_nextWord_4 post (p + 1) (nI p) U := by
    intro p
    induction p with
    | zero =>
      intro U hpk kU hlo hhi he
      rw [V_X7_nextWord_4, brt (c := nI 0 ≤ (0 : Int32)) (by decide)]
      exact fin 0 U hpk kU hlo hhi he (Or.inl rfl)
    | succ p ih =>
      intro U hpk kU hlo hhi he
      have g11 : gI U 11 = nI k := (kU.1 11 List.not_mem_nil).trans hW.1
      have g1 : gI U 1 = nI m := (kU.1 1 List.not_mem_nil).trans h.2.2.2.2.1
      have hdl := wC_lt hm0 k i (p + 1)
      rw [V_X7_nextWord_4, brf (nI_nle (Nat.succ_pos p) (by omega)), x2_at g11 hpk hk (by omega), x5_measure, g1, hlo (p + 1) (Nat.le_refl _), nsub1 (by omega), nI_i64 (by omega)]
      have ed : lN (wC m k i (p + 1)) = lN (m - 1) ↔ wC m k i (p + 1) = m - 1 := pk_lEQ (by omega) (by omega)
      refine ⟨fun c => ?_, fun c => fin (p + 1) U hpk kU hlo hhi he (Or.inr (fun z => c (ed.mpr z)))⟩
      have c := ed.mp c
      rw [x2_put g11 hpk hk (by omega), ale, nI_m1 (by omega), Nat.add_sub_cancel]
      have ec := nx_carry hm0 he c
      refine ih _ (by omega) (kp_sA kU (by decide)) (fun t ht => ?_) (fun t h1 h2 => ?_) (by rw [show k - 1 - p = k - 1 - (p + 1) + 1 by omega]; exact ec)
      · rw [gA_sA, updL_ne _ _ (by omega)]; exact hlo t (by omega)
      · rw [gA_sA]
        by_cases q : t = p + 1
        · subst q; rw [updL_eq]
        · rw [updL_ne _ _ q]; exact hhi t (by omega) h2
  unfold V_X7_nextWord
  rw [nsub1 hk1, ale]
  refine ⟨k - 1 + 1, key (k - 1) T (by omega) (kp_refl _ _ _ _ T) (fun t ht => hW.2 t (by omega)) (fun t h1 h2 => by omega) ?_⟩
  rw [show k - 1 - (k - 1) = 0 by omega, Nat.pow_zero, Nat.mod_one]
/-- T differs from S at most in these, and not in the first shape -/
def Gx (S T : SS) : Prop := Kp [8, 11] [] [] [13, 16, 17, 18, 19] S T ∧ gA T 17 0 = gA S 17 0 ∧ gA T 18 0 = gA S 18 0 ∧ gA T 19 0 = gA S 19 0
theorem gx_refl (S : SS) : Gx S S := ⟨kp_refl _ _ _ _ S, rfl, rfl, rfl⟩
theorem gx_trans {S T U : SS} (h : Gx S T) (g : Gx T U) : Gx S U := ⟨kp_trans h.1 g.1, g.2.1.trans h.2.1, g.2.2.1.trans h.2.2.1, g.2.2.2.trans h.2.2.2⟩
theorem gx_fx {S T : SS} (h : Fx S T) : Gx S T := ⟨kp_mono h.1 (by decide) (by decide) (by decide) (by decide), h.2⟩
theorem gx_kp {S T : SS} (h : Kp [8, 11] [] [] [13, 16] S T) : Gx S T := ⟨kp_mono h (by decide) (by decide) (by decide) (by decide), by rw [h.2.2.2 17 (by decide)], by rw [h.2.2.2 18 (by decide)], by rw [h.2.2.2 19 (by decide)]⟩
theorem gx_rs {S T : SS} (h : Gx S T) (hs : Rs0 (gA S 17) (gA S 18) (gA S 19)) : Rs0 (gA T 17) (gA T 18) (gA T 19) := by
  obtain ⟨-, e1, e2, e3⟩ := h
  unfold Rs0
  rw [e1, e2, e3]; exact hs
theorem asc_take {l : List Int64} (h : Asc l) (n : Nat) : Asc (l.take n) := List.Pairwise.sublist (List.take_sublist n l) h
theorem x7_rbody {L : Int32 → Int32 → SS → Prop} {post : Int32 → SS → Prop} {v4 : Int32} {p : Nat} {w : Nat → Nat} {l : List Int64} {T : SS} (hk1 : 1 ≤ k) (hk : k ≤ 12) (hw : ∀ t, t < k → w t < m) (hpk : p ≤ k) (h : RUL T m) (hs : gA T 0 = a ∧ gA T 1 = b ∧ gA T 2 = d) (hW : WC T 11 16 k w) (hS : ∀ t, t ≤ p → SH T t (shT a b d w t)) (h8 : NR T 8 13 ((isL l).take 1000)) (hno : ¬ okA a b d k w → ∀ U, Gx T U → post (-2) U) (hyes : okA a b d k w → ∀ U, Gx T U → WC U 11 16 k w → (∀ t, t ≤ k → SH U t (shT a b d w t)) → NR U 8 13 ((isL (l ++ (rvF m a b d k w).toList)).take 1000) → L (nI (l ++ (rvF m a b d k w).toList).length) (v4 + 1) U) : V_X7_shapeWord 11 16 12 (nI p) T (fun r17 S18 => (r17 = 0 → post (-2) S18) ∧ (¬ r17 = 0 → V_X7_ringNumber 11 16 12 (nI k) S18 (fun r20 S21 => V_X7_isNumber r20 S21 (fun r22 S23 => (r22 = 0 → ∀ x25 : Int32, x25 = v4 + 1 → L (nI l.length) x25 S23) ∧ (¬ r22 = 0 → V_X7_isLeastOfRing r20 (nI k) S23 (fun r26 S27 => (r26 = 0 → ∀ x29 : Int32, x29 = v4 + 1 → L (nI l.length) x29 S27) ∧ (¬ r26 = 0 → ∀ x30 : Int32, x30 = nI l.length + 1 → V_X2_sortIn 8 13 1000 r20 S27 (fun S32 => ∀ x33 : Int32, x33 = v4 + 1 → L x30 x33 S32)))))))) := by
  have hm := h.2.1
  refine ⟨k - p + 1, x7_shapeW (m := m) (n := k) (w := w) (a := a) (b := b) (d := d) (by omega) hk (by omega) (by decide) hw (k - p) p T (by omega) h hs hW hS (fun ok U fU hU => ⟨fun z => absurd z (by decide), fun _ => ?_⟩) (fun nok U fU => ⟨fun _ => hno nok U (gx_fx fU), fun z => absurd rfl z⟩)⟩
  obtain ⟨hR, s1, s2, s3⟩ := rul_kp h fU.1 (by decide) (by decide)
  have sU : gA U 0 = a ∧ gA U 1 = b ∧ gA U 2 = d := ⟨s1.trans hs.1, s2.trans hs.2.1, s3.trans hs.2.2⟩
  have wU := wc_kp hW fU.1 (by decide) (by decide)
  have n8 := nr_kp h8 fU.1 (by decide) (by decide)
  have okk := ok k (Nat.le_refl _)
  have et := t3_of okk
  have hSk := hU k (Nat.le_refl _)
  rw [← et] at hSk
  -- nothing new
  have none_ : ¬ rvC m a b d k w → L (nI l.length) (v4 + 1) U := fun nc => by
    have := hyes ok U (gx_fx fU) wU hU
    rw [rvF_out nc] at this
    rw [show l ++ (none : Option Int64).toList = l from List.append_nil l] at this
    exact this n8
  refine x7_ringN (m := m) (a := a) (b := b) (d := d) (w := w) (P := Int64.ofInt (shT a b d w k).1) (Q := Int64.ofInt (shT a b d w k).2.1) (R := Int64.ofInt (shT a b d w k).2.2) (by omega) hk (by omega) hR sU wU hw hSk (fun c1 c2 c3 => ?_) (fun nc => ?_)
  · have hN : isN (xqS (shT a b d w k)) := (c3.1 0 (by omega)).1
    show V_X7_isNumber (xqS (shT a b d w k)) U _
    rw [x7_isN hN, brf (by decide)]
    refine x7_least6 hR sU hk1 hk (fun c4 => ⟨fun z => absurd z (by decide), fun _ => ?_⟩) (fun c4 => ⟨fun _ => ?_, fun z => absurd rfl z⟩)
    · have rc : rvC m a b d k w := ⟨c1, c2, c3, c4⟩
      rw [ale]
      have hl : ((isL l).take 1000).length ≤ 1000 := by rw [List.length_take]; omega
      refine x2_sortInL n8 (asc_take (isL_asc l) 1000) hl (by omega) (by omega) (fun V kV hV => ?_)
      rw [ale]
      have fUV : Gx T V := gx_trans (gx_fx fU) (gx_kp (kp_mono kV (by decide) (by decide) (by decide) (by decide)))
      have := hyes ok V fUV (wc_kp wU kV (by decide) (by decide)) (fun t ht => by
        have q := hU t ht
        unfold SH at q ⊢
        rw [kV.2.2.2 17 (by decide), kV.2.2.2 18 (by decide), kV.2.2.2 19 (by decide)]; exact q)
      rw [rvF_in rc] at this
      rw [show (some (xqS (shT a b d w k)) : Option Int64).toList = [xqS (shT a b d w k)] from rfl, isL_snoc, List.length_append] at this
      rw [insL_take] at hV
      rw [nadd1]
      exact this hV
    · rw [ale]
      exact none_ (fun z => c4 z.2.2.2)
  · rw [x7_notN notN_bey, brt rfl, ale]
    exact none_ (fun z => nc ⟨z.1, z.2.1, z.2.2.1⟩)
theorem x7_rings55 {N i0 : Nat} {post : Int32 → SS → Prop} (hk1 : 1 ≤ k) (hk : k ≤ 12) (hN : N = m ^ k) (hN2 : N ≤ 20000) (hi0 : i0 ≤ N) (hok : ∀ t, t < i0 → okA a b d k (wC m k t)) : ∀ (j i : Nat) (T : SS), i + j = i0 → RUL T m → gA T 0 = a ∧ gA T 1 = b ∧ gA T 2 = d → Rs0 (gA T 17) (gA T 18) (gA T 19) → (0 < i → WC T 11 16 k (wC m k (i - 1)) ∧ ∀ t, t ≤ k → SH T t (shT a b d (wC m k (i - 1)) t)) → NR T 8 13 ((isL (cdL (fun i => rvF m a b d k (wC m k i)) i)).take 1000) → (i0 = N → ∀ U, Gx T U → NR U 8 13 ((isL (cdL (fun i => rvF m a b d k (wC m k i)) N)).take 1000) → V_X2_become 7 12 1000 8 13 1000 U (fun S13 => post (nI (cdL (fun i => rvF m a b d k (wC m k i)) N).length) S13)) → (i0 < N → ¬ okA a b d k (wC m k i0) ∧ ∀ U, Gx T U → post (-2) U) → V_X7_rings_55 (nI k) (nI N) post (j + 1) (nI (cdL (fun i => rvF m a b d k (wC m k i)) i).length) (nI i) T := by
  intro j
  have step : ∀ (j i : Nat) (T : SS), i < N → RUL T m → gA T 0 = a ∧ gA T 1 = b ∧ gA T 2 = d → Rs0 (gA T 17) (gA T 18) (gA T 19) → (0 < i → WC T 11 16 k (wC m k (i - 1)) ∧ ∀ t, t ≤ k → SH T t (shT a b d (wC m k (i - 1)) t)) → NR T 8 13 ((isL (cdL (fun i => rvF m a b d k (wC m k i)) i)).take 1000) → (¬ okA a b d k (wC m k i) → ∀ U, Gx T U → post (-2) U) → (okA a b d k (wC m k i) → ∀ U, Gx T U → WC U 11 16 k (wC m k i) → (∀ t, t ≤ k → SH U t (shT a b d (wC m k i) t)) → NR U 8 13 ((isL (cdL (fun i => rvF m a b d k (wC m k i)) (i + 1))).take 1000) → V_X7_rings_55 (nI k) (nI N) post j (nI (cdL (fun i => rvF m a b d k (wC m k i)) (i + 1)).length) (nI (i + 1)) U) → V_X7_rings_55 (nI k) (nI N) post (j + 1) (nI (cdL (fun i => rvF m a b d k (wC m k i)) i).length) (nI i) T := fun j i T hiN h hs hs0 hprev h8 hno hyes => by
    have hm2 := h.1
    have hm0 : 0 < m := by omega
    rw [V_X7_rings_55, brf (nI_ge hiN (by omega))]
    have hw : ∀ t, t < k → wC m k i t < m := fun t _ => wC_lt hm0 k i t
    refine ⟨fun c => ?_, fun c => ?_⟩
    · have c : i = 0 := (nI_inj (b := 0) (by omega) (by omega)).mp c
      subst c
      unfold V_X7_firstWord
      refine x2_zeros hk (by omega) ?_
      generalize hV : sI (sA T 16 _) 11 (nI k) = V
      have kV : Kp [8, 11] [] [] [13, 16] T V := by rw [← hV]; exact kp_sI (kp_sA (kp_refl _ _ _ _ T) (by decide)) (by decide)
      obtain ⟨hR, s1, s2, s3⟩ := rul_kp h kV (by decide) (by decide)
      have wV : WC V 11 16 k (wC m k 0) := by
        rw [← hV]
        refine ⟨rfl, fun t ht => ?_⟩
        show (if t < k then (0 : Int64) else _) = _
        rw [if_pos ht]
        show (0 : Int64) = lN (0 / m ^ (k - 1 - t) % m)
        rw [Nat.zero_div, Nat.zero_mod]; rfl
      have gV := gx_kp kV
      refine x7_rbody (L := fun v3 x S => V_X7_rings_55 (nI k) (nI N) post j v3 x S) (v4 := nI 0) (p := 0) hk1 hk hw (by omega) hR ⟨s1.trans hs.1, s2.trans hs.2.1, s3.trans hs.2.2⟩ wV (fun t ht => ?_) (nr_kp h8 (show Kp [11] [] [] [16] T V by rw [← hV]; exact kp_sI (kp_sA (kp_refl _ _ _ _ T) (by decide)) (by decide)) (by decide) (by decide)) (fun q U gU => hno q U (gx_trans gV gU)) (fun q U gU w8 hS8 n8 => ?_)
      · obtain rfl : t = 0 := by omega
        exact sh_0 (gx_rs gV hs0)
      · rw [nadd1]
        exact hyes q U (gx_trans gV gU) w8 hS8 n8
    · have c : 0 < i := Nat.pos_of_ne_zero (fun z => c (by rw [z]; rfl))
      obtain ⟨wT, hST⟩ := hprev c
      refine x7_next (i := i - 1) h hk1 hk (by rw [← hN]; omega) wT (fun V p hp kV wV hsame => ?_)
      rw [show i - 1 + 1 = i by omega] at wV hsame
      obtain ⟨hR, s1, s2, s3⟩ := rul_kp h kV (by decide) (by decide)
      have gV : Gx T V := gx_kp (kp_mono kV (by decide) (by decide) (by decide) (by decide))
      refine x7_rbody (L := fun v3 x S => V_X7_rings_55 (nI k) (nI N) post j v3 x S) (v4 := nI i) (p := p) hk1 hk hw (by omega) hR ⟨s1.trans hs.1, s2.trans hs.2.1, s3.trans hs.2.2⟩ wV (fun t ht => ?_) (nr_kp h8 kV (by decide) (by decide)) (fun q U gU => hno q U (gx_trans gV gU)) (fun q U gU w8 hS8 n8 => ?_)
      · rw [shT_ext (a := a) (b := b) (d := d) (w := wC m k i) (v := wC m k (i - 1)) t (fun u hu => hsame u (by omega))]
        have q := hST t (by omega)
        unfold SH at q ⊢
        rw [kV.2.2.2 17 (by decide), kV.2.2.2 18 (by decide), kV.2.2.2 19 (by decide)]; exact q
      · rw [nadd1]
        exact hyes q U (gx_trans gV gU) w8 hS8 n8
  induction j with
  | zero =>
    intro i T hi h hs hs0 hprev h8 hend hbad
    obtain rfl : i = i0 := by omega
    rcases Nat.lt_or_eq_of_le hi0 with l | l
    · obtain ⟨q1, q2⟩ := hbad l
      exact step 0 i T l h hs hs0 hprev h8 (fun _ => q2) (fun z => absurd z q1)
    · rw [V_X7_rings_55, brt (nI_le (by omega) (by omega))]
      rw [l] at h8 ⊢
      exact hend l T (gx_refl T) h8
  | succ j ih =>
    intro i T hi h hs hs0 hprev h8 hend hbad
    refine step (j + 1) i T (by omega) h hs hs0 hprev h8 (fun z => absurd (hok i (by omega)) z) (fun _ U gU w8 hS8 n8 => ?_)
    obtain ⟨hR, s1, s2, s3⟩ := rul_kp h gU.1 (by decide) (by decide)
    exact ih (i + 1) U (by omega) hR ⟨s1.trans hs.1, s2.trans hs.2.1, s3.trans hs.2.2⟩ (gx_rs gU hs0) (fun _ => by rw [Nat.add_sub_cancel]; exact ⟨w8, hS8⟩) n8 (fun e V gV => hend e V (gx_trans gU gV)) (fun e => ⟨(hbad e).1, fun V gV => (hbad e).2 V (gx_trans gU gV)⟩)
end
