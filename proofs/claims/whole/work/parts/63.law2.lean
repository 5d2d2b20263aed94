/-! LAW to its end -/
theorem ffit_first {q : Nat → Int64} {x : Int64} {i : Nat} : ∀ (j k : Nat), k ≤ i → i < k + j → lrm x (q i) = (0 : Int64) → (∀ t, k ≤ t → t < i → ¬ lrm x (q t) = (0 : Int64)) → ffit q x j k = i := by
  intro j
  induction j with
  | zero => intro k h1 h2; omega
  | succ j ih =>
    intro k h1 h2 hi hn
    unfold ffit
    by_cases c : lrm x (q k) = (0 : Int64)
    · rw [if_pos c]
      rcases Nat.lt_or_eq_of_le h1 with z | z
      · exact absurd c (hn k (Nat.le_refl _) z)
      · exact z
    · rw [if_neg c]
      have : k ≠ i := fun e => c (e ▸ hi)
      exact ih (k + 1) (by omega) (by omega) hi (fun t a b => hn t (by omega) b)
theorem ffit_sat {q : Nat → Int64} {x : Int64} : ∀ (j k t : Nat), k ≤ t → t < ffit q x j k → ¬ lrm x (q t) = (0 : Int64) := by
  intro j
  induction j with
  | zero => intro k t h1 h2; unfold ffit at h2; omega
  | succ j ih =>
    intro k t h1 h2
    unfold ffit at h2
    by_cases c : lrm x (q k) = (0 : Int64)
    · rw [if_pos c] at h2; omega
    · rw [if_neg c] at h2
      rcases Nat.lt_or_eq_of_le h1 with z | z
      · exact ih (k + 1) t z h2
      · exact z ▸ c
theorem lrm_self {x : Int64} (h : 1 ≤ x.toInt) : lrm x x = (0 : Int64) := (lrm0 h).mpr (Int.dvd_refl _)
abbrev pNt (f : Nat → Int64) (i : Nat) : Nat := (f i).toInt.toNat
theorem pNt_eq {f : Nat → Int64} {i : Nat} (h : 1 ≤ (f i).toInt ∧ (f i).toInt ≤ 1000000000) : f i = lN (pNt f i) ∧ 0 < pNt f i ∧ pNt f i ≤ 1000000000 :=
  ⟨of64 (by show _ = (((f i).toInt.toNat : Nat) : Int); omega) (by show (f i).toInt.toNat < _; omega), by show 0 < (f i).toInt.toNat; omega, by show (f i).toInt.toNat ≤ _; omega⟩
theorem x0_size {S : SS} {post : Int32 → SS → Prop} : V_X0_size S post = post (gI S 4) S := rfl
section
variable {n i : Nat} {p q : Nat → Int64} {w0 w1 w2 w3 w4 : Int32} {S : SS} {post : Int32 → SS → Prop}
/-- no fraction ahead of i fits wherever it does, and the weights differ -/
def lwP (p q : Nat → Int64) (w0 w1 w2 w3 w4 : Int32) (i : Nat) : Prop := (∀ j, j < i → ¬ lrm (q i) (q j) = (0 : Int64)) ∧ ¬ wtF (wpF w0 w1 w2 w3 w4) 2 (pNt p i) 0 = wtF (wpF w0 w1 w2 w3 w4) 2 (pNt q i) 0
theorem x7_law_step (h4 : gI S 4 = nI n) (hn : n ≤ 40) (hi : i < n) (hb : ∀ i, i < n → (1 ≤ (gA S 9 i).toInt ∧ (gA S 9 i).toInt ≤ 1000000000) ∧ (1 ≤ (gA S 10 i).toInt ∧ (gA S 10 i).toInt ≤ 1000000000)) (j : Nat) (h1 : lwP (gA S 9) (gA S 10) w0 w1 w2 w3 w4 i → post (nI i) S) (h0 : ¬ lwP (gA S 9) (gA S 10) w0 w1 w2 w3 w4 i → V_X7_law_14 w0 w1 w2 w3 w4 post j (nI (i + 1)) S) : V_X7_law_14 w0 w1 w2 w3 w4 post (j + 1) (nI i) S := by
  obtain ⟨hp, hq⟩ := hb i hi
  have ep := pNt_eq hp
  have eq := pNt_eq hq
  rw [V_X7_law_14, x0_size, h4, brf (nI_ge hi (by omega))]
  unfold V_X0_isEverFirst
  rw [x0_under h4 hi hn hq.1]
  unfold V_X0_firstFit
  rw [brt (c := (1 : Int64) ≤ gA S 10 i) (le64.mpr hq.1)]
  refine ⟨n + 1, x0_ff10 h4 hn (fun i hi => (hb i hi).2.1) n 0 (by omega) ?_⟩
  have hfi : lrm (gA S 10 i) (gA S 10 i) = (0 : Int64) := lrm_self hq.1
  have ev : ∀ c : ∀ j, j < i → ¬ lrm (gA S 10 i) (gA S 10 j) = (0 : Int64), ffit (gA S 10) (gA S 10 i) n 0 = i := fun c => ffit_first n 0 (by omega) (by omega) hfi (fun t _ b => c t b)
  by_cases c : ∀ j, j < i → ¬ lrm (gA S 10 i) (gA S 10 j) = (0 : Int64)
  · rw [ev c, if_neg (by omega)]
    refine ⟨fun _ => ⟨fun z => absurd z (by decide), fun _ => ?_⟩, fun z => absurd rfl z⟩
    rw [x0_over h4 hi hn hp.1, ep.1]
    refine x7_weight ep.2.1 ep.2.2 ?_
    rw [x0_under h4 hi hn hq.1, eq.1]
    refine x7_weight eq.2.1 eq.2.2 ⟨fun e => ?_, fun e => h1 ⟨c, e⟩⟩
    rw [ale, nadd1]
    exact h0 (fun z => z.2 e)
  · have hne : ¬ ffit (gA S 10) (gA S 10 i) n 0 = i := fun e => c (fun t ht => ffit_sat n 0 t (by omega) (by rw [e]; exact ht))
    have hle := ffit_le (gA S 10) (gA S 10 i) n 0
    have h0' := h0 (fun z => c z.1)
    rw [← nadd1] at h0'
    by_cases cn : ffit (gA S 10) (gA S 10 i) n 0 = n
    · rw [if_pos cn]
      refine ⟨fun z => ?_, fun _ => ⟨fun _ => ale.mpr h0', fun z => absurd rfl z⟩⟩
      have := eq32.mp z
      rw [nI_toInt (by omega), show (-1 : Int32).toInt = -1 from rfl] at this
      omega
    · rw [if_neg cn]
      refine ⟨fun z => absurd ((nI_inj (by omega) (by omega)).mp z) hne, fun _ => ⟨fun _ => ale.mpr h0', fun z => absurd rfl z⟩⟩
end
section
variable {n i : Nat} {p q : Nat → Int64} {w0 w1 w2 w3 w4 : Int32} {S : SS} {post : Int32 → SS → Prop} {fx : Nat → Int32} {K : Int32 → SS → Prop}
theorem x8_law61 (hf : fx 0 = w0 ∧ fx 1 = w1 ∧ fx 2 = w2 ∧ fx 3 = w3 ∧ fx 4 = w4) (hn : n ≤ 40) (hi : i < n) (he : ∀ i, i < n → gA S 33 i = p i ∧ gA S 34 i = q i ∧ (1 ≤ (p i).toInt ∧ (p i).toInt ≤ 1000000000) ∧ (1 ≤ (q i).toInt ∧ (q i).toInt ≤ 1000000000)) : ∀ (j t : Nat) (v8 : Int32), t + j = i → (v8 = 0 ∨ v8 = 1) → ((v8 = 1 ∧ ∀ u, t ≤ u → u < i → ¬ lrm (q i) (q u) = (0 : Int64)) → ((wtF (wpF w0 w1 w2 w3 w4) 2 (pNt p i) 0 = wtF (wpF w0 w1 w2 w3 w4) 2 (pNt q i) 0 → K (nI (i + 1)) S) ∧ (¬ wtF (wpF w0 w1 w2 w3 w4) 2 (pNt p i) 0 = wtF (wpF w0 w1 w2 w3 w4) 2 (pNt q i) 0 → post (nI i) S))) → (¬ (v8 = 1 ∧ ∀ u, t ≤ u → u < i → ¬ lrm (q i) (q u) = (0 : Int64)) → K (nI (i + 1)) S) → V_X8_law_61 fx (nI i) K post (j + 1) v8 (nI t) S := by
  obtain ⟨e1, e2, hp, hq⟩ := he i hi
  have ep := pNt_eq hp
  have eq := pNt_eq hq
  intro j
  induction j with
  | zero =>
    intro t v8 ht hv h1 h0
    obtain rfl : t = i := by omega
    rw [V_X8_law_61, brt (nI_le (Nat.le_refl _) (by omega))]
    refine ⟨fun c => ?_, fun c => ?_⟩
    · rw [ale, nadd1]
      exact h0 (fun z => by rw [c] at z; exact absurd z.1 (by decide))
    · have c1 : v8 = 1 := hv.resolve_left c
      obtain ⟨a, b⟩ := h1 ⟨c1, fun u a b => absurd b (by omega)⟩
      rw [gdt (vp_in_nI (by omega) (by omega)), nI_clamp (by omega), e1, ep.1]
      refine x8_weight hf ep.2.1 ep.2.2 ⟨vp_in_nI (by omega) (by omega), ?_⟩
      rw [e2, eq.1]
      refine x8_weight hf eq.2.1 eq.2.2 ⟨fun e => ?_, fun e => b e⟩
      rw [ale, nadd1]
      exact a e
  | succ j ih =>
    intro t v8 ht hv h1 h0
    rw [V_X8_law_61, brf (nI_ge (by omega) (by omega))]
    refine ⟨fun c => ?_, fun c => ?_⟩
    · rw [ale, nadd1]
      refine ih (t + 1) 0 (by omega) (Or.inl rfl) (fun z => absurd z.1 (by decide)) (fun _ => h0 (fun z => by rw [c] at z; exact absurd z.1 (by decide)))
    · have c1 : v8 = 1 := hv.resolve_left c
      obtain ⟨-, f2, -, hqt⟩ := he t (by omega)
      rw [gdt (vp_in_nI (by omega) (by omega)), gdt (vp_in_nI (by omega) (by omega)), nI_clamp (by omega), nI_clamp (by omega), f2, e2, gdt (nz_of hqt.1)]
      refine ⟨fun z => ?_, fun z => ?_⟩
      · rw [ale, nadd1]
        refine ih (t + 1) 0 (by omega) (Or.inl rfl) (fun z => absurd z.1 (by decide)) (fun _ => h0 (fun y => y.2 t (Nat.le_refl _) (by omega) z))
      · rw [ale, nadd1]
        refine ih (t + 1) 1 (by omega) (Or.inr rfl) (fun y => h1 ⟨c1, fun u a b => ?_⟩) (fun y => h0 (fun x => y ⟨rfl, fun u a b => x.2 u (by omega) b⟩))
        rcases Nat.lt_or_eq_of_le a with l | l
        · exact y.2 u l b
        · exact l ▸ z
theorem x8_law_step (hf : fx 0 = w0 ∧ fx 1 = w1 ∧ fx 2 = w2 ∧ fx 3 = w3 ∧ fx 4 = w4) (h27 : gI S 27 = nI n) (hn : n ≤ 40) (hi : i < n) (he : ∀ i, i < n → gA S 33 i = p i ∧ gA S 34 i = q i ∧ (1 ≤ (p i).toInt ∧ (p i).toInt ≤ 1000000000) ∧ (1 ≤ (q i).toInt ∧ (q i).toInt ≤ 1000000000)) (j : Nat) (h1 : lwP p q w0 w1 w2 w3 w4 i → post (nI i) S) (h0 : ¬ lwP p q w0 w1 w2 w3 w4 i → V_X8_law_46 fx post j (nI (i + 1)) S) : V_X8_law_46 fx post (j + 1) (nI i) S := by
  rw [V_X8_law_46, h27, brf (nI_ge hi (by omega))]
  refine ⟨i + 1, x8_law61 hf hn hi he i 0 1 (by omega) (Or.inr rfl) (fun c => ⟨fun e => h0 (fun z => z.2 e), fun e => h1 ⟨fun j hj => c.2 j (by omega) hj, e⟩⟩) (fun c => h0 (fun z => c ⟨rfl, fun u _ b => z.1 u b⟩))⟩
end
theorem p_law {w0 w1 w2 w3 w4 : Int32} {S : SS} (h : RR S) : V_X7_law w0 w1 w2 w3 w4 S (fun r1 S2 => V_X8_law w0 w1 w2 w3 w4 S2 (fun r3 S4 => (r1 = r3 → RR S4) ∧ (¬ r1 = r3 → False))) := by
  have h25 : gI S 25 = gI S 0 := h.2.1.1
  unfold V_X7_law
  refine ⟨fun c => ?_, fun c => ?_⟩
  · obtain ⟨-, q | ⟨q, -⟩ | ⟨-, n, hn, h4, h27, hf⟩⟩ := h.2.1
    · rw [q] at c; exact absurd c (by decide)
    · rw [q] at c; exact absurd c (by decide)
    · have hb : ∀ i, i < n → (1 ≤ (gA S 9 i).toInt ∧ (gA S 9 i).toInt ≤ 1000000000) ∧ (1 ≤ (gA S 10 i).toInt ∧ (gA S 10 i).toInt ≤ 1000000000) := fun i hi => (hf i hi).2.2
      have e8 : ∀ {post : Int32 → SS → Prop}, (∃ j, V_X8_law_46 (upd (upd (upd (upd (upd (fun _ => (0 : Int32)) 0 w0) 1 w1) 2 w2) 3 w3) 4 w4) post j (nI 0) (sI S 20 0)) → V_X8_law w0 w1 w2 w3 w4 S post := fun {post} hh => by
        unfold V_X8_law
        rw [ale, brt (c := gI (sI S 20 0) 25 = (2 : Int32)) (h25.trans c), gdt (by unfold vp_in; decide), ale, gdt (by unfold vp_in; decide), ale, gdt (by unfold vp_in; decide), ale, gdt (by unfold vp_in; decide), ale, gdt (by unfold vp_in; decide), ale]
        exact hh
      have hfx : (upd (upd (upd (upd (upd (fun _ => (0 : Int32)) 0 w0) 1 w1) 2 w2) 3 w3) 4 w4) 0 = w0 ∧ (upd (upd (upd (upd (upd (fun _ => (0 : Int32)) 0 w0) 1 w1) 2 w2) 3 w3) 4 w4) 1 = w1 ∧ (upd (upd (upd (upd (upd (fun _ => (0 : Int32)) 0 w0) 1 w1) 2 w2) 3 w3) 4 w4) 2 = w2 ∧ (upd (upd (upd (upd (upd (fun _ => (0 : Int32)) 0 w0) 1 w1) 2 w2) 3 w3) 4 w4) 3 = w3 ∧ (upd (upd (upd (upd (upd (fun _ => (0 : Int32)) 0 w0) 1 w1) 2 w2) 3 w3) 4 w4) 4 = w4 := ⟨rfl, rfl, rfl, rfl, rfl⟩
      have e7 : ∀ (T : SS), gI T 27 = nI n → (∀ i, i < n → gA T 33 i = gA S 9 i ∧ gA T 34 i = gA S 10 i ∧ (1 ≤ (gA S 9 i).toInt ∧ (gA S 9 i).toInt ≤ 1000000000) ∧ (1 ≤ (gA S 10 i).toInt ∧ (gA S 10 i).toInt ≤ 1000000000)) → ∀ (post : Int32 → SS → Prop) (r : Nat), r ≤ n → (∀ k, k < r → ¬ lwP (gA S 9) (gA S 10) w0 w1 w2 w3 w4 k) → (r = n → post (-1) T) → (r < n → lwP (gA S 9) (gA S 10) w0 w1 w2 w3 w4 r ∧ post (nI r) T) → ∀ (j i : Nat), i + j = r → V_X8_law_46 (upd (upd (upd (upd (upd (fun _ => (0 : Int32)) 0 w0) 1 w1) 2 w2) 3 w3) 4 w4) post (j + 1) (nI i) T := fun T h27 he post r hr hno hend hyes j => by
        induction j with
        | zero =>
          intro i hi
          obtain rfl : i = r := by omega
          rcases Nat.lt_or_eq_of_le hr with l | l
          · exact x8_law_step hfx h27 hn l he 0 (fun _ => (hyes l).2) (fun z => absurd (hyes l).1 z)
          · rw [V_X8_law_46, h27, brt (nI_le (by omega) (by omega))]
            exact hend l
        | succ j ih =>
          intro i hi
          exact x8_law_step hfx h27 hn (by omega) he (j + 1) (fun z => absurd z (hno i (by omega))) (fun _ => ih (i + 1) (by omega))
      have e6 : ∀ (post : Int32 → SS → Prop) (r : Nat), r ≤ n → (∀ k, k < r → ¬ lwP (gA S 9) (gA S 10) w0 w1 w2 w3 w4 k) → (r = n → post (-1) S) → (r < n → lwP (gA S 9) (gA S 10) w0 w1 w2 w3 w4 r ∧ post (nI r) S) → ∀ (j i : Nat), i + j = r → V_X7_law_14 w0 w1 w2 w3 w4 post (j + 1) (nI i) S := fun post r hr hno hend hyes j => by
        induction j with
        | zero =>
          intro i hi
          obtain rfl : i = r := by omega
          rcases Nat.lt_or_eq_of_le hr with l | l
          · exact x7_law_step h4 hn l hb 0 (fun _ => (hyes l).2) (fun z => absurd (hyes l).1 z)
          · rw [V_X7_law_14, x0_size, h4, brt (nI_le (by omega) (by omega))]
            exact hend l
        | succ j ih =>
          intro i hi
          exact x7_law_step h4 hn (by omega) hb (j + 1) (fun z => absurd z (hno i (by omega))) (fun _ => ih (i + 1) (by omega))
      have he : ∀ i, i < n → gA (sI S 20 0) 33 i = gA S 9 i ∧ gA (sI S 20 0) 34 i = gA S 10 i ∧ (1 ≤ (gA S 9 i).toInt ∧ (gA S 9 i).toInt ≤ 1000000000) ∧ (1 ≤ (gA S 10 i).toInt ∧ (gA S 10 i).toInt ≤ 1000000000) := hf
      rcases first_not (fun r => ¬ lwP (gA S 9) (gA S 10) w0 w1 w2 w3 w4 r) n with a | ⟨r, a, b, d⟩
      · refine ⟨n + 1, e6 _ n (Nat.le_refl _) a (fun _ => ?_) (fun z => absurd z (by omega)) n 0 (by omega)⟩
        exact e8 ⟨n + 1, e7 (sI S 20 0) h27 he _ n (Nat.le_refl _) a (fun _ => eqp rfl h) (fun z => absurd z (by omega)) n 0 (by omega)⟩
      · have b : lwP (gA S 9) (gA S 10) w0 w1 w2 w3 w4 r := Classical.byContradiction b
        refine ⟨r + 1, e6 _ r (by omega) d (fun z => absurd z (by omega)) (fun _ => ⟨b, ?_⟩) r 0 (by omega)⟩
        exact e8 ⟨r + 1, e7 (sI S 20 0) h27 he _ r (by omega) d (fun z => absurd z (by omega)) (fun _ => ⟨b, eqp rfl h⟩) r 0 (by omega)⟩
  · show V_X8_law _ _ _ _ _ _ _
    unfold V_X8_law
    rw [ale, brf (c := gI (sI S 20 0) 25 = (2 : Int32)) (fun z => c (h25.symm.trans z))]
    exact eqp rfl h
