/-! SEAL, the reference's; both to their end -/
theorem share_of {a b d : Int64} {S : SS} {post : Int32 → SS → Prop} (h1 : (-1000 ≤ a.toInt ∧ a.toInt ≤ 1000) ∧ (-1000 ≤ b.toInt ∧ b.toInt ≤ 1000) ∧ (1 ≤ d.toInt ∧ d.toInt ≤ 1000) → post 1 S) (h0 : ¬ ((-1000 ≤ a.toInt ∧ a.toInt ≤ 1000) ∧ (-1000 ≤ b.toInt ∧ b.toInt ≤ 1000) ∧ (1 ≤ d.toInt ∧ d.toInt ≤ 1000)) → post 0 S) : V_X8_isShare a b d S post := by
  unfold V_X8_isShare
  refine in_of (fun c1 => ⟨fun e => absurd e (by decide), fun _ => ?_⟩) (fun c1 => ⟨fun _ => h0 (fun q => c1 q.1), fun e => absurd rfl e⟩)
  refine in_of (fun c2 => ⟨fun e => absurd e (by decide), fun _ => ?_⟩) (fun c2 => ⟨fun _ => h0 (fun q => c2 q.2.1), fun e => absurd rfl e⟩)
  exact in_of (fun c3 => ⟨fun e => absurd e (by decide), fun _ => h1 ⟨c1, c2, c3⟩⟩) (fun c3 => ⟨fun _ => h0 (fun q => c3 q.2.2), fun e => absurd rfl e⟩)
section
variable {m r : Nat} {S : SS} {post : Int32 → SS → Prop}
/-- one look of the reference at a REST: sound goes on, unsound ends -/
theorem s21_step (j k : Nat) (h24 : gI S 24 = nI m) (hm : m ≤ 64) (hk : k < m) (h1 : sndAt m k (gA S 31 (3 * k)) (gA S 31 (3 * k + 1)) (gA S 31 (3 * k + 2)) → V_X8_seal_21 post j (nI (k + 1)) S) (h0 : ¬ sndAt m k (gA S 31 (3 * k)) (gA S 31 (3 * k + 1)) (gA S 31 (3 * k + 2)) → post ((-1 : Int32) - nI k) S) : V_X8_seal_21 post (j + 1) (nI k) S := by
  rw [V_X8_seal_21, h24, brf (nI_ge hk (by omega)), nmul3 (by omega), nadd1, nadd2, gdt (vp_in_nI (by omega) (by omega)), gdt (vp_in_nI (by omega) (by omega)), gdt (vp_in_nI (by omega) (by omega)), nI_clamp (by omega), nI_clamp (by omega), nI_clamp (by omega)]
  refine share_of (fun c => ⟨fun e => absurd e (by decide), fun _ => ?_⟩) (fun c => ⟨fun _ => h0 (fun q => c ⟨q.1, q.2.1, q.2.2.1⟩), fun e => absurd rfl e⟩)
  obtain ⟨ha, hb, hd⟩ := c
  have nz : ¬ gA S 31 (3 * k + 2) = 0 := fun e => by rw [e] at hd; exact absurd hd.1 (by decide)
  have p1 := prN (a := gA S 31 (3 * k)) (k := k) ha (by omega)
  have p2 := prN (a := gA S 31 (3 * k)) (k := m) ha hm
  have e1 : (gA S 31 (3 * k) * (nI k).toInt64 + gA S 31 (3 * k + 1)).toInt = (gA S 31 (3 * k)).toInt * k + (gA S 31 (3 * k + 1)).toInt := by
    rw [a64 (by rw [p1.1]; omega) (by rw [p1.1]; omega), p1.1]
  refine ⟨nz, fun c1 => ⟨nz, fun c2 => ?_, fun c2 => ?_⟩, fun c1 => ?_⟩
  · rw [h24] at c1
    rw [ale, nadd1]
    refine h1 ⟨ha, hb, hd, ?_, ?_⟩
    · rw [← p2.1]; exact (lrm0 hd.1).mp c1
    · rw [← e1]; exact (lrm0 hd.1).mp c2
  · exact h0 (fun q => c2 ((lrm0 hd.1).mpr (by rw [e1]; exact q.2.2.2.2)))
  · rw [h24] at c1
    exact h0 (fun q => c1 ((lrm0 hd.1).mpr (by rw [p2.1]; exact q.2.2.2.1)))
theorem s115 (h24 : gI S 24 = nI m) (hm : m ≤ 64) (hp : post 0 (sI (sI (sI (sA S 32 (fun i => if 0 ≤ i ∧ i < 3 * m then gA S 31 i else gA S 32 i)) 26 (nI m)) 25 1) 23 0)) : ∃ j, V_X8_seal_115 post j 0 S := by
  have key : ∀ (j k : Nat) (f : Nat → Int64), k + j = 3 * m → post 0 (sI (sI (sI (sA S 32 (fun i => if k ≤ i ∧ i < 3 * m then gA S 31 i else f i)) 26 (nI m)) 25 1) 23 0) → V_X8_seal_115 post (j + 1) (nI k) (sA S 32 f) := by
    intro j
    induction j with
    | zero =>
      intro k f hk hq
      obtain rfl : k = 3 * m := by omega
      have e : (fun i => if 3 * m ≤ i ∧ i < 3 * m then gA S 31 i else f i) = f := by funext i; rw [if_neg (by omega)]
      rw [e] at hq
      rw [V_X8_seal_115, gI_sA, h24, nmul3 (by omega), brt (nI_le (Nat.le_refl _) (by omega)), ale, ale, ale]
      exact hq
    | succ j ih =>
      intro k f hk hq
      rw [V_X8_seal_115, gI_sA, h24, nmul3 (by omega), brf (nI_ge (by omega) (by omega)), gdt (vp_in_nI (by omega) (by omega)), gdt (vp_in_nI (by omega) (by omega)), ale, ale, nI_clamp (by omega), ← nI_succ, gA_sA, sA_sA, gA_sAn _ _ (by decide)]
      refine ih (k + 1) _ (by omega) ?_
      have e : (fun i => if k + 1 ≤ i ∧ i < 3 * m then gA S 31 i else vp_updL f k (gA S 31 k) i) = fun i => if k ≤ i ∧ i < 3 * m then gA S 31 i else f i := by
        funext i
        by_cases h1 : i = k
        · subst h1; rw [if_neg (by omega), if_pos (by omega), updL_eq]
        · rw [updL_ne _ _ h1]
          by_cases h2 : k ≤ i ∧ i < 3 * m
          · rw [if_pos (by omega), if_pos h2]
          · rw [if_neg (by omega), if_neg h2]
      rw [e]; exact hq
  have := key (3 * m) 0 (gA S 32) (by omega) hp
  rw [sA_self] at this
  exact ⟨_, this⟩
theorem s21_all (h24 : gI S 24 = nI m) (hm : m ≤ 64) (hs : ∀ k, k < m → sndAt m k (gA S 31 (3 * k)) (gA S 31 (3 * k + 1)) (gA S 31 (3 * k + 2))) (hp : post 0 (sI (sI (sI (sA S 32 (fun i => if 0 ≤ i ∧ i < 3 * m then gA S 31 i else gA S 32 i)) 26 (nI m)) 25 1) 23 0)) : ∃ j, V_X8_seal_21 post j 0 S := by
  have key : ∀ (j k : Nat), k + j = m → V_X8_seal_21 post (j + 1) (nI k) S := by
    intro j
    induction j with
    | zero =>
      intro k hk
      obtain rfl : k = m := by omega
      rw [V_X8_seal_21, h24, brt (nI_le (Nat.le_refl _) (by omega))]
      exact s115 h24 hm hp
    | succ j ih =>
      intro k hk
      exact s21_step (j + 1) k h24 hm (by omega) (fun _ => ih (k + 1) (by omega)) (fun q => absurd (hs k (by omega)) q)
  exact ⟨m + 1, key m 0 (by omega)⟩
theorem s21_one (h24 : gI S 24 = nI m) (hm : m ≤ 64) (hr : r < m) (hb : ∀ k, k < r → sndAt m k (gA S 31 (3 * k)) (gA S 31 (3 * k + 1)) (gA S 31 (3 * k + 2))) (hn : ¬ sndAt m r (gA S 31 (3 * r)) (gA S 31 (3 * r + 1)) (gA S 31 (3 * r + 2))) (hp : post ((-1 : Int32) - nI r) S) : ∃ j, V_X8_seal_21 post j 0 S := by
  have key : ∀ (j k : Nat), k + j = r → V_X8_seal_21 post (j + 1) (nI k) S := by
    intro j
    induction j with
    | zero =>
      intro k hk
      obtain rfl : k = r := by omega
      exact s21_step 0 k h24 hm (by omega) (fun q => absurd q hn) (fun _ => hp)
    | succ j ih =>
      intro k hk
      exact s21_step (j + 1) k h24 hm (by omega) (fun _ => ih (k + 1) (by omega)) (fun q => absurd (hb k (by omega)) q)
  exact ⟨r + 1, key r 0 (by omega)⟩
end
theorem thp2 {K : SS → Prop} {S6 : SS} {r1 : Int32} {v : Int32} (h20 : gI S6 20 = r1) (h0 : r1 = 0 → gA S6 41 0 = v.toInt64) (hK : K S6) : V_X8_thrown S6 (fun r5 S6 => ((r5 = r1 → ((r1 = 0 → (vp_in (0 : Int32) 1 ∧ (((gA S6 41 (0 : Int32).toNatClampNeg) = v.toInt64 → (K S6)) ∧ (¬ (gA S6 41 (0 : Int32).toNatClampNeg) = v.toInt64 → False)))) ∧ (¬ r1 = 0 → (K S6)))) ∧ (¬ r5 = r1 → False))) := thp h20 h0 hK
theorem p_seal {S : SS} (h : RR S) : V_L_seal S (fun r1 S2 => V_X8_seal S2 (fun r3 S4 => V_X8_thrown S4 (fun r5 S6 => ((r5 = r1 → ((r1 = 0 → (vp_in (0 : Int32) 1 ∧ (((gA S6 41 (0 : Int32).toNatClampNeg) = r3.toInt64 → (RR S6)) ∧ (¬ (gA S6 41 (0 : Int32).toNatClampNeg) = r3.toInt64 → False)))) ∧ (¬ r1 = 0 → (RR S6)))) ∧ (¬ r5 = r1 → False))))) := by
  have hR : RR S := h
  obtain ⟨h1, h2, h3⟩ := h
  unfold V_L_seal V_X7_seal
  rw [x5_measure]
  rcases h1 with ⟨h23, hh2⟩ | ⟨m, hm2, hm, h23, h24, hh2, hd⟩
  · refine ⟨fun _ => ⟨rfl, ?_⟩, fun e => absurd hh2 e⟩
    show V_X8_seal _ _
    unfold V_X8_seal
    rw [ale, brt (by exact h23), x8_refuse]
    exact thp2 rfl (fun z => absurd z (by decide)) hR
  · refine ⟨fun e => absurd (hh2.symm.trans e) (nI_ne0 (by omega) (by omega)), fun _ => ?_⟩
    have n23 : ∀ T : SS, gI T 23 = gI S 23 → ¬ gI T 23 = 0 := fun T e => by rw [e, h23]; decide
    have eqs : ∀ k, k < m → (sndAt m k (gA S 31 (3 * k)) (gA S 31 (3 * k + 1)) (gA S 31 (3 * k + 2)) ↔ sndAt m k (gA S 3 k) (gA S 4 k) (gA S 5 k)) := fun k hk => by
      obtain ⟨e1, e2, e3⟩ := hd k hk
      rw [e1, e2, e3]
    rcases first_not (fun r => sndAt m r (gA S 3 r) (gA S 4 r) (gA S 5 r)) m with hs | ⟨r, hr, hn, hb⟩
    · refine fu_all hh2 hm hs ⟨fun _ => ?_, fun e => absurd (by decide) e⟩
      unfold V_X5_become V_X5_drop
      rw [ale, ale, ale, ale, ale, ale]
      refine ⟨by unfold vp_in; decide, ?_⟩
      rw [ale]
      show V_X8_seal _ _
      unfold V_X8_seal
      rw [ale]
      refine ⟨fun e => absurd e (n23 _ rfl), fun _ => ?_⟩
      refine s21_all (m := m) h24 hm (fun k hk => (eqs k hk).mpr (hs k hk)) ?_
      refine thp2 rfl (fun _ => rfl) ⟨Or.inl ⟨rfl, rfl⟩, ⟨rfl, Or.inr (Or.inl ⟨rfl, m, hm2, hm, hh2, rfl, ?_, ?_⟩)⟩, h3⟩
      · have e : ∀ (f g : Nat → Int64), ∀ r, r < m → va_cpy f g 0 0 64 r = f r := fun f g r hr => by
          unfold va_cpy; rw [if_pos (by omega), Nat.sub_zero, Nat.zero_add]
        intro r hr
        show sndAt m r (va_cpy (gA S 3) (gA S 0) 0 0 64 r) (va_cpy (gA S 4) (gA S 1) 0 0 64 r) (va_cpy (gA S 5) (gA S 2) 0 0 64 r)
        rw [e _ _ r hr, e _ _ r hr, e _ _ r hr]
        exact hs r hr
      · have e : ∀ (f g : Nat → Int64), ∀ r, r < m → va_cpy f g 0 0 64 r = f r := fun f g r hr => by
          unfold va_cpy; rw [if_pos (by omega), Nat.sub_zero, Nat.zero_add]
        intro r hr
        obtain ⟨e1, e2, e3⟩ := hd r hr
        show (if 0 ≤ 3 * r ∧ 3 * r < 3 * m then gA S 31 (3 * r) else gA S 32 (3 * r)) = va_cpy (gA S 3) (gA S 0) 0 0 64 r ∧ (if 0 ≤ 3 * r + 1 ∧ 3 * r + 1 < 3 * m then gA S 31 (3 * r + 1) else gA S 32 (3 * r + 1)) = va_cpy (gA S 4) (gA S 1) 0 0 64 r ∧ (if 0 ≤ 3 * r + 2 ∧ 3 * r + 2 < 3 * m then gA S 31 (3 * r + 2) else gA S 32 (3 * r + 2)) = va_cpy (gA S 5) (gA S 2) 0 0 64 r
        rw [e _ _ r hr, e _ _ r hr, e _ _ r hr, if_pos (by omega), if_pos (by omega), if_pos (by omega)]
        exact ⟨e1, e2, e3⟩
    · refine fu_one hh2 hm hr hb hn ⟨fun e => absurd e (nI_pos (by omega)), fun _ => ⟨by unfold vp_in; decide, ?_⟩⟩
      rw [ale]
      show V_X8_seal _ _
      unfold V_X8_seal
      rw [ale]
      refine ⟨fun e => absurd e (n23 _ rfl), fun _ => ?_⟩
      refine s21_one (m := m) (r := r) h24 hm hr (fun k hk => (eqs k (by omega)).mpr (hb k hk)) (fun q => hn ((eqs r hr).mp q)) ?_
      exact thp2 rfl (fun _ => rfl) hR
