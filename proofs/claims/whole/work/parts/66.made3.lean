/-! MADE: the reference, and both -/
section
variable {S : SS} {n k : Nat} {L : List (Nat × Nat)}
theorem x8_made214 {post : Int32 → SS → Prop} (b : Nat → Int32) (hb : (mAL b n).length + n ≤ 40) : ∀ (j k : Nat) (T : SS), k + j = n → MAc T n → FL T 27 33 34 (mAL b n ++ mBL k) → (∀ U, Kp [27] [] [] [33, 34] T U → FL U 27 33 34 (mAL b n ++ mBL n) → post (nI ((mAL b n).length + n)) U) → V_X8_made_214 post (j + 1) (nI k) T := by
  intro j
  induction j with
  | zero =>
    intro k T hk hm h hp
    obtain rfl : k = n := by omega
    rw [V_X8_made_214, hm.2.2.2.2.2.1, brt (nI_le (Nat.le_refl _) (by have := hm.1; omega)), h.1, List.length_append, mBL_len]
    exact hp _ (kp_refl _ _ _ _ T) h
  | succ j ih =>
    intro k T hk hm h hp
    have hn12 : n ≤ 12 := hm.1
    rw [V_X8_made_214, hm.2.2.2.2.2.1, brf (nI_ge (by omega) (by omega))]
    refine x8_goN (by omega) (fun v1 e1 => x8_waN (by omega) (fun v2 e2 => ?_))
    rw [e1, e2]
    refine x8_addL h (by rw [List.length_append, mBL_len]; omega) (pm_le (by omega)) (pm_le (by omega)) (fun U kU hU => ?_)
    obtain ⟨hmU, -⟩ := mac_kp hm kU (by decide) (by decide) (by decide)
    rw [List.append_assoc] at hU
    rw [ale, nadd1]
    exact ih (k + 1) U (by omega) hmU hU (fun W kW hW => hp W (kp_trans kU kW) hW)
theorem x8_made70s {post : Int32 → SS → Prop} (j : Nat) (hm : MAc S n) (hk : k < n) (h : FL S 27 33 34 L) (hl : L.length + (acL (gB S 3) k).length ≤ 40) (hp : ∀ U, Kp [27] [] [] [33, 34] S U → FL U 27 33 34 (L ++ acL (gB S 3) k) → V_X8_made_70 post j (nI (k + 1)) U) : V_X8_made_70 post (j + 1) (nI k) S := by
  have hn12 : n ≤ 12 := hm.1
  obtain ⟨-, -, -, -, hkd, hne2, he1⟩ := hm.2.2.2.2.2.2 k hk
  rw [V_X8_made_70, hm.2.2.2.2.2.1, brf (nI_ge hk (by omega)), nmul4 (by omega), nadd1, nadd2, nadd3, gdt (vp_in_nI (by omega) (by omega)), nI_clamp (by omega), nI_clamp (by omega), nI_clamp (by omega), nI_clamp (by omega)]
  rcases kind_cases hkd with e | e | e
  · have n2 : (gB S 3 (4 * k)).toInt ≠ 2 := by rw [e]; decide
    obtain ⟨hh, hx⟩ := hne2 n2
    obtain ⟨eh, lh⟩ := iN_eq hh (by omega)
    obtain ⟨ex, lx⟩ := iN_eq hx (by omega)
    have ea : acL (gB S 3) k = [(pmN (2 * iN (gB S 3 (4 * k + 2)) + 5) * hpN (iN (gB S 3 (4 * k + 1))), pmN (2 * k + 4))] := if_pos e
    rw [ea] at hp hl
    rw [List.length_singleton] at hl
    rw [eh]
    refine x8_hp (by omega) ?_
    have b3 := hpN_le (iN (gB S 3 (4 * k + 1)))
    rw [gdt (vp_in_nI (by omega) (by omega)), e, brt rfl, gdt (vp_in_nI (by omega) (by omega)), ex]
    refine x8_waN (by omega) (fun v1 e1 => x8_goN (by omega) (fun v2 e2 => ?_))
    rw [e1, e2, nI_i64 (by omega)]
    have b1 := pm_tab (2 * iN (gB S 3 (4 * k + 2)) + 5) (by omega)
    have b2 := mul_pm (h := iN (gB S 3 (4 * k + 1))) b1.2
    rw [lN_mul]
    refine x8_addL h (by omega) b2 (pm_le (by omega)) (fun U kU hU => ?_)
    rw [ale, nadd1]
    exact hp U kU hU
  · have n2 : (gB S 3 (4 * k)).toInt ≠ 2 := by rw [e]; decide
    obtain ⟨hh, hx⟩ := hne2 n2
    have hy := he1 (by rw [e]; decide)
    obtain ⟨eh, lh⟩ := iN_eq hh (by omega)
    obtain ⟨ex, lx⟩ := iN_eq hx (by omega)
    obtain ⟨ey, ly⟩ := iN_eq hy (by omega)
    have ea : acL (gB S 3) k = [(pmN (2 * iN (gB S 3 (4 * k + 2)) + 5), pmN (2 * k + 4) * hpN (iN (gB S 3 (4 * k + 1)))), (pmN (2 * iN (gB S 3 (4 * k + 3)) + 5), pmN (2 * k + 4))] := (if_neg (by rw [e]; decide)).trans (if_pos e)
    rw [ea] at hp hl
    have hl2 : L.length + 2 ≤ 40 := hl
    rw [eh]
    refine x8_hp (by omega) ?_
    have b3 := hpN_le (iN (gB S 3 (4 * k + 1)))
    rw [gdt (vp_in_nI (by omega) (by omega)), e, brf (c := (1 : Int32) = 0) (by decide), gdt (vp_in_nI (by omega) (by omega)), brt rfl, gdt (vp_in_nI (by omega) (by omega)), ex]
    refine x8_waN (by omega) (fun v1 e1 => x8_goN (by omega) (fun v2 e2 => ?_))
    rw [e1, e2, nI_i64 (by omega)]
    have b1 := pm_tab (2 * k + 4) (by omega)
    have b2 := mul_pm (h := iN (gB S 3 (4 * k + 1))) b1.2
    rw [lN_mul]
    refine x8_addL h (by omega) (pm_le (by omega)) b2 (fun U kU hU => ?_)
    obtain ⟨hmU, eB⟩ := mac_kp hm kU (by decide) (by decide) (by decide)
    refine ⟨vp_in_nI (by omega) (by omega), ?_⟩
    rw [eB, ey]
    refine x8_waN (by omega) (fun v3 e3 => x8_goN (by omega) (fun v4 e4 => ?_))
    rw [e3, e4]
    refine x8_addL hU (by rw [List.length_append, List.length_singleton]; omega) (pm_le (by omega)) (pm_le (by omega)) (fun W kW hW => ?_)
    rw [List.append_assoc] at hW
    rw [ale, nadd1]
    exact hp W (kp_trans kU kW) hW
  · have ea : acL (gB S 3) k = [(1, pmN (2 * k + 4))] := (if_neg (by rw [e]; decide)).trans (if_neg (by rw [e]; decide))
    rw [ea] at hp hl
    rw [List.length_singleton] at hl
    refine x8_hpAny (fun _ => ?_)
    rw [gdt (vp_in_nI (by omega) (by omega)), e, brf (c := (2 : Int32) = 0) (by decide), gdt (vp_in_nI (by omega) (by omega)), brf (c := (2 : Int32) = 1) (by decide)]
    refine x8_goN (by omega) (fun v2 e2 => ?_)
    rw [e2]
    refine x8_addL (p := 1) h (by omega) (by omega) (pm_le (by omega)) (fun U kU hU => ?_)
    rw [ale, nadd1]
    exact hp U kU hU
theorem x8_made70 {post : Int32 → SS → Prop} (b : Nat → Int32) (hb : (mAL b n).length + n ≤ 40) : ∀ (j k : Nat) (T : SS), k + j = n → MAc T n → gB T 3 = b → FL T 27 33 34 (mAL b k) → (∀ U, Kp [27] [] [] [33, 34] T U → FL U 27 33 34 (mAL b n ++ mBL n) → post (nI ((mAL b n).length + n)) U) → V_X8_made_70 post (j + 1) (nI k) T := by
  intro j
  induction j with
  | zero =>
    intro k T hk hm eb h hp
    obtain rfl : k = n := by omega
    rw [V_X8_made_70, hm.2.2.2.2.2.1, brt (nI_le (Nat.le_refl _) (by have := hm.1; omega))]
    exact ⟨k + 1, x8_made214 b hb k 0 T (by omega) hm (by rw [show mBL 0 = [] from rfl, List.append_nil]; exact h) hp⟩
  | succ j ih =>
    intro k T hk hm eb h hp
    have hl := mAL_mono b (show k + 1 ≤ n by omega)
    rw [← mAL_len, ← mAL_len] at hl
    have hl2 : (mAL b k).length + (acL b k).length ≤ (mAL b n).length := by
      rw [← List.length_append]; exact hl
    refine x8_made70s (j + 1) hm (by omega) h (by rw [eb]; omega) (fun U kU hU => ?_)
    rw [eb] at hU
    obtain ⟨hmU, eB⟩ := mac_kp hm kU (by decide) (by decide) (by decide)
    exact ih (k + 1) U (by omega) hmU (eB.trans eb) hU (fun W kW hW => hp W (kp_trans kU kW) hW)
theorem x8_made9 {post : Int32 → SS → Prop} (hm : MAc S n) (h0 : ¬ n = 0) (hno : ¬ 2 * n + tkN (gB S 3) n ≤ 40 → post (-1) S) (hyes : 2 * n + tkN (gB S 3) n ≤ 40 → ∀ U, Kp [25, 27] [] [] [33, 34] S U → gI U 25 = 2 → FL U 27 33 34 (mAL (gB S 3) n ++ mBL n) → post (nI ((mAL (gB S 3) n).length + n)) U) : ∃ j, V_X8_made_9 post j 0 0 S := by
  have hn12 : n ≤ 12 := hm.1
  have tk : ∀ k, tkN (gB S 3) k ≤ k := fun k => by
    induction k with
    | zero => exact Nat.le_refl _
    | succ k ih =>
      show tkN (gB S 3) k + (if gB S 3 (4 * k) = 1 then 1 else 0) ≤ k + 1
      by_cases c : gB S 3 (4 * k) = 1
      · rw [if_pos c]; omega
      · rw [if_neg c]; omega
  have key : ∀ (j k : Nat), k + j = n → V_X8_made_9 post (j + 1) (nI (2 * k + tkN (gB S 3) k)) (nI k) S := by
    intro j
    induction j with
    | zero =>
      intro k hk
      obtain rfl : k = n := by omega
      have := tk k
      rw [V_X8_made_9, hm.2.2.2.2.2.1, brt (nI_le (Nat.le_refl _) (by omega)), brf (nI_ne0 (by omega) (by omega))]
      refine ⟨fun c => ?_, fun c => ?_⟩
      · have c : 2 * k + tkN (gB S 3) k ≤ 40 := (nI_leI (b := 40) (by omega) (by omega)).mp c
        rw [ale, ale]
        have hb : (mAL (gB S 3) k).length + k ≤ 40 := by rw [mAL_len]; omega
        refine ⟨k + 1, x8_made70 (gB S 3) hb k 0 (sI (sI S 25 2) 27 0) (by omega) (mac_kp hm (kp_sI (kp_sI (kp_refl [25, 27] [] [] [] S) (by decide)) (by decide)) (by decide) (by decide) (by decide)).1 rfl (fl_nil rfl) (fun U kU hU => ?_)⟩
        exact hyes c U (kp_trans (kp_sI (kp_sI (kp_refl _ _ _ _ S) (by decide)) (by decide)) (kp_mono kU (by decide) (by decide) (by decide) (by decide))) (kU.1 25 (by decide)) hU
      · exact hno (fun z => c (nI_le (b := 40) z (by omega)))
    | succ j ih =>
      intro k hk
      have := tk k
      have e : tkN (gB S 3) (k + 1) = tkN (gB S 3) k + if gB S 3 (4 * k) = 1 then 1 else 0 := rfl
      have hh := ih (k + 1) (by omega)
      rw [e] at hh
      rw [V_X8_made_9, hm.2.2.2.2.2.1, brf (nI_ge (by omega) (by omega)), nmul4 (by omega), gdt (vp_in_nI (by omega) (by omega)), nI_clamp (by omega)]
      refine ⟨fun c => ?_, fun c => ?_⟩
      · rw [if_pos c] at hh
        rw [ale, ale, nadd1, nadd3]
        rw [show 2 * (k + 1) + (tkN (gB S 3) k + 1) = 2 * k + tkN (gB S 3) k + 3 by omega] at hh
        exact hh
      · rw [if_neg c] at hh
        rw [ale, ale, nadd1, nadd2]
        rw [show 2 * (k + 1) + (tkN (gB S 3) k + 0) = 2 * k + tkN (gB S 3) k + 2 by omega] at hh
        exact hh
  exact ⟨n + 1, key n 0 (by omega)⟩
end
theorem acL_fine {S : SS} {n k : Nat} (hm : MAc S n) (hk : k < n) : ∀ v ∈ acL (gB S 3) k, (1 ≤ v.1 ∧ v.1 ≤ 1000) ∧ (1 ≤ v.2 ∧ v.2 ≤ 1000) := by
  have hn12 : n ≤ 12 := hm.1
  obtain ⟨-, -, -, -, hkd, hne2, he1⟩ := hm.2.2.2.2.2.2 k hk
  have g := pm_tab (2 * k + 4) (by omega)
  have gl := pm_le (i := 2 * k + 4) (by omega)
  intro v hv
  unfold acL at hv
  rcases kind_cases hkd with e | e | e
  · rw [if_pos e] at hv
    obtain ⟨hh, hx⟩ := hne2 (by rw [e]; decide)
    obtain ⟨ex, lx⟩ := iN_eq hx (by omega)
    rw [List.mem_singleton.mp hv]
    exact ⟨mul_pm (pm_tab _ (by omega)).2, gl⟩
  · rw [if_neg (by rw [e]; decide), if_pos e] at hv
    obtain ⟨hh, hx⟩ := hne2 (by rw [e]; decide)
    have hy := he1 (by rw [e]; decide)
    obtain ⟨ex, lx⟩ := iN_eq hx (by omega)
    obtain ⟨ey, ly⟩ := iN_eq hy (by omega)
    rcases List.mem_cons.mp hv with z | z
    · rw [z]; exact ⟨pm_le (by omega), mul_pm g.2⟩
    · rw [List.mem_singleton.mp z]; exact ⟨pm_le (by omega), gl⟩
  · rw [if_neg (by rw [e]; decide), if_neg (by rw [e]; decide)] at hv
    rw [List.mem_singleton.mp hv]
    exact ⟨by show 1 ≤ 1 ∧ 1 ≤ 1000; omega, gl⟩
theorem mL_fine {S : SS} {n : Nat} (hm : MAc S n) : ∀ v ∈ mAL (gB S 3) n ++ mBL n, (1 ≤ v.1 ∧ v.1 ≤ 1000) ∧ (1 ≤ v.2 ∧ v.2 ≤ 1000) := by
  have hn12 : n ≤ 12 := hm.1
  have h1 : ∀ k, k ≤ n → ∀ v ∈ mAL (gB S 3) k, (1 ≤ v.1 ∧ v.1 ≤ 1000) ∧ (1 ≤ v.2 ∧ v.2 ≤ 1000) := by
    intro k
    induction k with
    | zero => intro _ v hv; exact absurd hv (List.not_mem_nil)
    | succ k ih =>
      intro hk v hv
      rcases List.mem_append.mp (show v ∈ mAL (gB S 3) k ++ acL (gB S 3) k from hv) with z | z
      · exact ih (by omega) v z
      · exact acL_fine hm (by omega) v z
  have h2 : ∀ k, k ≤ n → ∀ v ∈ mBL k, (1 ≤ v.1 ∧ v.1 ≤ 1000) ∧ (1 ≤ v.2 ∧ v.2 ≤ 1000) := by
    intro k
    induction k with
    | zero => intro _ v hv; exact absurd hv (List.not_mem_nil)
    | succ k ih =>
      intro hk v hv
      rcases List.mem_append.mp (show v ∈ mBL k ++ [(pmN (2 * k + 4), pmN (2 * k + 5))] from hv) with z | z
      · exact ih (by omega) v z
      · rw [List.mem_singleton.mp z]; exact ⟨pm_le (by omega), pm_le (by omega)⟩
  intro v hv
  rcases List.mem_append.mp hv with z | z
  · exact h1 n (Nat.le_refl _) v z
  · exact h2 n (Nat.le_refl _) v z
theorem red_fine {a g : Nat} (h : 1 ≤ a ∧ a ≤ 1000) (hd : g ∣ a) : 1 ≤ (lN (a / g)).toInt ∧ (lN (a / g)).toInt ≤ 1000000000 := by
  have hle := Nat.le_of_dvd (by omega) hd
  have h0 : 0 < g := Nat.pos_of_dvd_of_pos hd (by omega)
  have a1 := Nat.div_le_self a g
  have a2 : 1 ≤ a / g := (Nat.one_le_div_iff h0).mpr hle
  rw [lN_int (by omega)]; omega
theorem p_made {S : SS} (h : RR S) : V_X7_made S (fun r1 S2 => V_X8_made S2 (fun r3 S4 => (r1 = r3 → RR S4) ∧ (¬ r1 = r3 → False))) := by
  obtain ⟨n, hm⟩ := mac_of h
  have hn12 : n ≤ 12 := hm.1
  have hm0 : MAc (sI S 20 0) n := hm
  unfold V_X7_made
  rw [x1_size, hm.2.1]
  refine ⟨fun c => ?_, fun c => ?_⟩
  · have c : n = 0 := (nI_inj (b := 0) (by omega) (by omega)).mp c
    subst c
    show V_X8_made _ _
    unfold V_X8_made
    rw [ale]
    refine ⟨1, ?_⟩
    rw [V_X8_made_9, hm0.2.2.2.2.2.1, brt (c := nI 0 ≤ (0 : Int32)) (by decide), brt (c := nI 0 = (0 : Int32)) rfl]
    exact eqp rfl h
  · have c : ¬ n = 0 := fun z => c (by rw [z]; rfl)
    have tl : (mAL (gB S 3) n).length + n = 2 * n + tkN (gB S 3) n := by rw [mAL_len]; omega
    refine x1_need hm ⟨fun c1 => ?_, fun c1 => ?_⟩
    · have tk : tkN (gB S 3) n ≤ n := by
        have key : ∀ k, tkN (gB S 3) k ≤ k := fun k => by
          induction k with
          | zero => exact Nat.le_refl _
          | succ k ih =>
            show tkN (gB S 3) k + (if gB S 3 (4 * k) = 1 then 1 else 0) ≤ k + 1
            by_cases c : gB S 3 (4 * k) = 1
            · rw [if_pos c]; omega
            · rw [if_neg c]; omega
        exact key n
      have c1 : 2 * n + tkN (gB S 3) n ≤ 40 := (nI_leI (b := 40) (by omega) (by omega)).mp c1
      have hb : (mAL (gB S 3) n).length + n ≤ 40 := by omega
      unfold V_X0_empty
      rw [ale]
      have k4 : Kp [0, 4] [] [] [9, 10] S (sI S 4 0) := kp_sI (kp_refl _ _ _ _ S) (by decide)
      refine ⟨n + 1, x7_made33 (gB S 3) hb n 0 (sI S 4 0) (by omega) (mac_kp hm k4 (by decide) (by decide) (by decide)).1 rfl (fl_nil rfl) (fun U kU e0 hU => ?_)⟩
      have kU := kp_trans k4 kU
      obtain ⟨hmU, eB⟩ := mac_kp hm kU (by decide) (by decide) (by decide)
      show V_X8_made _ _
      unfold V_X8_made
      rw [ale]
      have hmU0 : MAc (sI U 20 0) n := hmU
      have eB0 : gB (sI U 20 0) 3 = gB S 3 := eB
      refine x8_made9 hmU0 c (fun z => absurd c1 (by rw [eB0] at z; exact z)) (fun _ W kW e25 hW => ?_)
      rw [eB0] at hW ⊢
      refine eqp rfl ?_
      have kall : Kp [0, 1, 3, 4, 20, 25, 26, 27] tJ [2] [0, 1, 2, 6, 7, 8, 9, 10, 32, 33, 34, 40] S W := kp_trans (kp_trans (kp_mono kU (by decide) (by decide) (by decide) (by decide)) (kp_sI (kp_refl _ _ _ _ U) (by decide))) (kp_mono kW (by decide) (by decide) (by decide) (by decide))
      refine RR_held h kall ?_
      have hUW : FL W 4 9 10 (mAL (gB S 3) n ++ mBL n) := fl_kp (S := sI U 20 0) hU kW (by decide) (by decide) (by decide)
      have w0 : gI W 0 = 2 := (kW.1 0 (by decide)).trans e0
      have hlen : (mAL (gB S 3) n ++ mBL n).length ≤ 40 := by rw [List.length_append, mBL_len]; exact hb
      refine ⟨e25.trans w0.symm, Or.inr (Or.inr ⟨w0, (mAL (gB S 3) n ++ mBL n).length, hlen, hUW.1, hW.1, fun i hi => ?_⟩)⟩
      obtain ⟨a1, a2⟩ := hUW.2 i _ (List.getElem?_eq_getElem hi)
      obtain ⟨b1, b2⟩ := hW.2 i _ (List.getElem?_eq_getElem hi)
      obtain ⟨f1, f2⟩ := mL_fine hm _ (List.getElem_mem hi)
      rw [a1, a2, b1, b2]
      exact ⟨rfl, rfl, red_fine f1 (Nat.gcd_dvd_left _ _), red_fine f2 (Nat.gcd_dvd_right _ _)⟩
    · have tk : tkN (gB S 3) n ≤ n := by
        have key : ∀ k, tkN (gB S 3) k ≤ k := fun k => by
          induction k with
          | zero => exact Nat.le_refl _
          | succ k ih =>
            show tkN (gB S 3) k + (if gB S 3 (4 * k) = 1 then 1 else 0) ≤ k + 1
            by_cases c : gB S 3 (4 * k) = 1
            · rw [if_pos c]; omega
            · rw [if_neg c]; omega
        exact key n
      have c1 : ¬ 2 * n + tkN (gB S 3) n ≤ 40 := fun z => c1 (nI_le (b := 40) z (by omega))
      show V_X8_made _ _
      unfold V_X8_made
      rw [ale]
      exact x8_made9 hm0 c (fun _ => eqp rfl h) (fun z => absurd z c1)
