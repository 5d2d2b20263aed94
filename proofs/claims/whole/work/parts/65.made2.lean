/-! MADE: class and reference -/
theorem kind_cases {x : Int32} (h : 0 ≤ x.toInt ∧ x.toInt ≤ 2) : x = 0 ∨ x = 1 ∨ x = 2 := by
  rcases (show x.toInt = 0 ∨ x.toInt = 1 ∨ x.toInt = 2 by omega) with e | e | e
  · exact Or.inl (eq32.mpr e)
  · exact Or.inr (Or.inl (eq32.mpr e))
  · exact Or.inr (Or.inr (eq32.mpr e))
theorem x7_waAny {p : Int32} {S : SS} {post : Int64 → SS → Prop} (hp : ∀ v, post v S) : V_X7_waitPrime p S post := by
  unfold V_X7_waitPrime
  exact x7_prAny (fun v => hp v)
theorem x7_hpAny {p : Int32} {S : SS} {post : Int64 → SS → Prop} (hp : ∀ v, post v S) : V_X7_heapPrime p S post := by
  unfold V_X7_heapPrime
  exact x7_prAny (fun v => hp v)
section
variable {S : SS} {n k : Nat} {L : List (Nat × Nat)}
theorem x7_acts {post : SS → Prop} (hm : MAc S n) (hk : k < n) (h : FL S 4 9 10 L) (hl : L.length + (acL (gB S 3) k).length ≤ 40) (hp : ∀ U, Kp [4] [] [] [9, 10] S U → FL U 4 9 10 (L ++ acL (gB S 3) k) → post U) : V_X7_addFractionsOfAct (nI k) S post := by
  have hn12 : n ≤ 12 := hm.1
  obtain ⟨-, -, -, -, hkd, hne2, he1⟩ := hm.2.2.2.2.2.2 k hk
  unfold V_X7_addFractionsOfAct
  rw [x1_next hm hk]
  rcases kind_cases hkd with e | e | e
  · have n2 : (gB S 3 (4 * k)).toInt ≠ 2 := by rw [e]; decide
    obtain ⟨hh, hx⟩ := hne2 n2
    obtain ⟨eh, lh⟩ := iN_eq hh (by omega)
    obtain ⟨ex, lx⟩ := iN_eq hx (by omega)
    have ea : acL (gB S 3) k = [(pmN (2 * iN (gB S 3 (4 * k + 2)) + 5) * hpN (iN (gB S 3 (4 * k + 1))), pmN (2 * k + 4))] := if_pos e
    rw [ea] at hp hl
    rw [List.length_singleton] at hl
    rw [ex]
    refine x7_waN (by omega) ?_
    rw [x1_heap hm hk, eh]
    refine x7_hp (by omega) ?_
    rw [x1_kind hm hk, e]
    refine ⟨fun _ => ?_, fun z => absurd z (by decide), fun z _ => absurd rfl z⟩
    refine x7_goN (by omega) ?_
    have b1 := pm_tab (2 * iN (gB S 3 (4 * k + 2)) + 5) (by omega)
    have b2 := mul_pm (h := iN (gB S 3 (4 * k + 1))) b1.2
    have b3 := hpN_le (iN (gB S 3 (4 * k + 1)))
    rw [lN_mul]
    exact x0_addL h (by omega) b2 (pm_le (by omega)) hp
  · have n2 : (gB S 3 (4 * k)).toInt ≠ 2 := by rw [e]; decide
    obtain ⟨hh, hx⟩ := hne2 n2
    have hy := he1 (by rw [e]; decide)
    obtain ⟨eh, lh⟩ := iN_eq hh (by omega)
    obtain ⟨ex, lx⟩ := iN_eq hx (by omega)
    obtain ⟨ey, ly⟩ := iN_eq hy (by omega)
    have ea : acL (gB S 3) k = [(pmN (2 * iN (gB S 3 (4 * k + 2)) + 5), pmN (2 * k + 4) * hpN (iN (gB S 3 (4 * k + 1)))), (pmN (2 * iN (gB S 3 (4 * k + 3)) + 5), pmN (2 * k + 4))] := (if_neg (by rw [e]; decide)).trans (if_pos e)
    rw [ea] at hp hl
    have hl2 : L.length + 2 ≤ 40 := hl
    rw [ex]
    refine x7_waN (by omega) ?_
    rw [x1_heap hm hk, eh]
    refine x7_hp (by omega) ?_
    rw [x1_kind hm hk, e]
    refine ⟨fun z => absurd z (by decide), fun _ => ?_, fun _ z => absurd rfl z⟩
    refine x7_goN (by omega) ?_
    have b1 := pm_tab (2 * k + 4) (by omega)
    have b2 := mul_pm (h := iN (gB S 3 (4 * k + 1))) b1.2
    have b3 := hpN_le (iN (gB S 3 (4 * k + 1)))
    rw [lN_mul]
    refine x0_addL h (by omega) (pm_le (by omega)) b2 (fun U kU hU => ?_)
    obtain ⟨hmU, eB⟩ := mac_kp hm kU (by decide) (by decide) (by decide)
    rw [x1_other hmU hk, eB, ey]
    refine x7_waN (by omega) ?_
    refine x7_goN (by omega) ?_
    refine x0_addL hU (by rw [List.length_append, List.length_singleton]; omega) (pm_le (by omega)) (pm_le (by omega)) (fun W kW hW => hp W (kp_trans kU kW) ?_)
    rw [List.append_assoc] at hW
    exact hW
  · have ea : acL (gB S 3) k = [(1, pmN (2 * k + 4))] := (if_neg (by rw [e]; decide)).trans (if_neg (by rw [e]; decide))
    rw [ea] at hp hl
    rw [List.length_singleton] at hl
    refine x7_waAny (fun _ => ?_)
    rw [x1_heap hm hk]
    refine x7_hpAny (fun _ => ?_)
    rw [x1_kind hm hk, e]
    refine ⟨fun z => absurd z (by decide), fun z => absurd z (by decide), fun _ _ => ?_⟩
    refine x7_goN (by omega) ?_
    exact x0_addL (p := 1) h (by omega) (by omega) (pm_le (by omega)) hp
theorem x7_made57 {post : Int32 → SS → Prop} (b : Nat → Int32) (hb : (mAL b n).length + n ≤ 40) : ∀ (j k : Nat) (T : SS), k + j = n → MAc T n → FL T 4 9 10 (mAL b n ++ mBL k) → (∀ U, Kp [0, 4] [] [] [9, 10] T U → gI U 0 = 2 → FL U 4 9 10 (mAL b n ++ mBL n) → post (nI ((mAL b n).length + n)) U) → V_X7_made_57 post (j + 1) (nI k) T := by
  intro j
  induction j with
  | zero =>
    intro k T hk hm h hp
    obtain rfl : k = n := by omega
    rw [V_X7_made_57, x1_size, hm.2.1, brt (nI_le (Nat.le_refl _) (by have := hm.1; omega)), ale, x0_size]
    have e : gI (sI T 0 2) 4 = nI ((mAL b k).length + k) := h.1.trans (by rw [List.length_append, mBL_len])
    rw [e]
    exact hp _ (kp_sI (kp_refl _ _ _ _ T) (by decide)) rfl h
  | succ j ih =>
    intro k T hk hm h hp
    have hn12 : n ≤ 12 := hm.1
    rw [V_X7_made_57, x1_size, hm.2.1, brf (nI_ge (by omega) (by omega))]
    refine x7_goN (by omega) (x7_waN (by omega) ?_)
    refine x0_addL h (by rw [List.length_append, mBL_len]; omega) (pm_le (by omega)) (pm_le (by omega)) (fun U kU hU => ?_)
    obtain ⟨hmU, -⟩ := mac_kp hm kU (by decide) (by decide) (by decide)
    rw [List.append_assoc] at hU
    rw [ale, nadd1]
    exact ih (k + 1) U (by omega) hmU hU (fun W kW e0 hW => hp W (kp_trans (kp_mono kU (by decide) (by decide) (by decide) (by decide)) kW) e0 hW)
theorem x7_made33 {post : Int32 → SS → Prop} (b : Nat → Int32) (hb : (mAL b n).length + n ≤ 40) : ∀ (j k : Nat) (T : SS), k + j = n → MAc T n → gB T 3 = b → FL T 4 9 10 (mAL b k) → (∀ U, Kp [0, 4] [] [] [9, 10] T U → gI U 0 = 2 → FL U 4 9 10 (mAL b n ++ mBL n) → post (nI ((mAL b n).length + n)) U) → V_X7_made_33 post (j + 1) (nI k) T := by
  intro j
  induction j with
  | zero =>
    intro k T hk hm eb h hp
    obtain rfl : k = n := by omega
    rw [V_X7_made_33, x1_size, hm.2.1, brt (nI_le (Nat.le_refl _) (by have := hm.1; omega))]
    exact ⟨k + 1, x7_made57 b hb k 0 T (by omega) hm (by rw [show mBL 0 = [] from rfl, List.append_nil]; exact h) hp⟩
  | succ j ih =>
    intro k T hk hm eb h hp
    have hn12 : n ≤ 12 := hm.1
    rw [V_X7_made_33, x1_size, hm.2.1, brf (nI_ge (by omega) (by omega))]
    have hl := mAL_mono b (show k + 1 ≤ n by omega)
    rw [← mAL_len, ← mAL_len] at hl
    have hl2 : (mAL b k).length + (acL b k).length ≤ (mAL b n).length := by
      rw [← List.length_append]; exact hl
    refine x7_acts hm (by omega) h (by rw [eb]; omega) (fun U kU hU => ?_)
    rw [eb] at hU
    obtain ⟨hmU, eB⟩ := mac_kp hm kU (by decide) (by decide) (by decide)
    rw [ale, nadd1]
    exact ih (k + 1) U (by omega) hmU (eB.trans eb) hU (fun W kW e0 hW => hp W (kp_trans (kp_mono kU (by decide) (by decide) (by decide) (by decide)) kW) e0 hW)
theorem x1_need {post : Int32 → SS → Prop} (hm : MAc S n) (hp : post (nI (2 * n + tkN (gB S 3) n)) S) : V_X1_fractionsNeeded S post := by
  have hn12 : n ≤ 12 := hm.1
  have tk : ∀ k, tkN (gB S 3) k ≤ k := fun k => by
    induction k with
    | zero => exact Nat.le_refl _
    | succ k ih =>
      show tkN (gB S 3) k + (if gB S 3 (4 * k) = 1 then 1 else 0) ≤ k + 1
      by_cases c : gB S 3 (4 * k) = 1
      · rw [if_pos c]; omega
      · rw [if_neg c]; omega
  have key : ∀ (j k : Nat), k + j = n → V_X1_fractionsNeeded_9 post (j + 1) (nI (2 * n + tkN (gB S 3) k)) (nI k) S := by
    intro j
    induction j with
    | zero =>
      intro k hk
      obtain rfl : k = n := by omega
      rw [V_X1_fractionsNeeded_9, x1_size, hm.2.1, brt (nI_le (Nat.le_refl _) (by omega))]
      exact hp
    | succ j ih =>
      intro k hk
      have := tk k
      have e : tkN (gB S 3) (k + 1) = tkN (gB S 3) k + if gB S 3 (4 * k) = 1 then 1 else 0 := rfl
      rw [V_X1_fractionsNeeded_9, x1_size, hm.2.1, brf (nI_ge (by omega) (by omega)), x1_kind hm (by omega)]
      have hh := ih (k + 1) (by omega)
      rw [e] at hh
      refine ⟨fun c => ?_, fun c => ?_⟩
      · rw [if_pos c] at hh
        rw [ale, ale, nadd1, nadd1]
        exact hh
      · rw [if_neg c] at hh
        rw [ale, ale, nadd1, show (0 : Int32) = nI 0 from rfl, nadd (by omega)]
        exact hh
  unfold V_X1_fractionsNeeded
  rw [x1_size, hm.2.1, ale, nmul2 (by omega)]
  exact ⟨n + 1, key n 0 (by omega)⟩
end
