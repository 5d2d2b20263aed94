/-! BACKS -/
/-- what comes of the first i of a list, each by c -/
def fmT (c : Int64 → List Int64) (cur : List Int64) : Nat → List Int64
  | 0 => []
  | i + 1 => fmT c cur i ++ (match cur[i]? with | some y => c y | none => [])
theorem fmT_succ {c : Int64 → List Int64} {cur : List Int64} {i : Nat} {y : Int64} (h : cur[i]? = some y) : fmT c cur (i + 1) = fmT c cur i ++ c y := by
  show fmT c cur i ++ (match cur[i]? with | some y => c y | none => []) = _
  rw [h]
theorem fmT_mono (c : Int64 → List Int64) (cur : List Int64) {i j : Nat} (h : i ≤ j) : (fmT c cur i).length ≤ (fmT c cur j).length := by
  induction h with
  | refl => exact Nat.le_refl _
  | step _ ih =>
    refine Nat.le_trans ih ?_
    show _ ≤ (fmT c cur _ ++ (match cur[_]? with | some y => c y | none => [])).length
    rw [List.length_append]; omega
def bsF (c : Int64 → List Int64) : Nat → List Int64 → Option (List Int64)
  | 0, cur => some cur
  | k + 1, cur => if (fmT c cur cur.length).length ≤ 1000 then bsF c k (fmT c cur cur.length) else none
theorem cdL_mono (c : Nat → Option Int64) {i j : Nat} (h : i ≤ j) : (cdL c i).length ≤ (cdL c j).length := by
  induction h with
  | refl => exact Nat.le_refl _
  | step _ ih =>
    refine Nat.le_trans ih ?_
    show _ ≤ (cdL c _ ++ (c _).toList).length
    rw [List.length_append]; omega
section
variable {m : Nat} {a b d : Nat → Int64} {cur : List Int64}
theorem x7_gb22 {i : Nat} {y0 : Int64} {pre : List Int64} {K9 : Int32 → SS → Prop} {post : Int32 → SS → Prop} (hc : cur.length ≤ 1000) (hi : cur[i]? = some y0) : ∀ (j r : Nat) (T : SS), r + j = m → RUL T m → gA T 0 = a ∧ gA T 1 = b ∧ gA T 2 = d → NR T 8 13 cur → NR T 9 14 (pre ++ cdL (bfF m a b d y0) r) → (pre ++ cdL (bfF m a b d y0) r).length ≤ 1000 → (∀ U, Kp [9] [] [] [14] T U → NR U 9 14 (pre ++ cdL (bfF m a b d y0) m) → (pre ++ cdL (bfF m a b d y0) m).length ≤ 1000 → K9 (nI (i + 1)) U) → (1000 < (pre ++ cdL (bfF m a b d y0) m).length → ∀ U, Kp [9] [] [] [14] T U → post 0 U) → V_X7_goBackFromFound_22 (nI i) K9 post (j + 1) (nI r) T := by
  have hil := lt_of_some hi
  intro j
  induction j with
  | zero =>
    intro r T hr h hs h8 h9 hl hk _
    obtain rfl : r = m := by omega
    rw [V_X7_goBackFromFound_22, x5_measure, h.2.2.2.2.1, brt (nI_le (Nat.le_refl _) (by have := h.2.1; omega)), ale, nadd1]
    exact hk T (kp_refl _ _ _ _ T) h9 hl
  | succ j ih =>
    intro r T hr h hs h8 h9 hl hk hb
    have hrm : r < m := by omega
    have hm := h.2.1
    rw [V_X7_goBackFromFound_22, x5_measure, h.2.2.2.2.1, brf (nI_ge (by omega) (by omega)), x2_at h8.1 hil hc (by omega), h8.2 i y0 hi]
    refine x5_before h hrm (fun hn => ?_) (fun y hy hN => ?_)
    · rw [hs.1, hs.2.1, hs.2.2] at hn
      rw [x7_notN notN_bey, brt rfl, ale, nadd1]
      exact ih (r + 1) T (by omega) h hs h8 (by rw [cdL_none hn]; exact h9) (by rw [cdL_none hn]; exact hl) hk hb
    · rw [hs.1, hs.2.1, hs.2.2] at hy
      rw [x7_isN hN, brf (by decide)]
      rcases Nat.lt_or_eq_of_le hl with z | z
      · refine x2_addL h9 z (by omega) (fun U kU hU => ?_)
        rw [List.append_assoc, ← cdL_some hy] at hU
        obtain ⟨hR, s1, s2, s3⟩ := rul_kp h kU (by decide) (by decide)
        refine ⟨fun z => absurd z (by decide), fun _ => ?_⟩
        rw [ale, nadd1]
        refine ih (r + 1) U (by omega) hR ⟨s1.trans hs.1, s2.trans hs.2.1, s3.trans hs.2.2⟩ (nr_kp h8 kU (by decide) (by decide)) hU ?_ (fun W kW hW => hk W (kp_trans kU kW) hW) (fun q W kW => hb q W (kp_trans kU kW))
        rw [cdL_some hy, ← List.append_assoc, List.length_append, List.length_singleton]; omega
      · have h9' : gI T 9 = nI 1000 := h9.1.trans (by rw [z])
        rw [x2_addF h9' (by omega), brt rfl]
        refine hb ?_ T (kp_refl _ _ _ _ T)
        have := cdL_mono (bfF m a b d y0) (show r + 1 ≤ m by omega)
        rw [cdL_some hy, List.length_append, List.length_singleton] at this
        rw [List.length_append] at z ⊢
        omega
theorem x7_gb9 {post : Int32 → SS → Prop} (hc : cur.length ≤ 1000) : ∀ (j i : Nat) (T : SS), i + j = cur.length → RUL T m → gA T 0 = a ∧ gA T 1 = b ∧ gA T 2 = d → NR T 8 13 cur → NR T 9 14 (fmT (fun y => cdL (bfF m a b d y) m) cur i) → (fmT (fun y => cdL (bfF m a b d y) m) cur i).length ≤ 1000 → ((fmT (fun y => cdL (bfF m a b d y) m) cur cur.length).length ≤ 1000 → ∀ U, Kp [8, 9] [] [] [13, 14] T U → NR U 8 13 (fmT (fun y => cdL (bfF m a b d y) m) cur cur.length) → post 1 U) → (1000 < (fmT (fun y => cdL (bfF m a b d y) m) cur cur.length).length → ∀ U, Kp [8, 9] [] [] [13, 14] T U → post 0 U) → V_X7_goBackFromFound_9 post (j + 1) (nI i) T := by
  intro j
  induction j with
  | zero =>
    intro i T hi h hs h8 h9 hl hk _
    obtain rfl : i = cur.length := by omega
    rw [V_X7_goBackFromFound_9, x2_size, h8.1, brt (nI_le (Nat.le_refl _) (by omega))]
    exact x2_becomeL h9 hl hl (by omega) (by omega) (by decide) (by decide) (fun U kU hU => hk hl U (kp_mono kU (by decide) (by decide) (by decide) (by decide)) hU)
  | succ j ih =>
    intro i T hi h hs h8 h9 hl hk hb
    have hil : i < cur.length := by omega
    have hg : cur[i]? = some cur[i] := List.getElem?_eq_getElem hil
    have hm := h.2.1
    rw [V_X7_goBackFromFound_9, x2_size, h8.1, brf (nI_ge hil (by omega))]
    have es := fmT_succ (c := fun y => cdL (bfF m a b d y) m) hg
    refine ⟨m + 1, x7_gb22 (m := m) (a := a) (b := b) (d := d) (pre := fmT (fun y => cdL (bfF m a b d y) m) cur i) hc hg m 0 T (by omega) h hs h8 (by rw [show cdL (bfF m a b d cur[i]) 0 = [] from rfl, List.append_nil]; exact h9) (by rw [show cdL (bfF m a b d cur[i]) 0 = [] from rfl, List.append_nil]; exact hl) (fun U kU hU hlU => ?_) (fun q U kU => ?_)⟩
    · obtain ⟨hR, s1, s2, s3⟩ := rul_kp h kU (by decide) (by decide)
      have kU2 : Kp [8, 9] [] [] [13, 14] T U := kp_mono kU (by decide) (by decide) (by decide) (by decide)
      refine ih (i + 1) U (by omega) hR ⟨s1.trans hs.1, s2.trans hs.2.1, s3.trans hs.2.2⟩ (nr_kp h8 kU (by decide) (by decide)) (by rw [es]; exact hU) (by rw [es]; exact hlU) (fun q W kW hW => hk q W (kp_trans kU2 kW) hW) (fun q W kW => hb q W (kp_trans kU2 kW))
    · refine hb (Nat.lt_of_lt_of_le (by rw [← es] at q; exact q) (fmT_mono _ cur (show i + 1 ≤ cur.length by omega))) U (kp_mono kU (by decide) (by decide) (by decide) (by decide))
theorem x7_goBack {post : Int32 → SS → Prop} {S : SS} (hc : cur.length ≤ 1000) (h : RUL S m) (hs : gA S 0 = a ∧ gA S 1 = b ∧ gA S 2 = d) (h8 : NR S 8 13 cur) (hk : (fmT (fun y => cdL (bfF m a b d y) m) cur cur.length).length ≤ 1000 → ∀ U, Kp [8, 9] [] [] [13, 14] S U → NR U 8 13 (fmT (fun y => cdL (bfF m a b d y) m) cur cur.length) → post 1 U) (hb : 1000 < (fmT (fun y => cdL (bfF m a b d y) m) cur cur.length).length → ∀ U, Kp [8, 9] [] [] [13, 14] S U → post 0 U) : V_X7_goBackFromFound S post := by
  unfold V_X7_goBackFromFound
  refine x2_emptyL (fun U kU hU => ?_)
  obtain ⟨hR, s1, s2, s3⟩ := rul_kp h kU (by decide) (by decide)
  have kU2 : Kp [8, 9] [] [] [13, 14] S U := kp_mono kU (by decide) (by decide) (by decide) (by decide)
  exact ⟨cur.length + 1, x7_gb9 hc cur.length 0 U (by omega) hR ⟨s1.trans hs.1, s2.trans hs.2.1, s3.trans hs.2.2⟩ (nr_kp h8 kU (by decide) (by decide)) hU (Nat.zero_le _) (fun q W kW hW => hk q W (kp_trans kU2 kW) hW) (fun q W kW => hb q W (kp_trans kU2 kW))⟩
theorem x7_backs46 {k : Nat} {post : Int32 → SS → Prop} (hk20 : k ≤ 20) : ∀ (j i : Nat) (cur : List Int64) (T : SS), i + j = k → cur.length ≤ 1000 → RUL T m → gA T 0 = a ∧ gA T 1 = b ∧ gA T 2 = d → NR T 8 13 cur → (∀ l, bsF (fun y => cdL (bfF m a b d y) m) j cur = some l → ∀ U, Kp [8, 9] [] [] [13, 14] T U → post (nI l.length) U) → (bsF (fun y => cdL (bfF m a b d y) m) j cur = none → ∀ U, Kp [8, 9] [] [] [13, 14] T U → post (-2) U) → V_X7_backs_46 (nI k) post (j + 1) (nI i) T := by
  intro j
  induction j with
  | zero =>
    intro i cur T hi hc h hs h8 h1 _
    obtain rfl : i = k := by omega
    rw [V_X7_backs_46, brt (nI_le (Nat.le_refl _) (by omega)), x2_size, h8.1]
    exact h1 cur rfl T (kp_refl _ _ _ _ T)
  | succ j ih =>
    intro i cur T hi hc h hs h8 h1 h0
    rw [V_X7_backs_46, brf (nI_ge (by omega) (by omega))]
    refine x7_goBack hc h hs h8 (fun q U kU hU => ⟨fun z => absurd z (by decide), fun _ => ?_⟩) (fun q U kU => ⟨fun _ => ?_, fun z => absurd rfl z⟩)
    · have e : bsF (fun y => cdL (bfF m a b d y) m) (j + 1) cur = bsF (fun y => cdL (bfF m a b d y) m) j (fmT (fun y => cdL (bfF m a b d y) m) cur cur.length) := if_pos q
      rw [e] at h1 h0
      obtain ⟨hR, s1, s2, s3⟩ := rul_kp h kU (by decide) (by decide)
      rw [ale, nadd1]
      exact ih (i + 1) _ U (by omega) q hR ⟨s1.trans hs.1, s2.trans hs.2.1, s3.trans hs.2.2⟩ hU (fun l hl W kW => h1 l hl W (kp_trans kU kW)) (fun hl W kW => h0 hl W (kp_trans kU kW))
    · exact h0 (if_neg (by omega)) U kU
theorem x8_bs101 {v3 v5 : Int32} {n : Nat} {nx : List Int64} {K : Int32 → Int32 → SS → Prop} {post : Int32 → SS → Prop} (hn : nx.length = n) (hl : n ≤ 1000) : ∀ (j t : Nat) (T : SS), t + j = n → FN (gA T 36) nx → FN (gA T 39) (nx.take t) → (∀ U, Kp [] [] [] [36, 39] T U → FN (gA U 39) nx → K (nI n) (v5 + 1) U) → V_X8_backs_101 v3 v5 (nI n) K post (j + 1) (nI t) T := by
  intro j
  induction j with
  | zero =>
    intro t T ht h36 h39 hk
    obtain rfl : t = n := by omega
    rw [V_X8_backs_101, brt (nI_le (Nat.le_refl _) (by omega)), ale]
    rw [← hn, List.take_length] at h39
    exact hk T (kp_refl _ _ _ _ T) h39
  | succ j ih =>
    intro t T ht h36 h39 hk
    have htl : t < nx.length := by omega
    have ev : gA T 36 t = nx[t] := h36 t _ (List.getElem?_eq_getElem htl)
    rw [V_X8_backs_101, brf (nI_ge (by omega) (by omega)), gdt (vp_in_nI (by omega) (by omega)), gdt (vp_in_nI (by omega) (by omega)), ale, ale, nI_clamp (by omega), nadd1, ev]
    have kT : Kp [] [] [] [36, 39] T (sA T 39 (vp_updL (gA T 39) t nx[t])) := kp_sA (kp_refl _ _ _ _ T) (by decide)
    have hF := fn_add (v := nx[t]) h39
    rw [List.length_take, Nat.min_eq_left (by omega), ← List.take_succ_eq_append_getElem htl] at hF
    exact ih (t + 1) _ (by omega) h36 (by rw [gA_sA]; exact hF) (fun U kU hU => hk U (kp_trans kT kU) hU)
theorem x8_bs59 {v3 v5 : Int32} {K : Int32 → Int32 → SS → Prop} {post : Int32 → SS → Prop} (hc : cur.length ≤ 1000) : ∀ (j i : Nat) (T : SS), i + j = cur.length → RUL T m → gA T 0 = a ∧ gA T 1 = b ∧ gA T 2 = d → FN (gA T 39) cur → FN (gA T 36) (fmT (fun y => cdL (bfF m a b d y) m) cur i) → (fmT (fun y => cdL (bfF m a b d y) m) cur i).length ≤ 1000 → ((fmT (fun y => cdL (bfF m a b d y) m) cur cur.length).length ≤ 1000 → ∀ U, Kp [] [] [] [36, 39] T U → FN (gA U 39) (fmT (fun y => cdL (bfF m a b d y) m) cur cur.length) → K (nI (fmT (fun y => cdL (bfF m a b d y) m) cur cur.length).length) (v5 + 1) U) → (1000 < (fmT (fun y => cdL (bfF m a b d y) m) cur cur.length).length → ∀ U, Kp [] [] [] [36, 39] T U → post (-2) U) → V_X8_backs_59 v3 (nI cur.length) v5 K post (j + 1) (nI (fmT (fun y => cdL (bfF m a b d y) m) cur i).length) (nI i) T := by
  intro j
  induction j with
  | zero =>
    intro i T hi h hs h39 h36 hl hk _
    obtain rfl : i = cur.length := by omega
    rw [V_X8_backs_59, brt (nI_le (Nat.le_refl _) (by omega))]
    exact ⟨_, x8_bs101 rfl hl _ 0 T (Nat.zero_add _) h36 (fn_nil _) (fun U kU hU => hk hl U kU hU)⟩
  | succ j ih =>
    intro i T hi h hs h39 h36 hl hk hb
    have hil : i < cur.length := by omega
    have hg : cur[i]? = some cur[i] := List.getElem?_eq_getElem hil
    have es := fmT_succ (c := fun y => cdL (bfF m a b d y) m) hg
    rw [V_X8_backs_59, brf (nI_ge hil (by omega)), gdt (vp_in_nI (by omega) (by omega)), nI_clamp (by omega), h39 i _ hg]
    refine x8_backOf h hs rfl hl h36 (fun U kU hU => ?_)
    have kU2 : Kp [] [] [] [36, 39] T U := kp_mono kU (by decide) (by decide) (by decide) (by decide)
    obtain ⟨hR, s1, s2, s3⟩ := rul_kp h kU (by decide) (by decide)
    have lb : (fmT (fun y => cdL (bfF m a b d y) m) cur i ++ cdL (bfF m a b d cur[i]) m).length ≤ 2000 := by
      rw [List.length_append]; have := cdL_len (bfF m a b d cur[i]) m; have := h.2.1; omega
    refine ⟨fun c => ?_, fun c => ?_⟩
    · have c := (nI_leI (b := 1000) (by omega) (by omega)).mp c
      rw [ale, nadd1]
      have := ih (i + 1) U (by omega) hR ⟨s1.trans hs.1, s2.trans hs.2.1, s3.trans hs.2.2⟩ (by rw [kU.2.2.2 39 (by decide)]; exact h39) (by rw [es]; exact hU) (by rw [es]; exact c) (fun q W kW hW => hk q W (kp_trans kU2 kW) hW) (fun q W kW => hb q W (kp_trans kU2 kW))
      rw [es] at this
      exact this
    · have c : ¬ (fmT (fun y => cdL (bfF m a b d y) m) cur i ++ cdL (bfF m a b d cur[i]) m).length ≤ 1000 := fun z => c (nI_le (b := 1000) z (by omega))
      rw [← es] at c
      exact hb (Nat.lt_of_lt_of_le (Nat.lt_of_not_le c) (fmT_mono _ cur (show i + 1 ≤ cur.length by omega))) U kU2
theorem x8_bs47 {k : Nat} {post : Int32 → SS → Prop} (hk20 : k ≤ 20) : ∀ (j i : Nat) (cur : List Int64) (T : SS), i + j = k → cur.length ≤ 1000 → RUL T m → gA T 0 = a ∧ gA T 1 = b ∧ gA T 2 = d → FN (gA T 39) cur → (∀ l, bsF (fun y => cdL (bfF m a b d y) m) j cur = some l → ∀ U, Kp [] [] [] [36, 39] T U → post (nI l.length) U) → (bsF (fun y => cdL (bfF m a b d y) m) j cur = none → ∀ U, Kp [] [] [] [36, 39] T U → post (-2) U) → V_X8_backs_47 (nI k) post (j + 1) (nI cur.length) (nI i) T := by
  intro j
  induction j with
  | zero =>
    intro i cur T hi hc h hs h39 h1 _
    obtain rfl : i = k := by omega
    rw [V_X8_backs_47, brt (nI_le (Nat.le_refl _) (by omega))]
    exact h1 cur rfl T (kp_refl _ _ _ _ T)
  | succ j ih =>
    intro i cur T hi hc h hs h39 h1 h0
    rw [V_X8_backs_47, brf (nI_ge (by omega) (by omega))]
    refine ⟨cur.length + 1, x8_bs59 (v3 := nI k) (v5 := nI i) (post := post) (K := fun w4 w5 T => V_X8_backs_47 (nI k) post (j + 1) w4 w5 T) hc cur.length 0 T (Nat.zero_add _) h hs h39 (fn_nil _) (Nat.zero_le _) (fun q U kU hU => ?_) (fun q U kU => ?_)⟩
    · have e : bsF (fun y => cdL (bfF m a b d y) m) (j + 1) cur = bsF (fun y => cdL (bfF m a b d y) m) j (fmT (fun y => cdL (bfF m a b d y) m) cur cur.length) := if_pos q
      rw [e] at h1 h0
      obtain ⟨hR, s1, s2, s3⟩ := rul_kp h kU (by decide) (by decide)
      rw [nadd1]
      exact ih (i + 1) _ U (by omega) q hR ⟨s1.trans hs.1, s2.trans hs.2.1, s3.trans hs.2.2⟩ hU (fun l hl W kW => h1 l hl W (kp_trans kU kW)) (fun hl W kW => h0 hl W (kp_trans kU kW))
    · exact h0 (if_neg (by omega)) U kU
end
theorem p_backs {x : Int64} {p : Int32} {S : SS} (h : RR S) : V_X7_backs x p S (fun r1 S2 => V_X8_backs x p S2 (fun r3 S4 => (r1 = r3 → RR S4) ∧ (¬ r1 = r3 → False))) := by
  have h25 : gI S 25 = gI S 0 := h.2.1.1
  have hno : ¬ (gI S 0 = 1 ∧ isN x ∧ (0 ≤ p.toInt ∧ p.toInt ≤ 20)) → V_X8_backs x p S (fun r3 S4 => ((-1 : Int32) = r3 → RR S4) ∧ (¬ (-1 : Int32) = r3 → False)) := fun c => by
    show V_X8_backs _ _ _ _
    unfold V_X8_backs
    rw [ale]
    refine ⟨fun c0 => ?_, fun _ => eqp rfl h⟩
    refine x8_isNum (fun cx => ⟨fun z => absurd z (by decide), fun _ => ?_⟩) (fun _ => ⟨fun _ => eqp rfl h, fun z => absurd rfl z⟩)
    exact in32 (a := 0) (b := 20) rfl rfl (fun cp => absurd ⟨h25.symm.trans c0, cx, cp⟩ c) (fun _ => ⟨fun _ => eqp rfl h, fun z => absurd rfl z⟩)
  unfold V_X7_backs
  refine ⟨fun c => x7_isNum (fun cx => ⟨fun z => absurd z (by decide), fun _ => ⟨fun c1 => hno (fun q => ?_), fun c1 => ⟨fun c2 => ?_, fun c2 => hno (fun q => ?_)⟩⟩⟩) (fun cx => ⟨fun _ => hno (fun q => cx q.2.1), fun z => absurd rfl z⟩), fun c => hno (fun q => c q.1)⟩
  · have d : p.toInt < 0 := lt32.mp c1
    have := q.2.2.1
    omega
  · have d1 : ¬ p.toInt < 0 := fun z => c1 (lt32.mpr z)
    have d2 : p.toInt ≤ 20 := le32.mp c2
    obtain ⟨k, rfl, -, hk⟩ := nat32 (p := p) 0 20 (by omega) d2 (by omega)
    obtain ⟨m, hR⟩ := rul_of h c
    refine x2_emptyL (fun U1 k1 h1 => ?_)
    refine x2_addL h1 (by decide) (by omega) (fun U2 k2 h2 => ?_)
    have k2 := kp_trans k1 k2
    obtain ⟨hR2, s1, s2, s3⟩ := rul_kp hR k2 (by decide) (by decide)
    have ref : ∀ (U : SS) (post : Int32 → SS → Prop), Kp [8, 9] [] [] [13, 14] S U → (∀ l, bsF (fun y => cdL (bfF m (gA S 0) (gA S 1) (gA S 2) y) m) k [x] = some l → ∀ W, Kp [20] [] [] [36, 39] U W → post (nI l.length) W) → (bsF (fun y => cdL (bfF m (gA S 0) (gA S 1) (gA S 2) y) m) k [x] = none → ∀ W, Kp [20] [] [] [36, 39] U W → post (-2) W) → V_X8_backs x (nI k) U post := fun U post kU g1 g0 => by
      obtain ⟨hRU, t1, t2, t3⟩ := rul_kp hR kU (by decide) (by decide)
      show V_X8_backs _ _ _ _
      unfold V_X8_backs
      rw [ale, brt (c := gI (sI U 20 0) 25 = (1 : Int32)) hRU.2.2.2.1, x8_isN cx, brf (by decide)]
      refine in32 (a := 0) (b := 20) rfl rfl (fun _ => ⟨fun z => absurd z (by decide), fun _ => ?_⟩) (fun z => absurd ⟨by show (0 : Int) ≤ _; rw [nI_toInt (by omega)]; omega, by show _ ≤ (20 : Int); rw [nI_toInt (by omega)]; omega⟩ z)
      rw [gdt (by unfold vp_in; decide), ale]
      have kW : Kp [20] [] [] [36, 39] U (sA (sI U 20 0) 39 (vp_updL (gA (sI U 20 0) 39) (0 : Int32).toNatClampNeg x)) := kp_sA (kp_sI (kp_refl _ _ _ _ U) (by decide)) (by decide)
      refine ⟨k + 1, x8_bs47 (m := m) (a := gA S 0) (b := gA S 1) (d := gA S 2) hk k 0 [x] _ (Nat.zero_add _) (show 1 ≤ 1000 by omega) (rul_kp hRU kW (by decide) (by decide)).1 ⟨t1, t2, t3⟩ ?_ (fun l hl W k3 => g1 l hl W (kp_trans kW (kp_mono k3 (by decide) (by decide) (by decide) (by decide)))) (fun hl W k3 => g0 hl W (kp_trans kW (kp_mono k3 (by decide) (by decide) (by decide) (by decide))))⟩
      exact fn_add (l := []) (fn_nil (gA U 39))
    have hs0 := h.2.2.2.2.2.2
    refine ⟨k + 1, x7_backs46 (m := m) (a := gA S 0) (b := gA S 1) (d := gA S 2) hk k 0 [x] U2 (Nat.zero_add _) (show 1 ≤ 1000 by omega) hR2 ⟨s1, s2, s3⟩ h2 (fun l hl U kU => ?_) (fun hl U kU => ?_)⟩
    · have k3 := kp_trans (kp_mono k2 (by decide) (by decide) (by decide) (by decide) : Kp [8, 9] [] [] [13, 14] S U2) kU
      refine ref U _ k3 (fun l2 hl2 W kW => ?_) (fun hl2 => ?_)
      · rw [hl] at hl2
        rw [Option.some.inj hl2]
        exact eqp rfl (none_end h (kp_mono k3 (by decide) (by decide) (by decide) (by decide)) (rs0_kp hs0 k3 (by decide) (by decide) (by decide)) (kp_mono kW (by decide) (by decide) (by decide) (by decide)))
      · rw [hl] at hl2; exact absurd hl2 (by simp)
    · have k3 := kp_trans (kp_mono k2 (by decide) (by decide) (by decide) (by decide) : Kp [8, 9] [] [] [13, 14] S U2) kU
      refine ref U _ k3 (fun l2 hl2 => ?_) (fun hl2 W kW => ?_)
      · rw [hl] at hl2; exact absurd hl2 (by simp)
      · exact eqp rfl (none_end h (kp_mono k3 (by decide) (by decide) (by decide) (by decide)) (rs0_kp hs0 k3 (by decide) (by decide) (by decide)) (kp_mono kW (by decide) (by decide) (by decide) (by decide)))
  · have d2 : ¬ p.toInt ≤ 20 := fun z => c2 (le32.mpr z)
    exact d2 q.2.2.2
