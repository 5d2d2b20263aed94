/-! GO -/
def upN (g : Nat → Nat) (h v : Nat) : Nat → Nat := fun i => if i = h then v else g i
/-- the machine's run: j acts more, from act at on, dn are done, the heaps hold g -/
def gF (n : Nat) (b : Nat → Int32) : Nat → Nat → Nat → (Nat → Nat) → Int32 × Nat × (Nat → Nat)
  | 0, at_, dn, g => (if n ≤ at_ then 0 else -2, dn, g)
  | j + 1, at_, dn, g => if n ≤ at_ then (0, dn, g) else if b (4 * at_) = 2 then (1, dn + 1, g) else if b (4 * at_) = 0 then gF n b j (iN (b (4 * at_ + 2))) (dn + 1) (upN g (iN (b (4 * at_ + 1))) (g (iN (b (4 * at_ + 1))) + 1)) else if g (iN (b (4 * at_ + 1))) = 0 then gF n b j (iN (b (4 * at_ + 3))) (dn + 1) g else gF n b j (iN (b (4 * at_ + 2))) (dn + 1) (upN g (iN (b (4 * at_ + 1))) (g (iN (b (4 * at_ + 1))) - 1))
/-- four heaps in a row's first cells -/
def HP (f : Nat → Int64) (g : Nat → Nat) : Prop := ∀ h, h < 4 → f h = lN (g h)
theorem hp_up {f : Nat → Int64} {g : Nat → Nat} (h : HP f g) (k v : Nat) : HP (vp_updL f k (lN v)) (upN g k v) := by
  intro i hi
  unfold upN
  by_cases c : i = k
  · subst c; rw [updL_eq, if_pos rfl]
  · rw [updL_ne _ _ c, if_neg c]; exact h i hi
theorem up_le {g : Nat → Nat} {k v d : Nat} (hg : ∀ h, g h ≤ d) (hv : v ≤ d) : ∀ h, upN g k v h ≤ d := by
  intro h
  unfold upN
  by_cases c : h = k
  · rw [if_pos c]; exact hv
  · rw [if_neg c]; exact hg h
section
variable {n k : Nat} {b : Nat → Int32}
theorem l_inc {a : Nat} (h : a ≤ 200000) : lN a + (1 : Int64) = lN (a + 1) := of64 (by rw [a64 (by rw [lN_int (by omega), show (1 : Int64).toInt = 1 from rfl]; omega) (by rw [lN_int (by omega), show (1 : Int64).toInt = 1 from rfl]; omega), lN_int (by omega), show (1 : Int64).toInt = 1 from rfl]; omega) (by omega)
theorem l_dec {a : Nat} (h0 : 1 ≤ a) (h : a ≤ 200000) : lN a - (1 : Int64) = lN (a - 1) := of64 (by rw [s64 (by rw [lN_int (by omega), show (1 : Int64).toInt = 1 from rfl]; omega) (by rw [lN_int (by omega), show (1 : Int64).toInt = 1 from rfl]; omega), lN_int (by omega), show (1 : Int64).toInt = 1 from rfl]; omega) (by omega)
theorem x1_work7 {post : Int32 → SS → Prop} (hk : k ≤ 100000) : ∀ (j at_ dn : Nat) (g : Nat → Nat) (T : SS), dn + j = k → MAc T n → gB T 3 = b → at_ < 2147483648 → gI T 16 = nI 4 → gI T 17 = nI dn → HP (gA T 26) g → (∀ h, g h ≤ 1000 + dn) → (∀ U, Kp [17] [] [] [26] T U → gI U 17 = nI (gF n b j at_ dn g).2.1 → (gF n b j at_ dn g).2.1 ≤ k → HP (gA U 26) (gF n b j at_ dn g).2.2 → (∀ h, (gF n b j at_ dn g).2.2 h ≤ 1000 + k) → post (gF n b j at_ dn g).1 U) → V_X1_work_7 (nI k) post (j + 1) (nI at_) T := by
  intro j
  induction j with
  | zero =>
    intro at_ dn g T hd hm eb hat h16 h17 hg hle hp
    obtain rfl : dn = k := by omega
    have hn12 := hm.1
    have hp := hp T (kp_refl _ _ _ _ T) h17 (Nat.le_refl _) hg hle
    rw [V_X1_work_7, h17, brt (nI_le (Nat.le_refl _) (by omega)), x1_size, hm.2.1]
    replace hp : post (if n ≤ at_ then 0 else -2) T := hp
    refine ⟨fun c => ?_, fun c => ?_⟩
    · rw [if_pos ((nI_leI (by omega) (by omega)).mp c)] at hp; exact hp
    · rw [if_neg (fun z => c (nI_le z (by omega)))] at hp; exact hp
  | succ j ih =>
    intro at_ dn g T hd hm eb hat h16 h17 hg hle hp
    have hn12 := hm.1
    unfold gF at hp
    rw [V_X1_work_7, h17, brf (nI_ge (by omega) (by omega)), x1_size, hm.2.1]
    by_cases c : n ≤ at_
    · rw [brt (nI_le c (by omega)), x1_size, hm.2.1, brt (nI_le c (by omega))]
      rw [if_pos c] at hp
      exact hp T (kp_refl _ _ _ _ T) h17 (show dn ≤ k by omega) hg (fun h => show g h ≤ 1000 + k by have := hle h; omega)
    · have c : at_ < n := by omega
      rw [brf (nI_ge c (by omega)), ale, h17, nadd1]
      rw [if_neg (by omega)] at hp
      have k1 : Kp [17] [] [] [26] T (sI T 17 (nI (dn + 1))) := kp_sI (kp_refl _ _ _ _ T) (by decide)
      have hm1 : MAc (sI T 17 (nI (dn + 1))) n := (mac_kp hm k1 (by decide) (by decide) (by decide)).1
      obtain ⟨-, -, -, -, hkd, hne2, he1⟩ := hm.2.2.2.2.2.2 at_ c
      have eB1 : gB (sI T 17 (nI (dn + 1))) 3 = b := eb
      rw [x1_kind hm1 c, eB1]
      rw [eb] at hkd hne2 he1
      by_cases c2 : b (4 * at_) = 2
      · rw [brt c2]
        rw [if_pos c2] at hp
        exact hp _ k1 rfl (show dn + 1 ≤ k by omega) hg (fun h => show g h ≤ 1000 + k by have := hle h; omega)
      · rw [brf c2]
        rw [if_neg c2] at hp
        have n2 : (b (4 * at_)).toInt ≠ 2 := fun z => c2 (eq32.mpr z)
        obtain ⟨hh, hx⟩ := hne2 n2
        obtain ⟨eh, lh⟩ := iN_eq hh (by omega)
        obtain ⟨ex, lx⟩ := iN_eq hx (by omega)
        have lh4 : iN (b (4 * at_ + 1)) < 4 := by omega
        have hgh := hle (iN (b (4 * at_ + 1)))
        have h16' : gI (sI T 17 (nI (dn + 1))) 16 = nI 4 := h16
        have hgv : gA (sI T 17 (nI (dn + 1))) 26 (iN (b (4 * at_ + 1))) = lN (g (iN (b (4 * at_ + 1)))) := hg _ lh4
        unfold V_X1_follow
        rw [x1_heap hm1 c, eB1, eh, x1_kind hm1 c, eB1]
        by_cases c0 : b (4 * at_) = 0
        · rw [brt c0, x2_at h16' lh4 (Nat.le_refl _) (by omega), hgv, l_inc (by omega), x2_put h16' lh4 (Nat.le_refl _) (by omega)]
          rw [if_pos c0] at hp
          have k2 : Kp [17] [] [] [26] T (sA (sI T 17 (nI (dn + 1))) 26 (vp_updL (gA (sI T 17 (nI (dn + 1))) 26) (iN (b (4 * at_ + 1))) (lN (g (iN (b (4 * at_ + 1))) + 1)))) := kp_sA k1 (by decide)
          obtain ⟨hm2, eB2⟩ := mac_kp hm k2 (by decide) (by decide) (by decide)
          rw [x1_next hm2 c, eB2, eb, ex]
          refine ih _ _ _ _ (by omega) hm2 (eB2.trans eb) (by omega) h16 rfl (hp_up hg _ _) (up_le (fun h => by have := hle h; omega) (by omega)) (fun U kU u1 u2 u3 u4 => hp U (kp_trans k2 kU) u1 u2 u3 u4)
        · rw [brf c0, x2_at h16' lh4 (Nat.le_refl _) (by omega), hgv]
          rw [if_neg c0] at hp
          have c1 : (b (4 * at_)).toInt = 1 := by
            have e0 : (b (4 * at_)).toInt ≠ 0 := fun z => c0 (eq32.mpr z)
            omega
          obtain ⟨ey, ly⟩ := iN_eq (he1 c1) (by omega)
          by_cases cz : g (iN (b (4 * at_ + 1))) = 0
          · rw [brt (c := lN (g (iN (b (4 * at_ + 1)))) = (0 : Int64)) ((lN0 (by omega)).mpr cz), x1_other hm1 c, eB1, ey]
            rw [if_pos cz] at hp
            exact ih _ _ _ _ (by omega) hm1 eB1 (by omega) h16 rfl hg (fun h => by have := hle h; omega) (fun U kU u1 u2 u3 u4 => hp U (kp_trans k1 kU) u1 u2 u3 u4)
          · rw [brf (c := lN (g (iN (b (4 * at_ + 1)))) = (0 : Int64)) (fun z => cz ((lN0 (by omega)).mp z)), x2_at h16' lh4 (Nat.le_refl _) (by omega), hgv, l_dec (by omega) (by omega), x2_put h16' lh4 (Nat.le_refl _) (by omega)]
            rw [if_neg cz] at hp
            have k2 : Kp [17] [] [] [26] T (sA (sI T 17 (nI (dn + 1))) 26 (vp_updL (gA (sI T 17 (nI (dn + 1))) 26) (iN (b (4 * at_ + 1))) (lN (g (iN (b (4 * at_ + 1))) - 1)))) := kp_sA k1 (by decide)
            obtain ⟨hm2, eB2⟩ := mac_kp hm k2 (by decide) (by decide) (by decide)
            rw [x1_next hm2 c, eB2, eb, ex]
            refine ih _ _ _ _ (by omega) hm2 (eB2.trans eb) (by omega) h16 rfl (hp_up hg _ _) (up_le (fun h => by have := hle h; omega) (by omega)) (fun U kU u1 u2 u3 u4 => hp U (kp_trans k2 kU) u1 u2 u3 u4)
/-- the list that both tell -/
def goL (g : Nat → Nat) (dn : Nat) : List Int64 := [lN (g 0), lN (g 1), lN (g 2), lN (g 3), lN dn]
theorem x8_gofin {r : Int32} {post : Int32 → SS → Prop} {g : Nat → Nat} {dn : Nat} {T : SS} (hd : dn ≤ 100000) (hg : HP (gA T 36) g) (hp : ∀ U, Kp [28] [] [] [35, 36] T U → NR U 28 35 (goL g dn) → post r U) : vp_in (4 : Int32) 20000 ∧ ∀ S23 : SS, S23 = sA T 36 (vp_updL (gA T 36) (4 : Int32).toNatClampNeg (nI dn).toInt64) → V_X8_tells (5 : Int32) S23 (fun S25 => post r S25) := by
  refine ⟨by unfold vp_in; decide, fun S23 e => ?_⟩
  subst e
  refine x8_tellsL (n := 5) (l := goL g dn) ?_ rfl (by omega) (fun U kU hU => hp U (kp_trans (kp_sA (kp_refl _ _ _ _ T) (by decide)) (kp_mono kU (by decide) (by decide) (by decide) (by decide))) hU)
  intro i v hv
  have hi : i < 5 := lt_of_some hv
  rw [nI_i64 (by omega), gA_sA]
  show vp_updL (gA T 36) 4 (lN dn) i = v
  rcases (show i = 0 ∨ i = 1 ∨ i = 2 ∨ i = 3 ∨ i = 4 by omega) with e | e | e | e | e
  · subst e; rw [updL_ne _ _ (by omega), hg 0 (by omega)]; exact Option.some.inj hv
  · subst e; rw [updL_ne _ _ (by omega), hg 1 (by omega)]; exact Option.some.inj hv
  · subst e; rw [updL_ne _ _ (by omega), hg 2 (by omega)]; exact Option.some.inj hv
  · subst e; rw [updL_ne _ _ (by omega), hg 3 (by omega)]; exact Option.some.inj hv
  · subst e; rw [updL_eq]; exact Option.some.inj hv
theorem x8_go81 {post : Int32 → SS → Prop} (hk : k ≤ 100000) : ∀ (j at_ dn : Nat) (g : Nat → Nat) (T : SS), dn + j = k → MAc T n → gB T 3 = b → at_ < 2147483648 → HP (gA T 36) g → (∀ h, g h ≤ 1000 + dn) → (∀ U, Kp [28] [] [] [35, 36] T U → NR U 28 35 (goL (gF n b j at_ dn g).2.2 (gF n b j at_ dn g).2.1) → post (gF n b j at_ dn g).1 U) → V_X8_go_81 (nI k) post (j + 2) (nI at_) (nI dn) (-2) T := by
  have stop : ∀ (j at_ dn : Nat) (r : Int32) (g : Nat → Nat) (T : SS), ¬ r = -2 → dn ≤ 100000 → HP (gA T 36) g → (∀ U, Kp [28] [] [] [35, 36] T U → NR U 28 35 (goL g dn) → post r U) → V_X8_go_81 (nI k) post (j + 1) (nI at_) (nI dn) r T := fun j at_ dn r g T hr hd hg hp => by
    rw [V_X8_go_81, brf hr]
    exact x8_gofin hd hg hp
  have off : ∀ (j at_ dn : Nat) (g : Nat → Nat) (T : SS), n ≤ at_ → MAc T n → at_ < 2147483648 → dn ≤ 100000 → HP (gA T 36) g → (∀ U, Kp [28] [] [] [35, 36] T U → NR U 28 35 (goL g dn) → post 0 U) → V_X8_go_81 (nI k) post (j + 2) (nI at_) (nI dn) (-2) T := fun j at_ dn g T c hm hat hd hg hp => by
    have hn12 := hm.1
    rw [V_X8_go_81, brt rfl, hm.2.2.2.2.2.1, brt (nI_le c (by omega)), brf (nI_nlt c (by omega))]
    exact stop j at_ dn 0 g T (by decide) hd hg hp
  intro j
  induction j with
  | zero =>
    intro at_ dn g T hd hm eb hat hg hle hp
    obtain rfl : dn = k := by omega
    have hn12 := hm.1
    by_cases c : n ≤ at_
    · have e : gF n b 0 at_ dn g = (0, dn, g) := by unfold gF; rw [if_pos c]
      rw [e] at hp
      exact off 0 at_ dn g T c hm hat hk hg hp
    · have e : gF n b 0 at_ dn g = (-2, dn, g) := by unfold gF; rw [if_neg c]
      rw [e] at hp
      rw [V_X8_go_81, brt rfl, hm.2.2.2.2.2.1, brf (nI_ge (by omega) (by omega)), brt (nI_le (Nat.le_refl _) (by omega))]
      exact x8_gofin hk hg hp
  | succ j ih =>
    intro at_ dn g T hd hm eb hat hg hle hp
    have hn12 := hm.1
    by_cases c : n ≤ at_
    · have e : gF n b (j + 1) at_ dn g = (0, dn, g) := by unfold gF; rw [if_pos c]
      rw [e] at hp
      exact off (j + 1) at_ dn g T c hm hat (by omega) hg hp
    · have c : at_ < n := by omega
      unfold gF at hp
      rw [if_neg (by omega)] at hp
      obtain ⟨-, -, -, -, hkd, hne2, he1⟩ := hm.2.2.2.2.2.2 at_ c
      rw [V_X8_go_81, brt rfl, hm.2.2.2.2.2.1, brf (nI_ge (by omega) (by omega)), brf (nI_ge (by omega) (by omega)), brt (nI_lt c (by omega)), nmul4 (by omega), nadd1, nadd2, nadd3, gdt (vp_in_nI (by omega) (by omega)), gdt (vp_in_nI (by omega) (by omega)), ale, nadd1, nI_clamp (by omega), nI_clamp (by omega), nI_clamp (by omega), nI_clamp (by omega)]
      rw [eb] at hkd hne2 he1 ⊢
      by_cases c2 : b (4 * at_) = 2
      · rw [brt c2]
        rw [if_pos c2] at hp
        exact stop (j + 1) at_ (dn + 1) 1 g T (by decide) (by omega) hg hp
      · rw [brf c2]
        rw [if_neg c2] at hp
        have n2 : (b (4 * at_)).toInt ≠ 2 := fun z => c2 (eq32.mpr z)
        obtain ⟨hh, hx⟩ := hne2 n2
        obtain ⟨eh, lh⟩ := iN_eq hh (by omega)
        obtain ⟨ex, lx⟩ := iN_eq hx (by omega)
        have lh4 : iN (b (4 * at_ + 1)) < 4 := by omega
        have hgh := hle (iN (b (4 * at_ + 1)))
        have ec : (b (4 * at_ + 1)).toNatClampNeg = iN (b (4 * at_ + 1)) := rfl
        have hin : vp_in (b (4 * at_ + 1)) 20000 := by rw [eh]; exact vp_in_nI (by omega) (by omega)
        have hgv := hg _ lh4
        by_cases c0 : b (4 * at_) = 0
        · rw [brt c0, gdt hin, gdt hin, ale, ec, hgv, l_inc (by omega)]
          rw [if_pos c0] at hp
          have k2 : Kp [28] [] [] [35, 36] T (sA T 36 (vp_updL (gA T 36) (iN (b (4 * at_ + 1))) (lN (g (iN (b (4 * at_ + 1))) + 1)))) := kp_sA (kp_refl _ _ _ _ T) (by decide)
          obtain ⟨hm2, eB2⟩ := mac_kp hm k2 (by decide) (by decide) (by decide)
          rw [gdt (vp_in_nI (by omega) (by omega)), eB2, eb, ex]
          refine ih _ _ _ _ (by omega) hm2 (eB2.trans eb) (by omega) (hp_up hg _ _) (up_le (fun h => by have := hle h; omega) (by omega)) (fun U kU hU => hp U (kp_trans k2 kU) hU)
        · rw [brf c0, gdt hin, ec, hgv]
          rw [if_neg c0] at hp
          have c1 : (b (4 * at_)).toInt = 1 := by
            have e0 : (b (4 * at_)).toInt ≠ 0 := fun z => c0 (eq32.mpr z)
            omega
          obtain ⟨ey, ly⟩ := iN_eq (he1 c1) (by omega)
          have ez : lN (g (iN (b (4 * at_ + 1)))) ≤ (0 : Int64) ↔ g (iN (b (4 * at_ + 1))) = 0 := by
            rw [le64, lN_int (by omega), show (0 : Int64).toInt = 0 from rfl]; omega
          by_cases cz : g (iN (b (4 * at_ + 1))) = 0
          · rw [brt (ez.mpr cz), gdt (vp_in_nI (by omega) (by omega)), ey]
            rw [if_pos cz] at hp
            exact ih _ _ _ _ (by omega) hm eb (by omega) hg (fun h => by have := hle h; omega) hp
          · rw [brf (fun z => cz (ez.mp z)), gdt hin, gdt hin, ale, l_dec (by omega) (by omega)]
            rw [if_neg cz] at hp
            have k2 : Kp [28] [] [] [35, 36] T (sA T 36 (vp_updL (gA T 36) (iN (b (4 * at_ + 1))) (lN (g (iN (b (4 * at_ + 1))) - 1)))) := kp_sA (kp_refl _ _ _ _ T) (by decide)
            obtain ⟨hm2, eB2⟩ := mac_kp hm k2 (by decide) (by decide) (by decide)
            rw [gdt (vp_in_nI (by omega) (by omega)), eB2, eb, ex]
            refine ih _ _ _ _ (by omega) hm2 (eB2.trans eb) (by omega) (hp_up hg _ _) (up_le (fun h => by have := hle h; omega) (by omega)) (fun U kU hU => hp U (kp_trans k2 kU) hU)
end
