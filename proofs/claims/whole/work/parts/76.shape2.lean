/-! SHAPES: a step more; a word's -/
theorem mu64 {x y : Int64} {A B : Nat} (h1 : x.toInt.natAbs ≤ A) (h2 : y.toInt.natAbs ≤ B) (h : A * B ≤ 4000000000000000000) : (x * y).toInt = x.toInt * y.toInt ∧ (x.toInt * y.toInt).natAbs ≤ A * B := by
  have := nab h1 h2
  exact ⟨m64 (by omega) (by omega), this⟩
theorem sp_64 {a b d X Y Z : Int64} (ha : a.toInt.natAbs ≤ 1000) (hb : b.toInt.natAbs ≤ 1000) (hd : d.toInt.natAbs ≤ 1000) (hX : X.toInt.natAbs ≤ 1000000000000000) (hY : Y.toInt.natAbs ≤ 1000000000000000) (hZ : Z.toInt.natAbs ≤ 1000000000000000) : ((a * X).toInt, (a * Y + b * Z).toInt, (d * Z).toInt) = sp a.toInt b.toInt d.toInt (X.toInt, Y.toInt, Z.toInt) ∧ (a * X).toInt.natAbs ≤ 3000000000000000000 ∧ (a * Y + b * Z).toInt.natAbs ≤ 3000000000000000000 ∧ (d * Z).toInt.natAbs ≤ 3000000000000000000 := by
  obtain ⟨e1, l1⟩ := mu64 ha hX (by omega)
  obtain ⟨e2, l2⟩ := mu64 ha hY (by omega)
  obtain ⟨e3, l3⟩ := mu64 hb hZ (by omega)
  obtain ⟨e4, l4⟩ := mu64 hd hZ (by omega)
  have e5 : (a * Y + b * Z).toInt = a.toInt * Y.toInt + b.toInt * Z.toInt := by
    rw [a64 (by rw [e2, e3]; omega) (by rw [e2, e3]; omega), e2, e3]
  rw [e5, e1, e4]
  exact ⟨rfl, by omega, by omega, by omega⟩
theorem rul_abs3 {S : SS} {m r : Nat} (h : RUL S m) (hr : r < m) : (gA S 0 r).toInt.natAbs ≤ 1000 ∧ (gA S 1 r).toInt.natAbs ≤ 1000 ∧ (gA S 2 r).toInt.natAbs ≤ 1000 ∧ 1 ≤ (gA S 2 r).toInt := by
  obtain ⟨h1, h2, h3, -, -⟩ := h.2.2.2.2.2.2.1 r hr
  omega
/-- T differs from S in shapes alone, but not in the first -/
def Fx (S T : SS) : Prop := Kp [] [] [] [17, 18, 19] S T ∧ gA T 17 0 = gA S 17 0 ∧ gA T 18 0 = gA S 18 0 ∧ gA T 19 0 = gA S 19 0
theorem fx_refl (S : SS) : Fx S S := ⟨kp_refl _ _ _ _ S, rfl, rfl, rfl⟩
theorem fx_trans {S T U : SS} (h : Fx S T) (g : Fx T U) : Fx S U := ⟨kp_trans h.1 g.1, g.2.1.trans h.2.1, g.2.2.1.trans h.2.2.1, g.2.2.2.trans h.2.2.2⟩
theorem fx_ex {S T : SS} {i : Nat} (h : Ex S T (i + 1)) : Fx S T := by
  obtain ⟨e1, e2, e3⟩ := h.2 0 (by omega)
  exact ⟨h.1, e1, e2, e3⟩
theorem fx_rs {S T : SS} (h : Fx S T) (hs : Rs0 (gA S 17) (gA S 18) (gA S 19)) : Rs0 (gA T 17) (gA T 18) (gA T 19) := by
  obtain ⟨-, e1, e2, e3⟩ := h
  unfold Rs0
  rw [e1, e2, e3]; exact hs
theorem sh_ok {S : SS} {i : Nat} {s : T3} (h : SH S i s) : okT s := by
  obtain ⟨h1, h2, h3, h4, h5⟩ := h
  rw [← h5]
  obtain ⟨l1, l2, l3⟩ := rd_le (t := t3 S i) h4
  exact ⟨Nat.le_trans l1 (isN_abs.mp h1), Nat.le_trans l2 (isN_abs.mp h2), Nat.le_trans l3 (isN_abs.mp h3)⟩
section
variable {m r i : Nat} {S : SS} {s : T3}
theorem x4_extend {post : Int32 → SS → Prop} (h : RUL S m) (hr : r < m) (hi : i < 40) (hS : SH S i s) (h1 : okT (rd (sp (gA S 0 r).toInt (gA S 1 r).toInt (gA S 2 r).toInt s)) → ∀ U, Ex S U (i + 1) → SH U (i + 1) (rd (sp (gA S 0 r).toInt (gA S 1 r).toInt (gA S 2 r).toInt s)) → post 1 U) (h0 : ¬ okT (rd (sp (gA S 0 r).toInt (gA S 1 r).toInt (gA S 2 r).toInt s)) → ∀ U, Ex S U (i + 1) → post 0 U) : V_X4_extend 1 0 1 2 (nI i) (nI r) S post := by
  have hin : vp_in (nI i) 41 := vp_in_nI (by omega) (by omega)
  have hin1 : vp_in (nI (i + 1)) 41 := vp_in_nI (by omega) (by omega)
  obtain ⟨la, lb, ld, ld1⟩ := rul_abs3 h hr
  obtain ⟨n1, n2, n3, n4, n5⟩ := hS
  have hm := h.2.1
  have hi1 := h.2.2.2.2.1
  have n1 := isN_abs.mp n1
  have n2 := isN_abs.mp n2
  have n3 := isN_abs.mp n3
  obtain ⟨et, t1, t2, t3'⟩ := sp_64 la lb ld n1 n2 n3
  have hpos : 1 ≤ (sp (gA S 0 r).toInt (gA S 1 r).toInt (gA S 2 r).toInt (t3 S i)).2.2 := sp_pos ld1 n4
  have ers : rd (sp (gA S 0 r).toInt (gA S 1 r).toInt (gA S 2 r).toInt s) = rd (sp (gA S 0 r).toInt (gA S 1 r).toInt (gA S 2 r).toInt (t3 S i)) := by
    rw [← n5]; exact sp_rd n4
  rw [ers] at h1 h0
  unfold V_X4_extend
  rw [x4_has (by omega), brf (by decide), nadd1, x4_has (by omega), brf (by decide), x5_a hi1 hr hm, gdt hin, gdt hin1, ale, nI_clamp (by omega), nI_clamp (by omega)]
  have hi1' : gI (sA S 17 (vp_updL (gA S 17) (i + 1) (gA S 0 r * gA S 17 i))) 1 = nI m := hi1
  rw [x5_a hi1' hr hm, gdt hin, x5_b hi1' hr hm, gdt hin, gdt hin1, ale]
  generalize hS2 : sA (sA S 17 (vp_updL (gA S 17) (i + 1) (gA S 0 r * gA S 17 i))) 18 _ = S2
  have hi2 : gI S2 1 = nI m := by rw [← hS2]; exact hi1
  have ed2 : gA S2 2 r = gA S 2 r := by rw [← hS2]; rfl
  have e192 : gA S2 19 = gA S 19 := by rw [← hS2]; rfl
  rw [x5_d hi2 hr hm (by rw [ed2]; exact ld1), gdt hin, gdt hin1, ale, ed2, e192]
  generalize hS3 : sA S2 19 _ = S3
  have k3 : Kp [] [] [] [17, 18, 19] S S3 := by
    rw [← hS3, ← hS2]
    exact kp_sA (kp_sA (kp_sA (kp_refl _ _ _ _ S) (by decide)) (by decide)) (by decide)
  have x3 : Ex S S3 (i + 1) := ⟨k3, fun t ht => by
    rw [← hS3, ← hS2]
    exact ⟨updL_ne _ _ ht, updL_ne _ _ ht, updL_ne _ _ ht⟩⟩
  have v1 : gA S3 17 (i + 1) = gA S 0 r * gA S 17 i := by rw [← hS3, ← hS2]; exact updL_eq _ _ _
  have v2 : gA S3 18 (i + 1) = gA S 0 r * gA S 18 i + gA S 1 r * gA S 19 i := by rw [← hS3, ← hS2]; exact updL_eq _ _ _
  have v3 : gA S3 19 (i + 1) = gA S 2 r * gA S 19 i := by rw [← hS3, ← hS2]; exact updL_eq _ _ _
  have tt : t3 S3 (i + 1) = sp (gA S 0 r).toInt (gA S 1 r).toInt (gA S 2 r).toInt (t3 S i) := by
    show ((gA S3 17 (i + 1)).toInt, (gA S3 18 (i + 1)).toInt, (gA S3 19 (i + 1)).toInt) = _
    rw [v1, v2, v3]; exact et
  refine x4_fits (by omega) (fun ok => ⟨fun z => absurd z (by decide), fun _ => ?_⟩) (fun nok => ⟨fun _ => ?_, fun z => absurd rfl z⟩)
  · have okr : okT (rd (t3 S3 (i + 1))) := by
      obtain ⟨l1, l2, l3⟩ := rd_le (t := t3 S3 (i + 1)) (by rw [tt]; exact hpos)
      exact ⟨Nat.le_trans l1 ok.1, Nat.le_trans l2 ok.2.1, Nat.le_trans l3 ok.2.2⟩
    refine h1 (by rw [← tt]; exact okr) S3 x3 ⟨isN_abs.mpr ok.1, isN_abs.mpr ok.2.1, isN_abs.mpr ok.2.2, ?_, ?_⟩
    · have : 1 ≤ (t3 S3 (i + 1)).2.2 := by rw [tt]; exact hpos
      exact this
    · show rd (t3 S3 (i + 1)) = _
      rw [tt]
  · refine x4_reduce (by omega) (by show (gA S3 17 (i + 1)).toInt.natAbs ≤ _; rw [v1]; exact t1) (by show (gA S3 18 (i + 1)).toInt.natAbs ≤ _; rw [v2]; exact t2) (by show (gA S3 19 (i + 1)).toInt.natAbs ≤ _; rw [v3]; exact t3') (by rw [tt]; exact hpos) (fun U xU eU => ?_)
    have xSU : Ex S U (i + 1) := ⟨kp_trans k3 xU.1, fun t ht => by
      obtain ⟨a1, a2, a3⟩ := x3.2 t ht
      obtain ⟨b1, b2, b3⟩ := xU.2 t ht
      exact ⟨b1.trans a1, b2.trans a2, b3.trans a3⟩⟩
    rw [tt] at eU
    refine x4_fits (by omega) (fun ok => ⟨bz_1, ?_⟩) (fun nok2 => ⟨bz_0, ?_⟩)
    · rw [eU] at ok
      refine h1 ok U xSU ⟨?_, ?_, ?_, ?_, ?_⟩
      · exact isN_abs.mpr (by rw [show (gA U 17 (i + 1)).toInt = (t3 U (i + 1)).1 from rfl, eU]; exact ok.1)
      · exact isN_abs.mpr (by rw [show (gA U 18 (i + 1)).toInt = (t3 U (i + 1)).2.1 from rfl, eU]; exact ok.2.1)
      · exact isN_abs.mpr (by rw [show (gA U 19 (i + 1)).toInt = (t3 U (i + 1)).2.2 from rfl, eU]; exact ok.2.2)
      · rw [show (gA U 19 (i + 1)).toInt = (t3 U (i + 1)).2.2 from rfl, eU]; exact rd_pos hpos
      · show rd (t3 U (i + 1)) = _
        rw [eU]
        have e := rd_eq (sp (gA S 0 r).toInt (gA S 1 r).toInt (gA S 2 r).toInt (t3 S i))
        conv => rhs; rw [← e]
        rw [rd_ml (g3_pos hpos)]
    · rw [eU] at nok2
      exact h0 nok2 U xSU
end
section
variable {m n : Nat} {a b d : Nat → Int64} {w : Nat → Nat}
/-- a word on the class's side -/
def WC (S : SS) (si ai n : Nat) (w : Nat → Nat) : Prop := gI S si = nI n ∧ ∀ k, k < n → gA S ai k = lN (w k)
theorem wc_kp {is js bs as : List Nat} {S T : SS} {si ai : Nat} (h : WC S si ai n w) (k : Kp is js bs as S T) (h1 : si ∉ is) (h2 : ai ∉ as) : WC T si ai n w :=
  ⟨(k.1 si h1).trans h.1, fun i hi => by rw [k.2.2.2 ai h2]; exact h.2 i hi⟩
theorem x7_shapeW {si ai L : Nat} {post : Int32 → SS → Prop} (hn : n ≤ 40) (hnL : n ≤ L) (hL : L < 2147483648) (hai : ai ∉ [17, 18, 19]) (hw : ∀ k, k < n → w k < m) : ∀ (j i : Nat) (T : SS), i + j = n → RUL T m → gA T 0 = a ∧ gA T 1 = b ∧ gA T 2 = d → WC T si ai n w → (∀ t, t ≤ i → SH T t (shT a b d w t)) → ((∀ k, k ≤ n → okT (shT a b d w k)) → ∀ U, Fx T U → (∀ t, t ≤ n → SH U t (shT a b d w t)) → post 1 U) → (¬ (∀ k, k ≤ n → okT (shT a b d w k)) → ∀ U, Fx T U → post 0 U) → V_X7_shapeWord_2 si ai L post (j + 1) (nI i) T := by
  intro j
  induction j with
  | zero =>
    intro i T hi h hs hW hS h1 _
    obtain rfl : i = n := by omega
    rw [V_X7_shapeWord_2, x2_size, hW.1, brt (nI_le (Nat.le_refl _) (by omega))]
    exact h1 (fun k hk => sh_ok (hS k hk)) T (fx_refl T) hS
  | succ j ih =>
    intro i T hi h hs hW hS h1 h0
    have hin : i < n := by omega
    have hwi := hw i hin
    have hm := h.2.1
    rw [V_X7_shapeWord_2, x2_size, hW.1, brf (nI_ge hin (by omega)), x2_at hW.1 hin hnL hL, hW.2 i hin]
    have el : (lN (w i)).toInt32 = nI (w i) := of32 (by rw [l2i_toInt (by rw [lN_int (by omega)]; omega) (by rw [lN_int (by omega)]; omega), lN_int (by omega)]) (by omega)
    rw [el]
    refine x4_extend h hwi (by omega) (hS i (Nat.le_refl _)) (fun ok U xU hU => ⟨fun z => absurd z (by decide), fun _ => ?_⟩) (fun nok U xU => ⟨fun _ => ?_, fun z => absurd rfl z⟩)
    · obtain ⟨hR, s1, s2, s3⟩ := rul_kp h xU.1 (by decide) (by decide)
      rw [ale, nadd1]
      refine ih (i + 1) U (by omega) hR ⟨s1.trans hs.1, s2.trans hs.2.1, s3.trans hs.2.2⟩ (wc_kp hW xU.1 List.not_mem_nil hai) (fun t ht => ?_) (fun q V fV hV => h1 q V (fx_trans (fx_ex xU) fV) hV) (fun q V fV => h0 q V (fx_trans (fx_ex xU) fV))
      by_cases c : t = i + 1
      · subst c
        show SH U (i + 1) (rd (sp (a (w i)).toInt (b (w i)).toInt (d (w i)).toInt (shT a b d w i)))
        rw [← hs.1, ← hs.2.1, ← hs.2.2]
        rw [← hs.1, ← hs.2.1, ← hs.2.2] at hU
        exact hU
      · exact sh_ex (hS t (by omega)) xU c
    · refine h0 (fun q => nok ?_) U (fx_ex xU)
      have := q (i + 1) (by omega)
      rw [hs.1, hs.2.1, hs.2.2]
      exact this
/-- a word on the reference's side -/
def WR (S : SS) (bi n : Nat) (w : Nat → Nat) : Prop := ∀ k, k < n → gB S bi k = nI (w k)
theorem x8_shaped17 {bi L : Nat} {post : Int32 → SS → Prop} (hn : n ≤ L) (hL : L ≤ 40) (hw : ∀ k, k < n → w k < m) : ∀ (j k : Nat) (T : SS), k + j = n → RUL T m → gA T 0 = a ∧ gA T 1 = b ∧ gA T 2 = d → WR T bi n w → ((gJ T 1).toInt, (gJ T 2).toInt, (gJ T 3).toInt) = shT a b d w k → (∀ t, t ≤ k → okT (shT a b d w t)) → ((∀ k, k ≤ n → okT (shT a b d w k)) → ∀ U, Kp [] [1, 2, 3] [] [] T U → ((gJ U 1).toInt, (gJ U 2).toInt, (gJ U 3).toInt) = shT a b d w n → post 1 U) → (¬ (∀ k, k ≤ n → okT (shT a b d w k)) → ∀ U, Kp [] [1, 2, 3] [] [] T U → post 0 U) → V_X8_shaped_17 bi L (nI n) post (j + 1) (nI k) T := by
  intro j
  induction j with
  | zero =>
    intro k T hk h hs hW hJ hok h1 _
    obtain rfl : k = n := by omega
    rw [V_X8_shaped_17, brt (nI_le (Nat.le_refl _) (by omega))]
    exact h1 hok T (kp_refl _ _ _ _ T) hJ
  | succ j ih =>
    intro k T hk h hs hW hJ hok h1 h0
    have hkn : k < n := by omega
    have hwk := hw k hkn
    have hm := h.2.1
    have hf := h.2.2.2.2.2.2.1
    have hin : vp_in (nI k) L := vp_in_nI (by omega) (by omega)
    obtain ⟨e1, e2, e3⟩ := h.2.2.2.2.2.2.2 (w k) hwk
    obtain ⟨la, lb, ld, ld1⟩ := rul_abs3 h hwk
    have okk := hok k (Nat.le_refl _)
    rw [← hJ] at okk
    obtain ⟨et, t1, t2, t3'⟩ := sp_64 la lb ld okk.1 okk.2.1 okk.2.2
    have hZ : 1 ≤ (gJ T 3).toInt := by
      have := shT_pos (n := n) (m := m) (a := a) (b := b) (d := d) (w := w) (by rw [← hs.1, ← hs.2.1, ← hs.2.2]; exact hf) hw k (by omega)
      rw [← hJ] at this
      exact this
    have hpos := sp_pos (a := (gA T 0 (w k)).toInt) (b := (gA T 1 (w k)).toInt) (t := ((gJ T 1).toInt, (gJ T 2).toInt, (gJ T 3).toInt)) ld1 hZ
    rw [← et] at hpos
    have hpos : 1 ≤ (gA T 2 (w k) * gJ T 3).toInt := hpos
    have esh : shT a b d w (k + 1) = rd ((gA T 0 (w k) * gJ T 1).toInt, (gA T 0 (w k) * gJ T 2 + gA T 1 (w k) * gJ T 3).toInt, (gA T 2 (w k) * gJ T 3).toInt) := by
      rw [et, hs.1, hs.2.1, hs.2.2, hJ]; rfl
    rw [V_X8_shaped_17, brf (nI_ge hkn (by omega)), gdt hin, nI_clamp (by omega), hW k hkn, nmul3 (by omega), nadd1, nadd2, gdt (vp_in_nI (by omega) (by omega)), gdt hin, gdt (vp_in_nI (by omega) (by omega)), gdt hin, gdt (vp_in_nI (by omega) (by omega)), nI_clamp (by omega), nI_clamp (by omega), nI_clamp (by omega), e1, e2, e3, ale, ale, ale]
    show V_X8_common (gA T 0 (w k) * gJ T 1) (gA T 0 (w k) * gJ T 2 + gA T 1 (w k) * gJ T 3) (sJ (sJ (sJ T 2 (gA T 0 (w k) * gJ T 2 + gA T 1 (w k) * gJ T 3)) 1 (gA T 0 (w k) * gJ T 1)) 3 (gA T 2 (w k) * gJ T 3)) _
    generalize hX : gA T 0 (w k) * gJ T 1 = X at *
    generalize hY : gA T 0 (w k) * gJ T 2 + gA T 1 (w k) * gJ T 3 = Y at *
    generalize hZ2 : gA T 2 (w k) * gJ T 3 = Z at *
    have hg := g3_pos (t := (X.toInt, Y.toInt, Z.toInt)) hpos
    refine x8_co (by omega) (by omega) ?_
    have lg : Nat.gcd X.toInt.natAbs Y.toInt.natAbs ≤ 3000000000000000000 := by
      rcases Nat.eq_zero_or_pos X.toInt.natAbs with z | z
      · rw [z, Nat.gcd_zero_left]; exact t2
      · exact Nat.le_trans (Nat.le_of_dvd z (Nat.gcd_dvd_left _ _)) t1
    show V_X8_common (lN (Nat.gcd X.toInt.natAbs Y.toInt.natAbs)) Z _ _
    refine x8_co (by rw [lN_int (by omega)]; omega) (by omega) ?_
    rw [show (lN (Nat.gcd X.toInt.natAbs Y.toInt.natAbs)).toInt.natAbs = Nat.gcd X.toInt.natAbs Y.toInt.natAbs from by rw [lN_int (by omega)]; rfl]
    have eg : Nat.gcd (Nat.gcd X.toInt.natAbs Y.toInt.natAbs) Z.toInt.natAbs = g3 (X.toInt, Y.toInt, Z.toInt) := rfl
    rw [eg]
    have l3 : g3 (X.toInt, Y.toInt, Z.toInt) ≤ 3000000000000000000 := by
      have : g3 (X.toInt, Y.toInt, Z.toInt) ≤ Z.toInt.natAbs := Nat.le_of_dvd (by omega) (Nat.gcd_dvd_right _ _)
      omega
    have nz : ¬ lN (g3 (X.toInt, Y.toInt, Z.toInt)) = 0 := fun z => by have := (lN0 (by omega)).mp z; omega
    rw [gdt nz, ale, gdt nz, ale, gdt nz, ale]
    obtain ⟨d1, d2, d3⟩ := g3_dvd (X.toInt, Y.toInt, Z.toInt)
    generalize hU : sJ (sJ (sJ (sJ (sJ (sJ T 2 Y) 1 X) 3 Z) 1 _) 2 _) 3 _ = U
    have u1 : (gJ U 1).toInt = (rd (X.toInt, Y.toInt, Z.toInt)).1 := by rw [← hU]; exact dv_lN hg l3 d1
    have u2 : (gJ U 2).toInt = (rd (X.toInt, Y.toInt, Z.toInt)).2.1 := by rw [← hU]; exact dv_lN hg l3 d2
    have u3 : (gJ U 3).toInt = (rd (X.toInt, Y.toInt, Z.toInt)).2.2 := by rw [← hU]; exact dv_lN hg l3 d3
    have kU : Kp [] [1, 2, 3] [] [] T U := by
      rw [← hU]
      exact kp_sJ (kp_sJ (kp_sJ (kp_sJ (kp_sJ (kp_sJ (kp_refl _ _ _ _ T) (by decide)) (by decide)) (by decide)) (by decide)) (by decide)) (by decide)
    have uT : ((gJ U 1).toInt, (gJ U 2).toInt, (gJ U 3).toInt) = shT a b d w (k + 1) := by rw [esh, u1, u2, u3]
    have nok : ¬ okT (shT a b d w (k + 1)) → post 0 U := fun q => h0 (fun y => q (y (k + 1) (by omega))) U kU
    have o1 : (gJ U 1).toInt = (shT a b d w (k + 1)).1 := congrArg (fun x : T3 => x.1) uT
    have o2 : (gJ U 2).toInt = (shT a b d w (k + 1)).2.1 := congrArg (fun x : T3 => x.2.1) uT
    have o3 : (gJ U 3).toInt = (shT a b d w (k + 1)).2.2 := congrArg (fun x : T3 => x.2.2) uT
    refine x8_isNum (fun c1 => ⟨fun z => absurd z (by decide), fun _ => ?_⟩) (fun c1 => ⟨fun _ => nok (fun q => c1 (isN_abs.mpr (by rw [o1]; exact q.1))), fun z => absurd rfl z⟩)
    refine x8_isNum (fun c2 => ⟨fun z => absurd z (by decide), fun _ => ?_⟩) (fun c2 => ⟨fun _ => nok (fun q => c2 (isN_abs.mpr (by rw [o2]; exact q.2.1))), fun z => absurd rfl z⟩)
    refine x8_isNum (fun c3 => ⟨fun z => absurd z (by decide), fun _ => ?_⟩) (fun c3 => ⟨fun _ => nok (fun q => c3 (isN_abs.mpr (by rw [o3]; exact q.2.2))), fun z => absurd rfl z⟩)
    rw [ale, nadd1]
    obtain ⟨hR, s1, s2, s3⟩ := rul_kp h kU (by decide) (by decide)
    refine ih (k + 1) U (by omega) hR ⟨s1.trans hs.1, s2.trans hs.2.1, s3.trans hs.2.2⟩ (fun t ht => by rw [kU.2.2.1 bi List.not_mem_nil]; exact hW t ht) uT (fun t ht => ?_) (fun q V kV hV => h1 q V (kp_trans kU kV) hV) (fun q V kV => h0 q V (kp_trans kU kV))
    rcases Nat.lt_or_eq_of_le ht with z | z
    · exact hok t (by omega)
    · rw [z]
      exact ⟨by rw [← o1]; exact isN_abs.mp c1, by rw [← o2]; exact isN_abs.mp c2, by rw [← o3]; exact isN_abs.mp c3⟩
theorem x8_shaped {bi L : Nat} {S : SS} {post : Int32 → SS → Prop} (hn : n ≤ L) (hL : L ≤ 40) (hw : ∀ k, k < n → w k < m) (h : RUL S m) (hs : gA S 0 = a ∧ gA S 1 = b ∧ gA S 2 = d) (hW : WR S bi n w) (h1 : (∀ k, k ≤ n → okT (shT a b d w k)) → ∀ U, Kp [] [1, 2, 3] [] [] S U → ((gJ U 1).toInt, (gJ U 2).toInt, (gJ U 3).toInt) = shT a b d w n → post 1 U) (h0 : ¬ (∀ k, k ≤ n → okT (shT a b d w k)) → ∀ U, Kp [] [1, 2, 3] [] [] S U → post 0 U) : V_X8_shaped bi L (nI n) S post := by
  unfold V_X8_shaped
  rw [ale, ale, ale]
  have kT : Kp [] [1, 2, 3] [] [] S (sJ (sJ (sJ S 1 1) 2 0) 3 1) := kp_sJ (kp_sJ (kp_sJ (kp_refl _ _ _ _ S) (by decide)) (by decide)) (by decide)
  refine ⟨n + 1, x8_shaped17 hn hL hw n 0 _ (Nat.zero_add _) (rul_kp h kT (by decide) (by decide)).1 hs hW rfl (fun t ht => ?_) (fun q U kU hU => h1 q U (kp_trans kT kU) hU) (fun q U kU => h0 q U (kp_trans kT kU))⟩
  obtain rfl : t = 0 := by omega
  show okT (1, 0, 1)
  unfold okT
  decide
end
