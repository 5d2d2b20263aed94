/-! BACK -/
/-- a rule on both sides -/
def RUL (S : SS) (m : Nat) : Prop := 2 ≤ m ∧ m ≤ 64 ∧ gI S 0 = 1 ∧ gI S 25 = 1 ∧ gI S 1 = nI m ∧ gI S 26 = nI m ∧ rulF m (gA S 0) (gA S 1) (gA S 2) ∧ ∀ r, r < m → gA S 32 (3 * r) = gA S 0 r ∧ gA S 32 (3 * r + 1) = gA S 1 r ∧ gA S 32 (3 * r + 2) = gA S 2 r
theorem rul_of {S : SS} (h : RR S) (h0 : gI S 0 = 1) : ∃ m, RUL S m := by
  obtain ⟨h25, q | ⟨q, m, hm2, hm, h1, h26, hr, he⟩ | ⟨q, -⟩⟩ := h.2.1
  · rw [q] at h0; exact absurd h0 (by decide)
  · exact ⟨m, hm2, hm, q, h25.trans q, h1, h26, hr, he⟩
  · rw [q] at h0; exact absurd h0 (by decide)
theorem rul_kp {is js bs as : List Nat} {S T : SS} {m : Nat} (h : RUL S m) (k : Kp is js bs as S T) (hi : ∀ j ∈ [0, 25, 1, 26], j ∉ is) (ha : ∀ j ∈ [0, 1, 2, 32], j ∉ as) : RUL T m ∧ gA T 0 = gA S 0 ∧ gA T 1 = gA S 1 ∧ gA T 2 = gA S 2 := by
  obtain ⟨kI, -, kB, kA⟩ := k
  unfold RUL
  rw [kI 0 (hi 0 (by decide)), kI 25 (hi 25 (by decide)), kI 1 (hi 1 (by decide)), kI 26 (hi 26 (by decide)), kA 0 (ha 0 (by decide)), kA 1 (ha 1 (by decide)), kA 2 (ha 2 (by decide)), kA 32 (ha 32 (by decide))]
  exact ⟨h, rfl, rfl, rfl⟩
theorem fmd_lN {x : Int64} {m : Nat} (h2 : 1 ≤ m) (hm : m ≤ 64) : fmd x (nI m).toInt64 = lN (rst x m) := by
  have hy : ((nI m).toInt64).toInt = (m : Int) := by rw [i64_toInt, nI_toInt (by omega)]
  have h3 := Int.emod_nonneg x.toInt (show (m : Int) ≠ 0 by omega)
  have h4 := Int.emod_lt_of_pos x.toInt (show (0 : Int) < m by omega)
  have hf : (fmd x (nI m).toInt64).toInt = x.toInt % (m : Int) := by rw [fmd_toInt (by rw [hy]; omega), hy]
  show _ = lN (x.toInt % (m : Int)).toNat
  exact of64 (by rw [hf]; omega) (by omega)
/-- x of rest r, told by a comparison of longs -/
theorem x8_restBy {x : Int64} {m : Nat} (h2 : 1 ≤ m) (hm : m ≤ 64) {S : SS} {post : Int64 → SS → Prop} (hp : post (lN (rst x m)) S) : V_X8_restBy x (nI m) S post := by
  unfold V_X8_restBy
  rw [J9 (by rw [i64_toInt, nI_toInt (by omega)]; omega), fmd_lN h2 hm]
  exact hp
theorem rst_eq {x : Int64} {m r : Nat} (h2 : 1 ≤ m) (hm : m ≤ 64) (hr : r ≤ 64) : lN (rst x m) = (nI r).toInt64 ↔ rst x m = r := by
  have := rest_lt x h2
  rw [nI_i64 (by omega)]
  exact pk_lEQ (by show (x.toInt % (m : Int)).toNat < _; omega) (by omega)
theorem num_no {x : Int64} (h : ¬ isN x) : ¬ (-1000000000000000 ≤ x.toInt ∧ x.toInt ≤ 1000000000000000) := h
/-- the number of rest r that steps to x -/
def bfF (m : Nat) (a b d : Nat → Int64) (x : Int64) (r : Nat) : Option Int64 :=
  if a r = 0 then none
  else if lrm (d r * x - b r) (a r) = (0 : Int64) then
    (if -1000000000000000 ≤ ((d r * x - b r) / a r).toInt ∧ ((d r * x - b r) / a r).toInt ≤ 1000000000000000 then
      (if rst ((d r * x - b r) / a r) m = r then some ((d r * x - b r) / a r) else none) else none)
  else none
/-- those of the rests below k -/
def cdL (c : Nat → Option Int64) : Nat → List Int64
  | 0 => []
  | k + 1 => cdL c k ++ (c k).toList
theorem opt_len (o : Option Int64) : o.toList.length ≤ 1 := by
  cases o with
  | none => exact Nat.zero_le _
  | some _ => exact Nat.le_refl _
theorem cdL_len (c : Nat → Option Int64) : ∀ k, (cdL c k).length ≤ k := by
  intro k
  induction k with
  | zero => exact Nat.le_refl _
  | succ k ih =>
    show (cdL c k ++ (c k).toList).length ≤ k + 1
    rw [List.length_append]
    have := opt_len (c k)
    omega
theorem cdL_none {c : Nat → Option Int64} {k : Nat} (h : c k = none) : cdL c (k + 1) = cdL c k := by
  show cdL c k ++ (c k).toList = _
  rw [h]; exact List.append_nil _
theorem cdL_some {c : Nat → Option Int64} {k : Nat} {v : Int64} (h : c k = some v) : cdL c (k + 1) = cdL c k ++ [v] := by
  show cdL c k ++ (c k).toList = _
  rw [h]; rfl
section
variable {S : SS} {m r : Nat} {x : Int64}
theorem x5_before {post : Int64 → SS → Prop} (h : RUL S m) (hr : r < m) (h0 : bfF m (gA S 0) (gA S 1) (gA S 2) x r = none → post 3000000000000000 S) (h1 : ∀ y, bfF m (gA S 0) (gA S 1) (gA S 2) x r = some y → isN y → post y S) : V_X5_before 1 0 1 2 x (nI r) S post := by
  obtain ⟨hm2, hm, g0, g25, hi1, hi26, hf, he⟩ := h
  obtain ⟨-, -, ⟨hd, -⟩, -, -⟩ := hf r hr
  unfold bfF at h0 h1
  unfold V_X5_before
  rw [x5_a hi1 hr hm]
  by_cases ca : gA S 0 r = (0 : Int64)
  · rw [brt ca]
    exact h0 (if_pos ca)
  · rw [if_neg ca] at h0 h1
    rw [brf ca, x5_d hi1 hr hm hd, x5_b hi1 hr hm, ale, gdt ca]
    by_cases c1 : lrm (gA S 2 r * x - gA S 1 r) (gA S 0 r) = (0 : Int64)
    · rw [if_pos c1] at h0 h1
      rw [brt c1, gdt ca, ale]
      refine x7_isNum (fun cn => ⟨fun z => absurd z (by decide), fun _ => ?_⟩) (fun cn => ⟨fun _ => ?_, fun z => absurd rfl z⟩)
      · rw [if_pos (num_of cn)] at h0 h1
        rw [x5_restOf hi1 (by omega) hm]
        have hrl := rest_lt ((gA S 2 r * x - gA S 1 r) / gA S 0 r) (show 1 ≤ m by omega)
        refine ⟨fun c2 => ?_, fun c2 => ?_⟩
        · have c2 := (nI_inj (by omega) (by omega)).mp c2
          exact h1 _ (if_pos c2) cn
        · have c2 : ¬ rst ((gA S 2 r * x - gA S 1 r) / gA S 0 r) m = r := fun z => c2 (congrArg nI z)
          exact h0 (if_neg c2)
      · exact h0 (if_neg (num_no cn))
    · rw [if_neg c1] at h0 h1
      rw [brf c1]
      exact h0 rfl
end
section
variable {m : Nat} {x : Int64} {a b d : Nat → Int64}
theorem x8_back6 {post : Int32 → SS → Prop} {l0 : List Int64} (hl0 : l0.length ≤ 1000) : ∀ (j k : Nat) (T : SS), k + j = m → RUL T m → gA T 0 = a ∧ gA T 1 = b ∧ gA T 2 = d → FN (gA T 36) (l0 ++ cdL (bfF m a b d x) k) → (∀ U, Kp [] [] [] [36] T U → FN (gA U 36) (l0 ++ cdL (bfF m a b d x) m) → post (nI (l0 ++ cdL (bfF m a b d x) m).length) U) → V_X8_backOf_6 x post (j + 1) (nI (l0 ++ cdL (bfF m a b d x) k).length) (nI k) T := by
  intro j
  induction j with
  | zero =>
    intro k T hk h hs hF hp
    obtain rfl : k = m := by omega
    rw [V_X8_backOf_6, h.2.2.2.2.2.1, brt (nI_le (Nat.le_refl _) (by have := h.2.1; omega))]
    exact hp T (kp_refl _ _ _ _ T) hF
  | succ j ih =>
    intro k T hk h hs hF hp
    have hkm : k < m := by omega
    obtain ⟨hm2, hm, g0, g25, hi1, hi26, hf, he⟩ := h
    obtain ⟨e1, e2, e3⟩ := he k hkm
    rw [hs.1] at e1
    rw [hs.2.1] at e2
    rw [hs.2.2] at e3
    have hlen : (l0 ++ cdL (bfF m a b d x) k).length ≤ 1064 := by
      rw [List.length_append]; have := cdL_len (bfF m a b d x) k; omega
    have skip : bfF m a b d x k = none → V_X8_backOf_6 x post (j + 1) (nI (l0 ++ cdL (bfF m a b d x) k).length) (nI (k + 1)) T := fun hn => by
      have := ih (k + 1) T (by omega) ⟨hm2, hm, g0, g25, hi1, hi26, hf, he⟩ hs (by rw [cdL_none hn]; exact hF) hp
      rw [cdL_none hn] at this
      exact this
    rw [V_X8_backOf_6, hi26, brf (nI_ge (by omega) (by omega)), nmul3 (by omega), nadd1, nadd2, gdt (vp_in_nI (by omega) (by omega)), gdt (vp_in_nI (by omega) (by omega)), gdt (vp_in_nI (by omega) (by omega)), nI_clamp (by omega), nI_clamp (by omega), nI_clamp (by omega), e1, e2, e3, ale, Int64.mul_comm x (d k)]
    by_cases ca : a k = (0 : Int64)
    · rw [brt ca, ale, nadd1]
      exact skip (if_pos ca)
    · rw [brf ca, gdt ca]
      by_cases c1 : lrm (d k * x - b k) (a k) = (0 : Int64)
      · rw [brt c1, gdt ca]
        refine x8_isNum (fun cn => ⟨fun z => absurd z (by decide), fun _ => ?_⟩) (fun cn => ⟨fun _ => ?_, fun z => absurd rfl z⟩)
        · rw [gdt ca, hi26]
          refine x8_restBy (by omega) hm ?_
          refine ⟨fun c2 => ?_, fun c2 => ?_⟩
          · have c2 := (rst_eq (by omega) hm (by omega)).mp c2
            have hb : bfF m a b d x k = some ((d k * x - b k) / a k) := by
              unfold bfF
              rw [if_neg ca, if_pos c1, if_pos (num_of cn), if_pos c2]
            rw [gdt ca, gdt (vp_in_nI (by omega) (by omega)), ale, ale, ale, nI_clamp (by omega), nadd1, nadd1]
            have kT : Kp [] [] [] [36] T (sA T 36 (vp_updL (gA T 36) (l0 ++ cdL (bfF m a b d x) k).length ((d k * x - b k) / a k))) := kp_sA (kp_refl _ _ _ _ T) (by decide)
            have hF2 := fn_add (v := (d k * x - b k) / a k) hF
            rw [List.append_assoc, ← cdL_some hb] at hF2
            have := ih (k + 1) (sA T 36 (vp_updL (gA T 36) (l0 ++ cdL (bfF m a b d x) k).length ((d k * x - b k) / a k))) (by omega) (rul_kp ⟨hm2, hm, g0, g25, hi1, hi26, hf, he⟩ kT (by decide) (by decide)).1 hs (by rw [gA_sA]; exact hF2) (fun U kU hU => hp U (kp_trans kT kU) hU)
            have el : (l0 ++ cdL (bfF m a b d x) (k + 1)).length = (l0 ++ cdL (bfF m a b d x) k).length + 1 := by
              rw [cdL_some hb, ← List.append_assoc, List.length_append]; rfl
            rw [el] at this
            exact this
          · have c2 : ¬ rst ((d k * x - b k) / a k) m = k := fun z => c2 ((rst_eq (by omega) hm (by omega)).mpr z)
            rw [ale, nadd1]
            refine skip ?_
            unfold bfF
            rw [if_neg ca, if_pos c1, if_pos (num_of cn), if_neg c2]
        · rw [ale, nadd1]
          refine skip ?_
          unfold bfF
          rw [if_neg ca, if_pos c1, if_neg (num_no cn)]
      · rw [brf c1, ale, nadd1]
        refine skip ?_
        unfold bfF
        rw [if_neg ca, if_neg c1]
theorem x8_backOf {post : Int32 → SS → Prop} {l0 : List Int64} {n : Nat} {S : SS} (h : RUL S m) (hs : gA S 0 = a ∧ gA S 1 = b ∧ gA S 2 = d) (hn : l0.length = n) (hl0 : n ≤ 1000) (hF : FN (gA S 36) l0) (hp : ∀ U, Kp [] [] [] [36] S U → FN (gA U 36) (l0 ++ cdL (bfF m a b d x) m) → post (nI (l0 ++ cdL (bfF m a b d x) m).length) U) : V_X8_backOf x (nI n) S post := by
  have key := x8_back6 (x := x) (post := post) (a := a) (b := b) (d := d) (l0 := l0) (by omega) m 0 S (by omega) h hs (by rw [show cdL (bfF m a b d x) 0 = [] from rfl, List.append_nil]; exact hF) hp
  rw [show cdL (bfF m a b d x) 0 = [] from rfl, List.append_nil, hn] at key
  exact ⟨m + 1, key⟩
theorem take_id {l : List Int64} (h : l.length ≤ 1000) : l.take 1000 = l := List.take_of_length_le h
theorem x7_back26 {post : Int32 → SS → Prop} : ∀ (j k : Nat) (T : SS), k + j = m → RUL T m → gA T 0 = a ∧ gA T 1 = b ∧ gA T 2 = d → NR T 7 12 (isL (cdL (bfF m a b d x) k)) → (∀ U, Kp [7] [] [] [12] T U → NR U 7 12 (isL (cdL (bfF m a b d x) m)) → post (nI (isL (cdL (bfF m a b d x) m)).length) U) → V_X7_back_26 x post (j + 1) (nI k) T := by
  intro j
  induction j with
  | zero =>
    intro k T hk h hs hF hp
    obtain rfl : k = m := by omega
    rw [V_X7_back_26, x5_measure, h.2.2.2.2.1, brt (nI_le (Nat.le_refl _) (by have := h.2.1; omega)), x2_size, hF.1]
    exact hp T (kp_refl _ _ _ _ T) hF
  | succ j ih =>
    intro k T hk h hs hF hp
    have hkm : k < m := by omega
    have hm := h.2.1
    rw [V_X7_back_26, x5_measure, h.2.2.2.2.1, brf (nI_ge (by omega) (by omega))]
    refine x5_before h hkm (fun hn => ?_) (fun y hy hN => ?_)
    · rw [hs.1, hs.2.1, hs.2.2] at hn
      rw [x7_notN notN_bey, brt rfl, ale, nadd1]
      exact ih (k + 1) T (by omega) h hs (by rw [cdL_none hn]; exact hF) hp
    · rw [hs.1, hs.2.1, hs.2.2] at hy
      rw [x7_isN hN, brf (by decide)]
      have hlen : (isL (cdL (bfF m a b d x) k)).length ≤ 64 := by rw [isL_len]; have := cdL_len (bfF m a b d x) k; omega
      refine x2_sortInL hF (isL_asc _) (by omega) (by omega) (by omega) (fun U kU hU => ?_)
      rw [take_id (by rw [insL_len]; omega), ← isL_snoc, ← cdL_some hy] at hU
      obtain ⟨hR, s1, s2, s3⟩ := rul_kp h kU (by decide) (by decide)
      rw [ale, nadd1]
      exact ih (k + 1) U (by omega) hR ⟨s1.trans hs.1, s2.trans hs.2.1, s3.trans hs.2.2⟩ hU (fun W kW hW => hp W (kp_trans kU kW) hW)
end
theorem rs0_kp {is js bs as : List Nat} {S T : SS} (h : Rs0 (gA S 17) (gA S 18) (gA S 19)) (k : Kp is js bs as S T) (h1 : 17 ∉ as) (h2 : 18 ∉ as) (h3 : 19 ∉ as) : Rs0 (gA T 17) (gA T 18) (gA T 19) := by
  rw [k.2.2.2 17 h1, k.2.2.2 18 h2, k.2.2.2 19 h3]; exact h
/-- what the reference may write in a call that tells a row -/
def qI : List Nat := [20, 28, 30]
def qA : List Nat := [35, 36, 37, 38, 39, 40]
theorem row_end {S U V : SS} {l : List Int64} (h : RR S) (k1 : Kp rI tJ tB rA S U) (hs : Rs0 (gA U 17) (gA U 18) (gA U 19)) (h7 : NR U 7 12 l) (k2 : Kp qI tJ tB qA U V) (h28 : NR V 28 35 l) (hl : l.length ≤ 1000) : RR V :=
  RR_row h (kp_trans k1 (kp_mono k2 (by decide) (by decide) (by decide) (by decide))) (rs0_kp hs k2 (by decide) (by decide) (by decide)) (Rro_of (nr_kp h7 k2 (by decide) (by decide)) h28 hl)
theorem none_end {S U V : SS} (h : RR S) (k1 : Kp tI tJ tB tA S U) (hs : Rs0 (gA U 17) (gA U 18) (gA U 19)) (k2 : Kp [20, 30] tJ tB [36, 37, 38, 39, 40] U V) : RR V :=
  RR_same h (kp_trans k1 (kp_mono k2 (by decide) (by decide) (by decide) (by decide))) (rs0_kp hs k2 (by decide) (by decide) (by decide))
theorem p_back {x : Int64} {S : SS} (h : RR S) : V_X7_back x S (fun r1 S2 => V_X8_back x S2 (fun r3 S4 => (r1 = r3 → RR S4) ∧ (¬ r1 = r3 → False))) := by
  have h25 : gI S 25 = gI S 0 := h.2.1.1
  have hno : ¬ (gI S 0 = 1 ∧ isN x) → V_X8_back x S (fun r3 S4 => ((-1 : Int32) = r3 → RR S4) ∧ (¬ (-1 : Int32) = r3 → False)) := fun c => by
    show V_X8_back _ _ _
    unfold V_X8_back
    rw [ale]
    refine ⟨fun c0 => ?_, fun _ => eqp rfl h⟩
    refine x8_isNum (fun cx => absurd ⟨h25.symm.trans c0, cx⟩ c) (fun _ => ⟨fun _ => eqp rfl h, fun z => absurd rfl z⟩)
  unfold V_X7_back
  refine ⟨fun c => x7_isNum (fun cx => ⟨fun z => absurd z (by decide), fun _ => ?_⟩) (fun cx => ⟨fun _ => hno (fun q => cx q.2), fun z => absurd rfl z⟩), fun c => hno (fun q => c q.1)⟩
  obtain ⟨m, hR⟩ := rul_of h c
  refine x2_emptyL (fun U1 k1 h1 => ?_)
  obtain ⟨hR1, s1, s2, s3⟩ := rul_kp hR k1 (by decide) (by decide)
  refine ⟨m + 1, x7_back26 (a := gA S 0) (b := gA S 1) (d := gA S 2) m 0 U1 (by omega) hR1 ⟨s1, s2, s3⟩ h1 (fun U2 k2 h2 => ?_)⟩
  have k2 := kp_trans k1 k2
  obtain ⟨hR2, t1, t2, t3⟩ := rul_kp hR k2 (by decide) (by decide)
  have kz : Kp rI tJ tB rA S (sI U2 20 0) := kp_sI (kp_mono k2 (by decide) (by decide) (by decide) (by decide)) (by decide)
  have hlen : (cdL (bfF m (gA S 0) (gA S 1) (gA S 2) x) m).length ≤ 64 := by have := cdL_len (bfF m (gA S 0) (gA S 1) (gA S 2) x) m; have := hR.2.1; omega
  show V_X8_back _ _ _
  unfold V_X8_back
  rw [ale, brt (c := gI (sI U2 20 0) 25 = (1 : Int32)) hR2.2.2.2.1, x8_isN cx, brf (by decide)]
  refine x8_backOf (S := sI U2 20 0) (n := 0) (l0 := []) (a := gA S 0) (b := gA S 1) (d := gA S 2) (x := x) (m := m) hR2 ⟨t1, t2, t3⟩ rfl (by omega) (fn_nil _) (fun U3 k3 h3 => ?_)
  rw [List.nil_append] at h3 ⊢
  refine x8_ascendL h3 rfl (by omega) (fun U4 k4 h4 => ?_)
  refine x8_tellsL h4 (isL_len _) (by omega) (fun U5 k5 h5 => ?_)
  rw [take_id (by rw [isL_len]; omega)] at h5
  refine eqp (by rw [isL_len]) ?_
  have kq : Kp qI tJ tB qA U2 U5 := kp_trans (kp_sI (kp_refl _ _ _ _ U2) (by decide)) (kp_trans (kp_mono k3 (by decide) (by decide) (by decide) (by decide)) (kp_trans (kp_mono k4 (by decide) (by decide) (by decide) (by decide)) (kp_mono k5 (by decide) (by decide) (by decide) (by decide))))
  exact row_end h (kp_mono k2 (by decide) (by decide) (by decide) (by decide)) (rs0_kp h.2.2.2.2.2.2 k2 (by decide) (by decide) (by decide)) h2 kq h5 (by rw [isL_len]; omega)
