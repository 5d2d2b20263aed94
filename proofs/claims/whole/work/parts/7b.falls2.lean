/-! FALLS to its end -/
theorem fkF_vals (m : Nat) (a b d : Nat → Int64) (c g : Int64) : ∀ (j i : Nat), fkF m a b d c g j i = 0 ∨ fkF m a b d c g j i = 1 ∨ fkF m a b d c g j i = -3 ∨ fkF m a b d c g j i = -4 := by
  intro j
  induction j with
  | zero =>
    intro i
    unfold fkF
    by_cases q : (shT a b d (woF m a b d c) i).2.2 ≤ (shT a b d (woF m a b d c) i).1
    · rw [if_pos q]; exact Or.inl rfl
    · rw [if_neg q]; exact Or.inr (Or.inl rfl)
  | succ j ih =>
    intro i
    unfold fkF
    by_cases q : lrm (gpF m a b d c g i) (lN m) = 0
    · rw [if_pos q]
      by_cases q2 : okB (shT a b d (woF m a b d c) (i + 1)) = true ∧ nB (loF m a b d c (i + 1)) = true ∧ nB (gpF m a b d c g (i + 1)) = true
      · rw [if_pos q2]; exact ih (i + 1)
      · rw [if_neg q2]; exact Or.inr (Or.inr (Or.inr rfl))
    · rw [if_neg q]; exact Or.inr (Or.inr (Or.inl rfl))
/-- the classes from c on, cnt fell so far -/
def flF (m : Nat) (a b d : Nat → Int64) (M k : Nat) : Nat → Nat → Nat → Int32
  | 0, _, cnt => nI cnt
  | j + 1, c, cnt => if fkF m a b d (lN c) (lN M) k 0 = 0 then flF m a b d M k j (c + 1) cnt else if fkF m a b d (lN c) (lN M) k 0 = 1 then flF m a b d M k j (c + 1) (cnt + 1) else fkF m a b d (lN c) (lN M) k 0
section
variable {m k M : Nat} {a b d : Nat → Int64}
theorem x7_falls48 {post : Int32 → SS → Prop} (hk : k ≤ 12) (hM : M ≤ 20000) : ∀ (j c cnt : Nat) (T : SS), c + j = M → cnt ≤ c → RUL T m → gA T 0 = a ∧ gA T 1 = b ∧ gA T 2 = d → Rs0 (gA T 17) (gA T 18) (gA T 19) → (∀ U, Fx T U → post (flF m a b d M k j c cnt) U) → V_X7_falls_48 (nI k) (nI M) post (j + 1) (nI cnt) (nI c) T := by
  intro j
  induction j with
  | zero =>
    intro c cnt T hc hn h hs hs0 hp
    obtain rfl : c = M := by omega
    rw [V_X7_falls_48, brt (nI_le (Nat.le_refl _) (by omega))]
    exact hp T (fx_refl T)
  | succ j ih =>
    intro c cnt T hc hn h hs hs0 hp
    rw [V_X7_falls_48, brf (nI_ge (by omega) (by omega))]
    unfold V_X7_fallOfClass
    rw [nI_i64 (by omega), nI_i64 (by omega)]
    refine ⟨k + 1, x7_fc11 (c := lN c) (g := lN M) hk k 0 T (by omega) h hs (isN_lN (by omega)) (isN_lN (by omega)) (fun t ht => ?_) (fun U fU => ?_)⟩
    · obtain rfl : t = 0 := by omega
      exact sh_0 hs0
    · obtain ⟨hR, s1, s2, s3⟩ := rul_kp h fU.1 (by decide) (by decide)
      have sU : gA U 0 = a ∧ gA U 1 = b ∧ gA U 2 = d := ⟨s1.trans hs.1, s2.trans hs.2.1, s3.trans hs.2.2⟩
      have rU := fx_rs fU hs0
      have ef : flF m a b d M k (j + 1) c cnt = if fkF m a b d (lN c) (lN M) k 0 = 0 then flF m a b d M k j (c + 1) cnt else if fkF m a b d (lN c) (lN M) k 0 = 1 then flF m a b d M k j (c + 1) (cnt + 1) else fkF m a b d (lN c) (lN M) k 0 := rfl
      rw [ef] at hp
      rcases fkF_vals m a b d (lN c) (lN M) k 0 with e | e | e | e
      · rw [e, if_pos rfl] at hp
        rw [e]
        refine ⟨fun _ => ?_, fun z => absurd (by decide) z⟩
        rw [ale, ale, nadd1, show (0 : Int32) = nI 0 from rfl, nadd (by omega)]
        exact ih (c + 1) (cnt + 0) U (by omega) (by omega) hR sU rU (fun V fV => hp V (fx_trans fU fV))
      · rw [e, if_neg (by decide), if_pos rfl] at hp
        rw [e]
        refine ⟨fun _ => ?_, fun z => absurd (by decide) z⟩
        rw [ale, ale, nadd1, nadd1]
        exact ih (c + 1) (cnt + 1) U (by omega) (by omega) hR sU rU (fun V fV => hp V (fx_trans fU fV))
      · rw [e, if_neg (by decide), if_neg (by decide)] at hp
        rw [e]
        exact ⟨fun z => absurd z (by decide), fun _ => hp U fU⟩
      · rw [e, if_neg (by decide), if_neg (by decide)] at hp
        rw [e]
        exact ⟨fun z => absurd z (by decide), fun _ => hp U fU⟩
theorem x8_falls48 {post : Int32 → SS → Prop} (hk : k ≤ 12) (hk1 : 1 ≤ k) (hM : M ≤ 20000) : ∀ (j c cnt : Nat) (T : SS), c + j = M → cnt ≤ c → RUL T m → gA T 0 = a ∧ gA T 1 = b ∧ gA T 2 = d → (∀ U, Kp [] [1, 2, 3] [1] [] T U → post (flF m a b d M k j c cnt) U) → V_X8_falls_48 (nI k) (nI M) post (j + 1) (nI cnt) (nI c) T := by
  intro j
  induction j with
  | zero =>
    intro c cnt T hc hn h hs hp
    obtain rfl : c = M := by omega
    rw [V_X8_falls_48, brt (nI_le (Nat.le_refl _) (by omega))]
    exact hp T (kp_refl _ _ _ _ T)
  | succ j ih =>
    intro c cnt T hc hn h hs hp
    rw [V_X8_falls_48, brf (nI_ge (by omega) (by omega))]
    unfold V_X8_takesOne
    rw [nI_i64 (by omega), nI_i64 (by omega)]
    have ef : flF m a b d M k (j + 1) c cnt = if fkF m a b d (lN c) (lN M) k 0 = 0 then flF m a b d M k j (c + 1) cnt else if fkF m a b d (lN c) (lN M) k 0 = 1 then flF m a b d M k j (c + 1) (cnt + 1) else fkF m a b d (lN c) (lN M) k 0 := rfl
    rw [ef] at hp
    refine ⟨k + 1, x8_to11 (c := lN c) (g := lN M) hk hk1 k 0 T (by omega) h hs (isN_lN (by omega)) (isN_lN (by omega)) (fun t ht => by omega) (fun z => absurd z (by omega)) (fun t ht => ?_) (fun U kU => ?_)⟩
    · obtain rfl : t = 0 := by omega
      show okT (1, 0, 1)
      unfold okT
      decide
    · obtain ⟨hR, s1, s2, s3⟩ := rul_kp h kU (by decide) (by decide)
      have sU : gA U 0 = a ∧ gA U 1 = b ∧ gA U 2 = d := ⟨s1.trans hs.1, s2.trans hs.2.1, s3.trans hs.2.2⟩
      refine ⟨fun e c1 => ?_, fun e c1 => ?_, fun e => ?_, fun e => ?_⟩
      · rw [e, if_pos rfl] at hp
        refine ⟨fun _ => ?_, fun z => absurd rfl z⟩
        rw [brt c1, ale, ale, nadd1, show (0 : Int32) = nI 0 from rfl, nadd (by omega)]
        exact ih (c + 1) (cnt + 0) U (by omega) (by omega) hR sU (fun V kV => hp V (kp_trans kU kV))
      · rw [e, if_neg (by decide), if_pos rfl] at hp
        refine ⟨fun _ => ?_, fun z => absurd rfl z⟩
        rw [brf c1, ale, ale, nadd1, nadd1]
        exact ih (c + 1) (cnt + 1) U (by omega) (by omega) hR sU (fun V kV => hp V (kp_trans kU kV))
      · rw [e, if_neg (by decide), if_neg (by decide)] at hp
        exact ⟨fun z => absurd z (by decide), fun _ => hp U kU⟩
      · rw [e, if_neg (by decide), if_neg (by decide)] at hp
        exact ⟨fun z => absurd z (by decide), fun _ => hp U kU⟩
end
theorem p_falls {p : Int32} {S : SS} (h : RR S) : V_X7_falls p S (fun r1 S2 => V_X8_falls p S2 (fun r3 S4 => (r1 = r3 → RR S4) ∧ (¬ r1 = r3 → False))) := by
  have h25 : gI S 25 = gI S 0 := h.2.1.1
  have hs0 := h.2.2.2.2.2.2
  have hno : ¬ (gI S 0 = 1 ∧ (1 ≤ p.toInt ∧ p.toInt ≤ 12)) → V_X8_falls p S (fun r3 S4 => ((-1 : Int32) = r3 → RR S4) ∧ (¬ (-1 : Int32) = r3 → False)) := fun c => by
    show V_X8_falls _ _ _
    unfold V_X8_falls
    rw [ale]
    refine ⟨fun c0 => ?_, fun _ => eqp rfl h⟩
    exact in32 (a := 1) (b := 12) rfl rfl (fun cp => absurd ⟨h25.symm.trans c0, cp⟩ c) (fun _ => ⟨fun _ => eqp rfl h, fun z => absurd rfl z⟩)
  unfold V_X7_falls
  refine ⟨fun c => ⟨fun c1 => hno (fun q => ?_), fun c1 => ⟨fun c2 => ?_, fun c2 => hno (fun q => ?_)⟩⟩, fun c => hno (fun q => c q.1)⟩
  · have d : p.toInt < 1 := lt32.mp c1
    have := q.2.1
    omega
  · have d1 : ¬ p.toInt < 1 := fun z => c1 (lt32.mpr z)
    have d2 : p.toInt ≤ 12 := le32.mp c2
    obtain ⟨k, rfl, hk1, hk⟩ := nat32 (p := p) 1 12 (by omega) d2 (by omega)
    obtain ⟨m, hR⟩ := rul_of h c
    have hm2 := hR.1
    have hm := hR.2.1
    rw [x5_measure, hR.2.2.2.2.1]
    have ref : ∀ (U : SS) (post : Int32 → SS → Prop), Fx S U → (m ^ k ≤ 20000 → ∀ W, Kp [20] [1, 2, 3] [1] [] U W → post (flF m (gA S 0) (gA S 1) (gA S 2) (m ^ k) k (m ^ k) 0 0) W) → (¬ m ^ k ≤ 20000 → ∀ W, Kp [20] [1, 2, 3] [1] [] U W → post (-2) W) → V_X8_falls (nI k) U post := fun U post fU g1 g0 => by
      have kW : Kp [20] [1, 2, 3] [1] [] U (sI U 20 0) := kp_sI (kp_refl _ _ _ _ U) (by decide)
      have kS : Kp [20] [1, 2, 3] [1] [17, 18, 19] S (sI U 20 0) := kp_trans (kp_mono fU.1 (by decide) (by decide) (by decide) (by decide)) (kp_mono kW (by decide) (by decide) (by decide) (by decide))
      obtain ⟨hRU, t1, t2, t3⟩ := rul_kp hR kS (by decide) (by decide)
      show V_X8_falls _ _ _
      unfold V_X8_falls
      rw [ale, brt (c := gI (sI U 20 0) 25 = (1 : Int32)) hRU.2.2.2.1]
      refine in32 (a := 1) (b := 12) rfl rfl (fun _ => ⟨fun z => absurd z (by decide), fun _ => ?_⟩) (fun z => absurd ⟨by show (1 : Int) ≤ _; rw [nI_toInt (by omega)]; omega, by show _ ≤ (12 : Int); rw [nI_toInt (by omega)]; omega⟩ z)
      refine x8_power hRU.2.2.2.2.2.1 hm2 hm hk (fun q => ⟨fun _ => ?_, fun z => absurd (nI_le (b := 20000) q (by omega)) z⟩) (fun q => ⟨fun z => absurd z (by decide), fun _ => g0 q _ kW⟩)
      exact ⟨m ^ k + 1, x8_falls48 hk hk1 q (m ^ k) 0 0 (sI U 20 0) (by omega) (by omega) hRU ⟨t1, t2, t3⟩ (fun W k2 => g1 q W (kp_trans kW (kp_mono k2 (by decide) (by decide) (by decide) (by decide))))⟩
    have fin : ∀ U W, Fx S U → Kp [20] [1, 2, 3] [1] [] U W → RR W := fun U W fU kW => none_end h (kp_mono fU.1 (by decide) (by decide) (by decide) (by decide)) (fx_rs fU hs0) (kp_mono kW (by decide) (by decide) (by decide) (by decide))
    refine x7_power hm2 hm hk (fun q => ⟨fun _ => ?_, fun z => absurd (nI_le (b := 20000) q (by omega)) z⟩) (fun q v hv hv2 => ⟨fun z => ?_, fun _ => ?_⟩)
    · refine ⟨m ^ k + 1, x7_falls48 hk q (m ^ k) 0 0 S (by omega) (by omega) hR ⟨rfl, rfl, rfl⟩ hs0 (fun U fU => ?_)⟩
      exact ref U _ fU (fun _ W kW => eqp rfl (fin U W fU kW)) (fun z => absurd q z)
    · have := (nI_leI (b := 20000) (by omega) (by omega)).mp z
      omega
    · exact ref S _ (fx_refl S) (fun z => absurd z q) (fun _ W kW => eqp rfl (fin S W (fx_refl S) kW))
  · have d2 : ¬ p.toInt ≤ 12 := fun z => c2 (le32.mpr z)
    exact d2 q.2.2
