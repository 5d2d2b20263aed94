/-! PEAK -/
def pkF (S : SS) : Nat → Int64 → Int64 → Int64
  | 0, best, _ => best
  | j + 1, best, y => if -1000000000000000 ≤ (aft S y).toInt ∧ (aft S y).toInt ≤ 1000000000000000 then pkF S j (mxL best (aft S y)) (aft S y) else best
theorem pkF_in {S : SS} {j : Nat} {b y : Int64} (h : isN (aft S y)) : pkF S (j + 1) b y = pkF S j (mxL b (aft S y)) (aft S y) := if_pos h
theorem pkF_out {S : SS} {j : Nat} {b y : Int64} (h : ¬ isN (aft S y)) : pkF S (j + 1) b y = b := if_neg h
section
variable {S : SS} {k : Nat} {post : Int64 → SS → Prop}
theorem x7_peak15 {px : String → SS → Prop} (hK : RK S) (h0 : ¬ gI S 0 = 0) (hk : k ≤ 100000) : ∀ (j i : Nat) (b y : Int64), i + j = k → post (pkF S j b y) S → V_X7_peak_15 (nI k) post px (j + 1) b y (nI i) S := by
  intro j
  induction j with
  | zero =>
    intro i b y hi hp
    obtain rfl : i = k := by omega
    rw [V_X7_peak_15, brt (nI_le (Nat.le_refl _) (by omega))]
    exact hp
  | succ j ih =>
    intro i b y hi hp
    rw [V_X7_peak_15, brf (nI_ge (by omega) (by omega))]
    refine x7_after hK h0 (x7_isNum (fun c => ⟨fun z => absurd z (by decide), fun _ => ?_⟩) (fun c => ⟨fun _ => ?_, fun z => absurd rfl z⟩))
    · rw [pkF_in c] at hp
      rw [ale, ale, ← nI_succ]
      exact ih (i + 1) _ _ (by omega) hp
    · rw [pkF_out c] at hp; exact hp
theorem x8_peak60 (hK : RK S) (h0 : ¬ gI S 0 = 0) (hk : k ≤ 100000) : ∀ (j i : Nat) (b y : Int64), i + j = k → (∀ z, post (pkF S j b y) (sJ S 0 z)) → V_X8_peak_60 (nI k) post (j + 1) b (nI i) (sJ S 0 y) := by
  intro j
  induction j with
  | zero =>
    intro i b y hi hp
    obtain rfl : i = k := by omega
    rw [V_X8_peak_60, brt (nI_le (Nat.le_refl _) (by omega))]
    exact hp y
  | succ j ih =>
    intro i b y hi hp
    rw [V_X8_peak_60, brf (nI_ge (by omega) (by omega)), gJ_sJ]
    have ha : aft (sJ S 0 y) y = aft S y := rfl
    refine x8_goes (S := sJ S 0 y) hK h0 (fun q => ?_) (fun q z => ?_) (fun q => ?_)
    · refine ⟨fun z => absurd z (by decide), fun _ => ?_⟩
      have := hp y
      rw [pkF_out (fun w => notN_end (by rw [← q]; exact w))] at this
      exact this
    · refine ⟨fun z => absurd z (by decide), fun _ => ?_⟩
      have := hp z
      rw [pkF_out (fun w => notN_bey (by rw [← q]; exact w))] at this
      rw [sJ_sJ]
      exact this
    · refine ⟨fun _ => ?_, fun z => absurd rfl z⟩
      rw [ale, ale, gJ_sJ, ← nI_succ, sJ_sJ, ha]
      refine ih (i + 1) _ _ (by omega) (fun z => ?_)
      have := hp z
      rw [pkF_in (S := S) (y := y) q] at this
      exact this
end
theorem pkF_st {S T : SS} (ea : aft T = aft S) : ∀ (j : Nat) (b y : Int64), pkF T j b y = pkF S j b y := by
  intro j
  induction j with
  | zero => intro b y; rfl
  | succ j ih =>
    intro b y
    show (if _ then pkF T j (mxL b (aft T y)) (aft T y) else b) = (if _ then pkF S j (mxL b (aft S y)) (aft S y) else b)
    rw [ih, ea]
theorem p_peak {x : Int64} {p : Int32} {S : SS} (h : RR S) : V_L_peak x p S (fun r1 S2 => V_X8_peak x p S2 (endT r1)) := by
  have hK : RK S := h.2.1
  have g25 : gI (sI S 20 0) 25 = gI S 0 := h.2.1.1
  unfold V_L_peak V_X7_peak
  refine x7_wrong (fun c => ?_) (fun c c0 => ?_) (fun c c0 cx => ?_) (fun c c0 cx => ?_)
  · refine Or.inl ⟨rfl, ?_⟩
    show V_X8_peak _ _ _ _
    unfold V_X8_peak
    rw [ale, x8_out (by rw [i64_toInt]; exact c), brt rfl, x8_refuse]
    exact thp rfl (fun z => absurd z (by decide)) h
  · refine Or.inr (Or.inl ⟨rfl, ?_⟩)
    show V_X8_peak _ _ _ _
    unfold V_X8_peak
    rw [ale, x8_in (by rw [i64_toInt]; exact c.1) (by rw [i64_toInt]; exact c.2), brf (by decide), brt (g25.trans c0), x8_refuse]
    exact thp rfl (fun z => absurd z (by decide)) h
  · refine Or.inr (Or.inr ⟨rfl, ?_⟩)
    show V_X8_peak _ _ _ _
    unfold V_X8_peak
    rw [ale, x8_in (by rw [i64_toInt]; exact c.1) (by rw [i64_toInt]; exact c.2), brf (by decide), brf (fun z => c0 (g25.symm.trans z)), x8_notN cx, brt rfl, x8_refuse]
    exact thp rfl (fun z => absurd z (by decide)) h
  · obtain ⟨k, rfl, -, hk⟩ := nat32 (p := p) 0 100000 c.1 c.2 (by omega)
    refine ⟨k + 1, x7_peak15 hK c0 hk k 0 x x (by omega) ⟨by unfold vp_in; decide, ?_⟩⟩
    rw [ale]
    show V_X8_peak _ _ _ _
    unfold V_X8_peak
    have e25 : gI (sI (sA S 41 (vp_updL (gA S 41) (0 : Int32).toNatClampNeg (pkF S k x x))) 20 0) 25 = gI S 0 := g25
    rw [ale, x8_in (by rw [i64_toInt]; exact c.1) (by rw [i64_toInt]; exact c.2), brf (by decide), brf (fun z => c0 (e25.symm.trans z)), x8_isN cx, brf (by decide), ale]
    refine ⟨k + 1, x8_peak60 (S := sI (sA S 41 (vp_updL (gA S 41) (0 : Int32).toNatClampNeg (pkF S k x x))) 20 0) (k := k) hK c0 hk k 0 x x (by omega) (fun z => ?_)⟩
    exact thp rfl (fun _ => (pkF_st (S := S) (T := sI (sA S 41 (vp_updL (gA S 41) (0 : Int32).toNatClampNeg (pkF S k x x))) 20 0) rfl k x x).symm) h
