/-! RUN, STEP -/
def runF (S : SS) : Nat → Int64 → Int64
  | 0, x => x
  | j + 1, x => if -1000000000000000 ≤ x.toInt ∧ x.toInt ≤ 1000000000000000 then runF S j (aft S x) else x
theorem runF_in {S : SS} {j : Nat} {x : Int64} (h : isN x) : runF S (j + 1) x = runF S j (aft S x) := if_pos h
theorem runF_out {S : SS} {j : Nat} {x : Int64} (h : ¬ isN x) : runF S j x = x := by
  cases j with
  | zero => rfl
  | succ j => exact if_neg h
theorem notN_end : ¬ isN 2000000000000000 := fun h => absurd h.2 (by decide)
theorem notN_bey : ¬ isN 3000000000000000 := fun h => absurd h.2 (by decide)
theorem runF_cases {S : SS} (hK : RK S) (h0 : ¬ gI S 0 = 0) : ∀ (j : Nat) (x : Int64), isN x → runF S j x = 2000000000000000 ∨ runF S j x = 3000000000000000 ∨ isN (runF S j x) := by
  intro j
  induction j with
  | zero => intro x h; exact Or.inr (Or.inr h)
  | succ j ih =>
    intro x h
    rw [runF_in h]
    rcases aft_cases (x := x) hK h0 with e | e | e
    · rw [e, runF_out notN_end]; exact Or.inl rfl
    · rw [e, runF_out notN_bey]; exact Or.inr (Or.inl rfl)
    · exact ih _ e
section
variable {S : SS} {k : Nat}
theorem x7_run12 {post : Int64 → SS → Prop} {px : String → SS → Prop} (hK : RK S) (h0 : ¬ gI S 0 = 0) (hk : k ≤ 100000) : ∀ (j i : Nat) (x : Int64), i + j = k → (runF S j x = 2000000000000000 → px "java/util/NoSuchElementException" S) → (runF S j x = 3000000000000000 → px "java/lang/ArithmeticException" S) → (¬ runF S j x = 2000000000000000 → ¬ runF S j x = 3000000000000000 → post (runF S j x) S) → V_X7_run_12 (nI k) post px (j + 1) x (nI i) S := by
  intro j
  induction j with
  | zero =>
    intro i x hi he hb hp
    obtain rfl : i = k := by omega
    rw [V_X7_run_12, brt (nI_le (Nat.le_refl _) (by omega))]
    exact ⟨he, fun c => ⟨hb, hp c⟩⟩
  | succ j ih =>
    intro i x hi he hb hp
    rw [V_X7_run_12, brf (nI_ge (by omega) (by omega))]
    by_cases c : -1000000000000000 ≤ x.toInt ∧ x.toInt ≤ 1000000000000000
    · rw [x7_isN c, brf (by decide)]
      rw [runF_in c] at he hb hp
      refine x7_after hK h0 ?_
      rw [ale, ← nI_succ]
      exact ih (i + 1) _ (by omega) he hb hp
    · rw [x7_notN c, brt rfl]
      rw [runF_out c] at he hb hp
      exact ⟨he, fun c => ⟨hb, hp c⟩⟩
theorem x8_run57 {post : Int64 → SS → Prop} (hK : RK S) (h0 : ¬ gI S 0 = 0) (hk : k ≤ 100000) : ∀ (j i : Nat) (x : Int64), i + j = k → isN x → (runF S j x = 2000000000000000 → ∀ z, post 0 (sI (sJ S 0 z) 20 3)) → (runF S j x = 3000000000000000 → ∀ z, post 0 (sI (sJ S 0 z) 20 4)) → (isN (runF S j x) → post (runF S j x) (sJ S 0 (runF S j x))) → V_X8_run_57 (nI k) post (j + 1) (nI i) (sJ S 0 x) := by
  intro j
  induction j with
  | zero =>
    intro i x hi hx he hb hp
    obtain rfl : i = k := by omega
    rw [V_X8_run_57, brt (nI_le (Nat.le_refl _) (by omega)), gJ_sJ]
    exact hp hx
  | succ j ih =>
    intro i x hi hx he hb hp
    rw [V_X8_run_57, brf (nI_ge (by omega) (by omega)), gJ_sJ]
    rw [runF_in hx] at he hb hp
    have ha : aft (sJ S 0 x) x = aft S x := rfl
    refine x8_goes (S := sJ S 0 x) hK h0 (fun e => ?_) (fun e z => ?_) (fun e => ?_)
    · rw [ha] at e
      rw [e, runF_out notN_end] at he
      refine ⟨fun q => absurd q (by decide), fun _ => ⟨fun _ => ?_, fun q => absurd rfl q⟩⟩
      rw [x8_refuse]
      exact he rfl x
    · rw [ha] at e
      rw [e, runF_out notN_bey] at hb
      rw [sJ_sJ]
      refine ⟨fun q => absurd q (by decide), fun _ => ⟨fun q => absurd q (by decide), fun _ => ?_⟩⟩
      rw [x8_refuse]
      exact hb rfl z
    · rw [ha] at e
      rw [ha, sJ_sJ]
      refine ⟨fun _ => ?_, fun q => absurd rfl q⟩
      rw [ale, ← nI_succ]
      exact ih (i + 1) _ (by omega) e he hb hp
end
theorem x7_steps {p : Int32} {S : SS} {post : Int32 → SS → Prop} (h1 : 0 ≤ p.toInt ∧ p.toInt ≤ 100000 → post 1 S) (h0 : ¬ (0 ≤ p.toInt ∧ p.toInt ≤ 100000) → post 0 S) : V_X7_isStepCount p S post := by
  unfold V_X7_isStepCount
  refine ⟨fun c => h0 ?_, fun c => ⟨fun c2 => h0 ?_, fun c2 => h1 ?_⟩⟩
  · have d : p.toInt < 0 := lt32.mp c
    omega
  · have d : 100000 < p.toInt := lt32.mp c2
    omega
  · have d : ¬ p.toInt < 0 := fun q => c (lt32.mpr q)
    have d2 : ¬ (100000 : Int) < p.toInt := fun q => c2 (lt32.mpr q)
    omega
theorem x7_isNum {v : Int64} {T : SS} {post : Int32 → SS → Prop} (h1 : isN v → post 1 T) (h0 : ¬ isN v → post 0 T) : V_X7_isNumber v T post := by
  by_cases c : -1000000000000000 ≤ v.toInt ∧ v.toInt ≤ 1000000000000000
  · rw [x7_isN c]; exact h1 c
  · rw [x7_notN c]; exact h0 c
theorem x7_wrong {x : Int64} {p : Int32} {S : SS} {post : SS → Prop} {px : String → SS → Prop} (h1 : ¬ (0 ≤ p.toInt ∧ p.toInt ≤ 100000) → px "java/lang/IllegalArgumentException" S) (h2 : (0 ≤ p.toInt ∧ p.toInt ≤ 100000) → gI S 0 = 0 → px "java/lang/IllegalStateException" S) (h3 : (0 ≤ p.toInt ∧ p.toInt ≤ 100000) → ¬ gI S 0 = 0 → ¬ isN x → px "java/lang/ArithmeticException" S) (h4 : (0 ≤ p.toInt ∧ p.toInt ≤ 100000) → ¬ gI S 0 = 0 → isN x → post S) : V_X7_refuseWrongStart x p S post px := by
  unfold V_X7_refuseWrongStart
  refine x7_steps (fun c => ⟨fun z => absurd z (by decide), fun _ => ⟨fun c0 => h2 c c0, fun c0 => ?_⟩⟩) (fun c => ⟨fun _ => h1 c, fun z => absurd rfl z⟩)
  exact x7_isNum (fun cx => ⟨fun z => absurd z (by decide), fun _ => h4 c c0 cx⟩) (fun cx => ⟨fun _ => h3 c c0 cx, fun z => absurd rfl z⟩)
theorem p_run {x : Int64} {p : Int32} {S : SS} (h : RR S) : V_L_run x p S (fun r1 S2 => V_X8_run x p S2 (endT r1)) := by
  have hK : RK S := h.2.1
  have g25 : gI (sI S 20 0) 25 = gI S 0 := h.2.1.1
  unfold V_L_run V_X7_run
  refine x7_wrong (fun c => ?_) (fun c c0 => ?_) (fun c c0 cx => ?_) (fun c c0 cx => ?_)
  · refine Or.inl ⟨rfl, ?_⟩
    show V_X8_run _ _ _ _
    unfold V_X8_run
    rw [ale, x8_out (by rw [i64_toInt]; exact c), brt rfl, x8_refuse]
    exact thp rfl (fun z => absurd z (by decide)) h
  · refine Or.inr (Or.inl ⟨rfl, ?_⟩)
    show V_X8_run _ _ _ _
    unfold V_X8_run
    rw [ale, x8_in (by rw [i64_toInt]; exact c.1) (by rw [i64_toInt]; exact c.2), brf (by decide), brt (g25.trans c0), x8_refuse]
    exact thp rfl (fun z => absurd z (by decide)) h
  · refine Or.inr (Or.inr (Or.inr ⟨rfl, ?_⟩))
    show V_X8_run _ _ _ _
    unfold V_X8_run
    rw [ale, x8_in (by rw [i64_toInt]; exact c.1) (by rw [i64_toInt]; exact c.2), brf (by decide), brf (fun z => c0 (g25.symm.trans z)), x8_notN cx, brt rfl, x8_refuse]
    exact thp rfl (fun z => absurd z (by decide)) h
  · obtain ⟨k, rfl, -, hk⟩ := nat32 (p := p) 0 100000 c.1 c.2 (by omega)
    have hx8 : ∀ (T : SS) (post : Int64 → SS → Prop), RK T → gI T 0 = gI S 0 → gI T 25 = gI S 0 → (∃ j, V_X8_run_57 (nI k) post j 0 (sJ (sI T 20 0) 0 x)) → V_X8_run x (nI k) T post := fun T post _ e0 e25 hh => by
      unfold V_X8_run
      rw [ale, x8_in (by rw [i64_toInt]; exact c.1) (by rw [i64_toInt]; exact c.2), brf (by decide), brf (c := gI (sI T 20 0) 25 = 0) (fun z => c0 (e25.symm.trans z)), x8_isN cx, brf (by decide), ale]
      exact hh
    have hxx : ∀ (T : SS) (post : Int64 → SS → Prop), RK T → gI T 0 = gI S 0 → gI T 25 = gI S 0 → aft T = aft S → (runF S k x = 2000000000000000 → ∀ z, post 0 (sI (sJ (sI T 20 0) 0 z) 20 3)) → (runF S k x = 3000000000000000 → ∀ z, post 0 (sI (sJ (sI T 20 0) 0 z) 20 4)) → (isN (runF S k x) → post (runF S k x) (sJ (sI T 20 0) 0 (runF S k x))) → V_X8_run x (nI k) T post := fun T post hT e0 e25 ea he hb hp => by
      refine hx8 T post hT e0 e25 ⟨k + 1, ?_⟩
      have er : ∀ j y, runF (sI T 20 0) j y = runF S j y := by
        intro j
        induction j with
        | zero => intro y; rfl
        | succ j ih =>
          intro y
          show (if _ then runF (sI T 20 0) j (aft T y) else y) = (if _ then runF S j (aft S y) else y)
          rw [ih, ea]
      exact x8_run57 (S := sI T 20 0) (k := k) hT (fun z => c0 (e0.symm.trans z)) hk k 0 x (by omega) cx (by rw [er]; exact he) (by rw [er]; exact hb) (by rw [er]; exact hp)
    refine ⟨k + 1, x7_run12 hK c0 hk k 0 x (by omega) (fun e => ?_) (fun e => ?_) (fun e e2 => ?_)⟩
    · refine Or.inr (Or.inr (Or.inl ⟨rfl, hxx S _ hK rfl h.2.1.1 rfl (fun _ z => thp rfl (fun z => absurd z (by decide)) h) (fun q => ?_) (fun q => ?_)⟩))
      · rw [e] at q; exact absurd q (by decide)
      · rw [e] at q; exact absurd q notN_end
    · refine Or.inr (Or.inr (Or.inr ⟨rfl, hxx S _ hK rfl h.2.1.1 rfl (fun q => ?_) (fun _ z => thp rfl (fun z => absurd z (by decide)) h) (fun q => ?_)⟩))
      · rw [e] at q; exact absurd q (by decide)
      · rw [e] at q; exact absurd q notN_bey
    · refine ⟨by unfold vp_in; decide, ?_⟩
      rw [ale]
      exact hxx (sA S 41 (vp_updL (gA S 41) (0 : Int32).toNatClampNeg (runF S k x))) _ hK rfl h.2.1.1 rfl (fun q => absurd q e) (fun q => absurd q e2) (fun _ => thp rfl (fun _ => rfl) h)
