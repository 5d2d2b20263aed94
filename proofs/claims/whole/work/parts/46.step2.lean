/-! STEP to its end -/
theorem p_step {x : Int64} {S : SS} (h : RR S) : V_L_step x S (fun r1 S2 => V_X8_step x S2 (endT r1)) := by
  have hK : RK S := h.2.1
  have g25 : gI (sI S 20 0) 25 = gI S 0 := h.2.1.1
  unfold V_L_step V_X7_step V_X7_run
  have c1 : 0 ≤ (1 : Int32).toInt ∧ (1 : Int32).toInt ≤ 100000 := by decide
  refine x7_wrong (fun c => absurd c1 c) (fun c c0 => ?_) (fun c c0 cx => ?_) (fun c c0 cx => ?_)
  · refine Or.inl ⟨rfl, ?_⟩
    show V_X8_step _ _ _
    unfold V_X8_step
    rw [ale, brt (g25.trans c0), x8_refuse]
    exact thp rfl (fun z => absurd z (by decide)) h
  · refine Or.inr (Or.inr ⟨rfl, ?_⟩)
    show V_X8_step _ _ _
    unfold V_X8_step
    rw [ale, brf (fun z => c0 (g25.symm.trans z)), x8_notN cx, brt rfl, x8_refuse]
    exact thp rfl (fun z => absurd z (by decide)) h
  · have hxx : ∀ (T : SS) (post : Int64 → SS → Prop), RK T → gI T 0 = gI S 0 → gI T 25 = gI S 0 → aft T = aft S → (aft S x = 2000000000000000 → post 0 (sI (sI T 20 0) 20 2)) → (aft S x = 3000000000000000 → ∀ z, post 0 (sI (sJ (sI T 20 0) 0 z) 20 3)) → (isN (aft S x) → post (aft S x) (sJ (sI T 20 0) 0 (aft S x))) → V_X8_step x T post := fun T post hT e0 e25 ea he hb hp => by
      unfold V_X8_step
      rw [ale, brf (c := gI (sI T 20 0) 25 = 0) (fun z => c0 (e25.symm.trans z)), x8_isN cx, brf (by decide)]
      have ha : aft (sI T 20 0) x = aft S x := by show aft T x = aft S x; rw [ea]
      refine x8_goes (S := sI T 20 0) hT (fun z => c0 (e0.symm.trans z)) (fun e => ?_) (fun e z => ?_) (fun e => ?_)
      · rw [ha] at e
        refine ⟨fun q => absurd q (by decide), fun _ => ⟨fun _ => ?_, fun q => absurd rfl q⟩⟩
        rw [x8_refuse]
        exact he e
      · rw [ha] at e
        refine ⟨fun q => absurd q (by decide), fun _ => ⟨fun q => absurd q (by decide), fun _ => ?_⟩⟩
        rw [x8_refuse]
        exact hb e z
      · rw [ha] at e ⊢
        refine ⟨fun _ => ?_, fun q => absurd rfl q⟩
        rw [gJ_sJ]
        exact hp e
    have er : runF S 1 x = aft S x := by rw [runF_in cx]; rfl
    refine ⟨2, x7_run12 (k := 1) hK c0 (by omega) 1 0 x (by omega) (fun e => ?_) (fun e => ?_) (fun e e2 => ?_)⟩
    · rw [er] at e
      refine Or.inr (Or.inl ⟨rfl, hxx S _ hK rfl h.2.1.1 rfl (fun _ => thp rfl (fun z => absurd z (by decide)) h) (fun q => ?_) (fun q => ?_)⟩)
      · rw [e] at q; exact absurd q (by decide)
      · rw [e] at q; exact absurd q notN_end
    · rw [er] at e
      refine Or.inr (Or.inr ⟨rfl, hxx S _ hK rfl h.2.1.1 rfl (fun q => ?_) (fun _ z => thp rfl (fun z => absurd z (by decide)) h) (fun q => ?_)⟩)
      · rw [e] at q; exact absurd q (by decide)
      · rw [e] at q; exact absurd q notN_bey
    · rw [er] at e e2
      rw [er]
      refine ⟨by unfold vp_in; decide, ?_⟩
      rw [ale]
      exact hxx (sA S 41 (vp_updL (gA S 41) (0 : Int32).toNatClampNeg (aft S x))) _ hK rfl h.2.1.1 rfl (fun q => absurd q e) (fun q => absurd q e2) (fun _ => thp rfl (fun _ => rfl) h)
