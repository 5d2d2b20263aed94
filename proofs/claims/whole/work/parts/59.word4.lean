/-! WORD to its end -/
theorem wsF_st {S T : SS} (ea : aft T = aft S) (x : Int64) : ∀ i, wsF T x i = wsF S x i := by
  intro i
  induction i with
  | zero => rfl
  | succ i ih =>
    show aft T (wsF T x i) = aft S (wsF S x i)
    rw [ih, ea]
theorem wRow0 (S : SS) (x : Int64) (f : Nat → Int64) : wRow S x 0 f = f := by
  funext t; exact if_neg (by omega)
theorem x8_word {S T : SS} {k r : Nat} {x : Int64} {post : Int32 → SS → Prop} (hK : RK T) (h0 : ¬ gI T 0 = 0) (h25 : gI T 25 = gI T 0) (hx : isN x) (hk1 : 1 ≤ k) (hk : k ≤ 40) (hr : r ≤ k) (ea : aft T = aft S) (es : sgF T = sgF S) (hok : ∀ t, t < r → wOk S x t) (hst : r = k ∨ ¬ wOk S x r) (hfin : (r = k ∨ ¬ wsF S x r = 3000000000000000) → ∀ y, post (nI r) (sI (sA (cR (sI T 20 0) x r y) 35 (fun i => if i < r then wfF S x i else gA T 35 i)) 28 (nI r))) (hb : r < k → wsF S x r = 3000000000000000 → ∀ y, post (-1) (cR (sI T 20 0) x r y)) : V_X8_word x (nI k) T post := by
  have ew : ∀ i, wsF (sI T 20 0) x i = wsF S x i := wsF_st (S := S) (T := sI T 20 0) ea x
  have esg : sgF (sI T 20 0) = sgF S := es
  have ewo : ∀ t, wOk (sI T 20 0) x t ↔ wOk S x t := fun t => by
    show (¬ wsF (sI T 20 0) x t = 3000000000000000 ∧ 0 ≤ sgF (sI T 20 0) (wsF (sI T 20 0) x t)) ↔ _
    rw [ew, esg]
  have ewf : ∀ t, wfF (sI T 20 0) x t = wfF S x t := fun t => by
    unfold wfF; rw [ew, esg]
  have tl : ∀ y, post (nI r) (sI (sA (cR (sI T 20 0) x r y) 35 (fun i => if i < r then wfF S x i else gA T 35 i)) 28 (nI r)) → V_X8_tells (nI r) (cR (sI T 20 0) x r y) (fun S12 => post (nI r) S12) := fun y hp => by
    refine x8_tells (by omega) ?_
    have em : min r 1000 = r := Nat.min_eq_left (by omega)
    have e : (fun i => if i < min r 1000 then gA (cR (sI T 20 0) x r y) 36 i else gA (cR (sI T 20 0) x r y) 35 i) = fun i => if i < r then wfF S x i else gA T 35 i := by
      funext i
      rw [em]
      by_cases c : i < r
      · rw [if_pos c, if_pos c, ← ewf]
        exact if_pos c
      · rw [if_neg c, if_neg c]; rfl
    rw [e, em]
    exact hp
  unfold V_X8_word
  have g25 : gI (sI T 20 0) 25 = gI T 0 := h25
  have hkI : (nI k).toInt = k := nI_toInt (by omega)
  rw [ale, brf (c := gI (sI T 20 0) 25 = 0) (fun z => h0 (g25.symm.trans z)), x8_isN hx, brf (by decide)]
  refine in32 (a := 1) (b := 40) rfl rfl (fun _ => ⟨fun z => absurd z (by decide), fun _ => ?_⟩) (fun z => absurd ⟨by show (1 : Int) ≤ _; omega, by show _ ≤ (40 : Int); omega⟩ z)
  rw [ale]
  have key := x8_word41 (S := sI T 20 0) (k := k) (r := r) (x := x) (post := post) hK h0 hk hr (fun t ht => (ewo t).mpr (hok t ht)) (fun e y => by subst e; exact tl y (hfin (Or.inl rfl) y)) (fun c e y => hb c (by rw [← ew]; exact e) y) (fun c e1 _ y => tl y (hfin (Or.inr (fun w => e1 (by rw [ew]; exact w))) y)) (hst.elim Or.inl (fun q => Or.inr (fun w => q ((ewo r).mp w)))) r 0 x (by omega) (fun _ => ⟨rfl, fun w => by rw [show wsF (sI T 20 0) x 0 = x from rfl] at w; rw [w] at hx; exact notN_bey hx⟩)
  have e0 : cR (sI T 20 0) x 0 x = sJ (sI T 20 0) 0 x := by
    show sJ (sA (sI T 20 0) 36 (wRow (sI T 20 0) x 0 (gA (sI T 20 0) 36))) 0 x = _
    rw [wRow0, sA_self]
  rw [e0] at key
  exact ⟨r + 1, key⟩
theorem p_word {x : Int64} {p : Int32} {S : SS} (h : RR S) : V_X7_word x p S (fun r1 S2 => V_X8_word x p S2 (fun r3 S4 => (r1 = r3 → RR S4) ∧ (¬ r1 = r3 → False))) := by
  have hK : RK S := h.2.1
  have h25 : gI S 25 = gI S 0 := h.2.1.1
  have g25 : gI (sI S 20 0) 25 = gI S 0 := h25
  have hno : ¬ (¬ gI S 0 = 0 ∧ isN x ∧ (1 ≤ p.toInt ∧ p.toInt ≤ 40)) → V_X8_word x p S (fun r3 S4 => ((-1 : Int32) = r3 → RR S4) ∧ (¬ (-1 : Int32) = r3 → False)) := fun c => by
    unfold V_X8_word
    rw [ale]
    refine ⟨fun _ => eqp rfl h, fun c0 => x8_isNum (fun c1 => ⟨fun z => absurd z (by decide), fun _ => in32 (a := 1) (b := 40) rfl rfl (fun c2 => ?_) (fun _ => ⟨fun _ => eqp rfl h, fun z => absurd rfl z⟩)⟩) (fun _ => ⟨fun _ => eqp rfl h, fun z => absurd rfl z⟩)⟩
    exact absurd ⟨fun z => c0 (g25.trans z), c1, c2⟩ c
  unfold V_X7_word
  refine ⟨fun c0 => hno (fun q => q.1 c0), fun c0 => x7_isNum (fun cx => ⟨fun z => absurd z (by decide), fun _ => ⟨fun c1 => hno (fun q => ?_), fun c1 => ⟨fun c2 => ?_, fun c2 => hno (fun q => ?_)⟩⟩⟩) (fun cx => ⟨fun _ => hno (fun q => cx q.2.1), fun z => absurd rfl z⟩)⟩
  · have d : p.toInt < 1 := lt32.mp c1
    have := q.2.2.1
    omega
  · have d1 : ¬ p.toInt < 1 := fun z => c1 (lt32.mpr z)
    have d2 : p.toInt ≤ 40 := le32.mp c2
    obtain ⟨k, rfl, hk1, hk⟩ := nat32 (p := p) 1 40 (by omega) d2 (by omega)
    obtain ⟨r, hr, hok, hst⟩ : ∃ r, r ≤ k ∧ (∀ t, t < r → wOk S x t) ∧ (r = k ∨ ¬ wOk S x r) := by
      rcases first_not (wOk S x) k with a | ⟨r, a, b, c⟩
      · exact ⟨k, Nat.le_refl _, a, Or.inl rfl⟩
      · exact ⟨r, by omega, c, Or.inr b⟩
    have fin : (r = k ∨ ¬ wsF S x r = 3000000000000000) → V_X8_word x (nI k) (sI (sA (cW S x r) 12 (fun t => if t < r then wfF S x t else gA S 12 t)) 7 (nI r)) (fun r3 S4 => ((nI r) = r3 → RR S4) ∧ (¬ (nI r) = r3 → False)) := fun hc => by
      refine x8_word (S := S) (r := r) hK c0 h25 cx hk1 hk hr rfl rfl hok hst (fun _ y => eqp rfl ?_) (fun c e => ?_)
      · obtain ⟨a1, a2, a3, -, a5⟩ := h
        refine ⟨a1, a2, a3, ⟨r, by omega, rfl, rfl, fun t ht => ?_⟩, a5⟩
        show (if t < r then wfF S x t else gA S 35 t) = if t < r then wfF S x t else gA S 12 t
        rw [if_pos ht, if_pos ht]
      · rcases hc with q | q
        · omega
        · exact absurd e q
    have bad : r < k → wsF S x r = 3000000000000000 → V_X8_word x (nI k) (cW S x r) (fun r3 S4 => ((-1 : Int32) = r3 → RR S4) ∧ (¬ (-1 : Int32) = r3 → False)) := fun c e => by
      refine x8_word (S := S) (r := r) hK c0 h25 cx hk1 hk hr rfl rfl hok hst (fun hc => ?_) (fun _ _ y => eqp rfl h)
      rcases hc with q | q
      · omega
      · exact absurd e q
    rw [x2_empty]
    have e0 : sI S 8 0 = cW S x 0 := by
      show _ = sI (sA S 13 (wRow S x 0 (gA S 13))) 8 (nI 0)
      rw [wRow0, sA_self]; rfl
    rw [e0]
    have run : ∃ j, V_X7_word_40 (nI k) (fun r1 S2 => V_X8_word x (nI k) S2 (fun r3 S4 => (r1 = r3 → RR S4) ∧ (¬ r1 = r3 → False))) j x (nI 0) (cW S x 0) := by
      refine ⟨r + 1, ?_⟩
      rw [V_X7_word_40, brf (nI_ge (by omega) (by omega)), brt (c := nI 0 ≤ 0) (by decide), brf (fun w => by rw [w] at cx; exact notN_bey cx)]
      refine x7_sign (S := cW S x 0) hK c0 ?_
      have es : sgF (cW S x 0) x = sgF S (wsF S x 0) := rfl
      rw [es]
      rcases Nat.eq_zero_or_pos r with r0 | r0
      · subst r0
        refine ⟨fun z => ?_, fun z => x7_wend (by omega) (fin (Or.inr (fun w => by rw [show wsF S x 0 = x from rfl] at w; rw [w] at cx; exact notN_bey cx)))⟩
        rcases hst with q | q
        · omega
        · exact absurd ⟨fun w => by rw [show wsF S x 0 = x from rfl] at w; rw [w] at cx; exact notN_bey cx, z⟩ q
      · refine ⟨fun z => cW_add (by omega) ?_, fun z => absurd (hok 0 r0).2 z⟩
        rw [ale, nadd1]
        have key := x7_word40 (S := S) (k := k) (r := r) (x := x) (post := fun r1 S2 => V_X8_word x (nI k) S2 (fun r3 S4 => (r1 = r3 → RR S4) ∧ (¬ r1 = r3 → False))) hK c0 hk hr hok (fun e => by subst e; exact fin (Or.inl rfl)) (fun c e => bad c e) (fun c e1 _ => fin (Or.inr e1)) hst (r - 1) 1 (by omega) (by omega)
        rw [show r - 1 + 1 = r by omega] at key
        exact key
    exact run
  · have d2 : ¬ p.toInt ≤ 40 := fun z => c2 (le32.mpr z)
    exact d2 q.2.2.2
