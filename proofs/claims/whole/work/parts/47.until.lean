/-! UNTIL, HEIGHT -/
/-- how many steps till one is hit: -1 where a step is none, -2 where they are spent -/
def hitF (S : SS) (hit : Int64 → Bool) : Nat → Int64 → Nat → Int32
  | 0, _, _ => -2
  | j + 1, y, i => if -1000000000000000 ≤ (aft S y).toInt ∧ (aft S y).toInt ≤ 1000000000000000 then (if hit (aft S y) = true then nI i else hitF S hit j (aft S y) (i + 1)) else -1
theorem hitF_in {S : SS} {hit : Int64 → Bool} {j : Nat} {y : Int64} {i : Nat} (h : isN (aft S y)) : hitF S hit (j + 1) y i = if hit (aft S y) = true then nI i else hitF S hit j (aft S y) (i + 1) := if_pos h
theorem hitF_out {S : SS} {hit : Int64 → Bool} {j : Nat} {y : Int64} {i : Nat} (h : ¬ isN (aft S y)) : hitF S hit (j + 1) y i = -1 := if_neg h
section
variable {S : SS} {k : Nat} {post : Int32 → SS → Prop}
theorem x7_until45 {to : Int64} (hK : RK S) (h0 : ¬ gI S 0 = 0) (hk : k ≤ 100000) : ∀ (j i : Nat) (y : Int64), i + j = k + 1 → post (hitF S (fun z => decide (z = to)) j y i) S → V_X7_until_45 to (nI k) post (j + 1) y (nI i) S := by
  intro j
  induction j with
  | zero =>
    intro i y hi hp
    rw [V_X7_until_45, brt (nI_lt (by omega) (by omega))]
    exact hp
  | succ j ih =>
    intro i y hi hp
    rw [V_X7_until_45, brf (nI_nlt (by omega) (by omega))]
    refine x7_after hK h0 (x7_isNum (fun c => ⟨fun z => absurd z (by decide), fun _ => ?_⟩) (fun c => ⟨fun _ => ?_, fun z => absurd rfl z⟩))
    · rw [hitF_in c] at hp
      by_cases e : aft S y = to
      · rw [if_pos (by rw [e]; exact decide_eq_true rfl)] at hp
        rw [brt e]; exact hp
      · rw [if_neg (fun z => e (of_decide_eq_true z))] at hp
        rw [brf e, ale, ← nI_succ]
        exact ih (i + 1) _ (by omega) hp
    · rw [hitF_out c] at hp; exact hp
theorem x7_till6 {x : Int64} (hK : RK S) (h0 : ¬ gI S 0 = 0) (hk : k ≤ 100000) : ∀ (j i : Nat) (y : Int64), i + j = k + 1 → post (hitF S (fun z => decide (¬ x ≤ z)) j y i) S → V_X7_stepsTillBelow_6 x (nI k) post (j + 1) y (nI i) S := by
  intro j
  induction j with
  | zero =>
    intro i y hi hp
    rw [V_X7_stepsTillBelow_6, brt (nI_lt (by omega) (by omega))]
    exact hp
  | succ j ih =>
    intro i y hi hp
    rw [V_X7_stepsTillBelow_6, brf (nI_nlt (by omega) (by omega))]
    refine x7_after hK h0 (x7_isNum (fun c => ⟨fun z => absurd z (by decide), fun _ => ?_⟩) (fun c => ⟨fun _ => ?_, fun z => absurd rfl z⟩))
    · rw [hitF_in c] at hp
      by_cases e : x ≤ aft S y
      · rw [if_neg (fun z => (of_decide_eq_true z) e)] at hp
        rw [brt e, ale, ← nI_succ]
        exact ih (i + 1) _ (by omega) hp
      · rw [if_pos (decide_eq_true e)] at hp
        rw [brf e]; exact hp
    · rw [hitF_out c] at hp; exact hp
theorem x8_until49 {to : Int64} (hK : RK S) (h0 : ¬ gI S 0 = 0) (hk : k ≤ 100000) : ∀ (j i : Nat) (y : Int64), i + j = k → (∀ z, post (if y = to then nI i else hitF S (fun z => decide (z = to)) j y (i + 1)) (sJ S 0 z)) → V_X8_until_49 to (nI k) post (j + 2) (nI i) (sJ S 0 y) := by
  intro j
  induction j with
  | zero =>
    intro i y hi hp
    obtain rfl : i = k := by omega
    rw [V_X8_until_49, brf (nI_nlt (Nat.le_refl _) (by omega)), gJ_sJ]
    by_cases e : y = to
    · rw [brt e]
      have := hp y
      rw [if_pos e] at this
      exact this
    · rw [brf e, brt (nI_le (Nat.le_refl _) (by omega)), ale, ← nI_succ, V_X8_until_49, brt (nI_lt (by omega) (by omega))]
      have := hp y
      rw [if_neg e] at this
      exact this
  | succ j ih =>
    intro i y hi hp
    rw [V_X8_until_49, brf (nI_nlt (by omega) (by omega)), gJ_sJ]
    by_cases e : y = to
    · rw [brt e]
      have := hp y
      rw [if_pos e] at this
      exact this
    · rw [brf e, brf (nI_ge (by omega) (by omega))]
      have ha : aft (sJ S 0 y) y = aft S y := rfl
      refine x8_goes (S := sJ S 0 y) hK h0 (fun q => ?_) (fun q z => ?_) (fun q => ?_)
      · refine ⟨fun z => absurd z (by decide), fun _ => ?_⟩
        have := hp y
        rw [if_neg e, hitF_out (fun w => notN_end (by rw [← q]; exact w))] at this
        exact this
      · refine ⟨fun z => absurd z (by decide), fun _ => ?_⟩
        have := hp z
        rw [if_neg e, hitF_out (fun w => notN_bey (by rw [← q]; exact w))] at this
        rw [sJ_sJ]
        exact this
      · refine ⟨fun _ => ?_, fun z => absurd rfl z⟩
        rw [ale, ← nI_succ, sJ_sJ, ha]
        refine ih (i + 1) _ (by omega) (fun z => ?_)
        have := hp z
        rw [if_neg e, hitF_in (S := S) (y := y) q] at this
        by_cases e2 : aft S y = to
        · rw [if_pos (by rw [e2]; exact decide_eq_true rfl)] at this
          rw [if_pos e2]; exact this
        · rw [if_neg (fun z => e2 (of_decide_eq_true z))] at this
          rw [if_neg e2]; exact this
theorem x8_height41 {x : Int64} (hK : RK S) (h0 : ¬ gI S 0 = 0) (hk : k ≤ 100000) : ∀ (j i : Nat) (y : Int64), i + j = k → (∀ z, post (if ¬ x ≤ y then nI i else hitF S (fun z => decide (¬ x ≤ z)) j y (i + 1)) (sJ S 0 z)) → V_X8_height_41 x (nI k) post (j + 2) (nI i) (sJ S 0 y) := by
  intro j
  induction j with
  | zero =>
    intro i y hi hp
    obtain rfl : i = k := by omega
    rw [V_X8_height_41, brf (nI_nlt (Nat.le_refl _) (by omega)), gJ_sJ]
    by_cases e : x ≤ y
    · rw [brt e, brt (nI_le (Nat.le_refl _) (by omega)), ale, ← nI_succ, V_X8_height_41, brt (nI_lt (by omega) (by omega))]
      have := hp y
      rw [if_neg (fun z => z e)] at this
      exact this
    · rw [brf e]
      have := hp y
      rw [if_pos e] at this
      exact this
  | succ j ih =>
    intro i y hi hp
    rw [V_X8_height_41, brf (nI_nlt (by omega) (by omega)), gJ_sJ]
    by_cases e : x ≤ y
    · rw [brt e, brf (nI_ge (by omega) (by omega))]
      have ha : aft (sJ S 0 y) y = aft S y := rfl
      refine x8_goes (S := sJ S 0 y) hK h0 (fun q => ?_) (fun q z => ?_) (fun q => ?_)
      · refine ⟨fun z => absurd z (by decide), fun _ => ?_⟩
        have := hp y
        rw [if_neg (fun z => z e), hitF_out (fun w => notN_end (by rw [← q]; exact w))] at this
        exact this
      · refine ⟨fun z => absurd z (by decide), fun _ => ?_⟩
        have := hp z
        rw [if_neg (fun z => z e), hitF_out (fun w => notN_bey (by rw [← q]; exact w))] at this
        rw [sJ_sJ]
        exact this
      · refine ⟨fun _ => ?_, fun z => absurd rfl z⟩
        rw [ale, ← nI_succ, sJ_sJ, ha]
        refine ih (i + 1) _ (by omega) (fun z => ?_)
        have := hp z
        rw [if_neg (fun z => z e), hitF_in (S := S) (y := y) q] at this
        by_cases e2 : x ≤ aft S y
        · rw [if_neg (fun z => (of_decide_eq_true z) e2)] at this
          rw [if_neg (fun z => z e2)]; exact this
        · rw [if_pos (decide_eq_true e2)] at this
          rw [if_pos e2]; exact this
    · rw [brf e]
      have := hp y
      rw [if_pos e] at this
      exact this
end
theorem hitF_thrown {S : SS} (v : Int32) (hit : Int64 → Bool) : ∀ (j : Nat) (y : Int64) (i : Nat), hitF (sI S 20 v) hit j y i = hitF S hit j y i := by
  intro j
  induction j with
  | zero => intro y i; rfl
  | succ j ih =>
    intro y i
    show (if _ then (if hit (aft S y) = true then nI i else hitF (sI S 20 v) hit j (aft S y) (i + 1)) else (-1 : Int32)) = _
    rw [ih]
    rfl
theorem p_until {x to : Int64} {p : Int32} {S : SS} (h : RR S) : V_X7_until x to p S (fun r1 S2 => V_X8_until x to p S2 (fun r3 S4 => (r1 = r3 → RR S4) ∧ (¬ r1 = r3 → False))) := by
  have hK : RK S := h.2.1
  have g25 : gI (sI S 20 0) 25 = gI S 0 := h.2.1.1
  have hno : ¬ (¬ gI S 0 = 0 ∧ isN x ∧ isN to ∧ (0 ≤ p.toInt ∧ p.toInt ≤ 100000)) → V_X8_until x to p S (fun r3 S4 => ((-1 : Int32) = r3 → RR S4) ∧ (¬ (-1 : Int32) = r3 → False)) := fun c => by
    unfold V_X8_until
    rw [ale]
    refine ⟨fun _ => eqp rfl h, fun c0 => in_of (fun c1 => ⟨fun z => absurd z (by decide), fun _ => x8_isNum (fun c2 => ⟨fun z => absurd z (by decide), fun _ => x8_isNum (fun c3 => ?_) (fun _ => ⟨fun _ => eqp rfl h, fun z => absurd rfl z⟩)⟩) (fun _ => ⟨fun _ => eqp rfl h, fun z => absurd rfl z⟩)⟩) (fun _ => ⟨fun _ => eqp rfl h, fun z => absurd rfl z⟩)⟩
    rw [i64_toInt] at c1
    exact absurd ⟨fun z => c0 (g25.trans z), c2, c3, c1⟩ c
  unfold V_X7_until
  refine ⟨fun c0 => hno (fun q => q.1 c0), fun c0 => x7_isNum (fun cx => ⟨fun z => absurd z (by decide), fun _ => x7_isNum (fun ct => ⟨fun z => absurd z (by decide), fun _ => x7_steps (fun cp => ⟨fun z => absurd z (by decide), fun _ => ?_⟩) (fun cp => ⟨fun _ => hno (fun q => cp q.2.2.2), fun z => absurd rfl z⟩)⟩) (fun ct => ⟨fun _ => hno (fun q => ct q.2.2.1), fun z => absurd rfl z⟩)⟩) (fun cx => ⟨fun _ => hno (fun q => cx q.2.1), fun z => absurd rfl z⟩)⟩
  obtain ⟨k, rfl, -, hk⟩ := nat32 (p := p) 0 100000 cp.1 cp.2 (by omega)
  have ref : ∀ r : Int32, r = (if x = to then nI 0 else hitF S (fun z => decide (z = to)) k x 1) → V_X8_until x to (nI k) S (fun r3 S4 => (r = r3 → RR S4) ∧ (¬ r = r3 → False)) := fun r hr => by
    unfold V_X8_until
    rw [ale, brf (fun z => c0 (g25.symm.trans z)), x8_in (by rw [i64_toInt]; exact cp.1) (by rw [i64_toInt]; exact cp.2), brf (by decide), x8_isN cx, brf (by decide), x8_isN ct, brf (by decide), ale]
    refine ⟨k + 2, x8_until49 (S := sI S 20 0) (k := k) hK c0 hk k 0 x (by omega) (fun z => ?_)⟩
    rw [hitF_thrown]
    exact eqp hr h
  refine ⟨fun e => ref 0 (by rw [if_pos e]; rfl), fun e => ⟨k + 1, x7_until45 hK c0 hk k 1 x (by omega) (ref _ (by rw [if_neg e]))⟩⟩
theorem p_height {x : Int64} {p : Int32} {S : SS} (h : RR S) : V_X7_height x p S (fun r1 S2 => V_X8_height x p S2 (fun r3 S4 => (r1 = r3 → RR S4) ∧ (¬ r1 = r3 → False))) := by
  have hK : RK S := h.2.1
  have g25 : gI (sI S 20 0) 25 = gI S 0 := h.2.1.1
  have hno : ¬ (¬ gI S 0 = 0 ∧ isN x ∧ (0 ≤ p.toInt ∧ p.toInt ≤ 100000)) → V_X8_height x p S (fun r3 S4 => ((-1 : Int32) = r3 → RR S4) ∧ (¬ (-1 : Int32) = r3 → False)) := fun c => by
    unfold V_X8_height
    rw [ale]
    refine ⟨fun _ => eqp rfl h, fun c0 => in_of (fun c1 => ⟨fun z => absurd z (by decide), fun _ => x8_isNum (fun c2 => ?_) (fun _ => ⟨fun _ => eqp rfl h, fun z => absurd rfl z⟩)⟩) (fun _ => ⟨fun _ => eqp rfl h, fun z => absurd rfl z⟩)⟩
    rw [i64_toInt] at c1
    exact absurd ⟨fun z => c0 (g25.trans z), c2, c1⟩ c
  unfold V_X7_height
  refine ⟨fun c0 => hno (fun q => q.1 c0), fun c0 => x7_isNum (fun cx => ⟨fun z => absurd z (by decide), fun _ => x7_steps (fun cp => ⟨fun z => absurd z (by decide), fun _ => ?_⟩) (fun cp => ⟨fun _ => hno (fun q => cp q.2.2), fun z => absurd rfl z⟩)⟩) (fun cx => ⟨fun _ => hno (fun q => cx q.2.1), fun z => absurd rfl z⟩)⟩
  obtain ⟨k, rfl, -, hk⟩ := nat32 (p := p) 0 100000 cp.1 cp.2 (by omega)
  refine ⟨k + 1, x7_till6 hK c0 hk k 1 x (by omega) ?_⟩
  show V_X8_height _ _ _ _
  unfold V_X8_height
  rw [ale, brf (fun z => c0 (g25.symm.trans z)), x8_in (by rw [i64_toInt]; exact cp.1) (by rw [i64_toInt]; exact cp.2), brf (by decide), x8_isN cx, brf (by decide), ale]
  refine ⟨k + 2, x8_height41 (S := sI S 20 0) (k := k) hK c0 hk k 0 x (by omega) (fun z => ?_)⟩
  rw [hitF_thrown, if_neg (fun w => w (Int64.le_refl x))]
  exact eqp rfl h
