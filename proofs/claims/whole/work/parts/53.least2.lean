/-! LEAST to its end -/
def leF (S : SS) (k : Nat) : Nat → Nat → Int32
  | 0, _ => 0
  | j + 1, x => if 0 ≤ hitF S (fun z => decide (¬ (nI x).toInt64 ≤ z)) k (nI x).toInt64 1 then leF S k j (x + 1) else nI x
theorem sJ_self (S : SS) (k : Nat) : sJ S k (gJ S k) = S := by
  unfold sJ gJ; rw [va_upself]
section
variable {S : SS} {k N : Nat} {post : Int32 → SS → Prop}
theorem x7_least34 (hK : RK S) (h0 : ¬ gI S 0 = 0) (hk : k ≤ 2000) (hN : N ≤ 20000) : ∀ (j x : Nat), x + j = N + 1 → 2 ≤ x → post (leF S k j x) S → V_X7_least_34 (nI N) (nI k) post (j + 1) (nI x) S := by
  intro j
  induction j with
  | zero =>
    intro x hx _ hp
    rw [V_X7_least_34, brt (nI_lt (by omega) (by omega))]
    exact hp
  | succ j ih =>
    intro x hx h2 hp
    rw [V_X7_least_34, brf (nI_nlt (by omega) (by omega))]
    unfold V_X7_stepsTillBelow
    refine ⟨k + 1, x7_till6 hK h0 (by omega) k 1 _ (by omega) ⟨fun c => ?_, fun c => ?_⟩⟩
    · unfold leF at hp
      rw [if_pos c] at hp
      rw [ale, ← nI_succ]
      exact ih (x + 1) (by omega) (by omega) hp
    · unfold leF at hp
      rw [if_neg c] at hp
      exact hp
theorem x8_least40 (hK : RK S) (h0 : ¬ gI S 0 = 0) (hk : k ≤ 2000) (hN : N ≤ 20000) : ∀ (j x : Nat) (w : Int64), x + j = N + 1 → 2 ≤ x → (∀ z, post (leF S k j x) (sJ S 0 z)) → V_X8_least_40 (nI N) (nI k) post (j + 1) (nI x) (sJ S 0 w) := by
  intro j
  induction j with
  | zero =>
    intro x w hx _ hp
    rw [V_X8_least_40, brt (nI_lt (by omega) (by omega))]
    exact hp w
  | succ j ih =>
    intro x w hx h2 hp
    rw [V_X8_least_40, brf (nI_nlt (by omega) (by omega)), ale, sJ_sJ]
    refine ⟨k + 2, x8_least57 hK h0 hk h2 (by omega) k 0 _ (by omega) (fun c z => ?_) (fun c z => ?_)⟩
    · refine ih (x + 1) z (by omega) (by omega) (fun z => ?_)
      have := hp z
      unfold leF at this
      rw [if_pos c] at this
      exact this
    · have := hp z
      unfold leF at this
      rw [if_neg c] at this
      exact this
end
theorem leF_thrown (S : SS) (v : Int32) (k : Nat) : ∀ (j x : Nat), leF (sI S 20 v) k j x = leF S k j x := by
  intro j
  induction j with
  | zero => intro x; rfl
  | succ j ih =>
    intro x
    unfold leF
    rw [hitF_thrown, ih]
theorem p_least {p0 p1 : Int32} {S : SS} (h : RR S) : V_X7_least p0 p1 S (fun r1 S2 => V_X8_least p0 p1 S2 (fun r3 S4 => (r1 = r3 → RR S4) ∧ (¬ r1 = r3 → False))) := by
  have hK : RK S := h.2.1
  have g25 : gI (sI S 20 0) 25 = gI S 0 := h.2.1.1
  have hno : ¬ (¬ gI S 0 = 0 ∧ (1 ≤ p0.toInt ∧ p0.toInt ≤ 20000) ∧ (0 ≤ p1.toInt ∧ p1.toInt ≤ 2000)) → V_X8_least p0 p1 S (fun r3 S4 => ((-1 : Int32) = r3 → RR S4) ∧ (¬ (-1 : Int32) = r3 → False)) := fun c => by
    unfold V_X8_least
    rw [ale]
    refine ⟨fun _ => eqp rfl h, fun c0 => in32 (a := 1) (b := 20000) rfl rfl (fun c1 => ⟨fun z => absurd z (by decide), fun _ => in32 (a := 0) (b := 2000) rfl rfl (fun c2 => ?_) (fun _ => ⟨fun _ => eqp rfl h, fun z => absurd rfl z⟩)⟩) (fun _ => ⟨fun _ => eqp rfl h, fun z => absurd rfl z⟩)⟩
    exact absurd ⟨fun z => c0 (g25.trans z), c1, c2⟩ c
  unfold V_X7_least
  refine ⟨fun c0 => hno (fun q => q.1 c0), fun c0 => ⟨fun c1 => hno (fun q => ?_), fun c1 => ⟨fun c2 => hno (fun q => ?_), fun c2 => ⟨fun c3 => hno (fun q => ?_), fun c3 => ⟨fun c4 => ?_, fun c4 => hno (fun q => ?_)⟩⟩⟩⟩⟩
  · have d : p0.toInt < 1 := lt32.mp c1
    have := q.2.1.1
    omega
  · have d : 20000 < p0.toInt := lt32.mp c2
    have := q.2.1.2
    omega
  · have d : p1.toInt < 0 := lt32.mp c3
    have := q.2.2.1
    omega
  · have d1 : ¬ p0.toInt < 1 := fun z => c1 (lt32.mpr z)
    have d2 : ¬ 20000 < p0.toInt := fun z => c2 (lt32.mpr z)
    have d3 : ¬ p1.toInt < 0 := fun z => c3 (lt32.mpr z)
    have d4 : p1.toInt ≤ 2000 := le32.mp c4
    obtain ⟨N, rfl, hN1, hN⟩ := nat32 (p := p0) 1 20000 (by omega) (by omega) (by omega)
    obtain ⟨k, rfl, -, hk⟩ := nat32 (p := p1) 0 2000 (by omega) (by omega) (by omega)
    refine ⟨N - 1 + 1, x7_least34 hK c0 hk hN (N - 1) 2 (by omega) (by omega) ?_⟩
    show V_X8_least _ _ _ _
    unfold V_X8_least
    rw [ale, brf (fun z => c0 (g25.symm.trans z))]
    refine in32 (a := 1) (b := 20000) rfl rfl (fun _ => ⟨fun z => absurd z (by decide), fun _ => in32 (a := 0) (b := 2000) rfl rfl (fun _ => ⟨fun z => absurd z (by decide), fun _ => ?_⟩) (fun z => absurd ⟨by show (0 : Int) ≤ _; omega, by show _ ≤ (2000 : Int); omega⟩ z)⟩) (fun z => absurd ⟨by show (1 : Int) ≤ _; omega, by show _ ≤ (20000 : Int); omega⟩ z)
    refine ⟨N - 1 + 1, ?_⟩
    have key := x8_least40 (S := sI S 20 0) (k := k) (N := N) (post := fun r3 S4 => (leF S k (N - 1) 2 = r3 → RR S4) ∧ (¬ leF S k (N - 1) 2 = r3 → False)) hK c0 hk hN (N - 1) 2 (gJ (sI S 20 0) 0) (by omega) (by omega) (fun z => by rw [leF_thrown]; exact eqp rfl h)
    rw [sJ_self] at key
    exact key
  · have d4 : ¬ p1.toInt ≤ 2000 := fun z => c4 (le32.mpr z)
    exact d4 q.2.2.2
