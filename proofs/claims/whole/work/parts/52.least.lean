/-! LEAST -/
section
variable {S : SS} {k : Nat} {post : Int32 → SS → Prop}
/-- the reference's look at one number: K where one is hit in time, post where none is -/
theorem x8_least57 {v1 : Int32} {x : Nat} {K : Int32 → SS → Prop} (hK : RK S) (h0 : ¬ gI S 0 = 0) (hk : k ≤ 2000) (hx : 2 ≤ x) (hx2 : x ≤ 20000) : ∀ (j i : Nat) (y : Int64), i + j = k → (0 ≤ hitF S (fun z => decide (¬ (nI x).toInt64 ≤ z)) j y (i + 1) → ∀ z, K (nI (x + 1)) (sJ S 0 z)) → (¬ 0 ≤ hitF S (fun z => decide (¬ (nI x).toInt64 ≤ z)) j y (i + 1) → ∀ z, post (nI x) (sJ S 0 z)) → V_X8_least_57 v1 (nI k) (nI x) K post (j + 2) 0 (nI i) (sJ S 0 y) := by
  have hX : (nI x).toInt64.toInt = (x : Int) := by rw [i64_toInt, nI_toInt (by omega)]
  intro j
  induction j with
  | zero =>
    intro i y hi hy hn
    obtain rfl : i = k := by omega
    rw [V_X8_least_57, brt (nI_le (Nat.le_refl _) (by omega))]
    exact ⟨fun _ => hn (by show ¬ (0 : Int32) ≤ -2; decide) y, fun z => absurd rfl z⟩
  | succ j ih =>
    intro i y hi hy hn
    rw [V_X8_least_57, brf (nI_ge (by omega) (by omega))]
    refine ⟨fun _ => ?_, fun z => absurd rfl z⟩
    rw [gJ_sJ]
    have ha : aft (sJ S 0 y) y = aft S y := rfl
    refine x8_goes (S := sJ S 0 y) hK h0 (fun q => ?_) (fun q z => ?_) (fun q => ?_)
    · refine ⟨fun z => absurd z (by decide), fun _ => ⟨fun _ => ?_, fun z => absurd rfl z⟩⟩
      rw [hitF_out (fun w => notN_end (by rw [← q]; exact w))] at hn
      exact hn (by decide) y
    · refine ⟨fun z => absurd z (by decide), fun _ => ⟨fun _ => ?_, fun z => absurd rfl z⟩⟩
      rw [hitF_out (fun w => notN_bey (by rw [← q]; exact w))] at hn
      rw [sJ_sJ]
      exact hn (by decide) z
    · refine ⟨fun _ => ?_, fun z => absurd rfl z⟩
      rw [gJ_sJ, sJ_sJ, ha]
      rw [hitF_in (S := S) (y := y) q] at hy hn
      have done : ∀ (T : SS), (∃ z, T = sJ S 0 z) → ¬ (nI x).toInt64 ≤ aft S y → V_X8_least_57 v1 (nI k) (nI x) K post (j + 2) 1 (nI (i + 1)) T := fun T hT hlt => by
        obtain ⟨z, rfl⟩ := hT
        rw [if_pos (decide_eq_true hlt)] at hy
        have hy := hy (nI_pos' (by omega)) z
        have e1 : ¬ (1 : Int32) = 0 := by decide
        rw [V_X8_least_57, brf e1, brf e1]
        exact ⟨fun _ w e => by rw [e, nadd1]; exact hy, fun _ w e => by rw [e, nadd1]; exact hy⟩
      refine ⟨fun c => ?_, fun c => ⟨fun c1 => ?_, fun c1 => ?_⟩⟩
      · rw [ale, ← nI_succ]
        exact done _ ⟨_, rfl⟩ (fun w => absurd (le64.mp w) (by have := lt64.mp c; omega))
      · rw [ale, ← nI_succ]
        refine done _ ⟨_, rfl⟩ (fun w => ?_)
        have := le64.mp w
        rw [c1, hX, show (1 : Int64).toInt = 1 from rfl] at this
        omega
      · rw [ale, ← nI_succ]
        have hle : (nI x).toInt64 ≤ aft S y := Int64.not_lt.mp c
        rw [if_neg (fun w => (of_decide_eq_true w) hle)] at hy hn
        exact ih (i + 1) _ (by omega) hy hn
end
