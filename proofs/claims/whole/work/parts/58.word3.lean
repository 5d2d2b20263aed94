/-! WORD: the reference's way -/
section
variable {S : SS} {k r : Nat} {x : Int64} {post : Int32 → SS → Prop}
abbrev cR (S : SS) (x : Int64) (i : Nat) (y : Int64) : SS := sJ (sA S 36 (wRow S x i (gA S 36))) 0 y
theorem x8_word41 (hK : RK S) (h0 : ¬ gI S 0 = 0) (hk : k ≤ 40) (hr : r ≤ k) (hok : ∀ t, t < r → wOk S x t) (he : r = k → ∀ y, V_X8_tells (nI k) (cR S x k y) (fun S12 => post (nI k) S12)) (hb : r < k → wsF S x r = 3000000000000000 → ∀ y, post (-1) (cR S x r y)) (hn : r < k → ¬ wsF S x r = 3000000000000000 → ¬ 0 ≤ sgF S (wsF S x r) → ∀ y, V_X8_tells (nI r) (cR S x r y) (fun S12 => post (nI r) S12)) (hst : r = k ∨ ¬ wOk S x r) : ∀ (j i : Nat) (y : Int64), i + j = r → (i < k → y = wsF S x i ∧ ¬ wsF S x i = 3000000000000000) → V_X8_word_41 (nI k) post (j + 1) (nI i) (cR S x i y) := by
  intro j
  induction j with
  | zero =>
    intro i y hi hy
    obtain rfl : i = r := by omega
    rw [V_X8_word_41]
    refine ⟨fun c => ?_, fun c => ?_⟩
    · have e : i = k := by
        rcases Nat.lt_or_ge i k with q | q
        · exact absurd c (nI_ge q (by omega))
        · omega
      subst e
      exact he rfl y
    · have hik : i < k := by
        rcases Nat.lt_or_ge i k with q | q
        · exact q
        · exact absurd (nI_le q (by omega)) c
      obtain ⟨rfl, nb⟩ := hy hik
      rw [gJ_sJ]
      refine x8_way (S := cR S x i (wsF S x i)) hK h0 ?_
      have es : sgF (cR S x i (wsF S x i)) (wsF S x i) = sgF S (wsF S x i) := rfl
      rw [es]
      refine ⟨fun z => ?_, fun z => hn hik nb z _⟩
      rcases hst with q | q
      · omega
      · exact absurd ⟨nb, z⟩ q
  | succ j ih =>
    intro i y hi hy
    rw [V_X8_word_41, brf (nI_ge (by omega) (by omega))]
    obtain ⟨rfl, nb⟩ := hy (by omega)
    rw [gJ_sJ]
    refine x8_way (S := cR S x i (wsF S x i)) hK h0 ?_
    have es : sgF (cR S x i (wsF S x i)) (wsF S x i) = sgF S (wsF S x i) := rfl
    rw [es]
    obtain ⟨o1, o2⟩ := hok i (by omega)
    refine ⟨fun _ => ⟨vp_in_nI (by omega) (by omega), fun S16 e16 => ?_⟩, fun z => absurd o2 z⟩
    have e : S16 = cR S x (i + 1) (wsF S x i) := by
      rw [e16, nI_clamp (by omega)]
      show sJ (sA (sA S 36 (wRow S x i (gA S 36))) 36 (vp_updL (wRow S x i (gA S 36)) i (wfF S x i))) 0 (wsF S x i) = cR S x (i + 1) (wsF S x i)
      rw [wRow_succ, sA_sA]
    subst e
    rw [ale, nadd1]
    refine ⟨fun c => ?_, fun c => ?_⟩
    · refine ih (i + 1) _ (by omega) (fun q => ?_)
      exact absurd c (nI_ge q (by omega))
    · have hik : i + 1 < k := by
        rcases Nat.lt_or_ge (i + 1) k with q | q
        · exact q
        · exact absurd (nI_le q (by omega)) c
      rw [gJ_sJ]
      have ea : aft (cR S x (i + 1) (wsF S x i)) (wsF S x i) = wsF S x (i + 1) := rfl
      have sj : ∀ z, sJ (cR S x (i + 1) (wsF S x i)) 0 z = cR S x (i + 1) z := fun z => sJ_sJ _ _ _ _
      refine x8_goes (S := cR S x (i + 1) (wsF S x i)) hK h0 (fun q => ?_) (fun q z => ?_) (fun q => ?_)
      · rcases aft_sign (S := S) (y := wsF S x i) hK h0 o2 with w | w
        · exact absurd (q.symm.trans w) (by decide)
        · rw [show aft S (wsF S x i) = 2000000000000000 from q] at w
          exact absurd w notN_end
      · rw [ea] at q
        rw [sj]
        refine ⟨fun _ => ?_, fun z => absurd rfl z⟩
        have hri : r = i + 1 := by
          rcases Nat.lt_or_ge (i + 1) r with w | w
          · exact absurd q (hok (i + 1) w).1
          · omega
        subst hri
        exact hb hik q z
      · rw [ea] at q ⊢
        rw [sj]
        refine ⟨fun z => absurd z (by decide), fun _ => ?_⟩
        exact ih (i + 1) _ (by omega) (fun _ => ⟨rfl, fun w => by rw [w] at q; exact notN_bey q⟩)
end
