/-! WORD: the class's way -/
section
variable {S : SS} {k r : Nat} {x : Int64} {post : Int32 → SS → Prop}
theorem cW_add {i : Nat} (hi : i < 1000) {post : Int32 → SS → Prop} (hp : post 1 (cW S x (i + 1))) : V_X2_add 8 13 1000 (sgF S (wsF S x i)).toInt64 (cW S x i) post := by
  refine x2_addr (n := i) rfl hi (by omega) ?_
  have e : sI (sA (cW S x i) 13 (vp_updL (gA (cW S x i) 13) i (sgF S (wsF S x i)).toInt64)) 8 (nI (i + 1)) = cW S x (i + 1) := by
    show sI (sA (cW S x i) 13 (vp_updL (wRow S x i (gA S 13)) i (wfF S x i))) 8 (nI (i + 1)) = cW S x (i + 1)
    rw [wRow_succ, sA_sI, sI_sI, sA_sA]
  rw [e]
  exact hp
theorem x7_word40 (hK : RK S) (h0 : ¬ gI S 0 = 0) (hk : k ≤ 40) (hr : r ≤ k) (hok : ∀ t, t < r → wOk S x t) (he : r = k → post (nI k) (sI (sA (cW S x k) 12 (fun t => if t < k then wfF S x t else gA S 12 t)) 7 (nI k))) (hb : r < k → wsF S x r = 3000000000000000 → post (-1) (cW S x r)) (hn : r < k → ¬ wsF S x r = 3000000000000000 → ¬ 0 ≤ sgF S (wsF S x r) → post (nI r) (sI (sA (cW S x r) 12 (fun t => if t < r then wfF S x t else gA S 12 t)) 7 (nI r))) (hst : r = k ∨ ¬ wOk S x r) : ∀ (j i : Nat), i + j = r → 1 ≤ i → V_X7_word_40 (nI k) post (j + 1) (wsF S x (i - 1)) (nI i) (cW S x i) := by
  intro j
  induction j with
  | zero =>
    intro i hi h1
    obtain rfl : i = r := by omega
    rw [V_X7_word_40]
    refine ⟨fun c => ?_, fun c => ?_⟩
    · have e : i = k := by
        rcases Nat.lt_or_ge i k with q | q
        · exact absurd c (nI_ge q (by omega))
        · omega
      subst e
      exact x7_wend (by omega) (he rfl)
    · have hik : i < k := by
        rcases Nat.lt_or_ge i k with q | q
        · exact q
        · exact absurd (nI_le q (by omega)) c
      refine ⟨fun z => absurd z (nI_nle (by omega) (by omega)), fun _ => ?_⟩
      refine x7_after (S := cW S x i) hK h0 ?_
      have ea : aft (cW S x i) (wsF S x (i - 1)) = wsF S x i := by
        obtain ⟨t, rfl⟩ : ∃ t, i = t + 1 := ⟨i - 1, by omega⟩
        rfl
      rw [ea]
      refine ⟨fun e => hb hik e, fun e => ?_⟩
      refine x7_sign (S := cW S x i) hK h0 ?_
      have es : sgF (cW S x i) (wsF S x i) = sgF S (wsF S x i) := rfl
      rw [es]
      refine ⟨fun z => ?_, fun z => ?_⟩
      · rcases hst with q | q
        · omega
        · exact absurd ⟨e, z⟩ q
      · exact x7_wend (by omega) (hn hik e z)
  | succ j ih =>
    intro i hi h1
    rw [V_X7_word_40, brf (nI_ge (by omega) (by omega))]
    refine ⟨fun z => absurd z (nI_nle (by omega) (by omega)), fun _ => ?_⟩
    refine x7_after (S := cW S x i) hK h0 ?_
    have ea : aft (cW S x i) (wsF S x (i - 1)) = wsF S x i := by
      obtain ⟨t, rfl⟩ : ∃ t, i = t + 1 := ⟨i - 1, by omega⟩
      rfl
    rw [ea]
    obtain ⟨o1, o2⟩ := hok i (by omega)
    refine ⟨fun e => absurd e o1, fun e => ?_⟩
    refine x7_sign (S := cW S x i) hK h0 ?_
    have es : sgF (cW S x i) (wsF S x i) = sgF S (wsF S x i) := rfl
    rw [es]
    refine ⟨fun z => ?_, fun z => absurd o2 z⟩
    refine cW_add (by omega) ?_
    rw [ale, nadd1]
    have := ih (i + 1) (by omega) (by omega)
    exact this
end
