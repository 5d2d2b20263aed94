/-! SEAL -/
theorem nab {a b : Int} {A B : Nat} (h1 : a.natAbs ≤ A) (h2 : b.natAbs ≤ B) : (a * b).natAbs ≤ A * B := by
  rw [Int.natAbs_mul]; exact Nat.mul_le_mul h1 h2
theorem lrm0 {x d : Int64} (h : 1 ≤ d.toInt) : lrm x d = (0 : Int64) ↔ d.toInt ∣ x.toInt := by
  rw [eq64, lrm_toInt (by omega) (by omega), show (0 : Int64).toInt = 0 from rfl]
  exact ⟨Int.dvd_of_tmod_eq_zero, Int.tmod_eq_zero_of_dvd⟩
/-- a REST's part as a RULE wants it -/
def sndAt (m r : Nat) (a b d : Int64) : Prop := (-1000 ≤ a.toInt ∧ a.toInt ≤ 1000) ∧ (-1000 ≤ b.toInt ∧ b.toInt ≤ 1000) ∧ (1 ≤ d.toInt ∧ d.toInt ≤ 1000) ∧ d.toInt ∣ a.toInt * m ∧ d.toInt ∣ a.toInt * r + b.toInt
theorem prN {a : Int64} {k : Nat} (ha : -1000 ≤ a.toInt ∧ a.toInt ≤ 1000) (hk : k ≤ 64) : (a * (nI k).toInt64).toInt = a.toInt * k ∧ -64000 ≤ a.toInt * k ∧ a.toInt * k ≤ 64000 := by
  have hn : (nI k).toInt64.toInt = (k : Int) := by rw [i64_toInt, nI_toInt (by omega)]
  have hb := nab (a := a.toInt) (b := (k : Int)) (A := 1000) (B := 64) (by omega) (by omega)
  refine ⟨?_, by omega, by omega⟩
  rw [m64 (by rw [hn]; omega) (by rw [hn]; omega), hn]
theorem x5_read0 {mi ai bi di m k : Nat} {S : SS} {post : Int64 → SS → Prop} (h : gI S mi = nI m) (hk : k < m) (hm : m ≤ 64) : V_X5_read mi ai bi di (nI k) (0 : Int32) S post = post (gA S ai k) S := by
  unfold V_X5_read
  rw [x5_has h hk hm, brf (by decide), brt rfl, gdt (vp_in_nI (by omega) (by omega)), nI_clamp (by omega)]
theorem x5_read1 {mi ai bi di m k : Nat} {S : SS} {post : Int64 → SS → Prop} (h : gI S mi = nI m) (hk : k < m) (hm : m ≤ 64) : V_X5_read mi ai bi di (nI k) (1 : Int32) S post = post (gA S bi k) S := by
  unfold V_X5_read
  rw [x5_has h hk hm, brf (by decide), brf (c := (1 : Int32) = 0) (by decide), brt rfl, gdt (vp_in_nI (by omega) (by omega)), nI_clamp (by omega)]
theorem x5_read2 {mi ai bi di m k : Nat} {S : SS} {post : Int64 → SS → Prop} (h : gI S mi = nI m) (hk : k < m) (hm : m ≤ 64) : V_X5_read mi ai bi di (nI k) (2 : Int32) S post = post (gA S di k) S := by
  unfold V_X5_read
  rw [x5_has h hk hm, brf (by decide), brf (c := (2 : Int32) = 0) (by decide), brf (c := (2 : Int32) = 1) (by decide), gdt (vp_in_nI (by omega) (by omega)), nI_clamp (by omega)]
theorem x5_part {x : Int64} {S : SS} {post : Int32 → SS → Prop} (h1 : -1000 ≤ x.toInt ∧ x.toInt ≤ 1000 → post 1 S) (h0 : ¬ (-1000 ≤ x.toInt ∧ x.toInt ≤ 1000) → post 0 S) : V_X5_isPart x S post := by
  unfold V_X5_isPart
  refine ⟨fun c => h0 ?_, fun c => ⟨fun c2 => h0 ?_, fun c2 => h1 ?_⟩⟩
  · have d : x.toInt < -1000 := lt64.mp c
    omega
  · have d : 1000 < x.toInt := lt64.mp c2
    omega
  · have d : ¬ x.toInt < -1000 := fun q => c (lt64.mpr q)
    have d2 : ¬ (1000 : Int) < x.toInt := fun q => c2 (lt64.mpr q)
    omega
section
variable {mi ai bi di m r : Nat} {S : SS} {post : Int32 → SS → Prop}
theorem x5_sound (h : gI S mi = nI m) (hr : r < m) (hm : m ≤ 64) (h1 : sndAt m r (gA S ai r) (gA S bi r) (gA S di r) → post 1 S) (h0 : ¬ sndAt m r (gA S ai r) (gA S bi r) (gA S di r) → post 0 S) : V_X5_isSound mi ai bi di (nI r) S post := by
  unfold V_X5_isSound
  rw [x5_read0 h hr hm]
  refine x5_part (fun ha => ⟨fun e => absurd e (by decide), fun _ => ?_⟩) (fun ha => ⟨fun _ => h0 (fun q => ha q.1), fun e => absurd rfl e⟩)
  rw [x5_read1 h hr hm]
  refine x5_part (fun hb => ⟨fun e => absurd e (by decide), fun _ => ?_⟩) (fun hb => ⟨fun _ => h0 (fun q => hb q.2.1), fun e => absurd rfl e⟩)
  rw [x5_read2 h hr hm]
  refine x5_part (fun hd => ⟨fun e => absurd e (by decide), fun _ => ?_⟩) (fun hd => ⟨fun _ => h0 (fun q => hd ⟨by have := q.2.2.1.1; omega, q.2.2.1.2⟩), fun e => absurd rfl e⟩)
  rw [x5_read2 h hr hm]
  refine ⟨fun c => h0 (fun q => ?_), fun c => ?_⟩
  · have d : (gA S di r).toInt < 1 := lt64.mp c
    have := q.2.2.1.1
    omega
  · have d : ¬ (gA S di r).toInt < 1 := fun q => c (lt64.mpr q)
    have hd1 : 1 ≤ (gA S di r).toInt := by omega
    have nz : ¬ gA S di r = 0 := fun e => d (by rw [e]; decide)
    rw [x5_a h hr hm, x5_b h hr hm, x5_d h hr hm hd1, gdt nz]
    have p1 := prN (a := gA S ai r) (k := r) ha (by omega)
    have p2 := prN (a := gA S ai r) (k := m) ha hm
    have e1 : (gA S ai r * (nI r).toInt64 + gA S bi r).toInt = (gA S ai r).toInt * r + (gA S bi r).toInt := by
      rw [a64 (by rw [p1.1]; omega) (by rw [p1.1]; omega), p1.1]
    refine ⟨fun c1 => ?_, fun c1 => h0 (fun q => c1 ((lrm0 hd1).mpr (by rw [e1]; exact q.2.2.2.2)))⟩
    rw [x5_a h hr hm, x5_d h hr hm hd1, gdt nz, h]
    refine ⟨fun c2 => h1 ⟨ha, hb, ⟨hd1, hd.2⟩, ?_, ?_⟩, fun c2 => h0 (fun q => c2 ((lrm0 hd1).mpr (by rw [p2.1]; exact q.2.2.2.1)))⟩
    · rw [← p2.1]; exact (lrm0 hd1).mp c2
    · rw [← e1]; exact (lrm0 hd1).mp c1
theorem fu_all (h : gI S mi = nI m) (hm : m ≤ 64) (hs : rulF m (gA S ai) (gA S bi) (gA S di)) (hp : post (-1) S) : V_X5_firstUnsound mi ai bi di S post := by
  have key : ∀ (j k : Nat), k + j = m → V_X5_firstUnsound_2 mi ai bi di post (j + 1) (nI k) S := by
    intro j
    induction j with
    | zero =>
      intro k hk
      obtain rfl : k = m := by omega
      rw [V_X5_firstUnsound_2, h, brt (nI_le (Nat.le_refl _) (by omega))]
      exact hp
    | succ j ih =>
      intro k hk
      rw [V_X5_firstUnsound_2, h, brf (nI_ge (by omega) (by omega))]
      refine x5_sound h (by omega) hm (fun _ => ⟨fun e => absurd e (by decide), fun _ => ?_⟩) (fun q => absurd (hs k (by omega)) q)
      rw [ale, ← nI_succ]
      exact ih (k + 1) (by omega)
  exact ⟨m + 1, key m 0 (by omega)⟩
theorem fu_one (h : gI S mi = nI m) (hm : m ≤ 64) (hr : r < m) (hb : ∀ k, k < r → sndAt m k (gA S ai k) (gA S bi k) (gA S di k)) (hn : ¬ sndAt m r (gA S ai r) (gA S bi r) (gA S di r)) (hp : post (nI r) S) : V_X5_firstUnsound mi ai bi di S post := by
  have key : ∀ (j k : Nat), k + j = r → V_X5_firstUnsound_2 mi ai bi di post (j + 1) (nI k) S := by
    intro j
    induction j with
    | zero =>
      intro k hk
      obtain rfl : k = r := by omega
      rw [V_X5_firstUnsound_2, h, brf (nI_ge (by omega) (by omega))]
      exact x5_sound h (by omega) hm (fun q => absurd q hn) (fun _ => ⟨fun _ => hp, fun e => absurd rfl e⟩)
    | succ j ih =>
      intro k hk
      rw [V_X5_firstUnsound_2, h, brf (nI_ge (by omega) (by omega))]
      refine x5_sound h (by omega) hm (fun _ => ⟨fun e => absurd e (by decide), fun _ => ?_⟩) (fun q => absurd (hb k (by omega)) q)
      rw [ale, ← nI_succ]
      exact ih (k + 1) (by omega)
  exact ⟨r + 1, key r 0 (by omega)⟩
end
theorem first_not (P : Nat → Prop) (m : Nat) : (∀ r, r < m → P r) ∨ ∃ r, r < m ∧ ¬ P r ∧ ∀ k, k < r → P k := by
  induction m with
  | zero => exact Or.inl (fun r h => absurd h (by omega))
  | succ m ih =>
    rcases ih with h | ⟨r, h1, h2, h3⟩
    · by_cases c : P m
      · exact Or.inl (fun r hr => by
          by_cases e : r = m
          · rw [e]; exact c
          · exact h r (by omega))
      · exact Or.inr ⟨m, by omega, c, h⟩
    · exact Or.inr ⟨r, by omega, h2, h3⟩
