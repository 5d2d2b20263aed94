/-! GO to its end -/
def g4 (a b c d : Nat) : Nat → Nat := fun h => if h = 0 then a else if h = 1 then b else if h = 2 then c else d
theorem g4_le {a b c d : Nat} (ha : a ≤ 1000) (hb : b ≤ 1000) (hc : c ≤ 1000) (hd : d ≤ 1000) : ∀ h, g4 a b c d h ≤ 1000 + 0 := by
  intro h
  unfold g4
  by_cases c0 : h = 0
  · rw [if_pos c0]; omega
  · rw [if_neg c0]
    by_cases c0 : h = 1
    · rw [if_pos c0]; omega
    · rw [if_neg c0]
      by_cases c0 : h = 2
      · rw [if_pos c0]; omega
      · rw [if_neg c0]; omega
theorem lt4 {P : Nat → Prop} (h0 : P 0) (h1 : P 1) (h2 : P 2) (h3 : P 3) : ∀ h, h < 4 → P h := by
  intro h hh
  rcases (show h = 0 ∨ h = 1 ∨ h = 2 ∨ h = 3 by omega) with e | e | e | e <;> subst e <;> assumption
theorem x1_fill4 {a b c d : Nat} (ha : a ≤ 1000) (hb : b ≤ 1000) (hc : c ≤ 1000) (hd : d ≤ 1000) {S : SS} {post : SS → Prop} (hp : ∀ U, Kp [16] [] [] [26] S U → gI U 16 = nI 4 → HP (gA U 26) (g4 a b c d) → post U) : V_X1_fill (nI a) (nI b) (nI c) (nI d) S post := by
  unfold V_X1_fill
  rw [nI_i64 (by omega), nI_i64 (by omega), nI_i64 (by omega), nI_i64 (by omega)]
  refine x2_emptyL (fun U1 k1 h1 => ?_)
  refine x2_addL h1 (by decide) (by omega) (fun U2 k2 h2 => ?_)
  refine x2_addL h2 (show 1 < 4 by omega) (by omega) (fun U3 k3 h3 => ?_)
  refine x2_addL h3 (show 2 < 4 by omega) (by omega) (fun U4 k4 h4 => ?_)
  refine x2_addL h4 (show 3 < 4 by omega) (by omega) (fun U5 k5 h5 => ?_)
  refine hp U5 (kp_trans k1 (kp_trans k2 (kp_trans k3 (kp_trans k4 k5)))) h5.1 (lt4 ?_ ?_ ?_ ?_)
  · exact h5.2 0 _ rfl
  · exact h5.2 1 _ rfl
  · exact h5.2 2 _ rfl
  · exact h5.2 3 _ rfl
theorem x1_done {S : SS} {post : Int32 → SS → Prop} : V_X1_done S post = post (gI S 17) S := rfl
theorem x7_go64 {r : Int32} {g : Nat → Nat} {dn : Nat} (hd : dn ≤ 100000) {T : SS} {post : Int32 → SS → Prop} (h16 : gI T 16 = nI 4) (h17 : gI T 17 = nI dn) (hg : HP (gA T 26) g) (h7 : NR T 7 12 []) (hp : ∀ U, Kp [7] [] [] [12] T U → NR U 7 12 (goL g dn) → post r U) : ∃ j, V_X7_go_64 r post j 0 T := by
  have step : ∀ (j h : Nat) (l : List Int64) (U : SS), h < 4 → l.length < 1000 → Kp [7] [] [] [12] T U → NR U 7 12 l → (∀ W, Kp [7] [] [] [12] T W → NR W 7 12 (l ++ [lN (g h)]) → V_X7_go_64 r post j (nI (h + 1)) W) → V_X7_go_64 r post (j + 1) (nI h) U := fun j h l U hh hl kU hU hk => by
    rw [V_X7_go_64, brf (c := (4 : Int32) ≤ nI h) (nI_ge (b := 4) hh (by omega))]
    unfold V_X1_inHeap
    have e16 : gI U 16 = nI 4 := (kU.1 16 (by decide)).trans h16
    have e26 : gA U 26 h = lN (g h) := by rw [kU.2.2.2 26 (by decide)]; exact hg h hh
    rw [x2_at e16 hh (Nat.le_refl _) (by omega), e26]
    refine x2_addL hU hl (by omega) (fun W kW hW => ?_)
    rw [ale, nadd1]
    exact hk W (kp_trans kU kW) hW
  refine ⟨5, ?_⟩
  refine step 4 0 [] T (by omega) (by decide) (kp_refl _ _ _ _ T) h7 (fun U1 k1 h1 => ?_)
  refine step 3 1 [lN (g 0)] U1 (by omega) (show 1 < 1000 by omega) k1 h1 (fun U2 k2 h2 => ?_)
  refine step 2 2 [lN (g 0), lN (g 1)] U2 (by omega) (show 2 < 1000 by omega) k2 h2 (fun U3 k3 h3 => ?_)
  refine step 1 3 [lN (g 0), lN (g 1), lN (g 2)] U3 (by omega) (show 3 < 1000 by omega) k3 h3 (fun U4 k4 h4 => ?_)
  rw [V_X7_go_64, brt (c := (4 : Int32) ≤ nI (3 + 1)) (by decide), x1_done, show gI U4 17 = nI dn from (k4.1 17 (by decide)).trans h17, nI_i64 (by omega)]
  exact x2_addL h4 (show 4 < 1000 by omega) (by omega) (fun W kW hW => hp W (kp_trans k4 kW) hW)
theorem p_go {p0 p1 p2 p3 p4 : Int32} {S : SS} (h : RR S) : V_X7_go p0 p1 p2 p3 p4 S (fun r1 S2 => V_X8_go p0 p1 p2 p3 p4 S2 (fun r3 S4 => (r1 = r3 → RR S4) ∧ (¬ r1 = r3 → False))) := by
  obtain ⟨n, hm⟩ := mac_of h
  have hn12 := hm.1
  have e31 : gI (sI S 20 0) 31 = nI n := hm.2.2.2.2.2.1
  have hno : ¬ (¬ n = 0 ∧ H4 p0 p1 p2 p3 ∧ (0 ≤ p4.toInt ∧ p4.toInt ≤ 100000)) → V_X8_go p0 p1 p2 p3 p4 S (fun r3 S4 => ((-1 : Int32) = r3 → RR S4) ∧ (¬ (-1 : Int32) = r3 → False)) := fun c => by
    show V_X8_go _ _ _ _ _ _ _
    unfold V_X8_go
    rw [ale, e31]
    refine ⟨fun _ => eqp rfl h, fun c0 => ?_⟩
    refine x8_heaps (fun c1 => ⟨fun z => absurd z (by decide), fun _ => ?_⟩) (fun c1 => ⟨fun _ => eqp rfl h, fun z => absurd rfl z⟩)
    refine in32 (a := 0) (b := 100000) rfl rfl (fun c2 => ?_) (fun c2 => ⟨fun _ => eqp rfl h, fun z => absurd rfl z⟩)
    exact absurd ⟨fun z => c0 (by rw [z]; rfl), c1, c2⟩ c
  unfold V_X7_go
  rw [x1_size, hm.2.1]
  refine ⟨fun c => hno (fun q => q.1 ((nI_inj (b := 0) (by omega) (by omega)).mp c)), fun c => ?_⟩
  refine x7_heaps (fun c1 => ⟨fun z => absurd z (by decide), fun _ => ?_⟩) (fun c1 => ⟨fun _ => hno (fun q => c1 q.2.1), fun z => absurd rfl z⟩)
  refine x7_steps (fun c2 => ⟨fun z => absurd z (by decide), fun _ => ?_⟩) (fun c2 => ⟨fun _ => hno (fun q => c2 q.2.2), fun z => absurd rfl z⟩)
  have c : ¬ n = 0 := fun z => c (by rw [z]; rfl)
  obtain ⟨a, rfl, -, ha⟩ := nat32 (p := p0) 0 1000 c1.1.1 c1.1.2 (by omega)
  obtain ⟨b, rfl, -, hb⟩ := nat32 (p := p1) 0 1000 c1.2.1.1 c1.2.1.2 (by omega)
  obtain ⟨d, rfl, -, hd⟩ := nat32 (p := p2) 0 1000 c1.2.2.1.1 c1.2.2.1.2 (by omega)
  obtain ⟨e, rfl, -, he⟩ := nat32 (p := p3) 0 1000 c1.2.2.2.1 c1.2.2.2.2 (by omega)
  obtain ⟨k, rfl, -, hk⟩ := nat32 (p := p4) 0 100000 c2.1 c2.2 (by omega)
  refine x1_fill4 ha hb hd he (fun U1 k1 h16 hg => ?_)
  obtain ⟨hm1, eB1⟩ := mac_kp hm k1 (by decide) (by decide) (by decide)
  unfold V_X1_work
  rw [ale]
  have k2 : Kp [16, 17] [] [] [26] S (sI U1 17 0) := kp_sI (kp_mono k1 (by decide) (by decide) (by decide) (by decide)) (by decide)
  refine ⟨k + 1, x1_work7 (n := n) (b := gB S 3) hk k 0 0 (g4 a b d e) (sI U1 17 0) (by omega) hm1 eB1 (by omega) h16 rfl hg (g4_le ha hb hd he) (fun U3 k3 e17 ledn hg3 hle3 => ?_)⟩
  have q16 : gI U3 16 = nI 4 := (k3.1 16 (by decide)).trans h16
  have k3 := kp_trans k2 (kp_mono k3 (by decide) (by decide) (by decide) (by decide))
  refine x2_emptyL (fun U4 k4 h4 => ?_)
  have k4' : Kp [7, 16, 17] [] [] [12, 26] S U4 := kp_trans (kp_mono k3 (by decide) (by decide) (by decide) (by decide)) (kp_mono k4 (by decide) (by decide) (by decide) (by decide))
  refine x7_go64 (dn := (gF n (gB S 3) k 0 0 (g4 a b d e)).2.1) (g := (gF n (gB S 3) k 0 0 (g4 a b d e)).2.2) (by omega) ((k4.1 16 (by decide)).trans q16) ((k4.1 17 (by decide)).trans e17) (by rw [k4.2.2.2 26 (by decide)]; exact hg3) h4 (fun U5 k5 h5 => ?_)
  have k5' : Kp [7, 16, 17] [] [] [12, 26] S U5 := kp_trans k4' (kp_mono k5 (by decide) (by decide) (by decide) (by decide))
  obtain ⟨hm5, eB5⟩ := mac_kp hm k5' (by decide) (by decide) (by decide)
  show V_X8_go _ _ _ _ _ _ _
  unfold V_X8_go
  have e315 : gI (sI U5 20 0) 31 = nI n := hm5.2.2.2.2.2.1
  rw [ale, e315, brf (nI_ne0 (by omega) (by omega))]
  refine x8_heaps (fun _ => ⟨fun z => absurd z (by decide), fun _ => ?_⟩) (fun q => absurd c1 q)
  refine in32 (a := 0) (b := 100000) rfl rfl (fun _ => ⟨fun z => absurd z (by decide), fun _ => ?_⟩) (fun q => absurd c2 q)
  rw [gdt (by unfold vp_in; decide), ale, gdt (by unfold vp_in; decide), ale, gdt (by unfold vp_in; decide), ale, gdt (by unfold vp_in; decide), ale, nI_i64 (by omega), nI_i64 (by omega), nI_i64 (by omega), nI_i64 (by omega)]
  have k6 : Kp rI tJ tB rA S (sI U5 20 0) := kp_sI (kp_mono k5' (by decide) (by decide) (by decide) (by decide)) (by decide)
  generalize hU6 : sA (sA (sA (sA (sI U5 20 0) 36 _) 36 _) 36 _) 36 _ = U6
  have k7 : Kp rI tJ tB rA S U6 := by
    rw [← hU6]
    exact kp_sA (kp_sA (kp_sA (kp_sA k6 (by decide)) (by decide)) (by decide)) (by decide)
  have hg6 : HP (gA U6 36) (g4 a b d e) := by
    rw [← hU6]
    exact lt4 rfl rfl rfl rfl
  have hm6 : MAc U6 n := by rw [← hU6]; exact hm5
  have eB6 : gB U6 3 = gB S 3 := by rw [← hU6]; exact eB5
  have h6 : NR U6 7 12 (goL (gF n (gB S 3) k 0 0 (g4 a b d e)).2.2 (gF n (gB S 3) k 0 0 (g4 a b d e)).2.1) := by rw [← hU6]; exact h5
  refine ⟨k + 2, x8_go81 (n := n) (b := gB S 3) hk k 0 0 (g4 a b d e) U6 (by omega) hm6 eB6 (by omega) hg6 (g4_le ha hb hd he) (fun U kU hU => eqp rfl ?_)⟩
  refine RR_row h (kp_trans k7 (kp_mono kU (by decide) (by decide) (by decide) (by decide))) ?_ (Rro_of (nr_kp h6 kU (by decide) (by decide)) hU (by show 5 ≤ 1000; omega))
  have kk := kp_trans k7 (kp_mono kU (by decide) (by decide) (by decide) (by decide) : Kp rI tJ tB rA U6 U)
  have e5 := k5'.2.2.2
  rw [kU.2.2.2 17 (by decide), kU.2.2.2 18 (by decide), kU.2.2.2 19 (by decide), ← hU6]
  show Rs0 (gA U5 17) (gA U5 18) (gA U5 19)
  rw [e5 17 (by decide), e5 18 (by decide), e5 19 (by decide)]
  exact h.2.2.2.2.2.2
