/-! ACT -/
theorem x2_addr {si ai L n : Nat} {v : Int64} {S : SS} {post : Int32 → SS → Prop} (h : gI S si = nI n) (hn : n < L) (hL : L < 2147483648) (hp : post 1 (sI (sA S ai (vp_updL (gA S ai) n v)) si (nI (n + 1)))) : V_X2_add si ai L v S post := by
  rw [x2_add h hn hL]; exact hp
theorem x1_add {n : Nat} {p0 p1 p2 p3 : Int32} {S : SS} {post : Int32 → SS → Prop} (hn : n < 12) (h12 : gI S 12 = nI n) (h13 : gI S 13 = nI n) (h14 : gI S 14 = nI n) (h15 : gI S 15 = nI n) (hp : post 1 (sI (sA (sI (sA (sI (sA (sI (sA S 22 (vp_updL (gA S 22) n p0.toInt64)) 12 (nI (n + 1))) 23 (vp_updL (gA S 23) n p1.toInt64)) 13 (nI (n + 1))) 24 (vp_updL (gA S 24) n p2.toInt64)) 14 (nI (n + 1))) 25 (vp_updL (gA S 25) n p3.toInt64)) 15 (nI (n + 1)))) : V_X1_add p0 p1 p2 p3 S post := by
  unfold V_X1_add
  refine x2_addr h12 hn (by omega) ⟨fun e => absurd e (by decide), fun _ => ?_⟩
  refine x2_addr (n := n) h13 hn (by omega) ⟨fun e => absurd e (by decide), fun _ => ?_⟩
  refine x2_addr (n := n) h14 hn (by omega) ⟨fun e => absurd e (by decide), fun _ => ?_⟩
  refine x2_addr (n := n) h15 hn (by omega) ⟨fun e => absurd e (by decide), fun _ => ?_⟩
  exact hp
theorem x1_addF {p0 p1 p2 p3 : Int32} {S : SS} {post : Int32 → SS → Prop} (h12 : gI S 12 = nI 12) (hp : post 0 S) : V_X1_add p0 p1 p2 p3 S post := by
  unfold V_X1_add
  rw [x2_addF h12 (by omega), brt rfl]
  exact hp
theorem x7_actN {p : Int32} {S : SS} {post : Int32 → SS → Prop} (h1 : 0 ≤ p.toInt ∧ p.toInt ≤ 11 → post 1 S) (h0 : ¬ (0 ≤ p.toInt ∧ p.toInt ≤ 11) → post 0 S) : V_X7_isActNumber p S post := by
  unfold V_X7_isActNumber
  refine ⟨fun c => h0 ?_, fun c => ⟨fun c2 => h0 ?_, fun c2 => h1 ?_⟩⟩
  · have d : p.toInt < 0 := lt32.mp c
    omega
  · have d : 12 ≤ p.toInt := le32.mp c2
    omega
  · have d : ¬ p.toInt < 0 := fun q => c (lt32.mpr q)
    have d2 : ¬ (12 : Int) ≤ p.toInt := fun q => c2 (le32.mpr q)
    omega
/-- an act that is taken -/
abbrev actOk (p0 p1 p2 p3 : Int32) : Prop := (0 ≤ p0.toInt ∧ p0.toInt ≤ 2) ∧ (p0.toInt ≠ 2 → (0 ≤ p1.toInt ∧ p1.toInt ≤ 3) ∧ (0 ≤ p2.toInt ∧ p2.toInt ≤ 11)) ∧ (p0.toInt = 1 → 0 ≤ p3.toInt ∧ p3.toInt ≤ 11)
theorem x7_act {p0 p1 p2 p3 : Int32} {S : SS} {post : Int32 → SS → Prop} (hno : ¬ actOk p0 p1 p2 p3 → post (-1) S) (hadd : actOk p0 p1 p2 p3 → V_X1_add p0 p1 p2 p3 S (fun r8 S9 => (r8 = 0 → post (-1) S9) ∧ (¬ r8 = 0 → V_X1_size S9 (fun r11 S12 => post (r11 - (1 : Int32)) S12)))) : V_X7_act p0 p1 p2 p3 S post := by
  have i2 : p0 = (2 : Int32) ↔ p0.toInt = 2 := eq32
  have i1 : p0 = (1 : Int32) ↔ p0.toInt = 1 := eq32
  unfold V_X7_act
  refine ⟨fun c => hno (fun q => ?_), fun c => ⟨fun c2 => ⟨fun e2 => ⟨fun e1 => ?_, fun e1 => ?_⟩, fun e2 => ⟨fun c3 => ?_, fun c3 => ⟨fun c4 => ?_, fun c4 => ?_⟩⟩⟩, fun c2 => ?_⟩⟩
  · have d : p0.toInt < 0 := lt32.mp c
    exact absurd q.1.1 (by omega)
  · have := i1.mp e1
    have := i2.mp e2
    omega
  · have a := i2.mp e2
    exact hadd ⟨by omega, fun q => absurd a q, fun q => absurd q (by omega)⟩
  · have d : p1.toInt < 0 := lt32.mp c3
    exact hno (fun q => absurd (q.2.1 (fun z => e2 (i2.mpr z))).1.1 (by omega))
  · have d : 4 ≤ p1.toInt := le32.mp c4
    exact hno (fun q => absurd (q.2.1 (fun z => e2 (i2.mpr z))).1.2 (by omega))
  · have d : ¬ p0.toInt < 0 := fun q => c (lt32.mpr q)
    have d2 : p0.toInt ≤ 2 := le32.mp c2
    have d3 : ¬ p1.toInt < 0 := fun q => c3 (lt32.mpr q)
    have d4 : ¬ (4 : Int) ≤ p1.toInt := fun q => c4 (le32.mpr q)
    refine x7_actN (fun hi => ⟨fun e => absurd e (by decide), fun _ => ⟨fun e1 => ?_, fun e1 => ?_⟩⟩) (fun hi => ⟨fun _ => ?_, fun e => absurd rfl e⟩)
    · refine x7_actN (fun hj => ⟨fun e => absurd e (by decide), fun _ => ?_⟩) (fun hj => ⟨fun _ => ?_, fun e => absurd rfl e⟩)
      · exact hadd ⟨by omega, fun _ => ⟨by omega, hi⟩, fun _ => hj⟩
      · exact hno (fun q => hj (q.2.2 (i1.mp e1)))
    · exact hadd ⟨by omega, fun _ => ⟨by omega, hi⟩, fun q => absurd (i1.mpr q) e1⟩
    · exact hno (fun q => hi (q.2.1 (fun z => e2 (i2.mpr z))).2)
  · have d2 : ¬ p0.toInt ≤ 2 := fun q => c2 (le32.mpr q)
    exact hno (fun q => d2 q.1.2)
/-- what the reference writes -/
def V_app (p0 p1 p2 p3 : Int32) (S3 : SS) (post : Int32 → SS → Prop) : Prop := (((12 : Int32) ≤ (gI S3 31) → (post (-1 : Int32) S3)) ∧ (¬ (12 : Int32) ≤ (gI S3 31) → (vp_in ((4 : Int32) * (gI S3 31)) 48 ∧ ∀ S23 : SS, S23 = (sB S3 3 (upd (gB S3 3) ((4 : Int32) * (gI S3 31)).toNatClampNeg p0)) → (vp_in (((4 : Int32) * (gI S23 31)) + (1 : Int32)) 48 ∧ ∀ S24 : SS, S24 = (sB S23 3 (upd (gB S23 3) (((4 : Int32) * (gI S23 31)) + (1 : Int32)).toNatClampNeg p1)) → (vp_in (((4 : Int32) * (gI S24 31)) + (2 : Int32)) 48 ∧ ∀ S25 : SS, S25 = (sB S24 3 (upd (gB S24 3) (((4 : Int32) * (gI S24 31)) + (2 : Int32)).toNatClampNeg p2)) → (vp_in (((4 : Int32) * (gI S25 31)) + (3 : Int32)) 48 ∧ ∀ S26 : SS, S26 = (sB S25 3 (upd (gB S25 3) (((4 : Int32) * (gI S25 31)) + (3 : Int32)).toNatClampNeg p3)) → (∀ S27 : SS, S27 = (sI S26 31 ((gI S26 31) + (1 : Int32))) → (post ((gI S27 31) - (1 : Int32)) S27))))))))
theorem x8_act {p0 p1 p2 p3 : Int32} {S : SS} {post : Int32 → SS → Prop} (hno : ¬ actOk p0 p1 p2 p3 → post (-1) (sI S 20 0)) (hadd : actOk p0 p1 p2 p3 → V_app p0 p1 p2 p3 (sI S 20 0) post) : V_X8_act p0 p1 p2 p3 S post := by
  have i2 : p0 = (2 : Int32) ↔ p0.toInt = 2 := eq32
  have i1 : p0 = (1 : Int32) ↔ p0.toInt = 1 := eq32
  have inn : ∀ {x : Int32} {a b : Int64} {S : SS} {post : Int32 → SS → Prop}, (a.toInt ≤ x.toInt ∧ x.toInt ≤ b.toInt → post 1 S) → (¬ (a.toInt ≤ x.toInt ∧ x.toInt ≤ b.toInt) → post 0 S) → V_X8_in x.toInt64 a b S post := fun {x a b S post} h1 h0 => in_of (by rw [i64_toInt]; exact h1) (by rw [i64_toInt]; exact h0)
  unfold V_X8_act
  rw [ale]
  refine inn (fun h0 => ⟨fun e => absurd e (by decide), fun _ => ⟨fun e2 => ⟨fun e1 => ?_, fun e1 => ?_⟩, fun e2 => ?_⟩⟩) (fun h0 => ⟨fun _ => hno (fun q => h0 q.1), fun e => absurd rfl e⟩)
  · have := i1.mp e1
    have := i2.mp e2
    omega
  · have a := i2.mp e2
    exact hadd ⟨h0, fun q => absurd a q, fun q => absurd q (by omega)⟩
  · have n2 : p0.toInt ≠ 2 := fun z => e2 (i2.mpr z)
    refine inn (fun h1 => ⟨fun e => absurd e (by decide), fun _ => ?_⟩) (fun h1 => ⟨fun _ => hno (fun q => h1 (q.2.1 n2).1), fun e => absurd rfl e⟩)
    refine inn (fun h2 => ⟨fun e => absurd e (by decide), fun _ => ⟨fun e1 => ?_, fun e1 => ?_⟩⟩) (fun h2 => ⟨fun _ => hno (fun q => h2 (q.2.1 n2).2), fun e => absurd rfl e⟩)
    · refine inn (fun h3 => ⟨fun e => absurd e (by decide), fun _ => ?_⟩) (fun h3 => ⟨fun _ => hno (fun q => h3 (q.2.2 (i1.mp e1))), fun e => absurd rfl e⟩)
      exact hadd ⟨h0, fun _ => ⟨h1, h2⟩, fun _ => h3⟩
    · exact hadd ⟨h0, fun _ => ⟨h1, h2⟩, fun q => absurd (i1.mpr q) e1⟩
theorem app_of {n : Nat} {p0 p1 p2 p3 : Int32} {S : SS} {post : Int32 → SS → Prop} (h : gI S 31 = nI n) (hn : n < 12) (hp : post (nI n) (sI (sB S 3 (upd (upd (upd (upd (gB S 3) (4 * n) p0) (4 * n + 1) p1) (4 * n + 2) p2) (4 * n + 3) p3)) 31 (nI (n + 1)))) : V_app p0 p1 p2 p3 S post := by
  have hB : ∀ f : Nat → Int32, gI (sB S 3 f) 31 = nI n := fun _ => h
  unfold V_app
  rw [h, brf (c := (12 : Int32) ≤ nI n) (nI_ge (b := 12) hn (by omega)), nmul4 (by omega), gdt (vp_in_nI (by omega) (by omega)), ale, hB, nmul4 (by omega), nadd1, gdt (vp_in_nI (by omega) (by omega)), ale, sB_sB, gB_sB, hB, nmul4 (by omega), nadd2, gdt (vp_in_nI (by omega) (by omega)), ale, sB_sB, gB_sB, hB, nmul4 (by omega), nadd3, gdt (vp_in_nI (by omega) (by omega)), ale, sB_sB, gB_sB, hB, ale, nadd1, gI_sI, nsub1 (by omega), nI_clamp (by omega), nI_clamp (by omega), nI_clamp (by omega), nI_clamp (by omega)]
  exact hp
