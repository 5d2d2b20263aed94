/-! RINGS: one word's -/
theorem dvG {x y : Int64} (h : x.toInt.natAbs ≤ 4000000000000000000) : (x / y).toInt = x.toInt.tdiv y.toInt :=
  Int64.toInt_div_of_ne_left x y (fun e => by
    rw [e] at h
    exact absurd h (by decide))
theorem lrmG {x y : Int64} (h : x.toInt.natAbs ≤ 4000000000000000000) (h0 : y.toInt ≠ 0) : lrm x y = (0 : Int64) ↔ y.toInt ∣ x.toInt := by
  by_cases c : y.toInt = -1
  · have e := dvG (y := y) h
    rw [c, Int.tdiv_neg, Int.tdiv_one] at e
    have e2 : (x / y * y).toInt = x.toInt := by
      rw [m64 (by rw [e, c]; omega) (by rw [e, c]; omega), e, c]; omega
    refine ⟨fun _ => by rw [c]; exact ⟨-x.toInt, by omega⟩, fun _ => ?_⟩
    rw [eq64]
    show (x - x / y * y).toInt = 0
    rw [s64 (by rw [e2]; omega) (by rw [e2]; omega), e2]
    omega
  · rw [eq64, lrm_toInt c h0, show (0 : Int64).toInt = 0 from rfl]
    exact ⟨Int.dvd_of_tmod_eq_zero, Int.tmod_eq_zero_of_dvd⟩
/-- the class's multiple and the reference's lowest terms say the same of a ring -/
theorem ring_rep {X Y Z P Q R : Int64} (hX : isN X) (hY : isN Y) (hZ : isN Z) (hpos : 1 ≤ Z.toInt) (h : rd (X.toInt, Y.toInt, Z.toInt) = (P.toInt, Q.toInt, R.toInt)) : (X = Z ↔ P = R) ∧ (Y = 0 ↔ Q = 0) ∧ (Z - X = 0 ↔ X = Z) ∧ (R - P = 0 ↔ P = R) ∧ (¬ X = Z → (lrm Y (Z - X) = 0 ↔ lrm Q (R - P) = 0) ∧ (lrm Y (Z - X) = 0 → Y / (Z - X) = Q / (R - P) ∧ isN (Q / (R - P)))) := by
  have e := rd_eq (X.toInt, Y.toInt, Z.toInt)
  have hg := g3_pos (t := (X.toInt, Y.toInt, Z.toInt)) hpos
  have hle := rd_le (t := (X.toInt, Y.toInt, Z.toInt)) hpos
  rw [h] at e hle
  generalize hG : (g3 (X.toInt, Y.toInt, Z.toInt) : Int) = g at *
  have hg : 1 ≤ g := by omega
  have eX : g * P.toInt = X.toInt := congrArg (fun x : T3 => x.1) e
  have eY : g * Q.toInt = Y.toInt := congrArg (fun x : T3 => x.2.1) e
  have eZ : g * R.toInt = Z.toInt := congrArg (fun x : T3 => x.2.2) e
  have bX := isN_abs.mp hX
  have bY := isN_abs.mp hY
  have bZ := isN_abs.mp hZ
  obtain ⟨bP, bQ, bR⟩ := hle
  have bP : P.toInt.natAbs ≤ X.toInt.natAbs := bP
  have bQ : Q.toInt.natAbs ≤ Y.toInt.natAbs := bQ
  have bR : R.toInt.natAbs ≤ Z.toInt.natAbs := bR
  have d1 : (Z - X).toInt = Z.toInt - X.toInt := s64 (by omega) (by omega)
  have d2 : (R - P).toInt = R.toInt - P.toInt := s64 (by omega) (by omega)
  have d3 : Z.toInt - X.toInt = g * (R.toInt - P.toInt) := by rw [Int.mul_sub, eX, eZ]
  have i1 : X = Z ↔ P = R := by
    rw [eq64, eq64, ← eX, ← eZ]
    exact ⟨fun q => Int.eq_of_mul_eq_mul_left (by omega) q, fun q => by rw [q]⟩
  have i3 : Z - X = 0 ↔ X = Z := by
    rw [eq64, eq64, d1, show (0 : Int64).toInt = 0 from rfl]; omega
  have i4 : R - P = 0 ↔ P = R := by
    rw [eq64, eq64, d2, show (0 : Int64).toInt = 0 from rfl]; omega
  refine ⟨i1, ?_, i3, i4, fun c => ?_⟩
  · rw [eq64, eq64, ← eY, show (0 : Int64).toInt = 0 from rfl]
    exact ⟨fun q => (Int.mul_eq_zero.mp q).resolve_left (by omega), fun q => by rw [q, Int.mul_zero]⟩
  · have n1 : (Z - X).toInt ≠ 0 := fun z => c (i3.mp (eq64.mpr z))
    have n2 : (R - P).toInt ≠ 0 := fun z => c (i1.mpr (i4.mp (eq64.mpr z)))
    have dd : lrm Y (Z - X) = 0 ↔ lrm Q (R - P) = 0 := by
      rw [lrmG (by omega) n1, lrmG (by omega) n2, d1, d2, d3, ← eY]
      exact Int.mul_dvd_mul_iff_left (by omega)
    refine ⟨dd, fun q => ?_⟩
    have e1 : (Y / (Z - X)).toInt = Y.toInt.tdiv (Z - X).toInt := dvG (by omega)
    have e2 : (Q / (R - P)).toInt = Q.toInt.tdiv (R - P).toInt := dvG (by omega)
    constructor
    · rw [eq64, e1, e2, d1, d2, d3, ← eY, Int.mul_tdiv_mul_of_pos _ _ (by omega)]
    · rw [isN_abs, e2, Int.natAbs_tdiv]
      exact Nat.le_trans (Nat.div_le_self _ _) (by omega)
/-- where x is behind i steps -/
def obF (m : Nat) (a b d : Nat → Int64) (x : Int64) : Nat → Int64
  | 0 => x
  | i + 1 => aftR m a b d (obF m a b d x i)
def RGP (m : Nat) (a b d : Nat → Int64) (w : Nat → Nat) (n : Nat) (x : Int64) : Prop := (∀ i, i < n → isN (obF m a b d x i) ∧ rst (obF m a b d x i) m = w i) ∧ obF m a b d x n = x
theorem aftR_cases (m : Nat) (a b d : Nat → Int64) (x : Int64) : isN (aftR m a b d x) ∨ aftR m a b d x = 3000000000000000 := by
  by_cases c : isN (stp a b d x (rst x m))
  · rw [aftR_in c]; exact Or.inl c
  · exact Or.inr (aftR_out c)
section
variable {m : Nat} {S : SS} {x : Int64}
theorem x5_afterR {post : Int64 → SS → Prop} (h : RUL S m) (hp : post (aftR m (gA S 0) (gA S 1) (gA S 2) x) S) : V_X5_after 1 0 1 2 x S post := by
  rw [x5_after (m := m) ⟨h.2.2.2.2.1, h.1, h.2.1, h.2.2.2.2.2.2.1⟩]
  refine ⟨fun c => ?_, fun c => ?_⟩
  · rw [aftR_in c] at hp; exact hp
  · rw [aftR_out c] at hp; exact hp
theorem rk_of {T : SS} (h : RUL T m) : RK T := by
  obtain ⟨h1, h2, h3, h4, h5, h6, h7, h8⟩ := h
  exact ⟨h4.trans h3.symm, Or.inr (Or.inl ⟨h3, m, h1, h2, h5, h6, h7, h8⟩)⟩
theorem aft_rul (h : RUL S m) : aft S x = aftR m (gA S 0) (gA S 1) (gA S 2) x := by
  unfold aft
  rw [if_pos h.2.2.1, h.2.2.2.2.1, nI_nat (by have := h.2.1; omega)]
theorem x8_goesR {post : Int32 → SS → Prop} (h : RUL S m) (hb : ¬ isN (aftR m (gA S 0) (gA S 1) (gA S 2) x) → ∀ z, post 2 (sJ S 0 z)) (hn : isN (aftR m (gA S 0) (gA S 1) (gA S 2) x) → post 0 (sJ S 0 (aftR m (gA S 0) (gA S 1) (gA S 2) x))) : V_X8_goes x S post := by
  have e := aft_rul (x := x) h
  have g0 : ¬ gI S 0 = 0 := by rw [h.2.2.1]; decide
  refine x8_goes (rk_of h) g0 (fun q => ?_) (fun q => ?_) (fun q => ?_)
  · rw [e] at q
    rcases aftR_cases m (gA S 0) (gA S 1) (gA S 2) x with z | z
    · rw [q] at z; exact absurd z notN_end
    · rw [q] at z; exact absurd z (by decide)
  · rw [e] at q
    exact hb (by rw [q]; exact notN_bey)
  · rw [e] at q ⊢
    exact hn q
end
section
variable {m n : Nat} {a b d : Nat → Int64} {w : Nat → Nat} {x : Int64}
theorem x7_rn62 {si ai L : Nat} {S : SS} {post : Int64 → SS → Prop} (hn : n ≤ 40) (hnL : n ≤ L) (hL : L < 2147483648) (h : RUL S m) (hs : gA S 0 = a ∧ gA S 1 = b ∧ gA S 2 = d) (hW : WC S si ai n w) (hw : ∀ k, k < n → w k < m) (h1 : RGP m a b d w n x → post x S) (h0 : ¬ RGP m a b d w n x → post 3000000000000000 S) : ∀ (j i : Nat), i + j = n → (∀ t, t < i → isN (obF m a b d x t) ∧ rst (obF m a b d x t) m = w t) → V_X7_ringNumber_62 si ai L (nI n) x post (j + 1) (obF m a b d x i) (nI i) S := by
  have hm := h.2.1
  have hm2 := h.1
  intro j
  induction j with
  | zero =>
    intro i hi hq
    obtain rfl : i = n := by omega
    rw [V_X7_ringNumber_62, brt (nI_le (Nat.le_refl _) (by omega))]
    exact ⟨fun c => h1 ⟨hq, c⟩, fun c => h0 (fun z => c z.2)⟩
  | succ j ih =>
    intro i hi hq
    have hin : i < n := by omega
    have hwi := hw i hin
    rw [V_X7_ringNumber_62, brf (nI_ge hin (by omega))]
    refine x7_isNum (fun cn => ⟨fun z => absurd z (by decide), fun _ => ?_⟩) (fun cn => ⟨fun _ => h0 (fun z => cn (z.1 i hin).1), fun z => absurd rfl z⟩)
    have hrl := rest_lt (obF m a b d x i) (show 1 ≤ m by omega)
    rw [x5_restOf h.2.2.2.2.1 (by omega) hm, x2_at hW.1 hin hnL hL, hW.2 i hin]
    have er : (nI (rst (obF m a b d x i) m)).toInt64 = lN (w i) ↔ rst (obF m a b d x i) m = w i := by
      rw [nI_i64 (by show (_ % _ : Int).toNat < _; omega)]
      exact pk_lEQ (by show (_ % _ : Int).toNat < _; omega) (by omega)
    refine ⟨fun c => ?_, fun c => h0 (fun z => c (er.mpr (z.1 i hin).2))⟩
    have c := er.mp c
    refine x5_afterR h ?_
    rw [ale, nadd1, hs.1, hs.2.1, hs.2.2]
    refine ih (i + 1) (by omega) (fun t ht => ?_)
    rcases Nat.lt_or_eq_of_le (Nat.le_of_lt_succ ht) with y | y
    · exact hq t y
    · rw [y]; exact ⟨cn, c⟩
/-- the least so far, and whether x came again -/
def mnF (m : Nat) (a b d : Nat → Int64) (x : Int64) : Nat → Int64
  | 0 => x
  | i + 1 => mnL (mnF m a b d x i) (obF m a b d x i)
def ulF (m : Nat) (a b d : Nat → Int64) (x : Int64) : Nat → Int32
  | 0 => 1
  | i + 1 => if ulF m a b d x i = 0 then 0 else if i = 0 then 1 else if obF m a b d x i = x then 0 else 1
theorem x8_ro84 {bi L : Nat} {post : Int32 → SS → Prop} (hn : n ≤ L) (hL : L ≤ 40) (hbi : bi ≠ 3) (hw : ∀ k, k < n → w k < m) : ∀ (j i : Nat) (T : SS), i + j = n → RUL T m → gA T 0 = a ∧ gA T 1 = b ∧ gA T 2 = d → WR T bi n w → gJ T 4 = x → gJ T 0 = obF m a b d x i → gJ T 5 = mnF m a b d x i → gI T 30 = ulF m a b d x i → (∀ t, t < i → isN (obF m a b d x t) ∧ rst (obF m a b d x t) m = w t) → (RGP m a b d w n x → ∀ U, Kp [30] [0, 4, 5] [] [] T U → gJ U 4 = x → gJ U 5 = mnF m a b d x n → gI U 30 = ulF m a b d x n → post 1 U) → (¬ RGP m a b d w n x → ∀ U, Kp [30] [0, 4, 5] [] [] T U → post 0 U) → V_X8_ringOf_84 bi L (nI n) post (j + 1) (nI i) T := by
  intro j
  induction j with
  | zero =>
    intro i T hi h hs hW h4 hJ h5 h30 hq h1 h0
    obtain rfl : i = n := by omega
    rw [V_X8_ringOf_84, brt (nI_le (Nat.le_refl _) (by omega)), hJ, h4]
    exact ⟨fun c => h1 ⟨hq, c⟩ T (kp_refl _ _ _ _ T) h4 h5 h30, fun c => h0 (fun z => c z.2) T (kp_refl _ _ _ _ T)⟩
  | succ j ih =>
    intro i T hi h hs hW h4 hJ h5 h30 hq h1 h0
    have hin : i < n := by omega
    have hwi := hw i hin
    have hm := h.2.1
    have hm2 := h.1
    rw [V_X8_ringOf_84, brf (nI_ge hin (by omega)), hJ]
    refine x8_isNum (fun cn => ⟨fun z => absurd z (by decide), fun _ => ?_⟩) (fun cn => ⟨fun _ => h0 (fun z => cn (z.1 i hin).1) T (kp_refl _ _ _ _ T), fun z => absurd rfl z⟩)
    rw [hJ, h.2.2.2.2.2.1]
    refine x8_restBy (by omega) hm ⟨vp_in_nI (by omega) (by omega), ?_⟩
    rw [nI_clamp (by omega), hW i hin]
    refine ⟨fun c => ?_, fun c => h0 (fun z => c ((rst_eq (by omega) hm (by omega)).mpr (z.1 i hin).2)) T (kp_refl _ _ _ _ T)⟩
    have c := (rst_eq (by omega) hm (by omega)).mp c
    have hq1 : ∀ t, t < i + 1 → isN (obF m a b d x t) ∧ rst (obF m a b d x t) m = w t := fun t ht => by
      rcases Nat.lt_or_eq_of_le (Nat.le_of_lt_succ ht) with y | y
      · exact hq t y
      · rw [y]; exact ⟨cn, c⟩
    -- one more step, whatever the flag
    have go : ∀ f : Int32, f = ulF m a b d x (i + 1) → ∀ S18 : SS, S18 = sI T 30 f → ∀ y19 : Int64, y19 = mnL (gJ S18 5) (gJ S18 0) → ∀ S20 : SS, S20 = sJ S18 5 y19 → V_X8_goes (gJ S20 0) S20 (fun r21 S22 => (r21 = 0 → ∀ x24 : Int32, x24 = nI i + 1 → V_X8_ringOf_84 bi L (nI n) post (j + 1) x24 S22) ∧ (¬ r21 = 0 → post 0 S22)) := fun f hf S18 e18 y19 e19 S20 e20 => by
      subst e18
      subst e19
      subst e20
      have g5 : gJ (sI T 30 f) 5 = mnF m a b d x i := h5
      have g0 : gJ (sI T 30 f) 0 = obF m a b d x i := hJ
      rw [g5, g0]
      show V_X8_goes (gJ T 0) _ _
      rw [hJ]
      generalize hV : sJ (sI T 30 f) 5 (mnL (mnF m a b d x i) (obF m a b d x i)) = V
      have kV : Kp [30] [0, 4, 5] [] [] T V := by
        rw [← hV]
        exact kp_sJ (kp_sI (kp_refl _ _ _ _ T) (by decide)) (by decide)
      obtain ⟨hR, s1, s2, s3⟩ := rul_kp h kV (by decide) (by decide)
      have ea : aftR m (gA V 0) (gA V 1) (gA V 2) (obF m a b d x i) = obF m a b d x (i + 1) := by
        rw [s1, s2, s3, hs.1, hs.2.1, hs.2.2]; rfl
      refine x8_goesR hR (fun q z => ⟨fun z => absurd z (by decide), fun _ => ?_⟩) (fun q => ⟨fun _ => ?_, fun z => absurd rfl z⟩)
      · rw [ea] at q
        refine h0 (fun z => ?_) _ (kp_sJ kV (by decide))
        rcases Nat.lt_or_eq_of_le (show i + 1 ≤ n by omega) with y | y
        · exact q (z.1 (i + 1) y).1
        · rw [y, z.2] at q
          exact q (z.1 0 (by omega)).1
      · rw [ea, ale, nadd1]
        have v4 : gJ V 4 = x := by rw [← hV]; exact h4
        have v5 : gJ V 5 = mnF m a b d x (i + 1) := by rw [← hV]; rfl
        have v30 : gI V 30 = ulF m a b d x (i + 1) := by rw [← hV]; exact hf
        have kW : Kp [30] [0, 4, 5] [] [] T (sJ V 0 (obF m a b d x (i + 1))) := kp_sJ kV (by decide)
        exact ih (i + 1) _ (by omega) (rul_kp h kW (by decide) (by decide)).1 ⟨s1.trans hs.1, s2.trans hs.2.1, s3.trans hs.2.2⟩ (fun t ht => by rw [kW.2.2.1 bi List.not_mem_nil]; exact hW t ht) v4 rfl v5 v30 hq1 (fun g U kU => h1 g U (kp_trans kW kU)) (fun g U kU => h0 g U (kp_trans kW kU))
    have eu : ulF m a b d x (i + 1) = if ulF m a b d x i = 0 then 0 else if i = 0 then 1 else if obF m a b d x i = x then 0 else 1 := rfl
    rw [h30]
    refine ⟨fun u0 => go 0 (by rw [eu, if_pos u0]), fun u0 => ⟨fun i0 => go 1 ?_, fun i0 => ⟨fun q0 => go 0 ?_, fun q0 => go 1 ?_⟩⟩⟩
    · have i0 : i = 0 := (nI_inj (b := 0) (by omega) (by omega)).mp i0
      rw [eu, if_neg u0, if_pos i0]
    · rw [hJ, h4] at q0
      rw [eu, if_neg u0, if_neg (fun z => i0 (by rw [z]; rfl)), if_pos q0]
    · rw [hJ, h4] at q0
      rw [eu, if_neg u0, if_neg (fun z => i0 (by rw [z]; rfl)), if_neg q0]
/-- class and reference on the ring of a word that isn't too large; x is what both divide out -/
theorem x7_ringN {si ai L : Nat} {S : SS} {P Q R : Int64} {post : Int64 → SS → Prop} (hn : n ≤ 40) (hnL : n ≤ L) (hL : L < 2147483648) (h : RUL S m) (hs : gA S 0 = a ∧ gA S 1 = b ∧ gA S 2 = d) (hW : WC S si ai n w) (hw : ∀ k, k < n → w k < m) (hS : SH S n (P.toInt, Q.toInt, R.toInt)) (h1 : ¬ P = R → lrm Q (R - P) = 0 → RGP m a b d w n (Q / (R - P)) → post (Q / (R - P)) S) (h0 : ¬ (¬ P = R ∧ lrm Q (R - P) = 0 ∧ RGP m a b d w n (Q / (R - P))) → post 3000000000000000 S) : V_X7_ringNumber si ai L (nI n) S post := by
  obtain ⟨n1, n2, n3, n4, n5⟩ := hS
  obtain ⟨i1, i2, i3, i4, i5⟩ := ring_rep n1 n2 n3 n4 n5
  unfold V_X7_ringNumber
  rw [x4_divisor hn, x4_factor hn, ale]
  refine ⟨fun c => h0 (fun z => z.1 (i1.mp (i3.mp c))), fun c => ?_⟩
  have c1 : ¬ gA S 17 n = gA S 19 n := fun z => c (i3.mpr z)
  obtain ⟨q1, q2⟩ := i5 c1
  rw [x4_addend hn, gdt c]
  refine ⟨fun c2 => ?_, fun c2 => h0 (fun z => c2 (q1.mpr z.2.1))⟩
  rw [x4_addend hn, gdt c, ale, (q2 c2).1]
  exact ⟨n + 1, x7_rn62 hn hnL hL h hs hW hw (fun g => h1 (fun z => c1 (i1.mpr z)) (q1.mp c2) g) (fun g => h0 (fun z => g z.2.2)) n 0 (by omega) (fun t ht => by omega)⟩
theorem x8_ringOf {bi L : Nat} {S : SS} {post : Int32 → SS → Prop} (hn : n ≤ L) (hL : L ≤ 40) (hbi : bi ≠ 3) (h : RUL S m) (hs : gA S 0 = a ∧ gA S 1 = b ∧ gA S 2 = d) (hW : WR S bi n w) (hw : ∀ k, k < n → w k < m) (i4 : gJ S 3 - gJ S 1 = 0 ↔ gJ S 1 = gJ S 3) (h2 : gJ S 1 = gJ S 3 → post (if gJ S 2 = 0 then 2 else 0) S) (h1 : ¬ gJ S 1 = gJ S 3 → lrm (gJ S 2) (gJ S 3 - gJ S 1) = 0 → RGP m a b d w n (gJ S 2 / (gJ S 3 - gJ S 1)) → ∀ U, Kp [30] [0, 4, 5] [] [] S U → gJ U 4 = gJ S 2 / (gJ S 3 - gJ S 1) → gJ U 5 = mnF m a b d (gJ S 2 / (gJ S 3 - gJ S 1)) n → gI U 30 = ulF m a b d (gJ S 2 / (gJ S 3 - gJ S 1)) n → post 1 U) (h0 : ¬ gJ S 1 = gJ S 3 → ¬ (lrm (gJ S 2) (gJ S 3 - gJ S 1) = 0 ∧ RGP m a b d w n (gJ S 2 / (gJ S 3 - gJ S 1))) → ∀ U, Kp [30] [0, 4, 5] [] [] S U → post 0 U) : V_X8_ringOf bi L (nI n) S post := by
  unfold V_X8_ringOf
  refine ⟨fun c => ?_, fun c => ?_⟩
  · have h2 := h2 c
    refine ⟨fun z => ?_, fun z => ?_⟩
    · rw [if_pos z] at h2; exact h2
    · rw [if_neg z] at h2; exact h2
  · have nz : ¬ gJ S 3 - gJ S 1 = 0 := fun z => c (i4.mp z)
    rw [ale, gdt nz]
    refine ⟨fun c2 => ?_, fun c2 => h0 c (fun z => c2 z.1) S (kp_refl _ _ _ _ S)⟩
    rw [gdt nz, ale, ale, ale, ale]
    generalize hx : gJ S 2 / (gJ S 3 - gJ S 1) = x at *
    have kT : Kp [30] [0, 4, 5] [] [] S (sJ (sI (sJ (sJ S 4 x) 5 x) 30 1) 0 x) := kp_sJ (kp_sI (kp_sJ (kp_sJ (kp_refl _ _ _ _ S) (by decide)) (by decide)) (by decide)) (by decide)
    exact ⟨n + 1, x8_ro84 (x := x) hn hL hbi hw n 0 (sJ (sI (sJ (sJ S 4 x) 5 x) 30 1) 0 x) (by omega) (rul_kp h kT (by decide) (by decide)).1 hs hW rfl rfl rfl rfl (fun t ht => by omega) (fun g U kU => h1 c c2 g U (kp_trans kT kU)) (fun g U kU => h0 c (fun z => g z.2) U (kp_trans kT kU))⟩
end
