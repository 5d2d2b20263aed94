/-! FALLS: power; one class of numbers -/
section
variable {m k : Nat} {S : SS} {post : Int32 → SS → Prop}
theorem x7_power (h2 : 2 ≤ m) (hm : m ≤ 64) (hk : k ≤ 12) (h1 : m ^ k ≤ 20000 → post (nI (m ^ k)) S) (h0 : ¬ m ^ k ≤ 20000 → ∀ v, 20000 < v → v ≤ 1280000 → post (nI v) S) : V_X7_power (nI m) (nI k) S post := by
  have key : ∀ (j i : Nat), i + j = k → m ^ i ≤ 1280000 → V_X7_power_4 (nI m) (nI k) post (j + 1) (nI (m ^ i)) (nI i) S := by
    intro j
    induction j with
    | zero =>
      intro i hi hp
      obtain rfl : i = k := by omega
      rw [V_X7_power_4, brt (nI_le (Nat.le_refl _) (by omega))]
      by_cases c : m ^ i ≤ 20000
      · exact h1 c
      · exact h0 c _ (by omega) hp
    | succ j ih =>
      intro i hi hp
      rw [V_X7_power_4, brf (nI_ge (by omega) (by omega))]
      by_cases c : m ^ i ≤ 20000
      · have e : nI (m ^ i) * nI m = nI (m ^ (i + 1)) := by
          have hmul : m ^ i * m ≤ 20000 * 64 := Nat.mul_le_mul c hm
          have e1 := nI_toInt (n := m ^ i) (by omega)
          have e2 := nI_toInt (n := m) (by omega)
          have e3 : ((m ^ i : Nat) : Int) * (m : Int) = ((m ^ i * m : Nat) : Int) := (Int.natCast_mul _ _).symm
          rw [Nat.pow_succ]
          exact of32 (by rw [m32 (by rw [e1, e2, e3]; omega) (by rw [e1, e2, e3]; omega), e1, e2, e3]) (by omega)
        rw [brf (c := (20000 : Int32) < nI (m ^ i)) (nI_nlt (b := m ^ i) (a := 20000) c (by omega)), ale, ale, nadd1, e]
        refine ih (i + 1) (by omega) ?_
        rw [Nat.pow_succ]
        have := Nat.mul_le_mul c hm
        omega
      · rw [brt (c := (20000 : Int32) < nI (m ^ i)) (nI_lt (a := 20000) (by omega) (by omega))]
        have hle : m ^ i ≤ m ^ k := Nat.pow_le_pow_right (by omega) (by omega)
        exact h0 (by omega) _ (by omega) hp
  have := key k 0 (by omega) (by rw [Nat.pow_zero]; omega)
  rw [Nat.pow_zero] at this
  exact ⟨k + 1, this⟩
theorem x8_power (h26 : gI S 26 = nI m) (h2 : 2 ≤ m) (hm : m ≤ 64) (hk : k ≤ 12) (h1 : m ^ k ≤ 20000 → post (nI (m ^ k)) S) (h0 : ¬ m ^ k ≤ 20000 → post (nI 20001) S) : V_X8_power (nI k) S post := by
  have fin : ∀ v : Nat, v ≤ 1280000 → (v ≤ 20000 → post (nI v) S) → (20000 < v → post (nI 20001) S) → ∀ x2 : Int32, x2 = mnI (nI v) (20001 : Int32) → post x2 S := fun v hv g1 g2 x e => by
    have e2 : mnI (nI v) (20001 : Int32) = nI (min v 20001) := mnI_nI (b := 20001) (by omega) (by omega)
    rw [e, e2]
    by_cases c : v ≤ 20000
    · rw [Nat.min_eq_left (by omega)]; exact g1 c
    · rw [Nat.min_eq_right (by omega)]; exact g2 (by omega)
  have key : ∀ (j i : Nat), i + j = k → m ^ i ≤ 1280000 → V_X8_power_4 (nI k) post (j + 1) (nI (m ^ i)) (nI i) S := by
    intro j
    induction j with
    | zero =>
      intro i hi hp
      obtain rfl : i = k := by omega
      rw [V_X8_power_4, brt (nI_le (Nat.le_refl _) (by omega))]
      exact fin _ hp h1 (fun z => h0 (by omega))
    | succ j ih =>
      intro i hi hp
      rw [V_X8_power_4, brf (nI_ge (by omega) (by omega)), h26]
      by_cases c : m ^ i ≤ 20000
      · have e : nI (m ^ i) * nI m = nI (m ^ (i + 1)) := by
          have hmul : m ^ i * m ≤ 20000 * 64 := Nat.mul_le_mul c hm
          have e1 := nI_toInt (n := m ^ i) (by omega)
          have e2 := nI_toInt (n := m) (by omega)
          have e3 : ((m ^ i : Nat) : Int) * (m : Int) = ((m ^ i * m : Nat) : Int) := (Int.natCast_mul _ _).symm
          rw [Nat.pow_succ]
          exact of32 (by rw [m32 (by rw [e1, e2, e3]; omega) (by rw [e1, e2, e3]; omega), e1, e2, e3]) (by omega)
        rw [brf (c := (20000 : Int32) < nI (m ^ i)) (nI_nlt (b := m ^ i) (a := 20000) c (by omega)), ale, ale, nadd1, e]
        refine ih (i + 1) (by omega) ?_
        rw [Nat.pow_succ]
        have := Nat.mul_le_mul c hm
        omega
      · rw [brt (c := (20000 : Int32) < nI (m ^ i)) (nI_lt (a := 20000) (by omega) (by omega))]
        have hle : m ^ i ≤ m ^ k := Nat.pow_le_pow_right (by omega) (by omega)
        exact fin _ hp (fun z => absurd z c) (fun _ => h0 (by omega))
  have := key k 0 (by omega) (by rw [Nat.pow_zero]; omega)
  rw [Nat.pow_zero] at this
  exact ⟨k + 1, this⟩
end
theorem l2iN {q : Nat} (h : q < 2147483648) : (lN q).toInt32 = nI q := of32 (by rw [l2i_toInt (by rw [lN_int (by omega)]; omega) (by rw [lN_int (by omega)]; omega), lN_int (by omega)]) h
def okB (t : T3) : Bool := decide (t.1.natAbs ≤ 1000000000000000) && (decide (t.2.1.natAbs ≤ 1000000000000000) && decide (t.2.2.natAbs ≤ 1000000000000000))
def nB (x : Int64) : Bool := decide (-1000000000000000 ≤ x.toInt) && decide (x.toInt ≤ 1000000000000000)
theorem okB_iff {t : T3} : okB t = true ↔ okT t := by
  unfold okB okT
  rw [Bool.and_eq_true, Bool.and_eq_true, decide_eq_true_iff, decide_eq_true_iff, decide_eq_true_iff]
theorem nB_iff {x : Int64} : nB x = true ↔ isN x := by
  unfold nB isN
  rw [Bool.and_eq_true, decide_eq_true_iff, decide_eq_true_iff]
section
variable (m : Nat) (a b d : Nat → Int64)
/-- what c came to, its stride, its rests -/
def loF (c : Int64) : Nat → Int64
  | 0 => c
  | i + 1 => stp a b d (loF c i) (rst (loF c i) m)
def woF (c : Int64) (i : Nat) : Nat := rst (loF m a b d c i) m
def gpF (c g : Int64) : Nat → Int64
  | 0 => g
  | i + 1 => gpF c g i * a (woF m a b d c i) / d (woF m a b d c i)
def fkF (c g : Int64) : Nat → Nat → Int32
  | 0, i => if (shT a b d (woF m a b d c) i).2.2 ≤ (shT a b d (woF m a b d c) i).1 then 0 else 1
  | j + 1, i => if lrm (gpF m a b d c g i) (lN m) = 0 then (if okB (shT a b d (woF m a b d c) (i + 1)) = true ∧ nB (loF m a b d c (i + 1)) = true ∧ nB (gpF m a b d c g (i + 1)) = true then fkF c g j (i + 1) else -4) else -3
end
theorem sh_cmp {S : SS} {i : Nat} {s : T3} (h : SH S i s) : gA S 19 i ≤ gA S 17 i ↔ s.2.2 ≤ s.1 := by
  obtain ⟨n1, n2, n3, n4, n5⟩ := h
  have e := rd_eq (t3 S i)
  have hg := g3_pos (t := t3 S i) n4
  rw [show rd (t3 S i) = s from n5] at e
  have eX : (g3 (t3 S i) : Int) * s.1 = (gA S 17 i).toInt := congrArg (fun x : T3 => x.1) e
  have eZ : (g3 (t3 S i) : Int) * s.2.2 = (gA S 19 i).toInt := congrArg (fun x : T3 => x.2.2) e
  rw [le64, ← eX, ← eZ]
  constructor
  · intro q
    exact Int.le_of_mul_le_mul_left q (by omega)
  · intro q
    exact Int.mul_le_mul_of_nonneg_left q (by omega)
section
variable {m k : Nat} {a b d : Nat → Int64} {c g : Int64}
theorem rst_lrm {x : Int64} (h2 : 2 ≤ m) (hm : m ≤ 64) (hx : isN x) : rst x m = 0 ↔ lrm x (lN m) = 0 := by
  have em : (lN m).toInt = (m : Int) := lN_int (by omega)
  rw [lrmG (by have := isN_abs.mp hx; omega) (by rw [em]; omega), em]
  show (x.toInt % (m : Int)).toNat = 0 ↔ _
  have := Int.emod_nonneg x.toInt (show (m : Int) ≠ 0 by omega)
  exact ⟨fun q => Int.dvd_of_emod_eq_zero (by omega), fun q => by rw [Int.emod_eq_zero_of_dvd q]; rfl⟩
theorem x7_fc11 {post : Int32 → SS → Prop} (hk : k ≤ 12) : ∀ (j i : Nat) (T : SS), i + j = k → RUL T m → gA T 0 = a ∧ gA T 1 = b ∧ gA T 2 = d → isN (loF m a b d c i) → isN (gpF m a b d c g i) → (∀ t, t ≤ i → SH T t (shT a b d (woF m a b d c) t)) → (∀ U, Fx T U → post (fkF m a b d c g j i) U) → V_X7_fallOfClass_11 (nI k) post (j + 1) (loF m a b d c i) (gpF m a b d c g i) (nI i) T := by
  intro j
  induction j with
  | zero =>
    intro i T hi h hs hl hg hS hp
    obtain rfl : i = k := by omega
    have hp := hp T (fx_refl T)
    rw [V_X7_fallOfClass_11, brt (nI_le (Nat.le_refl _) (by omega)), x4_factor (by omega), x4_divisor (by omega)]
    have hc := sh_cmp (hS i (Nat.le_refl _))
    unfold fkF at hp
    refine ⟨fun z => ?_, fun z => ?_⟩
    · rw [if_pos (hc.mp z)] at hp; exact hp
    · rw [if_neg (fun y => z (hc.mpr y))] at hp; exact hp
  | succ j ih =>
    intro i T hi h hs hl hg hS hp
    have hm := h.2.1
    have hm2 := h.1
    have hi1 := h.2.2.2.2.1
    have hwl : woF m a b d c i < m := rest_lt _ (by omega)
    obtain ⟨-, -, ld, ld1⟩ := rul_abs3 h hwl
    unfold fkF at hp
    rw [V_X7_fallOfClass_11, brf (nI_ge (by omega) (by omega)), x5_restOf hi1 (by omega) hm]
    have hrl := rest_lt (gpF m a b d c g i) (show 1 ≤ m by omega)
    have e0 : nI (rst (gpF m a b d c g i) m) = 0 ↔ rst (gpF m a b d c g i) m = 0 := nI_inj (b := 0) (by show (_ % _ : Int).toNat < _; omega) (by omega)
    by_cases c1 : lrm (gpF m a b d c g i) (lN m) = 0
    · rw [if_pos c1] at hp
      rw [brt (e0.mpr ((rst_lrm hm2 hm hg).mpr c1)), x5_restOf hi1 (by omega) hm]
      have esh : rd (sp (gA T 0 (woF m a b d c i)).toInt (gA T 1 (woF m a b d c i)).toInt (gA T 2 (woF m a b d c i)).toInt (shT a b d (woF m a b d c) i)) = shT a b d (woF m a b d c) (i + 1) := by rw [hs.1, hs.2.1, hs.2.2]; rfl
      -- behind the step, whether it fits or not
      have rest : ∀ (f : Int32) (U : SS), Ex T U (i + 1) → (f = 0 ∧ ¬ okT (shT a b d (woF m a b d c) (i + 1)) ∨ f = 1 ∧ okT (shT a b d (woF m a b d c) (i + 1)) ∧ SH U (i + 1) (shT a b d (woF m a b d c) (i + 1))) → V_X5_after 1 0 1 2 (loF m a b d c i) U (fun r14 S15 => V_X5_a 1 0 1 2 (nI (woF m a b d c i)) S15 (fun r16 S17 => V_X5_d 1 0 1 2 (nI (woF m a b d c i)) S17 (fun r18 S19 => ¬ r18 = 0 ∧ ∀ y20 : Int64, y20 = gpF m a b d c g i * r16 / r18 → (f = 0 → post (-4) S19) ∧ (¬ f = 0 → V_X7_isNumber r14 S19 (fun r22 S23 => (r22 = 0 → post (-4) S23) ∧ (¬ r22 = 0 → V_X7_isNumber y20 S23 (fun r25 S26 => (r25 = 0 → post (-4) S26) ∧ (¬ r25 = 0 → ∀ x28 : Int32, x28 = nI i + 1 → V_X7_fallOfClass_11 (nI k) post (j + 1) r14 y20 x28 S26)))))))) := fun f U xU hf => by
        obtain ⟨hR, s1, s2, s3⟩ := rul_kp h xU.1 (by decide) (by decide)
        have hi1U := hR.2.2.2.2.1
        have ed : gA U 2 (woF m a b d c i) = d (woF m a b d c i) := by rw [s3, hs.2.2]
        have ea : gA U 0 (woF m a b d c i) = a (woF m a b d c i) := by rw [s1, hs.1]
        rw [hs.2.2] at ld1
        refine x5_afterR hR ?_
        rw [s1, s2, s3, hs.1, hs.2.1, hs.2.2, x5_a hi1U hwl hm, x5_d hi1U hwl hm (by rw [ed]; exact ld1), ed, ea, gdt (nz_of ld1), ale]
        have elo : loF m a b d c (i + 1) = stp a b d (loF m a b d c i) (rst (loF m a b d c i) m) := rfl
        have egp : gpF m a b d c g (i + 1) = gpF m a b d c g i * a (woF m a b d c i) / d (woF m a b d c i) := rfl
        rw [← egp]
        rcases hf with ⟨f0, nok⟩ | ⟨f1, ok, hSU⟩
        · rw [brt f0]
          rw [if_neg (fun z => nok (okB_iff.mp z.1))] at hp
          exact hp U (fx_ex xU)
        · rw [f1, brf (by decide)]
          by_cases cl : isN (loF m a b d c (i + 1))
          · rw [show aftR m a b d (loF m a b d c i) = loF m a b d c (i + 1) from aftR_in cl, x7_isN cl, brf (by decide)]
            refine x7_isNum (fun cg => ⟨fun z => absurd z (by decide), fun _ => ?_⟩) (fun cg => ⟨fun _ => ?_, fun z => absurd rfl z⟩)
            · rw [if_pos ⟨okB_iff.mpr ok, nB_iff.mpr cl, nB_iff.mpr cg⟩] at hp
              rw [ale, nadd1]
              refine ih (i + 1) U (by omega) hR ⟨s1.trans hs.1, s2.trans hs.2.1, s3.trans hs.2.2⟩ cl cg (fun t ht => ?_) (fun V fV => hp V (fx_trans (fx_ex xU) fV))
              by_cases ct : t = i + 1
              · subst ct; exact hSU
              · exact sh_ex (hS t (by omega)) xU ct
            · rw [if_neg (fun z => cg (nB_iff.mp z.2.2))] at hp
              exact hp U (fx_ex xU)
          · rw [show aftR m a b d (loF m a b d c i) = 3000000000000000 from aftR_out cl, x7_notN notN_bey, brt rfl]
            rw [if_neg (fun z => cl (nB_iff.mp z.2.1))] at hp
            exact hp U (fx_ex xU)
      refine x4_extend (r := woF m a b d c i) h hwl (by omega) (hS i (Nat.le_refl _)) (fun ok U xU hU => ?_) (fun nok U xU => ?_)
      · rw [esh] at ok hU
        exact rest 1 U xU (Or.inr ⟨rfl, ok, hU⟩)
      · rw [esh] at nok
        exact rest 0 U xU (Or.inl ⟨rfl, nok⟩)
    · rw [if_neg c1] at hp
      rw [brf (fun z => c1 ((rst_lrm hm2 hm hg).mp (e0.mp z)))]
      exact hp T (fx_refl T)
theorem x8_to11 {post : Int32 → SS → Prop} (hk : k ≤ 12) (hk1 : 1 ≤ k) : ∀ (j i : Nat) (T : SS), i + j = k → RUL T m → gA T 0 = a ∧ gA T 1 = b ∧ gA T 2 = d → isN (loF m a b d c i) → isN (gpF m a b d c g i) → WR T 1 i (woF m a b d c) → (0 < i → ((gJ T 1).toInt, (gJ T 2).toInt, (gJ T 3).toInt) = shT a b d (woF m a b d c) i) → (∀ t, t ≤ i → okT (shT a b d (woF m a b d c) t)) → (∀ U, Kp [] [1, 2, 3] [1] [] T U → (fkF m a b d c g j i = 0 → gJ U 3 ≤ gJ U 1 → post 0 U) ∧ (fkF m a b d c g j i = 1 → ¬ gJ U 3 ≤ gJ U 1 → post 0 U) ∧ (fkF m a b d c g j i = -3 → post (-3) U) ∧ (fkF m a b d c g j i = -4 → post (-4) U)) → V_X8_takesOne_11 (nI k) post (j + 1) (loF m a b d c i) (gpF m a b d c g i) (nI i) T := by
  intro j
  induction j with
  | zero =>
    intro i T hi h hs hl hg hW hJ hok hp
    obtain rfl : i = k := by omega
    have hJ := hJ (by omega)
    obtain ⟨p1, p2, -, -⟩ := hp T (kp_refl _ _ _ _ T)
    rw [V_X8_takesOne_11, brt (nI_le (Nat.le_refl _) (by omega))]
    have ec : gJ T 3 ≤ gJ T 1 ↔ (shT a b d (woF m a b d c) i).2.2 ≤ (shT a b d (woF m a b d c) i).1 := by
      rw [le64, ← hJ]
    by_cases z : gJ T 3 ≤ gJ T 1
    · exact p1 (if_pos (ec.mp z)) z
    · exact p2 (if_neg (fun y => z (ec.mpr y))) z
  | succ j ih =>
    intro i T hi h hs hl hg hW hJ hok hp
    have hR0 := h
    obtain ⟨hm2, hm, g0, g25, hi1, hi26, hf, he⟩ := h
    have hwl : woF m a b d c i < m := rest_lt _ (by omega)
    obtain ⟨e1, e2, e3⟩ := he _ hwl
    obtain ⟨-, -, ld, ld1⟩ := rul_abs3 hR0 hwl
    rw [hs.1] at e1
    rw [hs.2.1] at e2
    rw [hs.2.2] at e3 ld1
    have nzm : ¬ lN m = 0 := fun z => by have := (lN0 (by omega)).mp z; omega
    rw [V_X8_takesOne_11, brf (nI_ge (by omega) (by omega)), hi26, nI_i64 (by omega), gdt nzm]
    unfold fkF at hp
    refine ⟨fun c1 => ?_, fun c1 => ?_⟩
    · rw [if_pos c1] at hp
      refine x8_restBy (by omega) hm ?_
      have hl2 : rst (loF m a b d c i) m < m := hwl
      have el : (lN (rst (loF m a b d c i) m)).toInt32 = nI (woF m a b d c i) := l2iN (show rst (loF m a b d c i) m < 2147483648 by omega)
      rw [ale, el, gdt (vp_in_nI (by omega) (by omega)), ale, nI_clamp (by omega), nmul3 (by omega), nadd1, nadd2, nadd1]
      generalize hV : sB T 1 (upd (gB T 1) i (nI (woF m a b d c i))) = V
      have kV : Kp [] [1, 2, 3] [1] [] T V := by rw [← hV]; exact kp_sB (kp_refl _ _ _ _ T) (by decide)
      obtain ⟨hRV, s1, s2, s3⟩ := rul_kp hR0 kV (by decide) (by decide)
      have wV : WR V 1 (i + 1) (woF m a b d c) := fun t ht => by
        rw [← hV, gB_sB]
        show (if t = i then nI (woF m a b d c i) else gB T 1 t) = _
        by_cases ct : t = i
        · rw [if_pos ct, ct]
        · rw [if_neg ct]; exact hW t (by omega)
      have ev : gA V 32 = gA T 32 := kV.2.2.2 32 List.not_mem_nil
      rw [gdt (vp_in_nI (by omega) (by omega)), gdt (vp_in_nI (by omega) (by omega)), gdt (vp_in_nI (by omega) (by omega)), nI_clamp (by omega), nI_clamp (by omega), nI_clamp (by omega), ev, e1, e2, e3, gdt (nz_of ld1), ale, gdt (vp_in_nI (by omega) (by omega)), gdt (vp_in_nI (by omega) (by omega)), gdt (nz_of ld1), ale]
      have elo : (a (woF m a b d c i) * loF m a b d c i + b (woF m a b d c i)) / d (woF m a b d c i) = loF m a b d c (i + 1) := rfl
      have egp : a (woF m a b d c i) * gpF m a b d c g i / d (woF m a b d c i) = gpF m a b d c g (i + 1) := by
        rw [Int64.mul_comm]; rfl
      rw [elo, egp]
      have sV : gA V 0 = a ∧ gA V 1 = b ∧ gA V 2 = d := ⟨s1.trans hs.1, s2.trans hs.2.1, s3.trans hs.2.2⟩
      have hwA : ∀ t, t < i + 1 → woF m a b d c t < m := fun t _ => rest_lt _ (by omega)
      refine x8_shaped (m := m) (a := a) (b := b) (d := d) (w := woF m a b d c) (show i + 1 ≤ 40 by omega) (Nat.le_refl _) hwA hRV sV wV (fun okA U kU hU => ⟨fun z => absurd z (by decide), fun _ => ?_⟩) (fun nok U kU => ⟨fun _ => ?_, fun z => absurd rfl z⟩)
      · have kTU : Kp [] [1, 2, 3] [1] [] T U := kp_trans kV (kp_mono kU (by decide) (by decide) (by decide) (by decide))
        refine x8_isNum (fun cl => ⟨fun z => absurd z (by decide), fun _ => ?_⟩) (fun cl => ⟨fun _ => ?_, fun z => absurd rfl z⟩)
        · refine x8_isNum (fun cg => ⟨fun z => absurd z (by decide), fun _ => ?_⟩) (fun cg => ⟨fun _ => ?_, fun z => absurd rfl z⟩)
          · rw [if_pos ⟨okB_iff.mpr (okA (i + 1) (Nat.le_refl _)), nB_iff.mpr cl, nB_iff.mpr cg⟩] at hp
            rw [ale]
            obtain ⟨hRU, u1, u2, u3⟩ := rul_kp hR0 kTU (by decide) (by decide)
            exact ih (i + 1) U (by omega) hRU ⟨u1.trans hs.1, u2.trans hs.2.1, u3.trans hs.2.2⟩ cl cg (fun t ht => by rw [kU.2.2.1 1 List.not_mem_nil]; exact wV t ht) (fun _ => hU) okA (fun W kW => hp W (kp_trans kTU kW))
          · rw [if_neg (fun z => cg (nB_iff.mp z.2.2))] at hp
            exact (hp U kTU).2.2.2 rfl
        · rw [if_neg (fun z => cl (nB_iff.mp z.2.1))] at hp
          exact (hp U kTU).2.2.2 rfl
      · have kTU : Kp [] [1, 2, 3] [1] [] T U := kp_trans kV (kp_mono kU (by decide) (by decide) (by decide) (by decide))
        rw [if_neg (fun z => nok (fun t ht => ?_))] at hp
        · exact (hp U kTU).2.2.2 rfl
        · rcases Nat.lt_or_eq_of_le ht with y | y
          · exact hok t (by omega)
          · rw [y]; exact okB_iff.mp z.1
    · rw [if_neg c1] at hp
      exact (hp T (kp_refl _ _ _ _ T)).2.2.1 rfl
end
