/-! LAW: weights -/
section
variable (w0 w1 w2 w3 w4 : Int32)
/-- the weight of a prime -/
def wpF (p : Int64) : Int64 := if p = 2 then w0.toInt64 else if p = 3 then w1.toInt64 else if p = 5 then w2.toInt64 else if p = 7 then w3.toInt64 else w4.toInt64
theorem x7_wp {p : Int64} {S : SS} {post : Int64 → SS → Prop} (hp : post (wpF w0 w1 w2 w3 w4 p) S) : V_X7_weightOfPrime p w0 w1 w2 w3 w4 S post := by
  unfold V_X7_weightOfPrime
  unfold wpF at hp
  refine x7_hp (h := 0) (by omega) ⟨fun (c : p = (2 : Int64)) => ?_, fun (c : ¬ p = (2 : Int64)) => ?_⟩
  · rw [if_pos c] at hp; exact hp
  rw [if_neg c] at hp
  refine x7_hp (h := 1) (by omega) ⟨fun (c : p = (3 : Int64)) => ?_, fun (c : ¬ p = (3 : Int64)) => ?_⟩
  · rw [if_pos c] at hp; exact hp
  rw [if_neg c] at hp
  refine x7_hp (h := 2) (by omega) ⟨fun (c : p = (5 : Int64)) => ?_, fun (c : ¬ p = (5 : Int64)) => ?_⟩
  · rw [if_pos c] at hp; exact hp
  rw [if_neg c] at hp
  refine x7_hp (h := 3) (by omega) ⟨fun (c : p = (7 : Int64)) => ?_, fun (c : ¬ p = (7 : Int64)) => ?_⟩
  · rw [if_pos c] at hp; exact hp
  rw [if_neg c] at hp
  exact hp
theorem x8_wp {f : Nat → Int32} (hf : f 0 = w0 ∧ f 1 = w1 ∧ f 2 = w2 ∧ f 3 = w3 ∧ f 4 = w4) {p : Int64} {S : SS} {post : Int64 → SS → Prop} (hp : post (wpF w0 w1 w2 w3 w4 p) S) : V_X8_weightOf 5 f p S post := by
  obtain ⟨e0, e1, e2, e3, e4⟩ := hf
  unfold V_X8_weightOf
  unfold wpF at hp
  refine ⟨fun c => ⟨by unfold vp_in; decide, ?_⟩, fun c => ?_⟩
  · rw [if_pos c] at hp
    show post (f 0).toInt64 S
    rw [e0]; exact hp
  rw [if_neg c] at hp
  refine ⟨fun c => ⟨by unfold vp_in; decide, ?_⟩, fun c => ?_⟩
  · rw [if_pos c] at hp
    show post (f 1).toInt64 S
    rw [e1]; exact hp
  rw [if_neg c] at hp
  refine ⟨fun c => ⟨by unfold vp_in; decide, ?_⟩, fun c => ?_⟩
  · rw [if_pos c] at hp
    show post (f 2).toInt64 S
    rw [e2]; exact hp
  rw [if_neg c] at hp
  refine ⟨fun c => ⟨by unfold vp_in; decide, ?_⟩, fun c => ⟨by unfold vp_in; decide, ?_⟩⟩
  · rw [if_pos c] at hp
    show post (f 3).toInt64 S
    rw [e3]; exact hp
  · rw [if_neg c] at hp
    show post (f 4).toInt64 S
    rw [e4]; exact hp
end
section
variable (w : Int64 → Int64)
/-- k taken out of y as often as it is in it -/
def dvF (k y : Nat) (s : Int64) : Nat × Int64 := if 2 ≤ k ∧ 0 < y ∧ y % k = 0 then dvF k (y / k) (s + w (lN k)) else (y, s)
termination_by y
decreasing_by rename_i h; exact Nat.div_lt_self h.2.1 h.1
theorem dvF_in {k y : Nat} {s : Int64} (h : 2 ≤ k ∧ 0 < y ∧ y % k = 0) : dvF w k y s = dvF w k (y / k) (s + w (lN k)) := by rw [dvF, if_pos h]
theorem dvF_out {k y : Nat} {s : Int64} (h : ¬ (2 ≤ k ∧ 0 < y ∧ y % k = 0)) : dvF w k y s = (y, s) := by rw [dvF, if_neg h]
/-- what is left: not above what was there, above 0, a part of it, and k is not in it -/
theorem dvF_ok {k : Nat} (hk : 2 ≤ k) : ∀ (b y : Nat) (s : Int64), y ≤ b → 0 < y → (dvF w k y s).1 ≤ y ∧ 0 < (dvF w k y s).1 ∧ (dvF w k y s).1 ∣ y ∧ (dvF w k y s).1 % k ≠ 0 := by
  intro b
  induction b with
  | zero => intro y s h1 h2; omega
  | succ b ih =>
    intro y s h1 h2
    by_cases c : y % k = 0
    · rw [dvF_in w ⟨hk, h2, c⟩]
      have hd : y / k < y := Nat.div_lt_self h2 hk
      have e : k * (y / k) = y := Nat.mul_div_cancel' (Nat.dvd_of_mod_eq_zero c)
      have hpos : 0 < y / k := Nat.pos_of_ne_zero (fun z => by rw [z] at e; omega)
      obtain ⟨a1, a2, a3, a4⟩ := ih (y / k) (s + w (lN k)) (by omega) hpos
      exact ⟨by omega, a2, Nat.dvd_trans a3 ⟨k, by rw [Nat.mul_comm]; exact e.symm⟩, a4⟩
    · rw [dvF_out w (fun q => c q.2.2)]
      exact ⟨Nat.le_refl _, h2, Nat.dvd_refl _, c⟩
/-- the weight of y, from the prime k on -/
def wtF (k y : Nat) (s : Int64) : Int64 := if y < k * k ∨ 31700 ≤ k then (if y ≤ 1 then s else s + w (lN y)) else wtF (k + 1) (dvF w k y s).1 (dvF w k y s).2
termination_by 31700 - k
decreasing_by rename_i h; omega
theorem wtF_end {k y : Nat} {s : Int64} (h : y < k * k) : wtF w k y s = if y ≤ 1 then s else s + w (lN y) := by rw [wtF, if_pos (Or.inl h)]
theorem wtF_go {k y : Nat} {s : Int64} (h : ¬ y < k * k) (hy : y ≤ 1000000000) : wtF w k y s = wtF w (k + 1) (dvF w k y s).1 (dvF w k y s).2 := by
  have hk : ¬ 31700 ≤ k := fun q => by
    have := Nat.mul_le_mul q q
    omega
  conv => lhs; rw [wtF]
  rw [if_neg (fun q => q.elim h hk)]
theorem lt_sq {k y : Nat} (h : ¬ y < k * k) (hy : y ≤ 1000000000) : k < 31700 := by
  refine Nat.lt_of_not_le (fun q => ?_)
  have := Nat.mul_le_mul q q
  omega
/-- an even number past 2 is in no odd one -/
theorem wtF_skip {k y : Nat} {s : Int64} (h2 : 2 ≤ k) (he : k % 2 = 0) (ho : y % 2 = 1) (hy : y ≤ 1000000000) (h : ¬ y < k * k) : wtF w k y s = wtF w (k + 1) y s := by
  rw [wtF_go w h hy]
  have hn : ¬ (2 ≤ k ∧ 0 < y ∧ y % k = 0) := fun q => by
    have e := Nat.div_add_mod y k
    rw [q.2.2, Nat.add_zero] at e
    have e2 : y % 2 = k % 2 * (y / k % 2) % 2 := by rw [← Nat.mul_mod, e]
    rw [he, Nat.zero_mul, Nat.zero_mod] at e2
    omega
  rw [dvF_out w hn]
end
section
variable {w : Int64 → Int64} {w0 w1 w2 w3 w4 : Int32} {f : Nat → Int32}
theorem lN_rm0 {x y : Nat} (hx : x < 9223372036854775808) (hy : y < 9223372036854775808) (h0 : y ≠ 0) : lrm (lN x) (lN y) = (0 : Int64) ↔ x % y = 0 := by
  rw [lrm_lN hx hy h0]
  exact lN0 (by have := Nat.mod_le x y; omega)
theorem lN_divN {x y : Nat} (hx : x < 9223372036854775808) (hy : y < 9223372036854775808) (h0 : 0 < y) : lN x / lN y = lN (x / y) := pk_lDiv (by omega) h0 (by omega)
theorem x8_w21 (hf : f 0 = w0 ∧ f 1 = w1 ∧ f 2 = w2 ∧ f 3 = w3 ∧ f 4 = w4) {k : Nat} (h2 : 2 ≤ k) (hk : k < 31700) {S : SS} {K : Int64 → Int64 → Int64 → SS → Prop} {post : Int64 → SS → Prop} : ∀ (b y : Nat) (s : Int64), y ≤ b → 0 < y → y ≤ 1000000000 → K (dvF (wpF w0 w1 w2 w3 w4) k y s).2 (lN (dvF (wpF w0 w1 w2 w3 w4) k y s).1) (lN (k + 1)) S → V_X8_weight_21 5 f (lN k) K post (b + 1) s (lN y) S := by
  intro b
  induction b with
  | zero => intro y s h1 h3; omega
  | succ b ih =>
    intro y s h1 h3 hy hp
    have hz : ¬ lN k = 0 := fun e => by have := (lN0 (by omega)).mp e; omega
    rw [V_X8_weight_21, gdt hz]
    by_cases c : y % k = 0
    · rw [brt ((lN_rm0 (by omega) (by omega) (by omega)).mpr c), gdt hz, ale]
      refine x8_wp w0 w1 w2 w3 w4 hf ?_
      rw [ale, lN_divN (by omega) (by omega) (by omega)]
      rw [dvF_in _ ⟨h2, h3, c⟩] at hp
      have hd : y / k < y := Nat.div_lt_self h3 h2
      have e : k * (y / k) = y := Nat.mul_div_cancel' (Nat.dvd_of_mod_eq_zero c)
      have hpos : 0 < y / k := Nat.pos_of_ne_zero (fun z => by rw [z] at e; omega)
      exact ih _ _ (by omega) hpos (by omega) hp
    · rw [brf (fun q => c ((lN_rm0 (by omega) (by omega) (by omega)).mp q)), ale]
      rw [dvF_out _ (fun q => c q.2.2)] at hp
      have e : lN k + 1 = lN (k + 1) := of64 (by rw [a64 (by rw [lN_int (by omega), show (1 : Int64).toInt = 1 from rfl]; omega) (by rw [lN_int (by omega), show (1 : Int64).toInt = 1 from rfl]; omega), lN_int (by omega), show (1 : Int64).toInt = 1 from rfl]; omega) (by omega)
      rw [e]
      exact hp
theorem lN_sq {k : Nat} (hk : k < 31701) : lN k * lN k = lN (k * k) ∧ k * k < 2000000000 := by
  have h : k * k ≤ 31700 * 31700 := Nat.mul_le_mul (by omega) (by omega)
  exact ⟨lN_mul _ _, by omega⟩
theorem w_fin {y : Nat} {s : Int64} (hy : y ≤ 1000000000) {V W : Prop} (h1 : y ≤ 1 → V) (h2 : ¬ y ≤ 1 → W) : (lN y ≤ (1 : Int64) → V) ∧ (¬ lN y ≤ (1 : Int64) → W) := by
  have e : lN y ≤ (1 : Int64) ↔ y ≤ 1 := by
    rw [le64, lN_int (by omega), show (1 : Int64).toInt = 1 from rfl]; omega
  exact ⟨fun c => h1 (e.mp c), fun c => h2 (fun q => c (e.mpr q))⟩
theorem lNlt {a b : Nat} (ha : a < 9223372036854775808) (hb : b < 9223372036854775808) : lN a < lN b ↔ a < b := pk_lLT (by omega) (by omega)
theorem x8_w10 (hf : f 0 = w0 ∧ f 1 = w1 ∧ f 2 = w2 ∧ f 3 = w3 ∧ f 4 = w4) {S : SS} {post : Int64 → SS → Prop} : ∀ (j k y : Nat) (s : Int64), k + j = 31700 → 2 ≤ k → 0 < y → y ≤ 1000000000 → post (wtF (wpF w0 w1 w2 w3 w4) k y s) S → V_X8_weight_10 5 f post (j + 1) s (lN y) (lN k) S := by
  intro j
  induction j with
  | zero =>
    intro k y s hk h2 h0 hy hp
    have hsq := lN_sq (k := k) (by omega)
    have h : y < k * k := Nat.lt_of_not_le (fun q => by have := lt_sq (k := k) (Nat.not_lt.mpr q) hy; omega)
    rw [V_X8_weight_10, hsq.1, brt ((lNlt (by omega) (by omega)).mpr h)]
    rw [wtF_end _ h] at hp
    refine w_fin (s := s) hy (fun c => ?_) (fun c => ?_)
    · rw [if_pos c] at hp; exact hp
    · rw [if_neg c] at hp; exact x8_wp w0 w1 w2 w3 w4 hf hp
  | succ j ih =>
    intro k y s hk h2 h0 hy hp
    have hsq := lN_sq (k := k) (by omega)
    rw [V_X8_weight_10, hsq.1]
    by_cases h : y < k * k
    · rw [brt ((lNlt (by omega) (by omega)).mpr h)]
      rw [wtF_end _ h] at hp
      refine w_fin (s := s) hy (fun c => ?_) (fun c => ?_)
      · rw [if_pos c] at hp; exact hp
      · rw [if_neg c] at hp; exact x8_wp w0 w1 w2 w3 w4 hf hp
    · rw [brf (fun q => h ((lNlt (by omega) (by omega)).mp q))]
      rw [wtF_go _ h hy] at hp
      obtain ⟨a1, a2, -, -⟩ := dvF_ok (wpF w0 w1 w2 w3 w4) h2 y y s (Nat.le_refl _) h0
      exact ⟨y + 1, x8_w21 hf h2 (by omega) y y s (Nat.le_refl _) h0 hy (ih _ _ _ (by omega) (by omega) a2 (by omega) hp)⟩
theorem x8_weight (hf : f 0 = w0 ∧ f 1 = w1 ∧ f 2 = w2 ∧ f 3 = w3 ∧ f 4 = w4) {y : Nat} (h0 : 0 < y) (hy : y ≤ 1000000000) {S : SS} {post : Int64 → SS → Prop} (hp : post (wtF (wpF w0 w1 w2 w3 w4) 2 y 0) S) : V_X8_weight 5 f (lN y) S post :=
  ⟨31698 + 1, x8_w10 hf 31698 2 y 0 (by omega) (by omega) h0 hy hp⟩
theorem x7_w37 {k k2 : Nat} (h2 : 2 ≤ k) (hk : k < 31700) (hk2 : k2 = if k = 2 then k + 1 else k + 2) {S : SS} {K : Int64 → Int64 → Int64 → SS → Prop} {post : Int64 → SS → Prop} : ∀ (b i y : Nat) (s : Int64), y < 2 ^ b → i + b ≤ 60 → 0 < y → y ≤ 1000000000 → K (dvF (wpF w0 w1 w2 w3 w4) k y s).2 (lN (dvF (wpF w0 w1 w2 w3 w4) k y s).1) (lN k2) S → V_X7_weight_37 w0 w1 w2 w3 w4 (lN k) K post (b + 1) s (lN y) (nI i) S := by
  have fin : ∀ (y : Nat) (s : Int64), K s (lN y) (lN k2) S → (lN k = (2 : Int64) → ∀ y11 : Int64, y11 = lN k + (1 : Int64) → K s (lN y) y11 S) ∧ (¬ lN k = (2 : Int64) → ∀ y12 : Int64, y12 = lN k + (2 : Int64) → K s (lN y) y12 S) := fun y s hK => by
    have e2 : lN k = (2 : Int64) ↔ k = 2 := by
      rw [eq64, lN_int (by omega), show (2 : Int64).toInt = 2 from rfl]; omega
    constructor
    · intro c v hv
      rw [if_pos (e2.mp c)] at hk2
      have e : v = lN k2 := of64 (by rw [hv, a64 (by rw [lN_int (by omega), show (1 : Int64).toInt = 1 from rfl]; omega) (by rw [lN_int (by omega), show (1 : Int64).toInt = 1 from rfl]; omega), lN_int (by omega), show (1 : Int64).toInt = 1 from rfl]; omega) (by omega)
      rw [e]; exact hK
    · intro c v hv
      rw [if_neg (fun q => c (e2.mpr q))] at hk2
      have e : v = lN k2 := of64 (by rw [hv, a64 (by rw [lN_int (by omega), show (2 : Int64).toInt = 2 from rfl]; omega) (by rw [lN_int (by omega), show (2 : Int64).toInt = 2 from rfl]; omega), lN_int (by omega), show (2 : Int64).toInt = 2 from rfl]; omega) (by omega)
      rw [e]; exact hK
  intro b
  induction b with
  | zero => intro i y s h1 _ h3; rw [Nat.pow_zero] at h1; omega
  | succ b ih =>
    intro i y s h1 hi h3 hy hp
    have hz : ¬ lN k = 0 := fun e => by have := (lN0 (by omega)).mp e; omega
    rw [V_X7_weight_37, brf (c := (64 : Int32) ≤ nI i) (nI_ge (b := 64) (by omega) (by omega)), gdt hz]
    by_cases c : y % k = 0
    · rw [brt ((lN_rm0 (by omega) (by omega) (by omega)).mpr c), gdt hz, ale]
      refine x7_wp w0 w1 w2 w3 w4 ?_
      rw [ale, ale, nadd1, lN_divN (by omega) (by omega) (by omega)]
      rw [dvF_in _ ⟨h2, h3, c⟩] at hp
      have hd : y / k < y := Nat.div_lt_self h3 h2
      have e : k * (y / k) = y := Nat.mul_div_cancel' (Nat.dvd_of_mod_eq_zero c)
      have hpos : 0 < y / k := Nat.pos_of_ne_zero (fun z => by rw [z] at e; omega)
      have h4 : 2 * (y / k) ≤ k * (y / k) := Nat.mul_le_mul_right _ h2
      rw [Nat.pow_succ] at h1
      exact ih _ _ _ (by omega) (by omega) hpos (by omega) hp
    · rw [brf (fun q => c ((lN_rm0 (by omega) (by omega) (by omega)).mp q))]
      rw [dvF_out _ (fun q => c q.2.2)] at hp
      exact fin _ _ hp
theorem x7_w11 {S : SS} {post : Int64 → SS → Prop} : ∀ (j k y : Nat) (s : Int64), 31700 ≤ k + 2 * j → 3 ≤ k → k % 2 = 1 → y % 2 = 1 → k ≤ 31701 → y ≤ 1000000000 → post (wtF (wpF w0 w1 w2 w3 w4) k y s) S → V_X7_weight_11 w0 w1 w2 w3 w4 post (j + 1) s (lN y) (lN k) S := by
  have fin : ∀ (n k y : Nat) (s : Int64), k ≤ 31701 → y ≤ 1000000000 → y < k * k → post (wtF (wpF w0 w1 w2 w3 w4) k y s) S → V_X7_weight_11 w0 w1 w2 w3 w4 post (n + 1) s (lN y) (lN k) S := fun n k y s hk hy h hp => by
    have hsq : lN k * lN k = lN (k * k) ∧ k * k < 2000000000 := by
      have h : k * k ≤ 31701 * 31701 := Nat.mul_le_mul hk hk
      exact ⟨lN_mul _ _, by omega⟩
    have tl : (lN y ≤ (1 : Int64) → post s S) ∧ (¬ lN y ≤ (1 : Int64) → V_X7_weightOfPrime (lN y) w0 w1 w2 w3 w4 S (fun r3 S4 => post (s + r3) S4)) := by
      rw [wtF_end _ h] at hp
      refine w_fin (s := s) hy (fun c => ?_) (fun c => ?_)
      · rw [if_pos c] at hp; exact hp
      · rw [if_neg c] at hp; exact x7_wp w0 w1 w2 w3 w4 hp
    rw [V_X7_weight_11, hsq.1]
    refine ⟨fun _ => tl, fun _ => ⟨fun _ => tl, fun q => absurd ((lNlt (by omega) (by omega)).mpr h) q⟩⟩
  intro j
  induction j with
  | zero =>
    intro k y s hk h3 ho hyo hk2 hy hp
    exact fin 0 k y s hk2 hy (Nat.lt_of_not_le (fun q => by have := lt_sq (k := k) (Nat.not_lt.mpr q) hy; omega)) hp
  | succ j ih =>
    intro k y s hk h3 ho hyo hk2 hy hp
    by_cases h : y < k * k
    · exact fin _ k y s hk2 hy h hp
    · have hkl := lt_sq h hy
      have hsq := lN_sq (k := k) (by omega)
      have e9 : (1000000000 : Int64) = lN 1000000000 := rfl
      rw [V_X7_weight_11, hsq.1, brf (c := (1000000000 : Int64) < lN (k * k)) (fun q => by rw [e9, lNlt (by omega) (by omega)] at q; omega), brf (fun q => h ((lNlt (by omega) (by omega)).mp q))]
      rw [wtF_go _ h hy] at hp
      have h0 : 0 < y := by omega
      obtain ⟨a1, a2, a3, -⟩ := dvF_ok (wpF w0 w1 w2 w3 w4) (show 2 ≤ k by omega) y y s (Nat.le_refl _) h0
      have ao : (dvF (wpF w0 w1 w2 w3 w4) k y s).1 % 2 = 1 := by
        obtain ⟨t, ht⟩ := a3
        have e2 : y % 2 = (dvF (wpF w0 w1 w2 w3 w4) k y s).1 % 2 * (t % 2) % 2 := by rw [← Nat.mul_mod, ← ht]
        rcases Nat.mod_two_eq_zero_or_one (dvF (wpF w0 w1 w2 w3 w4) k y s).1 with z | z
        · rw [z, Nat.zero_mul] at e2; omega
        · exact z
      have hpw : y < 2 ^ 30 := by rw [show (2 : Nat) ^ 30 = 1073741824 from rfl]; omega
      refine ⟨30 + 1, x7_w37 (k2 := k + 2) (by omega) hkl (by rw [if_neg (by omega)]) 30 0 y s hpw (by omega) h0 hy ?_⟩
      by_cases h4 : (dvF (wpF w0 w1 w2 w3 w4) k y s).1 < (k + 1) * (k + 1)
      · have h5 : (dvF (wpF w0 w1 w2 w3 w4) k y s).1 < (k + 2) * (k + 2) := Nat.lt_of_lt_of_le h4 (Nat.mul_le_mul (by omega) (by omega))
        rw [wtF_end _ h4, ← wtF_end _ h5] at hp
        exact fin _ _ _ _ (by omega) (by omega) h5 hp
      · rw [wtF_skip _ (by omega) (by omega) ao (by omega) h4] at hp
        exact ih _ _ _ (by omega) (by omega) (by omega) ao (by omega) (by omega) hp
theorem x7_weight {y : Nat} (h0 : 0 < y) (hy : y ≤ 1000000000) {S : SS} {post : Int64 → SS → Prop} (hp : post (wtF (wpF w0 w1 w2 w3 w4) 2 y 0) S) : V_X7_weight (lN y) w0 w1 w2 w3 w4 S post := by
  refine ⟨15850 + 1 + 1, ?_⟩
  have e2 : (2 : Int64) = lN 2 := rfl
  have hsq := lN_sq (k := 2) (by omega)
  have e9 : (1000000000 : Int64) = lN 1000000000 := rfl
  rw [V_X7_weight_11, e2, hsq.1, brf (c := (1000000000 : Int64) < lN (2 * 2)) (by decide)]
  by_cases h : y < 2 * 2
  · rw [brt ((lNlt (by omega) (by omega)).mpr h)]
    rw [wtF_end _ h] at hp
    refine w_fin (s := 0) hy (fun c => ?_) (fun c => ?_)
    · rw [if_pos c] at hp; exact hp
    · rw [if_neg c] at hp; exact x7_wp w0 w1 w2 w3 w4 hp
  · rw [brf (fun q => h ((lNlt (by omega) (by omega)).mp q))]
    rw [wtF_go _ h hy] at hp
    obtain ⟨a1, a2, a3, a4⟩ := dvF_ok (wpF w0 w1 w2 w3 w4) (show 2 ≤ 2 by omega) y y 0 (Nat.le_refl _) h0
    have hpw : y < 2 ^ 30 := by rw [show (2 : Nat) ^ 30 = 1073741824 from rfl]; omega
    refine ⟨30 + 1, x7_w37 (k2 := 3) (by omega) (by omega) (by rw [if_pos rfl]) 30 0 y 0 hpw (by omega) h0 hy ?_⟩
    exact x7_w11 15850 3 _ _ (by omega) (by omega) (by omega) (by omega) (by omega) (by omega) hp
end
