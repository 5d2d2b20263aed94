/-! BEGINS, PRIMES -/
theorem x7_prime {i : Nat} {S : SS} {post : Int64 → SS → Prop} (hi : i < 28) : V_X7_prime (nI i) S post = post (primeF i).toInt64 S := by
  unfold V_X7_prime
  rw [brf (nI_pos (by omega)), brf (c := (28 : Int32) ≤ nI i) (nI_ge (b := 28) hi (by omega)), gdt (vp_in_nI (by omega) (by omega)), nI_clamp (by omega)]
def ipB (v0 : Int32) : Nat → Int32 → Option Bool
  | 0, _ => none
  | n + 1, v1 => if v0 < v1 * v1 then some true else if v1 = 0 then none else if irm v0 v1 = 0 then some false else ipB v0 n (v1 + 1)
theorem ip_of {v0 : Int32} {post : Int32 → SS → Prop} {S : SS} : ∀ (n : Nat) (v1 : Int32) (b : Bool), ipB v0 n v1 = some b → post (if b = true then 1 else 0) S → V_X8_isPrime_2 v0 post n v1 S := by
  intro n
  induction n with
  | zero => intro v1 b h _; exact absurd h (by simp [ipB])
  | succ n ih =>
    intro v1 b h hp
    unfold ipB at h
    rw [V_X8_isPrime_2]
    by_cases c : v0 < v1 * v1
    · rw [if_pos c] at h
      rw [brt c]
      have e := Option.some.inj h
      rw [← e, if_pos rfl] at hp
      exact hp
    · rw [if_neg c] at h
      rw [brf c]
      by_cases c0 : v1 = 0
      · rw [if_pos c0] at h; exact absurd h (by simp)
      · rw [if_neg c0] at h
        rw [gdt c0]
        by_cases c1 : irm v0 v1 = 0
        · rw [if_pos c1] at h
          rw [brt c1]
          have e := Option.some.inj h
          rw [← e, if_neg (by decide)] at hp
          exact hp
        · rw [if_neg c1] at h
          rw [brf c1, ale]
          exact ih _ _ h hp
def prB : Nat → Int32 → Int32 → Option Int32
  | 0, _, _ => none
  | n + 1, v1, v2 => match ipB v2 20 2 with
    | none => none
    | some b => if 0 < v1 then prB n (if b = true then v1 - 1 else v1 - 0) (v2 + 1) else if b = true then some v2 else prB n (v1 - 0) (v2 + 1)
theorem pr_of {post : Int32 → SS → Prop} {S : SS} : ∀ (n : Nat) (v1 v2 r : Int32), prB n v1 v2 = some r → post r S → V_X8_prime_5 post n v1 v2 S := by
  intro n
  induction n with
  | zero => intro v1 v2 r h _; exact absurd h (by simp [prB])
  | succ n ih =>
    intro v1 v2 r h hp
    unfold prB at h
    rw [V_X8_prime_5]
    have hb : ∃ b, ipB v2 20 2 = some b := by
      cases e : ipB v2 20 2 with
      | none => rw [e] at h; exact absurd h (by simp)
      | some b => exact ⟨b, rfl⟩
    obtain ⟨b, e⟩ := hb
    rw [e] at h
    replace h : (if 0 < v1 then prB n (if b = true then v1 - 1 else v1 - 0) (v2 + 1) else if b = true then some v2 else prB n (v1 - 0) (v2 + 1)) = some r := h
    cases b with
    | true =>
      rw [if_pos rfl, if_pos rfl] at h
      refine ⟨fun c => ⟨20, ip_of 20 2 true e ⟨fun z => absurd z (by decide), fun _ => ?_⟩⟩, fun c => ⟨20, ip_of 20 2 true e ⟨fun z => absurd z (by decide), fun _ => ?_⟩⟩⟩
      · rw [if_pos c] at h
        rw [ale, ale]
        exact ih _ _ _ h hp
      · rw [if_neg c] at h
        rw [Option.some.inj h]
        exact hp
    | false =>
      rw [if_neg (show ¬ false = true by decide), if_neg (show ¬ false = true by decide)] at h
      refine ⟨fun c => ⟨20, ip_of 20 2 false e ⟨fun _ => ?_, fun z => absurd rfl z⟩⟩, fun c => ⟨20, ip_of 20 2 false e ⟨fun _ => ⟨20, ip_of 20 2 false e ⟨fun _ => ?_, fun z => absurd rfl z⟩⟩, fun z => absurd rfl z⟩⟩⟩
      · rw [if_pos c] at h
        rw [ale, ale]
        exact ih _ _ _ h hp
      · rw [if_neg c] at h
        rw [ale, ale]
        exact ih _ _ _ h hp
set_option maxRecDepth 100000 in
theorem pr_tab : ∀ i, i < 24 → prB 200 (nI i) 11 = some (primeF (i + 4)) := by decide +kernel
theorem x8_prime {i : Nat} {S : SS} {post : Int32 → SS → Prop} (hi : i < 24) (hp : post (primeF (i + 4)) S) : V_X8_prime (nI i) S post := ⟨200, pr_of _ _ _ _ (pr_tab i hi) hp⟩
theorem nmul2 {k : Nat} (h : k ≤ 100000) : (2 : Int32) * nI k = nI (2 * k) := by
  have e := nI_toInt (n := k) (by omega)
  have e3 : (2 : Int32).toInt = 2 := rfl
  exact of32 (by rw [m32 (by rw [e3, e]; omega) (by rw [e3, e]; omega), e3, e]; omega) (by omega)
theorem x8_goP {k : Nat} {S : SS} {post : Int32 → SS → Prop} (hk : k < 12) (hp : post (primeF (2 * k + 4)) S) : V_X8_goPrime (nI k) S post := by
  unfold V_X8_goPrime
  rw [nmul2 (by omega)]
  exact x8_prime (by omega) hp
theorem x7_goP {k : Nat} {S : SS} {post : Int64 → SS → Prop} (hk : k < 12) (hp : post (primeF (2 * k + 4)).toInt64 S) : V_X7_goPrime (nI k) S post := by
  unfold V_X7_goPrime
  rw [nmul2 (by omega), show (4 : Int32) = nI 4 from rfl, nadd (by omega), x7_prime (by omega), Nat.add_comm 4]
  exact hp
/-! areHeaps -/
abbrev H4 (p0 p1 p2 p3 : Int32) : Prop := (0 ≤ p0.toInt ∧ p0.toInt ≤ 1000) ∧ (0 ≤ p1.toInt ∧ p1.toInt ≤ 1000) ∧ (0 ≤ p2.toInt ∧ p2.toInt ≤ 1000) ∧ (0 ≤ p3.toInt ∧ p3.toInt ≤ 1000)
theorem x7_heap {p : Int32} {S : SS} {post : Int32 → SS → Prop} (h1 : 0 ≤ p.toInt ∧ p.toInt ≤ 1000 → post 1 S) (h0 : ¬ (0 ≤ p.toInt ∧ p.toInt ≤ 1000) → post 0 S) : V_X7_isHeap p S post := by
  unfold V_X7_isHeap
  refine ⟨fun c => h0 ?_, fun c => ⟨fun c2 => h0 ?_, fun c2 => h1 ?_⟩⟩
  · have d : p.toInt < 0 := lt32.mp c
    omega
  · have d : 1000 < p.toInt := lt32.mp c2
    omega
  · have d : ¬ p.toInt < 0 := fun q => c (lt32.mpr q)
    have d2 : ¬ (1000 : Int) < p.toInt := fun q => c2 (lt32.mpr q)
    omega
theorem x7_heaps {p0 p1 p2 p3 : Int32} {S : SS} {post : Int32 → SS → Prop} (h1 : H4 p0 p1 p2 p3 → post 1 S) (h0 : ¬ H4 p0 p1 p2 p3 → post 0 S) : V_X7_areHeaps p0 p1 p2 p3 S post := by
  unfold V_X7_areHeaps
  refine x7_heap (fun a0 => ⟨fun z => absurd z (by decide), fun _ => ?_⟩) (fun a0 => ⟨fun _ => h0 (fun q => a0 q.1), fun z => absurd rfl z⟩)
  refine x7_heap (fun a1 => ⟨fun z => absurd z (by decide), fun _ => ?_⟩) (fun a1 => ⟨fun _ => h0 (fun q => a1 q.2.1), fun z => absurd rfl z⟩)
  refine x7_heap (fun a2 => ⟨fun z => absurd z (by decide), fun _ => ?_⟩) (fun a2 => ⟨fun _ => h0 (fun q => a2 q.2.2.1), fun z => absurd rfl z⟩)
  exact x7_heap (fun a3 => ⟨fun z => absurd z (by decide), fun _ => h1 ⟨a0, a1, a2, a3⟩⟩) (fun a3 => ⟨fun _ => h0 (fun q => a3 q.2.2.2), fun z => absurd rfl z⟩)
theorem x8_heaps {p0 p1 p2 p3 : Int32} {S : SS} {post : Int32 → SS → Prop} (h1 : H4 p0 p1 p2 p3 → post 1 S) (h0 : ¬ H4 p0 p1 p2 p3 → post 0 S) : V_X8_areHeaps p0 p1 p2 p3 S post := by
  unfold V_X8_areHeaps
  refine in32 (a := 0) (b := 1000) rfl rfl (fun a0 => ⟨fun z => absurd z (by decide), fun _ => ?_⟩) (fun a0 => ⟨fun _ => h0 (fun q => a0 q.1), fun z => absurd rfl z⟩)
  refine in32 (a := 0) (b := 1000) rfl rfl (fun a1 => ⟨fun z => absurd z (by decide), fun _ => ?_⟩) (fun a1 => ⟨fun _ => h0 (fun q => a1 q.2.1), fun z => absurd rfl z⟩)
  refine in32 (a := 0) (b := 1000) rfl rfl (fun a2 => ⟨fun z => absurd z (by decide), fun _ => ?_⟩) (fun a2 => ⟨fun _ => h0 (fun q => a2 q.2.2.1), fun z => absurd rfl z⟩)
  exact in32 (a := 0) (b := 1000) rfl rfl (fun a3 => ⟨fun z => absurd z (by decide), fun _ => h1 ⟨a0, a1, a2, a3⟩⟩) (fun a3 => ⟨fun _ => h0 (fun q => a3 q.2.2.2), fun z => absurd rfl z⟩)
/-! powers: 0 stands for what is BEYOND -/
def tpN (p : Nat) : Nat → Nat → Nat
  | 0, x => x
  | n + 1, x => if x * p ≤ 1000000000000000 then tpN p n (x * p) else 0
theorem tpN_0 (p : Nat) : ∀ n, tpN p n 0 = 0 := by
  intro n
  induction n with
  | zero => rfl
  | succ n ih =>
    show (if 0 * p ≤ 1000000000000000 then tpN p n (0 * p) else 0) = 0
    rw [Nat.zero_mul, if_pos (by omega), ih]
theorem tpN_le (p : Nat) : ∀ n x, x ≤ 1000000000000000 → tpN p n x ≤ 1000000000000000 := by
  intro n
  induction n with
  | zero => intro x h; exact h
  | succ n ih =>
    intro x h
    show (if x * p ≤ 1000000000000000 then tpN p n (x * p) else 0) ≤ _
    by_cases c : x * p ≤ 1000000000000000
    · rw [if_pos c]; exact ih _ c
    · rw [if_neg c]; omega
abbrev decN (x : Nat) : Int64 := if x = 0 then 3000000000000000 else lN x
theorem isN_lN {x : Nat} (h : x ≤ 1000000000000000) : isN (lN x) := by
  unfold isN
  rw [lN_int (by omega)]; omega
theorem x7_tp6 {p n : Nat} (hp1 : 1 ≤ p) (hp7 : p ≤ 7) (hn : n ≤ 1000) {S : SS} {post : Int64 → SS → Prop} : ∀ (j k x : Nat), k + j = n → 1 ≤ x → x ≤ 1000000000000000 → post (decN (tpN p j x)) S → V_X7_timesPower_6 (lN p) (nI n) post (j + 1) (lN x) (nI k) S := by
  intro j
  induction j with
  | zero =>
    intro k x hk h1 hx hp
    obtain rfl : k = n := by omega
    rw [V_X7_timesPower_6, brt (nI_le (Nat.le_refl _) (by omega)), x7_isN (isN_lN hx), brf (by decide)]
    have e : decN (tpN p 0 x) = lN x := if_neg (show ¬ x = 0 by omega)
    rw [e] at hp
    exact hp
  | succ j ih =>
    intro k x hk h1 hx hp
    have hxp : x * p ≤ 1000000000000000 * 7 := Nat.mul_le_mul hx hp7
    have hx1 : 1 ≤ x * p := Nat.mul_le_mul h1 hp1
    rw [V_X7_timesPower_6, brf (nI_ge (by omega) (by omega)), x7_isN (isN_lN hx), brf (by decide), ale, ale, ← nI_succ, lN_mul]
    by_cases c : x * p ≤ 1000000000000000
    · have e : tpN p (j + 1) x = tpN p j (x * p) := if_pos c
      rw [e] at hp
      exact ih _ _ (by omega) hx1 c hp
    · have e : tpN p (j + 1) x = 0 := if_neg c
      rw [e] at hp
      have nn : ¬ isN (lN (x * p)) := fun q => by
        have := q.2
        rw [lN_int (by omega)] at this
        omega
      rw [V_X7_timesPower_6]
      refine ⟨fun _ => ?_, fun _ => ?_⟩
      · rw [x7_notN nn, brt rfl]; exact hp
      · rw [x7_notN nn, brt rfl, x7_notN nn, brt rfl]; exact hp
theorem x7_tp {p n x : Nat} (hp1 : 1 ≤ p) (hp7 : p ≤ 7) (hn : n ≤ 1000) (hx : x ≤ 1000000000000000) {S : SS} {post : Int64 → SS → Prop} (hp : post (decN (tpN p n x)) S) : V_X7_timesPower (decN x) (lN p) (nI n) S post := by
  by_cases c : x = 0
  · subst c
    rw [tpN_0] at hp
    refine ⟨1, ?_⟩
    have e : decN 0 = 3000000000000000 := if_pos rfl
    rw [e] at hp ⊢
    rw [V_X7_timesPower_6]
    refine ⟨fun _ => ?_, fun _ => ?_⟩
    · rw [x7_notN notN_bey, brt rfl]; exact hp
    · rw [x7_notN notN_bey, brt rfl, x7_notN notN_bey, brt rfl]; exact hp
  · have e : decN x = lN x := if_neg c
    rw [e]
    exact ⟨n + 1, x7_tp6 hp1 hp7 hn n 0 x (by omega) (by omega) hx hp⟩
def hpN (h : Nat) : Nat := if h = 0 then 2 else if h = 1 then 3 else if h = 2 then 5 else 7
theorem hpN_le (h : Nat) : 1 ≤ hpN h ∧ hpN h ≤ 7 := by
  unfold hpN
  by_cases c : h = 0
  · rw [if_pos c]; omega
  · rw [if_neg c]
    by_cases c : h = 1
    · rw [if_pos c]; omega
    · rw [if_neg c]
      by_cases c : h = 2
      · rw [if_pos c]; omega
      · rw [if_neg c]; omega
theorem x8_hp {h : Nat} (hh : h < 2147483648) {S : SS} {post : Int32 → SS → Prop} (hp : post (nI (hpN h)) S) : V_X8_heapPrime (nI h) S post := by
  unfold V_X8_heapPrime
  have e0 : nI h = 0 ↔ h = 0 := nI_inj (b := 0) hh (by omega)
  have e1 : nI h = 1 ↔ h = 1 := nI_inj (b := 1) hh (by omega)
  have e2 : nI h = 2 ↔ h = 2 := nI_inj (b := 2) hh (by omega)
  unfold hpN at hp
  refine ⟨fun c => ?_, fun c => ⟨fun c1 => ?_, fun c1 => ⟨fun c2 => ?_, fun c2 => ?_⟩⟩⟩
  · rw [if_pos (e0.mp c)] at hp; exact hp
  · rw [if_neg (fun z => c (e0.mpr z)), if_pos (e1.mp c1)] at hp; exact hp
  · rw [if_neg (fun z => c (e0.mpr z)), if_neg (fun z => c1 (e1.mpr z)), if_pos (e2.mp c2)] at hp; exact hp
  · rw [if_neg (fun z => c (e0.mpr z)), if_neg (fun z => c1 (e1.mpr z)), if_neg (fun z => c2 (e2.mpr z))] at hp; exact hp
theorem x7_hp {h : Nat} (hh : h < 4) {S : SS} {post : Int64 → SS → Prop} (hp : post (lN (hpN h)) S) : V_X7_heapPrime (nI h) S post := by
  unfold V_X7_heapPrime
  rw [x7_prime (by omega)]
  have e : ∀ h, h < 4 → (primeF h).toInt64 = lN (hpN h) := by decide +kernel
  rw [e h hh]
  exact hp
theorem x8_bg63 {h n : Nat} {fx : Nat → Int32} (hh : h < 4) (hf : fx h = nI n) (hn : n ≤ 1000) {S : SS} {K : Int64 → Int32 → SS → Prop} {post : Int64 → SS → Prop} : ∀ (j k x : Nat), k + j = n → 1 ≤ x → x ≤ 1000000000000000 → (¬ tpN (hpN h) j x = 0 → K (lN (tpN (hpN h) j x)) (nI (h + 1)) S) → (tpN (hpN h) j x = 0 → post 0 (sI S 20 2)) → V_X8_begins_63 fx (nI h) K post (j + 1) (lN x) (nI k) S := by
  have hp7 := hpN_le h
  intro j
  induction j with
  | zero =>
    intro k x hk h1 hx hK _
    obtain rfl : k = n := by omega
    rw [V_X8_begins_63, nI_clamp (by omega), hf, gdt (vp_in_nI hh (by omega)), brt (nI_le (Nat.le_refl _) (by omega)), ale, nadd1]
    exact hK (show ¬ x = 0 by omega)
  | succ j ih =>
    intro k x hk h1 hx hK hp
    have hxp : x * hpN h ≤ 1000000000000000 * 7 := Nat.mul_le_mul hx hp7.2
    have hx1 : 1 ≤ x * hpN h := Nat.mul_le_mul h1 hp7.1
    rw [V_X8_begins_63, nI_clamp (by omega), hf, gdt (vp_in_nI hh (by omega)), brf (nI_ge (by omega) (by omega))]
    refine x8_hp (by omega) ?_
    rw [nI_i64 (by omega), ale, lN_mul]
    have e1 : (1000000000000000 : Int64).toInt = 1000000000000000 := rfl
    refine ⟨fun c => ?_, fun c => ?_⟩
    · have c := le64.mp c
      rw [lN_int (by omega), e1] at c
      have c : x * hpN h ≤ 1000000000000000 := by omega
      have e : tpN (hpN h) (j + 1) x = tpN (hpN h) j (x * hpN h) := if_pos c
      rw [e] at hK hp
      rw [ale, nadd1]
      exact ih _ _ (by omega) hx1 c hK hp
    · have c : ¬ (x * hpN h ≤ 1000000000000000) := fun z => c (le64.mpr (by rw [lN_int (by omega), e1]; omega))
      have e : tpN (hpN h) (j + 1) x = 0 := if_neg c
      rw [x8_refuse]
      exact hp e
theorem x8_bg54 {h n x : Nat} {fx : Nat → Int32} (hh : h < 4) (hf : fx h = nI n) (hn : n ≤ 1000) (h1 : 1 ≤ x) (hx : x ≤ 1000000000000000) {S : SS} {post : Int64 → SS → Prop} (j : Nat) (hK : ¬ tpN (hpN h) n x = 0 → V_X8_begins_54 fx post j (lN (tpN (hpN h) n x)) (nI (h + 1)) S) (hp : tpN (hpN h) n x = 0 → post 0 (sI S 20 2)) : V_X8_begins_54 fx post (j + 1) (lN x) (nI h) S := by
  rw [V_X8_begins_54, brf (c := (4 : Int32) ≤ nI h) (nI_ge (b := 4) hh (by omega))]
  exact ⟨n + 1, x8_bg63 hh hf hn n 0 x (by omega) h1 hx hK hp⟩
theorem p_begins {p0 p1 p2 p3 : Int32} {S : SS} (h : RR S) : V_L_begins p0 p1 p2 p3 S (fun r1 S2 => V_X8_begins p0 p1 p2 p3 S2 (endT r1)) := by
  have x8b : ∀ {T : SS} {post : Int64 → SS → Prop}, (H4 p0 p1 p2 p3 → ∃ n54 : Nat, V_X8_begins_54 (upd (upd (upd (upd (fun _ => (0 : Int32)) 0 p0) 1 p1) 2 p2) 3 p3) post n54 (lN 11) (nI 0) (sI T 20 0)) → (¬ H4 p0 p1 p2 p3 → post 0 (sI T 20 1)) → V_X8_begins p0 p1 p2 p3 T post := fun {T post} h1 h0 => by
    unfold V_X8_begins
    rw [ale]
    refine x8_heaps (fun c => ⟨fun z => absurd z (by decide), fun _ => ?_⟩) (fun c => ⟨fun _ => ?_, fun z => absurd rfl z⟩)
    · refine x8_goP (k := 0) (by omega) ?_
      rw [gdt (by unfold vp_in; decide), ale, gdt (by unfold vp_in; decide), ale, gdt (by unfold vp_in; decide), ale, gdt (by unfold vp_in; decide), ale]
      exact h1 c
    · rw [x8_refuse, sI_sI]
      exact h0 c
  unfold V_L_begins V_X7_begins
  refine x7_heaps (fun c => ⟨fun z => absurd z (by decide), fun _ => ?_⟩) (fun c => ⟨fun _ => Or.inl ⟨rfl, ?_⟩, fun z => absurd rfl z⟩)
  · obtain ⟨a, rfl, -, ha⟩ := nat32 (p := p0) 0 1000 c.1.1 c.1.2 (by omega)
    obtain ⟨b, rfl, -, hb⟩ := nat32 (p := p1) 0 1000 c.2.1.1 c.2.1.2 (by omega)
    obtain ⟨d, rfl, -, hd⟩ := nat32 (p := p2) 0 1000 c.2.2.1.1 c.2.2.1.2 (by omega)
    obtain ⟨e, rfl, -, he⟩ := nat32 (p := p3) 0 1000 c.2.2.2.1 c.2.2.2.2 (by omega)
    have l1 : tpN 2 a 11 ≤ 1000000000000000 := tpN_le _ _ _ (by omega)
    have l2 : tpN 3 b (tpN 2 a 11) ≤ 1000000000000000 := tpN_le _ _ _ l1
    have l3 : tpN 5 d (tpN 3 b (tpN 2 a 11)) ≤ 1000000000000000 := tpN_le _ _ _ l2
    have l4 : tpN 7 e (tpN 5 d (tpN 3 b (tpN 2 a 11))) ≤ 1000000000000000 := tpN_le _ _ _ l3
    have z2 : tpN 2 a 11 = 0 → tpN 3 b (tpN 2 a 11) = 0 := fun z => by rw [z, tpN_0]
    have z3 : tpN 3 b (tpN 2 a 11) = 0 → tpN 5 d (tpN 3 b (tpN 2 a 11)) = 0 := fun z => by rw [z, tpN_0]
    have z4 : tpN 5 d (tpN 3 b (tpN 2 a 11)) = 0 → tpN 7 e (tpN 5 d (tpN 3 b (tpN 2 a 11))) = 0 := fun z => by rw [z, tpN_0]
    refine x7_goP (k := 0) (by omega) ?_
    refine x7_hp (h := 0) (by omega) ?_
    refine x7_tp (p := 2) (n := a) (x := 11) (by omega) (by omega) ha (by omega) ?_
    refine x7_hp (h := 1) (by omega) ?_
    refine x7_tp (p := 3) (n := b) (by omega) (by omega) hb l1 ?_
    refine x7_hp (h := 2) (by omega) ?_
    refine x7_tp (p := 5) (n := d) (by omega) (by omega) hd l2 ?_
    refine x7_hp (h := 3) (by omega) ?_
    refine x7_tp (p := 7) (n := e) (by omega) (by omega) he l3 ?_
    generalize hx1 : tpN 2 a 11 = x1 at *
    generalize hx2 : tpN 3 b x1 = x2 at *
    generalize hx3 : tpN 5 d x2 = x3 at *
    generalize hx4 : tpN 7 e x3 = x4 at *
    have key : ∀ {T : SS} {post : Int64 → SS → Prop}, (x4 = 0 → post 0 (sI T 20 2)) → (¬ x4 = 0 → post (lN x4) (sI T 20 0)) → V_X8_begins (nI a) (nI b) (nI d) (nI e) T post := fun {T post} q0 q1 => by
      refine x8b (fun _ => ⟨5, ?_⟩) (fun z => absurd c z)
      have r0 : x4 = 0 → post 0 (sI (sI T 20 0) 20 2) := fun z => by rw [sI_sI]; exact q0 z
      refine x8_bg54 (h := 0) (n := a) (by omega) rfl ha (by omega) (by omega) 4 (fun n1 => ?_) (fun z => r0 (z4 (z3 (z2 (by rw [← hx1]; exact z)))))
      rw [show hpN 0 = 2 from rfl, hx1] at n1 ⊢
      refine x8_bg54 (h := 1) (n := b) (by omega) rfl hb (by omega) l1 3 (fun n2 => ?_) (fun z => r0 (z4 (z3 (by rw [← hx2]; exact z))))
      rw [show hpN 1 = 3 from rfl, hx2] at n2 ⊢
      refine x8_bg54 (h := 2) (n := d) (by omega) rfl hd (by omega) l2 2 (fun n3 => ?_) (fun z => r0 (z4 (by rw [← hx3]; exact z)))
      rw [show hpN 2 = 5 from rfl, hx3] at n3 ⊢
      refine x8_bg54 (h := 3) (n := e) (by omega) rfl he (by omega) l3 1 (fun n4 => ?_) (fun z => r0 (by rw [← hx4]; exact z))
      rw [show hpN 3 = 7 from rfl, hx4] at n4 ⊢
      rw [V_X8_begins_54, brt (c := (4 : Int32) ≤ nI (3 + 1)) (by decide)]
      exact q1 n4
    by_cases c4 : x4 = 0
    · rw [show decN x4 = 3000000000000000 from if_pos c4, x7_notN notN_bey, brt rfl]
      refine Or.inr ⟨rfl, ?_⟩
      exact key (fun _ => thp rfl (fun z => absurd z (by decide)) h) (fun z => absurd c4 z)
    · rw [show decN x4 = lN x4 from if_neg c4, x7_isN (isN_lN l4), brf (by decide)]
      refine ⟨by unfold vp_in; decide, ?_⟩
      rw [ale]
      exact key (fun z => absurd z c4) (fun _ => thp rfl (fun _ => rfl) h)
  · show V_X8_begins _ _ _ _ _ _
    exact x8b (fun z => absurd z c) (fun _ => thp rfl (fun z => absurd z (by decide)) h)
