/-! WHAT CLASS AND REFERENCE AGREE ON BETWEEN CALLS -/
theorem nat32 {p : Int32} (lo hi : Nat) (h1 : (lo : Int) ≤ p.toInt) (h2 : p.toInt ≤ (hi : Int)) (h : hi < 2147483648) : ∃ m, p = nI m ∧ lo ≤ m ∧ m ≤ hi :=
  ⟨p.toInt.toNat, of32 (by omega) (by omega), by omega, by omega⟩
theorem nmul3 {k : Nat} (h : k ≤ 100000) : (3 : Int32) * nI k = nI (3 * k) := by
  have e := nI_toInt (n := k) (by omega)
  have e3 : (3 : Int32).toInt = 3 := rfl
  exact of32 (by rw [m32 (by rw [e3, e]; omega) (by rw [e3, e]; omega), e3, e]; omega) (by omega)
theorem nmul4 {k : Nat} (h : k ≤ 100000) : (4 : Int32) * nI k = nI (4 * k) := by
  have e := nI_toInt (n := k) (by omega)
  have e3 : (4 : Int32).toInt = 4 := rfl
  exact of32 (by rw [m32 (by rw [e3, e]; omega) (by rw [e3, e]; omega), e3, e]; omega) (by omega)
theorem nadd1 (k : Nat) : nI k + (1 : Int32) = nI (k + 1) := (nI_succ k).symm
theorem nadd2 (k : Nat) : nI k + (2 : Int32) = nI (k + 2) := by
  rw [nI_succ, nI_succ, Int32.add_assoc]; rfl
theorem nadd3 (k : Nat) : nI k + (3 : Int32) = nI (k + 3) := by
  rw [nI_succ, nI_succ, nI_succ, Int32.add_assoc, Int32.add_assoc]; rfl
theorem nadd {a b : Nat} (h : a + b < 2147483648) : nI a + nI b = nI (a + b) := by
  have e1 := nI_toInt (n := a) (by omega)
  have e2 := nI_toInt (n := b) (by omega)
  exact of32 (by rw [a32 (by rw [e1, e2]; omega) (by rw [e1, e2]; omega), e1, e2]; omega) h
theorem nsub1 {k : Nat} (h1 : 1 ≤ k) : nI k - (1 : Int32) = nI (k - 1) := by
  obtain ⟨j, rfl⟩ : ∃ j, k = j + 1 := ⟨k - 1, by omega⟩
  exact nI_pred j
theorem nI_inj {a b : Nat} (ha : a < 2147483648) (hb : b < 2147483648) : nI a = nI b ↔ a = b := by
  rw [eq32, nI_toInt ha, nI_toInt hb]; omega
theorem eqp {α : Type} {r1 r3 : α} {A : Prop} (h : r1 = r3) (hA : A) : (r1 = r3 → A) ∧ (¬ r1 = r3 → False) := ⟨fun _ => hA, fun n => n h⟩
/-- the draft -/
def Rdr (i2 i23 i24 : Int32) (a3 a4 a5 a31 : Nat → Int64) : Prop := (i23 = 0 ∧ i2 = 0) ∨ ∃ m, 2 ≤ m ∧ m ≤ 64 ∧ i23 = 1 ∧ i24 = nI m ∧ i2 = nI m ∧ ∀ r, r < m → a31 (3 * r) = a3 r ∧ a31 (3 * r + 1) = a4 r ∧ a31 (3 * r + 2) = a5 r
/-- a rule's parts on both sides -/
def Rru (i1 i26 : Int32) (a0 a1 a2 a32 : Nat → Int64) : Prop := ∃ m, 2 ≤ m ∧ m ≤ 64 ∧ i1 = nI m ∧ i26 = nI m ∧ rulF m a0 a1 a2 ∧ ∀ r, r < m → a32 (3 * r) = a0 r ∧ a32 (3 * r + 1) = a1 r ∧ a32 (3 * r + 2) = a2 r
/-- the list's fractions on both sides -/
def Rli (i4 i27 : Int32) (a9 a10 a33 a34 : Nat → Int64) : Prop := ∃ n, n ≤ 40 ∧ i4 = nI n ∧ i27 = nI n ∧ ∀ i, i < n → a33 i = a9 i ∧ a34 i = a10 i ∧ (1 ≤ (a9 i).toInt ∧ (a9 i).toInt ≤ 1000000000) ∧ (1 ≤ (a10 i).toInt ∧ (a10 i).toInt ≤ 1000000000)
/-- what is held: nothing, a rule, a list -/
def Rki (i0 i25 : Int32) (A B : Prop) : Prop := i25 = i0 ∧ (i0 = 0 ∨ (i0 = 1 ∧ A) ∨ (i0 = 2 ∧ B))
/-- the sheet -/
def Rsh (i5 i6 i21 i22 : Int32) (a11 a30 : Nat → Int64) : Prop := (i5 = -1 ∧ i21 = -1 ∧ i6 = 0) ∨ ∃ t n, t ≤ 3 ∧ n ≤ 64 ∧ (t = 3 → n = 0) ∧ i5 = nI t ∧ i21 = nI t ∧ i6 = nI n ∧ i22 = nI n ∧ ∀ k, k < n → a30 k = a11 k
/-- the row -/
def Rro (i7 i28 : Int32) (a12 a35 : Nat → Int64) : Prop := ∃ n, n ≤ 1000 ∧ i7 = nI n ∧ i28 = nI n ∧ ∀ k, k < n → a35 k = a12 k
/-- the word -/
def Rwo (i10 i29 : Int32) (a15 : Nat → Int64) (b0 : Nat → Int32) : Prop := ∃ n, n ≤ 40 ∧ i10 = nI n ∧ i29 = nI n ∧ ∀ k, k < n → ∃ w, w < 64 ∧ a15 k = lN w ∧ b0 k = nI w
/-- the machine's acts -/
def Rma (i12 i13 i14 i15 i31 : Int32) (a22 a23 a24 a25 : Nat → Int64) (b3 : Nat → Int32) : Prop := ∃ n, n ≤ 12 ∧ i12 = nI n ∧ i13 = nI n ∧ i14 = nI n ∧ i15 = nI n ∧ i31 = nI n ∧ ∀ k, k < n → a22 k = (b3 (4 * k)).toInt64 ∧ a23 k = (b3 (4 * k + 1)).toInt64 ∧ a24 k = (b3 (4 * k + 2)).toInt64 ∧ a25 k = (b3 (4 * k + 3)).toInt64 ∧ (0 ≤ (b3 (4 * k)).toInt ∧ (b3 (4 * k)).toInt ≤ 2) ∧ ((b3 (4 * k)).toInt ≠ 2 → (0 ≤ (b3 (4 * k + 1)).toInt ∧ (b3 (4 * k + 1)).toInt ≤ 3) ∧ (0 ≤ (b3 (4 * k + 2)).toInt ∧ (b3 (4 * k + 2)).toInt ≤ 11)) ∧ ((b3 (4 * k)).toInt = 1 → 0 ≤ (b3 (4 * k + 3)).toInt ∧ (b3 (4 * k + 3)).toInt ≤ 11)
def Rs0 (a17 a18 a19 : Nat → Int64) : Prop := a17 0 = 1 ∧ a18 0 = 0 ∧ a19 0 = 1
def RR (S : SS) : Prop :=
  Rdr (gI S 2) (gI S 23) (gI S 24) (gA S 3) (gA S 4) (gA S 5) (gA S 31)
  ∧ Rki (gI S 0) (gI S 25) (Rru (gI S 1) (gI S 26) (gA S 0) (gA S 1) (gA S 2) (gA S 32)) (Rli (gI S 4) (gI S 27) (gA S 9) (gA S 10) (gA S 33) (gA S 34))
  ∧ Rsh (gI S 5) (gI S 6) (gI S 21) (gI S 22) (gA S 11) (gA S 30)
  ∧ Rro (gI S 7) (gI S 28) (gA S 12) (gA S 35)
  ∧ Rwo (gI S 10) (gI S 29) (gA S 15) (gB S 0)
  ∧ Rma (gI S 12) (gI S 13) (gI S 14) (gI S 15) (gI S 31) (gA S 22) (gA S 23) (gA S 24) (gA S 25) (gB S 3)
  ∧ Rs0 (gA S 17) (gA S 18) (gA S 19)
theorem RR_thrown {S : SS} (v : Int32) (h : RR S) : RR (sI S 20 v) := h
theorem RR_out {S : SS} (f : Nat → Int64) (h : RR S) : RR (sA S 41 f) := h
theorem in_of {x a b : Int64} {S : SS} {post : Int32 → SS → Prop} (h1 : (a.toInt ≤ x.toInt ∧ x.toInt ≤ b.toInt) → post 1 S) (h0 : ¬ (a.toInt ≤ x.toInt ∧ x.toInt ≤ b.toInt) → post 0 S) : V_X8_in x a b S post := by
  by_cases h : a.toInt ≤ x.toInt ∧ x.toInt ≤ b.toInt
  · rw [x8_in h.1 h.2]; exact h1 h
  · rw [x8_out h]; exact h0 h
/-- all cells of a row the same -/
theorem j7_fill {ai n : Nat} {v : Int64} {S : SS} {post : SS → Prop} (hn : n < 2147483648) (hp : post (sA S ai (fun i => if i < n then v else gA S ai i))) : V_J7_fill_d0a16 ai n v S post := by
  have key : ∀ (j k : Nat) (f : Nat → Int64), k + j = n → post (sA S ai (fun i => if k ≤ i ∧ i < n then v else f i)) → V_J7_fill_d0a16_6 ai n v (nI n) post (j + 1) (nI k) (sA S ai f) := by
    intro j
    induction j with
    | zero =>
      intro k f hk hq
      have hk : k = n := by omega
      subst hk
      rw [V_J7_fill_d0a16_6, brt (nI_le (Nat.le_refl _) hn)]
      have e : (fun i => if k ≤ i ∧ i < k then v else f i) = f := by funext i; rw [if_neg (by omega)]
      rw [e] at hq
      exact hq
    | succ j ih =>
      intro k f hk hq
      rw [V_J7_fill_d0a16_6, brf (nI_ge (by omega) hn), gdt (vp_in_nI (by omega) hn), ale, ale, nI_clamp (by omega), ← nI_succ, gA_sA, sA_sA]
      refine ih (k + 1) _ (by omega) ?_
      have e : (fun i => if k + 1 ≤ i ∧ i < n then v else vp_updL f k v i) = fun i => if k ≤ i ∧ i < n then v else f i := by
        funext i
        by_cases h1 : i = k
        · subst h1; rw [if_neg (by omega), if_pos (by omega), updL_eq]
        · rw [updL_ne _ _ h1]
          by_cases h2 : k ≤ i ∧ i < n
          · rw [if_pos (by omega), if_pos h2]
          · rw [if_neg (by omega), if_neg h2]
      rw [e]; exact hq
  have := key n 0 (gA S ai) (by omega) (by simpa using hp)
  rw [sA_self] at this
  exact ⟨_, this⟩
theorem x5_begin {mi ai bi di : Nat} {p : Int32} {S : SS} {post : SS → Prop} (hb : ai ≠ bi) (hd : ai ≠ di ∧ bi ≠ di) (hp : post (sA (sA (sA (sI S mi p) ai (fun i => if i < 64 then 1 else gA S ai i)) bi (fun i => if i < 64 then 0 else gA S bi i)) di (fun i => if i < 64 then 1 else gA S di i))) : V_X5_begin mi ai bi di p S post := by
  unfold V_X5_begin
  rw [ale]
  refine j7_fill (by omega) (j7_fill (by omega) (j7_fill (by omega) ?_))
  rw [gA_sAn _ _ hd.2.symm, gA_sAn _ _ hd.1.symm, gA_sAn _ _ hb.symm]
  exact hp
-- draft
theorem x8_draft33 {m : Nat} (hm : m ≤ 64) {S : SS} {post : Int32 → SS → Prop} : ∀ (j k : Nat) (f : Nat → Int64), k + j = m → post 1 (sA S 31 (fun i => if 3 * k ≤ i ∧ i < 3 * m then (if i % 3 = 1 then 0 else 1) else f i)) → V_X8_draft_33 (nI m) post (j + 1) (nI k) (sA S 31 f) := by
  intro j
  induction j with
  | zero =>
    intro k f hk hq
    have hk : k = m := by omega
    subst hk
    rw [V_X8_draft_33, brt (nI_le (Nat.le_refl _) (by omega))]
    have e : (fun i => if 3 * k ≤ i ∧ i < 3 * k then (if i % 3 = 1 then (0 : Int64) else 1) else f i) = f := by funext i; rw [if_neg (by omega)]
    rw [e] at hq
    exact hq
  | succ j ih =>
    intro k f hk hq
    rw [V_X8_draft_33, brf (nI_ge (by omega) (by omega)), nmul3 (by omega), nadd1, nadd2, gdt (vp_in_nI (by omega) (by omega)), ale, gdt (vp_in_nI (by omega) (by omega)), ale, gdt (vp_in_nI (by omega) (by omega)), ale, ale, nI_clamp (by omega), nI_clamp (by omega), nI_clamp (by omega), ← nI_succ]
    simp only [gA_sA, sA_sA]
    refine ih (k + 1) _ (by omega) ?_
    have e : (fun i => if 3 * (k + 1) ≤ i ∧ i < 3 * m then (if i % 3 = 1 then (0 : Int64) else 1) else vp_updL (vp_updL (vp_updL f (3 * k) 1) (3 * k + 1) 0) (3 * k + 2) 1 i) = fun i => if 3 * k ≤ i ∧ i < 3 * m then (if i % 3 = 1 then 0 else 1) else f i := by
      funext i
      by_cases h1 : i = 3 * k + 2
      · rw [if_neg (by omega), if_pos (by omega), if_neg (by omega), h1, updL_eq]
      · rw [updL_ne _ _ h1]
        by_cases h2 : i = 3 * k + 1
        · rw [if_neg (by omega), if_pos (by omega), if_pos (by omega), h2, updL_eq]
        · rw [updL_ne _ _ h2]
          by_cases h3 : i = 3 * k
          · rw [if_neg (by omega), if_pos (by omega), if_neg (by omega), h3, updL_eq]
          · rw [updL_ne _ _ h3]
            by_cases h4 : 3 * k ≤ i ∧ i < 3 * m
            · rw [if_pos (by omega), if_pos h4]
            · rw [if_neg (by omega), if_neg h4]
    rw [e]; exact hq
theorem x8_draftL {m : Nat} (hm : m ≤ 64) {S : SS} {post : Int32 → SS → Prop} (hp : post 1 (sA S 31 (fun i => if 3 * 0 ≤ i ∧ i < 3 * m then (if i % 3 = 1 then 0 else 1) else gA S 31 i))) : ∃ j, V_X8_draft_33 (nI m) post j 0 S := by
  have := x8_draft33 hm m 0 (gA S 31) (by omega) hp
  rw [sA_self] at this
  exact ⟨_, this⟩
theorem p_draft {p : Int32} {S : SS} (h : RR S) : V_X7_draft p S (fun r1 S2 => V_X8_draft p S2 (fun r3 S4 => (r1 = r3 → RR S4) ∧ (¬ r1 = r3 → False))) := by
  unfold V_X7_draft
  by_cases h1 : 2 ≤ p.toInt
  · rw [brf (fun q => by have := lt32.mp q; rw [show (2 : Int32).toInt = 2 from rfl] at this; omega)]
    by_cases h2 : p.toInt ≤ 64
    · rw [brt (le32.mpr (by show p.toInt ≤ 64; exact h2))]
      obtain ⟨m, rfl, hm2, hm⟩ := nat32 (p := p) 2 64 h1 h2 (by omega)
      refine x5_begin (by decide) (by decide) ?_
      show V_X8_draft _ _ _
      unfold V_X8_draft
      rw [ale, x8_in (by rw [i64_toInt]; exact h1) (by rw [i64_toInt]; exact h2), brf (by decide), ale, ale]
      refine x8_draftL hm (eqp rfl ⟨Or.inr ⟨m, hm2, hm, rfl, rfl, rfl, fun r hr => ?_⟩, h.2⟩)
      show (if 3 * 0 ≤ 3 * r ∧ 3 * r < 3 * m then (if 3 * r % 3 = 1 then (0 : Int64) else 1) else gA S 31 (3 * r)) = (if r < 64 then (1 : Int64) else gA S 3 r) ∧ (if 3 * 0 ≤ 3 * r + 1 ∧ 3 * r + 1 < 3 * m then (if (3 * r + 1) % 3 = 1 then (0 : Int64) else 1) else gA S 31 (3 * r + 1)) = (if r < 64 then (0 : Int64) else gA S 4 r) ∧ (if 3 * 0 ≤ 3 * r + 2 ∧ 3 * r + 2 < 3 * m then (if (3 * r + 2) % 3 = 1 then (0 : Int64) else 1) else gA S 31 (3 * r + 2)) = (if r < 64 then (1 : Int64) else gA S 5 r)
      refine ⟨?_, ?_, ?_⟩
      · rw [if_pos (by omega), if_neg (by omega), if_pos (by omega)]
      · rw [if_pos (by omega), if_pos (by omega), if_pos (by omega)]
      · rw [if_pos (by omega), if_neg (by omega), if_pos (by omega)]
    · rw [brf (fun q => h2 (by have := le32.mp q; exact this))]
      show V_X8_draft _ _ _
      unfold V_X8_draft
      rw [ale, x8_out (by rw [i64_toInt]; exact fun q => h2 q.2), brt rfl]
      exact eqp rfl h
  · rw [brt (lt32.mpr (by show p.toInt < 2; omega))]
    show V_X8_draft _ _ _
    unfold V_X8_draft
    rw [ale, x8_out (by rw [i64_toInt]; exact fun q => h1 q.1), brt rfl]
    exact eqp rfl h
