/-! ASCENDING ROWS -/
/-- v put into an ascending list, behind what is like it -/
def insL (v : Int64) : List Int64 → List Int64
  | [] => [v]
  | a :: t => if a.toInt ≤ v.toInt then a :: insL v t else v :: a :: t
def isL (l : List Int64) : List Int64 := l.foldl (fun acc v => insL v acc) []
abbrev Asc (l : List Int64) : Prop := l.Pairwise (fun a b => a.toInt ≤ b.toInt)
theorem insL_len (v : Int64) (l : List Int64) : (insL v l).length = l.length + 1 := by
  induction l with
  | nil => rfl
  | cons a t ih =>
    unfold insL
    by_cases c : a.toInt ≤ v.toInt
    · rw [if_pos c, List.length_cons, ih]; rfl
    · rw [if_neg c]; rfl
theorem insL_mem {v x : Int64} {l : List Int64} (h : x ∈ insL v l) : x = v ∨ x ∈ l := by
  induction l with
  | nil => exact Or.inl (List.mem_singleton.mp h)
  | cons a t ih =>
    unfold insL at h
    by_cases c : a.toInt ≤ v.toInt
    · rw [if_pos c] at h
      rcases List.mem_cons.mp h with e | e
      · exact Or.inr (List.mem_cons.mpr (Or.inl e))
      · rcases ih e with e | e
        · exact Or.inl e
        · exact Or.inr (List.mem_cons.mpr (Or.inr e))
    · rw [if_neg c] at h
      exact List.mem_cons.mp h
theorem insL_asc {v : Int64} {l : List Int64} (h : Asc l) : Asc (insL v l) := by
  induction l with
  | nil => exact List.pairwise_cons.mpr ⟨fun a ha => absurd ha List.not_mem_nil, List.Pairwise.nil⟩
  | cons a t ih =>
    obtain ⟨h1, h2⟩ := List.pairwise_cons.mp h
    unfold insL
    by_cases c : a.toInt ≤ v.toInt
    · rw [if_pos c]
      refine List.pairwise_cons.mpr ⟨fun b hb => ?_, ih h2⟩
      rcases insL_mem hb with e | e
      · rw [e]; exact c
      · exact h1 b e
    · rw [if_neg c]
      refine List.pairwise_cons.mpr ⟨fun b hb => ?_, h⟩
      rcases List.mem_cons.mp hb with e | e
      · rw [e]; omega
      · have := h1 b e; omega
theorem insL_app {v : Int64} : ∀ (l1 l2 : List Int64), (∀ a ∈ l1, a.toInt ≤ v.toInt) → (∀ b ∈ l2, ¬ b.toInt ≤ v.toInt) → insL v (l1 ++ l2) = l1 ++ v :: l2 := by
  intro l1
  induction l1 with
  | nil =>
    intro l2 _ h2
    cases l2 with
    | nil => rfl
    | cons b t =>
      show (if b.toInt ≤ v.toInt then b :: insL v t else v :: b :: t) = _
      rw [if_neg (h2 b (List.mem_cons.mpr (Or.inl rfl)))]; rfl
  | cons a t ih =>
    intro l2 h1 h2
    show (if a.toInt ≤ v.toInt then a :: insL v (t ++ l2) else v :: a :: (t ++ l2)) = _
    rw [if_pos (h1 a (List.mem_cons.mpr (Or.inl rfl))), ih l2 (fun x hx => h1 x (List.mem_cons.mpr (Or.inr hx))) h2]; rfl
theorem insL_snoc {v z : Int64} (hz : ¬ z.toInt ≤ v.toInt) : ∀ (l : List Int64), insL v (l ++ [z]) = insL v l ++ [z] := by
  intro l
  induction l with
  | nil => show (if z.toInt ≤ v.toInt then z :: insL v [] else v :: z :: []) = _; rw [if_neg hz]; rfl
  | cons a t ih =>
    show (if a.toInt ≤ v.toInt then a :: insL v (t ++ [z]) else v :: a :: (t ++ [z])) = (if a.toInt ≤ v.toInt then a :: insL v t else v :: a :: t) ++ [z]
    by_cases c : a.toInt ≤ v.toInt
    · rw [if_pos c, if_pos c, ih]; rfl
    · rw [if_neg c, if_neg c]; rfl
theorem insL_take (v : Int64) : ∀ (L : Nat) (l : List Int64), (insL v (l.take L)).take L = (insL v l).take L := by
  intro L
  induction L with
  | zero => intro l; rw [List.take_zero, List.take_zero]
  | succ L ih =>
    intro l
    cases l with
    | nil => rfl
    | cons a t =>
      show (if a.toInt ≤ v.toInt then a :: insL v (t.take L) else v :: a :: t.take L).take (L + 1) = (if a.toInt ≤ v.toInt then a :: insL v t else v :: a :: t).take (L + 1)
      by_cases c : a.toInt ≤ v.toInt
      · rw [if_pos c, if_pos c, List.take_succ_cons, List.take_succ_cons, ih]
      · rw [if_neg c, if_neg c, List.take_succ_cons, List.take_succ_cons]
        cases L with
        | zero => rw [List.take_zero, List.take_zero]
        | succ L => rw [List.take_succ_cons, List.take_succ_cons, List.take_take, Nat.min_eq_left (Nat.le_succ L)]
theorem insL_comm (v w : Int64) (l : List Int64) : insL v (insL w l) = insL w (insL v l) := by
  induction l with
  | nil =>
    show (if w.toInt ≤ v.toInt then w :: [v] else v :: w :: []) = (if v.toInt ≤ w.toInt then v :: [w] else w :: v :: [])
    by_cases c1 : w.toInt ≤ v.toInt
    · by_cases c2 : v.toInt ≤ w.toInt
      · have e : v = w := eq64.mpr (by omega)
        subst e; rfl
      · rw [if_pos c1, if_neg c2]
    · rw [if_neg c1, if_pos (by omega)]
  | cons a t ih =>
    by_cases cv : a.toInt ≤ v.toInt
    · by_cases cw : a.toInt ≤ w.toInt
      · have e1 : insL w (a :: t) = a :: insL w t := if_pos cw
        have e2 : insL v (a :: t) = a :: insL v t := if_pos cv
        have e3 : insL v (a :: insL w t) = a :: insL v (insL w t) := if_pos cv
        have e4 : insL w (a :: insL v t) = a :: insL w (insL v t) := if_pos cw
        rw [e1, e2, e3, e4, ih]
      · have e1 : insL w (a :: t) = w :: a :: t := if_neg cw
        have e2 : insL v (a :: t) = a :: insL v t := if_pos cv
        have e3 : insL v (w :: a :: t) = w :: insL v (a :: t) := if_pos (by omega)
        have e4 : insL w (a :: insL v t) = w :: a :: insL v t := if_neg cw
        rw [e1, e3, e2, e4]
    · by_cases cw : a.toInt ≤ w.toInt
      · have e1 : insL w (a :: t) = a :: insL w t := if_pos cw
        have e2 : insL v (a :: t) = v :: a :: t := if_neg cv
        have e3 : insL v (a :: insL w t) = v :: a :: insL w t := if_neg cv
        have e4 : insL w (v :: a :: t) = v :: insL w (a :: t) := if_pos (by omega)
        rw [e1, e2, e3, e4, e1]
      · have e1 : insL w (a :: t) = w :: a :: t := if_neg cw
        have e2 : insL v (a :: t) = v :: a :: t := if_neg cv
        rw [e1, e2]
        show (if w.toInt ≤ v.toInt then w :: insL v (a :: t) else v :: w :: a :: t) = (if v.toInt ≤ w.toInt then v :: insL w (a :: t) else w :: v :: a :: t)
        rw [e1, e2]
        by_cases c1 : w.toInt ≤ v.toInt
        · by_cases c2 : v.toInt ≤ w.toInt
          · have e : v = w := eq64.mpr (by omega)
            subst e; rfl
          · rw [if_pos c1, if_neg c2]
        · rw [if_neg c1, if_pos (by omega)]
theorem isL_snoc (l : List Int64) (v : Int64) : isL (l ++ [v]) = insL v (isL l) := by
  unfold isL
  rw [List.foldl_append]; rfl
theorem isL_len (l : List Int64) : (isL l).length = l.length := by
  have key : ∀ (l acc : List Int64), (l.foldl (fun acc v => insL v acc) acc).length = acc.length + l.length := by
    intro l
    induction l with
    | nil => intro acc; rfl
    | cons a t ih => intro acc; rw [List.foldl_cons, ih, insL_len, List.length_cons]; omega
  have := key l []
  rw [List.length_nil, Nat.zero_add] at this
  exact this
theorem isL_asc (l : List Int64) : Asc (isL l) := by
  have key : ∀ (l acc : List Int64), Asc acc → Asc (l.foldl (fun acc v => insL v acc) acc) := by
    intro l
    induction l with
    | nil => intro acc h; exact h
    | cons a t ih => intro acc h; rw [List.foldl_cons]; exact ih _ (insL_asc h)
  exact key l [] List.Pairwise.nil
/-- f with v put in at p -/
def shf (f : Nat → Int64) (v : Int64) (p : Nat) : Nat → Int64 := fun i => if i < p then f i else if i = p then v else f (i - 1)
theorem fn_shf {f : Nat → Int64} {l : List Int64} {v : Int64} {p : Nat} (h : FN f l) (hp : p ≤ l.length) : FN (shf f v p) (l.take p ++ v :: l.drop p) := by
  intro i w hw
  have lt : (l.take p).length = p := by rw [List.length_take]; omega
  unfold shf
  by_cases c : i < p
  · rw [if_pos c]
    rw [List.getElem?_append_left (by omega), List.getElem?_take, if_pos c] at hw
    exact h i w hw
  · rw [if_neg c]
    rw [List.getElem?_append_right (by omega), lt] at hw
    by_cases c1 : i = p
    · rw [if_pos c1]
      subst c1
      rw [Nat.sub_self, List.getElem?_cons_zero] at hw
      exact Option.some.inj hw
    · rw [if_neg c1]
      obtain ⟨j, rfl⟩ : ∃ j, i = p + j + 1 := ⟨i - p - 1, by omega⟩
      rw [show p + j + 1 - p = j + 1 by omega, List.getElem?_cons_succ, List.getElem?_drop] at hw
      exact h _ w hw
/-- where v falls -/
theorem ins_at {f : Nat → Int64} {l : List Int64} {v : Int64} {p : Nat} (h : FN f l) (ha : Asc l) (hp : p ≤ l.length) (h1 : p = 0 ∨ (f (p - 1)).toInt ≤ v.toInt) (h2 : ∀ t, p ≤ t → t < l.length → ¬ (f t).toInt ≤ v.toInt) : insL v l = l.take p ++ v :: l.drop p := by
  have e : l.take p ++ l.drop p = l := List.take_append_drop p l
  have hA : Asc (l.take p ++ l.drop p) := by rw [e]; exact ha
  conv => lhs; rw [← e]
  refine insL_app _ _ (fun a ha2 => ?_) (fun b hb => ?_)
  · rcases h1 with z | z
    · subst z; rw [List.take_zero] at ha2; exact absurd ha2 List.not_mem_nil
    · obtain ⟨i, hi, e2⟩ := List.mem_iff_getElem.mp ha2
      rw [List.length_take] at hi
      have e3 : l[i]'(by omega) = a := by rw [← e2, List.getElem_take]
      have e4 : f (p - 1) = l[p - 1]'(by omega) := h _ _ (List.getElem?_eq_getElem _)
      rcases Nat.lt_or_ge i (p - 1) with c | c
      · have := List.pairwise_iff_getElem.mp ha i (p - 1) (by omega) (by omega) c
        rw [e3, ← e4] at this
        omega
      · have e5 : i = p - 1 := by omega
        subst e5
        rw [← e3, ← e4]; exact z
  · obtain ⟨i, hi, e2⟩ := List.mem_iff_getElem.mp hb
    rw [List.length_drop] at hi
    have e3 : l[p + i]'(by omega) = b := by rw [← e2, List.getElem_drop]
    have e4 : f (p + i) = l[p + i]'(by omega) := h _ _ (List.getElem?_eq_getElem _)
    have := h2 (p + i) (by omega) (by omega)
    rw [e4, e3] at this
    exact this
section
variable {si ai L n : Nat} {f : Nat → Int64} {v : Int64} {post : SS → Prop}
theorem nI_m1 {p : Nat} (h : 1 ≤ p) : nI p + (-1) = nI (p - 1) := by
  have e : nI p + (-1) = nI p - 1 := by rw [Int32.sub_eq_add_neg]
  rw [e, nsub1 h]
theorem x2_sort42 (hn : n < L) (hL : L < 2147483648) : ∀ (p : Nat) (T : SS), p ≤ n → gI T si = nI (n + 1) → (∀ i, i ≤ n → gA T ai i = shf f v p i) → (∀ t, p ≤ t → t < n → ¬ (f t).toInt ≤ v.toInt) → (∀ U q, Kp [si] [] [] [ai] T U → gI U si = nI (n + 1) → q ≤ n → (∀ i, i ≤ n → gA U ai i = shf f v q i) → (q = 0 ∨ (f (q - 1)).toInt ≤ v.toInt) → (∀ t, q ≤ t → t < n → ¬ (f t).toInt ≤ v.toInt) → post U) → V_X2_sortIn_42 si ai L v post (p + 1) (nI p) T := by
  intro p
  induction p with
  | zero =>
    intro T hp hs hf hg hk
    rw [V_X2_sortIn_42, brt (c := nI 0 ≤ (0 : Int32)) (by decide)]
    exact hk T 0 (kp_refl _ _ _ _ T) hs hp hf (Or.inl rfl) hg
  | succ p ih =>
    intro T hp hs hf hg hk
    have e0 : gA T ai p = f p := by
      rw [hf p (by omega)]; exact if_pos (Nat.lt_succ_self p)
    rw [V_X2_sortIn_42, brf (nI_nle (Nat.succ_pos p) (by omega)), nI_pred, x2_at hs (by omega) (by omega) hL, e0]
    have ele : f p ≤ v ↔ (f p).toInt ≤ v.toInt := le64
    by_cases c : (f p).toInt ≤ v.toInt
    · rw [brt (ele.mpr c)]
      exact hk T (p + 1) (kp_refl _ _ _ _ T) hs hp hf (Or.inr c) hg
    · rw [brf (fun q => c (ele.mp q)), x2_at hs (by omega) (by omega) hL, e0, x2_put hs (by omega) (by omega) hL]
      have hs1 : gI (sA T ai (vp_updL (gA T ai) (p + 1) (f p))) si = nI (n + 1) := hs
      rw [x2_put hs1 (by omega) (by omega) hL, ale, gA_sA, sA_sA, nI_m1 (by omega)]
      have kT : Kp [si] [] [] [ai] T (sA T ai (vp_updL (vp_updL (gA T ai) (p + 1) (f p)) p v)) := kp_sA (kp_refl _ _ _ _ T) (List.mem_singleton.mpr rfl)
      refine ih _ (by omega) hs (fun i hi => ?_) (fun t h1 h2 => ?_) (fun U q kU u1 u2 u3 u4 u5 => hk U q (kp_trans kT kU) u1 u2 u3 u4 u5)
      · rw [gA_sA]
        by_cases c1 : i = p
        · subst c1; rw [updL_eq]; unfold shf; rw [if_neg (Nat.lt_irrefl i), if_pos rfl]
        · rw [updL_ne _ _ c1]
          by_cases c2 : i = p + 1
          · subst c2; rw [updL_eq]; unfold shf; rw [if_neg (by omega), if_neg (by omega)]; rfl
          · rw [updL_ne _ _ c2, hf i hi]
            unfold shf
            by_cases c3 : i < p
            · rw [if_pos (by omega), if_pos c3]
            · rw [if_neg (by omega), if_neg c2, if_neg c3, if_neg c1]
      · rcases Nat.lt_or_eq_of_le h1 with z | z
        · exact hg t z h2
        · exact z ▸ c
end
theorem x2_sortInL {si ai L : Nat} {l : List Int64} {v : Int64} {S : SS} {post : SS → Prop} (h : NR S si ai l) (ha : Asc l) (hl : l.length ≤ L) (hL1 : 1 ≤ L) (hL : L < 2147483648) (hk : ∀ U, Kp [si] [] [] [ai] S U → NR U si ai ((insL v l).take L) → post U) : V_X2_sortIn si ai L v S post := by
  unfold V_X2_sortIn
  rcases Nat.lt_or_eq_of_le hl with c | c
  · rw [x2_add h.1 c hL, brf (by decide), gI_sI, nI_pred, ale]
    have kT : Kp [si] [] [] [ai] S (sI (sA S ai (vp_updL (gA S ai) l.length v)) si (nI (l.length + 1))) := kp_sI (kp_sA (kp_refl _ _ _ _ S) (List.mem_singleton.mpr rfl)) (List.mem_singleton.mpr rfl)
    refine ⟨l.length + 1, x2_sort42 (n := l.length) (f := gA S ai) c hL l.length _ (Nat.le_refl _) (gI_sI _ _ _) (fun i hi => ?_) (fun t h1 h2 => by omega) (fun U q kU u1 u2 u3 u4 u5 => ?_)⟩
    · rw [gA_sI, gA_sA]
      unfold shf
      rcases Nat.lt_or_eq_of_le hi with z | z
      · rw [updL_ne _ _ (by omega), if_pos z]
      · subst z; rw [updL_eq, if_neg (Nat.lt_irrefl _), if_pos rfl]
    · have hlen : (insL v l).length = l.length + 1 := insL_len v l
      refine hk U (kp_trans kT kU) ⟨?_, ?_⟩
      · rw [u1, List.length_take, hlen, Nat.min_eq_right (by omega)]
      · rw [List.take_of_length_le (by omega), ins_at h.2 ha u2 u4 u5]
        refine fn_eq (fn_shf h.2 u2) (fun i hi => u3 i ?_)
        rw [← ins_at h.2 ha u2 u4 u5, hlen] at hi
        omega
  · have h1 : gI S si = nI L := h.1.trans (by rw [c])
    have hz : l.length - 1 < l.length := by omega
    have e0 : gA S ai (L - 1) = l[l.length - 1] := by rw [← c]; exact nr_get h hz
    rw [x2_addF h1 hL, brt rfl, h1, nsub1 hL1, x2_at h1 (by omega) (Nat.le_refl _) hL]
    have elt : v < gA S ai (L - 1) ↔ ¬ (gA S ai (L - 1)).toInt ≤ v.toInt := by rw [lt64]; omega
    have es : l = l.take (L - 1) ++ [l[l.length - 1]] := by
      have := List.take_append_getElem hz
      rw [show l.length - 1 + 1 = l.length by omega, List.take_length] at this
      rw [← c]; exact this.symm
    have hA2 : Asc (l.take (L - 1) ++ [l[l.length - 1]]) := by rw [← es]; exact ha
    obtain ⟨ha1, -, ha3⟩ := List.pairwise_append.mp hA2
    have lt1 : (l.take (L - 1)).length = L - 1 := by rw [List.length_take]; omega
    by_cases cv : (gA S ai (L - 1)).toInt ≤ v.toInt
    · rw [brf (fun q => (elt.mp q) cv)]
      refine hk S (kp_refl _ _ _ _ S) ?_
      have e : (insL v l).take L = l := by
        have : insL v l = l ++ [v] := by
          have := insL_app (v := v) l [] (fun a hm => ?_) (fun b hb => absurd hb List.not_mem_nil)
          · rw [List.append_nil] at this; exact this
          · rw [e0] at cv
            rw [es] at hm
            rcases List.mem_append.mp hm with z | z
            · have := ha3 a z _ (List.mem_singleton.mpr rfl); omega
            · rw [List.mem_singleton.mp z]; exact cv
        rw [this, ← c]
        exact List.take_left
      rw [e]; exact h
    · rw [brt (elt.mpr cv), h1, nsub1 hL1, x2_put h1 (by omega) (Nat.le_refl _) hL]
      have g1 : gI (sA S ai (vp_updL (gA S ai) (L - 1) v)) si = nI L := h1
      rw [g1, nsub1 hL1, ale]
      have kT : Kp [si] [] [] [ai] S (sA S ai (vp_updL (gA S ai) (L - 1) v)) := kp_sA (kp_refl _ _ _ _ S) (List.mem_singleton.mpr rfl)
      have hFN : FN (gA S ai) (l.take (L - 1)) := fn_take h.2 _
      refine ⟨L - 1 + 1, x2_sort42 (n := L - 1) (f := gA S ai) (by omega) hL (L - 1) _ (Nat.le_refl _) (g1.trans (by rw [show L - 1 + 1 = L by omega])) (fun i hi => ?_) (fun t h1 h2 => by omega) (fun U q kU u1 u2 u3 u4 u5 => ?_)⟩
      · rw [gA_sA]
        unfold shf
        rcases Nat.lt_or_eq_of_le hi with z | z
        · rw [updL_ne _ _ (by omega), if_pos z]
        · subst z; rw [updL_eq, if_neg (Nat.lt_irrefl _), if_pos rfl]
      · rw [e0] at cv
        have e : (insL v l).take L = insL v (l.take (L - 1)) := by
          conv => lhs; rw [es]
          rw [insL_snoc cv]
          exact List.take_left' (by rw [insL_len, lt1]; omega)
        have hlen : (insL v (l.take (L - 1))).length = L := by rw [insL_len, lt1]; omega
        rw [e] at hk
        refine hk U (kp_trans kT kU) ⟨?_, ?_⟩
        · rw [u1, hlen, show L - 1 + 1 = L by omega]
        · have hat := ins_at (v := v) (p := q) hFN ha1 (by omega) u4 (fun t a b => u5 t a (by omega))
          rw [hat]
          refine fn_eq (fn_shf hFN (by omega)) (fun i hi => u3 i ?_)
          rw [← hat, hlen] at hi
          omega
section
variable {n : Nat} {post : SS → Prop}
theorem x8_asc17 {v1 : Int32} {k : Nat} {v : Int64} {f : Nat → Int64} {K : Int32 → SS → Prop} (hk : k < 20000) : ∀ (p : Nat) (T : SS), p ≤ k → (∀ i, i ≠ p → gA T 36 i = if i ≤ k then shf f v p i else f i) → (∀ t, p ≤ t → t < k → ¬ (f t).toInt ≤ v.toInt) → (∀ U q, Kp [] [] [] [36] T U → q ≤ k → (∀ i, gA U 36 i = if i ≤ k then shf f v q i else f i) → (q = 0 ∨ (f (q - 1)).toInt ≤ v.toInt) → (∀ t, q ≤ t → t < k → ¬ (f t).toInt ≤ v.toInt) → K (nI (k + 1)) U) → V_X8_ascend_17 v1 (nI k) v K post (p + 1) (nI p) T := by
  have fin : ∀ (p : Nat) (T : SS), p ≤ k → (∀ i, i ≠ p → gA T 36 i = if i ≤ k then shf f v p i else f i) → (∀ t, p ≤ t → t < k → ¬ (f t).toInt ≤ v.toInt) → (p = 0 ∨ (f (p - 1)).toInt ≤ v.toInt) → (∀ U q, Kp [] [] [] [36] T U → q ≤ k → (∀ i, gA U 36 i = if i ≤ k then shf f v q i else f i) → (q = 0 ∨ (f (q - 1)).toInt ≤ v.toInt) → (∀ t, q ≤ t → t < k → ¬ (f t).toInt ≤ v.toInt) → K (nI (k + 1)) U) → vp_in (nI p) 20000 ∧ ∀ S3 : SS, S3 = sA T 36 (vp_updL (gA T 36) (nI p).toNatClampNeg v) → ∀ x4 : Int32, x4 = nI k + 1 → K x4 S3 := fun p T hp hf hg h1 hk2 => by
    refine ⟨vp_in_nI (by omega) (by omega), ?_⟩
    rw [ale, ale, nI_clamp (by omega), nadd1]
    refine hk2 _ p (kp_sA (kp_refl _ _ _ _ T) (by decide)) hp (fun i => ?_) h1 hg
    rw [gA_sA]
    by_cases c : i = p
    · subst c; rw [updL_eq, if_pos hp]; unfold shf; rw [if_neg (Nat.lt_irrefl _), if_pos rfl]
    · rw [updL_ne _ _ c]; exact hf i c
  intro p
  induction p with
  | zero =>
    intro T hp hf hg hk2
    rw [V_X8_ascend_17, brt (c := nI 0 ≤ (0 : Int32)) (by decide)]
    exact fin 0 T hp hf hg (Or.inl rfl) hk2
  | succ p ih =>
    intro T hp hf hg hk2
    have e0 : gA T 36 p = f p := by
      rw [hf p (by omega), if_pos (by omega)]; exact if_pos (Nat.lt_succ_self p)
    rw [V_X8_ascend_17, brf (nI_nle (Nat.succ_pos p) (by omega)), nI_pred, gdt (vp_in_nI (by omega) (by omega)), nI_clamp (by omega), e0]
    have ele : f p ≤ v ↔ (f p).toInt ≤ v.toInt := le64
    by_cases c : (f p).toInt ≤ v.toInt
    · rw [brt (ele.mpr c)]
      exact fin (p + 1) T hp hf hg (Or.inr c) hk2
    · rw [brf (fun q => c (ele.mp q)), gdt (vp_in_nI (by omega) (by omega)), gdt (vp_in_nI (by omega) (by omega)), ale, ale, nI_clamp (by omega), nI_m1 (by omega)]
      have kT : Kp [] [] [] [36] T (sA T 36 (vp_updL (gA T 36) (p + 1) (f p))) := kp_sA (kp_refl _ _ _ _ T) (by decide)
      refine ih _ (by omega) (fun i hi => ?_) (fun t h1 h2 => ?_) (fun U q kU u2 u3 u4 u5 => hk2 U q (kp_trans kT kU) u2 u3 u4 u5)
      · rw [gA_sA]
        by_cases c2 : i = p + 1
        · subst c2; rw [updL_eq, if_pos (by omega)]; unfold shf; rw [if_neg (by omega), if_neg (by omega)]; rfl
        · rw [updL_ne _ _ c2, hf i c2]
          by_cases c4 : i ≤ k
          · rw [if_pos c4, if_pos c4]
            unfold shf
            by_cases c3 : i < p
            · rw [if_pos (by omega), if_pos c3]
            · rw [if_neg (by omega), if_neg c2, if_neg c3, if_neg hi]
          · rw [if_neg c4, if_neg c4]
      · rcases Nat.lt_or_eq_of_le h1 with z | z
        · exact hg t z h2
        · exact z ▸ c
theorem x8_asc2 {l : List Int64} (hl : l.length = n) (hn : n ≤ 20000) : ∀ (j k : Nat) (T : SS), k + j = n → FN (gA T 36) (isL (l.take k) ++ l.drop k) → (∀ U, Kp [] [] [] [36] T U → FN (gA U 36) (isL l) → post U) → V_X8_ascend_2 (nI n) post (j + 1) (nI k) T := by
  intro j
  induction j with
  | zero =>
    intro k T hk h hp
    obtain rfl : k = n := by omega
    rw [V_X8_ascend_2, brt (nI_le (Nat.le_refl _) (by omega))]
    rw [← hl, List.take_length, List.drop_length, List.append_nil] at h
    exact hp T (kp_refl _ _ _ _ T) h
  | succ j ih =>
    intro k T hk h hp
    have hkl : k < l.length := by omega
    have lk : (isL (l.take k)).length = k := by rw [isL_len, List.length_take]; omega
    rw [V_X8_ascend_2, brf (nI_ge (by omega) (by omega)), gdt (vp_in_nI (by omega) (by omega)), nI_clamp (by omega)]
    have ed : l.drop k = l[k] :: l.drop (k + 1) := List.drop_eq_getElem_cons hkl
    have et : isL (l.take (k + 1)) = insL l[k] (isL (l.take k)) := by rw [List.take_succ_eq_append_getElem hkl, isL_snoc]
    rw [ed] at h
    have ev : gA T 36 k = l[k] := h k _ (by rw [List.getElem?_append_right (by omega), lk, Nat.sub_self, List.getElem?_cons_zero])
    rw [ev]
    have h1 : FN (gA T 36) (isL (l.take k)) := fun i v hv => h i v (by rw [List.getElem?_append_left (lt_of_some hv)]; exact hv)
    refine ⟨k + 1, x8_asc17 (f := gA T 36) (by omega) k T (Nat.le_refl _) (fun i hi => ?_) (fun t a b => by omega) (fun U q kU u2 u3 u4 u5 => ?_)⟩
    · unfold shf
      by_cases c : i ≤ k
      · rw [if_pos c, if_pos (by omega)]
      · rw [if_neg c]
    · refine ih (k + 1) U (by omega) ?_ (fun W kW hW => hp W (kp_trans kU kW) hW)
      have hat := ins_at (v := l[k]) (p := q) h1 (isL_asc _) (by omega) u4 (fun t a b => u5 t a (by omega))
      have hsh := fn_shf (v := l[k]) (p := q) h1 (by omega)
      rw [← hat, ← et] at hsh
      have lk1 : (isL (l.take (k + 1))).length = k + 1 := by rw [isL_len, List.length_take]; omega
      intro i w hw
      rw [u3 i]
      by_cases c : i ≤ k
      · rw [if_pos c]
        rw [List.getElem?_append_left (by omega)] at hw
        exact hsh i w hw
      · rw [if_neg c]
        rw [List.getElem?_append_right (by omega), lk1] at hw
        refine h i w ?_
        rw [List.getElem?_append_right (by omega), lk]
        obtain ⟨t, rfl⟩ : ∃ t, i = k + 1 + t := ⟨i - (k + 1), by omega⟩
        rw [show k + 1 + t - k = t + 1 by omega, List.getElem?_cons_succ]
        rw [show k + 1 + t - (k + 1) = t by omega] at hw
        exact hw
theorem x8_ascendL {l : List Int64} {S : SS} (h : FN (gA S 36) l) (hl : l.length = n) (hn : n ≤ 20000) (hp : ∀ U, Kp [] [] [] [36] S U → FN (gA U 36) (isL l) → post U) : V_X8_ascend (nI n) S post := by
  unfold V_X8_ascend
  rcases Nat.eq_zero_or_pos n with c | c
  · subst c
    have e : l = [] := List.eq_nil_of_length_eq_zero hl
    subst e
    refine ⟨1, ?_⟩
    rw [V_X8_ascend_2, brt (c := nI 0 ≤ (1 : Int32)) (by decide)]
    exact hp S (kp_refl _ _ _ _ S) h
  · refine ⟨n - 1 + 1, x8_asc2 hl hn (n - 1) 1 S (by omega) ?_ hp⟩
    cases l with
    | nil => rw [List.length_nil] at hl; omega
    | cons a t => exact h
end
