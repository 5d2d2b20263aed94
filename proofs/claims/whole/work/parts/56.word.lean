/-! WORD -/
/-- the number behind i steps -/
def wsF (S : SS) (x : Int64) : Nat → Int64
  | 0 => x
  | i + 1 => aft S (wsF S x i)
def wfF (S : SS) (x : Int64) (i : Nat) : Int64 := (sgF S (wsF S x i)).toInt64
abbrev wOk (S : SS) (x : Int64) (i : Nat) : Prop := ¬ wsF S x i = 3000000000000000 ∧ 0 ≤ sgF S (wsF S x i)
/-- the row of signs up to i -/
abbrev wRow (S : SS) (x : Int64) (i : Nat) (f : Nat → Int64) : Nat → Int64 := fun t => if t < i then wfF S x t else f t
theorem wRow_succ (S : SS) (x : Int64) (i : Nat) (f : Nat → Int64) : vp_updL (wRow S x i f) i (wfF S x i) = wRow S x (i + 1) f := by
  funext t
  by_cases h : t = i
  · subst h; rw [updL_eq]; show _ = if t < t + 1 then wfF S x t else f t; rw [if_pos (by omega)]
  · rw [updL_ne _ _ h]
    show (if t < i then wfF S x t else f t) = if t < i + 1 then wfF S x t else f t
    by_cases h2 : t < i
    · rw [if_pos h2, if_pos (by omega)]
    · rw [if_neg h2, if_neg (by omega)]
section
variable {S : SS} {k : Nat} {x : Int64} {post : Int32 → SS → Prop}
abbrev cW (S : SS) (x : Int64) (i : Nat) : SS := sI (sA S 13 (wRow S x i (gA S 13))) 8 (nI i)
/-- what the class ends in with i signs -/
theorem x7_wend {i : Nat} (hi : i ≤ 40) (hp : post (nI i) (sI (sA (cW S x i) 12 (fun t => if t < i then wfF S x t else gA S 12 t)) 7 (nI i))) : V_X2_become 7 12 1000 8 13 1000 (cW S x i) (fun S11 => V_X2_size 7 12 1000 S11 (fun r12 S13 => post r12 S13)) := by
  refine x2_become (n := i) rfl (by omega) (by omega) (by omega) (by omega) (by decide) (by decide) ?_
  rw [x2_size, gI_sI]
  have e : (fun t => if t < i then gA (cW S x i) 13 t else gA (cW S x i) 12 t) = fun t => if t < i then wfF S x t else gA S 12 t := by
    funext t
    by_cases h : t < i
    · rw [if_pos h, if_pos h]
      show (if t < i then wfF S x t else gA S 13 t) = _
      rw [if_pos h]
    · rw [if_neg h, if_neg h]; rfl
  rw [e]
  exact hp
end
