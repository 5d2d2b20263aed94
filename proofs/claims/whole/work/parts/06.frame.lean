/-! THE FRAME: the state of class and reference as four tables of numbers (int fields, long fields, int rows, long rows); the world that holds it; what a contract starts from and ends in. -/
abbrev SS : Type := (Nat → Int32) × (Nat → Int64) × (Nat → Nat → Int32) × (Nat → Nat → Int64)
def gI (S : SS) (k : Nat) : Int32 := S.1 k
def gJ (S : SS) (k : Nat) : Int64 := S.2.1 k
def gB (S : SS) (k : Nat) : Nat → Int32 := S.2.2.1 k
def gA (S : SS) (k : Nat) : Nat → Int64 := S.2.2.2 k
def sI (S : SS) (k : Nat) (v : Int32) : SS := (va_up S.1 k v, S.2)
def sJ (S : SS) (k : Nat) (v : Int64) : SS := (S.1, va_up S.2.1 k v, S.2.2)
def sB (S : SS) (k : Nat) (f : Nat → Int32) : SS := (S.1, S.2.1, va_up S.2.2.1 k f, S.2.2.2)
def sA (S : SS) (k : Nat) (f : Nat → Int64) : SS := (S.1, S.2.1, S.2.2.1, va_up S.2.2.2 k f)
theorem gs : (∀ (S : SS) (k j : Nat) (v : Int32), gI (sI S k v) j = if j = k then v else gI S j) ∧ (∀ (S : SS) (k j : Nat) (v : Int64), gI (sJ S k v) j = gI S j) ∧ (∀ (S : SS) (k j : Nat) (v : Nat → Int32), gI (sB S k v) j = gI S j) ∧ (∀ (S : SS) (k j : Nat) (v : Nat → Int64), gI (sA S k v) j = gI S j)
    ∧ (∀ (S : SS) (k j : Nat) (v : Int32), gJ (sI S k v) j = gJ S j) ∧ (∀ (S : SS) (k j : Nat) (v : Int64), gJ (sJ S k v) j = if j = k then v else gJ S j) ∧ (∀ (S : SS) (k j : Nat) (v : Nat → Int32), gJ (sB S k v) j = gJ S j) ∧ (∀ (S : SS) (k j : Nat) (v : Nat → Int64), gJ (sA S k v) j = gJ S j)
    ∧ (∀ (S : SS) (k j : Nat) (v : Int32), gB (sI S k v) j = gB S j) ∧ (∀ (S : SS) (k j : Nat) (v : Int64), gB (sJ S k v) j = gB S j) ∧ (∀ (S : SS) (k j : Nat) (v : Nat → Int32), gB (sB S k v) j = if j = k then v else gB S j) ∧ (∀ (S : SS) (k j : Nat) (v : Nat → Int64), gB (sA S k v) j = gB S j)
    ∧ (∀ (S : SS) (k j : Nat) (v : Int32), gA (sI S k v) j = gA S j) ∧ (∀ (S : SS) (k j : Nat) (v : Int64), gA (sJ S k v) j = gA S j) ∧ (∀ (S : SS) (k j : Nat) (v : Nat → Int32), gA (sB S k v) j = gA S j) ∧ (∀ (S : SS) (k j : Nat) (v : Nat → Int64), gA (sA S k v) j = if j = k then v else gA S j) :=
  ⟨fun _ _ _ _ => rfl, fun _ _ _ _ => rfl, fun _ _ _ _ => rfl, fun _ _ _ _ => rfl, fun _ _ _ _ => rfl, fun _ _ _ _ => rfl, fun _ _ _ _ => rfl, fun _ _ _ _ => rfl, fun _ _ _ _ => rfl, fun _ _ _ _ => rfl, fun _ _ _ _ => rfl, fun _ _ _ _ => rfl, fun _ _ _ _ => rfl, fun _ _ _ _ => rfl, fun _ _ _ _ => rfl, fun _ _ _ _ => rfl⟩
abbrev lrm (x y : Int64) : Int64 := x - x / y * y
abbrev irm (x y : Int32) : Int32 := x - x / y * y
theorem lc_lt (x y : Int64) : lg_cmp x y < 0 ↔ x < y := by
  unfold lg_cmp
  by_cases h1 : x > y
  · rw [if_pos h1]
    exact ⟨fun h => absurd h (by decide), fun h => absurd h (Int64.not_lt.mpr (Int64.le_of_lt h1))⟩
  · rw [if_neg h1]
    by_cases h2 : x = y
    · rw [if_pos h2, h2]
      exact ⟨fun h => absurd h (by decide), fun h => absurd h (Int64.lt_irrefl)⟩
    · rw [if_neg h2]
      exact ⟨fun _ => Int64.lt_of_le_of_ne (Int64.not_lt.mp h1) h2, fun _ => by decide⟩
theorem lc_eq (x y : Int64) : lg_cmp x y = 0 ↔ x = y := by
  unfold lg_cmp
  by_cases h1 : x > y
  · rw [if_pos h1]
    exact ⟨fun h => absurd h (by decide), fun h => absurd h1 (by rw [h]; exact Int64.lt_irrefl)⟩
  · rw [if_neg h1]
    by_cases h2 : x = y
    · rw [if_pos h2]; exact ⟨fun _ => h2, fun _ => rfl⟩
    · rw [if_neg h2]; exact ⟨fun h => absurd h (by decide), fun h => absurd h h2⟩
theorem lc_gt (x y : Int64) : 0 < lg_cmp x y ↔ y < x := by
  unfold lg_cmp
  by_cases h1 : x > y
  · rw [if_pos h1]; exact ⟨fun _ => h1, fun _ => by decide⟩
  · rw [if_neg h1]
    by_cases h2 : x = y
    · rw [if_pos h2]; exact ⟨fun h => absurd h (by decide), fun h => absurd h h1⟩
    · rw [if_neg h2]; exact ⟨fun h => absurd h (by decide), fun h => absurd h h1⟩
theorem lc_le (x y : Int64) : lg_cmp x y ≤ 0 ↔ x ≤ y := by
  rw [← Int32.not_lt, lc_gt, Int64.not_lt]
theorem lc_ge (x y : Int64) : 0 ≤ lg_cmp x y ↔ y ≤ x := lg_cmp_ge x y
/-- what only holds 0 and 1 -/
def bz (r : Int32) : Prop := narrow .boolean (.int r) = .int r
theorem bz_0 : bz 0 := rfl
theorem bz_1 : bz 1 := rfl
/-- the cells that a run makes, from the first that the law makes on -/
abbrev fr (n0 : Nat) : Nat → Prop := fun q => n0 ≤ q
abbrev tys (cI cJ : ClassId) : List (ClassId × FieldType) := [(cJ, .long), (cI, .int)]
abbrev mxI (x y : Int32) : Int32 := if x < y then y else x
abbrev mnI (x y : Int32) : Int32 := if y < x then y else x
abbrev mxL (x y : Int64) : Int64 := if y < x then x else y
abbrev mnL (x y : Int64) : Int64 := if y < x then y else x
abbrev abL (x : Int64) : Int64 := if 0 < x then x else -x
