/-! PLAIN FACTS: branches, 32 and 64 bit numbers as whole numbers -/
theorem brt {c A B : Prop} (h : c) : ((c → A) ∧ (¬ c → B)) = A := propext ⟨fun q => q.1 h, fun a => ⟨fun _ => a, fun n => absurd h n⟩⟩
theorem brf {c A B : Prop} (h : ¬ c) : ((c → A) ∧ (¬ c → B)) = B := propext ⟨fun q => q.2 h, fun a => ⟨fun n => absurd n h, fun _ => a⟩⟩
theorem gdt {g A : Prop} (h : g) : (g ∧ A) = A := propext ⟨fun q => q.2, fun a => ⟨h, a⟩⟩
theorem ale {α : Sort _} {e : α} {P : α → Prop} : (∀ x, x = e → P x) = P e := propext ⟨fun h => h e rfl, fun h x hx => hx ▸ h⟩
theorem a32 {x y : Int32} (h1 : -2147483648 ≤ x.toInt + y.toInt) (h2 : x.toInt + y.toInt ≤ 2147483647) : (x + y).toInt = x.toInt + y.toInt := by
  rw [Int32.toInt_add]; exact Int.bmod_eq_of_le (by omega) (by omega)
theorem s32 {x y : Int32} (h1 : -2147483648 ≤ x.toInt - y.toInt) (h2 : x.toInt - y.toInt ≤ 2147483647) : (x - y).toInt = x.toInt - y.toInt := by
  rw [Int32.toInt_sub]; exact Int.bmod_eq_of_le (by omega) (by omega)
theorem m32 {x y : Int32} (h1 : -2147483648 ≤ x.toInt * y.toInt) (h2 : x.toInt * y.toInt ≤ 2147483647) : (x * y).toInt = x.toInt * y.toInt := by
  rw [Int32.toInt_mul]; exact Int.bmod_eq_of_le (by omega) (by omega)
theorem a64 {x y : Int64} (h1 : -9223372036854775808 ≤ x.toInt + y.toInt) (h2 : x.toInt + y.toInt ≤ 9223372036854775807) : (x + y).toInt = x.toInt + y.toInt := by
  rw [Int64.toInt_add]; exact Int.bmod_eq_of_le (by omega) (by omega)
theorem s64 {x y : Int64} (h1 : -9223372036854775808 ≤ x.toInt - y.toInt) (h2 : x.toInt - y.toInt ≤ 9223372036854775807) : (x - y).toInt = x.toInt - y.toInt := by
  rw [Int64.toInt_sub]; exact Int.bmod_eq_of_le (by omega) (by omega)
theorem m64 {x y : Int64} (h1 : -9223372036854775808 ≤ x.toInt * y.toInt) (h2 : x.toInt * y.toInt ≤ 9223372036854775807) : (x * y).toInt = x.toInt * y.toInt := by
  rw [Int64.toInt_mul]; exact Int.bmod_eq_of_le (by omega) (by omega)
theorem n64 {x : Int64} (h1 : -9223372036854775807 ≤ x.toInt) : (-x).toInt = -x.toInt := by
  have h2 := Int64.toInt_lt x
  rw [Int64.toInt_neg]; exact Int.bmod_eq_of_le (by omega) (by omega)
theorem d64 {x y : Int64} (h : y.toInt ≠ -1) : (x / y).toInt = x.toInt.tdiv y.toInt := Int64.toInt_div_of_ne_right x y (fun e => h (by rw [e]; rfl))
theorem lt64 {x y : Int64} : x < y ↔ x.toInt < y.toInt := Int64.lt_iff_toInt_lt
theorem le64 {x y : Int64} : x ≤ y ↔ x.toInt ≤ y.toInt := Int64.le_iff_toInt_le
theorem eq64 {x y : Int64} : x = y ↔ x.toInt = y.toInt := Int64.toInt_inj.symm
theorem lt32 {x y : Int32} : x < y ↔ x.toInt < y.toInt := Int32.lt_iff_toInt_lt
theorem le32 {x y : Int32} : x ≤ y ↔ x.toInt ≤ y.toInt := Int32.le_iff_toInt_le
theorem eq32 {x y : Int32} : x = y ↔ x.toInt = y.toInt := Int32.toInt_inj.symm
/-- the rest, for what is not the least of all -/
theorem lrm_toInt {x y : Int64} (h1 : y.toInt ≠ -1) (h0 : y.toInt ≠ 0) : (lrm x y).toInt = x.toInt.tmod y.toInt := by
  have hd : (x / y).toInt = x.toInt.tdiv y.toInt := d64 h1
  have hx1 := Int64.le_toInt x
  have hx2 := Int64.toInt_lt x
  have e := Int.tmod_add_mul_tdiv x.toInt y.toInt
  have hp : x.toInt.tdiv y.toInt * y.toInt = x.toInt - x.toInt.tmod y.toInt := by rw [Int.mul_comm]; omega
  have hb : (x.toInt.tmod y.toInt).natAbs ≤ x.toInt.natAbs := by
    rw [Int.natAbs_tmod]; exact Nat.mod_le _ _
  have hs1 : 0 ≤ x.toInt → 0 ≤ x.toInt.tmod y.toInt := fun h => Int.tmod_nonneg _ h
  have hs2 : x.toInt ≤ 0 → x.toInt.tmod y.toInt ≤ 0 := fun h => by
    have := Int.tmod_nonneg y.toInt (a := -x.toInt) (by omega)
    rw [Int.neg_tmod] at this
    omega
  have hm : (x / y * y).toInt = x.toInt.tdiv y.toInt * y.toInt := by
    rw [m64, hd]
    · rw [hd, hp]; omega
    · rw [hd, hp]; omega
  show (x - x / y * y).toInt = _
  rw [s64, hm, hp]
  · omega
  · rw [hm, hp]; omega
  · rw [hm, hp]; omega
theorem nI_i64 {n : Nat} (h : n < 2147483648) : (nI n).toInt64 = lN n := nI_l h
theorem lN_int {n : Nat} (h : n < 9223372036854775808) : (lN n).toInt = (n : Int) := pk_lT h
theorem i64_toInt (x : Int32) : x.toInt64.toInt = x.toInt := Int32.toInt_toInt64 x
theorem l2i_toInt {x : Int64} (h1 : -2147483648 ≤ x.toInt) (h2 : x.toInt ≤ 2147483647) : x.toInt32.toInt = x.toInt := by
  rw [Int64.toInt_toInt32]; exact Int.bmod_eq_of_le (by omega) (by omega)
theorem of32 {x : Int32} {n : Nat} (h : x.toInt = (n : Int)) (hn : n < 2147483648) : x = nI n := eq32.mpr (by rw [h, nI_toInt hn])
theorem of64 {x : Int64} {n : Nat} (h : x.toInt = (n : Int)) (hn : n < 9223372036854775808) : x = lN n := eq64.mpr (by rw [h, lN_int hn])
theorem vp_of {x : Int32} {n : Nat} (h0 : 0 ≤ x.toInt) (h1 : x.toInt < n) : vp_in x n := vp_in_iff.mpr ⟨h0, h1⟩
theorem clampN {x : Int32} {n : Nat} (h : x.toInt = (n : Int)) : x.toNatClampNeg = n := by
  show x.toInt.toNat = n
  rw [h]; rfl
/-- floorMod as the two sides use it -/
def fmd (x y : Int64) : Int64 := if (0 : Int64) ≤ (x ^^^ y) then lrm x y else if lrm x y = (0 : Int64) then lrm x y else lrm x y + y
theorem xor_sign (x y : Int64) : (0 : Int64) ≤ (x ^^^ y) ↔ (0 ≤ x.toInt ↔ 0 ≤ y.toInt) := by
  have key : ∀ z : Int64, 0 ≤ z.toInt ↔ z.toBitVec.msb = false := fun z => by
    show 0 ≤ z.toBitVec.toInt ↔ _
    rw [BitVec.msb_eq_toInt]
    simp
  rw [le64, show (0 : Int64).toInt = 0 from rfl, key, key, key, Int64.toBitVec_xor, BitVec.msb_xor]
  cases x.toBitVec.msb <;> cases y.toBitVec.msb <;> simp
theorem fmd_toInt {x y : Int64} (hy : 0 < y.toInt) : (fmd x y).toInt = x.toInt % y.toInt := by
  have hr : (lrm x y).toInt = x.toInt.tmod y.toInt := lrm_toInt (by omega) (by omega)
  have hy2 := Int64.toInt_lt y
  have hlt : x.toInt.tmod y.toInt < y.toInt := Int.tmod_lt_of_pos _ hy
  unfold fmd
  by_cases hx : 0 ≤ x.toInt
  · rw [if_pos ((xor_sign x y).mpr ⟨fun _ => by omega, fun _ => hx⟩), hr, Int.tmod_eq_emod_of_nonneg hx]
  · rw [if_neg (fun h => hx (((xor_sign x y).mp h).mpr (by omega)))]
    have hem : x.toInt.tmod y.toInt = -((-x.toInt) % y.toInt) := by
      have := Int.neg_tmod (-x.toInt) y.toInt
      rw [Int.neg_neg] at this
      rw [this, Int.tmod_eq_emod_of_nonneg (by omega)]
    have h3 := Int.emod_nonneg (-x.toInt) (show y.toInt ≠ 0 by omega)
    have h4 := Int.emod_lt_of_pos (-x.toInt) hy
    by_cases h0 : lrm x y = (0 : Int64)
    · rw [if_pos h0, hr]
      have h5 : x.toInt.tmod y.toInt = 0 := by rw [← hr, h0]; rfl
      have h6 : y.toInt ∣ x.toInt := Int.dvd_of_tmod_eq_zero h5
      rw [h5, Int.emod_eq_zero_of_dvd h6]
    · rw [if_neg h0]
      have h5 : x.toInt.tmod y.toInt ≠ 0 := fun h => h0 (eq64.mpr (by rw [hr, h]; rfl))
      rw [a64, hr, hem]
      · have h7 : x.toInt = -(-x.toInt) := by omega
        have h8 := Int.emod_add_mul_ediv (-x.toInt) y.toInt
        have h9 : x.toInt = (y.toInt - (-x.toInt) % y.toInt) + y.toInt * (-((-x.toInt) / y.toInt) - 1) := by
          rw [Int.mul_sub, Int.mul_neg]; omega
        have h10 : (y.toInt - (-x.toInt) % y.toInt) % y.toInt = y.toInt - (-x.toInt) % y.toInt := Int.emod_eq_of_lt (by omega) (by omega)
        have h11 : x.toInt % y.toInt = y.toInt - (-x.toInt) % y.toInt := by
          conv => lhs; rw [h9]
          rw [Int.add_mul_emod_self_left, h10]
        rw [h11]
        omega
      · rw [hr, hem]; omega
      · rw [hr, hem]; omega
