/-- the world: 0 the bench and what hangs on it, 48 the reference and its rows, 64 the row of the law that holds an answer -/
def gW (ad : Nat → Nat) (cI cJ : ClassId) (S : SS) : va_W := [
  (ad 0, .inr (8, [.int (gI S 0), .ref (ad 1), .ref (ad 5), .ref (ad 9), .ref (ad 13), .ref (ad 16), .ref (ad 19), .ref (ad 21), .ref (ad 23), .ref (ad 25), .ref (ad 27), .ref (ad 29), .ref (ad 33), .ref (ad 35), .ref (ad 37)])),
  (ad 1, .inr (6, [.int (gI S 1), .ref (ad 2), .ref (ad 3), .ref (ad 4)])),
  (ad 2, .inl (cJ, (64, .inr (.inl (gA S 0))))),
  (ad 3, .inl (cJ, (64, .inr (.inl (gA S 1))))),
  (ad 4, .inl (cJ, (64, .inr (.inl (gA S 2))))),
  (ad 5, .inr (6, [.int (gI S 2), .ref (ad 6), .ref (ad 7), .ref (ad 8)])),
  (ad 6, .inl (cJ, (64, .inr (.inl (gA S 3))))),
  (ad 7, .inl (cJ, (64, .inr (.inl (gA S 4))))),
  (ad 8, .inl (cJ, (64, .inr (.inl (gA S 5))))),
  (ad 9, .inr (6, [.int (gI S 3), .ref (ad 10), .ref (ad 11), .ref (ad 12)])),
  (ad 10, .inl (cJ, (64, .inr (.inl (gA S 6))))),
  (ad 11, .inl (cJ, (64, .inr (.inl (gA S 7))))),
  (ad 12, .inl (cJ, (64, .inr (.inl (gA S 8))))),
  (ad 13, .inr (1, [.int (gI S 4), .ref (ad 14), .ref (ad 15)])),
  (ad 14, .inl (cJ, (40, .inr (.inl (gA S 9))))),
  (ad 15, .inl (cJ, (40, .inr (.inl (gA S 10))))),
  (ad 16, .inr (7, [.int (gI S 5), .ref (ad 17)])),
  (ad 17, .inr (3, [.ref (ad 18), .int (gI S 6)])),
  (ad 18, .inl (cJ, (64, .inr (.inl (gA S 11))))),
  (ad 19, .inr (3, [.ref (ad 20), .int (gI S 7)])),
  (ad 20, .inl (cJ, (1000, .inr (.inl (gA S 12))))),
  (ad 21, .inr (3, [.ref (ad 22), .int (gI S 8)])),
  (ad 22, .inl (cJ, (1000, .inr (.inl (gA S 13))))),
  (ad 23, .inr (3, [.ref (ad 24), .int (gI S 9)])),
  (ad 24, .inl (cJ, (1000, .inr (.inl (gA S 14))))),
  (ad 25, .inr (3, [.ref (ad 26), .int (gI S 10)])),
  (ad 26, .inl (cJ, (40, .inr (.inl (gA S 15))))),
  (ad 27, .inr (3, [.ref (ad 28), .int (gI S 11)])),
  (ad 28, .inl (cJ, (12, .inr (.inl (gA S 16))))),
  (ad 29, .inr (5, [.ref (ad 30), .ref (ad 31), .ref (ad 32)])),
  (ad 30, .inl (cJ, (41, .inr (.inl (gA S 17))))),
  (ad 31, .inl (cJ, (41, .inr (.inl (gA S 18))))),
  (ad 32, .inl (cJ, (41, .inr (.inl (gA S 19))))),
  (ad 33, .inr (4, [.ref (ad 34)])),
  (ad 34, .inl (cJ, (24, .inr (.inl (gA S 20))))),
  (ad 35, .inr (4, [.ref (ad 36)])),
  (ad 36, .inl (cJ, (24, .inr (.inl (gA S 21))))),
  (ad 37, .inr (2, [.ref (ad 38), .ref (ad 40), .ref (ad 42), .ref (ad 44), .ref (ad 46), .int (gI S 17)])),
  (ad 38, .inr (3, [.ref (ad 39), .int (gI S 12)])),
  (ad 39, .inl (cJ, (12, .inr (.inl (gA S 22))))),
  (ad 40, .inr (3, [.ref (ad 41), .int (gI S 13)])),
  (ad 41, .inl (cJ, (12, .inr (.inl (gA S 23))))),
  (ad 42, .inr (3, [.ref (ad 43), .int (gI S 14)])),
  (ad 43, .inl (cJ, (12, .inr (.inl (gA S 24))))),
  (ad 44, .inr (3, [.ref (ad 45), .int (gI S 15)])),
  (ad 45, .inl (cJ, (12, .inr (.inl (gA S 25))))),
  (ad 46, .inr (3, [.ref (ad 47), .int (gI S 16)])),
  (ad 47, .inl (cJ, (4, .inr (.inl (gA S 26))))),
  (ad 48, .inr (9, [.int (gI S 20), .int (gI S 21), .int (gI S 22), .ref (ad 49), .int (gI S 23), .int (gI S 24), .ref (ad 50), .int (gI S 25), .int (gI S 26), .ref (ad 51), .int (gI S 27), .ref (ad 52), .ref (ad 53), .long (gJ S 0), .ref (ad 54), .int (gI S 28), .ref (ad 55), .ref (ad 56), .int (gI S 29), .long (gJ S 1), .long (gJ S 2), .long (gJ S 3), .ref (ad 57), .long (gJ S 4), .long (gJ S 5), .int (gI S 30), .ref (ad 58), .ref (ad 59), .ref (ad 60), .ref (ad 61), .ref (ad 62), .int (gI S 31), .ref (ad 63)])),
  (ad 49, .inl (cJ, (64, .inr (.inl (gA S 30))))),
  (ad 50, .inl (cJ, (192, .inr (.inl (gA S 31))))),
  (ad 51, .inl (cJ, (192, .inr (.inl (gA S 32))))),
  (ad 52, .inl (cJ, (40, .inr (.inl (gA S 33))))),
  (ad 53, .inl (cJ, (40, .inr (.inl (gA S 34))))),
  (ad 54, .inl (cJ, (1000, .inr (.inl (gA S 35))))),
  (ad 55, .inl (cJ, (20000, .inr (.inl (gA S 36))))),
  (ad 56, .inl (cI, (40, .inl (gB S 0)))),
  (ad 57, .inl (cI, (40, .inl (gB S 1)))),
  (ad 58, .inl (cJ, (26, .inr (.inl (gA S 37))))),
  (ad 59, .inl (cJ, (26, .inr (.inl (gA S 38))))),
  (ad 60, .inl (cJ, (1000, .inr (.inl (gA S 39))))),
  (ad 61, .inl (cI, (100000, .inl (gB S 2)))),
  (ad 62, .inl (cJ, (192, .inr (.inl (gA S 40))))),
  (ad 63, .inl (cI, (48, .inl (gB S 3)))),
  (ad 64, .inl (cJ, (1, .inr (.inl (gA S 41)))))]
theorem lg_0 (ad : Nat → Nat) (cI cJ : ClassId) (X : va_W) (S : SS) : (gW ad cI cJ S ++ X)[0]? = some (ad 0, .inr (8, [.int (gI S 0), .ref (ad 1), .ref (ad 5), .ref (ad 9), .ref (ad 13), .ref (ad 16), .ref (ad 19), .ref (ad 21), .ref (ad 23), .ref (ad 25), .ref (ad 27), .ref (ad 29), .ref (ad 33), .ref (ad 35), .ref (ad 37)])) := rfl
theorem lg_1 (ad : Nat → Nat) (cI cJ : ClassId) (X : va_W) (S : SS) : (gW ad cI cJ S ++ X)[1]? = some (ad 1, .inr (6, [.int (gI S 1), .ref (ad 2), .ref (ad 3), .ref (ad 4)])) := rfl
theorem lg_2 (ad : Nat → Nat) (cI cJ : ClassId) (X : va_W) (S : SS) : (gW ad cI cJ S ++ X)[2]? = some (ad 2, .inl (cJ, (64, .inr (.inl (gA S 0))))) := rfl
theorem lg_3 (ad : Nat → Nat) (cI cJ : ClassId) (X : va_W) (S : SS) : (gW ad cI cJ S ++ X)[3]? = some (ad 3, .inl (cJ, (64, .inr (.inl (gA S 1))))) := rfl
theorem lg_4 (ad : Nat → Nat) (cI cJ : ClassId) (X : va_W) (S : SS) : (gW ad cI cJ S ++ X)[4]? = some (ad 4, .inl (cJ, (64, .inr (.inl (gA S 2))))) := rfl
theorem lg_5 (ad : Nat → Nat) (cI cJ : ClassId) (X : va_W) (S : SS) : (gW ad cI cJ S ++ X)[5]? = some (ad 5, .inr (6, [.int (gI S 2), .ref (ad 6), .ref (ad 7), .ref (ad 8)])) := rfl
theorem lg_6 (ad : Nat → Nat) (cI cJ : ClassId) (X : va_W) (S : SS) : (gW ad cI cJ S ++ X)[6]? = some (ad 6, .inl (cJ, (64, .inr (.inl (gA S 3))))) := rfl
theorem lg_7 (ad : Nat → Nat) (cI cJ : ClassId) (X : va_W) (S : SS) : (gW ad cI cJ S ++ X)[7]? = some (ad 7, .inl (cJ, (64, .inr (.inl (gA S 4))))) := rfl
theorem lg_8 (ad : Nat → Nat) (cI cJ : ClassId) (X : va_W) (S : SS) : (gW ad cI cJ S ++ X)[8]? = some (ad 8, .inl (cJ, (64, .inr (.inl (gA S 5))))) := rfl
theorem lg_9 (ad : Nat → Nat) (cI cJ : ClassId) (X : va_W) (S : SS) : (gW ad cI cJ S ++ X)[9]? = some (ad 9, .inr (6, [.int (gI S 3), .ref (ad 10), .ref (ad 11), .ref (ad 12)])) := rfl
theorem lg_10 (ad : Nat → Nat) (cI cJ : ClassId) (X : va_W) (S : SS) : (gW ad cI cJ S ++ X)[10]? = some (ad 10, .inl (cJ, (64, .inr (.inl (gA S 6))))) := rfl
theorem lg_11 (ad : Nat → Nat) (cI cJ : ClassId) (X : va_W) (S : SS) : (gW ad cI cJ S ++ X)[11]? = some (ad 11, .inl (cJ, (64, .inr (.inl (gA S 7))))) := rfl
theorem lg_12 (ad : Nat → Nat) (cI cJ : ClassId) (X : va_W) (S : SS) : (gW ad cI cJ S ++ X)[12]? = some (ad 12, .inl (cJ, (64, .inr (.inl (gA S 8))))) := rfl
theorem lg_13 (ad : Nat → Nat) (cI cJ : ClassId) (X : va_W) (S : SS) : (gW ad cI cJ S ++ X)[13]? = some (ad 13, .inr (1, [.int (gI S 4), .ref (ad 14), .ref (ad 15)])) := rfl
theorem lg_14 (ad : Nat → Nat) (cI cJ : ClassId) (X : va_W) (S : SS) : (gW ad cI cJ S ++ X)[14]? = some (ad 14, .inl (cJ, (40, .inr (.inl (gA S 9))))) := rfl
theorem lg_15 (ad : Nat → Nat) (cI cJ : ClassId) (X : va_W) (S : SS) : (gW ad cI cJ S ++ X)[15]? = some (ad 15, .inl (cJ, (40, .inr (.inl (gA S 10))))) := rfl
theorem lg_16 (ad : Nat → Nat) (cI cJ : ClassId) (X : va_W) (S : SS) : (gW ad cI cJ S ++ X)[16]? = some (ad 16, .inr (7, [.int (gI S 5), .ref (ad 17)])) := rfl
theorem lg_17 (ad : Nat → Nat) (cI cJ : ClassId) (X : va_W) (S : SS) : (gW ad cI cJ S ++ X)[17]? = some (ad 17, .inr (3, [.ref (ad 18), .int (gI S 6)])) := rfl
theorem lg_18 (ad : Nat → Nat) (cI cJ : ClassId) (X : va_W) (S : SS) : (gW ad cI cJ S ++ X)[18]? = some (ad 18, .inl (cJ, (64, .inr (.inl (gA S 11))))) := rfl
theorem lg_19 (ad : Nat → Nat) (cI cJ : ClassId) (X : va_W) (S : SS) : (gW ad cI cJ S ++ X)[19]? = some (ad 19, .inr (3, [.ref (ad 20), .int (gI S 7)])) := rfl
theorem lg_20 (ad : Nat → Nat) (cI cJ : ClassId) (X : va_W) (S : SS) : (gW ad cI cJ S ++ X)[20]? = some (ad 20, .inl (cJ, (1000, .inr (.inl (gA S 12))))) := rfl
theorem lg_21 (ad : Nat → Nat) (cI cJ : ClassId) (X : va_W) (S : SS) : (gW ad cI cJ S ++ X)[21]? = some (ad 21, .inr (3, [.ref (ad 22), .int (gI S 8)])) := rfl
theorem lg_22 (ad : Nat → Nat) (cI cJ : ClassId) (X : va_W) (S : SS) : (gW ad cI cJ S ++ X)[22]? = some (ad 22, .inl (cJ, (1000, .inr (.inl (gA S 13))))) := rfl
theorem lg_23 (ad : Nat → Nat) (cI cJ : ClassId) (X : va_W) (S : SS) : (gW ad cI cJ S ++ X)[23]? = some (ad 23, .inr (3, [.ref (ad 24), .int (gI S 9)])) := rfl
theorem lg_24 (ad : Nat → Nat) (cI cJ : ClassId) (X : va_W) (S : SS) : (gW ad cI cJ S ++ X)[24]? = some (ad 24, .inl (cJ, (1000, .inr (.inl (gA S 14))))) := rfl
theorem lg_25 (ad : Nat → Nat) (cI cJ : ClassId) (X : va_W) (S : SS) : (gW ad cI cJ S ++ X)[25]? = some (ad 25, .inr (3, [.ref (ad 26), .int (gI S 10)])) := rfl
theorem lg_26 (ad : Nat → Nat) (cI cJ : ClassId) (X : va_W) (S : SS) : (gW ad cI cJ S ++ X)[26]? = some (ad 26, .inl (cJ, (40, .inr (.inl (gA S 15))))) := rfl
theorem lg_27 (ad : Nat → Nat) (cI cJ : ClassId) (X : va_W) (S : SS) : (gW ad cI cJ S ++ X)[27]? = some (ad 27, .inr (3, [.ref (ad 28), .int (gI S 11)])) := rfl
theorem lg_28 (ad : Nat → Nat) (cI cJ : ClassId) (X : va_W) (S : SS) : (gW ad cI cJ S ++ X)[28]? = some (ad 28, .inl (cJ, (12, .inr (.inl (gA S 16))))) := rfl
theorem lg_29 (ad : Nat → Nat) (cI cJ : ClassId) (X : va_W) (S : SS) : (gW ad cI cJ S ++ X)[29]? = some (ad 29, .inr (5, [.ref (ad 30), .ref (ad 31), .ref (ad 32)])) := rfl
theorem lg_30 (ad : Nat → Nat) (cI cJ : ClassId) (X : va_W) (S : SS) : (gW ad cI cJ S ++ X)[30]? = some (ad 30, .inl (cJ, (41, .inr (.inl (gA S 17))))) := rfl
theorem lg_31 (ad : Nat → Nat) (cI cJ : ClassId) (X : va_W) (S : SS) : (gW ad cI cJ S ++ X)[31]? = some (ad 31, .inl (cJ, (41, .inr (.inl (gA S 18))))) := rfl
theorem lg_32 (ad : Nat → Nat) (cI cJ : ClassId) (X : va_W) (S : SS) : (gW ad cI cJ S ++ X)[32]? = some (ad 32, .inl (cJ, (41, .inr (.inl (gA S 19))))) := rfl
theorem lg_33 (ad : Nat → Nat) (cI cJ : ClassId) (X : va_W) (S : SS) : (gW ad cI cJ S ++ X)[33]? = some (ad 33, .inr (4, [.ref (ad 34)])) := rfl
theorem lg_34 (ad : Nat → Nat) (cI cJ : ClassId) (X : va_W) (S : SS) : (gW ad cI cJ S ++ X)[34]? = some (ad 34, .inl (cJ, (24, .inr (.inl (gA S 20))))) := rfl
theorem lg_35 (ad : Nat → Nat) (cI cJ : ClassId) (X : va_W) (S : SS) : (gW ad cI cJ S ++ X)[35]? = some (ad 35, .inr (4, [.ref (ad 36)])) := rfl
theorem lg_36 (ad : Nat → Nat) (cI cJ : ClassId) (X : va_W) (S : SS) : (gW ad cI cJ S ++ X)[36]? = some (ad 36, .inl (cJ, (24, .inr (.inl (gA S 21))))) := rfl
theorem lg_37 (ad : Nat → Nat) (cI cJ : ClassId) (X : va_W) (S : SS) : (gW ad cI cJ S ++ X)[37]? = some (ad 37, .inr (2, [.ref (ad 38), .ref (ad 40), .ref (ad 42), .ref (ad 44), .ref (ad 46), .int (gI S 17)])) := rfl
theorem lg_38 (ad : Nat → Nat) (cI cJ : ClassId) (X : va_W) (S : SS) : (gW ad cI cJ S ++ X)[38]? = some (ad 38, .inr (3, [.ref (ad 39), .int (gI S 12)])) := rfl
theorem lg_39 (ad : Nat → Nat) (cI cJ : ClassId) (X : va_W) (S : SS) : (gW ad cI cJ S ++ X)[39]? = some (ad 39, .inl (cJ, (12, .inr (.inl (gA S 22))))) := rfl
theorem lg_40 (ad : Nat → Nat) (cI cJ : ClassId) (X : va_W) (S : SS) : (gW ad cI cJ S ++ X)[40]? = some (ad 40, .inr (3, [.ref (ad 41), .int (gI S 13)])) := rfl
theorem lg_41 (ad : Nat → Nat) (cI cJ : ClassId) (X : va_W) (S : SS) : (gW ad cI cJ S ++ X)[41]? = some (ad 41, .inl (cJ, (12, .inr (.inl (gA S 23))))) := rfl
theorem lg_42 (ad : Nat → Nat) (cI cJ : ClassId) (X : va_W) (S : SS) : (gW ad cI cJ S ++ X)[42]? = some (ad 42, .inr (3, [.ref (ad 43), .int (gI S 14)])) := rfl
theorem lg_43 (ad : Nat → Nat) (cI cJ : ClassId) (X : va_W) (S : SS) : (gW ad cI cJ S ++ X)[43]? = some (ad 43, .inl (cJ, (12, .inr (.inl (gA S 24))))) := rfl
theorem lg_44 (ad : Nat → Nat) (cI cJ : ClassId) (X : va_W) (S : SS) : (gW ad cI cJ S ++ X)[44]? = some (ad 44, .inr (3, [.ref (ad 45), .int (gI S 15)])) := rfl
theorem lg_45 (ad : Nat → Nat) (cI cJ : ClassId) (X : va_W) (S : SS) : (gW ad cI cJ S ++ X)[45]? = some (ad 45, .inl (cJ, (12, .inr (.inl (gA S 25))))) := rfl
theorem lg_46 (ad : Nat → Nat) (cI cJ : ClassId) (X : va_W) (S : SS) : (gW ad cI cJ S ++ X)[46]? = some (ad 46, .inr (3, [.ref (ad 47), .int (gI S 16)])) := rfl
theorem lg_47 (ad : Nat → Nat) (cI cJ : ClassId) (X : va_W) (S : SS) : (gW ad cI cJ S ++ X)[47]? = some (ad 47, .inl (cJ, (4, .inr (.inl (gA S 26))))) := rfl
theorem lg_48 (ad : Nat → Nat) (cI cJ : ClassId) (X : va_W) (S : SS) : (gW ad cI cJ S ++ X)[48]? = some (ad 48, .inr (9, [.int (gI S 20), .int (gI S 21), .int (gI S 22), .ref (ad 49), .int (gI S 23), .int (gI S 24), .ref (ad 50), .int (gI S 25), .int (gI S 26), .ref (ad 51), .int (gI S 27), .ref (ad 52), .ref (ad 53), .long (gJ S 0), .ref (ad 54), .int (gI S 28), .ref (ad 55), .ref (ad 56), .int (gI S 29), .long (gJ S 1), .long (gJ S 2), .long (gJ S 3), .ref (ad 57), .long (gJ S 4), .long (gJ S 5), .int (gI S 30), .ref (ad 58), .ref (ad 59), .ref (ad 60), .ref (ad 61), .ref (ad 62), .int (gI S 31), .ref (ad 63)])) := rfl
theorem lg_49 (ad : Nat → Nat) (cI cJ : ClassId) (X : va_W) (S : SS) : (gW ad cI cJ S ++ X)[49]? = some (ad 49, .inl (cJ, (64, .inr (.inl (gA S 30))))) := rfl
theorem lg_50 (ad : Nat → Nat) (cI cJ : ClassId) (X : va_W) (S : SS) : (gW ad cI cJ S ++ X)[50]? = some (ad 50, .inl (cJ, (192, .inr (.inl (gA S 31))))) := rfl
theorem lg_51 (ad : Nat → Nat) (cI cJ : ClassId) (X : va_W) (S : SS) : (gW ad cI cJ S ++ X)[51]? = some (ad 51, .inl (cJ, (192, .inr (.inl (gA S 32))))) := rfl
theorem lg_52 (ad : Nat → Nat) (cI cJ : ClassId) (X : va_W) (S : SS) : (gW ad cI cJ S ++ X)[52]? = some (ad 52, .inl (cJ, (40, .inr (.inl (gA S 33))))) := rfl
theorem lg_53 (ad : Nat → Nat) (cI cJ : ClassId) (X : va_W) (S : SS) : (gW ad cI cJ S ++ X)[53]? = some (ad 53, .inl (cJ, (40, .inr (.inl (gA S 34))))) := rfl
theorem lg_54 (ad : Nat → Nat) (cI cJ : ClassId) (X : va_W) (S : SS) : (gW ad cI cJ S ++ X)[54]? = some (ad 54, .inl (cJ, (1000, .inr (.inl (gA S 35))))) := rfl
theorem lg_55 (ad : Nat → Nat) (cI cJ : ClassId) (X : va_W) (S : SS) : (gW ad cI cJ S ++ X)[55]? = some (ad 55, .inl (cJ, (20000, .inr (.inl (gA S 36))))) := rfl
theorem lg_56 (ad : Nat → Nat) (cI cJ : ClassId) (X : va_W) (S : SS) : (gW ad cI cJ S ++ X)[56]? = some (ad 56, .inl (cI, (40, .inl (gB S 0)))) := rfl
theorem lg_57 (ad : Nat → Nat) (cI cJ : ClassId) (X : va_W) (S : SS) : (gW ad cI cJ S ++ X)[57]? = some (ad 57, .inl (cI, (40, .inl (gB S 1)))) := rfl
theorem lg_58 (ad : Nat → Nat) (cI cJ : ClassId) (X : va_W) (S : SS) : (gW ad cI cJ S ++ X)[58]? = some (ad 58, .inl (cJ, (26, .inr (.inl (gA S 37))))) := rfl
theorem lg_59 (ad : Nat → Nat) (cI cJ : ClassId) (X : va_W) (S : SS) : (gW ad cI cJ S ++ X)[59]? = some (ad 59, .inl (cJ, (26, .inr (.inl (gA S 38))))) := rfl
theorem lg_60 (ad : Nat → Nat) (cI cJ : ClassId) (X : va_W) (S : SS) : (gW ad cI cJ S ++ X)[60]? = some (ad 60, .inl (cJ, (1000, .inr (.inl (gA S 39))))) := rfl
theorem lg_61 (ad : Nat → Nat) (cI cJ : ClassId) (X : va_W) (S : SS) : (gW ad cI cJ S ++ X)[61]? = some (ad 61, .inl (cI, (100000, .inl (gB S 2)))) := rfl
theorem lg_62 (ad : Nat → Nat) (cI cJ : ClassId) (X : va_W) (S : SS) : (gW ad cI cJ S ++ X)[62]? = some (ad 62, .inl (cJ, (192, .inr (.inl (gA S 40))))) := rfl
theorem lg_63 (ad : Nat → Nat) (cI cJ : ClassId) (X : va_W) (S : SS) : (gW ad cI cJ S ++ X)[63]? = some (ad 63, .inl (cI, (48, .inl (gB S 3)))) := rfl
theorem lg_64 (ad : Nat → Nat) (cI cJ : ClassId) (X : va_W) (S : SS) : (gW ad cI cJ S ++ X)[64]? = some (ad 64, .inl (cJ, (1, .inr (.inl (gA S 41))))) := rfl
theorem ls_0_0 (ad : Nat → Nat) (cI cJ : ClassId) (X : va_W) (S : SS) (v : Int32) : (gW ad cI cJ S ++ X).set 0 (ad 0, .inr (8, [.int v, .ref (ad 1), .ref (ad 5), .ref (ad 9), .ref (ad 13), .ref (ad 16), .ref (ad 19), .ref (ad 21), .ref (ad 23), .ref (ad 25), .ref (ad 27), .ref (ad 29), .ref (ad 33), .ref (ad 35), .ref (ad 37)])) = gW ad cI cJ (sI S 0 v) ++ X := rfl
theorem ls_13_0 (ad : Nat → Nat) (cI cJ : ClassId) (X : va_W) (S : SS) (v : Int32) : (gW ad cI cJ S ++ X).set 13 (ad 13, .inr (1, [.int v, .ref (ad 14), .ref (ad 15)])) = gW ad cI cJ (sI S 4 v) ++ X := rfl
theorem ls_16_0 (ad : Nat → Nat) (cI cJ : ClassId) (X : va_W) (S : SS) (v : Int32) : (gW ad cI cJ S ++ X).set 16 (ad 16, .inr (7, [.int v, .ref (ad 17)])) = gW ad cI cJ (sI S 5 v) ++ X := rfl
theorem ls_37_5 (ad : Nat → Nat) (cI cJ : ClassId) (X : va_W) (S : SS) (v : Int32) : (gW ad cI cJ S ++ X).set 37 (ad 37, .inr (2, [.ref (ad 38), .ref (ad 40), .ref (ad 42), .ref (ad 44), .ref (ad 46), .int v])) = gW ad cI cJ (sI S 17 v) ++ X := rfl
theorem ls_48_0 (ad : Nat → Nat) (cI cJ : ClassId) (X : va_W) (S : SS) (v : Int32) : (gW ad cI cJ S ++ X).set 48 (ad 48, .inr (9, [.int v, .int (gI S 21), .int (gI S 22), .ref (ad 49), .int (gI S 23), .int (gI S 24), .ref (ad 50), .int (gI S 25), .int (gI S 26), .ref (ad 51), .int (gI S 27), .ref (ad 52), .ref (ad 53), .long (gJ S 0), .ref (ad 54), .int (gI S 28), .ref (ad 55), .ref (ad 56), .int (gI S 29), .long (gJ S 1), .long (gJ S 2), .long (gJ S 3), .ref (ad 57), .long (gJ S 4), .long (gJ S 5), .int (gI S 30), .ref (ad 58), .ref (ad 59), .ref (ad 60), .ref (ad 61), .ref (ad 62), .int (gI S 31), .ref (ad 63)])) = gW ad cI cJ (sI S 20 v) ++ X := rfl
theorem ls_48_1 (ad : Nat → Nat) (cI cJ : ClassId) (X : va_W) (S : SS) (v : Int32) : (gW ad cI cJ S ++ X).set 48 (ad 48, .inr (9, [.int (gI S 20), .int v, .int (gI S 22), .ref (ad 49), .int (gI S 23), .int (gI S 24), .ref (ad 50), .int (gI S 25), .int (gI S 26), .ref (ad 51), .int (gI S 27), .ref (ad 52), .ref (ad 53), .long (gJ S 0), .ref (ad 54), .int (gI S 28), .ref (ad 55), .ref (ad 56), .int (gI S 29), .long (gJ S 1), .long (gJ S 2), .long (gJ S 3), .ref (ad 57), .long (gJ S 4), .long (gJ S 5), .int (gI S 30), .ref (ad 58), .ref (ad 59), .ref (ad 60), .ref (ad 61), .ref (ad 62), .int (gI S 31), .ref (ad 63)])) = gW ad cI cJ (sI S 21 v) ++ X := rfl
theorem ls_48_2 (ad : Nat → Nat) (cI cJ : ClassId) (X : va_W) (S : SS) (v : Int32) : (gW ad cI cJ S ++ X).set 48 (ad 48, .inr (9, [.int (gI S 20), .int (gI S 21), .int v, .ref (ad 49), .int (gI S 23), .int (gI S 24), .ref (ad 50), .int (gI S 25), .int (gI S 26), .ref (ad 51), .int (gI S 27), .ref (ad 52), .ref (ad 53), .long (gJ S 0), .ref (ad 54), .int (gI S 28), .ref (ad 55), .ref (ad 56), .int (gI S 29), .long (gJ S 1), .long (gJ S 2), .long (gJ S 3), .ref (ad 57), .long (gJ S 4), .long (gJ S 5), .int (gI S 30), .ref (ad 58), .ref (ad 59), .ref (ad 60), .ref (ad 61), .ref (ad 62), .int (gI S 31), .ref (ad 63)])) = gW ad cI cJ (sI S 22 v) ++ X := rfl
theorem ls_48_4 (ad : Nat → Nat) (cI cJ : ClassId) (X : va_W) (S : SS) (v : Int32) : (gW ad cI cJ S ++ X).set 48 (ad 48, .inr (9, [.int (gI S 20), .int (gI S 21), .int (gI S 22), .ref (ad 49), .int v, .int (gI S 24), .ref (ad 50), .int (gI S 25), .int (gI S 26), .ref (ad 51), .int (gI S 27), .ref (ad 52), .ref (ad 53), .long (gJ S 0), .ref (ad 54), .int (gI S 28), .ref (ad 55), .ref (ad 56), .int (gI S 29), .long (gJ S 1), .long (gJ S 2), .long (gJ S 3), .ref (ad 57), .long (gJ S 4), .long (gJ S 5), .int (gI S 30), .ref (ad 58), .ref (ad 59), .ref (ad 60), .ref (ad 61), .ref (ad 62), .int (gI S 31), .ref (ad 63)])) = gW ad cI cJ (sI S 23 v) ++ X := rfl
theorem ls_48_5 (ad : Nat → Nat) (cI cJ : ClassId) (X : va_W) (S : SS) (v : Int32) : (gW ad cI cJ S ++ X).set 48 (ad 48, .inr (9, [.int (gI S 20), .int (gI S 21), .int (gI S 22), .ref (ad 49), .int (gI S 23), .int v, .ref (ad 50), .int (gI S 25), .int (gI S 26), .ref (ad 51), .int (gI S 27), .ref (ad 52), .ref (ad 53), .long (gJ S 0), .ref (ad 54), .int (gI S 28), .ref (ad 55), .ref (ad 56), .int (gI S 29), .long (gJ S 1), .long (gJ S 2), .long (gJ S 3), .ref (ad 57), .long (gJ S 4), .long (gJ S 5), .int (gI S 30), .ref (ad 58), .ref (ad 59), .ref (ad 60), .ref (ad 61), .ref (ad 62), .int (gI S 31), .ref (ad 63)])) = gW ad cI cJ (sI S 24 v) ++ X := rfl
theorem ls_48_7 (ad : Nat → Nat) (cI cJ : ClassId) (X : va_W) (S : SS) (v : Int32) : (gW ad cI cJ S ++ X).set 48 (ad 48, .inr (9, [.int (gI S 20), .int (gI S 21), .int (gI S 22), .ref (ad 49), .int (gI S 23), .int (gI S 24), .ref (ad 50), .int v, .int (gI S 26), .ref (ad 51), .int (gI S 27), .ref (ad 52), .ref (ad 53), .long (gJ S 0), .ref (ad 54), .int (gI S 28), .ref (ad 55), .ref (ad 56), .int (gI S 29), .long (gJ S 1), .long (gJ S 2), .long (gJ S 3), .ref (ad 57), .long (gJ S 4), .long (gJ S 5), .int (gI S 30), .ref (ad 58), .ref (ad 59), .ref (ad 60), .ref (ad 61), .ref (ad 62), .int (gI S 31), .ref (ad 63)])) = gW ad cI cJ (sI S 25 v) ++ X := rfl
theorem ls_48_8 (ad : Nat → Nat) (cI cJ : ClassId) (X : va_W) (S : SS) (v : Int32) : (gW ad cI cJ S ++ X).set 48 (ad 48, .inr (9, [.int (gI S 20), .int (gI S 21), .int (gI S 22), .ref (ad 49), .int (gI S 23), .int (gI S 24), .ref (ad 50), .int (gI S 25), .int v, .ref (ad 51), .int (gI S 27), .ref (ad 52), .ref (ad 53), .long (gJ S 0), .ref (ad 54), .int (gI S 28), .ref (ad 55), .ref (ad 56), .int (gI S 29), .long (gJ S 1), .long (gJ S 2), .long (gJ S 3), .ref (ad 57), .long (gJ S 4), .long (gJ S 5), .int (gI S 30), .ref (ad 58), .ref (ad 59), .ref (ad 60), .ref (ad 61), .ref (ad 62), .int (gI S 31), .ref (ad 63)])) = gW ad cI cJ (sI S 26 v) ++ X := rfl
theorem ls_48_10 (ad : Nat → Nat) (cI cJ : ClassId) (X : va_W) (S : SS) (v : Int32) : (gW ad cI cJ S ++ X).set 48 (ad 48, .inr (9, [.int (gI S 20), .int (gI S 21), .int (gI S 22), .ref (ad 49), .int (gI S 23), .int (gI S 24), .ref (ad 50), .int (gI S 25), .int (gI S 26), .ref (ad 51), .int v, .ref (ad 52), .ref (ad 53), .long (gJ S 0), .ref (ad 54), .int (gI S 28), .ref (ad 55), .ref (ad 56), .int (gI S 29), .long (gJ S 1), .long (gJ S 2), .long (gJ S 3), .ref (ad 57), .long (gJ S 4), .long (gJ S 5), .int (gI S 30), .ref (ad 58), .ref (ad 59), .ref (ad 60), .ref (ad 61), .ref (ad 62), .int (gI S 31), .ref (ad 63)])) = gW ad cI cJ (sI S 27 v) ++ X := rfl
theorem ls_48_13 (ad : Nat → Nat) (cI cJ : ClassId) (X : va_W) (S : SS) (v : Int64) : (gW ad cI cJ S ++ X).set 48 (ad 48, .inr (9, [.int (gI S 20), .int (gI S 21), .int (gI S 22), .ref (ad 49), .int (gI S 23), .int (gI S 24), .ref (ad 50), .int (gI S 25), .int (gI S 26), .ref (ad 51), .int (gI S 27), .ref (ad 52), .ref (ad 53), .long v, .ref (ad 54), .int (gI S 28), .ref (ad 55), .ref (ad 56), .int (gI S 29), .long (gJ S 1), .long (gJ S 2), .long (gJ S 3), .ref (ad 57), .long (gJ S 4), .long (gJ S 5), .int (gI S 30), .ref (ad 58), .ref (ad 59), .ref (ad 60), .ref (ad 61), .ref (ad 62), .int (gI S 31), .ref (ad 63)])) = gW ad cI cJ (sJ S 0 v) ++ X := rfl
theorem ls_48_15 (ad : Nat → Nat) (cI cJ : ClassId) (X : va_W) (S : SS) (v : Int32) : (gW ad cI cJ S ++ X).set 48 (ad 48, .inr (9, [.int (gI S 20), .int (gI S 21), .int (gI S 22), .ref (ad 49), .int (gI S 23), .int (gI S 24), .ref (ad 50), .int (gI S 25), .int (gI S 26), .ref (ad 51), .int (gI S 27), .ref (ad 52), .ref (ad 53), .long (gJ S 0), .ref (ad 54), .int v, .ref (ad 55), .ref (ad 56), .int (gI S 29), .long (gJ S 1), .long (gJ S 2), .long (gJ S 3), .ref (ad 57), .long (gJ S 4), .long (gJ S 5), .int (gI S 30), .ref (ad 58), .ref (ad 59), .ref (ad 60), .ref (ad 61), .ref (ad 62), .int (gI S 31), .ref (ad 63)])) = gW ad cI cJ (sI S 28 v) ++ X := rfl
theorem ls_48_18 (ad : Nat → Nat) (cI cJ : ClassId) (X : va_W) (S : SS) (v : Int32) : (gW ad cI cJ S ++ X).set 48 (ad 48, .inr (9, [.int (gI S 20), .int (gI S 21), .int (gI S 22), .ref (ad 49), .int (gI S 23), .int (gI S 24), .ref (ad 50), .int (gI S 25), .int (gI S 26), .ref (ad 51), .int (gI S 27), .ref (ad 52), .ref (ad 53), .long (gJ S 0), .ref (ad 54), .int (gI S 28), .ref (ad 55), .ref (ad 56), .int v, .long (gJ S 1), .long (gJ S 2), .long (gJ S 3), .ref (ad 57), .long (gJ S 4), .long (gJ S 5), .int (gI S 30), .ref (ad 58), .ref (ad 59), .ref (ad 60), .ref (ad 61), .ref (ad 62), .int (gI S 31), .ref (ad 63)])) = gW ad cI cJ (sI S 29 v) ++ X := rfl
theorem ls_48_19 (ad : Nat → Nat) (cI cJ : ClassId) (X : va_W) (S : SS) (v : Int64) : (gW ad cI cJ S ++ X).set 48 (ad 48, .inr (9, [.int (gI S 20), .int (gI S 21), .int (gI S 22), .ref (ad 49), .int (gI S 23), .int (gI S 24), .ref (ad 50), .int (gI S 25), .int (gI S 26), .ref (ad 51), .int (gI S 27), .ref (ad 52), .ref (ad 53), .long (gJ S 0), .ref (ad 54), .int (gI S 28), .ref (ad 55), .ref (ad 56), .int (gI S 29), .long v, .long (gJ S 2), .long (gJ S 3), .ref (ad 57), .long (gJ S 4), .long (gJ S 5), .int (gI S 30), .ref (ad 58), .ref (ad 59), .ref (ad 60), .ref (ad 61), .ref (ad 62), .int (gI S 31), .ref (ad 63)])) = gW ad cI cJ (sJ S 1 v) ++ X := rfl
theorem ls_48_20 (ad : Nat → Nat) (cI cJ : ClassId) (X : va_W) (S : SS) (v : Int64) : (gW ad cI cJ S ++ X).set 48 (ad 48, .inr (9, [.int (gI S 20), .int (gI S 21), .int (gI S 22), .ref (ad 49), .int (gI S 23), .int (gI S 24), .ref (ad 50), .int (gI S 25), .int (gI S 26), .ref (ad 51), .int (gI S 27), .ref (ad 52), .ref (ad 53), .long (gJ S 0), .ref (ad 54), .int (gI S 28), .ref (ad 55), .ref (ad 56), .int (gI S 29), .long (gJ S 1), .long v, .long (gJ S 3), .ref (ad 57), .long (gJ S 4), .long (gJ S 5), .int (gI S 30), .ref (ad 58), .ref (ad 59), .ref (ad 60), .ref (ad 61), .ref (ad 62), .int (gI S 31), .ref (ad 63)])) = gW ad cI cJ (sJ S 2 v) ++ X := rfl
theorem ls_48_21 (ad : Nat → Nat) (cI cJ : ClassId) (X : va_W) (S : SS) (v : Int64) : (gW ad cI cJ S ++ X).set 48 (ad 48, .inr (9, [.int (gI S 20), .int (gI S 21), .int (gI S 22), .ref (ad 49), .int (gI S 23), .int (gI S 24), .ref (ad 50), .int (gI S 25), .int (gI S 26), .ref (ad 51), .int (gI S 27), .ref (ad 52), .ref (ad 53), .long (gJ S 0), .ref (ad 54), .int (gI S 28), .ref (ad 55), .ref (ad 56), .int (gI S 29), .long (gJ S 1), .long (gJ S 2), .long v, .ref (ad 57), .long (gJ S 4), .long (gJ S 5), .int (gI S 30), .ref (ad 58), .ref (ad 59), .ref (ad 60), .ref (ad 61), .ref (ad 62), .int (gI S 31), .ref (ad 63)])) = gW ad cI cJ (sJ S 3 v) ++ X := rfl
theorem ls_48_23 (ad : Nat → Nat) (cI cJ : ClassId) (X : va_W) (S : SS) (v : Int64) : (gW ad cI cJ S ++ X).set 48 (ad 48, .inr (9, [.int (gI S 20), .int (gI S 21), .int (gI S 22), .ref (ad 49), .int (gI S 23), .int (gI S 24), .ref (ad 50), .int (gI S 25), .int (gI S 26), .ref (ad 51), .int (gI S 27), .ref (ad 52), .ref (ad 53), .long (gJ S 0), .ref (ad 54), .int (gI S 28), .ref (ad 55), .ref (ad 56), .int (gI S 29), .long (gJ S 1), .long (gJ S 2), .long (gJ S 3), .ref (ad 57), .long v, .long (gJ S 5), .int (gI S 30), .ref (ad 58), .ref (ad 59), .ref (ad 60), .ref (ad 61), .ref (ad 62), .int (gI S 31), .ref (ad 63)])) = gW ad cI cJ (sJ S 4 v) ++ X := rfl
theorem ls_48_24 (ad : Nat → Nat) (cI cJ : ClassId) (X : va_W) (S : SS) (v : Int64) : (gW ad cI cJ S ++ X).set 48 (ad 48, .inr (9, [.int (gI S 20), .int (gI S 21), .int (gI S 22), .ref (ad 49), .int (gI S 23), .int (gI S 24), .ref (ad 50), .int (gI S 25), .int (gI S 26), .ref (ad 51), .int (gI S 27), .ref (ad 52), .ref (ad 53), .long (gJ S 0), .ref (ad 54), .int (gI S 28), .ref (ad 55), .ref (ad 56), .int (gI S 29), .long (gJ S 1), .long (gJ S 2), .long (gJ S 3), .ref (ad 57), .long (gJ S 4), .long v, .int (gI S 30), .ref (ad 58), .ref (ad 59), .ref (ad 60), .ref (ad 61), .ref (ad 62), .int (gI S 31), .ref (ad 63)])) = gW ad cI cJ (sJ S 5 v) ++ X := rfl
theorem ls_48_25 (ad : Nat → Nat) (cI cJ : ClassId) (X : va_W) (S : SS) (v : Int32) : (gW ad cI cJ S ++ X).set 48 (ad 48, .inr (9, [.int (gI S 20), .int (gI S 21), .int (gI S 22), .ref (ad 49), .int (gI S 23), .int (gI S 24), .ref (ad 50), .int (gI S 25), .int (gI S 26), .ref (ad 51), .int (gI S 27), .ref (ad 52), .ref (ad 53), .long (gJ S 0), .ref (ad 54), .int (gI S 28), .ref (ad 55), .ref (ad 56), .int (gI S 29), .long (gJ S 1), .long (gJ S 2), .long (gJ S 3), .ref (ad 57), .long (gJ S 4), .long (gJ S 5), .int v, .ref (ad 58), .ref (ad 59), .ref (ad 60), .ref (ad 61), .ref (ad 62), .int (gI S 31), .ref (ad 63)])) = gW ad cI cJ (sI S 30 v) ++ X := rfl
theorem ls_48_31 (ad : Nat → Nat) (cI cJ : ClassId) (X : va_W) (S : SS) (v : Int32) : (gW ad cI cJ S ++ X).set 48 (ad 48, .inr (9, [.int (gI S 20), .int (gI S 21), .int (gI S 22), .ref (ad 49), .int (gI S 23), .int (gI S 24), .ref (ad 50), .int (gI S 25), .int (gI S 26), .ref (ad 51), .int (gI S 27), .ref (ad 52), .ref (ad 53), .long (gJ S 0), .ref (ad 54), .int (gI S 28), .ref (ad 55), .ref (ad 56), .int (gI S 29), .long (gJ S 1), .long (gJ S 2), .long (gJ S 3), .ref (ad 57), .long (gJ S 4), .long (gJ S 5), .int (gI S 30), .ref (ad 58), .ref (ad 59), .ref (ad 60), .ref (ad 61), .ref (ad 62), .int v, .ref (ad 63)])) = gW ad cI cJ (sI S 31 v) ++ X := rfl
theorem ls_2 (ad : Nat → Nat) (cI cJ : ClassId) (X : va_W) (S : SS) (f : Nat → Int64) : (gW ad cI cJ S ++ X).set 2 (ad 2, .inl (cJ, (64, .inr (.inl f)))) = gW ad cI cJ (sA S 0 f) ++ X := rfl
theorem ls_3 (ad : Nat → Nat) (cI cJ : ClassId) (X : va_W) (S : SS) (f : Nat → Int64) : (gW ad cI cJ S ++ X).set 3 (ad 3, .inl (cJ, (64, .inr (.inl f)))) = gW ad cI cJ (sA S 1 f) ++ X := rfl
theorem ls_4 (ad : Nat → Nat) (cI cJ : ClassId) (X : va_W) (S : SS) (f : Nat → Int64) : (gW ad cI cJ S ++ X).set 4 (ad 4, .inl (cJ, (64, .inr (.inl f)))) = gW ad cI cJ (sA S 2 f) ++ X := rfl
theorem ls_6 (ad : Nat → Nat) (cI cJ : ClassId) (X : va_W) (S : SS) (f : Nat → Int64) : (gW ad cI cJ S ++ X).set 6 (ad 6, .inl (cJ, (64, .inr (.inl f)))) = gW ad cI cJ (sA S 3 f) ++ X := rfl
theorem ls_7 (ad : Nat → Nat) (cI cJ : ClassId) (X : va_W) (S : SS) (f : Nat → Int64) : (gW ad cI cJ S ++ X).set 7 (ad 7, .inl (cJ, (64, .inr (.inl f)))) = gW ad cI cJ (sA S 4 f) ++ X := rfl
theorem ls_8 (ad : Nat → Nat) (cI cJ : ClassId) (X : va_W) (S : SS) (f : Nat → Int64) : (gW ad cI cJ S ++ X).set 8 (ad 8, .inl (cJ, (64, .inr (.inl f)))) = gW ad cI cJ (sA S 5 f) ++ X := rfl
theorem ls_10 (ad : Nat → Nat) (cI cJ : ClassId) (X : va_W) (S : SS) (f : Nat → Int64) : (gW ad cI cJ S ++ X).set 10 (ad 10, .inl (cJ, (64, .inr (.inl f)))) = gW ad cI cJ (sA S 6 f) ++ X := rfl
theorem ls_11 (ad : Nat → Nat) (cI cJ : ClassId) (X : va_W) (S : SS) (f : Nat → Int64) : (gW ad cI cJ S ++ X).set 11 (ad 11, .inl (cJ, (64, .inr (.inl f)))) = gW ad cI cJ (sA S 7 f) ++ X := rfl
theorem ls_12 (ad : Nat → Nat) (cI cJ : ClassId) (X : va_W) (S : SS) (f : Nat → Int64) : (gW ad cI cJ S ++ X).set 12 (ad 12, .inl (cJ, (64, .inr (.inl f)))) = gW ad cI cJ (sA S 8 f) ++ X := rfl
theorem ls_14 (ad : Nat → Nat) (cI cJ : ClassId) (X : va_W) (S : SS) (f : Nat → Int64) : (gW ad cI cJ S ++ X).set 14 (ad 14, .inl (cJ, (40, .inr (.inl f)))) = gW ad cI cJ (sA S 9 f) ++ X := rfl
theorem ls_15 (ad : Nat → Nat) (cI cJ : ClassId) (X : va_W) (S : SS) (f : Nat → Int64) : (gW ad cI cJ S ++ X).set 15 (ad 15, .inl (cJ, (40, .inr (.inl f)))) = gW ad cI cJ (sA S 10 f) ++ X := rfl
theorem ls_18 (ad : Nat → Nat) (cI cJ : ClassId) (X : va_W) (S : SS) (f : Nat → Int64) : (gW ad cI cJ S ++ X).set 18 (ad 18, .inl (cJ, (64, .inr (.inl f)))) = gW ad cI cJ (sA S 11 f) ++ X := rfl
theorem ls_20 (ad : Nat → Nat) (cI cJ : ClassId) (X : va_W) (S : SS) (f : Nat → Int64) : (gW ad cI cJ S ++ X).set 20 (ad 20, .inl (cJ, (1000, .inr (.inl f)))) = gW ad cI cJ (sA S 12 f) ++ X := rfl
theorem ls_22 (ad : Nat → Nat) (cI cJ : ClassId) (X : va_W) (S : SS) (f : Nat → Int64) : (gW ad cI cJ S ++ X).set 22 (ad 22, .inl (cJ, (1000, .inr (.inl f)))) = gW ad cI cJ (sA S 13 f) ++ X := rfl
theorem ls_24 (ad : Nat → Nat) (cI cJ : ClassId) (X : va_W) (S : SS) (f : Nat → Int64) : (gW ad cI cJ S ++ X).set 24 (ad 24, .inl (cJ, (1000, .inr (.inl f)))) = gW ad cI cJ (sA S 14 f) ++ X := rfl
theorem ls_26 (ad : Nat → Nat) (cI cJ : ClassId) (X : va_W) (S : SS) (f : Nat → Int64) : (gW ad cI cJ S ++ X).set 26 (ad 26, .inl (cJ, (40, .inr (.inl f)))) = gW ad cI cJ (sA S 15 f) ++ X := rfl
theorem ls_28 (ad : Nat → Nat) (cI cJ : ClassId) (X : va_W) (S : SS) (f : Nat → Int64) : (gW ad cI cJ S ++ X).set 28 (ad 28, .inl (cJ, (12, .inr (.inl f)))) = gW ad cI cJ (sA S 16 f) ++ X := rfl
theorem ls_30 (ad : Nat → Nat) (cI cJ : ClassId) (X : va_W) (S : SS) (f : Nat → Int64) : (gW ad cI cJ S ++ X).set 30 (ad 30, .inl (cJ, (41, .inr (.inl f)))) = gW ad cI cJ (sA S 17 f) ++ X := rfl
theorem ls_31 (ad : Nat → Nat) (cI cJ : ClassId) (X : va_W) (S : SS) (f : Nat → Int64) : (gW ad cI cJ S ++ X).set 31 (ad 31, .inl (cJ, (41, .inr (.inl f)))) = gW ad cI cJ (sA S 18 f) ++ X := rfl
theorem ls_32 (ad : Nat → Nat) (cI cJ : ClassId) (X : va_W) (S : SS) (f : Nat → Int64) : (gW ad cI cJ S ++ X).set 32 (ad 32, .inl (cJ, (41, .inr (.inl f)))) = gW ad cI cJ (sA S 19 f) ++ X := rfl
theorem ls_34 (ad : Nat → Nat) (cI cJ : ClassId) (X : va_W) (S : SS) (f : Nat → Int64) : (gW ad cI cJ S ++ X).set 34 (ad 34, .inl (cJ, (24, .inr (.inl f)))) = gW ad cI cJ (sA S 20 f) ++ X := rfl
theorem ls_36 (ad : Nat → Nat) (cI cJ : ClassId) (X : va_W) (S : SS) (f : Nat → Int64) : (gW ad cI cJ S ++ X).set 36 (ad 36, .inl (cJ, (24, .inr (.inl f)))) = gW ad cI cJ (sA S 21 f) ++ X := rfl
theorem ls_39 (ad : Nat → Nat) (cI cJ : ClassId) (X : va_W) (S : SS) (f : Nat → Int64) : (gW ad cI cJ S ++ X).set 39 (ad 39, .inl (cJ, (12, .inr (.inl f)))) = gW ad cI cJ (sA S 22 f) ++ X := rfl
theorem ls_41 (ad : Nat → Nat) (cI cJ : ClassId) (X : va_W) (S : SS) (f : Nat → Int64) : (gW ad cI cJ S ++ X).set 41 (ad 41, .inl (cJ, (12, .inr (.inl f)))) = gW ad cI cJ (sA S 23 f) ++ X := rfl
theorem ls_43 (ad : Nat → Nat) (cI cJ : ClassId) (X : va_W) (S : SS) (f : Nat → Int64) : (gW ad cI cJ S ++ X).set 43 (ad 43, .inl (cJ, (12, .inr (.inl f)))) = gW ad cI cJ (sA S 24 f) ++ X := rfl
theorem ls_45 (ad : Nat → Nat) (cI cJ : ClassId) (X : va_W) (S : SS) (f : Nat → Int64) : (gW ad cI cJ S ++ X).set 45 (ad 45, .inl (cJ, (12, .inr (.inl f)))) = gW ad cI cJ (sA S 25 f) ++ X := rfl
theorem ls_47 (ad : Nat → Nat) (cI cJ : ClassId) (X : va_W) (S : SS) (f : Nat → Int64) : (gW ad cI cJ S ++ X).set 47 (ad 47, .inl (cJ, (4, .inr (.inl f)))) = gW ad cI cJ (sA S 26 f) ++ X := rfl
theorem ls_49 (ad : Nat → Nat) (cI cJ : ClassId) (X : va_W) (S : SS) (f : Nat → Int64) : (gW ad cI cJ S ++ X).set 49 (ad 49, .inl (cJ, (64, .inr (.inl f)))) = gW ad cI cJ (sA S 30 f) ++ X := rfl
theorem ls_50 (ad : Nat → Nat) (cI cJ : ClassId) (X : va_W) (S : SS) (f : Nat → Int64) : (gW ad cI cJ S ++ X).set 50 (ad 50, .inl (cJ, (192, .inr (.inl f)))) = gW ad cI cJ (sA S 31 f) ++ X := rfl
theorem ls_51 (ad : Nat → Nat) (cI cJ : ClassId) (X : va_W) (S : SS) (f : Nat → Int64) : (gW ad cI cJ S ++ X).set 51 (ad 51, .inl (cJ, (192, .inr (.inl f)))) = gW ad cI cJ (sA S 32 f) ++ X := rfl
theorem ls_52 (ad : Nat → Nat) (cI cJ : ClassId) (X : va_W) (S : SS) (f : Nat → Int64) : (gW ad cI cJ S ++ X).set 52 (ad 52, .inl (cJ, (40, .inr (.inl f)))) = gW ad cI cJ (sA S 33 f) ++ X := rfl
theorem ls_53 (ad : Nat → Nat) (cI cJ : ClassId) (X : va_W) (S : SS) (f : Nat → Int64) : (gW ad cI cJ S ++ X).set 53 (ad 53, .inl (cJ, (40, .inr (.inl f)))) = gW ad cI cJ (sA S 34 f) ++ X := rfl
theorem ls_54 (ad : Nat → Nat) (cI cJ : ClassId) (X : va_W) (S : SS) (f : Nat → Int64) : (gW ad cI cJ S ++ X).set 54 (ad 54, .inl (cJ, (1000, .inr (.inl f)))) = gW ad cI cJ (sA S 35 f) ++ X := rfl
theorem ls_55 (ad : Nat → Nat) (cI cJ : ClassId) (X : va_W) (S : SS) (f : Nat → Int64) : (gW ad cI cJ S ++ X).set 55 (ad 55, .inl (cJ, (20000, .inr (.inl f)))) = gW ad cI cJ (sA S 36 f) ++ X := rfl
theorem ls_56 (ad : Nat → Nat) (cI cJ : ClassId) (X : va_W) (S : SS) (f : Nat → Int32) : (gW ad cI cJ S ++ X).set 56 (ad 56, .inl (cI, (40, .inl f))) = gW ad cI cJ (sB S 0 f) ++ X := rfl
theorem ls_57 (ad : Nat → Nat) (cI cJ : ClassId) (X : va_W) (S : SS) (f : Nat → Int32) : (gW ad cI cJ S ++ X).set 57 (ad 57, .inl (cI, (40, .inl f))) = gW ad cI cJ (sB S 1 f) ++ X := rfl
theorem ls_58 (ad : Nat → Nat) (cI cJ : ClassId) (X : va_W) (S : SS) (f : Nat → Int64) : (gW ad cI cJ S ++ X).set 58 (ad 58, .inl (cJ, (26, .inr (.inl f)))) = gW ad cI cJ (sA S 37 f) ++ X := rfl
theorem ls_59 (ad : Nat → Nat) (cI cJ : ClassId) (X : va_W) (S : SS) (f : Nat → Int64) : (gW ad cI cJ S ++ X).set 59 (ad 59, .inl (cJ, (26, .inr (.inl f)))) = gW ad cI cJ (sA S 38 f) ++ X := rfl
theorem ls_60 (ad : Nat → Nat) (cI cJ : ClassId) (X : va_W) (S : SS) (f : Nat → Int64) : (gW ad cI cJ S ++ X).set 60 (ad 60, .inl (cJ, (1000, .inr (.inl f)))) = gW ad cI cJ (sA S 39 f) ++ X := rfl
theorem ls_61 (ad : Nat → Nat) (cI cJ : ClassId) (X : va_W) (S : SS) (f : Nat → Int32) : (gW ad cI cJ S ++ X).set 61 (ad 61, .inl (cI, (100000, .inl f))) = gW ad cI cJ (sB S 2 f) ++ X := rfl
theorem ls_62 (ad : Nat → Nat) (cI cJ : ClassId) (X : va_W) (S : SS) (f : Nat → Int64) : (gW ad cI cJ S ++ X).set 62 (ad 62, .inl (cJ, (192, .inr (.inl f)))) = gW ad cI cJ (sA S 40 f) ++ X := rfl
theorem ls_63 (ad : Nat → Nat) (cI cJ : ClassId) (X : va_W) (S : SS) (f : Nat → Int32) : (gW ad cI cJ S ++ X).set 63 (ad 63, .inl (cI, (48, .inl f))) = gW ad cI cJ (sB S 3 f) ++ X := rfl
theorem ls_64 (ad : Nat → Nat) (cI cJ : ClassId) (X : va_W) (S : SS) (f : Nat → Int64) : (gW ad cI cJ S ++ X).set 64 (ad 64, .inl (cJ, (1, .inr (.inl f)))) = gW ad cI cJ (sA S 41 f) ++ X := rfl
/-- a Numbers at the place po, its row at pa: its size in the table si, its row in ai, L long -/
def lnN (ad : Nat → Nat) (cI cJ : ClassId) (X : va_W) (po pa si ai L : Nat) : Prop := ∀ S : SS, (gW ad cI cJ S ++ X)[po]? = some (ad po, .inr (3, [.ref (ad pa), .int (gI S si)])) ∧ (gW ad cI cJ S ++ X)[pa]? = some (ad pa, .inl (cJ, (L, .inr (.inl (gA S ai))))) ∧ (∀ v : Int32, (gW ad cI cJ S ++ X).set po (ad po, .inr (3, [.ref (ad pa), .int v])) = gW ad cI cJ (sI S si v) ++ X) ∧ (∀ f : Nat → Int64, (gW ad cI cJ S ++ X).set pa (ad pa, .inl (cJ, (L, .inr (.inl f)))) = gW ad cI cJ (sA S ai f) ++ X)
/-- a Shares at the place po -/
def lnH (ad : Nat → Nat) (cI cJ : ClassId) (X : va_W) (po pa pb pd mi ai bi di : Nat) : Prop := ∀ S : SS, (gW ad cI cJ S ++ X)[po]? = some (ad po, .inr (6, [.int (gI S mi), .ref (ad pa), .ref (ad pb), .ref (ad pd)])) ∧ (gW ad cI cJ S ++ X)[pa]? = some (ad pa, .inl (cJ, (64, .inr (.inl (gA S ai))))) ∧ (gW ad cI cJ S ++ X)[pb]? = some (ad pb, .inl (cJ, (64, .inr (.inl (gA S bi))))) ∧ (gW ad cI cJ S ++ X)[pd]? = some (ad pd, .inl (cJ, (64, .inr (.inl (gA S di))))) ∧ (∀ v : Int32, (gW ad cI cJ S ++ X).set po (ad po, .inr (6, [.int v, .ref (ad pa), .ref (ad pb), .ref (ad pd)])) = gW ad cI cJ (sI S mi v) ++ X) ∧ (∀ f : Nat → Int64, (gW ad cI cJ S ++ X).set pa (ad pa, .inl (cJ, (64, .inr (.inl f)))) = gW ad cI cJ (sA S ai f) ++ X) ∧ (∀ f : Nat → Int64, (gW ad cI cJ S ++ X).set pb (ad pb, .inl (cJ, (64, .inr (.inl f)))) = gW ad cI cJ (sA S bi f) ++ X) ∧ (∀ f : Nat → Int64, (gW ad cI cJ S ++ X).set pd (ad pd, .inl (cJ, (64, .inr (.inl f)))) = gW ad cI cJ (sA S di f) ++ X)
/-- a Product at the place po -/
def lnP (ad : Nat → Nat) (cI cJ : ClassId) (X : va_W) (po pa ai : Nat) : Prop := ∀ S : SS, (gW ad cI cJ S ++ X)[po]? = some (ad po, .inr (4, [.ref (ad pa)])) ∧ (gW ad cI cJ S ++ X)[pa]? = some (ad pa, .inl (cJ, (24, .inr (.inl (gA S ai))))) ∧ (∀ f : Nat → Int64, (gW ad cI cJ S ++ X).set pa (ad pa, .inl (cJ, (24, .inr (.inl f)))) = gW ad cI cJ (sA S ai f) ++ X)
/-- a row of longs at the place pa -/
def lnA (ad : Nat → Nat) (cI cJ : ClassId) (X : va_W) (pa ai L : Nat) : Prop := ∀ S : SS, (gW ad cI cJ S ++ X)[pa]? = some (ad pa, .inl (cJ, (L, .inr (.inl (gA S ai))))) ∧ (∀ f : Nat → Int64, (gW ad cI cJ S ++ X).set pa (ad pa, .inl (cJ, (L, .inr (.inl f)))) = gW ad cI cJ (sA S ai f) ++ X)
/-- a row of ints at the place pa -/
def lnB (ad : Nat → Nat) (cI cJ : ClassId) (X : va_W) (pa bi L : Nat) : Prop := ∀ S : SS, (gW ad cI cJ S ++ X)[pa]? = some (ad pa, .inl (cI, (L, .inl (gB S bi)))) ∧ (∀ f : Nat → Int32, (gW ad cI cJ S ++ X).set pa (ad pa, .inl (cI, (L, .inl f))) = gW ad cI cJ (sB S bi f) ++ X)
theorem ln_17 (ad : Nat → Nat) (cI cJ : ClassId) (X : va_W) : lnN ad cI cJ X 17 18 6 11 64 := fun _ => ⟨rfl, rfl, fun _ => rfl, fun _ => rfl⟩
theorem ln_19 (ad : Nat → Nat) (cI cJ : ClassId) (X : va_W) : lnN ad cI cJ X 19 20 7 12 1000 := fun _ => ⟨rfl, rfl, fun _ => rfl, fun _ => rfl⟩
theorem ln_21 (ad : Nat → Nat) (cI cJ : ClassId) (X : va_W) : lnN ad cI cJ X 21 22 8 13 1000 := fun _ => ⟨rfl, rfl, fun _ => rfl, fun _ => rfl⟩
theorem ln_23 (ad : Nat → Nat) (cI cJ : ClassId) (X : va_W) : lnN ad cI cJ X 23 24 9 14 1000 := fun _ => ⟨rfl, rfl, fun _ => rfl, fun _ => rfl⟩
theorem ln_25 (ad : Nat → Nat) (cI cJ : ClassId) (X : va_W) : lnN ad cI cJ X 25 26 10 15 40 := fun _ => ⟨rfl, rfl, fun _ => rfl, fun _ => rfl⟩
theorem ln_27 (ad : Nat → Nat) (cI cJ : ClassId) (X : va_W) : lnN ad cI cJ X 27 28 11 16 12 := fun _ => ⟨rfl, rfl, fun _ => rfl, fun _ => rfl⟩
theorem ln_38 (ad : Nat → Nat) (cI cJ : ClassId) (X : va_W) : lnN ad cI cJ X 38 39 12 22 12 := fun _ => ⟨rfl, rfl, fun _ => rfl, fun _ => rfl⟩
theorem ln_40 (ad : Nat → Nat) (cI cJ : ClassId) (X : va_W) : lnN ad cI cJ X 40 41 13 23 12 := fun _ => ⟨rfl, rfl, fun _ => rfl, fun _ => rfl⟩
theorem ln_42 (ad : Nat → Nat) (cI cJ : ClassId) (X : va_W) : lnN ad cI cJ X 42 43 14 24 12 := fun _ => ⟨rfl, rfl, fun _ => rfl, fun _ => rfl⟩
theorem ln_44 (ad : Nat → Nat) (cI cJ : ClassId) (X : va_W) : lnN ad cI cJ X 44 45 15 25 12 := fun _ => ⟨rfl, rfl, fun _ => rfl, fun _ => rfl⟩
theorem ln_46 (ad : Nat → Nat) (cI cJ : ClassId) (X : va_W) : lnN ad cI cJ X 46 47 16 26 4 := fun _ => ⟨rfl, rfl, fun _ => rfl, fun _ => rfl⟩
theorem ln_1 (ad : Nat → Nat) (cI cJ : ClassId) (X : va_W) : lnH ad cI cJ X 1 2 3 4 1 0 1 2 := fun _ => ⟨rfl, rfl, rfl, rfl, fun _ => rfl, fun _ => rfl, fun _ => rfl, fun _ => rfl⟩
theorem ln_5 (ad : Nat → Nat) (cI cJ : ClassId) (X : va_W) : lnH ad cI cJ X 5 6 7 8 2 3 4 5 := fun _ => ⟨rfl, rfl, rfl, rfl, fun _ => rfl, fun _ => rfl, fun _ => rfl, fun _ => rfl⟩
theorem ln_9 (ad : Nat → Nat) (cI cJ : ClassId) (X : va_W) : lnH ad cI cJ X 9 10 11 12 3 6 7 8 := fun _ => ⟨rfl, rfl, rfl, rfl, fun _ => rfl, fun _ => rfl, fun _ => rfl, fun _ => rfl⟩
theorem ln_33 (ad : Nat → Nat) (cI cJ : ClassId) (X : va_W) : lnP ad cI cJ X 33 34 20 := fun _ => ⟨rfl, rfl, fun _ => rfl⟩
theorem ln_35 (ad : Nat → Nat) (cI cJ : ClassId) (X : va_W) : lnP ad cI cJ X 35 36 21 := fun _ => ⟨rfl, rfl, fun _ => rfl⟩
theorem la_2 (ad : Nat → Nat) (cI cJ : ClassId) (X : va_W) : lnA ad cI cJ X 2 0 64 := fun _ => ⟨rfl, fun _ => rfl⟩
theorem la_3 (ad : Nat → Nat) (cI cJ : ClassId) (X : va_W) : lnA ad cI cJ X 3 1 64 := fun _ => ⟨rfl, fun _ => rfl⟩
theorem la_4 (ad : Nat → Nat) (cI cJ : ClassId) (X : va_W) : lnA ad cI cJ X 4 2 64 := fun _ => ⟨rfl, fun _ => rfl⟩
theorem la_6 (ad : Nat → Nat) (cI cJ : ClassId) (X : va_W) : lnA ad cI cJ X 6 3 64 := fun _ => ⟨rfl, fun _ => rfl⟩
theorem la_7 (ad : Nat → Nat) (cI cJ : ClassId) (X : va_W) : lnA ad cI cJ X 7 4 64 := fun _ => ⟨rfl, fun _ => rfl⟩
theorem la_8 (ad : Nat → Nat) (cI cJ : ClassId) (X : va_W) : lnA ad cI cJ X 8 5 64 := fun _ => ⟨rfl, fun _ => rfl⟩
theorem la_10 (ad : Nat → Nat) (cI cJ : ClassId) (X : va_W) : lnA ad cI cJ X 10 6 64 := fun _ => ⟨rfl, fun _ => rfl⟩
theorem la_11 (ad : Nat → Nat) (cI cJ : ClassId) (X : va_W) : lnA ad cI cJ X 11 7 64 := fun _ => ⟨rfl, fun _ => rfl⟩
theorem la_12 (ad : Nat → Nat) (cI cJ : ClassId) (X : va_W) : lnA ad cI cJ X 12 8 64 := fun _ => ⟨rfl, fun _ => rfl⟩
theorem la_14 (ad : Nat → Nat) (cI cJ : ClassId) (X : va_W) : lnA ad cI cJ X 14 9 40 := fun _ => ⟨rfl, fun _ => rfl⟩
theorem la_15 (ad : Nat → Nat) (cI cJ : ClassId) (X : va_W) : lnA ad cI cJ X 15 10 40 := fun _ => ⟨rfl, fun _ => rfl⟩
theorem la_18 (ad : Nat → Nat) (cI cJ : ClassId) (X : va_W) : lnA ad cI cJ X 18 11 64 := fun _ => ⟨rfl, fun _ => rfl⟩
theorem la_20 (ad : Nat → Nat) (cI cJ : ClassId) (X : va_W) : lnA ad cI cJ X 20 12 1000 := fun _ => ⟨rfl, fun _ => rfl⟩
theorem la_22 (ad : Nat → Nat) (cI cJ : ClassId) (X : va_W) : lnA ad cI cJ X 22 13 1000 := fun _ => ⟨rfl, fun _ => rfl⟩
theorem la_24 (ad : Nat → Nat) (cI cJ : ClassId) (X : va_W) : lnA ad cI cJ X 24 14 1000 := fun _ => ⟨rfl, fun _ => rfl⟩
theorem la_26 (ad : Nat → Nat) (cI cJ : ClassId) (X : va_W) : lnA ad cI cJ X 26 15 40 := fun _ => ⟨rfl, fun _ => rfl⟩
theorem la_28 (ad : Nat → Nat) (cI cJ : ClassId) (X : va_W) : lnA ad cI cJ X 28 16 12 := fun _ => ⟨rfl, fun _ => rfl⟩
theorem la_30 (ad : Nat → Nat) (cI cJ : ClassId) (X : va_W) : lnA ad cI cJ X 30 17 41 := fun _ => ⟨rfl, fun _ => rfl⟩
theorem la_31 (ad : Nat → Nat) (cI cJ : ClassId) (X : va_W) : lnA ad cI cJ X 31 18 41 := fun _ => ⟨rfl, fun _ => rfl⟩
theorem la_32 (ad : Nat → Nat) (cI cJ : ClassId) (X : va_W) : lnA ad cI cJ X 32 19 41 := fun _ => ⟨rfl, fun _ => rfl⟩
theorem la_34 (ad : Nat → Nat) (cI cJ : ClassId) (X : va_W) : lnA ad cI cJ X 34 20 24 := fun _ => ⟨rfl, fun _ => rfl⟩
theorem la_36 (ad : Nat → Nat) (cI cJ : ClassId) (X : va_W) : lnA ad cI cJ X 36 21 24 := fun _ => ⟨rfl, fun _ => rfl⟩
theorem la_39 (ad : Nat → Nat) (cI cJ : ClassId) (X : va_W) : lnA ad cI cJ X 39 22 12 := fun _ => ⟨rfl, fun _ => rfl⟩
theorem la_41 (ad : Nat → Nat) (cI cJ : ClassId) (X : va_W) : lnA ad cI cJ X 41 23 12 := fun _ => ⟨rfl, fun _ => rfl⟩
theorem la_43 (ad : Nat → Nat) (cI cJ : ClassId) (X : va_W) : lnA ad cI cJ X 43 24 12 := fun _ => ⟨rfl, fun _ => rfl⟩
theorem la_45 (ad : Nat → Nat) (cI cJ : ClassId) (X : va_W) : lnA ad cI cJ X 45 25 12 := fun _ => ⟨rfl, fun _ => rfl⟩
theorem la_47 (ad : Nat → Nat) (cI cJ : ClassId) (X : va_W) : lnA ad cI cJ X 47 26 4 := fun _ => ⟨rfl, fun _ => rfl⟩
theorem la_49 (ad : Nat → Nat) (cI cJ : ClassId) (X : va_W) : lnA ad cI cJ X 49 30 64 := fun _ => ⟨rfl, fun _ => rfl⟩
theorem la_50 (ad : Nat → Nat) (cI cJ : ClassId) (X : va_W) : lnA ad cI cJ X 50 31 192 := fun _ => ⟨rfl, fun _ => rfl⟩
theorem la_51 (ad : Nat → Nat) (cI cJ : ClassId) (X : va_W) : lnA ad cI cJ X 51 32 192 := fun _ => ⟨rfl, fun _ => rfl⟩
theorem la_52 (ad : Nat → Nat) (cI cJ : ClassId) (X : va_W) : lnA ad cI cJ X 52 33 40 := fun _ => ⟨rfl, fun _ => rfl⟩
theorem la_53 (ad : Nat → Nat) (cI cJ : ClassId) (X : va_W) : lnA ad cI cJ X 53 34 40 := fun _ => ⟨rfl, fun _ => rfl⟩
theorem la_54 (ad : Nat → Nat) (cI cJ : ClassId) (X : va_W) : lnA ad cI cJ X 54 35 1000 := fun _ => ⟨rfl, fun _ => rfl⟩
theorem la_55 (ad : Nat → Nat) (cI cJ : ClassId) (X : va_W) : lnA ad cI cJ X 55 36 20000 := fun _ => ⟨rfl, fun _ => rfl⟩
theorem la_56 (ad : Nat → Nat) (cI cJ : ClassId) (X : va_W) : lnB ad cI cJ X 56 0 40 := fun _ => ⟨rfl, fun _ => rfl⟩
theorem la_57 (ad : Nat → Nat) (cI cJ : ClassId) (X : va_W) : lnB ad cI cJ X 57 1 40 := fun _ => ⟨rfl, fun _ => rfl⟩
theorem la_58 (ad : Nat → Nat) (cI cJ : ClassId) (X : va_W) : lnA ad cI cJ X 58 37 26 := fun _ => ⟨rfl, fun _ => rfl⟩
theorem la_59 (ad : Nat → Nat) (cI cJ : ClassId) (X : va_W) : lnA ad cI cJ X 59 38 26 := fun _ => ⟨rfl, fun _ => rfl⟩
theorem la_60 (ad : Nat → Nat) (cI cJ : ClassId) (X : va_W) : lnA ad cI cJ X 60 39 1000 := fun _ => ⟨rfl, fun _ => rfl⟩
theorem la_61 (ad : Nat → Nat) (cI cJ : ClassId) (X : va_W) : lnB ad cI cJ X 61 2 100000 := fun _ => ⟨rfl, fun _ => rfl⟩
theorem la_62 (ad : Nat → Nat) (cI cJ : ClassId) (X : va_W) : lnA ad cI cJ X 62 40 192 := fun _ => ⟨rfl, fun _ => rfl⟩
theorem la_63 (ad : Nat → Nat) (cI cJ : ClassId) (X : va_W) : lnB ad cI cJ X 63 3 48 := fun _ => ⟨rfl, fun _ => rfl⟩
theorem la_64 (ad : Nat → Nat) (cI cJ : ClassId) (X : va_W) : lnA ad cI cJ X 64 41 1 := fun _ => ⟨rfl, fun _ => rfl⟩
