theorem dX7_rings_97 : decode cX7_rings 97 = .ok (.aload_n 0, 1) := by decide +kernel
theorem dX7_rings_98 : decode cX7_rings 98 = .ok (.aload_n 0, 1) := by decide +kernel
theorem dX7_rings_99 : decode cX7_rings 99 = .ok (.getfield 58, 3) := by decide +kernel
theorem dX7_rings_102 : decode cX7_rings 102 = .ok (.iload_n 1, 1) := by decide +kernel
theorem dX7_rings_103 : decode cX7_rings 103 = .ok (.invokevirtual 233, 3) := by decide +kernel
theorem dX7_rings_106 : decode cX7_rings 106 = .ok (.lstore 6, 2) := by decide +kernel
theorem dX7_rings_108 : decode cX7_rings 108 = .ok (.lload 6, 2) := by decide +kernel
theorem dX7_rings_110 : decode cX7_rings 110 = .ok (.invokestatic 178, 3) := by decide +kernel
theorem dX7_rings_113 : decode cX7_rings 113 = .ok (.ifCond .eq 25, 3) := by decide +kernel
theorem dX7_rings_116 : decode cX7_rings 116 = .ok (.aload_n 0, 1) := by decide +kernel
theorem dX7_rings_117 : decode cX7_rings 117 = .ok (.lload 6, 2) := by decide +kernel
theorem dX7_rings_119 : decode cX7_rings 119 = .ok (.iload_n 1, 1) := by decide +kernel
theorem dX7_rings_120 : decode cX7_rings 120 = .ok (.invokevirtual 251, 3) := by decide +kernel
theorem dX7_rings_123 : decode cX7_rings 123 = .ok (.ifCond .eq 15, 3) := by decide +kernel
theorem dX7_rings_126 : decode cX7_rings 126 = .ok (.iinc 3 1, 3) := by decide +kernel
theorem dX7_rings_129 : decode cX7_rings 129 = .ok (.aload_n 0, 1) := by decide +kernel
theorem dX7_rings_130 : decode cX7_rings 130 = .ok (.getfield 49, 3) := by decide +kernel
theorem dX7_rings_133 : decode cX7_rings 133 = .ok (.lload 6, 2) := by decide +kernel
theorem dX7_rings_135 : decode cX7_rings 135 = .ok (.invokevirtual 255, 3) := by decide +kernel
theorem dX7_rings_138 : decode cX7_rings 138 = .ok (.iinc 4 1, 3) := by decide +kernel
theorem dX7_rings_141 : decode cX7_rings 141 = .ok (.goto (-86), 3) := by decide +kernel
theorem dX7_rings_144 : decode cX7_rings 144 = .ok (.aload_n 0, 1) := by decide +kernel
theorem dX7_rings_145 : decode cX7_rings 145 = .ok (.getfield 45, 3) := by decide +kernel
theorem dX7_rings_148 : decode cX7_rings 148 = .ok (.aload_n 0, 1) := by decide +kernel
theorem dX7_rings_149 : decode cX7_rings 149 = .ok (.getfield 49, 3) := by decide +kernel
theorem dX7_rings_152 : decode cX7_rings 152 = .ok (.invokevirtual 215, 3) := by decide +kernel
theorem dX7_rings_155 : decode cX7_rings 155 = .ok (.iload_n 3, 1) := by decide +kernel
theorem dX7_rings_156 : decode cX7_rings 156 = .ok (.ireturn, 1) := by decide +kernel
set_option maxRecDepth 20000 in
theorem ggX7_falls_X5_measure : GoodIn wsX7_falls wsX5_measure := goodIn_r _ [7, 8, 109, 110, 111, 112] (by decide +kernel) (by decide +kernel)
set_option maxRecDepth 20000 in
theorem gX7_falls_X5_measure : GoodIn wsX7_falls (wsV RX7 99 RX5 yX5_measure wsX5_measure) := goodIn_app (goodIn_of _ (by decide +kernel)) ggX7_falls_X5_measure
set_option maxRecDepth 20000 in
theorem ggX7_falls_X7_power : GoodIn wsX7_falls wsX7_power := goodIn_r _ [12] (by decide +kernel) (by decide +kernel)
set_option maxRecDepth 20000 in
theorem gX7_falls_X7_power : GoodIn wsX7_falls (va_wsS RX7 237 yX7_power wsX7_power) := goodIn_app (goodIn_of _ (by decide +kernel)) ggX7_falls_X7_power
set_option maxRecDepth 20000 in
theorem ggX7_falls_X7_fallOfClass : GoodIn wsX7_falls wsX7_fallOfClass := goodIn_ca (goodIn_r _ [16, 2, 17, 18, 19, 20, 6, 21, 8, 22, 23, 24, 25, 26, 27, 28, 29, 30, 31, 32, 33, 34, 35, 36, 37, 38, 39, 40, 41, 42, 43, 44, 45, 46, 47, 48, 49, 50, 51, 52, 53, 54, 55, 56, 57, 58, 59, 60, 11, 61, 62, 63, 64, 65, 66, 67, 68, 69, 70, 71, 72, 73, 74, 75, 76, 77, 78, 79, 80, 81, 82, 83, 84, 85, 86, 87, 88, 89, 90, 91, 92, 93, 94, 95, 96, 97, 98, 99, 100, 101, 102, 103, 104, 105, 106, 107, 108, 109, 110, 111, 112, 113, 114, 115] (by decide +kernel) (by decide +kernel)) (goodIn_sub (fun _ h => List.mem_cons_of_mem _ (List.mem_append_right _ h)) (by decide +kernel))
set_option maxRecDepth 20000 in
theorem gX7_falls_X7_fallOfClass : GoodIn wsX7_falls (wsV RX7 259 RX7 yX7_fallOfClass wsX7_fallOfClass) := goodIn_app (goodIn_of _ (by decide +kernel)) ggX7_falls_X7_fallOfClass
theorem dX7_falls_0 : decode cX7_falls 0 = .ok (.aload_n 0, 1) := by decide +kernel
theorem dX7_falls_1 : decode cX7_falls 1 = .ok (.getfield 9, 3) := by decide +kernel
theorem dX7_falls_4 : decode cX7_falls 4 = .ok (.iconst 1, 1) := by decide +kernel
theorem dX7_falls_5 : decode cX7_falls 5 = .ok (.if_icmp .ne 14, 3) := by decide +kernel
theorem dX7_falls_8 : decode cX7_falls 8 = .ok (.iload_n 1, 1) := by decide +kernel
theorem dX7_falls_9 : decode cX7_falls 9 = .ok (.iconst 1, 1) := by decide +kernel
theorem dX7_falls_10 : decode cX7_falls 10 = .ok (.if_icmp .lt 9, 3) := by decide +kernel
theorem dX7_falls_13 : decode cX7_falls 13 = .ok (.iload_n 1, 1) := by decide +kernel
theorem dX7_falls_14 : decode cX7_falls 14 = .ok (.bipush 12, 2) := by decide +kernel
theorem dX7_falls_16 : decode cX7_falls 16 = .ok (.if_icmp .le 5, 3) := by decide +kernel
theorem dX7_falls_19 : decode cX7_falls 19 = .ok (.iconst (-1), 1) := by decide +kernel
theorem dX7_falls_20 : decode cX7_falls 20 = .ok (.ireturn, 1) := by decide +kernel
theorem dX7_falls_21 : decode cX7_falls 21 = .ok (.aload_n 0, 1) := by decide +kernel
theorem dX7_falls_22 : decode cX7_falls 22 = .ok (.getfield 16, 3) := by decide +kernel
theorem dX7_falls_25 : decode cX7_falls 25 = .ok (.invokevirtual 99, 3) := by decide +kernel
theorem dX7_falls_28 : decode cX7_falls 28 = .ok (.iload_n 1, 1) := by decide +kernel
theorem dX7_falls_29 : decode cX7_falls 29 = .ok (.invokestatic 237, 3) := by decide +kernel
theorem dX7_falls_32 : decode cX7_falls 32 = .ok (.istore_n 2, 1) := by decide +kernel
theorem dX7_falls_33 : decode cX7_falls 33 = .ok (.iload_n 2, 1) := by decide +kernel
theorem dX7_falls_34 : decode cX7_falls 34 = .ok (.sipush 20000, 3) := by decide +kernel
theorem dX7_falls_37 : decode cX7_falls 37 = .ok (.if_icmp .le 6, 3) := by decide +kernel
theorem dX7_falls_40 : decode cX7_falls 40 = .ok (.bipush (-2), 2) := by decide +kernel
theorem dX7_falls_42 : decode cX7_falls 42 = .ok (.ireturn, 1) := by decide +kernel
theorem dX7_falls_43 : decode cX7_falls 43 = .ok (.iconst 0, 1) := by decide +kernel
theorem dX7_falls_44 : decode cX7_falls 44 = .ok (.istore_n 3, 1) := by decide +kernel
theorem dX7_falls_45 : decode cX7_falls 45 = .ok (.iconst 0, 1) := by decide +kernel
theorem dX7_falls_46 : decode cX7_falls 46 = .ok (.istore 4, 2) := by decide +kernel
theorem dX7_falls_48 : decode cX7_falls 48 = .ok (.iload 4, 2) := by decide +kernel
theorem dX7_falls_50 : decode cX7_falls 50 = .ok (.iload_n 2, 1) := by decide +kernel
theorem dX7_falls_51 : decode cX7_falls 51 = .ok (.if_icmp .ge 32, 3) := by decide +kernel
theorem dX7_falls_54 : decode cX7_falls 54 = .ok (.aload_n 0, 1) := by decide +kernel
theorem dX7_falls_55 : decode cX7_falls 55 = .ok (.iload 4, 2) := by decide +kernel
theorem dX7_falls_57 : decode cX7_falls 57 = .ok (.iload_n 2, 1) := by decide +kernel
theorem dX7_falls_58 : decode cX7_falls 58 = .ok (.iload_n 1, 1) := by decide +kernel
theorem dX7_falls_59 : decode cX7_falls 59 = .ok (.invokevirtual 259, 3) := by decide +kernel
theorem dX7_falls_62 : decode cX7_falls 62 = .ok (.istore 5, 2) := by decide +kernel
theorem dX7_falls_64 : decode cX7_falls 64 = .ok (.iload 5, 2) := by decide +kernel
theorem dX7_falls_66 : decode cX7_falls 66 = .ok (.ifCond .ge 6, 3) := by decide +kernel
theorem dX7_falls_69 : decode cX7_falls 69 = .ok (.iload 5, 2) := by decide +kernel
theorem dX7_falls_71 : decode cX7_falls 71 = .ok (.ireturn, 1) := by decide +kernel
theorem dX7_falls_72 : decode cX7_falls 72 = .ok (.iload_n 3, 1) := by decide +kernel
theorem dX7_falls_73 : decode cX7_falls 73 = .ok (.iload 5, 2) := by decide +kernel
theorem dX7_falls_75 : decode cX7_falls 75 = .ok (.iadd, 1) := by decide +kernel
theorem dX7_falls_76 : decode cX7_falls 76 = .ok (.istore_n 3, 1) := by decide +kernel
theorem dX7_falls_77 : decode cX7_falls 77 = .ok (.iinc 4 1, 3) := by decide +kernel
theorem dX7_falls_80 : decode cX7_falls 80 = .ok (.goto (-32), 3) := by decide +kernel
theorem dX7_falls_83 : decode cX7_falls 83 = .ok (.iload_n 3, 1) := by decide +kernel
theorem dX7_falls_84 : decode cX7_falls 84 = .ok (.ireturn, 1) := by decide +kernel
set_option maxRecDepth 20000 in
theorem ggX7_least_X7_stepsTillBelow : GoodIn wsX7_least wsX7_stepsTillBelow := goodIn_ca (goodIn_r _ [6, 7, 8, 9, 5, 10, 1, 11, 12, 13, 14, 15, 16, 17, 18, 19, 20, 21, 22, 23, 24, 25, 26, 27, 28, 29, 30, 31, 32, 33, 34, 35, 36, 37, 38, 39, 40, 41, 42, 43, 44, 45, 46, 47, 48, 49, 50, 51, 52, 53, 54, 55, 56, 57, 58, 59, 60, 61, 62, 63, 64, 65, 66, 67, 68, 69, 70, 71, 72, 73, 74, 75, 76, 77, 78, 79, 80, 81, 82, 83, 84, 85, 86, 87, 88, 89, 90, 91, 92, 93, 94, 95, 96, 97, 98, 99, 100] (by decide +kernel) (by decide +kernel)) (goodIn_sub (fun _ h => List.mem_cons_of_mem _ (List.mem_append_right _ h)) (by decide +kernel))
set_option maxRecDepth 20000 in
theorem gX7_least_X7_stepsTillBelow : GoodIn wsX7_least (wsV RX7 200 RX7 yX7_stepsTillBelow wsX7_stepsTillBelow) := goodIn_app (goodIn_of _ (by decide +kernel)) ggX7_least_X7_stepsTillBelow
theorem dX7_least_0 : decode cX7_least 0 = .ok (.aload_n 0, 1) := by decide +kernel
theorem dX7_least_1 : decode cX7_least 1 = .ok (.getfield 9, 3) := by decide +kernel
theorem dX7_least_4 : decode cX7_least 4 = .ok (.ifCond .eq 26, 3) := by decide +kernel
theorem dX7_least_7 : decode cX7_least 7 = .ok (.iload_n 1, 1) := by decide +kernel
theorem dX7_least_8 : decode cX7_least 8 = .ok (.iconst 1, 1) := by decide +kernel
theorem dX7_least_9 : decode cX7_least 9 = .ok (.if_icmp .lt 21, 3) := by decide +kernel
theorem dX7_least_12 : decode cX7_least 12 = .ok (.iload_n 1, 1) := by decide +kernel
theorem dX7_least_13 : decode cX7_least 13 = .ok (.sipush 20000, 3) := by decide +kernel
theorem dX7_least_16 : decode cX7_least 16 = .ok (.if_icmp .gt 14, 3) := by decide +kernel
theorem dX7_least_19 : decode cX7_least 19 = .ok (.iload_n 2, 1) := by decide +kernel
theorem dX7_least_20 : decode cX7_least 20 = .ok (.ifCond .lt 10, 3) := by decide +kernel
theorem dX7_least_23 : decode cX7_least 23 = .ok (.iload_n 2, 1) := by decide +kernel
theorem dX7_least_24 : decode cX7_least 24 = .ok (.sipush 2000, 3) := by decide +kernel
theorem dX7_least_27 : decode cX7_least 27 = .ok (.if_icmp .le 5, 3) := by decide +kernel
theorem dX7_least_30 : decode cX7_least 30 = .ok (.iconst (-1), 1) := by decide +kernel
theorem dX7_least_31 : decode cX7_least 31 = .ok (.ireturn, 1) := by decide +kernel
theorem dX7_least_32 : decode cX7_least 32 = .ok (.iconst 2, 1) := by decide +kernel
theorem dX7_least_33 : decode cX7_least 33 = .ok (.istore_n 3, 1) := by decide +kernel
theorem dX7_least_34 : decode cX7_least 34 = .ok (.iload_n 3, 1) := by decide +kernel
theorem dX7_least_35 : decode cX7_least 35 = .ok (.iload_n 1, 1) := by decide +kernel
theorem dX7_least_36 : decode cX7_least 36 = .ok (.if_icmp .gt 21, 3) := by decide +kernel
theorem dX7_least_39 : decode cX7_least 39 = .ok (.aload_n 0, 1) := by decide +kernel
theorem dX7_least_40 : decode cX7_least 40 = .ok (.iload_n 3, 1) := by decide +kernel
theorem dX7_least_41 : decode cX7_least 41 = .ok (.i2l, 1) := by decide +kernel
theorem dX7_least_42 : decode cX7_least 42 = .ok (.iload_n 2, 1) := by decide +kernel
theorem dX7_least_43 : decode cX7_least 43 = .ok (.invokevirtual 200, 3) := by decide +kernel
theorem dX7_least_46 : decode cX7_least 46 = .ok (.ifCond .ge 5, 3) := by decide +kernel
theorem dX7_least_49 : decode cX7_least 49 = .ok (.iload_n 3, 1) := by decide +kernel
theorem dX7_least_50 : decode cX7_least 50 = .ok (.ireturn, 1) := by decide +kernel
theorem dX7_least_51 : decode cX7_least 51 = .ok (.iinc 3 1, 3) := by decide +kernel
theorem dX7_least_54 : decode cX7_least 54 = .ok (.goto (-20), 3) := by decide +kernel
theorem dX7_least_57 : decode cX7_least 57 = .ok (.iconst 0, 1) := by decide +kernel
theorem dX7_least_58 : decode cX7_least 58 = .ok (.ireturn, 1) := by decide +kernel
set_option maxRecDepth 20000 in
theorem ggX7_back_X7_isNumber : GoodIn wsX7_back wsX7_isNumber := goodIn_r _ [7, 8, 9] (by decide +kernel) (by decide +kernel)
set_option maxRecDepth 20000 in
theorem gX7_back_X7_isNumber : GoodIn wsX7_back (va_wsS RX7 178 yX7_isNumber wsX7_isNumber) := goodIn_app (goodIn_of _ (by decide +kernel)) ggX7_back_X7_isNumber
set_option maxRecDepth 20000 in
theorem ggX7_back_X2_empty : GoodIn wsX7_back wsX2_empty := goodIn_r _ [14, 15, 94, 95] (by decide +kernel) (by decide +kernel)
set_option maxRecDepth 20000 in
theorem gX7_back_X2_empty : GoodIn wsX7_back (wsV RX7 208 RX2 yX2_empty wsX2_empty) := goodIn_app (goodIn_of _ (by decide +kernel)) ggX7_back_X2_empty
set_option maxRecDepth 20000 in
theorem ggX7_back_X5_measure : GoodIn wsX7_back wsX5_measure := goodIn_r _ [20, 21, 96, 97, 98, 99] (by decide +kernel) (by decide +kernel)
set_option maxRecDepth 20000 in
theorem gX7_back_X5_measure : GoodIn wsX7_back (wsV RX7 99 RX5 yX5_measure wsX5_measure) := goodIn_app (goodIn_of _ (by decide +kernel)) ggX7_back_X5_measure
set_option maxRecDepth 20000 in
theorem ggX7_back_X5_before : GoodIn wsX7_back wsX5_before := goodIn_ca (goodIn_r _ [25, 26, 27, 28, 29, 19, 30, 31, 32, 33, 34, 35, 21, 36, 37, 38, 39, 40, 41, 42, 43, 44, 45, 5, 6, 7, 8, 9, 46, 47, 48, 49, 50, 51, 52, 53, 96, 97, 98, 99] (by decide +kernel) (by decide +kernel)) (goodIn_sub (fun _ h => List.mem_cons_of_mem _ (List.mem_append_right _ h)) (by decide +kernel))
set_option maxRecDepth 20000 in
theorem gX7_back_X5_before : GoodIn wsX7_back (wsV RX7 263 RX5 yX5_before wsX5_before) := goodIn_app (goodIn_of _ (by decide +kernel)) ggX7_back_X5_before
set_option maxRecDepth 20000 in
theorem ggX7_back_X2_sortIn : GoodIn wsX7_back wsX2_sortIn := goodIn_r _ [57, 15, 58, 59, 60, 13, 61, 62, 63, 64, 65, 66, 67, 68, 69, 70, 71, 72, 73, 74, 94, 95] (by decide +kernel) (by decide +kernel)
set_option maxRecDepth 20000 in
theorem gX7_back_X2_sortIn : GoodIn wsX7_back (wsV RX7 255 RX2 yX2_sortIn wsX2_sortIn) := goodIn_app (goodIn_of _ (by decide +kernel)) ggX7_back_X2_sortIn
set_option maxRecDepth 20000 in
theorem ggX7_back_X2_size : GoodIn wsX7_back wsX2_size := goodIn_r _ [78, 15, 94, 95] (by decide +kernel) (by decide +kernel)
set_option maxRecDepth 20000 in
theorem gX7_back_X2_size : GoodIn wsX7_back (wsV RX7 149 RX2 yX2_size wsX2_size) := goodIn_app (goodIn_of _ (by decide +kernel)) ggX7_back_X2_size
theorem dX7_back_0 : decode cX7_back 0 = .ok (.aload_n 0, 1) := by decide +kernel
theorem dX7_back_1 : decode cX7_back 1 = .ok (.getfield 9, 3) := by decide +kernel
theorem dX7_back_4 : decode cX7_back 4 = .ok (.iconst 1, 1) := by decide +kernel
theorem dX7_back_5 : decode cX7_back 5 = .ok (.if_icmp .ne 10, 3) := by decide +kernel
theorem dX7_back_8 : decode cX7_back 8 = .ok (.lload_n 1, 1) := by decide +kernel
theorem dX7_back_9 : decode cX7_back 9 = .ok (.invokestatic 178, 3) := by decide +kernel
theorem dX7_back_12 : decode cX7_back 12 = .ok (.ifCond .ne 5, 3) := by decide +kernel
theorem dX7_back_15 : decode cX7_back 15 = .ok (.iconst (-1), 1) := by decide +kernel
theorem dX7_back_16 : decode cX7_back 16 = .ok (.ireturn, 1) := by decide +kernel
theorem dX7_back_17 : decode cX7_back 17 = .ok (.aload_n 0, 1) := by decide +kernel
theorem dX7_back_18 : decode cX7_back 18 = .ok (.getfield 45, 3) := by decide +kernel
theorem dX7_back_21 : decode cX7_back 21 = .ok (.invokevirtual 208, 3) := by decide +kernel
theorem dX7_back_24 : decode cX7_back 24 = .ok (.iconst 0, 1) := by decide +kernel
theorem dX7_back_25 : decode cX7_back 25 = .ok (.istore_n 3, 1) := by decide +kernel
theorem dX7_back_26 : decode cX7_back 26 = .ok (.iload_n 3, 1) := by decide +kernel
theorem dX7_back_27 : decode cX7_back 27 = .ok (.aload_n 0, 1) := by decide +kernel
theorem dX7_back_28 : decode cX7_back 28 = .ok (.getfield 16, 3) := by decide +kernel
theorem dX7_back_31 : decode cX7_back 31 = .ok (.invokevirtual 99, 3) := by decide +kernel
theorem dX7_back_34 : decode cX7_back 34 = .ok (.if_icmp .ge 37, 3) := by decide +kernel
theorem dX7_back_37 : decode cX7_back 37 = .ok (.aload_n 0, 1) := by decide +kernel
theorem dX7_back_38 : decode cX7_back 38 = .ok (.getfield 16, 3) := by decide +kernel
theorem dX7_back_41 : decode cX7_back 41 = .ok (.lload_n 1, 1) := by decide +kernel
theorem dX7_back_42 : decode cX7_back 42 = .ok (.iload_n 3, 1) := by decide +kernel
theorem dX7_back_43 : decode cX7_back 43 = .ok (.invokevirtual 263, 3) := by decide +kernel
theorem dX7_back_46 : decode cX7_back 46 = .ok (.lstore 4, 2) := by decide +kernel
theorem dX7_back_48 : decode cX7_back 48 = .ok (.lload 4, 2) := by decide +kernel
theorem dX7_back_50 : decode cX7_back 50 = .ok (.invokestatic 178, 3) := by decide +kernel
theorem dX7_back_53 : decode cX7_back 53 = .ok (.ifCond .eq 12, 3) := by decide +kernel
theorem dX7_back_56 : decode cX7_back 56 = .ok (.aload_n 0, 1) := by decide +kernel
theorem dX7_back_57 : decode cX7_back 57 = .ok (.getfield 45, 3) := by decide +kernel
theorem dX7_back_60 : decode cX7_back 60 = .ok (.lload 4, 2) := by decide +kernel
theorem dX7_back_62 : decode cX7_back 62 = .ok (.invokevirtual 255, 3) := by decide +kernel
theorem dX7_back_65 : decode cX7_back 65 = .ok (.iinc 3 1, 3) := by decide +kernel
theorem dX7_back_68 : decode cX7_back 68 = .ok (.goto (-42), 3) := by decide +kernel
theorem dX7_back_71 : decode cX7_back 71 = .ok (.aload_n 0, 1) := by decide +kernel
theorem dX7_back_72 : decode cX7_back 72 = .ok (.getfield 45, 3) := by decide +kernel
theorem dX7_back_75 : decode cX7_back 75 = .ok (.invokevirtual 149, 3) := by decide +kernel
theorem dX7_back_78 : decode cX7_back 78 = .ok (.ireturn, 1) := by decide +kernel
set_option maxRecDepth 20000 in
theorem ggX7_whole_X5_measure : GoodIn wsX7_whole wsX5_measure := goodIn_r _ [7, 8, 48, 49, 50, 51] (by decide +kernel) (by decide +kernel)
set_option maxRecDepth 20000 in
theorem gX7_whole_X5_measure : GoodIn wsX7_whole (wsV RX7 99 RX5 yX5_measure wsX5_measure) := goodIn_app (goodIn_of _ (by decide +kernel)) ggX7_whole_X5_measure
set_option maxRecDepth 20000 in
theorem ggX7_whole_X5_a : GoodIn wsX7_whole wsX5_a := goodIn_r _ [12, 13, 14, 15, 16, 6, 17, 8, 48, 49, 50, 51] (by decide +kernel) (by decide +kernel)
set_option maxRecDepth 20000 in
theorem gX7_whole_X5_a : GoodIn wsX7_whole (wsV RX7 266 RX5 yX5_a wsX5_a) := goodIn_app (goodIn_of _ (by decide +kernel)) ggX7_whole_X5_a
set_option maxRecDepth 20000 in
theorem ggX7_whole_X5_first : GoodIn wsX7_whole wsX5_first := goodIn_ca (goodIn_r _ [21, 22, 10, 11, 6, 12, 13, 14, 15, 16, 17, 8, 23, 24, 25, 26, 27, 28, 29, 30, 31, 32, 48, 49, 50, 51] (by decide +kernel) (by decide +kernel)) (goodIn_sub (fun _ h => List.mem_cons_of_mem _ (List.mem_append_right _ h)) (by decide +kernel))
set_option maxRecDepth 20000 in
theorem gX7_whole_X5_first : GoodIn wsX7_whole (wsV RX7 269 RX5 yX5_first wsX5_first) := goodIn_app (goodIn_of _ (by decide +kernel)) ggX7_whole_X5_first
theorem dX7_whole_0 : decode cX7_whole 0 = .ok (.aload_n 0, 1) := by decide +kernel
theorem dX7_whole_1 : decode cX7_whole 1 = .ok (.getfield 9, 3) := by decide +kernel
theorem dX7_whole_4 : decode cX7_whole 4 = .ok (.iconst 1, 1) := by decide +kernel
theorem dX7_whole_5 : decode cX7_whole 5 = .ok (.if_icmp .eq 5, 3) := by decide +kernel
theorem dX7_whole_8 : decode cX7_whole 8 = .ok (.lconst 0, 1) := by decide +kernel
theorem dX7_whole_9 : decode cX7_whole 9 = .ok (.lreturn, 1) := by decide +kernel
theorem dX7_whole_10 : decode cX7_whole 10 = .ok (.lconst 0, 1) := by decide +kernel
theorem dX7_whole_11 : decode cX7_whole 11 = .ok (.lstore_n 3, 1) := by decide +kernel
theorem dX7_whole_12 : decode cX7_whole 12 = .ok (.iconst 0, 1) := by decide +kernel
theorem dX7_whole_13 : decode cX7_whole 13 = .ok (.istore 5, 2) := by decide +kernel
theorem dX7_whole_15 : decode cX7_whole 15 = .ok (.iload 5, 2) := by decide +kernel
theorem dX7_whole_17 : decode cX7_whole 17 = .ok (.aload_n 0, 1) := by decide +kernel
theorem dX7_whole_18 : decode cX7_whole 18 = .ok (.getfield 16, 3) := by decide +kernel
theorem dX7_whole_21 : decode cX7_whole 21 = .ok (.invokevirtual 99, 3) := by decide +kernel
theorem dX7_whole_24 : decode cX7_whole 24 = .ok (.if_icmp .ge 44, 3) := by decide +kernel
theorem dX7_whole_27 : decode cX7_whole 27 = .ok (.aload_n 0, 1) := by decide +kernel
theorem dX7_whole_28 : decode cX7_whole 28 = .ok (.getfield 16, 3) := by decide +kernel
theorem dX7_whole_31 : decode cX7_whole 31 = .ok (.iload 5, 2) := by decide +kernel
theorem dX7_whole_33 : decode cX7_whole 33 = .ok (.invokevirtual 266, 3) := by decide +kernel
theorem dX7_whole_36 : decode cX7_whole 36 = .ok (.lconst 0, 1) := by decide +kernel
theorem dX7_whole_37 : decode cX7_whole 37 = .ok (.lcmp, 1) := by decide +kernel
theorem dX7_whole_38 : decode cX7_whole 38 = .ok (.ifCond .ne 24, 3) := by decide +kernel
theorem dX7_whole_41 : decode cX7_whole 41 = .ok (.aload_n 0, 1) := by decide +kernel
theorem dX7_whole_42 : decode cX7_whole 42 = .ok (.getfield 16, 3) := by decide +kernel
theorem dX7_whole_45 : decode cX7_whole 45 = .ok (.iload 5, 2) := by decide +kernel
theorem dX7_whole_47 : decode cX7_whole 47 = .ok (.invokevirtual 269, 3) := by decide +kernel
theorem dX7_whole_50 : decode cX7_whole 50 = .ok (.lload_n 1, 1) := by decide +kernel
theorem dX7_whole_51 : decode cX7_whole 51 = .ok (.lcmp, 1) := by decide +kernel
theorem dX7_whole_52 : decode cX7_whole 52 = .ok (.ifCond .ne 10, 3) := by decide +kernel
theorem dX7_whole_55 : decode cX7_whole 55 = .ok (.lload_n 3, 1) := by decide +kernel
theorem dX7_whole_56 : decode cX7_whole 56 = .ok (.lconst 1, 1) := by decide +kernel
theorem dX7_whole_57 : decode cX7_whole 57 = .ok (.iload 5, 2) := by decide +kernel
theorem dX7_whole_59 : decode cX7_whole 59 = .ok (.lshl, 1) := by decide +kernel
theorem dX7_whole_60 : decode cX7_whole 60 = .ok (.lor, 1) := by decide +kernel
theorem dX7_whole_61 : decode cX7_whole 61 = .ok (.lstore_n 3, 1) := by decide +kernel
theorem dX7_whole_62 : decode cX7_whole 62 = .ok (.iinc 5 1, 3) := by decide +kernel
theorem dX7_whole_65 : decode cX7_whole 65 = .ok (.goto (-50), 3) := by decide +kernel
theorem dX7_whole_68 : decode cX7_whole 68 = .ok (.lload_n 3, 1) := by decide +kernel
theorem dX7_whole_69 : decode cX7_whole 69 = .ok (.lreturn, 1) := by decide +kernel
set_option maxRecDepth 20000 in
theorem ggX7_backs_X7_isNumber : GoodIn wsX7_backs wsX7_isNumber := goodIn_r _ [6, 7, 8] (by decide +kernel) (by decide +kernel)
set_option maxRecDepth 20000 in
theorem gX7_backs_X7_isNumber : GoodIn wsX7_backs (va_wsS RX7 178 yX7_isNumber wsX7_isNumber) := goodIn_app (goodIn_of _ (by decide +kernel)) ggX7_backs_X7_isNumber
set_option maxRecDepth 20000 in
theorem ggX7_backs_X2_empty : GoodIn wsX7_backs wsX2_empty := goodIn_r _ [13, 14, 97, 98] (by decide +kernel) (by decide +kernel)
set_option maxRecDepth 20000 in
theorem gX7_backs_X2_empty : GoodIn wsX7_backs (wsV RX7 208 RX2 yX2_empty wsX2_empty) := goodIn_app (goodIn_of _ (by decide +kernel)) ggX7_backs_X2_empty
set_option maxRecDepth 20000 in
theorem ggX7_backs_X2_add : GoodIn wsX7_backs wsX2_add := goodIn_r _ [18, 14, 19, 97, 98] (by decide +kernel) (by decide +kernel)
set_option maxRecDepth 20000 in
theorem gX7_backs_X2_add : GoodIn wsX7_backs (wsV RX7 213 RX2 yX2_add wsX2_add) := goodIn_app (goodIn_of _ (by decide +kernel)) ggX7_backs_X2_add
set_option maxRecDepth 20000 in
theorem ggX7_backs_X7_goBackFromFound : GoodIn wsX7_backs wsX7_goBackFromFound := goodIn_ca (goodIn_r _ [23, 24, 2, 25, 9, 10, 11, 12, 13, 14, 26, 27, 28, 29, 30, 31, 32, 33, 34, 35, 36, 37, 38, 39, 19, 40, 41, 42, 43, 44, 45, 46, 47, 48, 49, 50, 51, 52, 53, 54, 55, 56, 57, 58, 59, 60, 61, 62, 63, 64, 65, 66, 67, 4, 5, 6, 7, 8, 68, 69, 70, 71, 72, 73, 74, 75, 3, 15, 16, 17, 18, 76, 77, 78, 79, 80, 81, 82, 83, 84, 85, 86, 87, 88, 89, 90, 91, 92, 93, 94, 95, 96, 97, 98, 99, 100, 101, 102] (by decide +kernel) (by decide +kernel)) (goodIn_sub (fun _ h => List.mem_cons_of_mem _ (List.mem_append_right _ h)) (by decide +kernel))
set_option maxRecDepth 20000 in
theorem gX7_backs_X7_goBackFromFound : GoodIn wsX7_backs (wsV RX7 272 RX7 yX7_goBackFromFound wsX7_goBackFromFound) := goodIn_app (goodIn_of _ (by decide +kernel)) ggX7_backs_X7_goBackFromFound
set_option maxRecDepth 20000 in
theorem ggX7_backs_X2_size : GoodIn wsX7_backs wsX2_size := goodIn_r _ [29, 14, 97, 98] (by decide +kernel) (by decide +kernel)
set_option maxRecDepth 20000 in
theorem gX7_backs_X2_size : GoodIn wsX7_backs (wsV RX7 149 RX2 yX2_size wsX2_size) := goodIn_app (goodIn_of _ (by decide +kernel)) ggX7_backs_X2_size
theorem dX7_backs_0 : decode cX7_backs 0 = .ok (.aload_n 0, 1) := by decide +kernel
theorem dX7_backs_1 : decode cX7_backs 1 = .ok (.getfield 9, 3) := by decide +kernel
theorem dX7_backs_4 : decode cX7_backs 4 = .ok (.iconst 1, 1) := by decide +kernel
theorem dX7_backs_5 : decode cX7_backs 5 = .ok (.if_icmp .ne 20, 3) := by decide +kernel
theorem dX7_backs_8 : decode cX7_backs 8 = .ok (.lload_n 1, 1) := by decide +kernel
theorem dX7_backs_9 : decode cX7_backs 9 = .ok (.invokestatic 178, 3) := by decide +kernel
theorem dX7_backs_12 : decode cX7_backs 12 = .ok (.ifCond .eq 13, 3) := by decide +kernel
theorem dX7_backs_15 : decode cX7_backs 15 = .ok (.iload_n 3, 1) := by decide +kernel
theorem dX7_backs_16 : decode cX7_backs 16 = .ok (.ifCond .lt 9, 3) := by decide +kernel
theorem dX7_backs_19 : decode cX7_backs 19 = .ok (.iload_n 3, 1) := by decide +kernel
theorem dX7_backs_20 : decode cX7_backs 20 = .ok (.bipush 20, 2) := by decide +kernel
theorem dX7_backs_22 : decode cX7_backs 22 = .ok (.if_icmp .le 5, 3) := by decide +kernel
theorem dX7_backs_25 : decode cX7_backs 25 = .ok (.iconst (-1), 1) := by decide +kernel
theorem dX7_backs_26 : decode cX7_backs 26 = .ok (.ireturn, 1) := by decide +kernel
theorem dX7_backs_27 : decode cX7_backs 27 = .ok (.aload_n 0, 1) := by decide +kernel
theorem dX7_backs_28 : decode cX7_backs 28 = .ok (.getfield 49, 3) := by decide +kernel
theorem dX7_backs_31 : decode cX7_backs 31 = .ok (.invokevirtual 208, 3) := by decide +kernel
theorem dX7_backs_34 : decode cX7_backs 34 = .ok (.aload_n 0, 1) := by decide +kernel
theorem dX7_backs_35 : decode cX7_backs 35 = .ok (.getfield 49, 3) := by decide +kernel
theorem dX7_backs_38 : decode cX7_backs 38 = .ok (.lload_n 1, 1) := by decide +kernel
theorem dX7_backs_39 : decode cX7_backs 39 = .ok (.invokevirtual 213, 3) := by decide +kernel
theorem dX7_backs_42 : decode cX7_backs 42 = .ok (.pop, 1) := by decide +kernel
theorem dX7_backs_43 : decode cX7_backs 43 = .ok (.iconst 0, 1) := by decide +kernel
theorem dX7_backs_44 : decode cX7_backs 44 = .ok (.istore 4, 2) := by decide +kernel
theorem dX7_backs_46 : decode cX7_backs 46 = .ok (.iload 4, 2) := by decide +kernel
theorem dX7_backs_48 : decode cX7_backs 48 = .ok (.iload_n 3, 1) := by decide +kernel
theorem dX7_backs_49 : decode cX7_backs 49 = .ok (.if_icmp .ge 19, 3) := by decide +kernel
theorem dX7_backs_52 : decode cX7_backs 52 = .ok (.aload_n 0, 1) := by decide +kernel
theorem dX7_backs_53 : decode cX7_backs 53 = .ok (.invokevirtual 272, 3) := by decide +kernel
theorem dX7_backs_56 : decode cX7_backs 56 = .ok (.ifCond .ne 6, 3) := by decide +kernel
theorem dX7_backs_59 : decode cX7_backs 59 = .ok (.bipush (-2), 2) := by decide +kernel
theorem dX7_backs_61 : decode cX7_backs 61 = .ok (.ireturn, 1) := by decide +kernel
theorem dX7_backs_62 : decode cX7_backs 62 = .ok (.iinc 4 1, 3) := by decide +kernel
theorem dX7_backs_65 : decode cX7_backs 65 = .ok (.goto (-19), 3) := by decide +kernel
theorem dX7_backs_68 : decode cX7_backs 68 = .ok (.aload_n 0, 1) := by decide +kernel
theorem dX7_backs_69 : decode cX7_backs 69 = .ok (.getfield 49, 3) := by decide +kernel
theorem dX7_backs_72 : decode cX7_backs 72 = .ok (.invokevirtual 149, 3) := by decide +kernel
theorem dX7_backs_75 : decode cX7_backs 75 = .ok (.ireturn, 1) := by decide +kernel
set_option maxRecDepth 20000 in
theorem ggX7_both_X5_hasNoShare : GoodIn wsX7_both wsX5_hasNoShare := goodIn_r _ [8, 9, 10, 11, 12, 7, 13, 14, 15, 16, 17, 18, 76, 77, 78, 79] (by decide +kernel) (by decide +kernel)
set_option maxRecDepth 20000 in
theorem gX7_both_X5_hasNoShare : GoodIn wsX7_both (wsV RX7 275 RX5 yX5_hasNoShare wsX5_hasNoShare) := goodIn_app (goodIn_of _ (by decide +kernel)) ggX7_both_X5_hasNoShare
set_option maxRecDepth 20000 in
theorem ggX7_both_X5_commonStride : GoodIn wsX7_both wsX5_commonStride := goodIn_ca (goodIn_r _ [22, 9, 23, 24, 25, 26, 27, 28, 29, 30, 31, 7, 32, 33, 34, 35, 10, 11, 12, 13, 14, 15, 16, 17, 18, 36, 37, 38, 39, 40, 41, 42, 43, 44, 76, 77, 78, 79] (by decide +kernel) (by decide +kernel)) (goodIn_sub (fun _ h => List.mem_cons_of_mem _ (List.mem_append_right _ h)) (by decide +kernel))
set_option maxRecDepth 20000 in
theorem gX7_both_X5_commonStride : GoodIn wsX7_both (wsV RX7 278 RX5 yX5_commonStride wsX5_commonStride) := goodIn_app (goodIn_of _ (by decide +kernel)) ggX7_both_X5_commonStride
set_option maxRecDepth 20000 in
theorem ggX7_both_X5_fillsOnce : GoodIn wsX7_both wsX5_fillsOnce := goodIn_ca (goodIn_r _ [48, 9, 49, 50, 27, 51, 29, 30, 31, 7, 32, 33, 34, 35, 10, 11, 12, 13, 14, 15, 16, 17, 18, 36, 37, 38, 39, 40, 52, 53, 54, 55, 56, 57, 58, 59, 60, 41, 42, 43, 44, 76, 77, 78, 79] (by decide +kernel) (by decide +kernel)) (goodIn_sub (fun _ h => List.mem_cons_of_mem _ (List.mem_append_right _ h)) (by decide +kernel))
set_option maxRecDepth 20000 in
theorem gX7_both_X5_fillsOnce : GoodIn wsX7_both (wsV RX7 282 RX5 yX5_fillsOnce wsX5_fillsOnce) := goodIn_app (goodIn_of _ (by decide +kernel)) ggX7_both_X5_fillsOnce
theorem dX7_both_0 : decode cX7_both 0 = .ok (.aload_n 0, 1) := by decide +kernel
theorem dX7_both_1 : decode cX7_both 1 = .ok (.getfield 9, 3) := by decide +kernel
theorem dX7_both_4 : decode cX7_both 4 = .ok (.iconst 1, 1) := by decide +kernel
theorem dX7_both_5 : decode cX7_both 5 = .ok (.if_icmp .eq 5, 3) := by decide +kernel
theorem dX7_both_8 : decode cX7_both 8 = .ok (.iconst (-1), 1) := by decide +kernel
theorem dX7_both_9 : decode cX7_both 9 = .ok (.ireturn, 1) := by decide +kernel
theorem dX7_both_10 : decode cX7_both 10 = .ok (.aload_n 0, 1) := by decide +kernel
theorem dX7_both_11 : decode cX7_both 11 = .ok (.getfield 16, 3) := by decide +kernel
theorem dX7_both_14 : decode cX7_both 14 = .ok (.invokevirtual 275, 3) := by decide +kernel
theorem dX7_both_17 : decode cX7_both 17 = .ok (.ifCond .eq 5, 3) := by decide +kernel
theorem dX7_both_20 : decode cX7_both 20 = .ok (.iconst 0, 1) := by decide +kernel
theorem dX7_both_21 : decode cX7_both 21 = .ok (.ireturn, 1) := by decide +kernel
theorem dX7_both_22 : decode cX7_both 22 = .ok (.aload_n 0, 1) := by decide +kernel
theorem dX7_both_23 : decode cX7_both 23 = .ok (.getfield 16, 3) := by decide +kernel
theorem dX7_both_26 : decode cX7_both 26 = .ok (.invokevirtual 278, 3) := by decide +kernel
theorem dX7_both_29 : decode cX7_both 29 = .ok (.istore_n 1, 1) := by decide +kernel
theorem dX7_both_30 : decode cX7_both 30 = .ok (.iload_n 1, 1) := by decide +kernel
theorem dX7_both_31 : decode cX7_both 31 = .ok (.ldc_w 281, 3) := by decide +kernel
theorem dX7_both_34 : decode cX7_both 34 = .ok (.if_icmp .le 6, 3) := by decide +kernel
theorem dX7_both_37 : decode cX7_both 37 = .ok (.bipush (-2), 2) := by decide +kernel
theorem dX7_both_39 : decode cX7_both 39 = .ok (.ireturn, 1) := by decide +kernel
theorem dX7_both_40 : decode cX7_both 40 = .ok (.aload_n 0, 1) := by decide +kernel
theorem dX7_both_41 : decode cX7_both 41 = .ok (.getfield 16, 3) := by decide +kernel
theorem dX7_both_44 : decode cX7_both 44 = .ok (.iload_n 1, 1) := by decide +kernel
theorem dX7_both_45 : decode cX7_both 45 = .ok (.invokevirtual 282, 3) := by decide +kernel
theorem dX7_both_48 : decode cX7_both 48 = .ok (.ifCond .eq 7, 3) := by decide +kernel
theorem dX7_both_51 : decode cX7_both 51 = .ok (.iconst 1, 1) := by decide +kernel
theorem dX7_both_52 : decode cX7_both 52 = .ok (.goto 4, 3) := by decide +kernel
theorem dX7_both_55 : decode cX7_both 55 = .ok (.iconst 0, 1) := by decide +kernel
theorem dX7_both_56 : decode cX7_both 56 = .ok (.ireturn, 1) := by decide +kernel
set_option maxRecDepth 20000 in
theorem ggX7_turn_X7_both : GoodIn wsX7_turn wsX7_both := goodIn_ca (goodIn_r _ [7, 8, 1, 9, 10, 11, 12, 13, 14, 15, 16, 17, 18, 19, 20, 21, 22, 23, 24, 25, 26, 27, 28, 29, 30, 31, 32, 33, 34, 35, 36, 37, 38, 39, 40, 41, 42, 43, 44, 45, 46, 47, 6, 48, 49, 50, 51, 52, 53, 54, 55, 56, 57, 58, 59, 60, 61, 62, 63, 64, 65, 116, 117, 118, 119, 120, 121, 122, 123, 124, 125, 126, 127, 128, 129, 130, 131, 132, 133, 134] (by decide +kernel) (by decide +kernel)) (goodIn_sub (fun _ h => List.mem_cons_of_mem _ (List.mem_append_right _ h)) (by decide +kernel))
set_option maxRecDepth 20000 in
theorem gX7_turn_X7_both : GoodIn wsX7_turn (wsV RX7 285 RX7 yX7_both wsX7_both) := goodIn_app (goodIn_of _ (by decide +kernel)) ggX7_turn_X7_both
set_option maxRecDepth 20000 in
theorem ggX7_turn_X5_commonStride : GoodIn wsX7_turn wsX5_commonStride := goodIn_ca (goodIn_r _ [28, 15, 29, 30, 31, 32, 33, 34, 35, 36, 37, 13, 38, 39, 40, 41, 16, 17, 18, 19, 20, 21, 22, 23, 24, 42, 43, 44, 45, 46, 47, 6, 48, 49, 131, 132, 133, 134] (by decide +kernel) (by decide +kernel)) (goodIn_sub (fun _ h => List.mem_cons_of_mem _ (List.mem_append_right _ h)) (by decide +kernel))
set_option maxRecDepth 20000 in
theorem gX7_turn_X5_commonStride : GoodIn wsX7_turn (wsV RX7 278 RX5 yX5_commonStride wsX5_commonStride) := goodIn_app (goodIn_of _ (by decide +kernel)) ggX7_turn_X5_commonStride
set_option maxRecDepth 20000 in
theorem ggX7_turn_X5_begin : GoodIn wsX7_turn wsX5_begin := goodIn_r _ [69, 15, 20, 65, 46, 70, 71, 72, 73, 131, 132, 133, 134] (by decide +kernel) (by decide +kernel)
set_option maxRecDepth 20000 in
theorem gX7_turn_X5_begin : GoodIn wsX7_turn (wsV RX7 85 RX5 yX5_begin wsX5_begin) := goodIn_app (goodIn_of _ (by decide +kernel)) ggX7_turn_X5_begin
set_option maxRecDepth 20000 in
theorem ggX7_turn_X7_turnRest : GoodIn wsX7_turn wsX7_turnRest := goodIn_ca (goodIn_r _ [77, 1, 78, 2, 79, 80, 81, 13, 82, 15, 54, 55, 33, 56, 57, 58, 59, 60, 16, 17, 18, 19, 20, 21, 22, 23, 24, 61, 62, 63, 64, 65, 42, 43, 44, 45, 46, 35, 36, 37, 38, 39, 40, 41, 83, 84, 85, 86, 47, 6, 48, 49, 87, 88, 89, 90, 116, 117, 118, 119, 120, 121, 122, 123, 124, 125, 126, 127, 128, 129, 130, 131, 132, 133, 134] (by decide +kernel) (by decide +kernel)) (goodIn_sub (fun _ h => List.mem_cons_of_mem _ (List.mem_append_right _ h)) (by decide +kernel))
set_option maxRecDepth 20000 in
theorem gX7_turn_X7_turnRest : GoodIn wsX7_turn (wsV RX7 288 RX7 yX7_turnRest wsX7_turnRest) := goodIn_app (goodIn_of _ (by decide +kernel)) ggX7_turn_X7_turnRest
set_option maxRecDepth 20000 in
theorem ggX7_turn_X5_firstUnsound : GoodIn wsX7_turn wsX5_firstUnsound := goodIn_ca (goodIn_r _ [94, 15, 95, 96, 97, 13, 98, 99, 100, 101, 102, 20, 65, 46, 21, 22, 23, 24, 103, 104, 105, 106, 107, 16, 17, 18, 19, 61, 62, 63, 64, 42, 43, 44, 45, 131, 132, 133, 134] (by decide +kernel) (by decide +kernel)) (goodIn_sub (fun _ h => List.mem_cons_of_mem _ (List.mem_append_right _ h)) (by decide +kernel))
set_option maxRecDepth 20000 in
theorem gX7_turn_X5_firstUnsound : GoodIn wsX7_turn (wsV RX7 129 RX5 yX5_firstUnsound wsX5_firstUnsound) := goodIn_app (goodIn_of _ (by decide +kernel)) ggX7_turn_X5_firstUnsound
set_option maxRecDepth 20000 in
theorem ggX7_turn_X5_become : GoodIn wsX7_turn wsX5_become := goodIn_r _ [111, 15, 20, 112, 113, 114, 115, 65, 46, 131, 132, 133, 134] (by decide +kernel) (by decide +kernel)
set_option maxRecDepth 20000 in
theorem gX7_turn_X5_become : GoodIn wsX7_turn (wsV RX7 132 RX5 yX5_become wsX5_become) := goodIn_app (goodIn_of _ (by decide +kernel)) ggX7_turn_X5_become
theorem dX7_turn_0 : decode cX7_turn 0 = .ok (.aload_n 0, 1) := by decide +kernel
theorem dX7_turn_1 : decode cX7_turn 1 = .ok (.invokevirtual 285, 3) := by decide +kernel
theorem dX7_turn_4 : decode cX7_turn 4 = .ok (.iconst 1, 1) := by decide +kernel
theorem dX7_turn_5 : decode cX7_turn 5 = .ok (.if_icmp .eq 5, 3) := by decide +kernel
theorem dX7_turn_8 : decode cX7_turn 8 = .ok (.iconst (-1), 1) := by decide +kernel
theorem dX7_turn_9 : decode cX7_turn 9 = .ok (.ireturn, 1) := by decide +kernel
theorem dX7_turn_10 : decode cX7_turn 10 = .ok (.aload_n 0, 1) := by decide +kernel
theorem dX7_turn_11 : decode cX7_turn 11 = .ok (.getfield 16, 3) := by decide +kernel
theorem dX7_turn_14 : decode cX7_turn 14 = .ok (.invokevirtual 278, 3) := by decide +kernel
theorem dX7_turn_17 : decode cX7_turn 17 = .ok (.istore_n 1, 1) := by decide +kernel
theorem dX7_turn_18 : decode cX7_turn 18 = .ok (.iload_n 1, 1) := by decide +kernel
theorem dX7_turn_19 : decode cX7_turn 19 = .ok (.iconst 2, 1) := by decide +kernel
theorem dX7_turn_20 : decode cX7_turn 20 = .ok (.if_icmp .lt 9, 3) := by decide +kernel
theorem dX7_turn_23 : decode cX7_turn 23 = .ok (.iload_n 1, 1) := by decide +kernel
theorem dX7_turn_24 : decode cX7_turn 24 = .ok (.bipush 64, 2) := by decide +kernel
theorem dX7_turn_26 : decode cX7_turn 26 = .ok (.if_icmp .le 5, 3) := by decide +kernel
theorem dX7_turn_29 : decode cX7_turn 29 = .ok (.iconst (-1), 1) := by decide +kernel
theorem dX7_turn_30 : decode cX7_turn 30 = .ok (.ireturn, 1) := by decide +kernel
theorem dX7_turn_31 : decode cX7_turn 31 = .ok (.aload_n 0, 1) := by decide +kernel
theorem dX7_turn_32 : decode cX7_turn 32 = .ok (.getfield 23, 3) := by decide +kernel
theorem dX7_turn_35 : decode cX7_turn 35 = .ok (.iload_n 1, 1) := by decide +kernel
theorem dX7_turn_36 : decode cX7_turn 36 = .ok (.invokevirtual 85, 3) := by decide +kernel
theorem dX7_turn_39 : decode cX7_turn 39 = .ok (.iconst 0, 1) := by decide +kernel
theorem dX7_turn_40 : decode cX7_turn 40 = .ok (.istore_n 2, 1) := by decide +kernel
theorem dX7_turn_41 : decode cX7_turn 41 = .ok (.iload_n 2, 1) := by decide +kernel
theorem dX7_turn_42 : decode cX7_turn 42 = .ok (.iload_n 1, 1) := by decide +kernel
theorem dX7_turn_43 : decode cX7_turn 43 = .ok (.if_icmp .ge 14, 3) := by decide +kernel
theorem dX7_turn_46 : decode cX7_turn 46 = .ok (.aload_n 0, 1) := by decide +kernel
theorem dX7_turn_47 : decode cX7_turn 47 = .ok (.iload_n 2, 1) := by decide +kernel
theorem dX7_turn_48 : decode cX7_turn 48 = .ok (.invokevirtual 288, 3) := by decide +kernel
theorem dX7_turn_51 : decode cX7_turn 51 = .ok (.iinc 2 1, 3) := by decide +kernel
theorem dX7_turn_54 : decode cX7_turn 54 = .ok (.goto (-13), 3) := by decide +kernel
theorem dX7_turn_57 : decode cX7_turn 57 = .ok (.aload_n 0, 1) := by decide +kernel
theorem dX7_turn_58 : decode cX7_turn 58 = .ok (.getfield 23, 3) := by decide +kernel
theorem dX7_turn_61 : decode cX7_turn 61 = .ok (.invokevirtual 129, 3) := by decide +kernel
theorem dX7_turn_64 : decode cX7_turn 64 = .ok (.ifCond .lt 5, 3) := by decide +kernel
theorem dX7_turn_67 : decode cX7_turn 67 = .ok (.iconst (-1), 1) := by decide +kernel
theorem dX7_turn_68 : decode cX7_turn 68 = .ok (.ireturn, 1) := by decide +kernel
theorem dX7_turn_69 : decode cX7_turn 69 = .ok (.aload_n 0, 1) := by decide +kernel
theorem dX7_turn_70 : decode cX7_turn 70 = .ok (.getfield 16, 3) := by decide +kernel
theorem dX7_turn_73 : decode cX7_turn 73 = .ok (.aload_n 0, 1) := by decide +kernel
theorem dX7_turn_74 : decode cX7_turn 74 = .ok (.getfield 23, 3) := by decide +kernel
theorem dX7_turn_77 : decode cX7_turn 77 = .ok (.invokevirtual 132, 3) := by decide +kernel
theorem dX7_turn_80 : decode cX7_turn 80 = .ok (.iload_n 1, 1) := by decide +kernel
theorem dX7_turn_81 : decode cX7_turn 81 = .ok (.ireturn, 1) := by decide +kernel
set_option maxRecDepth 20000 in
theorem ggX7_drift_X5_hasNoShare : GoodIn wsX7_drift wsX5_hasNoShare := goodIn_r _ [13, 14, 15, 16, 17, 12, 18, 19, 20, 21, 22, 23, 64, 65, 66, 67] (by decide +kernel) (by decide +kernel)
set_option maxRecDepth 20000 in
theorem gX7_drift_X5_hasNoShare : GoodIn wsX7_drift (wsV RX7 275 RX5 yX5_hasNoShare wsX5_hasNoShare) := goodIn_app (goodIn_of _ (by decide +kernel)) ggX7_drift_X5_hasNoShare
set_option maxRecDepth 20000 in
theorem ggX7_drift_X3_begin : GoodIn wsX7_drift wsX3_begin := goodIn_r _ [28, 29, 68] (by decide +kernel) (by decide +kernel)
set_option maxRecDepth 20000 in
theorem gX7_drift_X3_begin : GoodIn wsX7_drift (wsV RX7 291 RX3 yX3_begin wsX3_begin) := goodIn_app (goodIn_of _ (by decide +kernel)) ggX7_drift_X3_begin
set_option maxRecDepth 20000 in
theorem ggX7_drift_X5_measure : GoodIn wsX7_drift wsX5_measure := goodIn_r _ [33, 14, 64, 65, 66, 67] (by decide +kernel) (by decide +kernel)
set_option maxRecDepth 20000 in
theorem gX7_drift_X5_measure : GoodIn wsX7_drift (wsV RX7 99 RX5 yX5_measure wsX5_measure) := goodIn_app (goodIn_of _ (by decide +kernel)) ggX7_drift_X5_measure
set_option maxRecDepth 20000 in
theorem ggX7_drift_X5_a : GoodIn wsX7_drift wsX5_a := goodIn_r _ [18, 19, 20, 21, 22, 12, 23, 14, 64, 65, 66, 67] (by decide +kernel) (by decide +kernel)
set_option maxRecDepth 20000 in
theorem gX7_drift_X5_a : GoodIn wsX7_drift (wsV RX7 266 RX5 yX5_a wsX5_a) := goodIn_app (goodIn_of _ (by decide +kernel)) ggX7_drift_X5_a
set_option maxRecDepth 20000 in
theorem ggX7_drift_X3_multiply : GoodIn wsX7_drift wsX3_multiply := goodIn_r _ [38, 29, 39, 68] (by decide +kernel) (by decide +kernel)
set_option maxRecDepth 20000 in
theorem gX7_drift_X3_multiply : GoodIn wsX7_drift (wsV RX7 296 RX3 yX3_multiply wsX3_multiply) := goodIn_app (goodIn_of _ (by decide +kernel)) ggX7_drift_X3_multiply
set_option maxRecDepth 20000 in
theorem ggX7_drift_X5_d : GoodIn wsX7_drift wsX5_d := goodIn_r _ [43, 44, 20, 21, 22, 12, 23, 14, 64, 65, 66, 67] (by decide +kernel) (by decide +kernel)
set_option maxRecDepth 20000 in
theorem gX7_drift_X5_d : GoodIn wsX7_drift (wsV RX7 299 RX5 yX5_d wsX5_d) := goodIn_app (goodIn_of _ (by decide +kernel)) ggX7_drift_X5_d
set_option maxRecDepth 20000 in
theorem ggX7_drift_X3_against : GoodIn wsX7_drift wsX3_against := goodIn_r _ [48, 29, 68] (by decide +kernel) (by decide +kernel)
set_option maxRecDepth 20000 in
theorem gX7_drift_X3_against : GoodIn wsX7_drift (wsV RX7 302 RX3 yX3_against wsX3_against) := goodIn_app (goodIn_of _ (by decide +kernel)) ggX7_drift_X3_against
theorem dX7_drift_0 : decode cX7_drift 0 = .ok (.aload_n 0, 1) := by decide +kernel
theorem dX7_drift_1 : decode cX7_drift 1 = .ok (.getfield 9, 3) := by decide +kernel
theorem dX7_drift_4 : decode cX7_drift 4 = .ok (.iconst 1, 1) := by decide +kernel
theorem dX7_drift_5 : decode cX7_drift 5 = .ok (.if_icmp .ne 13, 3) := by decide +kernel
theorem dX7_drift_8 : decode cX7_drift 8 = .ok (.aload_n 0, 1) := by decide +kernel
theorem dX7_drift_9 : decode cX7_drift 9 = .ok (.getfield 16, 3) := by decide +kernel
theorem dX7_drift_12 : decode cX7_drift 12 = .ok (.invokevirtual 275, 3) := by decide +kernel
theorem dX7_drift_15 : decode cX7_drift 15 = .ok (.ifCond .eq 6, 3) := by decide +kernel
theorem dX7_drift_18 : decode cX7_drift 18 = .ok (.bipush (-2), 2) := by decide +kernel
theorem dX7_drift_20 : decode cX7_drift 20 = .ok (.ireturn, 1) := by decide +kernel
theorem dX7_drift_21 : decode cX7_drift 21 = .ok (.aload_n 0, 1) := by decide +kernel
theorem dX7_drift_22 : decode cX7_drift 22 = .ok (.getfield 71, 3) := by decide +kernel
theorem dX7_drift_25 : decode cX7_drift 25 = .ok (.invokevirtual 291, 3) := by decide +kernel
theorem dX7_drift_28 : decode cX7_drift 28 = .ok (.aload_n 0, 1) := by decide +kernel
theorem dX7_drift_29 : decode cX7_drift 29 = .ok (.getfield 75, 3) := by decide +kernel
theorem dX7_drift_32 : decode cX7_drift 32 = .ok (.invokevirtual 291, 3) := by decide +kernel
theorem dX7_drift_35 : decode cX7_drift 35 = .ok (.iconst 0, 1) := by decide +kernel
theorem dX7_drift_36 : decode cX7_drift 36 = .ok (.istore_n 1, 1) := by decide +kernel
theorem dX7_drift_37 : decode cX7_drift 37 = .ok (.iload_n 1, 1) := by decide +kernel
theorem dX7_drift_38 : decode cX7_drift 38 = .ok (.aload_n 0, 1) := by decide +kernel
theorem dX7_drift_39 : decode cX7_drift 39 = .ok (.getfield 16, 3) := by decide +kernel
theorem dX7_drift_42 : decode cX7_drift 42 = .ok (.invokevirtual 99, 3) := by decide +kernel
theorem dX7_drift_45 : decode cX7_drift 45 = .ok (.if_icmp .ge 42, 3) := by decide +kernel
theorem dX7_drift_48 : decode cX7_drift 48 = .ok (.aload_n 0, 1) := by decide +kernel
theorem dX7_drift_49 : decode cX7_drift 49 = .ok (.getfield 71, 3) := by decide +kernel
theorem dX7_drift_52 : decode cX7_drift 52 = .ok (.aload_n 0, 1) := by decide +kernel
theorem dX7_drift_53 : decode cX7_drift 53 = .ok (.getfield 16, 3) := by decide +kernel
theorem dX7_drift_56 : decode cX7_drift 56 = .ok (.iload_n 1, 1) := by decide +kernel
theorem dX7_drift_57 : decode cX7_drift 57 = .ok (.invokevirtual 266, 3) := by decide +kernel
theorem dX7_drift_60 : decode cX7_drift 60 = .ok (.invokestatic 293, 3) := by decide +kernel
theorem dX7_drift_63 : decode cX7_drift 63 = .ok (.invokevirtual 296, 3) := by decide +kernel
theorem dX7_drift_66 : decode cX7_drift 66 = .ok (.aload_n 0, 1) := by decide +kernel
theorem dX7_drift_67 : decode cX7_drift 67 = .ok (.getfield 75, 3) := by decide +kernel
theorem dX7_drift_70 : decode cX7_drift 70 = .ok (.aload_n 0, 1) := by decide +kernel
theorem dX7_drift_71 : decode cX7_drift 71 = .ok (.getfield 16, 3) := by decide +kernel
theorem dX7_drift_74 : decode cX7_drift 74 = .ok (.iload_n 1, 1) := by decide +kernel
theorem dX7_drift_75 : decode cX7_drift 75 = .ok (.invokevirtual 299, 3) := by decide +kernel
theorem dX7_drift_78 : decode cX7_drift 78 = .ok (.invokevirtual 296, 3) := by decide +kernel
theorem dX7_drift_81 : decode cX7_drift 81 = .ok (.iinc 1 1, 3) := by decide +kernel
theorem dX7_drift_84 : decode cX7_drift 84 = .ok (.goto (-47), 3) := by decide +kernel
theorem dX7_drift_87 : decode cX7_drift 87 = .ok (.aload_n 0, 1) := by decide +kernel
theorem dX7_drift_88 : decode cX7_drift 88 = .ok (.getfield 71, 3) := by decide +kernel
theorem dX7_drift_91 : decode cX7_drift 91 = .ok (.aload_n 0, 1) := by decide +kernel
theorem dX7_drift_92 : decode cX7_drift 92 = .ok (.getfield 75, 3) := by decide +kernel
theorem dX7_drift_95 : decode cX7_drift 95 = .ok (.invokevirtual 302, 3) := by decide +kernel
theorem dX7_drift_98 : decode cX7_drift 98 = .ok (.ireturn, 1) := by decide +kernel
set_option maxRecDepth 20000 in
theorem ggX7_fixed_X2_empty : GoodIn wsX7_fixed wsX2_empty := goodIn_r _ [8, 9, 83, 84] (by decide +kernel) (by decide +kernel)
set_option maxRecDepth 20000 in
theorem gX7_fixed_X2_empty : GoodIn wsX7_fixed (wsV RX7 208 RX2 yX2_empty wsX2_empty) := goodIn_app (goodIn_of _ (by decide +kernel)) ggX7_fixed_X2_empty
set_option maxRecDepth 20000 in
theorem ggX7_fixed_X5_measure : GoodIn wsX7_fixed wsX5_measure := goodIn_r _ [14, 15, 85, 86, 87, 88] (by decide +kernel) (by decide +kernel)
set_option maxRecDepth 20000 in
theorem gX7_fixed_X5_measure : GoodIn wsX7_fixed (wsV RX7 99 RX5 yX5_measure wsX5_measure) := goodIn_app (goodIn_of _ (by decide +kernel)) ggX7_fixed_X5_measure
set_option maxRecDepth 20000 in
theorem ggX7_fixed_X5_d : GoodIn wsX7_fixed wsX5_d := goodIn_r _ [19, 20, 21, 22, 23, 13, 24, 15, 85, 86, 87, 88] (by decide +kernel) (by decide +kernel)
set_option maxRecDepth 20000 in
theorem gX7_fixed_X5_d : GoodIn wsX7_fixed (wsV RX7 299 RX5 yX5_d wsX5_d) := goodIn_app (goodIn_of _ (by decide +kernel)) ggX7_fixed_X5_d
set_option maxRecDepth 20000 in
theorem ggX7_fixed_X5_a : GoodIn wsX7_fixed wsX5_a := goodIn_r _ [28, 29, 21, 22, 23, 13, 24, 15, 85, 86, 87, 88] (by decide +kernel) (by decide +kernel)
set_option maxRecDepth 20000 in
theorem gX7_fixed_X5_a : GoodIn wsX7_fixed (wsV RX7 266 RX5 yX5_a wsX5_a) := goodIn_app (goodIn_of _ (by decide +kernel)) ggX7_fixed_X5_a
set_option maxRecDepth 20000 in
theorem ggX7_fixed_X5_b : GoodIn wsX7_fixed wsX5_b := goodIn_r _ [33, 34, 21, 22, 23, 13, 24, 15, 85, 86, 87, 88] (by decide +kernel) (by decide +kernel)
set_option maxRecDepth 20000 in
theorem gX7_fixed_X5_b : GoodIn wsX7_fixed (wsV RX7 306 RX5 yX5_b wsX5_b) := goodIn_app (goodIn_of _ (by decide +kernel)) ggX7_fixed_X5_b
set_option maxRecDepth 20000 in
theorem ggX7_fixed_X5_restOf : GoodIn wsX7_fixed wsX5_restOf := goodIn_r _ [38, 15, 39, 40, 41, 42, 85, 86, 87, 88] (by decide +kernel) (by decide +kernel)
set_option maxRecDepth 20000 in
theorem gX7_fixed_X5_restOf : GoodIn wsX7_fixed (wsV RX7 309 RX5 yX5_restOf wsX5_restOf) := goodIn_app (goodIn_of _ (by decide +kernel)) ggX7_fixed_X5_restOf
set_option maxRecDepth 20000 in
theorem ggX7_fixed_X2_sortIn : GoodIn wsX7_fixed wsX2_sortIn := goodIn_r _ [46, 9, 47, 48, 49, 7, 50, 51, 52, 53, 54, 55, 56, 57, 58, 59, 60, 61, 62, 63, 83, 84] (by decide +kernel) (by decide +kernel)
set_option maxRecDepth 20000 in
theorem gX7_fixed_X2_sortIn : GoodIn wsX7_fixed (wsV RX7 255 RX2 yX2_sortIn wsX2_sortIn) := goodIn_app (goodIn_of _ (by decide +kernel)) ggX7_fixed_X2_sortIn
set_option maxRecDepth 20000 in
theorem ggX7_fixed_X2_size : GoodIn wsX7_fixed wsX2_size := goodIn_r _ [67, 9, 83, 84] (by decide +kernel) (by decide +kernel)
set_option maxRecDepth 20000 in
theorem gX7_fixed_X2_size : GoodIn wsX7_fixed (wsV RX7 149 RX2 yX2_size wsX2_size) := goodIn_app (goodIn_of _ (by decide +kernel)) ggX7_fixed_X2_size
theorem dX7_fixed_0 : decode cX7_fixed 0 = .ok (.aload_n 0, 1) := by decide +kernel
theorem dX7_fixed_1 : decode cX7_fixed 1 = .ok (.getfield 9, 3) := by decide +kernel
theorem dX7_fixed_4 : decode cX7_fixed 4 = .ok (.iconst 1, 1) := by decide +kernel
theorem dX7_fixed_5 : decode cX7_fixed 5 = .ok (.if_icmp .eq 5, 3) := by decide +kernel
theorem dX7_fixed_8 : decode cX7_fixed 8 = .ok (.iconst (-1), 1) := by decide +kernel
theorem dX7_fixed_9 : decode cX7_fixed 9 = .ok (.ireturn, 1) := by decide +kernel
theorem dX7_fixed_10 : decode cX7_fixed 10 = .ok (.aload_n 0, 1) := by decide +kernel
theorem dX7_fixed_11 : decode cX7_fixed 11 = .ok (.getfield 45, 3) := by decide +kernel
theorem dX7_fixed_14 : decode cX7_fixed 14 = .ok (.invokevirtual 208, 3) := by decide +kernel
theorem dX7_fixed_17 : decode cX7_fixed 17 = .ok (.iconst 0, 1) := by decide +kernel
theorem dX7_fixed_18 : decode cX7_fixed 18 = .ok (.istore_n 1, 1) := by decide +kernel
theorem dX7_fixed_19 : decode cX7_fixed 19 = .ok (.iload_n 1, 1) := by decide +kernel
theorem dX7_fixed_20 : decode cX7_fixed 20 = .ok (.aload_n 0, 1) := by decide +kernel
theorem dX7_fixed_21 : decode cX7_fixed 21 = .ok (.getfield 16, 3) := by decide +kernel
theorem dX7_fixed_24 : decode cX7_fixed 24 = .ok (.invokevirtual 99, 3) := by decide +kernel
theorem dX7_fixed_27 : decode cX7_fixed 27 = .ok (.if_icmp .ge 86, 3) := by decide +kernel
theorem dX7_fixed_30 : decode cX7_fixed 30 = .ok (.aload_n 0, 1) := by decide +kernel
theorem dX7_fixed_31 : decode cX7_fixed 31 = .ok (.getfield 16, 3) := by decide +kernel
theorem dX7_fixed_34 : decode cX7_fixed 34 = .ok (.iload_n 1, 1) := by decide +kernel
theorem dX7_fixed_35 : decode cX7_fixed 35 = .ok (.invokevirtual 299, 3) := by decide +kernel
theorem dX7_fixed_38 : decode cX7_fixed 38 = .ok (.aload_n 0, 1) := by decide +kernel
theorem dX7_fixed_39 : decode cX7_fixed 39 = .ok (.getfield 16, 3) := by decide +kernel
theorem dX7_fixed_42 : decode cX7_fixed 42 = .ok (.iload_n 1, 1) := by decide +kernel
theorem dX7_fixed_43 : decode cX7_fixed 43 = .ok (.invokevirtual 266, 3) := by decide +kernel
theorem dX7_fixed_46 : decode cX7_fixed 46 = .ok (.lsub, 1) := by decide +kernel
theorem dX7_fixed_47 : decode cX7_fixed 47 = .ok (.lstore_n 2, 1) := by decide +kernel
theorem dX7_fixed_48 : decode cX7_fixed 48 = .ok (.lload_n 2, 1) := by decide +kernel
theorem dX7_fixed_49 : decode cX7_fixed 49 = .ok (.lconst 0, 1) := by decide +kernel
theorem dX7_fixed_50 : decode cX7_fixed 50 = .ok (.lcmp, 1) := by decide +kernel
theorem dX7_fixed_51 : decode cX7_fixed 51 = .ok (.ifCond .eq 56, 3) := by decide +kernel
theorem dX7_fixed_54 : decode cX7_fixed 54 = .ok (.aload_n 0, 1) := by decide +kernel
theorem dX7_fixed_55 : decode cX7_fixed 55 = .ok (.getfield 16, 3) := by decide +kernel
theorem dX7_fixed_58 : decode cX7_fixed 58 = .ok (.iload_n 1, 1) := by decide +kernel
theorem dX7_fixed_59 : decode cX7_fixed 59 = .ok (.invokevirtual 306, 3) := by decide +kernel
theorem dX7_fixed_62 : decode cX7_fixed 62 = .ok (.lload_n 2, 1) := by decide +kernel
theorem dX7_fixed_63 : decode cX7_fixed 63 = .ok (.lrem, 1) := by decide +kernel
theorem dX7_fixed_64 : decode cX7_fixed 64 = .ok (.lconst 0, 1) := by decide +kernel
theorem dX7_fixed_65 : decode cX7_fixed 65 = .ok (.lcmp, 1) := by decide +kernel
theorem dX7_fixed_66 : decode cX7_fixed 66 = .ok (.ifCond .ne 41, 3) := by decide +kernel
theorem dX7_fixed_69 : decode cX7_fixed 69 = .ok (.aload_n 0, 1) := by decide +kernel
theorem dX7_fixed_70 : decode cX7_fixed 70 = .ok (.getfield 16, 3) := by decide +kernel
theorem dX7_fixed_73 : decode cX7_fixed 73 = .ok (.aload_n 0, 1) := by decide +kernel
theorem dX7_fixed_74 : decode cX7_fixed 74 = .ok (.getfield 16, 3) := by decide +kernel
theorem dX7_fixed_77 : decode cX7_fixed 77 = .ok (.iload_n 1, 1) := by decide +kernel
theorem dX7_fixed_78 : decode cX7_fixed 78 = .ok (.invokevirtual 306, 3) := by decide +kernel
theorem dX7_fixed_81 : decode cX7_fixed 81 = .ok (.lload_n 2, 1) := by decide +kernel
theorem dX7_fixed_82 : decode cX7_fixed 82 = .ok (.ldiv, 1) := by decide +kernel
theorem dX7_fixed_83 : decode cX7_fixed 83 = .ok (.invokevirtual 309, 3) := by decide +kernel
theorem dX7_fixed_86 : decode cX7_fixed 86 = .ok (.iload_n 1, 1) := by decide +kernel
theorem dX7_fixed_87 : decode cX7_fixed 87 = .ok (.if_icmp .ne 20, 3) := by decide +kernel
theorem dX7_fixed_90 : decode cX7_fixed 90 = .ok (.aload_n 0, 1) := by decide +kernel
theorem dX7_fixed_91 : decode cX7_fixed 91 = .ok (.getfield 45, 3) := by decide +kernel
theorem dX7_fixed_94 : decode cX7_fixed 94 = .ok (.aload_n 0, 1) := by decide +kernel
theorem dX7_fixed_95 : decode cX7_fixed 95 = .ok (.getfield 16, 3) := by decide +kernel
theorem dX7_fixed_98 : decode cX7_fixed 98 = .ok (.iload_n 1, 1) := by decide +kernel
theorem dX7_fixed_99 : decode cX7_fixed 99 = .ok (.invokevirtual 306, 3) := by decide +kernel
theorem dX7_fixed_102 : decode cX7_fixed 102 = .ok (.lload_n 2, 1) := by decide +kernel
theorem dX7_fixed_103 : decode cX7_fixed 103 = .ok (.ldiv, 1) := by decide +kernel
theorem dX7_fixed_104 : decode cX7_fixed 104 = .ok (.invokevirtual 255, 3) := by decide +kernel
theorem dX7_fixed_107 : decode cX7_fixed 107 = .ok (.iinc 1 1, 3) := by decide +kernel
theorem dX7_fixed_110 : decode cX7_fixed 110 = .ok (.goto (-91), 3) := by decide +kernel
theorem dX7_fixed_113 : decode cX7_fixed 113 = .ok (.aload_n 0, 1) := by decide +kernel
theorem dX7_fixed_114 : decode cX7_fixed 114 = .ok (.getfield 45, 3) := by decide +kernel
theorem dX7_fixed_117 : decode cX7_fixed 117 = .ok (.invokevirtual 149, 3) := by decide +kernel
theorem dX7_fixed_120 : decode cX7_fixed 120 = .ok (.ireturn, 1) := by decide +kernel
set_option maxRecDepth 20000 in
theorem ggX7_act_X7_isActNumber : GoodIn wsX7_act wsX7_isActNumber := goodIn_r _ [5] (by decide +kernel) (by decide +kernel)
set_option maxRecDepth 20000 in
theorem gX7_act_X7_isActNumber : GoodIn wsX7_act (va_wsS RX7 312 yX7_isActNumber wsX7_isActNumber) := goodIn_app (goodIn_of _ (by decide +kernel)) ggX7_act_X7_isActNumber
set_option maxRecDepth 20000 in
theorem ggX7_act_X1_add : GoodIn wsX7_act wsX1_add := goodIn_r _ [10, 11, 12, 13, 14, 15, 16, 17, 18, 19, 20, 21, 45, 46, 47, 48, 49, 50, 51, 52] (by decide +kernel) (by decide +kernel)
set_option maxRecDepth 20000 in
theorem gX7_act_X1_add : GoodIn wsX7_act (wsV RX7 315 RX1 yX1_add wsX1_add) := goodIn_app (goodIn_of _ (by decide +kernel)) ggX7_act_X1_add
set_option maxRecDepth 20000 in
theorem ggX7_act_X1_size : GoodIn wsX7_act wsX1_size := goodIn_r _ [25, 11, 26, 27, 28, 18, 29, 20, 45, 46, 47, 48, 49, 50, 51, 52] (by decide +kernel) (by decide +kernel)
set_option maxRecDepth 20000 in
theorem gX7_act_X1_size : GoodIn wsX7_act (wsV RX7 150 RX1 yX1_size wsX1_size) := goodIn_app (goodIn_of _ (by decide +kernel)) ggX7_act_X1_size
theorem dX7_act_0 : decode cX7_act 0 = .ok (.iload_n 1, 1) := by decide +kernel
theorem dX7_act_1 : decode cX7_act 1 = .ok (.ifCond .lt 8, 3) := by decide +kernel
theorem dX7_act_4 : decode cX7_act 4 = .ok (.iload_n 1, 1) := by decide +kernel
theorem dX7_act_5 : decode cX7_act 5 = .ok (.iconst 2, 1) := by decide +kernel
theorem dX7_act_6 : decode cX7_act 6 = .ok (.if_icmp .le 5, 3) := by decide +kernel
theorem dX7_act_9 : decode cX7_act 9 = .ok (.iconst (-1), 1) := by decide +kernel
theorem dX7_act_10 : decode cX7_act 10 = .ok (.ireturn, 1) := by decide +kernel
theorem dX7_act_11 : decode cX7_act 11 = .ok (.iload_n 1, 1) := by decide +kernel
theorem dX7_act_12 : decode cX7_act 12 = .ok (.iconst 2, 1) := by decide +kernel
theorem dX7_act_13 : decode cX7_act 13 = .ok (.if_icmp .eq 21, 3) := by decide +kernel
theorem dX7_act_16 : decode cX7_act 16 = .ok (.iload_n 2, 1) := by decide +kernel
theorem dX7_act_17 : decode cX7_act 17 = .ok (.ifCond .lt 15, 3) := by decide +kernel
theorem dX7_act_20 : decode cX7_act 20 = .ok (.iload_n 2, 1) := by decide +kernel
theorem dX7_act_21 : decode cX7_act 21 = .ok (.iconst 4, 1) := by decide +kernel
theorem dX7_act_22 : decode cX7_act 22 = .ok (.if_icmp .ge 10, 3) := by decide +kernel
theorem dX7_act_25 : decode cX7_act 25 = .ok (.iload_n 3, 1) := by decide +kernel
theorem dX7_act_26 : decode cX7_act 26 = .ok (.invokestatic 312, 3) := by decide +kernel
theorem dX7_act_29 : decode cX7_act 29 = .ok (.ifCond .ne 5, 3) := by decide +kernel
theorem dX7_act_32 : decode cX7_act 32 = .ok (.iconst (-1), 1) := by decide +kernel
theorem dX7_act_33 : decode cX7_act 33 = .ok (.ireturn, 1) := by decide +kernel
theorem dX7_act_34 : decode cX7_act 34 = .ok (.iload_n 1, 1) := by decide +kernel
theorem dX7_act_35 : decode cX7_act 35 = .ok (.iconst 1, 1) := by decide +kernel
theorem dX7_act_36 : decode cX7_act 36 = .ok (.if_icmp .ne 13, 3) := by decide +kernel
theorem dX7_act_39 : decode cX7_act 39 = .ok (.iload 4, 2) := by decide +kernel
theorem dX7_act_41 : decode cX7_act 41 = .ok (.invokestatic 312, 3) := by decide +kernel
theorem dX7_act_44 : decode cX7_act 44 = .ok (.ifCond .ne 5, 3) := by decide +kernel
theorem dX7_act_47 : decode cX7_act 47 = .ok (.iconst (-1), 1) := by decide +kernel
theorem dX7_act_48 : decode cX7_act 48 = .ok (.ireturn, 1) := by decide +kernel
theorem dX7_act_49 : decode cX7_act 49 = .ok (.aload_n 0, 1) := by decide +kernel
theorem dX7_act_50 : decode cX7_act 50 = .ok (.getfield 81, 3) := by decide +kernel
theorem dX7_act_53 : decode cX7_act 53 = .ok (.iload_n 1, 1) := by decide +kernel
theorem dX7_act_54 : decode cX7_act 54 = .ok (.iload_n 2, 1) := by decide +kernel
theorem dX7_act_55 : decode cX7_act 55 = .ok (.iload_n 3, 1) := by decide +kernel
theorem dX7_act_56 : decode cX7_act 56 = .ok (.iload 4, 2) := by decide +kernel
theorem dX7_act_58 : decode cX7_act 58 = .ok (.invokevirtual 315, 3) := by decide +kernel
theorem dX7_act_61 : decode cX7_act 61 = .ok (.ifCond .eq 15, 3) := by decide +kernel
theorem dX7_act_64 : decode cX7_act 64 = .ok (.aload_n 0, 1) := by decide +kernel
theorem dX7_act_65 : decode cX7_act 65 = .ok (.getfield 81, 3) := by decide +kernel
theorem dX7_act_68 : decode cX7_act 68 = .ok (.invokevirtual 150, 3) := by decide +kernel
theorem dX7_act_71 : decode cX7_act 71 = .ok (.iconst 1, 1) := by decide +kernel
theorem dX7_act_72 : decode cX7_act 72 = .ok (.isub, 1) := by decide +kernel
theorem dX7_act_73 : decode cX7_act 73 = .ok (.goto 4, 3) := by decide +kernel
theorem dX7_act_76 : decode cX7_act 76 = .ok (.iconst (-1), 1) := by decide +kernel
theorem dX7_act_77 : decode cX7_act 77 = .ok (.ireturn, 1) := by decide +kernel
set_option maxRecDepth 20000 in
theorem ggX7_scrap_X1_size : GoodIn wsX7_scrap wsX1_size := goodIn_r _ [6, 7, 8, 9, 10, 11, 12, 13, 40, 41, 42, 43, 44, 45, 46, 47] (by decide +kernel) (by decide +kernel)
set_option maxRecDepth 20000 in
theorem gX7_scrap_X1_size : GoodIn wsX7_scrap (wsV RX7 150 RX1 yX1_size wsX1_size) := goodIn_app (goodIn_of _ (by decide +kernel)) ggX7_scrap_X1_size
set_option maxRecDepth 20000 in
theorem ggX7_scrap_X1_empty : GoodIn wsX7_scrap wsX1_empty := goodIn_r _ [17, 7, 18, 19, 20, 21, 22, 23, 11, 24, 13, 40, 41, 42, 43, 44, 45, 46, 47] (by decide +kernel) (by decide +kernel)
set_option maxRecDepth 20000 in
theorem gX7_scrap_X1_empty : GoodIn wsX7_scrap (wsV RX7 318 RX1 yX1_empty wsX1_empty) := goodIn_app (goodIn_of _ (by decide +kernel)) ggX7_scrap_X1_empty
theorem dX7_scrap_0 : decode cX7_scrap 0 = .ok (.aload_n 0, 1) := by decide +kernel
theorem dX7_scrap_1 : decode cX7_scrap 1 = .ok (.getfield 81, 3) := by decide +kernel
theorem dX7_scrap_4 : decode cX7_scrap 4 = .ok (.invokevirtual 150, 3) := by decide +kernel
theorem dX7_scrap_7 : decode cX7_scrap 7 = .ok (.istore_n 1, 1) := by decide +kernel
theorem dX7_scrap_8 : decode cX7_scrap 8 = .ok (.aload_n 0, 1) := by decide +kernel
theorem dX7_scrap_9 : decode cX7_scrap 9 = .ok (.getfield 81, 3) := by decide +kernel
theorem dX7_scrap_12 : decode cX7_scrap 12 = .ok (.invokevirtual 318, 3) := by decide +kernel
theorem dX7_scrap_15 : decode cX7_scrap 15 = .ok (.iload_n 1, 1) := by decide +kernel
theorem dX7_scrap_16 : decode cX7_scrap 16 = .ok (.ireturn, 1) := by decide +kernel
set_option maxRecDepth 20000 in
theorem ggX7_go_X1_size : GoodIn wsX7_go wsX1_size := goodIn_r _ [7, 8, 9, 10, 11, 12, 13, 14, 106, 107, 108, 109, 110, 111, 112, 113] (by decide +kernel) (by decide +kernel)
set_option maxRecDepth 20000 in
theorem gX7_go_X1_size : GoodIn wsX7_go (wsV RX7 150 RX1 yX1_size wsX1_size) := goodIn_app (goodIn_of _ (by decide +kernel)) ggX7_go_X1_size
set_option maxRecDepth 20000 in
theorem ggX7_go_X7_areHeaps : GoodIn wsX7_go wsX7_areHeaps := goodIn_r _ [18, 19, 20, 17, 21] (by decide +kernel) (by decide +kernel)
set_option maxRecDepth 20000 in
theorem gX7_go_X7_areHeaps : GoodIn wsX7_go (va_wsS RX7 319 yX7_areHeaps wsX7_areHeaps) := goodIn_app (goodIn_of _ (by decide +kernel)) ggX7_go_X7_areHeaps
set_option maxRecDepth 20000 in
theorem ggX7_go_X7_isStepCount : GoodIn wsX7_go wsX7_isStepCount := goodIn_r _ [24, 25] (by decide +kernel) (by decide +kernel)
set_option maxRecDepth 20000 in
theorem gX7_go_X7_isStepCount : GoodIn wsX7_go (va_wsS RX7 197 yX7_isStepCount wsX7_isStepCount) := goodIn_app (goodIn_of _ (by decide +kernel)) ggX7_go_X7_isStepCount
set_option maxRecDepth 20000 in
theorem ggX7_go_X1_fill : GoodIn wsX7_go wsX1_fill := goodIn_r _ [29, 30, 31, 32, 33, 12, 34, 14, 35, 36, 37, 38, 39, 106, 107, 108, 109, 110, 111, 112, 113] (by decide +kernel) (by decide +kernel)
set_option maxRecDepth 20000 in
theorem gX7_go_X1_fill : GoodIn wsX7_go (wsV RX7 322 RX1 yX1_fill wsX1_fill) := goodIn_app (goodIn_of _ (by decide +kernel)) ggX7_go_X1_fill
set_option maxRecDepth 20000 in
theorem ggX7_go_X1_work : GoodIn wsX7_go wsX1_work := goodIn_r _ [43, 44, 45, 4, 5, 6, 7, 8, 9, 10, 11, 12, 13, 14, 46, 47, 48, 49, 50, 51, 52, 53, 39, 54, 55, 56, 57, 58, 59, 60, 61, 30, 62, 63, 64, 65, 66, 67, 68, 69, 70, 71, 72, 73, 74, 75, 76, 77, 78, 79, 80, 106, 107, 108, 109, 110, 111, 112, 113] (by decide +kernel) (by decide +kernel)
set_option maxRecDepth 20000 in
theorem gX7_go_X1_work : GoodIn wsX7_go (wsV RX7 326 RX1 yX1_work wsX1_work) := goodIn_app (goodIn_of _ (by decide +kernel)) ggX7_go_X1_work
set_option maxRecDepth 20000 in
theorem ggX7_go_X2_empty : GoodIn wsX7_go wsX2_empty := goodIn_r _ [34, 14, 112, 113] (by decide +kernel) (by decide +kernel)
set_option maxRecDepth 20000 in
theorem gX7_go_X2_empty : GoodIn wsX7_go (wsV RX7 208 RX2 yX2_empty wsX2_empty) := goodIn_app (goodIn_of _ (by decide +kernel)) ggX7_go_X2_empty
set_option maxRecDepth 20000 in
theorem ggX7_go_X1_inHeap : GoodIn wsX7_go wsX1_inHeap := goodIn_r _ [85, 30, 50, 51, 52, 12, 53, 39, 54, 55, 56, 57, 14, 106, 107, 108, 109, 110, 111, 112, 113] (by decide +kernel) (by decide +kernel)
set_option maxRecDepth 20000 in
theorem gX7_go_X1_inHeap : GoodIn wsX7_go (wsV RX7 329 RX1 yX1_inHeap wsX1_inHeap) := goodIn_app (goodIn_of _ (by decide +kernel)) ggX7_go_X1_inHeap
set_option maxRecDepth 20000 in
theorem ggX7_go_X2_add : GoodIn wsX7_go wsX2_add := goodIn_r _ [38, 14, 39, 112, 113] (by decide +kernel) (by decide +kernel)
set_option maxRecDepth 20000 in
theorem gX7_go_X2_add : GoodIn wsX7_go (wsV RX7 213 RX2 yX2_add wsX2_add) := goodIn_app (goodIn_of _ (by decide +kernel)) ggX7_go_X2_add
set_option maxRecDepth 20000 in
theorem ggX7_go_X1_done : GoodIn wsX7_go wsX1_done := goodIn_r _ [90, 44, 106, 107, 108, 109, 110, 111] (by decide +kernel) (by decide +kernel)
set_option maxRecDepth 20000 in
theorem gX7_go_X1_done : GoodIn wsX7_go (wsV RX7 332 RX1 yX1_done wsX1_done) := goodIn_app (goodIn_of _ (by decide +kernel)) ggX7_go_X1_done
theorem dX7_go_0 : decode cX7_go 0 = .ok (.aload_n 0, 1) := by decide +kernel
theorem dX7_go_1 : decode cX7_go 1 = .ok (.getfield 81, 3) := by decide +kernel
theorem dX7_go_4 : decode cX7_go 4 = .ok (.invokevirtual 150, 3) := by decide +kernel
theorem dX7_go_7 : decode cX7_go 7 = .ok (.ifCond .eq 22, 3) := by decide +kernel
theorem dX7_go_10 : decode cX7_go 10 = .ok (.iload_n 1, 1) := by decide +kernel
theorem dX7_go_11 : decode cX7_go 11 = .ok (.iload_n 2, 1) := by decide +kernel
theorem dX7_go_12 : decode cX7_go 12 = .ok (.iload_n 3, 1) := by decide +kernel
theorem dX7_go_13 : decode cX7_go 13 = .ok (.iload 4, 2) := by decide +kernel
theorem dX7_go_15 : decode cX7_go 15 = .ok (.invokestatic 319, 3) := by decide +kernel
theorem dX7_go_18 : decode cX7_go 18 = .ok (.ifCond .eq 11, 3) := by decide +kernel
theorem dX7_go_21 : decode cX7_go 21 = .ok (.iload 5, 2) := by decide +kernel
theorem dX7_go_23 : decode cX7_go 23 = .ok (.invokestatic 197, 3) := by decide +kernel
theorem dX7_go_26 : decode cX7_go 26 = .ok (.ifCond .ne 5, 3) := by decide +kernel
theorem dX7_go_29 : decode cX7_go 29 = .ok (.iconst (-1), 1) := by decide +kernel
theorem dX7_go_30 : decode cX7_go 30 = .ok (.ireturn, 1) := by decide +kernel
theorem dX7_go_31 : decode cX7_go 31 = .ok (.aload_n 0, 1) := by decide +kernel
theorem dX7_go_32 : decode cX7_go 32 = .ok (.getfield 81, 3) := by decide +kernel
theorem dX7_go_35 : decode cX7_go 35 = .ok (.iload_n 1, 1) := by decide +kernel
theorem dX7_go_36 : decode cX7_go 36 = .ok (.iload_n 2, 1) := by decide +kernel
theorem dX7_go_37 : decode cX7_go 37 = .ok (.iload_n 3, 1) := by decide +kernel
theorem dX7_go_38 : decode cX7_go 38 = .ok (.iload 4, 2) := by decide +kernel
theorem dX7_go_40 : decode cX7_go 40 = .ok (.invokevirtual 322, 3) := by decide +kernel
theorem dX7_go_43 : decode cX7_go 43 = .ok (.aload_n 0, 1) := by decide +kernel
theorem dX7_go_44 : decode cX7_go 44 = .ok (.getfield 81, 3) := by decide +kernel
theorem dX7_go_47 : decode cX7_go 47 = .ok (.iload 5, 2) := by decide +kernel
theorem dX7_go_49 : decode cX7_go 49 = .ok (.invokevirtual 326, 3) := by decide +kernel
theorem dX7_go_52 : decode cX7_go 52 = .ok (.istore 6, 2) := by decide +kernel
theorem dX7_go_54 : decode cX7_go 54 = .ok (.aload_n 0, 1) := by decide +kernel
theorem dX7_go_55 : decode cX7_go 55 = .ok (.getfield 45, 3) := by decide +kernel
theorem dX7_go_58 : decode cX7_go 58 = .ok (.invokevirtual 208, 3) := by decide +kernel
theorem dX7_go_61 : decode cX7_go 61 = .ok (.iconst 0, 1) := by decide +kernel
theorem dX7_go_62 : decode cX7_go 62 = .ok (.istore 7, 2) := by decide +kernel
theorem dX7_go_64 : decode cX7_go 64 = .ok (.iload 7, 2) := by decide +kernel
theorem dX7_go_66 : decode cX7_go 66 = .ok (.iconst 4, 1) := by decide +kernel
theorem dX7_go_67 : decode cX7_go 67 = .ok (.if_icmp .ge 26, 3) := by decide +kernel
theorem dX7_go_70 : decode cX7_go 70 = .ok (.aload_n 0, 1) := by decide +kernel
theorem dX7_go_71 : decode cX7_go 71 = .ok (.getfield 45, 3) := by decide +kernel
theorem dX7_go_74 : decode cX7_go 74 = .ok (.aload_n 0, 1) := by decide +kernel
theorem dX7_go_75 : decode cX7_go 75 = .ok (.getfield 81, 3) := by decide +kernel
theorem dX7_go_78 : decode cX7_go 78 = .ok (.iload 7, 2) := by decide +kernel
theorem dX7_go_80 : decode cX7_go 80 = .ok (.invokevirtual 329, 3) := by decide +kernel
theorem dX7_go_83 : decode cX7_go 83 = .ok (.invokevirtual 213, 3) := by decide +kernel
theorem dX7_go_86 : decode cX7_go 86 = .ok (.pop, 1) := by decide +kernel
theorem dX7_go_87 : decode cX7_go 87 = .ok (.iinc 7 1, 3) := by decide +kernel
theorem dX7_go_90 : decode cX7_go 90 = .ok (.goto (-26), 3) := by decide +kernel
theorem dX7_go_93 : decode cX7_go 93 = .ok (.aload_n 0, 1) := by decide +kernel
theorem dX7_go_94 : decode cX7_go 94 = .ok (.getfield 45, 3) := by decide +kernel
theorem dX7_go_97 : decode cX7_go 97 = .ok (.aload_n 0, 1) := by decide +kernel
theorem dX7_go_98 : decode cX7_go 98 = .ok (.getfield 81, 3) := by decide +kernel
theorem dX7_go_101 : decode cX7_go 101 = .ok (.invokevirtual 332, 3) := by decide +kernel
theorem dX7_go_104 : decode cX7_go 104 = .ok (.i2l, 1) := by decide +kernel
theorem dX7_go_105 : decode cX7_go 105 = .ok (.invokevirtual 213, 3) := by decide +kernel
theorem dX7_go_108 : decode cX7_go 108 = .ok (.pop, 1) := by decide +kernel
theorem dX7_go_109 : decode cX7_go 109 = .ok (.iload 6, 2) := by decide +kernel
theorem dX7_go_111 : decode cX7_go 111 = .ok (.ireturn, 1) := by decide +kernel
set_option maxRecDepth 20000 in
theorem ggX7_made_X1_size : GoodIn wsX7_made wsX1_size := goodIn_r _ [8, 9, 10, 11, 12, 13, 14, 15, 105, 106, 107, 108, 109, 110, 111, 112] (by decide +kernel) (by decide +kernel)
set_option maxRecDepth 20000 in
theorem gX7_made_X1_size : GoodIn wsX7_made (wsV RX7 150 RX1 yX1_size wsX1_size) := goodIn_app (goodIn_of _ (by decide +kernel)) ggX7_made_X1_size
set_option maxRecDepth 20000 in
theorem ggX7_made_X1_fractionsNeeded : GoodIn wsX7_made wsX1_fractionsNeeded := goodIn_r _ [19, 20, 5, 6, 7, 8, 9, 10, 11, 12, 13, 14, 15, 21, 22, 23, 24, 25, 26, 27, 28, 29, 30, 31, 32, 33, 105, 106, 107, 108, 109, 110, 111, 112] (by decide +kernel) (by decide +kernel)
set_option maxRecDepth 20000 in
theorem gX7_made_X1_fractionsNeeded : GoodIn wsX7_made (wsV RX7 335 RX1 yX1_fractionsNeeded wsX1_fractionsNeeded) := goodIn_app (goodIn_of _ (by decide +kernel)) ggX7_made_X1_fractionsNeeded
set_option maxRecDepth 20000 in
theorem ggX7_made_X0_empty : GoodIn wsX7_made wsX0_empty := goodIn_r _ [38, 39, 113, 114, 115] (by decide +kernel) (by decide +kernel)
set_option maxRecDepth 20000 in
theorem gX7_made_X0_empty : GoodIn wsX7_made (wsV RX7 137 RX0 yX0_empty wsX0_empty) := goodIn_app (goodIn_of _ (by decide +kernel)) ggX7_made_X0_empty
set_option maxRecDepth 20000 in
theorem ggX7_made_X7_addFractionsOfAct : GoodIn wsX7_made wsX7_addFractionsOfAct := goodIn_ca (goodIn_r _ [44, 1, 2, 45, 46, 47, 7, 48, 49, 25, 26, 27, 13, 28, 29, 30, 31, 32, 33, 15, 50, 51, 43, 52, 53, 54, 55, 56, 57, 58, 59, 60, 61, 62, 63, 64, 65, 22, 23, 24, 9, 66, 67, 68, 69, 70, 71, 37, 72, 39, 73, 74, 75, 76, 77, 78, 79, 80, 81, 82, 83, 84, 85, 90, 91, 92, 93, 94, 95, 96, 97, 98, 99, 100, 101, 102, 103, 104, 105, 106, 107, 108, 109, 110, 111, 112, 113, 114, 115] (by decide +kernel) (by decide +kernel)) (goodIn_sub (fun _ h => List.mem_cons_of_mem _ (List.mem_append_right _ h)) (by decide +kernel))
set_option maxRecDepth 20000 in
theorem gX7_made_X7_addFractionsOfAct : GoodIn wsX7_made (wsV RX7 338 RX7 yX7_addFractionsOfAct wsX7_addFractionsOfAct) := goodIn_app (goodIn_of _ (by decide +kernel)) ggX7_made_X7_addFractionsOfAct
set_option maxRecDepth 20000 in
theorem ggX7_made_X7_goPrime : GoodIn wsX7_made wsX7_goPrime := goodIn_r _ [68, 53, 54, 43, 55, 56] (by decide +kernel) (by decide +kernel)
set_option maxRecDepth 20000 in
theorem gX7_made_X7_goPrime : GoodIn wsX7_made (va_wsS RX7 341 yX7_goPrime wsX7_goPrime) := goodIn_app (goodIn_of _ (by decide +kernel)) ggX7_made_X7_goPrime
set_option maxRecDepth 20000 in
theorem ggX7_made_X7_waitPrime : GoodIn wsX7_made wsX7_waitPrime := goodIn_r _ [52, 53, 54, 43, 55, 56] (by decide +kernel) (by decide +kernel)
set_option maxRecDepth 20000 in
theorem gX7_made_X7_waitPrime : GoodIn wsX7_made (va_wsS RX7 344 yX7_waitPrime wsX7_waitPrime) := goodIn_app (goodIn_of _ (by decide +kernel)) ggX7_made_X7_waitPrime
set_option maxRecDepth 20000 in
theorem ggX7_made_X0_add : GoodIn wsX7_made wsX0_add := goodIn_ca (goodIn_r _ [72, 39, 73, 74, 75, 43, 76, 77, 78, 79, 80, 113, 114, 115] (by decide +kernel) (by decide +kernel)) (goodIn_sub (fun _ h => List.mem_cons_of_mem _ (List.mem_append_right _ h)) (by decide +kernel))
set_option maxRecDepth 20000 in
theorem gX7_made_X0_add : GoodIn wsX7_made (wsV RX7 142 RX0 yX0_add wsX0_add) := goodIn_app (goodIn_of _ (by decide +kernel)) ggX7_made_X0_add
set_option maxRecDepth 20000 in
theorem ggX7_made_X0_size : GoodIn wsX7_made wsX0_size := goodIn_r _ [89, 39, 113, 114, 115] (by decide +kernel) (by decide +kernel)
set_option maxRecDepth 20000 in
theorem gX7_made_X0_size : GoodIn wsX7_made (wsV RX7 146 RX0 yX0_size wsX0_size) := goodIn_app (goodIn_of _ (by decide +kernel)) ggX7_made_X0_size
theorem dX7_made_0 : decode cX7_made 0 = .ok (.aload_n 0, 1) := by decide +kernel
theorem dX7_made_1 : decode cX7_made 1 = .ok (.getfield 81, 3) := by decide +kernel
theorem dX7_made_4 : decode cX7_made 4 = .ok (.invokevirtual 150, 3) := by decide +kernel
theorem dX7_made_7 : decode cX7_made 7 = .ok (.ifCond .eq 15, 3) := by decide +kernel
theorem dX7_made_10 : decode cX7_made 10 = .ok (.aload_n 0, 1) := by decide +kernel
theorem dX7_made_11 : decode cX7_made 11 = .ok (.getfield 81, 3) := by decide +kernel
theorem dX7_made_14 : decode cX7_made 14 = .ok (.invokevirtual 335, 3) := by decide +kernel
theorem dX7_made_17 : decode cX7_made 17 = .ok (.bipush 40, 2) := by decide +kernel
theorem dX7_made_19 : decode cX7_made 19 = .ok (.if_icmp .le 5, 3) := by decide +kernel
theorem dX7_made_22 : decode cX7_made 22 = .ok (.iconst (-1), 1) := by decide +kernel
theorem dX7_made_23 : decode cX7_made 23 = .ok (.ireturn, 1) := by decide +kernel
theorem dX7_made_24 : decode cX7_made 24 = .ok (.aload_n 0, 1) := by decide +kernel
theorem dX7_made_25 : decode cX7_made 25 = .ok (.getfield 29, 3) := by decide +kernel
theorem dX7_made_28 : decode cX7_made 28 = .ok (.invokevirtual 137, 3) := by decide +kernel
theorem dX7_made_31 : decode cX7_made 31 = .ok (.iconst 0, 1) := by decide +kernel
theorem dX7_made_32 : decode cX7_made 32 = .ok (.istore_n 1, 1) := by decide +kernel
theorem dX7_made_33 : decode cX7_made 33 = .ok (.iload_n 1, 1) := by decide +kernel
theorem dX7_made_34 : decode cX7_made 34 = .ok (.aload_n 0, 1) := by decide +kernel
theorem dX7_made_35 : decode cX7_made 35 = .ok (.getfield 81, 3) := by decide +kernel
theorem dX7_made_38 : decode cX7_made 38 = .ok (.invokevirtual 150, 3) := by decide +kernel
theorem dX7_made_41 : decode cX7_made 41 = .ok (.if_icmp .ge 14, 3) := by decide +kernel
theorem dX7_made_44 : decode cX7_made 44 = .ok (.aload_n 0, 1) := by decide +kernel
theorem dX7_made_45 : decode cX7_made 45 = .ok (.iload_n 1, 1) := by decide +kernel
theorem dX7_made_46 : decode cX7_made 46 = .ok (.invokevirtual 338, 3) := by decide +kernel
theorem dX7_made_49 : decode cX7_made 49 = .ok (.iinc 1 1, 3) := by decide +kernel
theorem dX7_made_52 : decode cX7_made 52 = .ok (.goto (-19), 3) := by decide +kernel
theorem dX7_made_55 : decode cX7_made 55 = .ok (.iconst 0, 1) := by decide +kernel
theorem dX7_made_56 : decode cX7_made 56 = .ok (.istore_n 1, 1) := by decide +kernel
theorem dX7_made_57 : decode cX7_made 57 = .ok (.iload_n 1, 1) := by decide +kernel
theorem dX7_made_58 : decode cX7_made 58 = .ok (.aload_n 0, 1) := by decide +kernel
theorem dX7_made_59 : decode cX7_made 59 = .ok (.getfield 81, 3) := by decide +kernel
theorem dX7_made_62 : decode cX7_made 62 = .ok (.invokevirtual 150, 3) := by decide +kernel
theorem dX7_made_65 : decode cX7_made 65 = .ok (.if_icmp .ge 25, 3) := by decide +kernel
theorem dX7_made_68 : decode cX7_made 68 = .ok (.aload_n 0, 1) := by decide +kernel
theorem dX7_made_69 : decode cX7_made 69 = .ok (.getfield 29, 3) := by decide +kernel
theorem dX7_made_72 : decode cX7_made 72 = .ok (.iload_n 1, 1) := by decide +kernel
theorem dX7_made_73 : decode cX7_made 73 = .ok (.invokestatic 341, 3) := by decide +kernel
theorem dX7_made_76 : decode cX7_made 76 = .ok (.iload_n 1, 1) := by decide +kernel
theorem dX7_made_77 : decode cX7_made 77 = .ok (.invokestatic 344, 3) := by decide +kernel
theorem dX7_made_80 : decode cX7_made 80 = .ok (.invokevirtual 142, 3) := by decide +kernel
theorem dX7_made_83 : decode cX7_made 83 = .ok (.pop, 1) := by decide +kernel
theorem dX7_made_84 : decode cX7_made 84 = .ok (.iinc 1 1, 3) := by decide +kernel
theorem dX7_made_87 : decode cX7_made 87 = .ok (.goto (-30), 3) := by decide +kernel
theorem dX7_made_90 : decode cX7_made 90 = .ok (.aload_n 0, 1) := by decide +kernel
theorem dX7_made_91 : decode cX7_made 91 = .ok (.iconst 2, 1) := by decide +kernel
theorem dX7_made_92 : decode cX7_made 92 = .ok (.putfield 9, 3) := by decide +kernel
theorem dX7_made_95 : decode cX7_made 95 = .ok (.aload_n 0, 1) := by decide +kernel
theorem dX7_made_96 : decode cX7_made 96 = .ok (.getfield 29, 3) := by decide +kernel
theorem dX7_made_99 : decode cX7_made 99 = .ok (.invokevirtual 146, 3) := by decide +kernel
theorem dX7_made_102 : decode cX7_made 102 = .ok (.ireturn, 1) := by decide +kernel
set_option maxRecDepth 20000 in
theorem ggX7_begins_X7_areHeaps : GoodIn wsX7_begins wsX7_areHeaps := goodIn_r _ [8, 9, 10, 7, 11] (by decide +kernel) (by decide +kernel)
set_option maxRecDepth 20000 in
theorem gX7_begins_X7_areHeaps : GoodIn wsX7_begins (va_wsS RX7 319 yX7_areHeaps wsX7_areHeaps) := goodIn_app (goodIn_of _ (by decide +kernel)) ggX7_begins_X7_areHeaps
set_option maxRecDepth 20000 in
theorem ggX7_begins_X7_goPrime : GoodIn wsX7_begins wsX7_goPrime := goodIn_r _ [14, 15, 16, 7, 17, 18] (by decide +kernel) (by decide +kernel)
set_option maxRecDepth 20000 in
theorem gX7_begins_X7_goPrime : GoodIn wsX7_begins (va_wsS RX7 341 yX7_goPrime wsX7_goPrime) := goodIn_app (goodIn_of _ (by decide +kernel)) ggX7_begins_X7_goPrime
set_option maxRecDepth 20000 in
theorem ggX7_begins_X7_heapPrime : GoodIn wsX7_begins wsX7_heapPrime := goodIn_r _ [21, 15, 16, 7, 17, 18] (by decide +kernel) (by decide +kernel)
set_option maxRecDepth 20000 in
theorem gX7_begins_X7_heapPrime : GoodIn wsX7_begins (va_wsS RX7 352 yX7_heapPrime wsX7_heapPrime) := goodIn_app (goodIn_of _ (by decide +kernel)) ggX7_begins_X7_heapPrime
set_option maxRecDepth 20000 in
theorem ggX7_begins_X7_timesPower : GoodIn wsX7_begins wsX7_timesPower := goodIn_r _ [24, 25, 26, 27, 7, 28, 29, 30] (by decide +kernel) (by decide +kernel)
set_option maxRecDepth 20000 in
theorem gX7_begins_X7_timesPower : GoodIn wsX7_begins (va_wsS RX7 355 yX7_timesPower wsX7_timesPower) := goodIn_app (goodIn_of _ (by decide +kernel)) ggX7_begins_X7_timesPower
set_option maxRecDepth 20000 in
theorem ggX7_begins_X7_isNumber : GoodIn wsX7_begins wsX7_isNumber := goodIn_r _ [28, 29, 30] (by decide +kernel) (by decide +kernel)
set_option maxRecDepth 20000 in
theorem gX7_begins_X7_isNumber : GoodIn wsX7_begins (va_wsS RX7 178 yX7_isNumber wsX7_isNumber) := goodIn_app (goodIn_of _ (by decide +kernel)) ggX7_begins_X7_isNumber
theorem dX7_begins_0 : decode cX7_begins 0 = .ok (.iload_n 1, 1) := by decide +kernel
theorem dX7_begins_1 : decode cX7_begins 1 = .ok (.iload_n 2, 1) := by decide +kernel
theorem dX7_begins_2 : decode cX7_begins 2 = .ok (.iload_n 3, 1) := by decide +kernel
theorem dX7_begins_3 : decode cX7_begins 3 = .ok (.iload 4, 2) := by decide +kernel
theorem dX7_begins_5 : decode cX7_begins 5 = .ok (.invokestatic 319, 3) := by decide +kernel
theorem dX7_begins_8 : decode cX7_begins 8 = .ok (.ifCond .ne 14, 3) := by decide +kernel
theorem dX7_begins_11 : decode cX7_begins 11 = .ok (.new 347, 3) := by decide +kernel
theorem dX7_begins_14 : decode cX7_begins 14 = .ok (.dup, 1) := by decide +kernel
theorem dX7_begins_15 : decode cX7_begins 15 = .ok (.ldc_w 349, 3) := by decide +kernel
theorem dX7_begins_18 : decode cX7_begins 18 = .ok (.invokespecial 351, 3) := by decide +kernel
theorem dX7_begins_21 : decode cX7_begins 21 = .ok (.athrow, 1) := by decide +kernel
theorem dX7_begins_22 : decode cX7_begins 22 = .ok (.iconst 0, 1) := by decide +kernel
theorem dX7_begins_23 : decode cX7_begins 23 = .ok (.invokestatic 341, 3) := by decide +kernel
theorem dX7_begins_26 : decode cX7_begins 26 = .ok (.iconst 0, 1) := by decide +kernel
theorem dX7_begins_27 : decode cX7_begins 27 = .ok (.invokestatic 352, 3) := by decide +kernel
theorem dX7_begins_30 : decode cX7_begins 30 = .ok (.iload_n 1, 1) := by decide +kernel
theorem dX7_begins_31 : decode cX7_begins 31 = .ok (.invokestatic 355, 3) := by decide +kernel
theorem dX7_begins_34 : decode cX7_begins 34 = .ok (.lstore 5, 2) := by decide +kernel
theorem dX7_begins_36 : decode cX7_begins 36 = .ok (.lload 5, 2) := by decide +kernel
theorem dX7_begins_38 : decode cX7_begins 38 = .ok (.iconst 1, 1) := by decide +kernel
theorem dX7_begins_39 : decode cX7_begins 39 = .ok (.invokestatic 352, 3) := by decide +kernel
theorem dX7_begins_42 : decode cX7_begins 42 = .ok (.iload_n 2, 1) := by decide +kernel
theorem dX7_begins_43 : decode cX7_begins 43 = .ok (.invokestatic 355, 3) := by decide +kernel
theorem dX7_begins_46 : decode cX7_begins 46 = .ok (.lstore 5, 2) := by decide +kernel
theorem dX7_begins_48 : decode cX7_begins 48 = .ok (.lload 5, 2) := by decide +kernel
theorem dX7_begins_50 : decode cX7_begins 50 = .ok (.iconst 2, 1) := by decide +kernel
theorem dX7_begins_51 : decode cX7_begins 51 = .ok (.invokestatic 352, 3) := by decide +kernel
theorem dX7_begins_54 : decode cX7_begins 54 = .ok (.iload_n 3, 1) := by decide +kernel
theorem dX7_begins_55 : decode cX7_begins 55 = .ok (.invokestatic 355, 3) := by decide +kernel
theorem dX7_begins_58 : decode cX7_begins 58 = .ok (.lstore 5, 2) := by decide +kernel
theorem dX7_begins_60 : decode cX7_begins 60 = .ok (.lload 5, 2) := by decide +kernel
theorem dX7_begins_62 : decode cX7_begins 62 = .ok (.iconst 3, 1) := by decide +kernel
theorem dX7_begins_63 : decode cX7_begins 63 = .ok (.invokestatic 352, 3) := by decide +kernel
theorem dX7_begins_66 : decode cX7_begins 66 = .ok (.iload 4, 2) := by decide +kernel
theorem dX7_begins_68 : decode cX7_begins 68 = .ok (.invokestatic 355, 3) := by decide +kernel
theorem dX7_begins_71 : decode cX7_begins 71 = .ok (.lstore 5, 2) := by decide +kernel
theorem dX7_begins_73 : decode cX7_begins 73 = .ok (.lload 5, 2) := by decide +kernel
theorem dX7_begins_75 : decode cX7_begins 75 = .ok (.invokestatic 178, 3) := by decide +kernel
theorem dX7_begins_78 : decode cX7_begins 78 = .ok (.ifCond .ne 13, 3) := by decide +kernel
theorem dX7_begins_81 : decode cX7_begins 81 = .ok (.new 192, 3) := by decide +kernel
theorem dX7_begins_84 : decode cX7_begins 84 = .ok (.dup, 1) := by decide +kernel
theorem dX7_begins_85 : decode cX7_begins 85 = .ok (.ldc 194, 2) := by decide +kernel
theorem dX7_begins_87 : decode cX7_begins 87 = .ok (.invokespecial 196, 3) := by decide +kernel
theorem dX7_begins_90 : decode cX7_begins 90 = .ok (.athrow, 1) := by decide +kernel
theorem dX7_begins_91 : decode cX7_begins 91 = .ok (.lload 5, 2) := by decide +kernel
theorem dX7_begins_93 : decode cX7_begins 93 = .ok (.lreturn, 1) := by decide +kernel
set_option maxRecDepth 20000 in
theorem ggX7_law_X0_size : GoodIn wsX7_law wsX0_size := goodIn_r _ [7, 8, 63, 64, 65] (by decide +kernel) (by decide +kernel)
set_option maxRecDepth 20000 in
theorem gX7_law_X0_size : GoodIn wsX7_law (wsV RX7 146 RX0 yX0_size wsX0_size) := goodIn_app (goodIn_of _ (by decide +kernel)) ggX7_law_X0_size
set_option maxRecDepth 20000 in
theorem ggX7_law_X0_isEverFirst : GoodIn wsX7_law wsX0_isEverFirst := goodIn_ca (goodIn_r _ [12, 13, 14, 15, 6, 16, 17, 18, 19, 20, 21, 8, 22, 23, 24, 25, 63, 64, 65] (by decide +kernel) (by decide +kernel)) (goodIn_sub (fun _ h => List.mem_cons_of_mem _ (List.mem_append_right _ h)) (by decide +kernel))
set_option maxRecDepth 20000 in
theorem gX7_law_X0_isEverFirst : GoodIn wsX7_law (wsV RX7 359 RX0 yX0_isEverFirst wsX0_isEverFirst) := goodIn_app (goodIn_of _ (by decide +kernel)) ggX7_law_X0_isEverFirst
set_option maxRecDepth 20000 in
theorem ggX7_law_X0_over : GoodIn wsX7_law wsX0_over := goodIn_r _ [29, 30, 18, 19, 20, 6, 21, 8, 63, 64, 65] (by decide +kernel) (by decide +kernel)
set_option maxRecDepth 20000 in
theorem gX7_law_X0_over : GoodIn wsX7_law (wsV RX7 159 RX0 yX0_over wsX0_over) := goodIn_app (goodIn_of _ (by decide +kernel)) ggX7_law_X0_over
set_option maxRecDepth 20000 in
theorem ggX7_law_X7_weight : GoodIn wsX7_law wsX7_weight := goodIn_ca (goodIn_r _ [34, 35, 36, 37, 38, 33, 39, 40, 41, 42, 43, 44, 45, 46] (by decide +kernel) (by decide +kernel)) (goodIn_sub (fun _ h => List.mem_cons_of_mem _ (List.mem_append_right _ h)) (by decide +kernel))
set_option maxRecDepth 20000 in
theorem gX7_law_X7_weight : GoodIn wsX7_law (va_wsS RX7 362 yX7_weight wsX7_weight) := goodIn_app (goodIn_of _ (by decide +kernel)) ggX7_law_X7_weight
set_option maxRecDepth 20000 in
theorem ggX7_law_X0_under : GoodIn wsX7_law wsX0_under := goodIn_r _ [16, 17, 18, 19, 20, 6, 21, 8, 63, 64, 65] (by decide +kernel) (by decide +kernel)
set_option maxRecDepth 20000 in
theorem gX7_law_X0_under : GoodIn wsX7_law (wsV RX7 162 RX0 yX0_under wsX0_under) := goodIn_app (goodIn_of _ (by decide +kernel)) ggX7_law_X0_under
theorem dX7_law_0 : decode cX7_law 0 = .ok (.aload_n 0, 1) := by decide +kernel
theorem dX7_law_1 : decode cX7_law 1 = .ok (.getfield 9, 3) := by decide +kernel
theorem dX7_law_4 : decode cX7_law 4 = .ok (.iconst 2, 1) := by decide +kernel
theorem dX7_law_5 : decode cX7_law 5 = .ok (.if_icmp .eq 6, 3) := by decide +kernel
theorem dX7_law_8 : decode cX7_law 8 = .ok (.bipush (-2), 2) := by decide +kernel
theorem dX7_law_10 : decode cX7_law 10 = .ok (.ireturn, 1) := by decide +kernel
theorem dX7_law_11 : decode cX7_law 11 = .ok (.iconst 0, 1) := by decide +kernel
theorem dX7_law_12 : decode cX7_law 12 = .ok (.istore 6, 2) := by decide +kernel
theorem dX7_law_14 : decode cX7_law 14 = .ok (.iload 6, 2) := by decide +kernel
theorem dX7_law_16 : decode cX7_law 16 = .ok (.aload_n 0, 1) := by decide +kernel
theorem dX7_law_17 : decode cX7_law 17 = .ok (.getfield 29, 3) := by decide +kernel
theorem dX7_law_20 : decode cX7_law 20 = .ok (.invokevirtual 146, 3) := by decide +kernel
theorem dX7_law_23 : decode cX7_law 23 = .ok (.if_icmp .ge 66, 3) := by decide +kernel
theorem dX7_law_26 : decode cX7_law 26 = .ok (.aload_n 0, 1) := by decide +kernel
theorem dX7_law_27 : decode cX7_law 27 = .ok (.getfield 29, 3) := by decide +kernel
theorem dX7_law_30 : decode cX7_law 30 = .ok (.iload 6, 2) := by decide +kernel
theorem dX7_law_32 : decode cX7_law 32 = .ok (.invokevirtual 359, 3) := by decide +kernel
theorem dX7_law_35 : decode cX7_law 35 = .ok (.ifCond .eq 48, 3) := by decide +kernel
theorem dX7_law_38 : decode cX7_law 38 = .ok (.aload_n 0, 1) := by decide +kernel
theorem dX7_law_39 : decode cX7_law 39 = .ok (.getfield 29, 3) := by decide +kernel
theorem dX7_law_42 : decode cX7_law 42 = .ok (.iload 6, 2) := by decide +kernel
theorem dX7_law_44 : decode cX7_law 44 = .ok (.invokevirtual 159, 3) := by decide +kernel
theorem dX7_law_47 : decode cX7_law 47 = .ok (.iload_n 1, 1) := by decide +kernel
theorem dX7_law_48 : decode cX7_law 48 = .ok (.iload_n 2, 1) := by decide +kernel
theorem dX7_law_49 : decode cX7_law 49 = .ok (.iload_n 3, 1) := by decide +kernel
theorem dX7_law_50 : decode cX7_law 50 = .ok (.iload 4, 2) := by decide +kernel
theorem dX7_law_52 : decode cX7_law 52 = .ok (.iload 5, 2) := by decide +kernel
theorem dX7_law_54 : decode cX7_law 54 = .ok (.invokestatic 362, 3) := by decide +kernel
theorem dX7_law_57 : decode cX7_law 57 = .ok (.aload_n 0, 1) := by decide +kernel
theorem dX7_law_58 : decode cX7_law 58 = .ok (.getfield 29, 3) := by decide +kernel
theorem dX7_law_61 : decode cX7_law 61 = .ok (.iload 6, 2) := by decide +kernel
theorem dX7_law_63 : decode cX7_law 63 = .ok (.invokevirtual 162, 3) := by decide +kernel
theorem dX7_law_66 : decode cX7_law 66 = .ok (.iload_n 1, 1) := by decide +kernel
theorem dX7_law_67 : decode cX7_law 67 = .ok (.iload_n 2, 1) := by decide +kernel
theorem dX7_law_68 : decode cX7_law 68 = .ok (.iload_n 3, 1) := by decide +kernel
theorem dX7_law_69 : decode cX7_law 69 = .ok (.iload 4, 2) := by decide +kernel
theorem dX7_law_71 : decode cX7_law 71 = .ok (.iload 5, 2) := by decide +kernel
theorem dX7_law_73 : decode cX7_law 73 = .ok (.invokestatic 362, 3) := by decide +kernel
theorem dX7_law_76 : decode cX7_law 76 = .ok (.lcmp, 1) := by decide +kernel
theorem dX7_law_77 : decode cX7_law 77 = .ok (.ifCond .eq 6, 3) := by decide +kernel
theorem dX7_law_80 : decode cX7_law 80 = .ok (.iload 6, 2) := by decide +kernel
theorem dX7_law_82 : decode cX7_law 82 = .ok (.ireturn, 1) := by decide +kernel
theorem dX7_law_83 : decode cX7_law 83 = .ok (.iinc 6 1, 3) := by decide +kernel
theorem dX7_law_86 : decode cX7_law 86 = .ok (.goto (-72), 3) := by decide +kernel
theorem dX7_law_89 : decode cX7_law 89 = .ok (.iconst (-1), 1) := by decide +kernel
theorem dX7_law_90 : decode cX7_law 90 = .ok (.ireturn, 1) := by decide +kernel
set_option maxRecDepth 20000 in
theorem ggX7_row_X2_has : GoodIn wsX7_row wsX2_has := goodIn_r _ [8, 9, 10, 31, 32] (by decide +kernel) (by decide +kernel)
set_option maxRecDepth 20000 in
theorem gX7_row_X2_has : GoodIn wsX7_row (wsV RX7 366 RX2 yX2_has wsX2_has) := goodIn_app (goodIn_of _ (by decide +kernel)) ggX7_row_X2_has
set_option maxRecDepth 20000 in
theorem ggX7_row_X2_at : GoodIn wsX7_row wsX2_at := goodIn_r _ [14, 10, 15, 5, 6, 7, 8, 9, 31, 32] (by decide +kernel) (by decide +kernel)
set_option maxRecDepth 20000 in
theorem gX7_row_X2_at : GoodIn wsX7_row (wsV RX7 369 RX2 yX2_at wsX2_at) := goodIn_app (goodIn_of _ (by decide +kernel)) ggX7_row_X2_at
theorem dX7_row_0 : decode cX7_row 0 = .ok (.aload_n 0, 1) := by decide +kernel
theorem dX7_row_1 : decode cX7_row 1 = .ok (.getfield 45, 3) := by decide +kernel
theorem dX7_row_4 : decode cX7_row 4 = .ok (.iload_n 1, 1) := by decide +kernel
theorem dX7_row_5 : decode cX7_row 5 = .ok (.invokevirtual 366, 3) := by decide +kernel
theorem dX7_row_8 : decode cX7_row 8 = .ok (.ifCond .ne 14, 3) := by decide +kernel
theorem dX7_row_11 : decode cX7_row 11 = .ok (.new 165, 3) := by decide +kernel
theorem dX7_row_14 : decode cX7_row 14 = .ok (.dup, 1) := by decide +kernel
theorem dX7_row_15 : decode cX7_row 15 = .ok (.ldc_w 367, 3) := by decide +kernel
theorem dX7_row_18 : decode cX7_row 18 = .ok (.invokespecial 169, 3) := by decide +kernel
theorem dX7_row_21 : decode cX7_row 21 = .ok (.athrow, 1) := by decide +kernel
theorem dX7_row_22 : decode cX7_row 22 = .ok (.aload_n 0, 1) := by decide +kernel
theorem dX7_row_23 : decode cX7_row 23 = .ok (.getfield 45, 3) := by decide +kernel
theorem dX7_row_26 : decode cX7_row 26 = .ok (.iload_n 1, 1) := by decide +kernel
theorem dX7_row_27 : decode cX7_row 27 = .ok (.invokevirtual 369, 3) := by decide +kernel
theorem dX7_row_30 : decode cX7_row 30 = .ok (.lreturn, 1) := by decide +kernel
theorem dX7_isNumber_0 : decode cX7_isNumber 0 = .ok (.lload_n 0, 1) := by decide +kernel
theorem dX7_isNumber_1 : decode cX7_isNumber 1 = .ok (.ldc2_w 372, 3) := by decide +kernel
theorem dX7_isNumber_4 : decode cX7_isNumber 4 = .ok (.lcmp, 1) := by decide +kernel
theorem dX7_isNumber_5 : decode cX7_isNumber 5 = .ok (.ifCond .lt 15, 3) := by decide +kernel
theorem dX7_isNumber_8 : decode cX7_isNumber 8 = .ok (.lload_n 0, 1) := by decide +kernel
theorem dX7_isNumber_9 : decode cX7_isNumber 9 = .ok (.ldc2_w 374, 3) := by decide +kernel
theorem dX7_isNumber_12 : decode cX7_isNumber 12 = .ok (.lcmp, 1) := by decide +kernel
theorem dX7_isNumber_13 : decode cX7_isNumber 13 = .ok (.ifCond .gt 7, 3) := by decide +kernel
theorem dX7_isNumber_16 : decode cX7_isNumber 16 = .ok (.iconst 1, 1) := by decide +kernel
theorem dX7_isNumber_17 : decode cX7_isNumber 17 = .ok (.goto 4, 3) := by decide +kernel
theorem dX7_isNumber_20 : decode cX7_isNumber 20 = .ok (.iconst 0, 1) := by decide +kernel
theorem dX7_isNumber_21 : decode cX7_isNumber 21 = .ok (.ireturn, 1) := by decide +kernel
theorem dX7_isStepCount_0 : decode cX7_isStepCount 0 = .ok (.iload_n 0, 1) := by decide +kernel
theorem dX7_isStepCount_1 : decode cX7_isStepCount 1 = .ok (.ifCond .lt 14, 3) := by decide +kernel
theorem dX7_isStepCount_4 : decode cX7_isStepCount 4 = .ok (.iload_n 0, 1) := by decide +kernel
theorem dX7_isStepCount_5 : decode cX7_isStepCount 5 = .ok (.ldc_w 281, 3) := by decide +kernel
theorem dX7_isStepCount_8 : decode cX7_isStepCount 8 = .ok (.if_icmp .gt 7, 3) := by decide +kernel
theorem dX7_isStepCount_11 : decode cX7_isStepCount 11 = .ok (.iconst 1, 1) := by decide +kernel
theorem dX7_isStepCount_12 : decode cX7_isStepCount 12 = .ok (.goto 4, 3) := by decide +kernel
theorem dX7_isStepCount_15 : decode cX7_isStepCount 15 = .ok (.iconst 0, 1) := by decide +kernel
theorem dX7_isStepCount_16 : decode cX7_isStepCount 16 = .ok (.ireturn, 1) := by decide +kernel
theorem dX7_isActNumber_0 : decode cX7_isActNumber 0 = .ok (.iload_n 0, 1) := by decide +kernel
theorem dX7_isActNumber_1 : decode cX7_isActNumber 1 = .ok (.ifCond .lt 13, 3) := by decide +kernel
theorem dX7_isActNumber_4 : decode cX7_isActNumber 4 = .ok (.iload_n 0, 1) := by decide +kernel
theorem dX7_isActNumber_5 : decode cX7_isActNumber 5 = .ok (.bipush 12, 2) := by decide +kernel
theorem dX7_isActNumber_7 : decode cX7_isActNumber 7 = .ok (.if_icmp .ge 7, 3) := by decide +kernel
theorem dX7_isActNumber_10 : decode cX7_isActNumber 10 = .ok (.iconst 1, 1) := by decide +kernel
theorem dX7_isActNumber_11 : decode cX7_isActNumber 11 = .ok (.goto 4, 3) := by decide +kernel
theorem dX7_isActNumber_14 : decode cX7_isActNumber 14 = .ok (.iconst 0, 1) := by decide +kernel
theorem dX7_isActNumber_15 : decode cX7_isActNumber 15 = .ok (.ireturn, 1) := by decide +kernel
set_option maxRecDepth 20000 in
theorem ggX7_areHeaps_X7_isHeap : GoodIn wsX7_areHeaps wsX7_isHeap := goodIn_r _ [4] (by decide +kernel) (by decide +kernel)
set_option maxRecDepth 20000 in
theorem gX7_areHeaps_X7_isHeap : GoodIn wsX7_areHeaps (va_wsS RX7 376 yX7_isHeap wsX7_isHeap) := goodIn_app (goodIn_of _ (by decide +kernel)) ggX7_areHeaps_X7_isHeap
theorem dX7_areHeaps_0 : decode cX7_areHeaps 0 = .ok (.iload_n 0, 1) := by decide +kernel
