theorem dX8_shaped_29 : decode cX8_shaped 29 = .ok (.iaload, 1) := by decide +kernel
theorem dX8_shaped_30 : decode cX8_shaped 30 = .ok (.imul, 1) := by decide +kernel
theorem dX8_shaped_31 : decode cX8_shaped 31 = .ok (.laload, 1) := by decide +kernel
theorem dX8_shaped_32 : decode cX8_shaped 32 = .ok (.lstore 4, 2) := by decide +kernel
theorem dX8_shaped_34 : decode cX8_shaped 34 = .ok (.aload_n 0, 1) := by decide +kernel
theorem dX8_shaped_35 : decode cX8_shaped 35 = .ok (.getfield 20, 3) := by decide +kernel
theorem dX8_shaped_38 : decode cX8_shaped 38 = .ok (.iconst 3, 1) := by decide +kernel
theorem dX8_shaped_39 : decode cX8_shaped 39 = .ok (.aload_n 1, 1) := by decide +kernel
theorem dX8_shaped_40 : decode cX8_shaped 40 = .ok (.iload_n 3, 1) := by decide +kernel
theorem dX8_shaped_41 : decode cX8_shaped 41 = .ok (.iaload, 1) := by decide +kernel
theorem dX8_shaped_42 : decode cX8_shaped 42 = .ok (.imul, 1) := by decide +kernel
theorem dX8_shaped_43 : decode cX8_shaped 43 = .ok (.iconst 1, 1) := by decide +kernel
theorem dX8_shaped_44 : decode cX8_shaped 44 = .ok (.iadd, 1) := by decide +kernel
theorem dX8_shaped_45 : decode cX8_shaped 45 = .ok (.laload, 1) := by decide +kernel
theorem dX8_shaped_46 : decode cX8_shaped 46 = .ok (.lstore 6, 2) := by decide +kernel
theorem dX8_shaped_48 : decode cX8_shaped 48 = .ok (.aload_n 0, 1) := by decide +kernel
theorem dX8_shaped_49 : decode cX8_shaped 49 = .ok (.getfield 20, 3) := by decide +kernel
theorem dX8_shaped_52 : decode cX8_shaped 52 = .ok (.iconst 3, 1) := by decide +kernel
theorem dX8_shaped_53 : decode cX8_shaped 53 = .ok (.aload_n 1, 1) := by decide +kernel
theorem dX8_shaped_54 : decode cX8_shaped 54 = .ok (.iload_n 3, 1) := by decide +kernel
theorem dX8_shaped_55 : decode cX8_shaped 55 = .ok (.iaload, 1) := by decide +kernel
theorem dX8_shaped_56 : decode cX8_shaped 56 = .ok (.imul, 1) := by decide +kernel
theorem dX8_shaped_57 : decode cX8_shaped 57 = .ok (.iconst 2, 1) := by decide +kernel
theorem dX8_shaped_58 : decode cX8_shaped 58 = .ok (.iadd, 1) := by decide +kernel
theorem dX8_shaped_59 : decode cX8_shaped 59 = .ok (.laload, 1) := by decide +kernel
theorem dX8_shaped_60 : decode cX8_shaped 60 = .ok (.lstore 8, 2) := by decide +kernel
theorem dX8_shaped_62 : decode cX8_shaped 62 = .ok (.aload_n 0, 1) := by decide +kernel
theorem dX8_shaped_63 : decode cX8_shaped 63 = .ok (.lload 4, 2) := by decide +kernel
theorem dX8_shaped_65 : decode cX8_shaped 65 = .ok (.aload_n 0, 1) := by decide +kernel
theorem dX8_shaped_66 : decode cX8_shaped 66 = .ok (.getfield 173, 3) := by decide +kernel
theorem dX8_shaped_69 : decode cX8_shaped 69 = .ok (.lmul, 1) := by decide +kernel
theorem dX8_shaped_70 : decode cX8_shaped 70 = .ok (.lload 6, 2) := by decide +kernel
theorem dX8_shaped_72 : decode cX8_shaped 72 = .ok (.aload_n 0, 1) := by decide +kernel
theorem dX8_shaped_73 : decode cX8_shaped 73 = .ok (.getfield 176, 3) := by decide +kernel
theorem dX8_shaped_76 : decode cX8_shaped 76 = .ok (.lmul, 1) := by decide +kernel
theorem dX8_shaped_77 : decode cX8_shaped 77 = .ok (.ladd, 1) := by decide +kernel
theorem dX8_shaped_78 : decode cX8_shaped 78 = .ok (.putfield 173, 3) := by decide +kernel
theorem dX8_shaped_81 : decode cX8_shaped 81 = .ok (.aload_n 0, 1) := by decide +kernel
theorem dX8_shaped_82 : decode cX8_shaped 82 = .ok (.lload 4, 2) := by decide +kernel
theorem dX8_shaped_84 : decode cX8_shaped 84 = .ok (.aload_n 0, 1) := by decide +kernel
theorem dX8_shaped_85 : decode cX8_shaped 85 = .ok (.getfield 170, 3) := by decide +kernel
theorem dX8_shaped_88 : decode cX8_shaped 88 = .ok (.lmul, 1) := by decide +kernel
theorem dX8_shaped_89 : decode cX8_shaped 89 = .ok (.putfield 170, 3) := by decide +kernel
theorem dX8_shaped_92 : decode cX8_shaped 92 = .ok (.aload_n 0, 1) := by decide +kernel
theorem dX8_shaped_93 : decode cX8_shaped 93 = .ok (.lload 8, 2) := by decide +kernel
theorem dX8_shaped_95 : decode cX8_shaped 95 = .ok (.aload_n 0, 1) := by decide +kernel
theorem dX8_shaped_96 : decode cX8_shaped 96 = .ok (.getfield 176, 3) := by decide +kernel
theorem dX8_shaped_99 : decode cX8_shaped 99 = .ok (.lmul, 1) := by decide +kernel
theorem dX8_shaped_100 : decode cX8_shaped 100 = .ok (.putfield 176, 3) := by decide +kernel
theorem dX8_shaped_103 : decode cX8_shaped 103 = .ok (.aload_n 0, 1) := by decide +kernel
theorem dX8_shaped_104 : decode cX8_shaped 104 = .ok (.getfield 170, 3) := by decide +kernel
theorem dX8_shaped_107 : decode cX8_shaped 107 = .ok (.aload_n 0, 1) := by decide +kernel
theorem dX8_shaped_108 : decode cX8_shaped 108 = .ok (.getfield 173, 3) := by decide +kernel
theorem dX8_shaped_111 : decode cX8_shaped 111 = .ok (.invokestatic 114, 3) := by decide +kernel
theorem dX8_shaped_114 : decode cX8_shaped 114 = .ok (.aload_n 0, 1) := by decide +kernel
theorem dX8_shaped_115 : decode cX8_shaped 115 = .ok (.getfield 176, 3) := by decide +kernel
theorem dX8_shaped_118 : decode cX8_shaped 118 = .ok (.invokestatic 114, 3) := by decide +kernel
theorem dX8_shaped_121 : decode cX8_shaped 121 = .ok (.lstore 10, 2) := by decide +kernel
theorem dX8_shaped_123 : decode cX8_shaped 123 = .ok (.aload_n 0, 1) := by decide +kernel
theorem dX8_shaped_124 : decode cX8_shaped 124 = .ok (.dup, 1) := by decide +kernel
theorem dX8_shaped_125 : decode cX8_shaped 125 = .ok (.getfield 170, 3) := by decide +kernel
theorem dX8_shaped_128 : decode cX8_shaped 128 = .ok (.lload 10, 2) := by decide +kernel
theorem dX8_shaped_130 : decode cX8_shaped 130 = .ok (.ldiv, 1) := by decide +kernel
theorem dX8_shaped_131 : decode cX8_shaped 131 = .ok (.putfield 170, 3) := by decide +kernel
theorem dX8_shaped_134 : decode cX8_shaped 134 = .ok (.aload_n 0, 1) := by decide +kernel
theorem dX8_shaped_135 : decode cX8_shaped 135 = .ok (.dup, 1) := by decide +kernel
theorem dX8_shaped_136 : decode cX8_shaped 136 = .ok (.getfield 173, 3) := by decide +kernel
theorem dX8_shaped_139 : decode cX8_shaped 139 = .ok (.lload 10, 2) := by decide +kernel
theorem dX8_shaped_141 : decode cX8_shaped 141 = .ok (.ldiv, 1) := by decide +kernel
theorem dX8_shaped_142 : decode cX8_shaped 142 = .ok (.putfield 173, 3) := by decide +kernel
theorem dX8_shaped_145 : decode cX8_shaped 145 = .ok (.aload_n 0, 1) := by decide +kernel
theorem dX8_shaped_146 : decode cX8_shaped 146 = .ok (.dup, 1) := by decide +kernel
theorem dX8_shaped_147 : decode cX8_shaped 147 = .ok (.getfield 176, 3) := by decide +kernel
theorem dX8_shaped_150 : decode cX8_shaped 150 = .ok (.lload 10, 2) := by decide +kernel
theorem dX8_shaped_152 : decode cX8_shaped 152 = .ok (.ldiv, 1) := by decide +kernel
theorem dX8_shaped_153 : decode cX8_shaped 153 = .ok (.putfield 176, 3) := by decide +kernel
theorem dX8_shaped_156 : decode cX8_shaped 156 = .ok (.aload_n 0, 1) := by decide +kernel
theorem dX8_shaped_157 : decode cX8_shaped 157 = .ok (.getfield 170, 3) := by decide +kernel
theorem dX8_shaped_160 : decode cX8_shaped 160 = .ok (.invokestatic 150, 3) := by decide +kernel
theorem dX8_shaped_163 : decode cX8_shaped 163 = .ok (.ifCond .eq 23, 3) := by decide +kernel
theorem dX8_shaped_166 : decode cX8_shaped 166 = .ok (.aload_n 0, 1) := by decide +kernel
theorem dX8_shaped_167 : decode cX8_shaped 167 = .ok (.getfield 173, 3) := by decide +kernel
theorem dX8_shaped_170 : decode cX8_shaped 170 = .ok (.invokestatic 150, 3) := by decide +kernel
theorem dX8_shaped_173 : decode cX8_shaped 173 = .ok (.ifCond .eq 13, 3) := by decide +kernel
theorem dX8_shaped_176 : decode cX8_shaped 176 = .ok (.aload_n 0, 1) := by decide +kernel
theorem dX8_shaped_177 : decode cX8_shaped 177 = .ok (.getfield 176, 3) := by decide +kernel
theorem dX8_shaped_180 : decode cX8_shaped 180 = .ok (.invokestatic 150, 3) := by decide +kernel
theorem dX8_shaped_183 : decode cX8_shaped 183 = .ok (.ifCond .ne 5, 3) := by decide +kernel
theorem dX8_shaped_186 : decode cX8_shaped 186 = .ok (.iconst 0, 1) := by decide +kernel
theorem dX8_shaped_187 : decode cX8_shaped 187 = .ok (.ireturn, 1) := by decide +kernel
theorem dX8_shaped_188 : decode cX8_shaped 188 = .ok (.iinc 3 1, 3) := by decide +kernel
theorem dX8_shaped_191 : decode cX8_shaped 191 = .ok (.goto (-174), 3) := by decide +kernel
theorem dX8_shaped_194 : decode cX8_shaped 194 = .ok (.iconst 1, 1) := by decide +kernel
theorem dX8_shaped_195 : decode cX8_shaped 195 = .ok (.ireturn, 1) := by decide +kernel
theorem dX8_isWord_0 : decode cX8_isWord 0 = .ok (.aload_n 0, 1) := by decide +kernel
theorem dX8_isWord_1 : decode cX8_isWord 1 = .ok (.getfield 108, 3) := by decide +kernel
theorem dX8_isWord_4 : decode cX8_isWord 4 = .ok (.iconst 1, 1) := by decide +kernel
theorem dX8_isWord_5 : decode cX8_isWord 5 = .ok (.if_icmp .ne 14, 3) := by decide +kernel
theorem dX8_isWord_8 : decode cX8_isWord 8 = .ok (.aload_n 0, 1) := by decide +kernel
theorem dX8_isWord_9 : decode cX8_isWord 9 = .ok (.getfield 127, 3) := by decide +kernel
theorem dX8_isWord_12 : decode cX8_isWord 12 = .ok (.ifCond .le 7, 3) := by decide +kernel
theorem dX8_isWord_15 : decode cX8_isWord 15 = .ok (.iconst 1, 1) := by decide +kernel
theorem dX8_isWord_16 : decode cX8_isWord 16 = .ok (.goto 4, 3) := by decide +kernel
theorem dX8_isWord_19 : decode cX8_isWord 19 = .ok (.iconst 0, 1) := by decide +kernel
theorem dX8_isWord_20 : decode cX8_isWord 20 = .ok (.istore_n 1, 1) := by decide +kernel
theorem dX8_isWord_21 : decode cX8_isWord 21 = .ok (.iconst 0, 1) := by decide +kernel
theorem dX8_isWord_22 : decode cX8_isWord 22 = .ok (.istore_n 2, 1) := by decide +kernel
theorem dX8_isWord_23 : decode cX8_isWord 23 = .ok (.iload_n 2, 1) := by decide +kernel
theorem dX8_isWord_24 : decode cX8_isWord 24 = .ok (.aload_n 0, 1) := by decide +kernel
theorem dX8_isWord_25 : decode cX8_isWord 25 = .ok (.getfield 127, 3) := by decide +kernel
theorem dX8_isWord_28 : decode cX8_isWord 28 = .ok (.if_icmp .ge 32, 3) := by decide +kernel
theorem dX8_isWord_31 : decode cX8_isWord 31 = .ok (.iload_n 1, 1) := by decide +kernel
theorem dX8_isWord_32 : decode cX8_isWord 32 = .ok (.ifCond .eq 28, 3) := by decide +kernel
theorem dX8_isWord_35 : decode cX8_isWord 35 = .ok (.aload_n 0, 1) := by decide +kernel
theorem dX8_isWord_36 : decode cX8_isWord 36 = .ok (.getfield 35, 3) := by decide +kernel
theorem dX8_isWord_39 : decode cX8_isWord 39 = .ok (.iload_n 2, 1) := by decide +kernel
theorem dX8_isWord_40 : decode cX8_isWord 40 = .ok (.iaload, 1) := by decide +kernel
theorem dX8_isWord_41 : decode cX8_isWord 41 = .ok (.aload_n 0, 1) := by decide +kernel
theorem dX8_isWord_42 : decode cX8_isWord 42 = .ok (.getfield 105, 3) := by decide +kernel
theorem dX8_isWord_45 : decode cX8_isWord 45 = .ok (.if_icmp .ge 7, 3) := by decide +kernel
theorem dX8_isWord_48 : decode cX8_isWord 48 = .ok (.iconst 1, 1) := by decide +kernel
theorem dX8_isWord_49 : decode cX8_isWord 49 = .ok (.goto 4, 3) := by decide +kernel
theorem dX8_isWord_52 : decode cX8_isWord 52 = .ok (.iconst 0, 1) := by decide +kernel
theorem dX8_isWord_53 : decode cX8_isWord 53 = .ok (.istore_n 1, 1) := by decide +kernel
theorem dX8_isWord_54 : decode cX8_isWord 54 = .ok (.iinc 2 1, 3) := by decide +kernel
theorem dX8_isWord_57 : decode cX8_isWord 57 = .ok (.goto (-34), 3) := by decide +kernel
theorem dX8_isWord_60 : decode cX8_isWord 60 = .ok (.iload_n 1, 1) := by decide +kernel
theorem dX8_isWord_61 : decode cX8_isWord 61 = .ok (.ireturn, 1) := by decide +kernel
set_option maxRecDepth 20000 in
theorem ggX8_shape_X8_isWord : GoodIn wsX8_shape wsX8_isWord := goodIn_r _ [12, 13, 3, 2, 14, 41, 42, 43, 44, 45, 46, 47, 48, 49, 50, 51, 52, 53, 54, 55, 56, 57, 58, 59, 60, 61, 62, 63, 64, 65, 66, 67, 68, 69, 70, 71, 72, 73] (by decide +kernel) (by decide +kernel)
set_option maxRecDepth 20000 in
theorem gX8_shape_X8_isWord : GoodIn wsX8_shape (wsV RX8 179 RX8 yX8_isWord wsX8_isWord) := goodIn_app (goodIn_of _ (by decide +kernel)) ggX8_shape_X8_isWord
set_option maxRecDepth 20000 in
theorem ggX8_shape_X8_shaped : GoodIn wsX8_shape wsX8_shaped := goodIn_ca (goodIn_r _ [18, 5, 6, 7, 19, 20, 21, 11, 22, 23, 24, 25, 26, 27, 28, 29, 30, 41, 42, 43, 44, 45, 46, 47, 48, 49, 50, 51, 52, 53, 54, 55, 56, 57, 58, 59, 60, 61, 62, 63, 64, 65, 66, 67, 68, 69, 70, 71, 72, 73] (by decide +kernel) (by decide +kernel)) (goodIn_sub (fun _ h => List.mem_cons_of_mem _ (List.mem_append_right _ h)) (by decide +kernel))
set_option maxRecDepth 20000 in
theorem gX8_shape_X8_shaped : GoodIn wsX8_shape (wsV RX8 183 RX8 yX8_shaped wsX8_shaped) := goodIn_app (goodIn_of _ (by decide +kernel)) ggX8_shape_X8_shaped
set_option maxRecDepth 20000 in
theorem ggX8_shape_X8_tells : GoodIn wsX8_shape wsX8_tells := goodIn_r _ [34, 35, 36, 37, 38, 39, 40, 4, 41, 42, 43, 44, 45, 46, 47, 48, 49, 50, 51, 52, 53, 54, 55, 56, 57, 58, 59, 60, 61, 62, 63, 64, 65, 66, 67, 68, 69, 70, 71, 72, 73] (by decide +kernel) (by decide +kernel)
set_option maxRecDepth 20000 in
theorem gX8_shape_X8_tells : GoodIn wsX8_shape (wsV RX8 164 RX8 yX8_tells wsX8_tells) := goodIn_app (goodIn_of _ (by decide +kernel)) ggX8_shape_X8_tells
theorem dX8_shape_0 : decode cX8_shape 0 = .ok (.aload_n 0, 1) := by decide +kernel
theorem dX8_shape_1 : decode cX8_shape 1 = .ok (.iconst 0, 1) := by decide +kernel
theorem dX8_shape_2 : decode cX8_shape 2 = .ok (.putfield 61, 3) := by decide +kernel
theorem dX8_shape_5 : decode cX8_shape 5 = .ok (.aload_n 0, 1) := by decide +kernel
theorem dX8_shape_6 : decode cX8_shape 6 = .ok (.invokevirtual 179, 3) := by decide +kernel
theorem dX8_shape_9 : decode cX8_shape 9 = .ok (.ifCond .ne 5, 3) := by decide +kernel
theorem dX8_shape_12 : decode cX8_shape 12 = .ok (.iconst (-1), 1) := by decide +kernel
theorem dX8_shape_13 : decode cX8_shape 13 = .ok (.ireturn, 1) := by decide +kernel
theorem dX8_shape_14 : decode cX8_shape 14 = .ok (.aload_n 0, 1) := by decide +kernel
theorem dX8_shape_15 : decode cX8_shape 15 = .ok (.aload_n 0, 1) := by decide +kernel
theorem dX8_shape_16 : decode cX8_shape 16 = .ok (.getfield 35, 3) := by decide +kernel
theorem dX8_shape_19 : decode cX8_shape 19 = .ok (.aload_n 0, 1) := by decide +kernel
theorem dX8_shape_20 : decode cX8_shape 20 = .ok (.getfield 127, 3) := by decide +kernel
theorem dX8_shape_23 : decode cX8_shape 23 = .ok (.invokevirtual 183, 3) := by decide +kernel
theorem dX8_shape_26 : decode cX8_shape 26 = .ok (.ifCond .ne 6, 3) := by decide +kernel
theorem dX8_shape_29 : decode cX8_shape 29 = .ok (.bipush (-2), 2) := by decide +kernel
theorem dX8_shape_31 : decode cX8_shape 31 = .ok (.ireturn, 1) := by decide +kernel
theorem dX8_shape_32 : decode cX8_shape 32 = .ok (.aload_n 0, 1) := by decide +kernel
theorem dX8_shape_33 : decode cX8_shape 33 = .ok (.getfield 32, 3) := by decide +kernel
theorem dX8_shape_36 : decode cX8_shape 36 = .ok (.iconst 0, 1) := by decide +kernel
theorem dX8_shape_37 : decode cX8_shape 37 = .ok (.aload_n 0, 1) := by decide +kernel
theorem dX8_shape_38 : decode cX8_shape 38 = .ok (.getfield 170, 3) := by decide +kernel
theorem dX8_shape_41 : decode cX8_shape 41 = .ok (.lastore, 1) := by decide +kernel
theorem dX8_shape_42 : decode cX8_shape 42 = .ok (.aload_n 0, 1) := by decide +kernel
theorem dX8_shape_43 : decode cX8_shape 43 = .ok (.getfield 32, 3) := by decide +kernel
theorem dX8_shape_46 : decode cX8_shape 46 = .ok (.iconst 1, 1) := by decide +kernel
theorem dX8_shape_47 : decode cX8_shape 47 = .ok (.aload_n 0, 1) := by decide +kernel
theorem dX8_shape_48 : decode cX8_shape 48 = .ok (.getfield 173, 3) := by decide +kernel
theorem dX8_shape_51 : decode cX8_shape 51 = .ok (.lastore, 1) := by decide +kernel
theorem dX8_shape_52 : decode cX8_shape 52 = .ok (.aload_n 0, 1) := by decide +kernel
theorem dX8_shape_53 : decode cX8_shape 53 = .ok (.getfield 32, 3) := by decide +kernel
theorem dX8_shape_56 : decode cX8_shape 56 = .ok (.iconst 2, 1) := by decide +kernel
theorem dX8_shape_57 : decode cX8_shape 57 = .ok (.aload_n 0, 1) := by decide +kernel
theorem dX8_shape_58 : decode cX8_shape 58 = .ok (.getfield 176, 3) := by decide +kernel
theorem dX8_shape_61 : decode cX8_shape 61 = .ok (.lastore, 1) := by decide +kernel
theorem dX8_shape_62 : decode cX8_shape 62 = .ok (.aload_n 0, 1) := by decide +kernel
theorem dX8_shape_63 : decode cX8_shape 63 = .ok (.iconst 3, 1) := by decide +kernel
theorem dX8_shape_64 : decode cX8_shape 64 = .ok (.invokevirtual 164, 3) := by decide +kernel
theorem dX8_shape_67 : decode cX8_shape 67 = .ok (.iconst 1, 1) := by decide +kernel
theorem dX8_shape_68 : decode cX8_shape 68 = .ok (.ireturn, 1) := by decide +kernel
set_option maxRecDepth 20000 in
theorem ggX8_ringOf_X8_isNumber : GoodIn wsX8_ringOf wsX8_isNumber := goodIn_r _ [16, 17, 18, 19, 20, 15, 21] (by decide +kernel) (by decide +kernel)
set_option maxRecDepth 20000 in
theorem gX8_ringOf_X8_isNumber : GoodIn wsX8_ringOf (va_wsS RX8 150 yX8_isNumber wsX8_isNumber) := goodIn_app (goodIn_of _ (by decide +kernel)) ggX8_ringOf_X8_isNumber
set_option maxRecDepth 20000 in
theorem ggX8_ringOf_X8_restBy : GoodIn wsX8_ringOf wsX8_restBy := goodIn_r _ [24, 25, 26, 27, 28] (by decide +kernel) (by decide +kernel)
set_option maxRecDepth 20000 in
theorem gX8_ringOf_X8_restBy : GoodIn wsX8_ringOf (va_wsS RX8 136 yX8_restBy wsX8_restBy) := goodIn_app (goodIn_of _ (by decide +kernel)) ggX8_ringOf_X8_restBy
set_option maxRecDepth 20000 in
theorem ggX8_ringOf_X8_goes : GoodIn wsX8_ringOf wsX8_goes := goodIn_ca (goodIn_r _ [32, 33, 34, 18, 35, 36, 7, 37, 38, 39, 40, 15, 41, 8, 42, 22, 23, 24, 25, 26, 27, 28, 13, 14, 16, 17, 19, 20, 21, 43, 44, 45, 46, 47, 48, 49, 50, 51, 52, 53, 54, 55, 56, 57, 58, 59, 60, 61, 62, 63, 64, 65, 66, 67, 68, 69, 70, 71, 72, 73, 74, 75] (by decide +kernel) (by decide +kernel)) (goodIn_sub (fun _ h => List.mem_cons_of_mem _ (List.mem_append_right _ h)) (by decide +kernel))
set_option maxRecDepth 20000 in
theorem gX8_ringOf_X8_goes : GoodIn wsX8_ringOf (wsV RX8 154 RX8 yX8_goes wsX8_goes) := goodIn_app (goodIn_of _ (by decide +kernel)) ggX8_ringOf_X8_goes
theorem dX8_ringOf_0 : decode cX8_ringOf 0 = .ok (.aload_n 0, 1) := by decide +kernel
theorem dX8_ringOf_1 : decode cX8_ringOf 1 = .ok (.getfield 170, 3) := by decide +kernel
theorem dX8_ringOf_4 : decode cX8_ringOf 4 = .ok (.aload_n 0, 1) := by decide +kernel
theorem dX8_ringOf_5 : decode cX8_ringOf 5 = .ok (.getfield 176, 3) := by decide +kernel
theorem dX8_ringOf_8 : decode cX8_ringOf 8 = .ok (.lcmp, 1) := by decide +kernel
theorem dX8_ringOf_9 : decode cX8_ringOf 9 = .ok (.ifCond .ne 18, 3) := by decide +kernel
theorem dX8_ringOf_12 : decode cX8_ringOf 12 = .ok (.aload_n 0, 1) := by decide +kernel
theorem dX8_ringOf_13 : decode cX8_ringOf 13 = .ok (.getfield 173, 3) := by decide +kernel
theorem dX8_ringOf_16 : decode cX8_ringOf 16 = .ok (.lconst 0, 1) := by decide +kernel
theorem dX8_ringOf_17 : decode cX8_ringOf 17 = .ok (.lcmp, 1) := by decide +kernel
theorem dX8_ringOf_18 : decode cX8_ringOf 18 = .ok (.ifCond .ne 7, 3) := by decide +kernel
theorem dX8_ringOf_21 : decode cX8_ringOf 21 = .ok (.iconst 2, 1) := by decide +kernel
theorem dX8_ringOf_22 : decode cX8_ringOf 22 = .ok (.goto 4, 3) := by decide +kernel
theorem dX8_ringOf_25 : decode cX8_ringOf 25 = .ok (.iconst 0, 1) := by decide +kernel
theorem dX8_ringOf_26 : decode cX8_ringOf 26 = .ok (.ireturn, 1) := by decide +kernel
theorem dX8_ringOf_27 : decode cX8_ringOf 27 = .ok (.aload_n 0, 1) := by decide +kernel
theorem dX8_ringOf_28 : decode cX8_ringOf 28 = .ok (.getfield 176, 3) := by decide +kernel
theorem dX8_ringOf_31 : decode cX8_ringOf 31 = .ok (.aload_n 0, 1) := by decide +kernel
theorem dX8_ringOf_32 : decode cX8_ringOf 32 = .ok (.getfield 170, 3) := by decide +kernel
theorem dX8_ringOf_35 : decode cX8_ringOf 35 = .ok (.lsub, 1) := by decide +kernel
theorem dX8_ringOf_36 : decode cX8_ringOf 36 = .ok (.lstore_n 3, 1) := by decide +kernel
theorem dX8_ringOf_37 : decode cX8_ringOf 37 = .ok (.aload_n 0, 1) := by decide +kernel
theorem dX8_ringOf_38 : decode cX8_ringOf 38 = .ok (.getfield 173, 3) := by decide +kernel
theorem dX8_ringOf_41 : decode cX8_ringOf 41 = .ok (.lload_n 3, 1) := by decide +kernel
theorem dX8_ringOf_42 : decode cX8_ringOf 42 = .ok (.lrem, 1) := by decide +kernel
theorem dX8_ringOf_43 : decode cX8_ringOf 43 = .ok (.lconst 0, 1) := by decide +kernel
theorem dX8_ringOf_44 : decode cX8_ringOf 44 = .ok (.lcmp, 1) := by decide +kernel
theorem dX8_ringOf_45 : decode cX8_ringOf 45 = .ok (.ifCond .eq 5, 3) := by decide +kernel
theorem dX8_ringOf_48 : decode cX8_ringOf 48 = .ok (.iconst 0, 1) := by decide +kernel
theorem dX8_ringOf_49 : decode cX8_ringOf 49 = .ok (.ireturn, 1) := by decide +kernel
theorem dX8_ringOf_50 : decode cX8_ringOf 50 = .ok (.aload_n 0, 1) := by decide +kernel
theorem dX8_ringOf_51 : decode cX8_ringOf 51 = .ok (.aload_n 0, 1) := by decide +kernel
theorem dX8_ringOf_52 : decode cX8_ringOf 52 = .ok (.getfield 173, 3) := by decide +kernel
theorem dX8_ringOf_55 : decode cX8_ringOf 55 = .ok (.lload_n 3, 1) := by decide +kernel
theorem dX8_ringOf_56 : decode cX8_ringOf 56 = .ok (.ldiv, 1) := by decide +kernel
theorem dX8_ringOf_57 : decode cX8_ringOf 57 = .ok (.putfield 187, 3) := by decide +kernel
theorem dX8_ringOf_60 : decode cX8_ringOf 60 = .ok (.aload_n 0, 1) := by decide +kernel
theorem dX8_ringOf_61 : decode cX8_ringOf 61 = .ok (.aload_n 0, 1) := by decide +kernel
theorem dX8_ringOf_62 : decode cX8_ringOf 62 = .ok (.getfield 187, 3) := by decide +kernel
theorem dX8_ringOf_65 : decode cX8_ringOf 65 = .ok (.putfield 190, 3) := by decide +kernel
theorem dX8_ringOf_68 : decode cX8_ringOf 68 = .ok (.aload_n 0, 1) := by decide +kernel
theorem dX8_ringOf_69 : decode cX8_ringOf 69 = .ok (.iconst 1, 1) := by decide +kernel
theorem dX8_ringOf_70 : decode cX8_ringOf 70 = .ok (.putfield 193, 3) := by decide +kernel
theorem dX8_ringOf_73 : decode cX8_ringOf 73 = .ok (.aload_n 0, 1) := by decide +kernel
theorem dX8_ringOf_74 : decode cX8_ringOf 74 = .ok (.aload_n 0, 1) := by decide +kernel
theorem dX8_ringOf_75 : decode cX8_ringOf 75 = .ok (.getfield 187, 3) := by decide +kernel
theorem dX8_ringOf_78 : decode cX8_ringOf 78 = .ok (.putfield 146, 3) := by decide +kernel
theorem dX8_ringOf_81 : decode cX8_ringOf 81 = .ok (.iconst 0, 1) := by decide +kernel
theorem dX8_ringOf_82 : decode cX8_ringOf 82 = .ok (.istore 5, 2) := by decide +kernel
theorem dX8_ringOf_84 : decode cX8_ringOf 84 = .ok (.iload 5, 2) := by decide +kernel
theorem dX8_ringOf_86 : decode cX8_ringOf 86 = .ok (.iload_n 2, 1) := by decide +kernel
theorem dX8_ringOf_87 : decode cX8_ringOf 87 = .ok (.if_icmp .ge 102, 3) := by decide +kernel
theorem dX8_ringOf_90 : decode cX8_ringOf 90 = .ok (.aload_n 0, 1) := by decide +kernel
theorem dX8_ringOf_91 : decode cX8_ringOf 91 = .ok (.getfield 146, 3) := by decide +kernel
theorem dX8_ringOf_94 : decode cX8_ringOf 94 = .ok (.invokestatic 150, 3) := by decide +kernel
theorem dX8_ringOf_97 : decode cX8_ringOf 97 = .ok (.ifCond .eq 23, 3) := by decide +kernel
theorem dX8_ringOf_100 : decode cX8_ringOf 100 = .ok (.aload_n 0, 1) := by decide +kernel
theorem dX8_ringOf_101 : decode cX8_ringOf 101 = .ok (.getfield 146, 3) := by decide +kernel
theorem dX8_ringOf_104 : decode cX8_ringOf 104 = .ok (.aload_n 0, 1) := by decide +kernel
theorem dX8_ringOf_105 : decode cX8_ringOf 105 = .ok (.getfield 105, 3) := by decide +kernel
theorem dX8_ringOf_108 : decode cX8_ringOf 108 = .ok (.invokestatic 136, 3) := by decide +kernel
theorem dX8_ringOf_111 : decode cX8_ringOf 111 = .ok (.aload_n 1, 1) := by decide +kernel
theorem dX8_ringOf_112 : decode cX8_ringOf 112 = .ok (.iload 5, 2) := by decide +kernel
theorem dX8_ringOf_114 : decode cX8_ringOf 114 = .ok (.iaload, 1) := by decide +kernel
theorem dX8_ringOf_115 : decode cX8_ringOf 115 = .ok (.i2l, 1) := by decide +kernel
theorem dX8_ringOf_116 : decode cX8_ringOf 116 = .ok (.lcmp, 1) := by decide +kernel
theorem dX8_ringOf_117 : decode cX8_ringOf 117 = .ok (.ifCond .eq 5, 3) := by decide +kernel
theorem dX8_ringOf_120 : decode cX8_ringOf 120 = .ok (.iconst 0, 1) := by decide +kernel
theorem dX8_ringOf_121 : decode cX8_ringOf 121 = .ok (.ireturn, 1) := by decide +kernel
theorem dX8_ringOf_122 : decode cX8_ringOf 122 = .ok (.aload_n 0, 1) := by decide +kernel
theorem dX8_ringOf_123 : decode cX8_ringOf 123 = .ok (.aload_n 0, 1) := by decide +kernel
theorem dX8_ringOf_124 : decode cX8_ringOf 124 = .ok (.getfield 193, 3) := by decide +kernel
theorem dX8_ringOf_127 : decode cX8_ringOf 127 = .ok (.ifCond .eq 24, 3) := by decide +kernel
theorem dX8_ringOf_130 : decode cX8_ringOf 130 = .ok (.iload 5, 2) := by decide +kernel
theorem dX8_ringOf_132 : decode cX8_ringOf 132 = .ok (.ifCond .eq 15, 3) := by decide +kernel
theorem dX8_ringOf_135 : decode cX8_ringOf 135 = .ok (.aload_n 0, 1) := by decide +kernel
theorem dX8_ringOf_136 : decode cX8_ringOf 136 = .ok (.getfield 146, 3) := by decide +kernel
theorem dX8_ringOf_139 : decode cX8_ringOf 139 = .ok (.aload_n 0, 1) := by decide +kernel
theorem dX8_ringOf_140 : decode cX8_ringOf 140 = .ok (.getfield 187, 3) := by decide +kernel
theorem dX8_ringOf_143 : decode cX8_ringOf 143 = .ok (.lcmp, 1) := by decide +kernel
theorem dX8_ringOf_144 : decode cX8_ringOf 144 = .ok (.ifCond .eq 7, 3) := by decide +kernel
theorem dX8_ringOf_147 : decode cX8_ringOf 147 = .ok (.iconst 1, 1) := by decide +kernel
theorem dX8_ringOf_148 : decode cX8_ringOf 148 = .ok (.goto 4, 3) := by decide +kernel
theorem dX8_ringOf_151 : decode cX8_ringOf 151 = .ok (.iconst 0, 1) := by decide +kernel
theorem dX8_ringOf_152 : decode cX8_ringOf 152 = .ok (.putfield 193, 3) := by decide +kernel
theorem dX8_ringOf_155 : decode cX8_ringOf 155 = .ok (.aload_n 0, 1) := by decide +kernel
theorem dX8_ringOf_156 : decode cX8_ringOf 156 = .ok (.aload_n 0, 1) := by decide +kernel
theorem dX8_ringOf_157 : decode cX8_ringOf 157 = .ok (.getfield 190, 3) := by decide +kernel
theorem dX8_ringOf_160 : decode cX8_ringOf 160 = .ok (.aload_n 0, 1) := by decide +kernel
theorem dX8_ringOf_161 : decode cX8_ringOf 161 = .ok (.getfield 146, 3) := by decide +kernel
theorem dX8_ringOf_164 : decode cX8_ringOf 164 = .ok (.invokestatic 196, 3) := by decide +kernel
theorem dX8_ringOf_167 : decode cX8_ringOf 167 = .ok (.putfield 190, 3) := by decide +kernel
theorem dX8_ringOf_170 : decode cX8_ringOf 170 = .ok (.aload_n 0, 1) := by decide +kernel
theorem dX8_ringOf_171 : decode cX8_ringOf 171 = .ok (.aload_n 0, 1) := by decide +kernel
theorem dX8_ringOf_172 : decode cX8_ringOf 172 = .ok (.getfield 146, 3) := by decide +kernel
theorem dX8_ringOf_175 : decode cX8_ringOf 175 = .ok (.invokevirtual 154, 3) := by decide +kernel
theorem dX8_ringOf_178 : decode cX8_ringOf 178 = .ok (.ifCond .eq 5, 3) := by decide +kernel
theorem dX8_ringOf_181 : decode cX8_ringOf 181 = .ok (.iconst 0, 1) := by decide +kernel
theorem dX8_ringOf_182 : decode cX8_ringOf 182 = .ok (.ireturn, 1) := by decide +kernel
theorem dX8_ringOf_183 : decode cX8_ringOf 183 = .ok (.iinc 5 1, 3) := by decide +kernel
theorem dX8_ringOf_186 : decode cX8_ringOf 186 = .ok (.goto (-102), 3) := by decide +kernel
theorem dX8_ringOf_189 : decode cX8_ringOf 189 = .ok (.aload_n 0, 1) := by decide +kernel
theorem dX8_ringOf_190 : decode cX8_ringOf 190 = .ok (.getfield 146, 3) := by decide +kernel
theorem dX8_ringOf_193 : decode cX8_ringOf 193 = .ok (.aload_n 0, 1) := by decide +kernel
theorem dX8_ringOf_194 : decode cX8_ringOf 194 = .ok (.getfield 187, 3) := by decide +kernel
theorem dX8_ringOf_197 : decode cX8_ringOf 197 = .ok (.lcmp, 1) := by decide +kernel
theorem dX8_ringOf_198 : decode cX8_ringOf 198 = .ok (.ifCond .ne 7, 3) := by decide +kernel
theorem dX8_ringOf_201 : decode cX8_ringOf 201 = .ok (.iconst 1, 1) := by decide +kernel
theorem dX8_ringOf_202 : decode cX8_ringOf 202 = .ok (.goto 4, 3) := by decide +kernel
theorem dX8_ringOf_205 : decode cX8_ringOf 205 = .ok (.iconst 0, 1) := by decide +kernel
theorem dX8_ringOf_206 : decode cX8_ringOf 206 = .ok (.ireturn, 1) := by decide +kernel
set_option maxRecDepth 20000 in
theorem ggX8_ring_X8_isWord : GoodIn wsX8_ring wsX8_isWord := goodIn_r _ [10, 11, 3, 2, 12, 71, 72, 73, 74, 75, 76, 77, 78, 79, 80, 81, 82, 83, 84, 85, 86, 87, 88, 89, 90, 91, 92, 93, 94, 95, 96, 97, 98, 99, 100, 101, 102, 103] (by decide +kernel) (by decide +kernel)
set_option maxRecDepth 20000 in
theorem gX8_ring_X8_isWord : GoodIn wsX8_ring (wsV RX8 179 RX8 yX8_isWord wsX8_isWord) := goodIn_app (goodIn_of _ (by decide +kernel)) ggX8_ring_X8_isWord
set_option maxRecDepth 20000 in
theorem ggX8_ring_X8_shaped : GoodIn wsX8_ring wsX8_shaped := goodIn_ca (goodIn_r _ [16, 17, 18, 19, 20, 21, 22, 9, 23, 24, 25, 26, 27, 28, 29, 30, 31, 71, 72, 73, 74, 75, 76, 77, 78, 79, 80, 81, 82, 83, 84, 85, 86, 87, 88, 89, 90, 91, 92, 93, 94, 95, 96, 97, 98, 99, 100, 101, 102, 103] (by decide +kernel) (by decide +kernel)) (goodIn_sub (fun _ h => List.mem_cons_of_mem _ (List.mem_append_right _ h)) (by decide +kernel))
set_option maxRecDepth 20000 in
theorem gX8_ring_X8_shaped : GoodIn wsX8_ring (wsV RX8 183 RX8 yX8_shaped wsX8_shaped) := goodIn_app (goodIn_of _ (by decide +kernel)) ggX8_ring_X8_shaped
set_option maxRecDepth 20000 in
theorem ggX8_ring_X8_ringOf : GoodIn wsX8_ring wsX8_ringOf := goodIn_ca (goodIn_r _ [35, 17, 19, 18, 5, 36, 37, 38, 12, 39, 40, 41, 42, 24, 25, 9, 26, 27, 28, 29, 30, 31, 43, 44, 45, 46, 47, 48, 49, 50, 51, 52, 53, 11, 54, 55, 56, 20, 57, 58, 59, 60, 61, 71, 72, 73, 74, 75, 76, 77, 78, 79, 80, 81, 82, 83, 84, 85, 86, 87, 88, 89, 90, 91, 92, 93, 94, 95, 96, 97, 98, 99, 100, 101, 102, 103] (by decide +kernel) (by decide +kernel)) (goodIn_sub (fun _ h => List.mem_cons_of_mem _ (List.mem_append_right _ h)) (by decide +kernel))
set_option maxRecDepth 20000 in
theorem gX8_ring_X8_ringOf : GoodIn wsX8_ring (wsV RX8 198 RX8 yX8_ringOf wsX8_ringOf) := goodIn_app (goodIn_of _ (by decide +kernel)) ggX8_ring_X8_ringOf
set_option maxRecDepth 20000 in
theorem ggX8_ring_X8_tells : GoodIn wsX8_ring wsX8_tells := goodIn_r _ [65, 66, 67, 41, 68, 69, 70, 4, 71, 72, 73, 74, 75, 76, 77, 78, 79, 80, 81, 82, 83, 84, 85, 86, 87, 88, 89, 90, 91, 92, 93, 94, 95, 96, 97, 98, 99, 100, 101, 102, 103] (by decide +kernel) (by decide +kernel)
set_option maxRecDepth 20000 in
theorem gX8_ring_X8_tells : GoodIn wsX8_ring (wsV RX8 164 RX8 yX8_tells wsX8_tells) := goodIn_app (goodIn_of _ (by decide +kernel)) ggX8_ring_X8_tells
theorem dX8_ring_0 : decode cX8_ring 0 = .ok (.aload_n 0, 1) := by decide +kernel
theorem dX8_ring_1 : decode cX8_ring 1 = .ok (.iconst 0, 1) := by decide +kernel
theorem dX8_ring_2 : decode cX8_ring 2 = .ok (.putfield 61, 3) := by decide +kernel
theorem dX8_ring_5 : decode cX8_ring 5 = .ok (.aload_n 0, 1) := by decide +kernel
theorem dX8_ring_6 : decode cX8_ring 6 = .ok (.invokevirtual 179, 3) := by decide +kernel
theorem dX8_ring_9 : decode cX8_ring 9 = .ok (.ifCond .ne 5, 3) := by decide +kernel
theorem dX8_ring_12 : decode cX8_ring 12 = .ok (.iconst (-1), 1) := by decide +kernel
theorem dX8_ring_13 : decode cX8_ring 13 = .ok (.ireturn, 1) := by decide +kernel
theorem dX8_ring_14 : decode cX8_ring 14 = .ok (.aload_n 0, 1) := by decide +kernel
theorem dX8_ring_15 : decode cX8_ring 15 = .ok (.aload_n 0, 1) := by decide +kernel
theorem dX8_ring_16 : decode cX8_ring 16 = .ok (.getfield 35, 3) := by decide +kernel
theorem dX8_ring_19 : decode cX8_ring 19 = .ok (.aload_n 0, 1) := by decide +kernel
theorem dX8_ring_20 : decode cX8_ring 20 = .ok (.getfield 127, 3) := by decide +kernel
theorem dX8_ring_23 : decode cX8_ring 23 = .ok (.invokevirtual 183, 3) := by decide +kernel
theorem dX8_ring_26 : decode cX8_ring 26 = .ok (.ifCond .ne 6, 3) := by decide +kernel
theorem dX8_ring_29 : decode cX8_ring 29 = .ok (.bipush (-2), 2) := by decide +kernel
theorem dX8_ring_31 : decode cX8_ring 31 = .ok (.ireturn, 1) := by decide +kernel
theorem dX8_ring_32 : decode cX8_ring 32 = .ok (.aload_n 0, 1) := by decide +kernel
theorem dX8_ring_33 : decode cX8_ring 33 = .ok (.aload_n 0, 1) := by decide +kernel
theorem dX8_ring_34 : decode cX8_ring 34 = .ok (.getfield 35, 3) := by decide +kernel
theorem dX8_ring_37 : decode cX8_ring 37 = .ok (.aload_n 0, 1) := by decide +kernel
theorem dX8_ring_38 : decode cX8_ring 38 = .ok (.getfield 127, 3) := by decide +kernel
theorem dX8_ring_41 : decode cX8_ring 41 = .ok (.invokevirtual 198, 3) := by decide +kernel
theorem dX8_ring_44 : decode cX8_ring 44 = .ok (.istore_n 1, 1) := by decide +kernel
theorem dX8_ring_45 : decode cX8_ring 45 = .ok (.iload_n 1, 1) := by decide +kernel
theorem dX8_ring_46 : decode cX8_ring 46 = .ok (.iconst 1, 1) := by decide +kernel
theorem dX8_ring_47 : decode cX8_ring 47 = .ok (.if_icmp .ne 18, 3) := by decide +kernel
theorem dX8_ring_50 : decode cX8_ring 50 = .ok (.aload_n 0, 1) := by decide +kernel
theorem dX8_ring_51 : decode cX8_ring 51 = .ok (.getfield 32, 3) := by decide +kernel
theorem dX8_ring_54 : decode cX8_ring 54 = .ok (.iconst 0, 1) := by decide +kernel
theorem dX8_ring_55 : decode cX8_ring 55 = .ok (.aload_n 0, 1) := by decide +kernel
theorem dX8_ring_56 : decode cX8_ring 56 = .ok (.getfield 187, 3) := by decide +kernel
theorem dX8_ring_59 : decode cX8_ring 59 = .ok (.lastore, 1) := by decide +kernel
theorem dX8_ring_60 : decode cX8_ring 60 = .ok (.aload_n 0, 1) := by decide +kernel
theorem dX8_ring_61 : decode cX8_ring 61 = .ok (.iconst 1, 1) := by decide +kernel
theorem dX8_ring_62 : decode cX8_ring 62 = .ok (.invokevirtual 164, 3) := by decide +kernel
theorem dX8_ring_65 : decode cX8_ring 65 = .ok (.iload_n 1, 1) := by decide +kernel
theorem dX8_ring_66 : decode cX8_ring 66 = .ok (.ireturn, 1) := by decide +kernel
theorem dX8_power_0 : decode cX8_power 0 = .ok (.iconst 1, 1) := by decide +kernel
theorem dX8_power_1 : decode cX8_power 1 = .ok (.istore_n 2, 1) := by decide +kernel
theorem dX8_power_2 : decode cX8_power 2 = .ok (.iconst 0, 1) := by decide +kernel
theorem dX8_power_3 : decode cX8_power 3 = .ok (.istore_n 3, 1) := by decide +kernel
theorem dX8_power_4 : decode cX8_power 4 = .ok (.iload_n 3, 1) := by decide +kernel
theorem dX8_power_5 : decode cX8_power 5 = .ok (.iload_n 1, 1) := by decide +kernel
theorem dX8_power_6 : decode cX8_power 6 = .ok (.if_icmp .ge 23, 3) := by decide +kernel
theorem dX8_power_9 : decode cX8_power 9 = .ok (.iload_n 2, 1) := by decide +kernel
theorem dX8_power_10 : decode cX8_power 10 = .ok (.sipush 20000, 3) := by decide +kernel
theorem dX8_power_13 : decode cX8_power 13 = .ok (.if_icmp .gt 16, 3) := by decide +kernel
theorem dX8_power_16 : decode cX8_power 16 = .ok (.iload_n 2, 1) := by decide +kernel
theorem dX8_power_17 : decode cX8_power 17 = .ok (.aload_n 0, 1) := by decide +kernel
theorem dX8_power_18 : decode cX8_power 18 = .ok (.getfield 105, 3) := by decide +kernel
theorem dX8_power_21 : decode cX8_power 21 = .ok (.imul, 1) := by decide +kernel
theorem dX8_power_22 : decode cX8_power 22 = .ok (.istore_n 2, 1) := by decide +kernel
theorem dX8_power_23 : decode cX8_power 23 = .ok (.iinc 3 1, 3) := by decide +kernel
theorem dX8_power_26 : decode cX8_power 26 = .ok (.goto (-22), 3) := by decide +kernel
theorem dX8_power_29 : decode cX8_power 29 = .ok (.iload_n 2, 1) := by decide +kernel
theorem dX8_power_30 : decode cX8_power 30 = .ok (.sipush 20001, 3) := by decide +kernel
theorem dX8_power_33 : decode cX8_power 33 = .ok (.invokestatic 88, 3) := by decide +kernel
theorem dX8_power_36 : decode cX8_power 36 = .ok (.ireturn, 1) := by decide +kernel
theorem dX8_ascend_0 : decode cX8_ascend 0 = .ok (.iconst 1, 1) := by decide +kernel
theorem dX8_ascend_1 : decode cX8_ascend 1 = .ok (.istore_n 2, 1) := by decide +kernel
theorem dX8_ascend_2 : decode cX8_ascend 2 = .ok (.iload_n 2, 1) := by decide +kernel
theorem dX8_ascend_3 : decode cX8_ascend 3 = .ok (.iload_n 1, 1) := by decide +kernel
theorem dX8_ascend_4 : decode cX8_ascend 4 = .ok (.if_icmp .ge 68, 3) := by decide +kernel
theorem dX8_ascend_7 : decode cX8_ascend 7 = .ok (.aload_n 0, 1) := by decide +kernel
theorem dX8_ascend_8 : decode cX8_ascend 8 = .ok (.getfield 32, 3) := by decide +kernel
theorem dX8_ascend_11 : decode cX8_ascend 11 = .ok (.iload_n 2, 1) := by decide +kernel
theorem dX8_ascend_12 : decode cX8_ascend 12 = .ok (.laload, 1) := by decide +kernel
theorem dX8_ascend_13 : decode cX8_ascend 13 = .ok (.lstore_n 3, 1) := by decide +kernel
theorem dX8_ascend_14 : decode cX8_ascend 14 = .ok (.iload_n 2, 1) := by decide +kernel
theorem dX8_ascend_15 : decode cX8_ascend 15 = .ok (.istore 5, 2) := by decide +kernel
theorem dX8_ascend_17 : decode cX8_ascend 17 = .ok (.iload 5, 2) := by decide +kernel
theorem dX8_ascend_19 : decode cX8_ascend 19 = .ok (.ifCond .le 39, 3) := by decide +kernel
theorem dX8_ascend_22 : decode cX8_ascend 22 = .ok (.aload_n 0, 1) := by decide +kernel
theorem dX8_ascend_23 : decode cX8_ascend 23 = .ok (.getfield 32, 3) := by decide +kernel
theorem dX8_ascend_26 : decode cX8_ascend 26 = .ok (.iload 5, 2) := by decide +kernel
theorem dX8_ascend_28 : decode cX8_ascend 28 = .ok (.iconst 1, 1) := by decide +kernel
theorem dX8_ascend_29 : decode cX8_ascend 29 = .ok (.isub, 1) := by decide +kernel
theorem dX8_ascend_30 : decode cX8_ascend 30 = .ok (.laload, 1) := by decide +kernel
theorem dX8_ascend_31 : decode cX8_ascend 31 = .ok (.lload_n 3, 1) := by decide +kernel
theorem dX8_ascend_32 : decode cX8_ascend 32 = .ok (.lcmp, 1) := by decide +kernel
theorem dX8_ascend_33 : decode cX8_ascend 33 = .ok (.ifCond .le 25, 3) := by decide +kernel
theorem dX8_ascend_36 : decode cX8_ascend 36 = .ok (.aload_n 0, 1) := by decide +kernel
theorem dX8_ascend_37 : decode cX8_ascend 37 = .ok (.getfield 32, 3) := by decide +kernel
theorem dX8_ascend_40 : decode cX8_ascend 40 = .ok (.iload 5, 2) := by decide +kernel
theorem dX8_ascend_42 : decode cX8_ascend 42 = .ok (.aload_n 0, 1) := by decide +kernel
theorem dX8_ascend_43 : decode cX8_ascend 43 = .ok (.getfield 32, 3) := by decide +kernel
theorem dX8_ascend_46 : decode cX8_ascend 46 = .ok (.iload 5, 2) := by decide +kernel
theorem dX8_ascend_48 : decode cX8_ascend 48 = .ok (.iconst 1, 1) := by decide +kernel
theorem dX8_ascend_49 : decode cX8_ascend 49 = .ok (.isub, 1) := by decide +kernel
theorem dX8_ascend_50 : decode cX8_ascend 50 = .ok (.laload, 1) := by decide +kernel
theorem dX8_ascend_51 : decode cX8_ascend 51 = .ok (.lastore, 1) := by decide +kernel
theorem dX8_ascend_52 : decode cX8_ascend 52 = .ok (.iinc 5 (-1), 3) := by decide +kernel
theorem dX8_ascend_55 : decode cX8_ascend 55 = .ok (.goto (-38), 3) := by decide +kernel
theorem dX8_ascend_58 : decode cX8_ascend 58 = .ok (.aload_n 0, 1) := by decide +kernel
theorem dX8_ascend_59 : decode cX8_ascend 59 = .ok (.getfield 32, 3) := by decide +kernel
theorem dX8_ascend_62 : decode cX8_ascend 62 = .ok (.iload 5, 2) := by decide +kernel
theorem dX8_ascend_64 : decode cX8_ascend 64 = .ok (.lload_n 3, 1) := by decide +kernel
theorem dX8_ascend_65 : decode cX8_ascend 65 = .ok (.lastore, 1) := by decide +kernel
theorem dX8_ascend_66 : decode cX8_ascend 66 = .ok (.iinc 2 1, 3) := by decide +kernel
theorem dX8_ascend_69 : decode cX8_ascend 69 = .ok (.goto (-67), 3) := by decide +kernel
theorem dX8_ascend_72 : decode cX8_ascend 72 = .ok (.return_, 1) := by decide +kernel
set_option maxRecDepth 20000 in
theorem ggX8_rings_X8_in : GoodIn wsX8_rings wsX8_in := goodIn_r _ [13] (by decide +kernel) (by decide +kernel)
set_option maxRecDepth 20000 in
theorem gX8_rings_X8_in : GoodIn wsX8_rings (va_wsS RX8 68 yX8_in wsX8_in) := goodIn_app (goodIn_of _ (by decide +kernel)) ggX8_rings_X8_in
set_option maxRecDepth 20000 in
theorem ggX8_rings_X8_power : GoodIn wsX8_rings wsX8_power := goodIn_r _ [17, 5, 18, 19, 20, 21, 75, 76, 77, 78, 79, 80, 81, 82, 83, 84, 85, 86, 87, 88, 89, 90, 91, 92, 93, 94, 95, 96, 97, 98, 99, 100, 101, 102, 103, 104, 105, 106, 107] (by decide +kernel) (by decide +kernel)
set_option maxRecDepth 20000 in
theorem gX8_rings_X8_power : GoodIn wsX8_rings (wsV RX8 204 RX8 yX8_power wsX8_power) := goodIn_app (goodIn_of _ (by decide +kernel)) ggX8_rings_X8_power
set_option maxRecDepth 20000 in
theorem ggX8_rings_X8_shaped : GoodIn wsX8_rings wsX8_shaped := goodIn_ca (goodIn_r _ [25, 26, 27, 28, 29, 30, 31, 12, 32, 33, 34, 35, 36, 37, 10, 11, 13, 75, 76, 77, 78, 79, 80, 81, 82, 83, 84, 85, 86, 87, 88, 89, 90, 91, 92, 93, 94, 95, 96, 97, 98, 99, 100, 101, 102, 103, 104, 105, 106, 107] (by decide +kernel) (by decide +kernel)) (goodIn_sub (fun _ h => List.mem_cons_of_mem _ (List.mem_append_right _ h)) (by decide +kernel))
set_option maxRecDepth 20000 in
theorem gX8_rings_X8_shaped : GoodIn wsX8_rings (wsV RX8 183 RX8 yX8_shaped wsX8_shaped) := goodIn_app (goodIn_of _ (by decide +kernel)) ggX8_rings_X8_shaped
set_option maxRecDepth 20000 in
theorem ggX8_rings_X8_ringOf : GoodIn wsX8_rings wsX8_ringOf := goodIn_ca (goodIn_r _ [41, 26, 28, 27, 8, 7, 6, 42, 5, 43, 44, 20, 45, 33, 34, 12, 35, 36, 37, 10, 11, 13, 46, 47, 48, 49, 50, 51, 52, 53, 54, 55, 56, 2, 57, 58, 59, 29, 60, 61, 62, 63, 64, 75, 76, 77, 78, 79, 80, 81, 82, 83, 84, 85, 86, 87, 88, 89, 90, 91, 92, 93, 94, 95, 96, 97, 98, 99, 100, 101, 102, 103, 104, 105, 106, 107] (by decide +kernel) (by decide +kernel)) (goodIn_sub (fun _ h => List.mem_cons_of_mem _ (List.mem_append_right _ h)) (by decide +kernel))
set_option maxRecDepth 20000 in
theorem gX8_rings_X8_ringOf : GoodIn wsX8_rings (wsV RX8 198 RX8 yX8_ringOf wsX8_ringOf) := goodIn_app (goodIn_of _ (by decide +kernel)) ggX8_rings_X8_ringOf
set_option maxRecDepth 20000 in
theorem ggX8_rings_X8_ascend : GoodIn wsX8_rings wsX8_ascend := goodIn_r _ [68, 9, 75, 76, 77, 78, 79, 80, 81, 82, 83, 84, 85, 86, 87, 88, 89, 90, 91, 92, 93, 94, 95, 96, 97, 98, 99, 100, 101, 102, 103, 104, 105, 106, 107] (by decide +kernel) (by decide +kernel)
set_option maxRecDepth 20000 in
theorem gX8_rings_X8_ascend : GoodIn wsX8_rings (wsV RX8 208 RX8 yX8_ascend wsX8_ascend) := goodIn_app (goodIn_of _ (by decide +kernel)) ggX8_rings_X8_ascend
set_option maxRecDepth 20000 in
theorem ggX8_rings_X8_tells : GoodIn wsX8_rings wsX8_tells := goodIn_r _ [72, 18, 19, 20, 21, 73, 74, 9, 75, 76, 77, 78, 79, 80, 81, 82, 83, 84, 85, 86, 87, 88, 89, 90, 91, 92, 93, 94, 95, 96, 97, 98, 99, 100, 101, 102, 103, 104, 105, 106, 107] (by decide +kernel) (by decide +kernel)
set_option maxRecDepth 20000 in
theorem gX8_rings_X8_tells : GoodIn wsX8_rings (wsV RX8 164 RX8 yX8_tells wsX8_tells) := goodIn_app (goodIn_of _ (by decide +kernel)) ggX8_rings_X8_tells
theorem dX8_rings_0 : decode cX8_rings 0 = .ok (.aload_n 0, 1) := by decide +kernel
theorem dX8_rings_1 : decode cX8_rings 1 = .ok (.iconst 0, 1) := by decide +kernel
theorem dX8_rings_2 : decode cX8_rings 2 = .ok (.putfield 61, 3) := by decide +kernel
theorem dX8_rings_5 : decode cX8_rings 5 = .ok (.aload_n 0, 1) := by decide +kernel
theorem dX8_rings_6 : decode cX8_rings 6 = .ok (.getfield 108, 3) := by decide +kernel
theorem dX8_rings_9 : decode cX8_rings 9 = .ok (.iconst 1, 1) := by decide +kernel
theorem dX8_rings_10 : decode cX8_rings 10 = .ok (.if_icmp .ne 15, 3) := by decide +kernel
theorem dX8_rings_13 : decode cX8_rings 13 = .ok (.iload_n 1, 1) := by decide +kernel
theorem dX8_rings_14 : decode cX8_rings 14 = .ok (.i2l, 1) := by decide +kernel
theorem dX8_rings_15 : decode cX8_rings 15 = .ok (.lconst 1, 1) := by decide +kernel
theorem dX8_rings_16 : decode cX8_rings 16 = .ok (.ldc2_w 202, 3) := by decide +kernel
theorem dX8_rings_19 : decode cX8_rings 19 = .ok (.invokestatic 68, 3) := by decide +kernel
theorem dX8_rings_22 : decode cX8_rings 22 = .ok (.ifCond .ne 5, 3) := by decide +kernel
theorem dX8_rings_25 : decode cX8_rings 25 = .ok (.iconst (-1), 1) := by decide +kernel
theorem dX8_rings_26 : decode cX8_rings 26 = .ok (.ireturn, 1) := by decide +kernel
theorem dX8_rings_27 : decode cX8_rings 27 = .ok (.aload_n 0, 1) := by decide +kernel
theorem dX8_rings_28 : decode cX8_rings 28 = .ok (.iload_n 1, 1) := by decide +kernel
theorem dX8_rings_29 : decode cX8_rings 29 = .ok (.invokevirtual 204, 3) := by decide +kernel
theorem dX8_rings_32 : decode cX8_rings 32 = .ok (.istore_n 2, 1) := by decide +kernel
theorem dX8_rings_33 : decode cX8_rings 33 = .ok (.iload_n 2, 1) := by decide +kernel
theorem dX8_rings_34 : decode cX8_rings 34 = .ok (.sipush 20000, 3) := by decide +kernel
theorem dX8_rings_37 : decode cX8_rings 37 = .ok (.if_icmp .le 6, 3) := by decide +kernel
theorem dX8_rings_40 : decode cX8_rings 40 = .ok (.bipush (-2), 2) := by decide +kernel
theorem dX8_rings_42 : decode cX8_rings 42 = .ok (.ireturn, 1) := by decide +kernel
theorem dX8_rings_43 : decode cX8_rings 43 = .ok (.iconst 0, 1) := by decide +kernel
theorem dX8_rings_44 : decode cX8_rings 44 = .ok (.istore_n 3, 1) := by decide +kernel
theorem dX8_rings_45 : decode cX8_rings 45 = .ok (.iconst 0, 1) := by decide +kernel
theorem dX8_rings_46 : decode cX8_rings 46 = .ok (.istore 4, 2) := by decide +kernel
theorem dX8_rings_48 : decode cX8_rings 48 = .ok (.iload 4, 2) := by decide +kernel
theorem dX8_rings_50 : decode cX8_rings 50 = .ok (.iload_n 2, 1) := by decide +kernel
theorem dX8_rings_51 : decode cX8_rings 51 = .ok (.if_icmp .ge 111, 3) := by decide +kernel
theorem dX8_rings_54 : decode cX8_rings 54 = .ok (.iload 4, 2) := by decide +kernel
theorem dX8_rings_56 : decode cX8_rings 56 = .ok (.istore 5, 2) := by decide +kernel
theorem dX8_rings_58 : decode cX8_rings 58 = .ok (.iconst 0, 1) := by decide +kernel
theorem dX8_rings_59 : decode cX8_rings 59 = .ok (.istore 6, 2) := by decide +kernel
theorem dX8_rings_61 : decode cX8_rings 61 = .ok (.iload 6, 2) := by decide +kernel
theorem dX8_rings_63 : decode cX8_rings 63 = .ok (.iload_n 1, 1) := by decide +kernel
theorem dX8_rings_64 : decode cX8_rings 64 = .ok (.if_icmp .ge 32, 3) := by decide +kernel
theorem dX8_rings_67 : decode cX8_rings 67 = .ok (.aload_n 0, 1) := by decide +kernel
theorem dX8_rings_68 : decode cX8_rings 68 = .ok (.getfield 39, 3) := by decide +kernel
theorem dX8_rings_71 : decode cX8_rings 71 = .ok (.iload 6, 2) := by decide +kernel
theorem dX8_rings_73 : decode cX8_rings 73 = .ok (.iload 5, 2) := by decide +kernel
theorem dX8_rings_75 : decode cX8_rings 75 = .ok (.aload_n 0, 1) := by decide +kernel
theorem dX8_rings_76 : decode cX8_rings 76 = .ok (.getfield 105, 3) := by decide +kernel
theorem dX8_rings_79 : decode cX8_rings 79 = .ok (.irem, 1) := by decide +kernel
theorem dX8_rings_80 : decode cX8_rings 80 = .ok (.iastore, 1) := by decide +kernel
theorem dX8_rings_81 : decode cX8_rings 81 = .ok (.iload 5, 2) := by decide +kernel
theorem dX8_rings_83 : decode cX8_rings 83 = .ok (.aload_n 0, 1) := by decide +kernel
theorem dX8_rings_84 : decode cX8_rings 84 = .ok (.getfield 105, 3) := by decide +kernel
theorem dX8_rings_87 : decode cX8_rings 87 = .ok (.idiv, 1) := by decide +kernel
theorem dX8_rings_88 : decode cX8_rings 88 = .ok (.istore 5, 2) := by decide +kernel
theorem dX8_rings_90 : decode cX8_rings 90 = .ok (.iinc 6 1, 3) := by decide +kernel
theorem dX8_rings_93 : decode cX8_rings 93 = .ok (.goto (-32), 3) := by decide +kernel
theorem dX8_rings_96 : decode cX8_rings 96 = .ok (.aload_n 0, 1) := by decide +kernel
theorem dX8_rings_97 : decode cX8_rings 97 = .ok (.aload_n 0, 1) := by decide +kernel
theorem dX8_rings_98 : decode cX8_rings 98 = .ok (.getfield 39, 3) := by decide +kernel
theorem dX8_rings_101 : decode cX8_rings 101 = .ok (.iload_n 1, 1) := by decide +kernel
theorem dX8_rings_102 : decode cX8_rings 102 = .ok (.invokevirtual 183, 3) := by decide +kernel
theorem dX8_rings_105 : decode cX8_rings 105 = .ok (.ifCond .ne 6, 3) := by decide +kernel
theorem dX8_rings_108 : decode cX8_rings 108 = .ok (.bipush (-2), 2) := by decide +kernel
theorem dX8_rings_110 : decode cX8_rings 110 = .ok (.ireturn, 1) := by decide +kernel
theorem dX8_rings_111 : decode cX8_rings 111 = .ok (.aload_n 0, 1) := by decide +kernel
theorem dX8_rings_112 : decode cX8_rings 112 = .ok (.aload_n 0, 1) := by decide +kernel
theorem dX8_rings_113 : decode cX8_rings 113 = .ok (.getfield 39, 3) := by decide +kernel
theorem dX8_rings_116 : decode cX8_rings 116 = .ok (.iload_n 1, 1) := by decide +kernel
theorem dX8_rings_117 : decode cX8_rings 117 = .ok (.invokevirtual 198, 3) := by decide +kernel
theorem dX8_rings_120 : decode cX8_rings 120 = .ok (.iconst 1, 1) := by decide +kernel
theorem dX8_rings_121 : decode cX8_rings 121 = .ok (.if_icmp .ne 35, 3) := by decide +kernel
theorem dX8_rings_124 : decode cX8_rings 124 = .ok (.aload_n 0, 1) := by decide +kernel
theorem dX8_rings_125 : decode cX8_rings 125 = .ok (.getfield 193, 3) := by decide +kernel
theorem dX8_rings_128 : decode cX8_rings 128 = .ok (.ifCond .eq 28, 3) := by decide +kernel
theorem dX8_rings_131 : decode cX8_rings 131 = .ok (.aload_n 0, 1) := by decide +kernel
theorem dX8_rings_132 : decode cX8_rings 132 = .ok (.getfield 190, 3) := by decide +kernel
theorem dX8_rings_135 : decode cX8_rings 135 = .ok (.aload_n 0, 1) := by decide +kernel
theorem dX8_rings_136 : decode cX8_rings 136 = .ok (.getfield 187, 3) := by decide +kernel
theorem dX8_rings_139 : decode cX8_rings 139 = .ok (.lcmp, 1) := by decide +kernel
theorem dX8_rings_140 : decode cX8_rings 140 = .ok (.ifCond .ne 16, 3) := by decide +kernel
theorem dX8_rings_143 : decode cX8_rings 143 = .ok (.aload_n 0, 1) := by decide +kernel
theorem dX8_rings_144 : decode cX8_rings 144 = .ok (.getfield 32, 3) := by decide +kernel
theorem dX8_rings_147 : decode cX8_rings 147 = .ok (.iload_n 3, 1) := by decide +kernel
theorem dX8_rings_148 : decode cX8_rings 148 = .ok (.aload_n 0, 1) := by decide +kernel
theorem dX8_rings_149 : decode cX8_rings 149 = .ok (.getfield 187, 3) := by decide +kernel
theorem dX8_rings_152 : decode cX8_rings 152 = .ok (.lastore, 1) := by decide +kernel
theorem dX8_rings_153 : decode cX8_rings 153 = .ok (.iinc 3 1, 3) := by decide +kernel
theorem dX8_rings_156 : decode cX8_rings 156 = .ok (.iinc 4 1, 3) := by decide +kernel
theorem dX8_rings_159 : decode cX8_rings 159 = .ok (.goto (-111), 3) := by decide +kernel
theorem dX8_rings_162 : decode cX8_rings 162 = .ok (.aload_n 0, 1) := by decide +kernel
theorem dX8_rings_163 : decode cX8_rings 163 = .ok (.iload_n 3, 1) := by decide +kernel
theorem dX8_rings_164 : decode cX8_rings 164 = .ok (.invokevirtual 208, 3) := by decide +kernel
theorem dX8_rings_167 : decode cX8_rings 167 = .ok (.aload_n 0, 1) := by decide +kernel
theorem dX8_rings_168 : decode cX8_rings 168 = .ok (.iload_n 3, 1) := by decide +kernel
theorem dX8_rings_169 : decode cX8_rings 169 = .ok (.invokevirtual 164, 3) := by decide +kernel
theorem dX8_rings_172 : decode cX8_rings 172 = .ok (.iload_n 3, 1) := by decide +kernel
theorem dX8_rings_173 : decode cX8_rings 173 = .ok (.ireturn, 1) := by decide +kernel
theorem dX8_set_0 : decode cX8_set 0 = .ok (.lload_n 1, 1) := by decide +kernel
theorem dX8_set_1 : decode cX8_set 1 = .ok (.lconst 0, 1) := by decide +kernel
theorem dX8_set_2 : decode cX8_set 2 = .ok (.lcmp, 1) := by decide +kernel
theorem dX8_set_3 : decode cX8_set 3 = .ok (.ifCond .ge 8, 3) := by decide +kernel
theorem dX8_set_6 : decode cX8_set 6 = .ok (.lload_n 1, 1) := by decide +kernel
theorem dX8_set_7 : decode cX8_set 7 = .ok (.lneg, 1) := by decide +kernel
theorem dX8_set_8 : decode cX8_set 8 = .ok (.goto 4, 3) := by decide +kernel
theorem dX8_set_11 : decode cX8_set 11 = .ok (.lload_n 1, 1) := by decide +kernel
theorem dX8_set_12 : decode cX8_set 12 = .ok (.lstore_n 3, 1) := by decide +kernel
theorem dX8_set_13 : decode cX8_set 13 = .ok (.iconst 0, 1) := by decide +kernel
theorem dX8_set_14 : decode cX8_set 14 = .ok (.istore 5, 2) := by decide +kernel
theorem dX8_set_16 : decode cX8_set 16 = .ok (.iload 5, 2) := by decide +kernel
theorem dX8_set_18 : decode cX8_set 18 = .ok (.bipush 26, 2) := by decide +kernel
theorem dX8_set_20 : decode cX8_set 20 = .ok (.if_icmp .ge 24, 3) := by decide +kernel
theorem dX8_set_23 : decode cX8_set 23 = .ok (.aload_n 0, 1) := by decide +kernel
theorem dX8_set_24 : decode cX8_set 24 = .ok (.iload 5, 2) := by decide +kernel
theorem dX8_set_26 : decode cX8_set 26 = .ok (.lload_n 3, 1) := by decide +kernel
theorem dX8_set_27 : decode cX8_set 27 = .ok (.ldc2_w 118, 3) := by decide +kernel
theorem dX8_set_30 : decode cX8_set 30 = .ok (.lrem, 1) := by decide +kernel
theorem dX8_set_31 : decode cX8_set 31 = .ok (.lastore, 1) := by decide +kernel
theorem dX8_set_32 : decode cX8_set 32 = .ok (.lload_n 3, 1) := by decide +kernel
theorem dX8_set_33 : decode cX8_set 33 = .ok (.ldc2_w 118, 3) := by decide +kernel
theorem dX8_set_36 : decode cX8_set 36 = .ok (.ldiv, 1) := by decide +kernel
theorem dX8_set_37 : decode cX8_set 37 = .ok (.lstore_n 3, 1) := by decide +kernel
theorem dX8_set_38 : decode cX8_set 38 = .ok (.iinc 5 1, 3) := by decide +kernel
theorem dX8_set_41 : decode cX8_set 41 = .ok (.goto (-25), 3) := by decide +kernel
theorem dX8_set_44 : decode cX8_set 44 = .ok (.return_, 1) := by decide +kernel
theorem dX8_times_0 : decode cX8_times 0 = .ok (.lconst 0, 1) := by decide +kernel
theorem dX8_times_1 : decode cX8_times 1 = .ok (.lstore_n 3, 1) := by decide +kernel
theorem dX8_times_2 : decode cX8_times 2 = .ok (.iconst 0, 1) := by decide +kernel
theorem dX8_times_3 : decode cX8_times 3 = .ok (.istore 5, 2) := by decide +kernel
theorem dX8_times_5 : decode cX8_times 5 = .ok (.iload 5, 2) := by decide +kernel
theorem dX8_times_7 : decode cX8_times 7 = .ok (.bipush 26, 2) := by decide +kernel
theorem dX8_times_9 : decode cX8_times 9 = .ok (.if_icmp .ge 36, 3) := by decide +kernel
theorem dX8_times_12 : decode cX8_times 12 = .ok (.aload_n 0, 1) := by decide +kernel
theorem dX8_times_13 : decode cX8_times 13 = .ok (.iload 5, 2) := by decide +kernel
theorem dX8_times_15 : decode cX8_times 15 = .ok (.laload, 1) := by decide +kernel
theorem dX8_times_16 : decode cX8_times 16 = .ok (.lload_n 1, 1) := by decide +kernel
theorem dX8_times_17 : decode cX8_times 17 = .ok (.lmul, 1) := by decide +kernel
theorem dX8_times_18 : decode cX8_times 18 = .ok (.lload_n 3, 1) := by decide +kernel
theorem dX8_times_19 : decode cX8_times 19 = .ok (.ladd, 1) := by decide +kernel
theorem dX8_times_20 : decode cX8_times 20 = .ok (.lstore 6, 2) := by decide +kernel
theorem dX8_times_22 : decode cX8_times 22 = .ok (.aload_n 0, 1) := by decide +kernel
theorem dX8_times_23 : decode cX8_times 23 = .ok (.iload 5, 2) := by decide +kernel
theorem dX8_times_25 : decode cX8_times 25 = .ok (.lload 6, 2) := by decide +kernel
theorem dX8_times_27 : decode cX8_times 27 = .ok (.ldc2_w 118, 3) := by decide +kernel
theorem dX8_times_30 : decode cX8_times 30 = .ok (.lrem, 1) := by decide +kernel
theorem dX8_times_31 : decode cX8_times 31 = .ok (.lastore, 1) := by decide +kernel
theorem dX8_times_32 : decode cX8_times 32 = .ok (.lload 6, 2) := by decide +kernel
theorem dX8_times_34 : decode cX8_times 34 = .ok (.ldc2_w 118, 3) := by decide +kernel
theorem dX8_times_37 : decode cX8_times 37 = .ok (.ldiv, 1) := by decide +kernel
theorem dX8_times_38 : decode cX8_times 38 = .ok (.lstore_n 3, 1) := by decide +kernel
theorem dX8_times_39 : decode cX8_times 39 = .ok (.iinc 5 1, 3) := by decide +kernel
theorem dX8_times_42 : decode cX8_times 42 = .ok (.goto (-37), 3) := by decide +kernel
theorem dX8_times_45 : decode cX8_times 45 = .ok (.return_, 1) := by decide +kernel
set_option maxRecDepth 20000 in
theorem ggX8_takesOne_X8_restBy : GoodIn wsX8_takesOne wsX8_restBy := goodIn_r _ [7, 8, 9, 10, 11] (by decide +kernel) (by decide +kernel)
set_option maxRecDepth 20000 in
theorem gX8_takesOne_X8_restBy : GoodIn wsX8_takesOne (va_wsS RX8 136 yX8_restBy wsX8_restBy) := goodIn_app (goodIn_of _ (by decide +kernel)) ggX8_takesOne_X8_restBy
set_option maxRecDepth 20000 in
theorem ggX8_takesOne_X8_shaped : GoodIn wsX8_takesOne wsX8_shaped := goodIn_ca (goodIn_r _ [15, 16, 17, 18, 3, 19, 20, 6, 21, 22, 23, 24, 25, 26, 27, 28, 29, 30, 31, 32, 33, 34, 35, 36, 37, 38, 39, 40, 41, 42, 43, 44, 45, 46, 47, 48, 49, 50, 51, 52, 53, 54, 55, 56, 57, 58, 59, 60, 61, 62] (by decide +kernel) (by decide +kernel)) (goodIn_sub (fun _ h => List.mem_cons_of_mem _ (List.mem_append_right _ h)) (by decide +kernel))
set_option maxRecDepth 20000 in
theorem gX8_takesOne_X8_shaped : GoodIn wsX8_takesOne (wsV RX8 183 RX8 yX8_shaped wsX8_shaped) := goodIn_app (goodIn_of _ (by decide +kernel)) ggX8_takesOne_X8_shaped
set_option maxRecDepth 20000 in
theorem ggX8_takesOne_X8_isNumber : GoodIn wsX8_takesOne wsX8_isNumber := goodIn_r _ [24, 25, 26, 27, 28, 6, 29] (by decide +kernel) (by decide +kernel)
set_option maxRecDepth 20000 in
theorem gX8_takesOne_X8_isNumber : GoodIn wsX8_takesOne (va_wsS RX8 150 yX8_isNumber wsX8_isNumber) := goodIn_app (goodIn_of _ (by decide +kernel)) ggX8_takesOne_X8_isNumber
theorem dX8_takesOne_0 : decode cX8_takesOne 0 = .ok (.iload_n 1, 1) := by decide +kernel
theorem dX8_takesOne_1 : decode cX8_takesOne 1 = .ok (.i2l, 1) := by decide +kernel
theorem dX8_takesOne_2 : decode cX8_takesOne 2 = .ok (.lstore 4, 2) := by decide +kernel
theorem dX8_takesOne_4 : decode cX8_takesOne 4 = .ok (.iload_n 2, 1) := by decide +kernel
theorem dX8_takesOne_5 : decode cX8_takesOne 5 = .ok (.i2l, 1) := by decide +kernel
theorem dX8_takesOne_6 : decode cX8_takesOne 6 = .ok (.lstore 6, 2) := by decide +kernel
theorem dX8_takesOne_8 : decode cX8_takesOne 8 = .ok (.iconst 0, 1) := by decide +kernel
theorem dX8_takesOne_9 : decode cX8_takesOne 9 = .ok (.istore 8, 2) := by decide +kernel
theorem dX8_takesOne_11 : decode cX8_takesOne 11 = .ok (.iload 8, 2) := by decide +kernel
theorem dX8_takesOne_13 : decode cX8_takesOne 13 = .ok (.iload_n 3, 1) := by decide +kernel
theorem dX8_takesOne_14 : decode cX8_takesOne 14 = .ok (.if_icmp .ge 144, 3) := by decide +kernel
theorem dX8_takesOne_17 : decode cX8_takesOne 17 = .ok (.lload 6, 2) := by decide +kernel
theorem dX8_takesOne_19 : decode cX8_takesOne 19 = .ok (.aload_n 0, 1) := by decide +kernel
theorem dX8_takesOne_20 : decode cX8_takesOne 20 = .ok (.getfield 105, 3) := by decide +kernel
theorem dX8_takesOne_23 : decode cX8_takesOne 23 = .ok (.i2l, 1) := by decide +kernel
theorem dX8_takesOne_24 : decode cX8_takesOne 24 = .ok (.lrem, 1) := by decide +kernel
theorem dX8_takesOne_25 : decode cX8_takesOne 25 = .ok (.lconst 0, 1) := by decide +kernel
theorem dX8_takesOne_26 : decode cX8_takesOne 26 = .ok (.lcmp, 1) := by decide +kernel
theorem dX8_takesOne_27 : decode cX8_takesOne 27 = .ok (.ifCond .eq 6, 3) := by decide +kernel
theorem dX8_takesOne_30 : decode cX8_takesOne 30 = .ok (.bipush (-3), 2) := by decide +kernel
theorem dX8_takesOne_32 : decode cX8_takesOne 32 = .ok (.ireturn, 1) := by decide +kernel
theorem dX8_takesOne_33 : decode cX8_takesOne 33 = .ok (.lload 4, 2) := by decide +kernel
theorem dX8_takesOne_35 : decode cX8_takesOne 35 = .ok (.aload_n 0, 1) := by decide +kernel
theorem dX8_takesOne_36 : decode cX8_takesOne 36 = .ok (.getfield 105, 3) := by decide +kernel
theorem dX8_takesOne_39 : decode cX8_takesOne 39 = .ok (.invokestatic 136, 3) := by decide +kernel
theorem dX8_takesOne_42 : decode cX8_takesOne 42 = .ok (.l2i, 1) := by decide +kernel
theorem dX8_takesOne_43 : decode cX8_takesOne 43 = .ok (.istore 9, 2) := by decide +kernel
theorem dX8_takesOne_45 : decode cX8_takesOne 45 = .ok (.aload_n 0, 1) := by decide +kernel
theorem dX8_takesOne_46 : decode cX8_takesOne 46 = .ok (.getfield 39, 3) := by decide +kernel
theorem dX8_takesOne_49 : decode cX8_takesOne 49 = .ok (.iload 8, 2) := by decide +kernel
theorem dX8_takesOne_51 : decode cX8_takesOne 51 = .ok (.iload 9, 2) := by decide +kernel
theorem dX8_takesOne_53 : decode cX8_takesOne 53 = .ok (.iastore, 1) := by decide +kernel
theorem dX8_takesOne_54 : decode cX8_takesOne 54 = .ok (.aload_n 0, 1) := by decide +kernel
theorem dX8_takesOne_55 : decode cX8_takesOne 55 = .ok (.getfield 20, 3) := by decide +kernel
theorem dX8_takesOne_58 : decode cX8_takesOne 58 = .ok (.iconst 3, 1) := by decide +kernel
theorem dX8_takesOne_59 : decode cX8_takesOne 59 = .ok (.iload 9, 2) := by decide +kernel
theorem dX8_takesOne_61 : decode cX8_takesOne 61 = .ok (.imul, 1) := by decide +kernel
theorem dX8_takesOne_62 : decode cX8_takesOne 62 = .ok (.laload, 1) := by decide +kernel
theorem dX8_takesOne_63 : decode cX8_takesOne 63 = .ok (.lload 4, 2) := by decide +kernel
theorem dX8_takesOne_65 : decode cX8_takesOne 65 = .ok (.lmul, 1) := by decide +kernel
theorem dX8_takesOne_66 : decode cX8_takesOne 66 = .ok (.aload_n 0, 1) := by decide +kernel
theorem dX8_takesOne_67 : decode cX8_takesOne 67 = .ok (.getfield 20, 3) := by decide +kernel
theorem dX8_takesOne_70 : decode cX8_takesOne 70 = .ok (.iconst 3, 1) := by decide +kernel
theorem dX8_takesOne_71 : decode cX8_takesOne 71 = .ok (.iload 9, 2) := by decide +kernel
theorem dX8_takesOne_73 : decode cX8_takesOne 73 = .ok (.imul, 1) := by decide +kernel
theorem dX8_takesOne_74 : decode cX8_takesOne 74 = .ok (.iconst 1, 1) := by decide +kernel
theorem dX8_takesOne_75 : decode cX8_takesOne 75 = .ok (.iadd, 1) := by decide +kernel
theorem dX8_takesOne_76 : decode cX8_takesOne 76 = .ok (.laload, 1) := by decide +kernel
theorem dX8_takesOne_77 : decode cX8_takesOne 77 = .ok (.ladd, 1) := by decide +kernel
theorem dX8_takesOne_78 : decode cX8_takesOne 78 = .ok (.aload_n 0, 1) := by decide +kernel
theorem dX8_takesOne_79 : decode cX8_takesOne 79 = .ok (.getfield 20, 3) := by decide +kernel
theorem dX8_takesOne_82 : decode cX8_takesOne 82 = .ok (.iconst 3, 1) := by decide +kernel
theorem dX8_takesOne_83 : decode cX8_takesOne 83 = .ok (.iload 9, 2) := by decide +kernel
theorem dX8_takesOne_85 : decode cX8_takesOne 85 = .ok (.imul, 1) := by decide +kernel
theorem dX8_takesOne_86 : decode cX8_takesOne 86 = .ok (.iconst 2, 1) := by decide +kernel
theorem dX8_takesOne_87 : decode cX8_takesOne 87 = .ok (.iadd, 1) := by decide +kernel
theorem dX8_takesOne_88 : decode cX8_takesOne 88 = .ok (.laload, 1) := by decide +kernel
theorem dX8_takesOne_89 : decode cX8_takesOne 89 = .ok (.ldiv, 1) := by decide +kernel
theorem dX8_takesOne_90 : decode cX8_takesOne 90 = .ok (.lstore 4, 2) := by decide +kernel
theorem dX8_takesOne_92 : decode cX8_takesOne 92 = .ok (.aload_n 0, 1) := by decide +kernel
theorem dX8_takesOne_93 : decode cX8_takesOne 93 = .ok (.getfield 20, 3) := by decide +kernel
theorem dX8_takesOne_96 : decode cX8_takesOne 96 = .ok (.iconst 3, 1) := by decide +kernel
theorem dX8_takesOne_97 : decode cX8_takesOne 97 = .ok (.iload 9, 2) := by decide +kernel
theorem dX8_takesOne_99 : decode cX8_takesOne 99 = .ok (.imul, 1) := by decide +kernel
theorem dX8_takesOne_100 : decode cX8_takesOne 100 = .ok (.laload, 1) := by decide +kernel
theorem dX8_takesOne_101 : decode cX8_takesOne 101 = .ok (.lload 6, 2) := by decide +kernel
theorem dX8_takesOne_103 : decode cX8_takesOne 103 = .ok (.lmul, 1) := by decide +kernel
theorem dX8_takesOne_104 : decode cX8_takesOne 104 = .ok (.aload_n 0, 1) := by decide +kernel
theorem dX8_takesOne_105 : decode cX8_takesOne 105 = .ok (.getfield 20, 3) := by decide +kernel
theorem dX8_takesOne_108 : decode cX8_takesOne 108 = .ok (.iconst 3, 1) := by decide +kernel
theorem dX8_takesOne_109 : decode cX8_takesOne 109 = .ok (.iload 9, 2) := by decide +kernel
theorem dX8_takesOne_111 : decode cX8_takesOne 111 = .ok (.imul, 1) := by decide +kernel
theorem dX8_takesOne_112 : decode cX8_takesOne 112 = .ok (.iconst 2, 1) := by decide +kernel
theorem dX8_takesOne_113 : decode cX8_takesOne 113 = .ok (.iadd, 1) := by decide +kernel
theorem dX8_takesOne_114 : decode cX8_takesOne 114 = .ok (.laload, 1) := by decide +kernel
theorem dX8_takesOne_115 : decode cX8_takesOne 115 = .ok (.ldiv, 1) := by decide +kernel
theorem dX8_takesOne_116 : decode cX8_takesOne 116 = .ok (.lstore 6, 2) := by decide +kernel
theorem dX8_takesOne_118 : decode cX8_takesOne 118 = .ok (.aload_n 0, 1) := by decide +kernel
theorem dX8_takesOne_119 : decode cX8_takesOne 119 = .ok (.aload_n 0, 1) := by decide +kernel
theorem dX8_takesOne_120 : decode cX8_takesOne 120 = .ok (.getfield 39, 3) := by decide +kernel
theorem dX8_takesOne_123 : decode cX8_takesOne 123 = .ok (.iload 8, 2) := by decide +kernel
theorem dX8_takesOne_125 : decode cX8_takesOne 125 = .ok (.iconst 1, 1) := by decide +kernel
theorem dX8_takesOne_126 : decode cX8_takesOne 126 = .ok (.iadd, 1) := by decide +kernel
theorem dX8_takesOne_127 : decode cX8_takesOne 127 = .ok (.invokevirtual 183, 3) := by decide +kernel
theorem dX8_takesOne_130 : decode cX8_takesOne 130 = .ok (.ifCond .eq 19, 3) := by decide +kernel
theorem dX8_takesOne_133 : decode cX8_takesOne 133 = .ok (.lload 4, 2) := by decide +kernel
theorem dX8_takesOne_135 : decode cX8_takesOne 135 = .ok (.invokestatic 150, 3) := by decide +kernel
theorem dX8_takesOne_138 : decode cX8_takesOne 138 = .ok (.ifCond .eq 11, 3) := by decide +kernel
theorem dX8_takesOne_141 : decode cX8_takesOne 141 = .ok (.lload 6, 2) := by decide +kernel
theorem dX8_takesOne_143 : decode cX8_takesOne 143 = .ok (.invokestatic 150, 3) := by decide +kernel
theorem dX8_takesOne_146 : decode cX8_takesOne 146 = .ok (.ifCond .ne 6, 3) := by decide +kernel
theorem dX8_takesOne_149 : decode cX8_takesOne 149 = .ok (.bipush (-4), 2) := by decide +kernel
theorem dX8_takesOne_151 : decode cX8_takesOne 151 = .ok (.ireturn, 1) := by decide +kernel
theorem dX8_takesOne_152 : decode cX8_takesOne 152 = .ok (.iinc 8 1, 3) := by decide +kernel
theorem dX8_takesOne_155 : decode cX8_takesOne 155 = .ok (.goto (-144), 3) := by decide +kernel
theorem dX8_takesOne_158 : decode cX8_takesOne 158 = .ok (.iconst 0, 1) := by decide +kernel
theorem dX8_takesOne_159 : decode cX8_takesOne 159 = .ok (.ireturn, 1) := by decide +kernel
set_option maxRecDepth 20000 in
theorem ggX8_falls_X8_in : GoodIn wsX8_falls wsX8_in := goodIn_r _ [9] (by decide +kernel) (by decide +kernel)
set_option maxRecDepth 20000 in
theorem gX8_falls_X8_in : GoodIn wsX8_falls (va_wsS RX8 68 yX8_in wsX8_in) := goodIn_app (goodIn_of _ (by decide +kernel)) ggX8_falls_X8_in
set_option maxRecDepth 20000 in
theorem ggX8_falls_X8_power : GoodIn wsX8_falls wsX8_power := goodIn_r _ [13, 14, 15, 16, 17, 18, 45, 46, 47, 48, 49, 50, 51, 52, 53, 54, 55, 56, 57, 58, 59, 60, 61, 62, 63, 64, 65, 66, 67, 68, 69, 70, 71, 72, 73, 74, 75, 76, 77] (by decide +kernel) (by decide +kernel)
set_option maxRecDepth 20000 in
theorem gX8_falls_X8_power : GoodIn wsX8_falls (wsV RX8 204 RX8 yX8_power wsX8_power) := goodIn_app (goodIn_of _ (by decide +kernel)) ggX8_falls_X8_power
set_option maxRecDepth 20000 in
theorem ggX8_falls_X8_takesOne : GoodIn wsX8_falls wsX8_takesOne := goodIn_ca (goodIn_r _ [22, 14, 23, 24, 25, 26, 8, 27, 28, 29, 30, 31, 32, 33, 34, 35, 4, 36, 5, 37, 38, 39, 40, 41, 42, 43, 44, 6, 7, 9, 45, 46, 47, 48, 49, 50, 51, 52, 53, 54, 55, 56, 57, 58, 59, 60, 61, 62, 63, 64, 65, 66, 67, 68, 69, 70, 71, 72, 73, 74, 75, 76, 77] (by decide +kernel) (by decide +kernel)) (goodIn_sub (fun _ h => List.mem_cons_of_mem _ (List.mem_append_right _ h)) (by decide +kernel))
set_option maxRecDepth 20000 in
theorem gX8_falls_X8_takesOne : GoodIn wsX8_falls (wsV RX8 211 RX8 yX8_takesOne wsX8_takesOne) := goodIn_app (goodIn_of _ (by decide +kernel)) ggX8_falls_X8_takesOne
theorem dX8_falls_0 : decode cX8_falls 0 = .ok (.aload_n 0, 1) := by decide +kernel
theorem dX8_falls_1 : decode cX8_falls 1 = .ok (.iconst 0, 1) := by decide +kernel
theorem dX8_falls_2 : decode cX8_falls 2 = .ok (.putfield 61, 3) := by decide +kernel
theorem dX8_falls_5 : decode cX8_falls 5 = .ok (.aload_n 0, 1) := by decide +kernel
theorem dX8_falls_6 : decode cX8_falls 6 = .ok (.getfield 108, 3) := by decide +kernel
theorem dX8_falls_9 : decode cX8_falls 9 = .ok (.iconst 1, 1) := by decide +kernel
theorem dX8_falls_10 : decode cX8_falls 10 = .ok (.if_icmp .ne 15, 3) := by decide +kernel
theorem dX8_falls_13 : decode cX8_falls 13 = .ok (.iload_n 1, 1) := by decide +kernel
theorem dX8_falls_14 : decode cX8_falls 14 = .ok (.i2l, 1) := by decide +kernel
theorem dX8_falls_15 : decode cX8_falls 15 = .ok (.lconst 1, 1) := by decide +kernel
theorem dX8_falls_16 : decode cX8_falls 16 = .ok (.ldc2_w 202, 3) := by decide +kernel
theorem dX8_falls_19 : decode cX8_falls 19 = .ok (.invokestatic 68, 3) := by decide +kernel
theorem dX8_falls_22 : decode cX8_falls 22 = .ok (.ifCond .ne 5, 3) := by decide +kernel
theorem dX8_falls_25 : decode cX8_falls 25 = .ok (.iconst (-1), 1) := by decide +kernel
theorem dX8_falls_26 : decode cX8_falls 26 = .ok (.ireturn, 1) := by decide +kernel
theorem dX8_falls_27 : decode cX8_falls 27 = .ok (.aload_n 0, 1) := by decide +kernel
theorem dX8_falls_28 : decode cX8_falls 28 = .ok (.iload_n 1, 1) := by decide +kernel
theorem dX8_falls_29 : decode cX8_falls 29 = .ok (.invokevirtual 204, 3) := by decide +kernel
theorem dX8_falls_32 : decode cX8_falls 32 = .ok (.istore_n 2, 1) := by decide +kernel
theorem dX8_falls_33 : decode cX8_falls 33 = .ok (.iload_n 2, 1) := by decide +kernel
theorem dX8_falls_34 : decode cX8_falls 34 = .ok (.sipush 20000, 3) := by decide +kernel
theorem dX8_falls_37 : decode cX8_falls 37 = .ok (.if_icmp .le 6, 3) := by decide +kernel
theorem dX8_falls_40 : decode cX8_falls 40 = .ok (.bipush (-2), 2) := by decide +kernel
theorem dX8_falls_42 : decode cX8_falls 42 = .ok (.ireturn, 1) := by decide +kernel
theorem dX8_falls_43 : decode cX8_falls 43 = .ok (.iconst 0, 1) := by decide +kernel
theorem dX8_falls_44 : decode cX8_falls 44 = .ok (.istore_n 3, 1) := by decide +kernel
theorem dX8_falls_45 : decode cX8_falls 45 = .ok (.iconst 0, 1) := by decide +kernel
theorem dX8_falls_46 : decode cX8_falls 46 = .ok (.istore 4, 2) := by decide +kernel
theorem dX8_falls_48 : decode cX8_falls 48 = .ok (.iload 4, 2) := by decide +kernel
theorem dX8_falls_50 : decode cX8_falls 50 = .ok (.iload_n 2, 1) := by decide +kernel
theorem dX8_falls_51 : decode cX8_falls 51 = .ok (.if_icmp .ge 47, 3) := by decide +kernel
theorem dX8_falls_54 : decode cX8_falls 54 = .ok (.aload_n 0, 1) := by decide +kernel
theorem dX8_falls_55 : decode cX8_falls 55 = .ok (.iload 4, 2) := by decide +kernel
theorem dX8_falls_57 : decode cX8_falls 57 = .ok (.iload_n 2, 1) := by decide +kernel
theorem dX8_falls_58 : decode cX8_falls 58 = .ok (.iload_n 1, 1) := by decide +kernel
theorem dX8_falls_59 : decode cX8_falls 59 = .ok (.invokevirtual 211, 3) := by decide +kernel
theorem dX8_falls_62 : decode cX8_falls 62 = .ok (.istore 5, 2) := by decide +kernel
theorem dX8_falls_64 : decode cX8_falls 64 = .ok (.iload 5, 2) := by decide +kernel
theorem dX8_falls_66 : decode cX8_falls 66 = .ok (.ifCond .eq 6, 3) := by decide +kernel
theorem dX8_falls_69 : decode cX8_falls 69 = .ok (.iload 5, 2) := by decide +kernel
theorem dX8_falls_71 : decode cX8_falls 71 = .ok (.ireturn, 1) := by decide +kernel
theorem dX8_falls_72 : decode cX8_falls 72 = .ok (.iload_n 3, 1) := by decide +kernel
theorem dX8_falls_73 : decode cX8_falls 73 = .ok (.aload_n 0, 1) := by decide +kernel
theorem dX8_falls_74 : decode cX8_falls 74 = .ok (.getfield 170, 3) := by decide +kernel
theorem dX8_falls_77 : decode cX8_falls 77 = .ok (.aload_n 0, 1) := by decide +kernel
theorem dX8_falls_78 : decode cX8_falls 78 = .ok (.getfield 176, 3) := by decide +kernel
theorem dX8_falls_81 : decode cX8_falls 81 = .ok (.lcmp, 1) := by decide +kernel
theorem dX8_falls_82 : decode cX8_falls 82 = .ok (.ifCond .ge 7, 3) := by decide +kernel
theorem dX8_falls_85 : decode cX8_falls 85 = .ok (.iconst 1, 1) := by decide +kernel
theorem dX8_falls_86 : decode cX8_falls 86 = .ok (.goto 4, 3) := by decide +kernel
theorem dX8_falls_89 : decode cX8_falls 89 = .ok (.iconst 0, 1) := by decide +kernel
theorem dX8_falls_90 : decode cX8_falls 90 = .ok (.iadd, 1) := by decide +kernel
theorem dX8_falls_91 : decode cX8_falls 91 = .ok (.istore_n 3, 1) := by decide +kernel
theorem dX8_falls_92 : decode cX8_falls 92 = .ok (.iinc 4 1, 3) := by decide +kernel
theorem dX8_falls_95 : decode cX8_falls 95 = .ok (.goto (-47), 3) := by decide +kernel
theorem dX8_falls_98 : decode cX8_falls 98 = .ok (.iload_n 3, 1) := by decide +kernel
theorem dX8_falls_99 : decode cX8_falls 99 = .ok (.ireturn, 1) := by decide +kernel
set_option maxRecDepth 20000 in
theorem ggX8_least_X8_in : GoodIn wsX8_least wsX8_in := goodIn_r _ [9] (by decide +kernel) (by decide +kernel)
set_option maxRecDepth 20000 in
theorem gX8_least_X8_in : GoodIn wsX8_least (va_wsS RX8 68 yX8_in wsX8_in) := goodIn_app (goodIn_of _ (by decide +kernel)) ggX8_least_X8_in
set_option maxRecDepth 20000 in
theorem ggX8_least_X8_goes : GoodIn wsX8_least wsX8_goes := goodIn_ca (goodIn_r _ [13, 2, 14, 15, 16, 17, 5, 18, 19, 20, 21, 8, 22, 23, 24, 25, 26, 27, 28, 29, 30, 31, 32, 33, 34, 35, 6, 7, 9, 36, 37, 38, 39, 40, 41, 42, 43, 44, 45, 46, 47, 48, 49, 50, 51, 52, 53, 54, 55, 56, 57, 58, 59, 60, 61, 62, 63, 64, 65, 66, 67, 68] (by decide +kernel) (by decide +kernel)) (goodIn_sub (fun _ h => List.mem_cons_of_mem _ (List.mem_append_right _ h)) (by decide +kernel))
set_option maxRecDepth 20000 in
theorem gX8_least_X8_goes : GoodIn wsX8_least (wsV RX8 154 RX8 yX8_goes wsX8_goes) := goodIn_app (goodIn_of _ (by decide +kernel)) ggX8_least_X8_goes
theorem dX8_least_0 : decode cX8_least 0 = .ok (.aload_n 0, 1) := by decide +kernel
theorem dX8_least_1 : decode cX8_least 1 = .ok (.iconst 0, 1) := by decide +kernel
theorem dX8_least_2 : decode cX8_least 2 = .ok (.putfield 61, 3) := by decide +kernel
theorem dX8_least_5 : decode cX8_least 5 = .ok (.aload_n 0, 1) := by decide +kernel
theorem dX8_least_6 : decode cX8_least 6 = .ok (.getfield 108, 3) := by decide +kernel
theorem dX8_least_9 : decode cX8_least 9 = .ok (.ifCond .eq 27, 3) := by decide +kernel
theorem dX8_least_12 : decode cX8_least 12 = .ok (.iload_n 1, 1) := by decide +kernel
theorem dX8_least_13 : decode cX8_least 13 = .ok (.i2l, 1) := by decide +kernel
theorem dX8_least_14 : decode cX8_least 14 = .ok (.lconst 1, 1) := by decide +kernel
theorem dX8_least_15 : decode cX8_least 15 = .ok (.ldc2_w 215, 3) := by decide +kernel
theorem dX8_least_18 : decode cX8_least 18 = .ok (.invokestatic 68, 3) := by decide +kernel
theorem dX8_least_21 : decode cX8_least 21 = .ok (.ifCond .eq 15, 3) := by decide +kernel
theorem dX8_least_24 : decode cX8_least 24 = .ok (.iload_n 2, 1) := by decide +kernel
theorem dX8_least_25 : decode cX8_least 25 = .ok (.i2l, 1) := by decide +kernel
theorem dX8_least_26 : decode cX8_least 26 = .ok (.lconst 0, 1) := by decide +kernel
theorem dX8_least_27 : decode cX8_least 27 = .ok (.ldc2_w 217, 3) := by decide +kernel
theorem dX8_least_30 : decode cX8_least 30 = .ok (.invokestatic 68, 3) := by decide +kernel
theorem dX8_least_33 : decode cX8_least 33 = .ok (.ifCond .ne 5, 3) := by decide +kernel
theorem dX8_least_36 : decode cX8_least 36 = .ok (.iconst (-1), 1) := by decide +kernel
theorem dX8_least_37 : decode cX8_least 37 = .ok (.ireturn, 1) := by decide +kernel
theorem dX8_least_38 : decode cX8_least 38 = .ok (.iconst 2, 1) := by decide +kernel
theorem dX8_least_39 : decode cX8_least 39 = .ok (.istore_n 3, 1) := by decide +kernel
theorem dX8_least_40 : decode cX8_least 40 = .ok (.iload_n 3, 1) := by decide +kernel
theorem dX8_least_41 : decode cX8_least 41 = .ok (.iload_n 1, 1) := by decide +kernel
theorem dX8_least_42 : decode cX8_least 42 = .ok (.if_icmp .gt 82, 3) := by decide +kernel
theorem dX8_least_45 : decode cX8_least 45 = .ok (.aload_n 0, 1) := by decide +kernel
theorem dX8_least_46 : decode cX8_least 46 = .ok (.iload_n 3, 1) := by decide +kernel
theorem dX8_least_47 : decode cX8_least 47 = .ok (.i2l, 1) := by decide +kernel
theorem dX8_least_48 : decode cX8_least 48 = .ok (.putfield 146, 3) := by decide +kernel
theorem dX8_least_51 : decode cX8_least 51 = .ok (.iconst 0, 1) := by decide +kernel
theorem dX8_least_52 : decode cX8_least 52 = .ok (.istore 4, 2) := by decide +kernel
theorem dX8_least_54 : decode cX8_least 54 = .ok (.iconst 0, 1) := by decide +kernel
theorem dX8_least_55 : decode cX8_least 55 = .ok (.istore 5, 2) := by decide +kernel
theorem dX8_least_57 : decode cX8_least 57 = .ok (.iload 5, 2) := by decide +kernel
theorem dX8_least_59 : decode cX8_least 59 = .ok (.iload_n 2, 1) := by decide +kernel
theorem dX8_least_60 : decode cX8_least 60 = .ok (.if_icmp .ge 51, 3) := by decide +kernel
theorem dX8_least_63 : decode cX8_least 63 = .ok (.iload 4, 2) := by decide +kernel
theorem dX8_least_65 : decode cX8_least 65 = .ok (.ifCond .ne 46, 3) := by decide +kernel
theorem dX8_least_68 : decode cX8_least 68 = .ok (.aload_n 0, 1) := by decide +kernel
theorem dX8_least_69 : decode cX8_least 69 = .ok (.aload_n 0, 1) := by decide +kernel
theorem dX8_least_70 : decode cX8_least 70 = .ok (.getfield 146, 3) := by decide +kernel
theorem dX8_least_73 : decode cX8_least 73 = .ok (.invokevirtual 154, 3) := by decide +kernel
theorem dX8_least_76 : decode cX8_least 76 = .ok (.ifCond .ne 35, 3) := by decide +kernel
theorem dX8_least_79 : decode cX8_least 79 = .ok (.aload_n 0, 1) := by decide +kernel
theorem dX8_least_80 : decode cX8_least 80 = .ok (.getfield 146, 3) := by decide +kernel
theorem dX8_least_83 : decode cX8_least 83 = .ok (.iload_n 3, 1) := by decide +kernel
theorem dX8_least_84 : decode cX8_least 84 = .ok (.i2l, 1) := by decide +kernel
theorem dX8_least_85 : decode cX8_least 85 = .ok (.lcmp, 1) := by decide +kernel
theorem dX8_least_86 : decode cX8_least 86 = .ok (.ifCond .lt 12, 3) := by decide +kernel
theorem dX8_least_89 : decode cX8_least 89 = .ok (.aload_n 0, 1) := by decide +kernel
theorem dX8_least_90 : decode cX8_least 90 = .ok (.getfield 146, 3) := by decide +kernel
theorem dX8_least_93 : decode cX8_least 93 = .ok (.lconst 1, 1) := by decide +kernel
theorem dX8_least_94 : decode cX8_least 94 = .ok (.lcmp, 1) := by decide +kernel
theorem dX8_least_95 : decode cX8_least 95 = .ok (.ifCond .ne 7, 3) := by decide +kernel
theorem dX8_least_98 : decode cX8_least 98 = .ok (.iconst 1, 1) := by decide +kernel
theorem dX8_least_99 : decode cX8_least 99 = .ok (.goto 4, 3) := by decide +kernel
theorem dX8_least_102 : decode cX8_least 102 = .ok (.iconst 0, 1) := by decide +kernel
theorem dX8_least_103 : decode cX8_least 103 = .ok (.istore 4, 2) := by decide +kernel
theorem dX8_least_105 : decode cX8_least 105 = .ok (.iinc 5 1, 3) := by decide +kernel
theorem dX8_least_108 : decode cX8_least 108 = .ok (.goto (-51), 3) := by decide +kernel
theorem dX8_least_111 : decode cX8_least 111 = .ok (.iload 4, 2) := by decide +kernel
theorem dX8_least_113 : decode cX8_least 113 = .ok (.ifCond .ne 5, 3) := by decide +kernel
theorem dX8_least_116 : decode cX8_least 116 = .ok (.iload_n 3, 1) := by decide +kernel
theorem dX8_least_117 : decode cX8_least 117 = .ok (.ireturn, 1) := by decide +kernel
theorem dX8_least_118 : decode cX8_least 118 = .ok (.iinc 3 1, 3) := by decide +kernel
theorem dX8_least_121 : decode cX8_least 121 = .ok (.goto (-81), 3) := by decide +kernel
theorem dX8_least_124 : decode cX8_least 124 = .ok (.iconst 0, 1) := by decide +kernel
theorem dX8_least_125 : decode cX8_least 125 = .ok (.ireturn, 1) := by decide +kernel
set_option maxRecDepth 20000 in
theorem ggX8_backOf_X8_isNumber : GoodIn wsX8_backOf wsX8_isNumber := goodIn_r _ [7, 8, 9, 10, 11, 6, 12] (by decide +kernel) (by decide +kernel)
set_option maxRecDepth 20000 in
theorem gX8_backOf_X8_isNumber : GoodIn wsX8_backOf (va_wsS RX8 150 yX8_isNumber wsX8_isNumber) := goodIn_app (goodIn_of _ (by decide +kernel)) ggX8_backOf_X8_isNumber
set_option maxRecDepth 20000 in
theorem ggX8_backOf_X8_restBy : GoodIn wsX8_backOf wsX8_restBy := goodIn_r _ [15, 16, 17, 18, 19] (by decide +kernel) (by decide +kernel)
set_option maxRecDepth 20000 in
theorem gX8_backOf_X8_restBy : GoodIn wsX8_backOf (va_wsS RX8 136 yX8_restBy wsX8_restBy) := goodIn_app (goodIn_of _ (by decide +kernel)) ggX8_backOf_X8_restBy
theorem dX8_backOf_0 : decode cX8_backOf 0 = .ok (.iload_n 3, 1) := by decide +kernel
theorem dX8_backOf_1 : decode cX8_backOf 1 = .ok (.istore 4, 2) := by decide +kernel
theorem dX8_backOf_3 : decode cX8_backOf 3 = .ok (.iconst 0, 1) := by decide +kernel
theorem dX8_backOf_4 : decode cX8_backOf 4 = .ok (.istore 5, 2) := by decide +kernel
theorem dX8_backOf_6 : decode cX8_backOf 6 = .ok (.iload 5, 2) := by decide +kernel
theorem dX8_backOf_8 : decode cX8_backOf 8 = .ok (.aload_n 0, 1) := by decide +kernel
theorem dX8_backOf_9 : decode cX8_backOf 9 = .ok (.getfield 105, 3) := by decide +kernel
theorem dX8_backOf_12 : decode cX8_backOf 12 = .ok (.if_icmp .ge 112, 3) := by decide +kernel
theorem dX8_backOf_15 : decode cX8_backOf 15 = .ok (.aload_n 0, 1) := by decide +kernel
theorem dX8_backOf_16 : decode cX8_backOf 16 = .ok (.getfield 20, 3) := by decide +kernel
theorem dX8_backOf_19 : decode cX8_backOf 19 = .ok (.iconst 3, 1) := by decide +kernel
theorem dX8_backOf_20 : decode cX8_backOf 20 = .ok (.iload 5, 2) := by decide +kernel
theorem dX8_backOf_22 : decode cX8_backOf 22 = .ok (.imul, 1) := by decide +kernel
theorem dX8_backOf_23 : decode cX8_backOf 23 = .ok (.laload, 1) := by decide +kernel
theorem dX8_backOf_24 : decode cX8_backOf 24 = .ok (.lstore 6, 2) := by decide +kernel
theorem dX8_backOf_26 : decode cX8_backOf 26 = .ok (.lload_n 1, 1) := by decide +kernel
theorem dX8_backOf_27 : decode cX8_backOf 27 = .ok (.aload_n 0, 1) := by decide +kernel
theorem dX8_backOf_28 : decode cX8_backOf 28 = .ok (.getfield 20, 3) := by decide +kernel
theorem dX8_backOf_31 : decode cX8_backOf 31 = .ok (.iconst 3, 1) := by decide +kernel
theorem dX8_backOf_32 : decode cX8_backOf 32 = .ok (.iload 5, 2) := by decide +kernel
theorem dX8_backOf_34 : decode cX8_backOf 34 = .ok (.imul, 1) := by decide +kernel
theorem dX8_backOf_35 : decode cX8_backOf 35 = .ok (.iconst 2, 1) := by decide +kernel
theorem dX8_backOf_36 : decode cX8_backOf 36 = .ok (.iadd, 1) := by decide +kernel
theorem dX8_backOf_37 : decode cX8_backOf 37 = .ok (.laload, 1) := by decide +kernel
theorem dX8_backOf_38 : decode cX8_backOf 38 = .ok (.lmul, 1) := by decide +kernel
theorem dX8_backOf_39 : decode cX8_backOf 39 = .ok (.aload_n 0, 1) := by decide +kernel
theorem dX8_backOf_40 : decode cX8_backOf 40 = .ok (.getfield 20, 3) := by decide +kernel
theorem dX8_backOf_43 : decode cX8_backOf 43 = .ok (.iconst 3, 1) := by decide +kernel
theorem dX8_backOf_44 : decode cX8_backOf 44 = .ok (.iload 5, 2) := by decide +kernel
theorem dX8_backOf_46 : decode cX8_backOf 46 = .ok (.imul, 1) := by decide +kernel
theorem dX8_backOf_47 : decode cX8_backOf 47 = .ok (.iconst 1, 1) := by decide +kernel
theorem dX8_backOf_48 : decode cX8_backOf 48 = .ok (.iadd, 1) := by decide +kernel
theorem dX8_backOf_49 : decode cX8_backOf 49 = .ok (.laload, 1) := by decide +kernel
theorem dX8_backOf_50 : decode cX8_backOf 50 = .ok (.lsub, 1) := by decide +kernel
theorem dX8_backOf_51 : decode cX8_backOf 51 = .ok (.lstore 8, 2) := by decide +kernel
theorem dX8_backOf_53 : decode cX8_backOf 53 = .ok (.lload 6, 2) := by decide +kernel
theorem dX8_backOf_55 : decode cX8_backOf 55 = .ok (.lconst 0, 1) := by decide +kernel
theorem dX8_backOf_56 : decode cX8_backOf 56 = .ok (.lcmp, 1) := by decide +kernel
theorem dX8_backOf_57 : decode cX8_backOf 57 = .ok (.ifCond .eq 61, 3) := by decide +kernel
theorem dX8_backOf_60 : decode cX8_backOf 60 = .ok (.lload 8, 2) := by decide +kernel
theorem dX8_backOf_62 : decode cX8_backOf 62 = .ok (.lload 6, 2) := by decide +kernel
theorem dX8_backOf_64 : decode cX8_backOf 64 = .ok (.lrem, 1) := by decide +kernel
theorem dX8_backOf_65 : decode cX8_backOf 65 = .ok (.lconst 0, 1) := by decide +kernel
theorem dX8_backOf_66 : decode cX8_backOf 66 = .ok (.lcmp, 1) := by decide +kernel
theorem dX8_backOf_67 : decode cX8_backOf 67 = .ok (.ifCond .ne 51, 3) := by decide +kernel
theorem dX8_backOf_70 : decode cX8_backOf 70 = .ok (.lload 8, 2) := by decide +kernel
theorem dX8_backOf_72 : decode cX8_backOf 72 = .ok (.lload 6, 2) := by decide +kernel
theorem dX8_backOf_74 : decode cX8_backOf 74 = .ok (.ldiv, 1) := by decide +kernel
theorem dX8_backOf_75 : decode cX8_backOf 75 = .ok (.invokestatic 150, 3) := by decide +kernel
theorem dX8_backOf_78 : decode cX8_backOf 78 = .ok (.ifCond .eq 40, 3) := by decide +kernel
theorem dX8_backOf_81 : decode cX8_backOf 81 = .ok (.lload 8, 2) := by decide +kernel
theorem dX8_backOf_83 : decode cX8_backOf 83 = .ok (.lload 6, 2) := by decide +kernel
theorem dX8_backOf_85 : decode cX8_backOf 85 = .ok (.ldiv, 1) := by decide +kernel
theorem dX8_backOf_86 : decode cX8_backOf 86 = .ok (.aload_n 0, 1) := by decide +kernel
theorem dX8_backOf_87 : decode cX8_backOf 87 = .ok (.getfield 105, 3) := by decide +kernel
theorem dX8_backOf_90 : decode cX8_backOf 90 = .ok (.invokestatic 136, 3) := by decide +kernel
theorem dX8_backOf_93 : decode cX8_backOf 93 = .ok (.iload 5, 2) := by decide +kernel
theorem dX8_backOf_95 : decode cX8_backOf 95 = .ok (.i2l, 1) := by decide +kernel
theorem dX8_backOf_96 : decode cX8_backOf 96 = .ok (.lcmp, 1) := by decide +kernel
theorem dX8_backOf_97 : decode cX8_backOf 97 = .ok (.ifCond .eq 6, 3) := by decide +kernel
theorem dX8_backOf_100 : decode cX8_backOf 100 = .ok (.goto 18, 3) := by decide +kernel
theorem dX8_backOf_103 : decode cX8_backOf 103 = .ok (.aload_n 0, 1) := by decide +kernel
theorem dX8_backOf_104 : decode cX8_backOf 104 = .ok (.getfield 32, 3) := by decide +kernel
theorem dX8_backOf_107 : decode cX8_backOf 107 = .ok (.iload 4, 2) := by decide +kernel
theorem dX8_backOf_109 : decode cX8_backOf 109 = .ok (.lload 8, 2) := by decide +kernel
theorem dX8_backOf_111 : decode cX8_backOf 111 = .ok (.lload 6, 2) := by decide +kernel
theorem dX8_backOf_113 : decode cX8_backOf 113 = .ok (.ldiv, 1) := by decide +kernel
theorem dX8_backOf_114 : decode cX8_backOf 114 = .ok (.lastore, 1) := by decide +kernel
theorem dX8_backOf_115 : decode cX8_backOf 115 = .ok (.iinc 4 1, 3) := by decide +kernel
theorem dX8_backOf_118 : decode cX8_backOf 118 = .ok (.iinc 5 1, 3) := by decide +kernel
theorem dX8_backOf_121 : decode cX8_backOf 121 = .ok (.goto (-115), 3) := by decide +kernel
theorem dX8_backOf_124 : decode cX8_backOf 124 = .ok (.iload 4, 2) := by decide +kernel
theorem dX8_backOf_126 : decode cX8_backOf 126 = .ok (.ireturn, 1) := by decide +kernel
set_option maxRecDepth 20000 in
theorem ggX8_back_X8_isNumber : GoodIn wsX8_back wsX8_isNumber := goodIn_r _ [6, 7, 8, 9, 10, 5, 11] (by decide +kernel) (by decide +kernel)
set_option maxRecDepth 20000 in
theorem gX8_back_X8_isNumber : GoodIn wsX8_back (va_wsS RX8 150 yX8_isNumber wsX8_isNumber) := goodIn_app (goodIn_of _ (by decide +kernel)) ggX8_back_X8_isNumber
set_option maxRecDepth 20000 in
theorem ggX8_back_X8_backOf : GoodIn wsX8_back wsX8_backOf := goodIn_ca (goodIn_r _ [15, 16, 17, 18, 3, 4, 5, 6, 7, 8, 9, 10, 11, 19, 20, 21, 22, 23, 24, 25, 40, 41, 42, 43, 44, 45, 46, 47, 48, 49, 50, 51, 52, 53, 54, 55, 56, 57, 58, 59, 60, 61, 62, 63, 64, 65, 66, 67, 68, 69, 70, 71, 72] (by decide +kernel) (by decide +kernel)) (goodIn_sub (fun _ h => List.mem_cons_of_mem _ (List.mem_append_right _ h)) (by decide +kernel))
set_option maxRecDepth 20000 in
theorem gX8_back_X8_backOf : GoodIn wsX8_back (wsV RX8 219 RX8 yX8_backOf wsX8_backOf) := goodIn_app (goodIn_of _ (by decide +kernel)) ggX8_back_X8_backOf
set_option maxRecDepth 20000 in
theorem ggX8_back_X8_ascend : GoodIn wsX8_back wsX8_ascend := goodIn_r _ [29, 18, 40, 41, 42, 43, 44, 45, 46, 47, 48, 49, 50, 51, 52, 53, 54, 55, 56, 57, 58, 59, 60, 61, 62, 63, 64, 65, 66, 67, 68, 69, 70, 71, 72] (by decide +kernel) (by decide +kernel)
set_option maxRecDepth 20000 in
theorem gX8_back_X8_ascend : GoodIn wsX8_back (wsV RX8 208 RX8 yX8_ascend wsX8_ascend) := goodIn_app (goodIn_of _ (by decide +kernel)) ggX8_back_X8_ascend
set_option maxRecDepth 20000 in
theorem ggX8_back_X8_tells : GoodIn wsX8_back wsX8_tells := goodIn_r _ [33, 34, 35, 36, 37, 38, 39, 18, 40, 41, 42, 43, 44, 45, 46, 47, 48, 49, 50, 51, 52, 53, 54, 55, 56, 57, 58, 59, 60, 61, 62, 63, 64, 65, 66, 67, 68, 69, 70, 71, 72] (by decide +kernel) (by decide +kernel)
set_option maxRecDepth 20000 in
theorem gX8_back_X8_tells : GoodIn wsX8_back (wsV RX8 164 RX8 yX8_tells wsX8_tells) := goodIn_app (goodIn_of _ (by decide +kernel)) ggX8_back_X8_tells
theorem dX8_back_0 : decode cX8_back 0 = .ok (.aload_n 0, 1) := by decide +kernel
theorem dX8_back_1 : decode cX8_back 1 = .ok (.iconst 0, 1) := by decide +kernel
theorem dX8_back_2 : decode cX8_back 2 = .ok (.putfield 61, 3) := by decide +kernel
theorem dX8_back_5 : decode cX8_back 5 = .ok (.aload_n 0, 1) := by decide +kernel
theorem dX8_back_6 : decode cX8_back 6 = .ok (.getfield 108, 3) := by decide +kernel
theorem dX8_back_9 : decode cX8_back 9 = .ok (.iconst 1, 1) := by decide +kernel
theorem dX8_back_10 : decode cX8_back 10 = .ok (.if_icmp .ne 10, 3) := by decide +kernel
theorem dX8_back_13 : decode cX8_back 13 = .ok (.lload_n 1, 1) := by decide +kernel
theorem dX8_back_14 : decode cX8_back 14 = .ok (.invokestatic 150, 3) := by decide +kernel
theorem dX8_back_17 : decode cX8_back 17 = .ok (.ifCond .ne 5, 3) := by decide +kernel
theorem dX8_back_20 : decode cX8_back 20 = .ok (.iconst (-1), 1) := by decide +kernel
theorem dX8_back_21 : decode cX8_back 21 = .ok (.ireturn, 1) := by decide +kernel
theorem dX8_back_22 : decode cX8_back 22 = .ok (.aload_n 0, 1) := by decide +kernel
theorem dX8_back_23 : decode cX8_back 23 = .ok (.lload_n 1, 1) := by decide +kernel
theorem dX8_back_24 : decode cX8_back 24 = .ok (.iconst 0, 1) := by decide +kernel
theorem dX8_back_25 : decode cX8_back 25 = .ok (.invokevirtual 219, 3) := by decide +kernel
theorem dX8_back_28 : decode cX8_back 28 = .ok (.istore_n 3, 1) := by decide +kernel
theorem dX8_back_29 : decode cX8_back 29 = .ok (.aload_n 0, 1) := by decide +kernel
theorem dX8_back_30 : decode cX8_back 30 = .ok (.iload_n 3, 1) := by decide +kernel
theorem dX8_back_31 : decode cX8_back 31 = .ok (.invokevirtual 208, 3) := by decide +kernel
theorem dX8_back_34 : decode cX8_back 34 = .ok (.aload_n 0, 1) := by decide +kernel
theorem dX8_back_35 : decode cX8_back 35 = .ok (.iload_n 3, 1) := by decide +kernel
theorem dX8_back_36 : decode cX8_back 36 = .ok (.invokevirtual 164, 3) := by decide +kernel
theorem dX8_back_39 : decode cX8_back 39 = .ok (.iload_n 3, 1) := by decide +kernel
theorem dX8_back_40 : decode cX8_back 40 = .ok (.ireturn, 1) := by decide +kernel
set_option maxRecDepth 20000 in
theorem ggX8_whole_X8_isNumber : GoodIn wsX8_whole wsX8_isNumber := goodIn_r _ [8, 9, 10, 11, 12, 7, 13] (by decide +kernel) (by decide +kernel)
set_option maxRecDepth 20000 in
theorem gX8_whole_X8_isNumber : GoodIn wsX8_whole (va_wsS RX8 150 yX8_isNumber wsX8_isNumber) := goodIn_app (goodIn_of _ (by decide +kernel)) ggX8_whole_X8_isNumber
theorem dX8_whole_0 : decode cX8_whole 0 = .ok (.aload_n 0, 1) := by decide +kernel
theorem dX8_whole_1 : decode cX8_whole 1 = .ok (.iconst 0, 1) := by decide +kernel
theorem dX8_whole_2 : decode cX8_whole 2 = .ok (.putfield 61, 3) := by decide +kernel
theorem dX8_whole_5 : decode cX8_whole 5 = .ok (.lconst 0, 1) := by decide +kernel
theorem dX8_whole_6 : decode cX8_whole 6 = .ok (.lstore_n 3, 1) := by decide +kernel
theorem dX8_whole_7 : decode cX8_whole 7 = .ok (.iconst 0, 1) := by decide +kernel
theorem dX8_whole_8 : decode cX8_whole 8 = .ok (.istore 5, 2) := by decide +kernel
theorem dX8_whole_10 : decode cX8_whole 10 = .ok (.iload 5, 2) := by decide +kernel
theorem dX8_whole_12 : decode cX8_whole 12 = .ok (.aload_n 0, 1) := by decide +kernel
theorem dX8_whole_13 : decode cX8_whole 13 = .ok (.getfield 105, 3) := by decide +kernel
theorem dX8_whole_16 : decode cX8_whole 16 = .ok (.if_icmp .ge 77, 3) := by decide +kernel
theorem dX8_whole_19 : decode cX8_whole 19 = .ok (.aload_n 0, 1) := by decide +kernel
theorem dX8_whole_20 : decode cX8_whole 20 = .ok (.getfield 108, 3) := by decide +kernel
theorem dX8_whole_23 : decode cX8_whole 23 = .ok (.iconst 1, 1) := by decide +kernel
theorem dX8_whole_24 : decode cX8_whole 24 = .ok (.if_icmp .ne 69, 3) := by decide +kernel
theorem dX8_whole_27 : decode cX8_whole 27 = .ok (.lload_n 1, 1) := by decide +kernel
theorem dX8_whole_28 : decode cX8_whole 28 = .ok (.invokestatic 150, 3) := by decide +kernel
theorem dX8_whole_31 : decode cX8_whole 31 = .ok (.ifCond .eq 62, 3) := by decide +kernel
theorem dX8_whole_34 : decode cX8_whole 34 = .ok (.lload_n 3, 1) := by decide +kernel
theorem dX8_whole_35 : decode cX8_whole 35 = .ok (.aload_n 0, 1) := by decide +kernel
theorem dX8_whole_36 : decode cX8_whole 36 = .ok (.getfield 20, 3) := by decide +kernel
theorem dX8_whole_39 : decode cX8_whole 39 = .ok (.iconst 3, 1) := by decide +kernel
theorem dX8_whole_40 : decode cX8_whole 40 = .ok (.iload 5, 2) := by decide +kernel
theorem dX8_whole_42 : decode cX8_whole 42 = .ok (.imul, 1) := by decide +kernel
theorem dX8_whole_43 : decode cX8_whole 43 = .ok (.laload, 1) := by decide +kernel
theorem dX8_whole_44 : decode cX8_whole 44 = .ok (.lconst 0, 1) := by decide +kernel
theorem dX8_whole_45 : decode cX8_whole 45 = .ok (.lcmp, 1) := by decide +kernel
theorem dX8_whole_46 : decode cX8_whole 46 = .ok (.ifCond .ne 38, 3) := by decide +kernel
theorem dX8_whole_49 : decode cX8_whole 49 = .ok (.aload_n 0, 1) := by decide +kernel
theorem dX8_whole_50 : decode cX8_whole 50 = .ok (.getfield 20, 3) := by decide +kernel
theorem dX8_whole_53 : decode cX8_whole 53 = .ok (.iconst 3, 1) := by decide +kernel
theorem dX8_whole_54 : decode cX8_whole 54 = .ok (.iload 5, 2) := by decide +kernel
theorem dX8_whole_56 : decode cX8_whole 56 = .ok (.imul, 1) := by decide +kernel
theorem dX8_whole_57 : decode cX8_whole 57 = .ok (.iconst 1, 1) := by decide +kernel
theorem dX8_whole_58 : decode cX8_whole 58 = .ok (.iadd, 1) := by decide +kernel
theorem dX8_whole_59 : decode cX8_whole 59 = .ok (.laload, 1) := by decide +kernel
theorem dX8_whole_60 : decode cX8_whole 60 = .ok (.aload_n 0, 1) := by decide +kernel
theorem dX8_whole_61 : decode cX8_whole 61 = .ok (.getfield 20, 3) := by decide +kernel
theorem dX8_whole_64 : decode cX8_whole 64 = .ok (.iconst 3, 1) := by decide +kernel
theorem dX8_whole_65 : decode cX8_whole 65 = .ok (.iload 5, 2) := by decide +kernel
theorem dX8_whole_67 : decode cX8_whole 67 = .ok (.imul, 1) := by decide +kernel
theorem dX8_whole_68 : decode cX8_whole 68 = .ok (.iconst 2, 1) := by decide +kernel
theorem dX8_whole_69 : decode cX8_whole 69 = .ok (.iadd, 1) := by decide +kernel
theorem dX8_whole_70 : decode cX8_whole 70 = .ok (.laload, 1) := by decide +kernel
theorem dX8_whole_71 : decode cX8_whole 71 = .ok (.ldiv, 1) := by decide +kernel
theorem dX8_whole_72 : decode cX8_whole 72 = .ok (.lload_n 1, 1) := by decide +kernel
theorem dX8_whole_73 : decode cX8_whole 73 = .ok (.lcmp, 1) := by decide +kernel
theorem dX8_whole_74 : decode cX8_whole 74 = .ok (.ifCond .ne 10, 3) := by decide +kernel
theorem dX8_whole_77 : decode cX8_whole 77 = .ok (.lconst 1, 1) := by decide +kernel
theorem dX8_whole_78 : decode cX8_whole 78 = .ok (.iload 5, 2) := by decide +kernel
theorem dX8_whole_80 : decode cX8_whole 80 = .ok (.lshl, 1) := by decide +kernel
theorem dX8_whole_81 : decode cX8_whole 81 = .ok (.goto 4, 3) := by decide +kernel
theorem dX8_whole_84 : decode cX8_whole 84 = .ok (.lconst 0, 1) := by decide +kernel
theorem dX8_whole_85 : decode cX8_whole 85 = .ok (.lor, 1) := by decide +kernel
theorem dX8_whole_86 : decode cX8_whole 86 = .ok (.lstore_n 3, 1) := by decide +kernel
theorem dX8_whole_87 : decode cX8_whole 87 = .ok (.iinc 5 1, 3) := by decide +kernel
theorem dX8_whole_90 : decode cX8_whole 90 = .ok (.goto (-80), 3) := by decide +kernel
theorem dX8_whole_93 : decode cX8_whole 93 = .ok (.lload_n 3, 1) := by decide +kernel
theorem dX8_whole_94 : decode cX8_whole 94 = .ok (.lreturn, 1) := by decide +kernel
set_option maxRecDepth 20000 in
theorem ggX8_backs_X8_isNumber : GoodIn wsX8_backs wsX8_isNumber := goodIn_r _ [9, 10, 11, 12, 13, 8, 14] (by decide +kernel) (by decide +kernel)
set_option maxRecDepth 20000 in
theorem gX8_backs_X8_isNumber : GoodIn wsX8_backs (va_wsS RX8 150 yX8_isNumber wsX8_isNumber) := goodIn_app (goodIn_of _ (by decide +kernel)) ggX8_backs_X8_isNumber
set_option maxRecDepth 20000 in
theorem ggX8_backs_X8_in : GoodIn wsX8_backs wsX8_in := goodIn_r _ [14] (by decide +kernel) (by decide +kernel)
set_option maxRecDepth 20000 in
theorem gX8_backs_X8_in : GoodIn wsX8_backs (va_wsS RX8 68 yX8_in wsX8_in) := goodIn_app (goodIn_of _ (by decide +kernel)) ggX8_backs_X8_in
set_option maxRecDepth 20000 in
theorem ggX8_backs_X8_backOf : GoodIn wsX8_backs wsX8_backOf := goodIn_ca (goodIn_r _ [18, 19, 20, 5, 6, 7, 8, 9, 10, 11, 12, 13, 14, 21, 22, 23, 24, 25, 26, 27, 28, 29, 30, 31, 32, 33, 34, 35, 36, 37, 38, 39, 40, 41, 42, 43, 44, 45, 46, 47, 48, 49, 50, 51, 52, 53, 54, 55, 56, 57, 58, 59, 60] (by decide +kernel) (by decide +kernel)) (goodIn_sub (fun _ h => List.mem_cons_of_mem _ (List.mem_append_right _ h)) (by decide +kernel))
set_option maxRecDepth 20000 in
theorem gX8_backs_X8_backOf : GoodIn wsX8_backs (wsV RX8 219 RX8 yX8_backOf wsX8_backOf) := goodIn_app (goodIn_of _ (by decide +kernel)) ggX8_backs_X8_backOf
theorem dX8_backs_0 : decode cX8_backs 0 = .ok (.aload_n 0, 1) := by decide +kernel
theorem dX8_backs_1 : decode cX8_backs 1 = .ok (.iconst 0, 1) := by decide +kernel
theorem dX8_backs_2 : decode cX8_backs 2 = .ok (.putfield 61, 3) := by decide +kernel
theorem dX8_backs_5 : decode cX8_backs 5 = .ok (.aload_n 0, 1) := by decide +kernel
theorem dX8_backs_6 : decode cX8_backs 6 = .ok (.getfield 108, 3) := by decide +kernel
theorem dX8_backs_9 : decode cX8_backs 9 = .ok (.iconst 1, 1) := by decide +kernel
theorem dX8_backs_10 : decode cX8_backs 10 = .ok (.if_icmp .ne 22, 3) := by decide +kernel
theorem dX8_backs_13 : decode cX8_backs 13 = .ok (.lload_n 1, 1) := by decide +kernel
theorem dX8_backs_14 : decode cX8_backs 14 = .ok (.invokestatic 150, 3) := by decide +kernel
theorem dX8_backs_17 : decode cX8_backs 17 = .ok (.ifCond .eq 15, 3) := by decide +kernel
theorem dX8_backs_20 : decode cX8_backs 20 = .ok (.iload_n 3, 1) := by decide +kernel
theorem dX8_backs_21 : decode cX8_backs 21 = .ok (.i2l, 1) := by decide +kernel
theorem dX8_backs_22 : decode cX8_backs 22 = .ok (.lconst 0, 1) := by decide +kernel
theorem dX8_backs_23 : decode cX8_backs 23 = .ok (.ldc2_w 223, 3) := by decide +kernel
theorem dX8_backs_26 : decode cX8_backs 26 = .ok (.invokestatic 68, 3) := by decide +kernel
theorem dX8_backs_29 : decode cX8_backs 29 = .ok (.ifCond .ne 5, 3) := by decide +kernel
theorem dX8_backs_32 : decode cX8_backs 32 = .ok (.iconst (-1), 1) := by decide +kernel
theorem dX8_backs_33 : decode cX8_backs 33 = .ok (.ireturn, 1) := by decide +kernel
theorem dX8_backs_34 : decode cX8_backs 34 = .ok (.aload_n 0, 1) := by decide +kernel
theorem dX8_backs_35 : decode cX8_backs 35 = .ok (.getfield 48, 3) := by decide +kernel
theorem dX8_backs_38 : decode cX8_backs 38 = .ok (.iconst 0, 1) := by decide +kernel
theorem dX8_backs_39 : decode cX8_backs 39 = .ok (.lload_n 1, 1) := by decide +kernel
theorem dX8_backs_40 : decode cX8_backs 40 = .ok (.lastore, 1) := by decide +kernel
theorem dX8_backs_41 : decode cX8_backs 41 = .ok (.iconst 1, 1) := by decide +kernel
theorem dX8_backs_42 : decode cX8_backs 42 = .ok (.istore 4, 2) := by decide +kernel
theorem dX8_backs_44 : decode cX8_backs 44 = .ok (.iconst 0, 1) := by decide +kernel
theorem dX8_backs_45 : decode cX8_backs 45 = .ok (.istore 5, 2) := by decide +kernel
theorem dX8_backs_47 : decode cX8_backs 47 = .ok (.iload 5, 2) := by decide +kernel
theorem dX8_backs_49 : decode cX8_backs 49 = .ok (.iload_n 3, 1) := by decide +kernel
theorem dX8_backs_50 : decode cX8_backs 50 = .ok (.if_icmp .ge 88, 3) := by decide +kernel
theorem dX8_backs_53 : decode cX8_backs 53 = .ok (.iconst 0, 1) := by decide +kernel
theorem dX8_backs_54 : decode cX8_backs 54 = .ok (.istore 6, 2) := by decide +kernel
theorem dX8_backs_56 : decode cX8_backs 56 = .ok (.iconst 0, 1) := by decide +kernel
theorem dX8_backs_57 : decode cX8_backs 57 = .ok (.istore 7, 2) := by decide +kernel
theorem dX8_backs_59 : decode cX8_backs 59 = .ok (.iload 7, 2) := by decide +kernel
theorem dX8_backs_61 : decode cX8_backs 61 = .ok (.iload 4, 2) := by decide +kernel
theorem dX8_backs_63 : decode cX8_backs 63 = .ok (.if_icmp .ge 35, 3) := by decide +kernel
theorem dX8_backs_66 : decode cX8_backs 66 = .ok (.aload_n 0, 1) := by decide +kernel
theorem dX8_backs_67 : decode cX8_backs 67 = .ok (.aload_n 0, 1) := by decide +kernel
theorem dX8_backs_68 : decode cX8_backs 68 = .ok (.getfield 48, 3) := by decide +kernel
theorem dX8_backs_71 : decode cX8_backs 71 = .ok (.iload 7, 2) := by decide +kernel
theorem dX8_backs_73 : decode cX8_backs 73 = .ok (.laload, 1) := by decide +kernel
theorem dX8_backs_74 : decode cX8_backs 74 = .ok (.iload 6, 2) := by decide +kernel
theorem dX8_backs_76 : decode cX8_backs 76 = .ok (.invokevirtual 219, 3) := by decide +kernel
theorem dX8_backs_79 : decode cX8_backs 79 = .ok (.istore 6, 2) := by decide +kernel
theorem dX8_backs_81 : decode cX8_backs 81 = .ok (.iload 6, 2) := by decide +kernel
theorem dX8_backs_83 : decode cX8_backs 83 = .ok (.sipush 1000, 3) := by decide +kernel
theorem dX8_backs_86 : decode cX8_backs 86 = .ok (.if_icmp .le 6, 3) := by decide +kernel
theorem dX8_backs_89 : decode cX8_backs 89 = .ok (.bipush (-2), 2) := by decide +kernel
theorem dX8_backs_91 : decode cX8_backs 91 = .ok (.ireturn, 1) := by decide +kernel
theorem dX8_backs_92 : decode cX8_backs 92 = .ok (.iinc 7 1, 3) := by decide +kernel
theorem dX8_backs_95 : decode cX8_backs 95 = .ok (.goto (-36), 3) := by decide +kernel
theorem dX8_backs_98 : decode cX8_backs 98 = .ok (.iconst 0, 1) := by decide +kernel
theorem dX8_backs_99 : decode cX8_backs 99 = .ok (.istore 7, 2) := by decide +kernel
theorem dX8_backs_101 : decode cX8_backs 101 = .ok (.iload 7, 2) := by decide +kernel
theorem dX8_backs_103 : decode cX8_backs 103 = .ok (.iload 6, 2) := by decide +kernel
theorem dX8_backs_105 : decode cX8_backs 105 = .ok (.if_icmp .ge 23, 3) := by decide +kernel
theorem dX8_backs_108 : decode cX8_backs 108 = .ok (.aload_n 0, 1) := by decide +kernel
theorem dX8_backs_109 : decode cX8_backs 109 = .ok (.getfield 48, 3) := by decide +kernel
theorem dX8_backs_112 : decode cX8_backs 112 = .ok (.iload 7, 2) := by decide +kernel
theorem dX8_backs_114 : decode cX8_backs 114 = .ok (.aload_n 0, 1) := by decide +kernel
theorem dX8_backs_115 : decode cX8_backs 115 = .ok (.getfield 32, 3) := by decide +kernel
theorem dX8_backs_118 : decode cX8_backs 118 = .ok (.iload 7, 2) := by decide +kernel
theorem dX8_backs_120 : decode cX8_backs 120 = .ok (.laload, 1) := by decide +kernel
theorem dX8_backs_121 : decode cX8_backs 121 = .ok (.lastore, 1) := by decide +kernel
theorem dX8_backs_122 : decode cX8_backs 122 = .ok (.iinc 7 1, 3) := by decide +kernel
theorem dX8_backs_125 : decode cX8_backs 125 = .ok (.goto (-24), 3) := by decide +kernel
theorem dX8_backs_128 : decode cX8_backs 128 = .ok (.iload 6, 2) := by decide +kernel
theorem dX8_backs_130 : decode cX8_backs 130 = .ok (.istore 4, 2) := by decide +kernel
theorem dX8_backs_132 : decode cX8_backs 132 = .ok (.iinc 5 1, 3) := by decide +kernel
theorem dX8_backs_135 : decode cX8_backs 135 = .ok (.goto (-88), 3) := by decide +kernel
theorem dX8_backs_138 : decode cX8_backs 138 = .ok (.iload 4, 2) := by decide +kernel
theorem dX8_backs_140 : decode cX8_backs 140 = .ok (.ireturn, 1) := by decide +kernel
theorem dX8_gap_0 : decode cX8_gap 0 = .ok (.aload_n 0, 1) := by decide +kernel
theorem dX8_gap_1 : decode cX8_gap 1 = .ok (.getfield 20, 3) := by decide +kernel
theorem dX8_gap_4 : decode cX8_gap 4 = .ok (.iconst 3, 1) := by decide +kernel
theorem dX8_gap_5 : decode cX8_gap 5 = .ok (.iload_n 1, 1) := by decide +kernel
theorem dX8_gap_6 : decode cX8_gap 6 = .ok (.imul, 1) := by decide +kernel
theorem dX8_gap_7 : decode cX8_gap 7 = .ok (.laload, 1) := by decide +kernel
theorem dX8_gap_8 : decode cX8_gap 8 = .ok (.aload_n 0, 1) := by decide +kernel
theorem dX8_gap_9 : decode cX8_gap 9 = .ok (.getfield 105, 3) := by decide +kernel
theorem dX8_gap_12 : decode cX8_gap 12 = .ok (.i2l, 1) := by decide +kernel
theorem dX8_gap_13 : decode cX8_gap 13 = .ok (.lmul, 1) := by decide +kernel
theorem dX8_gap_14 : decode cX8_gap 14 = .ok (.aload_n 0, 1) := by decide +kernel
theorem dX8_gap_15 : decode cX8_gap 15 = .ok (.getfield 20, 3) := by decide +kernel
theorem dX8_gap_18 : decode cX8_gap 18 = .ok (.iconst 3, 1) := by decide +kernel
theorem dX8_gap_19 : decode cX8_gap 19 = .ok (.iload_n 1, 1) := by decide +kernel
theorem dX8_gap_20 : decode cX8_gap 20 = .ok (.imul, 1) := by decide +kernel
theorem dX8_gap_21 : decode cX8_gap 21 = .ok (.iconst 2, 1) := by decide +kernel
theorem dX8_gap_22 : decode cX8_gap 22 = .ok (.iadd, 1) := by decide +kernel
theorem dX8_gap_23 : decode cX8_gap 23 = .ok (.laload, 1) := by decide +kernel
theorem dX8_gap_24 : decode cX8_gap 24 = .ok (.ldiv, 1) := by decide +kernel
theorem dX8_gap_25 : decode cX8_gap 25 = .ok (.lstore_n 2, 1) := by decide +kernel
theorem dX8_gap_26 : decode cX8_gap 26 = .ok (.lload_n 2, 1) := by decide +kernel
theorem dX8_gap_27 : decode cX8_gap 27 = .ok (.lconst 0, 1) := by decide +kernel
theorem dX8_gap_28 : decode cX8_gap 28 = .ok (.lcmp, 1) := by decide +kernel
theorem dX8_gap_29 : decode cX8_gap 29 = .ok (.ifCond .ge 8, 3) := by decide +kernel
theorem dX8_gap_32 : decode cX8_gap 32 = .ok (.lload_n 2, 1) := by decide +kernel
theorem dX8_gap_33 : decode cX8_gap 33 = .ok (.lneg, 1) := by decide +kernel
theorem dX8_gap_34 : decode cX8_gap 34 = .ok (.goto 4, 3) := by decide +kernel
theorem dX8_gap_37 : decode cX8_gap 37 = .ok (.lload_n 2, 1) := by decide +kernel
theorem dX8_gap_38 : decode cX8_gap 38 = .ok (.lreturn, 1) := by decide +kernel
theorem dX8_first_0 : decode cX8_first 0 = .ok (.aload_n 0, 1) := by decide +kernel
theorem dX8_first_1 : decode cX8_first 1 = .ok (.getfield 20, 3) := by decide +kernel
theorem dX8_first_4 : decode cX8_first 4 = .ok (.iconst 3, 1) := by decide +kernel
theorem dX8_first_5 : decode cX8_first 5 = .ok (.iload_n 1, 1) := by decide +kernel
theorem dX8_first_6 : decode cX8_first 6 = .ok (.imul, 1) := by decide +kernel
theorem dX8_first_7 : decode cX8_first 7 = .ok (.laload, 1) := by decide +kernel
theorem dX8_first_8 : decode cX8_first 8 = .ok (.iload_n 1, 1) := by decide +kernel
theorem dX8_first_9 : decode cX8_first 9 = .ok (.i2l, 1) := by decide +kernel
theorem dX8_first_10 : decode cX8_first 10 = .ok (.lmul, 1) := by decide +kernel
theorem dX8_first_11 : decode cX8_first 11 = .ok (.aload_n 0, 1) := by decide +kernel
theorem dX8_first_12 : decode cX8_first 12 = .ok (.getfield 20, 3) := by decide +kernel
theorem dX8_first_15 : decode cX8_first 15 = .ok (.iconst 3, 1) := by decide +kernel
theorem dX8_first_16 : decode cX8_first 16 = .ok (.iload_n 1, 1) := by decide +kernel
theorem dX8_first_17 : decode cX8_first 17 = .ok (.imul, 1) := by decide +kernel
theorem dX8_first_18 : decode cX8_first 18 = .ok (.iconst 1, 1) := by decide +kernel
theorem dX8_first_19 : decode cX8_first 19 = .ok (.iadd, 1) := by decide +kernel
theorem dX8_first_20 : decode cX8_first 20 = .ok (.laload, 1) := by decide +kernel
theorem dX8_first_21 : decode cX8_first 21 = .ok (.ladd, 1) := by decide +kernel
theorem dX8_first_22 : decode cX8_first 22 = .ok (.aload_n 0, 1) := by decide +kernel
theorem dX8_first_23 : decode cX8_first 23 = .ok (.getfield 20, 3) := by decide +kernel
theorem dX8_first_26 : decode cX8_first 26 = .ok (.iconst 3, 1) := by decide +kernel
theorem dX8_first_27 : decode cX8_first 27 = .ok (.iload_n 1, 1) := by decide +kernel
theorem dX8_first_28 : decode cX8_first 28 = .ok (.imul, 1) := by decide +kernel
theorem dX8_first_29 : decode cX8_first 29 = .ok (.iconst 2, 1) := by decide +kernel
theorem dX8_first_30 : decode cX8_first 30 = .ok (.iadd, 1) := by decide +kernel
theorem dX8_first_31 : decode cX8_first 31 = .ok (.laload, 1) := by decide +kernel
theorem dX8_first_32 : decode cX8_first 32 = .ok (.ldiv, 1) := by decide +kernel
theorem dX8_first_33 : decode cX8_first 33 = .ok (.lreturn, 1) := by decide +kernel
set_option maxRecDepth 20000 in
theorem ggX8_measure_X8_gap : GoodIn wsX8_measure wsX8_gap := goodIn_ca (goodIn_r _ [13, 2, 1, 17, 18, 19, 20, 21, 22, 23, 24, 25, 26, 27, 28, 29, 30, 31, 32, 33, 34, 35, 36, 37, 38, 39, 40, 41, 42, 43, 44, 45, 46, 47, 48, 49] (by decide +kernel) (by decide +kernel)) (goodIn_sub (fun _ h => List.mem_cons_of_mem _ (List.mem_append_right _ h)) (by decide +kernel))
set_option maxRecDepth 20000 in
theorem gX8_measure_X8_gap : GoodIn wsX8_measure (wsV RX8 225 RX8 yX8_gap wsX8_gap) := goodIn_app (goodIn_of _ (by decide +kernel)) ggX8_measure_X8_gap
set_option maxRecDepth 20000 in
theorem ggX8_measure_X8_common : GoodIn wsX8_measure wsX8_common := goodIn_ca (goodIn_r _ [16] (by decide +kernel) (by decide +kernel)) (goodIn_sub (fun _ h => List.mem_cons_of_mem _ (List.mem_append_right _ h)) (by decide +kernel))
set_option maxRecDepth 20000 in
theorem gX8_measure_X8_common : GoodIn wsX8_measure (va_wsS RX8 114 yX8_common wsX8_common) := goodIn_app (goodIn_of _ (by decide +kernel)) ggX8_measure_X8_common
theorem dX8_measure_0 : decode cX8_measure 0 = .ok (.lconst 1, 1) := by decide +kernel
theorem dX8_measure_1 : decode cX8_measure 1 = .ok (.lstore_n 1, 1) := by decide +kernel
theorem dX8_measure_2 : decode cX8_measure 2 = .ok (.iconst 0, 1) := by decide +kernel
theorem dX8_measure_3 : decode cX8_measure 3 = .ok (.istore_n 3, 1) := by decide +kernel
theorem dX8_measure_4 : decode cX8_measure 4 = .ok (.iload_n 3, 1) := by decide +kernel
theorem dX8_measure_5 : decode cX8_measure 5 = .ok (.aload_n 0, 1) := by decide +kernel
theorem dX8_measure_6 : decode cX8_measure 6 = .ok (.getfield 105, 3) := by decide +kernel
theorem dX8_measure_9 : decode cX8_measure 9 = .ok (.if_icmp .ge 24, 3) := by decide +kernel
theorem dX8_measure_12 : decode cX8_measure 12 = .ok (.aload_n 0, 1) := by decide +kernel
theorem dX8_measure_13 : decode cX8_measure 13 = .ok (.getfield 20, 3) := by decide +kernel
theorem dX8_measure_16 : decode cX8_measure 16 = .ok (.iconst 3, 1) := by decide +kernel
theorem dX8_measure_17 : decode cX8_measure 17 = .ok (.iload_n 3, 1) := by decide +kernel
theorem dX8_measure_18 : decode cX8_measure 18 = .ok (.imul, 1) := by decide +kernel
theorem dX8_measure_19 : decode cX8_measure 19 = .ok (.laload, 1) := by decide +kernel
theorem dX8_measure_20 : decode cX8_measure 20 = .ok (.lconst 0, 1) := by decide +kernel
theorem dX8_measure_21 : decode cX8_measure 21 = .ok (.lcmp, 1) := by decide +kernel
theorem dX8_measure_22 : decode cX8_measure 22 = .ok (.ifCond .ne 5, 3) := by decide +kernel
theorem dX8_measure_25 : decode cX8_measure 25 = .ok (.iconst 0, 1) := by decide +kernel
theorem dX8_measure_26 : decode cX8_measure 26 = .ok (.ireturn, 1) := by decide +kernel
theorem dX8_measure_27 : decode cX8_measure 27 = .ok (.iinc 3 1, 3) := by decide +kernel
theorem dX8_measure_30 : decode cX8_measure 30 = .ok (.goto (-26), 3) := by decide +kernel
theorem dX8_measure_33 : decode cX8_measure 33 = .ok (.iconst 0, 1) := by decide +kernel
theorem dX8_measure_34 : decode cX8_measure 34 = .ok (.istore_n 3, 1) := by decide +kernel
theorem dX8_measure_35 : decode cX8_measure 35 = .ok (.iload_n 3, 1) := by decide +kernel
theorem dX8_measure_36 : decode cX8_measure 36 = .ok (.aload_n 0, 1) := by decide +kernel
theorem dX8_measure_37 : decode cX8_measure 37 = .ok (.getfield 105, 3) := by decide +kernel
theorem dX8_measure_40 : decode cX8_measure 40 = .ok (.if_icmp .ge 35, 3) := by decide +kernel
theorem dX8_measure_43 : decode cX8_measure 43 = .ok (.lload_n 1, 1) := by decide +kernel
theorem dX8_measure_44 : decode cX8_measure 44 = .ok (.ldc2_w 157, 3) := by decide +kernel
theorem dX8_measure_47 : decode cX8_measure 47 = .ok (.lcmp, 1) := by decide +kernel
theorem dX8_measure_48 : decode cX8_measure 48 = .ok (.ifCond .gt 27, 3) := by decide +kernel
theorem dX8_measure_51 : decode cX8_measure 51 = .ok (.lload_n 1, 1) := by decide +kernel
theorem dX8_measure_52 : decode cX8_measure 52 = .ok (.lload_n 1, 1) := by decide +kernel
theorem dX8_measure_53 : decode cX8_measure 53 = .ok (.aload_n 0, 1) := by decide +kernel
theorem dX8_measure_54 : decode cX8_measure 54 = .ok (.iload_n 3, 1) := by decide +kernel
theorem dX8_measure_55 : decode cX8_measure 55 = .ok (.invokevirtual 225, 3) := by decide +kernel
theorem dX8_measure_58 : decode cX8_measure 58 = .ok (.invokestatic 114, 3) := by decide +kernel
theorem dX8_measure_61 : decode cX8_measure 61 = .ok (.ldiv, 1) := by decide +kernel
theorem dX8_measure_62 : decode cX8_measure 62 = .ok (.aload_n 0, 1) := by decide +kernel
theorem dX8_measure_63 : decode cX8_measure 63 = .ok (.iload_n 3, 1) := by decide +kernel
theorem dX8_measure_64 : decode cX8_measure 64 = .ok (.invokevirtual 225, 3) := by decide +kernel
theorem dX8_measure_67 : decode cX8_measure 67 = .ok (.lmul, 1) := by decide +kernel
theorem dX8_measure_68 : decode cX8_measure 68 = .ok (.lstore_n 1, 1) := by decide +kernel
theorem dX8_measure_69 : decode cX8_measure 69 = .ok (.iinc 3 1, 3) := by decide +kernel
theorem dX8_measure_72 : decode cX8_measure 72 = .ok (.goto (-37), 3) := by decide +kernel
theorem dX8_measure_75 : decode cX8_measure 75 = .ok (.lload_n 1, 1) := by decide +kernel
theorem dX8_measure_76 : decode cX8_measure 76 = .ok (.ldc2_w 228, 3) := by decide +kernel
theorem dX8_measure_79 : decode cX8_measure 79 = .ok (.invokestatic 196, 3) := by decide +kernel
theorem dX8_measure_82 : decode cX8_measure 82 = .ok (.l2i, 1) := by decide +kernel
theorem dX8_measure_83 : decode cX8_measure 83 = .ok (.ireturn, 1) := by decide +kernel
set_option maxRecDepth 20000 in
theorem ggX8_both_X8_measure : GoodIn wsX8_both wsX8_measure := goodIn_ca (goodIn_r _ [10, 5, 11, 12, 13, 14, 15, 16, 17, 18, 19, 20, 9, 21, 22, 23, 24, 33, 34, 35, 36, 37, 38, 39, 40, 41, 42, 43, 44, 45, 46, 47, 48, 49, 50, 51, 52, 53, 54, 55, 56, 57, 58, 59, 60, 61, 62, 63, 64, 65] (by decide +kernel) (by decide +kernel)) (goodIn_sub (fun _ h => List.mem_cons_of_mem _ (List.mem_append_right _ h)) (by decide +kernel))
set_option maxRecDepth 20000 in
theorem gX8_both_X8_measure : GoodIn wsX8_both (wsV RX8 230 RX8 yX8_measure wsX8_measure) := goodIn_app (goodIn_of _ (by decide +kernel)) ggX8_both_X8_measure
set_option maxRecDepth 20000 in
theorem ggX8_both_X8_gap : GoodIn wsX8_both wsX8_gap := goodIn_ca (goodIn_r _ [21, 11, 5, 33, 34, 35, 36, 37, 38, 39, 40, 41, 42, 43, 44, 45, 46, 47, 48, 49, 50, 51, 52, 53, 54, 55, 56, 57, 58, 59, 60, 61, 62, 63, 64, 65] (by decide +kernel) (by decide +kernel)) (goodIn_sub (fun _ h => List.mem_cons_of_mem _ (List.mem_append_right _ h)) (by decide +kernel))
set_option maxRecDepth 20000 in
theorem gX8_both_X8_gap : GoodIn wsX8_both (wsV RX8 225 RX8 yX8_gap wsX8_gap) := goodIn_app (goodIn_of _ (by decide +kernel)) ggX8_both_X8_gap
set_option maxRecDepth 20000 in
theorem ggX8_both_X8_first : GoodIn wsX8_both wsX8_first := goodIn_ca (goodIn_r _ [28, 11, 33, 34, 35, 36, 37, 38, 39, 40, 41, 42, 43, 44, 45, 46, 47, 48, 49, 50, 51, 52, 53, 54, 55, 56, 57, 58, 59, 60, 61, 62, 63, 64, 65] (by decide +kernel) (by decide +kernel)) (goodIn_sub (fun _ h => List.mem_cons_of_mem _ (List.mem_append_right _ h)) (by decide +kernel))
set_option maxRecDepth 20000 in
theorem gX8_both_X8_first : GoodIn wsX8_both (wsV RX8 234 RX8 yX8_first wsX8_first) := goodIn_app (goodIn_of _ (by decide +kernel)) ggX8_both_X8_first
set_option maxRecDepth 20000 in
theorem ggX8_both_J9_floorMod_f86c9 : GoodIn wsX8_both wsJ9_floorMod_f86c9 := goodIn_r _ [32] (by decide +kernel) (by decide +kernel)
set_option maxRecDepth 20000 in
theorem gX8_both_J9_floorMod_f86c9 : GoodIn wsX8_both (va_wsS RX8 133 yJ9_floorMod_f86c9 wsJ9_floorMod_f86c9) := goodIn_app (goodIn_of _ (by decide +kernel)) ggX8_both_J9_floorMod_f86c9
theorem dX8_both_0 : decode cX8_both 0 = .ok (.aload_n 0, 1) := by decide +kernel
theorem dX8_both_1 : decode cX8_both 1 = .ok (.iconst 0, 1) := by decide +kernel
theorem dX8_both_2 : decode cX8_both 2 = .ok (.putfield 61, 3) := by decide +kernel
theorem dX8_both_5 : decode cX8_both 5 = .ok (.aload_n 0, 1) := by decide +kernel
theorem dX8_both_6 : decode cX8_both 6 = .ok (.getfield 108, 3) := by decide +kernel
theorem dX8_both_9 : decode cX8_both 9 = .ok (.iconst 1, 1) := by decide +kernel
theorem dX8_both_10 : decode cX8_both 10 = .ok (.if_icmp .eq 5, 3) := by decide +kernel
theorem dX8_both_13 : decode cX8_both 13 = .ok (.iconst (-1), 1) := by decide +kernel
theorem dX8_both_14 : decode cX8_both 14 = .ok (.ireturn, 1) := by decide +kernel
theorem dX8_both_15 : decode cX8_both 15 = .ok (.aload_n 0, 1) := by decide +kernel
theorem dX8_both_16 : decode cX8_both 16 = .ok (.invokevirtual 230, 3) := by decide +kernel
theorem dX8_both_19 : decode cX8_both 19 = .ok (.istore_n 1, 1) := by decide +kernel
theorem dX8_both_20 : decode cX8_both 20 = .ok (.iload_n 1, 1) := by decide +kernel
theorem dX8_both_21 : decode cX8_both 21 = .ok (.ifCond .ne 5, 3) := by decide +kernel
theorem dX8_both_24 : decode cX8_both 24 = .ok (.iconst 0, 1) := by decide +kernel
theorem dX8_both_25 : decode cX8_both 25 = .ok (.ireturn, 1) := by decide +kernel
theorem dX8_both_26 : decode cX8_both 26 = .ok (.iload_n 1, 1) := by decide +kernel
theorem dX8_both_27 : decode cX8_both 27 = .ok (.ldc 51, 2) := by decide +kernel
theorem dX8_both_29 : decode cX8_both 29 = .ok (.if_icmp .le 6, 3) := by decide +kernel
theorem dX8_both_32 : decode cX8_both 32 = .ok (.bipush (-2), 2) := by decide +kernel
theorem dX8_both_34 : decode cX8_both 34 = .ok (.ireturn, 1) := by decide +kernel
theorem dX8_both_35 : decode cX8_both 35 = .ok (.iconst 0, 1) := by decide +kernel
theorem dX8_both_36 : decode cX8_both 36 = .ok (.istore_n 2, 1) := by decide +kernel
theorem dX8_both_37 : decode cX8_both 37 = .ok (.iload_n 2, 1) := by decide +kernel
theorem dX8_both_38 : decode cX8_both 38 = .ok (.iload_n 1, 1) := by decide +kernel
theorem dX8_both_39 : decode cX8_both 39 = .ok (.if_icmp .ge 16, 3) := by decide +kernel
theorem dX8_both_42 : decode cX8_both 42 = .ok (.aload_n 0, 1) := by decide +kernel
theorem dX8_both_43 : decode cX8_both 43 = .ok (.getfield 52, 3) := by decide +kernel
theorem dX8_both_46 : decode cX8_both 46 = .ok (.iload_n 2, 1) := by decide +kernel
theorem dX8_both_47 : decode cX8_both 47 = .ok (.iconst 0, 1) := by decide +kernel
theorem dX8_both_48 : decode cX8_both 48 = .ok (.iastore, 1) := by decide +kernel
theorem dX8_both_49 : decode cX8_both 49 = .ok (.iinc 2 1, 3) := by decide +kernel
theorem dX8_both_52 : decode cX8_both 52 = .ok (.goto (-15), 3) := by decide +kernel
theorem dX8_both_55 : decode cX8_both 55 = .ok (.iconst 0, 1) := by decide +kernel
theorem dX8_both_56 : decode cX8_both 56 = .ok (.istore_n 2, 1) := by decide +kernel
theorem dX8_both_57 : decode cX8_both 57 = .ok (.iload_n 2, 1) := by decide +kernel
theorem dX8_both_58 : decode cX8_both 58 = .ok (.aload_n 0, 1) := by decide +kernel
theorem dX8_both_59 : decode cX8_both 59 = .ok (.getfield 105, 3) := by decide +kernel
theorem dX8_both_62 : decode cX8_both 62 = .ok (.if_icmp .ge 55, 3) := by decide +kernel
theorem dX8_both_65 : decode cX8_both 65 = .ok (.aload_n 0, 1) := by decide +kernel
theorem dX8_both_66 : decode cX8_both 66 = .ok (.iload_n 2, 1) := by decide +kernel
theorem dX8_both_67 : decode cX8_both 67 = .ok (.invokevirtual 225, 3) := by decide +kernel
theorem dX8_both_70 : decode cX8_both 70 = .ok (.l2i, 1) := by decide +kernel
theorem dX8_both_71 : decode cX8_both 71 = .ok (.istore_n 3, 1) := by decide +kernel
theorem dX8_both_72 : decode cX8_both 72 = .ok (.aload_n 0, 1) := by decide +kernel
theorem dX8_both_73 : decode cX8_both 73 = .ok (.iload_n 2, 1) := by decide +kernel
theorem dX8_both_74 : decode cX8_both 74 = .ok (.invokevirtual 234, 3) := by decide +kernel
theorem dX8_both_77 : decode cX8_both 77 = .ok (.iload_n 3, 1) := by decide +kernel
theorem dX8_both_78 : decode cX8_both 78 = .ok (.i2l, 1) := by decide +kernel
theorem dX8_both_79 : decode cX8_both 79 = .ok (.invokestatic 133, 3) := by decide +kernel
theorem dX8_both_82 : decode cX8_both 82 = .ok (.l2i, 1) := by decide +kernel
theorem dX8_both_83 : decode cX8_both 83 = .ok (.istore 4, 2) := by decide +kernel
theorem dX8_both_85 : decode cX8_both 85 = .ok (.iload 4, 2) := by decide +kernel
theorem dX8_both_87 : decode cX8_both 87 = .ok (.iload_n 1, 1) := by decide +kernel
theorem dX8_both_88 : decode cX8_both 88 = .ok (.if_icmp .ge 23, 3) := by decide +kernel
